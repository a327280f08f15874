/-! the JDK's StringLatin1.charAt within its bounds -/
theorem jd_l1 {l : Launch} {A : Nat → Prop} {sz v N : Nat} {f : Nat → Value} {j x c0 : Int32} (hin : vp_in j N) (h0 : ¬ j < 0) (h1 : j < Int32.ofNat N) (hx : f j.toNatClampNeg = .int x) (hc0 : ((x &&& 255).toUInt32 % 65536).toInt32 = c0) (hn : narrow .char (.int c0) = .int c0) : Met l yJ1_charAt_3b067 (Cond.code yJ1_charAt_3b067 cJ1_charAt_3b067 2 (some .char) :: pm_w) { frames := 3, cells := 0, slots := 0, locals := 120 } (va_Pc [.ref v, .int j] (fun U => U.heap.size = sz ∧ va_T .byte v N f A U U.heap ∧ va_Zq "jdk/internal/util/Preconditions" "SIOOBE_FORMATTER" "Ljava/util/function/BiFunction;" A U U.heap)) (fun _ st oc t => oc = .returned (some (.int c0)) ∧ t.heap = st.heap) 0 0 A := by
  refine Met.ofW (cc := cJ1_charAt_3b067) (maxL := 2) (ret := some .char) (by decide) rfl ?_
  intro p e s m args below meth c s₁ B hml hv
  obtain ⟨rfl, hsz, hT, hZ⟩ := hv
  have hts := atoms_spec (ws := Cond.code yJ1_charAt_3b067 cJ1_charAt_3b067 2 (some .char) :: pm_w) B.pre
  have hown : s.vm.findClass "java/lang/StringLatin1" = some m.cls := findClass_of_methodNamed B.named
  have hlocks : meth.locks = false := B.notSynchronized
  have hw : ∀ w ∈ pm_w, w.before _ s = true := fun w h => hts w (List.mem_cons_of_mem _ h)
  rw [lg_entry_eq]
  have hl : lv_has _ 2 (lv_args 0 [.ref v, .int j]) := lv_entry [.ref v, .int j] (n := 2) (Nat.le_refl 2)
  have e0 := hl.2.2 (0, .ref v) (by simp [lv_args])
  have e1 := hl.2.2 (1, .int j) (List.mem_cons_of_mem _ List.mem_cons_self)
  refine lv_iload_n B.exec B.bytes (k := 1) (i := 1) (x := j) (by decide +kernel) rfl e1 ?_
  refine lv_aload_n B.exec B.bytes (k := 0) (i := 0) (x := v) (by decide +kernel) rfl e0 ?_
  refine va_tlen B.exec B.bytes hT va_S.rf (v := Int32.ofNat N) rfl (by decide +kernel) ?_
  have hcw := va_cwS (R := { frames := 3, cells := 0, slots := 0, locals := 120 }) (own := "java/lang/StringLatin1") (index := 9) (y := yJ0_checkIndex_df160) (bytes := cJ0_checkIndex_df160) (maxL := 2) (ret := none) (rm := { frames := 2, cells := 0, slots := 0, locals := 80 }) (mc := 0) (ms := 0) (ws := Cond.code yJ0_checkIndex_df160 cJ0_checkIndex_df160 2 none :: pm_w) 2 hw (pm_good (ws := va_wsS "java/lang/StringLatin1" 9 yJ0_checkIndex_df160 (Cond.code yJ0_checkIndex_df160 cJ0_checkIndex_df160 2 none :: pm_w)) (fun w hw => by
    rcases List.mem_append.mp hw with hw | hw
    · simp only [List.mem_cons, List.not_mem_nil, or_false] at hw
      rcases hw with rfl | rfl | rfl
      · exact jd_m3
      · exact jd_s3
      · exact jd_n3
    · rcases List.mem_cons.mp hw with rfl | hw
      · exact jd_c6
      · exact hw)) rfl rfl rfl ⟨by decide, by decide, by decide +kernel⟩ ⟨by decide, by decide⟩
  have hrun := va_runS (l := l) (e := e) (below := below) (meth := meth) (locs := []) (cells := 0) (slots := 0) (As := [.int j, .int (Int32.ofNat N)]) (rest := []) (H := s.heap) (g := F0 m 3 _ [.int (Int32.ofNat N), .int j]) ⟨B.exec, B.bytes, hml, hown, hw⟩ (jd_chk (A := A) (sz := sz) (l := l) h0 h1) hcw ⟨fun a U g mk q => q, fun U hU hW => ⟨rfl, by show U.heap.size = sz; rw [hU]; exact hsz, by
    rw [hU]
    exact hZ.imp (fun z => z.moved hW.alike) (fun ⟨t, z⟩ => ⟨t, z.moved hW.alike⟩)⟩⟩ rfl rfl hl.1 rfl (lv_room (by decide)) (show decode cJ1_charAt_3b067 3 = .ok (.invokestatic 9, 3) from by decide +kernel) ⟨Nat.zero_le _, Nat.zero_le _⟩
  refine jd_cont (v := none) hrun (va_S.rf) (fun _ h => h) (fun locs1 hS1 => ?_)
  refine lv_aload_n B.exec B.bytes (k := 0) (i := 0) (x := v) (by decide +kernel) rfl e0 ?_
  refine lv_iload_n B.exec B.bytes (k := 1) (i := 1) (x := j) (by decide +kernel) rfl e1 ?_
  refine va_tb B.exec B.bytes hT hS1 hin hx (by decide +kernel) ?_
  refine lv_sipush B.exec B.bytes (n := 255) (v := 255) (by decide +kernel) (by decide) ?_
  refine lv_iand B.exec B.bytes (by decide +kernel) ?_
  refine lv_i2c B.exec B.bytes (by decide +kernel) hc0 ?_
  exact W.zret B.exec B.bytes B.returns hn (fun t ht _ => ⟨rfl, ht⟩) hS1.2.2 (by decide +kernel) hlocks
