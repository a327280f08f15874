/-! the JDK's charAt of a constant -/
theorem jd_char {l : Launch} {A : Nat → Prop} {q sz N : Nat} {f : Nat → Value} {j x c0 : Int32} (hin : vp_in j N) (h0 : ¬ j < 0) (h1 : j < Int32.ofNat N) (hx : f j.toNatClampNeg = .int x) (hc0 : ((x &&& 255).toUInt32 % 65536).toInt32 = c0) (hn : narrow .char (.int c0) = .int c0) : Met l yJ0_charAt_5068e (Cond.code yJ0_charAt_5068e cJ0_charAt_5068e 2 (some .char) :: pm_w) { frames := 4, cells := 0, slots := 0, locals := 160 } (va_Pc [.ref q, .int j] (fun U => U.heap.size = sz ∧ jd_St q N f A U U.heap)) (fun _ st oc t => oc = .returned (some (.int c0)) ∧ t.heap = st.heap) 0 0 A := by
  refine Met.ofW (cc := cJ0_charAt_5068e) (maxL := 2) (ret := some .char) (by decide) rfl ?_
  intro p e s m args below meth c s₁ B hml hv
  obtain ⟨rfl, hsz, hS⟩ := hv
  obtain ⟨hO, hC, ⟨v, hV, hT⟩, hZ, hP⟩ := id hS
  have hts := atoms_spec (ws := Cond.code yJ0_charAt_5068e cJ0_charAt_5068e 2 (some .char) :: pm_w) B.pre
  have hown : s.vm.findClass "java/lang/String" = some m.cls := findClass_of_methodNamed B.named
  have hlocks : meth.locks = false := B.notSynchronized
  have hw : ∀ w ∈ pm_w, w.before _ s = true := fun w h => hts w (List.mem_cons_of_mem _ h)
  rw [lg_entry_eq]
  have hl : lv_has _ 2 (lv_args 0 [.ref q, .int j]) := lv_entry [.ref q, .int j] (n := 2) (Nat.le_refl 2)
  have e0 := hl.2.2 (0, .ref q) (by simp [lv_args])
  have e1 := hl.2.2 (1, .int j) (List.mem_cons_of_mem _ List.mem_cons_self)
  refine lv_aload_n B.exec B.bytes (k := 0) (i := 0) (x := q) (by decide +kernel) rfl e0 ?_
  obtain ⟨cell, o1, o2, o3, -⟩ := hO
  have hcw := cwV (R := { frames := 4, cells := 0, slots := 0, locals := 160 }) (own := "java/lang/String") (index := 492) (C := yJ0_isLatin1_aae02.cls) (y := yJ0_isLatin1_aae02) (bytes := cJ0_isLatin1_aae02) (maxL := 1) (ret := some .boolean) (rm := { frames := 1, cells := 0, slots := 0, locals := 40 }) (mc := 0) (ms := 0) 0 hw (pm_good (ws := wsV "java/lang/String" 492 yJ0_isLatin1_aae02.cls yJ0_isLatin1_aae02 (Cond.code yJ0_isLatin1_aae02 cJ0_isLatin1_aae02 1 (some .boolean) :: pm_w)) (fun w hw => by
    rcases List.mem_append.mp hw with hw | hw
    · simp only [List.mem_cons, List.not_mem_nil, or_false] at hw
      rcases hw with rfl | rfl | rfl | rfl
      · exact jd_m1
      · exact jd_i3
      · exact jd_e4
      · exact jd_n3
    · rcases List.mem_cons.mp hw with rfl | hw
      · exact jd_c3
      · exact hw)) rfl rfl rfl ⟨rfl, by decide, by decide, by decide +kernel⟩ ⟨by decide, by decide⟩
  have hrun := va_runV (l := l) (e := e) (below := below) (meth := meth) (locs := []) (cells := 0) (slots := 0) (As := []) (rest := []) (b := q) (H := s.heap) (g := F0 m 1 _ [.ref q]) ⟨B.exec, B.bytes, hml, hown, hw⟩ (jd_latin (A := A) (sz := sz) (q := q) (l := l)) hcw ⟨fun a U g mk z => z, ⟨cell, o1, o2, o3⟩, fun U hU hW => ⟨rfl, by show U.heap.size = sz; rw [hU]; exact hsz, by rw [hU]; exact hC.moved hW.alike, by rw [hU]; exact hZ.moved hW.alike⟩⟩ rfl rfl hl.1 rfl (lv_room (by decide)) (show decode cJ0_charAt_5068e 1 = .ok (.invokevirtual 492, 3) from by decide +kernel) ⟨Nat.zero_le _, Nat.zero_le _⟩
  refine jd_cont (v := some (.int 1)) hrun (va_S.rf) (fun _ h => h) (fun locs1 hS1 => ?_)
  refine lv_if_eq B.exec B.bytes (off := 12) (tgt := 16) (by decide +kernel) (by decide) (fun h => absurd h (by decide)) (fun _ => ?_)
  refine lv_aload_n B.exec B.bytes (k := 0) (i := 0) (x := q) (by decide +kernel) rfl e0 ?_
  refine vk_getf B.exec B.bytes (ref := "java/lang/String") hV hS1 hown (hw _ jd_f0) (fun _ x => x) (by decide +kernel) ?_
  refine lv_iload_n B.exec B.bytes (k := 1) (i := 1) (x := j) (by decide +kernel) rfl e1 ?_
  have hcw := va_cwS (R := { frames := 4, cells := 0, slots := 0, locals := 160 }) (own := "java/lang/String") (index := 495) (y := yJ1_charAt_3b067) (bytes := cJ1_charAt_3b067) (maxL := 2) (ret := some .char) (rm := { frames := 3, cells := 0, slots := 0, locals := 120 }) (mc := 0) (ms := 0) (ws := Cond.code yJ1_charAt_3b067 cJ1_charAt_3b067 2 (some .char) :: pm_w) 2 hw (pm_good (ws := va_wsS "java/lang/String" 495 yJ1_charAt_3b067 (Cond.code yJ1_charAt_3b067 cJ1_charAt_3b067 2 (some .char) :: pm_w)) (fun w hw => by
    rcases List.mem_append.mp hw with hw | hw
    · simp only [List.mem_cons, List.not_mem_nil, or_false] at hw
      rcases hw with rfl | rfl | rfl
      · exact jd_m2
      · exact jd_s1
      · exact jd_n1
    · rcases List.mem_cons.mp hw with rfl | hw
      · exact jd_c5
      · exact hw)) rfl rfl rfl ⟨by decide, by decide, by decide +kernel⟩ ⟨by decide, by decide⟩
  have hrun := va_runS (l := l) (e := e) (below := below) (meth := meth) (locs := locs1) (cells := 0) (slots := 0) (As := [.ref v, .int j]) (rest := []) (H := s.heap) (g := F0 m 12 _ [.int j, .ref v]) ⟨B.exec, B.bytes, hml, hown, hw⟩ (jd_l1 (A := A) (sz := sz) (l := l) (v := v) hin h0 h1 hx hc0 hn) hcw ⟨fun a U g mk z => z, fun U hU hW => ⟨rfl, by show U.heap.size = sz; rw [hU]; exact hsz, by rw [hU]; exact hT.moved hW.alike, by
    rw [hU]
    exact hP.imp (fun z => z.moved hW.alike) (fun ⟨t, z⟩ => ⟨t, z.moved hW.alike⟩)⟩⟩ rfl rfl hl.1 rfl (lv_room (by decide)) (show decode cJ0_charAt_5068e 12 = .ok (.invokestatic 495, 3) from by decide +kernel) ⟨Nat.zero_le _, Nat.zero_le _⟩
  refine jd_cont (v := some (.int c0)) hrun hS1 (fun _ h => h) (fun locs2 hS2 => ?_)
  exact W.zret B.exec B.bytes B.returns hn (fun t ht _ => ⟨rfl, ht⟩) hS2.2.2 (by decide +kernel) hlocks
