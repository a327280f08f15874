/-! a constant text, as the JDK's methods meet it -/
def jd_St (q N : Nat) (f : Nat → Value) (A : Nat → Prop) (U : State) (H : Heap) : Prop :=
  va_O "java/lang/String" q A U H ∧ va_OF "java/lang/String" "coder" "B" (.int 0) q A U H ∧ (∃ v : Nat, va_OF "java/lang/String" "value" "[B" (.ref v) q A U H ∧ va_T .byte v N f A U H) ∧
  va_Z "java/lang/String" "COMPACT_STRINGS" "Z" (.int 1) A U H ∧ va_Zq "jdk/internal/util/Preconditions" "SIOOBE_FORMATTER" "Ljava/util/function/BiFunction;" A U H
theorem jd_St.moved {q N : Nat} {f : Nat → Value} {A : Nat → Prop} {u U : State} {H : Heap} (hvm : u.vm.Alike U.vm) (h : jd_St q N f A u H) : jd_St q N f A U H := by
  obtain ⟨h1, h2, ⟨v, h3, h4⟩, h5, h6⟩ := h
  exact ⟨h1.moved hvm, h2.moved hvm, ⟨v, h3.moved hvm, h4.moved hvm⟩, h5.moved hvm, h6.moved hvm⟩
theorem jd_St.kept {q N : Nat} {f : Nat → Value} {A : Nat → Prop} {U : State} {H H1 : Heap} (h : jd_St q N f A U H) (hq : ∀ a : Nat, a < H.size → ¬ A a → H1[a]? = H[a]?) : jd_St q N f A U H1 := by
  obtain ⟨h1, h2, ⟨v, h3, h4⟩, h5, h6⟩ := h
  exact ⟨h1.kept hq, h2.kept hq, ⟨v, h3.kept hq, h4.kept hq⟩, h5.kept hq, h6.kept hq⟩
theorem jd_St.narrow {q N : Nat} {f : Nat → Value} {A B : Nat → Prop} {U : State} {H : Heap} (h : jd_St q N f A U H) (hAB : ∀ q, B q → A q) : jd_St q N f B U H := by
  obtain ⟨h1, h2, ⟨v, h3, h4⟩, h5, h6⟩ := h
  exact ⟨h1.narrow hAB, h2.narrow hAB, ⟨v, h3.narrow hAB, h4.narrow hAB⟩, h5.narrow hAB, h6.narrow hAB⟩
/-! the JDK's length() of a constant -/
theorem jd_len {l : Launch} {A : Nat → Prop} {q sz N : Nat} {f : Nat → Value} : Met l yJ0_length_8abf5 (Cond.code yJ0_length_8abf5 cJ0_length_8abf5 1 (some .int) :: pm_w) { frames := 2, cells := 0, slots := 0, locals := 80 } (va_Pc [.ref q] (fun U => U.heap.size = sz ∧ jd_St q N f A U U.heap)) (fun _ st oc t => oc = .returned (some (.int (Int32.ofNat N))) ∧ t.heap = st.heap) 0 0 A := by
  refine Met.ofW (cc := cJ0_length_8abf5) (maxL := 1) (ret := some .int) (by decide) rfl ?_
  intro p e s m args below meth c s₁ B hml hv
  obtain ⟨rfl, hsz, hS⟩ := hv
  obtain ⟨hO, hC, ⟨v, hV, hT⟩, hZ, hP⟩ := id hS
  have hts := atoms_spec (ws := Cond.code yJ0_length_8abf5 cJ0_length_8abf5 1 (some .int) :: pm_w) B.pre
  have hown : s.vm.findClass "java/lang/String" = some m.cls := findClass_of_methodNamed B.named
  have hlocks : meth.locks = false := B.notSynchronized
  have hw : ∀ w ∈ pm_w, w.before _ s = true := fun w h => hts w (List.mem_cons_of_mem _ h)
  rw [lg_entry_eq]
  have hl : lv_has _ 1 (lv_args 0 [.ref q]) := lv_entry [.ref q] (n := 1) (Nat.le_refl 1)
  have e0 := hl.2.2 (0, .ref q) (by simp [lv_args])
  refine lv_aload_n B.exec B.bytes (k := 0) (i := 0) (x := q) (by decide +kernel) rfl e0 ?_
  refine vk_getf B.exec B.bytes (ref := "java/lang/String") hV va_S.rf hown (hw _ jd_f0) (fun _ x => x) (by decide +kernel) ?_
  refine va_tlen B.exec B.bytes hT va_S.rf (v := Int32.ofNat N) rfl (by decide +kernel) ?_
  refine lv_aload_n B.exec B.bytes (k := 0) (i := 0) (x := q) (by decide +kernel) rfl e0 ?_
  obtain ⟨cell, o1, o2, o3, -⟩ := hO
  have hcw := cwV (R := { frames := 2, cells := 0, slots := 0, locals := 80 }) (own := "java/lang/String") (index := 335) (C := yJ0_coder_7d493.cls) (y := yJ0_coder_7d493) (bytes := cJ0_coder_7d493) (maxL := 1) (ret := some .byte) (rm := { frames := 1, cells := 0, slots := 0, locals := 40 }) (mc := 0) (ms := 0) 0 hw (pm_good (ws := wsV "java/lang/String" 335 yJ0_coder_7d493.cls yJ0_coder_7d493 (Cond.code yJ0_coder_7d493 cJ0_coder_7d493 1 (some .byte) :: pm_w)) (fun w hw => by
    rcases List.mem_append.mp hw with hw | hw
    · simp only [List.mem_cons, List.not_mem_nil, or_false] at hw
      rcases hw with rfl | rfl | rfl | rfl
      · exact jd_m0
      · exact jd_i0
      · exact jd_e1
      · exact jd_n3
    · rcases List.mem_cons.mp hw with rfl | hw
      · exact jd_c0
      · exact hw)) rfl rfl rfl ⟨rfl, by decide, by decide, by decide +kernel⟩ ⟨by decide, by decide⟩
  have hrun := va_runV (l := l) (e := e) (below := below) (meth := meth) (locs := []) (cells := 0) (slots := 0) (As := []) (rest := [.int (Int32.ofNat N)]) (b := q) (H := s.heap) (g := F0 m 6 _ [.ref q, .int (Int32.ofNat N)]) ⟨B.exec, B.bytes, hml, hown, hw⟩ (jd_coder (A := A) (sz := sz) (q := q) (l := l)) hcw ⟨fun a U g mk z => z, ⟨cell, o1, o2, o3⟩, fun U hU hW => ⟨rfl, by show U.heap.size = sz; rw [hU]; exact hsz, by rw [hU]; exact hC.moved hW.alike, by rw [hU]; exact hZ.moved hW.alike⟩⟩ rfl rfl hl.1 rfl (lv_room (Nat.le_of_ble_eq_true rfl)) (show decode cJ0_length_8abf5 6 = .ok (.invokevirtual 335, 3) from by decide +kernel) ⟨Nat.zero_le _, Nat.zero_le _⟩
  refine jd_cont (v := some (.int 0)) hrun (va_S.rf) (fun _ h => h) (fun locs1 hS1 => ?_)
  refine lv_ishr B.exec B.bytes (by decide +kernel) ?_
  rw [show (Int32.ofNat N >>> ((0 : Int32) &&& 31)) = Int32.ofNat N by simp]
  exact W.iret B.exec B.bytes B.returns (fun t ht _ => ⟨rfl, ht⟩) hS1.2.2 (by decide +kernel) hlocks
