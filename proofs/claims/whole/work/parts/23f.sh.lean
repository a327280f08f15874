/-! the JDK's String.checkIndex within its bounds -/
theorem jd_chk {l : Launch} {A : Nat → Prop} {sz : Nat} {x n : Int32} (h0 : ¬ x < 0) (h1 : x < n) : Met l yJ0_checkIndex_df160 (Cond.code yJ0_checkIndex_df160 cJ0_checkIndex_df160 2 none :: pm_w) { frames := 2, cells := 0, slots := 0, locals := 80 } (va_Pc [.int x, .int n] (fun U => U.heap.size = sz ∧ va_Zq "jdk/internal/util/Preconditions" "SIOOBE_FORMATTER" "Ljava/util/function/BiFunction;" A U U.heap)) (fun _ st oc t => oc = .returned none ∧ t.heap = st.heap) 0 0 A := by
  refine Met.ofW (cc := cJ0_checkIndex_df160) (maxL := 2) (ret := none) (by decide) rfl ?_
  intro p e s m args below meth c s₁ B hml hv
  obtain ⟨rfl, hsz, hZ⟩ := hv
  have hts := atoms_spec (ws := Cond.code yJ0_checkIndex_df160 cJ0_checkIndex_df160 2 none :: pm_w) B.pre
  have hown : s.vm.findClass "java/lang/String" = some m.cls := findClass_of_methodNamed B.named
  have hlocks : meth.locks = false := B.notSynchronized
  have hw : ∀ w ∈ pm_w, w.before _ s = true := fun w h => hts w (List.mem_cons_of_mem _ h)
  rw [lg_entry_eq]
  have hl : lv_has _ 2 (lv_args 0 [.int x, .int n]) := lv_entry [.int x, .int n] (n := 2) (Nat.le_refl 2)
  have e0 := hl.2.2 (0, .int x) (by simp [lv_args])
  have e1 := hl.2.2 (1, .int n) (List.mem_cons_of_mem _ List.mem_cons_self)
  refine lv_iload_n B.exec B.bytes (k := 0) (i := 0) (x := x) (by decide +kernel) rfl e0 ?_
  refine lv_iload_n B.exec B.bytes (k := 1) (i := 1) (x := n) (by decide +kernel) rfl e1 ?_
  obtain ⟨f, hf, hZ⟩ : ∃ f : Value, (f = .null ∨ ∃ t : Nat, f = .ref t) ∧ va_Z "jdk/internal/util/Preconditions" "SIOOBE_FORMATTER" "Ljava/util/function/BiFunction;" f A s s.heap := by
    rcases hZ with h | ⟨t, h⟩
    · exact ⟨_, Or.inl rfl, h⟩
    · exact ⟨_, Or.inr ⟨t, rfl⟩, h⟩
  refine va_gets (ref := "jdk/internal/util/Preconditions") B.exec B.bytes hZ va_S.rf hown (hw _ jd_f3) (fun _ x => x) (by decide +kernel) ?_
  have hcw := va_cwS (R := { frames := 2, cells := 0, slots := 0, locals := 80 }) (own := "java/lang/String") (index := 1059) (y := yJ3_checkIndex_8e157) (bytes := cJ3_checkIndex_8e157) (maxL := 3) (ret := some .int) (rm := { frames := 1, cells := 0, slots := 0, locals := 40 }) (mc := 0) (ms := 0) (ws := Cond.code yJ3_checkIndex_8e157 cJ3_checkIndex_8e157 3 (some .int) :: pm_w) 3 hw (pm_good (ws := va_wsS "java/lang/String" 1059 yJ3_checkIndex_8e157 (Cond.code yJ3_checkIndex_8e157 cJ3_checkIndex_8e157 3 (some .int) :: pm_w)) (fun w hw => by
    rcases List.mem_append.mp hw with hw | hw
    · simp only [List.mem_cons, List.not_mem_nil, or_false] at hw
      rcases hw with rfl | rfl | rfl
      · exact jd_m4
      · exact jd_s4
      · exact jd_n2
    · rcases List.mem_cons.mp hw with rfl | hw
      · exact jd_c7
      · exact hw)) rfl rfl rfl ⟨by decide, by decide, by decide +kernel⟩ ⟨by decide, by decide⟩
  have hrun := va_runS (l := l) (e := e) (below := below) (meth := meth) (locs := []) (cells := 0) (slots := 0) (As := [.int x, .int n, f]) (rest := []) (H := s.heap) (g := F0 m 5 _ [f, .int n, .int x]) ⟨B.exec, B.bytes, hml, hown, hw⟩ (jd_pre (A := A) (sz := sz) (l := l) h0 h1 hf) hcw ⟨fun a U g mk q => q, fun U hU hW => ⟨rfl, by show U.heap.size = sz; rw [hU]; exact hsz⟩⟩ rfl rfl hl.1 rfl (lv_room (by decide)) (show decode cJ0_checkIndex_df160 5 = .ok (.invokestatic 1059, 3) from by decide +kernel) ⟨Nat.zero_le _, Nat.zero_le _⟩
  refine jd_cont (v := some (.int x)) hrun (va_S.rf) (fun _ h => h) (fun locs1 hS1 => ?_)
  refine lv_pop B.exec B.bytes (va := .int x) (by decide +kernel) rfl ?_
  exact W.vret B.exec B.bytes B.returns (fun t ht _ => ⟨rfl, ht⟩) hS1.2.2 (by decide +kernel) hlocks
