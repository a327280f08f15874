/-! the JDK's coder() of a constant -/
theorem jd_coder {l : Launch} {A : Nat → Prop} {q sz : Nat} : Met l yJ0_coder_7d493 (Cond.code yJ0_coder_7d493 cJ0_coder_7d493 1 (some .byte) :: pm_w) { frames := 1, cells := 0, slots := 0, locals := 40 } (va_Pc [.ref q] (fun U => U.heap.size = sz ∧ va_OF "java/lang/String" "coder" "B" (.int 0) q A U U.heap ∧ va_Z "java/lang/String" "COMPACT_STRINGS" "Z" (.int 1) A U U.heap)) (fun _ st oc t => oc = .returned (some (.int 0)) ∧ t.heap = st.heap) 0 0 A := by
  refine Met.ofW (cc := cJ0_coder_7d493) (maxL := 1) (ret := some .byte) (by decide) rfl ?_
  intro p e s m args below meth c s₁ B hml hv
  obtain ⟨rfl, hsz, hO, hZ⟩ := hv
  have hts := atoms_spec (ws := Cond.code yJ0_coder_7d493 cJ0_coder_7d493 1 (some .byte) :: pm_w) B.pre
  have hown : s.vm.findClass "java/lang/String" = some m.cls := findClass_of_methodNamed B.named
  have hlocks : meth.locks = false := B.notSynchronized
  have hw : ∀ w ∈ pm_w, w.before _ s = true := fun w h => hts w (List.mem_cons_of_mem _ h)
  rw [lg_entry_eq]
  refine va_gets (C := "java/lang/String") (n := "COMPACT_STRINGS") (d := "Z") (ref := "java/lang/String") B.exec B.bytes hZ va_S.rf hown (hw _ jd_f2) (fun _ x => x) (by rfl) ?_
  refine lv_if_eq B.exec B.bytes (off := 10) (tgt := 13) (by decide +kernel) (by decide) ?_ ?_
  · intro h; exact absurd h (by decide)
  · intro _
    have hl := lv_entry [Value.ref q] (n := 1) (Nat.le_refl 1)
    refine lv_aload_n B.exec B.bytes (k := 0) (i := 0) (x := q) (by decide +kernel) rfl (hl.2.2 (0, .ref q) (by simp [lv_args])) ?_
    refine vk_getf B.exec B.bytes (ref := "java/lang/String") hO va_S.rf hown (hw _ jd_f1) (fun _ x => x) (by decide +kernel) ?_
    refine lv_goto B.exec B.bytes (off := 4) (tgt := 14) (by decide +kernel) (by decide) ?_
    exact W.zret B.exec B.bytes B.returns (by decide) (fun t ht _ => ⟨rfl, ht⟩) (fun _ h => absurd h (by simp)) (by decide +kernel) hlocks
