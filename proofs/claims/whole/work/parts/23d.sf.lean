/-! the JDK's Preconditions.checkIndex within its bounds -/
theorem jd_pre {l : Launch} {A : Nat → Prop} {sz : Nat} {x n : Int32} {f : Value} (h0 : ¬ x < 0) (h1 : x < n) (hf : f = .null ∨ ∃ t : Nat, f = .ref t) : Met l yJ3_checkIndex_8e157 (Cond.code yJ3_checkIndex_8e157 cJ3_checkIndex_8e157 3 (some .int) :: pm_w) { frames := 1, cells := 0, slots := 0, locals := 40 } (va_Pc [.int x, .int n, f] (fun U => U.heap.size = sz)) (fun _ st oc t => oc = .returned (some (.int x)) ∧ t.heap = st.heap) 0 0 A := by
  refine Met.ofW (cc := cJ3_checkIndex_8e157) (maxL := 3) (ret := some .int) (by decide) rfl ?_
  intro p e s m args below meth c s₁ B hml hv
  obtain ⟨rfl, hsz⟩ := hv
  have hlocks : meth.locks = false := B.notSynchronized
  rw [lg_entry_eq]
  have hl : lv_has _ 3 (lv_args 0 [.int x, .int n, f]) := lv_entry [.int x, .int n, f] (n := 3) (by rcases hf with rfl | ⟨t, rfl⟩ <;> exact Nat.le_refl 3)
  have e0 := hl.2.2 (0, .int x) (by simp [lv_args])
  have e1 := hl.2.2 (1, .int n) (List.mem_cons_of_mem _ List.mem_cons_self)
  refine lv_iload_n B.exec B.bytes (k := 0) (i := 0) (x := x) (by decide +kernel) rfl e0 ?_
  refine lv_if_lt B.exec B.bytes (off := 8) (tgt := 9) (by decide +kernel) (by decide) (fun q => absurd q h0) (fun _ => ?_)
  refine lv_iload_n B.exec B.bytes (k := 0) (i := 0) (x := x) (by decide +kernel) rfl e0 ?_
  refine lv_iload_n B.exec B.bytes (k := 1) (i := 1) (x := n) (by decide +kernel) rfl e1 ?_
  refine lv_icmp_lt B.exec B.bytes (off := 10) (tgt := 16) (by decide +kernel) (by decide) (fun _ => ?_) (fun q => absurd h1 q)
  refine lv_iload_n B.exec B.bytes (k := 0) (i := 0) (x := x) (by decide +kernel) rfl e0 ?_
  exact W.iret B.exec B.bytes B.returns (fun t ht _ => ⟨rfl, ht⟩) (fun _ h => absurd h (by simp)) (by decide +kernel) hlocks
