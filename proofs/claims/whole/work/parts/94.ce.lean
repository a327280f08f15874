/-! THE END OF THE CLASS'S CONSTRUCTOR: the first text is put on the tape and read -/
def mt_X6_init : pm_M := (6, 2, 0, [(132, .iconst 0), (133, .istore_n 1), (134, .iload_n 1), (135, .ldc 54), (137, .invokevirtual 56), (140, .if_icmp .ge 23), (143, .aload_n 0), (144, .getfield 29), (147, .ldc 54), (149, .iload_n 1), (150, .invokevirtual 62), (153, .invokevirtual 66), (156, .pop), (157, .iinc 1 1), (160, .goto (-26)), (163, .aload_n 0), (164, .getfield 29), (167, .aload_n 0), (168, .getfield 35), (171, .iconst 0), (172, .aaload), (173, .invokevirtual 70), (176, .pop), (177, .aload_n 0), (178, .iconst 1), (179, .putfield 74), (182, .return_)])
theorem ci_X6 : pm_I mt_X6_init yX6_init cX6_init none := ⟨by decide +kernel, by decide +kernel, by decide +kernel, by decide +kernel, rfl, by decide +kernel⟩
def cJ (i : Nat) (h0 h : pm_H) : Prop := h 34 0 = nI i ∧ (∀ j, j < i → h 35 j = cT0 j) ∧ ∀ o, o ≠ 34 → o ≠ 35 → h o = h0 o
theorem ct_put {i : Nat} {h0 h : pm_H} {Q : Int32 → pm_H → Prop} (hi : i < 36) (J : cJ i h0 h) (hQ : ∀ r h', cJ (i + 1) h0 h' → Q r h') : wp_X0_put (cT0 i) h Q := by
  obtain ⟨J1, J2, J3⟩ := J
  unfold wp_X0_put
  rw [zb_lt, J1, show (160 : Int32) = nI 160 by decide, if_pos (nI_lt (by omega) (by omega)), zb_ib (zb_in (by omega) (by omega)), pm_op_eq, nI_clamp (by omega)]
  refine hQ _ _ ⟨by rw [zb_us]; exact nI_1 i, fun j hj => ?_, fun o h1 h2 => by rw [zb_un h1, zb_un h2]; exact J3 o h1 h2⟩
  rw [zb_un (by omega)]
  by_cases e : j = i
  · subst e; exact zb_us
  · rw [zb_uj e]; exact J2 j (by omega)
theorem ct_loop {d : Nat} {h0 : pm_H} {Q : Option Value → pm_H → Prop} (hQ : ∀ h, cJ 36 h0 h → pm_R (d + 1) mt_X6_init 163 [some (.ref 0), some (.int (nI 36))] [] h Q) :
    ∀ (k i : Nat), i + k = 36 → ∀ h, cJ i h0 h → pm_R (d + 1) mt_X6_init 134 [some (.ref 0), some (.int (nI i))] [] h Q
  | 0, i, hi, h, J => by
    have hi : i = 36 := hi
    subst hi
    refine pm_steps 3 ?_
    show pm_R (d + 1) mt_X6_init 140 _ [.int (nI 36), .int (nI 36)] h Q
    refine pm_steps 1 ?_
    refine pm_ltF (x := nI 36) (y := nI 36) (Int32.lt_irrefl _) ?_
    exact hQ h J
  | k + 1, i, hi, h, J => by
    refine pm_steps 3 ?_
    show pm_R (d + 1) mt_X6_init 140 _ [.int (nI 36), .int (nI i)] h Q
    refine pm_steps 1 ?_
    refine pm_ltT (x := nI i) (y := nI 36) (nI_lt (by omega) (by omega)) ?_
    refine pm_steps 5 ?_
    show pm_ib (pm_in (nI i) 36) _
    rw [zb_ib (zb_in (by omega) (by omega)), nI_clamp (by omega)]
    refine pm_steps 1 ?_
    refine @wp_X0_put_ok _ _ _ _ (ct_put (by omega) J (fun r h' J' => ?_))
    refine pm_steps 3 ?_
    show pm_R (d + 1) mt_X6_init 134 [some (.ref 0), some (.int (pm_op (nI i + Int32.ofInt 1)))] [] h' Q
    rw [pm_op_eq, show Int32.ofInt 1 = 1 by decide, nI_1]
    exact ct_loop hQ k (i + 1) (by omega) h' J'
/-- what the class holds when it is made -/
def cK6 (R : Nat → List Int32) (h0 h : pm_H) : Prop := (∀ o, o ≠ 0 → o ≠ 34 → o ≠ 35 → o ≠ 40 → o ≠ 41 → o ≠ 42 → h o = h0 o) ∧ (∀ j, j ≠ 6 → h 0 j = h0 0 j) ∧ h 0 6 = 1 ∧ h 34 0 = 0 ∧ zTx h 0 R
theorem ct_tail {d : Nat} {h0 : pm_H} {Q : Option Value → pm_H → Prop} (h34 : h0 34 0 = 0) (hd : 46 ≤ d) (hQ : ∀ (R : Nat → List Int32) (h : pm_H), zWf R → R 0 = R 0 → cK6 R h0 h → Q none h) : pm_R (d + 1) mt_X6_init 132 [some (.ref 0), none] [] h0 Q := by
  refine pm_steps 2 ?_
  refine ct_loop (h0 := h0) (fun h J => ?_) 36 0 rfl h0 ⟨h34, fun j hj => absurd hj (Nat.not_lt_zero j), fun _ _ _ => rfl⟩
  obtain ⟨J1, J2, J3⟩ := J
  refine pm_steps 6 ?_
  sorry
