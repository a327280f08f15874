/-! MATHEMATICS, 46: the reference's tick is the pure one -/
section
variable {k : Nat} {R : Nat → List Int32}
set_option maxHeartbeats 8000000 in
theorem sm_tick1 (hk : k < 6) (hR : zWf R) {sh left : Int32} {K Q : pm_H → Prop} : ∀ (n : Nat) (h : pm_H) (st : Nat → Int32), n ≤ 10 → zV (vM h) → zTm h k R → h 66 14 = nI k → h 66 30 = sh → (∀ j, n ≤ j → j < 10 → h 79 j - h 80 j = st j) → (∀ h', fM h h' → vM h' = (zL R sh left n (vM h) st).1 → (∀ j, j < 10 → h' 79 j - h' 80 j = (zL R sh left n (vM h) st).2 j) → h' 66 28 = h 66 28 → K h') → wl_X7_pass_8 left K Q (n + 1) (nI n - 1) h
  | 0, h, st, hn, hV, hT, h14, h30, hst, hK => by
    unfold wl_X7_pass_8
    rw [zb_lt, if_pos (by decide)]
    exact hK h fM_rfl rfl (fun j hj => hst j (by omega) hj) rfl
  | n + 1, h, st, hn, hV, hT, h14, h30, hst, hK => by
    have hs : n < 10 := by omega
    have eG := zGm_eq (R := R) (sh := sh) (left := left) hV hs
    obtain ⟨cn, ecn⟩ : ∃ y : Int32, y = nI n + -1 := ⟨_, rfl⟩
    have go : ∀ H, fM h H → vM H = zLe (zGo R sh left n (vM h)) n (vM h) → (∀ j, j ≠ n → H 79 j = h 79 j ∧ H 80 j = h 80 j) → H 79 n - H 80 n = vM h 2 n - zGo R sh left n (vM h) → H 66 28 = h 66 28 → wl_X7_pass_8 left K Q (n + 1) cn H := by
      intro H f1 f2 f3 f4 f5
      rw [ecn, ← Int32.sub_eq_add_neg]
      refine sm_tick1 hk hR (sh := sh) n H (upd st n (vM h 2 n - zGo R sh left n (vM h))) (by omega) (by rw [f2]; exact zV_Le hV hs) (fM_tm f1 hT) (by rw [f1.2 14 (by omega) (by omega) (by omega) (by omega) (by omega)]; exact h14) (by rw [f1.2 30 (by omega) (by omega) (by omega) (by omega) (by omega)]; exact h30) ?_ ?_
      · intro j h1 h2
        unfold upd
        by_cases e : j = n
        · subst e; rw [if_pos rfl]; exact f4
        · rw [if_neg e, (f3 j e).1, (f3 j e).2]; exact hst j (by omega) h2
      · intro h2 g1 g2 g3 g4
        rw [f2] at g2 g3
        exact hK h2 (fM_trans f1 g1) g2 g3 (g4.trans f5)
    have e2 : vM h 2 n = h 69 n := vM_2 hs
    have hB : fM h (pm_u (pm_u h 79 n (h 69 n)) 80 n 0) := fM_trans (fM_u (by omega)) (fM_u (by omega))
    have vB : vM (pm_u (pm_u h 79 n (h 69 n)) 80 n 0) = vM h := by rw [vM_uo (by omega), vM_uo (by omega)]
    have skip : zGm R sh left n (vM h) = 0 → wl_X7_pass_8 left K Q (n + 1) cn (pm_u (pm_u h 79 n (h 69 n)) 80 n 0) := by
      intro q
      rw [eG] at q
      refine go _ hB (by rw [vB, q, zLe_0]) (fun j hj => by simp [zb_u, hj]) ?_ (by simp [zb_u])
      rw [q, zb_un (o := 80) (o' := 79) (by omega), zb_us, zb_us, e2]
    unfold wl_X7_pass_8
    simp only [pm_op_eq, nI_pred, nI_1, zb_lt, zb_eq, zb_in (j := n) (n := 10) hs (by omega), zb_ibt, nI_clamp (n := n) (by omega), h30, ← ecn]
    rw [if_neg (nI_pos (by omega))]
    by_cases c0 : h 69 n = 0
    · rw [if_pos c0]
      exact skip (by unfold zGm; rw [e2, if_pos c0])
    rw [if_neg c0]
    by_cases c1 : nI n = sh
    · rw [if_pos c1]
      exact skip (by unfold zGm; rw [e2, if_neg c0, if_pos c1])
    rw [if_neg c1]
    refine sm_passes hs (by rw [vB]; exact (hV.2.2.1 n hs).2.1) ?_
    rw [vB]
    refine sm_worth (which := 0) hk hR (by omega) hs (fM_tm hB hT) (by rw [hB.2 14 (by omega) (by omega) (by omega) (by omega) (by omega)]; exact h14) (fun h1 e => ?_)
    rw [vB]
    have v1 : vM h1 = vM h := by rw [vM_scr e, vB]
    have f1 : fM h h1 := fM_trans hB (fM_scr e)
    have d79 : h1 79 = upd (h 79) n (h 69 n) := by rw [e 79 (by omega), zb_un (by omega), zb_ur]
    have d80 : h1 80 = upd (h 80) n 0 := by rw [e 80 (by omega), zb_ur, zb_un (by omega)]
    have d66 : h1 66 = h 66 := by rw [e 66 (by omega), zb_un (by omega), zb_un (by omega)]
    have d69 : h1 69 = h 69 := by rw [e 69 (by omega), zb_un (by omega), zb_un (by omega)]
    have skip1 : zGm R sh left n (vM h) = 0 → wl_X7_pass_8 left K Q (n + 1) cn h1 := by
      intro q
      rw [eG] at q
      refine go _ f1 (by rw [v1, q, zLe_0]) (fun j hj => by rw [d79, d80]; simp [upd, hj]) ?_ (by rw [d66])
      rw [q, d79, d80]
      simp [upd, e2]
    have eGm : zGm R sh left n (vM h) = (let g := pm_min (vM h 2 n) (zPm (vM h 0 n) (vM h 1 n) (vM h 7 1) - zWo R 0 n left 9 (vM h))
      let g2 := if n < 9 then pm_min g (zHm (vM h 0 (n + 1)) (vM h 1 (n + 1)) - vM h 2 (n + 1)) else g
      if 0 < g2 then g2 else 0) := by
      unfold zGm
      rw [if_neg (by rw [e2]; exact c0), if_neg c1]
    dsimp only at eGm
    by_cases h9 : n < 9
    · obtain ⟨b1, b2, -⟩ := hV.2.2.1 (n + 1) (by omega)
      rw [if_pos h9, zHo_eq b1 b2] at eGm
      simp only [show (9 : Int32) = nI 9 by decide, if_pos (nI_lt h9 (show 9 < 2 ^ 31 by omega))] at eGm ⊢
      refine sm_holds_ (by rw [v1]; exact hV) (by omega) ?_
      rw [v1]
      simp only [zb_in (j := n + 1) (n := 10) (by omega) (by omega), zb_ibt, nI_clamp (n := n + 1) (by omega), d69]
      rw [← vM_2 (h := h) hs, ← vM_2 (h := h) (j := n + 1) (by omega)] at *
      generalize pm_min (pm_min (vM h 2 n) (zPm (vM h 0 n) (vM h 1 n) (vM h 7 1) - zWo R 0 n left (nI 9) (vM h))) (zHo (vM h 0 (n + 1)) (vM h 1 (n + 1)) - vM h 2 (n + 1)) = g at eGm ⊢
      by_cases cg : 0 < g
      · rw [if_pos cg] at eGm ⊢
        refine go _ (fM_trans f1 (fM_trans (fM_u (by omega)) (fM_trans (fM_u (by omega)) (fM_u (by omega))))) ?_ (fun j hj => ?_) ?_ ?_
        · rw [vM_u2 (by omega), vM_u2 (by omega), vM_uo (by omega), v1, ← eG, eGm]
          unfold zLe
          rw [if_pos h9]
          congr 1
          rw [zb_uj (by omega), zb_un (by omega), d69, vM_2 (j := n + 1) (by omega)]
        · rw [zb_un (by omega), zb_un (by omega), zb_un (by omega), zb_un (by omega), zb_un (by omega), zb_uj hj, d79, d80]
          simp [upd, hj]
        · rw [zb_un (by omega), zb_un (by omega), zb_un (by omega), zb_un (by omega), zb_un (by omega), zb_us, d79, ← eG, eGm]
          simp [upd, vM_2 (h := h) hs]
        · simp [zb_u, d66]
      · rw [if_neg cg] at eGm ⊢
        exact skip1 eGm
    · rw [if_neg h9] at eGm
      simp only [show (9 : Int32) = nI 9 by decide, if_neg (nI_nlt (a := n) (b := 9) (by omega) (by omega))] at eGm ⊢
      rw [← vM_2 (h := h) hs] at *
      generalize pm_min (vM h 2 n) (zPm (vM h 0 n) (vM h 1 n) (vM h 7 1) - zWo R 0 n left (nI 9) (vM h)) = g at eGm ⊢
      by_cases cg : 0 < g
      · rw [if_pos cg] at eGm ⊢
        refine go _ (fM_trans f1 (fM_trans (fM_u (by omega)) (fM_trans (fM_u (by omega)) (fM_u (by omega))))) ?_ (fun j hj => ?_) ?_ ?_
        · rw [vM_u72, vM_u2 (by omega), vM_uo (by omega), v1, ← eG, eGm]
          unfold zLe
          rw [if_neg h9, vM_72, d69, d66, vM_2 hs]
        · rw [zb_un (by omega), zb_un (by omega), zb_un (by omega), zb_un (by omega), zb_un (by omega), zb_uj hj, d79, d80]
          simp [upd, hj]
        · rw [zb_un (by omega), zb_un (by omega), zb_un (by omega), zb_un (by omega), zb_un (by omega), zb_us, d79, ← eG, eGm]
          simp [upd, vM_2 (h := h) hs]
        · simp [zb_u, d66]
      · rw [if_neg cg] at eGm ⊢
        exact skip1 eGm
end
