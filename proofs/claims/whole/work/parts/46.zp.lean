/-! MATHEMATICS, 46: the reference's tick is the pure one -/
section
variable {k : Nat} {R : Nat → List Int32}
set_option maxHeartbeats 8000000 in
theorem sm_tick1 (hk : k < 6) (hR : zWf R) {sh left : Int32} {K Q : pm_H → Prop} : ∀ (n : Nat) (h : pm_H) (st : Nat → Int32), n ≤ 10 → zV (vM h) → zTm h k R → h 66 14 = nI k → h 66 30 = sh → (∀ j, n ≤ j → j < 10 → h 79 j - h 80 j = st j) → (∀ h', fM h h' → vM h' = (zL R sh left n (vM h) st).1 → (∀ j, j < 10 → h' 79 j - h' 80 j = (zL R sh left n (vM h) st).2 j) → h' 66 28 = h 66 28 → K h') → wl_X7_pass_8 left K Q (n + 1) (nI n - 1) h
  | 0, h, st, hn, hV, hT, h14, h30, hst, hK => by
    unfold wl_X7_pass_8
    rw [zb_lt, if_pos (by decide)]
    exact hK h fM_rfl rfl (fun j hj => hst j (by omega) hj) rfl
  | n + 1, h, st, hn, hV, hT, h14, h30, hst, hK => by
    have hs : n < 10 := by omega
    have eG := zGm_eq (R := R) (sh := sh) (left := left) hV hs
    obtain ⟨cn, ecn⟩ : ∃ y : Int32, y = nI n + -1 := ⟨_, rfl⟩
    have go : ∀ H, fM h H → vM H = zLe (zGo R sh left n (vM h)) n (vM h) → (∀ j, j ≠ n → H 79 j = h 79 j ∧ H 80 j = h 80 j) → H 79 n - H 80 n = vM h 2 n - zGo R sh left n (vM h) → H 66 28 = h 66 28 → wl_X7_pass_8 left K Q (n + 1) cn H := by
      intro H f1 f2 f3 f4 f5
      rw [ecn, ← Int32.sub_eq_add_neg]
      refine sm_tick1 hk hR (sh := sh) n H (upd st n (vM h 2 n - zGo R sh left n (vM h))) (by omega) (by rw [f2]; exact zV_Le hV hs) (fM_tm f1 hT) (by rw [f1.2 14 (by omega) (by omega) (by omega) (by omega) (by omega)]; exact h14) (by rw [f1.2 30 (by omega) (by omega) (by omega) (by omega) (by omega)]; exact h30) ?_ ?_
      · intro j h1 h2
        unfold upd
        by_cases e : j = n
        · subst e; rw [if_pos rfl]; exact f4
        · rw [if_neg e, (f3 j e).1, (f3 j e).2]; exact hst j (by omega) h2
      · intro h2 g1 g2 g3 g4
        rw [f2] at g2 g3
        exact hK h2 (fM_trans f1 g1) g2 g3 (g4.trans f5)
    have e2 : vM h 2 n = h 69 n := vM_2 hs
    have hB : fM h (pm_u (pm_u h 79 n (h 69 n)) 80 n 0) := fM_trans (fM_u (by omega)) (fM_u (by omega))
    have vB : vM (pm_u (pm_u h 79 n (h 69 n)) 80 n 0) = vM h := by rw [vM_uo (by omega), vM_uo (by omega)]
    have skip : zGm R sh left n (vM h) = 0 → wl_X7_pass_8 left K Q (n + 1) cn (pm_u (pm_u h 79 n (h 69 n)) 80 n 0) := by
      intro q
      rw [eG] at q
      refine go _ hB (by rw [vB, q, zLe_0]) (fun j hj => by simp [zb_u, hj]) ?_ (by simp [zb_u])
      rw [q, zb_un (o := 80) (o' := 79) (by omega), zb_us, zb_us, e2]
    unfold wl_X7_pass_8
    simp only [pm_op_eq, nI_pred, nI_1, zb_lt, zb_eq, zb_in (j := n) (n := 10) hs (by omega), zb_ibt, nI_clamp (n := n) (by omega), h30, ← ecn]
    rw [if_neg (nI_pos (by omega))]
    by_cases c0 : h 69 n = 0
    · rw [if_pos c0]
      exact skip (by unfold zGm; rw [e2, if_pos c0])
    rw [if_neg c0]
    by_cases c1 : nI n = sh
    · rw [if_pos c1]
      exact skip (by unfold zGm; rw [e2, if_neg c0, if_pos c1])
    rw [if_neg c1]
    refine sm_passes hs (by rw [vB]; exact (hV.2.2.1 n hs).2.1) ?_
    rw [vB]
    refine sm_worth (which := 0) hk hR (by omega) hs (fM_tm hB hT) (by rw [hB.2 14 (by omega) (by omega) (by omega) (by omega) (by omega)]; exact h14) (fun h1 e => ?_)
    rw [vB]
    have v1 : vM h1 = vM h := by rw [vM_scr e, vB]
    have f1 : fM h h1 := fM_trans hB (fM_scr e)
    have d79 : h1 79 = upd (h 79) n (h 69 n) := by rw [e 79 (by omega), zb_un (by omega), zb_ur]
    have d80 : h1 80 = upd (h 80) n 0 := by rw [e 80 (by omega), zb_ur, zb_un (by omega)]
    have d66 : h1 66 = h 66 := by rw [e 66 (by omega), zb_un (by omega), zb_un (by omega)]
    have d69 : h1 69 = h 69 := by rw [e 69 (by omega), zb_un (by omega), zb_un (by omega)]
    have skip1 : zGm R sh left n (vM h) = 0 → wl_X7_pass_8 left K Q (n + 1) cn h1 := by
      intro q
      rw [eG] at q
      refine go _ f1 (by rw [v1, q, zLe_0]) (fun j hj => by rw [d79, d80]; simp [upd, hj]) ?_ (by rw [d66])
      rw [q, d79, d80]
      simp [upd, e2]
    have eGm : zGm R sh left n (vM h) = (let g := pm_min (vM h 2 n) (zPm (vM h 0 n) (vM h 1 n) (vM h 7 1) - zWo R 0 n left 9 (vM h))
      let g2 := if n < 9 then pm_min g (zHm (vM h 0 (n + 1)) (vM h 1 (n + 1)) - vM h 2 (n + 1)) else g
      if 0 < g2 then g2 else 0) := by
      unfold zGm
      rw [if_neg (by rw [e2]; exact c0), if_neg c1]
    dsimp only at eGm
    by_cases h9 : n < 9
    · obtain ⟨b1, b2, -⟩ := hV.2.2.1 (n + 1) (by omega)
      rw [if_pos h9, zHo_eq b1 b2] at eGm
      simp only [show (9 : Int32) = nI 9 by decide, if_pos (nI_lt h9 (show 9 < 2 ^ 31 by omega))] at eGm ⊢
      refine sm_holds_ (by rw [v1]; exact hV) (by omega) ?_
      rw [v1]
      simp only [zb_in (j := n + 1) (n := 10) (by omega) (by omega), zb_ibt, nI_clamp (n := n + 1) (by omega), d69]
      rw [← vM_2 (h := h) hs, ← vM_2 (h := h) (j := n + 1) (by omega)] at *
      generalize pm_min (pm_min (vM h 2 n) (zPm (vM h 0 n) (vM h 1 n) (vM h 7 1) - zWo R 0 n left (nI 9) (vM h))) (zHo (vM h 0 (n + 1)) (vM h 1 (n + 1)) - vM h 2 (n + 1)) = g at eGm ⊢
      by_cases cg : 0 < g
      · rw [if_pos cg] at eGm ⊢
        refine go _ (fM_trans f1 (fM_trans (fM_u (by omega)) (fM_trans (fM_u (by omega)) (fM_u (by omega))))) ?_ (fun j hj => ?_) ?_ ?_
        · rw [vM_u2 (by omega), vM_u2 (by omega), vM_uo (by omega), v1, ← eG, eGm]
          unfold zLe
          rw [if_pos h9]
          congr 1
          rw [zb_uj (by omega), zb_un (by omega), d69, vM_2 (j := n + 1) (by omega)]
        · rw [zb_un (by omega), zb_un (by omega), zb_un (by omega), zb_un (by omega), zb_un (by omega), zb_uj hj, d79, d80]
          simp [upd, hj]
        · rw [zb_un (by omega), zb_un (by omega), zb_un (by omega), zb_un (by omega), zb_un (by omega), zb_us, d79, ← eG, eGm]
          simp [upd, vM_2 (h := h) hs]
        · simp [zb_u, d66]
      · rw [if_neg cg] at eGm ⊢
        exact skip1 eGm
    · rw [if_neg h9] at eGm
      simp only [show (9 : Int32) = nI 9 by decide, if_neg (nI_nlt (a := n) (b := 9) (by omega) (by omega))] at eGm ⊢
      rw [← vM_2 (h := h) hs] at *
      generalize pm_min (vM h 2 n) (zPm (vM h 0 n) (vM h 1 n) (vM h 7 1) - zWo R 0 n left (nI 9) (vM h)) = g at eGm ⊢
      by_cases cg : 0 < g
      · rw [if_pos cg] at eGm ⊢
        refine go _ (fM_trans f1 (fM_trans (fM_u (by omega)) (fM_trans (fM_u (by omega)) (fM_u (by omega))))) ?_ (fun j hj => ?_) ?_ ?_
        · rw [vM_u72, vM_u2 (by omega), vM_uo (by omega), v1, ← eG, eGm]
          unfold zLe
          rw [if_neg h9, vM_72, d69, d66, vM_2 hs]
        · rw [zb_un (by omega), zb_un (by omega), zb_un (by omega), zb_un (by omega), zb_un (by omega), zb_uj hj, d79, d80]
          simp [upd, hj]
        · rw [zb_un (by omega), zb_un (by omega), zb_un (by omega), zb_un (by omega), zb_un (by omega), zb_us, d79, ← eG, eGm]
          simp [upd, vM_2 (h := h) hs]
        · simp [zb_u, d66]
      · rw [if_neg cg] at eGm ⊢
        exact skip1 eGm
end
section
variable {k : Nat} {R : Nat → List Int32}
set_option maxHeartbeats 8000000 in
theorem sm_tick2 (hk : k < 6) (hR : zWf R) {K Q : pm_H → Prop} : ∀ (m c : Nat) (h : pm_H), c + m = (h 66 3).toNatClampNeg → zV (vM h) → zTm h k R → h 66 14 = nI k → (∀ h', fM h h' → vM h' = zF R m c (vM h) → (∀ o, o = 79 ∨ o = 80 → h' o = h o) → h' 66 28 = h 66 28 → K h') → wl_X7_pass_166 K Q (m + 1) (nI c) h
  | 0, c, h, hc, hV, hT, h14, hK => by
    obtain ⟨cnt, hcn, e, e'⟩ := zM_cnt hV
    unfold wl_X7_pass_166
    rw [zb_lt, e, if_neg (nI_nlt (by omega) (by omega))]
    exact hK h fM_rfl rfl (fun _ _ => rfl) rfl
  | m + 1, c, h, hc, hV, hT, h14, hK => by
    obtain ⟨cnt, hcn, e, e'⟩ := zM_cnt hV
    have hlt : c < (h 66 3).toNatClampNeg := by omega
    obtain ⟨v3, v4, v5, v6⟩ := hV.2.2.2 c (by rw [vM_70]; exact hlt)
    rw [vM_3 hlt] at v3
    rw [vM_5 hlt] at v5
    rw [vM_6 hlt] at v6
    have hf := zB_zi (b := 9) v3
    have ef := zB_nI v3
    have eFl : zFl R c (vM h) = if h 66 9 < h 72 c then vM h else if 0 < h 74 c then (if 0 < zHo (vM h 0 (h 71 c).toNatClampNeg) (vM h 1 (h 71 c).toNatClampNeg) - vM h 2 (h 71 c).toNatClampNeg then
      (let co := pm_min (pm_min (h 74 c) (h 73 c)) (pm_min (zWo R 1 (h 71 c).toNatClampNeg (h 74 c) 9 (vM h)) (zHo (vM h 0 (h 71 c).toNatClampNeg) (vM h 1 (h 71 c).toNatClampNeg) - vM h 2 (h 71 c).toNatClampNeg))
       pm_u (pm_u (vM h) 6 c (h 74 c - co)) 2 (h 71 c).toNatClampNeg (vM h 2 (h 71 c).toNatClampNeg + co))
     else vM h) else vM h := by
      unfold zFl
      rw [vM_71, vM_4 hlt, vM_6 hlt, vM_3 hlt, vM_5 hlt]
    have go : ∀ H, fM h H → vM H = zFl R c (vM h) → (∀ o, o = 79 ∨ o = 80 → H o = h o) → H 66 28 = h 66 28 → wl_X7_pass_166 K Q (m + 1) (nI (c + 1)) H := by
      intro H f1 f2 f3 f4
      refine sm_tick2 hk hR m (c + 1) H (by rw [f1.2 3 (by omega) (by omega) (by omega) (by omega) (by omega)]; omega) (by rw [f2]; exact (zFl_ok hV (by rw [vM_70]; exact hlt)).1) (fM_tm f1 hT) (by rw [f1.2 14 (by omega) (by omega) (by omega) (by omega) (by omega)]; exact h14) (fun h2 g1 g2 g3 g4 => ?_)
      rw [f2] at g2
      exact hK h2 (fM_trans f1 g1) g2 (fun o ho => (g3 o ho).trans (f3 o ho)) (g4.trans f4)
    generalize (h 71 c).toNatClampNeg = f at hf ef eFl
    have hf10 : f < 10 := by omega
    unfold wl_X7_pass_166
    simp only [pm_op_eq, nI_1, zb_lt, zb_eq, e, zb_in (j := c) (n := 5) (by omega) (by omega), zb_ibt, nI_clamp (n := c) (by omega), ef, zb_in (j := f) (n := 10) hf10 (by omega), nI_clamp (n := f) (by omega)]
    rw [if_pos (nI_lt (by omega) (by omega))]
    by_cases c1 : h 66 9 < h 72 c
    · rw [if_pos c1] at eFl ⊢
      exact go h fM_rfl eFl.symm (fun _ _ => rfl) rfl
    rw [if_neg c1] at eFl ⊢
    by_cases c2 : h 74 c = 0
    · rw [if_pos c2]
      rw [if_neg (by rw [c2]; decide)] at eFl
      exact go h fM_rfl eFl.symm (fun _ _ => rfl) rfl
    rw [if_neg c2]
    unfold zB at v5 v6
    have c2' : 0 < h 74 c := by
      rw [zb_tlt, Int32.toInt_zero]
      rw [zb_teq, Int32.toInt_zero] at c2
      omega
    rw [if_pos c2'] at eFl
    refine sm_worth (which := 1) hk hR (by omega) hf10 hT h14 (fun h1 e1 => ?_)
    have v1 : vM h1 = vM h := vM_scr e1
    refine sm_holds_ (by rw [v1]; exact hV) hf10 ?_
    rw [v1]
    simp only [e1 74 (by omega), e1 69 (by omega)]
    obtain ⟨a1, a2, a3, a4⟩ := hV.2.2.1 f hf10
    have ah := zHo_ok a1 a2
    have hw := zWo_b (R := R) (which := 1) (s := f) (left := h 74 c) (bound := 9) (z := vM h) (by decide)
    unfold zB at ah hw
    rw [← vM_2 (h := h) hf10]
    have hr : (zHo (vM h 0 f) (vM h 1 f) - vM h 2 f).toInt = (zHo (vM h 0 f) (vM h 1 f)).toInt - (vM h 2 f).toInt := zb_tsub (by omega) (by omega)
    have fin : fM h (pm_u (pm_u h1 74 c (h 74 c - pm_min (pm_min (h 74 c) (h 73 c)) (pm_min (zWo R 1 f (h 74 c) 9 (vM h)) (zHo (vM h 0 f) (vM h 1 f) - vM h 2 f)))) 69 f (vM h 2 f + pm_min (pm_min (h 74 c) (h 73 c)) (pm_min (zWo R 1 f (h 74 c) 9 (vM h)) (zHo (vM h 0 f) (vM h 1 f) - vM h 2 f)))) := fM_trans (fM_scr e1) (fM_trans (fM_u (by omega)) (fM_u (by omega)))
    refine go _ fin ?_ (fun o ho => by rw [zb_un (by omega), zb_un (by omega), e1 o (by omega)]) (by rw [zb_un (by omega), zb_un (by omega), e1 66 (by omega)])
    rw [vM_u2 hf10, vM_u6 (by rw [e1 66 (by omega)]; exact hlt), v1, eFl]
    by_cases c3 : 0 < zHo (vM h 0 f) (vM h 1 f) - vM h 2 f
    · rw [if_pos c3]
    · rw [if_neg c3]
      rw [zb_tlt, hr, Int32.toInt_zero] at c3
      have g0 : pm_min (pm_min (h 74 c) (h 73 c)) (pm_min (zWo R 1 f (h 74 c) 9 (vM h)) (zHo (vM h 0 f) (vM h 1 f) - vM h 2 f)) = 0 := by
        refine zb_teq.mpr ?_
        rw [zb_tmin, zb_tmin, zb_tmin, hr, Int32.toInt_zero]
        omega
      rw [g0, Int32.sub_zero, Int32.add_zero, ← vM_6 hlt, zb_id, zb_id]
set_option maxHeartbeats 8000000 in
theorem sm_tick3 (hk : k < 6) (hR : zWf R) {z : pm_H} {st : Nat → Int32} (hst : ∀ j, j < 10 → zB 0 84 (st j)) {K Q : pm_H → Prop} : ∀ (m s : Nat) (h : pm_H), s + m = 10 → zTm h k R → h 66 14 = nI k → (∀ j, j < 10 → h 79 j - h 80 j = st j) → (∀ r, r < 8 → vM h r = z r) →
    (∀ h', fM h h' → vM h' = zC st m s (vM h) → h' 66 28 = zMi R st (zIn z) z m s (h 66 28) → K h') → wl_X7_pass_290 (zIn z) K Q (m + 1) (nI s) h
  | 0, s, h, hs, hT, h14, h79, hz, hK => by
    unfold wl_X7_pass_290
    rw [zb_lt, if_neg (by rw [show (10 : Int32) = nI 10 by decide]; exact nI_nlt (by omega) (by omega))]
    exact hK h fM_rfl rfl rfl
  | m + 1, s, h, hs, hT, h14, h79, hz, hK => by
    have hs10 : s < 10 := by omega
    have go : ∀ H, fM h H → vM H = zCs st s (vM h) → (∀ o, o = 79 ∨ o = 80 → H o = h o) → H 66 28 = (if 0 < st s then h 66 28 + st s * zWo R 2 s (zIn z) 99 z else h 66 28) → wl_X7_pass_290 (zIn z) K Q (m + 1) (nI (s + 1)) H := by
      intro H f1 f2 f3 f4
      refine sm_tick3 hk hR (z := z) hst m (s + 1) H (by omega) (fM_tm f1 hT) (by rw [f1.2 14 (by omega) (by omega) (by omega) (by omega) (by omega)]; exact h14) (fun j hj => by rw [f3 79 (by omega), f3 80 (by omega)]; exact h79 j hj) (fun r hr => by rw [f2, zCs_r (by omega) (by omega)]; exact hz r hr) (fun h2 g1 g2 g3 => ?_)
      rw [f2] at g2
      rw [f4] at g3
      exact hK h2 (fM_trans f1 g1) g2 g3
    have eC : zCs st s (vM h) = if 0 < st s then pm_u (pm_u (pm_u (vM h) 9 1 (pm_max (h 66 29) (h 69 s))) 9 0 (h 66 27 + st s)) 8 s (h 81 s + st s) else pm_u (vM h) 9 1 (pm_max (h 66 29) (h 69 s)) := by
      unfold zCs
      rw [vM_91, vM_2 hs10, vM_90, vM_8 hs10]
    have b := hst s hs10
    unfold zB at b
    unfold wl_X7_pass_290
    simp only [zb_lt, zb_eq, show (10 : Int32) = nI 10 by decide, zb_in (j := s) (n := 10) hs10 (by omega), zb_ibt, nI_clamp (n := s) (by omega), pm_op_eq, h79 s hs10, nI_1]
    rw [if_pos (nI_lt hs10 (by omega))]
    by_cases c0 : st s = 0
    · rw [if_pos c0]
      have c1 : ¬ 0 < st s := by rw [c0]; decide
      simp only [if_neg c1] at eC go
      exact go _ (fM_u (by omega)) (by rw [vM_u91, eC]) (fun o ho => by rw [zb_un (by omega)]) (by rw [zb_uj (by omega)])
    · rw [if_neg c0]
      have c1 : 0 < st s := by
        rw [zb_tlt, Int32.toInt_zero]
        rw [zb_teq, Int32.toInt_zero] at c0
        omega
      simp only [if_pos c1] at eC go
      have fA : fM h (pm_u (pm_u (pm_u h 66 29 (pm_max (h 66 29) (h 69 s))) 66 27 (h 66 27 + st s)) 81 s (h 81 s + st s)) := fM_trans (fM_u (by omega)) (fM_trans (fM_u (by omega)) (fM_u (by omega)))
      have vA : vM (pm_u (pm_u (pm_u h 66 29 (pm_max (h 66 29) (h 69 s))) 66 27 (h 66 27 + st s)) 81 s (h 81 s + st s)) = zCs st s (vM h) := by
        rw [vM_u8 hs10, vM_u90, vM_u91, eC]
      have tA : ∀ o, o = 79 ∨ o = 80 → (pm_u (pm_u (pm_u h 66 29 (pm_max (h 66 29) (h 69 s))) 66 27 (h 66 27 + st s)) 81 s (h 81 s + st s)) o = h o := fun o ho => by
        rw [zb_un (by omega), zb_un (by omega), zb_un (by omega)]
      generalize pm_u (pm_u (pm_u h 66 29 (pm_max (h 66 29) (h 69 s))) 66 27 (h 66 27 + st s)) 81 s (h 81 s + st s) = H at fA vA tA ⊢
      refine sm_worth (which := 2) hk hR (by omega) hs10 (fM_tm fA hT) (by rw [fA.2 14 (by omega) (by omega) (by omega) (by omega) (by omega)]; exact h14) (fun h' e => ?_)
      refine go _ (fM_trans fA (fM_trans (fM_scr e) (fM_u (by omega)))) ?_ (fun o ho => by rw [zb_un (by omega), e o (by omega), tA o ho]) ?_
      · rw [vM_u66 (by omega), vM_scr e, vA]
      · rw [zb_us, zWo_congr (z := vM H) (w := z)]
        · rw [vA, zCs_r (by omega) (by omega)]; exact hz 1 (by omega)
        · rw [vA, zCs_r (by omega) (by omega)]; exact hz 2 (by omega)
        · rw [vA, zCs_r (by omega) (by omega)]; exact hz 7 (by omega)
/-- the reference is ready, with rule R at text k -/
def zMr (k : Nat) (R : Nat → List Int32) (h : pm_H) : Prop := zV (vM h) ∧ zTm h k R ∧ h 66 14 = nI k ∧ k < 6 ∧ zWf R
set_option maxHeartbeats 4000000 in
theorem sm_pass {sh : Int32} {h : pm_H} {Q : pm_H → Prop} (H : zMr k R h) (h30 : h 66 30 = sh) (hq : ∀ h', fM h h' → zMr k R h' → vM h' = zT R sh (vM h) → h' 66 28 = zD R sh (vM h) (h 66 28) → Q h') : wp_X7_pass h Q := by
  obtain ⟨hV, hT, h14, hk, hR⟩ := H
  unfold wp_X7_pass
  refine sm_stillIn hV ?_
  rw [show (9 : Int32) = nI 10 - 1 by decide]
  refine ⟨11, ?_⟩
  refine sm_tick1 hk hR (sh := sh) 10 h (fun _ => 0) (by omega) hV hT h14 h30 (fun j h1 h2 => absurd h1 (by omega)) (fun h1 f1 f2 f3 f4 => ?_)
  obtain ⟨V1, L2, L3, L4, L5⟩ := zL_ok (R := R) (sh := sh) (left := zIn (vM h)) (k := 10) (z := vM h) (st := fun _ => 0) (by omega) hV
  have hcnt : (h1 66 3).toNatClampNeg = (vM h 7 0).toNatClampNeg := by rw [f1.2 3 (by omega) (by omega) (by omega) (by omega) (by omega), vM_70]
  have e14 : h1 66 14 = nI k := by rw [f1.2 14 (by omega) (by omega) (by omega) (by omega) (by omega)]; exact h14
  rw [zb_c0]
  refine ⟨(h1 66 3).toNatClampNeg + 1, ?_⟩
  refine sm_tick2 hk hR (h1 66 3).toNatClampNeg 0 h1 (by omega) (by rw [f2]; exact V1) (fM_tm f1 hT) e14 (fun h2 g1 g2 g3 g4 => ?_)
  rw [f2, hcnt] at g2
  have g2 : vM h2 = (zT0 R sh (vM h)).1 := g2
  have F2 := fM_trans f1 g1
  obtain ⟨V2, I2, I3, I4⟩ := zT0_ok (R := R) (sh := sh) hV
  refine sm_stillIn (by rw [g2]; exact V2) ?_
  refine ⟨11, ?_⟩
  refine sm_tick3 hk hR (z := vM h2) (st := (zT0 R sh (vM h)).2) I4 10 0 h2 (by omega) (fM_tm F2 hT) (by rw [F2.2 14 (by omega) (by omega) (by omega) (by omega) (by omega)]; exact h14) (fun j hj => by rw [g3 79 (by omega), g3 80 (by omega)]; exact f3 j hj) (fun _ _ => rfl) (fun h3 a1 a2 a3 => ?_)
  have F3 := fM_trans F2 a1
  rw [g2] at a2 a3
  have e28 : h3 66 28 = zD R sh (vM h) (h 66 28) := by
    rw [a3, g4, f4]; rfl
  have eT : zT R sh (vM h) = pm_u (vM h3) 7 1 (pm_min 999 (h3 66 9 + 1)) := by
    rw [← vM_71 (h := h3), a2]; rfl
  have e9 : zB 0 999 (h3 66 9) := by
    rw [← vM_71 (h := h3), a2, zC_r (by omega) (by omega)]
    exact V2.2.1
  unfold zB at e9
  have e999 : (999 : Int32).toInt = 999 := by decide
  have t1 : (h3 66 9 + 1).toInt = (h3 66 9).toInt + 1 := by rw [zb_tadd (by rw [Int32.toInt_one]; omega) (by rw [Int32.toInt_one]; omega), Int32.toInt_one]
  have fin : ∀ H, fM h H → vM H = zT R sh (vM h) → H 66 28 = h3 66 28 → Q H := fun H b1 b2 b3 =>
    hq H b1 ⟨by rw [b2]; exact (zT_ok hV).1, fM_tm b1 hT, by rw [b1.2 14 (by omega) (by omega) (by omega) (by omega) (by omega)]; exact h14, hk, hR⟩ b2 (by rw [b3, e28])
  rw [zb_lt, pm_op_eq]
  by_cases c : h3 66 9 < 999
  · rw [if_pos c]
    rw [zb_tlt, e999] at c
    have em : pm_min 999 (h3 66 9 + 1) = h3 66 9 + 1 := by
      refine zb_teq.mpr ?_
      rw [zb_tmin, e999, t1]
      omega
    rw [em] at eT
    exact fin _ (fM_trans F3 (fM_u (by omega))) (by rw [vM_u71, eT]) (by rw [zb_uj (by omega)])
  · rw [if_neg c]
    rw [zb_tlt, e999] at c
    have em : pm_min 999 (h3 66 9 + 1) = h3 66 9 := by
      refine zb_teq.mpr ?_
      rw [zb_tmin, e999, t1]
      omega
    rw [em, ← vM_71 (h := h3), zb_id] at eT
    exact fin h3 F3 eT.symm rfl
end
