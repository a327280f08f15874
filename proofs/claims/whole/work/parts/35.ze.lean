/-! MATHEMATICS, 35: the class's tick is the pure one -/
theorem sp_holdsOf {k w : Int32} {h : pm_H} {Q : Int32 → pm_H → Prop} (hq : Q (zHo k w) h) : wp_X3_holdsOf k w h Q := by
  unfold wp_X3_holdsOf
  unfold zHo at hq
  simp only [pm_op_eq, zb_eq]
  repeat' split
  all_goals simp_all
theorem sp_roomOn {s : Nat} {h : pm_H} {Q : Int32 → pm_H → Prop} (hs : s < 10) (hq : Q (zHo (vC h 0 s) (vC h 1 s) - vC h 2 s) h) : wp_X3_roomOn_r20 (nI s) h Q := by
  unfold wp_X3_roomOn_r20
  rw [vC_0 hs, vC_1 hs, vC_2 hs] at hq
  simp only [zb_in (j := s) (n := 10) hs (by omega), zb_ibt, nI_clamp (n := s) (by omega), pm_op_eq]
  exact sp_holdsOf hq
theorem sp_passes {s : Nat} {h : pm_H} {Q : Int32 → pm_H → Prop} (hs : s < 10) (hw : zB 1 10 (vC h 1 s)) (hq : Q (zPa (vC h 0 s) (vC h 1 s) (vC h 7 1)) h) : wp_X3_passes_r20 (nI s) h Q := by
  rw [vC_1 hs] at hw
  have h2 := zb_w2 hw
  unfold wp_X3_passes_r20
  rw [vC_0 hs, vC_1 hs, vC_71] at hq
  unfold zPa at hq
  simp only [zb_in (j := s) (n := 10) hs (by omega), zb_ibt, nI_clamp (n := s) (by omega), pm_op_eq, zb_eq, zb_lt, zb_nz h2]
  repeat' split
  all_goals simp_all
theorem zLe_end9 {h h1 : pm_H} {s : Nat} {G : Int32} (hs : s < 9) (e : ∀ o, o ≠ 32 → o ≠ 33 → h1 o = h o) : fC h (pm_u (pm_u (pm_u h1 23 s (h1 23 s - G)) 30 s (h1 23 s - G)) 23 (s + 1) (h1 23 (s + 1) + G)) ∧ vC (pm_u (pm_u (pm_u h1 23 s (h1 23 s - G)) 30 s (h1 23 s - G)) 23 (s + 1) (h1 23 (s + 1) + G)) = zLe G s (vC h) ∧ (pm_u (pm_u (pm_u h1 23 s (h1 23 s - G)) 30 s (h1 23 s - G)) 23 (s + 1) (h1 23 (s + 1) + G)) 30 = upd (h 30) s (vC h 2 s - G) := by
  have ev : vC h1 = vC h := vC_of (fun o a b => e o (by omega) (by omega)) (by rw [e 19 (by omega) (by omega)]) (by rw [e 19 (by omega) (by omega)])
  refine ⟨fC_trans (fC_scr e) (fC_trans (fC_u (by omega) (by omega) (by omega) (by omega)) (fC_trans (fC_u (by omega) (by omega) (by omega) (by omega)) (fC_u (by omega) (by omega) (by omega) (by omega)))), ?_, ?_⟩
  · rw [vC_u2 (by omega), vC_uo (by omega), vC_u2 (by omega), ev]
    unfold zLe
    rw [if_pos hs, ← ev, vC_2 (j := s) (by omega), vC_2 (j := s + 1) (by omega)]
  · rw [zb_un (by omega), zb_ur, zb_un (by omega), e 30 (by omega) (by omega), vC_2 (by omega), e 23 (by omega) (by omega)]
theorem zLe_endo {h h1 : pm_H} {s : Nat} {G : Int32} (hs : ¬ s < 9) (hs' : s < 10) (e : ∀ o, o ≠ 32 → o ≠ 33 → h1 o = h o) : fC h (pm_u (pm_u (pm_u h1 23 s (h1 23 s - G)) 30 s (h1 23 s - G)) 20 10 (h1 20 10 + G)) ∧ vC (pm_u (pm_u (pm_u h1 23 s (h1 23 s - G)) 30 s (h1 23 s - G)) 20 10 (h1 20 10 + G)) = zLe G s (vC h) ∧ (pm_u (pm_u (pm_u h1 23 s (h1 23 s - G)) 30 s (h1 23 s - G)) 20 10 (h1 20 10 + G)) 30 = upd (h 30) s (vC h 2 s - G) := by
  have ev : vC h1 = vC h := vC_of (fun o a b => e o (by omega) (by omega)) (by rw [e 19 (by omega) (by omega)]) (by rw [e 19 (by omega) (by omega)])
  refine ⟨fC_trans (fC_scr e) (fC_trans (fC_u (by omega) (by omega) (by omega) (by omega)) (fC_trans (fC_u (by omega) (by omega) (by omega) (by omega)) (fC_u (by omega) (by omega) (by omega) (by omega)))), ?_, ?_⟩
  · rw [vC_u72, vC_uo (by omega), vC_u2 (by omega), ev]
    unfold zLe
    rw [if_neg hs, ← ev, vC_2 (j := s) (by omega), vC_72]
  · rw [zb_un (by omega), zb_ur, zb_un (by omega), e 30 (by omega) (by omega), vC_2 (by omega), e 23 (by omega) (by omega)]
section
variable {k : Nat} {R : Nat → List Int32}
set_option maxHeartbeats 4000000 in
theorem sp_leave (hk : k < 6) (hR : zWf R) {s : Nat} {sh left p : Int32} {h : pm_H} {Q : pm_H → Prop} (hs : s < 10) (hT : zTx h k R) (h8 : h 19 8 = nI (40 + 3 * k)) (hp : p = if nI s = sh then 0 else zPa (vC h 0 s) (vC h 1 s) (vC h 7 1))
    (hq : ∀ h', fC h h' → vC h' = zLe (zGo R sh left s (vC h)) s (vC h) → h' 30 = upd (h 30) s (vC h 2 s - zGo R sh left s (vC h)) → h' 19 = h 19 → Q h') : wp_X5_leaveStep (nI s) p left h Q := by
  have e9 : (9 : Int32) = nI 9 := by decide
  have hG : zGo R sh left s (vC h) = if 0 < pm_min (vC h 2 s) p then pm_min (pm_min (vC h 2 s) p) (pm_min (pm_max 0 (p - zWo R 0 s left 9 (vC h))) (if s < 9 then zHo (vC h 0 (s + 1)) (vC h 1 (s + 1)) - vC h 2 (s + 1) else pm_min (vC h 2 s) p)) else pm_min (vC h 2 s) p := by
    unfold zGo; rw [← hp]
  generalize zGo R sh left s (vC h) = G at hG hq
  have e2 := vC_2 (h := h) hs
  unfold wp_X5_leaveStep
  simp only [pm_op_eq, zb_lt, zb_in (j := s) (n := 10) hs (by omega), zb_ibt, nI_clamp (n := s) (by omega), nI_1, zb_us]
  rw [← e2]
  by_cases c1 : 0 < pm_min (vC h 2 s) p
  · rw [if_pos c1] at hG ⊢
    rw [show (0 : Int32) = nI 0 from zb_c0] at *
    refine sp_reckon hk (by omega) hs hR hT h8 (fun h1 e => ?_)
    have ev : vC h1 = vC h := vC_of (fun o a b => e o (by omega) (by omega)) (by rw [e 19 (by omega) (by omega)]) (by rw [e 19 (by omega) (by omega)])
    by_cases h9 : s < 9
    · rw [e9] at *
      rw [if_pos (nI_lt h9 (by omega))] at ⊢
      rw [if_pos h9] at hG
      refine sp_roomOn (by omega) ?_
      rw [ev]
      simp only [if_pos (nI_lt h9 (show 9 < 2 ^ 31 by omega)), zb_in (j := s + 1) (n := 10) (by omega) (by omega), zb_ibt, nI_clamp (n := s + 1) (by omega), zb_uj (j' := s + 1) (j := s) (by omega)]
      rw [← hG]
      obtain ⟨f1, f2, f3⟩ := zLe_end9 (G := G) h9 e
      exact hq _ f1 f2 f3 (by simp only [zb_un (o := 23) (o' := 19) (by omega), zb_un (o := 30) (o' := 19) (by omega), zb_un (o := 20) (o' := 19) (by omega)] <;> exact e 19 (by omega) (by omega))
    · rw [e9] at *
      rw [if_neg (nI_nlt (by omega) (by omega))] at ⊢
      rw [if_neg h9] at hG
      simp only [if_neg (nI_nlt (a := s) (b := 9) (by omega) (by omega))]
      rw [← hG]
      obtain ⟨f1, f2, f3⟩ := zLe_endo (G := G) h9 hs e
      exact hq _ f1 f2 f3 (by simp only [zb_un (o := 23) (o' := 19) (by omega), zb_un (o := 30) (o' := 19) (by omega), zb_un (o := 20) (o' := 19) (by omega)] <;> exact e 19 (by omega) (by omega))
  · rw [if_neg c1] at hG ⊢
    rw [← hG, e2]
    by_cases h9 : s < 9
    · rw [e9, if_pos (nI_lt h9 (by omega))]
      simp only [zb_in (j := s + 1) (n := 10) (by omega) (by omega), zb_ibt, nI_clamp (n := s + 1) (by omega), zb_uj (j' := s + 1) (j := s) (by omega)]
      obtain ⟨f1, f2, f3⟩ := zLe_end9 (G := G) (h := h) h9 (fun _ _ _ => rfl)
      exact hq _ f1 f2 f3 (by simp only [zb_un (o := 23) (o' := 19) (by omega), zb_un (o := 30) (o' := 19) (by omega), zb_un (o := 20) (o' := 19) (by omega)])
    · rw [e9, if_neg (nI_nlt (by omega) (by omega))]
      obtain ⟨f1, f2, f3⟩ := zLe_endo (G := G) (h := h) h9 hs (fun _ _ _ => rfl)
      exact hq _ f1 f2 f3 (by simp only [zb_un (o := 23) (o' := 19) (by omega), zb_un (o := 30) (o' := 19) (by omega), zb_un (o := 20) (o' := 19) (by omega)])
theorem sp_countInL {cnt : Nat} (hc : cnt ≤ 5) {K Q : Int32 → pm_H → Prop} {h : pm_H} (e : h 20 8 = nI cnt) (hK : K (zSum (h 28) cnt) h) : ∀ (m j : Nat), j + m = cnt → wl_X3_countIn_r20_4 K Q (m + 1) (zSum (h 28) j) (nI j) h
  | 0, j, hj => by
    unfold wl_X3_countIn_r20_4
    rw [zb_lt, e, if_neg (nI_nlt (by omega) (by omega)), show j = cnt by omega]
    exact hK
  | m + 1, j, hj => by
    unfold wl_X3_countIn_r20_4
    rw [zb_lt, e, if_pos (nI_lt (by omega) (by omega)), zb_ib (zb_in (by omega) (by omega)), pm_op_eq, pm_op_eq, nI_1, nI_clamp (by omega)]
    exact sp_countInL hc e hK m (j + 1) (by omega)
theorem zIn_vC {h : pm_H} {cnt : Nat} (hc : cnt ≤ 5) (e : h 20 8 = nI cnt) : zIn (vC h) = zSum (h 28) cnt := by
  unfold zIn
  have e1 : (h 20 8).toNatClampNeg = cnt := by rw [e]; exact nI_clamp (by omega)
  rw [vC_70, e1]
  exact zSum_congr (fun j hj => vC_6 (by omega))
theorem zV_cnt {h : pm_H} (hV : zV (vC h)) : ∃ cnt, cnt ≤ 5 ∧ h 20 8 = nI cnt := by
  have := hV.1
  rw [vC_70] at this
  obtain ⟨j, hj, e, -⟩ := zB_nat (b := 5) this
  exact ⟨j, hj, e⟩
theorem sp_countIn {h : pm_H} {Q : Int32 → pm_H → Prop} (hV : zV (vC h)) (hq : Q (zIn (vC h)) h) : wp_X3_countIn_r20 h Q := by
  obtain ⟨cnt, hc, e⟩ := zV_cnt hV
  rw [zIn_vC hc e] at hq
  have e0 : (0 : Int32) = zSum (h 28) 0 := rfl
  unfold wp_X3_countIn_r20
  refine ⟨cnt + 1, ?_⟩
  exact sp_countInL hc e hq cnt 0 (by omega)
set_option maxHeartbeats 4000000 in
theorem sp_tick1 (hk : k < 6) (hR : zWf R) {sh left : Int32} {K Q : pm_H → Prop} : ∀ (n : Nat) (h : pm_H) (st : Nat → Int32), n ≤ 10 → zV (vC h) → zTx h k R → h 19 8 = nI (40 + 3 * k) → (∀ j, n ≤ j → j < 10 → h 30 j = st j) → (∀ h', fC h h' → vC h' = (zL R sh left n (vC h) st).1 → (∀ j, j < 10 → h' 30 j = (zL R sh left n (vC h) st).2 j) → h' 19 = h 19 → K h') → wl_X5_passTick_11 sh left K Q (n + 1) (nI n - 1) h
  | 0, h, st, hn, hV, hT, h8, hst, hK => by
    unfold wl_X5_passTick_11
    rw [zb_lt, if_pos (by decide)]
    exact hK h fC_rfl rfl (fun j hj => hst j (by omega) hj) rfl
  | n + 1, h, st, hn, hV, hT, h8, hst, hK => by
    have hsn : n < 10 := by omega
    have go : ∀ p, p = (if nI n = sh then 0 else zPa (vC h 0 n) (vC h 1 n) (vC h 7 1)) → wp_X5_leaveStep (nI n) p left h (fun h58 => wl_X5_passTick_11 sh left K Q (n + 1) (pm_op (nI n + -1)) h58) := by
      intro p hp
      refine sp_leave hk hR (sh := sh) hsn hT h8 hp (fun h' f1 f2 f3 f4 => ?_)
      rw [pm_op_eq, ← Int32.sub_eq_add_neg]
      refine sp_tick1 hk hR n h' (upd st n (vC h 2 n - zGo R sh left n (vC h))) (by omega) (by rw [f2]; exact zV_Le hV hsn) (fC_tx f1 hT) (by rw [f1.2.1]; exact h8) ?_ ?_
      · intro j h1 h2
        rw [f3]
        unfold upd
        by_cases e : j = n
        · rw [if_pos e, if_pos e]
        · rw [if_neg e, if_neg e]; exact hst j (by omega) h2
      · intro h2 g1 g2 g3 g4
        rw [f2] at g2 g3
        exact hK h2 (fC_trans f1 g1) g2 g3 (g4.trans f4)
    unfold wl_X5_passTick_11
    rw [nI_pred, zb_lt, if_neg (nI_pos (by omega)), zb_eq]
    by_cases e : nI n = sh
    · rw [if_pos e]
      exact go 0 (by rw [if_pos e])
    · rw [if_neg e]
      refine sp_passes hsn (hV.2.2.1 n hsn).2.1 ?_
      exact go _ (by rw [if_neg e])
set_option maxHeartbeats 4000000 in
theorem sp_floor (hk : k < 6) (hR : zWf R) {c : Nat} {h : pm_H} {Q : pm_H → Prop} (hV : zV (vC h)) (hc : c < (h 20 8).toNatClampNeg) (hT : zTx h k R) (h8 : h 19 8 = nI (40 + 3 * k)) (h1 : ¬ h 20 9 < h 26 c) (h2 : 0 < h 28 c)
    (hq : ∀ h', fC h h' → h' 30 = h 30 → vC h' = zFl R c (vC h) → h' 19 = h 19 → Q h') : wp_X5_stepOnFloor (nI c) h Q := by
  obtain ⟨cnt, hcn, e⟩ := zV_cnt hV
  have hc5 : c < 5 := by rw [e, nI_clamp (by omega)] at hc; omega
  have v3 := (hV.2.2.2 c (by rw [vC_70]; exact hc)).1
  rw [vC_3 hc] at v3
  have hf := zB_zi (b := 9) v3
  have ef := zB_nI v3
  have eFl : zFl R c (vC h) = if 0 < zHo (vC h 0 (h 25 c).toNatClampNeg) (vC h 1 (h 25 c).toNatClampNeg) - vC h 2 (h 25 c).toNatClampNeg then
      (let co := pm_min (pm_min (h 28 c) (h 27 c)) (pm_min (zWo R 1 (h 25 c).toNatClampNeg (h 28 c) 9 (vC h)) (zHo (vC h 0 (h 25 c).toNatClampNeg) (vC h 1 (h 25 c).toNatClampNeg) - vC h 2 (h 25 c).toNatClampNeg))
       pm_u (pm_u (vC h) 6 c (h 28 c - co)) 2 (h 25 c).toNatClampNeg (vC h 2 (h 25 c).toNatClampNeg + co))
     else vC h := by
    unfold zFl
    rw [vC_71, vC_4 hc, vC_6 hc, vC_3 hc, vC_5 hc, if_neg h1, if_pos h2]
  rw [eFl] at hq
  clear eFl
  generalize (h 25 c).toNatClampNeg = f at hf ef hq
  have hf10 : f < 10 := by omega
  unfold wp_X5_stepOnFloor
  simp only [zb_in (j := c) (n := 5) hc5 (by omega), zb_ibt, nI_clamp (n := c) (by omega), pm_op_eq, ef, zb_in (j := f) (n := 10) hf10 (by omega), nI_clamp (n := f) (by omega)]
  refine sp_roomOn hf10 ?_
  rw [zb_lt]
  by_cases c1 : 0 < zHo (vC h 0 f) (vC h 1 f) - vC h 2 f
  · rw [if_pos c1] at hq ⊢
    rw [show (1 : Int32) = nI 1 from zb_c1]
    refine sp_reckon hk (by omega) hf10 hR hT h8 (fun h' e' => ?_)
    have ev : vC h' = vC h := vC_of (fun o a b => e' o (by omega) (by omega)) (by rw [e' 19 (by omega) (by omega)]) (by rw [e' 19 (by omega) (by omega)])
    rw [e' 28 (by omega) (by omega), e' 27 (by omega) (by omega)]
    have hcn' : c < (h' 20 8).toNatClampNeg := by rw [e' 20 (by omega) (by omega)]; exact hc
    refine hq _ (fC_trans (fC_scr e') (fC_trans (fC_u (by omega) (by omega) (by omega) (by omega)) (fC_u (by omega) (by omega) (by omega) (by omega)))) ?_ ?_ (by rw [zb_un (by omega), zb_un (by omega)]; exact e' 19 (by omega) (by omega))
    · rw [zb_un (by omega), zb_un (by omega), e' 30 (by omega) (by omega)]
    · rw [vC_u2 hf10, vC_u6 hcn', ev, ← vC_2 (h := h') hf10, ev]
  · rw [if_neg c1] at hq ⊢
    exact hq h fC_rfl rfl rfl rfl
set_option maxHeartbeats 4000000 in
theorem sp_tick2 (hk : k < 6) (hR : zWf R) {K Q : pm_H → Prop} : ∀ (m c : Nat) (h : pm_H), c + m = (h 20 8).toNatClampNeg → zV (vC h) → zTx h k R → h 19 8 = nI (40 + 3 * k) → (∀ h', fC h h' → vC h' = zF R m c (vC h) → h' 30 = h 30 → h' 19 = h 19 → K h') → wl_X5_passTick_46 K Q (m + 1) (nI c) h
  | 0, c, h, hc, hV, hT, h8, hK => by
    obtain ⟨cnt, hcn, e⟩ := zV_cnt hV
    rw [e, nI_clamp (by omega)] at hc
    unfold wl_X5_passTick_46
    rw [zb_lt, e, if_neg (nI_nlt (by omega) (by omega))]
    exact hK h fC_rfl rfl rfl rfl
  | m + 1, c, h, hc, hV, hT, h8, hK => by
    obtain ⟨cnt, hcn, e⟩ := zV_cnt hV
    have hlt : c < (h 20 8).toNatClampNeg := by omega
    have hc2 := hc
    rw [e, nI_clamp (by omega)] at hc2
    have go : ∀ h', fC h h' → h' 30 = h 30 → vC h' = zFl R c (vC h) → h' 19 = h 19 → wl_X5_passTick_46 K Q (m + 1) (pm_op (nI c + 1)) h' := by
      intro h' f1 f2 f3 f4
      rw [pm_op_eq, nI_1]
      refine sp_tick2 hk hR m (c + 1) h' (by rw [f1.2.2.2.1]; omega) (by rw [f3]; exact (zFl_ok hV (by rw [vC_70]; exact hlt)).1) (fC_tx f1 hT) (by rw [f1.2.1]; exact h8) (fun h2 g1 g2 g3 g4 => ?_)
      rw [f3] at g2
      exact hK h2 (fC_trans f1 g1) g2 (g3.trans f2) (g4.trans f4)
    unfold wl_X5_passTick_46
    rw [zb_lt, e, if_pos (nI_lt (by omega) (by omega)), zb_ib (zb_in (by omega) (by omega)), zb_lt, nI_clamp (n := c) (by omega), zb_ib (zb_in (by omega) (by omega)), zb_lt]
    by_cases c1 : h 20 9 < h 26 c
    · rw [if_pos c1]
      refine go h fC_rfl rfl ?_ rfl
      unfold zFl
      rw [vC_71, vC_4 hlt, if_pos c1]
    · rw [if_neg c1]
      by_cases c2 : 0 < h 28 c
      · rw [if_pos c2]
        exact sp_floor hk hR hV hlt hT h8 c1 c2 go
      · rw [if_neg c2]
        refine go h fC_rfl rfl ?_ rfl
        unfold zFl
        rw [vC_71, vC_4 hlt, if_neg c1, vC_6 hlt, if_neg c2]
end
