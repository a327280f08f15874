/-! MATHEMATICS, 36: the class's tick, whole; its runs -/
theorem zWo_congr {R : Nat → List Int32} {which s : Nat} {left bound : Int32} {z w : pm_H} (h1 : z 1 = w 1) (h2 : z 2 = w 2) (h7 : z 7 = w 7) : zWo R which s left bound z = zWo R which s left bound w := by
  have e : zSe z s left = zSe w s left := by
    funext k
    unfold zSe
    rw [h1, h2, h7]
  unfold zWo
  rw [e]
section
variable {k : Nat} {R : Nat → List Int32}
set_option maxHeartbeats 4000000 in
theorem sp_tick3 (hk : k < 6) (hR : zWf R) {z : pm_H} {st : Nat → Int32} {left : Int32} {K Q : pm_H → Prop} (hl : left = zIn z ∨ left = 0) : ∀ (m s : Nat) (h : pm_H), s + m = 10 → zTx h k R → h 19 8 = nI (40 + 3 * k) → (∀ j, j < 10 → h 30 j = st j) → (h 19 5 = 0 ∨ (h 19 5 = 1 ∧ left = zIn z)) → (∀ r, r < 8 → vC h r = z r) →
    (∀ h', fC h h' → vC h' = zC st m s (vC h) → (h 19 5 = 1 → h' 19 3 = zMi R st (zIn z) z m s (h 19 3)) → K h') → wl_X5_countStanding_21 left K Q (m + 1) (nI s) h
  | 0, s, h, hs, hT, h8, hst, h5, hz, hK => by
    unfold wl_X5_countStanding_21
    rw [zb_lt, if_neg (by rw [show (10 : Int32) = nI 10 by decide]; exact nI_nlt (by omega) (by omega))]
    exact hK h fC_rfl rfl (fun _ => rfl)
  | m + 1, s, h, hs, hT, h8, hst, h5, hz, hK => by
    have hs10 : s < 10 := by omega
    have e10 : (10 : Int32) = nI 10 := by decide
    have go : ∀ h', fC h h' → h' 30 = h 30 → vC h' = zCs st s (vC h) → (h 19 5 = 1 → h' 19 3 = if 0 < st s then h 19 3 + st s * zWo R 2 s (zIn z) 99 z else h 19 3) → wl_X5_countStanding_21 left K Q (m + 1) (nI s + 1) h' := by
      intro h' f1 f2 f3 f4
      rw [nI_1]
      refine sp_tick3 hk hR (st := st) hl m (s + 1) h' (by omega) (fC_tx f1 hT) (by rw [f1.2.1]; exact h8) (fun j hj => by rw [f2]; exact hst j hj) (by rw [f1.2.2.1]; exact h5) (fun r hr => by rw [f3, zCs_r (by omega) (by omega)]; exact hz r hr) (fun h2 g1 g2 g3 => ?_)
      rw [f3] at g2
      refine hK h2 (fC_trans f1 g1) g2 (fun q => ?_)
      rw [g3 (by rw [f1.2.2.1]; exact q), f4 q]
      rfl
    unfold wl_X5_countStanding_21
    simp only [zb_lt, zb_eq, e10, zb_in (j := s) (n := 10) hs10 (by omega), zb_ibt, nI_clamp (n := s) (by omega), pm_op_eq, hst s hs10]
    rw [if_pos (nI_lt hs10 (by omega))]
    have eC : zCs st s (vC h) = if 0 < st s then pm_u (pm_u (pm_u (vC h) 9 1 (pm_max (h 19 4) (h 23 s))) 9 0 (h 19 2 + st s)) 8 s (h 29 s + st s) else pm_u (vC h) 9 1 (pm_max (h 19 4) (h 23 s)) := by
      unfold zCs
      rw [vC_91, vC_2 hs10, vC_90, vC_8 hs10]
    by_cases c1 : 0 < st s
    · simp only [if_pos c1] at eC go ⊢
      have fA : fC h (pm_u (pm_u (pm_u h 19 4 (pm_max (h 19 4) (h 23 s))) 19 2 (h 19 2 + st s)) 29 s (h 29 s + st s)) := fC_trans (fC_u (by omega) (by omega) (by omega) (by omega)) (fC_trans (fC_u (by omega) (by omega) (by omega) (by omega)) (fC_u (by omega) (by omega) (by omega) (by omega)))
      have vA : vC (pm_u (pm_u (pm_u h 19 4 (pm_max (h 19 4) (h 23 s))) 19 2 (h 19 2 + st s)) 29 s (h 29 s + st s)) = zCs st s (vC h) := by
        rw [vC_u8 hs10, vC_u90, vC_u91, eC]
      have tA : (pm_u (pm_u (pm_u h 19 4 (pm_max (h 19 4) (h 23 s))) 19 2 (h 19 2 + st s)) 29 s (h 29 s + st s)) 30 = h 30 := by
        rw [zb_un (by omega), zb_un (by omega), zb_un (by omega)]
      rcases h5 with h5 | ⟨h5, hleft⟩
      · rw [if_pos h5]
        exact go _ fA tA vA (fun q => absurd (h5.symm.trans q) (by decide))
      · rw [if_neg (by rw [h5]; decide)]
        rw [show (2 : Int32) = nI 2 by decide]
        generalize hH : pm_u (pm_u (pm_u h 19 4 (pm_max (h 19 4) (h 23 s))) 19 2 (h 19 2 + st s)) 29 s (h 29 s + st s) = H at fA vA tA ⊢
        refine sp_reckon hk (by omega) hs10 hR (fC_tx fA hT) (by rw [fA.2.1]; exact h8) (fun h' e => ?_)
        have e19 := e 19 (by omega) (by omega)
        refine go _ (fC_trans fA (fC_trans (fC_scr e) (fC_u (by omega) (by omega) (by omega) (by omega)))) ?_ ?_ (fun _ => ?_)
        · rw [zb_un (by omega), e 30 (by omega) (by omega), tA]
        · rw [vC_u193, vC_of (h := H) (fun o a b => e o (by omega) (by omega)) (by rw [e19]) (by rw [e19]), vA]
        · rw [zb_us, hleft, zWo_congr (z := vC H) (w := z)]
          · rw [vA, zCs_r (by omega) (by omega)]; exact hz 1 (by omega)
          · rw [vA, zCs_r (by omega) (by omega)]; exact hz 2 (by omega)
          · rw [vA, zCs_r (by omega) (by omega)]; exact hz 7 (by omega)
    · simp only [if_neg c1] at eC go ⊢
      refine go _ (fC_u (by omega) (by omega) (by omega) (by omega)) (by rw [zb_un (by omega)]) (by rw [vC_u91, eC]) (fun _ => by rw [zb_uj (by omega)])
set_option maxHeartbeats 4000000 in
/-- a tick of the class's trial -/
theorem sp_passTick (hk : k < 6) (hR : zWf R) {sh : Int32} {h : pm_H} {Q : pm_H → Prop} (hV : zV (vC h)) (hT : zTx h k R) (h8 : h 19 8 = nI (40 + 3 * k)) (h5 : h 19 5 = 0 ∨ h 19 5 = 1)
    (hq : ∀ h', fC h h' → vC h' = zT R sh (vC h) → (h 19 5 = 1 → h' 19 3 = zD R sh (vC h) (h 19 3)) → Q h') : wp_X5_passTick sh h Q := by
  unfold wp_X5_passTick
  refine sp_countIn hV ?_
  have e9 : (9 : Int32) = nI 10 - 1 := by decide
  rw [e9]
  refine ⟨11, ?_⟩
  refine sp_tick1 hk hR (sh := sh) 10 h (fun _ => 0) (by omega) hV hT h8 (fun j h1 h2 => absurd h1 (by omega)) (fun h1 f1 f2 f3 f4 => ?_)
  obtain ⟨V1, L2, L3, L4, L5⟩ := zL_ok (R := R) (sh := sh) (left := zIn (vC h)) (k := 10) (z := vC h) (st := fun _ => 0) (by omega) hV
  have hcnt : (h1 20 8).toNatClampNeg = (vC h 7 0).toNatClampNeg := by rw [f1.2.2.2.1, vC_70]
  rw [zb_c0]
  refine ⟨(h1 20 8).toNatClampNeg + 1, ?_⟩
  refine sp_tick2 hk hR (h1 20 8).toNatClampNeg 0 h1 (by omega) (by rw [f2]; exact V1) (fC_tx f1 hT) (by rw [f1.2.1]; exact h8) (fun h2 g1 g2 g3 g4 => ?_)
  rw [f2, hcnt] at g2
  have g30 : ∀ j, j < 10 → h2 30 j = (zT0 R sh (vC h)).2 j := fun j hj => by rw [g3]; exact f3 j hj
  have g2 : vC h2 = (zT0 R sh (vC h)).1 := g2
  obtain ⟨V2, -, -, -⟩ := zT0_ok (R := R) (sh := sh) hV
  have F2 := fC_trans f1 g1
  have e5 : h2 19 5 = h 19 5 := F2.2.2.1
  have fin : ∀ h3, fC h2 h3 → vC h3 = zC (zT0 R sh (vC h)).2 10 0 (vC h2) → (h2 19 5 = 1 → h3 19 3 = zMi R (zT0 R sh (vC h)).2 (zIn (vC h2)) (vC h2) 10 0 (h2 19 3)) → Q (pm_u h3 20 9 (pm_op (pm_min 999 (pm_op (h3 20 9 + 1))))) := by
    intro h3 a1 a2 a3
    rw [g2] at a2 a3
    rw [pm_op_eq, pm_op_eq]
    refine hq _ (fC_trans F2 (fC_trans a1 (fC_u (by omega) (by omega) (by omega) (by omega)))) ?_ (fun q => ?_)
    · rw [vC_u71, ← vC_71 (h := h3), a2]
      rfl
    · rw [zb_un (by omega), a3 (by rw [e5]; exact q), g4, f4]
      rfl
  unfold wp_X5_countStanding
  rw [zb_eq]
  have T2 : zTx h2 k R := fC_tx F2 hT
  have h82 : h2 19 8 = nI (40 + 3 * k) := by rw [F2.2.1]; exact h8
  rcases h5 with h5 | h5
  · rw [if_pos (by rw [e5]; exact h5)]
    exact ⟨11, sp_tick3 hk hR (z := vC h2) (st := (zT0 R sh (vC h)).2) (Or.inr rfl) 10 0 h2 (by omega) T2 h82 g30 (Or.inl (by rw [e5]; exact h5)) (fun _ _ => rfl) fin⟩
  · rw [if_neg (by rw [e5, h5]; decide)]
    refine sp_countIn (by rw [g2]; exact V2) ?_
    exact ⟨11, sp_tick3 hk hR (z := vC h2) (st := (zT0 R sh (vC h)).2) (Or.inl rfl) 10 0 h2 (by omega) T2 h82 g30 (Or.inr ⟨by rw [e5]; exact h5, rfl⟩) (fun _ _ => rfl) fin⟩
end
