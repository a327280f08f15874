/-! MATHEMATICS, 55: the class's order -/
/-- as gC, and the rows of the orders may change too -/
def gO (h h' : pm_H) : Prop := ∀ o, (o < 19 ∨ (33 < o ∧ o ≠ 38 ∧ o ≠ 39)) → h' o = h o
theorem gO_trans {a b c : pm_H} (h1 : gO a b) (h2 : gO b c) : gO a c := fun o ho => (h2 o ho).trans (h1 o ho)
theorem gC_O {h h' : pm_H} (H : gC h h') : gO h h' := fun o ho => H o (by omega)
theorem gO_vN {h h' : pm_H} (H : gO h h') : vN h' = vN h := by
  funext r j
  unfold vN
  rw [H 1 (by omega)]
  by_cases hr : zrg (h 1 8).toNatClampNeg r j = true ∧ r < 8
  · rw [if_pos hr, if_pos hr, H (ncc r) (by
      have : ∀ r, r < 8 → ncc r < 19 := by decide
      exact Or.inl (this r hr.2))]
  · rw [if_neg hr, if_neg hr]
section
variable {k : Nat} {R : Nat → List Int32}
theorem zCl_o {h h' : pm_H} (H : zCl k R h) (G : gO h h') : zCl k R h' := by
  obtain ⟨a, b, c, d, e⟩ := H
  exact ⟨by rw [gO_vN G]; exact a, by rw [G 1 (by omega)]; exact b, c, zTx_of (G _ (by omega)) (G _ (by omega)) d, e⟩
theorem sp_ordB {K : pm_H → Prop} {Q : pm_H → Prop} {n : Nat} {L : List Nat} (hn : n ≤ 5) (hL : ∀ c, c < n → L.getD c 0 < n) {f : Nat → Int32} : ∀ (m c : Nat) (h : pm_H), c + m = n → h 1 8 = nI n → h 20 8 = nI n → zRw (h 38) L n → (∀ c, c < n → h 7 (L.getD c 0) = f c) → (∀ h', fC h h' → vC h' = zBe f m c (vC h) → K h') → wl_X6_beginTrialInOrder_6 K Q (m + 1) (nI c) h
  | 0, c, h, hs, e1, e2, hR, hf, hK => by
    unfold wl_X6_beginTrialInOrder_6
    rw [zb_lt, e1, if_neg (nI_nlt (by omega) (by omega))]
    exact hK h fC_rfl rfl
  | m + 1, c, h, hs, e1, e2, hR, hf, hK => by
    have hc : c < n := by omega
    have hLc := hL c hc
    unfold wl_X6_beginTrialInOrder_6
    rw [zb_lt, e1, if_pos (nI_lt (by omega) (by omega)), zb_ib (zb_in (by omega) (by omega)), nI_clamp (n := c) (by omega), hR.2.1 c hc, zb_ib (zb_in (by omega) (by omega)), zb_ib (zb_in (by omega) (by omega)), pm_op_eq, nI_1, nI_clamp (by omega), hf c hc]
    have F1 : fC h (pm_u h 26 c (f c)) := fC_u (by omega) (by omega) (by omega) (by omega)
    refine sp_ordB (f := f) hn hL m (c + 1) _ (by omega) (by rw [zb_un (by omega)]; exact e1) (by rw [zb_un (by omega)]; exact e2) (by rw [zb_un (by omega)]; exact hR) (fun c hc => by rw [zb_un (by omega)]; exact hf c hc) (fun h' f' v => hK h' (fC_trans F1 f') ?_)
    rw [v, vC_u4 (by rw [e2, nI_clamp (by omega)]; omega)]
    rfl
theorem vN_4' {h : pm_H} {n j : Nat} (e : (h 1 8).toNatClampNeg = n) (hj : j < n) : vN h 4 j = h 7 j := vN_4 (by omega)
theorem sp_ordBegin {n : Nat} {L : List Nat} {h : pm_H} {Q : pm_H → Prop} (H : zCl k R h) (hn : n ≤ 5) (e8 : h 1 8 = nI n) (hL : ∀ c, c < n → L.getD c 0 < n) (hR : zRw (h 38) L n) (hq : ∀ h', gC h h' → zTr k R 0 h' → vC h' = oZ (vN h) n L → Q h') : wp_X6_beginTrialInOrder h Q := by
  have e8' : (h 1 8).toNatClampNeg = n := by rw [e8]; exact nI_clamp (by omega)
  unfold wp_X6_beginTrialInOrder
  refine sp_begins H (fun h1 g1 t1 v1 m1 e20 => ?_)
  refine ⟨n + 1, ?_⟩
  rw [zb_c0]
  refine sp_ordB (f := oB (vN h) L) hn hL n 0 h1 (by omega) (by rw [g1 1 (by omega)]; exact e8) (by rw [e20]; exact e8) (by rw [g1 38 (by omega)]; exact hR) (fun c hc => ?_) (fun h' f v => ?_)
  · rw [g1 7 (by omega)]
    exact (vN_4' e8' (hL c hc)).symm
  · rw [v1] at v
    have hc : (vN h 7 0).toNatClampNeg = n := by rw [vN_70]; exact e8'
    exact hq h' (gC_trans g1 (fC_g f)) (zTr_f t1 f (by rw [v]; exact oZ_V H.1 hc hL)) v
theorem sp_rings {j : Nat} {h : pm_H} {Q : Int32 → pm_H → Prop} (hj : j < 5) (hq : Q (pm_max (h 1 9) (h 7 j)) h) : wp_X6_ringsAt (nI j) h Q := by
  unfold wp_X6_ringsAt
  rw [zb_ib (zb_in hj (by omega)), pm_op_eq, nI_clamp (by omega)]
  exact hq
theorem sp_like1 {n c : Nat} {L : List Nat} {h : pm_H} {K58 K66 : pm_H → Prop} {Q : Int32 → pm_H → Prop} (hn : n ≤ 5) (hc : c < n) (hL : ∀ c, c < n → L.getD c 0 < n) (hR : zRw (h 38) L n) (h1 : (∃ b, b < c ∧ L.getD c 0 < L.getD b 0 ∧ pm_max (h 1 9) (h 7 (L.getD b 0)) = pm_max (h 1 9) (h 7 (L.getD c 0))) → K58 h) (h0 : K66 h) : ∀ (m b : Nat), b + m = c → wl_X6_isLikeAnEarlierRow_15 (nI c) K58 K66 Q (m + 1) (nI b) h
  | 0, b, hb => by
    unfold wl_X6_isLikeAnEarlierRow_15
    rw [zb_lt, if_neg (nI_nlt (by omega) (by omega))]
    exact h0
  | m + 1, b, hb => by
    have hLb := hL b (by omega)
    have hLc := hL c hc
    have nxr := sp_like1 (Q := Q) hn hc hL hR h1 h0 m (b + 1) (by omega)
    unfold wl_X6_isLikeAnEarlierRow_15
    rw [pm_op_eq, nI_1]
    rw [zb_lt, if_pos (nI_lt (by omega) (by omega)), zb_ib (zb_in (by omega) (by omega)), zb_ib (zb_in (by omega) (by omega)), zb_lt, nI_clamp (n := c) (by omega), nI_clamp (n := b) (by omega)]
    by_cases q : L.getD c 0 < L.getD b 0
    · rw [if_pos ((zRw_lt hR hc (by omega)).mpr q), zb_ib (zb_in (by omega) (by omega)), hR.2.1 b (by omega)]
      refine sp_rings (by omega) ?_
      rw [zb_ib (zb_in (by omega) (by omega)), hR.2.1 c hc]
      refine sp_rings (by omega) ?_
      rw [zb_eq]
      by_cases e : pm_max (h 1 9) (h 7 (L.getD b 0)) = pm_max (h 1 9) (h 7 (L.getD c 0))
      · rw [if_pos e]; exact h1 ⟨b, by omega, q, e⟩
      · rw [if_neg e]; exact nxr
    · rw [if_neg (mt (zRw_lt hR hc (by omega)).mp q)]
      exact nxr
theorem sp_like2 {n : Nat} {L : List Nat} {h : pm_H} {K58 K72 : pm_H → Prop} {Q : Int32 → pm_H → Prop} (hn : n ≤ 5) (e8 : h 1 8 = nI n) (hL : ∀ c, c < n → L.getD c 0 < n) (hR : zRw (h 38) L n) (h1 : (∃ b c, b < c ∧ c < n ∧ L.getD c 0 < L.getD b 0 ∧ pm_max (h 1 9) (h 7 (L.getD b 0)) = pm_max (h 1 9) (h 7 (L.getD c 0))) → K58 h) (h0 : K72 h) : ∀ (m c : Nat), n ≤ c + m → c ≤ 10 → wl_X6_isLikeAnEarlierRow_2 K58 K72 Q (m + 1) (nI c) h
  | 0, c, hc, hc' => by
    unfold wl_X6_isLikeAnEarlierRow_2
    rw [zb_lt, e8, if_neg (nI_nlt (by omega) (by omega))]
    exact h0
  | m + 1, c, hc, hc' => by
    unfold wl_X6_isLikeAnEarlierRow_2
    rw [zb_lt, e8]
    by_cases q : c < n
    · rw [if_pos (nI_lt q (by omega))]
      refine ⟨c + 1, ?_⟩
      rw [zb_c0]
      refine sp_like1 hn q hL hR (fun ⟨b, b1, b2, b3⟩ => h1 ⟨b, c, b1, q, b2, b3⟩) ?_ c 0 (by omega)
      rw [pm_op_eq, nI_1]
      exact sp_like2 hn e8 hL hR h1 h0 m (c + 1) (by omega) (by omega)
    · rw [if_neg (nI_nlt (by omega) (by omega))]
      exact h0
theorem sp_like {n : Nat} {L : List Nat} {h : pm_H} {Q : Int32 → pm_H → Prop} (hn : n ≤ 5) (e8 : h 1 8 = nI n) (hL : ∀ c, c < n → L.getD c 0 < n) (hR : zRw (h 38) L n) (h1 : (∃ b c, b < c ∧ c < n ∧ L.getD c 0 < L.getD b 0 ∧ pm_max (h 1 9) (h 7 (L.getD b 0)) = pm_max (h 1 9) (h 7 (L.getD c 0))) → Q 1 h) (h0 : Q 0 h) : wp_X6_isLikeAnEarlierRow h Q := by
  unfold wp_X6_isLikeAnEarlierRow
  refine ⟨6, ?_⟩
  rw [show wl_X6_isLikeAnEarlierRow_2 (fun h219 => Q 1 h219) (fun h220 => Q 0 h220) Q 6 1 h = wl_X6_isLikeAnEarlierRow_2 (fun h219 => Q 1 h219) (fun h220 => Q 0 h220) Q 6 (nI 1) h by rw [← zb_c1]]
  exact sp_like2 hn e8 hL hR h1 h0 5 1 (by omega) (by omega)
theorem sp_ordX {w l t i : Int32} {K Q : Int32 → pm_H → Prop} {m : Nat} {h : pm_H} (hK : K l h) : wl_X6_order_54 w K Q (m + 1) l t 0 i h := by
  unfold wl_X6_order_54
  rw [zb_lt]
  by_cases c : i < 120
  · rw [if_pos c, zb_eq, if_pos rfl]; exact hK
  · rw [if_neg c]; exact hK
set_option maxHeartbeats 4000000 in
theorem sp_ordL {w : Int32} {K Q : Int32 → pm_H → Prop} {h0 : pm_H} {n : Nat} (hn : n ≤ 5) (e8 : h0 1 8 = nI n) (H0 : zCl k R h0) : ∀ (m i l : Nat) (t : Int32) (L B : List Nat) (pre : List (List Nat)) (h : pm_H), rEnd n m L = true → rLk n pre (rAll n m L) = true → (∀ L', L' ∈ pre → ¬ oBt (oV R (vN h0) n L').1 ((oV R (vN h0) n L').2 9 0) l t) → i + m = 120 → l ≤ 401 → gO h0 h → zRw (h 38) L n → (l ≤ 400 → ∀ c, c < n → h 39 c = nI (B.getD c 0)) → (∀ h', gO h0 h' → ((oS R (vN h0) n (rAll n m L) l t B).1 ≤ 400 → ∀ c, c < n → h' 39 c = nI ((oS R (vN h0) n (rAll n m L) l t B).2.getD c 0)) → K (nI (oS R (vN h0) n (rAll n m L) l t B).1) h') → wl_X6_order_54 w K Q (m + 1) (nI l) t 1 (nI i) h
  | 0, i, l, t, L, B, pre, h, hE, hP, hI, hi, hl, G, hR, hB, hK => by cases hE
  | m + 1, i, l, t, L, B, pre, h, hE, hP, hI, hi, hl, G, hR, hB, hK => by
    obtain ⟨hLl, hL, hN⟩ := rEnd_get hE
    have H := zCl_o H0 G
    have ev := gO_vN G
    have e8h : h 1 8 = nI n := by rw [G 1 (by omega)]; exact e8
    have hc0 : (vN h0 7 0).toNatClampNeg = n := by rw [vN_70, e8]; exact nI_clamp (by omega)
    have eA : rAll n (m + 1) L = L :: (match rX n L with | none => [] | some L' => rAll n m L') := rfl
    rw [eA] at hP hK
    have hP' := rLk_next hP
    obtain ⟨i1, hi1⟩ : ∃ y : Int32, y = nI i + 1 := ⟨_, rfl⟩
    have hi2 : i1 = nI (i + 1) := by rw [hi1, nI_1]
    -- behind the row: with what is best by then
    have nxg : ∀ (l' : Nat) (t' : Int32) (B' : List Nat) (h1 : pm_H), (oV R (vN h0) n L).1 < l ∨ ((oV R (vN h0) n L).1 = l ∧ (oV R (vN h0) n L).2 9 0 < t) → l' = (oV R (vN h0) n L).1 → t' = (oV R (vN h0) n L).2 9 0 → B' = L → gO h0 h1 → zRw (h1 38) L n → (∀ c, c < n → h1 39 c = nI (B'.getD c 0)) → wp_X6_nextBellRow h1 (fun r h189 => wl_X6_order_54 w K Q (m + 1) (nI l') t' r i1 h189) := by
      intro l' t' B' h1 q el et eB G1 R1 hB1
      subst el et eB
      have hle := (zR_ge (R := R) (shf := zN1) 400 0 (oZ (vN h0) n B')).2
      unfold oS at hK
      simp only [if_pos q] at hK
      refine sp_next hn (by rw [G1 1 (by omega)]; exact e8) R1 (fun e => ?_) (fun L' e h2 o2 R2 => ?_)
      · refine sp_ordX ?_
        rw [e] at hK
        exact hK h1 G1 (fun _ => hB1)
      · rw [e] at hK hP'
        have G2 : gO h0 h2 := gO_trans G1 (fun o ho => o2 o (by omega))
        rw [hi2]
        refine sp_ordL hn e8 H0 m (i + 1) _ _ L' B' (B' :: pre) h2 (hN L' e) hP' ?_ (by omega) (by unfold oV; omega) G2 R2 (fun _ c hc => by rw [o2 39 (by omega)]; exact hB1 c hc) hK
        intro L2 hL2
        rcases List.mem_cons.mp hL2 with rfl | hL2
        · exact oBt_self
        · exact oBt_tr q (hI L2 hL2)
    have stay : ∀ (h1 : pm_H), ¬ ((oV R (vN h0) n L).1 < l ∨ ((oV R (vN h0) n L).1 = l ∧ (oV R (vN h0) n L).2 9 0 < t)) → gO h0 h1 → zRw (h1 38) L n → (l ≤ 400 → ∀ c, c < n → h1 39 c = nI (B.getD c 0)) → wp_X6_nextBellRow h1 (fun r h189 => wl_X6_order_54 w K Q (m + 1) (nI l) t r i1 h189) := by
      intro h1 q G1 R1 hB1
      unfold oS at hK
      simp only [if_neg q] at hK
      refine sp_next hn (by rw [G1 1 (by omega)]; exact e8) R1 (fun e => ?_) (fun L' e h2 o2 R2 => ?_)
      · refine sp_ordX ?_
        rw [e] at hK
        exact hK h1 G1 hB1
      · rw [e] at hK hP'
        have G2 : gO h0 h2 := gO_trans G1 (fun o ho => o2 o (by omega))
        rw [hi2]
        refine sp_ordL hn e8 H0 m (i + 1) _ _ L' B (L :: pre) h2 (hN L' e) hP' ?_ (by omega) hl G2 R2 (fun hl c hc => by rw [o2 39 (by omega)]; exact hB1 hl c hc) hK
        intro L2 hL2
        rcases List.mem_cons.mp hL2 with rfl | hL2
        · exact q
        · exact hI L2 hL2
    unfold wl_X6_order_54
    rw [zb_lt, show (120 : Int32) = nI 120 by decide, if_pos (nI_lt (by omega) (by omega)), zb_eq, if_neg (by decide)]
    refine sp_like hn e8h hL hR (fun ⟨b, c, hb, hc, hlt, hr⟩ => ?_) ?_
    · -- a row like an earlier one
      rw [zb_eq, if_neg (by decide), pm_op_eq, ← hi1]
      refine stay h ?_ G hR hB
      have hm := rLk_get hP b c hb hc hlt
      have e4 : ∀ j, j < n → vN h0 4 j = h 7 j := fun j hj => by rw [← ev]; exact vN_4' (by rw [e8h]; exact nI_clamp (by omega)) hj
      obtain ⟨s1, s2⟩ := oV_sw (R := R) H0.1 hc0 hLl hL (show b < n by omega) hc (by
        rw [e4 _ (hL b (by omega)), e4 _ (hL c hc), ← ev, vN_71]; exact hr)
      have := hI _ hm
      rw [s1, s2] at this
      exact this
    · rw [zb_eq, if_pos rfl]
      refine sp_ordBegin H hn e8h hL hR (fun h1 g1 t1 v1 => ?_)
      rw [ev] at v1
      have eL : pm_min 400 (nI l + 1) = nI (min 400 (l + 1)) := by
        refine zb_teq.mpr ?_
        rw [nI_1, zb_tmin, nI_toInt (by omega), nI_toInt (by omega), show (400 : Int32).toInt = 400 by decide]
        omega
      rw [pm_op_eq, pm_op_eq, eL]
      refine sp_run0 (mi := 0) (h0 := h) H.2.2.1 H.2.2.2.2 (by omega) g1 t1 v1 (fun h2 g2 t2 v2 _ => ?_)
      have G2 : gO h0 h2 := gO_trans G (gC_O g2)
      have R2 : zRw (h2 38) L n := by rw [g2 38 (by omega)]; exact hR
      have B2 : l ≤ 400 → ∀ c, c < n → h2 39 c = nI (B.getD c 0) := fun q c hc => by rw [g2 39 (by omega)]; exact hB q c hc
      have hge := zR_ge (R := R) (shf := zN1) 400 0 (oZ (vN h0) n L)
      simp only [pm_op_eq, ← hi1, zb_lt, zb_eq]
      have eV : oV R (vN h0) n L = zR R zN1 400 0 (oZ (vN h0) n L) := rfl
      have cp : gO h0 (pm_cp h2 38 0 39 0 5) ∧ zRw ((pm_cp h2 38 0 39 0 5) 38) L n ∧ ∀ c, c < n → (pm_cp h2 38 0 39 0 5) 39 c = nI (L.getD c 0) := ⟨fun o ho => by rw [zcp_ne (by omega)]; exact G2 o ho, by rw [zcp_ne (by omega)]; exact R2, fun c hc => by rw [zcp_at (by omega)]; exact R2.2.1 c hc⟩
      rw [← vC_90 (h := h2), v2]
      have full : zR R zN1 (min 400 (l + 1)) 0 (oZ (vN h0) n L) = oV R (vN h0) n L → pm_lt (nI (zR R zN1 (min 400 (l + 1)) 0 (oZ (vN h0) n L)).1) (nI l) (wp_X6_nextBellRow (pm_cp h2 38 0 39 0 5) (fun r h189 => wl_X6_order_54 w K Q (m + 1) (nI (zR R zN1 (min 400 (l + 1)) 0 (oZ (vN h0) n L)).1) ((zR R zN1 (min 400 (l + 1)) 0 (oZ (vN h0) n L)).2 9 0) r i1 h189)) (pm_eq (nI (zR R zN1 (min 400 (l + 1)) 0 (oZ (vN h0) n L)).1) (nI l) (pm_lt ((zR R zN1 (min 400 (l + 1)) 0 (oZ (vN h0) n L)).2 9 0) t (wp_X6_nextBellRow (pm_cp h2 38 0 39 0 5) (fun r h189 => wl_X6_order_54 w K Q (m + 1) (nI (zR R zN1 (min 400 (l + 1)) 0 (oZ (vN h0) n L)).1) ((zR R zN1 (min 400 (l + 1)) 0 (oZ (vN h0) n L)).2 9 0) r i1 h189)) (wp_X6_nextBellRow h2 (fun r h189 => wl_X6_order_54 w K Q (m + 1) (nI l) t r i1 h189))) (wp_X6_nextBellRow h2 (fun r h189 => wl_X6_order_54 w K Q (m + 1) (nI l) t r i1 h189))) := by
        intro b
        rw [b]
        rw [← eV] at hge
        rw [zb_lt]
        by_cases q1 : (oV R (vN h0) n L).1 < l
        · rw [if_pos (nI_lt q1 (by omega))]
          exact nxg _ _ L _ (Or.inl q1) rfl rfl rfl cp.1 cp.2.1 cp.2.2
        · rw [if_neg (nI_nlt (by omega) (by omega)), zb_eq]
          by_cases q2 : (oV R (vN h0) n L).1 = l
          · rw [if_pos (by rw [q2]), zb_lt]
            by_cases q3 : (oV R (vN h0) n L).2 9 0 < t
            · rw [if_pos q3]
              exact nxg _ _ L _ (Or.inr ⟨q2, q3⟩) rfl rfl rfl cp.1 cp.2.1 cp.2.2
            · rw [if_neg q3]
              exact stay h2 (by rintro (z | z); exact q1 z; exact q3 z.2) G2 R2 B2
          · rw [if_neg (fun z => q2 ((nI_eq (by omega) (by omega)).mp z))]
            exact stay h2 (by rintro (z | z); exact q1 z; exact q2 z.1) G2 R2 B2
      rcases zR_lim (R := R) (shf := zN1) (min 400 (l + 1)) 400 0 (oZ (vN h0) n L) (by omega) with ⟨a, b⟩ | ⟨a, b⟩
      · exact full b.symm
      · by_cases hl4 : l + 1 ≤ 400
        · rw [← eV] at b
          rw [if_neg (nI_nlt (by omega) (by omega)), if_neg (fun z => by
            have := (nI_eq (by omega) (by omega)).mp z
            omega)]
          exact stay h2 (by rintro (z | z) <;> omega) G2 R2 B2
        · have e4 : min 400 (l + 1) = 400 := by omega
          rw [e4] at full ⊢
          exact full rfl
theorem sp_ordI {w : Int32} {K : pm_H → Prop} {Q : Int32 → pm_H → Prop} {n : Nat} (hn : n ≤ 5) : ∀ (m c : Nat) (h : pm_H), c + m = n → h 1 8 = nI n → (∀ h', (∀ o, o ≠ 38 → h' o = h o) → (∀ i, h' 38 i = if c ≤ i ∧ i < n then nI i else h 38 i) → K h') → wl_X6_order_18 w K Q (m + 1) (nI c) h
  | 0, c, h, hs, e1, hK => by
    unfold wl_X6_order_18
    rw [zb_lt, e1, if_neg (nI_nlt (by omega) (by omega))]
    exact hK h (fun _ _ => rfl) (fun i => by rw [if_neg (by omega)])
  | m + 1, c, h, hs, e1, hK => by
    unfold wl_X6_order_18
    rw [zb_lt, e1, if_pos (nI_lt (by omega) (by omega)), zb_ib (zb_in (by omega) (by omega)), pm_op_eq, nI_1, nI_clamp (by omega)]
    refine sp_ordI hn m (c + 1) _ (by omega) (by rw [zb_un (by omega)]; exact e1) (fun h' e2 e3 => hK h' (fun o ho => by rw [e2 o ho, zb_un ho]) (fun i => ?_))
    rw [e3, zb_ur]
    unfold upd
    by_cases c1 : i = c
    · subst c1
      rw [if_neg (by omega), if_pos rfl, if_pos (by omega)]
    · rw [if_neg c1]
      by_cases c2 : c ≤ i ∧ i < n
      · rw [if_pos c2, if_pos (by omega)]
      · rw [if_neg c2, if_neg (by omega)]
theorem rFst_get {n c : Nat} (hc : c < n) : (rFst n).getD c 0 = c := by
  unfold rFst
  rw [List.getD_eq_getElem?_getD, List.getElem?_range hc]
  rfl
theorem zRw_fst {f : Nat → Int32} {n : Nat} (hn : n ≤ 5) (h : ∀ c, c < n → f c = nI c) : zRw f (rFst n) n := ⟨by unfold rFst; simp, fun c hc => by rw [rFst_get hc]; exact h c hc, fun c hc => by rw [rFst_get hc]; omega⟩
theorem sp_isClass {a : Int32} {h : pm_H} {Q : Int32 → pm_H → Prop} (h0 : (a < 0 ∨ ¬ a < h 1 8) → Q 0 h) (h1 : ¬ (a < 0 ∨ ¬ a < h 1 8) → Q 1 h) : wp_X6_isClass a h Q := by
  unfold wp_X6_isClass
  rw [zb_lt, zb_lt]
  by_cases c1 : a < 0
  · rw [if_pos c1]; exact h0 (Or.inl c1)
  · rw [if_neg c1]
    by_cases c2 : a < h 1 8
    · rw [if_pos c2]; exact h1 (fun q => q.elim c1 (fun z => z c2))
    · rw [if_neg c2]; exact h0 (Or.inr c2)
set_option maxHeartbeats 2000000 in
theorem sp_order {w : Int32} {h : pm_H} {Q : Int32 → pm_H → Prop} (H : zCl k R h) (hq : ∀ h', gO h h' → Q (aOrd R (vN h) w) h') : wp_X6_order w h Q := by
  obtain ⟨n, hn, e, e'⟩ := zCl_cnt H
  have hE := rEnd_ok n (by omega)
  have hLk := rLk_ok n (by omega)
  unfold aOrd at hq
  rw [vN_70, e'] at hq
  have go : (w = -1 ∨ ∃ j, j < n ∧ w = nI j) → ∃ n232, wl_X6_order_18 w (fun h228 => ∃ n231, wl_X6_order_54 w (fun x230 h229 => pm_eq w (-1) (Q x230 h229) (pm_ib (pm_in w 5) (Q (h229 39 w.toNatClampNeg) h229))) Q n231 401 0 1 0 h228) Q n232 0 h := by
    intro hw
    refine ⟨n + 1, ?_⟩
    have e401 : (401 : Int32) = nI 401 := by decide
    rw [show wl_X6_order_18 w (fun h228 => ∃ n231, wl_X6_order_54 w (fun x230 h229 => pm_eq w (-1) (Q x230 h229) (pm_ib (pm_in w 5) (Q (h229 39 w.toNatClampNeg) h229))) Q n231 401 0 1 0 h228) Q (n + 1) 0 h = wl_X6_order_18 w (fun h228 => ∃ n231, wl_X6_order_54 w (fun x230 h229 => pm_eq w (-1) (Q x230 h229) (pm_ib (pm_in w 5) (Q (h229 39 w.toNatClampNeg) h229))) Q n231 (nI 401) 0 1 (nI 0) h228) Q (n + 1) (nI 0) h by rw [← e401, ← zb_c0]]
    refine sp_ordI hn n 0 h (by omega) e (fun h1 e1 e2 => ⟨121, ?_⟩)
    have G1 : gO h h1 := fun o ho => e1 o (by omega)
    refine sp_ordL hn e H 120 0 401 0 (rFst n) [] [] h1 hE hLk (fun _ z => absurd z List.not_mem_nil) (by omega) (by omega) G1 (zRw_fst hn (fun c hc => by rw [e2, if_pos (by omega)])) (fun z => absurd z (by omega)) (fun h2 G2 hb => ?_)
    rw [zb_eq]
    rcases hw with rfl | ⟨j, hj, rfl⟩
    · rw [if_pos rfl]
      have := hq h2 G2
      rw [if_neg (fun z => z.1 rfl), if_pos rfl] at this
      exact this
    · have hne : ¬ nI j = -1 := by
        intro q
        have := congrArg Int32.toInt q
        rw [nI_toInt (by omega), show (-1 : Int32).toInt = -1 by decide] at this
        omega
      rw [if_neg hne, zb_ib (zb_in (by omega) (by omega)), nI_clamp (by omega)]
      have := hq h2 G2
      rw [if_neg (fun z => by
        rcases z.2 with z | z
        · exact nI_pos (by omega) z
        · rw [e] at z; exact z (nI_lt hj (by omega))), if_neg hne, nI_clamp (by omega)] at this
      rw [hb ?_ j hj]
      · exact this
      · -- the first row is better than none
        have hh : ∃ m, (120 : Nat) = m + 1 := ⟨119, rfl⟩
        have eA : rAll n 120 (rFst n) = rFst n :: (match rX n (rFst n) with | none => [] | some L' => rAll n 119 L') := rfl
        have le := (zR_ge (R := R) (shf := zN1) 400 0 (oZ (vN h) n (rFst n))).2
        have mono : ∀ rs l t B, (oS R (vN h) n rs l t B).1 ≤ l := by
          intro rs
          induction rs with
          | nil => intro l t B; exact Nat.le_refl _
          | cons L rs ih =>
            intro l t B
            unfold oS
            by_cases q : (oV R (vN h) n L).1 < l ∨ ((oV R (vN h) n L).1 = l ∧ (oV R (vN h) n L).2 9 0 < t)
            · rw [if_pos q]
              have := ih (oV R (vN h) n L).1 ((oV R (vN h) n L).2 9 0) L
              omega
            · rw [if_neg q]; exact ih l t B
        rw [eA]
        unfold oS
        rw [if_pos (Or.inl (by unfold oV; omega))]
        have := mono (match rX n (rFst n) with | none => [] | some L' => rAll n 119 L') (oV R (vN h) n (rFst n)).1 ((oV R (vN h) n (rFst n)).2 9 0) (rFst n)
        unfold oV at this ⊢
        omega
  unfold wp_X6_order
  rw [zb_eq]
  by_cases c : w = -1
  · rw [if_pos c]
    exact go (Or.inl c)
  · rw [if_neg c]
    refine sp_isClass (fun d => ?_) (fun d => ?_)
    · rw [zb_eq, if_pos rfl]
      have := hq h (fun _ _ => rfl)
      rw [if_pos ⟨c, d⟩] at this
      exact this
    · rw [zb_eq, if_neg (by decide)]
      refine go (Or.inr ?_)
      have c1 : ¬ w < 0 := fun z => d (Or.inl z)
      have c2 : w < nI n := by
        rcases Classical.em (w < nI n) with z | z
        · exact z
        · exact absurd (Or.inr (by rw [e]; exact z)) d
      rw [zb_tlt, Int32.toInt_zero] at c1
      rw [zb_tlt, nI_toInt (by omega)] at c2
      obtain ⟨j, hj, ej, -⟩ := zB_nat (b := 5) (x := w) ⟨by omega, by omega⟩
      refine ⟨j, ?_, ej⟩
      rw [ej, nI_toInt (by omega)] at c2
      omega
end
