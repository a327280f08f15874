/-! MATHEMATICS, 41: the class's calls about what would be better -/
theorem zV_wider {z : pm_H} {s : Nat} (hV : zV z) (hs : s < 10) (h9 : z 1 s < 9) : zV (pm_u z 1 s (z 1 s + 1)) := by
  obtain ⟨v1, v2, v3, v4⟩ := hV
  unfold zV
  simp only [zb_un (o := 1) (o' := 0) (by omega), zb_un (o := 1) (o' := 2) (by omega), zb_un (o := 1) (o' := 3) (by omega), zb_un (o := 1) (o' := 4) (by omega), zb_un (o := 1) (o' := 5) (by omega), zb_un (o := 1) (o' := 6) (by omega), zb_un (o := 1) (o' := 7) (by omega)]
  refine ⟨v1, v2, fun j hj => ?_, v4⟩
  obtain ⟨a1, a2, a3, a4⟩ := v3 j hj
  rw [zb_ur]
  unfold upd
  by_cases e : j = s
  · subst e
    rw [if_pos rfl]
    have e9 : (9 : Int32).toInt = 9 := by decide
    rw [zb_tlt, e9] at h9
    have b := a2.1
    have := zHo_wider a1 (w := z 1 j) ⟨b, by omega⟩
    have e1 : (z 1 j + 1).toInt = (z 1 j).toInt + 1 := by rw [zb_tadd (by rw [Int32.toInt_one]; omega) (by rw [Int32.toInt_one]; omega), Int32.toInt_one]
    exact ⟨a1, ⟨by omega, by omega⟩, a3, by omega⟩
  · rw [if_neg e]; exact ⟨a1, a2, a3, a4⟩
theorem zV_bell {z : pm_H} {c : Nat} {x : Int32} (hV : zV z) (hx : zB 0 999 x) : zV (pm_u z 4 c x) := by
  refine zV_bells hV (fun r _ h => zb_un h) (fun j hj => ?_)
  rw [zb_ur]
  unfold upd
  by_cases e : j = c
  · rw [if_pos e]; exact hx
  · rw [if_neg e]; exact (hV.2.2.2 j hj).2.1
theorem zV_Be {f : Nat → Int32} {m c : Nat} {z : pm_H} (hV : zV z) (hf : ∀ j, j < (z 7 0).toNatClampNeg → zB 0 999 (f j)) : zV (zBe f m c z) := by
  refine zV_bells hV (fun r _ h => zBe_r h) (fun j hj => ?_)
  rw [zBe_4]
  by_cases e : c ≤ j ∧ j < c + m
  · rw [if_pos e]; exact hf j hj
  · rw [if_neg e]; exact (hV.2.2.2 j hj).2.1
section
variable {k : Nat} {R : Nat → List Int32}
set_option maxHeartbeats 1000000 in
theorem sp_widL {K Q : Int32 → pm_H → Prop} {h0 : pm_H} : ∀ (m s l : Nat) (w : Int32) (h : pm_H), s + m = 10 → l ≤ 400 → zCl k R h → gC h0 h → (∀ h', gC h0 h' → K (zWid R (vN h0) m s l w) h') → wl_X6_widen_19 K Q (m + 1) (nI l) w (nI s) h
  | 0, s, l, w, h, hs, hl, H, G, hK => by
    unfold wl_X6_widen_19
    rw [zb_lt, show (10 : Int32) = nI 10 by decide, if_neg (nI_nlt (by omega) (by omega))]
    exact hK h G
  | m + 1, s, l, w, h, hs, hl, H, G, hK => by
    have ev := gC_vN G
    unfold wl_X6_widen_19
    simp only [zb_lt, show (10 : Int32) = nI 10 by decide, zb_in (j := s) (n := 10) (by omega) (by omega), zb_ibt, nI_clamp (n := s) (by omega), pm_op_eq, nI_1]
    rw [if_pos (nI_lt (by omega) (by omega))]
    unfold zWid at hK
    rw [← ev, vN_1 (by omega)] at hK
    by_cases c : h 3 s < 9
    · rw [if_pos c]
      simp only [if_pos c] at hK
      refine sp_begins H (fun h1 g1 t1 v1 m1 _ => ?_)
      have e22 : h1 22 s = h 3 s := by rw [← vC_1 (h := h1) (by omega), v1, vN_1 (by omega)]
      rw [e22]
      have evu : vC (pm_u h1 22 s (h 3 s + 1)) = pm_u (vN h) 1 s (h 3 s + 1) := by rw [vC_u1 (by omega), v1]
      have F1 : fC h1 (pm_u h1 22 s (h 3 s + 1)) := fC_u (by omega) (by omega) (by omega) (by omega)
      refine sp_run0 (mi := 0) (h0 := h) H.2.2.1 H.2.2.2.2 (by omega) (gC_trans g1 (fC_g F1)) (zTr_f t1 F1 ?_) evu (fun h' g t v m' => ?_)
      · rw [evu]
        have := zV_wider (s := s) H.1 (by omega) (by rw [vN_1 (by omega)]; exact c)
        rw [vN_1 (by omega)] at this
        exact this
      · have H' := zCl_g H g
        have G' := gC_trans G g
        rcases zR_lim (R := R) (shf := zN1) l 400 0 (pm_u (vN h) 1 s (h 3 s + 1)) hl with ⟨a, b⟩ | ⟨a, b⟩
        · rw [b] at hK
          rw [if_pos (nI_lt (by omega) (by omega))]
          refine sp_widL m (s + 1) _ _ h' (by omega) (by omega) H' G' (fun h2 g2 => ?_)
          have := hK h2 g2
          rw [if_pos (by omega), ev] at this
          rw [ev]
          exact this
        · rw [if_neg (nI_nlt (by omega) (by omega))]
          refine sp_widL m (s + 1) l w h' (by omega) hl H' G' (fun h2 g2 => ?_)
          have := hK h2 g2
          rw [if_neg (by omega), ev] at this
          exact this
    · rw [if_neg c]
      simp only [if_neg c] at hK
      rw [ev] at hK
      exact sp_widL m (s + 1) l w h (by omega) hl H G hK
theorem sp_widen {h : pm_H} {Q : Int32 → pm_H → Prop} (H : zCl k R h) (hq : ∀ h', gC h h' → Q (aWid R (vN h)) h') : wp_X6_widen h Q := by
  unfold aWid at hq
  unfold wp_X6_widen
  refine sp_begins H (fun h1 g1 t1 v1 m1 _ => ?_)
  rw [show (400 : Int32) = nI 400 by decide]
  refine sp_run0 H.2.2.1 H.2.2.2.2 (by omega) g1 t1 v1 (fun h' g t v m => ?_)
  refine ⟨11, ?_⟩
  rw [zb_c0]
  have := (zR_ge (R := R) (shf := zN1) 400 0 (vN h)).2
  exact sp_widL (h0 := h) 10 0 _ _ h' (by omega) (by omega) (zCl_g H g) g hq
theorem zb_min199 {x : Int32} (h : 0 ≤ x.toInt) : zB 0 999 (pm_min 199 x) := by
  unfold zB
  rw [zb_tmin, show (199 : Int32).toInt = 199 by decide]
  omega
set_option maxHeartbeats 1000000 in
theorem sp_latL {K Q : Int32 → pm_H → Prop} {h0 : pm_H} {cnt : Nat} (hc : cnt ≤ 5) (ec : h0 1 8 = nI cnt) : ∀ (m c : Nat) (l w : Int32) (h : pm_H), c + m = cnt → zCl k R h → gC h0 h → (∀ h', gC h0 h' → K (zLat R (vN h0) m c l w) h') → wl_X6_later_27 K Q (m + 1) l w (nI c) h
  | 0, c, l, w, h, hs, H, G, hK => by
    unfold wl_X6_later_27
    rw [zb_lt, G 1 (by omega), ec, if_neg (nI_nlt (by omega) (by omega))]
    exact hK h G
  | m + 1, c, l, w, h, hs, H, G, hK => by
    have ev := gC_vN G
    have e18 : h 1 8 = nI cnt := by rw [G 1 (by omega)]; exact ec
    have hcc : c < (h 1 8).toNatClampNeg := by rw [e18, nI_clamp (by omega)]; omega
    unfold wl_X6_later_27
    simp only [zb_lt, e18, zb_in (j := c) (n := 5) (by omega) (by omega), zb_ibt, nI_clamp (n := c) (by omega), pm_op_eq, nI_1]
    rw [if_pos (nI_lt (by omega) (by omega))]
    unfold zLat at hK
    rw [← ev, vN_4 hcc] at hK
    refine sp_begins H (fun h1 g1 t1 v1 m1 e20 => ?_)
    rw [g1 7 (by omega)]
    have evu : vC (pm_u h1 26 c (pm_min 199 (h 7 c + 20))) = pm_u (vN h) 4 c (pm_min 199 (h 7 c + 20)) := by rw [vC_u4 (by rw [e20]; exact hcc), v1]
    have F1 : fC h1 (pm_u h1 26 c (pm_min 199 (h 7 c + 20))) := fC_u (by omega) (by omega) (by omega) (by omega)
    rw [show (400 : Int32) = nI 400 by decide]
    refine sp_run0 (mi := 0) (h0 := h) H.2.2.1 H.2.2.2.2 (by omega) (gC_trans g1 (fC_g F1)) (zTr_f t1 F1 ?_) evu (fun h' g t v m' => ?_)
    · rw [evu]
      refine zV_bell H.1 (zb_min199 ?_)
      have b := (H.1.2.2.2 c (by rw [vN_70]; exact hcc)).2.1
      rw [vN_4 hcc] at b
      unfold zB at b
      rw [zb_tadd (by rw [show (20 : Int32).toInt = 20 by decide]; omega) (by rw [show (20 : Int32).toInt = 20 by decide]; omega), show (20 : Int32).toInt = 20 by decide]
      omega
    · rw [← vC_90 (h := h'), v]
      have H' := zCl_g H g
      have G' := gC_trans G g
      by_cases q : (zR R zN1 400 0 (pm_u (vN h) 4 c (pm_min 199 (h 7 c + 20)))).2 9 0 < l
      · rw [if_pos q]
        refine sp_latL hc ec m (c + 1) _ _ h' (by omega) H' G' (fun h2 g2 => ?_)
        have := hK h2 g2
        rw [if_pos q, ev] at this
        rw [ev]
        exact this
      · rw [if_neg q]
        refine sp_latL hc ec m (c + 1) l w h' (by omega) H' G' (fun h2 g2 => ?_)
        have := hK h2 g2
        rw [if_neg q, ev] at this
        exact this
theorem sp_later {h : pm_H} {Q : Int32 → pm_H → Prop} (H : zCl k R h) (hq : ∀ h', gC h h' → Q (aLat R (vN h)) h') : wp_X6_later h Q := by
  obtain ⟨n, hn, e, e'⟩ := zCl_cnt H
  unfold aLat at hq
  rw [vN_70, e'] at hq
  unfold wp_X6_later
  refine sp_begins H (fun h1 g1 t1 v1 m1 _ => ?_)
  rw [show (400 : Int32) = nI 400 by decide]
  refine sp_run0 H.2.2.1 H.2.2.2.2 (by omega) g1 t1 v1 (fun h' g t v m => ?_)
  refine ⟨n + 1, ?_⟩
  rw [zb_c0, ← vC_90 (h := h'), v]
  exact sp_latL (h0 := h) hn e n 0 _ _ h' (by omega) (zCl_g H g) g hq
/-- bells by distance -/
theorem sp_apL {K Q : pm_H → Prop} {d cnt : Nat} (hc : cnt ≤ 5) : ∀ (m c : Nat) (h : pm_H), c + m = cnt → h 1 8 = nI cnt → h 20 8 = nI cnt → (∀ h', fC h h' → vC h' = zBe (zBa d) m c (vC h) → K h') → wl_X6_beginTrialApart_6 (nI d) K Q (m + 1) (nI c) h
  | 0, c, h, hs, e1, e2, hK => by
    unfold wl_X6_beginTrialApart_6
    rw [zb_lt, e1, if_neg (nI_nlt (by omega) (by omega))]
    exact hK h fC_rfl rfl
  | m + 1, c, h, hs, e1, e2, hK => by
    unfold wl_X6_beginTrialApart_6
    rw [zb_lt, e1, if_pos (nI_lt (by omega) (by omega)), zb_ib (zb_in (by omega) (by omega)), pm_op_eq, pm_op_eq, pm_op_eq, nI_1, nI_clamp (by omega)]
    have F1 : fC h (pm_u h 26 c (pm_min 199 (nI c * nI d))) := fC_u (by omega) (by omega) (by omega) (by omega)
    refine sp_apL hc m (c + 1) _ (by omega) (by rw [zb_un (by omega)]; exact e1) (by rw [zb_un (by omega)]; exact e2) (fun h' f v => hK h' (fC_trans F1 f) ?_)
    rw [v, vC_u4 (by rw [e2, nI_clamp (by omega)]; omega)]
    rfl
theorem zBa_ok {d c : Nat} (hd : d ≤ 100) (hc : c ≤ 100) : zB 0 999 (zBa d c) := by
  refine zb_min199 ?_
  have h1 : (c : Int) * d ≤ 100 * 100 := by
    have : c * d ≤ 100 * 100 := Nat.mul_le_mul hc hd
    omega
  have h0 : (0 : Int) ≤ (c : Int) * d := Int.mul_nonneg (by omega) (by omega)
  rw [zb_tmul (by rw [nI_toInt (by omega), nI_toInt (by omega)]; omega) (by rw [nI_toInt (by omega), nI_toInt (by omega)]; omega), nI_toInt (by omega), nI_toInt (by omega)]
  exact h0
theorem sp_apBegin {d : Nat} (hd : d ≤ 30) {h : pm_H} {Q : pm_H → Prop} (H : zCl k R h) (hq : ∀ h', gC h h' → zTr k R 0 h' → vC h' = zAp (vN h) d → Q h') : wp_X6_beginTrialApart (nI d) h Q := by
  obtain ⟨n, hn, e, e'⟩ := zCl_cnt H
  unfold wp_X6_beginTrialApart
  refine sp_begins H (fun h1 g1 t1 v1 m1 e20 => ?_)
  refine ⟨n + 1, ?_⟩
  rw [zb_c0]
  refine sp_apL (d := d) hn n 0 h1 (by omega) (by rw [g1 1 (by omega)]; exact e) (by rw [e20]; exact e) (fun h' f v => ?_)
  have ev : vC h' = zAp (vN h) d := by
    unfold zAp
    rw [v, v1, vN_70, e']
  refine hq h' (gC_trans g1 (fC_g f)) (zTr_f t1 f ?_) ev
  rw [ev]
  refine zV_Be H.1 (fun j hj => zBa_ok (by omega) ?_)
  rw [vN_70, e'] at hj
  omega
/-- till somebody stands -/
theorem sp_a0i {K : pm_H → Prop} {Q : Int32 → pm_H → Prop} {d : Int32} (hk : k < 6) (hR : zWf R) : ∀ (m n : Nat) (h : pm_H), n + m = 400 → zTr k R 0 h → (∀ h', fC h h' → vC h' = zRs R m (vC h) → K h') → wl_X6_leastApart_15 d K Q (m + 1) (nI n) h
  | 0, n, h, hn, H, hK => by
    unfold wl_X6_leastApart_15
    rw [zb_lt, show (400 : Int32) = nI 400 by decide, if_neg (nI_nlt (by omega) (by omega))]
    exact hK h fC_rfl rfl
  | m + 1, n, h, hn, H, hK => by
    unfold wl_X6_leastApart_15
    unfold zRs at hK
    rw [zb_lt, show (400 : Int32) = nI 400 by decide, if_pos (nI_lt (by omega) (by omega)), zb_eq, ← vC_90 (h := h)]
    by_cases c : vC h 9 0 = 0
    · rw [if_pos c]
      simp only [if_pos c] at hK
      refine sp_allOut H.1 (fun q => ?_) (fun q => ?_)
      · rw [zb_eq, if_neg (by decide)]
        simp only [if_pos q] at hK
        exact hK h fC_rfl rfl
      · rw [zb_eq, if_pos rfl]
        simp only [if_neg q] at hK
        refine sp_pass hk hR H (fun h1 F H1 e1 _ => ?_)
        rw [pm_op_eq, nI_1]
        exact sp_a0i hk hR m (n + 1) h1 (by omega) H1 (fun h2 F2 e2 => hK h2 (fC_trans F F2) (by rw [e2, e1]))
    · rw [if_neg c]
      simp only [if_neg c] at hK
      exact hK h fC_rfl rfl
theorem zAp_90 {h : pm_H} {d : Nat} : zAp (vN h) d 9 0 = 0 := by
  unfold zAp
  rw [zBe_r (by omega), vN_9 (by omega)]
theorem zAp_V {h : pm_H} {d : Nat} (hd : d ≤ 30) (H : zCl k R h) : zV (zAp (vN h) d) := by
  obtain ⟨n, hn, e, e'⟩ := zCl_cnt H
  refine zV_Be H.1 (fun j hj => zBa_ok (by omega) ?_)
  rw [vN_70, e'] at hj
  omega
set_option maxHeartbeats 1000000 in
theorem sp_a0L {K69 : Int32 → pm_H → Prop} {K77 : pm_H → Prop} {Q : Int32 → pm_H → Prop} {h0 : pm_H} {P : Int32 → pm_H → Prop} (h69 : ∀ x h, P x h → K69 x h) (h77 : ∀ h, P (-1) h → K77 h) : ∀ (m d : Nat) (h : pm_H), d + m = 31 → zCl k R h → gC h0 h → (∀ h', gC h0 h' → P (zA0 R (vN h0) m d) h') → wl_X6_leastApart_2 K69 K77 Q (m + 1) (nI d) h
  | 0, d, h, hd, H, G, hK => by
    unfold wl_X6_leastApart_2
    rw [zb_lt, show (30 : Int32) = nI 30 by decide, if_pos (nI_lt (by omega) (by omega))]
    exact h77 h (hK h G)
  | m + 1, d, h, hd, H, G, hK => by
    have ev := gC_vN G
    unfold wl_X6_leastApart_2
    rw [zb_lt, show (30 : Int32) = nI 30 by decide, if_neg (nI_nlt (by omega) (by omega))]
    refine sp_apBegin (d := d) (by omega) H (fun h1 g1 t1 v1 => ?_)
    refine ⟨401, ?_⟩
    rw [zb_c0]
    refine sp_a0i H.2.2.1 H.2.2.2.2 400 0 h1 (by omega) t1 (fun h2 f v => ?_)
    rw [← zb_c0, zb_eq, ← vC_90 (h := h2), v, v1]
    have iff := zRs_iff (R := R) 400 0 (zAp (vN h) d) (zAp_V (by omega) H) (by rw [zAp_90]; simp) (by rw [zAp_90]; simp)
    unfold zA0 at hK
    rw [← ev] at hK
    have G2 := gC_trans G (gC_trans g1 (fC_g f))
    by_cases c : zRs R 400 (zAp (vN h) d) 9 0 = 0
    · rw [if_pos c]
      simp only [if_pos (iff.mp c)] at hK
      exact h69 _ _ (hK h2 G2)
    · rw [if_neg c]
      simp only [if_neg (mt iff.mpr c)] at hK
      rw [pm_op_eq, nI_1]
      exact sp_a0L h69 h77 m (d + 1) h2 (by omega) (zCl_g H (gC_trans g1 (fC_g f))) G2 (fun h' g' => by have := hK h' g'; rw [ev] at this; exact this)
set_option maxHeartbeats 1000000 in
theorem sp_a1L {K Q : Int32 → pm_H → Prop} {h0 : pm_H} : ∀ (m d l : Nat) (w : Int32) (h : pm_H), d + m = 31 → l ≤ 401 → zCl k R h → gC h0 h → (∀ h', gC h0 h' → K (zA1 R (vN h0) m d l w) h') → wl_X6_soonestApart_8 K Q (m + 1) (nI l) w (nI d) h
  | 0, d, l, w, h, hd, hl, H, G, hK => by
    unfold wl_X6_soonestApart_8
    rw [zb_lt, show (30 : Int32) = nI 30 by decide, if_pos (nI_lt (by omega) (by omega))]
    exact hK h G
  | m + 1, d, l, w, h, hd, hl, H, G, hK => by
    have ev := gC_vN G
    unfold wl_X6_soonestApart_8
    rw [zb_lt, show (30 : Int32) = nI 30 by decide, if_neg (nI_nlt (by omega) (by omega))]
    refine sp_apBegin (d := d) (by omega) H (fun h1 g1 t1 v1 => ?_)
    rw [pm_op_eq, pm_op_eq, nI_1]
    have eL : pm_min 400 (nI l) = nI (min 400 l) := by
      refine zb_teq.mpr ?_
      rw [zb_tmin, nI_toInt (by omega), nI_toInt (by omega), show (400 : Int32).toInt = 400 by decide]
      omega
    rw [eL]
    refine sp_run0 (mi := 0) (h0 := h) H.2.2.1 H.2.2.2.2 (by omega) g1 t1 v1 (fun h' g t v m' => ?_)
    have H' := zCl_g H g
    have G' := gC_trans G g
    unfold zA1 at hK
    rw [← ev] at hK
    have hge := zR_ge (R := R) (shf := zN1) 400 0 (zAp (vN h) d)
    rw [zb_lt]
    rcases zR_lim (R := R) (shf := zN1) (min 400 l) 400 0 (zAp (vN h) d) (by omega) with ⟨a, b⟩ | ⟨a, b⟩
    · rw [b] at hK
      rw [if_pos (nI_lt (by omega) (by omega))]
      simp only [if_pos (show (zR R zN1 (min 400 l) 0 (zAp (vN h) d)).1 < l by omega)] at hK
      exact sp_a1L m (d + 1) _ _ h' (by omega) (by omega) H' G' (fun h2 g2 => by have := hK h2 g2; rw [ev] at this; rw [ev]; exact this)
    · by_cases c : (zR R zN1 400 0 (zAp (vN h) d)).1 < l
      · have e1 : (zR R zN1 400 0 (zAp (vN h) d)).1 = (zR R zN1 (min 400 l) 0 (zAp (vN h) d)).1 := by omega
        rw [if_pos (nI_lt (by omega) (by omega))]
        simp only [if_pos c] at hK
        rw [e1] at hK
        exact sp_a1L m (d + 1) _ _ h' (by omega) (by omega) H' G' (fun h2 g2 => by have := hK h2 g2; rw [ev] at this; rw [ev]; exact this)
      · rw [if_neg (nI_nlt (by omega) (by omega))]
        simp only [if_neg c] at hK
        exact sp_a1L m (d + 1) l w h' (by omega) hl H' G' (fun h2 g2 => by have := hK h2 g2; rw [ev] at this; exact this)
theorem sp_apart {w : Int32} {h : pm_H} {Q : Int32 → pm_H → Prop} (H : zCl k R h) (hq : ∀ h', gC h h' → Q (aApa R (vN h) w) h') : wp_X6_apart w h Q := by
  unfold aApa at hq
  unfold wp_X6_apart
  rw [zb_eq, zb_eq]
  by_cases c0 : w = 0
  · simp only [if_pos c0] at hq ⊢
    unfold wp_X6_leastApart
    refine ⟨32, ?_⟩
    rw [zb_c0]
    exact sp_a0L (P := Q) (h0 := h) (fun _ _ => id) (fun _ => id) 31 0 h (by omega) H gC_rfl hq
  · simp only [if_neg c0] at hq ⊢
    by_cases c1 : w = 1
    · simp only [if_pos c1] at hq ⊢
      unfold wp_X6_soonestApart
      refine ⟨32, ?_⟩
      rw [zb_c0, show (401 : Int32) = nI 401 by decide]
      exact sp_a1L (h0 := h) 31 0 401 (-1) h (by omega) (by omega) H gC_rfl hq
    · simp only [if_neg c1] at hq ⊢
      exact hq h gC_rfl
end
