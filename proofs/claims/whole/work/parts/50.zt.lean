/-! MATHEMATICS, 50: what would be better, by the reference -/
section
variable {k : Nat} {R : Nat → List Int32}
theorem vZ_r {z : pm_H} {r : Nat} (hr : r < 8) : vZ z r = z r := by funext j; unfold vZ; rw [if_pos hr]
set_option maxHeartbeats 2000000 in
theorem sm_widL {K Q : Int32 → pm_H → Prop} {h0 : pm_H} : ∀ (m s l : Nat) (w : Int32) (h : pm_H), s + m = 10 → l ≤ 400 → zMk k R h → (∀ j, j < 10 → (vM h 1 j).toInt ≤ 9) → gM h0 h → vZ (vM h) = vZ (vM h0) → (∀ h', gM h0 h' → K (zWid R (vZ (vM h0)) m s l w) h') → wl_X7_widen_9 K Q (m + 1) (nI l) w (nI s) h
  | 0, s, l, w, h, hs, hl, H, hW, G, ev, hK => by
    unfold wl_X7_widen_9
    rw [zb_lt, show (10 : Int32) = nI 10 by decide, if_neg (nI_nlt (by omega) (by omega))]
    exact hK h G
  | m + 1, s, l, w, h, hs, hl, H, hW, G, ev, hK => by
    have hs10 : s < 10 := by omega
    unfold wl_X7_widen_9
    simp only [zb_lt, zb_eq, show (10 : Int32) = nI 10 by decide, zb_in (j := s) (n := 10) hs10 (by omega), zb_ibt, nI_clamp (n := s) (by omega), pm_op_eq, nI_1]
    rw [if_pos (nI_lt (by omega) (by omega))]
    unfold zWid at hK
    rw [← ev] at hK
    have e1 : vZ (vM h) 1 s = h 68 s := by rw [vZ_r (by omega), vM_1 hs10]
    rw [e1] at hK
    have w9 := hW s hs10
    have w1 := (H.1.1.2.2.1 s hs10).2.1.1
    rw [vM_1 hs10] at w9 w1
    have e9 : (9 : Int32).toInt = 9 := by decide
    by_cases c : h 68 s = 9
    · rw [if_pos c]
      simp only [if_neg (show ¬ h 68 s < 9 by rw [c]; decide)] at hK
      rw [ev] at hK
      exact sm_widL m (s + 1) l w h (by omega) hl H hW G ev hK
    · rw [if_neg c]
      have c' : h 68 s < 9 := by
        rw [zb_tlt, e9]
        rw [zb_teq, e9] at c
        omega
      simp only [if_pos c'] at hK
      have ev1 : vM (pm_u h 68 s (h 68 s + 1)) = pm_u (vM h) 1 s (h 68 s + 1) := vM_u1 hs10
      have H1 : zMk k R (pm_u h 68 s (h 68 s + 1)) := by
        refine ⟨⟨?_, zTm_of (zb_un (by omega)) (zb_un (by omega)) H.1.2.1, by rw [zb_un (by omega)]; exact H.1.2.2.1, H.1.2.2.2⟩, by rw [zb_un (by omega)]; exact H.2⟩
        rw [ev1]
        have := zV_wider (s := s) H.1.1 hs10 (by rw [vM_1 hs10]; exact c')
        rw [vM_1 hs10] at this
        exact this
      have ez : vZ (vM (pm_u h 68 s (h 68 s + 1))) = pm_u (vZ (vM h)) 1 s (h 68 s + 1) := by rw [ev1, vZ_u (by omega)]
      refine sm_ends_ H1 (fun h2 g _ _ _ _ _ => ?_)
      rw [ez]
      have e68 : h2 68 s = h 68 s + 1 := by rw [(g.2.1 s hs10).1, zb_us]
      have e68' : h2 68 s - 1 = h 68 s := by
        rw [e68]
        refine zb_teq.mpr ?_
        have q : (h 68 s + 1).toInt = (h 68 s).toInt + 1 := by rw [zb_tadd (by rw [Int32.toInt_one]; omega) (by rw [Int32.toInt_one]; omega), Int32.toInt_one]
        rw [zb_tsub (by rw [q, Int32.toInt_one]; omega) (by rw [q, Int32.toInt_one]; omega), q, Int32.toInt_one]
        omega
      rw [e68']
      have G2 : gM h (pm_u h2 68 s (h 68 s)) := by
        refine ⟨fun o ho => by rw [zb_un (by omega), g.1 o ho, zb_un (by omega)], fun j hj => ⟨?_, by rw [zb_un (by omega), (g.2.1 j hj).2, zb_un (by omega)]⟩, fun j hj => ⟨by rw [zb_un (by omega), (g.2.2.1 j hj).1, zb_un (by omega)], by rw [zb_un (by omega), (g.2.2.1 j hj).2, zb_un (by omega)]⟩, fun j hj => by rw [zb_un (by omega), g.2.2.2 j hj, zb_un (by omega)]⟩
        rw [zb_u]
        rw [if_pos rfl]
        by_cases e : j = s
        · rw [if_pos e, e]
        · rw [if_neg e, (g.2.1 j hj).1, zb_uj e]
      have H2 := zMk_g H G2
      have ev2 : vZ (vM (pm_u h2 68 s (h 68 s))) = vZ (vM h0) := (gM_vZ H G2).trans ev
      have hW2 : ∀ j, j < 10 → (vM (pm_u h2 68 s (h 68 s)) 1 j).toInt ≤ 9 := fun j hj => by rw [vM_1 hj, (G2.2.1 j hj).1, ← vM_1 (h := h) hj]; exact hW j hj
      have hge := zR_ge (R := R) (shf := zN1) 400 0 (pm_u (vZ (vM h)) 1 s (h 68 s + 1))
      by_cases q : (zR R zN1 400 0 (pm_u (vZ (vM h)) 1 s (h 68 s + 1))).1 < l
      · rw [if_pos (nI_lt q (by omega))]
        simp only [if_pos q] at hK
        refine sm_widL m (s + 1) _ _ _ (by omega) (by omega) H2 hW2 (gM_trans G G2) ev2 (fun h3 g3 => ?_)
        have := hK h3 g3
        rw [ev] at this ⊢
        exact this
      · rw [if_neg (nI_nlt (by omega) (by omega))]
        simp only [if_neg q] at hK
        refine sm_widL m (s + 1) l w _ (by omega) hl H2 hW2 (gM_trans G G2) ev2 (fun h3 g3 => ?_)
        have := hK h3 g3
        rw [ev] at this
        exact this
theorem sm_widen {h : pm_H} {Q : Int32 → pm_H → Prop} (H : zMk k R h) (hW : ∀ j, j < 10 → (vM h 1 j).toInt ≤ 9) (hq : ∀ h', gM h h' → Q (aWid R (vZ (vM h))) h') : wp_X7_widen h Q := by
  unfold aWid at hq
  unfold wp_X7_widen
  refine sm_ends_ H (fun h' g _ _ _ _ _ => ?_)
  refine ⟨11, ?_⟩
  have := (zR_ge (R := R) (shf := zN1) 400 0 (vZ (vM h))).2
  rw [zb_c0]
  exact sm_widL (h0 := h) 10 0 _ _ h' (by omega) (by omega) (zMk_g H g) (fun j hj => by rw [vM_1 hj, (g.2.1 j hj).1, ← vM_1 (h := h) hj]; exact hW j hj) g (gM_vZ H g) hq
set_option maxHeartbeats 2000000 in
theorem sm_latL {K Q : Int32 → pm_H → Prop} {h0 : pm_H} {cnt : Nat} (hc : cnt ≤ 5) (ec : h0 66 3 = nI cnt) : ∀ (m c : Nat) (l w : Int32) (h : pm_H), c + m = cnt → zMk k R h → gM h0 h → vZ (vM h) = vZ (vM h0) → (∀ h', gM h0 h' → K (zLat R (vZ (vM h0)) m c l w) h') → wl_X7_later_14 K Q (m + 1) l w (nI c) h
  | 0, c, l, w, h, hs, H, G, ev, hK => by
    unfold wl_X7_later_14
    rw [zb_lt, G.2.2.2 3 (by omega), ec, if_neg (nI_nlt (by omega) (by omega))]
    exact hK h G
  | m + 1, c, l, w, h, hs, H, G, ev, hK => by
    have e3 : h 66 3 = nI cnt := by rw [G.2.2.2 3 (by omega)]; exact ec
    have hcc : c < (h 66 3).toNatClampNeg := by rw [e3, nI_clamp (by omega)]; omega
    unfold wl_X7_later_14
    simp only [zb_lt, e3, zb_in (j := c) (n := 5) (by omega) (by omega), zb_ibt, nI_clamp (n := c) (by omega), pm_op_eq, nI_1]
    rw [if_pos (nI_lt (by omega) (by omega))]
    unfold zLat at hK
    rw [← ev] at hK
    have e4 : vZ (vM h) 4 c = h 72 c := by rw [vZ_r (by omega), vM_4 hcc]
    rw [e4] at hK
    generalize hx : pm_min 199 (h 72 c + 20) = x at hK ⊢
    have hxB : zB 0 999 x := by
      rw [← hx]
      refine zb_min199 ?_
      have b := (H.1.1.2.2.2 c (by rw [vM_70]; exact hcc)).2.1
      rw [vM_4 hcc] at b
      unfold zB at b
      rw [zb_tadd (by rw [show (20 : Int32).toInt = 20 by decide]; omega) (by rw [show (20 : Int32).toInt = 20 by decide]; omega), show (20 : Int32).toInt = 20 by decide]
      omega
    have ev1 : vM (pm_u h 72 c x) = pm_u (vM h) 4 c x := vM_u4 hcc
    have H1 : zMk k R (pm_u h 72 c x) := by
      refine ⟨⟨?_, zTm_of (zb_un (by omega)) (zb_un (by omega)) H.1.2.1, by rw [zb_un (by omega)]; exact H.1.2.2.1, H.1.2.2.2⟩, by rw [zb_un (by omega)]; exact H.2⟩
      rw [ev1]
      exact zV_bell H.1.1 hxB
    have ez : vZ (vM (pm_u h 72 c x)) = pm_u (vZ (vM h)) 4 c x := by rw [ev1, vZ_u (by omega)]
    refine sm_ends_ H1 (fun h2 g _ a27 _ _ _ => ?_)
    rw [ez] at a27
    rw [a27]
    have G2 : gM h (pm_u h2 72 c (h 72 c)) := by
      refine ⟨fun o ho => by rw [zb_un (by omega), g.1 o ho, zb_un (by omega)], fun j hj => ⟨by rw [zb_un (by omega), (g.2.1 j hj).1, zb_un (by omega)], by rw [zb_un (by omega), (g.2.1 j hj).2, zb_un (by omega)]⟩, fun j hj => ⟨?_, by rw [zb_un (by omega), (g.2.2.1 j hj).2, zb_un (by omega)]⟩, fun j hj => by rw [zb_un (by omega), g.2.2.2 j hj, zb_un (by omega)]⟩
      rw [zb_u, if_pos rfl]
      by_cases e : j = c
      · rw [if_pos e, e]
      · rw [if_neg e, (g.2.2.1 j hj).1, zb_uj e]
    have H2 := zMk_g H G2
    have ev2 : vZ (vM (pm_u h2 72 c (h 72 c))) = vZ (vM h0) := (gM_vZ H G2).trans ev
    by_cases q : (zR R zN1 400 0 (pm_u (vZ (vM h)) 4 c x)).2 9 0 < l
    · rw [if_pos q]
      simp only [if_pos q] at hK
      refine sm_latL hc ec m (c + 1) _ _ _ (by omega) H2 (gM_trans G G2) ev2 (fun h3 g3 => ?_)
      have := hK h3 g3
      rw [ev] at this ⊢
      exact this
    · rw [if_neg q]
      simp only [if_neg q] at hK
      refine sm_latL hc ec m (c + 1) l w _ (by omega) H2 (gM_trans G G2) ev2 (fun h3 g3 => ?_)
      have := hK h3 g3
      rw [ev] at this
      exact this
theorem sm_later {h : pm_H} {Q : Int32 → pm_H → Prop} (H : zMk k R h) (hq : ∀ h', gM h h' → Q (aLat R (vZ (vM h))) h') : wp_X7_later h Q := by
  obtain ⟨n, hn, e, e'⟩ := zM_cnt H.1.1
  unfold aLat at hq
  rw [vZ_r (by omega), vM_70, e'] at hq
  unfold wp_X7_later
  refine sm_ends_ H (fun h' g _ a27 _ _ _ => ?_)
  refine ⟨n + 1, ?_⟩
  rw [zb_c0, a27]
  exact sm_latL (h0 := h) hn e n 0 _ _ h' (by omega) (zMk_g H g) g (gM_vZ H g) hq
end
