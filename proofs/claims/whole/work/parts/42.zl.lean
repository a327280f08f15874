/-! MATHEMATICS, 42: the class's calls: shut, drill, judge, look, drawn, tick -/
section
variable {k : Nat} {R : Nat → List Int32}
set_option maxHeartbeats 1000000 in
theorem sp_shuL (hk : k < 6) (hR : zWf R) {s kk : Int32} {K Q : Int32 → pm_H → Prop} : ∀ (m n : Nat) (h : pm_H), n + m = 400 → zTr k R 0 h → (∀ h', fC h h' → K (nI (zR R (zShf s kk) m n (vC h)).1) h') → wl_X6_shut_26 s kk K Q (m + 1) (nI n) h
  | 0, n, h, hn, H, hK => by
    unfold wl_X6_shut_26
    rw [zb_lt, show (400 : Int32) = nI 400 by decide, if_neg (nI_nlt (by omega) (by omega))]
    exact hK h fC_rfl
  | m + 1, n, h, hn, H, hK => by
    unfold wl_X6_shut_26
    unfold zR at hK
    rw [zb_lt, show (400 : Int32) = nI 400 by decide, if_pos (nI_lt (by omega) (by omega))]
    refine sp_allOut H.1 (fun c => ?_) (fun c => ?_)
    · rw [zb_eq, if_neg (by decide)]
      simp only [if_pos c] at hK
      exact hK h fC_rfl
    · rw [zb_eq, if_pos rfl, zb_lt, pm_op_eq, nI_1]
      simp only [if_neg c] at hK
      have e : zShf s kk n = if nI n < kk then s else -1 := rfl
      by_cases q : nI n < kk
      · rw [if_pos q] at e ⊢
        refine sp_pass hk hR H (fun h1 F H1 e1 _ => ?_)
        exact sp_shuL hk hR m (n + 1) h1 (by omega) H1 (fun h2 F2 => by have := hK h2 (fC_trans F F2); rw [e, ← e1] at this; exact this)
      · rw [if_neg q] at e ⊢
        refine sp_pass hk hR H (fun h1 F H1 e1 _ => ?_)
        exact sp_shuL hk hR m (n + 1) h1 (by omega) H1 (fun h2 F2 => by have := hK h2 (fC_trans F F2); rw [e, ← e1] at this; exact this)
theorem sp_shut {s n : Int32} {h : pm_H} {Q : Int32 → pm_H → Prop} (H : zCl k R h) (hq : ∀ h', gC h h' → Q (aShu R (vN h) s n) h') : wp_X6_shut s n h Q := by
  unfold aShu at hq
  unfold wp_X6_shut
  refine sp_isStep (fun c => ?_) (fun c => ?_)
  · rw [if_pos c] at hq
    rw [zb_eq, if_pos rfl]
    exact hq h gC_rfl
  rw [if_neg c] at hq
  rw [zb_eq, if_neg (by decide)]
  refine sp_between (fun d => ?_) (fun d => ?_)
  · rw [if_pos d] at hq
    rw [zb_eq, if_pos rfl]
    exact hq h gC_rfl
  rw [if_neg d] at hq
  rw [zb_eq, if_neg (by decide)]
  refine sp_begins H (fun h1 g1 t1 v1 m1 _ => ?_)
  refine ⟨401, ?_⟩
  rw [zb_c0]
  refine sp_shuL H.2.2.1 H.2.2.2.2 400 0 h1 (by omega) t1 (fun h' f => ?_)
  rw [v1]
  exact hq h' (gC_trans g1 (fC_g f))
theorem sp_driL {K : pm_H → Prop} {Q : Int32 → pm_H → Prop} {cnt : Nat} {x : Int32} (hc : cnt ≤ 5) : ∀ (m c : Nat) (h : pm_H), c + m = cnt → h 1 8 = nI cnt → h 20 8 = nI cnt → h 1 9 = x → (∀ h', fC h h' → vC h' = zBe (fun _ => x) m c (vC h) → K h') → wl_X6_drill_6 K Q (m + 1) (nI c) h
  | 0, c, h, hs, e1, e2, e3, hK => by
    unfold wl_X6_drill_6
    rw [zb_lt, e1, if_neg (nI_nlt (by omega) (by omega))]
    exact hK h fC_rfl rfl
  | m + 1, c, h, hs, e1, e2, e3, hK => by
    unfold wl_X6_drill_6
    rw [zb_lt, e1, if_pos (nI_lt (by omega) (by omega)), zb_ib (zb_in (by omega) (by omega)), pm_op_eq, nI_1, nI_clamp (by omega), e3]
    have F1 : fC h (pm_u h 26 c x) := fC_u (by omega) (by omega) (by omega) (by omega)
    refine sp_driL (x := x) hc m (c + 1) _ (by omega) (by rw [zb_un (by omega)]; exact e1) (by rw [zb_un (by omega)]; exact e2) (by rw [zb_un (by omega)]; exact e3) (fun h' f v => hK h' (fC_trans F1 f) ?_)
    rw [v, vC_u4 (by rw [e2, nI_clamp (by omega)]; omega)]
    rfl
theorem sp_drill {h : pm_H} {Q : Int32 → pm_H → Prop} (H : zCl k R h) (hq : ∀ h', gC h h' → Q (aDri R (vN h)) h') : wp_X6_drill h Q := by
  obtain ⟨n, hn, e, e'⟩ := zCl_cnt H
  unfold aDri at hq
  unfold wp_X6_drill
  refine sp_begins H (fun h1 g1 t1 v1 m1 e20 => ?_)
  refine ⟨n + 1, ?_⟩
  rw [zb_c0]
  refine sp_driL (x := vN h 7 1) hn n 0 h1 (by omega) (by rw [g1 1 (by omega)]; exact e) (by rw [e20]; exact e) (by rw [g1 1 (by omega), vN_71]) (fun h' f v => ?_)
  have ev : vC h' = zBe (fun _ => vN h 7 1) (vN h 7 0).toNatClampNeg 0 (vN h) := by rw [v, v1, vN_70, e']
  rw [show (400 : Int32) = nI 400 by decide]
  refine sp_run0 (mi := 0) (h0 := h) H.2.2.1 H.2.2.2.2 (by omega) (gC_trans g1 (fC_g f)) (zTr_f t1 f ?_) ev (fun h2 g t v m => hq h2 g)
  rw [ev]
  exact zV_Be H.1 (fun j _ => H.1.2.1)
set_option maxHeartbeats 1000000 in
theorem sp_judL (hk : k < 6) (hR : zWf R) {s sh len : Nat} {f : Nat → Int32} {K80 : Int32 → pm_H → Prop} {K89 : pm_H → Prop} {Q : Int32 → pm_H → Prop} {P : Int32 → pm_H → Prop} (hs : s < 10) (hsh : sh < 4) (hlen : len ≤ 40) (h80 : ∀ x h, P x h → K80 x h) (h89 : ∀ h, P (-1) h → K89 h) : ∀ (m i : Nat) (h : pm_H), i + m = len → zTr k R 0 h → h (58 + 2 * sh) 2 = nI len → (∀ j, j < len → h (58 + 2 * sh + 1) j = f j) → (∀ h', fC h h' → P (zJl R s f m i (vC h)) h') → wl_X6_judge_41 (nI s) (58 + 2 * sh) K80 K89 Q (m + 1) (nI i) h
  | 0, i, h, hi, H, e1, e2, hK => by
    have A : pm_at 6 (58 + 2 * sh) 2 = true := by
      have : ∀ sh, sh < 4 → pm_at 6 (58 + 2 * sh) 2 = true := by decide +kernel
      exact this sh hsh
    unfold wl_X6_judge_41
    rw [zb_ib A, zb_lt, e1, if_neg (nI_nlt (by omega) (by omega))]
    exact h89 h (hK h fC_rfl)
  | m + 1, i, h, hi, H, e1, e2, hK => by
    have A : ∀ sh, sh < 4 → pm_at 6 (58 + 2 * sh) 2 = true ∧ pm_at 6 (58 + 2 * sh + 1) 8 = true ∧ pm_len (58 + 2 * sh + 1) = 40 := by decide +kernel
    obtain ⟨A1, A2, A3⟩ := A sh hsh
    unfold wl_X6_judge_41
    unfold zJl at hK
    rw [zb_ib A1, zb_lt, e1, if_pos (nI_lt (by omega) (by omega))]
    refine sp_pass hk hR H (fun h1 F H1 v1 _ => ?_)
    have e3 : h1 (58 + 2 * sh) = h (58 + 2 * sh) := F.1 _ (by omega)
    have e4 : h1 (58 + 2 * sh + 1) = h (58 + 2 * sh + 1) := F.1 _ (by omega)
    simp only [zb_in (j := s) (n := 10) hs (by omega), zb_ibt, A1, A2, A3, zb_in (j := i) (n := 40) (by omega) (by omega), nI_clamp (n := s) (by omega), nI_clamp (n := i) (by omega), zb_eq, e4, e2 i (by omega), pm_op_eq, nI_1]
    rw [← vC_2 (h := h1) hs, v1]
    by_cases c : zT R (-1) (vC h) 2 s = f i
    · rw [if_pos c]
      simp only [if_pos c] at hK
      refine sp_judL (f := f) hk hR hs hsh hlen h80 h89 m (i + 1) h1 (by omega) H1 (by rw [e3]; exact e1) (fun j hj => by rw [e4]; exact e2 j hj) (fun h2 F2 => ?_)
      rw [v1]
      exact hK h2 (fC_trans F F2)
    · rw [if_neg c]
      simp only [if_neg c] at hK
      exact h80 _ _ (hK h1 F)
theorem sp_isSheet {a : Int32} {h : pm_H} {Q : Int32 → pm_H → Prop} (h0 : (a < 0 ∨ 3 < a) → Q 0 h) (h1 : ¬ (a < 0 ∨ 3 < a) → Q 1 h) : wp_X6_isSheet a h Q := by
  unfold wp_X6_isSheet
  exact sp_between (fun q => by rw [zb_b0]; exact h0 q) (fun q => by rw [zb_b1]; exact h1 q)
theorem zAt2 : ∀ s, s < 4 → ∀ own, own < 7 → pm_at own (58 + 2 * s) 2 = true ∧ pm_at own (58 + 2 * s + 1) 8 = true ∧ pm_len (58 + 2 * s + 1) = 40 := by decide +kernel
theorem sp_isMissing {s : Nat} (hs : s < 4) {h : pm_H} {Q : Int32 → pm_H → Prop} (hq : Q (if h (58 + 2 * s) 1 = -1 then 1 else 0) h) : wp_X2_isMissing (58 + 2 * s) h Q := by
  unfold wp_X2_isMissing
  rw [zb_ib (zAt2 s hs 2 (by omega)).1, zb_eq]
  by_cases c : h (58 + 2 * s) 1 = -1
  · rw [if_pos c] at hq ⊢; exact hq
  · rw [if_neg c] at hq ⊢; exact hq
noncomputable def aJud (R : Nat → List Int32) (z : pm_H) (sort : Nat → Int32) (len : Nat → Int32) (f : Nat → Nat → Int32) (s sh : Int32) : Int32 := if s < 0 ∨ 9 < s then -2 else if sh < 0 ∨ 3 < sh then -2 else if sort sh.toNatClampNeg = -1 then -11 else zJl R s.toNatClampNeg (f sh.toNatClampNeg) (len sh.toNatClampNeg).toNatClampNeg 0 z
theorem sp_judge {s sh : Int32} {h : pm_H} {Q : Int32 → pm_H → Prop} (H : zCl k R h) (hL : ∀ a, a < 4 → zB 0 40 (h (58 + 2 * a) 2)) (hq : ∀ h', gC h h' → Q (aJud R (vN h) (fun a => h (58 + 2 * a) 1) (fun a => h (58 + 2 * a) 2) (fun a => h (58 + 2 * a + 1)) s sh) h') : wp_X6_judge s sh h Q := by
  unfold aJud at hq
  unfold wp_X6_judge
  refine sp_isStep (fun c => ?_) (fun c => ?_)
  · rw [if_pos c] at hq
    rw [zb_eq, if_pos rfl]
    exact hq h gC_rfl
  rw [if_neg c] at hq
  rw [zb_eq, if_neg (by decide)]
  refine sp_isSheet (fun d => ?_) (fun d => ?_)
  · rw [if_pos d] at hq
    rw [zb_eq, if_pos rfl]
    exact hq h gC_rfl
  rw [if_neg d] at hq
  rw [zb_eq, if_neg (by decide)]
  obtain ⟨j, hj, rfl⟩ := zb_rng (m := 9) (by decide) (by omega) c
  obtain ⟨a, ha, rfl⟩ := zb_rng (m := 3) (by decide) (by omega) d
  rw [nI_clamp (n := a) (by omega), nI_clamp (n := j) (by omega)] at hq
  rw [zb_ib (zb_in (by omega) (by omega)), nI_clamp (n := a) (by omega), zb_ib (zAt2 a (by omega) 6 (by omega)).1]
  refine sp_isMissing (by omega) ?_
  rw [zb_eq]
  by_cases e : h (58 + 2 * a) 1 = -1
  · rw [if_pos e] at hq
    rw [if_pos e, if_neg (by decide)]
    exact hq h gC_rfl
  · rw [if_neg e] at hq
    rw [if_neg e, if_pos rfl]
    refine sp_begins H (fun h1 g1 t1 v1 m1 _ => ?_)
    obtain ⟨len, hlen, el, -⟩ := zB_nat (b := 40) (hL a (by omega))
    refine ⟨len + 1, ?_⟩
    rw [zb_c0]
    refine sp_judL (P := Q) (f := h (58 + 2 * a + 1)) (len := len) H.2.2.1 H.2.2.2.2 (by omega) (by omega) hlen (fun _ _ => id) (fun _ => id) len 0 h1 (by omega) t1 (by rw [g1 _ (by omega)]; exact el) (fun i hi => by rw [g1 _ (by omega)]) (fun h' f => ?_)
    rw [v1]
    have := hq h' (gC_trans g1 (fC_g f))
    dsimp only at this
    rw [el, nI_clamp (by omega)] at this
    exact this
set_option maxHeartbeats 1000000 in
theorem sp_looL (hk : k < 6) (hR : zWf R) {s N : Nat} {K Q : Int32 → pm_H → Prop} (hs : s < 10) (hN : N ≤ 400) : ∀ (m i : Nat) (f : Int32) (h : pm_H), i + m = N → zTr k R 0 h → (∀ h', fC h h' → K (zLk R s m f (vC h)) h') → wl_X6_look_30 (nI s) (nI N) K Q (m + 1) f (nI i) h
  | 0, i, f, h, hi, H, hK => by
    unfold wl_X6_look_30
    rw [zb_lt, if_neg (nI_nlt (by omega) (by omega))]
    exact hK h fC_rfl
  | m + 1, i, f, h, hi, H, hK => by
    unfold wl_X6_look_30
    unfold zLk at hK
    rw [zb_lt, if_pos (nI_lt (by omega) (by omega))]
    refine sp_pass hk hR H (fun h1 F H1 v1 _ => ?_)
    refine sp_roomOn hs ?_
    rw [pm_op_eq, pm_op_eq, nI_1, zb_lt, v1]
    by_cases c : 0 < zHo (zT R (-1) (vC h) 0 s) (zT R (-1) (vC h) 1 s) - zT R (-1) (vC h) 2 s
    · rw [if_pos c]
      simp only [if_pos c] at hK
      exact sp_looL hk hR hs hN m (i + 1) _ h1 (by omega) H1 (fun h2 F2 => by rw [v1]; exact hK h2 (fC_trans F F2))
    · rw [if_neg c]
      simp only [if_neg c] at hK
      exact sp_looL hk hR hs hN m (i + 1) _ h1 (by omega) H1 (fun h2 F2 => by rw [v1]; exact hK h2 (fC_trans F F2))
theorem sp_look {s n : Int32} {h : pm_H} {Q : Int32 → pm_H → Prop} (H : zCl k R h) (hq : ∀ h', gC h h' → Q (aLoo R (vN h) s n) h') : wp_X6_look s n h Q := by
  unfold aLoo at hq
  unfold wp_X6_look
  refine sp_isStep (fun c => ?_) (fun c => ?_)
  · rw [if_pos c] at hq
    rw [zb_eq, if_pos rfl]
    exact hq h gC_rfl
  rw [if_neg c] at hq
  rw [zb_eq, if_neg (by decide)]
  refine sp_between (fun d => ?_) (fun d => ?_)
  · rw [if_pos d] at hq
    rw [zb_eq, if_pos rfl]
    exact hq h gC_rfl
  rw [if_neg d] at hq
  rw [zb_eq, if_neg (by decide)]
  obtain ⟨j, hj, rfl⟩ := zb_rng (m := 9) (by decide) (by omega) c
  obtain ⟨m, hm, rfl⟩ := zb_rng (m := 400) (by decide) (by omega) d
  rw [nI_clamp (by omega), nI_clamp (by omega)] at hq
  refine sp_begins H (fun h1 g1 t1 v1 m1 _ => ?_)
  refine ⟨m + 1, ?_⟩
  rw [zb_c0]
  refine sp_looL H.2.2.1 H.2.2.2.2 (by omega) hm m 0 (nI 0) h1 (by omega) t1 (fun h' f => ?_)
  rw [v1, ← zb_c0]
  exact hq h' (gC_trans g1 (fC_g f))
set_option maxHeartbeats 1000000 in
theorem sp_draL (hk : k < 6) (hR : zWf R) {seed : Int32} {K Q : Int32 → pm_H → Prop} : ∀ (m n : Nat) (h : pm_H), n + m = 400 → zTr k R 0 h → (∀ h', fC h h' → K (nI (zR R (zDsh seed) m n (vC h)).1) h') → wl_X6_drawn_8 K Q (m + 1) (zSd seed n) (nI n) h
  | 0, n, h, hn, H, hK => by
    unfold wl_X6_drawn_8
    rw [zb_lt, show (400 : Int32) = nI 400 by decide, if_neg (nI_nlt (by omega) (by omega))]
    exact hK h fC_rfl
  | m + 1, n, h, hn, H, hK => by
    unfold wl_X6_drawn_8
    unfold zR at hK
    rw [zb_lt, show (400 : Int32) = nI 400 by decide, if_pos (nI_lt (by omega) (by omega))]
    refine sp_allOut H.1 (fun c => ?_) (fun c => ?_)
    · rw [zb_eq, if_neg (by decide)]
      simp only [if_pos c] at hK
      exact hK h fC_rfl
    · rw [zb_eq, if_pos rfl]
      simp only [pm_op_eq, nI_1, zb_eq]
      simp only [if_neg c] at hK
      have e : zDsh seed n = if pm_rem (pm_ushr (zSd seed (n + 1)) 8) 5 = 0 then pm_rem (pm_ushr (zSd seed (n + 1)) 12) 10 else -1 := rfl
      rw [show zSd seed n * 1103515245 + 12345 = zSd seed (n + 1) from rfl]
      by_cases q : pm_rem (pm_ushr (zSd seed (n + 1)) 8) 5 = 0
      · rw [if_pos q] at e ⊢
        refine sp_pass hk hR H (fun h1 F H1 e1 _ => ?_)
        exact sp_draL hk hR m (n + 1) h1 (by omega) H1 (fun h2 F2 => by have := hK h2 (fC_trans F F2); rw [e, ← e1] at this; exact this)
      · rw [if_neg q] at e ⊢
        refine sp_pass hk hR H (fun h1 F H1 e1 _ => ?_)
        exact sp_draL hk hR m (n + 1) h1 (by omega) H1 (fun h2 F2 => by have := hK h2 (fC_trans F F2); rw [e, ← e1] at this; exact this)
theorem sp_drawn {seed : Int32} {h : pm_H} {Q : Int32 → pm_H → Prop} (H : zCl k R h) (hq : ∀ h', gC h h' → Q (aDra R (vN h) seed) h') : wp_X6_drawn seed h Q := by
  unfold aDra at hq
  unfold wp_X6_drawn
  refine sp_begins H (fun h1 g1 t1 v1 m1 _ => ?_)
  refine ⟨401, ?_⟩
  rw [zb_c0]
  refine sp_draL (seed := seed) H.2.2.1 H.2.2.2.2 400 0 h1 (by omega) t1 (fun h' f => ?_)
  rw [v1]
  exact hq h' (gC_trans g1 (fC_g f))
end
