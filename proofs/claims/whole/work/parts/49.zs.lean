/-! MATHEMATICS, 49: the reference's other calls about runs -/
theorem zR_E {R : Nat → List Int32} {shf : Nat → Int32} : ∀ (m n : Nat) (z w : pm_H), zE z w → (zR R shf m n z).1 = (zR R shf m n w).1
  | 0, _, _, _, _ => rfl
  | m + 1, n, z, w, h => by
    unfold zR
    rw [zE_in h, zE_on h]
    by_cases c : zIn w = 0 ∧ zOn w = 0
    · rw [if_pos c, if_pos c]
    · rw [if_neg c, if_neg c]
      exact zR_E m (n + 1) _ _ (zE_T h)
section
variable {k : Nat} {R : Nat → List Int32}
theorem zMk_E {h : pm_H} : zE (vM h) (vZ (vM h)) := zE_symm vZ_E
theorem sm_onL {s N : Nat} {K : pm_H → Prop} {Q : Int32 → pm_H → Prop} (hN : N ≤ 400) : ∀ (m n : Nat) (h : pm_H), n + m = N → zMr k R h → h 66 30 = -1 → (∀ h', fM h h' → zMr k R h' → vM h' = zIt R m (vM h) → K h') → wl_X7_on_30 (nI s) (nI N) K Q (m + 1) (nI n) h
  | 0, n, h, hn, H, h30, hK => by
    unfold wl_X7_on_30
    rw [zb_lt, if_neg (nI_nlt (by omega) (by omega))]
    exact hK h fM_rfl H rfl
  | m + 1, n, h, hn, H, h30, hK => by
    unfold wl_X7_on_30
    rw [zb_lt, if_pos (nI_lt (by omega) (by omega))]
    refine sm_pass H h30 (fun h1 F1 H1 e1 _ => ?_)
    rw [pm_op_eq, nI_1]
    refine sm_onL hN m (n + 1) h1 (by omega) H1 (by rw [F1.2 30 (by omega) (by omega) (by omega) (by omega) (by omega)]; exact h30) (fun h2 F2 H2 e2 => hK h2 (fM_trans F1 F2) H2 ?_)
    rw [e2, e1]; rfl
theorem zKp_ok {h h1 : pm_H} (H : zMk k R h) (k1 : ∀ o, o ≠ 82 → h1 o = h o) : zMr k R h1 ∧ vM h1 = vM h ∧ h1 66 30 = -1 := by
  have e : vM h1 = vM h := vM_of (fun o _ => k1 o (by omega)) (fun j _ => by rw [k1 66 (by omega)])
  exact ⟨⟨by rw [e]; exact H.1.1, zTm_of (k1 _ (by omega)) (k1 _ (by omega)) H.1.2.1, by rw [k1 66 (by omega)]; exact H.1.2.2.1, H.1.2.2.2⟩, e, by rw [k1 66 (by omega)]; exact H.2⟩
theorem sm_on {s n : Int32} {h : pm_H} {Q : Int32 → pm_H → Prop} (H : zMk k R h) (hq : ∀ h', gM h h' → Q (aOn R (vZ (vM h)) s n) h') : wp_X7_on s n h Q := by
  unfold aOn at hq
  unfold wp_X7_on
  refine sm_within (fun c => ?_) (fun c => ?_)
  · rw [if_pos c] at hq
    rw [zb_eq, if_pos rfl]
    exact hq h gM_rfl
  rw [if_neg c] at hq
  rw [zb_eq, if_neg (by decide)]
  refine sm_within (fun d => ?_) (fun d => ?_)
  · rw [if_pos d] at hq
    rw [zb_eq, if_pos rfl]
    exact hq h gM_rfl
  rw [if_neg d] at hq
  rw [zb_eq, if_neg (by decide)]
  obtain ⟨j, hj, rfl⟩ := zb_rng (m := 9) (by decide) (by omega) c
  obtain ⟨m, hm, rfl⟩ := zb_rng (m := 400) (by decide) (by omega) d
  rw [nI_clamp (by omega), nI_clamp (by omega)] at hq
  refine sm_keep (fun h1 k1 kp => ?_)
  obtain ⟨M1, v1, h30⟩ := zKp_ok H k1
  refine ⟨m + 1, ?_⟩
  rw [zb_c0]
  refine sm_onL hm m 0 h1 (by omega) M1 h30 (fun h2 F2 M2 v2 => ?_)
  rw [zb_ib (zb_in (by omega) (by omega))]
  refine sm_close H.2 k1 kp (fM_L F2) (by rw [F2.2 30 (by omega) (by omega) (by omega) (by omega) (by omega)]; exact h30) (fun G g _ _ _ => ?_)
  rw [nI_clamp (by omega), ← vM_2 (h := h2) (by omega), v2, v1, zE_it (n := m) zMk_E 2 (by omega)]
  exact hq G g
theorem sm_holL {K Q : Int32 → pm_H → Prop} {h : pm_H} : ∀ (n : Nat) (lo w : Int32), n ≤ 10 → K (zHl (h 81) n lo w) h → wl_X7_holdsUp_12 K Q (n + 1) w lo (nI n - 1) h
  | 0, lo, w, _, hK => by
    unfold wl_X7_holdsUp_12
    rw [zb_lt, if_pos (by decide)]
    exact hK
  | n + 1, lo, w, hn, hK => by
    unfold wl_X7_holdsUp_12
    unfold zHl at hK
    rw [nI_pred, zb_lt, if_neg (nI_pos (by omega)), zb_ib (zb_in (by omega) (by omega)), zb_lt, nI_clamp (by omega), zb_ib (zb_in (by omega) (by omega)), pm_op_eq, ← Int32.sub_eq_add_neg]
    by_cases c : lo < h 81 n
    · rw [if_pos c] at hK ⊢
      exact sm_holL n _ _ (by omega) hK
    · rw [if_neg c] at hK ⊢
      exact sm_holL n _ _ (by omega) hK
theorem sm_holdsUp {h : pm_H} {Q : Int32 → pm_H → Prop} (H : zMk k R h) (hq : ∀ h', gM h h' → Q (aHol R (vZ (vM h))) h') : wp_X7_holdsUp h Q := by
  unfold aHol at hq
  unfold wp_X7_holdsUp
  refine sm_ends_ H (fun h' g _ a1 a2 a3 a4 => ?_)
  refine ⟨11, ?_⟩
  rw [show (9 : Int32) = nI 10 - 1 by decide]
  refine sm_holL 10 0 (-1) (by omega) ?_
  rw [zHl_congr 10 _ _ a4]
  exact hq h' g
theorem sm_shut {s n : Int32} {h : pm_H} {Q : Int32 → pm_H → Prop} (H : zMk k R h) (hq : ∀ h', gM h h' → Q (aShu R (vZ (vM h)) s n) h') : wp_X7_shut s n h Q := by
  unfold aShu at hq
  unfold wp_X7_shut
  refine sm_within (fun c => ?_) (fun c => ?_)
  · rw [if_pos c] at hq
    rw [zb_eq, if_pos rfl]
    exact hq h gM_rfl
  rw [if_neg c] at hq
  rw [zb_eq, if_neg (by decide)]
  refine sm_within (fun d => ?_) (fun d => ?_)
  · rw [if_pos d] at hq
    rw [zb_eq, if_pos rfl]
    exact hq h gM_rfl
  rw [if_neg d] at hq
  rw [zb_eq, if_neg (by decide)]
  exact sm_ends H (fun h' g _ _ _ _ _ => hq h' g)
set_option maxHeartbeats 1000000 in
theorem sm_judL {s sh len : Nat} {f : Nat → Int32} {K Q : Int32 → pm_H → Prop} (hs : s < 10) (hsh : sh < 4) (hlen : len ≤ 40) : ∀ (m i : Nat) (h : pm_H), i + m = len → zMr k R h → h 66 30 = -1 → h 89 sh = nI len → (∀ j, j < len → h 90 (40 * sh + j) = f j) → (∀ h', fM h h' → K (zJl R s f m i (vM h)) h') → wl_X7_judge_44 (nI s) (nI sh) K Q (m + 1) (-1) (nI i) h
  | 0, i, h, hi, H, h30, e1, e2, hK => by
    unfold wl_X7_judge_44
    rw [zb_ib (zb_in hsh (by omega)), zb_lt, nI_clamp (by omega), e1, if_neg (nI_nlt (by omega) (by omega))]
    exact hK h fM_rfl
  | m + 1, i, h, hi, H, h30, e1, e2, hK => by
    have e40 : (40 : Int32) * nI sh + nI i = nI (40 * sh + i) := by
      have a1 : (nI 40 * nI sh).toInt = 40 * (sh : Int) := by
        rw [zb_tmul (by rw [nI_toInt (by omega), nI_toInt (by omega)]; omega) (by rw [nI_toInt (by omega), nI_toInt (by omega)]; omega), nI_toInt (by omega), nI_toInt (by omega)]
        rfl
      rw [show (40 : Int32) = nI 40 by decide]
      refine zb_teq.mpr ?_
      rw [zb_tadd (by rw [a1, nI_toInt (by omega)]; omega) (by rw [a1, nI_toInt (by omega)]; omega), a1, nI_toInt (by omega), nI_toInt (by omega)]
      omega
    unfold wl_X7_judge_44
    unfold zJl at hK
    rw [zb_ib (zb_in hsh (by omega)), zb_lt, nI_clamp (by omega), e1, if_pos (nI_lt (by omega) (by omega)), zb_eq, if_pos rfl]
    refine sm_pass H h30 (fun h1 F H1 v1 _ => ?_)
    have e90 : h1 90 = h 90 := F.1 90 (by omega)
    simp only [pm_op_eq, e40, nI_1, zb_in (j := s) (n := 10) hs (by omega), zb_ibt, zb_in (j := 40 * sh + i) (n := 160) (by omega) (by omega), nI_clamp (n := s) (by omega), nI_clamp (n := 40 * sh + i) (by omega), zb_eq, e90, e2 i (by omega)]
    rw [← vM_2 (h := h1) hs, v1]
    by_cases c : zT R (-1) (vM h) 2 s = f i
    · rw [if_pos c]
      simp only [if_pos c] at hK
      refine sm_judL (f := f) hs hsh hlen m (i + 1) h1 (by omega) H1 (by rw [F.2 30 (by omega) (by omega) (by omega) (by omega) (by omega)]; exact h30) (by rw [F.1 89 (by omega)]; exact e1) (fun j hj => by rw [e90]; exact e2 j hj) (fun h2 F2 => ?_)
      rw [v1]
      exact hK h2 (fM_trans F F2)
    · rw [if_neg c]
      simp only [if_neg c] at hK
      have done : wl_X7_judge_44 (nI s) (nI sh) K Q (m + 1) (nI i) (nI (i + 1)) h1 := by
        unfold wl_X7_judge_44
        rw [zb_ib (zb_in hsh (by omega)), zb_lt, nI_clamp (by omega), F.1 89 (by omega), e1, zb_eq]
        have hne : ¬ nI i = -1 := by
          intro q
          have := congrArg Int32.toInt q
          rw [nI_toInt (by omega), show (-1 : Int32).toInt = -1 by decide] at this
          omega
        rw [if_neg hne]
        by_cases c2 : nI (i + 1) < nI len
        · rw [if_pos c2]; exact hK h1 F
        · rw [if_neg c2]; exact hK h1 F
      exact done
theorem zJl_E {s : Nat} (hs : s < 10) {f : Nat → Int32} : ∀ (m i : Nat) (z w : pm_H), zE z w → zJl R s f m i z = zJl R s f m i w
  | 0, _, _, _, _ => rfl
  | m + 1, i, z, w, h => by
    have e := zE_T (R := R) (sh := -1) h
    unfold zJl
    rw [e 2 (by omega), zJl_E hs m (i + 1) _ _ e]
theorem sm_judge {s sh : Int32} {h : pm_H} {Q : Int32 → pm_H → Prop} (H : zMk k R h) (hL : ∀ a, a < 4 → h 88 a ≠ -1 → zB 0 40 (h 89 a)) (hq : ∀ h', gM h h' → Q (aJud R (vZ (vM h)) (h 88) (h 89) (fun a j => h 90 (40 * a + j)) s sh) h') : wp_X7_judge s sh h Q := by
  unfold aJud at hq
  unfold wp_X7_judge
  refine sm_within (fun c => ?_) (fun c => ?_)
  · rw [if_pos c] at hq
    rw [zb_eq, if_pos rfl]
    exact hq h gM_rfl
  rw [if_neg c] at hq
  rw [zb_eq, if_neg (by decide)]
  refine sm_within (fun d => ?_) (fun d => ?_)
  · rw [if_pos d] at hq
    rw [zb_eq, if_pos rfl]
    exact hq h gM_rfl
  rw [if_neg d] at hq
  rw [zb_eq, if_neg (by decide)]
  obtain ⟨j, hj, rfl⟩ := zb_rng (m := 9) (by decide) (by omega) c
  obtain ⟨a, ha, rfl⟩ := zb_rng (m := 3) (by decide) (by omega) d
  rw [nI_clamp (n := a) (by omega), nI_clamp (n := j) (by omega)] at hq
  rw [zb_ib (zb_in (by omega) (by omega)), nI_clamp (n := a) (by omega), zb_eq]
  by_cases e : h 88 a = -1
  · rw [if_pos e] at hq
    rw [if_pos e]
    exact hq h gM_rfl
  · rw [if_neg e] at hq
    rw [if_neg e]
    refine sm_keep (fun h1 k1 kp => ?_)
    obtain ⟨M1, v1, h30⟩ := zKp_ok H k1
    obtain ⟨len, hlen, el, -⟩ := zB_nat (b := 40) (hL a (by omega) e)
    refine ⟨len + 1, ?_⟩
    rw [zb_c0]
    refine sm_judL (f := fun j => h 90 (40 * a + j)) (len := len) (by omega) (by omega) hlen len 0 h1 (by omega) M1 h30 (by rw [k1 89 (by omega)]; exact el) (fun i hi => by rw [k1 90 (by omega)]) (fun h2 F2 => ?_)
    refine sm_close H.2 k1 kp (fM_L F2) (by rw [F2.2 30 (by omega) (by omega) (by omega) (by omega) (by omega)]; exact h30) (fun G g _ _ _ => ?_)
    rw [v1, zJl_E (by omega) len 0 _ _ zMk_E]
    have := hq G g
    rw [el, nI_clamp (by omega)] at this
    exact this
theorem zLk_E {s : Nat} (hs : s < 10) : ∀ (m : Nat) (f : Int32) (z w : pm_H), zE z w → zLk R s m f z = zLk R s m f w
  | 0, _, _, _, _ => rfl
  | m + 1, f, z, w, h => by
    have e := zE_T (R := R) (sh := -1) h
    unfold zLk
    rw [e 0 (by omega), e 1 (by omega), e 2 (by omega), zLk_E hs m _ _ _ e, zLk_E hs m _ _ _ e]
set_option maxHeartbeats 1000000 in
theorem sm_looL {s N : Nat} {K Q : Int32 → pm_H → Prop} (hs : s < 10) (hN : N ≤ 400) : ∀ (m i : Nat) (f : Int32) (h : pm_H), i + m = N → zMr k R h → h 66 30 = -1 → (∀ h', fM h h' → K (zLk R s m f (vM h)) h') → wl_X7_look_33 (nI s) (nI N) K Q (m + 1) f (nI i) h
  | 0, i, f, h, hi, H, h30, hK => by
    unfold wl_X7_look_33
    rw [zb_lt, if_neg (nI_nlt (by omega) (by omega))]
    exact hK h fM_rfl
  | m + 1, i, f, h, hi, H, h30, hK => by
    unfold wl_X7_look_33
    unfold zLk at hK
    rw [zb_lt, if_pos (nI_lt (by omega) (by omega))]
    refine sm_pass H h30 (fun h1 F H1 v1 _ => ?_)
    rw [zb_ib (zb_in hs (by omega))]
    refine sm_holds_ H1.1 hs ?_
    rw [pm_op_eq, pm_op_eq, nI_1, zb_eq, nI_clamp (by omega), ← vM_2 (h := h1) hs]
    obtain ⟨a1, a2, a3, a4⟩ := H1.1.2.2.1 s hs
    have ah := zHo_ok a1 a2
    unfold zB at ah
    have hr : (zHo (vM h1 0 s) (vM h1 1 s) - vM h1 2 s).toInt = (zHo (vM h1 0 s) (vM h1 1 s)).toInt - (vM h1 2 s).toInt := zb_tsub (by omega) (by omega)
    have h30' : h1 66 30 = -1 := by rw [F.2 30 (by omega) (by omega) (by omega) (by omega) (by omega)]; exact h30
    rw [← v1] at hK
    by_cases c : 0 < zHo (vM h1 0 s) (vM h1 1 s) - vM h1 2 s
    · have c' : ¬ vM h1 2 s = zHo (vM h1 0 s) (vM h1 1 s) := by
        rw [zb_tlt, hr, Int32.toInt_zero] at c
        intro q
        rw [q] at c
        omega
      rw [if_neg c']
      simp only [if_pos c] at hK
      exact sm_looL hs hN m (i + 1) _ h1 (by omega) H1 h30' (fun h2 F2 => hK h2 (fM_trans F F2))
    · have c' : vM h1 2 s = zHo (vM h1 0 s) (vM h1 1 s) := by
        rw [zb_tlt, hr, Int32.toInt_zero] at c
        exact zb_teq.mpr (by omega)
      rw [if_pos c']
      simp only [if_neg c] at hK
      exact sm_looL hs hN m (i + 1) _ h1 (by omega) H1 h30' (fun h2 F2 => hK h2 (fM_trans F F2))
theorem sm_look {s n : Int32} {h : pm_H} {Q : Int32 → pm_H → Prop} (H : zMk k R h) (hq : ∀ h', gM h h' → Q (aLoo R (vZ (vM h)) s n) h') : wp_X7_look s n h Q := by
  unfold aLoo at hq
  unfold wp_X7_look
  refine sm_within (fun c => ?_) (fun c => ?_)
  · rw [if_pos c] at hq
    rw [zb_eq, if_pos rfl]
    exact hq h gM_rfl
  rw [if_neg c] at hq
  rw [zb_eq, if_neg (by decide)]
  refine sm_within (fun d => ?_) (fun d => ?_)
  · rw [if_pos d] at hq
    rw [zb_eq, if_pos rfl]
    exact hq h gM_rfl
  rw [if_neg d] at hq
  rw [zb_eq, if_neg (by decide)]
  obtain ⟨j, hj, rfl⟩ := zb_rng (m := 9) (by decide) (by omega) c
  obtain ⟨m, hm, rfl⟩ := zb_rng (m := 400) (by decide) (by omega) d
  rw [nI_clamp (by omega), nI_clamp (by omega)] at hq
  refine sm_keep (fun h1 k1 kp => ?_)
  obtain ⟨M1, v1, h30⟩ := zKp_ok H k1
  refine ⟨m + 1, ?_⟩
  rw [zb_c0]
  refine sm_looL (by omega) hm m 0 (nI 0) h1 (by omega) M1 h30 (fun h2 F2 => ?_)
  refine sm_close H.2 k1 kp (fM_L F2) (by rw [F2.2 30 (by omega) (by omega) (by omega) (by omega) (by omega)]; exact h30) (fun G g _ _ _ => ?_)
  rw [v1, ← zb_c0, zLk_E (by omega) m _ _ _ zMk_E]
  exact hq G g
set_option maxHeartbeats 1000000 in
theorem sm_draL {seed : Int32} {K Q : Int32 → pm_H → Prop} : ∀ (m n : Nat) (h : pm_H), n + m = 400 → zMr k R h → (∀ h', fL h h' → K (nI (zR R (zDsh seed) m n (vM h)).1) h') → wl_X7_drawn_8 K Q (m + 1) (zSd seed n) (nI n) h
  | 0, n, h, hn, H, hK => by
    unfold wl_X7_drawn_8
    rw [zb_lt, show (400 : Int32) = nI 400 by decide, if_neg (nI_nlt (by omega) (by omega))]
    exact hK h fL_rfl
  | m + 1, n, h, hn, H, hK => by
    unfold wl_X7_drawn_8
    unfold zR at hK
    rw [zb_lt, show (400 : Int32) = nI 400 by decide, if_pos (nI_lt (by omega) (by omega))]
    refine sm_onSteps ?_
    refine sm_stillIn H.1 ?_
    rw [zb_lt, pm_op_eq]
    by_cases c : zIn (vM h) = 0 ∧ zOn (vM h) = 0
    · rw [if_neg (fun q => (zAll H.1).mp q c)]
      simp only [if_pos c] at hK
      exact hK h fL_rfl
    · rw [if_pos ((zAll H.1).mpr c)]
      simp only [if_neg c] at hK
      simp only [pm_op_eq, nI_1, zb_eq]
      rw [show zSd seed n * 1103515245 + 12345 = zSd seed (n + 1) from rfl]
      have go : ∀ sh, sh = zDsh seed n → wp_X7_pass (pm_u h 66 30 sh) (fun h603 => wl_X7_drawn_8 K Q (m + 1) (zSd seed (n + 1)) (nI (n + 1)) h603) := by
        intro sh hsh
        obtain ⟨H1, e1⟩ := zMr_u30 (x := sh) H
        refine sm_pass H1 zb_us (fun h2 F2 H2 e2 _ => ?_)
        refine sm_draL m (n + 1) h2 (by omega) H2 (fun h3 F3 => ?_)
        rw [e1, hsh] at e2
        rw [e2]
        exact hK h3 (fL_trans (fL_u (by omega)) (fL_trans (fM_L F2) F3))
      have e : zDsh seed n = if pm_rem (pm_ushr (zSd seed (n + 1)) 8) 5 = 0 then pm_rem (pm_ushr (zSd seed (n + 1)) 12) 10 else -1 := rfl
      by_cases q : pm_rem (pm_ushr (zSd seed (n + 1)) 8) 5 = 0
      · rw [if_pos q] at e ⊢; exact go _ e.symm
      · rw [if_neg q] at e ⊢; exact go _ e.symm
theorem sm_drawn {seed : Int32} {h : pm_H} {Q : Int32 → pm_H → Prop} (H : zMk k R h) (hq : ∀ h', gM h h' → Q (aDra R (vZ (vM h)) seed) h') : wp_X7_drawn seed h Q := by
  unfold aDra at hq
  unfold wp_X7_drawn
  refine sm_keep (fun h1 k1 kp => ?_)
  obtain ⟨M1, v1, h30⟩ := zKp_ok H k1
  refine ⟨401, ?_⟩
  rw [zb_c0]
  refine sm_draL (seed := seed) 400 0 h1 (by omega) M1 (fun h2 F2 => ?_)
  refine sm_close H.2 k1 kp (fL_trans F2 (fL_u (by omega))) zb_us (fun G g _ _ _ => ?_)
  rw [v1, zR_E 400 0 _ _ (zMk_E (h := h))]
  exact hq G g
end
