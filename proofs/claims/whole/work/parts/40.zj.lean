/-! MATHEMATICS, 40: the class's calls about runs -/
theorem sp_between {a b c : Int32} {h : pm_H} {Q : Int32 → pm_H → Prop} (h0 : (a < b ∨ c < a) → Q 0 h) (h1 : ¬ (a < b ∨ c < a) → Q 1 h) : wp_X6_between a b c h Q := by
  unfold wp_X6_between
  rw [zb_lt, zb_lt]
  by_cases c1 : a < b
  · rw [if_pos c1]; exact h0 (Or.inl c1)
  · rw [if_neg c1]
    by_cases c2 : c < a
    · rw [if_pos c2]; exact h0 (Or.inr c2)
    · rw [if_neg c2]; exact h1 (fun q => q.elim c1 c2)
theorem sp_isStep {a : Int32} {h : pm_H} {Q : Int32 → pm_H → Prop} (h0 : (a < 0 ∨ 9 < a) → Q 0 h) (h1 : ¬ (a < 0 ∨ 9 < a) → Q 1 h) : wp_X6_isStep a h Q := by
  unfold wp_X6_isStep
  exact sp_between (fun q => by rw [zb_b0]; exact h0 q) (fun q => by rw [zb_b1]; exact h1 q)
/-- a number that passed the test -/
theorem zb_rng {a : Int32} {m : Nat} {M : Int32} (hM : M = nI m) (hm : m < 2 ^ 31) (h : ¬ (a < 0 ∨ M < a)) : ∃ j, j ≤ m ∧ a = nI j := by
  subst hM
  have h1 : ¬ a < 0 := fun q => h (Or.inl q)
  have h2 : ¬ nI m < a := fun q => h (Or.inr q)
  rw [zb_tlt, Int32.toInt_zero] at h1
  rw [zb_tlt, nI_toInt hm] at h2
  obtain ⟨j, hj, e, -⟩ := zB_nat (b := m) (x := a) ⟨by omega, by omega⟩
  exact ⟨j, hj, e⟩
/-- the class is ready, with rule R at text k -/
def zCl (k : Nat) (R : Nat → List Int32) (h : pm_H) : Prop := zV (vN h) ∧ h 1 11 = nI k ∧ k < 6 ∧ zTx h k R ∧ zWf R
theorem zCl_g {k : Nat} {R : Nat → List Int32} {h h' : pm_H} (H : zCl k R h) (G : gC h h') : zCl k R h' := by
  obtain ⟨a, b, c, d, e⟩ := H
  exact ⟨by rw [gC_vN G]; exact a, by rw [G 1 (by omega)]; exact b, c, gC_tx G d, e⟩
theorem vN_70 {h : pm_H} : vN h 7 0 = h 1 8 := by
  unfold vN; rw [if_pos (by simp [zrg])]; rfl
theorem vN_71 {h : pm_H} : vN h 7 1 = h 1 9 := by
  unfold vN; rw [if_pos (by simp [zrg])]; rfl
theorem vN_1 {h : pm_H} {j : Nat} (hj : j < 10) : vN h 1 j = h 3 j := by
  unfold vN; rw [if_pos (by simp [zrg, hj])]; rfl
theorem vN_4 {h : pm_H} {j : Nat} (hj : j < (h 1 8).toNatClampNeg) : vN h 4 j = h 7 j := by
  unfold vN; rw [if_pos (by simp [zrg, hj])]; rfl
theorem vN_9 {h : pm_H} {r j : Nat} (hr : 8 ≤ r) : vN h r j = 0 := by
  unfold vN; rw [if_neg (by omega)]
theorem zCl_cnt {k : Nat} {R : Nat → List Int32} {h : pm_H} (H : zCl k R h) : ∃ n, n ≤ 5 ∧ h 1 8 = nI n ∧ (h 1 8).toNatClampNeg = n := by
  have := H.1.1
  rw [vN_70] at this
  obtain ⟨j, hj, e, hb⟩ := zB_nat (b := 5) this
  exact ⟨j, hj, e, by rw [e]; exact nI_clamp hb⟩
section
variable {k : Nat} {R : Nat → List Int32}
theorem sp_begins {h : pm_H} {Q : pm_H → Prop} (H : zCl k R h) (hq : ∀ h', gC h h' → zTr k R 0 h' → vC h' = vN h → h' 19 3 = 0 → h' 20 8 = h 1 8 → Q h') : wp_X6_beginTrial h Q := by
  obtain ⟨n, hn, e, e'⟩ := zCl_cnt H
  obtain ⟨a, b, c, d, f⟩ := id H
  refine sp_begin c b (by omega) (fun h' g1 g2 g3 g4 g5 g6 _ => ?_)
  exact hq h' g1 ⟨by rw [g2]; exact a, gC_tx g1 d, g3, g4, Or.inl rfl⟩ g2 g5 g6
/-- a run from a trial's state -/
theorem sp_run0 (hk : k < 6) (hR : zWf R) {L : Nat} (hL : L ≤ 1000) {mi : Int32} {h0 h : pm_H} {z : pm_H} {Q : Int32 → pm_H → Prop} (G : gC h0 h) (H : zTr k R mi h) (hz : vC h = z) (hq : ∀ h', gC h0 h' → zTr k R mi h' → vC h' = (zR R zN1 L 0 z).2 → (mi = 1 → h' 19 3 = zRm R zN1 L 0 z (h 19 3)) → Q (nI (zR R zN1 L 0 z).1) h') : wp_X5_runOut (nI L) h Q := by
  subst hz
  exact sp_runOut hk hR hL H (fun h' F a b c => hq h' (gC_trans G (fC_g F)) a b c)
set_option maxHeartbeats 1000000 in
theorem sp_run {w : Int32} {h : pm_H} {Q : Int32 → pm_H → Prop} (H : zCl k R h) (hq : ∀ h', gC h h' → Q (aRun R (vN h) w) h') : wp_X6_run w h Q := by
  have e400 : (400 : Int32) = nI 400 := by decide
  unfold aRun at hq
  unfold wp_X6_run
  refine sp_between (fun c => ?_) (fun c => ?_)
  · rw [if_pos c] at hq
    rw [zb_eq, if_pos rfl]
    exact hq h gC_rfl
  · rw [if_neg c] at hq
    rw [zb_eq, if_neg (by decide)]
    refine sp_begins H (fun h1 g1 t1 v1 m1 _ => ?_)
    rw [zb_eq, e400]
    have fin : ∀ mi h', gC h h' → zTr k R mi h' → vC h' = (zR R zN1 400 0 (vN h)).2 → (w = 2 → h' 19 3 = zRm R zN1 400 0 (vN h) 0) → pm_eq w 0 (Q (nI (zR R zN1 400 0 (vN h)).1) h') (pm_eq w 1 (Q (h' 19 2) h') (pm_eq w 2 (Q (h' 19 3) h') (Q (h' 19 4) h'))) := by
      intro mi h' g t v m
      simp only [zb_eq]
      have hq := hq h' g
      by_cases c0 : w = 0
      · rw [if_pos c0] at hq ⊢; exact hq
      rw [if_neg c0] at hq ⊢
      by_cases c1 : w = 1
      · rw [if_pos c1] at hq ⊢; rw [← vC_90 (h := h'), v]; exact hq
      rw [if_neg c1] at hq ⊢
      by_cases c2 : w = 2
      · rw [if_pos c2] at hq ⊢; rw [m c2]; exact hq
      rw [if_neg c2] at hq ⊢
      rw [← vC_91 (h := h'), v]
      exact hq
    by_cases c2 : w = 2
    · rw [if_pos c2]
      refine sp_run0 (mi := 1) (h0 := h) (z := vN h) H.2.2.1 H.2.2.2.2 (by omega) (fun o ho => by rw [zb_un (by omega)]; exact g1 o ho) ?_ ?_ (fun h' g t v m => fin 1 h' g t v (fun _ => ?_))
      · obtain ⟨a, b, c, d, e⟩ := t1
        have ev : vC (pm_u h1 19 5 1) = vC h1 := vC_of (fun o _ _ => zb_un (by omega)) (by rw [zb_uj (by omega)]) (by rw [zb_uj (by omega)])
        exact ⟨by rw [ev]; exact a, zTx_of (zb_un (by omega)) (zb_un (by omega)) b, by rw [zb_uj (by omega)]; exact c, zb_us, Or.inr rfl⟩
      · rw [vC_of (h := h1) (fun o _ _ => zb_un (by omega)) (by rw [zb_uj (by omega)]) (by rw [zb_uj (by omega)])]
        exact v1
      · rw [m rfl, zb_uj (by omega), m1]
    · rw [if_neg c2]
      have e5 : pm_u h1 19 5 0 = h1 := by
        funext o j
        rw [zb_u]
        by_cases c3 : o = 19
        · subst c3
          rw [if_pos rfl]
          by_cases c4 : j = 5
          · subst c4; rw [if_pos rfl]; exact t1.2.2.2.1.symm
          · rw [if_neg c4]
        · rw [if_neg c3]
      rw [e5]
      exact sp_run0 (mi := 0) (h0 := h) (z := vN h) H.2.2.1 H.2.2.2.2 (by omega) g1 t1 v1 (fun h' g t v m => fin 0 h' g t v (fun q => absurd q c2))
theorem sp_on {s n : Int32} {h : pm_H} {Q : Int32 → pm_H → Prop} (H : zCl k R h) (hq : ∀ h', gC h h' → Q (aOn R (vN h) s n) h') : wp_X6_on s n h Q := by
  unfold aOn at hq
  unfold wp_X6_on
  refine sp_isStep (fun c => ?_) (fun c => ?_)
  · rw [if_pos c] at hq
    rw [zb_eq, if_pos rfl]
    exact hq h gC_rfl
  rw [if_neg c] at hq
  rw [zb_eq, if_neg (by decide)]
  refine sp_between (fun d => ?_) (fun d => ?_)
  · rw [if_pos d] at hq
    rw [zb_eq, if_pos rfl]
    exact hq h gC_rfl
  rw [if_neg d] at hq
  rw [zb_eq, if_neg (by decide)]
  obtain ⟨j, hj, rfl⟩ := zb_rng (m := 9) (by decide) (by omega) c
  obtain ⟨m, hm, rfl⟩ := zb_rng (m := 400) (by decide) (by omega) d
  refine sp_begins H (fun h1 g1 t1 v1 m1 _ => ?_)
  refine sp_run0 H.2.2.1 H.2.2.2.2 (by omega) g1 t1 v1 (fun h' g t v m => ?_)
  rw [zb_ib (zb_in (by omega) (by omega)), nI_clamp (by omega), ← vC_2 (h := h') (by omega), v]
  rw [nI_clamp (by omega), nI_clamp (by omega)] at hq
  rw [zR_it _ _ _ H.1 j (by omega)]
  exact hq h' g
theorem sp_holL {K Q : Int32 → pm_H → Prop} {h : pm_H} : ∀ (n : Nat) (lo w : Int32), n ≤ 10 → K (zHl (h 29) n lo w) h → wl_X6_holdsUp_22 K Q (n + 1) lo w (nI n - 1) h
  | 0, lo, w, _, hK => by
    unfold wl_X6_holdsUp_22
    rw [zb_lt, if_pos (by decide)]
    exact hK
  | n + 1, lo, w, hn, hK => by
    unfold wl_X6_holdsUp_22
    unfold zHl at hK
    rw [nI_pred, zb_lt, if_neg (nI_pos (by omega)), zb_ib (zb_in (by omega) (by omega)), zb_lt, nI_clamp (by omega), zb_ib (zb_in (by omega) (by omega)), pm_op_eq, ← Int32.sub_eq_add_neg]
    by_cases c : lo < h 29 n
    · rw [if_pos c] at hK ⊢
      exact sp_holL n _ _ (by omega) hK
    · rw [if_neg c] at hK ⊢
      exact sp_holL n _ _ (by omega) hK
theorem zHl_congr {f g : Nat → Int32} : ∀ (n : Nat) (lo w : Int32), (∀ j, j < n → f j = g j) → zHl f n lo w = zHl g n lo w
  | 0, _, _, _ => rfl
  | n + 1, lo, w, h => by
    unfold zHl
    rw [h n (by omega), zHl_congr n _ _ (fun j hj => h j (by omega)), zHl_congr n _ _ (fun j hj => h j (by omega))]
theorem sp_holdsUp {h : pm_H} {Q : Int32 → pm_H → Prop} (H : zCl k R h) (hq : ∀ h', gC h h' → Q (aHol R (vN h)) h') : wp_X6_holdsUp h Q := by
  unfold aHol at hq
  unfold wp_X6_holdsUp
  refine sp_begins H (fun h1 g1 t1 v1 m1 _ => ?_)
  rw [show (400 : Int32) = nI 400 by decide]
  refine sp_run0 H.2.2.1 H.2.2.2.2 (by omega) g1 t1 v1 (fun h' g t v m => ?_)
  refine ⟨11, ?_⟩
  rw [show (9 : Int32) = nI 10 - 1 by decide]
  refine sp_holL 10 0 (-1) (by omega) ?_
  rw [zHl_congr 10 _ _ (fun j hj => (vC_8 (h := h') hj).symm), v]
  exact hq h' g
end
