/-! MATHEMATICS, 48: the reference's calls about runs -/
theorem zAll {z : pm_H} (hV : zV z) : 0 < zOn z + zIn z ↔ ¬ (zIn z = 0 ∧ zOn z = 0) := by
  have a := zSum_nn (f := z 2) (m := 84) (n := 10) (by omega) (by omega) (by omega) (fun j hj => by
    obtain ⟨a1, a2, a3, a4⟩ := hV.2.2.1 j hj
    have := (zHo_ok a1 a2).2
    exact ⟨a3, by omega⟩)
  have hc := zB_zi (b := 5) hV.1
  have b := zSum_nn (f := z 6) (m := 60) (n := (z 7 0).toNatClampNeg) (by omega) (by omega) (by omega) (fun j hj => (hV.2.2.2 j hj).2.2.2)
  have c : ((z 7 0).toNatClampNeg : Int) * 60 ≤ 300 := by omega
  unfold zB at a b
  have e1 : zOn z = zSum (z 2) 10 := rfl
  have e2 : zIn z = zSum (z 6) (z 7 0).toNatClampNeg := rfl
  rw [e1, e2, zb_tlt, zb_tadd (by omega) (by omega), Int32.toInt_zero, zb_teq, zb_teq, Int32.toInt_zero]
  omega
/-- what a run of the reference may change -/
def fL (h h' : pm_H) : Prop := (∀ o, (o < 66 ∨ o = 67 ∨ o = 68 ∨ (69 < o ∧ o < 74) ∨ o = 75 ∨ o = 76 ∨ o = 77 ∨ 81 < o) → h' o = h o) ∧ (∀ j, j ≠ 9 → j ≠ 10 → j ≠ 27 → j ≠ 28 → j ≠ 29 → j ≠ 30 → h' 66 j = h 66 j)
theorem fL_rfl {h : pm_H} : fL h h := ⟨fun _ _ => rfl, fun _ _ _ _ _ _ _ => rfl⟩
theorem fL_trans {a b c : pm_H} (h1 : fL a b) (h2 : fL b c) : fL a c := ⟨fun o ho => (h2.1 o ho).trans (h1.1 o ho), fun j a b c d e f => (h2.2 j a b c d e f).trans (h1.2 j a b c d e f)⟩
theorem fM_L {h h' : pm_H} (H : fM h h') : fL h h' := ⟨H.1, fun j a b c d e _ => H.2 j a b c d e⟩
theorem fL_u {h : pm_H} {o j : Nat} {x : Int32} (h1 : o = 69 ∨ o = 74 ∨ (78 ≤ o ∧ o ≤ 81) ∨ (o = 66 ∧ (j = 9 ∨ j = 10 ∨ j = 27 ∨ j = 28 ∨ j = 29 ∨ j = 30))) : fL h (pm_u h o j x) := by
  refine ⟨fun o' ho => zb_un (by omega), fun j' a b c d e f => ?_⟩
  rw [zb_u]
  by_cases q : (66 : Nat) = o
  · rw [if_pos q, if_neg (by omega), ← q]
  · rw [if_neg q]
/-- after a run all is taken again -/
theorem sm_close {h h1 h2 : pm_H} {Q : pm_H → Prop} (h30 : h 66 30 = -1) (k1 : ∀ o, o ≠ 82 → h1 o = h o) (kp : zKp h h1) (f : fL h1 h2) (f30 : h2 66 30 = -1) (hq : ∀ H, gM h H → (∀ o, 83 ≤ o → H o = h o) → (∀ j, j = 27 ∨ j = 28 ∨ j = 29 → H 66 j = h2 66 j) → H 81 = h2 81 → Q H) : wp_X7_again h2 Q := by
  obtain ⟨p1, p2, p3, p4⟩ := kp
  refine sm_again (fun H a1 a2 a3 a4 a5 a6 => hq H ⟨fun o ho => ?_, fun j hj => ⟨?_, ?_⟩, fun j hj => ⟨?_, ?_⟩, fun j hj => ?_⟩ (fun o ho => by rw [a1 o (by omega) (by omega) (by omega), f.1 o (by omega), k1 o (by omega)]) (fun j hj => a6 j (by omega) (by omega)) (a1 81 (by omega) (by omega) (by omega)))
  · by_cases e : o = 66
    · omega
    · rw [a1 o (by omega) (by omega) e, f.1 o (by omega), k1 o (by omega)]
  · rw [a1 68 (by omega) (by omega) (by omega), f.1 68 (by omega), k1 68 (by omega)]
  · rw [a2 j hj, f.1 82 (by omega)]; exact p1 j hj
  · rw [a1 72 (by omega) (by omega) (by omega), f.1 72 (by omega), k1 72 (by omega)]
  · rw [a3 j hj, f.1 82 (by omega)]; exact p2 j hj
  · by_cases e9 : j = 9
    · subst e9; rw [a4, f.1 82 (by omega)]; exact p3
    · by_cases e10 : j = 10
      · subst e10; rw [a5, f.1 82 (by omega)]; exact p4
      · rw [a6 j e9 e10]
        by_cases e30 : j = 30
        · subst e30; rw [f30, h30]
        · rw [f.2 j e9 e10 (by omega) (by omega) (by omega) e30, k1 66 (by omega)]
section
variable {k : Nat} {R : Nat → List Int32}
theorem zMr_u30 {h : pm_H} {x : Int32} (H : zMr k R h) : zMr k R (pm_u h 66 30 x) ∧ vM (pm_u h 66 30 x) = vM h := by
  have e : vM (pm_u h 66 30 x) = vM h := vM_u66 (by omega)
  exact ⟨⟨by rw [e]; exact H.1, zTm_of (zb_un (by omega)) (zb_un (by omega)) H.2.1, by rw [zb_uj (by omega)]; exact H.2.2.1, H.2.2.2⟩, e⟩
set_option maxHeartbeats 2000000 in
theorem sm_endsL {s kk : Int32} {K Q : Int32 → pm_H → Prop} : ∀ (m n : Nat) (h : pm_H), n + m = 400 → zMr k R h → (∀ h', fL h h' → zMr k R h' → vM h' = (zR R (zShf s kk) m n (vM h)).2 → h' 66 28 = zRm R (zShf s kk) m n (vM h) (h 66 28) → K (nI (zR R (zShf s kk) m n (vM h)).1) h') → wl_X7_ends_42 s kk K Q (m + 1) (nI n) h
  | 0, n, h, hn, H, hK => by
    unfold wl_X7_ends_42
    rw [zb_lt, show (400 : Int32) = nI 400 by decide, if_neg (nI_nlt (by omega) (by omega))]
    exact hK h fL_rfl H rfl rfl
  | m + 1, n, h, hn, H, hK => by
    unfold wl_X7_ends_42
    unfold zR zRm at hK
    rw [zb_lt, show (400 : Int32) = nI 400 by decide, if_pos (nI_lt (by omega) (by omega))]
    refine sm_onSteps ?_
    refine sm_stillIn H.1 ?_
    rw [zb_lt, pm_op_eq]
    by_cases c : zIn (vM h) = 0 ∧ zOn (vM h) = 0
    · rw [if_neg (fun q => (zAll H.1).mp q c)]
      simp only [if_pos c] at hK
      exact hK h fL_rfl H rfl rfl
    · rw [if_pos ((zAll H.1).mpr c)]
      simp only [if_neg c] at hK
      rw [zb_lt, pm_op_eq, nI_1]
      have go : ∀ sh, sh = zShf s kk n → wp_X7_pass (pm_u h 66 30 sh) (fun h603 => wl_X7_ends_42 s kk K Q (m + 1) (nI (n + 1)) h603) := by
        intro sh hsh
        obtain ⟨H1, e1⟩ := zMr_u30 (x := sh) H
        refine sm_pass H1 zb_us (fun h2 F2 H2 e2 e3 => ?_)
        refine sm_endsL m (n + 1) h2 (by omega) H2 (fun h3 F3 H3 e4 e5 => ?_)
        rw [e1, hsh] at e2 e3
        rw [zb_uj (by omega)] at e3
        rw [e2] at e4 e5 ⊢
        rw [e3] at e5
        exact hK h3 (fL_trans (fL_u (by omega)) (fL_trans (fM_L F2) F3)) H3 e4 e5
      by_cases q : nI n < kk
      · rw [if_pos q]; exact go s (by unfold zShf; rw [if_pos q])
      · rw [if_neg q]; exact go (-1) (by unfold zShf; rw [if_neg q])
theorem sm_zeroL {s kk : Int32} {K : pm_H → Prop} {Q : Int32 → pm_H → Prop} : ∀ (m j : Nat) (h : pm_H), j + m = 10 → (∀ h', (∀ o, o ≠ 81 → h' o = h o) → (∀ i, h' 81 i = if j ≤ i ∧ i < 10 then 0 else h 81 i) → K h') → wl_X7_ends_21 s kk K Q (m + 1) (nI j) h
  | 0, j, h, hj, hK => by
    unfold wl_X7_ends_21
    rw [zb_lt, show (10 : Int32) = nI 10 by decide, if_neg (nI_nlt (by omega) (by omega))]
    exact hK h (fun _ _ => rfl) (fun i => by rw [if_neg (by omega)])
  | m + 1, j, h, hj, hK => by
    unfold wl_X7_ends_21
    rw [zb_lt, show (10 : Int32) = nI 10 by decide, if_pos (nI_lt (by omega) (by omega)), zb_ib (zb_in (by omega) (by omega)), pm_op_eq, nI_1, nI_clamp (by omega)]
    refine sm_zeroL m (j + 1) _ (by omega) (fun h' e1 e2 => hK h' (fun o ho => by rw [e1 o ho, zb_un ho]) (fun i => ?_))
    rw [e2, zb_ur]
    unfold upd
    by_cases c1 : i = j
    · subst c1
      rw [if_neg (by omega), if_pos rfl, if_pos (by omega)]
    · rw [if_neg c1]
      by_cases c2 : j ≤ i ∧ i < 10
      · rw [if_pos c2, if_pos (by omega)]
      · rw [if_neg c2, if_neg (by omega)]
set_option maxHeartbeats 2000000 in
/-- a run in mind -/
theorem sm_ends {s kk : Int32} {h : pm_H} {Q : Int32 → pm_H → Prop} (H : zMk k R h) (hq : ∀ h', gM h h' → (∀ o, 83 ≤ o → h' o = h o) → h' 66 27 = (zR R (zShf s kk) 400 0 (vZ (vM h))).2 9 0 → h' 66 28 = zRm R (zShf s kk) 400 0 (vZ (vM h)) 0 → h' 66 29 = (zR R (zShf s kk) 400 0 (vZ (vM h))).2 9 1 → (∀ j, j < 10 → h' 81 j = (zR R (zShf s kk) 400 0 (vZ (vM h))).2 8 j) → Q (nI (zR R (zShf s kk) 400 0 (vZ (vM h))).1) h') : wp_X7_ends s kk h Q := by
  obtain ⟨H, h30⟩ := H
  obtain ⟨cn, hcn, ec, ec'⟩ := zM_cnt H.1
  unfold wp_X7_ends
  refine sm_keep (fun h1 k1 kp => ?_)
  refine ⟨11, ?_⟩
  rw [show wl_X7_ends_21 s kk (fun h598 => ∃ n608, wl_X7_ends_42 s kk (fun x606 h605 => wp_X7_again (pm_u h605 66 30 (-1)) (fun h607 => Q x606 h607)) Q n608 0 h598) Q 11 0 (pm_u (pm_u (pm_u h1 66 27 0) 66 28 0) 66 29 0) = wl_X7_ends_21 s kk (fun h598 => ∃ n608, wl_X7_ends_42 s kk (fun x606 h605 => wp_X7_again (pm_u h605 66 30 (-1)) (fun h607 => Q x606 h607)) Q n608 (nI 0) h598) Q 11 (nI 0) (pm_u (pm_u (pm_u h1 66 27 0) 66 28 0) 66 29 0) by rw [← zb_c0]]
  refine sm_zeroL 10 0 _ (by omega) (fun h2 a1 a2 => ⟨401, ?_⟩)
  have F2 : fL h1 h2 := ⟨fun o ho => by rw [a1 o (by omega)]; simp only [zb_un (o := 66) (o' := o) (show o ≠ 66 by omega)], fun j b1 b2 b3 b4 b5 b6 => by rw [a1 66 (by omega), zb_uj (by omega), zb_uj (by omega), zb_uj (by omega)]⟩
  have e66 : ∀ j, (j < 27 ∨ 29 < j) → h2 66 j = h 66 j := fun j hj => by rw [a1 66 (by omega), zb_uj (by omega), zb_uj (by omega), zb_uj (by omega), k1 66 (by omega)]
  have e6x : ∀ o, o ≠ 66 → o ≠ 81 → o ≠ 82 → h2 o = h o := fun o b1 b2 b3 => by rw [a1 o b2, zb_un b1, zb_un b1, zb_un b1, k1 o b3]
  have v2 : vM h2 = vZ (vM h) := by
    funext r j
    unfold vZ vM
    rw [e66 3 (by omega)]
    by_cases hz : zrg (h 66 3).toNatClampNeg r j = true
    · rw [if_pos hz]
      have r10 := zrg_10 hz
      by_cases r8 : r < 8
      · rw [if_pos r8, if_pos hz]
        by_cases e7 : r = 7
        · subst e7
          have hj : j < 3 := by simpa [zrg] using hz
          rcases (show j = 0 ∨ j = 1 ∨ j = 2 by omega) with rfl | rfl | rfl
          · exact e66 3 (by omega)
          · exact e66 9 (by omega)
          · exact e66 10 (by omega)
        · have : ∀ r, r < 8 → r ≠ 7 → mcc r ≠ 66 ∧ mcc r ≠ 81 ∧ mcc r ≠ 82 := by decide
          obtain ⟨c1, c2, c3⟩ := this r r8 e7
          rw [e6x _ c1 c2 c3]
      · rw [if_neg r8]
        rcases (show r = 8 ∨ r = 9 by omega) with rfl | rfl
        · have hj : j < 10 := by simpa [zrg] using hz
          show h2 81 j = 0
          rw [a2, if_pos (by omega)]
        · have hj : j < 2 := by simpa [zrg] using hz
          rcases (show j = 0 ∨ j = 1 by omega) with rfl | rfl
          · show h2 66 27 = 0
            rw [a1 66 (by omega), zb_uj (by omega), zb_uj (by omega), zb_us]
          · show h2 66 29 = 0
            rw [a1 66 (by omega), zb_us]
    · rw [if_neg hz]
      by_cases r8 : r < 8
      · rw [if_pos r8, if_neg hz]
      · rw [if_neg r8]
  have M2 : zMr k R h2 := ⟨by rw [v2]; exact vZ_V H.1, zTm_of (e6x _ (by omega) (by omega) (by omega)) (e6x _ (by omega) (by omega) (by omega)) H.2.1, by rw [e66 14 (by omega)]; exact H.2.2.1, H.2.2.2⟩
  refine sm_endsL 400 0 h2 (by omega) M2 (fun h3 F3 M3 v3 m3 => ?_)
  rw [v2] at v3 m3 ⊢
  have e28 : h2 66 28 = 0 := by rw [a1 66 (by omega), zb_uj (by omega), zb_us]
  rw [e28] at m3
  refine sm_close h30 k1 kp (fL_trans F2 (fL_trans F3 (fL_u (by omega)))) zb_us (fun G g1 g0 g2 g3 => ?_)
  refine hq G g1 g0 ?_ ?_ ?_ (fun j hj => ?_)
  · rw [g2 27 (by omega), zb_uj (by omega), ← vM_90 (h := h3), v3]
  · rw [g2 28 (by omega), zb_uj (by omega), m3]
  · rw [g2 29 (by omega), zb_uj (by omega), ← vM_91 (h := h3), v3]
  · rw [g3, zb_un (by omega), ← vM_8 (h := h3) hj, v3]
theorem zShf_n : zShf (-1) 0 = zN1 := by
  funext n
  unfold zShf
  rw [ite_self]
theorem sm_ends_ {h : pm_H} {Q : Int32 → pm_H → Prop} (H : zMk k R h) (hq : ∀ h', gM h h' → (∀ o, 83 ≤ o → h' o = h o) → h' 66 27 = (zR R zN1 400 0 (vZ (vM h))).2 9 0 → h' 66 28 = zRm R zN1 400 0 (vZ (vM h)) 0 → h' 66 29 = (zR R zN1 400 0 (vZ (vM h))).2 9 1 → (∀ j, j < 10 → h' 81 j = (zR R zN1 400 0 (vZ (vM h))).2 8 j) → Q (nI (zR R zN1 400 0 (vZ (vM h))).1) h') : wp_X7_ends_ h Q := by
  unfold wp_X7_ends_
  refine sm_ends H ?_
  rw [zShf_n]
  exact hq
theorem sm_within {a b c : Int32} {h : pm_H} {Q : Int32 → pm_H → Prop} (h0 : (a < b ∨ c < a) → Q 0 h) (h1 : ¬ (a < b ∨ c < a) → Q 1 h) : wp_X7_within a b c h Q := by
  unfold wp_X7_within
  rw [zb_lt, zb_lt]
  by_cases c1 : a < b
  · rw [if_pos c1]; exact h0 (Or.inl c1)
  · rw [if_neg c1]
    by_cases c2 : c < a
    · rw [if_pos c2]; exact h0 (Or.inr c2)
    · rw [if_neg c2]; exact h1 (fun q => q.elim c1 c2)
theorem sm_run {w : Int32} {h : pm_H} {Q : Int32 → pm_H → Prop} (H : zMk k R h) (hq : ∀ h', gM h h' → Q (aRun R (vZ (vM h)) w) h') : wp_X7_run w h Q := by
  unfold aRun at hq
  unfold wp_X7_run
  refine sm_within (fun c => ?_) (fun c => ?_)
  · rw [if_pos c] at hq
    rw [zb_eq, if_pos rfl]
    exact hq h gM_rfl
  · rw [if_neg c] at hq
    rw [zb_eq, if_neg (by decide)]
    refine sm_ends_ H (fun h' g _ a1 a2 a3 a4 => ?_)
    have hq := hq h' g
    simp only [zb_eq]
    by_cases c0 : w = 0
    · rw [if_pos c0] at hq ⊢; exact hq
    rw [if_neg c0] at hq ⊢
    by_cases c1 : w = 1
    · rw [if_pos c1] at hq ⊢; rw [a1]; exact hq
    rw [if_neg c1] at hq ⊢
    by_cases c2 : w = 2
    · rw [if_pos c2] at hq ⊢; rw [a2]; exact hq
    rw [if_neg c2] at hq ⊢
    rw [a3]
    exact hq
end
