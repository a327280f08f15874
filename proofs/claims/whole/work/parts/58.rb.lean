/-! MATHEMATICS, 58: step, set, told, feed, force, count, taken -/
theorem vN_u {h : pm_H} {r j : Nat} {x : Int32} (hr : zrg (h 1 8).toNatClampNeg r j = true) (h7 : r < 7) : vN (pm_u h (ncc r) j x) = pm_u (vN h) r j x := by
  have inj : ∀ r, r < 8 → ∀ r', r' < 8 → ncc r = ncc r' → r = r' := by decide
  have n1 : ∀ r, r < 7 → ncc r ≠ 1 := by decide
  have hc : pm_u h (ncc r) j x 1 8 = h 1 8 := by rw [zb_un (fun q => n1 r h7 q.symm)]
  funext r' j'
  unfold vN
  rw [hc]
  by_cases hr' : zrg (h 1 8).toNatClampNeg r' j' = true ∧ r' < 8
  · rw [if_pos hr', zb_u, zb_u]
    by_cases e : r' = r
    · subst e
      have e9 : zcs r' j' = j' := by unfold zcs; rw [if_neg (by omega), if_neg (by omega)]
      rw [if_pos rfl, if_pos rfl, e9, if_pos hr']
    · rw [if_neg e, if_neg (fun q => e (inj r' hr'.2 r (by omega) q)), if_pos hr']
  · rw [if_neg hr', zb_u]
    by_cases e : r' = r
    · subst e
      rw [if_pos rfl]
      by_cases e2 : j' = j
      · subst e2; exact absurd ⟨hr, by omega⟩ hr'
      · rw [if_neg e2, if_neg hr']
    · rw [if_neg e, if_neg hr']
theorem vN_uo {h : pm_H} {o j : Nat} {x : Int32} (ho : o = 0 ∨ o = 5 ∨ 9 < o ∨ (o = 1 ∧ j = 11)) : vN (pm_u h o j x) = vN h := by
  funext r j'
  unfold vN
  have h8 : pm_u h o j x 1 8 = h 1 8 := by
    rw [zb_u]
    by_cases e : (1 : Nat) = o
    · rw [if_pos e, if_neg (by omega), e]
    · rw [if_neg e]
  rw [h8]
  by_cases hr : zrg (h 1 8).toNatClampNeg r j' = true ∧ r < 8
  · rw [if_pos hr, if_pos hr]
    by_cases e7 : r = 7
    · subst e7
      have hj : j' < 3 := by simpa [zrg] using hr.1
      show pm_u h o j x 1 (8 + j') = h 1 (8 + j')
      rw [zb_u]
      by_cases e : (1 : Nat) = o
      · rw [if_pos e, if_neg (by omega), e]
      · rw [if_neg e]
    · have : ∀ r, r < 8 → r ≠ 7 → ncc r ≠ 0 ∧ ncc r ≠ 5 ∧ ncc r < 10 ∧ ncc r ≠ 1 := by decide
      have := this r hr.2 e7
      rw [zb_un (by omega)]
  · rw [if_neg hr, if_neg hr]
theorem sp_isKind {a : Int32} {h : pm_H} {Q : Int32 → pm_H → Prop} (h0 : (a < 0 ∨ 5 < a) → Q 0 h) (h1 : ¬ (a < 0 ∨ 5 < a) → Q 1 h) : wp_X6_isKind a h Q := by
  unfold wp_X6_isKind
  exact sp_between (fun q => by rw [zb_b0]; exact h0 q) (fun q => by rw [zb_b1]; exact h1 q)
section
variable {h : pm_H}
theorem zrS_at (H : zrS h) : ∃ cnt, cnt ≤ 5 ∧ h 1 8 = nI cnt ∧ h 66 3 = nI cnt ∧ (h 1 8).toNatClampNeg = cnt ∧ (h 66 3).toNatClampNeg = cnt ∧ (∀ s, s < 10 → h 67 s = h 2 s ∧ h 68 s = h 3 s ∧ h 69 s = h 4 s ∧ zB 0 5 (h 2 s) ∧ zB 1 9 (h 3 s) ∧ 0 ≤ (h 4 s).toInt ∧ (h 4 s).toInt ≤ (zHo (h 2 s) (h 3 s)).toInt) ∧ (∀ c, c < cnt → h 71 c = h 6 c ∧ h 72 c = h 7 c ∧ h 73 c = h 8 c ∧ h 74 c = h 9 c ∧ h 70 c = h 5 c) ∧ h 66 9 = h 1 9 ∧ h 66 10 = h 1 10 ∧ zB 0 999 (h 1 9) := by
  obtain ⟨cnt, a1, a2, a3, a4, a5, a6, a7⟩ := H
  have e1 : (h 1 8).toNatClampNeg = cnt := by rw [a2]; exact nI_clamp (by omega)
  have e2 : (h 66 3).toNatClampNeg = cnt := by rw [a3]; exact nI_clamp (by omega)
  refine ⟨cnt, a1, a2, a3, e1, e2, fun s hs => ?_, fun c hc => ?_, ?_, ?_, ?_⟩
  · obtain ⟨v1, v2, v3, v4⟩ := a4.2.2.1 s hs
    have b0 := congrFun (a5 0 (by omega)) s
    have b1 := congrFun (a5 1 (by omega)) s
    have b2 := congrFun (a5 2 (by omega)) s
    rw [vN_0 hs, vM_0 hs] at b0
    rw [vN_1 hs, vM_1 hs] at b1
    rw [vN_2 hs, vM_2 hs] at b2
    rw [vN_0 hs] at v1
    rw [vN_1 hs] at v2
    rw [vN_2 hs] at v3
    rw [vN_0 hs, vN_1 hs, vN_2 hs] at v4
    exact ⟨b0.symm, b1.symm, b2.symm, v1, ⟨v2.1, a6 s hs⟩, v3, v4⟩
  · have b3 := congrFun (a5 3 (by omega)) c
    have b4 := congrFun (a5 4 (by omega)) c
    have b5 := congrFun (a5 5 (by omega)) c
    have b6 := congrFun (a5 6 (by omega)) c
    rw [vN_3 (by omega), vM_3 (by omega)] at b3
    rw [vN_4 (by omega), vM_4 (by omega)] at b4
    rw [vN_5 (by omega), vM_5 (by omega)] at b5
    rw [vN_6 (by omega), vM_6 (by omega)] at b6
    exact ⟨b3.symm, b4.symm, b5.symm, b6.symm, (a7 c hc).symm⟩
  · have b := congrFun (a5 7 (by omega)) 1
    rw [vN_71, vM_71] at b
    exact b.symm
  · have b := congrFun (a5 7 (by omega)) 2
    rw [vN_72, vM_72] at b
    exact b.symm
  · have := a4.2.1
    rw [vN_71] at this
    exact this
set_option maxHeartbeats 1000000 in
theorem pr_step (H : zRel h) (s kk w : Int32) : wp_X6_step s kk w h (fun r h1 => wp_X7_step s kk w h1 (fun r' h2 => r = r' ∧ zRel h2)) := by
  unfold wp_X6_step
  refine sp_isStep (fun c => ?_) (fun c => ?_)
  · rw [zb_eq, if_pos rfl]
    unfold wp_X7_step
    refine sm_within (fun _ => ?_) (fun n => absurd c n)
    rw [zb_eq, if_pos rfl]
    exact ⟨rfl, H⟩
  rw [zb_eq, if_neg (by decide)]
  refine sp_isKind (fun d => ?_) (fun d => ?_)
  · rw [zb_eq, if_pos rfl]
    unfold wp_X7_step
    refine sm_within (fun n => absurd n c) (fun _ => ?_)
    rw [zb_eq, if_neg (by decide)]
    refine sm_within (fun _ => ?_) (fun n => absurd d n)
    rw [zb_eq, if_pos rfl]
    exact ⟨rfl, H⟩
  rw [zb_eq, if_neg (by decide)]
  refine sp_between (fun e => ?_) (fun e => ?_)
  · rw [zb_eq, if_pos rfl]
    unfold wp_X7_step
    refine sm_within (fun n => absurd n c) (fun _ => ?_)
    rw [zb_eq, if_neg (by decide)]
    refine sm_within (fun n => absurd n d) (fun _ => ?_)
    rw [zb_eq, if_neg (by decide)]
    refine sm_within (fun _ => ?_) (fun n => absurd e n)
    rw [zb_eq, if_pos rfl]
    exact ⟨rfl, H⟩
  rw [zb_eq, if_neg (by decide)]
  obtain ⟨j, hj, rfl⟩ := zb_rng (m := 9) (by decide) (by omega) c
  obtain ⟨i, hi, rfl⟩ := zb_rng (m := 5) (by decide) (by omega) d
  have hk : zB 0 5 (nI i) := zB_of (by omega) (by omega)
  have hw : zB 1 9 w := by
    have e1 : ¬ w < 1 := fun q => e (Or.inl q)
    have e2 : ¬ 9 < w := fun q => e (Or.inr q)
    rw [zb_tlt, Int32.toInt_one] at e1
    rw [zb_tlt, show (9 : Int32).toInt = 9 by decide] at e2
    exact ⟨by omega, by omega⟩
  have hw' : zB 1 10 w := ⟨hw.1, by have := hw.2; omega⟩
  rw [zb_ib (zb_in (by omega) (by omega)), nI_clamp (n := j) (by omega)]
  refine sp_holdsOf ?_
  obtain ⟨cnt, z1, z2, z3, z4, z5, z6, z7, z8, z9, z10⟩ := zrS_at H.1
  obtain ⟨y1, y2, y3, y4, y5, y6, y7⟩ := z6 j (by omega)
  have front : ∀ h1 : pm_H, ∀ Q : Int32 → pm_H → Prop, h1 69 j = h 4 j → (zHo (nI i) w < h 4 j → Q (-3) h1) → (¬ zHo (nI i) w < h 4 j → Q (h1 67 j) (pm_u (pm_u h1 67 j (nI i)) 68 j w)) → wp_X7_step (nI j) (nI i) w h1 Q := by
    intro h1 Q e69 q1 q2
    unfold wp_X7_step
    refine sm_within (fun n => absurd n c) (fun _ => ?_)
    rw [zb_eq, if_neg (by decide)]
    refine sm_within (fun n => absurd n d) (fun _ => ?_)
    rw [zb_eq, if_neg (by decide)]
    refine sm_within (fun n => absurd n e) (fun _ => ?_)
    rw [zb_eq, if_neg (by decide)]
    refine sm_holds ?_
    rw [zHo_eq hk hw', zb_ib (zb_in (by omega) (by omega)), nI_clamp (n := j) (by omega), zb_lt, e69]
    by_cases q : zHo (nI i) w < h 4 j
    · rw [if_pos q]; exact q1 q
    · rw [if_neg q, zb_ib (zb_in (by omega) (by omega)), zb_ib (zb_in (by omega) (by omega)), zb_ib (zb_in (by omega) (by omega))]; exact q2 q
  rw [zb_lt]
  by_cases f : zHo (nI i) w < h 4 j
  · rw [if_pos f]
    exact front h _ y3 (fun _ => ⟨rfl, H⟩) (fun n => absurd f n)
  · rw [if_neg f, zb_ib (zb_in (by omega) (by omega)), zb_ib (zb_in (by omega) (by omega)), zb_ib (zb_in (by omega) (by omega))]
    refine front _ _ (by rw [zb_un (by omega), zb_un (by omega)]; exact y3) (fun n => absurd n f) (fun _ => ⟨?_, ?_⟩)
    · rw [zb_un (by omega), zb_un (by omega)]
      exact y1.symm
    · obtain ⟨H1, H2, H3, H4, H5⟩ := H
      obtain ⟨cn, a1, a2, a3, a4, a5, a6, a7⟩ := H1
      have hj10 : j < 10 := by omega
      have evN : vN (pm_u (pm_u (pm_u (pm_u h 2 j (nI i)) 3 j w) 67 j (nI i)) 68 j w) = pm_u (pm_u (vN h) 0 j (nI i)) 1 j w := by
        rw [vN_uo (by omega), vN_uo (by omega)]
        have q1 := vN_u (h := pm_u h 2 j (nI i)) (r := 1) (j := j) (x := w) (by simp [zrg, hj10]) (by omega)
        have q0 := vN_u (h := h) (r := 0) (j := j) (x := nI i) (by simp [zrg, hj10]) (by omega)
        exact q1.trans (by rw [show pm_u h 2 j (nI i) = pm_u h (ncc 0) j (nI i) from rfl, q0])
      have evM : vM (pm_u (pm_u (pm_u (pm_u h 2 j (nI i)) 3 j w) 67 j (nI i)) 68 j w) = pm_u (pm_u (vM h) 0 j (nI i)) 1 j w := by
        rw [vM_u1 hj10]
        have q0 := vM_u (h := pm_u (pm_u h 2 j (nI i)) 3 j w) (r := 0) (j := j) (x := nI i) (by simp [zrg, hj10]) (Or.inl (by omega))
        rw [show pm_u (pm_u (pm_u h 2 j (nI i)) 3 j w) 67 j (nI i) = pm_u (pm_u (pm_u h 2 j (nI i)) 3 j w) (mcc 0) (mcs 0 j) (nI i) from rfl, q0, vM_uo (by omega), vM_uo (by omega)]
      have V : zV (pm_u (pm_u (vN h) 0 j (nI i)) 1 j w) := by
        obtain ⟨v1, v2, v3, v4⟩ := a4
        unfold zV
        simp only [zb_un (o := 1) (o' := 7) (by omega), zb_un (o := 0) (o' := 7) (by omega), zb_un (o := 1) (o' := 3) (by omega), zb_un (o := 0) (o' := 3) (by omega), zb_un (o := 1) (o' := 4) (by omega), zb_un (o := 0) (o' := 4) (by omega), zb_un (o := 1) (o' := 5) (by omega), zb_un (o := 0) (o' := 5) (by omega), zb_un (o := 1) (o' := 6) (by omega), zb_un (o := 0) (o' := 6) (by omega), zb_un (o := 1) (o' := 2) (by omega), zb_un (o := 0) (o' := 2) (by omega), zb_un (o := 1) (o' := 0) (by omega), zb_ur, zb_un (o := 0) (o' := 1) (by omega)]
        refine ⟨v1, v2, fun s hs => ?_, v4⟩
        obtain ⟨w1, w2, w3, w4⟩ := v3 s hs
        unfold upd
        by_cases es : s = j
        · subst es
          rw [if_pos rfl, if_pos rfl]
          refine ⟨hk, hw', w3, ?_⟩
          rw [zb_tlt] at f
          rw [vN_2 hs]
          omega
        · rw [if_neg es, if_neg es]; exact ⟨w1, w2, w3, w4⟩
      refine ⟨⟨cn, a1, by simp only [zb_un (o := 68) (o' := 1) (by omega), zb_un (o := 67) (o' := 1) (by omega), zb_un (o := 3) (o' := 1) (by omega), zb_un (o := 2) (o' := 1) (by omega)]; exact a2, by simp only [zb_un (o := 68) (o' := 66) (by omega), zb_un (o := 67) (o' := 66) (by omega), zb_un (o := 3) (o' := 66) (by omega), zb_un (o := 2) (o' := 66) (by omega)]; exact a3, by rw [evN]; exact V, by rw [evN, evM]; exact zE_u (zE_u a5), fun s hs => ?_, fun c hc => by simp only [zb_u, reduceIte, Nat.reduceEqDiff]; exact a7 c hc⟩, zrT_f H2 (by simp [zb_u]) (by simp [zb_u]) (by simp [zb_u]) (by simp [zb_u]) (by simp [zb_u]) (fun o _ _ => by rw [zb_un (by omega), zb_un (by omega), zb_un (by omega), zb_un (by omega)]) (by rw [zb_un (by omega), zb_un (by omega), zb_un (by omega), zb_un (by omega)]) (by rw [zb_un (by omega), zb_un (by omega), zb_un (by omega), zb_un (by omega)]), zrP_f H3 (by simp [zb_u]) (by simp [zb_u]) (by rw [zb_un (by omega), zb_un (by omega), zb_un (by omega), zb_un (by omega)]) (by rw [zb_un (by omega), zb_un (by omega), zb_un (by omega), zb_un (by omega)]), zrH_f H4 (fun o _ _ => by rw [zb_un (by omega), zb_un (by omega), zb_un (by omega), zb_un (by omega)]) (fun o _ => by rw [zb_un (by omega), zb_un (by omega), zb_un (by omega), zb_un (by omega)]), zrI_f H5 (by simp [zb_u]) (fun j _ _ => by simp [zb_u]) (fun o _ _ => by rw [zb_un (by omega), zb_un (by omega), zb_un (by omega), zb_un (by omega)]) (by rw [zb_un (by omega), zb_un (by omega), zb_un (by omega), zb_un (by omega)]) (by rw [zb_un (by omega), zb_un (by omega), zb_un (by omega), zb_un (by omega)]) (by simp [zb_u]) (fun c _ => by simp [zb_u]) (by simp [zb_u])⟩
      simp only [zb_un (o := 68) (o' := 3) (by omega), zb_un (o := 67) (o' := 3) (by omega), zb_ur, zb_un (o := 2) (o' := 3) (by omega)]
      unfold upd
      by_cases es : s = j
      · rw [if_pos es]; exact hw.2
      · rw [if_neg es]; exact a6 s hs
end
