/-! MATHEMATICS, 59: told, set, force, feed, count, taken -/
section
variable {h : pm_H}
theorem sp_passes1 {s : Nat} {Q : Int32 → pm_H → Prop} (hs : s < 10) (hw : zB 1 10 (h 3 s)) (hq : Q (zPa (h 2 s) (h 3 s) (h 1 9)) h) : wp_X3_passes_r1 (nI s) h Q := by
  have h2 := zb_w2 hw
  unfold wp_X3_passes_r1
  unfold zPa at hq
  simp only [zb_in (j := s) (n := 10) hs (by omega), zb_ibt, nI_clamp (n := s) (by omega), pm_op_eq, zb_eq, zb_lt, zb_nz h2]
  repeat' split
  all_goals simp_all
theorem zM_V (H : zrS h) : zV (vM h) := by
  obtain ⟨cn, a1, a2, a3, a4, a5, a6, a7⟩ := H
  exact zE_V (zE_symm a5) a4
theorem nI_m1 {j : Nat} (hj : j < 1000) : ¬ nI j = -1 := by
  intro q
  have := congrArg Int32.toInt q
  rw [nI_toInt (by omega), show (-1 : Int32).toInt = -1 by decide] at this
  omega
/-- a class' number that passed the test -/
theorem zb_cls {a : Int32} {n : Nat} (hn : n ≤ 5) (h : ¬ (a < 0 ∨ ¬ a < nI n)) : ∃ j, j < n ∧ a = nI j := by
  have c1 : ¬ a < 0 := fun z => h (Or.inl z)
  have c2 : a < nI n := by
    rcases Classical.em (a < nI n) with z | z
    · exact z
    · exact absurd (Or.inr z) h
  rw [zb_tlt, Int32.toInt_zero] at c1
  rw [zb_tlt, nI_toInt (by omega)] at c2
  obtain ⟨j, hj, ej, -⟩ := zB_nat (b := 5) (x := a) ⟨by omega, by omega⟩
  refine ⟨j, ?_, ej⟩
  rw [ej, nI_toInt (by omega)] at c2
  omega
theorem sm_toldS {s w : Nat} {h : pm_H} {Q : Int32 → pm_H → Prop} (hs : s < 10) (hw : w < 5) (hV : zV (vM h)) (hq : Q (if w = 0 then h 67 s else if w = 1 then h 68 s else if w = 2 then zHo (vM h 0 s) (vM h 1 s) else if w = 3 then zPa (vM h 0 s) (vM h 1 s) (vM h 7 1) else h 69 s) h) : wp_X7_told (nI s) (nI w) h Q := by
  unfold wp_X7_told
  have e9 : (9 : Int32) = nI 9 := by decide
  refine sm_within (fun n => ?_) (fun _ => ?_)
  · rw [zb_c0, e9] at n
    exact absurd n (by rintro (z | z); exact nI_nlt (by omega) (by omega) z; exact nI_nlt (by omega) (by omega) z)
  rw [zb_eq, if_neg (by decide), zb_lt, show (5 : Int32) = nI 5 by decide, if_pos (nI_lt hw (by omega))]
  refine sm_within (fun n => ?_) (fun _ => ?_)
  · rw [zb_c0, e9] at n
    exact absurd n (by rintro (z | z); exact nI_nlt (by omega) (by omega) z; exact nI_nlt (by omega) (by omega) z)
  rw [zb_eq, if_neg (by decide)]
  simp only [zb_eq, zb_in (j := s) (n := 10) hs (by omega), zb_ibt, nI_clamp (n := s) (by omega)]
  rcases (show w = 0 ∨ w = 1 ∨ w = 2 ∨ w = 3 ∨ w = 4 by omega) with rfl | rfl | rfl | rfl | rfl
  · rw [if_pos (by decide)]; exact hq
  · rw [if_neg (by decide), if_pos (by decide)]; exact hq
  · rw [if_neg (by decide), if_neg (by decide), if_pos (by decide)]
    exact sm_holds_ hV hs hq
  · rw [if_neg (by decide), if_neg (by decide), if_neg (by decide), if_pos (by decide)]
    refine sm_passes hs (hV.2.2.1 s hs).2.1 ?_
    rw [zPa_eq (hV.2.2.1 s hs).2.1]
    exact hq
  · rw [if_neg (by decide), if_neg (by decide), if_neg (by decide), if_neg (by decide), if_pos (by decide)]; exact hq
set_option maxHeartbeats 1000000 in
theorem pr_told (H : zRel h) (a w : Int32) : wp_X6_told a w h (fun r h1 => wp_X7_told a w h1 (fun r' h2 => r = r' ∧ zRel h2)) := by
  obtain ⟨cnt, z1, z2, z3, z4, z5, z6, z7, z8, z9, z10⟩ := zrS_at H.1
  have hV := zM_V H.1
  unfold wp_X6_told
  refine sp_between (fun c => ?_) (fun c => ?_)
  · -- of a class, or of nothing
    rw [zb_eq, if_pos rfl]
    -- the reference where it answers BAD
    have bad : (w < 0 ∨ 9 < w) ∨ (a < 0 ∨ ¬ a < nI cnt) → wp_X7_told a w h (fun r' h2 => -2 = r' ∧ zRel h2) := by
      intro q
      unfold wp_X7_told
      refine sm_within (fun n => ?_) (fun n => ?_)
      · rw [zb_eq, if_pos rfl]; exact ⟨rfl, H⟩
      rw [zb_eq, if_neg (by decide), zb_lt]
      rcases q with q | q
      · exact absurd q n
      have h5 : ¬ w < 5 := by
        rw [zb_tlt, show (5 : Int32).toInt = 5 by decide]
        rcases c with c | c
        · exact absurd (Or.inl c) n
        · rw [zb_tlt, show (4 : Int32).toInt = 4 by decide] at c
          omega
      rw [if_neg h5]
      refine sm_isClass z1 z3 (fun _ => ?_) (fun d => absurd q d)
      rw [zb_eq, if_pos rfl]; exact ⟨rfl, H⟩
    refine sp_isClass (fun d => ?_) (fun d => ?_)
    · rw [zb_eq, if_pos rfl]
      exact bad (Or.inr (by rw [← z2]; exact d))
    rw [zb_eq, if_neg (by decide)]
    rw [z2] at d
    obtain ⟨j, hj, rfl⟩ := zb_cls z1 d
    obtain ⟨y1, y2, y3, y4, y5⟩ := z7 j hj
    unfold wp_X6_toldOfClass
    simp only [zb_eq, zb_in (j := j) (n := 5) (by omega) (by omega), zb_ibt, nI_clamp (n := j) (by omega)]
    have good : ∀ (i : Nat) (x : Int32), w = nI i → 5 ≤ i → i ≤ 9 → x = (if i = 5 then h 70 j else if i = 6 then h 71 j else if i = 7 then h 72 j else if i = 8 then h 73 j else h 74 j) → wp_X7_told (nI j) w h (fun r' h2 => x = r' ∧ zRel h2) := by
      intro i x hw h5 h9 hx
      unfold wp_X7_told
      refine sm_within (fun n => ?_) (fun n => ?_)
      · rw [hw, zb_c0, show (9 : Int32) = nI 9 by decide] at n
        exact absurd n (by rintro (z | z); exact nI_nlt (by omega) (by omega) z; exact nI_nlt (by omega) (by omega) z)
      rw [zb_eq, if_neg (by decide), zb_lt, hw, show (5 : Int32) = nI 5 by decide, if_neg (nI_nlt (by omega) (by omega))]
      refine sm_isClass z1 z3 (fun q => absurd q d) (fun _ => ?_)
      rw [zb_eq, if_neg (by decide)]
      simp only [zb_eq, zb_in (j := j) (n := 5) (by omega) (by omega), zb_ibt, nI_clamp (n := j) (by omega)]
      rcases (show i = 5 ∨ i = 6 ∨ i = 7 ∨ i = 8 ∨ i = 9 by omega) with rfl | rfl | rfl | rfl | rfl
      · rw [if_neg (by decide), if_neg (by decide), if_neg (by decide), if_neg (by decide), if_neg (by decide), if_pos rfl]; exact ⟨hx, H⟩
      · rw [if_neg (by decide), if_neg (by decide), if_neg (by decide), if_neg (by decide), if_neg (by decide), if_neg (by decide), if_pos (by decide)]; exact ⟨hx, H⟩
      · rw [if_neg (by decide), if_neg (by decide), if_neg (by decide), if_neg (by decide), if_neg (by decide), if_neg (by decide), if_neg (by decide), if_pos (by decide)]; exact ⟨hx, H⟩
      · rw [if_neg (by decide), if_neg (by decide), if_neg (by decide), if_neg (by decide), if_neg (by decide), if_neg (by decide), if_neg (by decide), if_neg (by decide), if_pos (by decide)]; exact ⟨hx, H⟩
      · rw [if_neg (by decide), if_neg (by decide), if_neg (by decide), if_neg (by decide), if_neg (by decide), if_neg (by decide), if_neg (by decide), if_neg (by decide), if_neg (by decide)]; exact ⟨hx, H⟩
    by_cases w5 : w = 5
    · rw [if_pos w5]; exact good 5 _ (by rw [w5]; decide) (by omega) (by omega) y5.symm
    rw [if_neg w5]
    by_cases w6 : w = 6
    · rw [if_pos w6]; exact good 6 _ (by rw [w6]; decide) (by omega) (by omega) y1.symm
    rw [if_neg w6]
    by_cases w7 : w = 7
    · rw [if_pos w7]; exact good 7 _ (by rw [w7]; decide) (by omega) (by omega) y2.symm
    rw [if_neg w7]
    by_cases w8 : w = 8
    · rw [if_pos w8]; exact good 8 _ (by rw [w8]; decide) (by omega) (by omega) y3.symm
    rw [if_neg w8]
    by_cases w9 : w = 9
    · rw [if_pos w9]; exact good 9 _ (by rw [w9]; decide) (by omega) (by omega) y4.symm
    rw [if_neg w9]
    refine bad (Or.inl ?_)
    simp only [zb_teq, zb_tlt, Int32.toInt_zero, show (4 : Int32).toInt = 4 by decide, show (5 : Int32).toInt = 5 by decide, show (6 : Int32).toInt = 6 by decide, show (7 : Int32).toInt = 7 by decide, show (8 : Int32).toInt = 8 by decide, show (9 : Int32).toInt = 9 by decide] at *
    omega
  · rw [zb_eq, if_neg (by decide)]
    obtain ⟨i, hi, rfl⟩ := zb_rng (m := 4) (by decide) (by omega) c
    refine sp_isStep (fun d => ?_) (fun d => ?_)
    · rw [zb_eq, if_pos rfl]
      unfold wp_X7_told
      refine sm_within (fun n => ?_) (fun n => ?_)
      · rw [zb_eq, if_pos rfl]; exact ⟨rfl, H⟩
      rw [zb_eq, if_neg (by decide), zb_lt, show (5 : Int32) = nI 5 by decide, if_pos (nI_lt (by omega) (by omega))]
      refine sm_within (fun n => ?_) (fun n => absurd d n)
      rw [zb_eq, if_pos rfl]; exact ⟨rfl, H⟩
    rw [zb_eq, if_neg (by decide)]
    obtain ⟨j, hj, rfl⟩ := zb_rng (m := 9) (by decide) (by omega) d
    obtain ⟨y1, y2, y3, y4, y5, y6, y7⟩ := z6 j (by omega)
    have y5' : zB 1 10 (h 3 j) := ⟨y5.1, by have := y5.2; omega⟩
    have e0 : vM h 0 j = h 2 j := by rw [vM_0 (by omega), y1]
    have e1 : vM h 1 j = h 3 j := by rw [vM_1 (by omega), y2]
    have e71 : vM h 7 1 = h 1 9 := by rw [vM_71, z8]
    have fin : ∀ x, x = (if i = 0 then h 67 j else if i = 1 then h 68 j else if i = 2 then zHo (vM h 0 j) (vM h 1 j) else if i = 3 then zPa (vM h 0 j) (vM h 1 j) (vM h 7 1) else h 69 j) → wp_X7_told (nI j) (nI i) h (fun r' h2 => x = r' ∧ zRel h2) := fun x hx => sm_toldS (by omega) (by omega) hV ⟨hx, H⟩
    unfold wp_X6_toldOfStep
    simp only [zb_eq, zb_in (j := j) (n := 10) (by omega) (by omega), zb_ibt, nI_clamp (n := j) (by omega)]
    rcases (show i = 0 ∨ i = 1 ∨ i = 2 ∨ i = 3 ∨ i = 4 by omega) with rfl | rfl | rfl | rfl | rfl
    · rw [if_pos (by decide)]; exact fin _ y1.symm
    · rw [if_neg (by decide), if_pos (by decide)]; exact fin _ y2.symm
    · rw [if_neg (by decide), if_neg (by decide), if_pos (by decide)]
      exact sp_holdsOf (fin _ (by rw [e0, e1]; rfl))
    · rw [if_neg (by decide), if_neg (by decide), if_neg (by decide), if_pos (by decide)]
      exact sp_passes1 (by omega) y5' (fin _ (by rw [e0, e1, e71]; rfl))
    · rw [if_neg (by decide), if_neg (by decide), if_neg (by decide), if_neg (by decide)]; exact fin _ y3.symm
end
