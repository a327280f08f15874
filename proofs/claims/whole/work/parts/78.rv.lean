/-! MATHEMATICS, 78: the class reads: all of it (by program: wip/whole/gen78.py) -/
section
variable {T : Nat → Int32} {n tc : Nat}
set_option maxHeartbeats 2000000 in
theorem sp_all (hn : n ≤ 160) (ht : tc < 6) (f : Nat) : zCS T n tc f := by
  induction f using Nat.strongRecOn with
  | ind f ih =>
  intro nt o l b l' c hnt E v ho g hg h m Q A hm q
  cases f with
  | zero => exact absurd E (by simp [zPz])
  | succ f =>
  have S := ih f (by omega)
  obtain ⟨g, rfl⟩ : ∃ g', g = g' + 1 := ⟨g - 1, by omega⟩
  have hl : l.1 ≤ n := by have := v.1; have := v.2.1; omega
  have hbad : ∀ {l1 : zLs} {c1 : List Int32}, (some (false, l, []) : Option zPr) = some (b, l1, c1) → l1 = l' → c1 = c → wp_X0_refuse h Q := fun e e1 e2 => by
    obtain ⟨y1, y2, y3⟩ := zPr_inv e
    refine sp_ra ht (by omega) A (fun h1 f1 H1 => q h1 ?_)
    rw [← y1, ← e1, ← y2]
    exact zCb_p f1 H1
  rcases (show nt = 0 ∨ nt = 1 ∨ nt = 2 ∨ nt = 3 ∨ nt = 4 ∨ nt = 5 ∨ nt = 6 ∨ nt = 7 ∨ nt = 8 ∨ nt = 9 by omega) with rfl | rfl | rfl | rfl | rfl | rfl | rfl | rfl | rfl | rfl
  · show wp_X0_readEither (zCc (g + 1) 1) (nI o) h Q
    unfold wp_X0_readEither
    exact sp_pp S (nt := 1) (nt' := 6) (by omega) (by omega) E v ho (g + 1) hg h m Q A hm q (fun l1 h1 H => ⟨n - l1 + 1, H _ 0 (Nat.le_refl _) (Nat.zero_le _)⟩) (fun h1 p H hQ => ⟨1, sp_pl_readEither H hQ⟩)
  · show wp_X0_readBoth (zCc (g + 1) 2) (nI o) h Q
    unfold wp_X0_readBoth
    exact sp_pp S (nt := 2) (nt' := 7) (by omega) (by omega) E v ho (g + 1) hg h m Q A hm q (fun l1 h1 H => ⟨n - l1 + 1, H _ 0 (Nat.le_refl _) (Nat.zero_le _)⟩) (fun h1 p H hQ => ⟨1, sp_pl_readBoth H hQ⟩)
  · simp only [zPz] at E
    show wp_X0_readDenied (zCc g 2) (zCc (g + 1) 3) (nI o) h Q
    unfold wp_X0_readDenied
    rw [zb_eq, zb_lt, show (9 : Int32) = nI (4 + 5) by decide, show (5 : Int32) = nI 5 by decide]
    by_cases c5 : zWi l 5
    · rw [if_pos c5] at E
      obtain ⟨w1, w2, w3⟩ := @zLv_nx T n l v (by rw [c5.1]; decide)
      rw [if_pos ((zTk_w A.2.1 (by omega)).mpr c5)]
      by_cases co : o < 5
      · rw [if_pos co] at E
        rw [if_pos (nI_lt (by omega) (by omega))]
        refine sp_n hn ht v A (fun h1 B1 A1 => ?_)
        rw [pm_op_eq, nI_1]
        refine sp_pw (nt := 2) (w := -10) S hn ht (by omega) E w1 (by omega) g (by omega) h1 m A1 (by omega) (fun h2 B2 => q h2 ?_)
        have Z := zCb_t B1 B2
        exact Z
      · rw [if_neg co] at E
        rw [if_neg (nI_nlt (by omega) (by omega))]
        exact hbad E rfl rfl
    · rw [if_neg c5] at E
      rw [if_neg (fun k => c5 ((zTk_w A.2.1 (by omega)).mp k))]
      rcases zThn_inv E with ⟨c1, e1, e2, e3⟩ | ⟨l1, c1, c2, e1, e2, e3⟩
      · refine S 3 o l false l' c1 (by omega) e1 v ho (g + 1) hg h m _ A (by omega) (fun h1 B => ?_)
        have H1 := B.2.2 rfl
        rw [H1.2.2.1, zb_eq, if_neg (by decide), zb_eq, if_neg (by decide)]
        refine q h1 ?_
        rw [e2]; exact zCb_f B
      · obtain ⟨v1, len1⟩ := zPz_len f 3 o l v _ _ _ e1
        have := len1 rfl
        refine S 3 o l true l1 c1 (by omega) e1 v ho (g + 1) hg h m _ A (by omega) (fun h1 B => ?_)
        have A1 := (B.2.1 rfl).1
        cases f with
        | zero => exact absurd e2 (by simp [zPz])
        | succ f =>
        have S' := ih f (by omega)
        simp only [zPz] at e2
        rw [zb_eq, zb_eq]
        by_cases c6 : zSn l1 60
        · rw [if_pos c6] at e2
          have k6 := (zTk_s A1.2.1 (by unfold zSi; simp)).mpr c6
          rw [if_pos k6, if_pos k6]
          obtain ⟨w1, w2, w3⟩ := @zLv_nx T n l1 v1 (by rw [c6.1]; decide)
          refine sp_n hn ht v1 A1 (fun h2 B2 A2 => ?_)
          refine sp_pw (nt := 3) (w := -15) S' hn ht (by omega) e2 w1 ho (g + 1) hg h2 (m + c1.length) A2 (by omega) (fun h3 B3 => q h3 ?_)
          rw [e3]
          have Z := zCb_t B (zCb_t B2 B3)
          exact Z
        rw [if_neg c6] at e2
        have k6 : ¬ h1 34 4 = 60 := fun k => c6 ((zTk_s A1.2.1 (by unfold zSi; simp)).mp k)
        rw [if_neg k6, zb_eq]
        by_cases c7 : zSn l1 61
        · rw [if_pos c7] at e2
          have k7 := (zTk_s A1.2.1 (by unfold zSi; simp)).mpr c7
          rw [if_pos k7, if_neg k6]
          obtain ⟨w1, w2, w3⟩ := @zLv_nx T n l1 v1 (by rw [c7.1]; decide)
          refine sp_n hn ht v1 A1 (fun h2 B2 A2 => ?_)
          refine sp_pw (nt := 3) (w := -16) S' hn ht (by omega) e2 w1 ho (g + 1) hg h2 (m + c1.length) A2 (by omega) (fun h3 B3 => q h3 ?_)
          rw [e3]
          have Z := zCb_t B (zCb_t B2 B3)
          exact Z
        · rw [if_neg c7] at e2
          rw [if_neg (fun k => c7 ((zTk_s A1.2.1 (by unfold zSi; simp)).mp k))]
          obtain ⟨y1, y2, y3⟩ := zPr_inv e2
          refine q h1 ?_
          rw [e3, ← y3, ← y2, ← y1, List.append_nil]
          exact B
  · show wp_X0_readSum (zCc (g + 1) 4) (nI o) h Q
    unfold wp_X0_readSum
    exact sp_pp S (nt := 4) (nt' := 8) (by omega) (by omega) E v ho (g + 1) hg h m Q A hm q (fun l1 h1 H => ⟨n - l1 + 1, H _ 0 (Nat.le_refl _) (Nat.zero_le _)⟩) (fun h1 p H hQ => ⟨1, sp_pl_readSum H hQ⟩)
  · show wp_X0_readTerm (zCc (g + 1) 5) (nI o) h Q
    unfold wp_X0_readTerm
    exact sp_pp S (nt := 5) (nt' := 9) (by omega) (by omega) E v ho (g + 1) hg h m Q A hm q (fun l1 h1 H => ⟨n - l1 + 1, H _ 0 (Nat.le_refl _) (Nat.zero_le _)⟩) (fun h1 p H hQ => ⟨1, sp_pl_readTerm H hQ⟩)
  · simp only [zPz] at E
    show wp_X0_readOne (zCc g 5) (zCc g 0) (nI o) h Q
    unfold wp_X0_readOne
    rw [zb_eq]
    obtain ⟨d1, d2⟩ := zTk_2 A.2.1
    by_cases c2 : l.2.2.1 = 2
    · rw [if_pos c2] at E
      obtain ⟨w1, w2, w3⟩ := @zLv_nx T n l v (by rw [c2]; decide)
      obtain ⟨y1, y2, y3⟩ := zPr_inv E
      rw [if_pos (d1.mpr c2), d2 c2]
      refine sp_w ht (by omega) A (fun h1 B1 A1 => sp_n hn ht v A1 (fun h2 B2 A2 => q h2 ?_))
      rw [← y1, ← y2, ← y3]
      exact zCb_t B1 B2
    rw [if_neg c2] at E
    rw [if_neg (fun k => c2 (d1.mp k)), zb_eq]
    obtain ⟨d3, d4⟩ := zTk_3 A.2.1
    by_cases c3 : l.2.2.1 = 3 ∧ 6 ≤ l.2.2.2.toNatClampNeg ∧ l.2.2.2.toNatClampNeg < 12
    · rw [if_pos c3] at E
      obtain ⟨w1, w2, w3⟩ := @zLv_nx T n l v (by rw [c3.1]; decide)
      obtain ⟨y1, y2, y3⟩ := zPr_inv E
      rw [if_pos (d3.mpr c3), d4 c3, pm_op_eq]
      refine sp_w ht (by omega) A (fun h1 B1 A1 => sp_n hn ht v A1 (fun h2 B2 A2 => q h2 ?_))
      rw [← y1, ← y2, ← y3]
      exact zCb_t B1 B2
    rw [if_neg c3] at E
    rw [if_neg (fun k => c3 (d3.mp k)), zb_eq]
    by_cases c4 : zSn l 45
    · rw [if_pos c4] at E
      have k4 := (zTk_s A.2.1 (by unfold zSi; simp)).mpr c4
      obtain ⟨w1, w2, w3⟩ := @zLv_nx T n l v (by rw [c4.1]; decide)
      rw [if_pos k4, zb_lt, show (5 : Int32) = nI 5 by decide]
      by_cases co : o < 5
      · rw [if_pos co] at E
        rw [if_pos (nI_lt (by omega) (by omega))]
        refine sp_n hn ht v A (fun h1 B1 A1 => ?_)
        rw [pm_op_eq, nI_1]
        refine sp_pw (nt := 5) (w := -11) S hn ht (by omega) E w1 (by omega) g (by omega) h1 m A1 (by omega) (fun h2 B2 => q h2 ?_)
        have Z := zCb_t B1 B2
        exact Z
      · rw [if_neg co] at E
        rw [if_neg (nI_nlt (by omega) (by omega)), zb_eq, k4, if_neg (by decide)]
        exact hbad E rfl rfl
    rw [if_neg c4] at E
    rw [if_neg (fun k => c4 ((zTk_s A.2.1 (by unfold zSi; simp)).mp k)), zb_eq]
    by_cases c6 : zSn l 40
    · rw [if_pos c6] at E
      obtain ⟨w1, w2, w3⟩ := @zLv_nx T n l v (by rw [c6.1]; decide)
      rw [if_pos ((zTk_s A.2.1 (by unfold zSi; simp)).mpr c6), zb_lt, show (5 : Int32) = nI 5 by decide]
      by_cases co : o < 5
      · rw [if_pos co] at E
        rw [if_pos (nI_lt (by omega) (by omega))]
        refine sp_n hn ht v A (fun h1 B1 A1 => ?_)
        rw [pm_op_eq, nI_1]
        rcases zThn_inv E with ⟨c1, e1, e2, e3⟩ | ⟨l1, c1, c2', e1, e2, e3⟩
        · refine S 0 (o + 1) _ false l' c1 (by omega) e1 w1 (by omega) g (by omega) h1 m _ A1 (by omega) (fun h2 B => ?_)
          obtain ⟨v1, -⟩ := zPz_len f 0 (o + 1) _ w1 _ _ _ e1
          refine sp_pa ht (by have := v1.1; have := v1.2.1; omega) (by decide) (B.2.2 rfl) (fun h3 f3 H3 => q h3 ?_)
          rw [e2]
          exact zCb_p (zCf_t B1.1 (zCf_t B.1 f3)) H3
        · obtain ⟨v1, len1⟩ := zPz_len f 0 (o + 1) _ w1 _ _ _ e1
          have hlen := len1 rfl
          have y4 : l1.1 ≤ n := by have := v1.1; have := v1.2.1; omega
          refine S 0 (o + 1) _ true l1 c1 (by omega) e1 w1 (by omega) g (by omega) h1 m _ A1 (by omega) (fun h2 B => ?_)
          have A2 := (B.2.1 rfl).1
          unfold wp_X0_accept
          rw [zb_eq]
          by_cases c7 : zSn l1 41
          · rw [if_pos c7] at e2
            obtain ⟨y1, y2, y3⟩ := zPr_inv e2
            rw [if_pos ((zTk_s A2.2.1 (by unfold zSi; simp)).mpr c7)]
            refine sp_n hn ht v1 A2 (fun h3 B3 A3 => q h3 ?_)
            rw [e3, ← y3, ← y2, ← y1]
            have Z := zCb_t B1 (zCb_t B B3)
            exact Z
          · rw [if_neg c7] at e2
            obtain ⟨y1, y2, y3⟩ := zPr_inv e2
            rw [if_neg (fun k => c7 ((zTk_s A2.2.1 (by unfold zSi; simp)).mp k))]
            refine sp_ra ht (by omega) A2 (fun h3 f3 H3 => q h3 ?_)
            rw [← y1, ← y2]
            exact zCb_p (zCf_t B1.1 (zCf_t B.1 f3)) H3
      · rw [if_neg co] at E
        rw [if_neg (nI_nlt (by omega) (by omega))]
        exact hbad E rfl rfl
    · rw [if_neg c6] at E
      rw [if_neg (fun k => c6 ((zTk_s A.2.1 (by unfold zSi; simp)).mp k))]
      exact hbad E rfl rfl
  · simp only [zPz] at E
    intro k i hk hi
    obtain ⟨k, rfl⟩ : ∃ k', k = k' + 1 := ⟨k - 1, by omega⟩
    show wl_X0_readEither_7 (zCc (g + 1) 1) (nI o) (fun h => Q h) Q (k + 1) (nI i) h
    unfold wl_X0_readEither_7
    rw [zb_lt, show (160 : Int32) = nI 160 by decide]
    have hend : (some (true, l, []) : Option zPr) = some (b, l', c) → Q h := fun e => by
      obtain ⟨y1, y2, y3⟩ := zPr_inv e
      refine q h ?_
      rw [← y1, ← y2, ← y3]
      exact zCa_0 A
    by_cases c3 : zWi l 3
    · rw [if_pos c3] at E
      rw [if_pos (nI_lt (by have := v.2.2.1 (by rw [c3.1]; decide); have := v.2.1; omega) (by omega)), zb_eq, show (7 : Int32) = nI (4 + 3) by decide, if_pos ((zTk_w A.2.1 (k := 3) (by omega)).mpr c3)]
      obtain ⟨w1, w2, w3⟩ := @zLv_nx T n l v (by rw [c3.1]; decide)
      obtain ⟨k, rfl⟩ : ∃ k', k = k' + 1 := ⟨k - 1, by omega⟩
      refine sp_n hn ht v A (fun h1 B1 A1 => ?_)
      rw [pm_op_eq, nI_1]
      rcases zThn_inv E with ⟨c1, e1, e2, e3⟩ | ⟨l1, c1, c2, e1, e2, e3⟩
      · refine sp_pw (nt := 1) (w := -18) S hn ht (by omega) e1 w1 ho (g + 1) hg h1 m A1 (by omega) (fun h3 B3 => ?_)
        refine sp_pl_readEither (B3.2.2 rfl) (q h3 ?_)
        rw [e2]
        exact zCb_f (zCb_t B1 B3)
      · obtain ⟨v1, len1⟩ := zGl_emt (w := -18) w2 (zPz_len f 1 o _ w1) _ _ _ e1
        have hlen := len1 rfl
        have y4 : l1.1 ≤ n := by have := v1.1; have := v1.2.1; omega
        have hc1 : 1 ≤ c1.length := by
          rcases zThn_inv e1 with ⟨c1', a1, a2, a3⟩ | ⟨l1', c1', c2', a1, a2, a3⟩
          · exact absurd a2 (by decide)
          · obtain ⟨z1, z2, z3⟩ := zPr_inv a2
            rw [a3, ← z3]; simp
        refine sp_pw (nt := 1) (w := -18) S hn ht (by omega) e1 w1 ho (g + 1) hg h1 m A1 (by omega) (fun h3 B3 => ?_)
        refine S 6 o l1 b l' c2 (by omega) e2 v1 ho (g + 1) hg h3 (m + c1.length) Q (B3.2.1 rfl).1 (by omega) (fun h4 B4 => q h4 ?_) (k + 1) (i + 1) (by omega) (by omega)
        rw [e3]
        have Z := zCb_t B1 (zCb_t B3 B4)
        exact Z
    · rw [if_neg c3] at E
      by_cases hi160 : i < 160
      · rw [if_pos (nI_lt hi160 (by omega)), zb_eq, show (7 : Int32) = nI (4 + 3) by decide, if_neg (fun k => c3 ((zTk_w A.2.1 (k := 3) (by omega)).mp k))]
        exact hend E
      · rw [if_neg (nI_nlt (by omega) (by omega))]
        exact hend E
  · simp only [zPz] at E
    intro k i hk hi
    obtain ⟨k, rfl⟩ : ∃ k', k = k' + 1 := ⟨k - 1, by omega⟩
    show wl_X0_readBoth_7 (zCc (g + 1) 2) (nI o) (fun h => Q h) Q (k + 1) (nI i) h
    unfold wl_X0_readBoth_7
    rw [zb_lt, show (160 : Int32) = nI 160 by decide]
    have hend : (some (true, l, []) : Option zPr) = some (b, l', c) → Q h := fun e => by
      obtain ⟨y1, y2, y3⟩ := zPr_inv e
      refine q h ?_
      rw [← y1, ← y2, ← y3]
      exact zCa_0 A
    by_cases c3 : zWi l 4
    · rw [if_pos c3] at E
      rw [if_pos (nI_lt (by have := v.2.2.1 (by rw [c3.1]; decide); have := v.2.1; omega) (by omega)), zb_eq, show (8 : Int32) = nI (4 + 4) by decide, if_pos ((zTk_w A.2.1 (k := 4) (by omega)).mpr c3)]
      obtain ⟨w1, w2, w3⟩ := @zLv_nx T n l v (by rw [c3.1]; decide)
      obtain ⟨k, rfl⟩ : ∃ k', k = k' + 1 := ⟨k - 1, by omega⟩
      refine sp_n hn ht v A (fun h1 B1 A1 => ?_)
      rw [pm_op_eq, nI_1]
      rcases zThn_inv E with ⟨c1, e1, e2, e3⟩ | ⟨l1, c1, c2, e1, e2, e3⟩
      · refine sp_pw (nt := 2) (w := -17) S hn ht (by omega) e1 w1 ho (g + 1) hg h1 m A1 (by omega) (fun h3 B3 => ?_)
        refine sp_pl_readBoth (B3.2.2 rfl) (q h3 ?_)
        rw [e2]
        exact zCb_f (zCb_t B1 B3)
      · obtain ⟨v1, len1⟩ := zGl_emt (w := -17) w2 (zPz_len f 2 o _ w1) _ _ _ e1
        have hlen := len1 rfl
        have y4 : l1.1 ≤ n := by have := v1.1; have := v1.2.1; omega
        have hc1 : 1 ≤ c1.length := by
          rcases zThn_inv e1 with ⟨c1', a1, a2, a3⟩ | ⟨l1', c1', c2', a1, a2, a3⟩
          · exact absurd a2 (by decide)
          · obtain ⟨z1, z2, z3⟩ := zPr_inv a2
            rw [a3, ← z3]; simp
        refine sp_pw (nt := 2) (w := -17) S hn ht (by omega) e1 w1 ho (g + 1) hg h1 m A1 (by omega) (fun h3 B3 => ?_)
        refine S 7 o l1 b l' c2 (by omega) e2 v1 ho (g + 1) hg h3 (m + c1.length) Q (B3.2.1 rfl).1 (by omega) (fun h4 B4 => q h4 ?_) (k + 1) (i + 1) (by omega) (by omega)
        rw [e3]
        have Z := zCb_t B1 (zCb_t B3 B4)
        exact Z
    · rw [if_neg c3] at E
      by_cases hi160 : i < 160
      · rw [if_pos (nI_lt hi160 (by omega)), zb_eq, show (8 : Int32) = nI (4 + 4) by decide, if_neg (fun k => c3 ((zTk_w A.2.1 (k := 4) (by omega)).mp k))]
        exact hend E
      · rw [if_neg (nI_nlt (by omega) (by omega))]
        exact hend E
  · simp only [zPz] at E
    intro k i hk hi
    obtain ⟨k, rfl⟩ : ∃ k', k = k' + 1 := ⟨k - 1, by omega⟩
    show wl_X0_readSum_7 (zCc (g + 1) 4) (nI o) (fun h => Q h) Q (k + 1) (nI i) h
    unfold wl_X0_readSum_7
    rw [zb_lt, show (160 : Int32) = nI 160 by decide]
    have hend : (some (true, l, []) : Option zPr) = some (b, l', c) → Q h := fun e => by
      obtain ⟨y1, y2, y3⟩ := zPr_inv e
      refine q h ?_
      rw [← y1, ← y2, ← y3]
      exact zCa_0 A
    by_cases c3 : zSn l 43
    · rw [if_pos c3] at E
      have k3 := (zTk_s A.2.1 (x := 43) (by unfold zSi; simp)).mpr c3
      rw [if_pos (nI_lt (by have := v.2.2.1 (by rw [c3.1]; decide); have := v.2.1; omega) (by omega)), zb_eq, if_pos k3, zb_eq, if_pos k3]
      obtain ⟨w1, w2, w3⟩ := @zLv_nx T n l v (by rw [c3.1]; decide)
      obtain ⟨k, rfl⟩ : ∃ k', k = k' + 1 := ⟨k - 1, by omega⟩
      refine sp_n hn ht v A (fun h1 B1 A1 => ?_)
      rw [pm_op_eq, nI_1]
      rcases zThn_inv E with ⟨c1, e1, e2, e3⟩ | ⟨l1, c1, c2, e1, e2, e3⟩
      · refine sp_pw (nt := 4) (w := -12) S hn ht (by omega) e1 w1 ho (g + 1) hg h1 m A1 (by omega) (fun h3 B3 => ?_)
        refine sp_pl_readSum (B3.2.2 rfl) (q h3 ?_)
        rw [e2]
        exact zCb_f (zCb_t B1 B3)
      · obtain ⟨v1, len1⟩ := zGl_emt (w := -12) w2 (zPz_len f 4 o _ w1) _ _ _ e1
        have hlen := len1 rfl
        have y4 : l1.1 ≤ n := by have := v1.1; have := v1.2.1; omega
        have hc1 : 1 ≤ c1.length := by
          rcases zThn_inv e1 with ⟨c1', a1, a2, a3⟩ | ⟨l1', c1', c2', a1, a2, a3⟩
          · exact absurd a2 (by decide)
          · obtain ⟨z1, z2, z3⟩ := zPr_inv a2
            rw [a3, ← z3]; simp
        refine sp_pw (nt := 4) (w := -12) S hn ht (by omega) e1 w1 ho (g + 1) hg h1 m A1 (by omega) (fun h3 B3 => ?_)
        refine S 8 o l1 b l' c2 (by omega) e2 v1 ho (g + 1) hg h3 (m + c1.length) Q (B3.2.1 rfl).1 (by omega) (fun h4 B4 => q h4 ?_) (k + 1) (i + 1) (by omega) (by omega)
        rw [e3]
        have Z := zCb_t B1 (zCb_t B3 B4)
        exact Z
    rw [if_neg c3] at E
    have k3 : ¬ h 34 4 = 43 := fun k => c3 ((zTk_s A.2.1 (x := 43) (by unfold zSi; simp)).mp k)
    by_cases c4 : zSn l 45
    · rw [if_pos c4] at E
      have k4 := (zTk_s A.2.1 (x := 45) (by unfold zSi; simp)).mpr c4
      rw [if_pos (nI_lt (by have := v.2.2.1 (by rw [c4.1]; decide); have := v.2.1; omega) (by omega)), zb_eq, if_neg k3, zb_eq, if_pos k4, zb_eq, if_neg k3]
      obtain ⟨w1, w2, w3⟩ := @zLv_nx T n l v (by rw [c4.1]; decide)
      obtain ⟨k, rfl⟩ : ∃ k', k = k' + 1 := ⟨k - 1, by omega⟩
      refine sp_n hn ht v A (fun h1 B1 A1 => ?_)
      rw [pm_op_eq, nI_1]
      rcases zThn_inv E with ⟨c1, e1, e2, e3⟩ | ⟨l1, c1, c2, e1, e2, e3⟩
      · refine sp_pw (nt := 4) (w := -13) S hn ht (by omega) e1 w1 ho (g + 1) hg h1 m A1 (by omega) (fun h3 B3 => ?_)
        refine sp_pl_readSum (B3.2.2 rfl) (q h3 ?_)
        rw [e2]
        exact zCb_f (zCb_t B1 B3)
      · obtain ⟨v1, len1⟩ := zGl_emt (w := -13) w2 (zPz_len f 4 o _ w1) _ _ _ e1
        have hlen := len1 rfl
        have y4 : l1.1 ≤ n := by have := v1.1; have := v1.2.1; omega
        have hc1 : 1 ≤ c1.length := by
          rcases zThn_inv e1 with ⟨c1', a1, a2, a3⟩ | ⟨l1', c1', c2', a1, a2, a3⟩
          · exact absurd a2 (by decide)
          · obtain ⟨z1, z2, z3⟩ := zPr_inv a2
            rw [a3, ← z3]; simp
        refine sp_pw (nt := 4) (w := -13) S hn ht (by omega) e1 w1 ho (g + 1) hg h1 m A1 (by omega) (fun h3 B3 => ?_)
        refine S 8 o l1 b l' c2 (by omega) e2 v1 ho (g + 1) hg h3 (m + c1.length) Q (B3.2.1 rfl).1 (by omega) (fun h4 B4 => q h4 ?_) (k + 1) (i + 1) (by omega) (by omega)
        rw [e3]
        have Z := zCb_t B1 (zCb_t B3 B4)
        exact Z
    · rw [if_neg c4] at E
      by_cases hi160 : i < 160
      · rw [if_pos (nI_lt hi160 (by omega)), zb_eq, if_neg k3, zb_eq, if_neg (fun k => c4 ((zTk_s A.2.1 (x := 45) (by unfold zSi; simp)).mp k))]
        exact hend E
      · rw [if_neg (nI_nlt (by omega) (by omega))]
        exact hend E
  · simp only [zPz] at E
    intro k i hk hi
    obtain ⟨k, rfl⟩ : ∃ k', k = k' + 1 := ⟨k - 1, by omega⟩
    show wl_X0_readTerm_7 (zCc (g + 1) 5) (nI o) (fun h => Q h) Q (k + 1) (nI i) h
    unfold wl_X0_readTerm_7
    rw [zb_lt, show (160 : Int32) = nI 160 by decide]
    have hend : (some (true, l, []) : Option zPr) = some (b, l', c) → Q h := fun e => by
      obtain ⟨y1, y2, y3⟩ := zPr_inv e
      refine q h ?_
      rw [← y1, ← y2, ← y3]
      exact zCa_0 A
    by_cases c3 : zSn l 42
    · rw [if_pos c3] at E
      rw [if_pos (nI_lt (by have := v.2.2.1 (by rw [c3.1]; decide); have := v.2.1; omega) (by omega)), zb_eq, if_pos ((zTk_s A.2.1 (x := 42) (by unfold zSi; simp)).mpr c3)]
      obtain ⟨w1, w2, w3⟩ := @zLv_nx T n l v (by rw [c3.1]; decide)
      obtain ⟨k, rfl⟩ : ∃ k', k = k' + 1 := ⟨k - 1, by omega⟩
      refine sp_n hn ht v A (fun h1 B1 A1 => ?_)
      rw [pm_op_eq, nI_1]
      rcases zThn_inv E with ⟨c1, e1, e2, e3⟩ | ⟨l1, c1, c2, e1, e2, e3⟩
      · refine sp_pw (nt := 5) (w := -14) S hn ht (by omega) e1 w1 ho (g + 1) hg h1 m A1 (by omega) (fun h3 B3 => ?_)
        refine sp_pl_readTerm (B3.2.2 rfl) (q h3 ?_)
        rw [e2]
        exact zCb_f (zCb_t B1 B3)
      · obtain ⟨v1, len1⟩ := zGl_emt (w := -14) w2 (zPz_len f 5 o _ w1) _ _ _ e1
        have hlen := len1 rfl
        have y4 : l1.1 ≤ n := by have := v1.1; have := v1.2.1; omega
        have hc1 : 1 ≤ c1.length := by
          rcases zThn_inv e1 with ⟨c1', a1, a2, a3⟩ | ⟨l1', c1', c2', a1, a2, a3⟩
          · exact absurd a2 (by decide)
          · obtain ⟨z1, z2, z3⟩ := zPr_inv a2
            rw [a3, ← z3]; simp
        refine sp_pw (nt := 5) (w := -14) S hn ht (by omega) e1 w1 ho (g + 1) hg h1 m A1 (by omega) (fun h3 B3 => ?_)
        refine S 9 o l1 b l' c2 (by omega) e2 v1 ho (g + 1) hg h3 (m + c1.length) Q (B3.2.1 rfl).1 (by omega) (fun h4 B4 => q h4 ?_) (k + 1) (i + 1) (by omega) (by omega)
        rw [e3]
        have Z := zCb_t B1 (zCb_t B3 B4)
        exact Z
    · rw [if_neg c3] at E
      by_cases hi160 : i < 160
      · rw [if_pos (nI_lt hi160 (by omega)), zb_eq, if_neg (fun k => c3 ((zTk_s A.2.1 (x := 42) (by unfold zSi; simp)).mp k))]
        exact hend E
      · rw [if_neg (nI_nlt (by omega) (by omega))]
        exact hend E
end
