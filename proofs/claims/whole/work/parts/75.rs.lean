/-! MATHEMATICS, 75: the reference reads: all of it (by program: wip/whole/gen75.py) -/
section
variable {T : Nat → Int32} {n tc : Nat}
set_option maxHeartbeats 2000000 in
theorem sm_all (hn : n ≤ 160) (ht : tc < 6) (f : Nat) : zMs T n tc f := by
  induction f using Nat.strongRecOn with
  | ind f ih =>
  intro nt o l b l' c hnt E v ho g hg h m Q A hm q1 q0
  cases f with
  | zero => exact absurd E (by simp [zPz])
  | succ f =>
  have S := ih f (by omega)
  obtain ⟨g, rfl⟩ : ∃ g', g = g' + 1 := ⟨g - 1, by omega⟩
  have hl : l.1 ≤ n := by have := v.1; have := v.2.1; omega
  rcases (show nt = 0 ∨ nt = 1 ∨ nt = 2 ∨ nt = 3 ∨ nt = 4 ∨ nt = 5 ∨ nt = 6 ∨ nt = 7 ∨ nt = 8 ∨ nt = 9 by omega) with rfl | rfl | rfl | rfl | rfl | rfl | rfl | rfl | rfl | rfl
  · show wp_X7_any (zMc (g + 1) 1) h Q
    unfold wp_X7_any
    exact sm_pp S (nt := 1) (nt' := 6) (by omega) (by omega) E v ho (g + 1) hg h m Q A hm q1 q0 (fun l1 h1 H => ⟨n - l1 + 1, H _ (Nat.le_refl _)⟩)
  · show wp_X7_both (zMc (g + 1) 2) h Q
    unfold wp_X7_both
    exact sm_pp S (nt := 2) (nt' := 7) (by omega) (by omega) E v ho (g + 1) hg h m Q A hm q1 q0 (fun l1 h1 H => ⟨n - l1 + 1, H _ (Nat.le_refl _)⟩)
  · simp only [zPz] at E
    show wp_X7_not (zMc (g + 1) 3) (zMc g 2) h Q
    unfold wp_X7_not
    refine sm_is (k := 5) hn (by omega) A.2.1 (fun c5 => ?_) (fun c5 => ?_)
    · rw [if_pos (show zWi l 5 from c5)] at E
      obtain ⟨w1, w2, w3⟩ := @zLv_nx T n l v (by rw [c5.1]; decide)
      rw [zb_eq, if_neg (by decide), zb_eq, A.2.2.1, show (5 : Int32) = nI 5 by decide]
      by_cases co : o < 5
      · rw [if_pos co] at E
        rw [if_neg (fun q => by have := (nI_eq (by omega) (by omega)).mp q; omega), pm_op_eq, nI_1]
        obtain ⟨A1, B1⟩ := sm_o (x := nI (o + 1)) A rfl
        refine sm_n hn v A1 (fun h1 B2 A2 => ?_)
        rcases zThn_inv E with ⟨c1, e1, e2, e3⟩ | ⟨l1, c1, c2, e1, e2, e3⟩
        · refine S 2 (o + 1) _ false l' c1 (by omega) e1 w1 (by omega) g (by omega) h1 m _ A2 (by omega) (fun h2 hb _ => absurd hb (by decide)) (fun h2 _ B => ?_)
          rw [zb_eq, if_pos rfl]
          exact q0 h2 e2 (zMb_f (zMb_t B1 (zMb_t B2 B)))
        · obtain ⟨v1, len1⟩ := zPz_len f 2 (o + 1) _ w1 _ _ _ e1
          have := len1 rfl
          obtain ⟨y1, y2, y3⟩ := zPr_inv e2
          have y4 : l1.1 ≤ n := by have := v1.1; have := v1.2.1; omega
          refine S 2 (o + 1) _ true l1 c1 (by omega) e1 w1 (by omega) g (by omega) h1 m _ A2 (by omega) (fun h2 _ B => ?_) (fun h2 hb _ => absurd hb (by decide))
          have A3 := (B.2.1 rfl).1
          rw [zb_eq, if_neg (by decide), A3.2.2.1, pm_op_eq, nI_pred]
          obtain ⟨A4, B4⟩ := sm_o (x := nI o) A3 rfl
          refine sm_w (w := -10) ht (by omega) A4 (by decide) (fun h3 B5 _ => q1 h3 y1.symm ?_)
          rw [e3, ← y3, ← y2]
          have Z := zMb_t B1 (zMb_t B2 (zMb_t B (zMb_t B4 B5)))
          simp only [List.nil_append] at Z
          exact Z
      · rw [if_neg co] at E
        obtain ⟨y1, y2, y3⟩ := zPr_inv E
        rw [if_pos (by rw [show o = 5 by omega])]
        exact q0 h y1.symm (y2 ▸ zMa_bad A)
    · rw [if_neg (show ¬ zWi l 5 from c5)] at E
      rw [zb_eq, if_pos rfl]
      rcases zThn_inv E with ⟨c1, e1, e2, e3⟩ | ⟨l1, c1, c2, e1, e2, e3⟩
      · refine S 3 o l false l' c1 (by omega) e1 v ho (g + 1) hg h m _ A (by omega) (fun h1 hb _ => absurd hb (by decide)) (fun h1 _ B => ?_)
        rw [zb_eq, if_pos rfl]
        exact q0 h1 e2 (zMb_f B)
      · obtain ⟨v1, len1⟩ := zPz_len f 3 o l v _ _ _ e1
        have := len1 rfl
        refine S 3 o l true l1 c1 (by omega) e1 v ho (g + 1) hg h m _ A (by omega) (fun h1 _ B => ?_) (fun h1 hb _ => absurd hb (by decide))
        rw [zb_eq, if_neg (by decide)]
        have A1 := (B.2.1 rfl).1
        cases f with
        | zero => exact absurd e2 (by simp [zPz])
        | succ f =>
        have S' := ih f (by omega)
        simp only [zPz] at e2
        refine sm_is_ A1.2.1 (fun c6 => ?_) (fun c6 => ?_)
        · have hw : ∀ (w : Int32) (w' : Int32), zThn (zPz T n f 3 o (zLx T n l1.2.1)) (zEmt w) = some (b, l', c2) → w' = zTw w → wp_X7_next h1 (fun h2 => zMc (g + 1) 3 h2 (fun r h3 => pm_eq r 0 (Q 0 h3) (wp_X7_put w' h3 (fun h4 => Q 1 h4)))) := fun w w' e2 hw => by
            obtain ⟨w1, w2, w3⟩ := @zLv_nx T n l1 v1 (by rw [c6.1]; decide)
            refine sm_n hn v1 A1 (fun h2 B2 A2 => ?_)
            refine sm_pw (nt := 3) S' hn ht (by omega) e2 w1 ho (g + 1) hg h2 (m + c1.length) A2 (by omega) hw (fun h3 hb B3 => q1 h3 hb ?_) (fun h3 hb B3 => q0 h3 hb ?_)
            · rw [e3]; exact zMb_t B (zMb_t B2 B3)
            · exact zMb_f (zMb_t B (zMb_t B2 B3))
          rw [if_pos (show zSn l1 60 from c6)] at e2
          rw [zb_eq, if_neg (by decide)]
          refine sm_is_ A1.2.1 (fun c7 => ?_) (fun c7 => absurd c6 c7)
          rw [zb_eq, if_neg (by decide)]
          exact hw (-15) (-14) e2 (by decide)
        · rw [if_neg (show ¬ zSn l1 60 from c6)] at e2
          rw [zb_eq, if_pos rfl]
          refine sm_is_ A1.2.1 (fun c7 => ?_) (fun c7 => ?_)
          · rw [if_pos (show zSn l1 61 from c7)] at e2
            rw [zb_eq, if_neg (by decide)]
            refine sm_is_ A1.2.1 (fun c8 => absurd c8 c6) (fun c8 => ?_)
            rw [zb_eq, if_pos rfl]
            obtain ⟨w1, w2, w3⟩ := @zLv_nx T n l1 v1 (by rw [c7.1]; decide)
            refine sm_n hn v1 A1 (fun h2 B2 A2 => ?_)
            refine sm_pw (nt := 3) S' hn ht (by omega) e2 w1 ho (g + 1) hg h2 (m + c1.length) A2 (by omega) (by decide) (fun h3 hb B3 => q1 h3 hb ?_) (fun h3 hb B3 => q0 h3 hb ?_)
            · rw [e3]; exact zMb_t B (zMb_t B2 B3)
            · exact zMb_f (zMb_t B (zMb_t B2 B3))
          · rw [if_neg (show ¬ zSn l1 61 from c7)] at e2
            rw [zb_eq, if_pos rfl]
            obtain ⟨y1, y2, y3⟩ := zPr_inv e2
            refine q1 h1 y1.symm ?_
            rw [e3, ← y3, ← y2, List.append_nil]
            exact B
  · show wp_X7_sum (zMc (g + 1) 4) h Q
    unfold wp_X7_sum
    exact sm_pp S (nt := 4) (nt' := 8) (by omega) (by omega) E v ho (g + 1) hg h m Q A hm q1 q0 (fun l1 h1 H => ⟨n - l1 + 1, H _ (Nat.le_refl _)⟩)
  · show wp_X7_term (zMc (g + 1) 5) h Q
    unfold wp_X7_term
    exact sm_pp S (nt := 5) (nt' := 9) (by omega) (by omega) E v ho (g + 1) hg h m Q A hm q1 q0 (fun l1 h1 H => ⟨n - l1 + 1, H _ (Nat.le_refl _)⟩)
  · simp only [zPz] at E
    show wp_X7_one (zMc g 0) (zMc g 5) h Q
    unfold wp_X7_one
    rw [zb_eq]
    have hR := A.2.1.2.2.2.2.2
    by_cases c2 : l.2.2.1 = 2
    · rw [if_pos c2] at E
      obtain ⟨w1, w2, w3⟩ := @zLv_nx T n l v (by rw [c2]; decide)
      obtain ⟨y1, y2, y3⟩ := zPr_inv E
      obtain ⟨x, x1, x2⟩ := v.2.2.2.1 c2
      have h20 : h 66 20 = 1 ∧ h 66 21 = l.2.2.2 := by
        rcases hR with ⟨t, -⟩ | ⟨t, -⟩ | ⟨t, e⟩ | ⟨t, -⟩ | ⟨t, -⟩
        · omega
        · omega
        · exact e
        · omega
        · omega
      rw [if_pos h20.1, h20.2]
      refine sm_w (w := l.2.2.2) ht (by omega) A (by rw [zTw_pos (by rw [x2, zb_c0]; exact nI_nlt (by omega) (by omega))]) (fun h1 B1 A1 => sm_n hn v A1 (fun h2 B2 A2 => q1 h2 y1.symm ?_))
      rw [← y2, ← y3]
      exact zMb_t B1 B2
    rw [if_neg c2] at E
    have h20 : h 66 20 ≠ 1 := by
      rcases hR with ⟨t, e⟩ | ⟨t, e⟩ | ⟨t, e, -⟩ | ⟨t, e, -⟩ | ⟨t, e, -⟩
      · rw [e]; decide
      · rw [e]; decide
      · omega
      · rw [e]; decide
      · rw [e]; decide
    rw [if_neg h20]
    refine sm_name hn A.2.1 (fun k hk t3 t4 => ?_) (fun k0 => ?_)
    · rw [if_pos ⟨t3, by rw [t4, nI_clamp (by omega)]; omega, by rw [t4, nI_clamp (by omega)]; omega⟩] at E
      obtain ⟨y1, y2, y3⟩ := zPr_inv E
      rw [zb_lt, zb_c0, if_pos (nI_lt (by omega) (by omega)), pm_op_eq]
      refine sm_w (w := -1 - (l.2.2.2 - 6)) ht (by obtain ⟨w1, w2, w3⟩ := @zLv_nx T n l v (by rw [t3]; decide); omega) A ?_ (fun h1 B1 A1 => sm_n hn v A1 (fun h2 B2 A2 => q1 h2 y1.symm ?_))
      · rw [t4]
        rcases (show k = 0 ∨ k = 1 ∨ k = 2 ∨ k = 3 ∨ k = 4 ∨ k = 5 by omega) with rfl | rfl | rfl | rfl | rfl | rfl <;> decide
      · rw [← y2, ← y3]
        exact zMb_t B1 B2
    have c3 : ¬ (l.2.2.1 = 3 ∧ 6 ≤ l.2.2.2.toNatClampNeg ∧ l.2.2.2.toNatClampNeg < 12) := fun q => by
      obtain ⟨k, k1, k2⟩ := v.2.2.2.2 q.1
      have k3 := q.2.1
      have k4 := q.2.2
      rw [k2, nI_clamp (by omega)] at k3 k4
      exact k0 (k - 6) (by omega) ⟨q.1, by rw [k2]; congr 1; omega⟩
    rw [if_neg c3] at E
    rw [zb_lt, if_neg (by decide)]
    refine sm_is_ A.2.1 (fun c4 => ?_) (fun c4 => ?_)
    · rw [if_pos (show zSn l 45 from c4)] at E
      obtain ⟨w1, w2, w3⟩ := @zLv_nx T n l v (by rw [c4.1]; decide)
      rw [zb_eq, if_neg (by decide), zb_eq, A.2.2.1, show (5 : Int32) = nI 5 by decide]
      by_cases co : o < 5
      · rw [if_pos co] at E
        rw [if_neg (fun q => by have := (nI_eq (by omega) (by omega)).mp q; omega), pm_op_eq, nI_1]
        obtain ⟨A1, B1⟩ := sm_o (x := nI (o + 1)) A rfl
        refine sm_n hn v A1 (fun h1 B2 A2 => ?_)
        rcases zThn_inv E with ⟨c1, e1, e2, e3⟩ | ⟨l1, c1, c2', e1, e2, e3⟩
        · refine S 5 (o + 1) _ false l' c1 (by omega) e1 w1 (by omega) g (by omega) h1 m _ A2 (by omega) (fun h2 hb _ => absurd hb (by decide)) (fun h2 _ B => ?_)
          rw [zb_eq, if_pos rfl]
          exact q0 h2 e2 (zMb_f (zMb_t B1 (zMb_t B2 B)))
        · obtain ⟨v1, len1⟩ := zPz_len f 5 (o + 1) _ w1 _ _ _ e1
          have := len1 rfl
          obtain ⟨y1, y2, y3⟩ := zPr_inv e2
          have y4 : l1.1 ≤ n := by have := v1.1; have := v1.2.1; omega
          refine S 5 (o + 1) _ true l1 c1 (by omega) e1 w1 (by omega) g (by omega) h1 m _ A2 (by omega) (fun h2 _ B => ?_) (fun h2 hb _ => absurd hb (by decide))
          have A3 := (B.2.1 rfl).1
          rw [zb_eq, if_neg (by decide), A3.2.2.1, pm_op_eq, nI_pred]
          obtain ⟨A4, B4⟩ := sm_o (x := nI o) A3 rfl
          refine sm_w (w := -11) ht (by omega) A4 (by decide) (fun h3 B5 _ => q1 h3 y1.symm ?_)
          rw [e3, ← y3, ← y2]
          have Z := zMb_t B1 (zMb_t B2 (zMb_t B (zMb_t B4 B5)))
          simp only [List.nil_append] at Z
          exact Z
      · rw [if_neg co] at E
        obtain ⟨y1, y2, y3⟩ := zPr_inv E
        rw [if_pos (by rw [show o = 5 by omega])]
        exact q0 h y1.symm (y2 ▸ zMa_bad A)
    rw [if_neg (show ¬ zSn l 45 from c4)] at E
    rw [zb_eq, if_pos rfl]
    refine sm_is_ A.2.1 (fun c6 => ?_) (fun c6 => ?_)
    · rw [if_pos (show zSn l 40 from c6)] at E
      obtain ⟨w1, w2, w3⟩ := @zLv_nx T n l v (by rw [c6.1]; decide)
      rw [zb_eq, if_neg (by decide), zb_eq, A.2.2.1, show (5 : Int32) = nI 5 by decide]
      by_cases co : o < 5
      · rw [if_pos co] at E
        rw [if_neg (fun q => by have := (nI_eq (by omega) (by omega)).mp q; omega), pm_op_eq, nI_1]
        obtain ⟨A1, B1⟩ := sm_o (x := nI (o + 1)) A rfl
        refine sm_n hn v A1 (fun h1 B2 A2 => ?_)
        rcases zThn_inv E with ⟨c1, e1, e2, e3⟩ | ⟨l1, c1, c2', e1, e2, e3⟩
        · refine S 0 (o + 1) _ false l' c1 (by omega) e1 w1 (by omega) g (by omega) h1 m _ A2 (by omega) (fun h2 hb _ => absurd hb (by decide)) (fun h2 _ B => ?_)
          rw [zb_eq, if_pos rfl]
          exact q0 h2 e2 (zMb_f (zMb_t B1 (zMb_t B2 B)))
        · obtain ⟨v1, len1⟩ := zPz_len f 0 (o + 1) _ w1 _ _ _ e1
          refine S 0 (o + 1) _ true l1 c1 (by omega) e1 w1 (by omega) g (by omega) h1 m _ A2 (by omega) (fun h2 _ B => ?_) (fun h2 hb _ => absurd hb (by decide))
          have A3 := (B.2.1 rfl).1
          rw [zb_eq, if_neg (by decide)]
          refine sm_is_ A3.2.1 (fun c7 => ?_) (fun c7 => ?_)
          · rw [if_pos (show zSn l1 41 from c7)] at e2
            obtain ⟨y1, y2, y3⟩ := zPr_inv e2
            rw [zb_eq, if_neg (by decide), A3.2.2.1, pm_op_eq, nI_pred]
            obtain ⟨A4, B4⟩ := sm_o (x := nI o) A3 rfl
            refine sm_n hn v1 A4 (fun h3 B5 A5 => q1 h3 y1.symm ?_)
            rw [e3, ← y3, ← y2]
            have Z := zMb_t B1 (zMb_t B2 (zMb_t B (zMb_t B4 B5)))
            simp only [List.nil_append] at Z
            exact Z
          · rw [if_neg (show ¬ zSn l1 41 from c7)] at e2
            obtain ⟨y1, y2, y3⟩ := zPr_inv e2
            rw [zb_eq, if_pos rfl]
            refine q0 h2 y1.symm (y2 ▸ ?_)
            exact zMb_f (zMb_t B1 (zMb_t B2 (zMb_t B (zMa_bad (c := []) A3))))
      · rw [if_neg co] at E
        obtain ⟨y1, y2, y3⟩ := zPr_inv E
        rw [if_pos (by rw [show o = 5 by omega])]
        exact q0 h y1.symm (y2 ▸ zMa_bad A)
    · rw [if_neg (show ¬ zSn l 40 from c6)] at E
      obtain ⟨y1, y2, y3⟩ := zPr_inv E
      rw [zb_eq, if_pos rfl]
      exact q0 h y1.symm (y2 ▸ zMa_bad A)
  · simp only [zPz] at E
    intro k hk
    obtain ⟨k, rfl⟩ : ∃ k', k = k' + 1 := ⟨k - 1, by omega⟩
    show wl_X7_any_9 (zMc (g + 1) 1) (fun h => Q 0 h) (fun h => Q 1 h) Q (k + 1) h
    unfold wl_X7_any_9
    refine sm_is (k := 3) hn (by omega) A.2.1 (fun c3 => ?_) (fun c3 => ?_)
    · rw [if_pos (show zWi l 3 from c3)] at E
      rw [zb_eq, if_neg (by decide)]
      obtain ⟨w1, w2, w3⟩ := @zLv_nx T n l v (by rw [c3.1]; decide)
      refine sm_n hn v A (fun h1 B1 A1 => ?_)
      rcases zThn_inv E with ⟨c1, e1, e2, e3⟩ | ⟨l1, c1, c2, e1, e2, e3⟩
      · exact sm_pw (nt := 1) S hn ht (by omega) e1 w1 ho (g + 1) hg h1 m A1 (by omega) (w := -18) (by decide) (fun h3 hb B3 => absurd hb (by decide)) (fun h3 hb B3 => q0 h3 e2 (zMb_f (zMb_t B1 B3)))
      · obtain ⟨v1, len1⟩ := zGl_emt (w := -18) w2 (zPz_len f 1 o _ w1) _ _ _ e1
        have hlen := len1 rfl
        have y4 : l1.1 ≤ n := by have := v1.1; have := v1.2.1; omega
        have hc1 : 1 ≤ c1.length := by
          rcases zThn_inv e1 with ⟨c1', a1, a2, a3⟩ | ⟨l1', c1', c2', a1, a2, a3⟩
          · exact absurd a2 (by decide)
          · obtain ⟨z1, z2, z3⟩ := zPr_inv a2
            rw [a3, ← z3]; simp
        refine sm_pw (nt := 1) S hn ht (by omega) e1 w1 ho (g + 1) hg h1 m A1 (by omega) (w := -18) (by decide) (fun h3 hb B3 => ?_) (fun h3 hb B3 => absurd hb (by decide))
        refine S 6 o l1 b l' c2 (by omega) e2 v1 ho (g + 1) hg h3 (m + c1.length) Q (B3.2.1 rfl).1 (by omega) (fun h4 hb B4 => q1 h4 hb ?_) (fun h4 hb B4 => q0 h4 hb (zMb_f (zMb_t B1 (zMb_t B3 B4)))) k (by omega)
        rw [e3]
        have Z := zMb_t B1 (zMb_t B3 B4)
        exact Z
    · rw [if_neg (show ¬ zWi l 3 from c3)] at E
      obtain ⟨y1, y2, y3⟩ := zPr_inv E
      rw [zb_eq, if_pos rfl]
      refine q1 h y1.symm ?_
      rw [← y2, ← y3]
      exact zMa_0 A
  · simp only [zPz] at E
    intro k hk
    obtain ⟨k, rfl⟩ : ∃ k', k = k' + 1 := ⟨k - 1, by omega⟩
    show wl_X7_both_9 (zMc (g + 1) 2) (fun h => Q 0 h) (fun h => Q 1 h) Q (k + 1) h
    unfold wl_X7_both_9
    refine sm_is (k := 4) hn (by omega) A.2.1 (fun c3 => ?_) (fun c3 => ?_)
    · rw [if_pos (show zWi l 4 from c3)] at E
      rw [zb_eq, if_neg (by decide)]
      obtain ⟨w1, w2, w3⟩ := @zLv_nx T n l v (by rw [c3.1]; decide)
      refine sm_n hn v A (fun h1 B1 A1 => ?_)
      rcases zThn_inv E with ⟨c1, e1, e2, e3⟩ | ⟨l1, c1, c2, e1, e2, e3⟩
      · exact sm_pw (nt := 2) S hn ht (by omega) e1 w1 ho (g + 1) hg h1 m A1 (by omega) (w := -17) (by decide) (fun h3 hb B3 => absurd hb (by decide)) (fun h3 hb B3 => q0 h3 e2 (zMb_f (zMb_t B1 B3)))
      · obtain ⟨v1, len1⟩ := zGl_emt (w := -17) w2 (zPz_len f 2 o _ w1) _ _ _ e1
        have hlen := len1 rfl
        have y4 : l1.1 ≤ n := by have := v1.1; have := v1.2.1; omega
        have hc1 : 1 ≤ c1.length := by
          rcases zThn_inv e1 with ⟨c1', a1, a2, a3⟩ | ⟨l1', c1', c2', a1, a2, a3⟩
          · exact absurd a2 (by decide)
          · obtain ⟨z1, z2, z3⟩ := zPr_inv a2
            rw [a3, ← z3]; simp
        refine sm_pw (nt := 2) S hn ht (by omega) e1 w1 ho (g + 1) hg h1 m A1 (by omega) (w := -17) (by decide) (fun h3 hb B3 => ?_) (fun h3 hb B3 => absurd hb (by decide))
        refine S 7 o l1 b l' c2 (by omega) e2 v1 ho (g + 1) hg h3 (m + c1.length) Q (B3.2.1 rfl).1 (by omega) (fun h4 hb B4 => q1 h4 hb ?_) (fun h4 hb B4 => q0 h4 hb (zMb_f (zMb_t B1 (zMb_t B3 B4)))) k (by omega)
        rw [e3]
        have Z := zMb_t B1 (zMb_t B3 B4)
        exact Z
    · rw [if_neg (show ¬ zWi l 4 from c3)] at E
      obtain ⟨y1, y2, y3⟩ := zPr_inv E
      rw [zb_eq, if_pos rfl]
      refine q1 h y1.symm ?_
      rw [← y2, ← y3]
      exact zMa_0 A
  · simp only [zPz] at E
    intro k hk
    obtain ⟨k, rfl⟩ : ∃ k', k = k' + 1 := ⟨k - 1, by omega⟩
    show wl_X7_sum_9 (zMc (g + 1) 4) (fun h => Q 0 h) (fun h => Q 1 h) Q (k + 1) h
    unfold wl_X7_sum_9
    refine sm_is_ A.2.1 (fun c3 => ?_) (fun c3 => ?_)
    · rw [if_pos (show zSn l 43 from c3)] at E
      rw [zb_eq, if_neg (by decide)]
      refine sm_is_ A.2.1 (fun _ => ?_) (fun c4 => absurd c3 c4)
      rw [zb_eq, if_neg (by decide)]
      obtain ⟨w1, w2, w3⟩ := @zLv_nx T n l v (by rw [c3.1]; decide)
      refine sm_n hn v A (fun h1 B1 A1 => ?_)
      rcases zThn_inv E with ⟨c1, e1, e2, e3⟩ | ⟨l1, c1, c2, e1, e2, e3⟩
      · exact sm_pw (nt := 4) S hn ht (by omega) e1 w1 ho (g + 1) hg h1 m A1 (by omega) (w := -12) (by decide) (fun h3 hb B3 => absurd hb (by decide)) (fun h3 hb B3 => q0 h3 e2 (zMb_f (zMb_t B1 B3)))
      · obtain ⟨v1, len1⟩ := zGl_emt (w := -12) w2 (zPz_len f 4 o _ w1) _ _ _ e1
        have hlen := len1 rfl
        have y4 : l1.1 ≤ n := by have := v1.1; have := v1.2.1; omega
        have hc1 : 1 ≤ c1.length := by
          rcases zThn_inv e1 with ⟨c1', a1, a2, a3⟩ | ⟨l1', c1', c2', a1, a2, a3⟩
          · exact absurd a2 (by decide)
          · obtain ⟨z1, z2, z3⟩ := zPr_inv a2
            rw [a3, ← z3]; simp
        refine sm_pw (nt := 4) S hn ht (by omega) e1 w1 ho (g + 1) hg h1 m A1 (by omega) (w := -12) (by decide) (fun h3 hb B3 => ?_) (fun h3 hb B3 => absurd hb (by decide))
        refine S 8 o l1 b l' c2 (by omega) e2 v1 ho (g + 1) hg h3 (m + c1.length) Q (B3.2.1 rfl).1 (by omega) (fun h4 hb B4 => q1 h4 hb ?_) (fun h4 hb B4 => q0 h4 hb (zMb_f (zMb_t B1 (zMb_t B3 B4)))) k (by omega)
        rw [e3]
        have Z := zMb_t B1 (zMb_t B3 B4)
        exact Z
    · rw [if_neg (show ¬ zSn l 43 from c3)] at E
      rw [zb_eq, if_pos rfl]
      refine sm_is_ A.2.1 (fun c4 => ?_) (fun c4 => ?_)
      · rw [if_pos (show zSn l 45 from c4)] at E
        rw [zb_eq, if_neg (by decide)]
        refine sm_is_ A.2.1 (fun c5 => absurd c5 c3) (fun _ => ?_)
        rw [zb_eq, if_pos rfl]
        obtain ⟨w1, w2, w3⟩ := @zLv_nx T n l v (by rw [c4.1]; decide)
        refine sm_n hn v A (fun h1 B1 A1 => ?_)
        rcases zThn_inv E with ⟨c1, e1, e2, e3⟩ | ⟨l1, c1, c2, e1, e2, e3⟩
        · exact sm_pw (nt := 4) S hn ht (by omega) e1 w1 ho (g + 1) hg h1 m A1 (by omega) (w := -13) (by decide) (fun h3 hb B3 => absurd hb (by decide)) (fun h3 hb B3 => q0 h3 e2 (zMb_f (zMb_t B1 B3)))
        · obtain ⟨v1, len1⟩ := zGl_emt (w := -13) w2 (zPz_len f 4 o _ w1) _ _ _ e1
          have hlen := len1 rfl
          have y4 : l1.1 ≤ n := by have := v1.1; have := v1.2.1; omega
          have hc1 : 1 ≤ c1.length := by
            rcases zThn_inv e1 with ⟨c1', a1, a2, a3⟩ | ⟨l1', c1', c2', a1, a2, a3⟩
            · exact absurd a2 (by decide)
            · obtain ⟨z1, z2, z3⟩ := zPr_inv a2
              rw [a3, ← z3]; simp
          refine sm_pw (nt := 4) S hn ht (by omega) e1 w1 ho (g + 1) hg h1 m A1 (by omega) (w := -13) (by decide) (fun h3 hb B3 => ?_) (fun h3 hb B3 => absurd hb (by decide))
          refine S 8 o l1 b l' c2 (by omega) e2 v1 ho (g + 1) hg h3 (m + c1.length) Q (B3.2.1 rfl).1 (by omega) (fun h4 hb B4 => q1 h4 hb ?_) (fun h4 hb B4 => q0 h4 hb (zMb_f (zMb_t B1 (zMb_t B3 B4)))) k (by omega)
          rw [e3]
          have Z := zMb_t B1 (zMb_t B3 B4)
          exact Z
      · rw [if_neg (show ¬ zSn l 45 from c4)] at E
        obtain ⟨y1, y2, y3⟩ := zPr_inv E
        rw [zb_eq, if_pos rfl]
        refine q1 h y1.symm ?_
        rw [← y2, ← y3]
        exact zMa_0 A
  · simp only [zPz] at E
    intro k hk
    obtain ⟨k, rfl⟩ : ∃ k', k = k' + 1 := ⟨k - 1, by omega⟩
    show wl_X7_term_9 (zMc (g + 1) 5) (fun h => Q 0 h) (fun h => Q 1 h) Q (k + 1) h
    unfold wl_X7_term_9
    refine sm_is_ A.2.1 (fun c3 => ?_) (fun c3 => ?_)
    · rw [if_pos (show zSn l 42 from c3)] at E
      rw [zb_eq, if_neg (by decide)]
      obtain ⟨w1, w2, w3⟩ := @zLv_nx T n l v (by rw [c3.1]; decide)
      refine sm_n hn v A (fun h1 B1 A1 => ?_)
      rcases zThn_inv E with ⟨c1, e1, e2, e3⟩ | ⟨l1, c1, c2, e1, e2, e3⟩
      · exact sm_pw (nt := 5) S hn ht (by omega) e1 w1 ho (g + 1) hg h1 m A1 (by omega) (w := -14) (by decide) (fun h3 hb B3 => absurd hb (by decide)) (fun h3 hb B3 => q0 h3 e2 (zMb_f (zMb_t B1 B3)))
      · obtain ⟨v1, len1⟩ := zGl_emt (w := -14) w2 (zPz_len f 5 o _ w1) _ _ _ e1
        have hlen := len1 rfl
        have y4 : l1.1 ≤ n := by have := v1.1; have := v1.2.1; omega
        have hc1 : 1 ≤ c1.length := by
          rcases zThn_inv e1 with ⟨c1', a1, a2, a3⟩ | ⟨l1', c1', c2', a1, a2, a3⟩
          · exact absurd a2 (by decide)
          · obtain ⟨z1, z2, z3⟩ := zPr_inv a2
            rw [a3, ← z3]; simp
        refine sm_pw (nt := 5) S hn ht (by omega) e1 w1 ho (g + 1) hg h1 m A1 (by omega) (w := -14) (by decide) (fun h3 hb B3 => ?_) (fun h3 hb B3 => absurd hb (by decide))
        refine S 9 o l1 b l' c2 (by omega) e2 v1 ho (g + 1) hg h3 (m + c1.length) Q (B3.2.1 rfl).1 (by omega) (fun h4 hb B4 => q1 h4 hb ?_) (fun h4 hb B4 => q0 h4 hb (zMb_f (zMb_t B1 (zMb_t B3 B4)))) k (by omega)
        rw [e3]
        have Z := zMb_t B1 (zMb_t B3 B4)
        exact Z
    · rw [if_neg (show ¬ zSn l 42 from c3)] at E
      obtain ⟨y1, y2, y3⟩ := zPr_inv E
      rw [zb_eq, if_pos rfl]
      refine q1 h y1.symm ?_
      rw [← y2, ← y3]
      exact zMa_0 A
end
