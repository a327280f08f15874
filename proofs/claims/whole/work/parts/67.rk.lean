/-! MATHEMATICS, 67: the class's next token -/
section
variable {T : Nat → Int32} {n i : Nat}
theorem zLx_fin (c : zSk zBl T (n - i) i = n) : zLx T n i = (n, n, 0, 0) := by unfold zLx; rw [if_pos c]
theorem zLx_wrd {a : Nat} (ea : zSk zBl T (n - i) i = a) (c : a ≠ n) (c1 : zAl (T a)) : zLx T n i = (a, zSk zAl T (n - a) a, 3, nI (zWd T a (zSk zAl T (n - a) a) 12 0)) := by unfold zLx; rw [ea, if_neg c, if_pos c1]
theorem zLx_num {a : Nat} (ea : zSk zBl T (n - i) i = a) (c : a ≠ n) (c1 : ¬ zAl (T a)) (c2 : zDi (T a)) : zLx T n i = (a, (zNu T a (n - a) a 0).1, if 4 < (zNu T a (n - a) a 0).1 - a then 1 else 2, nI (zNu T a (n - a) a 0).2) := by unfold zLx; rw [ea, if_neg c, if_neg c1, if_pos c2]
theorem zLx_sgn {a : Nat} (ea : zSk zBl T (n - i) i = a) (c : a ≠ n) (c1 : ¬ zAl (T a)) (c2 : ¬ zDi (T a)) (c3 : zSi (T a)) : zLx T n i = (a, a + 1, 4, T a) := by unfold zLx; rw [ea, if_neg c, if_neg c1, if_neg c2, if_pos c3]
theorem zLx_bad {a : Nat} (ea : zSk zBl T (n - i) i = a) (c : a ≠ n) (c1 : ¬ zAl (T a)) (c2 : ¬ zDi (T a)) (c3 : ¬ zSi (T a)) : zLx T n i = (a, a + 1, 1, T a) := by unfold zLx; rw [ea, if_neg c, if_neg c1, if_neg c2, if_neg c3]
end
/-- the class's reader stands at the token l -/
def zTk (h : pm_H) (n : Nat) (l : zLs) : Prop := h 34 0 = nI n ∧ h 34 3 = nI l.2.1 ∧ h 34 5 = nI l.1 ∧ ((l.2.2.1 = 0 ∧ h 34 4 = 0) ∨ (l.2.2.1 = 1 ∧ h 34 4 = 1) ∨ (l.2.2.1 = 2 ∧ h 34 4 = 2 ∧ h 34 6 = l.2.2.2) ∨ (l.2.2.1 = 3 ∧ ∃ k, l.2.2.2 = nI k ∧ ((k < 6 ∧ h 34 4 = nI (4 + k)) ∨ (6 ≤ k ∧ k < 12 ∧ h 34 4 = 3 ∧ h 34 6 = nI (k - 6)) ∨ (k = 12 ∧ h 34 4 = 1))) ∨ (l.2.2.1 = 4 ∧ zSi l.2.2.2 ∧ h 34 4 = l.2.2.2))
theorem sp_nuL {K : pm_H → Prop} {Q : Int32 → pm_H → Prop} {n p : Nat} (hn : n ≤ 160) : ∀ (m i v : Nat) (h : pm_H), i + m = n → p ≤ i → v < 10 ^ (min (i - p) 4) → h 34 0 = nI n → h 34 3 = nI i → h 34 5 = nI p → h 34 6 = nI v → (∀ h', (∀ o, o ≠ 34 → h' o = h o) → (∀ j, j ≠ 3 → j ≠ 6 → h' 34 j = h 34 j) → h' 34 3 = nI (zNu (h 35) p m i v).1 → h' 34 6 = nI (zNu (h 35) p m i v).2 → K h') → wl_X0_numberToken_5 K Q (m + 1) h
  | 0, i, v, h, hi, hp, hv, e0, e3, e5, e6, hK => by
    unfold wl_X0_numberToken_5
    rw [zb_lt, e3, e0, if_neg (nI_nlt (by omega) (by omega))]
    exact hK h (fun _ _ => rfl) (fun _ _ _ => rfl) e3 e6
  | m + 1, i, v, h, hi, hp, hv, e0, e3, e5, e6, hK => by
    unfold wl_X0_numberToken_5
    rw [zb_lt, e3, e0, if_pos (nI_lt (by omega) (by omega)), zb_ib (zb_in (by omega) (by omega)), nI_clamp (by omega)]
    refine sp_isDigit (fun c => ?_) (fun c => ?_)
    · obtain ⟨d, d1, d2⟩ := zDi_at c
      rw [zb_eq, if_neg (by decide), zb_lt, e3, e5, pm_op_eq, zb_ib (zb_in (by omega) (by omega)), nI_clamp (by omega), e6, d2]
      have hv4 : v < 10000 := by
        have : 10 ^ (min (i - p) 4) ≤ 10 ^ 4 := Nat.pow_le_pow_right (by omega) (by omega)
        omega
      have es : nI i - nI p = nI (i - p) := by
        rw [zb_teq, zb_tsub (by rw [nI_toInt (by omega), nI_toInt (by omega)]; omega) (by rw [nI_toInt (by omega), nI_toInt (by omega)]; omega), nI_toInt (by omega), nI_toInt (by omega), nI_toInt (by omega)]
        omega
      simp only [pm_op_eq, nI_1]
      rw [es, show (4 : Int32) = nI 4 by decide, zNu_32 hv4 d1]
      have hv' : (if i < p + 4 then 10 * v + (48 + d) - 48 else v) < 10 ^ (min (i + 1 - p) 4) := by
        by_cases c4 : i < p + 4
        · rw [if_pos c4]
          have e1 : min (i - p) 4 = i - p := by omega
          have e2 : min (i + 1 - p) 4 = (i - p) + 1 := by omega
          rw [e1] at hv
          rw [e2, Nat.pow_succ]
          omega
        · rw [if_neg c4]
          have e1 : min (i - p) 4 = 4 := by omega
          have e2 : min (i + 1 - p) 4 = 4 := by omega
          rw [e1] at hv
          rw [e2]
          exact hv
      have eN : zNu (h 35) p (m + 1) i v = zNu (h 35) p m (i + 1) (if i < p + 4 then 10 * v + (48 + d) - 48 else v) := by
        rw [zNu_pos c, d2, nI_clamp (by omega)]
      by_cases c4 : i < p + 4
      · rw [if_pos (nI_lt (by omega) (by omega))]
        rw [if_pos c4] at hv' eN
        refine sp_nuL hn m (i + 1) _ _ (by omega) (by omega) hv' (by rw [zb_uj (by omega), zb_uj (by omega)]; exact e0) zb_us (by rw [zb_uj (by omega), zb_uj (by omega)]; exact e5) (by rw [zb_uj (by omega), zb_us]) (fun h' f f34 g3 g6 => hK h' (fun o ho => by rw [f o ho, zb_un ho, zb_un ho]) (fun j hj hj6 => by rw [f34 j hj hj6, zb_uj hj, zb_uj hj6]) ?_ ?_)
        · rw [g3, zb_un (by omega), zb_un (by omega), eN]
        · rw [g6, zb_un (by omega), zb_un (by omega), eN]
      · rw [if_neg (nI_nlt (by omega) (by omega))]
        rw [if_neg c4] at hv' eN
        refine sp_nuL hn m (i + 1) _ _ (by omega) (by omega) hv' (by rw [zb_uj (by omega)]; exact e0) zb_us (by rw [zb_uj (by omega)]; exact e5) (by rw [zb_uj (by omega)]; exact e6) (fun h' f f34 g3 g6 => hK h' (fun o ho => by rw [f o ho, zb_un ho]) (fun j hj hj6 => by rw [f34 j hj hj6, zb_uj hj]) ?_ ?_)
        · rw [g3, zb_un (by omega), eN]
        · rw [g6, zb_un (by omega), eN]
    · rw [zb_eq, if_pos rfl]
      refine hK h (fun _ _ => rfl) (fun _ _ _ => rfl) ?_ ?_
      · rw [zNu_neg c]; exact e3
      · rw [zNu_neg c]; exact e6
theorem nI_sub {a b : Nat} (h : b ≤ a) (ha : a < 1000) : nI a - nI b = nI (a - b) := by
  rw [zb_teq, zb_tsub (by rw [nI_toInt (by omega), nI_toInt (by omega)]; omega) (by rw [nI_toInt (by omega), nI_toInt (by omega)]; omega), nI_toInt (by omega), nI_toInt (by omega), nI_toInt (by omega)]
  omega
theorem zw_len {k : Nat} (hk : k < 12) : (pm_sl k).length ≤ 5 := by
  rcases (show k = 0 ∨ k = 1 ∨ k = 2 ∨ k = 3 ∨ k = 4 ∨ k = 5 ∨ k = 6 ∨ k = 7 ∨ k = 8 ∨ k = 9 ∨ k = 10 ∨ k = 11 by omega) with rfl | rfl | rfl | rfl | rfl | rfl | rfl | rfl | rfl | rfl | rfl | rfl <;> decide
theorem zw_sb {k : Nat} (hk : k < 12) : pm_sb (1000 + k) = true := by
  rcases (show k = 0 ∨ k = 1 ∨ k = 2 ∨ k = 3 ∨ k = 4 ∨ k = 5 ∨ k = 6 ∨ k = 7 ∨ k = 8 ∨ k = 9 ∨ k = 10 ∨ k = 11 by omega) with rfl | rfl | rfl | rfl | rfl | rfl | rfl | rfl | rfl | rfl | rfl | rfl <;> decide
section
variable {h : pm_H}
theorem sp_paL {K1 K2 : pm_H → Prop} {Q : Int32 → pm_H → Prop} {k a b : Nat} (hk : k < 12) (e5 : h 34 5 = nI a) (hl : b - a = (pm_sl k).length) (hb : b ≤ 160) (k1 : ¬ zEw (h 35) a b k → K1 h) (k2 : zEw (h 35) a b k → K2 h) : ∀ (m j : Nat), j + m = (pm_sl k).length → (∀ i, i < j → h 35 (a + i) = nI ((pm_sl k).getD i 0)) → wl_X0_passed_20 (1000 + k) K1 K2 Q (m + 1) (nI j) h
  | 0, j, hj, hp => by
    have h5 := zw_len hk
    unfold wl_X0_passed_20
    rw [zb_ib (zw_sb hk), zb_lt, Nat.add_sub_cancel_left, if_neg (nI_nlt (by omega) (by omega))]
    exact k2 ⟨hl, fun i hi => hp i (by omega)⟩
  | m + 1, j, hj, hp => by
    have h5 := zw_len hk
    unfold wl_X0_passed_20
    rw [zb_ib (zw_sb hk), zb_lt, Nat.add_sub_cancel_left, if_pos (nI_lt (by omega) (by omega)), e5, pm_op_eq, nI_add, zb_ib (zb_in (by omega) (by omega)), zb_ib (zw_sb hk), zb_ib (zb_in (by omega) (by omega)), zb_eq, nI_clamp (by omega), nI_clamp (by omega)]
    by_cases c : h 35 (a + j) = nI ((pm_sl k).getD j 0)
    · rw [if_pos c, pm_op_eq, nI_1]
      refine sp_paL hk e5 hl hb k1 k2 m (j + 1) (by omega) (fun i hi => ?_)
      by_cases ci : i = j
      · rw [ci]; exact c
      · exact hp i (by omega)
    · rw [if_neg c]
      exact k1 (fun q => c (q.2 j (by omega)))
theorem sp_passed {Q : Int32 → pm_H → Prop} {k a b : Nat} (hk : k < 12) (e5 : h 34 5 = nI a) (e3 : h 34 3 = nI b) (hab : a ≤ b) (hb : b ≤ 160) (k1 : ¬ zEw (h 35) a b k → Q 0 h) (k2 : zEw (h 35) a b k → Q 1 h) : wp_X0_passed (1000 + k) h Q := by
  have h5 := zw_len hk
  unfold wp_X0_passed
  rw [zb_ib (zw_sb hk), zb_eq, e3, e5, pm_op_eq, nI_sub hab (by omega), Nat.add_sub_cancel_left]
  by_cases c : b - a = (pm_sl k).length
  · rw [if_pos (by rw [c])]
    exact ⟨(pm_sl k).length + 1, sp_paL hk e5 c hb k1 k2 _ 0 (by omega) (fun i hi => absurd hi (by omega))⟩
  · rw [if_neg (fun q => c ((nI_eq (by omega) (by omega)).mp q))]
    exact k1 (fun q => c q.1)
theorem sp_word {Q : Nat → pm_H → Prop} {k : Nat} (hk : k < 12) (hQ : Q (1000 + k) h) : wp_X0_word (nI k) h Q := by
  unfold wp_X0_word
  rcases (show k = 0 ∨ k = 1 ∨ k = 2 ∨ k = 3 ∨ k = 4 ∨ k = 5 ∨ k = 6 ∨ k = 7 ∨ k = 8 ∨ k = 9 ∨ k = 10 ∨ k = 11 by omega) with rfl | rfl | rfl | rfl | rfl | rfl | rfl | rfl | rfl | rfl | rfl | rfl <;> (repeat rw [zb_eq, if_neg (by decide)]) <;> (try rw [zb_eq, if_pos (by decide)]) <;> exact hQ
theorem sp_wtL {K1 : Int32 → pm_H → Prop} {K2 : pm_H → Prop} {Q : Int32 → pm_H → Prop} {a b : Nat} (e5 : h 34 5 = nI a) (e3 : h 34 3 = nI b) (hab : a ≤ b) (hb : b ≤ 160) : ∀ (m k : Nat), k + m = 12 → (zWd (h 35) a b m k < 12 → K1 (nI (zWd (h 35) a b m k)) h) → (zWd (h 35) a b m k = 12 → K2 h) → wl_X0_wordToken_41 K1 K2 Q (m + 1) (nI k) h
  | 0, k, hk, k1, k2 => by
    unfold wl_X0_wordToken_41
    rw [zb_lt, show (12 : Int32) = nI 12 by decide, if_neg (nI_nlt (by omega) (by omega))]
    refine k2 ?_
    simp only [zWd]
    omega
  | m + 1, k, hk, k1, k2 => by
    unfold wl_X0_wordToken_41
    rw [zb_lt, show (12 : Int32) = nI 12 by decide, if_pos (nI_lt (by omega) (by omega))]
    refine sp_word (by omega) (sp_passed (by omega) e5 e3 hab hb (fun c => ?_) (fun c => ?_))
    · rw [zWd_neg c] at k1 k2
      rw [zb_eq, if_pos rfl, pm_op_eq, nI_1]
      exact sp_wtL e5 e3 hab hb m (k + 1) (by omega) k1 k2
    · rw [zWd_pos c] at k1
      rw [zb_eq, if_neg (by decide)]
      exact k1 (by omega)
end
