/-! MATHEMATICS, 69: the reference's next token -/
/-- the reference's reader stands at the token l -/
def zRk (h : pm_H) (n : Nat) (l : zLs) : Prop := h 66 11 = nI n ∧ h 66 18 = nI l.2.1 ∧ h 66 19 = nI l.1 ∧ l.1 ≤ l.2.1 ∧ l.2.1 ≤ n ∧ ((l.2.2.1 = 0 ∧ h 66 20 = 0) ∨ (l.2.2.1 = 1 ∧ h 66 20 = 4) ∨ (l.2.2.1 = 2 ∧ h 66 20 = 1 ∧ h 66 21 = l.2.2.2) ∨ (l.2.2.1 = 3 ∧ h 66 20 = 2 ∧ l.2.2.2 = nI (zWd (h 75) l.1 l.2.1 12 0)) ∨ (l.2.2.1 = 4 ∧ h 66 20 = 3 ∧ h 66 21 = l.2.2.2))
theorem sm_isLetter {x : Int32} {h : pm_H} {Q : Int32 → pm_H → Prop} (q1 : zAl x → Q 1 h) (q0 : ¬ zAl x → Q 0 h) : wp_X7_isLetter x h Q := by
  unfold wp_X7_isLetter
  rw [zb_lt, zb_lt]
  by_cases c : x < 97
  · rw [if_pos c]; exact q0 (fun q => q.1 c)
  · rw [if_neg c]
    by_cases c2 : 122 < x
    · rw [if_pos c2]; exact q0 (fun q => q.2 c2)
    · rw [if_neg c2]; exact q1 ⟨c, c2⟩
theorem sm_isDigit {x : Int32} {h : pm_H} {Q : Int32 → pm_H → Prop} (q1 : zDi x → Q 1 h) (q0 : ¬ zDi x → Q 0 h) : wp_X7_isDigit x h Q := by
  unfold wp_X7_isDigit
  rw [zb_lt, zb_lt]
  by_cases c : x < 48
  · rw [if_pos c]; exact q0 (fun q => q.1 c)
  · rw [if_neg c]
    by_cases c2 : 57 < x
    · rw [if_pos c2]; exact q0 (fun q => q.2 c2)
    · rw [if_neg c2]; exact q1 ⟨c, c2⟩
theorem sm_neL {K : pm_H → Prop} {Q : pm_H → Prop} {n : Nat} (hn : n ≤ 160) : ∀ (m i : Nat) (h : pm_H), i + m = n → h 66 11 = nI n → h 66 18 = nI i → (∀ h', (∀ o, o ≠ 66 → h' o = h o) → (∀ j, j ≠ 18 → h' 66 j = h 66 j) → h' 66 18 = nI (zSk zBl (h 75) m i) → K h') → wl_X7_next_0 K Q (m + 1) h
  | 0, i, h, hi, e0, e3, hK => by
    unfold wl_X7_next_0
    rw [zb_lt, e3, e0, if_neg (nI_nlt (by omega) (by omega))]
    exact hK h (fun _ _ => rfl) (fun _ _ => rfl) e3
  | m + 1, i, h, hi, e0, e3, hK => by
    unfold wl_X7_next_0
    rw [zb_lt, e3, e0, if_pos (nI_lt (by omega) (by omega)), zb_ib (zb_in (by omega) (by omega)), nI_clamp (by omega), pm_op_eq, nI_1, zb_ib (zb_in (by omega) (by omega)), zb_eq, zb_eq]
    have hgo : zBl (h 75 i) → wl_X7_next_0 K Q (m + 1) (pm_u h 66 18 (nI (i + 1))) := fun c => by
      refine sm_neL hn m (i + 1) _ (by omega) (by rw [zb_uj (by omega)]; exact e0) zb_us (fun h' f f34 g => hK h' (fun o ho => by rw [f o ho, zb_un ho]) (fun j hj => by rw [f34 j hj, zb_uj hj]) ?_)
      rw [g, zb_un (by omega), zSk_pos c]
    by_cases c : h 75 i = 32
    · rw [if_pos c]; exact hgo (Or.inl c)
    rw [if_neg c]
    by_cases c2 : h 75 i = 10
    · rw [if_pos c2]; exact hgo (Or.inr c2)
    rw [if_neg c2]
    refine hK h (fun _ _ => rfl) (fun _ _ => rfl) ?_
    rw [zSk_neg (fun q => q.elim c c2)]; exact e3
theorem sm_woL {K : pm_H → Prop} {Q : pm_H → Prop} {n : Nat} (hn : n ≤ 160) : ∀ (m i : Nat) (h : pm_H), i + m = n → h 66 11 = nI n → h 66 18 = nI i → (∀ h', (∀ o, o ≠ 66 → h' o = h o) → (∀ j, j ≠ 18 → h' 66 j = h 66 j) → h' 66 18 = nI (zSk zAl (h 75) m i) → K h') → wl_X7_next_205 K Q (m + 1) h
  | 0, i, h, hi, e0, e3, hK => by
    unfold wl_X7_next_205
    rw [zb_lt, e3, e0, if_neg (nI_nlt (by omega) (by omega))]
    exact hK h (fun _ _ => rfl) (fun _ _ => rfl) e3
  | m + 1, i, h, hi, e0, e3, hK => by
    unfold wl_X7_next_205
    rw [zb_lt, e3, e0, if_pos (nI_lt (by omega) (by omega)), zb_ib (zb_in (by omega) (by omega)), nI_clamp (by omega)]
    refine sm_isLetter (fun c => ?_) (fun c => ?_)
    · rw [zb_eq, if_neg (by decide), pm_op_eq, e3, nI_1]
      refine sm_woL hn m (i + 1) _ (by omega) (by rw [zb_uj (by omega)]; exact e0) zb_us (fun h' f f34 g => hK h' (fun o ho => by rw [f o ho, zb_un ho]) (fun j hj => by rw [f34 j hj, zb_uj hj]) ?_)
      rw [g, zb_un (by omega), zSk_pos c]
    · rw [zb_eq, if_pos rfl]
      refine hK h (fun _ _ => rfl) (fun _ _ => rfl) ?_
      rw [zSk_neg c]; exact e3
theorem zNu_33 {v d : Nat} (hv : v < 10000) (hd : d ≤ 9) : 10 * nI v + nI (48 + d) - 48 = nI (10 * v + (48 + d) - 48) := by
  rw [← zNu_32 hv hd, Int32.mul_comm]
theorem sm_nuL {K : pm_H → Prop} {Q : pm_H → Prop} {n p : Nat} (hn : n ≤ 160) : ∀ (m i v : Nat) (h : pm_H), i + m = n → p ≤ i → v < 10 ^ (min (i - p) 4) → h 66 11 = nI n → h 66 18 = nI i → h 66 19 = nI p → h 66 21 = nI v → (∀ h', (∀ o, o ≠ 66 → h' o = h o) → (∀ j, j ≠ 18 → j ≠ 21 → h' 66 j = h 66 j) → h' 66 18 = nI (zNu (h 75) p m i v).1 → h' 66 21 = nI (zNu (h 75) p m i v).2 → K h') → wl_X7_next_99 K Q (m + 1) h
  | 0, i, v, h, hi, hp, hv, e0, e3, e5, e6, hK => by
    unfold wl_X7_next_99
    rw [zb_lt, e3, e0, if_neg (nI_nlt (by omega) (by omega))]
    exact hK h (fun _ _ => rfl) (fun _ _ _ => rfl) e3 e6
  | m + 1, i, v, h, hi, hp, hv, e0, e3, e5, e6, hK => by
    unfold wl_X7_next_99
    rw [zb_lt, e3, e0, if_pos (nI_lt (by omega) (by omega)), zb_ib (zb_in (by omega) (by omega)), nI_clamp (by omega)]
    refine sm_isDigit (fun c => ?_) (fun c => ?_)
    · obtain ⟨d, d1, d2⟩ := zDi_at c
      rw [zb_eq, if_neg (by decide), zb_lt, e3, e5, pm_op_eq, zb_ib (zb_in (by omega) (by omega)), nI_clamp (by omega), e6, d2]
      have hv4 : v < 10000 := by
        have : 10 ^ (min (i - p) 4) ≤ 10 ^ 4 := Nat.pow_le_pow_right (by omega) (by omega)
        omega
      simp only [pm_op_eq, nI_1]
      rw [nI_sub hp (by omega), show (4 : Int32) = nI 4 by decide, zNu_33 hv4 d1]
      have hv' : (if i < p + 4 then 10 * v + (48 + d) - 48 else v) < 10 ^ (min (i + 1 - p) 4) := by
        by_cases c4 : i < p + 4
        · rw [if_pos c4]
          have e1 : min (i - p) 4 = i - p := by omega
          have e2 : min (i + 1 - p) 4 = (i - p) + 1 := by omega
          rw [e1] at hv
          rw [e2, Nat.pow_succ]
          omega
        · rw [if_neg c4]
          have e1 : min (i - p) 4 = 4 := by omega
          have e2 : min (i + 1 - p) 4 = 4 := by omega
          rw [e1] at hv
          rw [e2]
          exact hv
      have eN : zNu (h 75) p (m + 1) i v = zNu (h 75) p m (i + 1) (if i < p + 4 then 10 * v + (48 + d) - 48 else v) := by
        rw [zNu_pos c, d2, nI_clamp (by omega)]
      by_cases c4 : i < p + 4
      · rw [if_pos (nI_lt (by omega) (by omega))]
        rw [if_pos c4] at hv' eN
        refine sm_nuL hn m (i + 1) _ _ (by omega) (by omega) hv' (by rw [zb_uj (by omega), zb_uj (by omega)]; exact e0) zb_us (by rw [zb_uj (by omega), zb_uj (by omega)]; exact e5) (by rw [zb_uj (by omega), zb_us]) (fun h' f f34 g3 g6 => hK h' (fun o ho => by rw [f o ho, zb_un ho, zb_un ho]) (fun j hj hj6 => by rw [f34 j hj hj6, zb_uj hj, zb_uj hj6]) ?_ ?_)
        · rw [g3, zb_un (by omega), zb_un (by omega), eN]
        · rw [g6, zb_un (by omega), zb_un (by omega), eN]
      · rw [if_neg (nI_nlt (by omega) (by omega))]
        rw [if_neg c4] at hv' eN
        refine sm_nuL hn m (i + 1) _ _ (by omega) (by omega) hv' (by rw [zb_uj (by omega)]; exact e0) zb_us (by rw [zb_uj (by omega)]; exact e5) (by rw [zb_uj (by omega)]; exact e6) (fun h' f f34 g3 g6 => hK h' (fun o ho => by rw [f o ho, zb_un ho]) (fun j hj hj6 => by rw [f34 j hj hj6, zb_uj hj]) ?_ ?_)
        · rw [g3, zb_un (by omega), eN]
        · rw [g6, zb_un (by omega), eN]
    · rw [zb_eq, if_pos rfl]
      refine hK h (fun _ _ => rfl) (fun _ _ _ => rfl) ?_ ?_
      · rw [zNu_neg c]; exact e3
      · rw [zNu_neg c]; exact e6
section
variable {h : pm_H} {n : Nat}
theorem sm_nxt {Q : pm_H → Prop} {i : Nat} (hn : n ≤ 160) (hi : i ≤ n) (e0 : h 66 11 = nI n) (e3 : h 66 18 = nI i) (hQ : ∀ h', (∀ o, o ≠ 66 → h' o = h o) → (∀ j, j ≠ 18 → j ≠ 19 → j ≠ 20 → j ≠ 21 → h' 66 j = h 66 j) → zRk h' n (zLx (h 75) n i) → Q h') : wp_X7_next h Q := by
  unfold wp_X7_next
  refine ⟨n - i + 1, sm_neL hn (n - i) i h (by omega) e0 e3 (fun h1 f f34 g3 => ?_)⟩
  have hle := @zSk_le zBl (h 75) (n - i) i
  generalize ea : zSk zBl (h 75) (n - i) i = a at g3 hle
  have g0 : h1 66 11 = nI n := by rw [f34 11 (by omega)]; exact e0
  have e35 : h1 75 = h 75 := f 75 (by omega)
  rw [zb_eq, g3, g0]
  by_cases c : a = n
  · rw [if_pos (by rw [c])]
    refine hQ _ (fun o ho => by rw [zb_un ho, zb_un ho, f o ho]) (fun j q3 q4 q5 q6 => by rw [zb_uj q5, zb_uj q4, f34 j q3]) ?_
    rw [zLx_fin (by rw [ea]; exact c)]
    exact ⟨by rw [zb_uj (by omega), zb_uj (by omega)]; exact g0, by rw [zb_uj (by omega), zb_uj (by omega), g3, c], by rw [zb_uj (by omega), zb_us, c], Nat.le_refl _, Nat.le_refl _, Or.inl ⟨rfl, zb_us⟩⟩
  rw [if_neg (fun q => c ((nI_eq (by omega) (by omega)).mp q)), zb_ib (zb_in (by omega) (by omega)), nI_clamp (by omega), e35]
  refine sm_isDigit (fun c2 => ?_) (fun c2 => ?_)
  · have c1 : ¬ zAl (h 75 a) := fun q => by
      obtain ⟨d, d1, d2⟩ := zDi_at c2
      have q1 := q.1
      rw [d2, show (97 : Int32) = nI 97 by decide] at q1
      exact q1 (nI_lt (by omega) (by omega))
    rw [zb_eq, if_neg (by decide)]
    have hb := @zNu_le (h 75) a (n - a) a 0
    refine ⟨n - a + 1, sm_nuL (p := a) hn (n - a) a 0 _ (by omega) (Nat.le_refl _) (by rw [Nat.sub_self]; decide) (by rw [zb_uj (by omega), zb_uj (by omega)]; exact g0) (by rw [zb_uj (by omega), zb_uj (by omega)]; exact g3) (by rw [zb_uj (by omega), zb_us]) (by rw [zb_us]; exact zb_c0) (fun h2 q1 q2 q3 q4 => ?_)⟩
    rw [zb_un (by omega), zb_un (by omega), e35] at q3 q4
    have q19 : h2 66 19 = nI a := by rw [q2 19 (by omega) (by omega), zb_uj (by omega), zb_us]
    have q11 : h2 66 11 = nI n := by rw [q2 11 (by omega) (by omega), zb_uj (by omega), zb_uj (by omega)]; exact g0
    rw [zb_lt, q3, q19, pm_op_eq, nI_sub (by omega) (by omega), show (4 : Int32) = nI 4 by decide]
    have fr : ∀ x, ∀ o, o ≠ 66 → (pm_u h2 66 20 x) o = h o := fun x o ho => by rw [zb_un ho, q1 o ho, zb_un ho, zb_un ho, f o ho]
    have fr6 : ∀ x j, j ≠ 18 → j ≠ 19 → j ≠ 20 → j ≠ 21 → (pm_u h2 66 20 x) 66 j = h 66 j := fun x j p3 p4 p5 p6 => by rw [zb_uj p5, q2 j p3 p6, zb_uj p6, zb_uj p4, f34 j p3]
    by_cases c4 : 4 < (zNu (h 75) a (n - a) a 0).1 - a
    · rw [if_pos (nI_lt c4 (by omega))]
      refine hQ _ (fr _) (fr6 _) ?_
      rw [zLx_num ea c c1 c2, if_pos c4]
      exact ⟨by rw [zb_uj (by omega)]; exact q11, by rw [zb_uj (by omega)]; exact q3, by rw [zb_uj (by omega)]; exact q19, by dsimp only; omega, by dsimp only; omega, Or.inr (Or.inl ⟨rfl, by rw [zb_us]; rfl⟩)⟩
    · rw [if_neg (nI_nlt (by omega) (by omega))]
      refine hQ _ (fr _) (fr6 _) ?_
      rw [zLx_num ea c c1 c2, if_neg c4]
      exact ⟨by rw [zb_uj (by omega)]; exact q11, by rw [zb_uj (by omega)]; exact q3, by rw [zb_uj (by omega)]; exact q19, by dsimp only; omega, by dsimp only; omega, Or.inr (Or.inr (Or.inl ⟨rfl, zb_us, by rw [zb_uj (by omega)]; exact q4⟩))⟩
  rw [zb_eq, if_pos rfl]
  refine sm_isLetter (fun c1 => ?_) (fun c1 => ?_)
  · rw [zb_eq, if_neg (by decide)]
    have hb := @zSk_le zAl (h 75) (n - a) a
    refine ⟨n - a + 1, sm_woL hn (n - a) a _ (by omega) (by rw [zb_uj (by omega)]; exact g0) (by rw [zb_uj (by omega)]; exact g3) (fun h2 q1 q2 q3 => ?_)⟩
    rw [zb_un (by omega), e35] at q3
    refine hQ _ (fun o ho => by rw [zb_un ho, q1 o ho, zb_un ho, f o ho]) (fun j p3 p4 p5 p6 => by rw [zb_uj p5, q2 j p3, zb_uj p4, f34 j p3]) ?_
    rw [zLx_wrd ea c c1]
    exact ⟨by rw [zb_uj (by omega), q2 11 (by omega), zb_uj (by omega)]; exact g0, by rw [zb_uj (by omega)]; exact q3, by rw [zb_uj (by omega), q2 19 (by omega), zb_us], by dsimp only; omega, by dsimp only; omega, Or.inr (Or.inr (Or.inr (Or.inl ⟨rfl, zb_us, by rw [zb_un (by omega), q1 75 (by omega), zb_un (by omega), e35]⟩)))⟩
  rw [zb_eq, if_pos rfl]
  have hs : zSi (h 75 a) → Q (pm_u (pm_u (pm_u (pm_u h1 66 19 (nI a)) 66 18 (pm_op ((pm_u h1 66 19 (nI a)) 66 18 + 1))) 66 21 (h 75 a)) 66 20 3) := fun c3 => by
    rw [zb_uj (by omega), g3, pm_op_eq, nI_1]
    refine hQ _ (fun o ho => by rw [zb_un ho, zb_un ho, zb_un ho, zb_un ho, f o ho]) (fun j p3 p4 p5 p6 => by rw [zb_uj p5, zb_uj p6, zb_uj p3, zb_uj p4, f34 j p3]) ?_
    rw [zLx_sgn ea c c1 c2 c3]
    exact ⟨by rw [zb_uj (by omega), zb_uj (by omega), zb_uj (by omega), zb_uj (by omega)]; exact g0, by rw [zb_uj (by omega), zb_uj (by omega), zb_us], by rw [zb_uj (by omega), zb_uj (by omega), zb_uj (by omega), zb_us], by dsimp only; omega, by dsimp only; omega, Or.inr (Or.inr (Or.inr (Or.inr ⟨rfl, zb_us, by rw [zb_uj (by omega), zb_us]⟩)))⟩
  have hb : ¬ zSi (h 75 a) → Q (pm_u (pm_u (pm_u (pm_u h1 66 19 (nI a)) 66 18 (pm_op ((pm_u h1 66 19 (nI a)) 66 18 + 1))) 66 21 (h 75 a)) 66 20 4) := fun c3 => by
    rw [zb_uj (by omega), g3, pm_op_eq, nI_1]
    refine hQ _ (fun o ho => by rw [zb_un ho, zb_un ho, zb_un ho, zb_un ho, f o ho]) (fun j p3 p4 p5 p6 => by rw [zb_uj p5, zb_uj p6, zb_uj p3, zb_uj p4, f34 j p3]) ?_
    rw [zLx_bad ea c c1 c2 c3]
    exact ⟨by rw [zb_uj (by omega), zb_uj (by omega), zb_uj (by omega), zb_uj (by omega)]; exact g0, by rw [zb_uj (by omega), zb_uj (by omega), zb_us], by rw [zb_uj (by omega), zb_uj (by omega), zb_uj (by omega), zb_us], by dsimp only; omega, by dsimp only; omega, Or.inr (Or.inl ⟨rfl, by rw [zb_us]⟩)⟩
  generalize pm_u (pm_u (pm_u (pm_u h1 66 19 (nI a)) 66 18 (pm_op ((pm_u h1 66 19 (nI a)) 66 18 + 1))) 66 21 (h 75 a)) 66 20 3 = H3 at hs ⊢
  generalize pm_u (pm_u (pm_u (pm_u h1 66 19 (nI a)) 66 18 (pm_op ((pm_u h1 66 19 (nI a)) 66 18 + 1))) 66 21 (h 75 a)) 66 20 4 = H4 at hb ⊢
  simp only [zb_eq]
  unfold zSi at hs hb
  by_cases k1 : h 75 a = 40
  · rw [if_pos k1]; exact hs (Or.inl k1)
  rw [if_neg k1]
  by_cases k2 : h 75 a = 41
  · rw [if_pos k2]; exact hs (Or.inr (Or.inl k2))
  rw [if_neg k2]
  by_cases k3 : h 75 a = 59
  · rw [if_pos k3]; exact hs (by simp only [k3, true_or, or_true])
  rw [if_neg k3]
  by_cases k4 : h 75 a = 43
  · rw [if_pos k4]; exact hs (by simp only [k4, true_or, or_true])
  rw [if_neg k4]
  by_cases k5 : h 75 a = 45
  · rw [if_pos k5]; exact hs (by simp only [k5, true_or, or_true])
  rw [if_neg k5]
  by_cases k6 : h 75 a = 42
  · rw [if_pos k6]; exact hs (by simp only [k6, true_or, or_true])
  rw [if_neg k6]
  by_cases k7 : h 75 a = 60
  · rw [if_pos k7]; exact hs (by simp only [k7, true_or, or_true])
  rw [if_neg k7]
  by_cases k8 : h 75 a = 61
  · rw [if_pos k8]; exact hs (by simp only [k8, true_or, or_true])
  rw [if_neg k8]
  exact hb (by simp only [k1, k2, k3, k4, k5, k6, k7, k8, or_self, not_false_eq_true])
end
