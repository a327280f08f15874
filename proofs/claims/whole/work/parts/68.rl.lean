/-! MATHEMATICS, 68: the class goes on by a token, refuses, accepts -/
theorem zWd_le {T : Nat → Int32} {a b : Nat} : ∀ {m k : Nat}, zWd T a b m k ≤ k + m
  | 0, k => by simp only [zWd]; omega
  | m + 1, k => by
    by_cases c : zEw T a b k
    · rw [zWd_pos c]; omega
    · rw [zWd_neg c]
      have := @zWd_le T a b m (k + 1)
      omega
section
variable {h : pm_H} {n : Nat}
theorem sp_wordToken {Q : Int32 → pm_H → Prop} {a b k : Nat} (hn : n ≤ 160) (ha : a ≤ n) (e0 : h 34 0 = nI n) (e3 : h 34 3 = nI a) (e5 : h 34 5 = nI a) (eb : zSk zAl (h 35) (n - a) a = b) (ek : zWd (h 35) a b 12 0 = k) (hQ : ∀ r h', (∀ o, o ≠ 34 → h' o = h o) → (∀ j, j ≠ 3 → j ≠ 6 → h' 34 j = h 34 j) → h' 34 3 = nI b → ((k < 6 ∧ r = nI (4 + k)) ∨ (6 ≤ k ∧ k < 12 ∧ r = 3 ∧ h' 34 6 = nI (k - 6)) ∨ (k = 12 ∧ r = 1)) → Q r h') : wp_X0_wordToken h Q := by
  have hb := @zSk_le zAl (h 35) (n - a) a
  rw [eb] at hb
  have hk := @zWd_le (h 35) a b 12 0
  rw [ek] at hk
  unfold wp_X0_wordToken
  refine ⟨n - a + 1, sp_woL hn (n - a) a h (by omega) e0 e3 (fun h1 f f34 g3 => ⟨13, ?_⟩)⟩
  rw [eb] at g3
  rw [zb_c0]
  have e35 : h1 35 = h 35 := f 35 (by omega)
  refine sp_wtL (a := a) (b := b) (by rw [f34 5 (by omega)]; exact e5) g3 (by omega) (by omega) 12 0 (by omega) (fun c => ?_) (fun c => ?_)
  · rw [e35, ek] at c ⊢
    rw [zb_lt, show (6 : Int32) = nI 6 by decide]
    by_cases c6 : k < 6
    · rw [if_pos (nI_lt (by omega) (by omega)), pm_op_eq, show (4 : Int32) = nI 4 by decide, nI_add]
      refine hQ _ _ (fun o ho => by rw [zb_un ho, f o ho]) (fun j hj hj6 => by rw [zb_uj hj6, f34 j hj]) (by rw [zb_uj (by omega)]; exact g3) (Or.inl ⟨c6, rfl⟩)
    · rw [if_neg (nI_nlt (by omega) (by omega)), pm_op_eq, nI_sub (by omega) (by omega)]
      refine hQ _ _ (fun o ho => by rw [zb_un ho, f o ho]) (fun j hj hj6 => by rw [zb_uj hj6, f34 j hj]) (by rw [zb_uj (by omega)]; exact g3) (Or.inr (Or.inl ⟨by omega, c, rfl, zb_us⟩))
  · rw [e35, ek] at c
    refine hQ _ _ f (fun j hj _ => f34 j hj) g3 (Or.inr (Or.inr ⟨c, rfl⟩))
theorem sp_numberToken {Q : Int32 → pm_H → Prop} {a : Nat} (hn : n ≤ 160) (ha : a ≤ n) (e0 : h 34 0 = nI n) (e3 : h 34 3 = nI a) (e5 : h 34 5 = nI a) (hQ : ∀ h', (∀ o, o ≠ 34 → h' o = h o) → (∀ j, j ≠ 3 → j ≠ 6 → h' 34 j = h 34 j) → h' 34 3 = nI (zNu (h 35) a (n - a) a 0).1 → h' 34 6 = nI (zNu (h 35) a (n - a) a 0).2 → Q (if 4 < (zNu (h 35) a (n - a) a 0).1 - a then 1 else 2) h') : wp_X0_numberToken h Q := by
  have hb := @zNu_le (h 35) a (n - a) a 0
  unfold wp_X0_numberToken
  refine ⟨n - a + 1, sp_nuL hn (n - a) a 0 _ (by omega) (Nat.le_refl _) (by rw [Nat.sub_self]; decide) (by rw [zb_uj (by omega)]; exact e0) (by rw [zb_uj (by omega)]; exact e3) (by rw [zb_uj (by omega)]; exact e5) (by rw [zb_us]; exact zb_c0) (fun h1 f f34 g3 g6 => ?_)⟩
  rw [zb_un (by omega)] at g3 g6
  have f' : ∀ o, o ≠ 34 → h1 o = h o := fun o ho => by rw [f o ho, zb_un ho]
  have f34' : ∀ j, j ≠ 3 → j ≠ 6 → h1 34 j = h 34 j := fun j hj hj6 => by rw [f34 j hj hj6, zb_uj hj6]
  have hq := hQ h1 f' f34' g3 g6
  rw [zb_lt, g3, f34' 5 (by omega) (by omega), e5, pm_op_eq, nI_sub (by omega) (by omega), show (4 : Int32) = nI 4 by decide]
  by_cases c : 4 < (zNu (h 35) a (n - a) a 0).1 - a
  · rw [if_pos c] at hq
    rw [if_pos (nI_lt c (by omega))]; exact hq
  · rw [if_neg c] at hq
    rw [if_neg (nI_nlt (by omega) (by omega))]; exact hq
theorem sp_advance {Q : pm_H → Prop} {i : Nat} (hn : n ≤ 160) (hi : i ≤ n) (e0 : h 34 0 = nI n) (e3 : h 34 3 = nI i) (hQ : ∀ h', (∀ o, o ≠ 34 → h' o = h o) → (∀ j, j ≠ 3 → j ≠ 4 → j ≠ 5 → j ≠ 6 → h' 34 j = h 34 j) → zTk h' n (zLx (h 35) n i) → Q h') : wp_X0_advance h Q := by
  unfold wp_X0_advance
  refine ⟨n - i + 1, sp_adL hn (n - i) i h (by omega) e0 e3 (fun h1 f f34 g3 => ?_)⟩
  have hle := @zSk_le zBl (h 35) (n - i) i
  generalize ea : zSk zBl (h 35) (n - i) i = a at g3 hle
  have g0 : h1 34 0 = nI n := by rw [f34 0 (by omega)]; exact e0
  have e35 : h1 35 = h 35 := f 35 (by omega)
  rw [zb_lt, g3, g0]
  by_cases c : a = n
  · rw [if_neg (nI_nlt (by omega) (by omega))]
    refine hQ _ (fun o ho => by rw [zb_un ho, zb_un ho, f o ho]) (fun j q3 q4 q5 q6 => by rw [zb_uj q4, zb_uj q5, f34 j q3]) ?_
    rw [zLx_fin (by rw [ea]; exact c)]
    exact ⟨by rw [zb_uj (by omega), zb_uj (by omega)]; exact g0, by rw [zb_uj (by omega), zb_uj (by omega), g3, c], by rw [zb_uj (by omega), zb_us, c], Or.inl ⟨rfl, zb_us⟩⟩
  rw [if_pos (nI_lt (by omega) (by omega)), zb_ib (zb_in (by omega) (by omega)), nI_clamp (by omega), e35]
  refine sp_isLetter (fun c1 => ?_) (fun c1 => ?_)
  · rw [zb_eq, if_neg (by decide)]
    refine sp_wordToken (a := a) hn (by omega) (by rw [zb_uj (by omega)]; exact g0) (by rw [zb_uj (by omega)]; exact g3) zb_us rfl rfl (fun r h2 q1 q2 q3 q4 => ?_)
    rw [zb_un (by omega), e35] at q3 q4
    refine hQ _ (fun o ho => by rw [zb_un ho, q1 o ho, zb_un ho, f o ho]) (fun j p3 p4 p5 p6 => by rw [zb_uj p4, q2 j p3 p6, zb_uj p5, f34 j p3]) ?_
    rw [zLx_wrd ea c c1]
    refine ⟨by rw [zb_uj (by omega), q2 0 (by omega) (by omega), zb_uj (by omega)]; exact g0, by rw [zb_uj (by omega)]; exact q3, by rw [zb_uj (by omega), q2 5 (by omega) (by omega), zb_us], Or.inr (Or.inr (Or.inr (Or.inl ⟨rfl, _, rfl, ?_⟩)))⟩
    rcases q4 with ⟨k1, k2⟩ | ⟨k1, k2, k3, k4⟩ | ⟨k1, k2⟩
    · exact Or.inl ⟨k1, by rw [zb_us]; exact k2⟩
    · exact Or.inr (Or.inl ⟨k1, k2, by rw [zb_us]; exact k3, by rw [zb_uj (by omega)]; exact k4⟩)
    · exact Or.inr (Or.inr ⟨k1, by rw [zb_us]; exact k2⟩)
  rw [zb_eq, if_pos rfl, zb_uj (by omega), g3, zb_ib (zb_in (by omega) (by omega)), nI_clamp (by omega), zb_un (by omega), e35]
  refine sp_isDigit (fun c2 => ?_) (fun c2 => ?_)
  · rw [zb_eq, if_neg (by decide)]
    refine sp_numberToken (a := a) hn (by omega) (by rw [zb_uj (by omega)]; exact g0) (by rw [zb_uj (by omega)]; exact g3) zb_us (fun h2 q1 q2 q3 q4 => ?_)
    rw [zb_un (by omega), e35] at q3 q4 ⊢
    refine hQ _ (fun o ho => by rw [zb_un ho, q1 o ho, zb_un ho, f o ho]) (fun j p3 p4 p5 p6 => by rw [zb_uj p4, q2 j p3 p6, zb_uj p5, f34 j p3]) ?_
    rw [zLx_num ea c c1 c2]
    refine ⟨by rw [zb_uj (by omega), q2 0 (by omega) (by omega), zb_uj (by omega)]; exact g0, by rw [zb_uj (by omega)]; exact q3, by rw [zb_uj (by omega), q2 5 (by omega) (by omega), zb_us], ?_⟩
    by_cases c4 : 4 < (zNu (h 35) a (n - a) a 0).1 - a
    · exact Or.inr (Or.inl ⟨if_pos c4, by rw [zb_us, if_pos c4]⟩)
    · exact Or.inr (Or.inr (Or.inl ⟨if_neg c4, by rw [zb_us, if_neg c4], by rw [zb_uj (by omega)]; exact q4⟩))
  rw [zb_eq, if_pos rfl, zb_uj (by omega), g3, zb_ib (zb_in (by omega) (by omega)), nI_clamp (by omega), zb_un (by omega), e35]
  refine sp_isSign (fun c3 => ?_) (fun c3 => ?_)
  · rw [zb_eq, if_neg (by decide), zb_uj (by omega), g3, zb_ib (zb_in (by omega) (by omega)), nI_clamp (by omega), zb_un (o := 34) (o' := 35) (by omega), e35, pm_op_eq, nI_1]
    refine hQ _ (fun o ho => by rw [zb_un ho, zb_un ho, zb_un ho, f o ho]) (fun j p3 p4 p5 p6 => by rw [zb_uj p3, zb_uj p4, zb_uj p5, f34 j p3]) ?_
    rw [zLx_sgn ea c c1 c2 c3]
    exact ⟨by rw [zb_uj (by omega), zb_uj (by omega), zb_uj (by omega)]; exact g0, zb_us, by rw [zb_uj (by omega), zb_uj (by omega), zb_us], Or.inr (Or.inr (Or.inr (Or.inr ⟨rfl, c3, by rw [zb_uj (by omega), zb_us]⟩)))⟩
  · rw [zb_eq, if_pos rfl, zb_uj (by omega), g3, pm_op_eq, nI_1]
    refine hQ _ (fun o ho => by rw [zb_un ho, zb_un ho, zb_un ho, f o ho]) (fun j p3 p4 p5 p6 => by rw [zb_uj p3, zb_uj p4, zb_uj p5, f34 j p3]) ?_
    rw [zLx_bad ea c c1 c2 c3]
    exact ⟨by rw [zb_uj (by omega), zb_uj (by omega), zb_uj (by omega)]; exact g0, zb_us, by rw [zb_uj (by omega), zb_uj (by omega), zb_us], Or.inr (Or.inl ⟨rfl, by rw [zb_uj (by omega), zb_us]⟩)⟩
end
