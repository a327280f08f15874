/-! MATHEMATICS, 66: the letters of a text, and the class's reading of its next token -/
def zBl (x : Int32) : Prop := x = 32 ∨ x = 10
def zAl (x : Int32) : Prop := ¬ x < 97 ∧ ¬ 122 < x
def zDi (x : Int32) : Prop := ¬ x < 48 ∧ ¬ 57 < x
def zSi (x : Int32) : Prop := x = 40 ∨ x = 41 ∨ x = 42 ∨ x = 43 ∨ x = 45 ∨ x = 59 ∨ x = 60 ∨ x = 61
/-- past all that are so -/
noncomputable def zSk (p : Int32 → Prop) (T : Nat → Int32) : Nat → Nat → Nat
  | 0, i => i
  | m + 1, i => by classical exact if p (T i) then zSk p T m (i + 1) else i
/-- past all figures, with their worth -/
noncomputable def zNu (T : Nat → Int32) (p : Nat) : Nat → Nat → Nat → Nat × Nat
  | 0, i, v => (i, v)
  | m + 1, i, v => by classical exact if zDi (T i) then zNu T p m (i + 1) (if i < p + 4 then 10 * v + (T i).toNatClampNeg - 48 else v) else (i, v)
/-- the word from a to b is the word k -/
def zEw (T : Nat → Int32) (a b k : Nat) : Prop := b - a = (pm_sl k).length ∧ ∀ i, i < (pm_sl k).length → T (a + i) = nI ((pm_sl k).getD i 0)
noncomputable def zWd (T : Nat → Int32) (a b : Nat) : Nat → Nat → Nat
  | 0, k => k
  | m + 1, k => by classical exact if zEw T a b k then k else zWd T a b m (k + 1)
/-- place, where it goes on, the sort (0 end, 1 wrong, 2 number, 3 word, 4 sign), its worth -/
abbrev zLs : Type := Nat × Nat × Nat × Int32
noncomputable def zLx (T : Nat → Int32) (n i : Nat) : zLs := by
  classical exact (
    if zSk zBl T (n - i) i = n then (n, n, 0, 0)
    else if zAl (T (zSk zBl T (n - i) i)) then (zSk zBl T (n - i) i, zSk zAl T (n - zSk zBl T (n - i) i) (zSk zBl T (n - i) i), 3, nI (zWd T (zSk zBl T (n - i) i) (zSk zAl T (n - zSk zBl T (n - i) i) (zSk zBl T (n - i) i)) 12 0))
    else if zDi (T (zSk zBl T (n - i) i)) then (zSk zBl T (n - i) i, (zNu T (zSk zBl T (n - i) i) (n - zSk zBl T (n - i) i) (zSk zBl T (n - i) i) 0).1, if 4 < (zNu T (zSk zBl T (n - i) i) (n - zSk zBl T (n - i) i) (zSk zBl T (n - i) i) 0).1 - zSk zBl T (n - i) i then 1 else 2, nI (zNu T (zSk zBl T (n - i) i) (n - zSk zBl T (n - i) i) (zSk zBl T (n - i) i) 0).2)
    else (zSk zBl T (n - i) i, zSk zBl T (n - i) i + 1, if zSi (T (zSk zBl T (n - i) i)) then 4 else 1, T (zSk zBl T (n - i) i)))
theorem zSk_pos {p : Int32 → Prop} {T : Nat → Int32} {m i : Nat} (c : p (T i)) : zSk p T (m + 1) i = zSk p T m (i + 1) := by
  simp only [zSk, if_pos c]
theorem zSk_neg {p : Int32 → Prop} {T : Nat → Int32} {m i : Nat} (c : ¬ p (T i)) : zSk p T (m + 1) i = i := by
  simp only [zSk, if_neg c]
theorem zSk_le {p : Int32 → Prop} {T : Nat → Int32} : ∀ {m i : Nat}, i ≤ zSk p T m i ∧ zSk p T m i ≤ i + m
  | 0, i => ⟨Nat.le_refl _, Nat.le_refl _⟩
  | m + 1, i => by
    by_cases c : p (T i)
    · rw [zSk_pos c]
      have := @zSk_le p T m (i + 1)
      omega
    · rw [zSk_neg c]; omega
theorem zNu_pos {T : Nat → Int32} {p m i v : Nat} (c : zDi (T i)) : zNu T p (m + 1) i v = zNu T p m (i + 1) (if i < p + 4 then 10 * v + (T i).toNatClampNeg - 48 else v) := by
  simp only [zNu, if_pos c]
theorem zNu_neg {T : Nat → Int32} {p m i v : Nat} (c : ¬ zDi (T i)) : zNu T p (m + 1) i v = (i, v) := by
  simp only [zNu, if_neg c]
theorem zNu_le {T : Nat → Int32} {p : Nat} : ∀ {m i v : Nat}, i ≤ (zNu T p m i v).1 ∧ (zNu T p m i v).1 ≤ i + m
  | 0, i, v => ⟨Nat.le_refl _, Nat.le_refl _⟩
  | m + 1, i, v => by
    by_cases c : zDi (T i)
    · rw [zNu_pos c]
      have := @zNu_le T p m (i + 1) (if i < p + 4 then 10 * v + (T i).toNatClampNeg - 48 else v)
      omega
    · rw [zNu_neg c]; exact ⟨Nat.le_refl _, by simp⟩
theorem zDi_at {x : Int32} (c : zDi x) : ∃ d : Nat, d ≤ 9 ∧ x = nI (48 + d) := by
  obtain ⟨c1, c2⟩ := c
  have e1 : (48 : Int32).toInt = 48 := by decide
  have e2 : (57 : Int32).toInt = 57 := by decide
  rw [zb_tlt, e1] at c1
  rw [zb_tlt, e2] at c2
  obtain ⟨j, j1, j2, j3⟩ := zB_nat (b := 57) (x := x) ⟨by omega, by omega⟩
  rw [j2, nI_toInt (by omega)] at c1
  exact ⟨j - 48, by omega, by rw [j2]; congr 1; omega⟩
/-- a number's worth, while it has at most four figures -/
theorem zNu_v {T : Nat → Int32} {p : Nat} : ∀ {m i v : Nat}, p ≤ i → v < 10 ^ (min (i - p) 4) → (zNu T p m i v).2 < 10000
  | 0, i, v, hp, hv => by
    show v < 10000
    have : 10 ^ (min (i - p) 4) ≤ 10 ^ 4 := Nat.pow_le_pow_right (by omega) (by omega)
    omega
  | m + 1, i, v, hp, hv => by
    by_cases c : zDi (T i)
    · rw [zNu_pos c]
      refine zNu_v (by omega) ?_
      obtain ⟨d, d1, d2⟩ := zDi_at c
      by_cases c4 : i < p + 4
      · rw [if_pos c4, d2, nI_clamp (by omega)]
        have e1 : min (i - p) 4 = i - p := by omega
        have e2 : min (i + 1 - p) 4 = (i - p) + 1 := by omega
        rw [e1] at hv
        rw [e2, Nat.pow_succ]
        omega
      · rw [if_neg c4]
        have e1 : min (i - p) 4 = 4 := by omega
        have e2 : min (i + 1 - p) 4 = 4 := by omega
        rw [e1] at hv
        rw [e2]
        exact hv
    · rw [zNu_neg c]
      show v < 10000
      have : 10 ^ (min (i - p) 4) ≤ 10 ^ 4 := Nat.pow_le_pow_right (by omega) (by omega)
      omega
theorem zWd_pos {T : Nat → Int32} {a b m k : Nat} (c : zEw T a b k) : zWd T a b (m + 1) k = k := by
  simp only [zWd, if_pos c]
theorem zWd_neg {T : Nat → Int32} {a b m k : Nat} (c : ¬ zEw T a b k) : zWd T a b (m + 1) k = zWd T a b m (k + 1) := by
  simp only [zWd, if_neg c]
theorem sp_isBlank {x : Int32} {h : pm_H} {Q : Int32 → pm_H → Prop} (q1 : zBl x → Q 1 h) (q0 : ¬ zBl x → Q 0 h) : wp_X0_isBlank x h Q := by
  unfold wp_X0_isBlank
  rw [zb_eq, zb_eq]
  by_cases c : x = 32
  · rw [if_pos c]; exact q1 (Or.inl c)
  · rw [if_neg c]
    by_cases c2 : x = 10
    · rw [if_pos c2]; exact q1 (Or.inr c2)
    · rw [if_neg c2]; exact q0 (fun q => q.elim c c2)
theorem sp_isLetter {x : Int32} {h : pm_H} {Q : Int32 → pm_H → Prop} (q1 : zAl x → Q 1 h) (q0 : ¬ zAl x → Q 0 h) : wp_X0_isLetter x h Q := by
  unfold wp_X0_isLetter
  rw [zb_lt, zb_lt]
  by_cases c : x < 97
  · rw [if_pos c]; exact q0 (fun q => q.1 c)
  · rw [if_neg c]
    by_cases c2 : 122 < x
    · rw [if_pos c2]; exact q0 (fun q => q.2 c2)
    · rw [if_neg c2]; exact q1 ⟨c, c2⟩
theorem sp_isDigit {x : Int32} {h : pm_H} {Q : Int32 → pm_H → Prop} (q1 : zDi x → Q 1 h) (q0 : ¬ zDi x → Q 0 h) : wp_X0_isDigit x h Q := by
  unfold wp_X0_isDigit
  rw [zb_lt, zb_lt]
  by_cases c : x < 48
  · rw [if_pos c]; exact q0 (fun q => q.1 c)
  · rw [if_neg c]
    by_cases c2 : 57 < x
    · rw [if_pos c2]; exact q0 (fun q => q.2 c2)
    · rw [if_neg c2]; exact q1 ⟨c, c2⟩
theorem sp_isSign {x : Int32} {h : pm_H} {Q : Int32 → pm_H → Prop} (q1 : zSi x → Q 1 h) (q0 : ¬ zSi x → Q 0 h) : wp_X0_isSign x h Q := by
  unfold wp_X0_isSign
  rw [zb_eq]
  by_cases c40 : x = 40
  · rw [if_pos c40]; exact q1 (by unfold zSi; simp only [c40, true_or, or_true])
  rw [if_neg c40]
  rw [zb_eq]
  by_cases c41 : x = 41
  · rw [if_pos c41]; exact q1 (by unfold zSi; simp only [c41, true_or, or_true])
  rw [if_neg c41]
  rw [zb_eq]
  by_cases c42 : x = 42
  · rw [if_pos c42]; exact q1 (by unfold zSi; simp only [c42, true_or, or_true])
  rw [if_neg c42]
  rw [zb_eq]
  by_cases c43 : x = 43
  · rw [if_pos c43]; exact q1 (by unfold zSi; simp only [c43, true_or, or_true])
  rw [if_neg c43]
  rw [zb_eq]
  by_cases c44 : x = 44
  · rw [if_pos c44]; exact q0 (by subst c44; unfold zSi; decide)
  rw [if_neg c44]
  rw [zb_eq]
  by_cases c45 : x = 45
  · rw [if_pos c45]; exact q1 (by unfold zSi; simp only [c45, true_or, or_true])
  rw [if_neg c45]
  rw [zb_eq]
  by_cases c46 : x = 46
  · rw [if_pos c46]; exact q0 (by subst c46; unfold zSi; decide)
  rw [if_neg c46]
  rw [zb_eq]
  by_cases c47 : x = 47
  · rw [if_pos c47]; exact q0 (by subst c47; unfold zSi; decide)
  rw [if_neg c47]
  rw [zb_eq]
  by_cases c48 : x = 48
  · rw [if_pos c48]; exact q0 (by subst c48; unfold zSi; decide)
  rw [if_neg c48]
  rw [zb_eq]
  by_cases c49 : x = 49
  · rw [if_pos c49]; exact q0 (by subst c49; unfold zSi; decide)
  rw [if_neg c49]
  rw [zb_eq]
  by_cases c50 : x = 50
  · rw [if_pos c50]; exact q0 (by subst c50; unfold zSi; decide)
  rw [if_neg c50]
  rw [zb_eq]
  by_cases c51 : x = 51
  · rw [if_pos c51]; exact q0 (by subst c51; unfold zSi; decide)
  rw [if_neg c51]
  rw [zb_eq]
  by_cases c52 : x = 52
  · rw [if_pos c52]; exact q0 (by subst c52; unfold zSi; decide)
  rw [if_neg c52]
  rw [zb_eq]
  by_cases c53 : x = 53
  · rw [if_pos c53]; exact q0 (by subst c53; unfold zSi; decide)
  rw [if_neg c53]
  rw [zb_eq]
  by_cases c54 : x = 54
  · rw [if_pos c54]; exact q0 (by subst c54; unfold zSi; decide)
  rw [if_neg c54]
  rw [zb_eq]
  by_cases c55 : x = 55
  · rw [if_pos c55]; exact q0 (by subst c55; unfold zSi; decide)
  rw [if_neg c55]
  rw [zb_eq]
  by_cases c56 : x = 56
  · rw [if_pos c56]; exact q0 (by subst c56; unfold zSi; decide)
  rw [if_neg c56]
  rw [zb_eq]
  by_cases c57 : x = 57
  · rw [if_pos c57]; exact q0 (by subst c57; unfold zSi; decide)
  rw [if_neg c57]
  rw [zb_eq]
  by_cases c58 : x = 58
  · rw [if_pos c58]; exact q0 (by subst c58; unfold zSi; decide)
  rw [if_neg c58]
  rw [zb_eq]
  by_cases c59 : x = 59
  · rw [if_pos c59]; exact q1 (by unfold zSi; simp only [c59, true_or, or_true])
  rw [if_neg c59]
  rw [zb_eq]
  by_cases c60 : x = 60
  · rw [if_pos c60]; exact q1 (by unfold zSi; simp only [c60, true_or, or_true])
  rw [if_neg c60]
  rw [zb_eq]
  by_cases c61 : x = 61
  · rw [if_pos c61]; exact q1 (by unfold zSi; simp only [c61, true_or, or_true])
  rw [if_neg c61]
  exact q0 (by unfold zSi; simp only [c40, c41, c42, c43, c45, c59, c60, c61, or_self, not_false_eq_true])
theorem sp_adL {K : pm_H → Prop} {Q : pm_H → Prop} {n : Nat} (hn : n ≤ 160) : ∀ (m i : Nat) (h : pm_H), i + m = n → h 34 0 = nI n → h 34 3 = nI i → (∀ h', (∀ o, o ≠ 34 → h' o = h o) → (∀ j, j ≠ 3 → h' 34 j = h 34 j) → h' 34 3 = nI (zSk zBl (h 35) m i) → K h') → wl_X0_advance_0 K Q (m + 1) h
  | 0, i, h, hi, e0, e3, hK => by
    unfold wl_X0_advance_0
    rw [zb_lt, e3, e0, if_neg (nI_nlt (by omega) (by omega))]
    exact hK h (fun _ _ => rfl) (fun _ _ => rfl) e3
  | m + 1, i, h, hi, e0, e3, hK => by
    unfold wl_X0_advance_0
    rw [zb_lt, e3, e0, if_pos (nI_lt (by omega) (by omega)), zb_ib (zb_in (by omega) (by omega)), nI_clamp (by omega)]
    refine sp_isBlank (fun c => ?_) (fun c => ?_)
    · rw [zb_eq, if_neg (by decide), pm_op_eq, e3, nI_1]
      refine sp_adL hn m (i + 1) _ (by omega) (by rw [zb_uj (by omega)]; exact e0) zb_us (fun h' f f34 g => hK h' (fun o ho => by rw [f o ho, zb_un ho]) (fun j hj => by rw [f34 j hj, zb_uj hj]) ?_)
      rw [g, zb_un (by omega), zSk_pos c]
    · rw [zb_eq, if_pos rfl]
      refine hK h (fun _ _ => rfl) (fun _ _ => rfl) ?_
      rw [zSk_neg c]; exact e3
theorem sp_woL {K : pm_H → Prop} {Q : Int32 → pm_H → Prop} {n : Nat} (hn : n ≤ 160) : ∀ (m i : Nat) (h : pm_H), i + m = n → h 34 0 = nI n → h 34 3 = nI i → (∀ h', (∀ o, o ≠ 34 → h' o = h o) → (∀ j, j ≠ 3 → h' 34 j = h 34 j) → h' 34 3 = nI (zSk zAl (h 35) m i) → K h') → wl_X0_wordToken_0 K Q (m + 1) h
  | 0, i, h, hi, e0, e3, hK => by
    unfold wl_X0_wordToken_0
    rw [zb_lt, e3, e0, if_neg (nI_nlt (by omega) (by omega))]
    exact hK h (fun _ _ => rfl) (fun _ _ => rfl) e3
  | m + 1, i, h, hi, e0, e3, hK => by
    unfold wl_X0_wordToken_0
    rw [zb_lt, e3, e0, if_pos (nI_lt (by omega) (by omega)), zb_ib (zb_in (by omega) (by omega)), nI_clamp (by omega)]
    refine sp_isLetter (fun c => ?_) (fun c => ?_)
    · rw [zb_eq, if_neg (by decide), pm_op_eq, e3, nI_1]
      refine sp_woL hn m (i + 1) _ (by omega) (by rw [zb_uj (by omega)]; exact e0) zb_us (fun h' f f34 g => hK h' (fun o ho => by rw [f o ho, zb_un ho]) (fun j hj => by rw [f34 j hj, zb_uj hj]) ?_)
      rw [g, zb_un (by omega), zSk_pos c]
    · rw [zb_eq, if_pos rfl]
      refine hK h (fun _ _ => rfl) (fun _ _ => rfl) ?_
      rw [zSk_neg c]; exact e3
theorem zNu_32 {v d : Nat} (hv : v < 10000) (hd : d ≤ 9) : nI v * 10 + nI (48 + d) - 48 = nI (10 * v + (48 + d) - 48) := by
  have e10 : (10 : Int32) = nI 10 := by decide
  have e48 : (48 : Int32) = nI 48 := by decide
  rw [e10, e48, zb_teq]
  have m1 : (nI v * nI 10).toInt = (v : Int) * 10 := by
    rw [zb_tmul (by rw [nI_toInt (by omega), nI_toInt (by omega)]; omega) (by rw [nI_toInt (by omega), nI_toInt (by omega)]; omega), nI_toInt (by omega), nI_toInt (by omega)]
    rfl
  have m2 : (nI v * nI 10 + nI (48 + d)).toInt = (v : Int) * 10 + (48 + d : Nat) := by
    rw [zb_tadd (by rw [m1, nI_toInt (by omega)]; omega) (by rw [m1, nI_toInt (by omega)]; omega), m1, nI_toInt (by omega)]
  rw [zb_tsub (by rw [m2, nI_toInt (by omega)]; omega) (by rw [m2, nI_toInt (by omega)]; omega), m2, nI_toInt (by omega), nI_toInt (by omega)]
  omega
