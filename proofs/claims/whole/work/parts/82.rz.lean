/-! MATHEMATICS, 82: what is read hangs on the letters alone -/
theorem zThn_congr {a a' : Option zPr} {k k' : zLs → Option zPr} (e : a = a') (ek : ∀ l c, a = some (true, l, c) → k l = k' l) : zThn a k = zThn a' k' := by
  subst e
  rcases a with _ | ⟨b, l, c⟩
  · rfl
  cases b with
  | false => rfl
  | true => simp only [zThn, ek l c rfl]
theorem zPz_congr {T U : Nat → Int32} {n : Nat} (he : ∀ j, j < n → T j = U j) : ∀ (f nt o : Nat) (l : zLs), zLv n l → zPz T n f nt o l = zPz U n f nt o l
  | 0, nt, o, l, v => by simp [zPz]
  | f + 1, 0, o, l, v => by
    simp only [zPz]
    exact zThn_congr (zPz_congr he f 1 o l v) (fun l1 c1 e => zPz_congr he f 6 o l1 (zPz_len f 1 o l v _ _ _ e).1)
  | f + 1, 1, o, l, v => by
    simp only [zPz]
    exact zThn_congr (zPz_congr he f 2 o l v) (fun l1 c1 e => zPz_congr he f 7 o l1 (zPz_len f 2 o l v _ _ _ e).1)
  | f + 1, 2, o, l, v => by
    simp only [zPz]
    have hx := zLx_congr he v.2.1
    rw [← hx]
    by_cases c : zWi l 5
    · rw [if_pos c, if_pos c]
      obtain ⟨w1, w2, w3⟩ := @zLv_nx T n l v (by rw [c.1]; decide)
      by_cases co : o < 5
      · rw [if_pos co, if_pos co]
        exact zThn_congr (zPz_congr he f 2 (o + 1) _ w1) (fun _ _ _ => rfl)
      · rw [if_neg co, if_neg co]
    rw [if_neg c, if_neg c]
    exact zThn_congr (zPz_congr he f 3 o l v) (fun l1 c1 e => zPz_congr he f 10 o l1 (zPz_len f 3 o l v _ _ _ e).1)
  | f + 1, 3, o, l, v => by
    simp only [zPz]
    exact zThn_congr (zPz_congr he f 4 o l v) (fun l1 c1 e => zPz_congr he f 8 o l1 (zPz_len f 4 o l v _ _ _ e).1)
  | f + 1, 4, o, l, v => by
    simp only [zPz]
    exact zThn_congr (zPz_congr he f 5 o l v) (fun l1 c1 e => zPz_congr he f 9 o l1 (zPz_len f 5 o l v _ _ _ e).1)
  | f + 1, 5, o, l, v => by
    simp only [zPz]
    have hx := zLx_congr he v.2.1
    rw [← hx]
    by_cases c2 : l.2.2.1 = 2
    · rw [if_pos c2, if_pos c2]
    rw [if_neg c2, if_neg c2]
    by_cases c3 : l.2.2.1 = 3 ∧ 6 ≤ l.2.2.2.toNatClampNeg ∧ l.2.2.2.toNatClampNeg < 12
    · rw [if_pos c3, if_pos c3]
    rw [if_neg c3, if_neg c3]
    by_cases c4 : zSn l 45
    · rw [if_pos c4, if_pos c4]
      obtain ⟨w1, w2, w3⟩ := @zLv_nx T n l v (by rw [c4.1]; decide)
      by_cases co : o < 5
      · rw [if_pos co, if_pos co]
        exact zThn_congr (zPz_congr he f 5 (o + 1) _ w1) (fun _ _ _ => rfl)
      · rw [if_neg co, if_neg co]
    rw [if_neg c4, if_neg c4]
    by_cases c6 : zSn l 40
    · rw [if_pos c6, if_pos c6]
      obtain ⟨w1, w2, w3⟩ := @zLv_nx T n l v (by rw [c6.1]; decide)
      by_cases co : o < 5
      · rw [if_pos co, if_pos co]
        exact zThn_congr (zPz_congr he f 0 (o + 1) _ w1) (fun l1 c1 e => by
          have v1 := (zPz_len f 0 (o + 1) _ w1 _ _ _ e).1
          rw [zLx_congr he v1.2.1])
      · rw [if_neg co, if_neg co]
    rw [if_neg c6, if_neg c6]
  | f + 1, 6, o, l, v => by
    simp only [zPz]
    have hx := zLx_congr he v.2.1
    rw [← hx]
    by_cases c : zWi l 3
    · rw [if_pos c, if_pos c]
      obtain ⟨w1, w2, w3⟩ := @zLv_nx T n l v (by rw [c.1]; decide)
      exact zThn_congr (zThn_congr (zPz_congr he f 1 o _ w1) (fun _ _ _ => rfl)) (fun l1 c1 e => zPz_congr he f 6 o l1 (zGl_emt w2 (zPz_len f 1 o _ w1) _ _ _ e).1)
    rw [if_neg c, if_neg c]
  | f + 1, 7, o, l, v => by
    simp only [zPz]
    have hx := zLx_congr he v.2.1
    rw [← hx]
    by_cases c : zWi l 4
    · rw [if_pos c, if_pos c]
      obtain ⟨w1, w2, w3⟩ := @zLv_nx T n l v (by rw [c.1]; decide)
      exact zThn_congr (zThn_congr (zPz_congr he f 2 o _ w1) (fun _ _ _ => rfl)) (fun l1 c1 e => zPz_congr he f 7 o l1 (zGl_emt w2 (zPz_len f 2 o _ w1) _ _ _ e).1)
    rw [if_neg c, if_neg c]
  | f + 1, 8, o, l, v => by
    simp only [zPz]
    have hx := zLx_congr he v.2.1
    rw [← hx]
    by_cases c : zSn l 43
    · rw [if_pos c, if_pos c]
      obtain ⟨w1, w2, w3⟩ := @zLv_nx T n l v (by rw [c.1]; decide)
      exact zThn_congr (zThn_congr (zPz_congr he f 4 o _ w1) (fun _ _ _ => rfl)) (fun l1 c1 e => zPz_congr he f 8 o l1 (zGl_emt w2 (zPz_len f 4 o _ w1) _ _ _ e).1)
    rw [if_neg c, if_neg c]
    by_cases c : zSn l 45
    · rw [if_pos c, if_pos c]
      obtain ⟨w1, w2, w3⟩ := @zLv_nx T n l v (by rw [c.1]; decide)
      exact zThn_congr (zThn_congr (zPz_congr he f 4 o _ w1) (fun _ _ _ => rfl)) (fun l1 c1 e => zPz_congr he f 8 o l1 (zGl_emt w2 (zPz_len f 4 o _ w1) _ _ _ e).1)
    rw [if_neg c, if_neg c]
  | f + 1, 9, o, l, v => by
    simp only [zPz]
    have hx := zLx_congr he v.2.1
    rw [← hx]
    by_cases c : zSn l 42
    · rw [if_pos c, if_pos c]
      obtain ⟨w1, w2, w3⟩ := @zLv_nx T n l v (by rw [c.1]; decide)
      exact zThn_congr (zThn_congr (zPz_congr he f 5 o _ w1) (fun _ _ _ => rfl)) (fun l1 c1 e => zPz_congr he f 9 o l1 (zGl_emt w2 (zPz_len f 5 o _ w1) _ _ _ e).1)
    rw [if_neg c, if_neg c]
  | f + 1, 10, o, l, v => by
    simp only [zPz]
    have hx := zLx_congr he v.2.1
    rw [← hx]
    by_cases c : zSn l 60
    · rw [if_pos c, if_pos c]
      obtain ⟨w1, w2, w3⟩ := @zLv_nx T n l v (by rw [c.1]; decide)
      exact zThn_congr (zPz_congr he f 3 o _ w1) (fun _ _ _ => rfl)
    rw [if_neg c, if_neg c]
    by_cases c : zSn l 61
    · rw [if_pos c, if_pos c]
      obtain ⟨w1, w2, w3⟩ := @zLv_nx T n l v (by rw [c.1]; decide)
      exact zThn_congr (zPz_congr he f 3 o _ w1) (fun _ _ _ => rfl)
    rw [if_neg c, if_neg c]
  | f + 1, nt + 11, o, l, v => by simp only [zPz]
theorem zRu_congr {T U : Nat → Int32} {n w : Nat} {l : zLs} (he : ∀ j, j < n → T j = U j) (v : zLv n l) : zRu T n w l = zRu U n w l := by
  unfold zRu
  rw [← zLx_congr he v.2.1]
  by_cases c : zWi l w
  · rw [if_pos c, if_pos c]
    obtain ⟨w1, w2, w3⟩ := @zLv_nx T n l v (by rw [c.1]; decide)
    exact zThn_congr (zPz_congr he _ 0 0 _ w1) (fun l1 c1 e => by
      have v1 := (zPz_len _ 0 0 _ w1 _ _ _ e).1
      rw [zLx_congr he v1.2.1])
  · rw [if_neg c, if_neg c]
