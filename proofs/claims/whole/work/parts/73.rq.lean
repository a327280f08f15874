/-! MATHEMATICS, 73: the reference reads: its pieces -/
theorem zThn_inv {a : Option zPr} {k : zLs → Option zPr} {b : Bool} {l' : zLs} {c : List Int32} (e : zThn a k = some (b, l', c)) : (∃ c1, a = some (false, l', c1) ∧ b = false ∧ c = []) ∨ (∃ l1 c1 c2, a = some (true, l1, c1) ∧ k l1 = some (b, l', c2) ∧ c = c1 ++ c2) := by
  rcases a with _ | ⟨b1, l1, c1⟩
  · exact absurd e (by simp [zThn])
  cases b1 with
  | false =>
    simp only [zThn, Option.some.injEq, Prod.mk.injEq] at e
    obtain ⟨e1, e2, e3⟩ := e
    exact Or.inl ⟨c1, by rw [e2], e1.symm, e3.symm⟩
  | true =>
    simp only [zThn] at e
    rcases ek : k l1 with _ | ⟨b2, l2, c2⟩
    · rw [ek] at e; exact absurd e (by simp)
    · rw [ek] at e
      simp only [Option.some.injEq, Prod.mk.injEq] at e
      obtain ⟨e1, e2, e3⟩ := e
      exact Or.inr ⟨l1, c1, c2, rfl, by rw [ek, e1, e2], e3.symm⟩
def zGl (n p : Nat) (r : Option zPr) : Prop := ∀ b l' c, r = some (b, l', c) → zLv n l' ∧ (b = true → p + c.length ≤ l'.1)
section
variable {n p : Nat}
theorem zGl_thn {a : Option zPr} {k : zLs → Option zPr} (g : zGl n p a) (gk : ∀ l c, a = some (true, l, c) → zLv n l → zGl n l.1 (k l)) : zGl n p (zThn a k) := by
  intro b l' c e
  rcases zThn_inv e with ⟨c1, e1, e2, e3⟩ | ⟨l1, c1, c2, e1, e2, e3⟩
  · exact ⟨(g _ _ _ e1).1, fun q => absurd (e2.symm.trans q) (by decide)⟩
  · obtain ⟨q1, q2⟩ := g _ _ _ e1
    obtain ⟨w1, w2⟩ := gk l1 c1 e1 q1 _ _ _ e2
    refine ⟨w1, fun q => ?_⟩
    have := w2 q
    have := q2 rfl
    rw [e3, List.length_append]; omega
theorem zGl_emt {a : Option zPr} {w : Int32} {p' : Nat} (hp : p + 1 ≤ p') (g : zGl n p' a) : zGl n p (zThn a (zEmt w)) := by
  intro b l' c e
  rcases zThn_inv e with ⟨c1, e1, e2, e3⟩ | ⟨l1, c1, c2, e1, e2, e3⟩
  · exact ⟨(g _ _ _ e1).1, fun q => absurd (e2.symm.trans q) (by decide)⟩
  · obtain ⟨q1, q2⟩ := g _ _ _ e1
    simp only [zEmt, Option.some.injEq, Prod.mk.injEq] at e2
    obtain ⟨y1, y2, y3⟩ := e2
    rw [← y2]
    refine ⟨q1, fun q => ?_⟩
    have := q2 rfl
    rw [e3, ← y3, List.length_append, List.length_singleton]; omega
theorem zGl_bad {l : zLs} (v : zLv n l) : zGl n p (some (false, l, [])) := fun b l' c e => by
  simp only [Option.some.injEq, Prod.mk.injEq] at e
  obtain ⟨e1, e2, e3⟩ := e
  exact ⟨e2 ▸ v, fun q => absurd (e1.trans q) (by decide)⟩
theorem zGl_end {l : zLs} {c : List Int32} (v : zLv n l) (h : p + c.length ≤ l.1) : zGl n p (some (true, l, c)) := fun b l' c' e => by
  simp only [Option.some.injEq, Prod.mk.injEq] at e
  obtain ⟨e1, e2, e3⟩ := e
  exact ⟨e2 ▸ v, fun _ => by rw [← e2, ← e3]; exact h⟩
end
theorem zGl_le {n p p' : Nat} {r : Option zPr} (h : p ≤ p') (g : zGl n p' r) : zGl n p r := fun b l' c e => ⟨(g b l' c e).1, fun q => by have := (g b l' c e).2 q; omega⟩
theorem zPz_len {T : Nat → Int32} {n : Nat} : ∀ (f nt o : Nat) (l : zLs), zLv n l → zGl n l.1 (zPz T n f nt o l)
  | 0, nt, o, l, v => fun b l' c e => absurd e (by simp [zPz])
  | f + 1, 0, o, l, v => zGl_thn (zPz_len f 1 o l v) (fun l' c e v' => zPz_len f 6 o l' v')
  | f + 1, 1, o, l, v => zGl_thn (zPz_len f 2 o l v) (fun l' c e v' => zPz_len f 7 o l' v')
  | f + 1, 2, o, l, v => by
    simp only [zPz]
    by_cases c : zWi l 5
    · rw [if_pos c]
      obtain ⟨w1, w2, w3⟩ := @zLv_nx T n l v (by rw [c.1]; decide)
      by_cases c5 : o < 5
      · rw [if_pos c5]; exact zGl_emt w2 (zPz_len f 2 (o + 1) _ w1)
      · rw [if_neg c5]; exact zGl_bad v
    · rw [if_neg c]
      exact zGl_thn (zPz_len f 3 o l v) (fun l' c e v' => zPz_len f 10 o l' v')
  | f + 1, 3, o, l, v => zGl_thn (zPz_len f 4 o l v) (fun l' c e v' => zPz_len f 8 o l' v')
  | f + 1, 4, o, l, v => zGl_thn (zPz_len f 5 o l v) (fun l' c e v' => zPz_len f 9 o l' v')
  | f + 1, 5, o, l, v => by
    simp only [zPz]
    by_cases c2 : l.2.2.1 = 2
    · rw [if_pos c2]
      obtain ⟨w1, w2, w3⟩ := @zLv_nx T n l v (by rw [c2]; decide)
      exact zGl_end w1 w2
    rw [if_neg c2]
    by_cases c3 : l.2.2.1 = 3 ∧ 6 ≤ l.2.2.2.toNatClampNeg ∧ l.2.2.2.toNatClampNeg < 12
    · rw [if_pos c3]
      obtain ⟨w1, w2, w3⟩ := @zLv_nx T n l v (by rw [c3.1]; decide)
      exact zGl_end w1 w2
    rw [if_neg c3]
    by_cases c4 : zSn l 45
    · rw [if_pos c4]
      obtain ⟨w1, w2, w3⟩ := @zLv_nx T n l v (by rw [c4.1]; decide)
      by_cases c5 : o < 5
      · rw [if_pos c5]; exact zGl_emt w2 (zPz_len f 5 (o + 1) _ w1)
      · rw [if_neg c5]; exact zGl_bad v
    rw [if_neg c4]
    by_cases c6 : zSn l 40
    · rw [if_pos c6]
      obtain ⟨w1, w2, w3⟩ := @zLv_nx T n l v (by rw [c6.1]; decide)
      by_cases c5 : o < 5
      · rw [if_pos c5]
        refine zGl_le (by omega) (zGl_thn (zPz_len f 0 (o + 1) _ w1) (fun l' c e v' => ?_))
        by_cases c7 : zSn l' 41
        · rw [if_pos c7]
          obtain ⟨y1, y2, y3⟩ := @zLv_nx T n l' v' (by rw [c7.1]; decide)
          exact zGl_end y1 (by simp only [List.length_nil]; omega)
        · rw [if_neg c7]; exact zGl_bad v'
      · rw [if_neg c5]; exact zGl_bad v
    rw [if_neg c6]; exact zGl_bad v
  | f + 1, 6, o, l, v => by
    simp only [zPz]
    by_cases c : zWi l 3
    · rw [if_pos c]
      obtain ⟨w1, w2, w3⟩ := @zLv_nx T n l v (by rw [c.1]; decide)
      exact zGl_thn (zGl_emt w2 (zPz_len f 1 o _ w1)) (fun l' c e v' => zPz_len f 6 o l' v')
    rw [if_neg c]; exact zGl_end v (by simp)
  | f + 1, 7, o, l, v => by
    simp only [zPz]
    by_cases c : zWi l 4
    · rw [if_pos c]
      obtain ⟨w1, w2, w3⟩ := @zLv_nx T n l v (by rw [c.1]; decide)
      exact zGl_thn (zGl_emt w2 (zPz_len f 2 o _ w1)) (fun l' c e v' => zPz_len f 7 o l' v')
    rw [if_neg c]; exact zGl_end v (by simp)
  | f + 1, 8, o, l, v => by
    simp only [zPz]
    by_cases c : zSn l 43
    · rw [if_pos c]
      obtain ⟨w1, w2, w3⟩ := @zLv_nx T n l v (by rw [c.1]; decide)
      exact zGl_thn (zGl_emt w2 (zPz_len f 4 o _ w1)) (fun l' c e v' => zPz_len f 8 o l' v')
    rw [if_neg c]
    by_cases c : zSn l 45
    · rw [if_pos c]
      obtain ⟨w1, w2, w3⟩ := @zLv_nx T n l v (by rw [c.1]; decide)
      exact zGl_thn (zGl_emt w2 (zPz_len f 4 o _ w1)) (fun l' c e v' => zPz_len f 8 o l' v')
    rw [if_neg c]; exact zGl_end v (by simp)
  | f + 1, 9, o, l, v => by
    simp only [zPz]
    by_cases c : zSn l 42
    · rw [if_pos c]
      obtain ⟨w1, w2, w3⟩ := @zLv_nx T n l v (by rw [c.1]; decide)
      exact zGl_thn (zGl_emt w2 (zPz_len f 5 o _ w1)) (fun l' c e v' => zPz_len f 9 o l' v')
    rw [if_neg c]; exact zGl_end v (by simp)
  | f + 1, 10, o, l, v => by
    simp only [zPz]
    by_cases c : zSn l 60
    · rw [if_pos c]
      obtain ⟨w1, w2, w3⟩ := @zLv_nx T n l v (by rw [c.1]; decide)
      exact zGl_emt w2 (zPz_len f 3 o _ w1)
    rw [if_neg c]
    by_cases c : zSn l 61
    · rw [if_pos c]
      obtain ⟨w1, w2, w3⟩ := @zLv_nx T n l v (by rw [c.1]; decide)
      exact zGl_emt w2 (zPz_len f 3 o _ w1)
    rw [if_neg c]; exact zGl_end v (by simp)
  | f + 1, nt + 11, o, l, v => by
    simp only [zPz]; exact zGl_end v (by simp)
/-- the reference reads: where it stands -/
def zMa (T : Nat → Int32) (n tc o : Nat) (l : zLs) (m : Nat) (h : pm_H) : Prop := h 75 = T ∧ zRk h n l ∧ h 66 22 = nI o ∧ h 66 13 = nI tc ∧ h 66 17 = nI m
def zMf (tc m : Nat) (h h' : pm_H) : Prop := (∀ o, o ≠ 66 → o ≠ 76 → h' o = h o) ∧ (∀ j, (j < 17 ∨ 22 < j) → h' 66 j = h 66 j) ∧ (∀ j, j < 170 * tc + m → h' 76 j = h 76 j)
def zMb (T : Nat → Int32) (n tc o : Nat) (b : Bool) (l : zLs) (c : List Int32) (m : Nat) (h h' : pm_H) : Prop := zMf tc m h h' ∧ (b = true → zMa T n tc o l (m + c.length) h' ∧ ∀ i, i < c.length → h' 76 (170 * tc + m + i) = zTw (c.getD i 0)) ∧ (b = false → h' 66 19 = nI l.1)
section
variable {T : Nat → Int32} {n tc o : Nat} {l l' : zLs} {m : Nat} {h h1 h2 : pm_H}
theorem zMf_r : zMf tc m h h := ⟨fun _ _ _ => rfl, fun _ _ => rfl, fun _ _ => rfl⟩
theorem zMf_t {m' : Nat} (H1 : zMf tc m h h1) (H2 : zMf tc m' h1 h2) (hm : m ≤ m') : zMf tc m h h2 :=
  ⟨fun a p q => (H2.1 a p q).trans (H1.1 a p q), fun j hj => (H2.2.1 j hj).trans (H1.2.1 j hj), fun j hj => (H2.2.2 j (by omega)).trans (H1.2.2 j hj)⟩
/-- a piece and the next one -/
theorem zMb_t {o1 : Nat} {b : Bool} {c1 c2 : List Int32} (H1 : zMb T n tc o1 true l c1 m h h1) (H2 : zMb T n tc o b l' c2 (m + c1.length) h1 h2) : zMb T n tc o b l' (c1 ++ c2) m h h2 := by
  obtain ⟨f1, q1, -⟩ := H1
  obtain ⟨f2, q2, r2⟩ := H2
  refine ⟨zMf_t f1 f2 (by omega), fun hb => ?_, r2⟩
  obtain ⟨a2, e2⟩ := q2 hb
  obtain ⟨a1, e1⟩ := q1 rfl
  refine ⟨by rw [List.length_append, ← Nat.add_assoc]; exact a2, fun i hi => ?_⟩
  by_cases ci : i < c1.length
  · rw [f2.2.2 _ (by omega), e1 i ci]
    simp only [List.getD_eq_getElem?_getD, List.getElem?_append_left ci]
  · rw [List.length_append] at hi
    have := e2 (i - c1.length) (by omega)
    rw [show 170 * tc + (m + c1.length) + (i - c1.length) = 170 * tc + m + i by omega] at this
    rw [this]
    simp only [List.getD_eq_getElem?_getD, List.getElem?_append_right (Nat.le_of_not_lt ci)]
theorem zMb_f {o1 : Nat} {c c' : List Int32} (H : zMb T n tc o1 false l c m h h1) : zMb T n tc o false l c' m h h1 := ⟨H.1, fun q => absurd q (by decide), H.2.2⟩
theorem zMa_0 (H : zMa T n tc o l m h) : zMb T n tc o true l [] m h h := ⟨zMf_r, fun _ => ⟨H, fun i hi => absurd hi (by simp)⟩, fun q => absurd q (by decide)⟩
theorem zMa_bad (H : zMa T n tc o l m h) {c : List Int32} : zMb T n tc o false l c m h h := ⟨zMf_r, fun q => absurd q (by decide), fun _ => H.2.1.2.2.1⟩
theorem sm_n {Q : pm_H → Prop} (hn : n ≤ 160) (v : zLv n l) (H : zMa T n tc o l m h) (hQ : ∀ h', zMb T n tc o true (zLx T n l.2.1) [] m h h' → zMa T n tc o (zLx T n l.2.1) m h' → Q h') : wp_X7_next h Q := by
  obtain ⟨t0, t1, t2, t3, t4⟩ := H
  refine sm_nxt hn v.2.1 t1.1 t1.2.1 (fun h' f f6 z => ?_)
  rw [t0] at z
  have A : zMa T n tc o (zLx T n l.2.1) m h' := ⟨by rw [f 75 (by omega)]; exact t0, z, by rw [f6 22 (by omega) (by omega) (by omega) (by omega)]; exact t2, by rw [f6 13 (by omega) (by omega) (by omega) (by omega)]; exact t3, by rw [f6 17 (by omega) (by omega) (by omega) (by omega)]; exact t4⟩
  exact hQ h' ⟨⟨fun a p q => f a p, fun j hj => f6 j (by omega) (by omega) (by omega) (by omega), fun j hj => by rw [f 76 (by omega)]⟩, fun _ => ⟨A, fun i hi => absurd hi (by simp)⟩, fun q => absurd q (by decide)⟩ A
theorem sm_w {Q : pm_H → Prop} {w w' : Int32} (ht : tc < 6) (hm : m < 160) (H : zMa T n tc o l m h) (hw : w' = zTw w) (hQ : ∀ h', zMb T n tc o true l [w] m h h' → zMa T n tc o l (m + 1) h' → Q h') : wp_X7_put w' h Q := by
  obtain ⟨t0, t1, t2, t3, t4⟩ := H
  refine sm_pput ht hm t3 t4 (hQ _ ?_ ?_)
  all_goals
    have A : zMa T n tc o l (m + 1) (pm_u (pm_u h 66 17 (nI (m + 1))) 76 (170 * tc + m) w') := by
      refine ⟨by rw [zb_un (by omega), zb_un (by omega)]; exact t0, ?_, by rw [zb_un (by omega), zb_uj (by omega)]; exact t2, by rw [zb_un (by omega), zb_uj (by omega)]; exact t3, by rw [zb_un (by omega), zb_us]⟩
      unfold zRk
      rw [zb_un (o := 76) (o' := 66) (by omega), zb_uj (by omega), zb_uj (by omega), zb_uj (by omega), zb_uj (by omega), zb_uj (by omega), zb_un (by omega), zb_un (by omega)]
      exact t1
  · refine ⟨⟨fun a p q => by rw [zb_un q, zb_un p], fun j hj => by rw [zb_un (by omega), zb_uj (by omega)], fun j hj => by rw [zb_uj (by omega), zb_un (by omega)]⟩, fun _ => ⟨A, fun i hi => ?_⟩, fun q => absurd q (by decide)⟩
    simp only [List.length_singleton] at hi
    have : i = 0 := by omega
    subst this
    rw [show 170 * tc + m + 0 = 170 * tc + m from rfl, zb_us, hw]; rfl
  · exact A
theorem sm_o {o' : Nat} {x : Int32} (H : zMa T n tc o l m h) (hx : x = nI o') : zMa T n tc o' l m (pm_u h 66 22 x) ∧ zMb T n tc o' true l [] m h (pm_u h 66 22 x) := by
  obtain ⟨t0, t1, t2, t3, t4⟩ := H
  have A : zMa T n tc o' l m (pm_u h 66 22 x) := by
    refine ⟨by rw [zb_un (by omega)]; exact t0, ?_, by rw [zb_us]; exact hx, by rw [zb_uj (by omega)]; exact t3, by rw [zb_uj (by omega)]; exact t4⟩
    unfold zRk
    rw [zb_uj (by omega), zb_uj (by omega), zb_uj (by omega), zb_uj (by omega), zb_uj (by omega), zb_un (by omega)]
    exact t1
  exact ⟨A, ⟨fun a p q => by rw [zb_un p], fun j hj => by rw [zb_uj (by omega)], fun j hj => by rw [zb_un (by omega)]⟩, fun _ => ⟨A, fun i hi => absurd hi (by simp)⟩, fun q => absurd q (by decide)⟩
end
