/-! MATHEMATICS, 72: the reading ends, and its words are well made -/
def zX1 (k o : Nat) (c : List Int32) : Prop := ∀ d, d + (1 + 5 * (5 - o) + k) ≤ 60 → zW c d (d + 1)
def zX2 (k o : Nat) (c : List Int32) : Prop := ∀ d, d + (1 + 5 * (5 - o) + k) ≤ 60 → 1 ≤ d → zW c d d
def zEx : Nat → Nat → List Int32 → Prop
  | 0, o, c => zX1 5 o c
  | 1, o, c => zX1 4 o c
  | 2, o, c => zX1 3 o c
  | 3, o, c => zX1 2 o c
  | 4, o, c => zX1 1 o c
  | 5, o, c => zX1 0 o c
  | 6, o, c => zX2 4 o c
  | 7, o, c => zX2 3 o c
  | 8, o, c => zX2 1 o c
  | 9, o, c => zX2 0 o c
  | _, o, c => zX2 2 o c
def zRn : Nat → Nat
  | 0 => 6
  | 1 => 5
  | 2 => 4
  | 3 => 3
  | 4 => 2
  | _ => 1
def zGt (n p : Nat) (E : List Int32 → Prop) (r : Option zPr) : Prop := ∃ b l' c, r = some (b, l', c) ∧ zLv n l' ∧ (b = true → p + c.length ≤ l'.1 ∧ E c)
theorem zThn_t {l : zLs} {c : List Int32} {k : zLs → Option zPr} {b : Bool} {l' : zLs} {c' : List Int32} (e : k l = some (b, l', c')) : zThn (some (true, l, c)) k = some (b, l', c ++ c') := by
  simp only [zThn, e]
section
variable {n p : Nat} {E E1 E2 : List Int32 → Prop}
theorem zGt_thn {a : Option zPr} {k : zLs → Option zPr} (g : zGt n p E1 a) (gk : ∀ l c, zLv n l → p + c.length ≤ l.1 → E1 c → zGt n l.1 (fun c' => E (c ++ c')) (k l)) : zGt n p E (zThn a k) := by
  obtain ⟨b, l, c, e, v, q⟩ := g
  cases b with
  | false => exact ⟨false, l, [], by rw [e]; rfl, v, fun h => absurd h (by decide)⟩
  | true =>
    obtain ⟨q1, q2⟩ := q rfl
    obtain ⟨b', l', c', e', v', q'⟩ := gk l c v q1 q2
    refine ⟨b', l', c ++ c', by rw [e]; exact zThn_t e', v', fun h => ?_⟩
    obtain ⟨w1, w2⟩ := q' h
    exact ⟨by rw [List.length_append]; omega, w2⟩
theorem zGt_emt {a : Option zPr} {w : Int32} {p' : Nat} (hp : p + 1 ≤ p') (g : zGt n p' E1 a) (gk : ∀ c, E1 c → E (c ++ [w])) : zGt n p E (zThn a (zEmt w)) := by
  obtain ⟨b, l, c, e, v, q⟩ := g
  cases b with
  | false => exact ⟨false, l, [], by rw [e]; rfl, v, fun h => absurd h (by decide)⟩
  | true =>
    obtain ⟨q1, q2⟩ := q rfl
    refine ⟨true, l, c ++ [w], by rw [e]; rfl, v, fun _ => ⟨by rw [List.length_append, List.length_singleton]; omega, gk c q2⟩⟩
theorem zGt_w {a : Option zPr} (g : zGt n p E1 a) (h : ∀ c, E1 c → E c) : zGt n p E a := by
  obtain ⟨b, l, c, e, v, q⟩ := g
  exact ⟨b, l, c, e, v, fun q1 => ⟨(q q1).1, h c (q q1).2⟩⟩
theorem zGt_bad {l : zLs} (v : zLv n l) : zGt n p E (some (false, l, [])) := ⟨false, l, [], rfl, v, fun h => absurd h (by decide)⟩
theorem zGt_end {l : zLs} (v : zLv n l) (hE : E []) : zGt n l.1 E (some (true, l, [])) := ⟨true, l, [], rfl, v, fun _ => ⟨by simp, hE⟩⟩
end
theorem zX2_nil {k o : Nat} : zX2 k o [] := fun _ _ _ => rfl
/-- one and what follows -/
theorem zX_12 {k o : Nat} {c c' : List Int32} (h1 : zX1 k o c) (h2 : zX2 k o c') : zX1 (k + 1) o (c ++ c') := fun d hd => zW_app (h1 d (by omega)) (h2 (d + 1) (by omega) (by omega))
theorem zX_w {k o : Nat} {c : List Int32} {w : Int32} (h1 : zX1 k o c) (w1 : w < -11) (w2 : -19 < w) : zX2 k o (c ++ [w]) := fun d hd h => zW_app (h1 d hd) (Or.inr (Or.inr ⟨w1, w2, by omega, rfl⟩))
theorem zX_22 {k o : Nat} {c c' : List Int32} (h1 : zX2 k o c) (h2 : zX2 k o c') : zX2 k o (c ++ c') := fun d hd h => zW_app (h1 d hd h) (h2 d hd h)
theorem zX_n {k k' o o' : Nat} {c : List Int32} {w : Int32} (h1 : zX1 k o c) (hk : 5 * (5 - o) + k ≤ 5 * (5 - o') + k') (w1 : w = -10 ∨ w = -11) : zX1 k' o' (c ++ [w]) := fun d hd => zW_app (h1 d (by omega)) (Or.inr (Or.inl ⟨w1, by omega, rfl⟩))
theorem zX_lw {k k' o o' : Nat} {c : List Int32} (h1 : zX1 k o c) (hk : 5 * (5 - o) + k ≤ 5 * (5 - o') + k') : zX1 k' o' c := fun d hd => h1 d (by omega)
theorem zX_p {k o : Nat} {w : Int32} (w1 : -10 < w) (w2 : -7 < w) : zX1 k o [w] := fun d hd => Or.inl ⟨w1, w2, by omega, rfl⟩
theorem zLv_nx {T : Nat → Int32} {n : Nat} {l : zLs} (v : zLv n l) (h0 : l.2.2.1 ≠ 0) : zLv n (zLx T n l.2.1) ∧ l.1 + 1 ≤ (zLx T n l.2.1).1 ∧ (zLx T n l.2.1).1 ≤ n := by
  obtain ⟨v1, v2, v3, -⟩ := id v
  obtain ⟨w1, w2⟩ := @zLx_v T n l.2.1 v2
  have := v3 h0
  exact ⟨w1, by omega, by have := w1.1; have := w1.2.1; omega⟩
theorem zPz_ok {T : Nat → Int32} {n : Nat} : ∀ (f nt o : Nat) (l : zLs), nt ≤ 10 → o ≤ 5 → zLv n l → 6 * (n - l.1) + zRn nt ≤ f → zGt n l.1 (zEx nt o) (zPz T n f nt o l)
  | 0, nt, o, l, hnt, ho, v, hf => by
    exfalso
    have : 1 ≤ zRn nt := by unfold zRn; split <;> omega
    omega
  | f + 1, nt, o, l, hnt, ho, v, hf => by
    have hl : l.1 ≤ n := by have := v.1; have := v.2.1; omega
    have ih := fun nt' o' l' a b c d => @zPz_ok T n f nt' o' l' a b c d
    have r6 : ∀ m, 6 ≤ m → zRn m = 1 := fun m hm => by unfold zRn; split <;> omega
    rcases (show nt = 0 ∨ nt = 1 ∨ nt = 2 ∨ nt = 3 ∨ nt = 4 ∨ nt = 5 ∨ nt = 6 ∨ nt = 7 ∨ nt = 8 ∨ nt = 9 ∨ nt = 10 by omega) with rfl | rfl | rfl | rfl | rfl | rfl | rfl | rfl | rfl | rfl | rfl
    · simp only [zRn] at hf
      refine zGt_thn (E1 := zX1 4 o) (ih 1 o l (by omega) ho v (by simp only [zRn]; omega)) (fun l' c v' p' q' => zGt_w (ih 6 o l' (by omega) ho v' (by simp only [zRn]; omega)) (fun c' q => zX_12 q' q))
    · simp only [zRn] at hf
      refine zGt_thn (E1 := zX1 3 o) (ih 2 o l (by omega) ho v (by simp only [zRn]; omega)) (fun l' c v' p' q' => zGt_w (ih 7 o l' (by omega) ho v' (by simp only [zRn]; omega)) (fun c' q => zX_12 q' q))
    · simp only [zRn] at hf
      simp only [zPz]
      by_cases c : zWi l 5
      · rw [if_pos c]
        obtain ⟨w1, w2, w3⟩ := @zLv_nx T n l v (by rw [c.1]; decide)
        by_cases c5 : o < 5
        · rw [if_pos c5]
          exact zGt_emt w2 (E1 := zX1 3 (o + 1)) (ih 2 (o + 1) _ (by omega) (by omega) w1 (by simp only [zRn]; omega)) (fun c' q => zX_n (k' := 3) q (by omega) (Or.inl rfl))
        · rw [if_neg c5]; exact zGt_bad v
      · rw [if_neg c]
        refine zGt_thn (E1 := zX1 2 o) (ih 3 o l (by omega) ho v (by simp only [zRn]; omega)) (fun l' c v' p' q' => zGt_w (ih 10 o l' (by omega) ho v' (by simp only [zRn]; omega)) (fun c' q => zX_12 q' q))
    · simp only [zRn] at hf
      refine zGt_thn (E1 := zX1 1 o) (ih 4 o l (by omega) ho v (by simp only [zRn]; omega)) (fun l' c v' p' q' => zGt_w (ih 8 o l' (by omega) ho v' (by simp only [zRn]; omega)) (fun c' q => zX_12 q' q))
    · simp only [zRn] at hf
      refine zGt_thn (E1 := zX1 0 o) (ih 5 o l (by omega) ho v (by simp only [zRn]; omega)) (fun l' c v' p' q' => zGt_w (ih 9 o l' (by omega) ho v' (by simp only [zRn]; omega)) (fun c' q => zX_12 q' q))
    · simp only [zRn] at hf
      simp only [zPz]
      by_cases c2 : l.2.2.1 = 2
      · rw [if_pos c2]
        obtain ⟨w1, w2, w3⟩ := @zLv_nx T n l v (by rw [c2]; decide)
        obtain ⟨x, x1, x2⟩ := v.2.2.2.1 c2
        refine ⟨true, _, _, rfl, w1, fun _ => ⟨by simpa using w2, zX_p ?_ ?_⟩⟩
        · rw [x2, zb_tlt, nI_toInt (by omega), show (-10 : Int32).toInt = -10 by decide]; omega
        · rw [x2, zb_tlt, nI_toInt (by omega), show (-7 : Int32).toInt = -7 by decide]; omega
      rw [if_neg c2]
      by_cases c3 : l.2.2.1 = 3 ∧ 6 ≤ l.2.2.2.toNatClampNeg ∧ l.2.2.2.toNatClampNeg < 12
      · rw [if_pos c3]
        obtain ⟨w1, w2, w3⟩ := @zLv_nx T n l v (by rw [c3.1]; decide)
        obtain ⟨k, k1, k2⟩ := v.2.2.2.2 c3.1
        have k3 := c3.2.1
        have k4 := c3.2.2
        rw [k2, nI_clamp (by omega)] at k3 k4
        refine ⟨true, _, _, rfl, w1, fun _ => ⟨by simpa using w2, ?_⟩⟩
        rw [k2]
        rcases (show k = 6 ∨ k = 7 ∨ k = 8 ∨ k = 9 ∨ k = 10 ∨ k = 11 by omega) with rfl | rfl | rfl | rfl | rfl | rfl <;> exact zX_p (by decide) (by decide)
      rw [if_neg c3]
      by_cases c4 : zSn l 45
      · rw [if_pos c4]
        obtain ⟨w1, w2, w3⟩ := @zLv_nx T n l v (by rw [c4.1]; decide)
        by_cases c5 : o < 5
        · rw [if_pos c5]
          exact zGt_emt w2 (E1 := zX1 0 (o + 1)) (ih 5 (o + 1) _ (by omega) (by omega) w1 (by simp only [zRn]; omega)) (fun c' q => zX_n (k' := 0) q (by omega) (Or.inr rfl))
        · rw [if_neg c5]; exact zGt_bad v
      rw [if_neg c4]
      by_cases c6 : zSn l 40
      · rw [if_pos c6]
        obtain ⟨w1, w2, w3⟩ := @zLv_nx T n l v (by rw [c6.1]; decide)
        by_cases c5 : o < 5
        · rw [if_pos c5]
          obtain ⟨b, l', c', e, v', q⟩ := zGt_thn (E := zX1 0 o) (E1 := zX1 5 (o + 1)) (k := fun l' => if zSn l' 41 then some (true, zLx T n l'.2.1, []) else some (false, l', [])) (ih 0 (o + 1) _ (by omega) (by omega) w1 (by simp only [zRn]; omega)) (fun l' c v' p' q' => by
            by_cases c7 : zSn l' 41
            · rw [if_pos c7]
              obtain ⟨y1, y2, y3⟩ := @zLv_nx T n l' v' (by rw [c7.1]; decide)
              refine ⟨true, _, _, rfl, y1, fun _ => ⟨by simp only [List.length_nil]; omega, ?_⟩⟩
              show zX1 0 o (c ++ [])
              rw [List.append_nil]
              exact zX_lw q' (by omega)
            · rw [if_neg c7]; exact zGt_bad v')
          exact ⟨b, l', c', e, v', fun hb => ⟨by have := (q hb).1; omega, (q hb).2⟩⟩
        · rw [if_neg c5]; exact zGt_bad v
      rw [if_neg c6]; exact zGt_bad v
    · rw [r6 6 (by omega)] at hf
      simp only [zPz]
      by_cases c : zWi l 3
      · rw [if_pos c]
        obtain ⟨w1, w2, w3⟩ := @zLv_nx T n l v (by rw [c.1]; decide)
        refine zGt_thn (E1 := fun c => zX2 4 o c ∧ 1 ≤ c.length) (zGt_emt w2 (E1 := zX1 4 o) (ih 1 o _ (by omega) ho w1 (by simp only [zRn]; omega)) (fun c' q => ⟨zX_w q (by decide) (by decide), by simp⟩)) (fun l' c v' p' q' => zGt_w (ih 6 o l' (by omega) ho v' (by rw [r6 6 (by omega)]; have := q'.2; omega)) (fun c' q => zX_22 q'.1 q))
      rw [if_neg c]
      exact zGt_end v zX2_nil
    · rw [r6 7 (by omega)] at hf
      simp only [zPz]
      by_cases c : zWi l 4
      · rw [if_pos c]
        obtain ⟨w1, w2, w3⟩ := @zLv_nx T n l v (by rw [c.1]; decide)
        refine zGt_thn (E1 := fun c => zX2 3 o c ∧ 1 ≤ c.length) (zGt_emt w2 (E1 := zX1 3 o) (ih 2 o _ (by omega) ho w1 (by simp only [zRn]; omega)) (fun c' q => ⟨zX_w q (by decide) (by decide), by simp⟩)) (fun l' c v' p' q' => zGt_w (ih 7 o l' (by omega) ho v' (by rw [r6 7 (by omega)]; have := q'.2; omega)) (fun c' q => zX_22 q'.1 q))
      rw [if_neg c]
      exact zGt_end v zX2_nil
    · rw [r6 8 (by omega)] at hf
      simp only [zPz]
      by_cases c : zSn l 43
      · rw [if_pos c]
        obtain ⟨w1, w2, w3⟩ := @zLv_nx T n l v (by rw [c.1]; decide)
        refine zGt_thn (E1 := fun c => zX2 1 o c ∧ 1 ≤ c.length) (zGt_emt w2 (E1 := zX1 1 o) (ih 4 o _ (by omega) ho w1 (by simp only [zRn]; omega)) (fun c' q => ⟨zX_w q (by decide) (by decide), by simp⟩)) (fun l' c v' p' q' => zGt_w (ih 8 o l' (by omega) ho v' (by rw [r6 8 (by omega)]; have := q'.2; omega)) (fun c' q => zX_22 q'.1 q))
      rw [if_neg c]
      by_cases c : zSn l 45
      · rw [if_pos c]
        obtain ⟨w1, w2, w3⟩ := @zLv_nx T n l v (by rw [c.1]; decide)
        refine zGt_thn (E1 := fun c => zX2 1 o c ∧ 1 ≤ c.length) (zGt_emt w2 (E1 := zX1 1 o) (ih 4 o _ (by omega) ho w1 (by simp only [zRn]; omega)) (fun c' q => ⟨zX_w q (by decide) (by decide), by simp⟩)) (fun l' c v' p' q' => zGt_w (ih 8 o l' (by omega) ho v' (by rw [r6 8 (by omega)]; have := q'.2; omega)) (fun c' q => zX_22 q'.1 q))
      rw [if_neg c]
      exact zGt_end v zX2_nil
    · rw [r6 9 (by omega)] at hf
      simp only [zPz]
      by_cases c : zSn l 42
      · rw [if_pos c]
        obtain ⟨w1, w2, w3⟩ := @zLv_nx T n l v (by rw [c.1]; decide)
        refine zGt_thn (E1 := fun c => zX2 0 o c ∧ 1 ≤ c.length) (zGt_emt w2 (E1 := zX1 0 o) (ih 5 o _ (by omega) ho w1 (by simp only [zRn]; omega)) (fun c' q => ⟨zX_w q (by decide) (by decide), by simp⟩)) (fun l' c v' p' q' => zGt_w (ih 9 o l' (by omega) ho v' (by rw [r6 9 (by omega)]; have := q'.2; omega)) (fun c' q => zX_22 q'.1 q))
      rw [if_neg c]
      exact zGt_end v zX2_nil
    · rw [r6 10 (by omega)] at hf
      simp only [zPz]
      by_cases c : zSn l 60
      · rw [if_pos c]
        obtain ⟨w1, w2, w3⟩ := @zLv_nx T n l v (by rw [c.1]; decide)
        exact zGt_emt w2 (E1 := zX1 2 o) (ih 3 o _ (by omega) ho w1 (by simp only [zRn]; omega)) (fun c' q => zX_w q (by decide) (by decide))
      rw [if_neg c]
      by_cases c : zSn l 61
      · rw [if_pos c]
        obtain ⟨w1, w2, w3⟩ := @zLv_nx T n l v (by rw [c.1]; decide)
        exact zGt_emt w2 (E1 := zX1 2 o) (ih 3 o _ (by omega) ho w1 (by simp only [zRn]; omega)) (fun c' q => zX_w q (by decide) (by decide))
      rw [if_neg c]
      exact zGt_end v zX2_nil
