/-! MATHEMATICS, 71: a text, read -/
theorem zSk_congr {p : Int32 → Prop} {T U : Nat → Int32} {n : Nat} (e : ∀ j, j < n → T j = U j) : ∀ {m i : Nat}, i + m ≤ n → zSk p T m i = zSk p U m i
  | 0, i, _ => rfl
  | m + 1, i, h => by
    by_cases c : p (T i)
    · rw [zSk_pos c, zSk_pos (by rw [← e i (by omega)]; exact c)]
      exact zSk_congr e (by omega)
    · rw [zSk_neg c, zSk_neg (by rw [← e i (by omega)]; exact c)]
theorem zNu_congr {T U : Nat → Int32} {n p : Nat} (e : ∀ j, j < n → T j = U j) : ∀ {m i v : Nat}, i + m ≤ n → zNu T p m i v = zNu U p m i v
  | 0, i, v, _ => rfl
  | m + 1, i, v, h => by
    by_cases c : zDi (T i)
    · rw [zNu_pos c, zNu_pos (by rw [← e i (by omega)]; exact c), e i (by omega)]
      exact zNu_congr e (by omega)
    · rw [zNu_neg c, zNu_neg (by rw [← e i (by omega)]; exact c)]
theorem zEw_congr {T U : Nat → Int32} {n a b k : Nat} (e : ∀ j, j < n → T j = U j) (hb : b ≤ n) (q : zEw T a b k) : zEw U a b k :=
  ⟨q.1, fun i hi => by rw [← e (a + i) (by have := q.1; omega)]; exact q.2 i hi⟩
theorem zWd_congr {T U : Nat → Int32} {n a b : Nat} (e : ∀ j, j < n → T j = U j) (hb : b ≤ n) : ∀ {m k : Nat}, zWd T a b m k = zWd U a b m k
  | 0, k => rfl
  | m + 1, k => by
    by_cases c : zEw T a b k
    · rw [zWd_pos c, zWd_pos (zEw_congr e hb c)]
    · rw [zWd_neg c, zWd_neg (fun q => c (zEw_congr (fun j hj => (e j hj).symm) hb q))]
      exact zWd_congr e hb
theorem zLx_congr {T U : Nat → Int32} {n i : Nat} (e : ∀ j, j < n → T j = U j) (hi : i ≤ n) : zLx T n i = zLx U n i := by
  have hle := @zSk_le zBl T (n - i) i
  have e1 : zSk zBl T (n - i) i = zSk zBl U (n - i) i := zSk_congr e (by omega)
  generalize ea : zSk zBl T (n - i) i = a at hle e1
  by_cases c : a = n
  · rw [zLx_fin (by rw [ea]; exact c), zLx_fin (by rw [← e1]; exact c)]
  have ec := e a (by omega)
  by_cases c1 : zAl (T a)
  · have hb := @zSk_le zAl T (n - a) a
    rw [zLx_wrd ea c c1, zLx_wrd e1.symm c (by rw [← ec]; exact c1), zSk_congr (p := zAl) e (by omega : a + (n - a) ≤ n), zWd_congr e (by rw [← zSk_congr (p := zAl) e (by omega : a + (n - a) ≤ n)]; omega)]
  by_cases c2 : zDi (T a)
  · rw [zLx_num ea c c1 c2, zLx_num e1.symm c (by rw [← ec]; exact c1) (by rw [← ec]; exact c2), zNu_congr e (by omega : a + (n - a) ≤ n)]
  by_cases c3 : zSi (T a)
  · rw [zLx_sgn ea c c1 c2 c3, zLx_sgn e1.symm c (by rw [← ec]; exact c1) (by rw [← ec]; exact c2) (by rw [← ec]; exact c3), ec]
  · rw [zLx_bad ea c c1 c2 c3, zLx_bad e1.symm c (by rw [← ec]; exact c1) (by rw [← ec]; exact c2) (by rw [← ec]; exact c3), ec]
/-- what every token has: its place, and what is behind it -/
def zLv (n : Nat) (l : zLs) : Prop := l.1 ≤ l.2.1 ∧ l.2.1 ≤ n ∧ (l.2.2.1 ≠ 0 → l.1 < l.2.1) ∧ (l.2.2.1 = 2 → ∃ v : Nat, v < 10000 ∧ l.2.2.2 = nI v) ∧ (l.2.2.1 = 3 → ∃ k : Nat, k ≤ 12 ∧ l.2.2.2 = nI k)
theorem zLx_v {T : Nat → Int32} {n i : Nat} (hi : i ≤ n) : zLv n (zLx T n i) ∧ i ≤ (zLx T n i).1 := by
  have hle := @zSk_le zBl T (n - i) i
  generalize ea : zSk zBl T (n - i) i = a at hle
  by_cases c : a = n
  · rw [zLx_fin (by rw [ea]; exact c)]
    exact ⟨⟨Nat.le_refl _, Nat.le_refl _, fun q => absurd rfl q, fun q => absurd q (by simp), fun q => absurd q (by simp)⟩, hi⟩
  by_cases c1 : zAl (T a)
  · have hb := @zSk_le zAl T (n - a - 1) (a + 1)
    have e1 : zSk zAl T (n - a) a = zSk zAl T (n - a - 1) (a + 1) := by
      obtain ⟨m, hm⟩ : ∃ m, n - a = m + 1 := ⟨n - a - 1, by omega⟩
      rw [hm, zSk_pos c1, Nat.add_sub_cancel]
    rw [zLx_wrd ea c c1]
    refine ⟨⟨?_, ?_, fun _ => ?_, fun q => absurd q (by simp), fun _ => ⟨_, zWd_le, rfl⟩⟩, ?_⟩
    all_goals dsimp only
    all_goals omega
  by_cases c2 : zDi (T a)
  · obtain ⟨d, d1, d2⟩ := zDi_at c2
    have e1 : zNu T a (n - a) a 0 = zNu T a (n - a - 1) (a + 1) (if a < a + 4 then 10 * 0 + (T a).toNatClampNeg - 48 else 0) := by
      obtain ⟨m, hm⟩ : ∃ m, n - a = m + 1 := ⟨n - a - 1, by omega⟩
      rw [hm, zNu_pos c2, Nat.add_sub_cancel]
    have hb := @zNu_le T a (n - a - 1) (a + 1) (if a < a + 4 then 10 * 0 + (T a).toNatClampNeg - 48 else 0)
    rw [← e1] at hb
    have hv : (zNu T a (n - a) a 0).2 < 10000 := zNu_v (Nat.le_refl _) (by rw [Nat.sub_self]; decide)
    rw [zLx_num ea c c1 c2]
    refine ⟨⟨?_, ?_, fun _ => ?_, fun _ => ⟨_, hv, rfl⟩, fun q => ?_⟩, ?_⟩
    · dsimp only; omega
    · dsimp only; omega
    · dsimp only; omega
    · exfalso
      dsimp only at q
      by_cases c4 : 4 < (zNu T a (n - a) a 0).1 - a
      · rw [if_pos c4] at q; omega
      · rw [if_neg c4] at q; omega
    · dsimp only; omega
  by_cases c3 : zSi (T a)
  · rw [zLx_sgn ea c c1 c2 c3]
    exact ⟨⟨by dsimp only; omega, by dsimp only; omega, fun _ => by dsimp only; omega, fun q => absurd q (by simp), fun q => absurd q (by simp)⟩, by dsimp only; omega⟩
  · rw [zLx_bad ea c c1 c2 c3]
    exact ⟨⟨by dsimp only; omega, by dsimp only; omega, fun _ => by dsimp only; omega, fun q => absurd q (by simp), fun q => absurd q (by simp)⟩, by dsimp only; omega⟩
/-- how a piece came out: well or not, the token where it stands then, the words -/
abbrev zPr : Type := Bool × zLs × List Int32
def zThn (a : Option zPr) (k : zLs → Option zPr) : Option zPr := match a with
  | none => none
  | some (false, l, _) => some (false, l, [])
  | some (true, l, c) => match k l with
    | none => none
    | some (b, l', c') => some (b, l', c ++ c')
def zEmt (w : Int32) (l : zLs) : Option zPr := some (true, l, [w])
abbrev zWi (l : zLs) (k : Nat) : Prop := l.2.2.1 = 3 ∧ l.2.2.2 = nI k
abbrev zSn (l : zLs) (x : Int32) : Prop := l.2.2.1 = 4 ∧ l.2.2.2 = x
/-- what is read: 0 any, 1 both, 2 not, 3 sum, 4 term, 5 one, and what follows them: 6, 7, 10, 8, 9 -/
noncomputable def zPz (T : Nat → Int32) (n : Nat) : Nat → Nat → Nat → zLs → Option zPr
  | 0, _, _, _ => none
  | f + 1, 0, o, l => zThn (zPz T n f 1 o l) (zPz T n f 6 o)
  | f + 1, 1, o, l => zThn (zPz T n f 2 o l) (zPz T n f 7 o)
  | f + 1, 2, o, l => if zWi l 5 then (if o < 5 then zThn (zPz T n f 2 (o + 1) (zLx T n l.2.1)) (zEmt (-10)) else some (false, l, [])) else zThn (zPz T n f 3 o l) (zPz T n f 10 o)
  | f + 1, 3, o, l => zThn (zPz T n f 4 o l) (zPz T n f 8 o)
  | f + 1, 4, o, l => zThn (zPz T n f 5 o l) (zPz T n f 9 o)
  | f + 1, 5, o, l =>
    if l.2.2.1 = 2 then some (true, zLx T n l.2.1, [l.2.2.2])
    else if l.2.2.1 = 3 ∧ 6 ≤ l.2.2.2.toNatClampNeg ∧ l.2.2.2.toNatClampNeg < 12 then some (true, zLx T n l.2.1, [-1 - (l.2.2.2 - 6)])
    else if zSn l 45 then (if o < 5 then zThn (zPz T n f 5 (o + 1) (zLx T n l.2.1)) (zEmt (-11)) else some (false, l, []))
    else if zSn l 40 then (if o < 5 then zThn (zPz T n f 0 (o + 1) (zLx T n l.2.1)) (fun l' => if zSn l' 41 then some (true, zLx T n l'.2.1, []) else some (false, l', [])) else some (false, l, []))
    else some (false, l, [])
  | f + 1, 6, o, l => if zWi l 3 then zThn (zThn (zPz T n f 1 o (zLx T n l.2.1)) (zEmt (-18))) (zPz T n f 6 o) else some (true, l, [])
  | f + 1, 7, o, l => if zWi l 4 then zThn (zThn (zPz T n f 2 o (zLx T n l.2.1)) (zEmt (-17))) (zPz T n f 7 o) else some (true, l, [])
  | f + 1, 8, o, l => if zSn l 43 then zThn (zThn (zPz T n f 4 o (zLx T n l.2.1)) (zEmt (-12))) (zPz T n f 8 o) else if zSn l 45 then zThn (zThn (zPz T n f 4 o (zLx T n l.2.1)) (zEmt (-13))) (zPz T n f 8 o) else some (true, l, [])
  | f + 1, 9, o, l => if zSn l 42 then zThn (zThn (zPz T n f 5 o (zLx T n l.2.1)) (zEmt (-14))) (zPz T n f 9 o) else some (true, l, [])
  | f + 1, 10, o, l => if zSn l 60 then zThn (zPz T n f 3 o (zLx T n l.2.1)) (zEmt (-15)) else if zSn l 61 then zThn (zPz T n f 3 o (zLx T n l.2.1)) (zEmt (-16)) else some (true, l, [])
  | _ + 1, _ + 11, _, l => some (true, l, [])
