/-! THE FIRST TEXT: the reading of it, reckoned -/
def cBl (x : Int32) : Bool := decide (x = 32) || decide (x = 10)
def cAl (x : Int32) : Bool := !decide (x < 97) && !decide (122 < x)
def cDi (x : Int32) : Bool := !decide (x < 48) && !decide (57 < x)
def cSi (x : Int32) : Bool := decide (x = 40) || (decide (x = 41) || (decide (x = 42) || (decide (x = 43) || (decide (x = 45) || (decide (x = 59) || (decide (x = 60) || decide (x = 61)))))))
theorem cBl_iff (x : Int32) : cBl x = true ↔ zBl x := by simp [cBl, zBl]
theorem cAl_iff (x : Int32) : cAl x = true ↔ zAl x := by simp [cAl, zAl]
theorem cDi_iff (x : Int32) : cDi x = true ↔ zDi x := by simp [cDi, zDi]
theorem cSi_iff (x : Int32) : cSi x = true ↔ zSi x := by simp [cSi, zSi]
def cSk (p : Int32 → Bool) (T : Nat → Int32) : Nat → Nat → Nat
  | 0, i => i
  | m + 1, i => bif p (T i) then cSk p T m (i + 1) else i
def cNu (T : Nat → Int32) (p : Nat) : Nat → Nat → Nat → Nat × Nat
  | 0, i, v => (i, v)
  | m + 1, i, v => bif cDi (T i) then cNu T p m (i + 1) (if i < p + 4 then 10 * v + (T i).toNatClampNeg - 48 else v) else (i, v)
def cEw (T : Nat → Int32) (a b k : Nat) : Bool := Nat.beq (b - a) (pm_sl k).length && (List.range (pm_sl k).length).all (fun i => decide (T (a + i) = nI ((pm_sl k).getD i 0)))
def cWd (T : Nat → Int32) (a b : Nat) : Nat → Nat → Nat
  | 0, k => k
  | m + 1, k => bif cEw T a b k then k else cWd T a b m (k + 1)
def cLx (T : Nat → Int32) (n i : Nat) : zLs :=
  if cSk cBl T (n - i) i = n then (n, n, 0, 0)
  else if cAl (T (cSk cBl T (n - i) i)) = true then (cSk cBl T (n - i) i, cSk cAl T (n - cSk cBl T (n - i) i) (cSk cBl T (n - i) i), 3, nI (cWd T (cSk cBl T (n - i) i) (cSk cAl T (n - cSk cBl T (n - i) i) (cSk cBl T (n - i) i)) 12 0))
  else if cDi (T (cSk cBl T (n - i) i)) = true then (cSk cBl T (n - i) i, (cNu T (cSk cBl T (n - i) i) (n - cSk cBl T (n - i) i) (cSk cBl T (n - i) i) 0).1, if 4 < (cNu T (cSk cBl T (n - i) i) (n - cSk cBl T (n - i) i) (cSk cBl T (n - i) i) 0).1 - cSk cBl T (n - i) i then 1 else 2, nI (cNu T (cSk cBl T (n - i) i) (n - cSk cBl T (n - i) i) (cSk cBl T (n - i) i) 0).2)
  else (cSk cBl T (n - i) i, cSk cBl T (n - i) i + 1, if cSi (T (cSk cBl T (n - i) i)) = true then 4 else 1, T (cSk cBl T (n - i) i))
theorem cb_t {b : Bool} {α : Type} {x y : α} (h : b = true) : (bif b then x else y) = x := by rw [h]; rfl
theorem cb_f {b : Bool} {α : Type} {x y : α} (h : ¬ b = true) : (bif b then x else y) = y := by
  cases b with
  | true => exact absurd rfl h
  | false => rfl
theorem zSk_c {p : Int32 → Prop} {q : Int32 → Bool} (hq : ∀ x, q x = true ↔ p x) {T : Nat → Int32} : ∀ (m i : Nat), zSk p T m i = cSk q T m i
  | 0, _ => rfl
  | m + 1, i => by
    by_cases c : p (T i)
    · rw [zSk_pos c]
      exact (zSk_c hq m (i + 1)).trans (cb_t ((hq _).mpr c)).symm
    · rw [zSk_neg c]
      exact (cb_f (fun h => c ((hq _).mp h))).symm
theorem zNu_c {T : Nat → Int32} {p : Nat} : ∀ (m i v : Nat), zNu T p m i v = cNu T p m i v
  | 0, _, _ => rfl
  | m + 1, i, v => by
    by_cases c : zDi (T i)
    · rw [zNu_pos c]
      exact (zNu_c m _ _).trans (cb_t ((cDi_iff _).mpr c)).symm
    · rw [zNu_neg c]
      exact (cb_f (fun h => c ((cDi_iff _).mp h))).symm
theorem cEw_iff (T : Nat → Int32) (a b k : Nat) : cEw T a b k = true ↔ zEw T a b k := by
  unfold cEw zEw
  simp only [Bool.and_eq_true, List.all_eq_true, List.mem_range, decide_eq_true_eq]
  exact ⟨fun h => ⟨Nat.eq_of_beq_eq_true h.1, h.2⟩, fun h => ⟨by rw [h.1]; exact Nat.beq_refl _, h.2⟩⟩
theorem zWd_c {T : Nat → Int32} {a b : Nat} : ∀ (m k : Nat), zWd T a b m k = cWd T a b m k
  | 0, _ => rfl
  | m + 1, k => by
    by_cases c : zEw T a b k
    · simp only [zWd, if_pos c]
      exact (cb_t ((cEw_iff _ _ _ _).mpr c)).symm
    · simp only [zWd, if_neg c]
      exact (zWd_c m (k + 1)).trans (cb_f (fun h => c ((cEw_iff _ _ _ _).mp h))).symm
theorem zLx_c (T : Nat → Int32) (n i : Nat) : zLx T n i = cLx T n i := by
  unfold zLx cLx
  rw [zSk_c cBl_iff (n - i) i]
  generalize cSk cBl T (n - i) i = a
  rw [zSk_c cAl_iff (n - a) a, zNu_c (n - a) a 0, zWd_c 12 0]
  by_cases c0 : a = n
  · rw [if_pos c0, if_pos c0]
  rw [if_neg c0, if_neg c0]
  by_cases c1 : zAl (T a)
  · rw [if_pos c1, if_pos ((cAl_iff _).mpr c1)]
  rw [if_neg c1, if_neg (fun h => c1 ((cAl_iff _).mp h))]
  by_cases c2 : zDi (T a)
  · rw [if_pos c2, if_pos ((cDi_iff _).mpr c2)]
  rw [if_neg c2, if_neg (fun h => c2 ((cDi_iff _).mp h))]
  by_cases c3 : zSi (T a)
  · rw [if_pos c3, if_pos ((cSi_iff _).mpr c3)]
  · rw [if_neg c3, if_neg (fun h => c3 ((cSi_iff _).mp h))]
/-- the parser over any reading of tokens -/
def cPz (X : Nat → zLs) : Nat → Nat → Nat → zLs → Option zPr
  | 0, _, _, _ => none
  | f + 1, 0, o, l => zThn (cPz X f 1 o l) (cPz X f 6 o)
  | f + 1, 1, o, l => zThn (cPz X f 2 o l) (cPz X f 7 o)
  | f + 1, 2, o, l => if zWi l 5 then (if o < 5 then zThn (cPz X f 2 (o + 1) (X l.2.1)) (zEmt (-10)) else some (false, l, [])) else zThn (cPz X f 3 o l) (cPz X f 10 o)
  | f + 1, 3, o, l => zThn (cPz X f 4 o l) (cPz X f 8 o)
  | f + 1, 4, o, l => zThn (cPz X f 5 o l) (cPz X f 9 o)
  | f + 1, 5, o, l =>
    if l.2.2.1 = 2 then some (true, X l.2.1, [l.2.2.2])
    else if l.2.2.1 = 3 ∧ 6 ≤ l.2.2.2.toNatClampNeg ∧ l.2.2.2.toNatClampNeg < 12 then some (true, X l.2.1, [-1 - (l.2.2.2 - 6)])
    else if zSn l 45 then (if o < 5 then zThn (cPz X f 5 (o + 1) (X l.2.1)) (zEmt (-11)) else some (false, l, []))
    else if zSn l 40 then (if o < 5 then zThn (cPz X f 0 (o + 1) (X l.2.1)) (fun l' => if zSn l' 41 then some (true, X l'.2.1, []) else some (false, l', [])) else some (false, l, []))
    else some (false, l, [])
  | f + 1, 6, o, l => if zWi l 3 then zThn (zThn (cPz X f 1 o (X l.2.1)) (zEmt (-18))) (cPz X f 6 o) else some (true, l, [])
  | f + 1, 7, o, l => if zWi l 4 then zThn (zThn (cPz X f 2 o (X l.2.1)) (zEmt (-17))) (cPz X f 7 o) else some (true, l, [])
  | f + 1, 8, o, l => if zSn l 43 then zThn (zThn (cPz X f 4 o (X l.2.1)) (zEmt (-12))) (cPz X f 8 o) else if zSn l 45 then zThn (zThn (cPz X f 4 o (X l.2.1)) (zEmt (-13))) (cPz X f 8 o) else some (true, l, [])
  | f + 1, 9, o, l => if zSn l 42 then zThn (zThn (cPz X f 5 o (X l.2.1)) (zEmt (-14))) (cPz X f 9 o) else some (true, l, [])
  | f + 1, 10, o, l => if zSn l 60 then zThn (cPz X f 3 o (X l.2.1)) (zEmt (-15)) else if zSn l 61 then zThn (cPz X f 3 o (X l.2.1)) (zEmt (-16)) else some (true, l, [])
  | _ + 1, _ + 11, _, l => some (true, l, [])
theorem zPz_c (T : Nat → Int32) (n : Nat) : ∀ (f nt : Nat), zPz T n f nt = cPz (cLx T n) f nt := by
  intro f
  induction f with
  | zero => intro nt; cases nt <;> rfl
  | succ f ih =>
    intro nt
    funext o l
    match nt with
    | 0 | 1 | 2 | 3 | 4 | 5 | 6 | 7 | 8 | 9 | 10 => simp only [zPz, cPz, ih, zLx_c]
    | _ + 11 => rfl
def cRu (T : Nat → Int32) (n w : Nat) (l : zLs) : Option zPr := if zWi l w then zThn (cPz (cLx T n) (6 * n + 6) 0 0 (cLx T n l.2.1)) (fun l' => if zSn l' 59 then some (true, cLx T n l'.2.1, []) else some (false, l', [])) else some (false, l, [])
theorem zRu_c (T : Nat → Int32) (n w : Nat) (l : zLs) : zRu T n w l = cRu T n w l := by
  unfold zRu cRu
  simp only [zPz_c, zLx_c]
/-- the first text's letters -/
def cT0 (j : Nat) : Int32 := nI ((pm_sl 12).getD j 0)
def cT0ok : Bool := match cRu cT0 36 0 (cLx cT0 36 0) with
  | some (true, l1, _) => match cRu cT0 36 1 l1 with
    | some (true, l2, _) => match cRu cT0 36 2 l2 with
      | some (true, l3, _) => decide (l3.2.2.1 = 0)
      | _ => false
    | _ => false
  | _ => false
theorem cT0_ok : cT0ok = true := by decide +kernel
/-- the first text is well made: for any tape that begins with its letters -/
theorem cT0_all {T : Nat → Int32} (hT : ∀ j, j < 36 → T j = cT0 j) : ∃ (l0 l1 l2 l3 : zLs) (c0 c1 c2 : List Int32), zLx T 36 0 = l0 ∧ zLv 36 l0 ∧ zRu T 36 0 l0 = some (true, l1, c0) ∧ zLv 36 l1 ∧ (l0.1 + c0.length ≤ l1.1) ∧ zRu T 36 1 l1 = some (true, l2, c1) ∧ zLv 36 l2 ∧ (l1.1 + c1.length ≤ l2.1) ∧ zRu T 36 2 l2 = some (true, l3, c2) ∧ zLv 36 l3 ∧ (l2.1 + c2.length ≤ l3.1) ∧ l3.2.2.1 = 0 ∧ zW c0 0 1 ∧ zW c1 0 1 ∧ zW c2 0 1 := by
  obtain ⟨v0, -⟩ := @zLx_v T 36 0 (Nat.zero_le _)
  have g : zLx T 36 0 = cLx cT0 36 0 := (zLx_congr hT (Nat.zero_le _)).trans (zLx_c _ _ _)
  generalize el : zLx T 36 0 = l0 at v0 g
  obtain ⟨b0, l1, c0, e0, v1, n0⟩ := @zRu_ok T 36 0 l0 v0
  obtain ⟨b1, l2, c1, e1, v2, n1⟩ := @zRu_ok T 36 1 l1 v1
  obtain ⟨b2, l3, c2, e2, v3, n2⟩ := @zRu_ok T 36 2 l2 v2
  have h := cT0_ok
  unfold cT0ok at h
  rw [← g, ← zRu_c, ← zRu_congr hT v0, e0] at h
  cases b0 with
  | false => cases h
  | true =>
    dsimp only at h
    rw [← zRu_c, ← zRu_congr hT v1, e1] at h
    cases b1 with
    | false => cases h
    | true =>
      dsimp only at h
      rw [← zRu_c, ← zRu_congr hT v2, e2] at h
      cases b2 with
      | false => cases h
      | true =>
        dsimp only at h
        exact ⟨l0, l1, l2, l3, c0, c1, c2, rfl, v0, e0, v1, (n0 rfl).1, e1, v2, (n1 rfl).1, e2, v3, (n2 rfl).1, of_decide_eq_true h, (n0 rfl).2, (n1 rfl).2, (n2 rfl).2⟩
