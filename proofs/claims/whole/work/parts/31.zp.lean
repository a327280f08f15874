/-! MATHEMATICS, 31: the stair, purely. A state z: rows 0 kinds, 1 widths, 2 who is on the steps, 3 floors, 4 bells, 5 everies, 6 who is in; 7: how many classes, the tick, out; 8 who stood on the steps; 9: stood, most -/
def zHo (k w : Int32) : Int32 := if k = 1 then pm_max 1 (4 * w / 2) else if k = 2 then pm_max 1 (4 * w + 2) else if k = 3 then pm_max 1 (4 * w / 2 - 1) else if k = 4 then pm_max 1 (2 * (4 * w + 2)) else if k = 5 then pm_max 1 (4 * w / 2) else pm_max 1 (4 * w)
def zHm (k w : Int32) : Int32 := if k = 0 then 4 * w else if k = 1 then 2 * w else if k = 2 then 4 * w + 2 else if k = 3 then 2 * w - 1 else if k = 4 then 8 * w + 4 else 2 * w
def zPa (k w t : Int32) : Int32 := if k = 1 then pm_max 0 (w - 1) else if k = 2 then w else if k = 3 then pm_max 1 (pm_max 0 (w - 1)) else if k = 4 then (if pm_rem t 2 = 0 then w else 0) else if k = 5 then (if 0 < w + 2 then (if pm_rem t (w + 2) = 0 then 0 else pm_max 0 (w - 1)) else pm_max 0 (w - 1)) else w
def zPm (k w t : Int32) : Int32 := if k = 1 then w - 1 else if k = 2 then w else if k = 3 then (if 1 < w then w - 1 else 1) else if k = 4 then (if pm_rem t 2 = 0 then w else 0) else if k = 5 then (if pm_rem t (w + 2) = 0 then 0 else w - 1) else w
theorem zHo_m : ∀ i, i < 6 → ∀ j, j < 11 → 1 ≤ j → zHm (nI i) (nI j) = zHo (nI i) (nI j) := by decide +kernel
theorem zHo_b : ∀ i, i < 6 → ∀ j, j < 11 → 1 ≤ j → 1 ≤ (zHo (nI i) (nI j)).toInt ∧ (zHo (nI i) (nI j)).toInt ≤ 84 := by decide +kernel
theorem zHo_up : ∀ i, i < 6 → ∀ j, j < 10 → 1 ≤ j → (zHo (nI i) (nI j)).toInt ≤ (zHo (nI i) (nI (j + 1))).toInt := by decide +kernel
theorem zPa_1 : ∀ j, j < 11 → 1 ≤ j → pm_max 0 (nI j - 1) = nI j - 1 ∧ pm_max 1 (nI j - 1) = (if 1 < nI j then nI j - 1 else 1) ∧ 0 < nI j + 2 ∧ nI j + 2 ≠ 0 ∧ 0 ≤ (nI j - 1).toInt ∧ (nI j - 1).toInt ≤ 9 ∧ 0 ≤ (nI j).toInt ∧ (nI j).toInt ≤ 10 := by decide +kernel
theorem zHo_eq {k w : Int32} (hk : zB 0 5 k) (hw : zB 1 10 w) : zHm k w = zHo k w := by
  obtain ⟨i, hi, rfl, hi'⟩ := zB_nat (b := 5) hk
  obtain ⟨j, hj, rfl, hj'⟩ := zB_nat (b := 10) (x := w) ⟨by have := hw.1; omega, hw.2⟩
  have h1 := hw.1
  rw [nI_toInt hj'] at h1
  exact zHo_m i (by omega) j (by omega) (by omega)
theorem zHo_ok {k w : Int32} (hk : zB 0 5 k) (hw : zB 1 10 w) : zB 1 84 (zHo k w) := by
  obtain ⟨i, hi, rfl, hi'⟩ := zB_nat (b := 5) hk
  obtain ⟨j, hj, rfl, hj'⟩ := zB_nat (b := 10) (x := w) ⟨by have := hw.1; omega, hw.2⟩
  have h1 := hw.1
  rw [nI_toInt hj'] at h1
  exact zHo_b i (by omega) j (by omega) (by omega)
theorem zHo_wider {k w : Int32} (hk : zB 0 5 k) (hw : zB 1 9 w) : (zHo k w).toInt ≤ (zHo k (w + 1)).toInt := by
  obtain ⟨i, hi, rfl, hi'⟩ := zB_nat (b := 5) hk
  obtain ⟨j, hj, rfl, hj'⟩ := zB_nat (b := 9) (x := w) ⟨by have := hw.1; omega, hw.2⟩
  have h1 := hw.1
  rw [nI_toInt hj'] at h1
  rw [nI_1]
  exact zHo_up i (by omega) j (by omega) (by omega)
theorem zPa_eq {k w t : Int32} (hw : zB 1 10 w) : zPm k w t = zPa k w t := by
  obtain ⟨j, hj, rfl, hj'⟩ := zB_nat (b := 10) (x := w) ⟨by have := hw.1; omega, hw.2⟩
  have h1 := hw.1
  rw [nI_toInt hj'] at h1
  obtain ⟨q1, q2, q3, q4, -⟩ := zPa_1 j (by omega) (by omega)
  unfold zPm zPa
  rw [q1, q2, if_pos q3]
theorem zPa_ok {k w t : Int32} (hw : zB 1 10 w) : zB 0 10 (zPa k w t) := by
  obtain ⟨j, hj, rfl, hj'⟩ := zB_nat (b := 10) (x := w) ⟨by have := hw.1; omega, hw.2⟩
  have h1 := hw.1
  rw [nI_toInt hj'] at h1
  obtain ⟨q1, q2, q3, q4, q5, q6, q7, q8⟩ := zPa_1 j (by omega) (by omega)
  unfold zPa zB
  rw [q1, q2, if_pos q3]
  repeat' split
  all_goals first | (rw [Int32.toInt_zero]; omega) | (rw [Int32.toInt_one]; omega) | omega
theorem zb_w2 {w : Int32} (hw : zB 1 10 w) : w + 2 ≠ 0 := by
  obtain ⟨j, hj, rfl, hj'⟩ := zB_nat (b := 10) (x := w) ⟨by have := hw.1; omega, hw.2⟩
  have h1 := hw.1
  rw [nI_toInt hj'] at h1
  exact (zPa_1 j (by omega) (by omega)).2.2.2.1
/-- the words of a text's code, reckoned -/
def zJo (a w b : Int32) : Int32 := if w = -17 then (if a = 0 then 0 else if b = 0 then 0 else 1) else if w = -16 then (if a = b then 1 else 0) else if w = -15 then (if a < b then 1 else 0) else if w = -14 then a * b else if w = -13 then a - b else if w = -12 then a + b else (if a = 0 then (if b = 0 then 0 else 1) else 1)
def zSt (f : Nat → Int32) (w : Int32) (st : List Int32) : List Int32 :=
  if -10 < w then (if w < 0 then f ((-1 - w).toNatClampNeg) else w) :: st
  else if w = -10 then (match st with | a :: r => (if a = 0 then 1 else 0) :: r | [] => [])
  else if w = -11 then (match st with | a :: r => (-a) :: r | [] => [])
  else (match st with | b :: a :: r => zJo a w b :: r | r => r)
def zEv (f : Nat → Int32) : List Int32 → List Int32 → List Int32
  | [], st => st
  | w :: c, st => zEv f c (zSt f w st)
/-- code that goes from d numbers on the stack to e -/
def zW : List Int32 → Nat → Nat → Prop
  | [], d, e => d = e
  | w :: c, d, e => (-10 < w ∧ -7 < w ∧ d < 60 ∧ zW c (d + 1) e) ∨ ((w = -10 ∨ w = -11) ∧ 1 ≤ d ∧ zW c d e) ∨ (w < -11 ∧ -19 < w ∧ 2 ≤ d ∧ zW c (d - 1) e)
theorem zW_app : ∀ {a b : List Int32} {d e f : Nat}, zW a d e → zW b e f → zW (a ++ b) d f
  | [], _, _, _, _, h1, h2 => by cases h1; exact h2
  | w :: a, b, d, e, f, h1, h2 => by
    rcases h1 with ⟨q1, q2, q3, q4⟩ | ⟨q1, q2, q3⟩ | ⟨q1, q2, q3, q4⟩
    · exact Or.inl ⟨q1, q2, q3, zW_app q4 h2⟩
    · exact Or.inr (Or.inl ⟨q1, q2, zW_app q3 h2⟩)
    · exact Or.inr (Or.inr ⟨q1, q2, q3, zW_app q4 h2⟩)
/-- what a text is told of -/
def zSe (z : pm_H) (s : Nat) (left : Int32) (k : Nat) : Int32 := if k = 0 then nI s else if k = 1 then z 2 s else if k = 2 then z 7 1 else if k = 3 then (if s < 9 then z 2 (s + 1) else 0) else if k = 4 then z 1 s else left
def zWo (R : Nat → List Int32) (which s : Nat) (left bound : Int32) (z : pm_H) : Int32 := pm_max 0 (pm_min bound ((zEv (zSe z s left) (R which) []).headD 0))
theorem zWo_b {R : Nat → List Int32} {which s : Nat} {left bound : Int32} {z : pm_H} (hb : 0 ≤ bound.toInt) : zB 0 bound.toInt (zWo R which s left bound z) := by
  unfold zB zWo
  rw [zb_tmax, zb_tmin]
  simp only [Int32.toInt_zero]
  omega
/-- how many leave step s -/
def zGo (R : Nat → List Int32) (sh left : Int32) (s : Nat) (z : pm_H) : Int32 :=
  let p := if nI s = sh then 0 else zPa (z 0 s) (z 1 s) (z 7 1)
  let g := pm_min (z 2 s) p
  if 0 < g then pm_min g (pm_min (pm_max 0 (p - zWo R 0 s left 9 z)) (if s < 9 then zHo (z 0 (s + 1)) (z 1 (s + 1)) - z 2 (s + 1) else g)) else g
def zLe (go : Int32) (s : Nat) (z : pm_H) : pm_H := if s < 9 then pm_u (pm_u z 2 s (z 2 s - go)) 2 (s + 1) (z 2 (s + 1) + go) else pm_u (pm_u z 2 s (z 2 s - go)) 7 2 (z 7 2 + go)
/-- the steps k - 1 .. 0 -/
def zL (R : Nat → List Int32) (sh left : Int32) : Nat → pm_H → (Nat → Int32) → pm_H × (Nat → Int32)
  | 0, z, st => (z, st)
  | k + 1, z, st => zL R sh left k (zLe (zGo R sh left k z) k z) (upd st k (z 2 k - zGo R sh left k z))
/-- a class steps on its floor -/
def zFl (R : Nat → List Int32) (c : Nat) (z : pm_H) : pm_H :=
  if z 7 1 < z 4 c then z
  else if 0 < z 6 c then
    (if 0 < zHo (z 0 ((z 3 c).toNatClampNeg)) (z 1 ((z 3 c).toNatClampNeg)) - z 2 ((z 3 c).toNatClampNeg) then
      (let co := pm_min (pm_min (z 6 c) (z 5 c)) (pm_min (zWo R 1 ((z 3 c).toNatClampNeg) (z 6 c) 9 z) (zHo (z 0 ((z 3 c).toNatClampNeg)) (z 1 ((z 3 c).toNatClampNeg)) - z 2 ((z 3 c).toNatClampNeg)))
       pm_u (pm_u z 6 c (z 6 c - co)) 2 ((z 3 c).toNatClampNeg) (z 2 ((z 3 c).toNatClampNeg) + co))
     else z)
  else z
def zF (R : Nat → List Int32) : Nat → Nat → pm_H → pm_H
  | 0, _, z => z
  | m + 1, c, z => zF R m (c + 1) (zFl R c z)
/-- who stands on step s is counted -/
def zCs (st : Nat → Int32) (s : Nat) (z : pm_H) : pm_H :=
  if 0 < st s then pm_u (pm_u (pm_u z 9 1 (pm_max (z 9 1) (z 2 s))) 9 0 (z 9 0 + st s)) 8 s (z 8 s + st s)
  else pm_u z 9 1 (pm_max (z 9 1) (z 2 s))
def zC (st : Nat → Int32) : Nat → Nat → pm_H → pm_H
  | 0, _, z => z
  | m + 1, s, z => zC st m (s + 1) (zCs st s z)
def zMi (R : Nat → List Int32) (st : Nat → Int32) (left : Int32) (z : pm_H) : Nat → Nat → Int32 → Int32
  | 0, _, m => m
  | k + 1, s, m => zMi R st left z k (s + 1) (if 0 < st s then m + st s * zWo R 2 s left 99 z else m)
def zIn (z : pm_H) : Int32 := zSum (z 6) ((z 7 0).toNatClampNeg)
def zOn (z : pm_H) : Int32 := zSum (z 2) 10
/-- ahead of the counting: the state, who stands -/
def zT0 (R : Nat → List Int32) (sh : Int32) (z : pm_H) : pm_H × (Nat → Int32) :=
  let q := zL R sh (zIn z) 10 z (fun _ => 0)
  (zF R ((z 7 0).toNatClampNeg) 0 q.1, q.2)
/-- a tick -/
def zT (R : Nat → List Int32) (sh : Int32) (z : pm_H) : pm_H :=
  let q := zT0 R sh z
  let w := zC q.2 10 0 q.1
  pm_u w 7 1 (pm_min 999 (w 7 1 + 1))
/-- its minds, behind m -/
def zD (R : Nat → List Int32) (sh : Int32) (z : pm_H) (m : Int32) : Int32 :=
  let q := zT0 R sh z
  zMi R q.2 (zIn q.1) q.1 10 0 m
/-- all is as it may be -/
def zV (z : pm_H) : Prop := zB 0 5 (z 7 0) ∧ zB 0 999 (z 7 1) ∧ (∀ s, s < 10 → zB 0 5 (z 0 s) ∧ zB 1 10 (z 1 s) ∧ 0 ≤ (z 2 s).toInt ∧ (z 2 s).toInt ≤ (zHo (z 0 s) (z 1 s)).toInt) ∧ (∀ c, c < (z 7 0).toNatClampNeg → zB 0 9 (z 3 c) ∧ zB 0 999 (z 4 c) ∧ zB 1 9 (z 5 c) ∧ zB 0 60 (z 6 c))
