/-! MATHEMATICS, 30: numbers, arrays, tests -/
theorem zb_ib {c : Bool} {A : Prop} (hc : c = true) : pm_ib c A = A := by rw [hc]; rfl
theorem zb_lt {x y : Int32} {A B : Prop} : pm_lt x y A B = if x < y then A else B := rfl
theorem zb_eq {x y : Int32} {A B : Prop} : pm_eq x y A B = if x = y then A else B := rfl
theorem zb_nz {y : Int32} {A : Prop} (hy : y ≠ 0) : pm_nz y A = A := by unfold pm_nz; rw [if_neg hy]
theorem zb_in {j n : Nat} (h : j < n) (hn : n < 2 ^ 31) : pm_in (nI j) n = true := by
  unfold pm_in
  rw [nI_clamp (by omega), decide_eq_false (nI_pos (by omega))]
  exact Nat.blt_eq.mpr h
theorem zb_u {h : pm_H} {o j : Nat} {x : Int32} {o' j' : Nat} : pm_u h o j x o' j' = if o' = o then (if j' = j then x else h o j') else h o' j' := by
  unfold pm_u upd
  by_cases h1 : o' = o
  · simp [h1]
  · simp [h1]
theorem zb_us {h : pm_H} {o j : Nat} {x : Int32} : pm_u h o j x o j = x := by simp [zb_u]
theorem zb_un {h : pm_H} {o j : Nat} {x : Int32} {o' : Nat} (hne : o' ≠ o) : pm_u h o j x o' = h o' := by
  unfold pm_u; rw [if_neg hne]
theorem zb_uj {h : pm_H} {o j : Nat} {x : Int32} {j' : Nat} (hne : j' ≠ j) : pm_u h o j x o j' = h o j' := by simp [zb_u, hne]
theorem zb_ur {h : pm_H} {o j : Nat} {x : Int32} : pm_u h o j x o = upd (h o) j x := by unfold pm_u; rw [if_pos rfl]
/-- numbers by their whole numbers -/
theorem zb_tlt {x y : Int32} : x < y ↔ x.toInt < y.toInt := Int32.lt_iff_toInt_lt
theorem zb_teq {x y : Int32} : x = y ↔ x.toInt = y.toInt := Int32.toInt_inj.symm
theorem zb_tadd {x y : Int32} (h1 : -2147483648 ≤ x.toInt + y.toInt) (h2 : x.toInt + y.toInt < 2147483648) : (x + y).toInt = x.toInt + y.toInt := by
  rw [Int32.toInt_add]; exact Int.bmod_eq_of_le (by omega) (by omega)
theorem zb_tsub {x y : Int32} (h1 : -2147483648 ≤ x.toInt - y.toInt) (h2 : x.toInt - y.toInt < 2147483648) : (x - y).toInt = x.toInt - y.toInt := by
  rw [Int32.toInt_sub]; exact Int.bmod_eq_of_le (by omega) (by omega)
theorem zb_tmul {x y : Int32} (h1 : -2147483648 ≤ x.toInt * y.toInt) (h2 : x.toInt * y.toInt < 2147483648) : (x * y).toInt = x.toInt * y.toInt := by
  rw [Int32.toInt_mul]; exact Int.bmod_eq_of_le (by omega) (by omega)
theorem zb_tmax {x y : Int32} : (pm_max x y).toInt = max x.toInt y.toInt := by
  unfold pm_max
  by_cases h : x < y
  · rw [if_pos h]; have := zb_tlt.mp h; omega
  · rw [if_neg h]; have := mt zb_tlt.mpr h; omega
theorem zb_tmin {x y : Int32} : (pm_min x y).toInt = min x.toInt y.toInt := by
  unfold pm_min
  by_cases h : y < x
  · rw [if_pos h]; have := zb_tlt.mp h; omega
  · rw [if_neg h]; have := mt zb_tlt.mpr h; omega
/-- x lies between two numbers -/
def zB (a b : Int) (x : Int32) : Prop := a ≤ x.toInt ∧ x.toInt ≤ b
theorem zB_nat {b : Nat} {x : Int32} (h : zB 0 b x) : ∃ j : Nat, j ≤ b ∧ x = nI j ∧ j < 2 ^ 31 := by
  obtain ⟨h1, h2⟩ := h
  have h3 := x.toInt_lt
  refine ⟨x.toInt.toNat, by omega, ?_, by omega⟩
  refine zb_teq.mpr ?_
  rw [nI_toInt (by omega)]
  omega
theorem zB_of {j : Nat} {b : Int} (h : (j : Int) ≤ b) (hj : j < 2 ^ 31) : zB 0 b (nI j) := by
  unfold zB; rw [nI_toInt hj]; omega
theorem zb_tzi {x : Int32} (h : 0 ≤ x.toInt) : (x.toNatClampNeg : Int) = x.toInt := by
  show (x.toInt.toNat : Int) = _
  omega
theorem zB_nI {b : Int} {x : Int32} (h : zB 0 b x) : x = nI (x.toNatClampNeg) := by
  refine zb_teq.mpr ?_
  have h3 := x.toInt_lt
  have h4 := zb_tzi h.1
  rw [nI_toInt (by omega)]
  omega
theorem zB_zi {b : Nat} {x : Int32} (h : zB 0 b x) : x.toNatClampNeg ≤ b := by
  have h4 := zb_tzi h.1
  have := h.2
  omega
theorem zb_in' {n : Nat} {x : Int32} (h : zB 0 ((n : Int) - 1) x) (h0 : 0 < n) : pm_in x n = true := by
  unfold pm_in
  have h4 := zb_tzi h.1
  have h5 := h.2
  rw [decide_eq_false (by rw [zb_tlt]; have := h.1; simp only [Int32.toInt_zero]; omega)]
  exact Nat.blt_eq.mpr (by omega)
theorem zb_c0 : (0 : Int32) = nI 0 := by decide
theorem zb_c1 : (1 : Int32) = nI 1 := by decide
/-- the sum of the first n -/
def zSum (f : Nat → Int32) : Nat → Int32
  | 0 => 0
  | n + 1 => zSum f n + f n
theorem zSum_congr {f g : Nat → Int32} : ∀ {n : Nat}, (∀ j, j < n → f j = g j) → zSum f n = zSum g n
  | 0, _ => rfl
  | n + 1, h => by
    unfold zSum
    rw [zSum_congr (fun j hj => h j (by omega)), h n (by omega)]
theorem zSum_nn {f : Nat → Int32} {m : Int} (hm : 0 ≤ m) : ∀ {n : Nat}, n ≤ 10 → m ≤ 1000 → (∀ j, j < n → zB 0 m (f j)) → zB 0 (n * m) (zSum f n)
  | 0, _, _, _ => by unfold zSum zB; simp
  | n + 1, hn, h2, h => by
    have h3 := zSum_nn hm (n := n) (by omega) h2 (fun j hj => h j (by omega))
    have h4 := h n (by omega)
    have h5 : (n : Int) * m ≤ 10 * m := Int.mul_le_mul_of_nonneg_right (by omega) hm
    unfold zB at h3 h4 ⊢
    unfold zSum
    rw [zb_tadd (by omega) (by omega)]
    push_cast
    rw [Int.add_mul]
    omega
theorem zSum_0 {f : Nat → Int32} {m : Int} (hm : 0 ≤ m) : ∀ {n : Nat}, n ≤ 10 → m ≤ 1000 → (∀ j, j < n → zB 0 m (f j)) → zSum f n = 0 → ∀ j, j < n → f j = 0
  | 0, _, _, _, _, j, hj => absurd hj (by omega)
  | n + 1, hn, h2, h, hs, j, hj => by
    have h3 := zSum_nn hm (n := n) (by omega) h2 (fun j hj => h j (by omega))
    have h4 := h n (by omega)
    have h5 : (n : Int) * m ≤ 10 * m := Int.mul_le_mul_of_nonneg_right (by omega) hm
    unfold zB at h3 h4
    have h6 : (zSum f n + f n).toInt = 0 := by have := congrArg Int32.toInt hs; simpa [zSum] using this
    rw [zb_tadd (by omega) (by omega)] at h6
    have h7 : zSum f n = 0 := zb_teq.mpr (by rw [Int32.toInt_zero]; omega)
    rcases Nat.lt_or_ge j n with q | q
    · exact zSum_0 hm (n := n) (by omega) h2 (fun j hj => h j (by omega)) h7 j q
    · have : j = n := by omega
      subst this
      exact zb_teq.mpr (by rw [Int32.toInt_zero]; omega)
theorem zSum_z {f : Nat → Int32} : ∀ {n : Nat}, (∀ j, j < n → f j = 0) → zSum f n = 0
  | 0, _ => rfl
  | n + 1, h => by
    unfold zSum
    rw [zSum_z (fun j hj => h j (by omega)), h n (by omega)]
    rfl
/-- for the walks over wp -/
theorem zb_t1 : ((1 : Int32) = 0) = False := eq_false (by decide)
theorem zb_t0 : ((0 : Int32) = 0) = True := eq_true rfl
theorem zb_b0 : pm_b01 0 = true := by decide
theorem zb_b1 : pm_b01 1 = true := by decide
