/-! CONSTRUCTORS: the reference's cells beside the class's (M, zw7 written by wip/whole/ctor7.py) -/
def zM : va_E := .inr (7, [.null, .null, .null, .int 0, .null, .null, .null, .null, .null, .int 0, .int 0, .int 0, .null, .int 0, .int 0, .null, .null, .int 0, .int 0, .int 0, .int 0, .int 0, .int 0, .null, .null, .null, .null, .int 0, .int 0, .int 0, .int 0, .null, .null, .null, .null, .int 0, .int 0, .int 0, .int 0, .int 0, .null, .null, .null, .null, .null, .null])
def zw7 (cI : ClassId) (a : Nat → Nat) : va_W := [(a 0, .inr (7, [.ref (a 1), .ref (a 2), .ref (a 3), .int 0, .ref (a 4), .ref (a 5), .ref (a 6), .ref (a 7), .ref (a 8), .int 0, .int 0, .int 0, .ref (a 9), .int 0, .int 0, .ref (a 10), .ref (a 11), .int 0, .int 0, .int 0, .int 0, .int 0, .int 0, .ref (a 12), .ref (a 13), .ref (a 14), .ref (a 15), .int 0, .int 0, .int 0, .int 0, .ref (a 16), .ref (a 17), .ref (a 18), .ref (a 19), .int 0, .int 0, .int 0, .int 0, .int 0, .ref (a 20), .ref (a 21), .ref (a 22), .ref (a 23), .ref (a 24), .ref (a 25)])), (a 1, .inl (cI, 10, .inl (fun _ => 0))), (a 2, .inl (cI, 10, .inl (fun _ => 0))), (a 3, .inl (cI, 10, .inl (fun _ => 0))), (a 4, .inl (cI, 5, .inl (fun _ => 0))), (a 5, .inl (cI, 5, .inl (fun _ => 0))), (a 6, .inl (cI, 5, .inl (fun _ => 0))), (a 7, .inl (cI, 5, .inl (fun _ => 0))), (a 8, .inl (cI, 5, .inl (fun _ => 0))), (a 9, .inl (cI, 160, .inl (fun _ => 0))), (a 10, .inl (cI, 1020, .inl (fun _ => 0))), (a 11, .inl (cI, 24, .inl (fun _ => 0))), (a 12, .inl (cI, 170, .inl (fun _ => 0))), (a 13, .inl (cI, 10, .inl (fun _ => 0))), (a 14, .inl (cI, 10, .inl (fun _ => 0))), (a 15, .inl (cI, 10, .inl (fun _ => 0))), (a 16, .inl (cI, 17, .inl (fun _ => 0))), (a 17, .inl (cI, 5, .inl (fun _ => 0))), (a 18, .inl (cI, 5, .inl (fun _ => 0))), (a 19, .inl (cI, 5, .inl (fun _ => 0))), (a 20, .inl (cI, 30, .inl (fun _ => 0))), (a 21, .inl (cI, 20, .inl (fun _ => 0))), (a 22, .inl (cI, 4, .inl (fun _ => 0))), (a 23, .inl (cI, 4, .inl (fun _ => 0))), (a 24, .inl (cI, 160, .inl (fun _ => 0))), (a 25, .inl (cI, 40, .inl (fun _ => 0)))]
def zσ7 (a σ : Nat → Nat) (w : Nat) : Nat → Nat := fun k => bif Nat.blt k 66 then σ k else bif Nat.blt k 92 then a (k - 66) else bif Nat.beq k 100 then w else σ k
theorem cz_blt {k n : Nat} (h : k < n) : Nat.blt k n = true := Nat.ble_eq.mpr h
theorem cz_bltF {k n : Nat} (h : n ≤ k) : Nat.blt k n = false := by
  cases e : Nat.blt k n with
  | true => exact absurd (Nat.le_of_ble_eq_true e) (by omega)
  | false => rfl
theorem zσ7_lt {a σ : Nat → Nat} {w k : Nat} (h : k < 66) : zσ7 a σ w k = σ k := by
  unfold zσ7; rw [cz_blt h]; rfl
theorem zσ7_mid {a σ : Nat → Nat} {w k : Nat} (h : k < 26) : zσ7 a σ w (66 + k) = a k := by
  unfold zσ7; rw [cz_bltF (by omega), cz_blt (show 66 + k < 92 by omega), Nat.add_sub_cancel_left]; rfl
theorem zσ7_ge {a σ : Nat → Nat} {w k : Nat} (h : 101 ≤ k) : zσ7 a σ w k = σ k := by
  unfold zσ7
  rw [cz_bltF (by omega), cz_bltF (by omega)]
  cases e : Nat.beq k 100 with
  | true => exact absurd (Nat.eq_of_beq_eq_true e) (by omega)
  | false => rfl
/-- the memory as the reference's constructor finds it, with its own cells -/
def zM7 (h1 : pm_H) : pm_H := fun o j => bif Nat.blt o 66 then (bif (Nat.beq o 34 && Nat.beq j 2) then (if h1 34 2 = 0 then 0 else 100) else h1 o j) else 0
theorem zM7_lt {h1 : pm_H} {o j : Nat} (ho : o < 66) (hn : ¬ (o = 34 ∧ j = 2)) : zM7 h1 o j = h1 o j := by
  unfold zM7
  rw [cz_blt ho]
  cases e : (Nat.beq o 34 && Nat.beq j 2) with
  | true =>
    simp only [Bool.and_eq_true] at e
    exact absurd ⟨Nat.eq_of_beq_eq_true e.1, Nat.eq_of_beq_eq_true e.2⟩ hn
  | false => rfl
theorem zM7_ge {h1 : pm_H} {o : Nat} (ho : 66 ≤ o) : zM7 h1 o = fun _ => 0 := by
  funext j
  unfold zM7
  rw [cz_bltF ho]; rfl
theorem cz_f1 : ∀ o, o < 66 → pm_tag o ≠ 0 → o ≠ 34 := by decide +kernel
theorem cz_f2 : ∀ o, o < 66 → pm_tag o = 9 → pm_len o = 6 := by decide +kernel
theorem cz_f3 : ∀ o, o < 66 → pm_tag o = 10 → pm_len o = 4 := by decide +kernel
theorem cz_f4 : ∀ o, o < 66 → ∀ f, f < 46 → pm_ft (pm_tag o) f = 2 → ((pm_rf (pm_tag o) o f).all (fun r => Nat.blt r 66)) = true := by decide +kernel
theorem cz_f5 : ∀ o, o < 66 → ∀ f, f < 46 → pm_ft (pm_tag o) f = 3 → (o = 34 ∧ f = 2) ∨ (o = 19 ∧ f = 8) := by decide +kernel
theorem cz_f6 : pm_ft (pm_tag 34) 2 = 3 := by decide +kernel
theorem cz_f7 : ∀ o, o < 66 → pm_tag o < 7 ∨ pm_tag o = 8 ∨ pm_tag o = 9 ∨ pm_tag o = 10 := by decide +kernel
theorem cz_f8 : ∀ ci, ci < 7 → pm_nf ci ≤ 46 := by decide +kernel
theorem cz_f9 : ∀ o, o < 66 → ∀ f, f < 46 → f < pm_nf (pm_tag o) → pm_ft (pm_tag o) f = 0 ∨ pm_ft (pm_tag o) f = 1 ∨ pm_ft (pm_tag o) f = 2 ∨ pm_ft (pm_tag o) f = 3 ∨ 7 ≤ pm_tag o := by decide +kernel
theorem cz_ceo {σ : Nat → Nat} {cI cT cS : ClassId} {h : pm_H} {o : Nat} (ht : pm_tag o < 7) : pm_ce σ cI cT cS h o = .inr (pm_tag o, (List.range (pm_nf (pm_tag o))).map (pm_fw σ h (pm_tag o) o)) := by
  unfold pm_ce
  generalize pm_tag o = t at ht
  match t, ht with
  | 0, _ | 1, _ | 2, _ | 3, _ | 4, _ | 5, _ | 6, _ => rfl
  | n + 7, ht => exact absurd ht (by omega)
theorem cz_ce9 {σ : Nat → Nat} {cI cT cS : ClassId} {h : pm_H} {o : Nat} (ht : pm_tag o = 9) : pm_ce σ cI cT cS h o = .inl (cT, pm_len o, .inr (.inr (.inr (.inr (fun j => (pm_rf 9 o j).map σ))))) := by
  unfold pm_ce; rw [ht]; rfl
theorem cz_ce10 {σ : Nat → Nat} {cI cT cS : ClassId} {h : pm_H} {o : Nat} (ht : pm_tag o = 10) : pm_ce σ cI cT cS h o = .inl (cS, pm_len o, .inr (.inr (.inr (.inr (fun j => (pm_rf 10 o j).map σ))))) := by
  unfold pm_ce; rw [ht]; rfl
/-- a cell of the class's, told by the larger world -/
theorem cz_up {D : va_G} {σ a : Nat → Nat} {cI cT cS : ClassId} {h1 : pm_H} {H : Heap} {o : Nat} (ho : o < 66) (h19 : h1 19 8 = 0) (hP : va_at D vwCl (σ o, pm_ce σ cI cT cS h1 o) H) : va_at D vwCl (zσ7 a σ (σ (h1 34 2).toNatClampNeg) o, pm_ce (zσ7 a σ (σ (h1 34 2).toNatClampNeg)) cI cT cS (zM7 h1) o) H := by
  rw [zσ7_lt ho]
  rcases cz_f7 o ho with t | t | t | t
  · rw [cz_ceo t] at hP ⊢
    have e : (List.range (pm_nf (pm_tag o))).map (pm_fw (zσ7 a σ (σ (h1 34 2).toNatClampNeg)) (zM7 h1) (pm_tag o) o) = (List.range (pm_nf (pm_tag o))).map (pm_fw σ h1 (pm_tag o) o) := by
      refine List.map_congr_left (fun f hf => ?_)
      have hf := List.mem_range.mp hf
      have h8 := cz_f8 _ t
      have hf46 : f < 46 := by omega
      rcases cz_f9 o ho f hf46 hf with k | k | k | k | k
      · unfold pm_fw; rw [k]
        show Value.int (zM7 h1 o f) = Value.int (h1 o f)
        rw [zM7_lt ho (fun q => by rw [q.1, q.2, cz_f6] at k; cases k)]
      · unfold pm_fw; rw [k]
        show Value.int (zM7 h1 o f) = Value.int (h1 o f)
        rw [zM7_lt ho (fun q => by rw [q.1, q.2, cz_f6] at k; cases k)]
      · unfold pm_fw; rw [k]
        show va_rf ((pm_rf (pm_tag o) o f).map _) = va_rf ((pm_rf (pm_tag o) o f).map _)
        have h4 := cz_f4 o ho f hf46 k
        cases r : pm_rf (pm_tag o) o f with
        | none => rfl
        | some z =>
          rw [r] at h4
          have hz : z < 66 := Nat.le_of_ble_eq_true h4
          show va_rf (some (zσ7 a σ _ z)) = va_rf (some (σ z))
          rw [zσ7_lt hz]
      · unfold pm_fw; rw [k]
        show va_rf ((pm_dec (zM7 h1 o f)).map _) = va_rf ((pm_dec (h1 o f)).map _)
        rcases cz_f5 o ho f hf46 k with ⟨rfl, rfl⟩ | ⟨rfl, rfl⟩
        · show va_rf ((pm_dec (if h1 34 2 = 0 then 0 else 100)).map _) = _
          by_cases z : h1 34 2 = 0
          · rw [if_pos z, z]; rfl
          · rw [if_neg z]
            unfold pm_dec
            rw [if_neg z, if_neg (by decide)]
            show va_rf (some (zσ7 a σ (σ (h1 34 2).toNatClampNeg) (Int32.toNatClampNeg 100))) = va_rf (some (σ (h1 34 2).toNatClampNeg))
            rw [show Int32.toNatClampNeg 100 = 100 by decide]
            rfl
        · rw [zM7_lt (by omega) (by omega), h19]; rfl
      · exact absurd k (by omega)
    rw [e]; exact hP
  · rw [pm_ce_arr t] at hP ⊢
    have hn := cz_f1 o ho (by rw [t]; decide)
    rw [show zM7 h1 o = h1 o from funext (fun j => zM7_lt ho (fun q => hn q.1))]
    exact hP
  · rw [cz_ce9 t] at hP ⊢
    refine va_at_q (fun j hj => ?_) hP
    rw [cz_f2 o ho t] at hj
    show some (σ (40 + 3 * j)) = some (zσ7 a σ _ (40 + 3 * j))
    rw [zσ7_lt (by omega)]
  · rw [cz_ce10 t] at hP ⊢
    refine va_at_q (fun j hj => ?_) hP
    rw [cz_f3 o ho t] at hj
    show some (σ (58 + 2 * j)) = some (zσ7 a σ _ (58 + 2 * j))
    rw [zσ7_lt (by omega)]
theorem zw7_get {a σ : Nat → Nat} {w : Nat} {cI cT cS : ClassId} {h1 : pm_H} : ∀ j, j < 26 → (zw7 cI a)[j]? = some (zσ7 a σ w (66 + j), pm_ce (zσ7 a σ w) cI cT cS (zM7 h1) (66 + j)) := by
  intro j hj
  match j, hj with
  | 0, _ => rfl
  | 1, _ => rfl
  | 2, _ => rfl
  | 3, _ => rfl
  | 4, _ => rfl
  | 5, _ => rfl
  | 6, _ => rfl
  | 7, _ => rfl
  | 8, _ => rfl
  | 9, _ => rfl
  | 10, _ => rfl
  | 11, _ => rfl
  | 12, _ => rfl
  | 13, _ => rfl
  | 14, _ => rfl
  | 15, _ => rfl
  | 16, _ => rfl
  | 17, _ => rfl
  | 18, _ => rfl
  | 19, _ => rfl
  | 20, _ => rfl
  | 21, _ => rfl
  | 22, _ => rfl
  | 23, _ => rfl
  | 24, _ => rfl
  | 25, _ => rfl
  | n + 26, hj => exact absurd hj (by omega)
