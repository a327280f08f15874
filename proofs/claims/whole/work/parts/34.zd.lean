/-! MATHEMATICS, 34: the trial of the class as a pure stair -/
def zcc (r : Nat) : Nat := if r = 0 then 21 else if r = 1 then 22 else if r = 2 then 23 else if r = 3 then 25 else if r = 4 then 26 else if r = 5 then 27 else if r = 6 then 28 else if r = 7 then 20 else if r = 8 then 29 else 19
def zcs (r j : Nat) : Nat := if r = 7 then 8 + j else if r = 9 then 2 + 2 * j else j
/-- which places count -/
def zrg (cnt r j : Nat) : Bool := if r < 3 then decide (j < 10) else if r < 7 then decide (j < cnt) else if r = 7 then decide (j < 3) else if r = 8 then decide (j < 10) else if r = 9 then decide (j < 2) else false
def vC (h : pm_H) : pm_H := fun r j => if zrg (h 20 8).toNatClampNeg r j = true then h (zcc r) (zcs r j) else 0
theorem vC_at {h : pm_H} {r j : Nat} (hr : zrg (h 20 8).toNatClampNeg r j = true) : vC h r j = h (zcc r) (zcs r j) := by unfold vC; rw [if_pos hr]
theorem zrg_10 {cnt r j : Nat} (hr : zrg cnt r j = true) : r < 10 := by
  unfold zrg at hr
  repeat' split at hr
  all_goals first | omega | cases hr
theorem zcc_inj : ∀ r, r < 10 → ∀ r', r' < 10 → zcc r = zcc r' → r = r' := by decide
theorem zcs_inj {r j j' : Nat} (h : zcs r j = zcs r j') : j = j' := by
  unfold zcs at h
  repeat' split at h
  all_goals omega
/-- a change of a place that counts -/
theorem vC_u {h : pm_H} {r j : Nat} {x : Int32} (hr : zrg (h 20 8).toNatClampNeg r j = true) (h7 : r ≠ 7 ∨ j ≠ 0) : vC (pm_u h (zcc r) (zcs r j) x) = pm_u (vC h) r j x := by
  have r10 := zrg_10 hr
  have hc : pm_u h (zcc r) (zcs r j) x 20 8 = h 20 8 := by
    rw [zb_u]
    by_cases e : (20 : Nat) = zcc r
    · have e7 : r = 7 := (zcc_inj r r10 7 (by omega) (by rw [← e]; rfl))
      subst e7
      rw [if_pos e, if_neg ?_, ← e]
      intro e2
      have : j = 0 := by
        have e3 : zcs 7 j = 8 + j := rfl
        omega
      omega
    · rw [if_neg e]
  funext r' j'
  unfold vC
  rw [hc]
  by_cases hr' : zrg (h 20 8).toNatClampNeg r' j' = true
  · rw [if_pos hr', zb_u, zb_u]
    have r10' := zrg_10 hr'
    by_cases e : r' = r
    · subst e
      rw [if_pos rfl, if_pos rfl]
      by_cases e2 : j' = j
      · subst e2; rw [if_pos rfl, if_pos rfl]
      · rw [if_neg e2, if_neg (fun q => e2 (zcs_inj q)), if_pos hr']
    · rw [if_neg e, if_neg (fun q => e (zcc_inj r' r10' r r10 q)), if_pos hr']
  · rw [if_neg hr', zb_u]
    by_cases e : r' = r
    · subst e
      rw [if_pos rfl]
      by_cases e2 : j' = j
      · subst e2; exact absurd hr hr'
      · rw [if_neg e2, if_neg hr']
    · rw [if_neg e, if_neg hr']
/-- what counts stays where only other places change -/
theorem vC_of {h h' : pm_H} (h1 : ∀ o, 20 ≤ o → o < 30 → h' o = h o) (h2 : h' 19 2 = h 19 2) (h3 : h' 19 4 = h 19 4) : vC h' = vC h := by
  funext r j
  unfold vC
  rw [h1 20 (by omega) (by omega)]
  by_cases hr : zrg (h 20 8).toNatClampNeg r j = true
  · rw [if_pos hr, if_pos hr]
    have r10 := zrg_10 hr
    by_cases e : r = 9
    · subst e
      have hj : j < 2 := by simpa [zrg] using hr
      rcases (show j = 0 ∨ j = 1 by omega) with rfl | rfl
      · exact h2
      · exact h3
    · have : ∀ r, r < 10 → r ≠ 9 → 20 ≤ zcc r ∧ zcc r < 30 := by decide
      rw [h1 (zcc r) (this r r10 e).1 (this r r10 e).2]
  · rw [if_neg hr, if_neg hr]
section
variable {h : pm_H} {j : Nat}
theorem vC_0 (hj : j < 10) : vC h 0 j = h 21 j := vC_at (by simp [zrg, hj])
theorem vC_1 (hj : j < 10) : vC h 1 j = h 22 j := vC_at (by simp [zrg, hj])
theorem vC_2 (hj : j < 10) : vC h 2 j = h 23 j := vC_at (by simp [zrg, hj])
theorem vC_3 (hj : j < (h 20 8).toNatClampNeg) : vC h 3 j = h 25 j := vC_at (by simp [zrg, hj])
theorem vC_4 (hj : j < (h 20 8).toNatClampNeg) : vC h 4 j = h 26 j := vC_at (by simp [zrg, hj])
theorem vC_5 (hj : j < (h 20 8).toNatClampNeg) : vC h 5 j = h 27 j := vC_at (by simp [zrg, hj])
theorem vC_6 (hj : j < (h 20 8).toNatClampNeg) : vC h 6 j = h 28 j := vC_at (by simp [zrg, hj])
theorem vC_70 : vC h 7 0 = h 20 8 := vC_at (by simp [zrg])
theorem vC_71 : vC h 7 1 = h 20 9 := vC_at (by simp [zrg])
theorem vC_72 : vC h 7 2 = h 20 10 := vC_at (by simp [zrg])
theorem vC_8 (hj : j < 10) : vC h 8 j = h 29 j := vC_at (by simp [zrg, hj])
theorem vC_90 : vC h 9 0 = h 19 2 := vC_at (by simp [zrg])
theorem vC_91 : vC h 9 1 = h 19 4 := vC_at (by simp [zrg])
theorem vC_u1 {x : Int32} (hj : j < 10) : vC (pm_u h 22 j x) = pm_u (vC h) 1 j x := vC_u (r := 1) (by simp [zrg, hj]) (Or.inl (by omega))
theorem vC_u2 {x : Int32} (hj : j < 10) : vC (pm_u h 23 j x) = pm_u (vC h) 2 j x := vC_u (r := 2) (by simp [zrg, hj]) (Or.inl (by omega))
theorem vC_u4 {x : Int32} (hj : j < (h 20 8).toNatClampNeg) : vC (pm_u h 26 j x) = pm_u (vC h) 4 j x := vC_u (r := 4) (by simp [zrg, hj]) (Or.inl (by omega))
theorem vC_u6 {x : Int32} (hj : j < (h 20 8).toNatClampNeg) : vC (pm_u h 28 j x) = pm_u (vC h) 6 j x := vC_u (r := 6) (by simp [zrg, hj]) (Or.inl (by omega))
theorem vC_u71 {x : Int32} : vC (pm_u h 20 9 x) = pm_u (vC h) 7 1 x := vC_u (r := 7) (j := 1) (by simp [zrg]) (Or.inr (by omega))
theorem vC_u72 {x : Int32} : vC (pm_u h 20 10 x) = pm_u (vC h) 7 2 x := vC_u (r := 7) (j := 2) (by simp [zrg]) (Or.inr (by omega))
theorem vC_u8 {x : Int32} (hj : j < 10) : vC (pm_u h 29 j x) = pm_u (vC h) 8 j x := vC_u (r := 8) (by simp [zrg, hj]) (Or.inl (by omega))
theorem vC_u90 {x : Int32} : vC (pm_u h 19 2 x) = pm_u (vC h) 9 0 x := vC_u (r := 9) (j := 0) (by simp [zrg]) (Or.inl (by omega))
theorem vC_u91 {x : Int32} : vC (pm_u h 19 4 x) = pm_u (vC h) 9 1 x := vC_u (r := 9) (j := 1) (by simp [zrg]) (Or.inl (by omega))
theorem vC_uo {o : Nat} {x : Int32} (ho : o < 19 ∨ 29 < o) : vC (pm_u h o j x) = vC h := vC_of (fun o' a b => zb_un (by omega)) (by rw [zb_un (by omega)]) (by rw [zb_un (by omega)])
theorem vC_u193 {x : Int32} : vC (pm_u h 19 3 x) = vC h := vC_of (fun o' a b => zb_un (by omega)) (by rw [zb_uj (by omega)]) (by rw [zb_uj (by omega)])
end
/-- what a trial's part may change: cells 19 to 33, but which text, how many classes, minding -/
def fC (h h' : pm_H) : Prop := (∀ o, (o < 19 ∨ 33 < o ∨ o = 24) → h' o = h o) ∧ h' 19 8 = h 19 8 ∧ h' 19 5 = h 19 5 ∧ h' 20 8 = h 20 8 ∧ h' 20 11 = h 20 11
theorem fC_rfl {h : pm_H} : fC h h := ⟨fun _ _ => rfl, rfl, rfl, rfl, rfl⟩
theorem fC_trans {a b c : pm_H} (h1 : fC a b) (h2 : fC b c) : fC a c := ⟨fun o ho => (h2.1 o ho).trans (h1.1 o ho), h2.2.1.trans h1.2.1, h2.2.2.1.trans h1.2.2.1, h2.2.2.2.1.trans h1.2.2.2.1, h2.2.2.2.2.trans h1.2.2.2.2⟩
theorem fC_tx {h h' : pm_H} {k : Nat} {R : Nat → List Int32} (H : fC h h') (hT : zTx h k R) : zTx h' k R := zTx_of (H.1 _ (by omega)) (H.1 _ (by omega)) hT
theorem fC_scr {h h' : pm_H} (H : ∀ o, o ≠ 32 → o ≠ 33 → h' o = h o) : fC h h' := ⟨fun o ho => H o (by omega) (by omega), by rw [H 19 (by omega) (by omega)], by rw [H 19 (by omega) (by omega)], by rw [H 20 (by omega) (by omega)], by rw [H 20 (by omega) (by omega)]⟩
theorem fC_u {h : pm_H} {o j : Nat} {x : Int32} (h1 : 19 ≤ o) (h2 : o ≤ 33 ∧ o ≠ 24) (h3 : o ≠ 19 ∨ (j ≠ 8 ∧ j ≠ 5)) (h4 : o ≠ 20 ∨ (j ≠ 8 ∧ j ≠ 11)) : fC h (pm_u h o j x) := by
  refine ⟨fun o' ho => zb_un (by omega), ?_, ?_, ?_, ?_⟩
  · rw [zb_u]
    by_cases e : (19 : Nat) = o
    · rw [if_pos e, if_neg (by omega), e]
    · rw [if_neg e]
  · rw [zb_u]
    by_cases e : (19 : Nat) = o
    · rw [if_pos e, if_neg (by omega), e]
    · rw [if_neg e]
  · rw [zb_u]
    by_cases e : (20 : Nat) = o
    · rw [if_pos e, if_neg (by omega), e]
    · rw [if_neg e]
  · rw [zb_u]
    by_cases e : (20 : Nat) = o
    · rw [if_pos e, if_neg (by omega), e]
    · rw [if_neg e]
theorem zBg_0 {R : Nat → List Int32} : nI (zBg R 0) = 0 := nI_0
set_option maxHeartbeats 4000000 in
theorem sp_value {k which : Nat} {f : Nat → Int32} {h : pm_H} {R : Nat → List Int32} {Q : Int32 → pm_H → Prop} (hk : k < 6) (hw : which < 3) (hR : zWf R) (hT : zTx h k R) (hf : ∀ m, m < 6 → h 32 m = f m) (hq : ∀ h', (∀ o, o ≠ 33 → h' o = h o) → Q ((zEv f (R which) []).headD 0) h') : wp_X1_value (40 + 3 * k) (nI which) h Q := by
  obtain ⟨A1, A2, A3, A4, A5⟩ := zAt4 k hk 1 (by omega)
  obtain ⟨B1, B2, B3, B4, B5⟩ := zAt4 k hk 4 (by omega)
  have e3 : (3 : Int32) = nI 3 := by decide
  have hb := zBg_le hR (w := which + 1) (by omega)
  have hb' : zBg R (which + 1) = zBg R which + (R which).length := rfl
  have main : ∃ n, wl_X1_value_24 (40 + 3 * k) (nI which) (fun x h => pm_lt 0 x (Q (h 33 0) h) (Q 0 h)) Q n 0 (nI (zBg R which)) h := by
    refine ⟨(R which).length + 1, ?_⟩
    have e0 : (0 : Int32) = nI ([] : List Int32).length := by decide
    rw [e0]
    refine sp_valueL hk hw (f := f) (R which) (zBg R which) [] h (hR.1 which hw) (by simp) (by omega) (by rw [(hT which hw).1]; rfl) (hT which hw).2 hf trivial (fun h' e hS hl => ?_)
    rw [zb_lt, if_pos (by decide)]
    have := hq h' e
    match hz : zEv f (R which) [] with
    | [] => rw [hz] at hl; simp at hl
    | v :: r =>
      rw [hz] at hl hS this
      have hr : r = [] := List.length_eq_zero_iff.mp (by simpa using hl)
      subst hr
      have h0 : h' 33 0 = v := hS.1
      rw [h0]
      exact this
  unfold wp_X1_value wp_X4_startOf
  simp only [zb_lt, A1, B1, B3, B5, zb_ibt, pm_op_eq]
  rw [if_neg (by rw [show (0 : Int32) = nI 0 from zb_c0]; exact nI_nlt (by omega) (by omega)), e3, if_pos (nI_lt hw (by omega))]
  rcases (show which = 0 ∨ ∃ w, which = w + 1 by cases which with | zero => exact Or.inl rfl | succ w => exact Or.inr ⟨w, rfl⟩) with rfl | ⟨w, rfl⟩
  · rw [if_neg (by decide)]
    rw [zBg_0] at main
    exact main
  · rw [if_pos (by rw [zb_c0]; exact nI_lt (by omega) (by omega)), nI_pred, zb_ib (zb_in (by omega) (by omega)), nI_clamp (by omega), (hT w (by omega)).1]
    exact main
set_option maxHeartbeats 4000000 in
theorem sp_reckon {k which s : Nat} {h : pm_H} {R : Nat → List Int32} {left bound : Int32} {Q : Int32 → pm_H → Prop} (hk : k < 6) (hw : which < 3) (hs : s < 10) (hR : zWf R) (hT : zTx h k R) (h8 : h 19 8 = nI (40 + 3 * k)) (hq : ∀ h', (∀ o, o ≠ 32 → o ≠ 33 → h' o = h o) → Q (zWo R which s left bound (vC h)) h') : wp_X5_reckon (nI which) (nI s) left bound h Q := by
  have ed : pm_dec (h 19 8) = some (40 + 3 * k) := by
    unfold pm_dec
    rw [h8, if_neg (nI_ne0 (by omega) (by omega)), nI_clamp (by omega)]
  have e9 : (9 : Int32) = nI 9 := by decide
  unfold wp_X5_reckon
  simp only [pm_op_eq, zb_lt, zb_in (j := s) (n := 10) hs (by omega), zb_ibt, ed, pm_ob, nI_clamp (n := s) (by omega), nI_1]
  by_cases h9 : s < 9
  · rw [e9, if_pos (nI_lt h9 (by omega)), zb_ib (zb_in (by omega) (by omega)), nI_clamp (n := s + 1) (by omega)]
    refine sp_value (f := zSe (vC h) s left) hk hw hR (zTx_of (by simp only [zb_un (o := 32) (o' := 40 + 3 * k + 1) (by omega)]) (by simp only [zb_un (o := 32) (o' := 40 + 3 * k + 2) (by omega)]) hT) ?_ ?_
    · intro m hm
      rcases (show m = 0 ∨ m = 1 ∨ m = 2 ∨ m = 3 ∨ m = 4 ∨ m = 5 by omega) with rfl | rfl | rfl | rfl | rfl | rfl <;> simp [zb_u, zSe, vC_2 hs, vC_1 hs, vC_71, h9, vC_2 (j := s + 1) (h := h) (by omega)]
    · intro h' e
      refine hq h' (fun o h2 h3 => ?_)
      rw [e o h3]
      simp only [zb_un h2]
  · rw [e9, if_neg (nI_nlt (by omega) (by omega))]
    refine sp_value (f := zSe (vC h) s left) hk hw hR (zTx_of (by simp only [zb_un (o := 32) (o' := 40 + 3 * k + 1) (by omega)]) (by simp only [zb_un (o := 32) (o' := 40 + 3 * k + 2) (by omega)]) hT) ?_ ?_
    · intro m hm
      rcases (show m = 0 ∨ m = 1 ∨ m = 2 ∨ m = 3 ∨ m = 4 ∨ m = 5 by omega) with rfl | rfl | rfl | rfl | rfl | rfl <;> simp [zb_u, zSe, vC_2 hs, vC_1 hs, vC_71, h9]
    · intro h' e
      refine hq h' (fun o h2 h3 => ?_)
      rw [e o h3]
      simp only [zb_un h2]
