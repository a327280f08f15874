/-! MATHEMATICS, 33: texts, reckoned by the class -/
theorem zb_ibt {A : Prop} : pm_ib true A = A := rfl
/-- a stack in a row of numbers -/
def zStk (f : Nat → Int32) : List Int32 → Prop
  | [] => True
  | a :: r => f r.length = a ∧ zStk f r
theorem zStk_upd {f : Nat → Int32} {k : Nat} {x : Int32} : ∀ {st : List Int32}, st.length ≤ k → zStk f st → zStk (upd f k x) st
  | [], _, _ => trivial
  | a :: r, hk, h => by
    refine ⟨?_, zStk_upd (by simp at hk; omega) h.2⟩
    unfold upd
    rw [if_neg (by simp at hk; omega)]
    exact h.1
theorem zStk_put {f : Nat → Int32} {x : Int32} {st : List Int32} (h : zStk f st) : zStk (upd f st.length x) (x :: st) := ⟨by unfold upd; rw [if_pos rfl], zStk_upd (Nat.le_refl _) h⟩
/-- where the rules of a text begin -/
def zBg (R : Nat → List Int32) : Nat → Nat
  | 0 => 0
  | w + 1 => zBg R w + (R w).length
def zWf (R : Nat → List Int32) : Prop := (∀ w, w < 3 → zW (R w) 0 1) ∧ zBg R 3 ≤ 160
theorem zBg_le {R : Nat → List Int32} (h : zWf R) {w : Nat} (hw : w ≤ 3) : zBg R w ≤ 160 := by
  have h3 := h.2
  have e3 : zBg R 3 = zBg R 2 + (R 2).length := rfl
  have e2 : zBg R 2 = zBg R 1 + (R 1).length := rfl
  have e1 : zBg R 1 = zBg R 0 + (R 0).length := rfl
  rcases (show w = 0 ∨ w = 1 ∨ w = 2 ∨ w = 3 by omega) with rfl | rfl | rfl | rfl <;> omega
/-- the class's text k holds R -/
def zTx (h : pm_H) (k : Nat) (R : Nat → List Int32) : Prop := ∀ w, w < 3 → h (40 + 3 * k + 2) w = nI (zBg R (w + 1)) ∧ ∀ i, i < (R w).length → h (40 + 3 * k + 1) (zBg R w + i) = (R w).getD i 0
theorem zTx_of {h h' : pm_H} {k : Nat} {R : Nat → List Int32} (e1 : h' (40 + 3 * k + 1) = h (40 + 3 * k + 1)) (e2 : h' (40 + 3 * k + 2) = h (40 + 3 * k + 2)) (H : zTx h k R) : zTx h' k R := by
  intro w hw
  rw [e1, e2]
  exact H w hw
theorem zAt4 : ∀ k, k < 6 → ∀ own, own < 9 → pm_at own (40 + 3 * k) 4 = true ∧ pm_at own (40 + 3 * k + 1) 8 = true ∧ pm_at own (40 + 3 * k + 2) 8 = true ∧ pm_len (40 + 3 * k + 1) = 160 ∧ pm_len (40 + 3 * k + 2) = 3 := by decide +kernel
theorem zb_name {w : Int32} (h0 : w < 0) (h7 : -7 < w) : zB 0 5 (-1 - w) := by
  have e1 : (-1 : Int32).toInt = -1 := by decide
  have e7 : (-7 : Int32).toInt = -7 := by decide
  rw [zb_tlt] at h0 h7
  rw [e7] at h7
  rw [Int32.toInt_zero] at h0
  have e : (-1 - w).toInt = -1 - w.toInt := by rw [zb_tsub (by omega) (by omega), e1]
  unfold zB
  rw [e]
  omega
theorem sp_nameValue {w : Int32} {h : pm_H} {Q : Int32 → pm_H → Prop} (h0 : w < 0) (h7 : -7 < w) (hq : Q (h 32 (-1 - w).toNatClampNeg) h) : wp_X1_nameValue w h Q := by
  have hB := zb_name h0 h7
  have e6 : (6 : Int32).toInt = 6 := by decide
  unfold wp_X1_nameValue
  simp only [pm_op_eq, zb_lt]
  generalize -1 - w = y at hB hq ⊢
  unfold zB at hB
  rw [if_neg (by rw [zb_tlt, Int32.toInt_zero]; omega), if_pos (by rw [zb_tlt, e6]; omega), zb_ib (zb_in' (n := 6) hB (by omega))]
  exact hq
theorem sp_joined {a w b : Int32} {h : pm_H} {Q : Int32 → pm_H → Prop} (hq : Q (zJo a w b) h) : wp_X1_joined a w b h Q := by
  unfold wp_X1_joined
  unfold zJo at hq
  simp only [pm_op_eq, zb_lt, zb_eq]
  repeat' split
  all_goals simp_all
set_option maxHeartbeats 4000000 in
theorem sp_valueL {k which : Nat} (hk : k < 6) (hw : which < 3) {f : Nat → Int32} {K Q : Int32 → pm_H → Prop} : ∀ (c : List Int32) (i : Nat) (st : List Int32) (h : pm_H), zW c st.length 1 → st.length ≤ 60 → i + c.length ≤ 160 → h (40 + 3 * k + 2) which = nI (i + c.length) → (∀ j, j < c.length → h (40 + 3 * k + 1) (i + j) = c.getD j 0) → (∀ m, m < 6 → h 32 m = f m) → zStk (h 33) st → (∀ h', (∀ o, o ≠ 33 → h' o = h o) → zStk (h' 33) (zEv f c st) → (zEv f c st).length = 1 → K 1 h') → wl_X1_value_24 (40 + 3 * k) (nI which) K Q (c.length + 1) (nI st.length) (nI i) h
  | [], i, st, h, hW, hst, hi, he, hc, hf, hS, hK => by
    obtain ⟨A1, A2, A3, A4, A5⟩ := zAt4 k hk 1 (by omega)
    unfold wl_X1_value_24
    simp only [A1, A2, A3, A4, A5, zb_ibt, zb_in (j := which) (n := 3) hw (by omega), nI_clamp (n := which) (by omega), he, zb_lt]
    rw [if_neg (nI_nlt (by simp) (by simp at hi ⊢; omega))]
    have e : st.length = 1 := hW
    rw [e, ← zb_c1]
    exact hK h (fun _ _ => rfl) hS e
  | w :: c, i, st, h, hW, hst, hi, he, hc, hf, hS, hK => by
    obtain ⟨A1, A2, A3, A4, A5⟩ := zAt4 k hk 1 (by omega)
    have ew : h (40 + 3 * k + 1) i = w := by have := hc 0 (by simp); simpa using this
    simp only [List.length_cons] at hi he
    have hc' : ∀ (h' : pm_H), (∀ o, o ≠ 33 → h' o = h o) → ∀ j, j < c.length → h' (40 + 3 * k + 1) (i + 1 + j) = c.getD j 0 := by
      intro h' e j hj
      rw [e _ (by omega)]
      have := hc (j + 1) (by simp; omega)
      rw [show i + 1 + j = i + (j + 1) by omega, this]
      simp
    have he' : ∀ (h' : pm_H), (∀ o, o ≠ 33 → h' o = h o) → h' (40 + 3 * k + 2) which = nI (i + 1 + c.length) := by
      intro h' e
      rw [e _ (by omega), he]
      congr 1
      omega
    have go : ∀ (st' : List Int32) (h' : pm_H), (∀ o, o ≠ 33 → h' o = h o) → st' = zSt f w st → zW c st'.length 1 → st'.length ≤ 60 → zStk (h' 33) st' → wl_X1_value_24 (40 + 3 * k) (nI which) K Q (c.length + 1) (nI st'.length) (nI i + 1) h' := by
      intro st' h' e es hW' hl hS'
      rw [nI_1]
      refine sp_valueL hk hw (f := f) c (i + 1) st' h' hW' hl (by omega) (he' h' e) (hc' h' e) (fun m hm => by rw [e 32 (by omega)]; exact hf m hm) hS' (fun h2 e2 hS2 hl2 => ?_)
      subst es
      exact hK h2 (fun o ho => (e2 o ho).trans (e o ho)) hS2 hl2
    unfold wl_X1_value_24
    simp only [A1, A2, A3, A4, A5, zb_ibt, zb_in (j := which) (n := 3) hw (by omega), nI_clamp (n := which) (by omega), he, zb_lt, zb_eq, zb_in (j := i) (n := 160) (by omega) (by omega), nI_clamp (n := i) (by omega), ew, pm_op_eq]
    rw [if_pos (nI_lt (by omega) (by omega))]
    rcases hW with ⟨q1, q2, q3, q4⟩ | ⟨q1, q2, q3⟩ | ⟨q1, q2, q3, q4⟩
    · rw [if_pos q1]
      have e64 : (64 : Int32) = nI 64 := by decide
      rw [e64, if_pos (nI_lt (by omega) (by omega))]
      by_cases w0 : w < 0
      · rw [if_pos w0]
        refine sp_nameValue w0 q2 ?_
        rw [zb_ib (zb_in (by omega) (by omega)), nI_1, nI_clamp (by omega)]
        refine go (h 32 (-1 - w).toNatClampNeg :: st) _ (fun o ho => zb_un ho) ?_ q4 (by simp; omega) ?_
        · unfold zSt
          rw [if_pos q1, if_pos w0, hf]
          have := zB_zi (b := 5) (zb_name w0 q2)
          generalize (-1 - w).toNatClampNeg = y at this ⊢
          omega
        · rw [zb_ur]; exact zStk_put hS
      · rw [if_neg w0]
        rw [zb_ib (zb_in (by omega) (by omega)), nI_1, nI_clamp (by omega)]
        refine go (w :: st) _ (fun o ho => zb_un ho) ?_ q4 (by simp; omega) ?_
        · unfold zSt
          rw [if_pos q1, if_neg w0]
        · rw [zb_ur]; exact zStk_put hS
    · obtain ⟨a, r, rfl⟩ : ∃ a r, st = a :: r := by
        cases st with
        | nil => simp at q2
        | cons a r => exact ⟨a, r, rfl⟩
      have hlt : ¬ (-10 < w) := by rcases q1 with rfl | rfl <;> decide
      rw [if_neg hlt]
      have n1 : ¬ (nI (a :: r).length < 1) := by rw [zb_c1]; exact nI_nlt (by simp) (by omega)
      have ep : nI (a :: r).length - 1 = nI r.length := by rw [List.length_cons]; exact nI_pred _
      simp only [if_neg n1, ep]
      rw [List.length_cons] at hst
      have hin : pm_in (nI r.length) 64 = true := zb_in (by omega) (by omega)
      simp only [hin, zb_ibt, nI_clamp (n := r.length) (by omega), hS.1]
      rcases q1 with rfl | rfl
      · rw [if_pos rfl, if_neg (by decide)]
        by_cases a0 : a = 0
        · rw [if_pos a0]
          refine go (1 :: r) _ (fun o ho => zb_un ho) ?_ q3 (by simpa using hst) ?_
          · unfold zSt; rw [if_neg hlt, if_pos rfl]; simp [a0]
          · rw [zb_ur]; exact zStk_put hS.2
        · rw [if_neg a0]
          refine go (0 :: r) _ (fun o ho => zb_un ho) ?_ q3 (by simpa using hst) ?_
          · unfold zSt; rw [if_neg hlt, if_pos rfl]; simp [a0]
          · rw [zb_ur]; exact zStk_put hS.2
      · rw [if_neg (by decide), if_pos rfl, if_pos rfl]
        refine go ((-a) :: r) _ (fun o ho => zb_un ho) ?_ q3 (by simpa using hst) ?_
        · unfold zSt; rw [if_neg hlt, if_neg (by decide), if_pos rfl]
        · rw [zb_ur]; exact zStk_put hS.2
    · obtain ⟨b, a, r, rfl⟩ : ∃ b a r, st = b :: a :: r := by
        match st, q3 with
        | b :: a :: r, _ => exact ⟨b, a, r, rfl⟩
      have hlt : ¬ (-10 < w) := by
        rw [zb_tlt] at q1 ⊢
        have e1 : (-11 : Int32).toInt = -11 := by decide
        have e2 : (-10 : Int32).toInt = -10 := by decide
        omega
      have h10 : w ≠ -10 := by rintro rfl; exact absurd q1 (by decide)
      have h11 : w ≠ -11 := by rintro rfl; exact absurd q1 (by decide)
      rw [if_neg hlt, if_neg h10, if_neg h11]
      have e2 : (2 : Int32) = nI 2 := by decide
      have n1 : ¬ (nI (b :: a :: r).length < 2) := by rw [e2]; exact nI_nlt (by simp) (by omega)
      have ep : nI (b :: a :: r).length - 1 = nI (r.length + 1) := by rw [List.length_cons]; exact nI_pred _
      have ep2 : nI (b :: a :: r).length - 2 = nI r.length := by
        rw [e2]
        refine zb_teq.mpr ?_
        rw [List.length_cons, List.length_cons] at hst ⊢
        rw [zb_tsub (by rw [nI_toInt (by omega), nI_toInt (by omega)]; omega) (by rw [nI_toInt (by omega), nI_toInt (by omega)]; omega), nI_toInt (by omega), nI_toInt (by omega), nI_toInt (by omega)]
        omega
      have ep3 : nI (b :: a :: r).length + (-1) = nI (r.length + 1) := by rw [← ep]; exact (Int32.sub_eq_add_neg _ _).symm
      simp only [if_neg n1, ep, ep2, ep3]
      rw [List.length_cons, List.length_cons] at hst
      have hin : pm_in (nI r.length) 64 = true := zb_in (by omega) (by omega)
      have hin1 : pm_in (nI (r.length + 1)) 64 = true := zb_in (by omega) (by omega)
      have hb : h 33 (r.length + 1) = b := hS.1
      have ha : h 33 r.length = a := hS.2.1
      simp only [hin, hin1, zb_ibt, nI_clamp (n := r.length) (by omega), nI_clamp (n := r.length + 1) (by omega), ha, hb]
      refine sp_joined ?_
      refine go (zJo a w b :: r) _ (fun o ho => zb_un ho) ?_ q4 (by simp; omega) ?_
      · unfold zSt; rw [if_neg hlt, if_neg h10, if_neg h11]
      · rw [zb_ur]; exact zStk_put hS.2.2
