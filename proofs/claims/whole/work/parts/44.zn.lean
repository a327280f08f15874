/-! MATHEMATICS, 44: texts, reckoned by the reference (by program: wip/whole/gen44.py) -/
/-- a word of the class's code as the reference has it -/
def zTw (w : Int32) : Int32 := if w = -10 then -13 else if w = -11 then -19 else if w = -12 then -16 else if w = -13 then -17 else if w = -14 then -18 else if w = -15 then -14 else if w = -16 then -15 else if w = -17 then -12 else if w = -18 then -11 else w
/-- the reference's text k holds R -/
def zTm (h : pm_H) (k : Nat) (R : Nat → List Int32) : Prop := ∀ w, w < 3 → h 77 (4 * k + w) = nI (zBg R w) ∧ h 77 (4 * k + w + 1) = nI (zBg R (w + 1)) ∧ ∀ i, i < (R w).length → h 76 (170 * k + (zBg R w + i)) = zTw ((R w).getD i 0)
theorem zTm_of {h h' : pm_H} {k : Nat} {R : Nat → List Int32} (e1 : h' 76 = h 76) (e2 : h' 77 = h 77) (H : zTm h k R) : zTm h' k R := by
  intro w hw
  rw [e1, e2]
  exact H w hw
theorem zb_names {w : Int32} (h0 : w < 0) (h7 : -7 < w) : w = -1 ∨ w = -2 ∨ w = -3 ∨ w = -4 ∨ w = -5 ∨ w = -6 := by
  have e7 : (-7 : Int32).toInt = -7 := by decide
  rw [zb_tlt, Int32.toInt_zero] at h0
  rw [zb_tlt, e7] at h7
  simp only [zb_teq]
  have a1 : (-1 : Int32).toInt = -1 := by decide
  have a2 : (-2 : Int32).toInt = -2 := by decide
  have a3 : (-3 : Int32).toInt = -3 := by decide
  have a4 : (-4 : Int32).toInt = -4 := by decide
  have a5 : (-5 : Int32).toInt = -5 := by decide
  have a6 : (-6 : Int32).toInt = -6 := by decide
  rw [a1, a2, a3, a4, a5, a6]
  omega
theorem zb_signs {w : Int32} (h0 : w < -11) (h7 : -19 < w) : w = -12 ∨ w = -13 ∨ w = -14 ∨ w = -15 ∨ w = -16 ∨ w = -17 ∨ w = -18 := by
  have e7 : (-19 : Int32).toInt = -19 := by decide
  have e1 : (-11 : Int32).toInt = -11 := by decide
  rw [zb_tlt, e1] at h0
  rw [zb_tlt, e7] at h7
  simp only [zb_teq]
  have a1 : (-12 : Int32).toInt = -12 := by decide
  have a2 : (-13 : Int32).toInt = -13 := by decide
  have a3 : (-14 : Int32).toInt = -14 := by decide
  have a4 : (-15 : Int32).toInt = -15 := by decide
  have a5 : (-16 : Int32).toInt = -16 := by decide
  have a6 : (-17 : Int32).toInt = -17 := by decide
  have a7 : (-18 : Int32).toInt = -18 := by decide
  rw [a1, a2, a3, a4, a5, a6, a7]
  omega
theorem zTw_pos {w : Int32} (h : ¬ w < 0) : zTw w = w := by
  unfold zTw
  rw [if_neg (by rintro rfl; exact h (by decide)), if_neg (by rintro rfl; exact h (by decide)), if_neg (by rintro rfl; exact h (by decide)), if_neg (by rintro rfl; exact h (by decide)), if_neg (by rintro rfl; exact h (by decide)), if_neg (by rintro rfl; exact h (by decide)), if_neg (by rintro rfl; exact h (by decide)), if_neg (by rintro rfl; exact h (by decide)), if_neg (by rintro rfl; exact h (by decide))]
theorem zb_l1 (n : Nat) : nI (n + 1) + (-1) = nI n := by rw [← Int32.sub_eq_add_neg]; exact nI_pred n
theorem zb_l2 (n : Nat) : nI (n + 1 + 1) - 2 = nI n := by
  have e : nI (n + 1 + 1) - 2 = nI (n + 1 + 1) - 1 - 1 := by rw [Int32.sub_sub]; rfl
  rw [e, nI_pred, nI_pred]
set_option maxHeartbeats 8000000 in
theorem sp_worthL {k s : Nat} (hk : k < 6) (hs : s < 10) {f : Nat → Int32} {left bound : Int32} {E : Nat} (hE : E ≤ 160) {K : pm_H → Prop} {Q : Int32 → pm_H → Prop} (f0 : f 0 = nI s) (f5 : f 5 = left) (f3' : ¬ s < 9 → f 3 = 0) : ∀ (c : List Int32) (i : Nat) (st : List Int32) (h : pm_H), zW c st.length 1 → st.length ≤ 60 → i + c.length = E → h 66 14 = nI k → (∀ j, j < c.length → h 76 (170 * k + (i + j)) = zTw (c.getD j 0)) → (h 69 s = f 1 ∧ h 66 9 = f 2 ∧ (s < 9 → h 69 (s + 1) = f 3) ∧ h 68 s = f 4) → zStk (h 78) st → (∀ h', (∀ o, o ≠ 78 → h' o = h o) → zStk (h' 78) (zEv f c st) → (zEv f c st).length = 1 → K h') → wl_X7_worth_35 (nI s) left bound (nI E) K Q (c.length + 1) (nI st.length) (nI i) h
  | [], i, st, h, hW, hst, hi, he, hc, hf, hS, hK => by
    unfold wl_X7_worth_35
    rw [zb_lt, if_neg (nI_nlt (by simp at hi; omega) (by simp at hi ⊢; omega))]
    exact hK h (fun _ _ => rfl) hS hW
  | w :: c, i, st, h, hW, hst, hi, he, hc, hf, hS, hK => by
    obtain ⟨f1, f2, f3, f4⟩ := hf
    have ew : h 76 (170 * k + i) = zTw w := by have := hc 0 (by simp); simpa using this
    simp only [List.length_cons] at hi
    have e170 : (170 : Int32) * nI k + nI i = nI (170 * k + i) := by
      have e1 : (170 : Int32) = nI 170 := by decide
      refine zb_teq.mpr ?_
      have a1 : (nI 170 * nI k).toInt = 170 * (k : Int) := by
        rw [zb_tmul (by rw [nI_toInt (by omega), nI_toInt (by omega)]; omega) (by rw [nI_toInt (by omega), nI_toInt (by omega)]; omega), nI_toInt (by omega), nI_toInt (by omega)]
        rfl
      rw [e1, zb_tadd (by rw [a1, nI_toInt (by omega)]; omega) (by rw [a1, nI_toInt (by omega)]; omega), a1, nI_toInt (by omega), nI_toInt (by omega)]
      omega
    have hc' : ∀ (h' : pm_H), (∀ o, o ≠ 78 → h' o = h o) → ∀ j, j < c.length → h' 76 (170 * k + (i + 1 + j)) = zTw (c.getD j 0) := by
      intro h' e j hj
      rw [e _ (by omega)]
      have := hc (j + 1) (by simp; omega)
      rw [show i + 1 + j = i + (j + 1) by omega, this]
      simp
    have go : ∀ (st' : List Int32) (h' : pm_H), (∀ o, o ≠ 78 → h' o = h o) → st' = zSt f w st → zW c st'.length 1 → st'.length ≤ 60 → zStk (h' 78) st' → wl_X7_worth_35 (nI s) left bound (nI E) K Q (c.length + 1) (nI st'.length) (nI (i + 1)) h' := by
      intro st' h' e es hW' hl hS'
      refine sp_worthL hk hs (f := f) hE f0 f5 f3' c (i + 1) st' h' hW' hl (by omega) (by rw [e 66 (by omega)]; exact he) (hc' h' e) ⟨by rw [e 69 (by omega)]; exact f1, by rw [e 66 (by omega)]; exact f2, fun q => by rw [e 69 (by omega)]; exact f3 q, by rw [e 68 (by omega)]; exact f4⟩ hS' (fun h2 e2 hS2 hl2 => ?_)
      subst es
      exact hK h2 (fun o ho => (e2 o ho).trans (e o ho)) hS2 hl2
    unfold wl_X7_worth_35
    simp only [pm_op_eq, he, e170, nI_1, nI_clamp (n := 170 * k + i) (by omega), ew, zb_lt, zb_eq, zb_in (j := 170 * k + i) (n := 1020) (by omega) (by omega), zb_ibt, zb_in (j := s) (n := 10) hs (by omega), nI_clamp (n := s) (by omega)]
    rw [if_pos (nI_lt (by omega) (by omega))]
    rcases hW with ⟨q1, q2, q3, q4⟩ | ⟨q1, q2, q3⟩ | ⟨q1, q2, q3, q4⟩
    · have hin : pm_in (nI st.length) 170 = true := zb_in (by omega) (by omega)
      simp only [hin, zb_ibt, nI_clamp (n := st.length) (by omega)]
      by_cases w0 : w < 0
      · have fz : ∀ x, f (-1 - w).toNatClampNeg = x → (x :: st) = zSt f w st := by
          intro x hx
          unfold zSt
          rw [if_pos q1, if_pos w0, hx]
        rcases zb_names w0 q2 with rfl | rfl | rfl | rfl | rfl | rfl
        · rw [if_pos (show zTw (-1) < 0 by decide), if_pos (show (-7 : Int32) < zTw (-1) by decide), if_pos (show zTw (-1) = -1 by decide)]
          exact go (nI s :: st) _ (fun o ho => zb_un ho) (fz _ (f0)) q4 (by simp; omega) (by rw [zb_ur]; exact zStk_put hS)
        · rw [if_pos (show zTw (-2) < 0 by decide), if_pos (show (-7 : Int32) < zTw (-2) by decide), if_neg (show ¬ zTw (-2) = -1 by decide), if_pos (show zTw (-2) = -2 by decide)]
          exact go (h 69 s :: st) _ (fun o ho => zb_un ho) (fz _ (f1.symm)) q4 (by simp; omega) (by rw [zb_ur]; exact zStk_put hS)
        · rw [if_pos (show zTw (-3) < 0 by decide), if_pos (show (-7 : Int32) < zTw (-3) by decide), if_neg (show ¬ zTw (-3) = -1 by decide), if_neg (show ¬ zTw (-3) = -2 by decide), if_pos (show zTw (-3) = -3 by decide)]
          exact go (h 66 9 :: st) _ (fun o ho => zb_un ho) (fz _ (f2.symm)) q4 (by simp; omega) (by rw [zb_ur]; exact zStk_put hS)
        · rw [if_pos (show zTw (-4) < 0 by decide), if_pos (show (-7 : Int32) < zTw (-4) by decide), if_neg (show ¬ zTw (-4) = -1 by decide), if_neg (show ¬ zTw (-4) = -2 by decide), if_neg (show ¬ zTw (-4) = -3 by decide), if_pos (show zTw (-4) = -4 by decide)]
          by_cases h9 : s < 9
          · rw [show (9 : Int32) = nI 9 by decide, if_pos (nI_lt h9 (by omega)), zb_ib (zb_in (by omega) (by omega)), nI_clamp (n := s + 1) (by omega)]
            exact go (h 69 (s + 1) :: st) _ (fun o ho => zb_un ho) (fz _ (f3 h9).symm) q4 (by simp; omega) (by rw [zb_ur]; exact zStk_put hS)
          · rw [show (9 : Int32) = nI 9 by decide, if_neg (nI_nlt (by omega) (by omega))]
            exact go (0 :: st) _ (fun o ho => zb_un ho) (fz _ (f3' h9)) q4 (by simp; omega) (by rw [zb_ur]; exact zStk_put hS)
        · rw [if_pos (show zTw (-5) < 0 by decide), if_pos (show (-7 : Int32) < zTw (-5) by decide), if_neg (show ¬ zTw (-5) = -1 by decide), if_neg (show ¬ zTw (-5) = -2 by decide), if_neg (show ¬ zTw (-5) = -3 by decide), if_neg (show ¬ zTw (-5) = -4 by decide), if_pos (show zTw (-5) = -5 by decide)]
          exact go (h 68 s :: st) _ (fun o ho => zb_un ho) (fz _ (f4.symm)) q4 (by simp; omega) (by rw [zb_ur]; exact zStk_put hS)
        · rw [if_pos (show zTw (-6) < 0 by decide), if_pos (show (-7 : Int32) < zTw (-6) by decide), if_neg (show ¬ zTw (-6) = -1 by decide), if_neg (show ¬ zTw (-6) = -2 by decide), if_neg (show ¬ zTw (-6) = -3 by decide), if_neg (show ¬ zTw (-6) = -4 by decide), if_neg (show ¬ zTw (-6) = -5 by decide)]
          exact go (left :: st) _ (fun o ho => zb_un ho) (fz _ (f5)) q4 (by simp; omega) (by rw [zb_ur]; exact zStk_put hS)
      · rw [zTw_pos w0, if_neg w0]
        refine go (w :: st) _ (fun o ho => zb_un ho) ?_ q4 (by simp; omega) (by rw [zb_ur]; exact zStk_put hS)
        unfold zSt
        rw [if_pos q1, if_neg w0]
    · obtain ⟨a, r, rfl⟩ : ∃ a r, st = a :: r := by
        cases st with
        | nil => simp at q2
        | cons a r => exact ⟨a, r, rfl⟩
      have hlt : ¬ (-10 < w) := by rcases q1 with rfl | rfl <;> decide
      rw [List.length_cons] at hst
      have hin : pm_in (nI r.length) 170 = true := zb_in (by omega) (by omega)
      simp only [List.length_cons, nI_pred, hin, zb_ibt, nI_clamp (n := r.length) (by omega), hS.1]
      rcases q1 with rfl | rfl
      · rw [if_pos (show zTw (-10) < 0 by decide), if_neg (show ¬ (-7 : Int32) < zTw (-10) by decide), if_pos (show zTw (-10) = -13 by decide)]
        by_cases a0 : a = 0
        · rw [if_pos a0]
          refine go (1 :: r) _ (fun o ho => zb_un ho) ?_ q3 (by simpa using hst) (by rw [zb_ur]; exact zStk_put hS.2)
          unfold zSt; rw [if_neg hlt, if_pos rfl]; simp [a0]
        · rw [if_neg a0]
          refine go (0 :: r) _ (fun o ho => zb_un ho) ?_ q3 (by simpa using hst) (by rw [zb_ur]; exact zStk_put hS.2)
          unfold zSt; rw [if_neg hlt, if_pos rfl]; simp [a0]
      · rw [if_pos (show zTw (-11) < 0 by decide), if_neg (show ¬ (-7 : Int32) < zTw (-11) by decide), if_neg (show ¬ zTw (-11) = -13 by decide), if_pos (show zTw (-11) = -19 by decide)]
        refine go ((-a) :: r) _ (fun o ho => zb_un ho) ?_ q3 (by simpa using hst) (by rw [zb_ur]; exact zStk_put hS.2)
        unfold zSt; rw [if_neg hlt, if_neg (by decide), if_pos rfl]
    · obtain ⟨b, a, r, rfl⟩ : ∃ b a r, st = b :: a :: r := by
        match st, q3 with
        | b :: a :: r, _ => exact ⟨b, a, r, rfl⟩
      have hlt : ¬ (-10 < w) := by
        rw [zb_tlt] at q1 ⊢
        have e1 : (-11 : Int32).toInt = -11 := by decide
        have e2 : (-10 : Int32).toInt = -10 := by decide
        omega
      have h10 : w ≠ -10 := by rintro rfl; exact absurd q1 (by decide)
      have h11 : w ≠ -11 := by rintro rfl; exact absurd q1 (by decide)
      rw [List.length_cons, List.length_cons] at hst
      have hb : h 78 (r.length + 1) = b := hS.1
      have ha : h 78 r.length = a := hS.2.1
      have hin : pm_in (nI r.length) 170 = true := zb_in (by omega) (by omega)
      have hin1 : pm_in (nI (r.length + 1)) 170 = true := zb_in (by omega) (by omega)
      have fz : ∀ x, zJo a w b = x → (x :: r) = zSt f w (b :: a :: r) := by
        intro x hx
        unfold zSt
        rw [if_neg hlt, if_neg h10, if_neg h11, ← hx]
      have fin : ∀ x, zJo a w b = x → wl_X7_worth_35 (nI s) left bound (nI E) K Q (c.length + 1) (nI (r.length + 1)) (nI (i + 1)) (pm_u h 78 r.length x) := fun x hx => go (x :: r) _ (fun o ho => zb_un ho) (fz x hx) q4 (by simp; omega) (by rw [zb_ur]; exact zStk_put hS.2.2)
      simp only [List.length_cons, nI_pred, zb_l1, zb_l2, hin, hin1, zb_ibt, nI_clamp (n := r.length) (by omega), nI_clamp (n := r.length + 1) (by omega), ha, hb]
      rcases zb_signs q1 q2 with rfl | rfl | rfl | rfl | rfl | rfl | rfl
      · rw [if_pos (show zTw (-12) < 0 by decide), if_neg (show ¬ (-7 : Int32) < zTw (-12) by decide), if_neg (show ¬ zTw (-12) = -13 by decide), if_neg (show ¬ zTw (-12) = -19 by decide), if_neg (show ¬ zTw (-12) = -17 by decide), if_pos (show zTw (-12) = -16 by decide)]
        exact fin _ (by unfold zJo; rfl)
      · rw [if_pos (show zTw (-13) < 0 by decide), if_neg (show ¬ (-7 : Int32) < zTw (-13) by decide), if_neg (show ¬ zTw (-13) = -13 by decide), if_neg (show ¬ zTw (-13) = -19 by decide), if_pos (show zTw (-13) = -17 by decide)]
        exact fin _ (by unfold zJo; rfl)
      · rw [if_pos (show zTw (-14) < 0 by decide), if_neg (show ¬ (-7 : Int32) < zTw (-14) by decide), if_neg (show ¬ zTw (-14) = -13 by decide), if_neg (show ¬ zTw (-14) = -19 by decide), if_neg (show ¬ zTw (-14) = -17 by decide), if_neg (show ¬ zTw (-14) = -16 by decide), if_neg (show ¬ zTw (-14) = -15 by decide), if_neg (show ¬ zTw (-14) = -14 by decide), if_neg (show ¬ zTw (-14) = -13 by decide), if_neg (show ¬ zTw (-14) = -12 by decide), if_neg (show ¬ zTw (-14) = -11 by decide)]
        exact fin _ (by unfold zJo; rfl)
      · rw [if_pos (show zTw (-15) < 0 by decide), if_neg (show ¬ (-7 : Int32) < zTw (-15) by decide), if_neg (show ¬ zTw (-15) = -13 by decide), if_neg (show ¬ zTw (-15) = -19 by decide), if_neg (show ¬ zTw (-15) = -17 by decide), if_neg (show ¬ zTw (-15) = -16 by decide), if_neg (show ¬ zTw (-15) = -15 by decide), if_pos (show zTw (-15) = -14 by decide)]
        by_cases q : a < b
        · rw [if_pos q]; exact fin _ (by unfold zJo; simp [q])
        · rw [if_neg q]; exact fin _ (by unfold zJo; simp [q])
      · rw [if_pos (show zTw (-16) < 0 by decide), if_neg (show ¬ (-7 : Int32) < zTw (-16) by decide), if_neg (show ¬ zTw (-16) = -13 by decide), if_neg (show ¬ zTw (-16) = -19 by decide), if_neg (show ¬ zTw (-16) = -17 by decide), if_neg (show ¬ zTw (-16) = -16 by decide), if_pos (show zTw (-16) = -15 by decide)]
        by_cases q : a = b
        · rw [if_pos q]; exact fin _ (by unfold zJo; simp [q])
        · rw [if_neg q]; exact fin _ (by unfold zJo; simp [q])
      · rw [if_pos (show zTw (-17) < 0 by decide), if_neg (show ¬ (-7 : Int32) < zTw (-17) by decide), if_neg (show ¬ zTw (-17) = -13 by decide), if_neg (show ¬ zTw (-17) = -19 by decide), if_neg (show ¬ zTw (-17) = -17 by decide), if_neg (show ¬ zTw (-17) = -16 by decide), if_neg (show ¬ zTw (-17) = -15 by decide), if_neg (show ¬ zTw (-17) = -14 by decide), if_neg (show ¬ zTw (-17) = -13 by decide), if_pos (show zTw (-17) = -12 by decide)]
        by_cases q : a = 0
        · rw [if_pos q]; exact fin _ (by unfold zJo; simp [q])
        · rw [if_neg q]
          by_cases q2 : b = 0
          · rw [if_pos q2]; exact fin _ (by unfold zJo; simp [q, q2])
          · rw [if_neg q2]; exact fin _ (by unfold zJo; simp [q, q2])
      · rw [if_pos (show zTw (-18) < 0 by decide), if_neg (show ¬ (-7 : Int32) < zTw (-18) by decide), if_neg (show ¬ zTw (-18) = -13 by decide), if_neg (show ¬ zTw (-18) = -19 by decide), if_neg (show ¬ zTw (-18) = -17 by decide), if_neg (show ¬ zTw (-18) = -16 by decide), if_neg (show ¬ zTw (-18) = -15 by decide), if_neg (show ¬ zTw (-18) = -14 by decide), if_neg (show ¬ zTw (-18) = -13 by decide), if_neg (show ¬ zTw (-18) = -12 by decide), if_pos (show zTw (-18) = -11 by decide)]
        by_cases q : a = 0
        · rw [if_pos q]
          by_cases q2 : b = 0
          · rw [if_pos q2]; exact fin _ (by unfold zJo; simp [q, q2])
          · rw [if_neg q2]; exact fin _ (by unfold zJo; simp [q, q2])
        · rw [if_neg q]; exact fin _ (by unfold zJo; simp [q])
