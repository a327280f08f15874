/-! MATHEMATICS, 84: the two readings are what the programs do (by program: wip/whole/gen84.py) -/
def zmC (c : Int32 → pm_H → (pm_H → Prop) → Prop) : Prop := ∀ (a0 : Int32) (h : pm_H) (Q Q' : pm_H → Prop), (∀ h, Q h → Q' h) → c a0 h Q → c a0 h Q'
def zmM (c : pm_H → (Int32 → pm_H → Prop) → Prop) : Prop := ∀ (h : pm_H) (Q Q' : Int32 → pm_H → Prop), (∀ r h, Q r h → Q' r h) → c h Q → c h Q'
theorem zmC_all : ∀ g, zmC (zCc g 0) ∧ zmC (zCc g 2) ∧ zmC (zCc g 5) ∧ zmC (zCc g 1) ∧ zmC (zCc g 3) ∧ zmC (zCc g 4)
  | 0 => ⟨fun _ _ _ _ _ h => h, fun _ _ _ _ _ h => h, fun _ _ _ _ _ h => h, fun _ _ _ _ _ h => h, fun _ _ _ _ _ h => h, fun _ _ _ _ _ h => h⟩
  | g + 1 => by
    obtain ⟨m0, m2, m5, -, -, -⟩ := zmC_all g
    have k5 : zmC (zCc (g + 1) 5) := fun a h Q Q' hq => wp_X0_readOne_mono m5 m0 hq
    have k4 : zmC (zCc (g + 1) 4) := fun a h Q Q' hq => wp_X0_readTerm_mono (c_readOne := zCc (g + 1) 5) k5 hq
    have k3 : zmC (zCc (g + 1) 3) := fun a h Q Q' hq => wp_X0_readSum_mono (c_readTerm := zCc (g + 1) 4) k4 hq
    have k2 : zmC (zCc (g + 1) 2) := fun a h Q Q' hq => wp_X0_readDenied_mono (c_readSum := zCc (g + 1) 3) m2 k3 hq
    have k1 : zmC (zCc (g + 1) 1) := fun a h Q Q' hq => wp_X0_readBoth_mono (c_readDenied := zCc (g + 1) 2) k2 hq
    have k0 : zmC (zCc (g + 1) 0) := fun a h Q Q' hq => wp_X0_readEither_mono (c_readBoth := zCc (g + 1) 1) k1 hq
    exact ⟨k0, k2, k5, k1, k3, k4⟩
theorem zmM_all : ∀ g, zmM (zMc g 0) ∧ zmM (zMc g 2) ∧ zmM (zMc g 5) ∧ zmM (zMc g 1) ∧ zmM (zMc g 3) ∧ zmM (zMc g 4)
  | 0 => ⟨fun _ _ _ _ h => h, fun _ _ _ _ h => h, fun _ _ _ _ h => h, fun _ _ _ _ h => h, fun _ _ _ _ h => h, fun _ _ _ _ h => h⟩
  | g + 1 => by
    obtain ⟨m0, m2, m5, -, -, -⟩ := zmM_all g
    have k5 : zmM (zMc (g + 1) 5) := fun h Q Q' hq => wp_X7_one_mono m0 m5 hq
    have k4 : zmM (zMc (g + 1) 4) := fun h Q Q' hq => wp_X7_term_mono (c_one := zMc (g + 1) 5) k5 hq
    have k3 : zmM (zMc (g + 1) 3) := fun h Q Q' hq => wp_X7_sum_mono (c_term := zMc (g + 1) 4) k4 hq
    have k2 : zmM (zMc (g + 1) 2) := fun h Q Q' hq => wp_X7_not_mono (c_sum := zMc (g + 1) 3) k3 m2 hq
    have k1 : zmM (zMc (g + 1) 1) := fun h Q Q' hq => wp_X7_both_mono (c_not := zMc (g + 1) 2) k2 hq
    have k0 : zmM (zMc (g + 1) 0) := fun h Q Q' hq => wp_X7_any_mono (c_both := zMc (g + 1) 1) k1 hq
    exact ⟨k0, k2, k5, k1, k3, k4⟩
theorem zoC_all : ∀ g, (∀ (a0 : Int32) (h : pm_H) (Q : Option Value → pm_H → Prop), zCc g 0 a0 h (fun h => Q none h) → pm_R (6 * g + 9) mt_X0_readEither 0 [some (.ref 34), some (.int a0), none] [] h Q) ∧ (∀ (a0 : Int32) (h : pm_H) (Q : Option Value → pm_H → Prop), zCc g 2 a0 h (fun h => Q none h) → pm_R (6 * g + 7) mt_X0_readDenied 0 [some (.ref 34), some (.int a0), none] [] h Q) ∧ (∀ (a0 : Int32) (h : pm_H) (Q : Option Value → pm_H → Prop), zCc g 5 a0 h (fun h => Q none h) → pm_R (6 * g + 4) mt_X0_readOne 0 [some (.ref 34), some (.int a0)] [] h Q)
  | 0 => ⟨fun _ _ _ h => absurd h id, fun _ _ _ h => absurd h id, fun _ _ _ h => absurd h id⟩
  | g + 1 => by
    obtain ⟨o0, o2, o5⟩ := zoC_all g
    obtain ⟨m0, m2, m5, -, -, -⟩ := zmC_all g
    obtain ⟨n0, n2, n5, n1, n3, n4⟩ := zmC_all (g + 1)
    have k5 : ∀ (a0 : Int32) (h : pm_H) (Q : Option Value → pm_H → Prop), zCc (g + 1) 5 a0 h (fun h => Q none h) → pm_R (6 * g + 6 + 4) mt_X0_readOne 0 [some (.ref 34), some (.int a0)] [] h Q := fun a h Q hw => wp_X0_readOne_ok (fun a h Q q => pm_R_mono (by omega) (fun _ _ x => x) (o5 a h Q q)) (fun a h Q q => pm_R_mono (by omega) (fun _ _ x => x) (o0 a h Q q)) m5 m0 hw
    have k4 : ∀ (a0 : Int32) (h : pm_H) (Q : Option Value → pm_H → Prop), zCc (g + 1) 4 a0 h (fun h => Q none h) → pm_R (6 * g + 7 + 4) mt_X0_readTerm 0 [some (.ref 34), some (.int a0), none] [] h Q := fun a h Q hw => wp_X0_readTerm_ok (c_readOne := zCc (g + 1) 5) (fun a h Q q => pm_R_mono (by omega) (fun _ _ x => x) (k5 a h Q q)) n5 hw
    have k3 : ∀ (a0 : Int32) (h : pm_H) (Q : Option Value → pm_H → Prop), zCc (g + 1) 3 a0 h (fun h => Q none h) → pm_R (6 * g + 8 + 4) mt_X0_readSum 0 [some (.ref 34), some (.int a0), none, none] [] h Q := fun a h Q hw => wp_X0_readSum_ok (c_readTerm := zCc (g + 1) 4) (fun a h Q q => pm_R_mono (by omega) (fun _ _ x => x) (k4 a h Q q)) n4 hw
    have k2 : ∀ (a0 : Int32) (h : pm_H) (Q : Option Value → pm_H → Prop), zCc (g + 1) 2 a0 h (fun h => Q none h) → pm_R (6 * g + 9 + 4) mt_X0_readDenied 0 [some (.ref 34), some (.int a0), none] [] h Q := fun a h Q hw => wp_X0_readDenied_ok (c_readSum := zCc (g + 1) 3) (fun a h Q q => pm_R_mono (by omega) (fun _ _ x => x) (o2 a h Q q)) (fun a h Q q => pm_R_mono (by omega) (fun _ _ x => x) (k3 a h Q q)) m2 n3 hw
    have k1 : ∀ (a0 : Int32) (h : pm_H) (Q : Option Value → pm_H → Prop), zCc (g + 1) 1 a0 h (fun h => Q none h) → pm_R (6 * g + 10 + 4) mt_X0_readBoth 0 [some (.ref 34), some (.int a0), none] [] h Q := fun a h Q hw => wp_X0_readBoth_ok (c_readDenied := zCc (g + 1) 2) (fun a h Q q => pm_R_mono (by omega) (fun _ _ x => x) (k2 a h Q q)) n2 hw
    have k0 : ∀ (a0 : Int32) (h : pm_H) (Q : Option Value → pm_H → Prop), zCc (g + 1) 0 a0 h (fun h => Q none h) → pm_R (6 * g + 11 + 4) mt_X0_readEither 0 [some (.ref 34), some (.int a0), none] [] h Q := fun a h Q hw => wp_X0_readEither_ok (c_readBoth := zCc (g + 1) 1) (fun a h Q q => pm_R_mono (by omega) (fun _ _ x => x) (k1 a h Q q)) n1 hw
    exact ⟨fun a h Q q => pm_R_mono (by omega) (fun _ _ x => x) (k0 a h Q q), fun a h Q q => pm_R_mono (by omega) (fun _ _ x => x) (k2 a h Q q), fun a h Q q => pm_R_mono (by omega) (fun _ _ x => x) (k5 a h Q q)⟩
theorem zoM_all : ∀ g, (∀ (h : pm_H) (Q : Option Value → pm_H → Prop), zMc g 0 h (fun r h => Q (some (.int r)) h) → pm_R (6 * g + 7) mt_X7_any 0 [some (.ref 66)] [] h Q) ∧ (∀ (h : pm_H) (Q : Option Value → pm_H → Prop), zMc g 2 h (fun r h => Q (some (.int r)) h) → pm_R (6 * g + 5) mt_X7_not 0 [some (.ref 66), none] [] h Q) ∧ (∀ (h : pm_H) (Q : Option Value → pm_H → Prop), zMc g 5 h (fun r h => Q (some (.int r)) h) → pm_R (6 * g + 2) mt_X7_one 0 [some (.ref 66), none] [] h Q)
  | 0 => ⟨fun _ _ h => absurd h id, fun _ _ h => absurd h id, fun _ _ h => absurd h id⟩
  | g + 1 => by
    obtain ⟨o0, o2, o5⟩ := zoM_all g
    obtain ⟨m0, m2, m5, -, -, -⟩ := zmM_all g
    obtain ⟨n0, n2, n5, n1, n3, n4⟩ := zmM_all (g + 1)
    have k5 : ∀ (h : pm_H) (Q : Option Value → pm_H → Prop), zMc (g + 1) 5 h (fun r h => Q (some (.int r)) h) → pm_R (6 * g + 6 + 2) mt_X7_one 0 [some (.ref 66), none] [] h Q := fun h Q hw => wp_X7_one_ok (fun h Q q => pm_R_mono (by omega) (fun _ _ x => x) (o0 h Q q)) (fun h Q q => pm_R_mono (by omega) (fun _ _ x => x) (o5 h Q q)) m0 m5 hw
    have k4 : ∀ (h : pm_H) (Q : Option Value → pm_H → Prop), zMc (g + 1) 4 h (fun r h => Q (some (.int r)) h) → pm_R (6 * g + 7 + 2) mt_X7_term 0 [some (.ref 66)] [] h Q := fun h Q hw => wp_X7_term_ok (c_one := zMc (g + 1) 5) (fun h Q q => pm_R_mono (by omega) (fun _ _ x => x) (k5 h Q q)) n5 hw
    have k3 : ∀ (h : pm_H) (Q : Option Value → pm_H → Prop), zMc (g + 1) 3 h (fun r h => Q (some (.int r)) h) → pm_R (6 * g + 8 + 2) mt_X7_sum 0 [some (.ref 66), none] [] h Q := fun h Q hw => wp_X7_sum_ok (c_term := zMc (g + 1) 4) (fun h Q q => pm_R_mono (by omega) (fun _ _ x => x) (k4 h Q q)) n4 hw
    have k2 : ∀ (h : pm_H) (Q : Option Value → pm_H → Prop), zMc (g + 1) 2 h (fun r h => Q (some (.int r)) h) → pm_R (6 * g + 9 + 2) mt_X7_not 0 [some (.ref 66), none] [] h Q := fun h Q hw => wp_X7_not_ok (c_sum := zMc (g + 1) 3) (fun h Q q => pm_R_mono (by omega) (fun _ _ x => x) (k3 h Q q)) (fun h Q q => pm_R_mono (by omega) (fun _ _ x => x) (o2 h Q q)) n3 m2 hw
    have k1 : ∀ (h : pm_H) (Q : Option Value → pm_H → Prop), zMc (g + 1) 1 h (fun r h => Q (some (.int r)) h) → pm_R (6 * g + 10 + 2) mt_X7_both 0 [some (.ref 66)] [] h Q := fun h Q hw => wp_X7_both_ok (c_not := zMc (g + 1) 2) (fun h Q q => pm_R_mono (by omega) (fun _ _ x => x) (k2 h Q q)) n2 hw
    have k0 : ∀ (h : pm_H) (Q : Option Value → pm_H → Prop), zMc (g + 1) 0 h (fun r h => Q (some (.int r)) h) → pm_R (6 * g + 11 + 2) mt_X7_any 0 [some (.ref 66)] [] h Q := fun h Q hw => wp_X7_any_ok (c_both := zMc (g + 1) 1) (fun h Q q => pm_R_mono (by omega) (fun _ _ x => x) (k1 h Q q)) n1 hw
    exact ⟨fun h Q q => pm_R_mono (by omega) (fun _ _ x => x) (k0 h Q q), fun h Q q => pm_R_mono (by omega) (fun _ _ x => x) (k2 h Q q), fun h Q q => pm_R_mono (by omega) (fun _ _ x => x) (k5 h Q q)⟩
/-- the class's call text, as a program -/
theorem zo_text {h : pm_H} {Q : Option Value → pm_H → Prop} (hw : wp_X6_text (wp_X0_readInto (zCc 6 0)) h (fun r h => Q (some (.int r)) h)) : pm_R (41 + 6) mt_X6_text 0 [some (.ref 0), none] [] h Q :=
  wp_X6_text_ok (c_readInto := wp_X0_readInto (zCc 6 0)) (fun a h Q q => wp_X0_readInto_ok (d := 41) (fun a h Q q => pm_R_mono (by omega) (fun _ _ x => x) ((zoC_all 6).1 a h Q q)) (zmC_all 6).1 q) (fun a h Q Q' hq => wp_X0_readInto_mono (zmC_all 6).1 hq) hw
theorem zo_mtext {h : pm_H} {Q : Option Value → pm_H → Prop} (hw : wp_X7_text (wp_X7_part (zMc 6 0)) h (fun r h => Q (some (.int r)) h)) : pm_R (41 + 4) mt_X7_text 0 [some (.ref 66), none] [] h Q :=
  wp_X7_text_ok (c_part := wp_X7_part (zMc 6 0)) (fun a b h Q q => wp_X7_part_ok (d := 41) (fun h Q q => pm_R_mono (by omega) (fun _ _ x => x) ((zoM_all 6).1 h Q q)) (zmM_all 6).1 q) (fun a b h Q Q' hq => wp_X7_part_mono (zmM_all 6).1 hq) hw
