/-! StairLinesModel.told(II)I -/
set_option maxRecDepth 16384 in
def wp_X7_told (l1 : Int32) (l2 : Int32) (h : pm_H) (Q : Int32 → pm_H → Prop) : Prop := wp_X7_within l2 0 9 h (fun r383 h382 => pm_eq r383 0 (Q (-2) h382) (pm_lt l2 5 (wp_X7_within l1 0 9 h382 (fun r385 h384 => pm_eq r385 0 (Q (-2) h384) (pm_eq l2 0 (pm_ib (pm_in l1 10) (Q (h384 67 l1.toNatClampNeg) h384)) (pm_eq l2 1 (pm_ib (pm_in l1 10) (Q (h384 68 l1.toNatClampNeg) h384)) (pm_eq l2 2 (wp_X7_holds_ l1 h384 (fun r389 h388 => Q r389 h388)) (pm_eq l2 3 (wp_X7_passes l1 h384 (fun r387 h386 => Q r387 h386)) (pm_eq l2 4 (pm_ib (pm_in l1 10) (Q (h384 69 l1.toNatClampNeg) h384)) (pm_eq l2 5 (pm_ib (pm_in l1 5) (Q (h384 70 l1.toNatClampNeg) h384)) (pm_eq l2 6 (pm_ib (pm_in l1 5) (Q (h384 71 l1.toNatClampNeg) h384)) (pm_eq l2 7 (pm_ib (pm_in l1 5) (Q (h384 72 l1.toNatClampNeg) h384)) (pm_eq l2 8 (pm_ib (pm_in l1 5) (Q (h384 73 l1.toNatClampNeg) h384)) (pm_ib (pm_in l1 5) (Q (h384 74 l1.toNatClampNeg) h384))))))))))))) (wp_X7_isClass l1 h382 (fun r391 h390 => pm_eq r391 0 (Q (-2) h390) (pm_eq l2 0 (pm_ib (pm_in l1 10) (Q (h390 67 l1.toNatClampNeg) h390)) (pm_eq l2 1 (pm_ib (pm_in l1 10) (Q (h390 68 l1.toNatClampNeg) h390)) (pm_eq l2 2 (wp_X7_holds_ l1 h390 (fun r395 h394 => Q r395 h394)) (pm_eq l2 3 (wp_X7_passes l1 h390 (fun r393 h392 => Q r393 h392)) (pm_eq l2 4 (pm_ib (pm_in l1 10) (Q (h390 69 l1.toNatClampNeg) h390)) (pm_eq l2 5 (pm_ib (pm_in l1 5) (Q (h390 70 l1.toNatClampNeg) h390)) (pm_eq l2 6 (pm_ib (pm_in l1 5) (Q (h390 71 l1.toNatClampNeg) h390)) (pm_eq l2 7 (pm_ib (pm_in l1 5) (Q (h390 72 l1.toNatClampNeg) h390)) (pm_eq l2 8 (pm_ib (pm_in l1 5) (Q (h390 73 l1.toNatClampNeg) h390)) (pm_ib (pm_in l1 5) (Q (h390 74 l1.toNatClampNeg) h390)))))))))))))))
set_option maxRecDepth 16384 in
theorem wp_X7_told_mono {l1 : Int32} {l2 : Int32} {h : pm_H} {Q Q' : Int32 → pm_H → Prop} (hQ : ∀ r h, Q r h → Q' r h) : wp_X7_told l1 l2 h Q → wp_X7_told l1 l2 h Q' := by unfold wp_X7_told; exact (@wp_X7_within_mono _ _ _ _ _ _ (fun _ _ => (@pm_eq_mono _ _ _ _ _ _ (hQ _ _) (@pm_lt_mono _ _ _ _ _ _ (@wp_X7_within_mono _ _ _ _ _ _ (fun _ _ => (@pm_eq_mono _ _ _ _ _ _ (hQ _ _) (@pm_eq_mono _ _ _ _ _ _ (@pm_ib_mono _ _ _ (hQ _ _)) (@pm_eq_mono _ _ _ _ _ _ (@pm_ib_mono _ _ _ (hQ _ _)) (@pm_eq_mono _ _ _ _ _ _ (@wp_X7_holds__mono _ _ _ _ (fun _ _ => (hQ _ _))) (@pm_eq_mono _ _ _ _ _ _ (@wp_X7_passes_mono _ _ _ _ (fun _ _ => (hQ _ _))) (@pm_eq_mono _ _ _ _ _ _ (@pm_ib_mono _ _ _ (hQ _ _)) (@pm_eq_mono _ _ _ _ _ _ (@pm_ib_mono _ _ _ (hQ _ _)) (@pm_eq_mono _ _ _ _ _ _ (@pm_ib_mono _ _ _ (hQ _ _)) (@pm_eq_mono _ _ _ _ _ _ (@pm_ib_mono _ _ _ (hQ _ _)) (@pm_eq_mono _ _ _ _ _ _ (@pm_ib_mono _ _ _ (hQ _ _)) (@pm_ib_mono _ _ _ (hQ _ _)))))))))))))) (@wp_X7_isClass_mono _ _ _ _ (fun _ _ => (@pm_eq_mono _ _ _ _ _ _ (hQ _ _) (@pm_eq_mono _ _ _ _ _ _ (@pm_ib_mono _ _ _ (hQ _ _)) (@pm_eq_mono _ _ _ _ _ _ (@pm_ib_mono _ _ _ (hQ _ _)) (@pm_eq_mono _ _ _ _ _ _ (@wp_X7_holds__mono _ _ _ _ (fun _ _ => (hQ _ _))) (@pm_eq_mono _ _ _ _ _ _ (@wp_X7_passes_mono _ _ _ _ (fun _ _ => (hQ _ _))) (@pm_eq_mono _ _ _ _ _ _ (@pm_ib_mono _ _ _ (hQ _ _)) (@pm_eq_mono _ _ _ _ _ _ (@pm_ib_mono _ _ _ (hQ _ _)) (@pm_eq_mono _ _ _ _ _ _ (@pm_ib_mono _ _ _ (hQ _ _)) (@pm_eq_mono _ _ _ _ _ _ (@pm_ib_mono _ _ _ (hQ _ _)) (@pm_eq_mono _ _ _ _ _ _ (@pm_ib_mono _ _ _ (hQ _ _)) (@pm_ib_mono _ _ _ (hQ _ _))))))))))))))))))
set_option maxRecDepth 16384 in
theorem wp_X7_told_ok {d : Nat} {l1 : Int32} {l2 : Int32} {h : pm_H} {Q : Option Value → pm_H → Prop} (hw : wp_X7_told l1 l2 h (fun r h => Q (some (.int r)) h)) : pm_R (d + 2) mt_X7_told 0 [some (.ref 66), some (.int l1), some (.int l2)] [] h Q := by
  unfold wp_X7_told at hw
  refine pm_steps 4 ?_
  refine @wp_X7_within_ok _ _ _ _ _ _ (@wp_X7_within_mono _ _ _ _ _ _ (fun r383 h382 hw => ?_) hw)
  refine pm_steps 1 ?_
  refine @pm_we _ _ _ _ _ _ hw (fun hw => ?_) (fun hw => ?_)
  · exact pm_steps 2 hw
  · refine pm_steps 3 ?_
    refine @pm_wl _ _ _ _ _ _ hw (fun hw => ?_) (fun hw => ?_)
    · refine pm_steps 4 ?_
      refine @wp_X7_within_ok _ _ _ _ _ _ (@wp_X7_within_mono _ _ _ _ _ _ (fun r385 h384 hw => ?_) hw)
      refine pm_steps 1 ?_
      refine @pm_we _ _ _ _ _ _ hw (fun hw => ?_) (fun hw => ?_)
      · exact pm_steps 3 hw
      · refine pm_steps 2 ?_
        refine @pm_we _ _ _ _ _ _ hw (fun hw => ?_) (fun hw => ?_)
        · refine pm_steps 4 ?_
          refine @pm_wc _ _ _ hw (fun hw => ?_)
          exact pm_steps 1 hw
        · refine @pm_we _ _ _ _ _ _ hw (fun hw => ?_) (fun hw => ?_)
          · refine pm_steps 4 ?_
            refine @pm_wc _ _ _ hw (fun hw => ?_)
            exact pm_steps 1 hw
          · refine @pm_we _ _ _ _ _ _ hw (fun hw => ?_) (fun hw => ?_)
            · refine pm_steps 3 ?_
              refine @wp_X7_holds__ok _ _ _ _ (@wp_X7_holds__mono _ _ _ _ (fun r389 h388 hw => ?_) hw)
              exact pm_steps 1 hw
            · refine @pm_we _ _ _ _ _ _ hw (fun hw => ?_) (fun hw => ?_)
              · refine pm_steps 3 ?_
                refine @wp_X7_passes_ok _ _ _ _ (@wp_X7_passes_mono _ _ _ _ (fun r387 h386 hw => ?_) hw)
                exact pm_steps 1 hw
              · refine @pm_we _ _ _ _ _ _ hw (fun hw => ?_) (fun hw => ?_)
                · refine pm_steps 4 ?_
                  refine @pm_wc _ _ _ hw (fun hw => ?_)
                  exact pm_steps 1 hw
                · refine @pm_we _ _ _ _ _ _ hw (fun hw => ?_) (fun hw => ?_)
                  · refine pm_steps 4 ?_
                    refine @pm_wc _ _ _ hw (fun hw => ?_)
                    exact pm_steps 1 hw
                  · refine @pm_we _ _ _ _ _ _ hw (fun hw => ?_) (fun hw => ?_)
                    · refine pm_steps 4 ?_
                      refine @pm_wc _ _ _ hw (fun hw => ?_)
                      exact pm_steps 1 hw
                    · refine @pm_we _ _ _ _ _ _ hw (fun hw => ?_) (fun hw => ?_)
                      · refine pm_steps 4 ?_
                        refine @pm_wc _ _ _ hw (fun hw => ?_)
                        exact pm_steps 1 hw
                      · refine @pm_we _ _ _ _ _ _ hw (fun hw => ?_) (fun hw => ?_)
                        · refine pm_steps 4 ?_
                          refine @pm_wc _ _ _ hw (fun hw => ?_)
                          exact pm_steps 1 hw
                        · refine pm_steps 4 ?_
                          refine @pm_wc _ _ _ hw (fun hw => ?_)
                          exact pm_steps 1 hw
    · refine pm_steps 3 ?_
      refine @wp_X7_isClass_ok _ _ _ _ (@wp_X7_isClass_mono _ _ _ _ (fun r391 h390 hw => ?_) hw)
      refine pm_steps 1 ?_
      refine @pm_we _ _ _ _ _ _ hw (fun hw => ?_) (fun hw => ?_)
      · exact pm_steps 2 hw
      · refine pm_steps 2 ?_
        refine @pm_we _ _ _ _ _ _ hw (fun hw => ?_) (fun hw => ?_)
        · refine pm_steps 4 ?_
          refine @pm_wc _ _ _ hw (fun hw => ?_)
          exact pm_steps 1 hw
        · refine @pm_we _ _ _ _ _ _ hw (fun hw => ?_) (fun hw => ?_)
          · refine pm_steps 4 ?_
            refine @pm_wc _ _ _ hw (fun hw => ?_)
            exact pm_steps 1 hw
          · refine @pm_we _ _ _ _ _ _ hw (fun hw => ?_) (fun hw => ?_)
            · refine pm_steps 3 ?_
              refine @wp_X7_holds__ok _ _ _ _ (@wp_X7_holds__mono _ _ _ _ (fun r395 h394 hw => ?_) hw)
              exact pm_steps 1 hw
            · refine @pm_we _ _ _ _ _ _ hw (fun hw => ?_) (fun hw => ?_)
              · refine pm_steps 3 ?_
                refine @wp_X7_passes_ok _ _ _ _ (@wp_X7_passes_mono _ _ _ _ (fun r393 h392 hw => ?_) hw)
                exact pm_steps 1 hw
              · refine @pm_we _ _ _ _ _ _ hw (fun hw => ?_) (fun hw => ?_)
                · refine pm_steps 4 ?_
                  refine @pm_wc _ _ _ hw (fun hw => ?_)
                  exact pm_steps 1 hw
                · refine @pm_we _ _ _ _ _ _ hw (fun hw => ?_) (fun hw => ?_)
                  · refine pm_steps 4 ?_
                    refine @pm_wc _ _ _ hw (fun hw => ?_)
                    exact pm_steps 1 hw
                  · refine @pm_we _ _ _ _ _ _ hw (fun hw => ?_) (fun hw => ?_)
                    · refine pm_steps 4 ?_
                      refine @pm_wc _ _ _ hw (fun hw => ?_)
                      exact pm_steps 1 hw
                    · refine @pm_we _ _ _ _ _ _ hw (fun hw => ?_) (fun hw => ?_)
                      · refine pm_steps 4 ?_
                        refine @pm_wc _ _ _ hw (fun hw => ?_)
                        exact pm_steps 1 hw
                      · refine @pm_we _ _ _ _ _ _ hw (fun hw => ?_) (fun hw => ?_)
                        · refine pm_steps 4 ?_
                          refine @pm_wc _ _ _ hw (fun hw => ?_)
                          exact pm_steps 1 hw
                        · refine pm_steps 4 ?_
                          refine @pm_wc _ _ _ hw (fun hw => ?_)
                          exact pm_steps 1 hw
/-! StairLinesModel.feed(I)I -/
set_option maxRecDepth 16384 in
def wp_X7_feed (l1 : Int32) (h : pm_H) (Q : Int32 → pm_H → Prop) : Prop := wp_X7_within l1 0 255 h (fun r397 h396 => pm_eq r397 0 (Q (-2) h396) (pm_eq (h396 66 11) 160 (Q (-4) h396) (pm_ib (pm_in (h396 66 11) 160) (Q (pm_op ((h396 66 11) + 1)) (pm_u (pm_u h396 66 11 (pm_op ((h396 66 11) + 1))) 75 (h396 66 11).toNatClampNeg l1)))))
set_option maxRecDepth 16384 in
theorem wp_X7_feed_mono {l1 : Int32} {h : pm_H} {Q Q' : Int32 → pm_H → Prop} (hQ : ∀ r h, Q r h → Q' r h) : wp_X7_feed l1 h Q → wp_X7_feed l1 h Q' := by unfold wp_X7_feed; exact (@wp_X7_within_mono _ _ _ _ _ _ (fun _ _ => (@pm_eq_mono _ _ _ _ _ _ (hQ _ _) (@pm_eq_mono _ _ _ _ _ _ (hQ _ _) (@pm_ib_mono _ _ _ (hQ _ _))))))
set_option maxRecDepth 16384 in
theorem wp_X7_feed_ok {d : Nat} {l1 : Int32} {h : pm_H} {Q : Option Value → pm_H → Prop} (hw : wp_X7_feed l1 h (fun r h => Q (some (.int r)) h)) : pm_R (d + 1) mt_X7_feed 0 [some (.ref 66), some (.int l1)] [] h Q := by
  unfold wp_X7_feed at hw
  refine pm_steps 4 ?_
  refine @wp_X7_within_ok _ _ _ _ _ _ (@wp_X7_within_mono _ _ _ _ _ _ (fun r397 h396 hw => ?_) hw)
  refine pm_steps 1 ?_
  refine @pm_we _ _ _ _ _ _ hw (fun hw => ?_) (fun hw => ?_)
  · exact pm_steps 2 hw
  · refine pm_steps 4 ?_
    refine @pm_we _ _ _ _ _ _ hw (fun hw => ?_) (fun hw => ?_)
    · exact pm_steps 2 hw
    · refine pm_steps 11 ?_
      refine @pm_wc _ _ _ hw (fun hw => ?_)
      exact pm_steps 3 hw
/-! StairLinesModel.isLetter(I)Z -/
set_option maxRecDepth 16384 in
def wp_X7_isLetter (l0 : Int32) (h : pm_H) (Q : Int32 → pm_H → Prop) : Prop := pm_lt l0 97 (Q 0 h) (pm_lt 122 l0 (Q 0 h) (Q 1 h))
set_option maxRecDepth 16384 in
theorem wp_X7_isLetter_mono {l0 : Int32} {h : pm_H} {Q Q' : Int32 → pm_H → Prop} (hQ : ∀ r h, Q r h → Q' r h) : wp_X7_isLetter l0 h Q → wp_X7_isLetter l0 h Q' := by unfold wp_X7_isLetter; exact (@pm_lt_mono _ _ _ _ _ _ (hQ _ _) (@pm_lt_mono _ _ _ _ _ _ (hQ _ _) (hQ _ _)))
set_option maxRecDepth 16384 in
theorem wp_X7_isLetter_ok {d : Nat} {l0 : Int32} {h : pm_H} {Q : Option Value → pm_H → Prop} (hw : wp_X7_isLetter l0 h (fun r h => Q (some (.int r)) h)) : pm_R (d + 0) mt_X7_isLetter 0 [some (.int l0)] [] h Q := by
  unfold wp_X7_isLetter at hw
  refine pm_steps 3 ?_
  refine @pm_wl _ _ _ _ _ _ hw (fun hw => ?_) (fun hw => ?_)
  · exact pm_steps 2 hw
  · refine pm_steps 3 ?_
    refine @pm_wl _ _ _ _ _ _ hw (fun hw => ?_) (fun hw => ?_)
    · exact pm_steps 2 hw
    · exact pm_steps 3 hw
/-! StairLinesModel.isDigit(I)Z -/
set_option maxRecDepth 16384 in
def wp_X7_isDigit (l0 : Int32) (h : pm_H) (Q : Int32 → pm_H → Prop) : Prop := pm_lt l0 48 (Q 0 h) (pm_lt 57 l0 (Q 0 h) (Q 1 h))
set_option maxRecDepth 16384 in
theorem wp_X7_isDigit_mono {l0 : Int32} {h : pm_H} {Q Q' : Int32 → pm_H → Prop} (hQ : ∀ r h, Q r h → Q' r h) : wp_X7_isDigit l0 h Q → wp_X7_isDigit l0 h Q' := by unfold wp_X7_isDigit; exact (@pm_lt_mono _ _ _ _ _ _ (hQ _ _) (@pm_lt_mono _ _ _ _ _ _ (hQ _ _) (hQ _ _)))
set_option maxRecDepth 16384 in
theorem wp_X7_isDigit_ok {d : Nat} {l0 : Int32} {h : pm_H} {Q : Option Value → pm_H → Prop} (hw : wp_X7_isDigit l0 h (fun r h => Q (some (.int r)) h)) : pm_R (d + 0) mt_X7_isDigit 0 [some (.int l0)] [] h Q := by
  unfold wp_X7_isDigit at hw
  refine pm_steps 3 ?_
  refine @pm_wl _ _ _ _ _ _ hw (fun hw => ?_) (fun hw => ?_)
  · exact pm_steps 2 hw
  · refine pm_steps 3 ?_
    refine @pm_wl _ _ _ _ _ _ hw (fun hw => ?_) (fun hw => ?_)
    · exact pm_steps 2 hw
    · exact pm_steps 3 hw
/-! StairLinesModel.next()V -/
set_option maxRecDepth 16384 in
def wl_X7_next_0  (K52 : pm_H → Prop) (Q : pm_H → Prop) : Nat → pm_H → Prop
  | 0, _ => False
  | n + 1, h => pm_lt (h 66 18) (h 66 11) (pm_ib (pm_in (h 66 18) 160) (pm_eq (h 75 (h 66 18).toNatClampNeg) 32 (wl_X7_next_0 K52 Q n  (pm_u h 66 18 (pm_op ((h 66 18) + 1)))) (pm_ib (pm_in (h 66 18) 160) (pm_eq (h 75 (h 66 18).toNatClampNeg) 10 (wl_X7_next_0 K52 Q n  (pm_u h 66 18 (pm_op ((h 66 18) + 1)))) (K52  h))))) (K52  h)
set_option maxRecDepth 16384 in
theorem wl_X7_next_0_mono  {K52 K52' : pm_H → Prop}  {Q Q' : pm_H → Prop}  (mK52 : ∀  h, K52  h → K52'  h) (hQ : ∀ h, Q h → Q' h) : ∀ (n : Nat)  (h : pm_H), wl_X7_next_0 K52 Q n  h → wl_X7_next_0 K52' Q' n  h
  | 0, _ => id
  | n + 1, h => by unfold wl_X7_next_0; exact (@pm_lt_mono _ _ _ _ _ _ (@pm_ib_mono _ _ _ (@pm_eq_mono _ _ _ _ _ _ (wl_X7_next_0_mono mK52 hQ n  _) (@pm_ib_mono _ _ _ (@pm_eq_mono _ _ _ _ _ _ (wl_X7_next_0_mono mK52 hQ n  _) (mK52  _))))) (mK52  _))
set_option maxRecDepth 16384 in
theorem wl_X7_next_0_ok {d : Nat}  {K52 : pm_H → Prop} {Q : Option Value → pm_H → Prop} (hK52 : ∀  (h : pm_H), K52  h → pm_R (d + 1) mt_X7_next 52 [some (.ref 66), none] [] h Q) : ∀ (n : Nat)  (h : pm_H), wl_X7_next_0 K52 (fun h => Q none h) n  h → pm_R (d + 1) mt_X7_next 0 [some (.ref 66), none] [] h Q
  | 0, _ => fun hw => hw.elim
  | n + 1, h => fun hw => by
    unfold wl_X7_next_0 at hw
    refine pm_steps 5 ?_
    refine @pm_wl _ _ _ _ _ _ hw (fun hw => ?_) (fun hw => ?_)
    · refine pm_steps 5 ?_
      refine @pm_wc _ _ _ hw (fun hw => ?_)
      refine pm_steps 2 ?_
      refine @pm_we _ _ _ _ _ _ hw (fun hw => ?_) (fun hw => ?_)
      · refine pm_steps 7 ?_
        exact pm_fg (wl_X7_next_0_ok hK52 n  _ hw) ⟨rfl, trivial⟩
      · refine pm_steps 5 ?_
        refine @pm_wc _ _ _ hw (fun hw => ?_)
        refine pm_steps 2 ?_
        refine @pm_we _ _ _ _ _ _ hw (fun hw => ?_) (fun hw => ?_)
        · refine pm_steps 7 ?_
          exact pm_fg (wl_X7_next_0_ok hK52 n  _ hw) ⟨rfl, trivial⟩
        · exact pm_fg (hK52  _ hw) ⟨rfl, trivial⟩
    · exact pm_fg (hK52  _ hw) ⟨rfl, trivial⟩
set_option maxRecDepth 16384 in
def wl_X7_next_205  (K244 : pm_H → Prop) (Q : pm_H → Prop) : Nat → pm_H → Prop
  | 0, _ => False
  | n + 1, h => pm_lt (h 66 18) (h 66 11) (pm_ib (pm_in (h 66 18) 160) (wp_X7_isLetter (h 75 (h 66 18).toNatClampNeg) h (fun r404 h403 => pm_eq r404 0 (K244  h403) (wl_X7_next_205 K244 Q n  (pm_u h403 66 18 (pm_op ((h403 66 18) + 1))))))) (K244  h)
set_option maxRecDepth 16384 in
theorem wl_X7_next_205_mono  {K244 K244' : pm_H → Prop}  {Q Q' : pm_H → Prop}  (mK244 : ∀  h, K244  h → K244'  h) (hQ : ∀ h, Q h → Q' h) : ∀ (n : Nat)  (h : pm_H), wl_X7_next_205 K244 Q n  h → wl_X7_next_205 K244' Q' n  h
  | 0, _ => id
  | n + 1, h => by unfold wl_X7_next_205; exact (@pm_lt_mono _ _ _ _ _ _ (@pm_ib_mono _ _ _ (@wp_X7_isLetter_mono _ _ _ _ (fun _ _ => (@pm_eq_mono _ _ _ _ _ _ (mK244  _) (wl_X7_next_205_mono mK244 hQ n  _))))) (mK244  _))
set_option maxRecDepth 16384 in
theorem wl_X7_next_205_ok {d : Nat}  {K244 : pm_H → Prop} {Q : Option Value → pm_H → Prop} (hK244 : ∀  (h : pm_H), K244  h → pm_R (d + 1) mt_X7_next 244 [some (.ref 66), none] [] h Q) : ∀ (n : Nat)  (h : pm_H), wl_X7_next_205 K244 (fun h => Q none h) n  h → pm_R (d + 1) mt_X7_next 205 [some (.ref 66), none] [] h Q
  | 0, _ => fun hw => hw.elim
  | n + 1, h => fun hw => by
    unfold wl_X7_next_205 at hw
    refine pm_steps 5 ?_
    refine @pm_wl _ _ _ _ _ _ hw (fun hw => ?_) (fun hw => ?_)
    · refine pm_steps 5 ?_
      refine @pm_wc _ _ _ hw (fun hw => ?_)
      refine pm_steps 1 ?_
      refine @wp_X7_isLetter_ok _ _ _ _ (@wp_X7_isLetter_mono _ _ _ _ (fun r404 h403 hw => ?_) hw)
      refine pm_steps 1 ?_
      refine @pm_we _ _ _ _ _ _ hw (fun hw => ?_) (fun hw => ?_)
      · exact pm_fg (hK244  _ hw) ⟨rfl, trivial⟩
      · refine pm_steps 7 ?_
        exact pm_fg (wl_X7_next_205_ok hK244 n  _ hw) ⟨rfl, trivial⟩
    · exact pm_fg (hK244  _ hw) ⟨rfl, trivial⟩
set_option maxRecDepth 16384 in
def wl_X7_next_99  (K175 : pm_H → Prop) (Q : pm_H → Prop) : Nat → pm_H → Prop
  | 0, _ => False
  | n + 1, h => pm_lt (h 66 18) (h 66 11) (pm_ib (pm_in (h 66 18) 160) (wp_X7_isDigit (h 75 (h 66 18).toNatClampNeg) h (fun r408 h407 => pm_eq r408 0 (K175  h407) (pm_lt (pm_op ((h407 66 18) - (h407 66 19))) 4 (pm_ib (pm_in (h407 66 18) 160) (wl_X7_next_99 K175 Q n  (pm_u (pm_u h407 66 21 (pm_op ((pm_op ((pm_op (10 * (h407 66 21))) + (h407 75 (h407 66 18).toNatClampNeg))) - 48))) 66 18 (pm_op ((h407 66 18) + 1))))) (wl_X7_next_99 K175 Q n  (pm_u h407 66 18 (pm_op ((h407 66 18) + 1)))))))) (K175  h)
set_option maxRecDepth 16384 in
theorem wl_X7_next_99_mono  {K175 K175' : pm_H → Prop}  {Q Q' : pm_H → Prop}  (mK175 : ∀  h, K175  h → K175'  h) (hQ : ∀ h, Q h → Q' h) : ∀ (n : Nat)  (h : pm_H), wl_X7_next_99 K175 Q n  h → wl_X7_next_99 K175' Q' n  h
  | 0, _ => id
  | n + 1, h => by unfold wl_X7_next_99; exact (@pm_lt_mono _ _ _ _ _ _ (@pm_ib_mono _ _ _ (@wp_X7_isDigit_mono _ _ _ _ (fun _ _ => (@pm_eq_mono _ _ _ _ _ _ (mK175  _) (@pm_lt_mono _ _ _ _ _ _ (@pm_ib_mono _ _ _ (wl_X7_next_99_mono mK175 hQ n  _)) (wl_X7_next_99_mono mK175 hQ n  _)))))) (mK175  _))
set_option maxRecDepth 16384 in
theorem wl_X7_next_99_ok {d : Nat}  {K175 : pm_H → Prop} {Q : Option Value → pm_H → Prop} (hK175 : ∀  (h : pm_H), K175  h → pm_R (d + 1) mt_X7_next 175 [some (.ref 66), none] [] h Q) : ∀ (n : Nat)  (h : pm_H), wl_X7_next_99 K175 (fun h => Q none h) n  h → pm_R (d + 1) mt_X7_next 99 [some (.ref 66), none] [] h Q
  | 0, _ => fun hw => hw.elim
  | n + 1, h => fun hw => by
    unfold wl_X7_next_99 at hw
    refine pm_steps 5 ?_
    refine @pm_wl _ _ _ _ _ _ hw (fun hw => ?_) (fun hw => ?_)
    · refine pm_steps 5 ?_
      refine @pm_wc _ _ _ hw (fun hw => ?_)
      refine pm_steps 1 ?_
      refine @wp_X7_isDigit_ok _ _ _ _ (@wp_X7_isDigit_mono _ _ _ _ (fun r408 h407 hw => ?_) hw)
      refine pm_steps 1 ?_
      refine @pm_we _ _ _ _ _ _ hw (fun hw => ?_) (fun hw => ?_)
      · exact pm_fg (hK175  _ hw) ⟨rfl, trivial⟩
      · refine pm_steps 7 ?_
        refine @pm_wl _ _ _ _ _ _ hw (fun hw => ?_) (fun hw => ?_)
        · refine pm_steps 10 ?_
          refine @pm_wc _ _ _ hw (fun hw => ?_)
          refine pm_steps 11 ?_
          exact pm_fg (wl_X7_next_99_ok hK175 n  _ hw) ⟨rfl, trivial⟩
        · refine pm_steps 7 ?_
          exact pm_fg (wl_X7_next_99_ok hK175 n  _ hw) ⟨rfl, trivial⟩
    · exact pm_fg (hK175  _ hw) ⟨rfl, trivial⟩
set_option maxRecDepth 16384 in
def wp_X7_next  (h : pm_H) (Q : pm_H → Prop) : Prop := ∃ n411, wl_X7_next_0 (fun  h398 => pm_eq (h398 66 18) (h398 66 11) (Q (pm_u (pm_u h398 66 19 (h398 66 18)) 66 20 0)) (pm_ib (pm_in (h398 66 18) 160) (wp_X7_isDigit (h398 75 (h398 66 18).toNatClampNeg) (pm_u h398 66 19 (h398 66 18)) (fun r400 h399 => pm_eq r400 0 (wp_X7_isLetter (h398 75 (h398 66 18).toNatClampNeg) h399 (fun r402 h401 => pm_eq r402 0 (pm_eq (h398 75 (h398 66 18).toNatClampNeg) 40 (Q (pm_u (pm_u (pm_u h401 66 18 (pm_op ((h401 66 18) + 1))) 66 21 (h398 75 (h398 66 18).toNatClampNeg)) 66 20 3)) (pm_eq (h398 75 (h398 66 18).toNatClampNeg) 41 (Q (pm_u (pm_u (pm_u h401 66 18 (pm_op ((h401 66 18) + 1))) 66 21 (h398 75 (h398 66 18).toNatClampNeg)) 66 20 3)) (pm_eq (h398 75 (h398 66 18).toNatClampNeg) 59 (Q (pm_u (pm_u (pm_u h401 66 18 (pm_op ((h401 66 18) + 1))) 66 21 (h398 75 (h398 66 18).toNatClampNeg)) 66 20 3)) (pm_eq (h398 75 (h398 66 18).toNatClampNeg) 43 (Q (pm_u (pm_u (pm_u h401 66 18 (pm_op ((h401 66 18) + 1))) 66 21 (h398 75 (h398 66 18).toNatClampNeg)) 66 20 3)) (pm_eq (h398 75 (h398 66 18).toNatClampNeg) 45 (Q (pm_u (pm_u (pm_u h401 66 18 (pm_op ((h401 66 18) + 1))) 66 21 (h398 75 (h398 66 18).toNatClampNeg)) 66 20 3)) (pm_eq (h398 75 (h398 66 18).toNatClampNeg) 42 (Q (pm_u (pm_u (pm_u h401 66 18 (pm_op ((h401 66 18) + 1))) 66 21 (h398 75 (h398 66 18).toNatClampNeg)) 66 20 3)) (pm_eq (h398 75 (h398 66 18).toNatClampNeg) 60 (Q (pm_u (pm_u (pm_u h401 66 18 (pm_op ((h401 66 18) + 1))) 66 21 (h398 75 (h398 66 18).toNatClampNeg)) 66 20 3)) (pm_eq (h398 75 (h398 66 18).toNatClampNeg) 61 (Q (pm_u (pm_u (pm_u h401 66 18 (pm_op ((h401 66 18) + 1))) 66 21 (h398 75 (h398 66 18).toNatClampNeg)) 66 20 3)) (Q (pm_u (pm_u (pm_u h401 66 18 (pm_op ((h401 66 18) + 1))) 66 21 (h398 75 (h398 66 18).toNatClampNeg)) 66 20 4)))))))))) (∃ n406, wl_X7_next_205 (fun  h405 => Q (pm_u h405 66 20 2)) Q n406  h401))) (∃ n410, wl_X7_next_99 (fun  h409 => pm_lt 4 (pm_op ((h409 66 18) - (h409 66 19))) (Q (pm_u h409 66 20 4)) (Q (pm_u h409 66 20 1))) Q n410  (pm_u h399 66 21 0)))))) Q n411  h
set_option maxRecDepth 16384 in
theorem wp_X7_next_mono  {h : pm_H} {Q Q' : pm_H → Prop} (hQ : ∀ h, Q h → Q' h) : wp_X7_next  h Q → wp_X7_next  h Q' := by unfold wp_X7_next; exact (fun z => Exists.elim z (fun n411 z => ⟨n411, wl_X7_next_0_mono (fun  _ => (@pm_eq_mono _ _ _ _ _ _ (hQ _) (@pm_ib_mono _ _ _ (@wp_X7_isDigit_mono _ _ _ _ (fun _ _ => (@pm_eq_mono _ _ _ _ _ _ (@wp_X7_isLetter_mono _ _ _ _ (fun _ _ => (@pm_eq_mono _ _ _ _ _ _ (@pm_eq_mono _ _ _ _ _ _ (hQ _) (@pm_eq_mono _ _ _ _ _ _ (hQ _) (@pm_eq_mono _ _ _ _ _ _ (hQ _) (@pm_eq_mono _ _ _ _ _ _ (hQ _) (@pm_eq_mono _ _ _ _ _ _ (hQ _) (@pm_eq_mono _ _ _ _ _ _ (hQ _) (@pm_eq_mono _ _ _ _ _ _ (hQ _) (@pm_eq_mono _ _ _ _ _ _ (hQ _) (hQ _))))))))) (fun z => Exists.elim z (fun n406 z => ⟨n406, wl_X7_next_205_mono (fun  _ => (hQ _)) hQ n406  _ z⟩))))) (fun z => Exists.elim z (fun n410 z => ⟨n410, wl_X7_next_99_mono (fun  _ => (@pm_lt_mono _ _ _ _ _ _ (hQ _) (hQ _))) hQ n410  _ z⟩)))))))) hQ n411  _ z⟩))
set_option maxRecDepth 16384 in
theorem wp_X7_next_ok {d : Nat}  {h : pm_H} {Q : Option Value → pm_H → Prop} (hw : wp_X7_next  h (fun h => Q none h)) : pm_R (d + 1) mt_X7_next 0 [some (.ref 66), none] [] h Q := by
  unfold wp_X7_next at hw
  obtain ⟨n411, hw⟩ := hw
  refine pm_fg (wl_X7_next_0_ok ?_ n411  _ hw) ⟨rfl, trivial⟩
  · intro  h398 hw
    refine pm_steps 9 ?_
    refine @pm_we _ _ _ _ _ _ hw (fun hw => ?_) (fun hw => ?_)
    · exact pm_steps 4 hw
    · refine pm_steps 5 ?_
      refine @pm_wc _ _ _ hw (fun hw => ?_)
      refine pm_steps 3 ?_
      refine @wp_X7_isDigit_ok _ _ _ _ (@wp_X7_isDigit_mono _ _ _ _ (fun r400 h399 hw => ?_) hw)
      refine pm_steps 1 ?_
      refine @pm_we _ _ _ _ _ _ hw (fun hw => ?_) (fun hw => ?_)
      · refine pm_steps 2 ?_
        refine @wp_X7_isLetter_ok _ _ _ _ (@wp_X7_isLetter_mono _ _ _ _ (fun r402 h401 hw => ?_) hw)
        refine pm_steps 1 ?_
        refine @pm_we _ _ _ _ _ _ hw (fun hw => ?_) (fun hw => ?_)
        · refine pm_steps 13 ?_
          refine @pm_we _ _ _ _ _ _ hw (fun hw => ?_) (fun hw => ?_)
          · exact pm_steps 4 hw
          · refine pm_steps 3 ?_
            refine @pm_we _ _ _ _ _ _ hw (fun hw => ?_) (fun hw => ?_)
            · exact pm_steps 4 hw
            · refine pm_steps 3 ?_
              refine @pm_we _ _ _ _ _ _ hw (fun hw => ?_) (fun hw => ?_)
              · exact pm_steps 4 hw
              · refine pm_steps 3 ?_
                refine @pm_we _ _ _ _ _ _ hw (fun hw => ?_) (fun hw => ?_)
                · exact pm_steps 4 hw
                · refine pm_steps 3 ?_
                  refine @pm_we _ _ _ _ _ _ hw (fun hw => ?_) (fun hw => ?_)
                  · exact pm_steps 4 hw
                  · refine pm_steps 3 ?_
                    refine @pm_we _ _ _ _ _ _ hw (fun hw => ?_) (fun hw => ?_)
                    · exact pm_steps 4 hw
                    · refine pm_steps 3 ?_
                      refine @pm_we _ _ _ _ _ _ hw (fun hw => ?_) (fun hw => ?_)
                      · exact pm_steps 4 hw
                      · refine pm_steps 3 ?_
                        refine @pm_we _ _ _ _ _ _ hw (fun hw => ?_) (fun hw => ?_)
                        · exact pm_steps 4 hw
                        · exact pm_steps 3 hw
        · obtain ⟨n406, hw⟩ := hw
          refine pm_fg (wl_X7_next_205_ok ?_ n406  _ hw) ⟨rfl, trivial⟩
          · intro  h405 hw
            exact pm_steps 4 hw
      · refine pm_steps 3 ?_
        obtain ⟨n410, hw⟩ := hw
        refine pm_fg (wl_X7_next_99_ok ?_ n410  _ hw) ⟨rfl, trivial⟩
        · intro  h409 hw
          refine pm_steps 8 ?_
          refine @pm_wl _ _ _ _ _ _ hw (fun hw => ?_) (fun hw => ?_)
          · exact pm_steps 4 hw
          · exact pm_steps 3 hw
/-! StairLinesModel.is(Ljava/lang/String;)Z -/
set_option maxRecDepth 16384 in
def wl_X7_is_28 (l1 : Nat) (K55 : pm_H → Prop) (K63 : pm_H → Prop) (Q : Int32 → pm_H → Prop) : Nat → Int32 → pm_H → Prop
  | 0, _, _ => False
  | n + 1, l2, h => pm_ib (pm_sb l1) (pm_lt l2 (nI (pm_sl (l1 - 1000)).length) (pm_ib (pm_in (pm_op ((h 66 19) + l2)) 160) (pm_ib (pm_sb l1) (pm_ib (pm_in l2 (pm_sl (l1 - 1000)).length) (pm_eq (h 75 (pm_op ((h 66 19) + l2)).toNatClampNeg) (nI ((pm_sl (l1 - 1000)).getD l2.toNatClampNeg 0)) (wl_X7_is_28 l1 K55 K63 Q n (pm_op (l2 + 1)) h) (K55  h))))) (K63  h))
set_option maxRecDepth 16384 in
theorem wl_X7_is_28_mono {l1 : Nat} {K55 K55' : pm_H → Prop} {K63 K63' : pm_H → Prop}  {Q Q' : Int32 → pm_H → Prop}  (mK55 : ∀  h, K55  h → K55'  h) (mK63 : ∀  h, K63  h → K63'  h) (hQ : ∀ r h, Q r h → Q' r h) : ∀ (n : Nat) (l2 : Int32) (h : pm_H), wl_X7_is_28 l1 K55 K63 Q n l2 h → wl_X7_is_28 l1 K55' K63' Q' n l2 h
  | 0, _, _ => id
  | n + 1, l2, h => by unfold wl_X7_is_28; exact (@pm_ib_mono _ _ _ (@pm_lt_mono _ _ _ _ _ _ (@pm_ib_mono _ _ _ (@pm_ib_mono _ _ _ (@pm_ib_mono _ _ _ (@pm_eq_mono _ _ _ _ _ _ (wl_X7_is_28_mono mK55 mK63 hQ n _ _) (mK55  _))))) (mK63  _)))
set_option maxRecDepth 16384 in
theorem wl_X7_is_28_ok {d : Nat} {l1 : Nat} {K55 : pm_H → Prop} {K63 : pm_H → Prop} {Q : Option Value → pm_H → Prop} (hK55 : ∀  (h : pm_H), K55  h → pm_R (d + 0) mt_X7_is 55 [none, none, none] [] h Q) (hK63 : ∀  (h : pm_H), K63  h → pm_R (d + 0) mt_X7_is 63 [none, none, none] [] h Q) : ∀ (n : Nat) (l2 : Int32) (h : pm_H), wl_X7_is_28 l1 K55 K63 (fun r h => Q (some (.int r)) h) n l2 h → pm_R (d + 0) mt_X7_is 28 [some (.ref 66), some (.ref l1), some (.int l2)] [] h Q
  | 0, _, _ => fun hw => hw.elim
  | n + 1, l2, h => fun hw => by
    unfold wl_X7_is_28 at hw
    refine pm_steps 3 ?_
    refine @pm_wc _ _ _ hw (fun hw => ?_)
    refine pm_steps 1 ?_
    refine @pm_wl _ _ _ _ _ _ hw (fun hw => ?_) (fun hw => ?_)
    · refine pm_steps 7 ?_
      refine @pm_wc _ _ _ hw (fun hw => ?_)
      refine pm_steps 3 ?_
      refine @pm_wc _ _ _ hw (fun hw => ?_)
      refine @pm_wc _ _ _ hw (fun hw => ?_)
      refine pm_steps 1 ?_
      refine @pm_we _ _ _ _ _ _ hw (fun hw => ?_) (fun hw => ?_)
      · refine pm_steps 2 ?_
        exact pm_fg (wl_X7_is_28_ok hK55 hK63 n _ _ hw) ⟨rfl, ⟨rfl, ⟨rfl, trivial⟩⟩⟩
      · exact pm_fg (hK55  _ hw) trivial
    · exact pm_fg (hK63  _ hw) trivial
set_option maxRecDepth 16384 in
def wp_X7_is (l1 : Nat) (h : pm_H) (Q : Int32 → pm_H → Prop) : Prop := pm_eq (h 66 20) 2 (pm_ib (pm_sb l1) (pm_eq (pm_op ((h 66 18) - (h 66 19))) (nI (pm_sl (l1 - 1000)).length) (∃ n414, wl_X7_is_28 l1 (fun  h412 => Q 0 h412) (fun  h413 => Q 1 h413) Q n414 0 h) (Q 0 h))) (Q 0 h)
set_option maxRecDepth 16384 in
theorem wp_X7_is_mono {l1 : Nat} {h : pm_H} {Q Q' : Int32 → pm_H → Prop} (hQ : ∀ r h, Q r h → Q' r h) : wp_X7_is l1 h Q → wp_X7_is l1 h Q' := by unfold wp_X7_is; exact (@pm_eq_mono _ _ _ _ _ _ (@pm_ib_mono _ _ _ (@pm_eq_mono _ _ _ _ _ _ (fun z => Exists.elim z (fun n414 z => ⟨n414, wl_X7_is_28_mono (fun  _ => (hQ _ _)) (fun  _ => (hQ _ _)) hQ n414 _ _ z⟩)) (hQ _ _))) (hQ _ _))
set_option maxRecDepth 16384 in
theorem wp_X7_is_ok {d : Nat} {l1 : Nat} {h : pm_H} {Q : Option Value → pm_H → Prop} (hw : wp_X7_is l1 h (fun r h => Q (some (.int r)) h)) : pm_R (d + 0) mt_X7_is 0 [some (.ref 66), some (.ref l1), none] [] h Q := by
  unfold wp_X7_is at hw
  refine pm_steps 4 ?_
  refine @pm_we _ _ _ _ _ _ hw (fun hw => ?_) (fun hw => ?_)
  · refine pm_steps 7 ?_
    refine @pm_wc _ _ _ hw (fun hw => ?_)
    refine pm_steps 1 ?_
    refine @pm_we _ _ _ _ _ _ hw (fun hw => ?_) (fun hw => ?_)
    · refine pm_steps 2 ?_
      obtain ⟨n414, hw⟩ := hw
      refine pm_fg (wl_X7_is_28_ok ?_ ?_ n414 _ _ hw) ⟨rfl, ⟨rfl, ⟨rfl, trivial⟩⟩⟩
      · intro  h412 hw
        exact pm_steps 2 hw
      · intro  h413 hw
        exact pm_steps 2 hw
    · exact pm_steps 2 hw
  · exact pm_steps 2 hw
/-! StairLinesModel.is(C)Z -/
set_option maxRecDepth 16384 in
def wp_X7_is_ (l1 : Int32) (h : pm_H) (Q : Int32 → pm_H → Prop) : Prop := pm_eq (h 66 20) 3 (pm_eq (h 66 21) l1 (Q 1 h) (Q 0 h)) (Q 0 h)
set_option maxRecDepth 16384 in
theorem wp_X7_is__mono {l1 : Int32} {h : pm_H} {Q Q' : Int32 → pm_H → Prop} (hQ : ∀ r h, Q r h → Q' r h) : wp_X7_is_ l1 h Q → wp_X7_is_ l1 h Q' := by unfold wp_X7_is_; exact (@pm_eq_mono _ _ _ _ _ _ (@pm_eq_mono _ _ _ _ _ _ (hQ _ _) (hQ _ _)) (hQ _ _))
set_option maxRecDepth 16384 in
theorem wp_X7_is__ok {d : Nat} {l1 : Int32} {h : pm_H} {Q : Option Value → pm_H → Prop} (hw : wp_X7_is_ l1 h (fun r h => Q (some (.int r)) h)) : pm_R (d + 0) mt_X7_is_ 0 [some (.ref 66), some (.int l1)] [] h Q := by
  unfold wp_X7_is_ at hw
  refine pm_steps 4 ?_
  refine @pm_we _ _ _ _ _ _ hw (fun hw => ?_) (fun hw => ?_)
  · refine pm_steps 4 ?_
    refine @pm_we _ _ _ _ _ _ hw (fun hw => ?_) (fun hw => ?_)
    · exact pm_steps 3 hw
    · exact pm_steps 2 hw
  · exact pm_steps 2 hw
/-! StairLinesModel.name()I -/
set_option maxRecDepth 16384 in
def wp_X7_name  (h : pm_H) (Q : Int32 → pm_H → Prop) : Prop := wp_X7_is 1006 h (fun r416 h415 => pm_eq r416 0 (wp_X7_is 1007 h415 (fun r418 h417 => pm_eq r418 0 (wp_X7_is 1008 h417 (fun r420 h419 => pm_eq r420 0 (wp_X7_is 1009 h419 (fun r422 h421 => pm_eq r422 0 (wp_X7_is 1010 h421 (fun r424 h423 => pm_eq r424 0 (wp_X7_is 1011 h423 (fun r426 h425 => pm_eq r426 0 (Q 0 h425) (Q 6 h425))) (Q 5 h423))) (Q 4 h421))) (Q 3 h419))) (Q 2 h417))) (Q 1 h415))
set_option maxRecDepth 16384 in
theorem wp_X7_name_mono  {h : pm_H} {Q Q' : Int32 → pm_H → Prop} (hQ : ∀ r h, Q r h → Q' r h) : wp_X7_name  h Q → wp_X7_name  h Q' := by unfold wp_X7_name; exact (@wp_X7_is_mono _ _ _ _ (fun _ _ => (@pm_eq_mono _ _ _ _ _ _ (@wp_X7_is_mono _ _ _ _ (fun _ _ => (@pm_eq_mono _ _ _ _ _ _ (@wp_X7_is_mono _ _ _ _ (fun _ _ => (@pm_eq_mono _ _ _ _ _ _ (@wp_X7_is_mono _ _ _ _ (fun _ _ => (@pm_eq_mono _ _ _ _ _ _ (@wp_X7_is_mono _ _ _ _ (fun _ _ => (@pm_eq_mono _ _ _ _ _ _ (@wp_X7_is_mono _ _ _ _ (fun _ _ => (@pm_eq_mono _ _ _ _ _ _ (hQ _ _) (hQ _ _)))) (hQ _ _)))) (hQ _ _)))) (hQ _ _)))) (hQ _ _)))) (hQ _ _))))
set_option maxRecDepth 16384 in
theorem wp_X7_name_ok {d : Nat}  {h : pm_H} {Q : Option Value → pm_H → Prop} (hw : wp_X7_name  h (fun r h => Q (some (.int r)) h)) : pm_R (d + 1) mt_X7_name 0 [some (.ref 66)] [] h Q := by
  unfold wp_X7_name at hw
  refine pm_steps 3 ?_
  refine @wp_X7_is_ok _ _ _ _ (@wp_X7_is_mono _ _ _ _ (fun r416 h415 hw => ?_) hw)
  refine pm_steps 1 ?_
  refine @pm_we _ _ _ _ _ _ hw (fun hw => ?_) (fun hw => ?_)
  · refine pm_steps 3 ?_
    refine @wp_X7_is_ok _ _ _ _ (@wp_X7_is_mono _ _ _ _ (fun r418 h417 hw => ?_) hw)
    refine pm_steps 1 ?_
    refine @pm_we _ _ _ _ _ _ hw (fun hw => ?_) (fun hw => ?_)
    · refine pm_steps 3 ?_
      refine @wp_X7_is_ok _ _ _ _ (@wp_X7_is_mono _ _ _ _ (fun r420 h419 hw => ?_) hw)
      refine pm_steps 1 ?_
      refine @pm_we _ _ _ _ _ _ hw (fun hw => ?_) (fun hw => ?_)
      · refine pm_steps 3 ?_
        refine @wp_X7_is_ok _ _ _ _ (@wp_X7_is_mono _ _ _ _ (fun r422 h421 hw => ?_) hw)
        refine pm_steps 1 ?_
        refine @pm_we _ _ _ _ _ _ hw (fun hw => ?_) (fun hw => ?_)
        · refine pm_steps 3 ?_
          refine @wp_X7_is_ok _ _ _ _ (@wp_X7_is_mono _ _ _ _ (fun r424 h423 hw => ?_) hw)
          refine pm_steps 1 ?_
          refine @pm_we _ _ _ _ _ _ hw (fun hw => ?_) (fun hw => ?_)
          · refine pm_steps 3 ?_
            refine @wp_X7_is_ok _ _ _ _ (@wp_X7_is_mono _ _ _ _ (fun r426 h425 hw => ?_) hw)
            refine pm_steps 1 ?_
            refine @pm_we _ _ _ _ _ _ hw (fun hw => ?_) (fun hw => ?_)
            · exact pm_steps 2 hw
            · exact pm_steps 2 hw
          · exact pm_steps 2 hw
        · exact pm_steps 2 hw
      · exact pm_steps 2 hw
    · exact pm_steps 2 hw
  · exact pm_steps 2 hw
/-! StairLinesModel.put(I)V -/
set_option maxRecDepth 16384 in
def wp_X7_put (l1 : Int32) (h : pm_H) (Q : pm_H → Prop) : Prop := pm_ib (pm_in (pm_op ((pm_op (170 * (h 66 13))) + (h 66 17))) 1020) (Q (pm_u (pm_u h 66 17 (pm_op ((h 66 17) + 1))) 76 (pm_op ((pm_op (170 * (h 66 13))) + (h 66 17))).toNatClampNeg l1))
set_option maxRecDepth 16384 in
theorem wp_X7_put_mono {l1 : Int32} {h : pm_H} {Q Q' : pm_H → Prop} (hQ : ∀ h, Q h → Q' h) : wp_X7_put l1 h Q → wp_X7_put l1 h Q' := by unfold wp_X7_put; exact (@pm_ib_mono _ _ _ (hQ _))
set_option maxRecDepth 16384 in
theorem wp_X7_put_ok {d : Nat} {l1 : Int32} {h : pm_H} {Q : Option Value → pm_H → Prop} (hw : wp_X7_put l1 h (fun h => Q none h)) : pm_R (d + 0) mt_X7_put 0 [some (.ref 66), some (.int l1)] [] h Q := by
  unfold wp_X7_put at hw
  refine pm_steps 16 ?_
  refine @pm_wc _ _ _ hw (fun hw => ?_)
  exact pm_steps 1 hw
/-! StairLinesModel.any()Z -/
set_option maxRecDepth 16384 in
def wl_X7_any_9 (c_both : pm_H → (Int32 → pm_H → Prop) → Prop)  (K29 : pm_H → Prop) (K40 : pm_H → Prop) (Q : Int32 → pm_H → Prop) : Nat → pm_H → Prop
  | 0, _ => False
  | n + 1, h => wp_X7_is 1003 h (fun r430 h429 => pm_eq r430 0 (K40  h429) (wp_X7_next  h429 (fun h431 => c_both  h431 (fun r433 h432 => pm_eq r433 0 (K29  h432) (wp_X7_put (-11) h432 (fun h434 => wl_X7_any_9 c_both K29 K40 Q n  h434))))))
set_option maxRecDepth 16384 in
theorem wl_X7_any_9_mono {c_both : pm_H → (Int32 → pm_H → Prop) → Prop}  {K29 K29' : pm_H → Prop} {K40 K40' : pm_H → Prop}  {Q Q' : Int32 → pm_H → Prop} (mc_both : ∀  (h : pm_H) (Q Q' : Int32 → pm_H → Prop), (∀ r h, Q r h → Q' r h) → c_both  h Q → c_both  h Q')  (mK29 : ∀  h, K29  h → K29'  h) (mK40 : ∀  h, K40  h → K40'  h) (hQ : ∀ r h, Q r h → Q' r h) : ∀ (n : Nat)  (h : pm_H), wl_X7_any_9 c_both K29 K40 Q n  h → wl_X7_any_9 c_both K29' K40' Q' n  h
  | 0, _ => id
  | n + 1, h => by unfold wl_X7_any_9; exact (@wp_X7_is_mono _ _ _ _ (fun _ _ => (@pm_eq_mono _ _ _ _ _ _ (mK40  _) (@wp_X7_next_mono _ _ _ (fun _ => (mc_both  _ _ _ (fun _ _ => (@pm_eq_mono _ _ _ _ _ _ (mK29  _) (@wp_X7_put_mono _ _ _ _ (fun _ => (wl_X7_any_9_mono mc_both mK29 mK40 hQ n  _)))))))))))
set_option maxRecDepth 16384 in
theorem wl_X7_any_9_ok {d : Nat} {c_both : pm_H → (Int32 → pm_H → Prop) → Prop}  {K29 : pm_H → Prop} {K40 : pm_H → Prop} {Q : Option Value → pm_H → Prop} (oc_both : ∀  (h : pm_H) (Q : Option Value → pm_H → Prop), c_both  h (fun r h => Q (some (.int r)) h) → pm_R (d + 1) mt_X7_both 0 [some (.ref 66)] [] h Q) (mc_both : ∀  (h : pm_H) (Q Q' : Int32 → pm_H → Prop), (∀ r h, Q r h → Q' r h) → c_both  h Q → c_both  h Q') (hK29 : ∀  (h : pm_H), K29  h → pm_R (d + 2) mt_X7_any 29 [none] [] h Q) (hK40 : ∀  (h : pm_H), K40  h → pm_R (d + 2) mt_X7_any 40 [none] [] h Q) : ∀ (n : Nat)  (h : pm_H), wl_X7_any_9 c_both K29 K40 (fun r h => Q (some (.int r)) h) n  h → pm_R (d + 2) mt_X7_any 9 [some (.ref 66)] [] h Q
  | 0, _ => fun hw => hw.elim
  | n + 1, h => fun hw => by
    unfold wl_X7_any_9 at hw
    refine pm_steps 3 ?_
    refine @wp_X7_is_ok _ _ _ _ (@wp_X7_is_mono _ _ _ _ (fun r430 h429 hw => ?_) hw)
    refine pm_steps 1 ?_
    refine @pm_we _ _ _ _ _ _ hw (fun hw => ?_) (fun hw => ?_)
    · exact pm_fg (hK40  _ hw) trivial
    · refine pm_steps 2 ?_
      refine @wp_X7_next_ok _ _ _ (@wp_X7_next_mono _ _ _ (fun h431 hw => ?_) hw)
      refine pm_steps 2 ?_
      refine oc_both  _ _ (mc_both  _ _ _ (fun r433 h432 hw => ?_) hw)
      refine pm_steps 1 ?_
      refine @pm_we _ _ _ _ _ _ hw (fun hw => ?_) (fun hw => ?_)
      · exact pm_fg (hK29  _ hw) trivial
      · refine pm_steps 3 ?_
        refine @wp_X7_put_ok _ _ _ _ (@wp_X7_put_mono _ _ _ _ (fun h434 hw => ?_) hw)
        refine pm_steps 1 ?_
        exact pm_fg (wl_X7_any_9_ok oc_both mc_both hK29 hK40 n  _ hw) ⟨rfl, trivial⟩
set_option maxRecDepth 16384 in
def wp_X7_any (c_both : pm_H → (Int32 → pm_H → Prop) → Prop)  (h : pm_H) (Q : Int32 → pm_H → Prop) : Prop := c_both  h (fun r428 h427 => pm_eq r428 0 (Q 0 h427) (∃ n437, wl_X7_any_9 c_both (fun  h435 => Q 0 h435) (fun  h436 => Q 1 h436) Q n437  h427))
set_option maxRecDepth 16384 in
theorem wp_X7_any_mono {c_both : pm_H → (Int32 → pm_H → Prop) → Prop}  {h : pm_H} {Q Q' : Int32 → pm_H → Prop} (mc_both : ∀  (h : pm_H) (Q Q' : Int32 → pm_H → Prop), (∀ r h, Q r h → Q' r h) → c_both  h Q → c_both  h Q') (hQ : ∀ r h, Q r h → Q' r h) : wp_X7_any c_both  h Q → wp_X7_any c_both  h Q' := by unfold wp_X7_any; exact (mc_both  _ _ _ (fun _ _ => (@pm_eq_mono _ _ _ _ _ _ (hQ _ _) (fun z => Exists.elim z (fun n437 z => ⟨n437, wl_X7_any_9_mono mc_both (fun  _ => (hQ _ _)) (fun  _ => (hQ _ _)) hQ n437  _ z⟩)))))
set_option maxRecDepth 16384 in
theorem wp_X7_any_ok {d : Nat} {c_both : pm_H → (Int32 → pm_H → Prop) → Prop}  {h : pm_H} {Q : Option Value → pm_H → Prop} (oc_both : ∀  (h : pm_H) (Q : Option Value → pm_H → Prop), c_both  h (fun r h => Q (some (.int r)) h) → pm_R (d + 1) mt_X7_both 0 [some (.ref 66)] [] h Q) (mc_both : ∀  (h : pm_H) (Q Q' : Int32 → pm_H → Prop), (∀ r h, Q r h → Q' r h) → c_both  h Q → c_both  h Q') (hw : wp_X7_any c_both  h (fun r h => Q (some (.int r)) h)) : pm_R (d + 2) mt_X7_any 0 [some (.ref 66)] [] h Q := by
  unfold wp_X7_any at hw
  refine pm_steps 2 ?_
  refine oc_both  _ _ (mc_both  _ _ _ (fun r428 h427 hw => ?_) hw)
  refine pm_steps 1 ?_
  refine @pm_we _ _ _ _ _ _ hw (fun hw => ?_) (fun hw => ?_)
  · exact pm_steps 2 hw
  · obtain ⟨n437, hw⟩ := hw
    refine pm_fg (wl_X7_any_9_ok oc_both mc_both ?_ ?_ n437  _ hw) ⟨rfl, trivial⟩
    · intro  h435 hw
      exact pm_steps 2 hw
    · intro  h436 hw
      exact pm_steps 2 hw
/-! StairLinesModel.both()Z -/
set_option maxRecDepth 16384 in
def wl_X7_both_9 (c_not : pm_H → (Int32 → pm_H → Prop) → Prop)  (K29 : pm_H → Prop) (K40 : pm_H → Prop) (Q : Int32 → pm_H → Prop) : Nat → pm_H → Prop
  | 0, _ => False
  | n + 1, h => wp_X7_is 1004 h (fun r441 h440 => pm_eq r441 0 (K40  h440) (wp_X7_next  h440 (fun h442 => c_not  h442 (fun r444 h443 => pm_eq r444 0 (K29  h443) (wp_X7_put (-12) h443 (fun h445 => wl_X7_both_9 c_not K29 K40 Q n  h445))))))
set_option maxRecDepth 16384 in
theorem wl_X7_both_9_mono {c_not : pm_H → (Int32 → pm_H → Prop) → Prop}  {K29 K29' : pm_H → Prop} {K40 K40' : pm_H → Prop}  {Q Q' : Int32 → pm_H → Prop} (mc_not : ∀  (h : pm_H) (Q Q' : Int32 → pm_H → Prop), (∀ r h, Q r h → Q' r h) → c_not  h Q → c_not  h Q')  (mK29 : ∀  h, K29  h → K29'  h) (mK40 : ∀  h, K40  h → K40'  h) (hQ : ∀ r h, Q r h → Q' r h) : ∀ (n : Nat)  (h : pm_H), wl_X7_both_9 c_not K29 K40 Q n  h → wl_X7_both_9 c_not K29' K40' Q' n  h
  | 0, _ => id
  | n + 1, h => by unfold wl_X7_both_9; exact (@wp_X7_is_mono _ _ _ _ (fun _ _ => (@pm_eq_mono _ _ _ _ _ _ (mK40  _) (@wp_X7_next_mono _ _ _ (fun _ => (mc_not  _ _ _ (fun _ _ => (@pm_eq_mono _ _ _ _ _ _ (mK29  _) (@wp_X7_put_mono _ _ _ _ (fun _ => (wl_X7_both_9_mono mc_not mK29 mK40 hQ n  _)))))))))))
set_option maxRecDepth 16384 in
theorem wl_X7_both_9_ok {d : Nat} {c_not : pm_H → (Int32 → pm_H → Prop) → Prop}  {K29 : pm_H → Prop} {K40 : pm_H → Prop} {Q : Option Value → pm_H → Prop} (oc_not : ∀  (h : pm_H) (Q : Option Value → pm_H → Prop), c_not  h (fun r h => Q (some (.int r)) h) → pm_R (d + 1) mt_X7_not 0 [some (.ref 66), none] [] h Q) (mc_not : ∀  (h : pm_H) (Q Q' : Int32 → pm_H → Prop), (∀ r h, Q r h → Q' r h) → c_not  h Q → c_not  h Q') (hK29 : ∀  (h : pm_H), K29  h → pm_R (d + 2) mt_X7_both 29 [none] [] h Q) (hK40 : ∀  (h : pm_H), K40  h → pm_R (d + 2) mt_X7_both 40 [none] [] h Q) : ∀ (n : Nat)  (h : pm_H), wl_X7_both_9 c_not K29 K40 (fun r h => Q (some (.int r)) h) n  h → pm_R (d + 2) mt_X7_both 9 [some (.ref 66)] [] h Q
  | 0, _ => fun hw => hw.elim
  | n + 1, h => fun hw => by
    unfold wl_X7_both_9 at hw
    refine pm_steps 3 ?_
    refine @wp_X7_is_ok _ _ _ _ (@wp_X7_is_mono _ _ _ _ (fun r441 h440 hw => ?_) hw)
    refine pm_steps 1 ?_
    refine @pm_we _ _ _ _ _ _ hw (fun hw => ?_) (fun hw => ?_)
    · exact pm_fg (hK40  _ hw) trivial
    · refine pm_steps 2 ?_
      refine @wp_X7_next_ok _ _ _ (@wp_X7_next_mono _ _ _ (fun h442 hw => ?_) hw)
      refine pm_steps 2 ?_
      refine oc_not  _ _ (mc_not  _ _ _ (fun r444 h443 hw => ?_) hw)
      refine pm_steps 1 ?_
      refine @pm_we _ _ _ _ _ _ hw (fun hw => ?_) (fun hw => ?_)
      · exact pm_fg (hK29  _ hw) trivial
      · refine pm_steps 3 ?_
        refine @wp_X7_put_ok _ _ _ _ (@wp_X7_put_mono _ _ _ _ (fun h445 hw => ?_) hw)
        refine pm_steps 1 ?_
        exact pm_fg (wl_X7_both_9_ok oc_not mc_not hK29 hK40 n  _ hw) ⟨rfl, trivial⟩
set_option maxRecDepth 16384 in
def wp_X7_both (c_not : pm_H → (Int32 → pm_H → Prop) → Prop)  (h : pm_H) (Q : Int32 → pm_H → Prop) : Prop := c_not  h (fun r439 h438 => pm_eq r439 0 (Q 0 h438) (∃ n448, wl_X7_both_9 c_not (fun  h446 => Q 0 h446) (fun  h447 => Q 1 h447) Q n448  h438))
set_option maxRecDepth 16384 in
theorem wp_X7_both_mono {c_not : pm_H → (Int32 → pm_H → Prop) → Prop}  {h : pm_H} {Q Q' : Int32 → pm_H → Prop} (mc_not : ∀  (h : pm_H) (Q Q' : Int32 → pm_H → Prop), (∀ r h, Q r h → Q' r h) → c_not  h Q → c_not  h Q') (hQ : ∀ r h, Q r h → Q' r h) : wp_X7_both c_not  h Q → wp_X7_both c_not  h Q' := by unfold wp_X7_both; exact (mc_not  _ _ _ (fun _ _ => (@pm_eq_mono _ _ _ _ _ _ (hQ _ _) (fun z => Exists.elim z (fun n448 z => ⟨n448, wl_X7_both_9_mono mc_not (fun  _ => (hQ _ _)) (fun  _ => (hQ _ _)) hQ n448  _ z⟩)))))
set_option maxRecDepth 16384 in
theorem wp_X7_both_ok {d : Nat} {c_not : pm_H → (Int32 → pm_H → Prop) → Prop}  {h : pm_H} {Q : Option Value → pm_H → Prop} (oc_not : ∀  (h : pm_H) (Q : Option Value → pm_H → Prop), c_not  h (fun r h => Q (some (.int r)) h) → pm_R (d + 1) mt_X7_not 0 [some (.ref 66), none] [] h Q) (mc_not : ∀  (h : pm_H) (Q Q' : Int32 → pm_H → Prop), (∀ r h, Q r h → Q' r h) → c_not  h Q → c_not  h Q') (hw : wp_X7_both c_not  h (fun r h => Q (some (.int r)) h)) : pm_R (d + 2) mt_X7_both 0 [some (.ref 66)] [] h Q := by
  unfold wp_X7_both at hw
  refine pm_steps 2 ?_
  refine oc_not  _ _ (mc_not  _ _ _ (fun r439 h438 hw => ?_) hw)
  refine pm_steps 1 ?_
  refine @pm_we _ _ _ _ _ _ hw (fun hw => ?_) (fun hw => ?_)
  · exact pm_steps 2 hw
  · obtain ⟨n448, hw⟩ := hw
    refine pm_fg (wl_X7_both_9_ok oc_not mc_not ?_ ?_ n448  _ hw) ⟨rfl, trivial⟩
    · intro  h446 hw
      exact pm_steps 2 hw
    · intro  h447 hw
      exact pm_steps 2 hw
/-! StairLinesModel.not()Z -/
set_option maxRecDepth 16384 in
def wp_X7_not (c_sum : pm_H → (Int32 → pm_H → Prop) → Prop) (c_not : pm_H → (Int32 → pm_H → Prop) → Prop)  (h : pm_H) (Q : Int32 → pm_H → Prop) : Prop := wp_X7_is 1005 h (fun r450 h449 => pm_eq r450 0 (c_sum  h449 (fun r452 h451 => pm_eq r452 0 (Q 0 h451) (wp_X7_is_ 60 h451 (fun r454 h453 => pm_eq r454 0 (wp_X7_is_ 61 h453 (fun r456 h455 => pm_eq r456 0 (Q 1 h455) (wp_X7_is_ 60 h455 (fun r458 h457 => pm_eq r458 0 (wp_X7_next  h457 (fun h459 => c_sum  h459 (fun r461 h460 => pm_eq r461 0 (Q 0 h460) (wp_X7_put (-15) h460 (fun h462 => Q 1 h462))))) (wp_X7_next  h457 (fun h463 => c_sum  h463 (fun r465 h464 => pm_eq r465 0 (Q 0 h464) (wp_X7_put (-14) h464 (fun h466 => Q 1 h466))))))))) (wp_X7_is_ 60 h453 (fun r468 h467 => pm_eq r468 0 (wp_X7_next  h467 (fun h469 => c_sum  h469 (fun r471 h470 => pm_eq r471 0 (Q 0 h470) (wp_X7_put (-15) h470 (fun h472 => Q 1 h472))))) (wp_X7_next  h467 (fun h473 => c_sum  h473 (fun r475 h474 => pm_eq r475 0 (Q 0 h474) (wp_X7_put (-14) h474 (fun h476 => Q 1 h476))))))))))) (pm_eq (h449 66 22) 5 (Q 0 h449) (wp_X7_next  (pm_u h449 66 22 (pm_op ((h449 66 22) + 1))) (fun h477 => c_not  h477 (fun r479 h478 => pm_eq r479 0 (Q 0 h478) (wp_X7_put (-13) (pm_u h478 66 22 (pm_op ((h478 66 22) - 1))) (fun h480 => Q 1 h480)))))))
set_option maxRecDepth 16384 in
theorem wp_X7_not_mono {c_sum : pm_H → (Int32 → pm_H → Prop) → Prop} {c_not : pm_H → (Int32 → pm_H → Prop) → Prop}  {h : pm_H} {Q Q' : Int32 → pm_H → Prop} (mc_sum : ∀  (h : pm_H) (Q Q' : Int32 → pm_H → Prop), (∀ r h, Q r h → Q' r h) → c_sum  h Q → c_sum  h Q') (mc_not : ∀  (h : pm_H) (Q Q' : Int32 → pm_H → Prop), (∀ r h, Q r h → Q' r h) → c_not  h Q → c_not  h Q') (hQ : ∀ r h, Q r h → Q' r h) : wp_X7_not c_sum c_not  h Q → wp_X7_not c_sum c_not  h Q' := by unfold wp_X7_not; exact (@wp_X7_is_mono _ _ _ _ (fun _ _ => (@pm_eq_mono _ _ _ _ _ _ (mc_sum  _ _ _ (fun _ _ => (@pm_eq_mono _ _ _ _ _ _ (hQ _ _) (@wp_X7_is__mono _ _ _ _ (fun _ _ => (@pm_eq_mono _ _ _ _ _ _ (@wp_X7_is__mono _ _ _ _ (fun _ _ => (@pm_eq_mono _ _ _ _ _ _ (hQ _ _) (@wp_X7_is__mono _ _ _ _ (fun _ _ => (@pm_eq_mono _ _ _ _ _ _ (@wp_X7_next_mono _ _ _ (fun _ => (mc_sum  _ _ _ (fun _ _ => (@pm_eq_mono _ _ _ _ _ _ (hQ _ _) (@wp_X7_put_mono _ _ _ _ (fun _ => (hQ _ _)))))))) (@wp_X7_next_mono _ _ _ (fun _ => (mc_sum  _ _ _ (fun _ _ => (@pm_eq_mono _ _ _ _ _ _ (hQ _ _) (@wp_X7_put_mono _ _ _ _ (fun _ => (hQ _ _)))))))))))))) (@wp_X7_is__mono _ _ _ _ (fun _ _ => (@pm_eq_mono _ _ _ _ _ _ (@wp_X7_next_mono _ _ _ (fun _ => (mc_sum  _ _ _ (fun _ _ => (@pm_eq_mono _ _ _ _ _ _ (hQ _ _) (@wp_X7_put_mono _ _ _ _ (fun _ => (hQ _ _)))))))) (@wp_X7_next_mono _ _ _ (fun _ => (mc_sum  _ _ _ (fun _ _ => (@pm_eq_mono _ _ _ _ _ _ (hQ _ _) (@wp_X7_put_mono _ _ _ _ (fun _ => (hQ _ _))))))))))))))))) (@pm_eq_mono _ _ _ _ _ _ (hQ _ _) (@wp_X7_next_mono _ _ _ (fun _ => (mc_not  _ _ _ (fun _ _ => (@pm_eq_mono _ _ _ _ _ _ (hQ _ _) (@wp_X7_put_mono _ _ _ _ (fun _ => (hQ _ _))))))))))))
set_option maxRecDepth 16384 in
theorem wp_X7_not_ok {d : Nat} {c_sum : pm_H → (Int32 → pm_H → Prop) → Prop} {c_not : pm_H → (Int32 → pm_H → Prop) → Prop}  {h : pm_H} {Q : Option Value → pm_H → Prop} (oc_sum : ∀  (h : pm_H) (Q : Option Value → pm_H → Prop), c_sum  h (fun r h => Q (some (.int r)) h) → pm_R (d + 1) mt_X7_sum 0 [some (.ref 66), none] [] h Q) (oc_not : ∀  (h : pm_H) (Q : Option Value → pm_H → Prop), c_not  h (fun r h => Q (some (.int r)) h) → pm_R (d + 1) mt_X7_not 0 [some (.ref 66), none] [] h Q) (mc_sum : ∀  (h : pm_H) (Q Q' : Int32 → pm_H → Prop), (∀ r h, Q r h → Q' r h) → c_sum  h Q → c_sum  h Q') (mc_not : ∀  (h : pm_H) (Q Q' : Int32 → pm_H → Prop), (∀ r h, Q r h → Q' r h) → c_not  h Q → c_not  h Q') (hw : wp_X7_not c_sum c_not  h (fun r h => Q (some (.int r)) h)) : pm_R (d + 2) mt_X7_not 0 [some (.ref 66), none] [] h Q := by
  unfold wp_X7_not at hw
  refine pm_steps 3 ?_
  refine @wp_X7_is_ok _ _ _ _ (@wp_X7_is_mono _ _ _ _ (fun r450 h449 hw => ?_) hw)
  refine pm_steps 1 ?_
  refine @pm_we _ _ _ _ _ _ hw (fun hw => ?_) (fun hw => ?_)
  · refine pm_steps 2 ?_
    refine oc_sum  _ _ (mc_sum  _ _ _ (fun r452 h451 hw => ?_) hw)
    refine pm_steps 1 ?_
    refine @pm_we _ _ _ _ _ _ hw (fun hw => ?_) (fun hw => ?_)
    · exact pm_steps 2 hw
    · refine pm_steps 3 ?_
      refine @wp_X7_is__ok _ _ _ _ (@wp_X7_is__mono _ _ _ _ (fun r454 h453 hw => ?_) hw)
      refine pm_steps 1 ?_
      refine @pm_we _ _ _ _ _ _ hw (fun hw => ?_) (fun hw => ?_)
      · refine pm_steps 3 ?_
        refine @wp_X7_is__ok _ _ _ _ (@wp_X7_is__mono _ _ _ _ (fun r456 h455 hw => ?_) hw)
        refine pm_steps 1 ?_
        refine @pm_we _ _ _ _ _ _ hw (fun hw => ?_) (fun hw => ?_)
        · exact pm_steps 2 hw
        · refine pm_steps 3 ?_
          refine @wp_X7_is__ok _ _ _ _ (@wp_X7_is__mono _ _ _ _ (fun r458 h457 hw => ?_) hw)
          refine pm_steps 1 ?_
          refine @pm_we _ _ _ _ _ _ hw (fun hw => ?_) (fun hw => ?_)
          · refine pm_steps 4 ?_
            refine @wp_X7_next_ok _ _ _ (@wp_X7_next_mono _ _ _ (fun h459 hw => ?_) hw)
            refine pm_steps 2 ?_
            refine oc_sum  _ _ (mc_sum  _ _ _ (fun r461 h460 hw => ?_) hw)
            refine pm_steps 1 ?_
            refine @pm_we _ _ _ _ _ _ hw (fun hw => ?_) (fun hw => ?_)
            · exact pm_steps 2 hw
            · refine pm_steps 3 ?_
              refine @wp_X7_put_ok _ _ _ _ (@wp_X7_put_mono _ _ _ _ (fun h462 hw => ?_) hw)
              exact pm_steps 2 hw
          · refine pm_steps 5 ?_
            refine @wp_X7_next_ok _ _ _ (@wp_X7_next_mono _ _ _ (fun h463 hw => ?_) hw)
            refine pm_steps 2 ?_
            refine oc_sum  _ _ (mc_sum  _ _ _ (fun r465 h464 hw => ?_) hw)
            refine pm_steps 1 ?_
            refine @pm_we _ _ _ _ _ _ hw (fun hw => ?_) (fun hw => ?_)
            · exact pm_steps 2 hw
            · refine pm_steps 3 ?_
              refine @wp_X7_put_ok _ _ _ _ (@wp_X7_put_mono _ _ _ _ (fun h466 hw => ?_) hw)
              exact pm_steps 2 hw
      · refine pm_steps 3 ?_
        refine @wp_X7_is__ok _ _ _ _ (@wp_X7_is__mono _ _ _ _ (fun r468 h467 hw => ?_) hw)
        refine pm_steps 1 ?_
        refine @pm_we _ _ _ _ _ _ hw (fun hw => ?_) (fun hw => ?_)
        · refine pm_steps 4 ?_
          refine @wp_X7_next_ok _ _ _ (@wp_X7_next_mono _ _ _ (fun h469 hw => ?_) hw)
          refine pm_steps 2 ?_
          refine oc_sum  _ _ (mc_sum  _ _ _ (fun r471 h470 hw => ?_) hw)
          refine pm_steps 1 ?_
          refine @pm_we _ _ _ _ _ _ hw (fun hw => ?_) (fun hw => ?_)
          · exact pm_steps 2 hw
          · refine pm_steps 3 ?_
            refine @wp_X7_put_ok _ _ _ _ (@wp_X7_put_mono _ _ _ _ (fun h472 hw => ?_) hw)
            exact pm_steps 2 hw
        · refine pm_steps 5 ?_
          refine @wp_X7_next_ok _ _ _ (@wp_X7_next_mono _ _ _ (fun h473 hw => ?_) hw)
          refine pm_steps 2 ?_
          refine oc_sum  _ _ (mc_sum  _ _ _ (fun r475 h474 hw => ?_) hw)
          refine pm_steps 1 ?_
          refine @pm_we _ _ _ _ _ _ hw (fun hw => ?_) (fun hw => ?_)
          · exact pm_steps 2 hw
          · refine pm_steps 3 ?_
            refine @wp_X7_put_ok _ _ _ _ (@wp_X7_put_mono _ _ _ _ (fun h476 hw => ?_) hw)
            exact pm_steps 2 hw
  · refine pm_steps 4 ?_
    refine @pm_we _ _ _ _ _ _ hw (fun hw => ?_) (fun hw => ?_)
    · exact pm_steps 2 hw
    · refine pm_steps 8 ?_
      refine @wp_X7_next_ok _ _ _ (@wp_X7_next_mono _ _ _ (fun h477 hw => ?_) hw)
      refine pm_steps 2 ?_
      refine oc_not  _ _ (mc_not  _ _ _ (fun r479 h478 hw => ?_) hw)
      refine pm_steps 1 ?_
      refine @pm_we _ _ _ _ _ _ hw (fun hw => ?_) (fun hw => ?_)
      · exact pm_steps 2 hw
      · refine pm_steps 9 ?_
        refine @wp_X7_put_ok _ _ _ _ (@wp_X7_put_mono _ _ _ _ (fun h480 hw => ?_) hw)
        exact pm_steps 2 hw
/-! StairLinesModel.sum()Z -/
set_option maxRecDepth 16384 in
def wl_X7_sum_9 (c_term : pm_H → (Int32 → pm_H → Prop) → Prop)  (K55 : pm_H → Prop) (K65 : pm_H → Prop) (Q : Int32 → pm_H → Prop) : Nat → pm_H → Prop
  | 0, _ => False
  | n + 1, h => wp_X7_is_ 43 h (fun r484 h483 => pm_eq r484 0 (wp_X7_is_ 45 h483 (fun r486 h485 => pm_eq r486 0 (K65  h485) (wp_X7_is_ 43 h485 (fun r488 h487 => pm_eq r488 0 (wp_X7_next  h487 (fun h489 => c_term  h489 (fun r491 h490 => pm_eq r491 0 (K55  h490) (wp_X7_put (-17) h490 (fun h492 => wl_X7_sum_9 c_term K55 K65 Q n  h492))))) (wp_X7_next  h487 (fun h493 => c_term  h493 (fun r495 h494 => pm_eq r495 0 (K55  h494) (wp_X7_put (-16) h494 (fun h496 => wl_X7_sum_9 c_term K55 K65 Q n  h496))))))))) (wp_X7_is_ 43 h483 (fun r498 h497 => pm_eq r498 0 (wp_X7_next  h497 (fun h499 => c_term  h499 (fun r501 h500 => pm_eq r501 0 (K55  h500) (wp_X7_put (-17) h500 (fun h502 => wl_X7_sum_9 c_term K55 K65 Q n  h502))))) (wp_X7_next  h497 (fun h503 => c_term  h503 (fun r505 h504 => pm_eq r505 0 (K55  h504) (wp_X7_put (-16) h504 (fun h506 => wl_X7_sum_9 c_term K55 K65 Q n  h506))))))))
set_option maxRecDepth 16384 in
theorem wl_X7_sum_9_mono {c_term : pm_H → (Int32 → pm_H → Prop) → Prop}  {K55 K55' : pm_H → Prop} {K65 K65' : pm_H → Prop}  {Q Q' : Int32 → pm_H → Prop} (mc_term : ∀  (h : pm_H) (Q Q' : Int32 → pm_H → Prop), (∀ r h, Q r h → Q' r h) → c_term  h Q → c_term  h Q')  (mK55 : ∀  h, K55  h → K55'  h) (mK65 : ∀  h, K65  h → K65'  h) (hQ : ∀ r h, Q r h → Q' r h) : ∀ (n : Nat)  (h : pm_H), wl_X7_sum_9 c_term K55 K65 Q n  h → wl_X7_sum_9 c_term K55' K65' Q' n  h
  | 0, _ => id
  | n + 1, h => by unfold wl_X7_sum_9; exact (@wp_X7_is__mono _ _ _ _ (fun _ _ => (@pm_eq_mono _ _ _ _ _ _ (@wp_X7_is__mono _ _ _ _ (fun _ _ => (@pm_eq_mono _ _ _ _ _ _ (mK65  _) (@wp_X7_is__mono _ _ _ _ (fun _ _ => (@pm_eq_mono _ _ _ _ _ _ (@wp_X7_next_mono _ _ _ (fun _ => (mc_term  _ _ _ (fun _ _ => (@pm_eq_mono _ _ _ _ _ _ (mK55  _) (@wp_X7_put_mono _ _ _ _ (fun _ => (wl_X7_sum_9_mono mc_term mK55 mK65 hQ n  _)))))))) (@wp_X7_next_mono _ _ _ (fun _ => (mc_term  _ _ _ (fun _ _ => (@pm_eq_mono _ _ _ _ _ _ (mK55  _) (@wp_X7_put_mono _ _ _ _ (fun _ => (wl_X7_sum_9_mono mc_term mK55 mK65 hQ n  _)))))))))))))) (@wp_X7_is__mono _ _ _ _ (fun _ _ => (@pm_eq_mono _ _ _ _ _ _ (@wp_X7_next_mono _ _ _ (fun _ => (mc_term  _ _ _ (fun _ _ => (@pm_eq_mono _ _ _ _ _ _ (mK55  _) (@wp_X7_put_mono _ _ _ _ (fun _ => (wl_X7_sum_9_mono mc_term mK55 mK65 hQ n  _)))))))) (@wp_X7_next_mono _ _ _ (fun _ => (mc_term  _ _ _ (fun _ _ => (@pm_eq_mono _ _ _ _ _ _ (mK55  _) (@wp_X7_put_mono _ _ _ _ (fun _ => (wl_X7_sum_9_mono mc_term mK55 mK65 hQ n  _))))))))))))))
set_option maxRecDepth 16384 in
theorem wl_X7_sum_9_ok {d : Nat} {c_term : pm_H → (Int32 → pm_H → Prop) → Prop}  {K55 : pm_H → Prop} {K65 : pm_H → Prop} {Q : Option Value → pm_H → Prop} (oc_term : ∀  (h : pm_H) (Q : Option Value → pm_H → Prop), c_term  h (fun r h => Q (some (.int r)) h) → pm_R (d + 1) mt_X7_term 0 [some (.ref 66)] [] h Q) (mc_term : ∀  (h : pm_H) (Q Q' : Int32 → pm_H → Prop), (∀ r h, Q r h → Q' r h) → c_term  h Q → c_term  h Q') (hK55 : ∀  (h : pm_H), K55  h → pm_R (d + 2) mt_X7_sum 55 [none, none] [] h Q) (hK65 : ∀  (h : pm_H), K65  h → pm_R (d + 2) mt_X7_sum 65 [none, none] [] h Q) : ∀ (n : Nat)  (h : pm_H), wl_X7_sum_9 c_term K55 K65 (fun r h => Q (some (.int r)) h) n  h → pm_R (d + 2) mt_X7_sum 9 [some (.ref 66), none] [] h Q
  | 0, _ => fun hw => hw.elim
  | n + 1, h => fun hw => by
    unfold wl_X7_sum_9 at hw
    refine pm_steps 3 ?_
    refine @wp_X7_is__ok _ _ _ _ (@wp_X7_is__mono _ _ _ _ (fun r484 h483 hw => ?_) hw)
    refine pm_steps 1 ?_
    refine @pm_we _ _ _ _ _ _ hw (fun hw => ?_) (fun hw => ?_)
    · refine pm_steps 3 ?_
      refine @wp_X7_is__ok _ _ _ _ (@wp_X7_is__mono _ _ _ _ (fun r486 h485 hw => ?_) hw)
      refine pm_steps 1 ?_
      refine @pm_we _ _ _ _ _ _ hw (fun hw => ?_) (fun hw => ?_)
      · exact pm_fg (hK65  _ hw) trivial
      · refine pm_steps 3 ?_
        refine @wp_X7_is__ok _ _ _ _ (@wp_X7_is__mono _ _ _ _ (fun r488 h487 hw => ?_) hw)
        refine pm_steps 1 ?_
        refine @pm_we _ _ _ _ _ _ hw (fun hw => ?_) (fun hw => ?_)
        · refine pm_steps 4 ?_
          refine @wp_X7_next_ok _ _ _ (@wp_X7_next_mono _ _ _ (fun h489 hw => ?_) hw)
          refine pm_steps 2 ?_
          refine oc_term  _ _ (mc_term  _ _ _ (fun r491 h490 hw => ?_) hw)
          refine pm_steps 1 ?_
          refine @pm_we _ _ _ _ _ _ hw (fun hw => ?_) (fun hw => ?_)
          · exact pm_fg (hK55  _ hw) trivial
          · refine pm_steps 3 ?_
            refine @wp_X7_put_ok _ _ _ _ (@wp_X7_put_mono _ _ _ _ (fun h492 hw => ?_) hw)
            refine pm_steps 1 ?_
            exact pm_fg (wl_X7_sum_9_ok oc_term mc_term hK55 hK65 n  _ hw) ⟨rfl, trivial⟩
        · refine pm_steps 5 ?_
          refine @wp_X7_next_ok _ _ _ (@wp_X7_next_mono _ _ _ (fun h493 hw => ?_) hw)
          refine pm_steps 2 ?_
          refine oc_term  _ _ (mc_term  _ _ _ (fun r495 h494 hw => ?_) hw)
          refine pm_steps 1 ?_
          refine @pm_we _ _ _ _ _ _ hw (fun hw => ?_) (fun hw => ?_)
          · exact pm_fg (hK55  _ hw) trivial
          · refine pm_steps 3 ?_
            refine @wp_X7_put_ok _ _ _ _ (@wp_X7_put_mono _ _ _ _ (fun h496 hw => ?_) hw)
            refine pm_steps 1 ?_
            exact pm_fg (wl_X7_sum_9_ok oc_term mc_term hK55 hK65 n  _ hw) ⟨rfl, trivial⟩
    · refine pm_steps 3 ?_
      refine @wp_X7_is__ok _ _ _ _ (@wp_X7_is__mono _ _ _ _ (fun r498 h497 hw => ?_) hw)
      refine pm_steps 1 ?_
      refine @pm_we _ _ _ _ _ _ hw (fun hw => ?_) (fun hw => ?_)
      · refine pm_steps 4 ?_
        refine @wp_X7_next_ok _ _ _ (@wp_X7_next_mono _ _ _ (fun h499 hw => ?_) hw)
        refine pm_steps 2 ?_
        refine oc_term  _ _ (mc_term  _ _ _ (fun r501 h500 hw => ?_) hw)
        refine pm_steps 1 ?_
        refine @pm_we _ _ _ _ _ _ hw (fun hw => ?_) (fun hw => ?_)
        · exact pm_fg (hK55  _ hw) trivial
        · refine pm_steps 3 ?_
          refine @wp_X7_put_ok _ _ _ _ (@wp_X7_put_mono _ _ _ _ (fun h502 hw => ?_) hw)
          refine pm_steps 1 ?_
          exact pm_fg (wl_X7_sum_9_ok oc_term mc_term hK55 hK65 n  _ hw) ⟨rfl, trivial⟩
      · refine pm_steps 5 ?_
        refine @wp_X7_next_ok _ _ _ (@wp_X7_next_mono _ _ _ (fun h503 hw => ?_) hw)
        refine pm_steps 2 ?_
        refine oc_term  _ _ (mc_term  _ _ _ (fun r505 h504 hw => ?_) hw)
        refine pm_steps 1 ?_
        refine @pm_we _ _ _ _ _ _ hw (fun hw => ?_) (fun hw => ?_)
        · exact pm_fg (hK55  _ hw) trivial
        · refine pm_steps 3 ?_
          refine @wp_X7_put_ok _ _ _ _ (@wp_X7_put_mono _ _ _ _ (fun h506 hw => ?_) hw)
          refine pm_steps 1 ?_
          exact pm_fg (wl_X7_sum_9_ok oc_term mc_term hK55 hK65 n  _ hw) ⟨rfl, trivial⟩
set_option maxRecDepth 16384 in
def wp_X7_sum (c_term : pm_H → (Int32 → pm_H → Prop) → Prop)  (h : pm_H) (Q : Int32 → pm_H → Prop) : Prop := c_term  h (fun r482 h481 => pm_eq r482 0 (Q 0 h481) (∃ n509, wl_X7_sum_9 c_term (fun  h507 => Q 0 h507) (fun  h508 => Q 1 h508) Q n509  h481))
set_option maxRecDepth 16384 in
theorem wp_X7_sum_mono {c_term : pm_H → (Int32 → pm_H → Prop) → Prop}  {h : pm_H} {Q Q' : Int32 → pm_H → Prop} (mc_term : ∀  (h : pm_H) (Q Q' : Int32 → pm_H → Prop), (∀ r h, Q r h → Q' r h) → c_term  h Q → c_term  h Q') (hQ : ∀ r h, Q r h → Q' r h) : wp_X7_sum c_term  h Q → wp_X7_sum c_term  h Q' := by unfold wp_X7_sum; exact (mc_term  _ _ _ (fun _ _ => (@pm_eq_mono _ _ _ _ _ _ (hQ _ _) (fun z => Exists.elim z (fun n509 z => ⟨n509, wl_X7_sum_9_mono mc_term (fun  _ => (hQ _ _)) (fun  _ => (hQ _ _)) hQ n509  _ z⟩)))))
set_option maxRecDepth 16384 in
theorem wp_X7_sum_ok {d : Nat} {c_term : pm_H → (Int32 → pm_H → Prop) → Prop}  {h : pm_H} {Q : Option Value → pm_H → Prop} (oc_term : ∀  (h : pm_H) (Q : Option Value → pm_H → Prop), c_term  h (fun r h => Q (some (.int r)) h) → pm_R (d + 1) mt_X7_term 0 [some (.ref 66)] [] h Q) (mc_term : ∀  (h : pm_H) (Q Q' : Int32 → pm_H → Prop), (∀ r h, Q r h → Q' r h) → c_term  h Q → c_term  h Q') (hw : wp_X7_sum c_term  h (fun r h => Q (some (.int r)) h)) : pm_R (d + 2) mt_X7_sum 0 [some (.ref 66), none] [] h Q := by
  unfold wp_X7_sum at hw
  refine pm_steps 2 ?_
  refine oc_term  _ _ (mc_term  _ _ _ (fun r482 h481 hw => ?_) hw)
  refine pm_steps 1 ?_
  refine @pm_we _ _ _ _ _ _ hw (fun hw => ?_) (fun hw => ?_)
  · exact pm_steps 2 hw
  · obtain ⟨n509, hw⟩ := hw
    refine pm_fg (wl_X7_sum_9_ok oc_term mc_term ?_ ?_ n509  _ hw) ⟨rfl, trivial⟩
    · intro  h507 hw
      exact pm_steps 2 hw
    · intro  h508 hw
      exact pm_steps 2 hw
/-! StairLinesModel.term()Z -/
set_option maxRecDepth 16384 in
def wl_X7_term_9 (c_one : pm_H → (Int32 → pm_H → Prop) → Prop)  (K29 : pm_H → Prop) (K40 : pm_H → Prop) (Q : Int32 → pm_H → Prop) : Nat → pm_H → Prop
  | 0, _ => False
  | n + 1, h => wp_X7_is_ 42 h (fun r513 h512 => pm_eq r513 0 (K40  h512) (wp_X7_next  h512 (fun h514 => c_one  h514 (fun r516 h515 => pm_eq r516 0 (K29  h515) (wp_X7_put (-18) h515 (fun h517 => wl_X7_term_9 c_one K29 K40 Q n  h517))))))
set_option maxRecDepth 16384 in
theorem wl_X7_term_9_mono {c_one : pm_H → (Int32 → pm_H → Prop) → Prop}  {K29 K29' : pm_H → Prop} {K40 K40' : pm_H → Prop}  {Q Q' : Int32 → pm_H → Prop} (mc_one : ∀  (h : pm_H) (Q Q' : Int32 → pm_H → Prop), (∀ r h, Q r h → Q' r h) → c_one  h Q → c_one  h Q')  (mK29 : ∀  h, K29  h → K29'  h) (mK40 : ∀  h, K40  h → K40'  h) (hQ : ∀ r h, Q r h → Q' r h) : ∀ (n : Nat)  (h : pm_H), wl_X7_term_9 c_one K29 K40 Q n  h → wl_X7_term_9 c_one K29' K40' Q' n  h
  | 0, _ => id
  | n + 1, h => by unfold wl_X7_term_9; exact (@wp_X7_is__mono _ _ _ _ (fun _ _ => (@pm_eq_mono _ _ _ _ _ _ (mK40  _) (@wp_X7_next_mono _ _ _ (fun _ => (mc_one  _ _ _ (fun _ _ => (@pm_eq_mono _ _ _ _ _ _ (mK29  _) (@wp_X7_put_mono _ _ _ _ (fun _ => (wl_X7_term_9_mono mc_one mK29 mK40 hQ n  _)))))))))))
set_option maxRecDepth 16384 in
theorem wl_X7_term_9_ok {d : Nat} {c_one : pm_H → (Int32 → pm_H → Prop) → Prop}  {K29 : pm_H → Prop} {K40 : pm_H → Prop} {Q : Option Value → pm_H → Prop} (oc_one : ∀  (h : pm_H) (Q : Option Value → pm_H → Prop), c_one  h (fun r h => Q (some (.int r)) h) → pm_R (d + 1) mt_X7_one 0 [some (.ref 66), none] [] h Q) (mc_one : ∀  (h : pm_H) (Q Q' : Int32 → pm_H → Prop), (∀ r h, Q r h → Q' r h) → c_one  h Q → c_one  h Q') (hK29 : ∀  (h : pm_H), K29  h → pm_R (d + 2) mt_X7_term 29 [none] [] h Q) (hK40 : ∀  (h : pm_H), K40  h → pm_R (d + 2) mt_X7_term 40 [none] [] h Q) : ∀ (n : Nat)  (h : pm_H), wl_X7_term_9 c_one K29 K40 (fun r h => Q (some (.int r)) h) n  h → pm_R (d + 2) mt_X7_term 9 [some (.ref 66)] [] h Q
  | 0, _ => fun hw => hw.elim
  | n + 1, h => fun hw => by
    unfold wl_X7_term_9 at hw
    refine pm_steps 3 ?_
    refine @wp_X7_is__ok _ _ _ _ (@wp_X7_is__mono _ _ _ _ (fun r513 h512 hw => ?_) hw)
    refine pm_steps 1 ?_
    refine @pm_we _ _ _ _ _ _ hw (fun hw => ?_) (fun hw => ?_)
    · exact pm_fg (hK40  _ hw) trivial
    · refine pm_steps 2 ?_
      refine @wp_X7_next_ok _ _ _ (@wp_X7_next_mono _ _ _ (fun h514 hw => ?_) hw)
      refine pm_steps 2 ?_
      refine oc_one  _ _ (mc_one  _ _ _ (fun r516 h515 hw => ?_) hw)
      refine pm_steps 1 ?_
      refine @pm_we _ _ _ _ _ _ hw (fun hw => ?_) (fun hw => ?_)
      · exact pm_fg (hK29  _ hw) trivial
      · refine pm_steps 3 ?_
        refine @wp_X7_put_ok _ _ _ _ (@wp_X7_put_mono _ _ _ _ (fun h517 hw => ?_) hw)
        refine pm_steps 1 ?_
        exact pm_fg (wl_X7_term_9_ok oc_one mc_one hK29 hK40 n  _ hw) ⟨rfl, trivial⟩
set_option maxRecDepth 16384 in
def wp_X7_term (c_one : pm_H → (Int32 → pm_H → Prop) → Prop)  (h : pm_H) (Q : Int32 → pm_H → Prop) : Prop := c_one  h (fun r511 h510 => pm_eq r511 0 (Q 0 h510) (∃ n520, wl_X7_term_9 c_one (fun  h518 => Q 0 h518) (fun  h519 => Q 1 h519) Q n520  h510))
set_option maxRecDepth 16384 in
theorem wp_X7_term_mono {c_one : pm_H → (Int32 → pm_H → Prop) → Prop}  {h : pm_H} {Q Q' : Int32 → pm_H → Prop} (mc_one : ∀  (h : pm_H) (Q Q' : Int32 → pm_H → Prop), (∀ r h, Q r h → Q' r h) → c_one  h Q → c_one  h Q') (hQ : ∀ r h, Q r h → Q' r h) : wp_X7_term c_one  h Q → wp_X7_term c_one  h Q' := by unfold wp_X7_term; exact (mc_one  _ _ _ (fun _ _ => (@pm_eq_mono _ _ _ _ _ _ (hQ _ _) (fun z => Exists.elim z (fun n520 z => ⟨n520, wl_X7_term_9_mono mc_one (fun  _ => (hQ _ _)) (fun  _ => (hQ _ _)) hQ n520  _ z⟩)))))
set_option maxRecDepth 16384 in
theorem wp_X7_term_ok {d : Nat} {c_one : pm_H → (Int32 → pm_H → Prop) → Prop}  {h : pm_H} {Q : Option Value → pm_H → Prop} (oc_one : ∀  (h : pm_H) (Q : Option Value → pm_H → Prop), c_one  h (fun r h => Q (some (.int r)) h) → pm_R (d + 1) mt_X7_one 0 [some (.ref 66), none] [] h Q) (mc_one : ∀  (h : pm_H) (Q Q' : Int32 → pm_H → Prop), (∀ r h, Q r h → Q' r h) → c_one  h Q → c_one  h Q') (hw : wp_X7_term c_one  h (fun r h => Q (some (.int r)) h)) : pm_R (d + 2) mt_X7_term 0 [some (.ref 66)] [] h Q := by
  unfold wp_X7_term at hw
  refine pm_steps 2 ?_
  refine oc_one  _ _ (mc_one  _ _ _ (fun r511 h510 hw => ?_) hw)
  refine pm_steps 1 ?_
  refine @pm_we _ _ _ _ _ _ hw (fun hw => ?_) (fun hw => ?_)
  · exact pm_steps 2 hw
  · obtain ⟨n520, hw⟩ := hw
    refine pm_fg (wl_X7_term_9_ok oc_one mc_one ?_ ?_ n520  _ hw) ⟨rfl, trivial⟩
    · intro  h518 hw
      exact pm_steps 2 hw
    · intro  h519 hw
      exact pm_steps 2 hw
/-! StairLinesModel.one()Z -/
set_option maxRecDepth 16384 in
def wp_X7_one (c_any : pm_H → (Int32 → pm_H → Prop) → Prop) (c_one : pm_H → (Int32 → pm_H → Prop) → Prop)  (h : pm_H) (Q : Int32 → pm_H → Prop) : Prop := pm_eq (h 66 20) 1 (wp_X7_put (h 66 21) h (fun h521 => wp_X7_next  h521 (fun h522 => Q 1 h522))) (wp_X7_name  h (fun r524 h523 => pm_lt 0 r524 (wp_X7_put (pm_op (-r524)) h523 (fun h525 => wp_X7_next  h525 (fun h526 => Q 1 h526))) (wp_X7_is_ 45 h523 (fun r528 h527 => pm_eq r528 0 (wp_X7_is_ 40 h527 (fun r530 h529 => pm_eq r530 0 (Q 0 h529) (pm_eq (h529 66 22) 5 (Q 0 h529) (wp_X7_next  (pm_u h529 66 22 (pm_op ((h529 66 22) + 1))) (fun h531 => c_any  h531 (fun r533 h532 => pm_eq r533 0 (Q 0 h532) (wp_X7_is_ 41 h532 (fun r535 h534 => pm_eq r535 0 (Q 0 h534) (wp_X7_next  (pm_u h534 66 22 (pm_op ((h534 66 22) - 1))) (fun h536 => Q 1 h536)))))))))) (pm_eq (h527 66 22) 5 (Q 0 h527) (wp_X7_next  (pm_u h527 66 22 (pm_op ((h527 66 22) + 1))) (fun h537 => c_one  h537 (fun r539 h538 => pm_eq r539 0 (Q 0 h538) (wp_X7_put (-19) (pm_u h538 66 22 (pm_op ((h538 66 22) - 1))) (fun h540 => Q 1 h540))))))))))
set_option maxRecDepth 16384 in
theorem wp_X7_one_mono {c_any : pm_H → (Int32 → pm_H → Prop) → Prop} {c_one : pm_H → (Int32 → pm_H → Prop) → Prop}  {h : pm_H} {Q Q' : Int32 → pm_H → Prop} (mc_any : ∀  (h : pm_H) (Q Q' : Int32 → pm_H → Prop), (∀ r h, Q r h → Q' r h) → c_any  h Q → c_any  h Q') (mc_one : ∀  (h : pm_H) (Q Q' : Int32 → pm_H → Prop), (∀ r h, Q r h → Q' r h) → c_one  h Q → c_one  h Q') (hQ : ∀ r h, Q r h → Q' r h) : wp_X7_one c_any c_one  h Q → wp_X7_one c_any c_one  h Q' := by unfold wp_X7_one; exact (@pm_eq_mono _ _ _ _ _ _ (@wp_X7_put_mono _ _ _ _ (fun _ => (@wp_X7_next_mono _ _ _ (fun _ => (hQ _ _))))) (@wp_X7_name_mono _ _ _ (fun _ _ => (@pm_lt_mono _ _ _ _ _ _ (@wp_X7_put_mono _ _ _ _ (fun _ => (@wp_X7_next_mono _ _ _ (fun _ => (hQ _ _))))) (@wp_X7_is__mono _ _ _ _ (fun _ _ => (@pm_eq_mono _ _ _ _ _ _ (@wp_X7_is__mono _ _ _ _ (fun _ _ => (@pm_eq_mono _ _ _ _ _ _ (hQ _ _) (@pm_eq_mono _ _ _ _ _ _ (hQ _ _) (@wp_X7_next_mono _ _ _ (fun _ => (mc_any  _ _ _ (fun _ _ => (@pm_eq_mono _ _ _ _ _ _ (hQ _ _) (@wp_X7_is__mono _ _ _ _ (fun _ _ => (@pm_eq_mono _ _ _ _ _ _ (hQ _ _) (@wp_X7_next_mono _ _ _ (fun _ => (hQ _ _))))))))))))))) (@pm_eq_mono _ _ _ _ _ _ (hQ _ _) (@wp_X7_next_mono _ _ _ (fun _ => (mc_one  _ _ _ (fun _ _ => (@pm_eq_mono _ _ _ _ _ _ (hQ _ _) (@wp_X7_put_mono _ _ _ _ (fun _ => (hQ _ _))))))))))))))))
set_option maxRecDepth 16384 in
theorem wp_X7_one_ok {d : Nat} {c_any : pm_H → (Int32 → pm_H → Prop) → Prop} {c_one : pm_H → (Int32 → pm_H → Prop) → Prop}  {h : pm_H} {Q : Option Value → pm_H → Prop} (oc_any : ∀  (h : pm_H) (Q : Option Value → pm_H → Prop), c_any  h (fun r h => Q (some (.int r)) h) → pm_R (d + 1) mt_X7_any 0 [some (.ref 66)] [] h Q) (oc_one : ∀  (h : pm_H) (Q : Option Value → pm_H → Prop), c_one  h (fun r h => Q (some (.int r)) h) → pm_R (d + 1) mt_X7_one 0 [some (.ref 66), none] [] h Q) (mc_any : ∀  (h : pm_H) (Q Q' : Int32 → pm_H → Prop), (∀ r h, Q r h → Q' r h) → c_any  h Q → c_any  h Q') (mc_one : ∀  (h : pm_H) (Q Q' : Int32 → pm_H → Prop), (∀ r h, Q r h → Q' r h) → c_one  h Q → c_one  h Q') (hw : wp_X7_one c_any c_one  h (fun r h => Q (some (.int r)) h)) : pm_R (d + 2) mt_X7_one 0 [some (.ref 66), none] [] h Q := by
  unfold wp_X7_one at hw
  refine pm_steps 4 ?_
  refine @pm_we _ _ _ _ _ _ hw (fun hw => ?_) (fun hw => ?_)
  · refine pm_steps 4 ?_
    refine @wp_X7_put_ok _ _ _ _ (@wp_X7_put_mono _ _ _ _ (fun h521 hw => ?_) hw)
    refine pm_steps 2 ?_
    refine @wp_X7_next_ok _ _ _ (@wp_X7_next_mono _ _ _ (fun h522 hw => ?_) hw)
    exact pm_steps 2 hw
  · refine pm_steps 2 ?_
    refine @wp_X7_name_ok _ _ _ (@wp_X7_name_mono _ _ _ (fun r524 h523 hw => ?_) hw)
    refine pm_steps 3 ?_
    refine @pm_wl _ _ _ _ _ _ hw (fun hw => ?_) (fun hw => ?_)
    · refine pm_steps 4 ?_
      refine @wp_X7_put_ok _ _ _ _ (@wp_X7_put_mono _ _ _ _ (fun h525 hw => ?_) hw)
      refine pm_steps 2 ?_
      refine @wp_X7_next_ok _ _ _ (@wp_X7_next_mono _ _ _ (fun h526 hw => ?_) hw)
      exact pm_steps 2 hw
    · refine pm_steps 3 ?_
      refine @wp_X7_is__ok _ _ _ _ (@wp_X7_is__mono _ _ _ _ (fun r528 h527 hw => ?_) hw)
      refine pm_steps 1 ?_
      refine @pm_we _ _ _ _ _ _ hw (fun hw => ?_) (fun hw => ?_)
      · refine pm_steps 3 ?_
        refine @wp_X7_is__ok _ _ _ _ (@wp_X7_is__mono _ _ _ _ (fun r530 h529 hw => ?_) hw)
        refine pm_steps 1 ?_
        refine @pm_we _ _ _ _ _ _ hw (fun hw => ?_) (fun hw => ?_)
        · exact pm_steps 2 hw
        · refine pm_steps 4 ?_
          refine @pm_we _ _ _ _ _ _ hw (fun hw => ?_) (fun hw => ?_)
          · exact pm_steps 2 hw
          · refine pm_steps 8 ?_
            refine @wp_X7_next_ok _ _ _ (@wp_X7_next_mono _ _ _ (fun h531 hw => ?_) hw)
            refine pm_steps 2 ?_
            refine oc_any  _ _ (mc_any  _ _ _ (fun r533 h532 hw => ?_) hw)
            refine pm_steps 1 ?_
            refine @pm_we _ _ _ _ _ _ hw (fun hw => ?_) (fun hw => ?_)
            · exact pm_steps 2 hw
            · refine pm_steps 3 ?_
              refine @wp_X7_is__ok _ _ _ _ (@wp_X7_is__mono _ _ _ _ (fun r535 h534 hw => ?_) hw)
              refine pm_steps 1 ?_
              refine @pm_we _ _ _ _ _ _ hw (fun hw => ?_) (fun hw => ?_)
              · exact pm_steps 2 hw
              · refine pm_steps 8 ?_
                refine @wp_X7_next_ok _ _ _ (@wp_X7_next_mono _ _ _ (fun h536 hw => ?_) hw)
                exact pm_steps 2 hw
      · refine pm_steps 4 ?_
        refine @pm_we _ _ _ _ _ _ hw (fun hw => ?_) (fun hw => ?_)
        · exact pm_steps 2 hw
        · refine pm_steps 8 ?_
          refine @wp_X7_next_ok _ _ _ (@wp_X7_next_mono _ _ _ (fun h537 hw => ?_) hw)
          refine pm_steps 2 ?_
          refine oc_one  _ _ (mc_one  _ _ _ (fun r539 h538 hw => ?_) hw)
          refine pm_steps 1 ?_
          refine @pm_we _ _ _ _ _ _ hw (fun hw => ?_) (fun hw => ?_)
          · exact pm_steps 2 hw
          · refine pm_steps 9 ?_
            refine @wp_X7_put_ok _ _ _ _ (@wp_X7_put_mono _ _ _ _ (fun h540 hw => ?_) hw)
            exact pm_steps 2 hw
/-! StairLinesModel.part(Ljava/lang/String;I)Z -/
set_option maxRecDepth 16384 in
def wp_X7_part (c_any : pm_H → (Int32 → pm_H → Prop) → Prop) (l1 : Nat) (l2 : Int32) (h : pm_H) (Q : Int32 → pm_H → Prop) : Prop := wp_X7_is l1 h (fun r542 h541 => pm_eq r542 0 (Q 0 h541) (wp_X7_next  h541 (fun h543 => pm_ib (pm_in (pm_op ((pm_op (4 * (h543 66 13))) + l2)) 24) (c_any  (pm_u h543 77 (pm_op ((pm_op (4 * (h543 66 13))) + l2)).toNatClampNeg (h543 66 17)) (fun r545 h544 => pm_eq r545 0 (Q 0 h544) (wp_X7_is_ 59 h544 (fun r547 h546 => pm_eq r547 0 (Q 0 h546) (wp_X7_next  h546 (fun h548 => Q 1 h548)))))))))
set_option maxRecDepth 16384 in
theorem wp_X7_part_mono {c_any : pm_H → (Int32 → pm_H → Prop) → Prop} {l1 : Nat} {l2 : Int32} {h : pm_H} {Q Q' : Int32 → pm_H → Prop} (mc_any : ∀  (h : pm_H) (Q Q' : Int32 → pm_H → Prop), (∀ r h, Q r h → Q' r h) → c_any  h Q → c_any  h Q') (hQ : ∀ r h, Q r h → Q' r h) : wp_X7_part c_any l1 l2 h Q → wp_X7_part c_any l1 l2 h Q' := by unfold wp_X7_part; exact (@wp_X7_is_mono _ _ _ _ (fun _ _ => (@pm_eq_mono _ _ _ _ _ _ (hQ _ _) (@wp_X7_next_mono _ _ _ (fun _ => (@pm_ib_mono _ _ _ (mc_any  _ _ _ (fun _ _ => (@pm_eq_mono _ _ _ _ _ _ (hQ _ _) (@wp_X7_is__mono _ _ _ _ (fun _ _ => (@pm_eq_mono _ _ _ _ _ _ (hQ _ _) (@wp_X7_next_mono _ _ _ (fun _ => (hQ _ _)))))))))))))))
set_option maxRecDepth 16384 in
theorem wp_X7_part_ok {d : Nat} {c_any : pm_H → (Int32 → pm_H → Prop) → Prop} {l1 : Nat} {l2 : Int32} {h : pm_H} {Q : Option Value → pm_H → Prop} (oc_any : ∀  (h : pm_H) (Q : Option Value → pm_H → Prop), c_any  h (fun r h => Q (some (.int r)) h) → pm_R (d + 2) mt_X7_any 0 [some (.ref 66)] [] h Q) (mc_any : ∀  (h : pm_H) (Q Q' : Int32 → pm_H → Prop), (∀ r h, Q r h → Q' r h) → c_any  h Q → c_any  h Q') (hw : wp_X7_part c_any l1 l2 h (fun r h => Q (some (.int r)) h)) : pm_R (d + 3) mt_X7_part 0 [some (.ref 66), some (.ref l1), some (.int l2)] [] h Q := by
  unfold wp_X7_part at hw
  refine pm_steps 3 ?_
  refine @wp_X7_is_ok _ _ _ _ (@wp_X7_is_mono _ _ _ _ (fun r542 h541 hw => ?_) hw)
  refine pm_steps 1 ?_
  refine @pm_we _ _ _ _ _ _ hw (fun hw => ?_) (fun hw => ?_)
  · exact pm_steps 2 hw
  · refine pm_steps 2 ?_
    refine @wp_X7_next_ok _ _ _ (@wp_X7_next_mono _ _ _ (fun h543 hw => ?_) hw)
    refine pm_steps 11 ?_
    refine @pm_wc _ _ _ hw (fun hw => ?_)
    refine pm_steps 2 ?_
    refine oc_any  _ _ (mc_any  _ _ _ (fun r545 h544 hw => ?_) hw)
    refine pm_steps 1 ?_
    refine @pm_we _ _ _ _ _ _ hw (fun hw => ?_) (fun hw => ?_)
    · exact pm_steps 2 hw
    · refine pm_steps 3 ?_
      refine @wp_X7_is__ok _ _ _ _ (@wp_X7_is__mono _ _ _ _ (fun r547 h546 hw => ?_) hw)
      refine pm_steps 1 ?_
      refine @pm_we _ _ _ _ _ _ hw (fun hw => ?_) (fun hw => ?_)
      · exact pm_steps 2 hw
      · refine pm_steps 2 ?_
        refine @wp_X7_next_ok _ _ _ (@wp_X7_next_mono _ _ _ (fun h548 hw => ?_) hw)
        exact pm_steps 2 hw
/-! StairLinesModel.text()I -/
set_option maxRecDepth 16384 in
def wp_X7_text (c_part : Nat → Int32 → pm_H → (Int32 → pm_H → Prop) → Prop)  (h : pm_H) (Q : Int32 → pm_H → Prop) : Prop := pm_eq (h 66 13) 6 (Q (-4) h) (wp_X7_next  (pm_u (pm_u (pm_u h 66 18 0) 66 22 0) 66 17 0) (fun h549 => c_part 1000 0 h549 (fun r551 h550 => pm_eq r551 0 (Q (pm_op ((-100) - (h550 66 19))) (pm_u h550 66 11 0)) (c_part 1001 1 h550 (fun r553 h552 => pm_eq r553 0 (Q (pm_op ((-100) - (h552 66 19))) (pm_u h552 66 11 0)) (c_part 1002 2 h552 (fun r555 h554 => pm_eq r555 0 (Q (pm_op ((-100) - (h554 66 19))) (pm_u h554 66 11 0)) (pm_eq (h554 66 20) 0 (pm_ib (pm_in (pm_op ((pm_op (4 * (h554 66 13))) + 3)) 24) (Q (h554 66 13) (pm_u (pm_u (pm_u h554 66 11 0) 77 (pm_op ((pm_op (4 * (h554 66 13))) + 3)).toNatClampNeg (h554 66 17)) 66 13 (pm_op ((h554 66 13) + 1))))) (Q (pm_op ((-100) - (h554 66 19))) (pm_u h554 66 11 0))))))))))
set_option maxRecDepth 16384 in
theorem wp_X7_text_mono {c_part : Nat → Int32 → pm_H → (Int32 → pm_H → Prop) → Prop}  {h : pm_H} {Q Q' : Int32 → pm_H → Prop} (mc_part : ∀ (a0 : Nat) (a1 : Int32) (h : pm_H) (Q Q' : Int32 → pm_H → Prop), (∀ r h, Q r h → Q' r h) → c_part a0 a1 h Q → c_part a0 a1 h Q') (hQ : ∀ r h, Q r h → Q' r h) : wp_X7_text c_part  h Q → wp_X7_text c_part  h Q' := by unfold wp_X7_text; exact (@pm_eq_mono _ _ _ _ _ _ (hQ _ _) (@wp_X7_next_mono _ _ _ (fun _ => (mc_part _ _ _ _ _ (fun _ _ => (@pm_eq_mono _ _ _ _ _ _ (hQ _ _) (mc_part _ _ _ _ _ (fun _ _ => (@pm_eq_mono _ _ _ _ _ _ (hQ _ _) (mc_part _ _ _ _ _ (fun _ _ => (@pm_eq_mono _ _ _ _ _ _ (hQ _ _) (@pm_eq_mono _ _ _ _ _ _ (@pm_ib_mono _ _ _ (hQ _ _)) (hQ _ _))))))))))))))
set_option maxRecDepth 16384 in
theorem wp_X7_text_ok {d : Nat} {c_part : Nat → Int32 → pm_H → (Int32 → pm_H → Prop) → Prop}  {h : pm_H} {Q : Option Value → pm_H → Prop} (oc_part : ∀ (a0 : Nat) (a1 : Int32) (h : pm_H) (Q : Option Value → pm_H → Prop), c_part a0 a1 h (fun r h => Q (some (.int r)) h) → pm_R (d + 3) mt_X7_part 0 [some (.ref 66), some (.ref a0), some (.int a1)] [] h Q) (mc_part : ∀ (a0 : Nat) (a1 : Int32) (h : pm_H) (Q Q' : Int32 → pm_H → Prop), (∀ r h, Q r h → Q' r h) → c_part a0 a1 h Q → c_part a0 a1 h Q') (hw : wp_X7_text c_part  h (fun r h => Q (some (.int r)) h)) : pm_R (d + 4) mt_X7_text 0 [some (.ref 66), none] [] h Q := by
  unfold wp_X7_text at hw
  refine pm_steps 4 ?_
  refine @pm_we _ _ _ _ _ _ hw (fun hw => ?_) (fun hw => ?_)
  · exact pm_steps 2 hw
  · refine pm_steps 11 ?_
    refine @wp_X7_next_ok _ _ _ (@wp_X7_next_mono _ _ _ (fun h549 hw => ?_) hw)
    refine pm_steps 4 ?_
    refine oc_part _ _ _ _ (mc_part _ _ _ _ _ (fun r551 h550 hw => ?_) hw)
    refine pm_steps 1 ?_
    refine @pm_we _ _ _ _ _ _ hw (fun hw => ?_) (fun hw => ?_)
    · exact pm_steps 12 hw
    · refine pm_steps 4 ?_
      refine oc_part _ _ _ _ (mc_part _ _ _ _ _ (fun r553 h552 hw => ?_) hw)
      refine pm_steps 1 ?_
      refine @pm_we _ _ _ _ _ _ hw (fun hw => ?_) (fun hw => ?_)
      · exact pm_steps 12 hw
      · refine pm_steps 4 ?_
        refine oc_part _ _ _ _ (mc_part _ _ _ _ _ (fun r555 h554 hw => ?_) hw)
        refine pm_steps 1 ?_
        refine @pm_we _ _ _ _ _ _ hw (fun hw => ?_) (fun hw => ?_)
        · exact pm_steps 12 hw
        · refine pm_steps 3 ?_
          refine @pm_we _ _ _ _ _ _ hw (fun hw => ?_) (fun hw => ?_)
          · refine pm_steps 19 ?_
            refine @pm_wc _ _ _ hw (fun hw => ?_)
            exact pm_steps 8 hw
          · exact pm_steps 12 hw
/-! StairLinesModel.force(I)I -/
set_option maxRecDepth 16384 in
def wp_X7_force (l1 : Int32) (h : pm_H) (Q : Int32 → pm_H → Prop) : Prop := wp_X7_within l1 0 (pm_op ((h 66 13) - 1)) h (fun r557 h556 => pm_eq r557 0 (Q (-2) h556) (Q (h556 66 14) (pm_u h556 66 14 l1)))
set_option maxRecDepth 16384 in
theorem wp_X7_force_mono {l1 : Int32} {h : pm_H} {Q Q' : Int32 → pm_H → Prop} (hQ : ∀ r h, Q r h → Q' r h) : wp_X7_force l1 h Q → wp_X7_force l1 h Q' := by unfold wp_X7_force; exact (@wp_X7_within_mono _ _ _ _ _ _ (fun _ _ => (@pm_eq_mono _ _ _ _ _ _ (hQ _ _) (hQ _ _))))
set_option maxRecDepth 16384 in
theorem wp_X7_force_ok {d : Nat} {l1 : Int32} {h : pm_H} {Q : Option Value → pm_H → Prop} (hw : wp_X7_force l1 h (fun r h => Q (some (.int r)) h)) : pm_R (d + 1) mt_X7_force 0 [some (.ref 66), some (.int l1), none] [] h Q := by
  unfold wp_X7_force at hw
  refine pm_steps 7 ?_
  refine @wp_X7_within_ok _ _ _ _ _ _ (@wp_X7_within_mono _ _ _ _ _ _ (fun r557 h556 hw => ?_) hw)
  refine pm_steps 1 ?_
  refine @pm_we _ _ _ _ _ _ hw (fun hw => ?_) (fun hw => ?_)
  · exact pm_steps 2 hw
  · exact pm_steps 8 hw
