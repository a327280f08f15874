/-! StairLines$Stair.holdsOf(II)I -/
set_option maxRecDepth 16384 in
def wp_X3_holdsOf (l0 : Int32) (l1 : Int32) (h : pm_H) (Q : Int32 → pm_H → Prop) : Prop := pm_eq l0 1 (Q (pm_op (pm_max 1 (pm_op ((pm_op (4 * l1)) / 2)))) h) (pm_eq l0 2 (Q (pm_op (pm_max 1 (pm_op ((pm_op (4 * l1)) + 2)))) h) (pm_eq l0 3 (Q (pm_op (pm_max 1 (pm_op ((pm_op ((pm_op (4 * l1)) / 2)) - 1)))) h) (pm_eq l0 4 (Q (pm_op (pm_max 1 (pm_op (2 * (pm_op ((pm_op (4 * l1)) + 2)))))) h) (pm_eq l0 5 (Q (pm_op (pm_max 1 (pm_op ((pm_op (4 * l1)) / 2)))) h) (Q (pm_op (pm_max 1 (pm_op (4 * l1)))) h)))))
set_option maxRecDepth 16384 in
theorem wp_X3_holdsOf_mono {l0 : Int32} {l1 : Int32} {h : pm_H} {Q Q' : Int32 → pm_H → Prop} (hQ : ∀ r h, Q r h → Q' r h) : wp_X3_holdsOf l0 l1 h Q → wp_X3_holdsOf l0 l1 h Q' := by unfold wp_X3_holdsOf; exact (@pm_eq_mono _ _ _ _ _ _ (hQ _ _) (@pm_eq_mono _ _ _ _ _ _ (hQ _ _) (@pm_eq_mono _ _ _ _ _ _ (hQ _ _) (@pm_eq_mono _ _ _ _ _ _ (hQ _ _) (@pm_eq_mono _ _ _ _ _ _ (hQ _ _) (hQ _ _))))))
set_option maxRecDepth 16384 in
theorem wp_X3_holdsOf_ok {d : Nat} {l0 : Int32} {l1 : Int32} {h : pm_H} {Q : Option Value → pm_H → Prop} (hw : wp_X3_holdsOf l0 l1 h (fun r h => Q (some (.int r)) h)) : pm_R (d + 0) mt_X3_holdsOf 0 [some (.int l0), some (.int l1), none, none, none] [] h Q := by
  unfold wp_X3_holdsOf at hw
  refine pm_steps 14 ?_
  refine @pm_we _ _ _ _ _ _ hw (fun hw => ?_) (fun hw => ?_)
  · exact pm_steps 4 hw
  · refine @pm_we _ _ _ _ _ _ hw (fun hw => ?_) (fun hw => ?_)
    · exact pm_steps 4 hw
    · refine @pm_we _ _ _ _ _ _ hw (fun hw => ?_) (fun hw => ?_)
      · exact pm_steps 6 hw
      · refine @pm_we _ _ _ _ _ _ hw (fun hw => ?_) (fun hw => ?_)
        · exact pm_steps 6 hw
        · refine @pm_we _ _ _ _ _ _ hw (fun hw => ?_) (fun hw => ?_)
          · exact pm_steps 4 hw
          · exact pm_steps 4 hw
/-! StairLines.between(III)Z -/
set_option maxRecDepth 16384 in
def wp_X6_between (l0 : Int32) (l1 : Int32) (l2 : Int32) (h : pm_H) (Q : Int32 → pm_H → Prop) : Prop := pm_lt l0 l1 (Q 0 h) (pm_lt l2 l0 (Q 0 h) (Q 1 h))
set_option maxRecDepth 16384 in
theorem wp_X6_between_mono {l0 : Int32} {l1 : Int32} {l2 : Int32} {h : pm_H} {Q Q' : Int32 → pm_H → Prop} (hQ : ∀ r h, Q r h → Q' r h) : wp_X6_between l0 l1 l2 h Q → wp_X6_between l0 l1 l2 h Q' := by unfold wp_X6_between; exact (@pm_lt_mono _ _ _ _ _ _ (hQ _ _) (@pm_lt_mono _ _ _ _ _ _ (hQ _ _) (hQ _ _)))
set_option maxRecDepth 16384 in
theorem wp_X6_between_ok {d : Nat} {l0 : Int32} {l1 : Int32} {l2 : Int32} {h : pm_H} {Q : Option Value → pm_H → Prop} (hw : wp_X6_between l0 l1 l2 h (fun r h => Q (some (.int r)) h)) : pm_R (d + 0) mt_X6_between 0 [some (.int l0), some (.int l1), some (.int l2)] [] h Q := by
  unfold wp_X6_between at hw
  refine pm_steps 3 ?_
  refine @pm_wl _ _ _ _ _ _ hw (fun hw => ?_) (fun hw => ?_)
  · exact pm_steps 2 hw
  · refine pm_steps 3 ?_
    refine @pm_wl _ _ _ _ _ _ hw (fun hw => ?_) (fun hw => ?_)
    · exact pm_steps 2 hw
    · exact pm_steps 3 hw
/-! StairLines.isKind(I)Z -/
set_option maxRecDepth 16384 in
def wp_X6_isKind (l0 : Int32) (h : pm_H) (Q : Int32 → pm_H → Prop) : Prop := wp_X6_between l0 0 5 h (fun r10 h9 => pm_ib (pm_b01 r10) (Q r10 h9))
set_option maxRecDepth 16384 in
theorem wp_X6_isKind_mono {l0 : Int32} {h : pm_H} {Q Q' : Int32 → pm_H → Prop} (hQ : ∀ r h, Q r h → Q' r h) : wp_X6_isKind l0 h Q → wp_X6_isKind l0 h Q' := by unfold wp_X6_isKind; exact (@wp_X6_between_mono _ _ _ _ _ _ (fun _ _ => (@pm_ib_mono _ _ _ (hQ _ _))))
set_option maxRecDepth 16384 in
theorem wp_X6_isKind_ok {d : Nat} {l0 : Int32} {h : pm_H} {Q : Option Value → pm_H → Prop} (hw : wp_X6_isKind l0 h (fun r h => Q (some (.int r)) h)) : pm_R (d + 1) mt_X6_isKind 0 [some (.int l0)] [] h Q := by
  unfold wp_X6_isKind at hw
  refine pm_steps 4 ?_
  refine @wp_X6_between_ok _ _ _ _ _ _ (@wp_X6_between_mono _ _ _ _ _ _ (fun r10 h9 hw => ?_) hw)
  exact pm_steps 1 hw
/-! StairLines.isStep(I)Z -/
set_option maxRecDepth 16384 in
def wp_X6_isStep (l0 : Int32) (h : pm_H) (Q : Int32 → pm_H → Prop) : Prop := wp_X6_between l0 0 9 h (fun r12 h11 => pm_ib (pm_b01 r12) (Q r12 h11))
set_option maxRecDepth 16384 in
theorem wp_X6_isStep_mono {l0 : Int32} {h : pm_H} {Q Q' : Int32 → pm_H → Prop} (hQ : ∀ r h, Q r h → Q' r h) : wp_X6_isStep l0 h Q → wp_X6_isStep l0 h Q' := by unfold wp_X6_isStep; exact (@wp_X6_between_mono _ _ _ _ _ _ (fun _ _ => (@pm_ib_mono _ _ _ (hQ _ _))))
set_option maxRecDepth 16384 in
theorem wp_X6_isStep_ok {d : Nat} {l0 : Int32} {h : pm_H} {Q : Option Value → pm_H → Prop} (hw : wp_X6_isStep l0 h (fun r h => Q (some (.int r)) h)) : pm_R (d + 1) mt_X6_isStep 0 [some (.int l0)] [] h Q := by
  unfold wp_X6_isStep at hw
  refine pm_steps 4 ?_
  refine @wp_X6_between_ok _ _ _ _ _ _ (@wp_X6_between_mono _ _ _ _ _ _ (fun r12 h11 hw => ?_) hw)
  exact pm_steps 1 hw
/-! StairLines.step(III)I -/
set_option maxRecDepth 16384 in
def wp_X6_step (l1 : Int32) (l2 : Int32) (l3 : Int32) (h : pm_H) (Q : Int32 → pm_H → Prop) : Prop := wp_X6_isStep l1 h (fun r2 h1 => pm_eq r2 0 (Q (-2) h1) (wp_X6_isKind l2 h1 (fun r4 h3 => pm_eq r4 0 (Q (-2) h3) (wp_X6_between l3 1 9 h3 (fun r6 h5 => pm_eq r6 0 (Q (-2) h5) (pm_ib (pm_in l1 10) (wp_X3_holdsOf l2 l3 h5 (fun r8 h7 => pm_lt r8 (h5 4 l1.toNatClampNeg) (Q (-3) h7) (pm_ib (pm_in l1 10) (pm_ib (pm_in l1 10) (pm_ib (pm_in l1 10) (Q (h7 2 l1.toNatClampNeg) (pm_u (pm_u h7 2 l1.toNatClampNeg l2) 3 l1.toNatClampNeg l3)))))))))))))
set_option maxRecDepth 16384 in
theorem wp_X6_step_mono {l1 : Int32} {l2 : Int32} {l3 : Int32} {h : pm_H} {Q Q' : Int32 → pm_H → Prop} (hQ : ∀ r h, Q r h → Q' r h) : wp_X6_step l1 l2 l3 h Q → wp_X6_step l1 l2 l3 h Q' := by unfold wp_X6_step; exact (@wp_X6_isStep_mono _ _ _ _ (fun _ _ => (@pm_eq_mono _ _ _ _ _ _ (hQ _ _) (@wp_X6_isKind_mono _ _ _ _ (fun _ _ => (@pm_eq_mono _ _ _ _ _ _ (hQ _ _) (@wp_X6_between_mono _ _ _ _ _ _ (fun _ _ => (@pm_eq_mono _ _ _ _ _ _ (hQ _ _) (@pm_ib_mono _ _ _ (@wp_X3_holdsOf_mono _ _ _ _ _ (fun _ _ => (@pm_lt_mono _ _ _ _ _ _ (hQ _ _) (@pm_ib_mono _ _ _ (@pm_ib_mono _ _ _ (@pm_ib_mono _ _ _ (hQ _ _)))))))))))))))))
set_option maxRecDepth 16384 in
theorem wp_X6_step_ok {d : Nat} {l1 : Int32} {l2 : Int32} {l3 : Int32} {h : pm_H} {Q : Option Value → pm_H → Prop} (hw : wp_X6_step l1 l2 l3 h (fun r h => Q (some (.int r)) h)) : pm_R (d + 2) mt_X6_step 0 [some (.ref 0), some (.int l1), some (.int l2), some (.int l3), none] [] h Q := by
  unfold wp_X6_step at hw
  refine pm_steps 2 ?_
  refine @wp_X6_isStep_ok _ _ _ _ (@wp_X6_isStep_mono _ _ _ _ (fun r2 h1 hw => ?_) hw)
  refine pm_steps 1 ?_
  refine @pm_we _ _ _ _ _ _ hw (fun hw => ?_) (fun hw => ?_)
  · exact pm_steps 2 hw
  · refine pm_steps 2 ?_
    refine @wp_X6_isKind_ok _ _ _ _ (@wp_X6_isKind_mono _ _ _ _ (fun r4 h3 hw => ?_) hw)
    refine pm_steps 1 ?_
    refine @pm_we _ _ _ _ _ _ hw (fun hw => ?_) (fun hw => ?_)
    · exact pm_steps 2 hw
    · refine pm_steps 4 ?_
      refine @wp_X6_between_ok _ _ _ _ _ _ (@wp_X6_between_mono _ _ _ _ _ _ (fun r6 h5 hw => ?_) hw)
      refine pm_steps 1 ?_
      refine @pm_we _ _ _ _ _ _ hw (fun hw => ?_) (fun hw => ?_)
      · exact pm_steps 2 hw
      · refine pm_steps 5 ?_
        refine @pm_wc _ _ _ hw (fun hw => ?_)
        refine pm_steps 3 ?_
        refine @wp_X3_holdsOf_ok _ _ _ _ _ (@wp_X3_holdsOf_mono _ _ _ _ _ (fun r8 h7 hw => ?_) hw)
        refine pm_steps 1 ?_
        refine @pm_wl _ _ _ _ _ _ hw (fun hw => ?_) (fun hw => ?_)
        · exact pm_steps 2 hw
        · refine pm_steps 5 ?_
          refine @pm_wc _ _ _ hw (fun hw => ?_)
          refine pm_steps 7 ?_
          refine @pm_wc _ _ _ hw (fun hw => ?_)
          refine pm_steps 6 ?_
          refine @pm_wc _ _ _ hw (fun hw => ?_)
          exact pm_steps 2 hw
/-! StairLines.isBellAndEvery(I)Z -/
set_option maxRecDepth 16384 in
def wp_X6_isBellAndEvery (l0 : Int32) (h : pm_H) (Q : Int32 → pm_H → Prop) : Prop := pm_lt l0 0 (Q 0 h) (pm_lt 199 (pm_op (l0 / 10)) (Q 0 h) (pm_lt (pm_op (pm_rem l0 10)) 1 (Q 0 h) (Q 1 h)))
set_option maxRecDepth 16384 in
theorem wp_X6_isBellAndEvery_mono {l0 : Int32} {h : pm_H} {Q Q' : Int32 → pm_H → Prop} (hQ : ∀ r h, Q r h → Q' r h) : wp_X6_isBellAndEvery l0 h Q → wp_X6_isBellAndEvery l0 h Q' := by unfold wp_X6_isBellAndEvery; exact (@pm_lt_mono _ _ _ _ _ _ (hQ _ _) (@pm_lt_mono _ _ _ _ _ _ (hQ _ _) (@pm_lt_mono _ _ _ _ _ _ (hQ _ _) (hQ _ _))))
set_option maxRecDepth 16384 in
theorem wp_X6_isBellAndEvery_ok {d : Nat} {l0 : Int32} {h : pm_H} {Q : Option Value → pm_H → Prop} (hw : wp_X6_isBellAndEvery l0 h (fun r h => Q (some (.int r)) h)) : pm_R (d + 0) mt_X6_isBellAndEvery 0 [some (.int l0)] [] h Q := by
  unfold wp_X6_isBellAndEvery at hw
  refine pm_steps 2 ?_
  refine @pm_wl _ _ _ _ _ _ hw (fun hw => ?_) (fun hw => ?_)
  · exact pm_steps 2 hw
  · refine pm_steps 5 ?_
    refine @pm_wl _ _ _ _ _ _ hw (fun hw => ?_) (fun hw => ?_)
    · exact pm_steps 2 hw
    · refine pm_steps 5 ?_
      refine @pm_wl _ _ _ _ _ _ hw (fun hw => ?_) (fun hw => ?_)
      · exact pm_steps 2 hw
      · exact pm_steps 3 hw
/-! StairLines.come(III)I -/
set_option maxRecDepth 16384 in
def wp_X6_come (l1 : Int32) (l2 : Int32) (l3 : Int32) (h : pm_H) (Q : Int32 → pm_H → Prop) : Prop := wp_X6_between l1 1 60 h (fun r14 h13 => pm_eq r14 0 (Q (-2) h13) (wp_X6_isStep l2 h13 (fun r16 h15 => pm_eq r16 0 (Q (-2) h15) (wp_X6_isBellAndEvery l3 h15 (fun r18 h17 => pm_eq r18 0 (Q (-2) h17) (pm_lt (h17 1 8) 5 (pm_ib (pm_in (h17 1 8) 5) (pm_ib (pm_in (h17 1 8) 5) (pm_ib (pm_in (h17 1 8) 5) (pm_ib (pm_in (h17 1 8) 5) (pm_ib (pm_in (h17 1 8) 5) (Q (h17 1 8) (pm_u (pm_u (pm_u (pm_u (pm_u (pm_u h17 5 (h17 1 8).toNatClampNeg l1) 6 (h17 1 8).toNatClampNeg l2) 7 (h17 1 8).toNatClampNeg (pm_op (l3 / 10))) 8 (h17 1 8).toNatClampNeg (pm_op (pm_rem l3 10))) 9 (h17 1 8).toNatClampNeg l1) 1 8 (pm_op ((h17 1 8) + 1))))))))) (Q (-4) h17)))))))
set_option maxRecDepth 16384 in
theorem wp_X6_come_mono {l1 : Int32} {l2 : Int32} {l3 : Int32} {h : pm_H} {Q Q' : Int32 → pm_H → Prop} (hQ : ∀ r h, Q r h → Q' r h) : wp_X6_come l1 l2 l3 h Q → wp_X6_come l1 l2 l3 h Q' := by unfold wp_X6_come; exact (@wp_X6_between_mono _ _ _ _ _ _ (fun _ _ => (@pm_eq_mono _ _ _ _ _ _ (hQ _ _) (@wp_X6_isStep_mono _ _ _ _ (fun _ _ => (@pm_eq_mono _ _ _ _ _ _ (hQ _ _) (@wp_X6_isBellAndEvery_mono _ _ _ _ (fun _ _ => (@pm_eq_mono _ _ _ _ _ _ (hQ _ _) (@pm_lt_mono _ _ _ _ _ _ (@pm_ib_mono _ _ _ (@pm_ib_mono _ _ _ (@pm_ib_mono _ _ _ (@pm_ib_mono _ _ _ (@pm_ib_mono _ _ _ (hQ _ _)))))) (hQ _ _)))))))))))
set_option maxRecDepth 16384 in
theorem wp_X6_come_ok {d : Nat} {l1 : Int32} {l2 : Int32} {l3 : Int32} {h : pm_H} {Q : Option Value → pm_H → Prop} (hw : wp_X6_come l1 l2 l3 h (fun r h => Q (some (.int r)) h)) : pm_R (d + 2) mt_X6_come 0 [some (.ref 0), some (.int l1), some (.int l2), some (.int l3), none] [] h Q := by
  unfold wp_X6_come at hw
  refine pm_steps 4 ?_
  refine @wp_X6_between_ok _ _ _ _ _ _ (@wp_X6_between_mono _ _ _ _ _ _ (fun r14 h13 hw => ?_) hw)
  refine pm_steps 1 ?_
  refine @pm_we _ _ _ _ _ _ hw (fun hw => ?_) (fun hw => ?_)
  · exact pm_steps 2 hw
  · refine pm_steps 2 ?_
    refine @wp_X6_isStep_ok _ _ _ _ (@wp_X6_isStep_mono _ _ _ _ (fun r16 h15 hw => ?_) hw)
    refine pm_steps 1 ?_
    refine @pm_we _ _ _ _ _ _ hw (fun hw => ?_) (fun hw => ?_)
    · exact pm_steps 2 hw
    · refine pm_steps 2 ?_
      refine @wp_X6_isBellAndEvery_ok _ _ _ _ (@wp_X6_isBellAndEvery_mono _ _ _ _ (fun r18 h17 hw => ?_) hw)
      refine pm_steps 1 ?_
      refine @pm_we _ _ _ _ _ _ hw (fun hw => ?_) (fun hw => ?_)
      · exact pm_steps 2 hw
      · refine pm_steps 5 ?_
        refine @pm_wl _ _ _ _ _ _ hw (fun hw => ?_) (fun hw => ?_)
        · refine pm_steps 10 ?_
          refine @pm_wc _ _ _ hw (fun hw => ?_)
          refine pm_steps 6 ?_
          refine @pm_wc _ _ _ hw (fun hw => ?_)
          refine pm_steps 8 ?_
          refine @pm_wc _ _ _ hw (fun hw => ?_)
          refine pm_steps 8 ?_
          refine @pm_wc _ _ _ hw (fun hw => ?_)
          refine pm_steps 6 ?_
          refine @pm_wc _ _ _ hw (fun hw => ?_)
          exact pm_steps 8 hw
        · exact pm_steps 2 hw
/-! StairLines.exchange([IIIZ)I -/
set_option maxRecDepth 16384 in
def wp_X6_exchange_r6 (l1 : Int32) (l2 : Int32) (l3 : Int32) (h : pm_H) (Q : Int32 → pm_H → Prop) : Prop := pm_eq l3 0 (Q (-2) h) (pm_lt l1 0 (Q (-2) h) (pm_lt l1 (nI 5) (pm_ib (pm_in l1 5) (pm_ib (pm_in l1 5) (Q (h 6 l1.toNatClampNeg) (pm_u h 6 l1.toNatClampNeg l2)))) (Q (-2) h)))
set_option maxRecDepth 16384 in
theorem wp_X6_exchange_r6_mono {l1 : Int32} {l2 : Int32} {l3 : Int32} {h : pm_H} {Q Q' : Int32 → pm_H → Prop} (hQ : ∀ r h, Q r h → Q' r h) : wp_X6_exchange_r6 l1 l2 l3 h Q → wp_X6_exchange_r6 l1 l2 l3 h Q' := by unfold wp_X6_exchange_r6; exact (@pm_eq_mono _ _ _ _ _ _ (hQ _ _) (@pm_lt_mono _ _ _ _ _ _ (hQ _ _) (@pm_lt_mono _ _ _ _ _ _ (@pm_ib_mono _ _ _ (@pm_ib_mono _ _ _ (hQ _ _))) (hQ _ _))))
set_option maxRecDepth 16384 in
theorem wp_X6_exchange_r6_ok {d : Nat} {l1 : Int32} {l2 : Int32} {l3 : Int32} {h : pm_H} {Q : Option Value → pm_H → Prop} (hw : wp_X6_exchange_r6 l1 l2 l3 h (fun r h => Q (some (.int r)) h)) : pm_R (d + 0) mt_X6_exchange 0 [some (.ref 6), some (.int l1), some (.int l2), some (.int l3), none] [] h Q := by
  unfold wp_X6_exchange_r6 at hw
  refine pm_steps 2 ?_
  refine @pm_we _ _ _ _ _ _ hw (fun hw => ?_) (fun hw => ?_)
  · exact pm_steps 2 hw
  · refine pm_steps 2 ?_
    refine @pm_wl _ _ _ _ _ _ hw (fun hw => ?_) (fun hw => ?_)
    · exact pm_steps 2 hw
    · refine pm_steps 4 ?_
      refine @pm_wl _ _ _ _ _ _ hw (fun hw => ?_) (fun hw => ?_)
      · refine pm_steps 3 ?_
        refine @pm_wc _ _ _ hw (fun hw => ?_)
        refine pm_steps 5 ?_
        refine @pm_wc _ _ _ hw (fun hw => ?_)
        exact pm_steps 2 hw
      · exact pm_steps 2 hw
/-! StairLines.exchange([IIIZ)I -/
set_option maxRecDepth 16384 in
def wp_X6_exchange_r8 (l1 : Int32) (l2 : Int32) (l3 : Int32) (h : pm_H) (Q : Int32 → pm_H → Prop) : Prop := pm_eq l3 0 (Q (-2) h) (pm_lt l1 0 (Q (-2) h) (pm_lt l1 (nI 5) (pm_ib (pm_in l1 5) (pm_ib (pm_in l1 5) (Q (h 8 l1.toNatClampNeg) (pm_u h 8 l1.toNatClampNeg l2)))) (Q (-2) h)))
set_option maxRecDepth 16384 in
theorem wp_X6_exchange_r8_mono {l1 : Int32} {l2 : Int32} {l3 : Int32} {h : pm_H} {Q Q' : Int32 → pm_H → Prop} (hQ : ∀ r h, Q r h → Q' r h) : wp_X6_exchange_r8 l1 l2 l3 h Q → wp_X6_exchange_r8 l1 l2 l3 h Q' := by unfold wp_X6_exchange_r8; exact (@pm_eq_mono _ _ _ _ _ _ (hQ _ _) (@pm_lt_mono _ _ _ _ _ _ (hQ _ _) (@pm_lt_mono _ _ _ _ _ _ (@pm_ib_mono _ _ _ (@pm_ib_mono _ _ _ (hQ _ _))) (hQ _ _))))
set_option maxRecDepth 16384 in
theorem wp_X6_exchange_r8_ok {d : Nat} {l1 : Int32} {l2 : Int32} {l3 : Int32} {h : pm_H} {Q : Option Value → pm_H → Prop} (hw : wp_X6_exchange_r8 l1 l2 l3 h (fun r h => Q (some (.int r)) h)) : pm_R (d + 0) mt_X6_exchange 0 [some (.ref 8), some (.int l1), some (.int l2), some (.int l3), none] [] h Q := by
  unfold wp_X6_exchange_r8 at hw
  refine pm_steps 2 ?_
  refine @pm_we _ _ _ _ _ _ hw (fun hw => ?_) (fun hw => ?_)
  · exact pm_steps 2 hw
  · refine pm_steps 2 ?_
    refine @pm_wl _ _ _ _ _ _ hw (fun hw => ?_) (fun hw => ?_)
    · exact pm_steps 2 hw
    · refine pm_steps 4 ?_
      refine @pm_wl _ _ _ _ _ _ hw (fun hw => ?_) (fun hw => ?_)
      · refine pm_steps 3 ?_
        refine @pm_wc _ _ _ hw (fun hw => ?_)
        refine pm_steps 5 ?_
        refine @pm_wc _ _ _ hw (fun hw => ?_)
        exact pm_steps 2 hw
      · exact pm_steps 2 hw
/-! StairLines.exchange([IIIZ)I -/
set_option maxRecDepth 16384 in
def wp_X6_exchange_r7 (l1 : Int32) (l2 : Int32) (l3 : Int32) (h : pm_H) (Q : Int32 → pm_H → Prop) : Prop := pm_eq l3 0 (Q (-2) h) (pm_lt l1 0 (Q (-2) h) (pm_lt l1 (nI 5) (pm_ib (pm_in l1 5) (pm_ib (pm_in l1 5) (Q (h 7 l1.toNatClampNeg) (pm_u h 7 l1.toNatClampNeg l2)))) (Q (-2) h)))
set_option maxRecDepth 16384 in
theorem wp_X6_exchange_r7_mono {l1 : Int32} {l2 : Int32} {l3 : Int32} {h : pm_H} {Q Q' : Int32 → pm_H → Prop} (hQ : ∀ r h, Q r h → Q' r h) : wp_X6_exchange_r7 l1 l2 l3 h Q → wp_X6_exchange_r7 l1 l2 l3 h Q' := by unfold wp_X6_exchange_r7; exact (@pm_eq_mono _ _ _ _ _ _ (hQ _ _) (@pm_lt_mono _ _ _ _ _ _ (hQ _ _) (@pm_lt_mono _ _ _ _ _ _ (@pm_ib_mono _ _ _ (@pm_ib_mono _ _ _ (hQ _ _))) (hQ _ _))))
set_option maxRecDepth 16384 in
theorem wp_X6_exchange_r7_ok {d : Nat} {l1 : Int32} {l2 : Int32} {l3 : Int32} {h : pm_H} {Q : Option Value → pm_H → Prop} (hw : wp_X6_exchange_r7 l1 l2 l3 h (fun r h => Q (some (.int r)) h)) : pm_R (d + 0) mt_X6_exchange 0 [some (.ref 7), some (.int l1), some (.int l2), some (.int l3), none] [] h Q := by
  unfold wp_X6_exchange_r7 at hw
  refine pm_steps 2 ?_
  refine @pm_we _ _ _ _ _ _ hw (fun hw => ?_) (fun hw => ?_)
  · exact pm_steps 2 hw
  · refine pm_steps 2 ?_
    refine @pm_wl _ _ _ _ _ _ hw (fun hw => ?_) (fun hw => ?_)
    · exact pm_steps 2 hw
    · refine pm_steps 4 ?_
      refine @pm_wl _ _ _ _ _ _ hw (fun hw => ?_) (fun hw => ?_)
      · refine pm_steps 3 ?_
        refine @pm_wc _ _ _ hw (fun hw => ?_)
        refine pm_steps 5 ?_
        refine @pm_wc _ _ _ hw (fun hw => ?_)
        exact pm_steps 2 hw
      · exact pm_steps 2 hw
/-! StairLines.isClass(I)Z -/
set_option maxRecDepth 16384 in
def wp_X6_isClass (l1 : Int32) (h : pm_H) (Q : Int32 → pm_H → Prop) : Prop := pm_lt l1 0 (Q 0 h) (pm_lt l1 (h 1 8) (Q 1 h) (Q 0 h))
set_option maxRecDepth 16384 in
theorem wp_X6_isClass_mono {l1 : Int32} {h : pm_H} {Q Q' : Int32 → pm_H → Prop} (hQ : ∀ r h, Q r h → Q' r h) : wp_X6_isClass l1 h Q → wp_X6_isClass l1 h Q' := by unfold wp_X6_isClass; exact (@pm_lt_mono _ _ _ _ _ _ (hQ _ _) (@pm_lt_mono _ _ _ _ _ _ (hQ _ _) (hQ _ _)))
set_option maxRecDepth 16384 in
theorem wp_X6_isClass_ok {d : Nat} {l1 : Int32} {h : pm_H} {Q : Option Value → pm_H → Prop} (hw : wp_X6_isClass l1 h (fun r h => Q (some (.int r)) h)) : pm_R (d + 0) mt_X6_isClass 0 [some (.ref 0), some (.int l1)] [] h Q := by
  unfold wp_X6_isClass at hw
  refine pm_steps 2 ?_
  refine @pm_wl _ _ _ _ _ _ hw (fun hw => ?_) (fun hw => ?_)
  · exact pm_steps 2 hw
  · refine pm_steps 5 ?_
    refine @pm_wl _ _ _ _ _ _ hw (fun hw => ?_) (fun hw => ?_)
    · exact pm_steps 3 hw
    · exact pm_steps 2 hw
/-! StairLines.set(III)I -/
set_option maxRecDepth 16384 in
def wp_X6_set (l1 : Int32) (l2 : Int32) (l3 : Int32) (h : pm_H) (Q : Int32 → pm_H → Prop) : Prop := wp_X6_isClass l2 h (fun r20 h19 => pm_eq r20 0 (Q (-2) h19) (pm_eq l1 0 (wp_X6_between l3 0 199 h19 (fun r30 h29 => wp_X6_exchange_r7 l2 l3 r30 h29 (fun r32 h31 => Q r32 h31))) (pm_eq l1 1 (wp_X6_between l3 1 9 h19 (fun r26 h25 => wp_X6_exchange_r8 l2 l3 r26 h25 (fun r28 h27 => Q r28 h27))) (pm_eq l1 2 (wp_X6_isStep l3 h19 (fun r22 h21 => wp_X6_exchange_r6 l2 l3 r22 h21 (fun r24 h23 => Q r24 h23))) (Q (-2) h19)))))
set_option maxRecDepth 16384 in
theorem wp_X6_set_mono {l1 : Int32} {l2 : Int32} {l3 : Int32} {h : pm_H} {Q Q' : Int32 → pm_H → Prop} (hQ : ∀ r h, Q r h → Q' r h) : wp_X6_set l1 l2 l3 h Q → wp_X6_set l1 l2 l3 h Q' := by unfold wp_X6_set; exact (@wp_X6_isClass_mono _ _ _ _ (fun _ _ => (@pm_eq_mono _ _ _ _ _ _ (hQ _ _) (@pm_eq_mono _ _ _ _ _ _ (@wp_X6_between_mono _ _ _ _ _ _ (fun _ _ => (@wp_X6_exchange_r7_mono _ _ _ _ _ _ (fun _ _ => (hQ _ _))))) (@pm_eq_mono _ _ _ _ _ _ (@wp_X6_between_mono _ _ _ _ _ _ (fun _ _ => (@wp_X6_exchange_r8_mono _ _ _ _ _ _ (fun _ _ => (hQ _ _))))) (@pm_eq_mono _ _ _ _ _ _ (@wp_X6_isStep_mono _ _ _ _ (fun _ _ => (@wp_X6_exchange_r6_mono _ _ _ _ _ _ (fun _ _ => (hQ _ _))))) (hQ _ _)))))))
set_option maxRecDepth 16384 in
theorem wp_X6_set_ok {d : Nat} {l1 : Int32} {l2 : Int32} {l3 : Int32} {h : pm_H} {Q : Option Value → pm_H → Prop} (hw : wp_X6_set l1 l2 l3 h (fun r h => Q (some (.int r)) h)) : pm_R (d + 2) mt_X6_set 0 [some (.ref 0), some (.int l1), some (.int l2), some (.int l3)] [] h Q := by
  unfold wp_X6_set at hw
  refine pm_steps 3 ?_
  refine @wp_X6_isClass_ok _ _ _ _ (@wp_X6_isClass_mono _ _ _ _ (fun r20 h19 hw => ?_) hw)
  refine pm_steps 1 ?_
  refine @pm_we _ _ _ _ _ _ hw (fun hw => ?_) (fun hw => ?_)
  · exact pm_steps 2 hw
  · refine pm_steps 2 ?_
    refine @pm_we _ _ _ _ _ _ hw (fun hw => ?_) (fun hw => ?_)
    · refine pm_steps 9 ?_
      refine @wp_X6_between_ok _ _ _ _ _ _ (@wp_X6_between_mono _ _ _ _ _ _ (fun r30 h29 hw => ?_) hw)
      refine pm_steps 1 ?_
      refine @wp_X6_exchange_r7_ok _ _ _ _ _ _ (@wp_X6_exchange_r7_mono _ _ _ _ _ _ (fun r32 h31 hw => ?_) hw)
      exact pm_steps 1 hw
    · refine @pm_we _ _ _ _ _ _ hw (fun hw => ?_) (fun hw => ?_)
      · refine pm_steps 9 ?_
        refine @wp_X6_between_ok _ _ _ _ _ _ (@wp_X6_between_mono _ _ _ _ _ _ (fun r26 h25 hw => ?_) hw)
        refine pm_steps 1 ?_
        refine @wp_X6_exchange_r8_ok _ _ _ _ _ _ (@wp_X6_exchange_r8_mono _ _ _ _ _ _ (fun r28 h27 hw => ?_) hw)
        exact pm_steps 1 hw
      · refine @pm_we _ _ _ _ _ _ hw (fun hw => ?_) (fun hw => ?_)
        · refine pm_steps 7 ?_
          refine @wp_X6_isStep_ok _ _ _ _ (@wp_X6_isStep_mono _ _ _ _ (fun r22 h21 hw => ?_) hw)
          refine pm_steps 1 ?_
          refine @wp_X6_exchange_r6_ok _ _ _ _ _ _ (@wp_X6_exchange_r6_mono _ _ _ _ _ _ (fun r24 h23 hw => ?_) hw)
          exact pm_steps 1 hw
        · exact pm_steps 2 hw
/-! StairLines.toldOfClass(II)I -/
set_option maxRecDepth 16384 in
def wp_X6_toldOfClass (l1 : Int32) (l2 : Int32) (h : pm_H) (Q : Int32 → pm_H → Prop) : Prop := pm_eq l2 5 (pm_ib (pm_in l1 5) (Q (h 5 l1.toNatClampNeg) h)) (pm_eq l2 6 (pm_ib (pm_in l1 5) (Q (h 6 l1.toNatClampNeg) h)) (pm_eq l2 7 (pm_ib (pm_in l1 5) (Q (h 7 l1.toNatClampNeg) h)) (pm_eq l2 8 (pm_ib (pm_in l1 5) (Q (h 8 l1.toNatClampNeg) h)) (pm_eq l2 9 (pm_ib (pm_in l1 5) (Q (h 9 l1.toNatClampNeg) h)) (Q (-2) h)))))
set_option maxRecDepth 16384 in
theorem wp_X6_toldOfClass_mono {l1 : Int32} {l2 : Int32} {h : pm_H} {Q Q' : Int32 → pm_H → Prop} (hQ : ∀ r h, Q r h → Q' r h) : wp_X6_toldOfClass l1 l2 h Q → wp_X6_toldOfClass l1 l2 h Q' := by unfold wp_X6_toldOfClass; exact (@pm_eq_mono _ _ _ _ _ _ (@pm_ib_mono _ _ _ (hQ _ _)) (@pm_eq_mono _ _ _ _ _ _ (@pm_ib_mono _ _ _ (hQ _ _)) (@pm_eq_mono _ _ _ _ _ _ (@pm_ib_mono _ _ _ (hQ _ _)) (@pm_eq_mono _ _ _ _ _ _ (@pm_ib_mono _ _ _ (hQ _ _)) (@pm_eq_mono _ _ _ _ _ _ (@pm_ib_mono _ _ _ (hQ _ _)) (hQ _ _))))))
set_option maxRecDepth 16384 in
theorem wp_X6_toldOfClass_ok {d : Nat} {l1 : Int32} {l2 : Int32} {h : pm_H} {Q : Option Value → pm_H → Prop} (hw : wp_X6_toldOfClass l1 l2 h (fun r h => Q (some (.int r)) h)) : pm_R (d + 0) mt_X6_toldOfClass 0 [some (.ref 0), some (.int l1), some (.int l2)] [] h Q := by
  unfold wp_X6_toldOfClass at hw
  refine pm_steps 2 ?_
  refine @pm_we _ _ _ _ _ _ hw (fun hw => ?_) (fun hw => ?_)
  · refine pm_steps 5 ?_
    refine @pm_wc _ _ _ hw (fun hw => ?_)
    exact pm_steps 1 hw
  · refine @pm_we _ _ _ _ _ _ hw (fun hw => ?_) (fun hw => ?_)
    · refine pm_steps 5 ?_
      refine @pm_wc _ _ _ hw (fun hw => ?_)
      exact pm_steps 1 hw
    · refine @pm_we _ _ _ _ _ _ hw (fun hw => ?_) (fun hw => ?_)
      · refine pm_steps 5 ?_
        refine @pm_wc _ _ _ hw (fun hw => ?_)
        exact pm_steps 1 hw
      · refine @pm_we _ _ _ _ _ _ hw (fun hw => ?_) (fun hw => ?_)
        · refine pm_steps 5 ?_
          refine @pm_wc _ _ _ hw (fun hw => ?_)
          exact pm_steps 1 hw
        · refine @pm_we _ _ _ _ _ _ hw (fun hw => ?_) (fun hw => ?_)
          · refine pm_steps 5 ?_
            refine @pm_wc _ _ _ hw (fun hw => ?_)
            exact pm_steps 1 hw
          · exact pm_steps 2 hw
/-! StairLines$Stair.passes(I)I -/
set_option maxRecDepth 16384 in
def wp_X3_passes_r1 (l1 : Int32) (h : pm_H) (Q : Int32 → pm_H → Prop) : Prop := pm_ib (pm_in l1 10) (pm_ib (pm_in l1 10) (pm_eq (h 2 l1.toNatClampNeg) 1 (Q (pm_op (pm_max 0 (pm_op ((h 3 l1.toNatClampNeg) - 1)))) h) (pm_eq (h 2 l1.toNatClampNeg) 2 (Q (h 3 l1.toNatClampNeg) h) (pm_eq (h 2 l1.toNatClampNeg) 3 (Q (pm_op (pm_max 1 (pm_op (pm_max 0 (pm_op ((h 3 l1.toNatClampNeg) - 1)))))) h) (pm_eq (h 2 l1.toNatClampNeg) 4 (pm_eq (pm_op (pm_rem (h 1 9) 2)) 0 (Q (h 3 l1.toNatClampNeg) h) (Q 0 h)) (pm_eq (h 2 l1.toNatClampNeg) 5 (pm_lt 0 (pm_op ((h 3 l1.toNatClampNeg) + 2)) (pm_nz (pm_op ((h 3 l1.toNatClampNeg) + 2)) (pm_eq (pm_op (pm_rem (h 1 9) (pm_op ((h 3 l1.toNatClampNeg) + 2)))) 0 (Q 0 h) (Q (pm_op (pm_max 0 (pm_op ((h 3 l1.toNatClampNeg) - 1)))) h))) (Q (pm_op (pm_max 0 (pm_op ((h 3 l1.toNatClampNeg) - 1)))) h)) (Q (h 3 l1.toNatClampNeg) h)))))))
set_option maxRecDepth 16384 in
theorem wp_X3_passes_r1_mono {l1 : Int32} {h : pm_H} {Q Q' : Int32 → pm_H → Prop} (hQ : ∀ r h, Q r h → Q' r h) : wp_X3_passes_r1 l1 h Q → wp_X3_passes_r1 l1 h Q' := by unfold wp_X3_passes_r1; exact (@pm_ib_mono _ _ _ (@pm_ib_mono _ _ _ (@pm_eq_mono _ _ _ _ _ _ (hQ _ _) (@pm_eq_mono _ _ _ _ _ _ (hQ _ _) (@pm_eq_mono _ _ _ _ _ _ (hQ _ _) (@pm_eq_mono _ _ _ _ _ _ (@pm_eq_mono _ _ _ _ _ _ (hQ _ _) (hQ _ _)) (@pm_eq_mono _ _ _ _ _ _ (@pm_lt_mono _ _ _ _ _ _ (@pm_nz_mono _ _ _ (@pm_eq_mono _ _ _ _ _ _ (hQ _ _) (hQ _ _))) (hQ _ _)) (hQ _ _))))))))
set_option maxRecDepth 16384 in
theorem wp_X3_passes_r1_ok {d : Nat} {l1 : Int32} {h : pm_H} {Q : Option Value → pm_H → Prop} (hw : wp_X3_passes_r1 l1 h (fun r h => Q (some (.int r)) h)) : pm_R (d + 0) mt_X3_passes 0 [some (.ref 1), some (.int l1), none, none, none] [] h Q := by
  unfold wp_X3_passes_r1 at hw
  refine pm_steps 4 ?_
  refine @pm_wc _ _ _ hw (fun hw => ?_)
  refine pm_steps 15 ?_
  refine @pm_wc _ _ _ hw (fun hw => ?_)
  refine pm_steps 1 ?_
  refine @pm_we _ _ _ _ _ _ hw (fun hw => ?_) (fun hw => ?_)
  · exact pm_steps 2 hw
  · refine @pm_we _ _ _ _ _ _ hw (fun hw => ?_) (fun hw => ?_)
    · exact pm_steps 2 hw
    · refine @pm_we _ _ _ _ _ _ hw (fun hw => ?_) (fun hw => ?_)
      · exact pm_steps 4 hw
      · refine @pm_we _ _ _ _ _ _ hw (fun hw => ?_) (fun hw => ?_)
        · refine pm_steps 5 ?_
          refine @pm_we _ _ _ _ _ _ hw (fun hw => ?_) (fun hw => ?_)
          · exact pm_steps 3 hw
          · exact pm_steps 2 hw
        · refine @pm_we _ _ _ _ _ _ hw (fun hw => ?_) (fun hw => ?_)
          · refine pm_steps 2 ?_
            refine @pm_wl _ _ _ _ _ _ hw (fun hw => ?_) (fun hw => ?_)
            · refine pm_steps 4 ?_
              refine @pm_wz _ _ _ hw (fun hw => ?_)
              refine pm_steps 1 ?_
              refine @pm_we _ _ _ _ _ _ hw (fun hw => ?_) (fun hw => ?_)
              · exact pm_steps 3 hw
              · exact pm_steps 2 hw
            · exact pm_steps 2 hw
          · exact pm_steps 2 hw
/-! StairLines.toldOfStep(II)I -/
set_option maxRecDepth 16384 in
def wp_X6_toldOfStep (l1 : Int32) (l2 : Int32) (h : pm_H) (Q : Int32 → pm_H → Prop) : Prop := pm_eq l2 0 (pm_ib (pm_in l1 10) (Q (h 2 l1.toNatClampNeg) h)) (pm_eq l2 1 (pm_ib (pm_in l1 10) (Q (h 3 l1.toNatClampNeg) h)) (pm_eq l2 2 (pm_ib (pm_in l1 10) (pm_ib (pm_in l1 10) (wp_X3_holdsOf (h 2 l1.toNatClampNeg) (h 3 l1.toNatClampNeg) h (fun r46 h45 => Q r46 h45)))) (pm_eq l2 3 (wp_X3_passes_r1 l1 h (fun r44 h43 => Q r44 h43)) (pm_ib (pm_in l1 10) (Q (h 4 l1.toNatClampNeg) h)))))
set_option maxRecDepth 16384 in
theorem wp_X6_toldOfStep_mono {l1 : Int32} {l2 : Int32} {h : pm_H} {Q Q' : Int32 → pm_H → Prop} (hQ : ∀ r h, Q r h → Q' r h) : wp_X6_toldOfStep l1 l2 h Q → wp_X6_toldOfStep l1 l2 h Q' := by unfold wp_X6_toldOfStep; exact (@pm_eq_mono _ _ _ _ _ _ (@pm_ib_mono _ _ _ (hQ _ _)) (@pm_eq_mono _ _ _ _ _ _ (@pm_ib_mono _ _ _ (hQ _ _)) (@pm_eq_mono _ _ _ _ _ _ (@pm_ib_mono _ _ _ (@pm_ib_mono _ _ _ (@wp_X3_holdsOf_mono _ _ _ _ _ (fun _ _ => (hQ _ _))))) (@pm_eq_mono _ _ _ _ _ _ (@wp_X3_passes_r1_mono _ _ _ _ (fun _ _ => (hQ _ _))) (@pm_ib_mono _ _ _ (hQ _ _))))))
set_option maxRecDepth 16384 in
theorem wp_X6_toldOfStep_ok {d : Nat} {l1 : Int32} {l2 : Int32} {h : pm_H} {Q : Option Value → pm_H → Prop} (hw : wp_X6_toldOfStep l1 l2 h (fun r h => Q (some (.int r)) h)) : pm_R (d + 1) mt_X6_toldOfStep 0 [some (.ref 0), some (.int l1), some (.int l2)] [] h Q := by
  unfold wp_X6_toldOfStep at hw
  refine pm_steps 2 ?_
  refine @pm_we _ _ _ _ _ _ hw (fun hw => ?_) (fun hw => ?_)
  · refine pm_steps 5 ?_
    refine @pm_wc _ _ _ hw (fun hw => ?_)
    exact pm_steps 1 hw
  · refine @pm_we _ _ _ _ _ _ hw (fun hw => ?_) (fun hw => ?_)
    · refine pm_steps 5 ?_
      refine @pm_wc _ _ _ hw (fun hw => ?_)
      exact pm_steps 1 hw
    · refine @pm_we _ _ _ _ _ _ hw (fun hw => ?_) (fun hw => ?_)
      · refine pm_steps 5 ?_
        refine @pm_wc _ _ _ hw (fun hw => ?_)
        refine pm_steps 5 ?_
        refine @pm_wc _ _ _ hw (fun hw => ?_)
        refine pm_steps 1 ?_
        refine @wp_X3_holdsOf_ok _ _ _ _ _ (@wp_X3_holdsOf_mono _ _ _ _ _ (fun r46 h45 hw => ?_) hw)
        exact pm_steps 1 hw
      · refine @pm_we _ _ _ _ _ _ hw (fun hw => ?_) (fun hw => ?_)
        · refine pm_steps 4 ?_
          refine @wp_X3_passes_r1_ok _ _ _ _ (@wp_X3_passes_r1_mono _ _ _ _ (fun r44 h43 hw => ?_) hw)
          exact pm_steps 1 hw
        · refine pm_steps 5 ?_
          refine @pm_wc _ _ _ hw (fun hw => ?_)
          exact pm_steps 1 hw
/-! StairLines.told(II)I -/
set_option maxRecDepth 16384 in
def wp_X6_told (l1 : Int32) (l2 : Int32) (h : pm_H) (Q : Int32 → pm_H → Prop) : Prop := wp_X6_between l2 0 4 h (fun r34 h33 => pm_eq r34 0 (wp_X6_isClass l1 h33 (fun r36 h35 => pm_eq r36 0 (Q (-2) h35) (wp_X6_toldOfClass l1 l2 h35 (fun r38 h37 => Q r38 h37)))) (wp_X6_isStep l1 h33 (fun r40 h39 => pm_eq r40 0 (Q (-2) h39) (wp_X6_toldOfStep l1 l2 h39 (fun r42 h41 => Q r42 h41)))))
set_option maxRecDepth 16384 in
theorem wp_X6_told_mono {l1 : Int32} {l2 : Int32} {h : pm_H} {Q Q' : Int32 → pm_H → Prop} (hQ : ∀ r h, Q r h → Q' r h) : wp_X6_told l1 l2 h Q → wp_X6_told l1 l2 h Q' := by unfold wp_X6_told; exact (@wp_X6_between_mono _ _ _ _ _ _ (fun _ _ => (@pm_eq_mono _ _ _ _ _ _ (@wp_X6_isClass_mono _ _ _ _ (fun _ _ => (@pm_eq_mono _ _ _ _ _ _ (hQ _ _) (@wp_X6_toldOfClass_mono _ _ _ _ _ (fun _ _ => (hQ _ _)))))) (@wp_X6_isStep_mono _ _ _ _ (fun _ _ => (@pm_eq_mono _ _ _ _ _ _ (hQ _ _) (@wp_X6_toldOfStep_mono _ _ _ _ _ (fun _ _ => (hQ _ _)))))))))
set_option maxRecDepth 16384 in
theorem wp_X6_told_ok {d : Nat} {l1 : Int32} {l2 : Int32} {h : pm_H} {Q : Option Value → pm_H → Prop} (hw : wp_X6_told l1 l2 h (fun r h => Q (some (.int r)) h)) : pm_R (d + 2) mt_X6_told 0 [some (.ref 0), some (.int l1), some (.int l2)] [] h Q := by
  unfold wp_X6_told at hw
  refine pm_steps 4 ?_
  refine @wp_X6_between_ok _ _ _ _ _ _ (@wp_X6_between_mono _ _ _ _ _ _ (fun r34 h33 hw => ?_) hw)
  refine pm_steps 1 ?_
  refine @pm_we _ _ _ _ _ _ hw (fun hw => ?_) (fun hw => ?_)
  · refine pm_steps 3 ?_
    refine @wp_X6_isClass_ok _ _ _ _ (@wp_X6_isClass_mono _ _ _ _ (fun r36 h35 hw => ?_) hw)
    refine pm_steps 1 ?_
    refine @pm_we _ _ _ _ _ _ hw (fun hw => ?_) (fun hw => ?_)
    · exact pm_steps 2 hw
    · refine pm_steps 4 ?_
      refine @wp_X6_toldOfClass_ok _ _ _ _ _ (@wp_X6_toldOfClass_mono _ _ _ _ _ (fun r38 h37 hw => ?_) hw)
      exact pm_steps 2 hw
  · refine pm_steps 2 ?_
    refine @wp_X6_isStep_ok _ _ _ _ (@wp_X6_isStep_mono _ _ _ _ (fun r40 h39 hw => ?_) hw)
    refine pm_steps 1 ?_
    refine @pm_we _ _ _ _ _ _ hw (fun hw => ?_) (fun hw => ?_)
    · exact pm_steps 2 hw
    · refine pm_steps 4 ?_
      refine @wp_X6_toldOfStep_ok _ _ _ _ _ (@wp_X6_toldOfStep_mono _ _ _ _ _ (fun r42 h41 hw => ?_) hw)
      exact pm_steps 2 hw
/-! StairLines$Reader.put(I)Z -/
set_option maxRecDepth 16384 in
def wp_X0_put (l1 : Int32) (h : pm_H) (Q : Int32 → pm_H → Prop) : Prop := pm_lt (h 34 0) 160 (pm_ib (pm_in (h 34 0) 160) (Q 1 (pm_u (pm_u h 35 (h 34 0).toNatClampNeg l1) 34 0 (pm_op ((h 34 0) + 1))))) (Q 0 h)
set_option maxRecDepth 16384 in
theorem wp_X0_put_mono {l1 : Int32} {h : pm_H} {Q Q' : Int32 → pm_H → Prop} (hQ : ∀ r h, Q r h → Q' r h) : wp_X0_put l1 h Q → wp_X0_put l1 h Q' := by unfold wp_X0_put; exact (@pm_lt_mono _ _ _ _ _ _ (@pm_ib_mono _ _ _ (hQ _ _)) (hQ _ _))
set_option maxRecDepth 16384 in
theorem wp_X0_put_ok {d : Nat} {l1 : Int32} {h : pm_H} {Q : Option Value → pm_H → Prop} (hw : wp_X0_put l1 h (fun r h => Q (some (.int r)) h)) : pm_R (d + 0) mt_X0_put 0 [some (.ref 34), some (.int l1)] [] h Q := by
  unfold wp_X0_put at hw
  refine pm_steps 4 ?_
  refine @pm_wl _ _ _ _ _ _ hw (fun hw => ?_) (fun hw => ?_)
  · refine pm_steps 6 ?_
    refine @pm_wc _ _ _ hw (fun hw => ?_)
    exact pm_steps 8 hw
  · exact pm_steps 2 hw
/-! StairLines.feed(I)I -/
set_option maxRecDepth 16384 in
def wp_X6_feed (l1 : Int32) (h : pm_H) (Q : Int32 → pm_H → Prop) : Prop := wp_X6_between l1 0 255 h (fun r48 h47 => pm_eq r48 0 (Q (-2) h47) (wp_X0_put l1 h47 (fun r50 h49 => pm_eq r50 0 (Q (-4) h49) (Q (h49 34 0) h49))))
set_option maxRecDepth 16384 in
theorem wp_X6_feed_mono {l1 : Int32} {h : pm_H} {Q Q' : Int32 → pm_H → Prop} (hQ : ∀ r h, Q r h → Q' r h) : wp_X6_feed l1 h Q → wp_X6_feed l1 h Q' := by unfold wp_X6_feed; exact (@wp_X6_between_mono _ _ _ _ _ _ (fun _ _ => (@pm_eq_mono _ _ _ _ _ _ (hQ _ _) (@wp_X0_put_mono _ _ _ _ (fun _ _ => (@pm_eq_mono _ _ _ _ _ _ (hQ _ _) (hQ _ _)))))))
set_option maxRecDepth 16384 in
theorem wp_X6_feed_ok {d : Nat} {l1 : Int32} {h : pm_H} {Q : Option Value → pm_H → Prop} (hw : wp_X6_feed l1 h (fun r h => Q (some (.int r)) h)) : pm_R (d + 1) mt_X6_feed 0 [some (.ref 0), some (.int l1)] [] h Q := by
  unfold wp_X6_feed at hw
  refine pm_steps 4 ?_
  refine @wp_X6_between_ok _ _ _ _ _ _ (@wp_X6_between_mono _ _ _ _ _ _ (fun r48 h47 hw => ?_) hw)
  refine pm_steps 1 ?_
  refine @pm_we _ _ _ _ _ _ hw (fun hw => ?_) (fun hw => ?_)
  · exact pm_steps 2 hw
  · refine pm_steps 4 ?_
    refine @wp_X0_put_ok _ _ _ _ (@wp_X0_put_mono _ _ _ _ (fun r50 h49 hw => ?_) hw)
    refine pm_steps 1 ?_
    refine @pm_we _ _ _ _ _ _ hw (fun hw => ?_) (fun hw => ?_)
    · exact pm_steps 2 hw
    · exact pm_steps 5 hw
/-! StairLines.text()I -/
set_option maxRecDepth 16384 in
def wp_X6_text (c_readInto : Nat → pm_H → (Int32 → pm_H → Prop) → Prop)  (h : pm_H) (Q : Int32 → pm_H → Prop) : Prop := pm_lt (h 0 6) 6 (pm_ib (pm_in (h 0 6) 6) (c_readInto (40 + 3 * (h 0 6).toNatClampNeg) h (fun r52 h51 => pm_eq r52 (-1) (Q (pm_op ((pm_op ((h51 0 6) + 1)) - 1)) (pm_u h51 0 6 (pm_op ((h51 0 6) + 1)))) (Q (pm_op ((-100) - r52)) h51)))) (Q (-4) h)
set_option maxRecDepth 16384 in
theorem wp_X6_text_mono {c_readInto : Nat → pm_H → (Int32 → pm_H → Prop) → Prop}  {h : pm_H} {Q Q' : Int32 → pm_H → Prop} (mc_readInto : ∀ (a0 : Nat) (h : pm_H) (Q Q' : Int32 → pm_H → Prop), (∀ r h, Q r h → Q' r h) → c_readInto a0 h Q → c_readInto a0 h Q') (hQ : ∀ r h, Q r h → Q' r h) : wp_X6_text c_readInto  h Q → wp_X6_text c_readInto  h Q' := by unfold wp_X6_text; exact (@pm_lt_mono _ _ _ _ _ _ (@pm_ib_mono _ _ _ (mc_readInto _ _ _ _ (fun _ _ => (@pm_eq_mono _ _ _ _ _ _ (hQ _ _) (hQ _ _))))) (hQ _ _))
set_option maxRecDepth 16384 in
theorem wp_X6_text_ok {d : Nat} {c_readInto : Nat → pm_H → (Int32 → pm_H → Prop) → Prop}  {h : pm_H} {Q : Option Value → pm_H → Prop} (oc_readInto : ∀ (a0 : Nat) (h : pm_H) (Q : Option Value → pm_H → Prop), c_readInto a0 h (fun r h => Q (some (.int r)) h) → pm_R (d + 5) mt_X0_readInto 0 [some (.ref 34), some (.ref a0), none] [] h Q) (mc_readInto : ∀ (a0 : Nat) (h : pm_H) (Q Q' : Int32 → pm_H → Prop), (∀ r h, Q r h → Q' r h) → c_readInto a0 h Q → c_readInto a0 h Q') (hw : wp_X6_text c_readInto  h (fun r h => Q (some (.int r)) h)) : pm_R (d + 6) mt_X6_text 0 [some (.ref 0), none] [] h Q := by
  unfold wp_X6_text at hw
  refine pm_steps 4 ?_
  refine @pm_wl _ _ _ _ _ _ hw (fun hw => ?_) (fun hw => ?_)
  · refine pm_steps 7 ?_
    refine @pm_wc _ _ _ hw (fun hw => ?_)
    refine pm_steps 1 ?_
    refine oc_readInto _ _ _ (mc_readInto _ _ _ _ (fun r52 h51 hw => ?_) hw)
    refine pm_steps 4 ?_
    refine @pm_we _ _ _ _ _ _ hw (fun hw => ?_) (fun hw => ?_)
    · exact pm_steps 11 hw
    · exact pm_steps 4 hw
  · exact pm_steps 2 hw
/-! StairLines.force(I)I -/
set_option maxRecDepth 16384 in
def wp_X6_force (l1 : Int32) (h : pm_H) (Q : Int32 → pm_H → Prop) : Prop := pm_lt l1 0 (Q (-2) h) (pm_lt l1 (h 0 6) (Q (h 1 11) (pm_u h 1 11 l1)) (Q (-2) h))
set_option maxRecDepth 16384 in
theorem wp_X6_force_mono {l1 : Int32} {h : pm_H} {Q Q' : Int32 → pm_H → Prop} (hQ : ∀ r h, Q r h → Q' r h) : wp_X6_force l1 h Q → wp_X6_force l1 h Q' := by unfold wp_X6_force; exact (@pm_lt_mono _ _ _ _ _ _ (hQ _ _) (@pm_lt_mono _ _ _ _ _ _ (hQ _ _) (hQ _ _)))
set_option maxRecDepth 16384 in
theorem wp_X6_force_ok {d : Nat} {l1 : Int32} {h : pm_H} {Q : Option Value → pm_H → Prop} (hw : wp_X6_force l1 h (fun r h => Q (some (.int r)) h)) : pm_R (d + 0) mt_X6_force 0 [some (.ref 0), some (.int l1), none] [] h Q := by
  unfold wp_X6_force at hw
  refine pm_steps 2 ?_
  refine @pm_wl _ _ _ _ _ _ hw (fun hw => ?_) (fun hw => ?_)
  · exact pm_steps 2 hw
  · refine pm_steps 4 ?_
    refine @pm_wl _ _ _ _ _ _ hw (fun hw => ?_) (fun hw => ?_)
    · exact pm_steps 10 hw
    · exact pm_steps 2 hw
/-! StairLines$Stair.becomeLike(LStairLines$Stair;)V -/
set_option maxRecDepth 16384 in
def wp_X3_becomeLike_r1_r20  (h : pm_H) (Q : pm_H → Prop) : Prop := Q (pm_u (pm_u (pm_u (pm_u (pm_cp (pm_cp (pm_cp (pm_cp (pm_cp (pm_cp (pm_cp (pm_cp h 21 0 2 0 10) 22 0 3 0 10) 23 0 4 0 10) 24 0 5 0 5) 25 0 6 0 5) 26 0 7 0 5) 27 0 8 0 5) 28 0 9 0 5) 1 8 ((pm_cp (pm_cp (pm_cp (pm_cp (pm_cp (pm_cp (pm_cp (pm_cp h 21 0 2 0 10) 22 0 3 0 10) 23 0 4 0 10) 24 0 5 0 5) 25 0 6 0 5) 26 0 7 0 5) 27 0 8 0 5) 28 0 9 0 5) 20 8)) 1 9 ((pm_cp (pm_cp (pm_cp (pm_cp (pm_cp (pm_cp (pm_cp (pm_cp h 21 0 2 0 10) 22 0 3 0 10) 23 0 4 0 10) 24 0 5 0 5) 25 0 6 0 5) 26 0 7 0 5) 27 0 8 0 5) 28 0 9 0 5) 20 9)) 1 10 ((pm_cp (pm_cp (pm_cp (pm_cp (pm_cp (pm_cp (pm_cp (pm_cp h 21 0 2 0 10) 22 0 3 0 10) 23 0 4 0 10) 24 0 5 0 5) 25 0 6 0 5) 26 0 7 0 5) 27 0 8 0 5) 28 0 9 0 5) 20 10)) 1 11 ((pm_cp (pm_cp (pm_cp (pm_cp (pm_cp (pm_cp (pm_cp (pm_cp h 21 0 2 0 10) 22 0 3 0 10) 23 0 4 0 10) 24 0 5 0 5) 25 0 6 0 5) 26 0 7 0 5) 27 0 8 0 5) 28 0 9 0 5) 20 11))
set_option maxRecDepth 16384 in
theorem wp_X3_becomeLike_r1_r20_mono  {h : pm_H} {Q Q' : pm_H → Prop} (hQ : ∀ h, Q h → Q' h) : wp_X3_becomeLike_r1_r20  h Q → wp_X3_becomeLike_r1_r20  h Q' := by unfold wp_X3_becomeLike_r1_r20; exact (hQ _)
set_option maxRecDepth 16384 in
theorem wp_X3_becomeLike_r1_r20_ok {d : Nat}  {h : pm_H} {Q : Option Value → pm_H → Prop} (hw : wp_X3_becomeLike_r1_r20  h (fun h => Q none h)) : pm_R (d + 0) mt_X3_becomeLike 0 [some (.ref 1), some (.ref 20)] [] h Q := by
  unfold wp_X3_becomeLike_r1_r20 at hw
  refine pm_steps 61 ?_
  exact pm_steps 20 hw
/-! StairLines$Stair.roomOn(I)I -/
set_option maxRecDepth 16384 in
def wp_X3_roomOn_r20 (l1 : Int32) (h : pm_H) (Q : Int32 → pm_H → Prop) : Prop := pm_ib (pm_in l1 10) (pm_ib (pm_in l1 10) (wp_X3_holdsOf (h 21 l1.toNatClampNeg) (h 22 l1.toNatClampNeg) h (fun r64 h63 => pm_ib (pm_in l1 10) (Q (pm_op (r64 - (h63 23 l1.toNatClampNeg))) h63))))
set_option maxRecDepth 16384 in
theorem wp_X3_roomOn_r20_mono {l1 : Int32} {h : pm_H} {Q Q' : Int32 → pm_H → Prop} (hQ : ∀ r h, Q r h → Q' r h) : wp_X3_roomOn_r20 l1 h Q → wp_X3_roomOn_r20 l1 h Q' := by unfold wp_X3_roomOn_r20; exact (@pm_ib_mono _ _ _ (@pm_ib_mono _ _ _ (@wp_X3_holdsOf_mono _ _ _ _ _ (fun _ _ => (@pm_ib_mono _ _ _ (hQ _ _))))))
set_option maxRecDepth 16384 in
theorem wp_X3_roomOn_r20_ok {d : Nat} {l1 : Int32} {h : pm_H} {Q : Option Value → pm_H → Prop} (hw : wp_X3_roomOn_r20 l1 h (fun r h => Q (some (.int r)) h)) : pm_R (d + 1) mt_X3_roomOn 0 [some (.ref 20), some (.int l1)] [] h Q := by
  unfold wp_X3_roomOn_r20 at hw
  refine pm_steps 4 ?_
  refine @pm_wc _ _ _ hw (fun hw => ?_)
  refine pm_steps 4 ?_
  refine @pm_wc _ _ _ hw (fun hw => ?_)
  refine pm_steps 1 ?_
  refine @wp_X3_holdsOf_ok _ _ _ _ _ (@wp_X3_holdsOf_mono _ _ _ _ _ (fun r64 h63 hw => ?_) hw)
  refine pm_steps 4 ?_
  refine @pm_wc _ _ _ hw (fun hw => ?_)
  exact pm_steps 2 hw
/-! StairLines$Reckoner.nameValue(I)I -/
set_option maxRecDepth 16384 in
def wp_X1_nameValue (l1 : Int32) (h : pm_H) (Q : Int32 → pm_H → Prop) : Prop := pm_lt (pm_op ((-1) - l1)) 0 (Q 0 h) (pm_lt (pm_op ((-1) - l1)) 6 (pm_ib (pm_in (pm_op ((-1) - l1)) 6) (Q (h 32 (pm_op ((-1) - l1)).toNatClampNeg) h)) (Q 0 h))
set_option maxRecDepth 16384 in
theorem wp_X1_nameValue_mono {l1 : Int32} {h : pm_H} {Q Q' : Int32 → pm_H → Prop} (hQ : ∀ r h, Q r h → Q' r h) : wp_X1_nameValue l1 h Q → wp_X1_nameValue l1 h Q' := by unfold wp_X1_nameValue; exact (@pm_lt_mono _ _ _ _ _ _ (hQ _ _) (@pm_lt_mono _ _ _ _ _ _ (@pm_ib_mono _ _ _ (hQ _ _)) (hQ _ _)))
set_option maxRecDepth 16384 in
theorem wp_X1_nameValue_ok {d : Nat} {l1 : Int32} {h : pm_H} {Q : Option Value → pm_H → Prop} (hw : wp_X1_nameValue l1 h (fun r h => Q (some (.int r)) h)) : pm_R (d + 0) mt_X1_nameValue 0 [some (.ref 31), some (.int l1), none] [] h Q := by
  unfold wp_X1_nameValue at hw
  refine pm_steps 6 ?_
  refine @pm_wl _ _ _ _ _ _ hw (fun hw => ?_) (fun hw => ?_)
  · exact pm_steps 2 hw
  · refine pm_steps 3 ?_
    refine @pm_wl _ _ _ _ _ _ hw (fun hw => ?_) (fun hw => ?_)
    · refine pm_steps 4 ?_
      refine @pm_wc _ _ _ hw (fun hw => ?_)
      exact pm_steps 2 hw
    · exact pm_steps 2 hw
/-! StairLines$Reckoner.joined(III)I -/
set_option maxRecDepth 16384 in
def wp_X1_joined (l0 : Int32) (l1 : Int32) (l2 : Int32) (h : pm_H) (Q : Int32 → pm_H → Prop) : Prop := pm_eq l1 (-17) (pm_eq l0 0 (Q 0 h) (pm_eq l2 0 (Q 0 h) (Q 1 h))) (pm_eq l1 (-16) (pm_eq l0 l2 (Q 1 h) (Q 0 h)) (pm_eq l1 (-15) (pm_lt l0 l2 (Q 1 h) (Q 0 h)) (pm_eq l1 (-14) (Q (pm_op (l0 * l2)) h) (pm_eq l1 (-13) (Q (pm_op (l0 - l2)) h) (pm_eq l1 (-12) (Q (pm_op (l0 + l2)) h) (pm_eq l0 0 (pm_eq l2 0 (Q 0 h) (Q 1 h)) (Q 1 h)))))))
set_option maxRecDepth 16384 in
theorem wp_X1_joined_mono {l0 : Int32} {l1 : Int32} {l2 : Int32} {h : pm_H} {Q Q' : Int32 → pm_H → Prop} (hQ : ∀ r h, Q r h → Q' r h) : wp_X1_joined l0 l1 l2 h Q → wp_X1_joined l0 l1 l2 h Q' := by unfold wp_X1_joined; exact (@pm_eq_mono _ _ _ _ _ _ (@pm_eq_mono _ _ _ _ _ _ (hQ _ _) (@pm_eq_mono _ _ _ _ _ _ (hQ _ _) (hQ _ _))) (@pm_eq_mono _ _ _ _ _ _ (@pm_eq_mono _ _ _ _ _ _ (hQ _ _) (hQ _ _)) (@pm_eq_mono _ _ _ _ _ _ (@pm_lt_mono _ _ _ _ _ _ (hQ _ _) (hQ _ _)) (@pm_eq_mono _ _ _ _ _ _ (hQ _ _) (@pm_eq_mono _ _ _ _ _ _ (hQ _ _) (@pm_eq_mono _ _ _ _ _ _ (hQ _ _) (@pm_eq_mono _ _ _ _ _ _ (@pm_eq_mono _ _ _ _ _ _ (hQ _ _) (hQ _ _)) (hQ _ _))))))))
set_option maxRecDepth 16384 in
theorem wp_X1_joined_ok {d : Nat} {l0 : Int32} {l1 : Int32} {l2 : Int32} {h : pm_H} {Q : Option Value → pm_H → Prop} (hw : wp_X1_joined l0 l1 l2 h (fun r h => Q (some (.int r)) h)) : pm_R (d + 0) mt_X1_joined 0 [some (.int l0), some (.int l1), some (.int l2)] [] h Q := by
  unfold wp_X1_joined at hw
  refine pm_steps 2 ?_
  refine @pm_we _ _ _ _ _ _ hw (fun hw => ?_) (fun hw => ?_)
  · refine pm_steps 2 ?_
    refine @pm_we _ _ _ _ _ _ hw (fun hw => ?_) (fun hw => ?_)
    · exact pm_steps 2 hw
    · refine pm_steps 2 ?_
      refine @pm_we _ _ _ _ _ _ hw (fun hw => ?_) (fun hw => ?_)
      · exact pm_steps 2 hw
      · exact pm_steps 3 hw
  · refine @pm_we _ _ _ _ _ _ hw (fun hw => ?_) (fun hw => ?_)
    · refine pm_steps 3 ?_
      refine @pm_we _ _ _ _ _ _ hw (fun hw => ?_) (fun hw => ?_)
      · exact pm_steps 3 hw
      · exact pm_steps 2 hw
    · refine @pm_we _ _ _ _ _ _ hw (fun hw => ?_) (fun hw => ?_)
      · refine pm_steps 3 ?_
        refine @pm_wl _ _ _ _ _ _ hw (fun hw => ?_) (fun hw => ?_)
        · exact pm_steps 3 hw
        · exact pm_steps 2 hw
      · refine @pm_we _ _ _ _ _ _ hw (fun hw => ?_) (fun hw => ?_)
        · exact pm_steps 4 hw
        · refine @pm_we _ _ _ _ _ _ hw (fun hw => ?_) (fun hw => ?_)
          · exact pm_steps 4 hw
          · refine @pm_we _ _ _ _ _ _ hw (fun hw => ?_) (fun hw => ?_)
            · exact pm_steps 4 hw
            · refine pm_steps 2 ?_
              refine @pm_we _ _ _ _ _ _ hw (fun hw => ?_) (fun hw => ?_)
              · refine pm_steps 2 ?_
                refine @pm_we _ _ _ _ _ _ hw (fun hw => ?_) (fun hw => ?_)
                · exact pm_steps 2 hw
                · exact pm_steps 3 hw
              · exact pm_steps 3 hw
/-! StairLines$Text.startOf(I)I -/
set_option maxRecDepth 16384 in
def wp_X4_startOf (l0 : Nat) (l1 : Int32) (h : pm_H) (Q : Int32 → pm_H → Prop) : Prop := pm_lt 0 l1 (pm_ib (pm_at 4 l0 4) (pm_ib (pm_at 4 (l0 + 2) 8) (pm_ib (pm_in (pm_op (l1 - 1)) (pm_len (l0 + 2))) (Q (h (l0 + 2) (pm_op (l1 - 1)).toNatClampNeg) h)))) (Q 0 h)
set_option maxRecDepth 16384 in
theorem wp_X4_startOf_mono {l0 : Nat} {l1 : Int32} {h : pm_H} {Q Q' : Int32 → pm_H → Prop} (hQ : ∀ r h, Q r h → Q' r h) : wp_X4_startOf l0 l1 h Q → wp_X4_startOf l0 l1 h Q' := by unfold wp_X4_startOf; exact (@pm_lt_mono _ _ _ _ _ _ (@pm_ib_mono _ _ _ (@pm_ib_mono _ _ _ (@pm_ib_mono _ _ _ (hQ _ _)))) (hQ _ _))
set_option maxRecDepth 16384 in
theorem wp_X4_startOf_ok {d : Nat} {l0 : Nat} {l1 : Int32} {h : pm_H} {Q : Option Value → pm_H → Prop} (hw : wp_X4_startOf l0 l1 h (fun r h => Q (some (.int r)) h)) : pm_R (d + 0) mt_X4_startOf 0 [some (.ref l0), some (.int l1)] [] h Q := by
  unfold wp_X4_startOf at hw
  refine pm_steps 2 ?_
  refine @pm_wl _ _ _ _ _ _ hw (fun hw => ?_) (fun hw => ?_)
  · refine pm_steps 2 ?_
    refine @pm_wc _ _ _ hw (fun hw => ?_)
    refine pm_steps 4 ?_
    refine @pm_wb _ _ _ _ hw (fun hw => ?_)
    refine @pm_wc _ _ _ hw (fun hw => ?_)
    exact pm_steps 1 hw
  · exact pm_steps 3 hw
/-! StairLines$Reckoner.value(LStairLines$Text;I)I -/
set_option maxRecDepth 16384 in
def wl_X1_value_24 (l1 : Nat) (l2 : Int32) (K191 : Int32 → pm_H → Prop) (Q : Int32 → pm_H → Prop) : Nat → Int32 → Int32 → pm_H → Prop
  | 0, _, _, _ => False
  | n + 1, l3, l4, h => pm_ib (pm_at 1 l1 4) (pm_ib (pm_at 1 (l1 + 2) 8) (pm_ib (pm_in l2 (pm_len (l1 + 2))) (pm_lt l4 (h (l1 + 2) l2.toNatClampNeg) (pm_ib (pm_at 1 l1 4) (pm_ib (pm_at 1 (l1 + 1) 8) (pm_ib (pm_in l4 (pm_len (l1 + 1))) (pm_lt (-10) (h (l1 + 1) l4.toNatClampNeg) (pm_lt l3 64 (pm_lt (h (l1 + 1) l4.toNatClampNeg) 0 (wp_X1_nameValue (h (l1 + 1) l4.toNatClampNeg) h (fun r71 h70 => pm_ib (pm_in l3 64) (wl_X1_value_24 l1 l2 K191 Q n (pm_op (l3 + 1)) (pm_op (l4 + 1)) (pm_u h70 33 l3.toNatClampNeg r71)))) (pm_ib (pm_in l3 64) (wl_X1_value_24 l1 l2 K191 Q n (pm_op (l3 + 1)) (pm_op (l4 + 1)) (pm_u h 33 l3.toNatClampNeg (h (l1 + 1) l4.toNatClampNeg))))) (wl_X1_value_24 l1 l2 K191 Q n l3 (pm_op (l4 + 1)) h)) (pm_eq (h (l1 + 1) l4.toNatClampNeg) (-10) (pm_lt l3 1 (wl_X1_value_24 l1 l2 K191 Q n l3 (pm_op (l4 + 1)) h) (pm_ib (pm_in (pm_op (l3 - 1)) 64) (pm_eq (h (l1 + 1) l4.toNatClampNeg) (-11) (pm_ib (pm_in (pm_op (l3 - 1)) 64) (wl_X1_value_24 l1 l2 K191 Q n l3 (pm_op (l4 + 1)) (pm_u h 33 (pm_op (l3 - 1)).toNatClampNeg (pm_op (-(h 33 (pm_op (l3 - 1)).toNatClampNeg)))))) (pm_eq (h 33 (pm_op (l3 - 1)).toNatClampNeg) 0 (pm_ib (pm_in (pm_op (l3 - 1)) 64) (wl_X1_value_24 l1 l2 K191 Q n l3 (pm_op (l4 + 1)) (pm_u h 33 (pm_op (l3 - 1)).toNatClampNeg 1))) (pm_ib (pm_in (pm_op (l3 - 1)) 64) (wl_X1_value_24 l1 l2 K191 Q n l3 (pm_op (l4 + 1)) (pm_u h 33 (pm_op (l3 - 1)).toNatClampNeg 0))))))) (pm_eq (h (l1 + 1) l4.toNatClampNeg) (-11) (pm_lt l3 1 (wl_X1_value_24 l1 l2 K191 Q n l3 (pm_op (l4 + 1)) h) (pm_ib (pm_in (pm_op (l3 - 1)) 64) (pm_eq (h (l1 + 1) l4.toNatClampNeg) (-11) (pm_ib (pm_in (pm_op (l3 - 1)) 64) (wl_X1_value_24 l1 l2 K191 Q n l3 (pm_op (l4 + 1)) (pm_u h 33 (pm_op (l3 - 1)).toNatClampNeg (pm_op (-(h 33 (pm_op (l3 - 1)).toNatClampNeg)))))) (pm_eq (h 33 (pm_op (l3 - 1)).toNatClampNeg) 0 (pm_ib (pm_in (pm_op (l3 - 1)) 64) (wl_X1_value_24 l1 l2 K191 Q n l3 (pm_op (l4 + 1)) (pm_u h 33 (pm_op (l3 - 1)).toNatClampNeg 1))) (pm_ib (pm_in (pm_op (l3 - 1)) 64) (wl_X1_value_24 l1 l2 K191 Q n l3 (pm_op (l4 + 1)) (pm_u h 33 (pm_op (l3 - 1)).toNatClampNeg 0))))))) (pm_lt l3 2 (wl_X1_value_24 l1 l2 K191 Q n l3 (pm_op (l4 + 1)) h) (pm_ib (pm_in (pm_op (l3 - 2)) 64) (pm_ib (pm_in (pm_op (l3 - 1)) 64) (wp_X1_joined (h 33 (pm_op (l3 - 2)).toNatClampNeg) (h (l1 + 1) l4.toNatClampNeg) (h 33 (pm_op (l3 - 1)).toNatClampNeg) h (fun r73 h72 => pm_ib (pm_in (pm_op (l3 - 2)) 64) (wl_X1_value_24 l1 l2 K191 Q n (pm_op (l3 + (-1))) (pm_op (l4 + 1)) (pm_u h72 33 (pm_op (l3 - 2)).toNatClampNeg r73))))))))))))) (K191 l3 h))))
set_option maxRecDepth 16384 in
theorem wl_X1_value_24_mono {l1 : Nat} {l2 : Int32} {K191 K191' : Int32 → pm_H → Prop}  {Q Q' : Int32 → pm_H → Prop}  (mK191 : ∀ x3 h, K191 x3 h → K191' x3 h) (hQ : ∀ r h, Q r h → Q' r h) : ∀ (n : Nat) (l3 : Int32) (l4 : Int32) (h : pm_H), wl_X1_value_24 l1 l2 K191 Q n l3 l4 h → wl_X1_value_24 l1 l2 K191' Q' n l3 l4 h
  | 0, _, _, _ => id
  | n + 1, l3, l4, h => by unfold wl_X1_value_24; exact (@pm_ib_mono _ _ _ (@pm_ib_mono _ _ _ (@pm_ib_mono _ _ _ (@pm_lt_mono _ _ _ _ _ _ (@pm_ib_mono _ _ _ (@pm_ib_mono _ _ _ (@pm_ib_mono _ _ _ (@pm_lt_mono _ _ _ _ _ _ (@pm_lt_mono _ _ _ _ _ _ (@pm_lt_mono _ _ _ _ _ _ (@wp_X1_nameValue_mono _ _ _ _ (fun _ _ => (@pm_ib_mono _ _ _ (wl_X1_value_24_mono mK191 hQ n _ _ _)))) (@pm_ib_mono _ _ _ (wl_X1_value_24_mono mK191 hQ n _ _ _))) (wl_X1_value_24_mono mK191 hQ n _ _ _)) (@pm_eq_mono _ _ _ _ _ _ (@pm_lt_mono _ _ _ _ _ _ (wl_X1_value_24_mono mK191 hQ n _ _ _) (@pm_ib_mono _ _ _ (@pm_eq_mono _ _ _ _ _ _ (@pm_ib_mono _ _ _ (wl_X1_value_24_mono mK191 hQ n _ _ _)) (@pm_eq_mono _ _ _ _ _ _ (@pm_ib_mono _ _ _ (wl_X1_value_24_mono mK191 hQ n _ _ _)) (@pm_ib_mono _ _ _ (wl_X1_value_24_mono mK191 hQ n _ _ _)))))) (@pm_eq_mono _ _ _ _ _ _ (@pm_lt_mono _ _ _ _ _ _ (wl_X1_value_24_mono mK191 hQ n _ _ _) (@pm_ib_mono _ _ _ (@pm_eq_mono _ _ _ _ _ _ (@pm_ib_mono _ _ _ (wl_X1_value_24_mono mK191 hQ n _ _ _)) (@pm_eq_mono _ _ _ _ _ _ (@pm_ib_mono _ _ _ (wl_X1_value_24_mono mK191 hQ n _ _ _)) (@pm_ib_mono _ _ _ (wl_X1_value_24_mono mK191 hQ n _ _ _)))))) (@pm_lt_mono _ _ _ _ _ _ (wl_X1_value_24_mono mK191 hQ n _ _ _) (@pm_ib_mono _ _ _ (@pm_ib_mono _ _ _ (@wp_X1_joined_mono _ _ _ _ _ _ (fun _ _ => (@pm_ib_mono _ _ _ (wl_X1_value_24_mono mK191 hQ n _ _ _))))))))))))) (mK191 _ _)))))
set_option maxRecDepth 16384 in
theorem wl_X1_value_24_ok {d : Nat} {l1 : Nat} {l2 : Int32} {K191 : Int32 → pm_H → Prop} {Q : Option Value → pm_H → Prop} (hK191 : ∀ (x3 : Int32) (h : pm_H), K191 x3 h → pm_R (d + 1) mt_X1_value 191 [some (.ref 31), none, none, some (.int x3), none, none, none] [] h Q) : ∀ (n : Nat) (l3 : Int32) (l4 : Int32) (h : pm_H), wl_X1_value_24 l1 l2 K191 (fun r h => Q (some (.int r)) h) n l3 l4 h → pm_R (d + 1) mt_X1_value 24 [some (.ref 31), some (.ref l1), some (.int l2), some (.int l3), some (.int l4), none, none] [] h Q
  | 0, _, _, _ => fun hw => hw.elim
  | n + 1, l3, l4, h => fun hw => by
    unfold wl_X1_value_24 at hw
    refine pm_steps 3 ?_
    refine @pm_wc _ _ _ hw (fun hw => ?_)
    refine pm_steps 2 ?_
    refine @pm_wb _ _ _ _ hw (fun hw => ?_)
    refine @pm_wc _ _ _ hw (fun hw => ?_)
    refine pm_steps 1 ?_
    refine @pm_wl _ _ _ _ _ _ hw (fun hw => ?_) (fun hw => ?_)
    · refine pm_steps 2 ?_
      refine @pm_wc _ _ _ hw (fun hw => ?_)
      refine pm_steps 2 ?_
      refine @pm_wb _ _ _ _ hw (fun hw => ?_)
      refine @pm_wc _ _ _ hw (fun hw => ?_)
      refine pm_steps 4 ?_
      refine @pm_wl _ _ _ _ _ _ hw (fun hw => ?_) (fun hw => ?_)
      · refine pm_steps 3 ?_
        refine @pm_wl _ _ _ _ _ _ hw (fun hw => ?_) (fun hw => ?_)
        · refine pm_steps 5 ?_
          refine @pm_wl _ _ _ _ _ _ hw (fun hw => ?_) (fun hw => ?_)
          · refine pm_steps 3 ?_
            refine @wp_X1_nameValue_ok _ _ _ _ (@wp_X1_nameValue_mono _ _ _ _ (fun r71 h70 hw => ?_) hw)
            refine pm_steps 1 ?_
            refine @pm_wc _ _ _ hw (fun hw => ?_)
            refine pm_steps 4 ?_
            exact pm_fg (wl_X1_value_24_ok hK191 n _ _ _ hw) ⟨rfl, ⟨rfl, ⟨rfl, ⟨rfl, ⟨rfl, trivial⟩⟩⟩⟩⟩
          · refine pm_steps 3 ?_
            refine @pm_wc _ _ _ hw (fun hw => ?_)
            refine pm_steps 4 ?_
            exact pm_fg (wl_X1_value_24_ok hK191 n _ _ _ hw) ⟨rfl, ⟨rfl, ⟨rfl, ⟨rfl, ⟨rfl, trivial⟩⟩⟩⟩⟩
        · refine pm_steps 2 ?_
          exact pm_fg (wl_X1_value_24_ok hK191 n _ _ _ hw) ⟨rfl, ⟨rfl, ⟨rfl, ⟨rfl, ⟨rfl, trivial⟩⟩⟩⟩⟩
      · refine pm_steps 3 ?_
        refine @pm_we _ _ _ _ _ _ hw (fun hw => ?_) (fun hw => ?_)
        · refine pm_steps 3 ?_
          refine @pm_wl _ _ _ _ _ _ hw (fun hw => ?_) (fun hw => ?_)
          · refine pm_steps 2 ?_
            exact pm_fg (wl_X1_value_24_ok hK191 n _ _ _ hw) ⟨rfl, ⟨rfl, ⟨rfl, ⟨rfl, ⟨rfl, trivial⟩⟩⟩⟩⟩
          · refine pm_steps 6 ?_
            refine @pm_wc _ _ _ hw (fun hw => ?_)
            refine pm_steps 9 ?_
            refine @pm_we _ _ _ _ _ _ hw (fun hw => ?_) (fun hw => ?_)
            · refine pm_steps 4 ?_
              refine @pm_wc _ _ _ hw (fun hw => ?_)
              refine pm_steps 3 ?_
              exact pm_fg (wl_X1_value_24_ok hK191 n _ _ _ hw) ⟨rfl, ⟨rfl, ⟨rfl, ⟨rfl, ⟨rfl, trivial⟩⟩⟩⟩⟩
            · refine pm_steps 2 ?_
              refine @pm_we _ _ _ _ _ _ hw (fun hw => ?_) (fun hw => ?_)
              · refine pm_steps 3 ?_
                refine @pm_wc _ _ _ hw (fun hw => ?_)
                refine pm_steps 3 ?_
                exact pm_fg (wl_X1_value_24_ok hK191 n _ _ _ hw) ⟨rfl, ⟨rfl, ⟨rfl, ⟨rfl, ⟨rfl, trivial⟩⟩⟩⟩⟩
              · refine pm_steps 2 ?_
                refine @pm_wc _ _ _ hw (fun hw => ?_)
                refine pm_steps 3 ?_
                exact pm_fg (wl_X1_value_24_ok hK191 n _ _ _ hw) ⟨rfl, ⟨rfl, ⟨rfl, ⟨rfl, ⟨rfl, trivial⟩⟩⟩⟩⟩
        · refine pm_steps 3 ?_
          refine @pm_we _ _ _ _ _ _ hw (fun hw => ?_) (fun hw => ?_)
          · refine pm_steps 3 ?_
            refine @pm_wl _ _ _ _ _ _ hw (fun hw => ?_) (fun hw => ?_)
            · refine pm_steps 2 ?_
              exact pm_fg (wl_X1_value_24_ok hK191 n _ _ _ hw) ⟨rfl, ⟨rfl, ⟨rfl, ⟨rfl, ⟨rfl, trivial⟩⟩⟩⟩⟩
            · refine pm_steps 6 ?_
              refine @pm_wc _ _ _ hw (fun hw => ?_)
              refine pm_steps 9 ?_
              refine @pm_we _ _ _ _ _ _ hw (fun hw => ?_) (fun hw => ?_)
              · refine pm_steps 4 ?_
                refine @pm_wc _ _ _ hw (fun hw => ?_)
                refine pm_steps 3 ?_
                exact pm_fg (wl_X1_value_24_ok hK191 n _ _ _ hw) ⟨rfl, ⟨rfl, ⟨rfl, ⟨rfl, ⟨rfl, trivial⟩⟩⟩⟩⟩
              · refine pm_steps 2 ?_
                refine @pm_we _ _ _ _ _ _ hw (fun hw => ?_) (fun hw => ?_)
                · refine pm_steps 3 ?_
                  refine @pm_wc _ _ _ hw (fun hw => ?_)
                  refine pm_steps 3 ?_
                  exact pm_fg (wl_X1_value_24_ok hK191 n _ _ _ hw) ⟨rfl, ⟨rfl, ⟨rfl, ⟨rfl, ⟨rfl, trivial⟩⟩⟩⟩⟩
                · refine pm_steps 2 ?_
                  refine @pm_wc _ _ _ hw (fun hw => ?_)
                  refine pm_steps 3 ?_
                  exact pm_fg (wl_X1_value_24_ok hK191 n _ _ _ hw) ⟨rfl, ⟨rfl, ⟨rfl, ⟨rfl, ⟨rfl, trivial⟩⟩⟩⟩⟩
          · refine pm_steps 3 ?_
            refine @pm_wl _ _ _ _ _ _ hw (fun hw => ?_) (fun hw => ?_)
            · refine pm_steps 2 ?_
              exact pm_fg (wl_X1_value_24_ok hK191 n _ _ _ hw) ⟨rfl, ⟨rfl, ⟨rfl, ⟨rfl, ⟨rfl, trivial⟩⟩⟩⟩⟩
            · refine pm_steps 11 ?_
              refine @pm_wc _ _ _ hw (fun hw => ?_)
              refine pm_steps 7 ?_
              refine @pm_wc _ _ _ hw (fun hw => ?_)
              refine pm_steps 1 ?_
              refine @wp_X1_joined_ok _ _ _ _ _ _ (@wp_X1_joined_mono _ _ _ _ _ _ (fun r73 h72 hw => ?_) hw)
              refine pm_steps 1 ?_
              refine @pm_wc _ _ _ hw (fun hw => ?_)
              refine pm_steps 3 ?_
              exact pm_fg (wl_X1_value_24_ok hK191 n _ _ _ hw) ⟨rfl, ⟨rfl, ⟨rfl, ⟨rfl, ⟨rfl, trivial⟩⟩⟩⟩⟩
    · exact pm_fg (hK191 _ _ hw) ⟨rfl, ⟨rfl, trivial⟩⟩
set_option maxRecDepth 16384 in
def wp_X1_value (l1 : Nat) (l2 : Int32) (h : pm_H) (Q : Int32 → pm_H → Prop) : Prop := pm_lt l2 0 (Q 0 h) (pm_lt l2 3 (pm_ib (pm_at 1 l1 4) (wp_X4_startOf l1 l2 h (fun r69 h68 => ∃ n76, wl_X1_value_24 l1 l2 (fun x75 h74 => pm_lt 0 x75 (Q (h74 33 0) h74) (Q 0 h74)) Q n76 0 r69 h68))) (Q 0 h))
set_option maxRecDepth 16384 in
theorem wp_X1_value_mono {l1 : Nat} {l2 : Int32} {h : pm_H} {Q Q' : Int32 → pm_H → Prop} (hQ : ∀ r h, Q r h → Q' r h) : wp_X1_value l1 l2 h Q → wp_X1_value l1 l2 h Q' := by unfold wp_X1_value; exact (@pm_lt_mono _ _ _ _ _ _ (hQ _ _) (@pm_lt_mono _ _ _ _ _ _ (@pm_ib_mono _ _ _ (@wp_X4_startOf_mono _ _ _ _ _ (fun _ _ => (fun z => Exists.elim z (fun n76 z => ⟨n76, wl_X1_value_24_mono (fun _ _ => (@pm_lt_mono _ _ _ _ _ _ (hQ _ _) (hQ _ _))) hQ n76 _ _ _ z⟩))))) (hQ _ _)))
set_option maxRecDepth 16384 in
theorem wp_X1_value_ok {d : Nat} {l1 : Nat} {l2 : Int32} {h : pm_H} {Q : Option Value → pm_H → Prop} (hw : wp_X1_value l1 l2 h (fun r h => Q (some (.int r)) h)) : pm_R (d + 1) mt_X1_value 0 [some (.ref 31), some (.ref l1), some (.int l2), none, none, none, none] [] h Q := by
  unfold wp_X1_value at hw
  refine pm_steps 4 ?_
  refine @pm_wl _ _ _ _ _ _ hw (fun hw => ?_) (fun hw => ?_)
  · exact pm_steps 2 hw
  · refine pm_steps 3 ?_
    refine @pm_wl _ _ _ _ _ _ hw (fun hw => ?_) (fun hw => ?_)
    · refine pm_steps 5 ?_
      refine @pm_wc _ _ _ hw (fun hw => ?_)
      refine @wp_X4_startOf_ok _ _ _ _ _ (@wp_X4_startOf_mono _ _ _ _ _ (fun r69 h68 hw => ?_) hw)
      refine pm_steps 1 ?_
      obtain ⟨n76, hw⟩ := hw
      refine pm_fg (wl_X1_value_24_ok ?_ n76 _ _ _ hw) ⟨rfl, ⟨rfl, ⟨rfl, ⟨rfl, ⟨rfl, trivial⟩⟩⟩⟩⟩
      · intro x75 h74 hw
        refine pm_steps 2 ?_
        refine @pm_wl _ _ _ _ _ _ hw (fun hw => ?_) (fun hw => ?_)
        · exact pm_steps 6 hw
        · exact pm_steps 2 hw
    · exact pm_steps 2 hw
/-! StairLines$Walk.reckon(IIII)I -/
set_option maxRecDepth 16384 in
def wp_X5_reckon (l1 : Int32) (l2 : Int32) (l3 : Int32) (l4 : Int32) (h : pm_H) (Q : Int32 → pm_H → Prop) : Prop := pm_ib (pm_in l2 10) (pm_lt l2 9 (pm_ib (pm_in (pm_op (l2 + 1)) 10) (pm_ib (pm_in l2 10) (pm_ob (pm_dec (h 19 8)) (fun t65 => wp_X1_value t65 l1 (pm_u (pm_u (pm_u (pm_u (pm_u (pm_u h 32 0 l2) 32 1 (h 23 l2.toNatClampNeg)) 32 2 (h 20 9)) 32 3 (h 23 (pm_op (l2 + 1)).toNatClampNeg)) 32 4 (h 22 l2.toNatClampNeg)) 32 5 l3) (fun r67 h66 => Q (pm_op (pm_max 0 (pm_op (pm_min l4 r67)))) h66))))) (pm_ib (pm_in l2 10) (pm_ob (pm_dec (h 19 8)) (fun t77 => wp_X1_value t77 l1 (pm_u (pm_u (pm_u (pm_u (pm_u (pm_u h 32 0 l2) 32 1 (h 23 l2.toNatClampNeg)) 32 2 (h 20 9)) 32 3 0) 32 4 (h 22 l2.toNatClampNeg)) 32 5 l3) (fun r79 h78 => Q (pm_op (pm_max 0 (pm_op (pm_min l4 r79)))) h78)))))
set_option maxRecDepth 16384 in
theorem wp_X5_reckon_mono {l1 : Int32} {l2 : Int32} {l3 : Int32} {l4 : Int32} {h : pm_H} {Q Q' : Int32 → pm_H → Prop} (hQ : ∀ r h, Q r h → Q' r h) : wp_X5_reckon l1 l2 l3 l4 h Q → wp_X5_reckon l1 l2 l3 l4 h Q' := by unfold wp_X5_reckon; exact (@pm_ib_mono _ _ _ (@pm_lt_mono _ _ _ _ _ _ (@pm_ib_mono _ _ _ (@pm_ib_mono _ _ _ (@pm_ob_mono _ _ _ (fun _ => (@wp_X1_value_mono _ _ _ _ _ (fun _ _ => (hQ _ _))))))) (@pm_ib_mono _ _ _ (@pm_ob_mono _ _ _ (fun _ => (@wp_X1_value_mono _ _ _ _ _ (fun _ _ => (hQ _ _))))))))
set_option maxRecDepth 16384 in
theorem wp_X5_reckon_ok {d : Nat} {l1 : Int32} {l2 : Int32} {l3 : Int32} {l4 : Int32} {h : pm_H} {Q : Option Value → pm_H → Prop} (hw : wp_X5_reckon l1 l2 l3 l4 h (fun r h => Q (some (.int r)) h)) : pm_R (d + 2) mt_X5_reckon 0 [some (.ref 19), some (.int l1), some (.int l2), some (.int l3), some (.int l4), none] [] h Q := by
  unfold wp_X5_reckon at hw
  refine pm_steps 15 ?_
  refine @pm_wc _ _ _ hw (fun hw => ?_)
  refine pm_steps 12 ?_
  refine @pm_wl _ _ _ _ _ _ hw (fun hw => ?_) (fun hw => ?_)
  · refine pm_steps 7 ?_
    refine @pm_wc _ _ _ hw (fun hw => ?_)
    refine pm_steps 9 ?_
    refine @pm_wc _ _ _ hw (fun hw => ?_)
    refine pm_steps 11 ?_
    refine @pm_wo _ _ _ hw (fun t65 hw => ?_)
    refine pm_steps 2 ?_
    refine @wp_X1_value_ok _ _ _ _ _ (@wp_X1_value_mono _ _ _ _ _ (fun r67 h66 hw => ?_) hw)
    exact pm_steps 3 hw
  · refine pm_steps 9 ?_
    refine @pm_wc _ _ _ hw (fun hw => ?_)
    refine pm_steps 11 ?_
    refine @pm_wo _ _ _ hw (fun t77 hw => ?_)
    refine pm_steps 2 ?_
    refine @wp_X1_value_ok _ _ _ _ _ (@wp_X1_value_mono _ _ _ _ _ (fun r79 h78 hw => ?_) hw)
    exact pm_steps 3 hw
/-! StairLines$Walk.leaveStep(III)V -/
set_option maxRecDepth 16384 in
def wp_X5_leaveStep (l1 : Int32) (l2 : Int32) (l3 : Int32) (h : pm_H) (Q : pm_H → Prop) : Prop := pm_ib (pm_in l1 10) (pm_lt 0 (pm_op (pm_min (h 23 l1.toNatClampNeg) l2)) (wp_X5_reckon 0 l1 l3 9 h (fun r60 h59 => pm_lt l1 9 (wp_X3_roomOn_r20 (pm_op (l1 + 1)) h59 (fun r62 h61 => pm_ib (pm_in l1 10) (pm_ib (pm_in l1 10) (pm_ib (pm_in l1 10) (pm_ib (pm_in l1 10) (pm_lt l1 9 (pm_ib (pm_in (pm_op (l1 + 1)) 10) (pm_ib (pm_in (pm_op (l1 + 1)) 10) (Q (pm_u (pm_u (pm_u h61 23 l1.toNatClampNeg (pm_op ((h61 23 l1.toNatClampNeg) - (pm_op (pm_min (pm_op (pm_min (h 23 l1.toNatClampNeg) l2)) (pm_op (pm_min (pm_op (pm_max 0 (pm_op (l2 - r60)))) r62))))))) 30 l1.toNatClampNeg ((pm_u h61 23 l1.toNatClampNeg (pm_op ((h61 23 l1.toNatClampNeg) - (pm_op (pm_min (pm_op (pm_min (h 23 l1.toNatClampNeg) l2)) (pm_op (pm_min (pm_op (pm_max 0 (pm_op (l2 - r60)))) r62))))))) 23 l1.toNatClampNeg)) 23 (pm_op (l1 + 1)).toNatClampNeg (pm_op (((pm_u h61 23 l1.toNatClampNeg (pm_op ((h61 23 l1.toNatClampNeg) - (pm_op (pm_min (pm_op (pm_min (h 23 l1.toNatClampNeg) l2)) (pm_op (pm_min (pm_op (pm_max 0 (pm_op (l2 - r60)))) r62))))))) 23 (pm_op (l1 + 1)).toNatClampNeg) + (pm_op (pm_min (pm_op (pm_min (h 23 l1.toNatClampNeg) l2)) (pm_op (pm_min (pm_op (pm_max 0 (pm_op (l2 - r60)))) r62)))))))))) (Q (pm_u (pm_u (pm_u h61 23 l1.toNatClampNeg (pm_op ((h61 23 l1.toNatClampNeg) - (pm_op (pm_min (pm_op (pm_min (h 23 l1.toNatClampNeg) l2)) (pm_op (pm_min (pm_op (pm_max 0 (pm_op (l2 - r60)))) r62))))))) 30 l1.toNatClampNeg ((pm_u h61 23 l1.toNatClampNeg (pm_op ((h61 23 l1.toNatClampNeg) - (pm_op (pm_min (pm_op (pm_min (h 23 l1.toNatClampNeg) l2)) (pm_op (pm_min (pm_op (pm_max 0 (pm_op (l2 - r60)))) r62))))))) 23 l1.toNatClampNeg)) 20 10 (pm_op ((h61 20 10) + (pm_op (pm_min (pm_op (pm_min (h 23 l1.toNatClampNeg) l2)) (pm_op (pm_min (pm_op (pm_max 0 (pm_op (l2 - r60)))) r62)))))))))))))) (pm_ib (pm_in l1 10) (pm_ib (pm_in l1 10) (pm_ib (pm_in l1 10) (pm_ib (pm_in l1 10) (pm_lt l1 9 (pm_ib (pm_in (pm_op (l1 + 1)) 10) (pm_ib (pm_in (pm_op (l1 + 1)) 10) (Q (pm_u (pm_u (pm_u h59 23 l1.toNatClampNeg (pm_op ((h59 23 l1.toNatClampNeg) - (pm_op (pm_min (pm_op (pm_min (h 23 l1.toNatClampNeg) l2)) (pm_op (pm_min (pm_op (pm_max 0 (pm_op (l2 - r60)))) (pm_op (pm_min (h 23 l1.toNatClampNeg) l2))))))))) 30 l1.toNatClampNeg ((pm_u h59 23 l1.toNatClampNeg (pm_op ((h59 23 l1.toNatClampNeg) - (pm_op (pm_min (pm_op (pm_min (h 23 l1.toNatClampNeg) l2)) (pm_op (pm_min (pm_op (pm_max 0 (pm_op (l2 - r60)))) (pm_op (pm_min (h 23 l1.toNatClampNeg) l2))))))))) 23 l1.toNatClampNeg)) 23 (pm_op (l1 + 1)).toNatClampNeg (pm_op (((pm_u h59 23 l1.toNatClampNeg (pm_op ((h59 23 l1.toNatClampNeg) - (pm_op (pm_min (pm_op (pm_min (h 23 l1.toNatClampNeg) l2)) (pm_op (pm_min (pm_op (pm_max 0 (pm_op (l2 - r60)))) (pm_op (pm_min (h 23 l1.toNatClampNeg) l2))))))))) 23 (pm_op (l1 + 1)).toNatClampNeg) + (pm_op (pm_min (pm_op (pm_min (h 23 l1.toNatClampNeg) l2)) (pm_op (pm_min (pm_op (pm_max 0 (pm_op (l2 - r60)))) (pm_op (pm_min (h 23 l1.toNatClampNeg) l2)))))))))))) (Q (pm_u (pm_u (pm_u h59 23 l1.toNatClampNeg (pm_op ((h59 23 l1.toNatClampNeg) - (pm_op (pm_min (pm_op (pm_min (h 23 l1.toNatClampNeg) l2)) (pm_op (pm_min (pm_op (pm_max 0 (pm_op (l2 - r60)))) (pm_op (pm_min (h 23 l1.toNatClampNeg) l2))))))))) 30 l1.toNatClampNeg ((pm_u h59 23 l1.toNatClampNeg (pm_op ((h59 23 l1.toNatClampNeg) - (pm_op (pm_min (pm_op (pm_min (h 23 l1.toNatClampNeg) l2)) (pm_op (pm_min (pm_op (pm_max 0 (pm_op (l2 - r60)))) (pm_op (pm_min (h 23 l1.toNatClampNeg) l2))))))))) 23 l1.toNatClampNeg)) 20 10 (pm_op ((h59 20 10) + (pm_op (pm_min (pm_op (pm_min (h 23 l1.toNatClampNeg) l2)) (pm_op (pm_min (pm_op (pm_max 0 (pm_op (l2 - r60)))) (pm_op (pm_min (h 23 l1.toNatClampNeg) l2))))))))))))))))) (pm_ib (pm_in l1 10) (pm_ib (pm_in l1 10) (pm_ib (pm_in l1 10) (pm_ib (pm_in l1 10) (pm_lt l1 9 (pm_ib (pm_in (pm_op (l1 + 1)) 10) (pm_ib (pm_in (pm_op (l1 + 1)) 10) (Q (pm_u (pm_u (pm_u h 23 l1.toNatClampNeg (pm_op ((h 23 l1.toNatClampNeg) - (pm_op (pm_min (h 23 l1.toNatClampNeg) l2))))) 30 l1.toNatClampNeg ((pm_u h 23 l1.toNatClampNeg (pm_op ((h 23 l1.toNatClampNeg) - (pm_op (pm_min (h 23 l1.toNatClampNeg) l2))))) 23 l1.toNatClampNeg)) 23 (pm_op (l1 + 1)).toNatClampNeg (pm_op (((pm_u h 23 l1.toNatClampNeg (pm_op ((h 23 l1.toNatClampNeg) - (pm_op (pm_min (h 23 l1.toNatClampNeg) l2))))) 23 (pm_op (l1 + 1)).toNatClampNeg) + (pm_op (pm_min (h 23 l1.toNatClampNeg) l2)))))))) (Q (pm_u (pm_u (pm_u h 23 l1.toNatClampNeg (pm_op ((h 23 l1.toNatClampNeg) - (pm_op (pm_min (h 23 l1.toNatClampNeg) l2))))) 30 l1.toNatClampNeg ((pm_u h 23 l1.toNatClampNeg (pm_op ((h 23 l1.toNatClampNeg) - (pm_op (pm_min (h 23 l1.toNatClampNeg) l2))))) 23 l1.toNatClampNeg)) 20 10 (pm_op ((h 20 10) + (pm_op (pm_min (h 23 l1.toNatClampNeg) l2))))))))))))
set_option maxRecDepth 16384 in
theorem wp_X5_leaveStep_mono {l1 : Int32} {l2 : Int32} {l3 : Int32} {h : pm_H} {Q Q' : pm_H → Prop} (hQ : ∀ h, Q h → Q' h) : wp_X5_leaveStep l1 l2 l3 h Q → wp_X5_leaveStep l1 l2 l3 h Q' := by unfold wp_X5_leaveStep; exact (@pm_ib_mono _ _ _ (@pm_lt_mono _ _ _ _ _ _ (@wp_X5_reckon_mono _ _ _ _ _ _ _ (fun _ _ => (@pm_lt_mono _ _ _ _ _ _ (@wp_X3_roomOn_r20_mono _ _ _ _ (fun _ _ => (@pm_ib_mono _ _ _ (@pm_ib_mono _ _ _ (@pm_ib_mono _ _ _ (@pm_ib_mono _ _ _ (@pm_lt_mono _ _ _ _ _ _ (@pm_ib_mono _ _ _ (@pm_ib_mono _ _ _ (hQ _))) (hQ _)))))))) (@pm_ib_mono _ _ _ (@pm_ib_mono _ _ _ (@pm_ib_mono _ _ _ (@pm_ib_mono _ _ _ (@pm_lt_mono _ _ _ _ _ _ (@pm_ib_mono _ _ _ (@pm_ib_mono _ _ _ (hQ _))) (hQ _))))))))) (@pm_ib_mono _ _ _ (@pm_ib_mono _ _ _ (@pm_ib_mono _ _ _ (@pm_ib_mono _ _ _ (@pm_lt_mono _ _ _ _ _ _ (@pm_ib_mono _ _ _ (@pm_ib_mono _ _ _ (hQ _))) (hQ _))))))))
set_option maxRecDepth 16384 in
theorem wp_X5_leaveStep_ok {d : Nat} {l1 : Int32} {l2 : Int32} {l3 : Int32} {h : pm_H} {Q : Option Value → pm_H → Prop} (hw : wp_X5_leaveStep l1 l2 l3 h (fun h => Q none h)) : pm_R (d + 3) mt_X5_leaveStep 0 [some (.ref 19), some (.int l1), some (.int l2), some (.int l3), none, none, none] [] h Q := by
  unfold wp_X5_leaveStep at hw
  refine pm_steps 5 ?_
  refine @pm_wc _ _ _ hw (fun hw => ?_)
  refine pm_steps 5 ?_
  refine @pm_wl _ _ _ _ _ _ hw (fun hw => ?_) (fun hw => ?_)
  · refine pm_steps 8 ?_
    refine @wp_X5_reckon_ok _ _ _ _ _ _ _ (@wp_X5_reckon_mono _ _ _ _ _ _ _ (fun r60 h59 hw => ?_) hw)
    refine pm_steps 6 ?_
    refine @pm_wl _ _ _ _ _ _ hw (fun hw => ?_) (fun hw => ?_)
    · refine pm_steps 6 ?_
      refine @wp_X3_roomOn_r20_ok _ _ _ _ (@wp_X3_roomOn_r20_mono _ _ _ _ (fun r62 h61 hw => ?_) hw)
      refine pm_steps 14 ?_
      refine @pm_wc _ _ _ hw (fun hw => ?_)
      refine pm_steps 3 ?_
      refine @pm_wc _ _ _ hw (fun hw => ?_)
      refine pm_steps 8 ?_
      refine @pm_wc _ _ _ hw (fun hw => ?_)
      refine pm_steps 1 ?_
      refine @pm_wc _ _ _ hw (fun hw => ?_)
      refine pm_steps 3 ?_
      refine @pm_wl _ _ _ _ _ _ hw (fun hw => ?_) (fun hw => ?_)
      · refine pm_steps 8 ?_
        refine @pm_wc _ _ _ hw (fun hw => ?_)
        refine pm_steps 3 ?_
        refine @pm_wc _ _ _ hw (fun hw => ?_)
        exact pm_steps 2 hw
      · exact pm_steps 8 hw
    · refine pm_steps 14 ?_
      refine @pm_wc _ _ _ hw (fun hw => ?_)
      refine pm_steps 3 ?_
      refine @pm_wc _ _ _ hw (fun hw => ?_)
      refine pm_steps 8 ?_
      refine @pm_wc _ _ _ hw (fun hw => ?_)
      refine pm_steps 1 ?_
      refine @pm_wc _ _ _ hw (fun hw => ?_)
      refine pm_steps 3 ?_
      refine @pm_wl _ _ _ _ _ _ hw (fun hw => ?_) (fun hw => ?_)
      · refine pm_steps 8 ?_
        refine @pm_wc _ _ _ hw (fun hw => ?_)
        refine pm_steps 3 ?_
        refine @pm_wc _ _ _ hw (fun hw => ?_)
        exact pm_steps 2 hw
      · exact pm_steps 8 hw
  · refine pm_steps 6 ?_
    refine @pm_wc _ _ _ hw (fun hw => ?_)
    refine pm_steps 3 ?_
    refine @pm_wc _ _ _ hw (fun hw => ?_)
    refine pm_steps 8 ?_
    refine @pm_wc _ _ _ hw (fun hw => ?_)
    refine pm_steps 1 ?_
    refine @pm_wc _ _ _ hw (fun hw => ?_)
    refine pm_steps 3 ?_
    refine @pm_wl _ _ _ _ _ _ hw (fun hw => ?_) (fun hw => ?_)
    · refine pm_steps 8 ?_
      refine @pm_wc _ _ _ hw (fun hw => ?_)
      refine pm_steps 3 ?_
      refine @pm_wc _ _ _ hw (fun hw => ?_)
      exact pm_steps 2 hw
    · exact pm_steps 8 hw
/-! StairLines$Stair.passes(I)I -/
set_option maxRecDepth 16384 in
def wp_X3_passes_r20 (l1 : Int32) (h : pm_H) (Q : Int32 → pm_H → Prop) : Prop := pm_ib (pm_in l1 10) (pm_ib (pm_in l1 10) (pm_eq (h 21 l1.toNatClampNeg) 1 (Q (pm_op (pm_max 0 (pm_op ((h 22 l1.toNatClampNeg) - 1)))) h) (pm_eq (h 21 l1.toNatClampNeg) 2 (Q (h 22 l1.toNatClampNeg) h) (pm_eq (h 21 l1.toNatClampNeg) 3 (Q (pm_op (pm_max 1 (pm_op (pm_max 0 (pm_op ((h 22 l1.toNatClampNeg) - 1)))))) h) (pm_eq (h 21 l1.toNatClampNeg) 4 (pm_eq (pm_op (pm_rem (h 20 9) 2)) 0 (Q (h 22 l1.toNatClampNeg) h) (Q 0 h)) (pm_eq (h 21 l1.toNatClampNeg) 5 (pm_lt 0 (pm_op ((h 22 l1.toNatClampNeg) + 2)) (pm_nz (pm_op ((h 22 l1.toNatClampNeg) + 2)) (pm_eq (pm_op (pm_rem (h 20 9) (pm_op ((h 22 l1.toNatClampNeg) + 2)))) 0 (Q 0 h) (Q (pm_op (pm_max 0 (pm_op ((h 22 l1.toNatClampNeg) - 1)))) h))) (Q (pm_op (pm_max 0 (pm_op ((h 22 l1.toNatClampNeg) - 1)))) h)) (Q (h 22 l1.toNatClampNeg) h)))))))
set_option maxRecDepth 16384 in
theorem wp_X3_passes_r20_mono {l1 : Int32} {h : pm_H} {Q Q' : Int32 → pm_H → Prop} (hQ : ∀ r h, Q r h → Q' r h) : wp_X3_passes_r20 l1 h Q → wp_X3_passes_r20 l1 h Q' := by unfold wp_X3_passes_r20; exact (@pm_ib_mono _ _ _ (@pm_ib_mono _ _ _ (@pm_eq_mono _ _ _ _ _ _ (hQ _ _) (@pm_eq_mono _ _ _ _ _ _ (hQ _ _) (@pm_eq_mono _ _ _ _ _ _ (hQ _ _) (@pm_eq_mono _ _ _ _ _ _ (@pm_eq_mono _ _ _ _ _ _ (hQ _ _) (hQ _ _)) (@pm_eq_mono _ _ _ _ _ _ (@pm_lt_mono _ _ _ _ _ _ (@pm_nz_mono _ _ _ (@pm_eq_mono _ _ _ _ _ _ (hQ _ _) (hQ _ _))) (hQ _ _)) (hQ _ _))))))))
set_option maxRecDepth 16384 in
theorem wp_X3_passes_r20_ok {d : Nat} {l1 : Int32} {h : pm_H} {Q : Option Value → pm_H → Prop} (hw : wp_X3_passes_r20 l1 h (fun r h => Q (some (.int r)) h)) : pm_R (d + 0) mt_X3_passes 0 [some (.ref 20), some (.int l1), none, none, none] [] h Q := by
  unfold wp_X3_passes_r20 at hw
  refine pm_steps 4 ?_
  refine @pm_wc _ _ _ hw (fun hw => ?_)
  refine pm_steps 15 ?_
  refine @pm_wc _ _ _ hw (fun hw => ?_)
  refine pm_steps 1 ?_
  refine @pm_we _ _ _ _ _ _ hw (fun hw => ?_) (fun hw => ?_)
  · exact pm_steps 2 hw
  · refine @pm_we _ _ _ _ _ _ hw (fun hw => ?_) (fun hw => ?_)
    · exact pm_steps 2 hw
    · refine @pm_we _ _ _ _ _ _ hw (fun hw => ?_) (fun hw => ?_)
      · exact pm_steps 4 hw
      · refine @pm_we _ _ _ _ _ _ hw (fun hw => ?_) (fun hw => ?_)
        · refine pm_steps 5 ?_
          refine @pm_we _ _ _ _ _ _ hw (fun hw => ?_) (fun hw => ?_)
          · exact pm_steps 3 hw
          · exact pm_steps 2 hw
        · refine @pm_we _ _ _ _ _ _ hw (fun hw => ?_) (fun hw => ?_)
          · refine pm_steps 2 ?_
            refine @pm_wl _ _ _ _ _ _ hw (fun hw => ?_) (fun hw => ?_)
            · refine pm_steps 4 ?_
              refine @pm_wz _ _ _ hw (fun hw => ?_)
              refine pm_steps 1 ?_
              refine @pm_we _ _ _ _ _ _ hw (fun hw => ?_) (fun hw => ?_)
              · exact pm_steps 3 hw
              · exact pm_steps 2 hw
            · exact pm_steps 2 hw
          · exact pm_steps 2 hw
/-! StairLines$Walk.stepOnFloor(I)V -/
set_option maxRecDepth 16384 in
def wp_X5_stepOnFloor (l1 : Int32) (h : pm_H) (Q : pm_H → Prop) : Prop := pm_ib (pm_in l1 5) (wp_X3_roomOn_r20 (h 25 l1.toNatClampNeg) h (fun r86 h85 => pm_lt 0 r86 (pm_ib (pm_in l1 5) (wp_X5_reckon 1 (h 25 l1.toNatClampNeg) (h85 28 l1.toNatClampNeg) 9 h85 (fun r88 h87 => pm_ib (pm_in l1 5) (pm_ib (pm_in l1 5) (pm_ib (pm_in l1 5) (pm_ib (pm_in l1 5) (pm_ib (pm_in (h 25 l1.toNatClampNeg) 10) (pm_ib (pm_in (h 25 l1.toNatClampNeg) 10) (Q (pm_u (pm_u h87 28 l1.toNatClampNeg (pm_op ((h87 28 l1.toNatClampNeg) - (pm_op (pm_min (pm_op (pm_min (h87 28 l1.toNatClampNeg) (h87 27 l1.toNatClampNeg))) (pm_op (pm_min r88 r86))))))) 23 (h 25 l1.toNatClampNeg).toNatClampNeg (pm_op ((h87 23 (h 25 l1.toNatClampNeg).toNatClampNeg) + (pm_op (pm_min (pm_op (pm_min (h87 28 l1.toNatClampNeg) (h87 27 l1.toNatClampNeg))) (pm_op (pm_min r88 r86)))))))))))))))) (Q h85)))
set_option maxRecDepth 16384 in
theorem wp_X5_stepOnFloor_mono {l1 : Int32} {h : pm_H} {Q Q' : pm_H → Prop} (hQ : ∀ h, Q h → Q' h) : wp_X5_stepOnFloor l1 h Q → wp_X5_stepOnFloor l1 h Q' := by unfold wp_X5_stepOnFloor; exact (@pm_ib_mono _ _ _ (@wp_X3_roomOn_r20_mono _ _ _ _ (fun _ _ => (@pm_lt_mono _ _ _ _ _ _ (@pm_ib_mono _ _ _ (@wp_X5_reckon_mono _ _ _ _ _ _ _ (fun _ _ => (@pm_ib_mono _ _ _ (@pm_ib_mono _ _ _ (@pm_ib_mono _ _ _ (@pm_ib_mono _ _ _ (@pm_ib_mono _ _ _ (@pm_ib_mono _ _ _ (hQ _)))))))))) (hQ _)))))
set_option maxRecDepth 16384 in
theorem wp_X5_stepOnFloor_ok {d : Nat} {l1 : Int32} {h : pm_H} {Q : Option Value → pm_H → Prop} (hw : wp_X5_stepOnFloor l1 h (fun h => Q none h)) : pm_R (d + 3) mt_X5_stepOnFloor 0 [some (.ref 19), some (.int l1), none, none, none, none] [] h Q := by
  unfold wp_X5_stepOnFloor at hw
  refine pm_steps 5 ?_
  refine @pm_wc _ _ _ hw (fun hw => ?_)
  refine pm_steps 5 ?_
  refine @wp_X3_roomOn_r20_ok _ _ _ _ (@wp_X3_roomOn_r20_mono _ _ _ _ (fun r86 h85 hw => ?_) hw)
  refine pm_steps 3 ?_
  refine @pm_wl _ _ _ _ _ _ hw (fun hw => ?_) (fun hw => ?_)
  · refine pm_steps 8 ?_
    refine @pm_wc _ _ _ hw (fun hw => ?_)
    refine pm_steps 2 ?_
    refine @wp_X5_reckon_ok _ _ _ _ _ _ _ (@wp_X5_reckon_mono _ _ _ _ _ _ _ (fun r88 h87 hw => ?_) hw)
    refine pm_steps 6 ?_
    refine @pm_wc _ _ _ hw (fun hw => ?_)
    refine pm_steps 5 ?_
    refine @pm_wc _ _ _ hw (fun hw => ?_)
    refine pm_steps 12 ?_
    refine @pm_wc _ _ _ hw (fun hw => ?_)
    refine pm_steps 3 ?_
    refine @pm_wc _ _ _ hw (fun hw => ?_)
    refine pm_steps 6 ?_
    refine @pm_wc _ _ _ hw (fun hw => ?_)
    refine pm_steps 3 ?_
    refine @pm_wc _ _ _ hw (fun hw => ?_)
    exact pm_steps 1 hw
  · exact pm_steps 1 hw
/-! StairLines$Stair.countIn()I -/
set_option maxRecDepth 16384 in
def wl_X3_countIn_r20_4  (K27 : Int32 → pm_H → Prop) (Q : Int32 → pm_H → Prop) : Nat → Int32 → Int32 → pm_H → Prop
  | 0, _, _, _ => False
  | n + 1, l1, l2, h => pm_lt l2 (h 20 8) (pm_ib (pm_in l2 5) (wl_X3_countIn_r20_4 K27 Q n (pm_op (l1 + (h 28 l2.toNatClampNeg))) (pm_op (l2 + 1)) h)) (K27 l1 h)
set_option maxRecDepth 16384 in
theorem wl_X3_countIn_r20_4_mono  {K27 K27' : Int32 → pm_H → Prop}  {Q Q' : Int32 → pm_H → Prop}  (mK27 : ∀ x1 h, K27 x1 h → K27' x1 h) (hQ : ∀ r h, Q r h → Q' r h) : ∀ (n : Nat) (l1 : Int32) (l2 : Int32) (h : pm_H), wl_X3_countIn_r20_4 K27 Q n l1 l2 h → wl_X3_countIn_r20_4 K27' Q' n l1 l2 h
  | 0, _, _, _ => id
  | n + 1, l1, l2, h => by unfold wl_X3_countIn_r20_4; exact (@pm_lt_mono _ _ _ _ _ _ (@pm_ib_mono _ _ _ (wl_X3_countIn_r20_4_mono mK27 hQ n _ _ _)) (mK27 _ _))
set_option maxRecDepth 16384 in
theorem wl_X3_countIn_r20_4_ok {d : Nat}  {K27 : Int32 → pm_H → Prop} {Q : Option Value → pm_H → Prop} (hK27 : ∀ (x1 : Int32) (h : pm_H), K27 x1 h → pm_R (d + 0) mt_X3_countIn 27 [none, some (.int x1), none] [] h Q) : ∀ (n : Nat) (l1 : Int32) (l2 : Int32) (h : pm_H), wl_X3_countIn_r20_4 K27 (fun r h => Q (some (.int r)) h) n l1 l2 h → pm_R (d + 0) mt_X3_countIn 4 [some (.ref 20), some (.int l1), some (.int l2)] [] h Q
  | 0, _, _, _ => fun hw => hw.elim
  | n + 1, l1, l2, h => fun hw => by
    unfold wl_X3_countIn_r20_4 at hw
    refine pm_steps 4 ?_
    refine @pm_wl _ _ _ _ _ _ hw (fun hw => ?_) (fun hw => ?_)
    · refine pm_steps 5 ?_
      refine @pm_wc _ _ _ hw (fun hw => ?_)
      refine pm_steps 4 ?_
      exact pm_fg (wl_X3_countIn_r20_4_ok hK27 n _ _ _ hw) ⟨rfl, ⟨rfl, ⟨rfl, trivial⟩⟩⟩
    · exact pm_fg (hK27 _ _ hw) ⟨rfl, trivial⟩
set_option maxRecDepth 16384 in
def wp_X3_countIn_r20  (h : pm_H) (Q : Int32 → pm_H → Prop) : Prop := ∃ n101, wl_X3_countIn_r20_4 (fun x100 h99 => Q x100 h99) Q n101 0 0 h
set_option maxRecDepth 16384 in
theorem wp_X3_countIn_r20_mono  {h : pm_H} {Q Q' : Int32 → pm_H → Prop} (hQ : ∀ r h, Q r h → Q' r h) : wp_X3_countIn_r20  h Q → wp_X3_countIn_r20  h Q' := by unfold wp_X3_countIn_r20; exact (fun z => Exists.elim z (fun n101 z => ⟨n101, wl_X3_countIn_r20_4_mono (fun _ _ => (hQ _ _)) hQ n101 _ _ _ z⟩))
set_option maxRecDepth 16384 in
theorem wp_X3_countIn_r20_ok {d : Nat}  {h : pm_H} {Q : Option Value → pm_H → Prop} (hw : wp_X3_countIn_r20  h (fun r h => Q (some (.int r)) h)) : pm_R (d + 0) mt_X3_countIn 0 [some (.ref 20), none, none] [] h Q := by
  unfold wp_X3_countIn_r20 at hw
  refine pm_steps 4 ?_
  obtain ⟨n101, hw⟩ := hw
  refine pm_fg (wl_X3_countIn_r20_4_ok ?_ n101 _ _ _ hw) ⟨rfl, ⟨rfl, ⟨rfl, trivial⟩⟩⟩
  · intro x100 h99 hw
    exact pm_steps 2 hw
/-! StairLines$Walk.countStanding()V -/
set_option maxRecDepth 16384 in
def wl_X5_countStanding_21 (l1 : Int32) (K124 : pm_H → Prop) (Q : pm_H → Prop) : Nat → Int32 → pm_H → Prop
  | 0, _, _ => False
  | n + 1, l2, h => pm_lt l2 10 (pm_ib (pm_in l2 10) (pm_ib (pm_in l2 10) (pm_lt 0 (h 30 l2.toNatClampNeg) (pm_ib (pm_in l2 10) (pm_ib (pm_in l2 10) (pm_ib (pm_in l2 10) (pm_ib (pm_in l2 10) (pm_eq (h 19 5) 0 (wl_X5_countStanding_21 l1 K124 Q n (pm_op (l2 + 1)) (pm_u (pm_u (pm_u h 19 4 (pm_op (pm_max (h 19 4) (h 23 l2.toNatClampNeg)))) 19 2 (pm_op ((h 19 2) + (h 30 l2.toNatClampNeg)))) 29 l2.toNatClampNeg (pm_op ((h 29 l2.toNatClampNeg) + (h 30 l2.toNatClampNeg))))) (pm_ib (pm_in l2 10) (wp_X5_reckon 2 l2 l1 99 (pm_u (pm_u (pm_u h 19 4 (pm_op (pm_max (h 19 4) (h 23 l2.toNatClampNeg)))) 19 2 (pm_op ((h 19 2) + (h 30 l2.toNatClampNeg)))) 29 l2.toNatClampNeg (pm_op ((h 29 l2.toNatClampNeg) + (h 30 l2.toNatClampNeg)))) (fun r92 h91 => wl_X5_countStanding_21 l1 K124 Q n (pm_op (l2 + 1)) (pm_u h91 19 3 (pm_op ((h 19 3) + (pm_op ((h 30 l2.toNatClampNeg) * r92))))))))))))) (wl_X5_countStanding_21 l1 K124 Q n (pm_op (l2 + 1)) (pm_u h 19 4 (pm_op (pm_max (h 19 4) (h 23 l2.toNatClampNeg)))))))) (K124  h)
set_option maxRecDepth 16384 in
theorem wl_X5_countStanding_21_mono {l1 : Int32} {K124 K124' : pm_H → Prop}  {Q Q' : pm_H → Prop}  (mK124 : ∀  h, K124  h → K124'  h) (hQ : ∀ h, Q h → Q' h) : ∀ (n : Nat) (l2 : Int32) (h : pm_H), wl_X5_countStanding_21 l1 K124 Q n l2 h → wl_X5_countStanding_21 l1 K124' Q' n l2 h
  | 0, _, _ => id
  | n + 1, l2, h => by unfold wl_X5_countStanding_21; exact (@pm_lt_mono _ _ _ _ _ _ (@pm_ib_mono _ _ _ (@pm_ib_mono _ _ _ (@pm_lt_mono _ _ _ _ _ _ (@pm_ib_mono _ _ _ (@pm_ib_mono _ _ _ (@pm_ib_mono _ _ _ (@pm_ib_mono _ _ _ (@pm_eq_mono _ _ _ _ _ _ (wl_X5_countStanding_21_mono mK124 hQ n _ _) (@pm_ib_mono _ _ _ (@wp_X5_reckon_mono _ _ _ _ _ _ _ (fun _ _ => (wl_X5_countStanding_21_mono mK124 hQ n _ _))))))))) (wl_X5_countStanding_21_mono mK124 hQ n _ _)))) (mK124  _))
set_option maxRecDepth 16384 in
theorem wl_X5_countStanding_21_ok {d : Nat} {l1 : Int32} {K124 : pm_H → Prop} {Q : Option Value → pm_H → Prop} (hK124 : ∀  (h : pm_H), K124  h → pm_R (d + 3) mt_X5_countStanding 124 [none, none, none] [] h Q) : ∀ (n : Nat) (l2 : Int32) (h : pm_H), wl_X5_countStanding_21 l1 K124 (fun h => Q none h) n l2 h → pm_R (d + 3) mt_X5_countStanding 21 [some (.ref 19), some (.int l1), some (.int l2)] [] h Q
  | 0, _, _ => fun hw => hw.elim
  | n + 1, l2, h => fun hw => by
    unfold wl_X5_countStanding_21 at hw
    refine pm_steps 3 ?_
    refine @pm_wl _ _ _ _ _ _ hw (fun hw => ?_) (fun hw => ?_)
    · refine pm_steps 8 ?_
      refine @pm_wc _ _ _ hw (fun hw => ?_)
      refine pm_steps 6 ?_
      refine @pm_wc _ _ _ hw (fun hw => ?_)
      refine pm_steps 1 ?_
      refine @pm_wl _ _ _ _ _ _ hw (fun hw => ?_) (fun hw => ?_)
      · refine pm_steps 7 ?_
        refine @pm_wc _ _ _ hw (fun hw => ?_)
        refine pm_steps 7 ?_
        refine @pm_wc _ _ _ hw (fun hw => ?_)
        refine pm_steps 4 ?_
        refine @pm_wc _ _ _ hw (fun hw => ?_)
        refine pm_steps 2 ?_
        refine @pm_wc _ _ _ hw (fun hw => ?_)
        refine pm_steps 3 ?_
        refine @pm_we _ _ _ _ _ _ hw (fun hw => ?_) (fun hw => ?_)
        · refine pm_steps 2 ?_
          exact pm_fg (wl_X5_countStanding_21_ok hK124 n _ _ hw) ⟨rfl, ⟨rfl, ⟨rfl, trivial⟩⟩⟩
        · refine pm_steps 7 ?_
          refine @pm_wc _ _ _ hw (fun hw => ?_)
          refine pm_steps 6 ?_
          refine @wp_X5_reckon_ok _ _ _ _ _ _ _ (@wp_X5_reckon_mono _ _ _ _ _ _ _ (fun r92 h91 hw => ?_) hw)
          refine pm_steps 5 ?_
          exact pm_fg (wl_X5_countStanding_21_ok hK124 n _ _ hw) ⟨rfl, ⟨rfl, ⟨rfl, trivial⟩⟩⟩
      · refine pm_steps 2 ?_
        exact pm_fg (wl_X5_countStanding_21_ok hK124 n _ _ hw) ⟨rfl, ⟨rfl, ⟨rfl, trivial⟩⟩⟩
    · exact pm_fg (hK124  _ hw) trivial
set_option maxRecDepth 16384 in
def wp_X5_countStanding  (h : pm_H) (Q : pm_H → Prop) : Prop := pm_eq (h 19 5) 0 (∃ n94, wl_X5_countStanding_21 0 (fun  h93 => Q h93) Q n94 0 h) (wp_X3_countIn_r20  h (fun r96 h95 => ∃ n98, wl_X5_countStanding_21 r96 (fun  h97 => Q h97) Q n98 0 h95))
set_option maxRecDepth 16384 in
theorem wp_X5_countStanding_mono  {h : pm_H} {Q Q' : pm_H → Prop} (hQ : ∀ h, Q h → Q' h) : wp_X5_countStanding  h Q → wp_X5_countStanding  h Q' := by unfold wp_X5_countStanding; exact (@pm_eq_mono _ _ _ _ _ _ (fun z => Exists.elim z (fun n94 z => ⟨n94, wl_X5_countStanding_21_mono (fun  _ => (hQ _)) hQ n94 _ _ z⟩)) (@wp_X3_countIn_r20_mono _ _ _ (fun _ _ => (fun z => Exists.elim z (fun n98 z => ⟨n98, wl_X5_countStanding_21_mono (fun  _ => (hQ _)) hQ n98 _ _ z⟩)))))
set_option maxRecDepth 16384 in
theorem wp_X5_countStanding_ok {d : Nat}  {h : pm_H} {Q : Option Value → pm_H → Prop} (hw : wp_X5_countStanding  h (fun h => Q none h)) : pm_R (d + 3) mt_X5_countStanding 0 [some (.ref 19), none, none] [] h Q := by
  unfold wp_X5_countStanding at hw
  refine pm_steps 3 ?_
  refine @pm_we _ _ _ _ _ _ hw (fun hw => ?_) (fun hw => ?_)
  · refine pm_steps 4 ?_
    obtain ⟨n94, hw⟩ := hw
    refine pm_fg (wl_X5_countStanding_21_ok ?_ n94 _ _ hw) ⟨rfl, ⟨rfl, ⟨rfl, trivial⟩⟩⟩
    · intro  h93 hw
      exact pm_steps 1 hw
  · refine pm_steps 3 ?_
    refine @wp_X3_countIn_r20_ok _ _ _ (@wp_X3_countIn_r20_mono _ _ _ (fun r96 h95 hw => ?_) hw)
    refine pm_steps 4 ?_
    obtain ⟨n98, hw⟩ := hw
    refine pm_fg (wl_X5_countStanding_21_ok ?_ n98 _ _ hw) ⟨rfl, ⟨rfl, ⟨rfl, trivial⟩⟩⟩
    · intro  h97 hw
      exact pm_steps 1 hw
/-! StairLines$Walk.passTick(I)V -/
set_option maxRecDepth 16384 in
def wl_X5_passTick_11 (l1 : Int32) (l2 : Int32) (K44 : pm_H → Prop) (Q : pm_H → Prop) : Nat → Int32 → pm_H → Prop
  | 0, _, _ => False
  | n + 1, l3, h => pm_lt l3 0 (K44  h) (pm_eq l3 l1 (wp_X5_leaveStep l3 0 l2 h (fun h58 => wl_X5_passTick_11 l1 l2 K44 Q n (pm_op (l3 + (-1))) h58)) (wp_X3_passes_r20 l3 h (fun r81 h80 => wp_X5_leaveStep l3 r81 l2 h80 (fun h82 => wl_X5_passTick_11 l1 l2 K44 Q n (pm_op (l3 + (-1))) h82))))
set_option maxRecDepth 16384 in
theorem wl_X5_passTick_11_mono {l1 : Int32} {l2 : Int32} {K44 K44' : pm_H → Prop}  {Q Q' : pm_H → Prop}  (mK44 : ∀  h, K44  h → K44'  h) (hQ : ∀ h, Q h → Q' h) : ∀ (n : Nat) (l3 : Int32) (h : pm_H), wl_X5_passTick_11 l1 l2 K44 Q n l3 h → wl_X5_passTick_11 l1 l2 K44' Q' n l3 h
  | 0, _, _ => id
  | n + 1, l3, h => by unfold wl_X5_passTick_11; exact (@pm_lt_mono _ _ _ _ _ _ (mK44  _) (@pm_eq_mono _ _ _ _ _ _ (@wp_X5_leaveStep_mono _ _ _ _ _ _ (fun _ => (wl_X5_passTick_11_mono mK44 hQ n _ _))) (@wp_X3_passes_r20_mono _ _ _ _ (fun _ _ => (@wp_X5_leaveStep_mono _ _ _ _ _ _ (fun _ => (wl_X5_passTick_11_mono mK44 hQ n _ _)))))))
set_option maxRecDepth 16384 in
theorem wl_X5_passTick_11_ok {d : Nat} {l1 : Int32} {l2 : Int32} {K44 : pm_H → Prop} {Q : Option Value → pm_H → Prop} (hK44 : ∀  (h : pm_H), K44  h → pm_R (d + 4) mt_X5_passTick 44 [some (.ref 19), none, none, none] [] h Q) : ∀ (n : Nat) (l3 : Int32) (h : pm_H), wl_X5_passTick_11 l1 l2 K44 (fun h => Q none h) n l3 h → pm_R (d + 4) mt_X5_passTick 11 [some (.ref 19), some (.int l1), some (.int l2), some (.int l3)] [] h Q
  | 0, _, _ => fun hw => hw.elim
  | n + 1, l3, h => fun hw => by
    unfold wl_X5_passTick_11 at hw
    refine pm_steps 2 ?_
    refine @pm_wl _ _ _ _ _ _ hw (fun hw => ?_) (fun hw => ?_)
    · exact pm_fg (hK44  _ hw) ⟨rfl, trivial⟩
    · refine pm_steps 5 ?_
      refine @pm_we _ _ _ _ _ _ hw (fun hw => ?_) (fun hw => ?_)
      · refine pm_steps 4 ?_
        refine @wp_X5_leaveStep_ok _ _ _ _ _ _ (@wp_X5_leaveStep_mono _ _ _ _ _ _ (fun h58 hw => ?_) hw)
        refine pm_steps 2 ?_
        exact pm_fg (wl_X5_passTick_11_ok hK44 n _ _ hw) ⟨rfl, ⟨rfl, ⟨rfl, ⟨rfl, trivial⟩⟩⟩⟩
      · refine pm_steps 4 ?_
        refine @wp_X3_passes_r20_ok _ _ _ _ (@wp_X3_passes_r20_mono _ _ _ _ (fun r81 h80 hw => ?_) hw)
        refine pm_steps 2 ?_
        refine @wp_X5_leaveStep_ok _ _ _ _ _ _ (@wp_X5_leaveStep_mono _ _ _ _ _ _ (fun h82 hw => ?_) hw)
        refine pm_steps 2 ?_
        exact pm_fg (wl_X5_passTick_11_ok hK44 n _ _ hw) ⟨rfl, ⟨rfl, ⟨rfl, ⟨rfl, trivial⟩⟩⟩⟩
set_option maxRecDepth 16384 in
def wl_X5_passTick_46  (K99 : pm_H → Prop) (Q : pm_H → Prop) : Nat → Int32 → pm_H → Prop
  | 0, _, _ => False
  | n + 1, l3, h => pm_lt l3 (h 20 8) (pm_ib (pm_in l3 5) (pm_lt (h 20 9) (h 26 l3.toNatClampNeg) (wl_X5_passTick_46 K99 Q n (pm_op (l3 + 1)) h) (pm_ib (pm_in l3 5) (pm_lt 0 (h 28 l3.toNatClampNeg) (wp_X5_stepOnFloor l3 h (fun h84 => wl_X5_passTick_46 K99 Q n (pm_op (l3 + 1)) h84)) (wl_X5_passTick_46 K99 Q n (pm_op (l3 + 1)) h))))) (K99  h)
set_option maxRecDepth 16384 in
theorem wl_X5_passTick_46_mono  {K99 K99' : pm_H → Prop}  {Q Q' : pm_H → Prop}  (mK99 : ∀  h, K99  h → K99'  h) (hQ : ∀ h, Q h → Q' h) : ∀ (n : Nat) (l3 : Int32) (h : pm_H), wl_X5_passTick_46 K99 Q n l3 h → wl_X5_passTick_46 K99' Q' n l3 h
  | 0, _, _ => id
  | n + 1, l3, h => by unfold wl_X5_passTick_46; exact (@pm_lt_mono _ _ _ _ _ _ (@pm_ib_mono _ _ _ (@pm_lt_mono _ _ _ _ _ _ (wl_X5_passTick_46_mono mK99 hQ n _ _) (@pm_ib_mono _ _ _ (@pm_lt_mono _ _ _ _ _ _ (@wp_X5_stepOnFloor_mono _ _ _ _ (fun _ => (wl_X5_passTick_46_mono mK99 hQ n _ _))) (wl_X5_passTick_46_mono mK99 hQ n _ _))))) (mK99  _))
set_option maxRecDepth 16384 in
theorem wl_X5_passTick_46_ok {d : Nat}  {K99 : pm_H → Prop} {Q : Option Value → pm_H → Prop} (hK99 : ∀  (h : pm_H), K99  h → pm_R (d + 4) mt_X5_passTick 99 [some (.ref 19), none, none, none] [] h Q) : ∀ (n : Nat) (l3 : Int32) (h : pm_H), wl_X5_passTick_46 K99 (fun h => Q none h) n l3 h → pm_R (d + 4) mt_X5_passTick 46 [some (.ref 19), none, none, some (.int l3)] [] h Q
  | 0, _, _ => fun hw => hw.elim
  | n + 1, l3, h => fun hw => by
    unfold wl_X5_passTick_46 at hw
    refine pm_steps 5 ?_
    refine @pm_wl _ _ _ _ _ _ hw (fun hw => ?_) (fun hw => ?_)
    · refine pm_steps 5 ?_
      refine @pm_wc _ _ _ hw (fun hw => ?_)
      refine pm_steps 4 ?_
      refine @pm_wl _ _ _ _ _ _ hw (fun hw => ?_) (fun hw => ?_)
      · refine pm_steps 2 ?_
        exact pm_fg (wl_X5_passTick_46_ok hK99 n _ _ hw) ⟨rfl, ⟨rfl, trivial⟩⟩
      · refine pm_steps 5 ?_
        refine @pm_wc _ _ _ hw (fun hw => ?_)
        refine pm_steps 1 ?_
        refine @pm_wl _ _ _ _ _ _ hw (fun hw => ?_) (fun hw => ?_)
        · refine pm_steps 3 ?_
          refine @wp_X5_stepOnFloor_ok _ _ _ _ (@wp_X5_stepOnFloor_mono _ _ _ _ (fun h84 hw => ?_) hw)
          refine pm_steps 2 ?_
          exact pm_fg (wl_X5_passTick_46_ok hK99 n _ _ hw) ⟨rfl, ⟨rfl, trivial⟩⟩
        · refine pm_steps 2 ?_
          exact pm_fg (wl_X5_passTick_46_ok hK99 n _ _ hw) ⟨rfl, ⟨rfl, trivial⟩⟩
    · exact pm_fg (hK99  _ hw) ⟨rfl, trivial⟩
set_option maxRecDepth 16384 in
def wp_X5_passTick (l1 : Int32) (h : pm_H) (Q : pm_H → Prop) : Prop := wp_X3_countIn_r20  h (fun r57 h56 => ∃ n103, wl_X5_passTick_11 l1 r57 (fun  h83 => ∃ n102, wl_X5_passTick_46 (fun  h89 => wp_X5_countStanding  h89 (fun h90 => Q (pm_u h90 20 9 (pm_op (pm_min 999 (pm_op ((h90 20 9) + 1))))))) Q n102 0 h83) Q n103 9 h56)
set_option maxRecDepth 16384 in
theorem wp_X5_passTick_mono {l1 : Int32} {h : pm_H} {Q Q' : pm_H → Prop} (hQ : ∀ h, Q h → Q' h) : wp_X5_passTick l1 h Q → wp_X5_passTick l1 h Q' := by unfold wp_X5_passTick; exact (@wp_X3_countIn_r20_mono _ _ _ (fun _ _ => (fun z => Exists.elim z (fun n103 z => ⟨n103, wl_X5_passTick_11_mono (fun  _ => (fun z => Exists.elim z (fun n102 z => ⟨n102, wl_X5_passTick_46_mono (fun  _ => (@wp_X5_countStanding_mono _ _ _ (fun _ => (hQ _)))) hQ n102 _ _ z⟩))) hQ n103 _ _ z⟩))))
set_option maxRecDepth 16384 in
theorem wp_X5_passTick_ok {d : Nat} {l1 : Int32} {h : pm_H} {Q : Option Value → pm_H → Prop} (hw : wp_X5_passTick l1 h (fun h => Q none h)) : pm_R (d + 4) mt_X5_passTick 0 [some (.ref 19), some (.int l1), none, none] [] h Q := by
  unfold wp_X5_passTick at hw
  refine pm_steps 3 ?_
  refine @wp_X3_countIn_r20_ok _ _ _ (@wp_X3_countIn_r20_mono _ _ _ (fun r57 h56 hw => ?_) hw)
  refine pm_steps 3 ?_
  obtain ⟨n103, hw⟩ := hw
  refine pm_fg (wl_X5_passTick_11_ok ?_ n103 _ _ hw) ⟨rfl, ⟨rfl, ⟨rfl, ⟨rfl, trivial⟩⟩⟩⟩
  · intro  h83 hw
    refine pm_steps 2 ?_
    obtain ⟨n102, hw⟩ := hw
    refine pm_fg (wl_X5_passTick_46_ok ?_ n102 _ _ hw) ⟨rfl, ⟨rfl, trivial⟩⟩
    · intro  h89 hw
      refine pm_steps 2 ?_
      refine @wp_X5_countStanding_ok _ _ _ (@wp_X5_countStanding_mono _ _ _ (fun h90 hw => ?_) hw)
      exact pm_steps 11 hw
