/-! java/util/Arrays.fill([II)V -/
set_option maxRecDepth 16384 in
def wl_J7_fill_53178_r29_5 (l1 : Int32) (l3 : Int32) (K20 : pm_H → Prop) (Q : pm_H → Prop) : Nat → Int32 → pm_H → Prop
  | 0, _, _ => False
  | n + 1, l2, h => pm_lt l2 l3 (pm_ib (pm_in l2 10) (wl_J7_fill_53178_r29_5 l1 l3 K20 Q n (pm_op (l2 + 1)) (pm_u h 29 l2.toNatClampNeg l1))) (K20  h)
set_option maxRecDepth 16384 in
theorem wl_J7_fill_53178_r29_5_mono {l1 : Int32} {l3 : Int32} {K20 K20' : pm_H → Prop}  {Q Q' : pm_H → Prop}  (mK20 : ∀  h, K20  h → K20'  h) (hQ : ∀ h, Q h → Q' h) : ∀ (n : Nat) (l2 : Int32) (h : pm_H), wl_J7_fill_53178_r29_5 l1 l3 K20 Q n l2 h → wl_J7_fill_53178_r29_5 l1 l3 K20' Q' n l2 h
  | 0, _, _ => id
  | n + 1, l2, h => by unfold wl_J7_fill_53178_r29_5; exact (@pm_lt_mono _ _ _ _ _ _ (@pm_ib_mono _ _ _ (wl_J7_fill_53178_r29_5_mono mK20 hQ n _ _)) (mK20  _))
set_option maxRecDepth 16384 in
theorem wl_J7_fill_53178_r29_5_ok {d : Nat} {l1 : Int32} {l3 : Int32} {K20 : pm_H → Prop} {Q : Option Value → pm_H → Prop} (hK20 : ∀  (h : pm_H), K20  h → pm_R (d + 0) mt_J7_fill_53178 20 [none, none, none, none] [] h Q) : ∀ (n : Nat) (l2 : Int32) (h : pm_H), wl_J7_fill_53178_r29_5 l1 l3 K20 (fun h => Q none h) n l2 h → pm_R (d + 0) mt_J7_fill_53178 5 [some (.ref 29), some (.int l1), some (.int l2), some (.int l3)] [] h Q
  | 0, _, _ => fun hw => hw.elim
  | n + 1, l2, h => fun hw => by
    unfold wl_J7_fill_53178_r29_5 at hw
    refine pm_steps 3 ?_
    refine @pm_wl _ _ _ _ _ _ hw (fun hw => ?_) (fun hw => ?_)
    · refine pm_steps 4 ?_
      refine @pm_wc _ _ _ hw (fun hw => ?_)
      refine pm_steps 2 ?_
      exact pm_fg (wl_J7_fill_53178_r29_5_ok hK20 n _ _ hw) ⟨rfl, ⟨rfl, ⟨rfl, ⟨rfl, trivial⟩⟩⟩⟩
    · exact pm_fg (hK20  _ hw) trivial
set_option maxRecDepth 16384 in
def wp_J7_fill_53178_r29 (l1 : Int32) (h : pm_H) (Q : pm_H → Prop) : Prop := ∃ n108, wl_J7_fill_53178_r29_5 l1 (nI 10) (fun  h107 => Q h107) Q n108 0 h
set_option maxRecDepth 16384 in
theorem wp_J7_fill_53178_r29_mono {l1 : Int32} {h : pm_H} {Q Q' : pm_H → Prop} (hQ : ∀ h, Q h → Q' h) : wp_J7_fill_53178_r29 l1 h Q → wp_J7_fill_53178_r29 l1 h Q' := by unfold wp_J7_fill_53178_r29; exact (fun z => Exists.elim z (fun n108 z => ⟨n108, wl_J7_fill_53178_r29_5_mono (fun  _ => (hQ _)) hQ n108 _ _ z⟩))
set_option maxRecDepth 16384 in
theorem wp_J7_fill_53178_r29_ok {d : Nat} {l1 : Int32} {h : pm_H} {Q : Option Value → pm_H → Prop} (hw : wp_J7_fill_53178_r29 l1 h (fun h => Q none h)) : pm_R (d + 0) mt_J7_fill_53178 0 [some (.ref 29), some (.int l1), none, none] [] h Q := by
  unfold wp_J7_fill_53178_r29 at hw
  refine pm_steps 5 ?_
  obtain ⟨n108, hw⟩ := hw
  refine pm_fg (wl_J7_fill_53178_r29_5_ok ?_ n108 _ _ hw) ⟨rfl, ⟨rfl, ⟨rfl, ⟨rfl, trivial⟩⟩⟩⟩
  · intro  h107 hw
    exact pm_steps 1 hw
/-! StairLines$Stair.becomeLike(LStairLines$Stair;)V -/
set_option maxRecDepth 16384 in
def wp_X3_becomeLike_r20_r1  (h : pm_H) (Q : pm_H → Prop) : Prop := Q (pm_u (pm_u (pm_u (pm_u (pm_cp (pm_cp (pm_cp (pm_cp (pm_cp (pm_cp (pm_cp (pm_cp h 2 0 21 0 10) 3 0 22 0 10) 4 0 23 0 10) 5 0 24 0 5) 6 0 25 0 5) 7 0 26 0 5) 8 0 27 0 5) 9 0 28 0 5) 20 8 ((pm_cp (pm_cp (pm_cp (pm_cp (pm_cp (pm_cp (pm_cp (pm_cp h 2 0 21 0 10) 3 0 22 0 10) 4 0 23 0 10) 5 0 24 0 5) 6 0 25 0 5) 7 0 26 0 5) 8 0 27 0 5) 9 0 28 0 5) 1 8)) 20 9 ((pm_cp (pm_cp (pm_cp (pm_cp (pm_cp (pm_cp (pm_cp (pm_cp h 2 0 21 0 10) 3 0 22 0 10) 4 0 23 0 10) 5 0 24 0 5) 6 0 25 0 5) 7 0 26 0 5) 8 0 27 0 5) 9 0 28 0 5) 1 9)) 20 10 ((pm_cp (pm_cp (pm_cp (pm_cp (pm_cp (pm_cp (pm_cp (pm_cp h 2 0 21 0 10) 3 0 22 0 10) 4 0 23 0 10) 5 0 24 0 5) 6 0 25 0 5) 7 0 26 0 5) 8 0 27 0 5) 9 0 28 0 5) 1 10)) 20 11 ((pm_cp (pm_cp (pm_cp (pm_cp (pm_cp (pm_cp (pm_cp (pm_cp h 2 0 21 0 10) 3 0 22 0 10) 4 0 23 0 10) 5 0 24 0 5) 6 0 25 0 5) 7 0 26 0 5) 8 0 27 0 5) 9 0 28 0 5) 1 11))
set_option maxRecDepth 16384 in
theorem wp_X3_becomeLike_r20_r1_mono  {h : pm_H} {Q Q' : pm_H → Prop} (hQ : ∀ h, Q h → Q' h) : wp_X3_becomeLike_r20_r1  h Q → wp_X3_becomeLike_r20_r1  h Q' := by unfold wp_X3_becomeLike_r20_r1; exact (hQ _)
set_option maxRecDepth 16384 in
theorem wp_X3_becomeLike_r20_r1_ok {d : Nat}  {h : pm_H} {Q : Option Value → pm_H → Prop} (hw : wp_X3_becomeLike_r20_r1  h (fun h => Q none h)) : pm_R (d + 0) mt_X3_becomeLike 0 [some (.ref 20), some (.ref 1)] [] h Q := by
  unfold wp_X3_becomeLike_r20_r1 at hw
  refine pm_steps 61 ?_
  exact pm_steps 20 hw
/-! StairLines$Walk.begin(LStairLines$Stair;LStairLines$Text;)V -/
set_option maxRecDepth 16384 in
def wp_X5_begin_r1 (l2 : Nat) (h : pm_H) (Q : pm_H → Prop) : Prop := wp_X3_becomeLike_r20_r1  h (fun h105 => pm_ib ((Nat.blt 0 l2 && Nat.blt l2 92)) (wp_J7_fill_53178_r29 0 (pm_u h105 19 8 (nI l2)) (fun h106 => Q (pm_u (pm_u (pm_u (pm_u h106 19 2 0) 19 3 0) 19 4 0) 19 5 0))))
set_option maxRecDepth 16384 in
theorem wp_X5_begin_r1_mono {l2 : Nat} {h : pm_H} {Q Q' : pm_H → Prop} (hQ : ∀ h, Q h → Q' h) : wp_X5_begin_r1 l2 h Q → wp_X5_begin_r1 l2 h Q' := by unfold wp_X5_begin_r1; exact (@wp_X3_becomeLike_r20_r1_mono _ _ _ (fun _ => (@pm_ib_mono _ _ _ (@wp_J7_fill_53178_r29_mono _ _ _ _ (fun _ => (hQ _))))))
set_option maxRecDepth 16384 in
theorem wp_X5_begin_r1_ok {d : Nat} {l2 : Nat} {h : pm_H} {Q : Option Value → pm_H → Prop} (hw : wp_X5_begin_r1 l2 h (fun h => Q none h)) : pm_R (d + 1) mt_X5_begin 0 [some (.ref 19), some (.ref 1), some (.ref l2)] [] h Q := by
  unfold wp_X5_begin_r1 at hw
  refine pm_steps 4 ?_
  refine @wp_X3_becomeLike_r20_r1_ok _ _ _ (@wp_X3_becomeLike_r20_r1_mono _ _ _ (fun h105 hw => ?_) hw)
  refine pm_steps 3 ?_
  refine @pm_wc _ _ _ hw (fun hw => ?_)
  refine pm_steps 4 ?_
  refine @wp_J7_fill_53178_r29_ok _ _ _ _ (@wp_J7_fill_53178_r29_mono _ _ _ _ (fun h106 hw => ?_) hw)
  exact pm_steps 13 hw
/-! StairLines.beginTrial()V -/
set_option maxRecDepth 16384 in
def wp_X6_beginTrial  (h : pm_H) (Q : pm_H → Prop) : Prop := pm_ib (pm_in (h 1 11) 6) (wp_X5_begin_r1 (40 + 3 * (h 1 11).toNatClampNeg) h (fun h104 => Q h104))
set_option maxRecDepth 16384 in
theorem wp_X6_beginTrial_mono  {h : pm_H} {Q Q' : pm_H → Prop} (hQ : ∀ h, Q h → Q' h) : wp_X6_beginTrial  h Q → wp_X6_beginTrial  h Q' := by unfold wp_X6_beginTrial; exact (@pm_ib_mono _ _ _ (@wp_X5_begin_r1_mono _ _ _ _ (fun _ => (hQ _))))
set_option maxRecDepth 16384 in
theorem wp_X6_beginTrial_ok {d : Nat}  {h : pm_H} {Q : Option Value → pm_H → Prop} (hw : wp_X6_beginTrial  h (fun h => Q none h)) : pm_R (d + 2) mt_X6_beginTrial 0 [some (.ref 0)] [] h Q := by
  unfold wp_X6_beginTrial at hw
  refine pm_steps 10 ?_
  refine @pm_wc _ _ _ hw (fun hw => ?_)
  refine pm_steps 1 ?_
  refine @wp_X5_begin_r1_ok _ _ _ _ (@wp_X5_begin_r1_mono _ _ _ _ (fun h104 hw => ?_) hw)
  exact pm_steps 1 hw
/-! StairLines.tick()I -/
set_option maxRecDepth 16384 in
def wp_X6_tick  (h : pm_H) (Q : Int32 → pm_H → Prop) : Prop := wp_X6_beginTrial  h (fun h53 => wp_X5_passTick (-1) h53 (fun h54 => wp_X3_becomeLike_r1_r20  h54 (fun h55 => Q (h55 1 10) h55)))
set_option maxRecDepth 16384 in
theorem wp_X6_tick_mono  {h : pm_H} {Q Q' : Int32 → pm_H → Prop} (hQ : ∀ r h, Q r h → Q' r h) : wp_X6_tick  h Q → wp_X6_tick  h Q' := by unfold wp_X6_tick; exact (@wp_X6_beginTrial_mono _ _ _ (fun _ => (@wp_X5_passTick_mono _ _ _ _ (fun _ => (@wp_X3_becomeLike_r1_r20_mono _ _ _ (fun _ => (hQ _ _)))))))
set_option maxRecDepth 16384 in
theorem wp_X6_tick_ok {d : Nat}  {h : pm_H} {Q : Option Value → pm_H → Prop} (hw : wp_X6_tick  h (fun r h => Q (some (.int r)) h)) : pm_R (d + 5) mt_X6_tick 0 [some (.ref 0)] [] h Q := by
  unfold wp_X6_tick at hw
  refine pm_steps 2 ?_
  refine @wp_X6_beginTrial_ok _ _ _ (@wp_X6_beginTrial_mono _ _ _ (fun h53 hw => ?_) hw)
  refine pm_steps 4 ?_
  refine @wp_X5_passTick_ok _ _ _ _ (@wp_X5_passTick_mono _ _ _ _ (fun h54 hw => ?_) hw)
  refine pm_steps 6 ?_
  refine @wp_X3_becomeLike_r1_r20_ok _ _ _ (@wp_X3_becomeLike_r1_r20_mono _ _ _ (fun h55 hw => ?_) hw)
  exact pm_steps 4 hw
/-! StairLines$Stair.countOnSteps()I -/
set_option maxRecDepth 16384 in
def wl_X3_countOnSteps_r20_4  (K25 : Int32 → pm_H → Prop) (Q : Int32 → pm_H → Prop) : Nat → Int32 → Int32 → pm_H → Prop
  | 0, _, _, _ => False
  | n + 1, l1, l2, h => pm_lt l2 10 (pm_ib (pm_in l2 10) (wl_X3_countOnSteps_r20_4 K25 Q n (pm_op (l1 + (h 23 l2.toNatClampNeg))) (pm_op (l2 + 1)) h)) (K25 l1 h)
set_option maxRecDepth 16384 in
theorem wl_X3_countOnSteps_r20_4_mono  {K25 K25' : Int32 → pm_H → Prop}  {Q Q' : Int32 → pm_H → Prop}  (mK25 : ∀ x1 h, K25 x1 h → K25' x1 h) (hQ : ∀ r h, Q r h → Q' r h) : ∀ (n : Nat) (l1 : Int32) (l2 : Int32) (h : pm_H), wl_X3_countOnSteps_r20_4 K25 Q n l1 l2 h → wl_X3_countOnSteps_r20_4 K25' Q' n l1 l2 h
  | 0, _, _, _ => id
  | n + 1, l1, l2, h => by unfold wl_X3_countOnSteps_r20_4; exact (@pm_lt_mono _ _ _ _ _ _ (@pm_ib_mono _ _ _ (wl_X3_countOnSteps_r20_4_mono mK25 hQ n _ _ _)) (mK25 _ _))
set_option maxRecDepth 16384 in
theorem wl_X3_countOnSteps_r20_4_ok {d : Nat}  {K25 : Int32 → pm_H → Prop} {Q : Option Value → pm_H → Prop} (hK25 : ∀ (x1 : Int32) (h : pm_H), K25 x1 h → pm_R (d + 0) mt_X3_countOnSteps 25 [none, some (.int x1), none] [] h Q) : ∀ (n : Nat) (l1 : Int32) (l2 : Int32) (h : pm_H), wl_X3_countOnSteps_r20_4 K25 (fun r h => Q (some (.int r)) h) n l1 l2 h → pm_R (d + 0) mt_X3_countOnSteps 4 [some (.ref 20), some (.int l1), some (.int l2)] [] h Q
  | 0, _, _, _ => fun hw => hw.elim
  | n + 1, l1, l2, h => fun hw => by
    unfold wl_X3_countOnSteps_r20_4 at hw
    refine pm_steps 3 ?_
    refine @pm_wl _ _ _ _ _ _ hw (fun hw => ?_) (fun hw => ?_)
    · refine pm_steps 5 ?_
      refine @pm_wc _ _ _ hw (fun hw => ?_)
      refine pm_steps 4 ?_
      exact pm_fg (wl_X3_countOnSteps_r20_4_ok hK25 n _ _ _ hw) ⟨rfl, ⟨rfl, ⟨rfl, trivial⟩⟩⟩
    · exact pm_fg (hK25 _ _ hw) ⟨rfl, trivial⟩
set_option maxRecDepth 16384 in
def wp_X3_countOnSteps_r20  (h : pm_H) (Q : Int32 → pm_H → Prop) : Prop := ∃ n123, wl_X3_countOnSteps_r20_4 (fun x122 h121 => Q x122 h121) Q n123 0 0 h
set_option maxRecDepth 16384 in
theorem wp_X3_countOnSteps_r20_mono  {h : pm_H} {Q Q' : Int32 → pm_H → Prop} (hQ : ∀ r h, Q r h → Q' r h) : wp_X3_countOnSteps_r20  h Q → wp_X3_countOnSteps_r20  h Q' := by unfold wp_X3_countOnSteps_r20; exact (fun z => Exists.elim z (fun n123 z => ⟨n123, wl_X3_countOnSteps_r20_4_mono (fun _ _ => (hQ _ _)) hQ n123 _ _ _ z⟩))
set_option maxRecDepth 16384 in
theorem wp_X3_countOnSteps_r20_ok {d : Nat}  {h : pm_H} {Q : Option Value → pm_H → Prop} (hw : wp_X3_countOnSteps_r20  h (fun r h => Q (some (.int r)) h)) : pm_R (d + 0) mt_X3_countOnSteps 0 [some (.ref 20), none, none] [] h Q := by
  unfold wp_X3_countOnSteps_r20 at hw
  refine pm_steps 4 ?_
  obtain ⟨n123, hw⟩ := hw
  refine pm_fg (wl_X3_countOnSteps_r20_4_ok ?_ n123 _ _ _ hw) ⟨rfl, ⟨rfl, ⟨rfl, trivial⟩⟩⟩
  · intro x122 h121 hw
    exact pm_steps 2 hw
/-! StairLines$Stair.isAllOut()Z -/
set_option maxRecDepth 16384 in
def wp_X3_isAllOut_r20  (h : pm_H) (Q : Int32 → pm_H → Prop) : Prop := wp_X3_countIn_r20  h (fun r118 h117 => pm_eq r118 0 (wp_X3_countOnSteps_r20  h117 (fun r120 h119 => pm_eq r120 0 (Q 1 h119) (Q 0 h119))) (Q 0 h117))
set_option maxRecDepth 16384 in
theorem wp_X3_isAllOut_r20_mono  {h : pm_H} {Q Q' : Int32 → pm_H → Prop} (hQ : ∀ r h, Q r h → Q' r h) : wp_X3_isAllOut_r20  h Q → wp_X3_isAllOut_r20  h Q' := by unfold wp_X3_isAllOut_r20; exact (@wp_X3_countIn_r20_mono _ _ _ (fun _ _ => (@pm_eq_mono _ _ _ _ _ _ (@wp_X3_countOnSteps_r20_mono _ _ _ (fun _ _ => (@pm_eq_mono _ _ _ _ _ _ (hQ _ _) (hQ _ _)))) (hQ _ _))))
set_option maxRecDepth 16384 in
theorem wp_X3_isAllOut_r20_ok {d : Nat}  {h : pm_H} {Q : Option Value → pm_H → Prop} (hw : wp_X3_isAllOut_r20  h (fun r h => Q (some (.int r)) h)) : pm_R (d + 1) mt_X3_isAllOut 0 [some (.ref 20)] [] h Q := by
  unfold wp_X3_isAllOut_r20 at hw
  refine pm_steps 2 ?_
  refine @wp_X3_countIn_r20_ok _ _ _ (@wp_X3_countIn_r20_mono _ _ _ (fun r118 h117 hw => ?_) hw)
  refine pm_steps 1 ?_
  refine @pm_we _ _ _ _ _ _ hw (fun hw => ?_) (fun hw => ?_)
  · refine pm_steps 2 ?_
    refine @wp_X3_countOnSteps_r20_ok _ _ _ (@wp_X3_countOnSteps_r20_mono _ _ _ (fun r120 h119 hw => ?_) hw)
    refine pm_steps 1 ?_
    refine @pm_we _ _ _ _ _ _ hw (fun hw => ?_) (fun hw => ?_)
    · exact pm_steps 3 hw
    · exact pm_steps 2 hw
  · exact pm_steps 2 hw
/-! StairLines$Walk.runOut(I)I -/
set_option maxRecDepth 16384 in
def wl_X5_runOut_2 (l1 : Int32) (K28 : Int32 → pm_H → Prop) (Q : Int32 → pm_H → Prop) : Nat → Int32 → pm_H → Prop
  | 0, _, _ => False
  | n + 1, l2, h => pm_lt l2 l1 (wp_X3_isAllOut_r20  h (fun r115 h114 => pm_eq r115 0 (wp_X5_passTick (-1) h114 (fun h116 => wl_X5_runOut_2 l1 K28 Q n (pm_op (l2 + 1)) h116)) (K28 l2 h114))) (K28 l2 h)
set_option maxRecDepth 16384 in
theorem wl_X5_runOut_2_mono {l1 : Int32} {K28 K28' : Int32 → pm_H → Prop}  {Q Q' : Int32 → pm_H → Prop}  (mK28 : ∀ x2 h, K28 x2 h → K28' x2 h) (hQ : ∀ r h, Q r h → Q' r h) : ∀ (n : Nat) (l2 : Int32) (h : pm_H), wl_X5_runOut_2 l1 K28 Q n l2 h → wl_X5_runOut_2 l1 K28' Q' n l2 h
  | 0, _, _ => id
  | n + 1, l2, h => by unfold wl_X5_runOut_2; exact (@pm_lt_mono _ _ _ _ _ _ (@wp_X3_isAllOut_r20_mono _ _ _ (fun _ _ => (@pm_eq_mono _ _ _ _ _ _ (@wp_X5_passTick_mono _ _ _ _ (fun _ => (wl_X5_runOut_2_mono mK28 hQ n _ _))) (mK28 _ _)))) (mK28 _ _))
set_option maxRecDepth 16384 in
theorem wl_X5_runOut_2_ok {d : Nat} {l1 : Int32} {K28 : Int32 → pm_H → Prop} {Q : Option Value → pm_H → Prop} (hK28 : ∀ (x2 : Int32) (h : pm_H), K28 x2 h → pm_R (d + 5) mt_X5_runOut 28 [none, none, some (.int x2)] [] h Q) : ∀ (n : Nat) (l2 : Int32) (h : pm_H), wl_X5_runOut_2 l1 K28 (fun r h => Q (some (.int r)) h) n l2 h → pm_R (d + 5) mt_X5_runOut 2 [some (.ref 19), some (.int l1), some (.int l2)] [] h Q
  | 0, _, _ => fun hw => hw.elim
  | n + 1, l2, h => fun hw => by
    unfold wl_X5_runOut_2 at hw
    refine pm_steps 3 ?_
    refine @pm_wl _ _ _ _ _ _ hw (fun hw => ?_) (fun hw => ?_)
    · refine pm_steps 3 ?_
      refine @wp_X3_isAllOut_r20_ok _ _ _ (@wp_X3_isAllOut_r20_mono _ _ _ (fun r115 h114 hw => ?_) hw)
      refine pm_steps 1 ?_
      refine @pm_we _ _ _ _ _ _ hw (fun hw => ?_) (fun hw => ?_)
      · refine pm_steps 3 ?_
        refine @wp_X5_passTick_ok _ _ _ _ (@wp_X5_passTick_mono _ _ _ _ (fun h116 hw => ?_) hw)
        refine pm_steps 2 ?_
        exact pm_fg (wl_X5_runOut_2_ok hK28 n _ _ hw) ⟨rfl, ⟨rfl, ⟨rfl, trivial⟩⟩⟩
      · exact pm_fg (hK28 _ _ hw) ⟨rfl, trivial⟩
    · exact pm_fg (hK28 _ _ hw) ⟨rfl, trivial⟩
set_option maxRecDepth 16384 in
def wp_X5_runOut (l1 : Int32) (h : pm_H) (Q : Int32 → pm_H → Prop) : Prop := ∃ n126, wl_X5_runOut_2 l1 (fun x125 h124 => Q x125 h124) Q n126 0 h
set_option maxRecDepth 16384 in
theorem wp_X5_runOut_mono {l1 : Int32} {h : pm_H} {Q Q' : Int32 → pm_H → Prop} (hQ : ∀ r h, Q r h → Q' r h) : wp_X5_runOut l1 h Q → wp_X5_runOut l1 h Q' := by unfold wp_X5_runOut; exact (fun z => Exists.elim z (fun n126 z => ⟨n126, wl_X5_runOut_2_mono (fun _ _ => (hQ _ _)) hQ n126 _ _ z⟩))
set_option maxRecDepth 16384 in
theorem wp_X5_runOut_ok {d : Nat} {l1 : Int32} {h : pm_H} {Q : Option Value → pm_H → Prop} (hw : wp_X5_runOut l1 h (fun r h => Q (some (.int r)) h)) : pm_R (d + 5) mt_X5_runOut 0 [some (.ref 19), some (.int l1), none] [] h Q := by
  unfold wp_X5_runOut at hw
  refine pm_steps 2 ?_
  obtain ⟨n126, hw⟩ := hw
  refine pm_fg (wl_X5_runOut_2_ok ?_ n126 _ _ hw) ⟨rfl, ⟨rfl, ⟨rfl, trivial⟩⟩⟩
  · intro x125 h124 hw
    exact pm_steps 2 hw
/-! StairLines.run(I)I -/
set_option maxRecDepth 16384 in
def wp_X6_run (l1 : Int32) (h : pm_H) (Q : Int32 → pm_H → Prop) : Prop := wp_X6_between l1 0 3 h (fun r110 h109 => pm_eq r110 0 (Q (-2) h109) (wp_X6_beginTrial  h109 (fun h111 => pm_eq l1 2 (wp_X5_runOut 400 (pm_u h111 19 5 1) (fun r113 h112 => pm_eq l1 0 (Q r113 h112) (pm_eq l1 1 (Q (h112 19 2) h112) (pm_eq l1 2 (Q (h112 19 3) h112) (Q (h112 19 4) h112))))) (wp_X5_runOut 400 (pm_u h111 19 5 0) (fun r128 h127 => pm_eq l1 0 (Q r128 h127) (pm_eq l1 1 (Q (h127 19 2) h127) (pm_eq l1 2 (Q (h127 19 3) h127) (Q (h127 19 4) h127))))))))
set_option maxRecDepth 16384 in
theorem wp_X6_run_mono {l1 : Int32} {h : pm_H} {Q Q' : Int32 → pm_H → Prop} (hQ : ∀ r h, Q r h → Q' r h) : wp_X6_run l1 h Q → wp_X6_run l1 h Q' := by unfold wp_X6_run; exact (@wp_X6_between_mono _ _ _ _ _ _ (fun _ _ => (@pm_eq_mono _ _ _ _ _ _ (hQ _ _) (@wp_X6_beginTrial_mono _ _ _ (fun _ => (@pm_eq_mono _ _ _ _ _ _ (@wp_X5_runOut_mono _ _ _ _ (fun _ _ => (@pm_eq_mono _ _ _ _ _ _ (hQ _ _) (@pm_eq_mono _ _ _ _ _ _ (hQ _ _) (@pm_eq_mono _ _ _ _ _ _ (hQ _ _) (hQ _ _)))))) (@wp_X5_runOut_mono _ _ _ _ (fun _ _ => (@pm_eq_mono _ _ _ _ _ _ (hQ _ _) (@pm_eq_mono _ _ _ _ _ _ (hQ _ _) (@pm_eq_mono _ _ _ _ _ _ (hQ _ _) (hQ _ _))))))))))))
set_option maxRecDepth 16384 in
theorem wp_X6_run_ok {d : Nat} {l1 : Int32} {h : pm_H} {Q : Option Value → pm_H → Prop} (hw : wp_X6_run l1 h (fun r h => Q (some (.int r)) h)) : pm_R (d + 6) mt_X6_run 0 [some (.ref 0), some (.int l1), none] [] h Q := by
  unfold wp_X6_run at hw
  refine pm_steps 4 ?_
  refine @wp_X6_between_ok _ _ _ _ _ _ (@wp_X6_between_mono _ _ _ _ _ _ (fun r110 h109 hw => ?_) hw)
  refine pm_steps 1 ?_
  refine @pm_we _ _ _ _ _ _ hw (fun hw => ?_) (fun hw => ?_)
  · exact pm_steps 2 hw
  · refine pm_steps 2 ?_
    refine @wp_X6_beginTrial_ok _ _ _ (@wp_X6_beginTrial_mono _ _ _ (fun h111 hw => ?_) hw)
    refine pm_steps 5 ?_
    refine @pm_we _ _ _ _ _ _ hw (fun hw => ?_) (fun hw => ?_)
    · refine pm_steps 7 ?_
      refine @wp_X5_runOut_ok _ _ _ _ (@wp_X5_runOut_mono _ _ _ _ (fun r113 h112 hw => ?_) hw)
      refine pm_steps 3 ?_
      refine @pm_we _ _ _ _ _ _ hw (fun hw => ?_) (fun hw => ?_)
      · exact pm_steps 2 hw
      · refine @pm_we _ _ _ _ _ _ hw (fun hw => ?_) (fun hw => ?_)
        · exact pm_steps 4 hw
        · refine @pm_we _ _ _ _ _ _ hw (fun hw => ?_) (fun hw => ?_)
          · exact pm_steps 4 hw
          · exact pm_steps 4 hw
    · refine pm_steps 6 ?_
      refine @wp_X5_runOut_ok _ _ _ _ (@wp_X5_runOut_mono _ _ _ _ (fun r128 h127 hw => ?_) hw)
      refine pm_steps 3 ?_
      refine @pm_we _ _ _ _ _ _ hw (fun hw => ?_) (fun hw => ?_)
      · exact pm_steps 2 hw
      · refine @pm_we _ _ _ _ _ _ hw (fun hw => ?_) (fun hw => ?_)
        · exact pm_steps 4 hw
        · refine @pm_we _ _ _ _ _ _ hw (fun hw => ?_) (fun hw => ?_)
          · exact pm_steps 4 hw
          · exact pm_steps 4 hw
/-! StairLines.on(II)I -/
set_option maxRecDepth 16384 in
def wp_X6_on (l1 : Int32) (l2 : Int32) (h : pm_H) (Q : Int32 → pm_H → Prop) : Prop := wp_X6_isStep l1 h (fun r130 h129 => pm_eq r130 0 (Q (-2) h129) (wp_X6_between l2 0 400 h129 (fun r132 h131 => pm_eq r132 0 (Q (-2) h131) (wp_X6_beginTrial  h131 (fun h133 => wp_X5_runOut l2 h133 (fun r135 h134 => pm_ib (pm_in l1 10) (Q (h134 23 l1.toNatClampNeg) h134)))))))
set_option maxRecDepth 16384 in
theorem wp_X6_on_mono {l1 : Int32} {l2 : Int32} {h : pm_H} {Q Q' : Int32 → pm_H → Prop} (hQ : ∀ r h, Q r h → Q' r h) : wp_X6_on l1 l2 h Q → wp_X6_on l1 l2 h Q' := by unfold wp_X6_on; exact (@wp_X6_isStep_mono _ _ _ _ (fun _ _ => (@pm_eq_mono _ _ _ _ _ _ (hQ _ _) (@wp_X6_between_mono _ _ _ _ _ _ (fun _ _ => (@pm_eq_mono _ _ _ _ _ _ (hQ _ _) (@wp_X6_beginTrial_mono _ _ _ (fun _ => (@wp_X5_runOut_mono _ _ _ _ (fun _ _ => (@pm_ib_mono _ _ _ (hQ _ _))))))))))))
set_option maxRecDepth 16384 in
theorem wp_X6_on_ok {d : Nat} {l1 : Int32} {l2 : Int32} {h : pm_H} {Q : Option Value → pm_H → Prop} (hw : wp_X6_on l1 l2 h (fun r h => Q (some (.int r)) h)) : pm_R (d + 6) mt_X6_on 0 [some (.ref 0), some (.int l1), some (.int l2)] [] h Q := by
  unfold wp_X6_on at hw
  refine pm_steps 2 ?_
  refine @wp_X6_isStep_ok _ _ _ _ (@wp_X6_isStep_mono _ _ _ _ (fun r130 h129 hw => ?_) hw)
  refine pm_steps 1 ?_
  refine @pm_we _ _ _ _ _ _ hw (fun hw => ?_) (fun hw => ?_)
  · exact pm_steps 2 hw
  · refine pm_steps 4 ?_
    refine @wp_X6_between_ok _ _ _ _ _ _ (@wp_X6_between_mono _ _ _ _ _ _ (fun r132 h131 hw => ?_) hw)
    refine pm_steps 1 ?_
    refine @pm_we _ _ _ _ _ _ hw (fun hw => ?_) (fun hw => ?_)
    · exact pm_steps 2 hw
    · refine pm_steps 2 ?_
      refine @wp_X6_beginTrial_ok _ _ _ (@wp_X6_beginTrial_mono _ _ _ (fun h133 hw => ?_) hw)
      refine pm_steps 4 ?_
      refine @wp_X5_runOut_ok _ _ _ _ (@wp_X5_runOut_mono _ _ _ _ (fun r135 h134 hw => ?_) hw)
      refine pm_steps 7 ?_
      refine @pm_wc _ _ _ hw (fun hw => ?_)
      exact pm_steps 1 hw
/-! StairLines.holdsUp()I -/
set_option maxRecDepth 16384 in
def wl_X6_holdsUp_22  (K57 : Int32 → pm_H → Prop) (Q : Int32 → pm_H → Prop) : Nat → Int32 → Int32 → Int32 → pm_H → Prop
  | 0, _, _, _, _ => False
  | n + 1, l1, l2, l3, h => pm_lt l3 0 (K57 l2 h) (pm_ib (pm_in l3 10) (pm_lt l1 (h 29 l3.toNatClampNeg) (pm_ib (pm_in l3 10) (wl_X6_holdsUp_22 K57 Q n (h 29 l3.toNatClampNeg) l3 (pm_op (l3 + (-1))) h)) (wl_X6_holdsUp_22 K57 Q n l1 l2 (pm_op (l3 + (-1))) h)))
set_option maxRecDepth 16384 in
theorem wl_X6_holdsUp_22_mono  {K57 K57' : Int32 → pm_H → Prop}  {Q Q' : Int32 → pm_H → Prop}  (mK57 : ∀ x2 h, K57 x2 h → K57' x2 h) (hQ : ∀ r h, Q r h → Q' r h) : ∀ (n : Nat) (l1 : Int32) (l2 : Int32) (l3 : Int32) (h : pm_H), wl_X6_holdsUp_22 K57 Q n l1 l2 l3 h → wl_X6_holdsUp_22 K57' Q' n l1 l2 l3 h
  | 0, _, _, _, _ => id
  | n + 1, l1, l2, l3, h => by unfold wl_X6_holdsUp_22; exact (@pm_lt_mono _ _ _ _ _ _ (mK57 _ _) (@pm_ib_mono _ _ _ (@pm_lt_mono _ _ _ _ _ _ (@pm_ib_mono _ _ _ (wl_X6_holdsUp_22_mono mK57 hQ n _ _ _ _)) (wl_X6_holdsUp_22_mono mK57 hQ n _ _ _ _))))
set_option maxRecDepth 16384 in
theorem wl_X6_holdsUp_22_ok {d : Nat}  {K57 : Int32 → pm_H → Prop} {Q : Option Value → pm_H → Prop} (hK57 : ∀ (x2 : Int32) (h : pm_H), K57 x2 h → pm_R (d + 6) mt_X6_holdsUp 57 [none, none, some (.int x2), none] [] h Q) : ∀ (n : Nat) (l1 : Int32) (l2 : Int32) (l3 : Int32) (h : pm_H), wl_X6_holdsUp_22 K57 (fun r h => Q (some (.int r)) h) n l1 l2 l3 h → pm_R (d + 6) mt_X6_holdsUp 22 [some (.ref 0), some (.int l1), some (.int l2), some (.int l3)] [] h Q
  | 0, _, _, _, _ => fun hw => hw.elim
  | n + 1, l1, l2, l3, h => fun hw => by
    unfold wl_X6_holdsUp_22 at hw
    refine pm_steps 2 ?_
    refine @pm_wl _ _ _ _ _ _ hw (fun hw => ?_) (fun hw => ?_)
    · exact pm_fg (hK57 _ _ hw) ⟨rfl, trivial⟩
    · refine pm_steps 5 ?_
      refine @pm_wc _ _ _ hw (fun hw => ?_)
      refine pm_steps 2 ?_
      refine @pm_wl _ _ _ _ _ _ hw (fun hw => ?_) (fun hw => ?_)
      · refine pm_steps 5 ?_
        refine @pm_wc _ _ _ hw (fun hw => ?_)
        refine pm_steps 5 ?_
        exact pm_fg (wl_X6_holdsUp_22_ok hK57 n _ _ _ _ hw) ⟨rfl, ⟨rfl, ⟨rfl, ⟨rfl, trivial⟩⟩⟩⟩
      · refine pm_steps 2 ?_
        exact pm_fg (wl_X6_holdsUp_22_ok hK57 n _ _ _ _ hw) ⟨rfl, ⟨rfl, ⟨rfl, ⟨rfl, trivial⟩⟩⟩⟩
set_option maxRecDepth 16384 in
def wp_X6_holdsUp  (h : pm_H) (Q : Int32 → pm_H → Prop) : Prop := wp_X6_beginTrial  h (fun h136 => wp_X5_runOut 400 h136 (fun r138 h137 => ∃ n141, wl_X6_holdsUp_22 (fun x140 h139 => Q x140 h139) Q n141 0 (-1) 9 h137))
set_option maxRecDepth 16384 in
theorem wp_X6_holdsUp_mono  {h : pm_H} {Q Q' : Int32 → pm_H → Prop} (hQ : ∀ r h, Q r h → Q' r h) : wp_X6_holdsUp  h Q → wp_X6_holdsUp  h Q' := by unfold wp_X6_holdsUp; exact (@wp_X6_beginTrial_mono _ _ _ (fun _ => (@wp_X5_runOut_mono _ _ _ _ (fun _ _ => (fun z => Exists.elim z (fun n141 z => ⟨n141, wl_X6_holdsUp_22_mono (fun _ _ => (hQ _ _)) hQ n141 _ _ _ _ z⟩))))))
set_option maxRecDepth 16384 in
theorem wp_X6_holdsUp_ok {d : Nat}  {h : pm_H} {Q : Option Value → pm_H → Prop} (hw : wp_X6_holdsUp  h (fun r h => Q (some (.int r)) h)) : pm_R (d + 6) mt_X6_holdsUp 0 [some (.ref 0), none, none, none] [] h Q := by
  unfold wp_X6_holdsUp at hw
  refine pm_steps 2 ?_
  refine @wp_X6_beginTrial_ok _ _ _ (@wp_X6_beginTrial_mono _ _ _ (fun h136 hw => ?_) hw)
  refine pm_steps 4 ?_
  refine @wp_X5_runOut_ok _ _ _ _ (@wp_X5_runOut_mono _ _ _ _ (fun r138 h137 hw => ?_) hw)
  refine pm_steps 7 ?_
  obtain ⟨n141, hw⟩ := hw
  refine pm_fg (wl_X6_holdsUp_22_ok ?_ n141 _ _ _ _ hw) ⟨rfl, ⟨rfl, ⟨rfl, ⟨rfl, trivial⟩⟩⟩⟩
  · intro x140 h139 hw
    exact pm_steps 2 hw
/-! StairLines.widen()I -/
set_option maxRecDepth 16384 in
def wl_X6_widen_19  (K86 : Int32 → pm_H → Prop) (Q : Int32 → pm_H → Prop) : Nat → Int32 → Int32 → Int32 → pm_H → Prop
  | 0, _, _, _, _ => False
  | n + 1, l1, l2, l3, h => pm_lt l3 10 (pm_ib (pm_in l3 10) (pm_lt (h 3 l3.toNatClampNeg) 9 (wp_X6_beginTrial  h (fun h145 => pm_ib (pm_in l3 10) (pm_ib (pm_in l3 10) (wp_X5_runOut l1 (pm_u h145 22 l3.toNatClampNeg (pm_op ((h145 22 l3.toNatClampNeg) + 1))) (fun r147 h146 => pm_lt r147 l1 (wl_X6_widen_19 K86 Q n r147 l3 (pm_op (l3 + 1)) h146) (wl_X6_widen_19 K86 Q n l1 l2 (pm_op (l3 + 1)) h146)))))) (wl_X6_widen_19 K86 Q n l1 l2 (pm_op (l3 + 1)) h))) (K86 l2 h)
set_option maxRecDepth 16384 in
theorem wl_X6_widen_19_mono  {K86 K86' : Int32 → pm_H → Prop}  {Q Q' : Int32 → pm_H → Prop}  (mK86 : ∀ x2 h, K86 x2 h → K86' x2 h) (hQ : ∀ r h, Q r h → Q' r h) : ∀ (n : Nat) (l1 : Int32) (l2 : Int32) (l3 : Int32) (h : pm_H), wl_X6_widen_19 K86 Q n l1 l2 l3 h → wl_X6_widen_19 K86' Q' n l1 l2 l3 h
  | 0, _, _, _, _ => id
  | n + 1, l1, l2, l3, h => by unfold wl_X6_widen_19; exact (@pm_lt_mono _ _ _ _ _ _ (@pm_ib_mono _ _ _ (@pm_lt_mono _ _ _ _ _ _ (@wp_X6_beginTrial_mono _ _ _ (fun _ => (@pm_ib_mono _ _ _ (@pm_ib_mono _ _ _ (@wp_X5_runOut_mono _ _ _ _ (fun _ _ => (@pm_lt_mono _ _ _ _ _ _ (wl_X6_widen_19_mono mK86 hQ n _ _ _ _) (wl_X6_widen_19_mono mK86 hQ n _ _ _ _)))))))) (wl_X6_widen_19_mono mK86 hQ n _ _ _ _))) (mK86 _ _))
set_option maxRecDepth 16384 in
theorem wl_X6_widen_19_ok {d : Nat}  {K86 : Int32 → pm_H → Prop} {Q : Option Value → pm_H → Prop} (hK86 : ∀ (x2 : Int32) (h : pm_H), K86 x2 h → pm_R (d + 6) mt_X6_widen 86 [none, none, some (.int x2), none, none] [] h Q) : ∀ (n : Nat) (l1 : Int32) (l2 : Int32) (l3 : Int32) (h : pm_H), wl_X6_widen_19 K86 (fun r h => Q (some (.int r)) h) n l1 l2 l3 h → pm_R (d + 6) mt_X6_widen 19 [some (.ref 0), some (.int l1), some (.int l2), some (.int l3), none] [] h Q
  | 0, _, _, _, _ => fun hw => hw.elim
  | n + 1, l1, l2, l3, h => fun hw => by
    unfold wl_X6_widen_19 at hw
    refine pm_steps 3 ?_
    refine @pm_wl _ _ _ _ _ _ hw (fun hw => ?_) (fun hw => ?_)
    · refine pm_steps 5 ?_
      refine @pm_wc _ _ _ hw (fun hw => ?_)
      refine pm_steps 2 ?_
      refine @pm_wl _ _ _ _ _ _ hw (fun hw => ?_) (fun hw => ?_)
      · refine pm_steps 2 ?_
        refine @wp_X6_beginTrial_ok _ _ _ (@wp_X6_beginTrial_mono _ _ _ (fun h145 hw => ?_) hw)
        refine pm_steps 7 ?_
        refine @pm_wc _ _ _ hw (fun hw => ?_)
        refine pm_steps 3 ?_
        refine @pm_wc _ _ _ hw (fun hw => ?_)
        refine pm_steps 4 ?_
        refine @wp_X5_runOut_ok _ _ _ _ (@wp_X5_runOut_mono _ _ _ _ (fun r147 h146 hw => ?_) hw)
        refine pm_steps 4 ?_
        refine @pm_wl _ _ _ _ _ _ hw (fun hw => ?_) (fun hw => ?_)
        · refine pm_steps 6 ?_
          exact pm_fg (wl_X6_widen_19_ok hK86 n _ _ _ _ hw) ⟨rfl, ⟨rfl, ⟨rfl, ⟨rfl, trivial⟩⟩⟩⟩
        · refine pm_steps 2 ?_
          exact pm_fg (wl_X6_widen_19_ok hK86 n _ _ _ _ hw) ⟨rfl, ⟨rfl, ⟨rfl, ⟨rfl, trivial⟩⟩⟩⟩
      · refine pm_steps 2 ?_
        exact pm_fg (wl_X6_widen_19_ok hK86 n _ _ _ _ hw) ⟨rfl, ⟨rfl, ⟨rfl, ⟨rfl, trivial⟩⟩⟩⟩
    · exact pm_fg (hK86 _ _ hw) ⟨rfl, trivial⟩
set_option maxRecDepth 16384 in
def wp_X6_widen  (h : pm_H) (Q : Int32 → pm_H → Prop) : Prop := wp_X6_beginTrial  h (fun h142 => wp_X5_runOut 400 h142 (fun r144 h143 => ∃ n150, wl_X6_widen_19 (fun x149 h148 => Q x149 h148) Q n150 r144 (-1) 0 h143))
set_option maxRecDepth 16384 in
theorem wp_X6_widen_mono  {h : pm_H} {Q Q' : Int32 → pm_H → Prop} (hQ : ∀ r h, Q r h → Q' r h) : wp_X6_widen  h Q → wp_X6_widen  h Q' := by unfold wp_X6_widen; exact (@wp_X6_beginTrial_mono _ _ _ (fun _ => (@wp_X5_runOut_mono _ _ _ _ (fun _ _ => (fun z => Exists.elim z (fun n150 z => ⟨n150, wl_X6_widen_19_mono (fun _ _ => (hQ _ _)) hQ n150 _ _ _ _ z⟩))))))
set_option maxRecDepth 16384 in
theorem wp_X6_widen_ok {d : Nat}  {h : pm_H} {Q : Option Value → pm_H → Prop} (hw : wp_X6_widen  h (fun r h => Q (some (.int r)) h)) : pm_R (d + 6) mt_X6_widen 0 [some (.ref 0), none, none, none, none] [] h Q := by
  unfold wp_X6_widen at hw
  refine pm_steps 2 ?_
  refine @wp_X6_beginTrial_ok _ _ _ (@wp_X6_beginTrial_mono _ _ _ (fun h142 hw => ?_) hw)
  refine pm_steps 4 ?_
  refine @wp_X5_runOut_ok _ _ _ _ (@wp_X5_runOut_mono _ _ _ _ (fun r144 h143 hw => ?_) hw)
  refine pm_steps 5 ?_
  obtain ⟨n150, hw⟩ := hw
  refine pm_fg (wl_X6_widen_19_ok ?_ n150 _ _ _ _ hw) ⟨rfl, ⟨rfl, ⟨rfl, ⟨rfl, trivial⟩⟩⟩⟩
  · intro x149 h148 hw
    exact pm_steps 2 hw
/-! StairLines.later()I -/
set_option maxRecDepth 16384 in
def wl_X6_later_27  (K110 : Int32 → pm_H → Prop) (Q : Int32 → pm_H → Prop) : Nat → Int32 → Int32 → Int32 → pm_H → Prop
  | 0, _, _, _, _ => False
  | n + 1, l1, l2, l3, h => pm_lt l3 (h 1 8) (wp_X6_beginTrial  h (fun h154 => pm_ib (pm_in l3 5) (pm_ib (pm_in l3 5) (wp_X5_runOut 400 (pm_u h154 26 l3.toNatClampNeg (pm_op (pm_min 199 (pm_op ((h154 7 l3.toNatClampNeg) + 20))))) (fun r156 h155 => pm_lt (h155 19 2) l1 (wl_X6_later_27 K110 Q n (h155 19 2) l3 (pm_op (l3 + 1)) h155) (wl_X6_later_27 K110 Q n l1 l2 (pm_op (l3 + 1)) h155)))))) (K110 l2 h)
set_option maxRecDepth 16384 in
theorem wl_X6_later_27_mono  {K110 K110' : Int32 → pm_H → Prop}  {Q Q' : Int32 → pm_H → Prop}  (mK110 : ∀ x2 h, K110 x2 h → K110' x2 h) (hQ : ∀ r h, Q r h → Q' r h) : ∀ (n : Nat) (l1 : Int32) (l2 : Int32) (l3 : Int32) (h : pm_H), wl_X6_later_27 K110 Q n l1 l2 l3 h → wl_X6_later_27 K110' Q' n l1 l2 l3 h
  | 0, _, _, _, _ => id
  | n + 1, l1, l2, l3, h => by unfold wl_X6_later_27; exact (@pm_lt_mono _ _ _ _ _ _ (@wp_X6_beginTrial_mono _ _ _ (fun _ => (@pm_ib_mono _ _ _ (@pm_ib_mono _ _ _ (@wp_X5_runOut_mono _ _ _ _ (fun _ _ => (@pm_lt_mono _ _ _ _ _ _ (wl_X6_later_27_mono mK110 hQ n _ _ _ _) (wl_X6_later_27_mono mK110 hQ n _ _ _ _)))))))) (mK110 _ _))
set_option maxRecDepth 16384 in
theorem wl_X6_later_27_ok {d : Nat}  {K110 : Int32 → pm_H → Prop} {Q : Option Value → pm_H → Prop} (hK110 : ∀ (x2 : Int32) (h : pm_H), K110 x2 h → pm_R (d + 6) mt_X6_later 110 [none, none, some (.int x2), none] [] h Q) : ∀ (n : Nat) (l1 : Int32) (l2 : Int32) (l3 : Int32) (h : pm_H), wl_X6_later_27 K110 (fun r h => Q (some (.int r)) h) n l1 l2 l3 h → pm_R (d + 6) mt_X6_later 27 [some (.ref 0), some (.int l1), some (.int l2), some (.int l3)] [] h Q
  | 0, _, _, _, _ => fun hw => hw.elim
  | n + 1, l1, l2, l3, h => fun hw => by
    unfold wl_X6_later_27 at hw
    refine pm_steps 5 ?_
    refine @pm_wl _ _ _ _ _ _ hw (fun hw => ?_) (fun hw => ?_)
    · refine pm_steps 2 ?_
      refine @wp_X6_beginTrial_ok _ _ _ (@wp_X6_beginTrial_mono _ _ _ (fun h154 hw => ?_) hw)
      refine pm_steps 11 ?_
      refine @pm_wc _ _ _ hw (fun hw => ?_)
      refine pm_steps 4 ?_
      refine @pm_wc _ _ _ hw (fun hw => ?_)
      refine pm_steps 4 ?_
      refine @wp_X5_runOut_ok _ _ _ _ (@wp_X5_runOut_mono _ _ _ _ (fun r156 h155 hw => ?_) hw)
      refine pm_steps 6 ?_
      refine @pm_wl _ _ _ _ _ _ hw (fun hw => ?_) (fun hw => ?_)
      · refine pm_steps 8 ?_
        exact pm_fg (wl_X6_later_27_ok hK110 n _ _ _ _ hw) ⟨rfl, ⟨rfl, ⟨rfl, ⟨rfl, trivial⟩⟩⟩⟩
      · refine pm_steps 2 ?_
        exact pm_fg (wl_X6_later_27_ok hK110 n _ _ _ _ hw) ⟨rfl, ⟨rfl, ⟨rfl, ⟨rfl, trivial⟩⟩⟩⟩
    · exact pm_fg (hK110 _ _ hw) ⟨rfl, trivial⟩
set_option maxRecDepth 16384 in
def wp_X6_later  (h : pm_H) (Q : Int32 → pm_H → Prop) : Prop := wp_X6_beginTrial  h (fun h151 => wp_X5_runOut 400 h151 (fun r153 h152 => ∃ n159, wl_X6_later_27 (fun x158 h157 => Q x158 h157) Q n159 (h152 19 2) (-1) 0 h152))
set_option maxRecDepth 16384 in
theorem wp_X6_later_mono  {h : pm_H} {Q Q' : Int32 → pm_H → Prop} (hQ : ∀ r h, Q r h → Q' r h) : wp_X6_later  h Q → wp_X6_later  h Q' := by unfold wp_X6_later; exact (@wp_X6_beginTrial_mono _ _ _ (fun _ => (@wp_X5_runOut_mono _ _ _ _ (fun _ _ => (fun z => Exists.elim z (fun n159 z => ⟨n159, wl_X6_later_27_mono (fun _ _ => (hQ _ _)) hQ n159 _ _ _ _ z⟩))))))
set_option maxRecDepth 16384 in
theorem wp_X6_later_ok {d : Nat}  {h : pm_H} {Q : Option Value → pm_H → Prop} (hw : wp_X6_later  h (fun r h => Q (some (.int r)) h)) : pm_R (d + 6) mt_X6_later 0 [some (.ref 0), none, none, none] [] h Q := by
  unfold wp_X6_later at hw
  refine pm_steps 2 ?_
  refine @wp_X6_beginTrial_ok _ _ _ (@wp_X6_beginTrial_mono _ _ _ (fun h151 hw => ?_) hw)
  refine pm_steps 4 ?_
  refine @wp_X5_runOut_ok _ _ _ _ (@wp_X5_runOut_mono _ _ _ _ (fun r153 h152 hw => ?_) hw)
  refine pm_steps 9 ?_
  obtain ⟨n159, hw⟩ := hw
  refine pm_fg (wl_X6_later_27_ok ?_ n159 _ _ _ _ hw) ⟨rfl, ⟨rfl, ⟨rfl, ⟨rfl, trivial⟩⟩⟩⟩
  · intro x158 h157 hw
    exact pm_steps 2 hw
/-! StairLines.beginTrialApart(I)V -/
set_option maxRecDepth 16384 in
def wl_X6_beginTrialApart_6 (l1 : Int32) (K44 : pm_H → Prop) (Q : pm_H → Prop) : Nat → Int32 → pm_H → Prop
  | 0, _, _ => False
  | n + 1, l2, h => pm_lt l2 (h 1 8) (pm_ib (pm_in l2 5) (wl_X6_beginTrialApart_6 l1 K44 Q n (pm_op (l2 + 1)) (pm_u h 26 l2.toNatClampNeg (pm_op (pm_min 199 (pm_op (l2 * l1))))))) (K44  h)
set_option maxRecDepth 16384 in
theorem wl_X6_beginTrialApart_6_mono {l1 : Int32} {K44 K44' : pm_H → Prop}  {Q Q' : pm_H → Prop}  (mK44 : ∀  h, K44  h → K44'  h) (hQ : ∀ h, Q h → Q' h) : ∀ (n : Nat) (l2 : Int32) (h : pm_H), wl_X6_beginTrialApart_6 l1 K44 Q n l2 h → wl_X6_beginTrialApart_6 l1 K44' Q' n l2 h
  | 0, _, _ => id
  | n + 1, l2, h => by unfold wl_X6_beginTrialApart_6; exact (@pm_lt_mono _ _ _ _ _ _ (@pm_ib_mono _ _ _ (wl_X6_beginTrialApart_6_mono mK44 hQ n _ _)) (mK44  _))
set_option maxRecDepth 16384 in
theorem wl_X6_beginTrialApart_6_ok {d : Nat} {l1 : Int32} {K44 : pm_H → Prop} {Q : Option Value → pm_H → Prop} (hK44 : ∀  (h : pm_H), K44  h → pm_R (d + 3) mt_X6_beginTrialApart 44 [none, none, none] [] h Q) : ∀ (n : Nat) (l2 : Int32) (h : pm_H), wl_X6_beginTrialApart_6 l1 K44 (fun h => Q none h) n l2 h → pm_R (d + 3) mt_X6_beginTrialApart 6 [some (.ref 0), some (.int l1), some (.int l2)] [] h Q
  | 0, _, _ => fun hw => hw.elim
  | n + 1, l2, h => fun hw => by
    unfold wl_X6_beginTrialApart_6 at hw
    refine pm_steps 5 ?_
    refine @pm_wl _ _ _ _ _ _ hw (fun hw => ?_) (fun hw => ?_)
    · refine pm_steps 11 ?_
      refine @pm_wc _ _ _ hw (fun hw => ?_)
      refine pm_steps 2 ?_
      exact pm_fg (wl_X6_beginTrialApart_6_ok hK44 n _ _ hw) ⟨rfl, ⟨rfl, ⟨rfl, trivial⟩⟩⟩
    · exact pm_fg (hK44  _ hw) trivial
set_option maxRecDepth 16384 in
def wp_X6_beginTrialApart (l1 : Int32) (h : pm_H) (Q : pm_H → Prop) : Prop := wp_X6_beginTrial  h (fun h165 => ∃ n167, wl_X6_beginTrialApart_6 l1 (fun  h166 => Q h166) Q n167 0 h165)
set_option maxRecDepth 16384 in
theorem wp_X6_beginTrialApart_mono {l1 : Int32} {h : pm_H} {Q Q' : pm_H → Prop} (hQ : ∀ h, Q h → Q' h) : wp_X6_beginTrialApart l1 h Q → wp_X6_beginTrialApart l1 h Q' := by unfold wp_X6_beginTrialApart; exact (@wp_X6_beginTrial_mono _ _ _ (fun _ => (fun z => Exists.elim z (fun n167 z => ⟨n167, wl_X6_beginTrialApart_6_mono (fun  _ => (hQ _)) hQ n167 _ _ z⟩))))
set_option maxRecDepth 16384 in
theorem wp_X6_beginTrialApart_ok {d : Nat} {l1 : Int32} {h : pm_H} {Q : Option Value → pm_H → Prop} (hw : wp_X6_beginTrialApart l1 h (fun h => Q none h)) : pm_R (d + 3) mt_X6_beginTrialApart 0 [some (.ref 0), some (.int l1), none] [] h Q := by
  unfold wp_X6_beginTrialApart at hw
  refine pm_steps 2 ?_
  refine @wp_X6_beginTrial_ok _ _ _ (@wp_X6_beginTrial_mono _ _ _ (fun h165 hw => ?_) hw)
  refine pm_steps 2 ?_
  obtain ⟨n167, hw⟩ := hw
  refine pm_fg (wl_X6_beginTrialApart_6_ok ?_ n167 _ _ hw) ⟨rfl, ⟨rfl, ⟨rfl, trivial⟩⟩⟩
  · intro  h166 hw
    exact pm_steps 1 hw
/-! StairLines.soonestApart()I -/
set_option maxRecDepth 16384 in
def wl_X6_soonestApart_8  (K52 : Int32 → pm_H → Prop) (Q : Int32 → pm_H → Prop) : Nat → Int32 → Int32 → Int32 → pm_H → Prop
  | 0, _, _, _, _ => False
  | n + 1, l1, l2, l3, h => pm_lt 30 l3 (K52 l2 h) (wp_X6_beginTrialApart l3 h (fun h162 => wp_X5_runOut (pm_op (pm_min 400 l1)) h162 (fun r164 h163 => pm_lt r164 l1 (wl_X6_soonestApart_8 K52 Q n r164 l3 (pm_op (l3 + 1)) h163) (wl_X6_soonestApart_8 K52 Q n l1 l2 (pm_op (l3 + 1)) h163))))
set_option maxRecDepth 16384 in
theorem wl_X6_soonestApart_8_mono  {K52 K52' : Int32 → pm_H → Prop}  {Q Q' : Int32 → pm_H → Prop}  (mK52 : ∀ x2 h, K52 x2 h → K52' x2 h) (hQ : ∀ r h, Q r h → Q' r h) : ∀ (n : Nat) (l1 : Int32) (l2 : Int32) (l3 : Int32) (h : pm_H), wl_X6_soonestApart_8 K52 Q n l1 l2 l3 h → wl_X6_soonestApart_8 K52' Q' n l1 l2 l3 h
  | 0, _, _, _, _ => id
  | n + 1, l1, l2, l3, h => by unfold wl_X6_soonestApart_8; exact (@pm_lt_mono _ _ _ _ _ _ (mK52 _ _) (@wp_X6_beginTrialApart_mono _ _ _ _ (fun _ => (@wp_X5_runOut_mono _ _ _ _ (fun _ _ => (@pm_lt_mono _ _ _ _ _ _ (wl_X6_soonestApart_8_mono mK52 hQ n _ _ _ _) (wl_X6_soonestApart_8_mono mK52 hQ n _ _ _ _)))))))
set_option maxRecDepth 16384 in
theorem wl_X6_soonestApart_8_ok {d : Nat}  {K52 : Int32 → pm_H → Prop} {Q : Option Value → pm_H → Prop} (hK52 : ∀ (x2 : Int32) (h : pm_H), K52 x2 h → pm_R (d + 6) mt_X6_soonestApart 52 [none, none, some (.int x2), none, none] [] h Q) : ∀ (n : Nat) (l1 : Int32) (l2 : Int32) (l3 : Int32) (h : pm_H), wl_X6_soonestApart_8 K52 (fun r h => Q (some (.int r)) h) n l1 l2 l3 h → pm_R (d + 6) mt_X6_soonestApart 8 [some (.ref 0), some (.int l1), some (.int l2), some (.int l3), none] [] h Q
  | 0, _, _, _, _ => fun hw => hw.elim
  | n + 1, l1, l2, l3, h => fun hw => by
    unfold wl_X6_soonestApart_8 at hw
    refine pm_steps 3 ?_
    refine @pm_wl _ _ _ _ _ _ hw (fun hw => ?_) (fun hw => ?_)
    · exact pm_fg (hK52 _ _ hw) ⟨rfl, trivial⟩
    · refine pm_steps 3 ?_
      refine @wp_X6_beginTrialApart_ok _ _ _ _ (@wp_X6_beginTrialApart_mono _ _ _ _ (fun h162 hw => ?_) hw)
      refine pm_steps 6 ?_
      refine @wp_X5_runOut_ok _ _ _ _ (@wp_X5_runOut_mono _ _ _ _ (fun r164 h163 hw => ?_) hw)
      refine pm_steps 4 ?_
      refine @pm_wl _ _ _ _ _ _ hw (fun hw => ?_) (fun hw => ?_)
      · refine pm_steps 6 ?_
        exact pm_fg (wl_X6_soonestApart_8_ok hK52 n _ _ _ _ hw) ⟨rfl, ⟨rfl, ⟨rfl, ⟨rfl, trivial⟩⟩⟩⟩
      · refine pm_steps 2 ?_
        exact pm_fg (wl_X6_soonestApart_8_ok hK52 n _ _ _ _ hw) ⟨rfl, ⟨rfl, ⟨rfl, ⟨rfl, trivial⟩⟩⟩⟩
set_option maxRecDepth 16384 in
def wp_X6_soonestApart  (h : pm_H) (Q : Int32 → pm_H → Prop) : Prop := ∃ n170, wl_X6_soonestApart_8 (fun x169 h168 => Q x169 h168) Q n170 401 (-1) 0 h
set_option maxRecDepth 16384 in
theorem wp_X6_soonestApart_mono  {h : pm_H} {Q Q' : Int32 → pm_H → Prop} (hQ : ∀ r h, Q r h → Q' r h) : wp_X6_soonestApart  h Q → wp_X6_soonestApart  h Q' := by unfold wp_X6_soonestApart; exact (fun z => Exists.elim z (fun n170 z => ⟨n170, wl_X6_soonestApart_8_mono (fun _ _ => (hQ _ _)) hQ n170 _ _ _ _ z⟩))
set_option maxRecDepth 16384 in
theorem wp_X6_soonestApart_ok {d : Nat}  {h : pm_H} {Q : Option Value → pm_H → Prop} (hw : wp_X6_soonestApart  h (fun r h => Q (some (.int r)) h)) : pm_R (d + 6) mt_X6_soonestApart 0 [some (.ref 0), none, none, none, none] [] h Q := by
  unfold wp_X6_soonestApart at hw
  refine pm_steps 6 ?_
  obtain ⟨n170, hw⟩ := hw
  refine pm_fg (wl_X6_soonestApart_8_ok ?_ n170 _ _ _ _ hw) ⟨rfl, ⟨rfl, ⟨rfl, ⟨rfl, trivial⟩⟩⟩⟩
  · intro x169 h168 hw
    exact pm_steps 2 hw
/-! StairLines.leastApart()I -/
set_option maxRecDepth 16384 in
def wl_X6_leastApart_15 (l1 : Int32) (K59 : pm_H → Prop) (Q : Int32 → pm_H → Prop) : Nat → Int32 → pm_H → Prop
  | 0, _, _ => False
  | n + 1, l2, h => pm_lt l2 400 (pm_eq (h 19 2) 0 (wp_X3_isAllOut_r20  h (fun r175 h174 => pm_eq r175 0 (wp_X5_passTick (-1) h174 (fun h176 => wl_X6_leastApart_15 l1 K59 Q n (pm_op (l2 + 1)) h176)) (K59  h174))) (K59  h)) (K59  h)
set_option maxRecDepth 16384 in
theorem wl_X6_leastApart_15_mono {l1 : Int32} {K59 K59' : pm_H → Prop}  {Q Q' : Int32 → pm_H → Prop}  (mK59 : ∀  h, K59  h → K59'  h) (hQ : ∀ r h, Q r h → Q' r h) : ∀ (n : Nat) (l2 : Int32) (h : pm_H), wl_X6_leastApart_15 l1 K59 Q n l2 h → wl_X6_leastApart_15 l1 K59' Q' n l2 h
  | 0, _, _ => id
  | n + 1, l2, h => by unfold wl_X6_leastApart_15; exact (@pm_lt_mono _ _ _ _ _ _ (@pm_eq_mono _ _ _ _ _ _ (@wp_X3_isAllOut_r20_mono _ _ _ (fun _ _ => (@pm_eq_mono _ _ _ _ _ _ (@wp_X5_passTick_mono _ _ _ _ (fun _ => (wl_X6_leastApart_15_mono mK59 hQ n _ _))) (mK59  _)))) (mK59  _)) (mK59  _))
set_option maxRecDepth 16384 in
theorem wl_X6_leastApart_15_ok {d : Nat} {l1 : Int32} {K59 : pm_H → Prop} {Q : Option Value → pm_H → Prop} (hK59 : ∀  (h : pm_H), K59  h → pm_R (d + 5) mt_X6_leastApart 59 [some (.ref 0), some (.int l1), none] [] h Q) : ∀ (n : Nat) (l2 : Int32) (h : pm_H), wl_X6_leastApart_15 l1 K59 (fun r h => Q (some (.int r)) h) n l2 h → pm_R (d + 5) mt_X6_leastApart 15 [some (.ref 0), some (.int l1), some (.int l2)] [] h Q
  | 0, _, _ => fun hw => hw.elim
  | n + 1, l2, h => fun hw => by
    unfold wl_X6_leastApart_15 at hw
    refine pm_steps 3 ?_
    refine @pm_wl _ _ _ _ _ _ hw (fun hw => ?_) (fun hw => ?_)
    · refine pm_steps 4 ?_
      refine @pm_we _ _ _ _ _ _ hw (fun hw => ?_) (fun hw => ?_)
      · refine pm_steps 4 ?_
        refine @wp_X3_isAllOut_r20_ok _ _ _ (@wp_X3_isAllOut_r20_mono _ _ _ (fun r175 h174 hw => ?_) hw)
        refine pm_steps 1 ?_
        refine @pm_we _ _ _ _ _ _ hw (fun hw => ?_) (fun hw => ?_)
        · refine pm_steps 4 ?_
          refine @wp_X5_passTick_ok _ _ _ _ (@wp_X5_passTick_mono _ _ _ _ (fun h176 hw => ?_) hw)
          refine pm_steps 2 ?_
          exact pm_fg (wl_X6_leastApart_15_ok hK59 n _ _ hw) ⟨rfl, ⟨rfl, ⟨rfl, trivial⟩⟩⟩
        · exact pm_fg (hK59  _ hw) ⟨rfl, ⟨rfl, trivial⟩⟩
      · exact pm_fg (hK59  _ hw) ⟨rfl, ⟨rfl, trivial⟩⟩
    · exact pm_fg (hK59  _ hw) ⟨rfl, ⟨rfl, trivial⟩⟩
set_option maxRecDepth 16384 in
def wl_X6_leastApart_2  (K69 : Int32 → pm_H → Prop) (K77 : pm_H → Prop) (Q : Int32 → pm_H → Prop) : Nat → Int32 → pm_H → Prop
  | 0, _, _ => False
  | n + 1, l1, h => pm_lt 30 l1 (K77  h) (wp_X6_beginTrialApart l1 h (fun h173 => ∃ n178, wl_X6_leastApart_15 l1 (fun  h177 => pm_eq (h177 19 2) 0 (K69 l1 h177) (wl_X6_leastApart_2 K69 K77 Q n (pm_op (l1 + 1)) h177)) Q n178 0 h173))
set_option maxRecDepth 16384 in
theorem wl_X6_leastApart_2_mono  {K69 K69' : Int32 → pm_H → Prop} {K77 K77' : pm_H → Prop}  {Q Q' : Int32 → pm_H → Prop}  (mK69 : ∀ x1 h, K69 x1 h → K69' x1 h) (mK77 : ∀  h, K77  h → K77'  h) (hQ : ∀ r h, Q r h → Q' r h) : ∀ (n : Nat) (l1 : Int32) (h : pm_H), wl_X6_leastApart_2 K69 K77 Q n l1 h → wl_X6_leastApart_2 K69' K77' Q' n l1 h
  | 0, _, _ => id
  | n + 1, l1, h => by unfold wl_X6_leastApart_2; exact (@pm_lt_mono _ _ _ _ _ _ (mK77  _) (@wp_X6_beginTrialApart_mono _ _ _ _ (fun _ => (fun z => Exists.elim z (fun n178 z => ⟨n178, wl_X6_leastApart_15_mono (fun  _ => (@pm_eq_mono _ _ _ _ _ _ (mK69 _ _) (wl_X6_leastApart_2_mono mK69 mK77 hQ n _ _))) hQ n178 _ _ z⟩)))))
set_option maxRecDepth 16384 in
theorem wl_X6_leastApart_2_ok {d : Nat}  {K69 : Int32 → pm_H → Prop} {K77 : pm_H → Prop} {Q : Option Value → pm_H → Prop} (hK69 : ∀ (x1 : Int32) (h : pm_H), K69 x1 h → pm_R (d + 5) mt_X6_leastApart 69 [none, some (.int x1), none] [] h Q) (hK77 : ∀  (h : pm_H), K77  h → pm_R (d + 5) mt_X6_leastApart 77 [none, none, none] [] h Q) : ∀ (n : Nat) (l1 : Int32) (h : pm_H), wl_X6_leastApart_2 K69 K77 (fun r h => Q (some (.int r)) h) n l1 h → pm_R (d + 5) mt_X6_leastApart 2 [some (.ref 0), some (.int l1), none] [] h Q
  | 0, _, _ => fun hw => hw.elim
  | n + 1, l1, h => fun hw => by
    unfold wl_X6_leastApart_2 at hw
    refine pm_steps 3 ?_
    refine @pm_wl _ _ _ _ _ _ hw (fun hw => ?_) (fun hw => ?_)
    · exact pm_fg (hK77  _ hw) trivial
    · refine pm_steps 3 ?_
      refine @wp_X6_beginTrialApart_ok _ _ _ _ (@wp_X6_beginTrialApart_mono _ _ _ _ (fun h173 hw => ?_) hw)
      refine pm_steps 2 ?_
      obtain ⟨n178, hw⟩ := hw
      refine pm_fg (wl_X6_leastApart_15_ok ?_ n178 _ _ hw) ⟨rfl, ⟨rfl, ⟨rfl, trivial⟩⟩⟩
      · intro  h177 hw
        refine pm_steps 4 ?_
        refine @pm_we _ _ _ _ _ _ hw (fun hw => ?_) (fun hw => ?_)
        · exact pm_fg (hK69 _ _ hw) ⟨rfl, trivial⟩
        · refine pm_steps 2 ?_
          exact pm_fg (wl_X6_leastApart_2_ok hK69 hK77 n _ _ hw) ⟨rfl, ⟨rfl, trivial⟩⟩
set_option maxRecDepth 16384 in
def wp_X6_leastApart  (h : pm_H) (Q : Int32 → pm_H → Prop) : Prop := ∃ n182, wl_X6_leastApart_2 (fun x180 h179 => Q x180 h179) (fun  h181 => Q (-1) h181) Q n182 0 h
set_option maxRecDepth 16384 in
theorem wp_X6_leastApart_mono  {h : pm_H} {Q Q' : Int32 → pm_H → Prop} (hQ : ∀ r h, Q r h → Q' r h) : wp_X6_leastApart  h Q → wp_X6_leastApart  h Q' := by unfold wp_X6_leastApart; exact (fun z => Exists.elim z (fun n182 z => ⟨n182, wl_X6_leastApart_2_mono (fun _ _ => (hQ _ _)) (fun  _ => (hQ _ _)) hQ n182 _ _ z⟩))
set_option maxRecDepth 16384 in
theorem wp_X6_leastApart_ok {d : Nat}  {h : pm_H} {Q : Option Value → pm_H → Prop} (hw : wp_X6_leastApart  h (fun r h => Q (some (.int r)) h)) : pm_R (d + 5) mt_X6_leastApart 0 [some (.ref 0), none, none] [] h Q := by
  unfold wp_X6_leastApart at hw
  refine pm_steps 2 ?_
  obtain ⟨n182, hw⟩ := hw
  refine pm_fg (wl_X6_leastApart_2_ok ?_ ?_ n182 _ _ hw) ⟨rfl, ⟨rfl, trivial⟩⟩
  · intro x180 h179 hw
    exact pm_steps 2 hw
  · intro  h181 hw
    exact pm_steps 2 hw
/-! StairLines.apart(I)I -/
set_option maxRecDepth 16384 in
def wp_X6_apart (l1 : Int32) (h : pm_H) (Q : Int32 → pm_H → Prop) : Prop := pm_eq l1 0 (wp_X6_leastApart  h (fun r172 h171 => Q r172 h171)) (pm_eq l1 1 (wp_X6_soonestApart  h (fun r161 h160 => Q r161 h160)) (Q (-2) h))
set_option maxRecDepth 16384 in
theorem wp_X6_apart_mono {l1 : Int32} {h : pm_H} {Q Q' : Int32 → pm_H → Prop} (hQ : ∀ r h, Q r h → Q' r h) : wp_X6_apart l1 h Q → wp_X6_apart l1 h Q' := by unfold wp_X6_apart; exact (@pm_eq_mono _ _ _ _ _ _ (@wp_X6_leastApart_mono _ _ _ (fun _ _ => (hQ _ _))) (@pm_eq_mono _ _ _ _ _ _ (@wp_X6_soonestApart_mono _ _ _ (fun _ _ => (hQ _ _))) (hQ _ _)))
set_option maxRecDepth 16384 in
theorem wp_X6_apart_ok {d : Nat} {l1 : Int32} {h : pm_H} {Q : Option Value → pm_H → Prop} (hw : wp_X6_apart l1 h (fun r h => Q (some (.int r)) h)) : pm_R (d + 7) mt_X6_apart 0 [some (.ref 0), some (.int l1)] [] h Q := by
  unfold wp_X6_apart at hw
  refine pm_steps 2 ?_
  refine @pm_we _ _ _ _ _ _ hw (fun hw => ?_) (fun hw => ?_)
  · refine pm_steps 2 ?_
    refine @wp_X6_leastApart_ok _ _ _ (@wp_X6_leastApart_mono _ _ _ (fun r172 h171 hw => ?_) hw)
    exact pm_steps 1 hw
  · refine @pm_we _ _ _ _ _ _ hw (fun hw => ?_) (fun hw => ?_)
    · refine pm_steps 2 ?_
      refine @wp_X6_soonestApart_ok _ _ _ (@wp_X6_soonestApart_mono _ _ _ (fun r161 h160 hw => ?_) hw)
      exact pm_steps 1 hw
    · exact pm_steps 2 hw
/-! StairLines.swapBells(II)V -/
set_option maxRecDepth 16384 in
def wp_X6_swapBells (l1 : Int32) (l2 : Int32) (h : pm_H) (Q : pm_H → Prop) : Prop := pm_ib (pm_in l1 5) (pm_ib (pm_in l2 5) (pm_ib (pm_in l1 5) (pm_ib (pm_in l2 5) (Q (pm_u (pm_u h 38 l1.toNatClampNeg (h 38 l2.toNatClampNeg)) 38 l2.toNatClampNeg (h 38 l1.toNatClampNeg))))))
set_option maxRecDepth 16384 in
theorem wp_X6_swapBells_mono {l1 : Int32} {l2 : Int32} {h : pm_H} {Q Q' : pm_H → Prop} (hQ : ∀ h, Q h → Q' h) : wp_X6_swapBells l1 l2 h Q → wp_X6_swapBells l1 l2 h Q' := by unfold wp_X6_swapBells; exact (@pm_ib_mono _ _ _ (@pm_ib_mono _ _ _ (@pm_ib_mono _ _ _ (@pm_ib_mono _ _ _ (hQ _)))))
set_option maxRecDepth 16384 in
theorem wp_X6_swapBells_ok {d : Nat} {l1 : Int32} {l2 : Int32} {h : pm_H} {Q : Option Value → pm_H → Prop} (hw : wp_X6_swapBells l1 l2 h (fun h => Q none h)) : pm_R (d + 0) mt_X6_swapBells 0 [some (.ref 0), some (.int l1), some (.int l2), none] [] h Q := by
  unfold wp_X6_swapBells at hw
  refine pm_steps 4 ?_
  refine @pm_wc _ _ _ hw (fun hw => ?_)
  refine pm_steps 8 ?_
  refine @pm_wc _ _ _ hw (fun hw => ?_)
  refine pm_steps 1 ?_
  refine @pm_wc _ _ _ hw (fun hw => ?_)
  refine pm_steps 5 ?_
  refine @pm_wc _ _ _ hw (fun hw => ?_)
  exact pm_steps 1 hw
/-! StairLines.nextBellRow()Z -/
set_option maxRecDepth 16384 in
def wl_X6_nextBellRow_14 (l1 : Int32) (K41 : Int32 → pm_H → Prop) (Q : Int32 → pm_H → Prop) : Nat → Int32 → pm_H → Prop
  | 0, _, _ => False
  | n + 1, l2, h => pm_lt l2 0 (K41 l2 h) (pm_ib (pm_in l2 5) (pm_ib (pm_in (pm_op (l2 + 1)) 5) (pm_lt (h 38 (pm_op (l2 + 1)).toNatClampNeg) (h 38 l2.toNatClampNeg) (wl_X6_nextBellRow_14 l1 K41 Q n (pm_op (l2 + (-1))) h) (K41 l2 h))))
set_option maxRecDepth 16384 in
theorem wl_X6_nextBellRow_14_mono {l1 : Int32} {K41 K41' : Int32 → pm_H → Prop}  {Q Q' : Int32 → pm_H → Prop}  (mK41 : ∀ x2 h, K41 x2 h → K41' x2 h) (hQ : ∀ r h, Q r h → Q' r h) : ∀ (n : Nat) (l2 : Int32) (h : pm_H), wl_X6_nextBellRow_14 l1 K41 Q n l2 h → wl_X6_nextBellRow_14 l1 K41' Q' n l2 h
  | 0, _, _ => id
  | n + 1, l2, h => by unfold wl_X6_nextBellRow_14; exact (@pm_lt_mono _ _ _ _ _ _ (mK41 _ _) (@pm_ib_mono _ _ _ (@pm_ib_mono _ _ _ (@pm_lt_mono _ _ _ _ _ _ (wl_X6_nextBellRow_14_mono mK41 hQ n _ _) (mK41 _ _)))))
set_option maxRecDepth 16384 in
theorem wl_X6_nextBellRow_14_ok {d : Nat} {l1 : Int32} {K41 : Int32 → pm_H → Prop} {Q : Option Value → pm_H → Prop} (hK41 : ∀ (x2 : Int32) (h : pm_H), K41 x2 h → pm_R (d + 1) mt_X6_nextBellRow 41 [some (.ref 0), some (.int l1), some (.int x2), none, none, none] [] h Q) : ∀ (n : Nat) (l2 : Int32) (h : pm_H), wl_X6_nextBellRow_14 l1 K41 (fun r h => Q (some (.int r)) h) n l2 h → pm_R (d + 1) mt_X6_nextBellRow 14 [some (.ref 0), some (.int l1), some (.int l2), none, none, none] [] h Q
  | 0, _, _ => fun hw => hw.elim
  | n + 1, l2, h => fun hw => by
    unfold wl_X6_nextBellRow_14 at hw
    refine pm_steps 2 ?_
    refine @pm_wl _ _ _ _ _ _ hw (fun hw => ?_) (fun hw => ?_)
    · exact pm_fg (hK41 _ _ hw) ⟨rfl, ⟨rfl, ⟨rfl, trivial⟩⟩⟩
    · refine pm_steps 4 ?_
      refine @pm_wc _ _ _ hw (fun hw => ?_)
      refine pm_steps 6 ?_
      refine @pm_wc _ _ _ hw (fun hw => ?_)
      refine pm_steps 1 ?_
      refine @pm_wl _ _ _ _ _ _ hw (fun hw => ?_) (fun hw => ?_)
      · refine pm_steps 2 ?_
        exact pm_fg (wl_X6_nextBellRow_14_ok hK41 n _ _ hw) ⟨rfl, ⟨rfl, ⟨rfl, trivial⟩⟩⟩
      · exact pm_fg (hK41 _ _ hw) ⟨rfl, ⟨rfl, ⟨rfl, trivial⟩⟩⟩
set_option maxRecDepth 16384 in
def wl_X6_nextBellRow_49 (l1 : Int32) (l2 : Int32) (K77 : Int32 → pm_H → Prop) (Q : Int32 → pm_H → Prop) : Nat → Int32 → pm_H → Prop
  | 0, _, _ => False
  | n + 1, l3, h => pm_lt (pm_op (l2 + 1)) l3 (pm_ib (pm_in l3 5) (pm_ib (pm_in l2 5) (pm_lt (h 38 l3.toNatClampNeg) (h 38 l2.toNatClampNeg) (wl_X6_nextBellRow_49 l1 l2 K77 Q n (pm_op (l3 + (-1))) h) (K77 l3 h)))) (K77 l3 h)
set_option maxRecDepth 16384 in
theorem wl_X6_nextBellRow_49_mono {l1 : Int32} {l2 : Int32} {K77 K77' : Int32 → pm_H → Prop}  {Q Q' : Int32 → pm_H → Prop}  (mK77 : ∀ x3 h, K77 x3 h → K77' x3 h) (hQ : ∀ r h, Q r h → Q' r h) : ∀ (n : Nat) (l3 : Int32) (h : pm_H), wl_X6_nextBellRow_49 l1 l2 K77 Q n l3 h → wl_X6_nextBellRow_49 l1 l2 K77' Q' n l3 h
  | 0, _, _ => id
  | n + 1, l3, h => by unfold wl_X6_nextBellRow_49; exact (@pm_lt_mono _ _ _ _ _ _ (@pm_ib_mono _ _ _ (@pm_ib_mono _ _ _ (@pm_lt_mono _ _ _ _ _ _ (wl_X6_nextBellRow_49_mono mK77 hQ n _ _) (mK77 _ _)))) (mK77 _ _))
set_option maxRecDepth 16384 in
theorem wl_X6_nextBellRow_49_ok {d : Nat} {l1 : Int32} {l2 : Int32} {K77 : Int32 → pm_H → Prop} {Q : Option Value → pm_H → Prop} (hK77 : ∀ (x3 : Int32) (h : pm_H), K77 x3 h → pm_R (d + 1) mt_X6_nextBellRow 77 [some (.ref 0), some (.int l1), some (.int l2), some (.int x3), none, none] [] h Q) : ∀ (n : Nat) (l3 : Int32) (h : pm_H), wl_X6_nextBellRow_49 l1 l2 K77 (fun r h => Q (some (.int r)) h) n l3 h → pm_R (d + 1) mt_X6_nextBellRow 49 [some (.ref 0), some (.int l1), some (.int l2), some (.int l3), none, none] [] h Q
  | 0, _, _ => fun hw => hw.elim
  | n + 1, l3, h => fun hw => by
    unfold wl_X6_nextBellRow_49 at hw
    refine pm_steps 5 ?_
    refine @pm_wl _ _ _ _ _ _ hw (fun hw => ?_) (fun hw => ?_)
    · refine pm_steps 4 ?_
      refine @pm_wc _ _ _ hw (fun hw => ?_)
      refine pm_steps 4 ?_
      refine @pm_wc _ _ _ hw (fun hw => ?_)
      refine pm_steps 1 ?_
      refine @pm_wl _ _ _ _ _ _ hw (fun hw => ?_) (fun hw => ?_)
      · refine pm_steps 2 ?_
        exact pm_fg (wl_X6_nextBellRow_49_ok hK77 n _ _ hw) ⟨rfl, ⟨rfl, ⟨rfl, ⟨rfl, trivial⟩⟩⟩⟩
      · exact pm_fg (hK77 _ _ hw) ⟨rfl, ⟨rfl, ⟨rfl, ⟨rfl, trivial⟩⟩⟩⟩
    · exact pm_fg (hK77 _ _ hw) ⟨rfl, ⟨rfl, ⟨rfl, ⟨rfl, trivial⟩⟩⟩⟩
set_option maxRecDepth 16384 in
def wl_X6_nextBellRow_91  (K115 : pm_H → Prop) (Q : Int32 → pm_H → Prop) : Nat → Int32 → Int32 → pm_H → Prop
  | 0, _, _, _ => False
  | n + 1, l4, l5, h => pm_lt l4 l5 (wp_X6_swapBells l4 l5 h (fun h196 => wl_X6_nextBellRow_91 K115 Q n (pm_op (l4 + 1)) (pm_op (l5 + (-1))) h196)) (K115  h)
set_option maxRecDepth 16384 in
theorem wl_X6_nextBellRow_91_mono  {K115 K115' : pm_H → Prop}  {Q Q' : Int32 → pm_H → Prop}  (mK115 : ∀  h, K115  h → K115'  h) (hQ : ∀ r h, Q r h → Q' r h) : ∀ (n : Nat) (l4 : Int32) (l5 : Int32) (h : pm_H), wl_X6_nextBellRow_91 K115 Q n l4 l5 h → wl_X6_nextBellRow_91 K115' Q' n l4 l5 h
  | 0, _, _, _ => id
  | n + 1, l4, l5, h => by unfold wl_X6_nextBellRow_91; exact (@pm_lt_mono _ _ _ _ _ _ (@wp_X6_swapBells_mono _ _ _ _ _ (fun _ => (wl_X6_nextBellRow_91_mono mK115 hQ n _ _ _))) (mK115  _))
set_option maxRecDepth 16384 in
theorem wl_X6_nextBellRow_91_ok {d : Nat}  {K115 : pm_H → Prop} {Q : Option Value → pm_H → Prop} (hK115 : ∀  (h : pm_H), K115  h → pm_R (d + 1) mt_X6_nextBellRow 115 [none, none, none, none, none, none] [] h Q) : ∀ (n : Nat) (l4 : Int32) (l5 : Int32) (h : pm_H), wl_X6_nextBellRow_91 K115 (fun r h => Q (some (.int r)) h) n l4 l5 h → pm_R (d + 1) mt_X6_nextBellRow 91 [some (.ref 0), none, none, none, some (.int l4), some (.int l5)] [] h Q
  | 0, _, _, _ => fun hw => hw.elim
  | n + 1, l4, l5, h => fun hw => by
    unfold wl_X6_nextBellRow_91 at hw
    refine pm_steps 3 ?_
    refine @pm_wl _ _ _ _ _ _ hw (fun hw => ?_) (fun hw => ?_)
    · refine pm_steps 4 ?_
      refine @wp_X6_swapBells_ok _ _ _ _ _ (@wp_X6_swapBells_mono _ _ _ _ _ (fun h196 hw => ?_) hw)
      refine pm_steps 3 ?_
      exact pm_fg (wl_X6_nextBellRow_91_ok hK115 n _ _ _ hw) ⟨rfl, ⟨rfl, ⟨rfl, trivial⟩⟩⟩
    · exact pm_fg (hK115  _ hw) trivial
set_option maxRecDepth 16384 in
def wp_X6_nextBellRow  (h : pm_H) (Q : Int32 → pm_H → Prop) : Prop := ∃ n200, wl_X6_nextBellRow_14 (pm_op ((h 1 8) - 1)) (fun x192 h191 => pm_lt x192 0 (Q 0 h191) (∃ n199, wl_X6_nextBellRow_49 (pm_op ((h 1 8) - 1)) x192 (fun x194 h193 => wp_X6_swapBells x192 x194 h193 (fun h195 => ∃ n198, wl_X6_nextBellRow_91 (fun  h197 => Q 1 h197) Q n198 (pm_op (x192 + 1)) (pm_op ((h 1 8) - 1)) h195)) Q n199 (pm_op ((h 1 8) - 1)) h191)) Q n200 (pm_op ((pm_op ((h 1 8) - 1)) - 1)) h
set_option maxRecDepth 16384 in
theorem wp_X6_nextBellRow_mono  {h : pm_H} {Q Q' : Int32 → pm_H → Prop} (hQ : ∀ r h, Q r h → Q' r h) : wp_X6_nextBellRow  h Q → wp_X6_nextBellRow  h Q' := by unfold wp_X6_nextBellRow; exact (fun z => Exists.elim z (fun n200 z => ⟨n200, wl_X6_nextBellRow_14_mono (fun _ _ => (@pm_lt_mono _ _ _ _ _ _ (hQ _ _) (fun z => Exists.elim z (fun n199 z => ⟨n199, wl_X6_nextBellRow_49_mono (fun _ _ => (@wp_X6_swapBells_mono _ _ _ _ _ (fun _ => (fun z => Exists.elim z (fun n198 z => ⟨n198, wl_X6_nextBellRow_91_mono (fun  _ => (hQ _ _)) hQ n198 _ _ _ z⟩))))) hQ n199 _ _ z⟩)))) hQ n200 _ _ z⟩))
set_option maxRecDepth 16384 in
theorem wp_X6_nextBellRow_ok {d : Nat}  {h : pm_H} {Q : Option Value → pm_H → Prop} (hw : wp_X6_nextBellRow  h (fun r h => Q (some (.int r)) h)) : pm_R (d + 1) mt_X6_nextBellRow 0 [some (.ref 0), none, none, none, none, none] [] h Q := by
  unfold wp_X6_nextBellRow at hw
  refine pm_steps 10 ?_
  obtain ⟨n200, hw⟩ := hw
  refine pm_fg (wl_X6_nextBellRow_14_ok ?_ n200 _ _ hw) ⟨rfl, ⟨rfl, ⟨rfl, trivial⟩⟩⟩
  · intro x192 h191 hw
    refine pm_steps 2 ?_
    refine @pm_wl _ _ _ _ _ _ hw (fun hw => ?_) (fun hw => ?_)
    · exact pm_steps 2 hw
    · refine pm_steps 2 ?_
      obtain ⟨n199, hw⟩ := hw
      refine pm_fg (wl_X6_nextBellRow_49_ok ?_ n199 _ _ hw) ⟨rfl, ⟨rfl, ⟨rfl, ⟨rfl, trivial⟩⟩⟩⟩
      · intro x194 h193 hw
        refine pm_steps 4 ?_
        refine @wp_X6_swapBells_ok _ _ _ _ _ (@wp_X6_swapBells_mono _ _ _ _ _ (fun h195 hw => ?_) hw)
        refine pm_steps 6 ?_
        obtain ⟨n198, hw⟩ := hw
        refine pm_fg (wl_X6_nextBellRow_91_ok ?_ n198 _ _ _ hw) ⟨rfl, ⟨rfl, ⟨rfl, trivial⟩⟩⟩
        · intro  h197 hw
          exact pm_steps 2 hw
/-! StairLines.beginTrialInOrder()V -/
set_option maxRecDepth 16384 in
def wl_X6_beginTrialInOrder_6  (K49 : pm_H → Prop) (Q : pm_H → Prop) : Nat → Int32 → pm_H → Prop
  | 0, _, _ => False
  | n + 1, l1, h => pm_lt l1 (h 1 8) (pm_ib (pm_in l1 5) (pm_ib (pm_in (h 38 l1.toNatClampNeg) 5) (pm_ib (pm_in l1 5) (wl_X6_beginTrialInOrder_6 K49 Q n (pm_op (l1 + 1)) (pm_u h 26 l1.toNatClampNeg (h 7 (h 38 l1.toNatClampNeg).toNatClampNeg)))))) (K49  h)
set_option maxRecDepth 16384 in
theorem wl_X6_beginTrialInOrder_6_mono  {K49 K49' : pm_H → Prop}  {Q Q' : pm_H → Prop}  (mK49 : ∀  h, K49  h → K49'  h) (hQ : ∀ h, Q h → Q' h) : ∀ (n : Nat) (l1 : Int32) (h : pm_H), wl_X6_beginTrialInOrder_6 K49 Q n l1 h → wl_X6_beginTrialInOrder_6 K49' Q' n l1 h
  | 0, _, _ => id
  | n + 1, l1, h => by unfold wl_X6_beginTrialInOrder_6; exact (@pm_lt_mono _ _ _ _ _ _ (@pm_ib_mono _ _ _ (@pm_ib_mono _ _ _ (@pm_ib_mono _ _ _ (wl_X6_beginTrialInOrder_6_mono mK49 hQ n _ _)))) (mK49  _))
set_option maxRecDepth 16384 in
theorem wl_X6_beginTrialInOrder_6_ok {d : Nat}  {K49 : pm_H → Prop} {Q : Option Value → pm_H → Prop} (hK49 : ∀  (h : pm_H), K49  h → pm_R (d + 3) mt_X6_beginTrialInOrder 49 [none, none] [] h Q) : ∀ (n : Nat) (l1 : Int32) (h : pm_H), wl_X6_beginTrialInOrder_6 K49 (fun h => Q none h) n l1 h → pm_R (d + 3) mt_X6_beginTrialInOrder 6 [some (.ref 0), some (.int l1)] [] h Q
  | 0, _, _ => fun hw => hw.elim
  | n + 1, l1, h => fun hw => by
    unfold wl_X6_beginTrialInOrder_6 at hw
    refine pm_steps 5 ?_
    refine @pm_wl _ _ _ _ _ _ hw (fun hw => ?_) (fun hw => ?_)
    · refine pm_steps 12 ?_
      refine @pm_wc _ _ _ hw (fun hw => ?_)
      refine pm_steps 1 ?_
      refine @pm_wc _ _ _ hw (fun hw => ?_)
      refine pm_steps 1 ?_
      refine @pm_wc _ _ _ hw (fun hw => ?_)
      refine pm_steps 2 ?_
      exact pm_fg (wl_X6_beginTrialInOrder_6_ok hK49 n _ _ hw) ⟨rfl, ⟨rfl, trivial⟩⟩
    · exact pm_fg (hK49  _ hw) trivial
set_option maxRecDepth 16384 in
def wp_X6_beginTrialInOrder  (h : pm_H) (Q : pm_H → Prop) : Prop := wp_X6_beginTrial  h (fun h207 => ∃ n209, wl_X6_beginTrialInOrder_6 (fun  h208 => Q h208) Q n209 0 h207)
set_option maxRecDepth 16384 in
theorem wp_X6_beginTrialInOrder_mono  {h : pm_H} {Q Q' : pm_H → Prop} (hQ : ∀ h, Q h → Q' h) : wp_X6_beginTrialInOrder  h Q → wp_X6_beginTrialInOrder  h Q' := by unfold wp_X6_beginTrialInOrder; exact (@wp_X6_beginTrial_mono _ _ _ (fun _ => (fun z => Exists.elim z (fun n209 z => ⟨n209, wl_X6_beginTrialInOrder_6_mono (fun  _ => (hQ _)) hQ n209 _ _ z⟩))))
set_option maxRecDepth 16384 in
theorem wp_X6_beginTrialInOrder_ok {d : Nat}  {h : pm_H} {Q : Option Value → pm_H → Prop} (hw : wp_X6_beginTrialInOrder  h (fun h => Q none h)) : pm_R (d + 3) mt_X6_beginTrialInOrder 0 [some (.ref 0), none] [] h Q := by
  unfold wp_X6_beginTrialInOrder at hw
  refine pm_steps 2 ?_
  refine @wp_X6_beginTrial_ok _ _ _ (@wp_X6_beginTrial_mono _ _ _ (fun h207 hw => ?_) hw)
  refine pm_steps 2 ?_
  obtain ⟨n209, hw⟩ := hw
  refine pm_fg (wl_X6_beginTrialInOrder_6_ok ?_ n209 _ _ hw) ⟨rfl, ⟨rfl, trivial⟩⟩
  · intro  h208 hw
    exact pm_steps 1 hw
/-! StairLines.ringsAt(I)I -/
set_option maxRecDepth 16384 in
def wp_X6_ringsAt (l1 : Int32) (h : pm_H) (Q : Int32 → pm_H → Prop) : Prop := pm_ib (pm_in l1 5) (Q (pm_op (pm_max (h 1 9) (h 7 l1.toNatClampNeg))) h)
set_option maxRecDepth 16384 in
theorem wp_X6_ringsAt_mono {l1 : Int32} {h : pm_H} {Q Q' : Int32 → pm_H → Prop} (hQ : ∀ r h, Q r h → Q' r h) : wp_X6_ringsAt l1 h Q → wp_X6_ringsAt l1 h Q' := by unfold wp_X6_ringsAt; exact (@pm_ib_mono _ _ _ (hQ _ _))
set_option maxRecDepth 16384 in
theorem wp_X6_ringsAt_ok {d : Nat} {l1 : Int32} {h : pm_H} {Q : Option Value → pm_H → Prop} (hw : wp_X6_ringsAt l1 h (fun r h => Q (some (.int r)) h)) : pm_R (d + 0) mt_X6_ringsAt 0 [some (.ref 0), some (.int l1)] [] h Q := by
  unfold wp_X6_ringsAt at hw
  refine pm_steps 8 ?_
  refine @pm_wc _ _ _ hw (fun hw => ?_)
  exact pm_steps 2 hw
/-! StairLines.isLikeAnEarlierRow()Z -/
set_option maxRecDepth 16384 in
def wl_X6_isLikeAnEarlierRow_15 (l1 : Int32) (K58 : pm_H → Prop) (K66 : pm_H → Prop) (Q : Int32 → pm_H → Prop) : Nat → Int32 → pm_H → Prop
  | 0, _, _ => False
  | n + 1, l2, h => pm_lt l2 l1 (pm_ib (pm_in l2 5) (pm_ib (pm_in l1 5) (pm_lt (h 38 l1.toNatClampNeg) (h 38 l2.toNatClampNeg) (pm_ib (pm_in l2 5) (wp_X6_ringsAt (h 38 l2.toNatClampNeg) h (fun r213 h212 => pm_ib (pm_in l1 5) (wp_X6_ringsAt (h212 38 l1.toNatClampNeg) h212 (fun r215 h214 => pm_eq r213 r215 (K58  h214) (wl_X6_isLikeAnEarlierRow_15 l1 K58 K66 Q n (pm_op (l2 + 1)) h214)))))) (wl_X6_isLikeAnEarlierRow_15 l1 K58 K66 Q n (pm_op (l2 + 1)) h)))) (K66  h)
set_option maxRecDepth 16384 in
theorem wl_X6_isLikeAnEarlierRow_15_mono {l1 : Int32} {K58 K58' : pm_H → Prop} {K66 K66' : pm_H → Prop}  {Q Q' : Int32 → pm_H → Prop}  (mK58 : ∀  h, K58  h → K58'  h) (mK66 : ∀  h, K66  h → K66'  h) (hQ : ∀ r h, Q r h → Q' r h) : ∀ (n : Nat) (l2 : Int32) (h : pm_H), wl_X6_isLikeAnEarlierRow_15 l1 K58 K66 Q n l2 h → wl_X6_isLikeAnEarlierRow_15 l1 K58' K66' Q' n l2 h
  | 0, _, _ => id
  | n + 1, l2, h => by unfold wl_X6_isLikeAnEarlierRow_15; exact (@pm_lt_mono _ _ _ _ _ _ (@pm_ib_mono _ _ _ (@pm_ib_mono _ _ _ (@pm_lt_mono _ _ _ _ _ _ (@pm_ib_mono _ _ _ (@wp_X6_ringsAt_mono _ _ _ _ (fun _ _ => (@pm_ib_mono _ _ _ (@wp_X6_ringsAt_mono _ _ _ _ (fun _ _ => (@pm_eq_mono _ _ _ _ _ _ (mK58  _) (wl_X6_isLikeAnEarlierRow_15_mono mK58 mK66 hQ n _ _)))))))) (wl_X6_isLikeAnEarlierRow_15_mono mK58 mK66 hQ n _ _)))) (mK66  _))
set_option maxRecDepth 16384 in
theorem wl_X6_isLikeAnEarlierRow_15_ok {d : Nat} {l1 : Int32} {K58 : pm_H → Prop} {K66 : pm_H → Prop} {Q : Option Value → pm_H → Prop} (hK58 : ∀  (h : pm_H), K58  h → pm_R (d + 1) mt_X6_isLikeAnEarlierRow 58 [none, none, none] [] h Q) (hK66 : ∀  (h : pm_H), K66  h → pm_R (d + 1) mt_X6_isLikeAnEarlierRow 66 [some (.ref 0), some (.int l1), none] [] h Q) : ∀ (n : Nat) (l2 : Int32) (h : pm_H), wl_X6_isLikeAnEarlierRow_15 l1 K58 K66 (fun r h => Q (some (.int r)) h) n l2 h → pm_R (d + 1) mt_X6_isLikeAnEarlierRow 15 [some (.ref 0), some (.int l1), some (.int l2)] [] h Q
  | 0, _, _ => fun hw => hw.elim
  | n + 1, l2, h => fun hw => by
    unfold wl_X6_isLikeAnEarlierRow_15 at hw
    refine pm_steps 3 ?_
    refine @pm_wl _ _ _ _ _ _ hw (fun hw => ?_) (fun hw => ?_)
    · refine pm_steps 4 ?_
      refine @pm_wc _ _ _ hw (fun hw => ?_)
      refine pm_steps 4 ?_
      refine @pm_wc _ _ _ hw (fun hw => ?_)
      refine pm_steps 1 ?_
      refine @pm_wl _ _ _ _ _ _ hw (fun hw => ?_) (fun hw => ?_)
      · refine pm_steps 5 ?_
        refine @pm_wc _ _ _ hw (fun hw => ?_)
        refine pm_steps 1 ?_
        refine @wp_X6_ringsAt_ok _ _ _ _ (@wp_X6_ringsAt_mono _ _ _ _ (fun r213 h212 hw => ?_) hw)
        refine pm_steps 5 ?_
        refine @pm_wc _ _ _ hw (fun hw => ?_)
        refine pm_steps 1 ?_
        refine @wp_X6_ringsAt_ok _ _ _ _ (@wp_X6_ringsAt_mono _ _ _ _ (fun r215 h214 hw => ?_) hw)
        refine pm_steps 1 ?_
        refine @pm_we _ _ _ _ _ _ hw (fun hw => ?_) (fun hw => ?_)
        · exact pm_fg (hK58  _ hw) trivial
        · refine pm_steps 2 ?_
          exact pm_fg (wl_X6_isLikeAnEarlierRow_15_ok hK58 hK66 n _ _ hw) ⟨rfl, ⟨rfl, ⟨rfl, trivial⟩⟩⟩
      · refine pm_steps 2 ?_
        exact pm_fg (wl_X6_isLikeAnEarlierRow_15_ok hK58 hK66 n _ _ hw) ⟨rfl, ⟨rfl, ⟨rfl, trivial⟩⟩⟩
    · exact pm_fg (hK66  _ hw) ⟨rfl, ⟨rfl, trivial⟩⟩
set_option maxRecDepth 16384 in
def wl_X6_isLikeAnEarlierRow_2  (K58 : pm_H → Prop) (K72 : pm_H → Prop) (Q : Int32 → pm_H → Prop) : Nat → Int32 → pm_H → Prop
  | 0, _, _ => False
  | n + 1, l1, h => pm_lt l1 (h 1 8) (∃ n218, wl_X6_isLikeAnEarlierRow_15 l1 (fun  h216 => K58  h216) (fun  h217 => wl_X6_isLikeAnEarlierRow_2 K58 K72 Q n (pm_op (l1 + 1)) h217) Q n218 0 h) (K72  h)
set_option maxRecDepth 16384 in
theorem wl_X6_isLikeAnEarlierRow_2_mono  {K58 K58' : pm_H → Prop} {K72 K72' : pm_H → Prop}  {Q Q' : Int32 → pm_H → Prop}  (mK58 : ∀  h, K58  h → K58'  h) (mK72 : ∀  h, K72  h → K72'  h) (hQ : ∀ r h, Q r h → Q' r h) : ∀ (n : Nat) (l1 : Int32) (h : pm_H), wl_X6_isLikeAnEarlierRow_2 K58 K72 Q n l1 h → wl_X6_isLikeAnEarlierRow_2 K58' K72' Q' n l1 h
  | 0, _, _ => id
  | n + 1, l1, h => by unfold wl_X6_isLikeAnEarlierRow_2; exact (@pm_lt_mono _ _ _ _ _ _ (fun z => Exists.elim z (fun n218 z => ⟨n218, wl_X6_isLikeAnEarlierRow_15_mono (fun  _ => (mK58  _)) (fun  _ => (wl_X6_isLikeAnEarlierRow_2_mono mK58 mK72 hQ n _ _)) hQ n218 _ _ z⟩)) (mK72  _))
set_option maxRecDepth 16384 in
theorem wl_X6_isLikeAnEarlierRow_2_ok {d : Nat}  {K58 : pm_H → Prop} {K72 : pm_H → Prop} {Q : Option Value → pm_H → Prop} (hK58 : ∀  (h : pm_H), K58  h → pm_R (d + 1) mt_X6_isLikeAnEarlierRow 58 [none, none, none] [] h Q) (hK72 : ∀  (h : pm_H), K72  h → pm_R (d + 1) mt_X6_isLikeAnEarlierRow 72 [none, none, none] [] h Q) : ∀ (n : Nat) (l1 : Int32) (h : pm_H), wl_X6_isLikeAnEarlierRow_2 K58 K72 (fun r h => Q (some (.int r)) h) n l1 h → pm_R (d + 1) mt_X6_isLikeAnEarlierRow 2 [some (.ref 0), some (.int l1), none] [] h Q
  | 0, _, _ => fun hw => hw.elim
  | n + 1, l1, h => fun hw => by
    unfold wl_X6_isLikeAnEarlierRow_2 at hw
    refine pm_steps 5 ?_
    refine @pm_wl _ _ _ _ _ _ hw (fun hw => ?_) (fun hw => ?_)
    · refine pm_steps 2 ?_
      obtain ⟨n218, hw⟩ := hw
      refine pm_fg (wl_X6_isLikeAnEarlierRow_15_ok ?_ ?_ n218 _ _ hw) ⟨rfl, ⟨rfl, ⟨rfl, trivial⟩⟩⟩
      · intro  h216 hw
        exact pm_fg (hK58  _ hw) trivial
      · intro  h217 hw
        refine pm_steps 2 ?_
        exact pm_fg (wl_X6_isLikeAnEarlierRow_2_ok hK58 hK72 n _ _ hw) ⟨rfl, ⟨rfl, trivial⟩⟩
    · exact pm_fg (hK72  _ hw) trivial
set_option maxRecDepth 16384 in
def wp_X6_isLikeAnEarlierRow  (h : pm_H) (Q : Int32 → pm_H → Prop) : Prop := ∃ n221, wl_X6_isLikeAnEarlierRow_2 (fun  h219 => Q 1 h219) (fun  h220 => Q 0 h220) Q n221 1 h
set_option maxRecDepth 16384 in
theorem wp_X6_isLikeAnEarlierRow_mono  {h : pm_H} {Q Q' : Int32 → pm_H → Prop} (hQ : ∀ r h, Q r h → Q' r h) : wp_X6_isLikeAnEarlierRow  h Q → wp_X6_isLikeAnEarlierRow  h Q' := by unfold wp_X6_isLikeAnEarlierRow; exact (fun z => Exists.elim z (fun n221 z => ⟨n221, wl_X6_isLikeAnEarlierRow_2_mono (fun  _ => (hQ _ _)) (fun  _ => (hQ _ _)) hQ n221 _ _ z⟩))
set_option maxRecDepth 16384 in
theorem wp_X6_isLikeAnEarlierRow_ok {d : Nat}  {h : pm_H} {Q : Option Value → pm_H → Prop} (hw : wp_X6_isLikeAnEarlierRow  h (fun r h => Q (some (.int r)) h)) : pm_R (d + 1) mt_X6_isLikeAnEarlierRow 0 [some (.ref 0), none, none] [] h Q := by
  unfold wp_X6_isLikeAnEarlierRow at hw
  refine pm_steps 2 ?_
  obtain ⟨n221, hw⟩ := hw
  refine pm_fg (wl_X6_isLikeAnEarlierRow_2_ok ?_ ?_ n221 _ _ hw) ⟨rfl, ⟨rfl, trivial⟩⟩
  · intro  h219 hw
    exact pm_steps 2 hw
  · intro  h220 hw
    exact pm_steps 2 hw
/-! StairLines.order(I)I -/
set_option maxRecDepth 16384 in
def wl_X6_order_18 (l1 : Int32) (K42 : pm_H → Prop) (Q : Int32 → pm_H → Prop) : Nat → Int32 → pm_H → Prop
  | 0, _, _ => False
  | n + 1, l2, h => pm_lt l2 (h 1 8) (pm_ib (pm_in l2 5) (wl_X6_order_18 l1 K42 Q n (pm_op (l2 + 1)) (pm_u h 38 l2.toNatClampNeg l2))) (K42  h)
set_option maxRecDepth 16384 in
theorem wl_X6_order_18_mono {l1 : Int32} {K42 K42' : pm_H → Prop}  {Q Q' : Int32 → pm_H → Prop}  (mK42 : ∀  h, K42  h → K42'  h) (hQ : ∀ r h, Q r h → Q' r h) : ∀ (n : Nat) (l2 : Int32) (h : pm_H), wl_X6_order_18 l1 K42 Q n l2 h → wl_X6_order_18 l1 K42' Q' n l2 h
  | 0, _, _ => id
  | n + 1, l2, h => by unfold wl_X6_order_18; exact (@pm_lt_mono _ _ _ _ _ _ (@pm_ib_mono _ _ _ (wl_X6_order_18_mono mK42 hQ n _ _)) (mK42  _))
set_option maxRecDepth 16384 in
theorem wl_X6_order_18_ok {d : Nat} {l1 : Int32} {K42 : pm_H → Prop} {Q : Option Value → pm_H → Prop} (hK42 : ∀  (h : pm_H), K42  h → pm_R (d + 6) mt_X6_order 42 [some (.ref 0), some (.int l1), none, none, none, none, none] [] h Q) : ∀ (n : Nat) (l2 : Int32) (h : pm_H), wl_X6_order_18 l1 K42 (fun r h => Q (some (.int r)) h) n l2 h → pm_R (d + 6) mt_X6_order 18 [some (.ref 0), some (.int l1), some (.int l2), none, none, none, none] [] h Q
  | 0, _, _ => fun hw => hw.elim
  | n + 1, l2, h => fun hw => by
    unfold wl_X6_order_18 at hw
    refine pm_steps 5 ?_
    refine @pm_wl _ _ _ _ _ _ hw (fun hw => ?_) (fun hw => ?_)
    · refine pm_steps 5 ?_
      refine @pm_wc _ _ _ hw (fun hw => ?_)
      refine pm_steps 2 ?_
      exact pm_fg (wl_X6_order_18_ok hK42 n _ _ hw) ⟨rfl, ⟨rfl, ⟨rfl, trivial⟩⟩⟩
    · exact pm_fg (hK42  _ hw) ⟨rfl, ⟨rfl, trivial⟩⟩
set_option maxRecDepth 16384 in
def wl_X6_order_54 (l1 : Int32) (K155 : Int32 → pm_H → Prop) (Q : Int32 → pm_H → Prop) : Nat → Int32 → Int32 → Int32 → Int32 → pm_H → Prop
  | 0, _, _, _, _, _ => False
  | n + 1, l2, l3, l4, l5, h => pm_lt l5 120 (pm_eq l4 0 (K155 l2 h) (wp_X6_isLikeAnEarlierRow  h (fun r185 h184 => pm_eq r185 0 (wp_X6_beginTrialInOrder  h184 (fun h186 => wp_X5_runOut (pm_op (pm_min 400 (pm_op (l2 + 1)))) h186 (fun r188 h187 => pm_lt r188 l2 (wp_X6_nextBellRow  (pm_cp h187 38 0 39 0 5) (fun r190 h189 => wl_X6_order_54 l1 K155 Q n r188 (h187 19 2) r190 (pm_op (l5 + 1)) h189)) (pm_eq r188 l2 (pm_lt (h187 19 2) l3 (wp_X6_nextBellRow  (pm_cp h187 38 0 39 0 5) (fun r202 h201 => wl_X6_order_54 l1 K155 Q n r188 (h187 19 2) r202 (pm_op (l5 + 1)) h201)) (wp_X6_nextBellRow  h187 (fun r204 h203 => wl_X6_order_54 l1 K155 Q n l2 l3 r204 (pm_op (l5 + 1)) h203))) (wp_X6_nextBellRow  h187 (fun r206 h205 => wl_X6_order_54 l1 K155 Q n l2 l3 r206 (pm_op (l5 + 1)) h205)))))) (wp_X6_nextBellRow  h184 (fun r211 h210 => wl_X6_order_54 l1 K155 Q n l2 l3 r211 (pm_op (l5 + 1)) h210))))) (K155 l2 h)
set_option maxRecDepth 16384 in
theorem wl_X6_order_54_mono {l1 : Int32} {K155 K155' : Int32 → pm_H → Prop}  {Q Q' : Int32 → pm_H → Prop}  (mK155 : ∀ x2 h, K155 x2 h → K155' x2 h) (hQ : ∀ r h, Q r h → Q' r h) : ∀ (n : Nat) (l2 : Int32) (l3 : Int32) (l4 : Int32) (l5 : Int32) (h : pm_H), wl_X6_order_54 l1 K155 Q n l2 l3 l4 l5 h → wl_X6_order_54 l1 K155' Q' n l2 l3 l4 l5 h
  | 0, _, _, _, _, _ => id
  | n + 1, l2, l3, l4, l5, h => by unfold wl_X6_order_54; exact (@pm_lt_mono _ _ _ _ _ _ (@pm_eq_mono _ _ _ _ _ _ (mK155 _ _) (@wp_X6_isLikeAnEarlierRow_mono _ _ _ (fun _ _ => (@pm_eq_mono _ _ _ _ _ _ (@wp_X6_beginTrialInOrder_mono _ _ _ (fun _ => (@wp_X5_runOut_mono _ _ _ _ (fun _ _ => (@pm_lt_mono _ _ _ _ _ _ (@wp_X6_nextBellRow_mono _ _ _ (fun _ _ => (wl_X6_order_54_mono mK155 hQ n _ _ _ _ _))) (@pm_eq_mono _ _ _ _ _ _ (@pm_lt_mono _ _ _ _ _ _ (@wp_X6_nextBellRow_mono _ _ _ (fun _ _ => (wl_X6_order_54_mono mK155 hQ n _ _ _ _ _))) (@wp_X6_nextBellRow_mono _ _ _ (fun _ _ => (wl_X6_order_54_mono mK155 hQ n _ _ _ _ _)))) (@wp_X6_nextBellRow_mono _ _ _ (fun _ _ => (wl_X6_order_54_mono mK155 hQ n _ _ _ _ _))))))))) (@wp_X6_nextBellRow_mono _ _ _ (fun _ _ => (wl_X6_order_54_mono mK155 hQ n _ _ _ _ _))))))) (mK155 _ _))
set_option maxRecDepth 16384 in
theorem wl_X6_order_54_ok {d : Nat} {l1 : Int32} {K155 : Int32 → pm_H → Prop} {Q : Option Value → pm_H → Prop} (hK155 : ∀ (x2 : Int32) (h : pm_H), K155 x2 h → pm_R (d + 6) mt_X6_order 155 [some (.ref 0), some (.int l1), some (.int x2), none, none, none, none] [] h Q) : ∀ (n : Nat) (l2 : Int32) (l3 : Int32) (l4 : Int32) (l5 : Int32) (h : pm_H), wl_X6_order_54 l1 K155 (fun r h => Q (some (.int r)) h) n l2 l3 l4 l5 h → pm_R (d + 6) mt_X6_order 54 [some (.ref 0), some (.int l1), some (.int l2), some (.int l3), some (.int l4), some (.int l5), none] [] h Q
  | 0, _, _, _, _, _ => fun hw => hw.elim
  | n + 1, l2, l3, l4, l5, h => fun hw => by
    unfold wl_X6_order_54 at hw
    refine pm_steps 3 ?_
    refine @pm_wl _ _ _ _ _ _ hw (fun hw => ?_) (fun hw => ?_)
    · refine pm_steps 2 ?_
      refine @pm_we _ _ _ _ _ _ hw (fun hw => ?_) (fun hw => ?_)
      · exact pm_fg (hK155 _ _ hw) ⟨rfl, ⟨rfl, ⟨rfl, trivial⟩⟩⟩
      · refine pm_steps 2 ?_
        refine @wp_X6_isLikeAnEarlierRow_ok _ _ _ (@wp_X6_isLikeAnEarlierRow_mono _ _ _ (fun r185 h184 hw => ?_) hw)
        refine pm_steps 1 ?_
        refine @pm_we _ _ _ _ _ _ hw (fun hw => ?_) (fun hw => ?_)
        · refine pm_steps 2 ?_
          refine @wp_X6_beginTrialInOrder_ok _ _ _ (@wp_X6_beginTrialInOrder_mono _ _ _ (fun h186 hw => ?_) hw)
          refine pm_steps 8 ?_
          refine @wp_X5_runOut_ok _ _ _ _ (@wp_X5_runOut_mono _ _ _ _ (fun r188 h187 hw => ?_) hw)
          refine pm_steps 4 ?_
          refine @pm_wl _ _ _ _ _ _ hw (fun hw => ?_) (fun hw => ?_)
          · refine pm_steps 16 ?_
            refine @wp_X6_nextBellRow_ok _ _ _ (@wp_X6_nextBellRow_mono _ _ _ (fun r190 h189 hw => ?_) hw)
            refine pm_steps 3 ?_
            exact pm_fg (wl_X6_order_54_ok hK155 n _ _ _ _ _ hw) ⟨rfl, ⟨rfl, ⟨rfl, ⟨rfl, ⟨rfl, ⟨rfl, trivial⟩⟩⟩⟩⟩⟩
          · refine pm_steps 3 ?_
            refine @pm_we _ _ _ _ _ _ hw (fun hw => ?_) (fun hw => ?_)
            · refine pm_steps 5 ?_
              refine @pm_wl _ _ _ _ _ _ hw (fun hw => ?_) (fun hw => ?_)
              · refine pm_steps 16 ?_
                refine @wp_X6_nextBellRow_ok _ _ _ (@wp_X6_nextBellRow_mono _ _ _ (fun r202 h201 hw => ?_) hw)
                refine pm_steps 3 ?_
                exact pm_fg (wl_X6_order_54_ok hK155 n _ _ _ _ _ hw) ⟨rfl, ⟨rfl, ⟨rfl, ⟨rfl, ⟨rfl, ⟨rfl, trivial⟩⟩⟩⟩⟩⟩
              · refine pm_steps 2 ?_
                refine @wp_X6_nextBellRow_ok _ _ _ (@wp_X6_nextBellRow_mono _ _ _ (fun r204 h203 hw => ?_) hw)
                refine pm_steps 3 ?_
                exact pm_fg (wl_X6_order_54_ok hK155 n _ _ _ _ _ hw) ⟨rfl, ⟨rfl, ⟨rfl, ⟨rfl, ⟨rfl, ⟨rfl, trivial⟩⟩⟩⟩⟩⟩
            · refine pm_steps 2 ?_
              refine @wp_X6_nextBellRow_ok _ _ _ (@wp_X6_nextBellRow_mono _ _ _ (fun r206 h205 hw => ?_) hw)
              refine pm_steps 3 ?_
              exact pm_fg (wl_X6_order_54_ok hK155 n _ _ _ _ _ hw) ⟨rfl, ⟨rfl, ⟨rfl, ⟨rfl, ⟨rfl, ⟨rfl, trivial⟩⟩⟩⟩⟩⟩
        · refine pm_steps 2 ?_
          refine @wp_X6_nextBellRow_ok _ _ _ (@wp_X6_nextBellRow_mono _ _ _ (fun r211 h210 hw => ?_) hw)
          refine pm_steps 3 ?_
          exact pm_fg (wl_X6_order_54_ok hK155 n _ _ _ _ _ hw) ⟨rfl, ⟨rfl, ⟨rfl, ⟨rfl, ⟨rfl, ⟨rfl, trivial⟩⟩⟩⟩⟩⟩
    · exact pm_fg (hK155 _ _ hw) ⟨rfl, ⟨rfl, ⟨rfl, trivial⟩⟩⟩
set_option maxRecDepth 16384 in
def wp_X6_order (l1 : Int32) (h : pm_H) (Q : Int32 → pm_H → Prop) : Prop := pm_eq l1 (-1) (∃ n225, wl_X6_order_18 l1 (fun  h183 => ∃ n224, wl_X6_order_54 l1 (fun x223 h222 => pm_eq l1 (-1) (Q x223 h222) (pm_ib (pm_in l1 5) (Q (h222 39 l1.toNatClampNeg) h222))) Q n224 401 0 1 0 h183) Q n225 0 h) (wp_X6_isClass l1 h (fun r227 h226 => pm_eq r227 0 (Q (-2) h226) (∃ n232, wl_X6_order_18 l1 (fun  h228 => ∃ n231, wl_X6_order_54 l1 (fun x230 h229 => pm_eq l1 (-1) (Q x230 h229) (pm_ib (pm_in l1 5) (Q (h229 39 l1.toNatClampNeg) h229))) Q n231 401 0 1 0 h228) Q n232 0 h226)))
set_option maxRecDepth 16384 in
theorem wp_X6_order_mono {l1 : Int32} {h : pm_H} {Q Q' : Int32 → pm_H → Prop} (hQ : ∀ r h, Q r h → Q' r h) : wp_X6_order l1 h Q → wp_X6_order l1 h Q' := by unfold wp_X6_order; exact (@pm_eq_mono _ _ _ _ _ _ (fun z => Exists.elim z (fun n225 z => ⟨n225, wl_X6_order_18_mono (fun  _ => (fun z => Exists.elim z (fun n224 z => ⟨n224, wl_X6_order_54_mono (fun _ _ => (@pm_eq_mono _ _ _ _ _ _ (hQ _ _) (@pm_ib_mono _ _ _ (hQ _ _)))) hQ n224 _ _ _ _ _ z⟩))) hQ n225 _ _ z⟩)) (@wp_X6_isClass_mono _ _ _ _ (fun _ _ => (@pm_eq_mono _ _ _ _ _ _ (hQ _ _) (fun z => Exists.elim z (fun n232 z => ⟨n232, wl_X6_order_18_mono (fun  _ => (fun z => Exists.elim z (fun n231 z => ⟨n231, wl_X6_order_54_mono (fun _ _ => (@pm_eq_mono _ _ _ _ _ _ (hQ _ _) (@pm_ib_mono _ _ _ (hQ _ _)))) hQ n231 _ _ _ _ _ z⟩))) hQ n232 _ _ z⟩))))))
set_option maxRecDepth 16384 in
theorem wp_X6_order_ok {d : Nat} {l1 : Int32} {h : pm_H} {Q : Option Value → pm_H → Prop} (hw : wp_X6_order l1 h (fun r h => Q (some (.int r)) h)) : pm_R (d + 6) mt_X6_order 0 [some (.ref 0), some (.int l1), none, none, none, none, none] [] h Q := by
  unfold wp_X6_order at hw
  refine pm_steps 3 ?_
  refine @pm_we _ _ _ _ _ _ hw (fun hw => ?_) (fun hw => ?_)
  · refine pm_steps 2 ?_
    obtain ⟨n225, hw⟩ := hw
    refine pm_fg (wl_X6_order_18_ok ?_ n225 _ _ hw) ⟨rfl, ⟨rfl, ⟨rfl, trivial⟩⟩⟩
    · intro  h183 hw
      refine pm_steps 8 ?_
      obtain ⟨n224, hw⟩ := hw
      refine pm_fg (wl_X6_order_54_ok ?_ n224 _ _ _ _ _ hw) ⟨rfl, ⟨rfl, ⟨rfl, ⟨rfl, ⟨rfl, ⟨rfl, trivial⟩⟩⟩⟩⟩⟩
      · intro x223 h222 hw
        refine pm_steps 3 ?_
        refine @pm_we _ _ _ _ _ _ hw (fun hw => ?_) (fun hw => ?_)
        · exact pm_steps 3 hw
        · refine pm_steps 4 ?_
          refine @pm_wc _ _ _ hw (fun hw => ?_)
          exact pm_steps 1 hw
  · refine pm_steps 3 ?_
    refine @wp_X6_isClass_ok _ _ _ _ (@wp_X6_isClass_mono _ _ _ _ (fun r227 h226 hw => ?_) hw)
    refine pm_steps 1 ?_
    refine @pm_we _ _ _ _ _ _ hw (fun hw => ?_) (fun hw => ?_)
    · exact pm_steps 2 hw
    · refine pm_steps 2 ?_
      obtain ⟨n232, hw⟩ := hw
      refine pm_fg (wl_X6_order_18_ok ?_ n232 _ _ hw) ⟨rfl, ⟨rfl, ⟨rfl, trivial⟩⟩⟩
      · intro  h228 hw
        refine pm_steps 8 ?_
        obtain ⟨n231, hw⟩ := hw
        refine pm_fg (wl_X6_order_54_ok ?_ n231 _ _ _ _ _ hw) ⟨rfl, ⟨rfl, ⟨rfl, ⟨rfl, ⟨rfl, ⟨rfl, trivial⟩⟩⟩⟩⟩⟩
        · intro x230 h229 hw
          refine pm_steps 3 ?_
          refine @pm_we _ _ _ _ _ _ hw (fun hw => ?_) (fun hw => ?_)
          · exact pm_steps 3 hw
          · refine pm_steps 4 ?_
            refine @pm_wc _ _ _ hw (fun hw => ?_)
            exact pm_steps 1 hw
/-! StairLines.shut(II)I -/
set_option maxRecDepth 16384 in
def wl_X6_shut_26 (l1 : Int32) (l2 : Int32) (K69 : Int32 → pm_H → Prop) (Q : Int32 → pm_H → Prop) : Nat → Int32 → pm_H → Prop
  | 0, _, _ => False
  | n + 1, l3, h => pm_lt l3 400 (wp_X3_isAllOut_r20  h (fun r239 h238 => pm_eq r239 0 (pm_lt l3 l2 (wp_X5_passTick l1 h238 (fun h240 => wl_X6_shut_26 l1 l2 K69 Q n (pm_op (l3 + 1)) h240)) (wp_X5_passTick (-1) h238 (fun h241 => wl_X6_shut_26 l1 l2 K69 Q n (pm_op (l3 + 1)) h241))) (K69 l3 h238))) (K69 l3 h)
set_option maxRecDepth 16384 in
theorem wl_X6_shut_26_mono {l1 : Int32} {l2 : Int32} {K69 K69' : Int32 → pm_H → Prop}  {Q Q' : Int32 → pm_H → Prop}  (mK69 : ∀ x3 h, K69 x3 h → K69' x3 h) (hQ : ∀ r h, Q r h → Q' r h) : ∀ (n : Nat) (l3 : Int32) (h : pm_H), wl_X6_shut_26 l1 l2 K69 Q n l3 h → wl_X6_shut_26 l1 l2 K69' Q' n l3 h
  | 0, _, _ => id
  | n + 1, l3, h => by unfold wl_X6_shut_26; exact (@pm_lt_mono _ _ _ _ _ _ (@wp_X3_isAllOut_r20_mono _ _ _ (fun _ _ => (@pm_eq_mono _ _ _ _ _ _ (@pm_lt_mono _ _ _ _ _ _ (@wp_X5_passTick_mono _ _ _ _ (fun _ => (wl_X6_shut_26_mono mK69 hQ n _ _))) (@wp_X5_passTick_mono _ _ _ _ (fun _ => (wl_X6_shut_26_mono mK69 hQ n _ _)))) (mK69 _ _)))) (mK69 _ _))
set_option maxRecDepth 16384 in
theorem wl_X6_shut_26_ok {d : Nat} {l1 : Int32} {l2 : Int32} {K69 : Int32 → pm_H → Prop} {Q : Option Value → pm_H → Prop} (hK69 : ∀ (x3 : Int32) (h : pm_H), K69 x3 h → pm_R (d + 5) mt_X6_shut 69 [none, none, none, some (.int x3)] [] h Q) : ∀ (n : Nat) (l3 : Int32) (h : pm_H), wl_X6_shut_26 l1 l2 K69 (fun r h => Q (some (.int r)) h) n l3 h → pm_R (d + 5) mt_X6_shut 26 [some (.ref 0), some (.int l1), some (.int l2), some (.int l3)] [] h Q
  | 0, _, _ => fun hw => hw.elim
  | n + 1, l3, h => fun hw => by
    unfold wl_X6_shut_26 at hw
    refine pm_steps 3 ?_
    refine @pm_wl _ _ _ _ _ _ hw (fun hw => ?_) (fun hw => ?_)
    · refine pm_steps 4 ?_
      refine @wp_X3_isAllOut_r20_ok _ _ _ (@wp_X3_isAllOut_r20_mono _ _ _ (fun r239 h238 hw => ?_) hw)
      refine pm_steps 1 ?_
      refine @pm_we _ _ _ _ _ _ hw (fun hw => ?_) (fun hw => ?_)
      · refine pm_steps 5 ?_
        refine @pm_wl _ _ _ _ _ _ hw (fun hw => ?_) (fun hw => ?_)
        · refine pm_steps 3 ?_
          refine @wp_X5_passTick_ok _ _ _ _ (@wp_X5_passTick_mono _ _ _ _ (fun h240 hw => ?_) hw)
          refine pm_steps 2 ?_
          exact pm_fg (wl_X6_shut_26_ok hK69 n _ _ hw) ⟨rfl, ⟨rfl, ⟨rfl, ⟨rfl, trivial⟩⟩⟩⟩
        · refine pm_steps 2 ?_
          refine @wp_X5_passTick_ok _ _ _ _ (@wp_X5_passTick_mono _ _ _ _ (fun h241 hw => ?_) hw)
          refine pm_steps 2 ?_
          exact pm_fg (wl_X6_shut_26_ok hK69 n _ _ hw) ⟨rfl, ⟨rfl, ⟨rfl, ⟨rfl, trivial⟩⟩⟩⟩
      · exact pm_fg (hK69 _ _ hw) ⟨rfl, trivial⟩
    · exact pm_fg (hK69 _ _ hw) ⟨rfl, trivial⟩
set_option maxRecDepth 16384 in
def wp_X6_shut (l1 : Int32) (l2 : Int32) (h : pm_H) (Q : Int32 → pm_H → Prop) : Prop := wp_X6_isStep l1 h (fun r234 h233 => pm_eq r234 0 (Q (-2) h233) (wp_X6_between l2 0 100 h233 (fun r236 h235 => pm_eq r236 0 (Q (-2) h235) (wp_X6_beginTrial  h235 (fun h237 => ∃ n244, wl_X6_shut_26 l1 l2 (fun x243 h242 => Q x243 h242) Q n244 0 h237)))))
set_option maxRecDepth 16384 in
theorem wp_X6_shut_mono {l1 : Int32} {l2 : Int32} {h : pm_H} {Q Q' : Int32 → pm_H → Prop} (hQ : ∀ r h, Q r h → Q' r h) : wp_X6_shut l1 l2 h Q → wp_X6_shut l1 l2 h Q' := by unfold wp_X6_shut; exact (@wp_X6_isStep_mono _ _ _ _ (fun _ _ => (@pm_eq_mono _ _ _ _ _ _ (hQ _ _) (@wp_X6_between_mono _ _ _ _ _ _ (fun _ _ => (@pm_eq_mono _ _ _ _ _ _ (hQ _ _) (@wp_X6_beginTrial_mono _ _ _ (fun _ => (fun z => Exists.elim z (fun n244 z => ⟨n244, wl_X6_shut_26_mono (fun _ _ => (hQ _ _)) hQ n244 _ _ z⟩))))))))))
set_option maxRecDepth 16384 in
theorem wp_X6_shut_ok {d : Nat} {l1 : Int32} {l2 : Int32} {h : pm_H} {Q : Option Value → pm_H → Prop} (hw : wp_X6_shut l1 l2 h (fun r h => Q (some (.int r)) h)) : pm_R (d + 5) mt_X6_shut 0 [some (.ref 0), some (.int l1), some (.int l2), none] [] h Q := by
  unfold wp_X6_shut at hw
  refine pm_steps 2 ?_
  refine @wp_X6_isStep_ok _ _ _ _ (@wp_X6_isStep_mono _ _ _ _ (fun r234 h233 hw => ?_) hw)
  refine pm_steps 1 ?_
  refine @pm_we _ _ _ _ _ _ hw (fun hw => ?_) (fun hw => ?_)
  · exact pm_steps 2 hw
  · refine pm_steps 4 ?_
    refine @wp_X6_between_ok _ _ _ _ _ _ (@wp_X6_between_mono _ _ _ _ _ _ (fun r236 h235 hw => ?_) hw)
    refine pm_steps 1 ?_
    refine @pm_we _ _ _ _ _ _ hw (fun hw => ?_) (fun hw => ?_)
    · exact pm_steps 2 hw
    · refine pm_steps 2 ?_
      refine @wp_X6_beginTrial_ok _ _ _ (@wp_X6_beginTrial_mono _ _ _ (fun h237 hw => ?_) hw)
      refine pm_steps 2 ?_
      obtain ⟨n244, hw⟩ := hw
      refine pm_fg (wl_X6_shut_26_ok ?_ n244 _ _ hw) ⟨rfl, ⟨rfl, ⟨rfl, ⟨rfl, trivial⟩⟩⟩⟩
      · intro x243 h242 hw
        exact pm_steps 2 hw
/-! StairLines.drill()I -/
set_option maxRecDepth 16384 in
def wl_X6_drill_6  (K42 : pm_H → Prop) (Q : Int32 → pm_H → Prop) : Nat → Int32 → pm_H → Prop
  | 0, _, _ => False
  | n + 1, l1, h => pm_lt l1 (h 1 8) (pm_ib (pm_in l1 5) (wl_X6_drill_6 K42 Q n (pm_op (l1 + 1)) (pm_u h 26 l1.toNatClampNeg (h 1 9)))) (K42  h)
set_option maxRecDepth 16384 in
theorem wl_X6_drill_6_mono  {K42 K42' : pm_H → Prop}  {Q Q' : Int32 → pm_H → Prop}  (mK42 : ∀  h, K42  h → K42'  h) (hQ : ∀ r h, Q r h → Q' r h) : ∀ (n : Nat) (l1 : Int32) (h : pm_H), wl_X6_drill_6 K42 Q n l1 h → wl_X6_drill_6 K42' Q' n l1 h
  | 0, _, _ => id
  | n + 1, l1, h => by unfold wl_X6_drill_6; exact (@pm_lt_mono _ _ _ _ _ _ (@pm_ib_mono _ _ _ (wl_X6_drill_6_mono mK42 hQ n _ _)) (mK42  _))
set_option maxRecDepth 16384 in
theorem wl_X6_drill_6_ok {d : Nat}  {K42 : pm_H → Prop} {Q : Option Value → pm_H → Prop} (hK42 : ∀  (h : pm_H), K42  h → pm_R (d + 6) mt_X6_drill 42 [some (.ref 0), none] [] h Q) : ∀ (n : Nat) (l1 : Int32) (h : pm_H), wl_X6_drill_6 K42 (fun r h => Q (some (.int r)) h) n l1 h → pm_R (d + 6) mt_X6_drill 6 [some (.ref 0), some (.int l1)] [] h Q
  | 0, _, _ => fun hw => hw.elim
  | n + 1, l1, h => fun hw => by
    unfold wl_X6_drill_6 at hw
    refine pm_steps 5 ?_
    refine @pm_wl _ _ _ _ _ _ hw (fun hw => ?_) (fun hw => ?_)
    · refine pm_steps 9 ?_
      refine @pm_wc _ _ _ hw (fun hw => ?_)
      refine pm_steps 2 ?_
      exact pm_fg (wl_X6_drill_6_ok hK42 n _ _ hw) ⟨rfl, ⟨rfl, trivial⟩⟩
    · exact pm_fg (hK42  _ hw) ⟨rfl, trivial⟩
set_option maxRecDepth 16384 in
def wp_X6_drill  (h : pm_H) (Q : Int32 → pm_H → Prop) : Prop := wp_X6_beginTrial  h (fun h245 => ∃ n249, wl_X6_drill_6 (fun  h246 => wp_X5_runOut 400 h246 (fun r248 h247 => Q r248 h247)) Q n249 0 h245)
set_option maxRecDepth 16384 in
theorem wp_X6_drill_mono  {h : pm_H} {Q Q' : Int32 → pm_H → Prop} (hQ : ∀ r h, Q r h → Q' r h) : wp_X6_drill  h Q → wp_X6_drill  h Q' := by unfold wp_X6_drill; exact (@wp_X6_beginTrial_mono _ _ _ (fun _ => (fun z => Exists.elim z (fun n249 z => ⟨n249, wl_X6_drill_6_mono (fun  _ => (@wp_X5_runOut_mono _ _ _ _ (fun _ _ => (hQ _ _)))) hQ n249 _ _ z⟩))))
set_option maxRecDepth 16384 in
theorem wp_X6_drill_ok {d : Nat}  {h : pm_H} {Q : Option Value → pm_H → Prop} (hw : wp_X6_drill  h (fun r h => Q (some (.int r)) h)) : pm_R (d + 6) mt_X6_drill 0 [some (.ref 0), none] [] h Q := by
  unfold wp_X6_drill at hw
  refine pm_steps 2 ?_
  refine @wp_X6_beginTrial_ok _ _ _ (@wp_X6_beginTrial_mono _ _ _ (fun h245 hw => ?_) hw)
  refine pm_steps 2 ?_
  obtain ⟨n249, hw⟩ := hw
  refine pm_fg (wl_X6_drill_6_ok ?_ n249 _ _ hw) ⟨rfl, ⟨rfl, trivial⟩⟩
  · intro  h246 hw
    refine pm_steps 4 ?_
    refine @wp_X5_runOut_ok _ _ _ _ (@wp_X5_runOut_mono _ _ _ _ (fun r248 h247 hw => ?_) hw)
    exact pm_steps 1 hw
/-! StairLines$Sheet.isMissing()Z -/
set_option maxRecDepth 16384 in
def wp_X2_isMissing (l0 : Nat) (h : pm_H) (Q : Int32 → pm_H → Prop) : Prop := pm_ib (pm_at 2 l0 2) (pm_eq (h l0 1) (-1) (Q 1 h) (Q 0 h))
set_option maxRecDepth 16384 in
theorem wp_X2_isMissing_mono {l0 : Nat} {h : pm_H} {Q Q' : Int32 → pm_H → Prop} (hQ : ∀ r h, Q r h → Q' r h) : wp_X2_isMissing l0 h Q → wp_X2_isMissing l0 h Q' := by unfold wp_X2_isMissing; exact (@pm_ib_mono _ _ _ (@pm_eq_mono _ _ _ _ _ _ (hQ _ _) (hQ _ _)))
set_option maxRecDepth 16384 in
theorem wp_X2_isMissing_ok {d : Nat} {l0 : Nat} {h : pm_H} {Q : Option Value → pm_H → Prop} (hw : wp_X2_isMissing l0 h (fun r h => Q (some (.int r)) h)) : pm_R (d + 0) mt_X2_isMissing 0 [some (.ref l0)] [] h Q := by
  unfold wp_X2_isMissing at hw
  refine pm_steps 2 ?_
  refine @pm_wc _ _ _ hw (fun hw => ?_)
  refine pm_steps 2 ?_
  refine @pm_we _ _ _ _ _ _ hw (fun hw => ?_) (fun hw => ?_)
  · exact pm_steps 3 hw
  · exact pm_steps 2 hw
/-! StairLines.isSheet(I)Z -/
set_option maxRecDepth 16384 in
def wp_X6_isSheet (l0 : Int32) (h : pm_H) (Q : Int32 → pm_H → Prop) : Prop := wp_X6_between l0 0 3 h (fun r263 h262 => pm_ib (pm_b01 r263) (Q r263 h262))
set_option maxRecDepth 16384 in
theorem wp_X6_isSheet_mono {l0 : Int32} {h : pm_H} {Q Q' : Int32 → pm_H → Prop} (hQ : ∀ r h, Q r h → Q' r h) : wp_X6_isSheet l0 h Q → wp_X6_isSheet l0 h Q' := by unfold wp_X6_isSheet; exact (@wp_X6_between_mono _ _ _ _ _ _ (fun _ _ => (@pm_ib_mono _ _ _ (hQ _ _))))
set_option maxRecDepth 16384 in
theorem wp_X6_isSheet_ok {d : Nat} {l0 : Int32} {h : pm_H} {Q : Option Value → pm_H → Prop} (hw : wp_X6_isSheet l0 h (fun r h => Q (some (.int r)) h)) : pm_R (d + 1) mt_X6_isSheet 0 [some (.int l0)] [] h Q := by
  unfold wp_X6_isSheet at hw
  refine pm_steps 4 ?_
  refine @wp_X6_between_ok _ _ _ _ _ _ (@wp_X6_between_mono _ _ _ _ _ _ (fun r263 h262 hw => ?_) hw)
  exact pm_steps 1 hw
