/-! StairLines.judge(II)I -/
set_option maxRecDepth 16384 in
def wl_X6_judge_41 (l1 : Int32) (l3 : Nat) (K80 : Int32 → pm_H → Prop) (K89 : pm_H → Prop) (Q : Int32 → pm_H → Prop) : Nat → Int32 → pm_H → Prop
  | 0, _, _ => False
  | n + 1, l4, h => pm_ib (pm_at 6 l3 2) (pm_lt l4 (h l3 2) (wp_X5_passTick (-1) h (fun h257 => pm_ib (pm_in l1 10) (pm_ib (pm_at 6 l3 2) (pm_ib (pm_at 6 (l3 + 1) 8) (pm_ib (pm_in l4 (pm_len (l3 + 1))) (pm_eq (h257 23 l1.toNatClampNeg) (h257 (l3 + 1) l4.toNatClampNeg) (wl_X6_judge_41 l1 l3 K80 K89 Q n (pm_op (l4 + 1)) h257) (K80 l4 h257))))))) (K89  h))
set_option maxRecDepth 16384 in
theorem wl_X6_judge_41_mono {l1 : Int32} {l3 : Nat} {K80 K80' : Int32 → pm_H → Prop} {K89 K89' : pm_H → Prop}  {Q Q' : Int32 → pm_H → Prop}  (mK80 : ∀ x4 h, K80 x4 h → K80' x4 h) (mK89 : ∀  h, K89  h → K89'  h) (hQ : ∀ r h, Q r h → Q' r h) : ∀ (n : Nat) (l4 : Int32) (h : pm_H), wl_X6_judge_41 l1 l3 K80 K89 Q n l4 h → wl_X6_judge_41 l1 l3 K80' K89' Q' n l4 h
  | 0, _, _ => id
  | n + 1, l4, h => by unfold wl_X6_judge_41; exact (@pm_ib_mono _ _ _ (@pm_lt_mono _ _ _ _ _ _ (@wp_X5_passTick_mono _ _ _ _ (fun _ => (@pm_ib_mono _ _ _ (@pm_ib_mono _ _ _ (@pm_ib_mono _ _ _ (@pm_ib_mono _ _ _ (@pm_eq_mono _ _ _ _ _ _ (wl_X6_judge_41_mono mK80 mK89 hQ n _ _) (mK80 _ _)))))))) (mK89  _)))
set_option maxRecDepth 16384 in
theorem wl_X6_judge_41_ok {d : Nat} {l1 : Int32} {l3 : Nat} {K80 : Int32 → pm_H → Prop} {K89 : pm_H → Prop} {Q : Option Value → pm_H → Prop} (hK80 : ∀ (x4 : Int32) (h : pm_H), K80 x4 h → pm_R (d + 5) mt_X6_judge 80 [none, none, none, none, some (.int x4)] [] h Q) (hK89 : ∀  (h : pm_H), K89  h → pm_R (d + 5) mt_X6_judge 89 [none, none, none, none, none] [] h Q) : ∀ (n : Nat) (l4 : Int32) (h : pm_H), wl_X6_judge_41 l1 l3 K80 K89 (fun r h => Q (some (.int r)) h) n l4 h → pm_R (d + 5) mt_X6_judge 41 [some (.ref 0), some (.int l1), none, some (.ref l3), some (.int l4)] [] h Q
  | 0, _, _ => fun hw => hw.elim
  | n + 1, l4, h => fun hw => by
    unfold wl_X6_judge_41 at hw
    refine pm_steps 3 ?_
    refine @pm_wc _ _ _ hw (fun hw => ?_)
    refine pm_steps 1 ?_
    refine @pm_wl _ _ _ _ _ _ hw (fun hw => ?_) (fun hw => ?_)
    · refine pm_steps 4 ?_
      refine @wp_X5_passTick_ok _ _ _ _ (@wp_X5_passTick_mono _ _ _ _ (fun h257 hw => ?_) hw)
      refine pm_steps 6 ?_
      refine @pm_wc _ _ _ hw (fun hw => ?_)
      refine pm_steps 2 ?_
      refine @pm_wc _ _ _ hw (fun hw => ?_)
      refine pm_steps 2 ?_
      refine @pm_wb _ _ _ _ hw (fun hw => ?_)
      refine @pm_wc _ _ _ hw (fun hw => ?_)
      refine pm_steps 1 ?_
      refine @pm_we _ _ _ _ _ _ hw (fun hw => ?_) (fun hw => ?_)
      · refine pm_steps 2 ?_
        exact pm_fg (wl_X6_judge_41_ok hK80 hK89 n _ _ hw) ⟨rfl, ⟨rfl, ⟨rfl, ⟨rfl, trivial⟩⟩⟩⟩
      · exact pm_fg (hK80 _ _ hw) ⟨rfl, trivial⟩
    · exact pm_fg (hK89  _ hw) trivial
set_option maxRecDepth 16384 in
def wp_X6_judge (l1 : Int32) (l2 : Int32) (h : pm_H) (Q : Int32 → pm_H → Prop) : Prop := wp_X6_isStep l1 h (fun r251 h250 => pm_eq r251 0 (Q (-2) h250) (wp_X6_isSheet l2 h250 (fun r253 h252 => pm_eq r253 0 (Q (-2) h252) (pm_ib (pm_in l2 4) (pm_ib (pm_at 6 (58 + 2 * l2.toNatClampNeg) 2) (wp_X2_isMissing (58 + 2 * l2.toNatClampNeg) h252 (fun r255 h254 => pm_eq r255 0 (wp_X6_beginTrial  h254 (fun h256 => ∃ n261, wl_X6_judge_41 l1 (58 + 2 * l2.toNatClampNeg) (fun x259 h258 => Q x259 h258) (fun  h260 => Q (-1) h260) Q n261 0 h256)) (Q (-11) h254))))))))
set_option maxRecDepth 16384 in
theorem wp_X6_judge_mono {l1 : Int32} {l2 : Int32} {h : pm_H} {Q Q' : Int32 → pm_H → Prop} (hQ : ∀ r h, Q r h → Q' r h) : wp_X6_judge l1 l2 h Q → wp_X6_judge l1 l2 h Q' := by unfold wp_X6_judge; exact (@wp_X6_isStep_mono _ _ _ _ (fun _ _ => (@pm_eq_mono _ _ _ _ _ _ (hQ _ _) (@wp_X6_isSheet_mono _ _ _ _ (fun _ _ => (@pm_eq_mono _ _ _ _ _ _ (hQ _ _) (@pm_ib_mono _ _ _ (@pm_ib_mono _ _ _ (@wp_X2_isMissing_mono _ _ _ _ (fun _ _ => (@pm_eq_mono _ _ _ _ _ _ (@wp_X6_beginTrial_mono _ _ _ (fun _ => (fun z => Exists.elim z (fun n261 z => ⟨n261, wl_X6_judge_41_mono (fun _ _ => (hQ _ _)) (fun  _ => (hQ _ _)) hQ n261 _ _ z⟩)))) (hQ _ _))))))))))))
set_option maxRecDepth 16384 in
theorem wp_X6_judge_ok {d : Nat} {l1 : Int32} {l2 : Int32} {h : pm_H} {Q : Option Value → pm_H → Prop} (hw : wp_X6_judge l1 l2 h (fun r h => Q (some (.int r)) h)) : pm_R (d + 5) mt_X6_judge 0 [some (.ref 0), some (.int l1), some (.int l2), none, none] [] h Q := by
  unfold wp_X6_judge at hw
  refine pm_steps 2 ?_
  refine @wp_X6_isStep_ok _ _ _ _ (@wp_X6_isStep_mono _ _ _ _ (fun r251 h250 hw => ?_) hw)
  refine pm_steps 1 ?_
  refine @pm_we _ _ _ _ _ _ hw (fun hw => ?_) (fun hw => ?_)
  · exact pm_steps 2 hw
  · refine pm_steps 2 ?_
    refine @wp_X6_isSheet_ok _ _ _ _ (@wp_X6_isSheet_mono _ _ _ _ (fun r253 h252 hw => ?_) hw)
    refine pm_steps 1 ?_
    refine @pm_we _ _ _ _ _ _ hw (fun hw => ?_) (fun hw => ?_)
    · exact pm_steps 2 hw
    · refine pm_steps 4 ?_
      refine @pm_wc _ _ _ hw (fun hw => ?_)
      refine pm_steps 3 ?_
      refine @pm_wc _ _ _ hw (fun hw => ?_)
      refine @wp_X2_isMissing_ok _ _ _ _ (@wp_X2_isMissing_mono _ _ _ _ (fun r255 h254 hw => ?_) hw)
      refine pm_steps 1 ?_
      refine @pm_we _ _ _ _ _ _ hw (fun hw => ?_) (fun hw => ?_)
      · refine pm_steps 2 ?_
        refine @wp_X6_beginTrial_ok _ _ _ (@wp_X6_beginTrial_mono _ _ _ (fun h256 hw => ?_) hw)
        refine pm_steps 2 ?_
        obtain ⟨n261, hw⟩ := hw
        refine pm_fg (wl_X6_judge_41_ok ?_ ?_ n261 _ _ hw) ⟨rfl, ⟨rfl, ⟨rfl, ⟨rfl, trivial⟩⟩⟩⟩
        · intro x259 h258 hw
          exact pm_steps 2 hw
        · intro  h260 hw
          exact pm_steps 2 hw
      · exact pm_steps 2 hw
/-! StairLines.look(II)I -/
set_option maxRecDepth 16384 in
def wl_X6_look_30 (l1 : Int32) (l2 : Int32) (K67 : Int32 → pm_H → Prop) (Q : Int32 → pm_H → Prop) : Nat → Int32 → Int32 → pm_H → Prop
  | 0, _, _, _ => False
  | n + 1, l3, l4, h => pm_lt l4 l2 (wp_X5_passTick (-1) h (fun h269 => wp_X3_roomOn_r20 l1 h269 (fun r271 h270 => pm_lt 0 r271 (wl_X6_look_30 l1 l2 K67 Q n l3 (pm_op (l4 + 1)) h270) (wl_X6_look_30 l1 l2 K67 Q n (pm_op (l3 + 1)) (pm_op (l4 + 1)) h270)))) (K67 l3 h)
set_option maxRecDepth 16384 in
theorem wl_X6_look_30_mono {l1 : Int32} {l2 : Int32} {K67 K67' : Int32 → pm_H → Prop}  {Q Q' : Int32 → pm_H → Prop}  (mK67 : ∀ x3 h, K67 x3 h → K67' x3 h) (hQ : ∀ r h, Q r h → Q' r h) : ∀ (n : Nat) (l3 : Int32) (l4 : Int32) (h : pm_H), wl_X6_look_30 l1 l2 K67 Q n l3 l4 h → wl_X6_look_30 l1 l2 K67' Q' n l3 l4 h
  | 0, _, _, _ => id
  | n + 1, l3, l4, h => by unfold wl_X6_look_30; exact (@pm_lt_mono _ _ _ _ _ _ (@wp_X5_passTick_mono _ _ _ _ (fun _ => (@wp_X3_roomOn_r20_mono _ _ _ _ (fun _ _ => (@pm_lt_mono _ _ _ _ _ _ (wl_X6_look_30_mono mK67 hQ n _ _ _) (wl_X6_look_30_mono mK67 hQ n _ _ _)))))) (mK67 _ _))
set_option maxRecDepth 16384 in
theorem wl_X6_look_30_ok {d : Nat} {l1 : Int32} {l2 : Int32} {K67 : Int32 → pm_H → Prop} {Q : Option Value → pm_H → Prop} (hK67 : ∀ (x3 : Int32) (h : pm_H), K67 x3 h → pm_R (d + 5) mt_X6_look 67 [none, none, none, some (.int x3), none] [] h Q) : ∀ (n : Nat) (l3 : Int32) (l4 : Int32) (h : pm_H), wl_X6_look_30 l1 l2 K67 (fun r h => Q (some (.int r)) h) n l3 l4 h → pm_R (d + 5) mt_X6_look 30 [some (.ref 0), some (.int l1), some (.int l2), some (.int l3), some (.int l4)] [] h Q
  | 0, _, _, _ => fun hw => hw.elim
  | n + 1, l3, l4, h => fun hw => by
    unfold wl_X6_look_30 at hw
    refine pm_steps 3 ?_
    refine @pm_wl _ _ _ _ _ _ hw (fun hw => ?_) (fun hw => ?_)
    · refine pm_steps 4 ?_
      refine @wp_X5_passTick_ok _ _ _ _ (@wp_X5_passTick_mono _ _ _ _ (fun h269 hw => ?_) hw)
      refine pm_steps 5 ?_
      refine @wp_X3_roomOn_r20_ok _ _ _ _ (@wp_X3_roomOn_r20_mono _ _ _ _ (fun r271 h270 hw => ?_) hw)
      refine pm_steps 1 ?_
      refine @pm_wl _ _ _ _ _ _ hw (fun hw => ?_) (fun hw => ?_)
      · refine pm_steps 2 ?_
        exact pm_fg (wl_X6_look_30_ok hK67 n _ _ _ hw) ⟨rfl, ⟨rfl, ⟨rfl, ⟨rfl, ⟨rfl, trivial⟩⟩⟩⟩⟩
      · refine pm_steps 3 ?_
        exact pm_fg (wl_X6_look_30_ok hK67 n _ _ _ hw) ⟨rfl, ⟨rfl, ⟨rfl, ⟨rfl, ⟨rfl, trivial⟩⟩⟩⟩⟩
    · exact pm_fg (hK67 _ _ hw) ⟨rfl, trivial⟩
set_option maxRecDepth 16384 in
def wp_X6_look (l1 : Int32) (l2 : Int32) (h : pm_H) (Q : Int32 → pm_H → Prop) : Prop := wp_X6_isStep l1 h (fun r265 h264 => pm_eq r265 0 (Q (-2) h264) (wp_X6_between l2 0 400 h264 (fun r267 h266 => pm_eq r267 0 (Q (-2) h266) (wp_X6_beginTrial  h266 (fun h268 => ∃ n274, wl_X6_look_30 l1 l2 (fun x273 h272 => Q x273 h272) Q n274 0 0 h268)))))
set_option maxRecDepth 16384 in
theorem wp_X6_look_mono {l1 : Int32} {l2 : Int32} {h : pm_H} {Q Q' : Int32 → pm_H → Prop} (hQ : ∀ r h, Q r h → Q' r h) : wp_X6_look l1 l2 h Q → wp_X6_look l1 l2 h Q' := by unfold wp_X6_look; exact (@wp_X6_isStep_mono _ _ _ _ (fun _ _ => (@pm_eq_mono _ _ _ _ _ _ (hQ _ _) (@wp_X6_between_mono _ _ _ _ _ _ (fun _ _ => (@pm_eq_mono _ _ _ _ _ _ (hQ _ _) (@wp_X6_beginTrial_mono _ _ _ (fun _ => (fun z => Exists.elim z (fun n274 z => ⟨n274, wl_X6_look_30_mono (fun _ _ => (hQ _ _)) hQ n274 _ _ _ z⟩))))))))))
set_option maxRecDepth 16384 in
theorem wp_X6_look_ok {d : Nat} {l1 : Int32} {l2 : Int32} {h : pm_H} {Q : Option Value → pm_H → Prop} (hw : wp_X6_look l1 l2 h (fun r h => Q (some (.int r)) h)) : pm_R (d + 5) mt_X6_look 0 [some (.ref 0), some (.int l1), some (.int l2), none, none] [] h Q := by
  unfold wp_X6_look at hw
  refine pm_steps 2 ?_
  refine @wp_X6_isStep_ok _ _ _ _ (@wp_X6_isStep_mono _ _ _ _ (fun r265 h264 hw => ?_) hw)
  refine pm_steps 1 ?_
  refine @pm_we _ _ _ _ _ _ hw (fun hw => ?_) (fun hw => ?_)
  · exact pm_steps 2 hw
  · refine pm_steps 4 ?_
    refine @wp_X6_between_ok _ _ _ _ _ _ (@wp_X6_between_mono _ _ _ _ _ _ (fun r267 h266 hw => ?_) hw)
    refine pm_steps 1 ?_
    refine @pm_we _ _ _ _ _ _ hw (fun hw => ?_) (fun hw => ?_)
    · exact pm_steps 2 hw
    · refine pm_steps 2 ?_
      refine @wp_X6_beginTrial_ok _ _ _ (@wp_X6_beginTrial_mono _ _ _ (fun h268 hw => ?_) hw)
      refine pm_steps 4 ?_
      obtain ⟨n274, hw⟩ := hw
      refine pm_fg (wl_X6_look_30_ok ?_ n274 _ _ _ hw) ⟨rfl, ⟨rfl, ⟨rfl, ⟨rfl, ⟨rfl, trivial⟩⟩⟩⟩⟩
      · intro x273 h272 hw
        exact pm_steps 2 hw
/-! StairLines.drawn(I)I -/
set_option maxRecDepth 16384 in
def wl_X6_drawn_8  (K70 : Int32 → pm_H → Prop) (Q : Int32 → pm_H → Prop) : Nat → Int32 → Int32 → pm_H → Prop
  | 0, _, _, _ => False
  | n + 1, l2, l3, h => pm_lt l3 400 (wp_X3_isAllOut_r20  h (fun r277 h276 => pm_eq r277 0 (pm_eq (pm_op (pm_rem (pm_op (pm_ushr (pm_op ((pm_op (l2 * 1103515245)) + 12345)) 8)) 5)) 0 (wp_X5_passTick (pm_op (pm_rem (pm_op (pm_ushr (pm_op ((pm_op (l2 * 1103515245)) + 12345)) 12)) 10)) h276 (fun h278 => wl_X6_drawn_8 K70 Q n (pm_op ((pm_op (l2 * 1103515245)) + 12345)) (pm_op (l3 + 1)) h278)) (wp_X5_passTick (-1) h276 (fun h279 => wl_X6_drawn_8 K70 Q n (pm_op ((pm_op (l2 * 1103515245)) + 12345)) (pm_op (l3 + 1)) h279))) (K70 l3 h276))) (K70 l3 h)
set_option maxRecDepth 16384 in
theorem wl_X6_drawn_8_mono  {K70 K70' : Int32 → pm_H → Prop}  {Q Q' : Int32 → pm_H → Prop}  (mK70 : ∀ x3 h, K70 x3 h → K70' x3 h) (hQ : ∀ r h, Q r h → Q' r h) : ∀ (n : Nat) (l2 : Int32) (l3 : Int32) (h : pm_H), wl_X6_drawn_8 K70 Q n l2 l3 h → wl_X6_drawn_8 K70' Q' n l2 l3 h
  | 0, _, _, _ => id
  | n + 1, l2, l3, h => by unfold wl_X6_drawn_8; exact (@pm_lt_mono _ _ _ _ _ _ (@wp_X3_isAllOut_r20_mono _ _ _ (fun _ _ => (@pm_eq_mono _ _ _ _ _ _ (@pm_eq_mono _ _ _ _ _ _ (@wp_X5_passTick_mono _ _ _ _ (fun _ => (wl_X6_drawn_8_mono mK70 hQ n _ _ _))) (@wp_X5_passTick_mono _ _ _ _ (fun _ => (wl_X6_drawn_8_mono mK70 hQ n _ _ _)))) (mK70 _ _)))) (mK70 _ _))
set_option maxRecDepth 16384 in
theorem wl_X6_drawn_8_ok {d : Nat}  {K70 : Int32 → pm_H → Prop} {Q : Option Value → pm_H → Prop} (hK70 : ∀ (x3 : Int32) (h : pm_H), K70 x3 h → pm_R (d + 5) mt_X6_drawn 70 [none, none, none, some (.int x3)] [] h Q) : ∀ (n : Nat) (l2 : Int32) (l3 : Int32) (h : pm_H), wl_X6_drawn_8 K70 (fun r h => Q (some (.int r)) h) n l2 l3 h → pm_R (d + 5) mt_X6_drawn 8 [some (.ref 0), none, some (.int l2), some (.int l3)] [] h Q
  | 0, _, _, _ => fun hw => hw.elim
  | n + 1, l2, l3, h => fun hw => by
    unfold wl_X6_drawn_8 at hw
    refine pm_steps 3 ?_
    refine @pm_wl _ _ _ _ _ _ hw (fun hw => ?_) (fun hw => ?_)
    · refine pm_steps 4 ?_
      refine @wp_X3_isAllOut_r20_ok _ _ _ (@wp_X3_isAllOut_r20_mono _ _ _ (fun r277 h276 hw => ?_) hw)
      refine pm_steps 1 ?_
      refine @pm_we _ _ _ _ _ _ hw (fun hw => ?_) (fun hw => ?_)
      · refine pm_steps 14 ?_
        refine @pm_we _ _ _ _ _ _ hw (fun hw => ?_) (fun hw => ?_)
        · refine pm_steps 7 ?_
          refine @wp_X5_passTick_ok _ _ _ _ (@wp_X5_passTick_mono _ _ _ _ (fun h278 hw => ?_) hw)
          refine pm_steps 2 ?_
          exact pm_fg (wl_X6_drawn_8_ok hK70 n _ _ _ hw) ⟨rfl, ⟨rfl, ⟨rfl, trivial⟩⟩⟩
        · refine pm_steps 2 ?_
          refine @wp_X5_passTick_ok _ _ _ _ (@wp_X5_passTick_mono _ _ _ _ (fun h279 hw => ?_) hw)
          refine pm_steps 2 ?_
          exact pm_fg (wl_X6_drawn_8_ok hK70 n _ _ _ hw) ⟨rfl, ⟨rfl, ⟨rfl, trivial⟩⟩⟩
      · exact pm_fg (hK70 _ _ hw) ⟨rfl, trivial⟩
    · exact pm_fg (hK70 _ _ hw) ⟨rfl, trivial⟩
set_option maxRecDepth 16384 in
def wp_X6_drawn (l1 : Int32) (h : pm_H) (Q : Int32 → pm_H → Prop) : Prop := wp_X6_beginTrial  h (fun h275 => ∃ n282, wl_X6_drawn_8 (fun x281 h280 => Q x281 h280) Q n282 l1 0 h275)
set_option maxRecDepth 16384 in
theorem wp_X6_drawn_mono {l1 : Int32} {h : pm_H} {Q Q' : Int32 → pm_H → Prop} (hQ : ∀ r h, Q r h → Q' r h) : wp_X6_drawn l1 h Q → wp_X6_drawn l1 h Q' := by unfold wp_X6_drawn; exact (@wp_X6_beginTrial_mono _ _ _ (fun _ => (fun z => Exists.elim z (fun n282 z => ⟨n282, wl_X6_drawn_8_mono (fun _ _ => (hQ _ _)) hQ n282 _ _ _ z⟩))))
set_option maxRecDepth 16384 in
theorem wp_X6_drawn_ok {d : Nat} {l1 : Int32} {h : pm_H} {Q : Option Value → pm_H → Prop} (hw : wp_X6_drawn l1 h (fun r h => Q (some (.int r)) h)) : pm_R (d + 5) mt_X6_drawn 0 [some (.ref 0), some (.int l1), none, none] [] h Q := by
  unfold wp_X6_drawn at hw
  refine pm_steps 2 ?_
  refine @wp_X6_beginTrial_ok _ _ _ (@wp_X6_beginTrial_mono _ _ _ (fun h275 hw => ?_) hw)
  refine pm_steps 4 ?_
  obtain ⟨n282, hw⟩ := hw
  refine pm_fg (wl_X6_drawn_8_ok ?_ n282 _ _ _ hw) ⟨rfl, ⟨rfl, ⟨rfl, trivial⟩⟩⟩
  · intro x281 h280 hw
    exact pm_steps 2 hw
/-! StairLines$Stair.becomeLike(LStairLines$Stair;)V -/
set_option maxRecDepth 16384 in
def wp_X3_becomeLike_r10_r1  (h : pm_H) (Q : pm_H → Prop) : Prop := Q (pm_u (pm_u (pm_u (pm_u (pm_cp (pm_cp (pm_cp (pm_cp (pm_cp (pm_cp (pm_cp (pm_cp h 2 0 11 0 10) 3 0 12 0 10) 4 0 13 0 10) 5 0 14 0 5) 6 0 15 0 5) 7 0 16 0 5) 8 0 17 0 5) 9 0 18 0 5) 10 8 ((pm_cp (pm_cp (pm_cp (pm_cp (pm_cp (pm_cp (pm_cp (pm_cp h 2 0 11 0 10) 3 0 12 0 10) 4 0 13 0 10) 5 0 14 0 5) 6 0 15 0 5) 7 0 16 0 5) 8 0 17 0 5) 9 0 18 0 5) 1 8)) 10 9 ((pm_cp (pm_cp (pm_cp (pm_cp (pm_cp (pm_cp (pm_cp (pm_cp h 2 0 11 0 10) 3 0 12 0 10) 4 0 13 0 10) 5 0 14 0 5) 6 0 15 0 5) 7 0 16 0 5) 8 0 17 0 5) 9 0 18 0 5) 1 9)) 10 10 ((pm_cp (pm_cp (pm_cp (pm_cp (pm_cp (pm_cp (pm_cp (pm_cp h 2 0 11 0 10) 3 0 12 0 10) 4 0 13 0 10) 5 0 14 0 5) 6 0 15 0 5) 7 0 16 0 5) 8 0 17 0 5) 9 0 18 0 5) 1 10)) 10 11 ((pm_cp (pm_cp (pm_cp (pm_cp (pm_cp (pm_cp (pm_cp (pm_cp h 2 0 11 0 10) 3 0 12 0 10) 4 0 13 0 10) 5 0 14 0 5) 6 0 15 0 5) 7 0 16 0 5) 8 0 17 0 5) 9 0 18 0 5) 1 11))
set_option maxRecDepth 16384 in
theorem wp_X3_becomeLike_r10_r1_mono  {h : pm_H} {Q Q' : pm_H → Prop} (hQ : ∀ h, Q h → Q' h) : wp_X3_becomeLike_r10_r1  h Q → wp_X3_becomeLike_r10_r1  h Q' := by unfold wp_X3_becomeLike_r10_r1; exact (hQ _)
set_option maxRecDepth 16384 in
theorem wp_X3_becomeLike_r10_r1_ok {d : Nat}  {h : pm_H} {Q : Option Value → pm_H → Prop} (hw : wp_X3_becomeLike_r10_r1  h (fun h => Q none h)) : pm_R (d + 0) mt_X3_becomeLike 0 [some (.ref 10), some (.ref 1)] [] h Q := by
  unfold wp_X3_becomeLike_r10_r1 at hw
  refine pm_steps 61 ?_
  exact pm_steps 20 hw
/-! StairLines.image()I -/
set_option maxRecDepth 16384 in
def wp_X6_image  (h : pm_H) (Q : Int32 → pm_H → Prop) : Prop := wp_X3_becomeLike_r10_r1  h (fun h283 => Q (h283 1 9) (pm_u h283 0 2 1))
set_option maxRecDepth 16384 in
theorem wp_X6_image_mono  {h : pm_H} {Q Q' : Int32 → pm_H → Prop} (hQ : ∀ r h, Q r h → Q' r h) : wp_X6_image  h Q → wp_X6_image  h Q' := by unfold wp_X6_image; exact (@wp_X3_becomeLike_r10_r1_mono _ _ _ (fun _ => (hQ _ _)))
set_option maxRecDepth 16384 in
theorem wp_X6_image_ok {d : Nat}  {h : pm_H} {Q : Option Value → pm_H → Prop} (hw : wp_X6_image  h (fun r h => Q (some (.int r)) h)) : pm_R (d + 1) mt_X6_image 0 [some (.ref 0)] [] h Q := by
  unfold wp_X6_image at hw
  refine pm_steps 5 ?_
  refine @wp_X3_becomeLike_r10_r1_ok _ _ _ (@wp_X3_becomeLike_r10_r1_mono _ _ _ (fun h283 hw => ?_) hw)
  exact pm_steps 7 hw
/-! StairLines$Stair.becomeLike(LStairLines$Stair;)V -/
set_option maxRecDepth 16384 in
def wp_X3_becomeLike_r1_r10  (h : pm_H) (Q : pm_H → Prop) : Prop := Q (pm_u (pm_u (pm_u (pm_u (pm_cp (pm_cp (pm_cp (pm_cp (pm_cp (pm_cp (pm_cp (pm_cp h 11 0 2 0 10) 12 0 3 0 10) 13 0 4 0 10) 14 0 5 0 5) 15 0 6 0 5) 16 0 7 0 5) 17 0 8 0 5) 18 0 9 0 5) 1 8 ((pm_cp (pm_cp (pm_cp (pm_cp (pm_cp (pm_cp (pm_cp (pm_cp h 11 0 2 0 10) 12 0 3 0 10) 13 0 4 0 10) 14 0 5 0 5) 15 0 6 0 5) 16 0 7 0 5) 17 0 8 0 5) 18 0 9 0 5) 10 8)) 1 9 ((pm_cp (pm_cp (pm_cp (pm_cp (pm_cp (pm_cp (pm_cp (pm_cp h 11 0 2 0 10) 12 0 3 0 10) 13 0 4 0 10) 14 0 5 0 5) 15 0 6 0 5) 16 0 7 0 5) 17 0 8 0 5) 18 0 9 0 5) 10 9)) 1 10 ((pm_cp (pm_cp (pm_cp (pm_cp (pm_cp (pm_cp (pm_cp (pm_cp h 11 0 2 0 10) 12 0 3 0 10) 13 0 4 0 10) 14 0 5 0 5) 15 0 6 0 5) 16 0 7 0 5) 17 0 8 0 5) 18 0 9 0 5) 10 10)) 1 11 ((pm_cp (pm_cp (pm_cp (pm_cp (pm_cp (pm_cp (pm_cp (pm_cp h 11 0 2 0 10) 12 0 3 0 10) 13 0 4 0 10) 14 0 5 0 5) 15 0 6 0 5) 16 0 7 0 5) 17 0 8 0 5) 18 0 9 0 5) 10 11))
set_option maxRecDepth 16384 in
theorem wp_X3_becomeLike_r1_r10_mono  {h : pm_H} {Q Q' : pm_H → Prop} (hQ : ∀ h, Q h → Q' h) : wp_X3_becomeLike_r1_r10  h Q → wp_X3_becomeLike_r1_r10  h Q' := by unfold wp_X3_becomeLike_r1_r10; exact (hQ _)
set_option maxRecDepth 16384 in
theorem wp_X3_becomeLike_r1_r10_ok {d : Nat}  {h : pm_H} {Q : Option Value → pm_H → Prop} (hw : wp_X3_becomeLike_r1_r10  h (fun h => Q none h)) : pm_R (d + 0) mt_X3_becomeLike 0 [some (.ref 1), some (.ref 10)] [] h Q := by
  unfold wp_X3_becomeLike_r1_r10 at hw
  refine pm_steps 61 ?_
  exact pm_steps 20 hw
/-! StairLines.back()I -/
set_option maxRecDepth 16384 in
def wp_X6_back  (h : pm_H) (Q : Int32 → pm_H → Prop) : Prop := pm_eq (h 0 2) 0 (Q (-3) h) (wp_X3_becomeLike_r1_r10  h (fun h284 => Q (h284 1 9) h284))
set_option maxRecDepth 16384 in
theorem wp_X6_back_mono  {h : pm_H} {Q Q' : Int32 → pm_H → Prop} (hQ : ∀ r h, Q r h → Q' r h) : wp_X6_back  h Q → wp_X6_back  h Q' := by unfold wp_X6_back; exact (@pm_eq_mono _ _ _ _ _ _ (hQ _ _) (@wp_X3_becomeLike_r1_r10_mono _ _ _ (fun _ => (hQ _ _))))
set_option maxRecDepth 16384 in
theorem wp_X6_back_ok {d : Nat}  {h : pm_H} {Q : Option Value → pm_H → Prop} (hw : wp_X6_back  h (fun r h => Q (some (.int r)) h)) : pm_R (d + 1) mt_X6_back 0 [some (.ref 0)] [] h Q := by
  unfold wp_X6_back at hw
  refine pm_steps 3 ?_
  refine @pm_we _ _ _ _ _ _ hw (fun hw => ?_) (fun hw => ?_)
  · exact pm_steps 2 hw
  · refine pm_steps 5 ?_
    refine @wp_X3_becomeLike_r1_r10_ok _ _ _ (@wp_X3_becomeLike_r1_r10_mono _ _ _ (fun h284 hw => ?_) hw)
    exact pm_steps 4 hw
/-! StairLines$Stair.countIn()I -/
set_option maxRecDepth 16384 in
def wl_X3_countIn_r1_4  (K27 : Int32 → pm_H → Prop) (Q : Int32 → pm_H → Prop) : Nat → Int32 → Int32 → pm_H → Prop
  | 0, _, _, _ => False
  | n + 1, l1, l2, h => pm_lt l2 (h 1 8) (pm_ib (pm_in l2 5) (wl_X3_countIn_r1_4 K27 Q n (pm_op (l1 + (h 9 l2.toNatClampNeg))) (pm_op (l2 + 1)) h)) (K27 l1 h)
set_option maxRecDepth 16384 in
theorem wl_X3_countIn_r1_4_mono  {K27 K27' : Int32 → pm_H → Prop}  {Q Q' : Int32 → pm_H → Prop}  (mK27 : ∀ x1 h, K27 x1 h → K27' x1 h) (hQ : ∀ r h, Q r h → Q' r h) : ∀ (n : Nat) (l1 : Int32) (l2 : Int32) (h : pm_H), wl_X3_countIn_r1_4 K27 Q n l1 l2 h → wl_X3_countIn_r1_4 K27' Q' n l1 l2 h
  | 0, _, _, _ => id
  | n + 1, l1, l2, h => by unfold wl_X3_countIn_r1_4; exact (@pm_lt_mono _ _ _ _ _ _ (@pm_ib_mono _ _ _ (wl_X3_countIn_r1_4_mono mK27 hQ n _ _ _)) (mK27 _ _))
set_option maxRecDepth 16384 in
theorem wl_X3_countIn_r1_4_ok {d : Nat}  {K27 : Int32 → pm_H → Prop} {Q : Option Value → pm_H → Prop} (hK27 : ∀ (x1 : Int32) (h : pm_H), K27 x1 h → pm_R (d + 0) mt_X3_countIn 27 [none, some (.int x1), none] [] h Q) : ∀ (n : Nat) (l1 : Int32) (l2 : Int32) (h : pm_H), wl_X3_countIn_r1_4 K27 (fun r h => Q (some (.int r)) h) n l1 l2 h → pm_R (d + 0) mt_X3_countIn 4 [some (.ref 1), some (.int l1), some (.int l2)] [] h Q
  | 0, _, _, _ => fun hw => hw.elim
  | n + 1, l1, l2, h => fun hw => by
    unfold wl_X3_countIn_r1_4 at hw
    refine pm_steps 4 ?_
    refine @pm_wl _ _ _ _ _ _ hw (fun hw => ?_) (fun hw => ?_)
    · refine pm_steps 5 ?_
      refine @pm_wc _ _ _ hw (fun hw => ?_)
      refine pm_steps 4 ?_
      exact pm_fg (wl_X3_countIn_r1_4_ok hK27 n _ _ _ hw) ⟨rfl, ⟨rfl, ⟨rfl, trivial⟩⟩⟩
    · exact pm_fg (hK27 _ _ hw) ⟨rfl, trivial⟩
set_option maxRecDepth 16384 in
def wp_X3_countIn_r1  (h : pm_H) (Q : Int32 → pm_H → Prop) : Prop := ∃ n289, wl_X3_countIn_r1_4 (fun x288 h287 => Q x288 h287) Q n289 0 0 h
set_option maxRecDepth 16384 in
theorem wp_X3_countIn_r1_mono  {h : pm_H} {Q Q' : Int32 → pm_H → Prop} (hQ : ∀ r h, Q r h → Q' r h) : wp_X3_countIn_r1  h Q → wp_X3_countIn_r1  h Q' := by unfold wp_X3_countIn_r1; exact (fun z => Exists.elim z (fun n289 z => ⟨n289, wl_X3_countIn_r1_4_mono (fun _ _ => (hQ _ _)) hQ n289 _ _ _ z⟩))
set_option maxRecDepth 16384 in
theorem wp_X3_countIn_r1_ok {d : Nat}  {h : pm_H} {Q : Option Value → pm_H → Prop} (hw : wp_X3_countIn_r1  h (fun r h => Q (some (.int r)) h)) : pm_R (d + 0) mt_X3_countIn 0 [some (.ref 1), none, none] [] h Q := by
  unfold wp_X3_countIn_r1 at hw
  refine pm_steps 4 ?_
  obtain ⟨n289, hw⟩ := hw
  refine pm_fg (wl_X3_countIn_r1_4_ok ?_ n289 _ _ _ hw) ⟨rfl, ⟨rfl, ⟨rfl, trivial⟩⟩⟩
  · intro x288 h287 hw
    exact pm_steps 2 hw
/-! StairLines$Stair.countOnSteps()I -/
set_option maxRecDepth 16384 in
def wl_X3_countOnSteps_r1_4  (K25 : Int32 → pm_H → Prop) (Q : Int32 → pm_H → Prop) : Nat → Int32 → Int32 → pm_H → Prop
  | 0, _, _, _ => False
  | n + 1, l1, l2, h => pm_lt l2 10 (pm_ib (pm_in l2 10) (wl_X3_countOnSteps_r1_4 K25 Q n (pm_op (l1 + (h 4 l2.toNatClampNeg))) (pm_op (l2 + 1)) h)) (K25 l1 h)
set_option maxRecDepth 16384 in
theorem wl_X3_countOnSteps_r1_4_mono  {K25 K25' : Int32 → pm_H → Prop}  {Q Q' : Int32 → pm_H → Prop}  (mK25 : ∀ x1 h, K25 x1 h → K25' x1 h) (hQ : ∀ r h, Q r h → Q' r h) : ∀ (n : Nat) (l1 : Int32) (l2 : Int32) (h : pm_H), wl_X3_countOnSteps_r1_4 K25 Q n l1 l2 h → wl_X3_countOnSteps_r1_4 K25' Q' n l1 l2 h
  | 0, _, _, _ => id
  | n + 1, l1, l2, h => by unfold wl_X3_countOnSteps_r1_4; exact (@pm_lt_mono _ _ _ _ _ _ (@pm_ib_mono _ _ _ (wl_X3_countOnSteps_r1_4_mono mK25 hQ n _ _ _)) (mK25 _ _))
set_option maxRecDepth 16384 in
theorem wl_X3_countOnSteps_r1_4_ok {d : Nat}  {K25 : Int32 → pm_H → Prop} {Q : Option Value → pm_H → Prop} (hK25 : ∀ (x1 : Int32) (h : pm_H), K25 x1 h → pm_R (d + 0) mt_X3_countOnSteps 25 [none, some (.int x1), none] [] h Q) : ∀ (n : Nat) (l1 : Int32) (l2 : Int32) (h : pm_H), wl_X3_countOnSteps_r1_4 K25 (fun r h => Q (some (.int r)) h) n l1 l2 h → pm_R (d + 0) mt_X3_countOnSteps 4 [some (.ref 1), some (.int l1), some (.int l2)] [] h Q
  | 0, _, _, _ => fun hw => hw.elim
  | n + 1, l1, l2, h => fun hw => by
    unfold wl_X3_countOnSteps_r1_4 at hw
    refine pm_steps 3 ?_
    refine @pm_wl _ _ _ _ _ _ hw (fun hw => ?_) (fun hw => ?_)
    · refine pm_steps 5 ?_
      refine @pm_wc _ _ _ hw (fun hw => ?_)
      refine pm_steps 4 ?_
      exact pm_fg (wl_X3_countOnSteps_r1_4_ok hK25 n _ _ _ hw) ⟨rfl, ⟨rfl, ⟨rfl, trivial⟩⟩⟩
    · exact pm_fg (hK25 _ _ hw) ⟨rfl, trivial⟩
set_option maxRecDepth 16384 in
def wp_X3_countOnSteps_r1  (h : pm_H) (Q : Int32 → pm_H → Prop) : Prop := ∃ n294, wl_X3_countOnSteps_r1_4 (fun x293 h292 => Q x293 h292) Q n294 0 0 h
set_option maxRecDepth 16384 in
theorem wp_X3_countOnSteps_r1_mono  {h : pm_H} {Q Q' : Int32 → pm_H → Prop} (hQ : ∀ r h, Q r h → Q' r h) : wp_X3_countOnSteps_r1  h Q → wp_X3_countOnSteps_r1  h Q' := by unfold wp_X3_countOnSteps_r1; exact (fun z => Exists.elim z (fun n294 z => ⟨n294, wl_X3_countOnSteps_r1_4_mono (fun _ _ => (hQ _ _)) hQ n294 _ _ _ z⟩))
set_option maxRecDepth 16384 in
theorem wp_X3_countOnSteps_r1_ok {d : Nat}  {h : pm_H} {Q : Option Value → pm_H → Prop} (hw : wp_X3_countOnSteps_r1  h (fun r h => Q (some (.int r)) h)) : pm_R (d + 0) mt_X3_countOnSteps 0 [some (.ref 1), none, none] [] h Q := by
  unfold wp_X3_countOnSteps_r1 at hw
  refine pm_steps 4 ?_
  obtain ⟨n294, hw⟩ := hw
  refine pm_fg (wl_X3_countOnSteps_r1_4_ok ?_ n294 _ _ _ hw) ⟨rfl, ⟨rfl, ⟨rfl, trivial⟩⟩⟩
  · intro x293 h292 hw
    exact pm_steps 2 hw
/-! StairLines.count(I)I -/
set_option maxRecDepth 16384 in
def wp_X6_count (l1 : Int32) (h : pm_H) (Q : Int32 → pm_H → Prop) : Prop := pm_eq l1 0 (Q (h 1 8) h) (pm_eq l1 1 (Q (h 1 9) h) (pm_eq l1 2 (Q (h 1 10) h) (pm_eq l1 3 (wp_X3_countOnSteps_r1  h (fun r291 h290 => Q r291 h290)) (pm_eq l1 4 (wp_X3_countIn_r1  h (fun r286 h285 => Q r286 h285)) (pm_eq l1 5 (Q (h 0 6) h) (pm_eq l1 6 (Q (h 34 0) h) (pm_eq l1 7 (Q (h 1 11) h) (Q (-2) h))))))))
set_option maxRecDepth 16384 in
theorem wp_X6_count_mono {l1 : Int32} {h : pm_H} {Q Q' : Int32 → pm_H → Prop} (hQ : ∀ r h, Q r h → Q' r h) : wp_X6_count l1 h Q → wp_X6_count l1 h Q' := by unfold wp_X6_count; exact (@pm_eq_mono _ _ _ _ _ _ (hQ _ _) (@pm_eq_mono _ _ _ _ _ _ (hQ _ _) (@pm_eq_mono _ _ _ _ _ _ (hQ _ _) (@pm_eq_mono _ _ _ _ _ _ (@wp_X3_countOnSteps_r1_mono _ _ _ (fun _ _ => (hQ _ _))) (@pm_eq_mono _ _ _ _ _ _ (@wp_X3_countIn_r1_mono _ _ _ (fun _ _ => (hQ _ _))) (@pm_eq_mono _ _ _ _ _ _ (hQ _ _) (@pm_eq_mono _ _ _ _ _ _ (hQ _ _) (@pm_eq_mono _ _ _ _ _ _ (hQ _ _) (hQ _ _)))))))))
set_option maxRecDepth 16384 in
theorem wp_X6_count_ok {d : Nat} {l1 : Int32} {h : pm_H} {Q : Option Value → pm_H → Prop} (hw : wp_X6_count l1 h (fun r h => Q (some (.int r)) h)) : pm_R (d + 1) mt_X6_count 0 [some (.ref 0), some (.int l1)] [] h Q := by
  unfold wp_X6_count at hw
  refine pm_steps 2 ?_
  refine @pm_we _ _ _ _ _ _ hw (fun hw => ?_) (fun hw => ?_)
  · exact pm_steps 4 hw
  · refine @pm_we _ _ _ _ _ _ hw (fun hw => ?_) (fun hw => ?_)
    · exact pm_steps 4 hw
    · refine @pm_we _ _ _ _ _ _ hw (fun hw => ?_) (fun hw => ?_)
      · exact pm_steps 4 hw
      · refine @pm_we _ _ _ _ _ _ hw (fun hw => ?_) (fun hw => ?_)
        · refine pm_steps 3 ?_
          refine @wp_X3_countOnSteps_r1_ok _ _ _ (@wp_X3_countOnSteps_r1_mono _ _ _ (fun r291 h290 hw => ?_) hw)
          exact pm_steps 1 hw
        · refine @pm_we _ _ _ _ _ _ hw (fun hw => ?_) (fun hw => ?_)
          · refine pm_steps 3 ?_
            refine @wp_X3_countIn_r1_ok _ _ _ (@wp_X3_countIn_r1_mono _ _ _ (fun r286 h285 hw => ?_) hw)
            exact pm_steps 1 hw
          · refine @pm_we _ _ _ _ _ _ hw (fun hw => ?_) (fun hw => ?_)
            · exact pm_steps 3 hw
            · refine @pm_we _ _ _ _ _ _ hw (fun hw => ?_) (fun hw => ?_)
              · exact pm_steps 4 hw
              · refine @pm_we _ _ _ _ _ _ hw (fun hw => ?_) (fun hw => ?_)
                · exact pm_steps 4 hw
                · exact pm_steps 2 hw
/-! StairLines$Sheet.becomeMissing()V -/
set_option maxRecDepth 16384 in
def wp_X2_becomeMissing (l0 : Nat) (h : pm_H) (Q : pm_H → Prop) : Prop := pm_ib (pm_at 2 l0 2) (pm_ib (pm_at 2 l0 2) (Q (pm_u (pm_u h l0 1 (-1)) l0 2 0)))
set_option maxRecDepth 16384 in
theorem wp_X2_becomeMissing_mono {l0 : Nat} {h : pm_H} {Q Q' : pm_H → Prop} (hQ : ∀ h, Q h → Q' h) : wp_X2_becomeMissing l0 h Q → wp_X2_becomeMissing l0 h Q' := by unfold wp_X2_becomeMissing; exact (@pm_ib_mono _ _ _ (@pm_ib_mono _ _ _ (hQ _)))
set_option maxRecDepth 16384 in
theorem wp_X2_becomeMissing_ok {d : Nat} {l0 : Nat} {h : pm_H} {Q : Option Value → pm_H → Prop} (hw : wp_X2_becomeMissing l0 h (fun h => Q none h)) : pm_R (d + 0) mt_X2_becomeMissing 0 [some (.ref l0)] [] h Q := by
  unfold wp_X2_becomeMissing at hw
  refine pm_steps 3 ?_
  refine @pm_wc _ _ _ hw (fun hw => ?_)
  refine pm_steps 3 ?_
  refine @pm_wc _ _ _ hw (fun hw => ?_)
  exact pm_steps 1 hw
/-! java/util/Arrays.fill([II)V -/
set_option maxRecDepth 16384 in
def wl_J7_fill_53178_5 (l0 : Nat) (l1 : Int32) (l3 : Int32) (K20 : pm_H → Prop) (Q : pm_H → Prop) : Nat → Int32 → pm_H → Prop
  | 0, _, _ => False
  | n + 1, l2, h => pm_lt l2 l3 (pm_ib (pm_at 8 l0 8) (pm_ib (pm_in l2 (pm_len l0)) (wl_J7_fill_53178_5 l0 l1 l3 K20 Q n (pm_op (l2 + 1)) (pm_u h l0 l2.toNatClampNeg l1)))) (K20  h)
set_option maxRecDepth 16384 in
theorem wl_J7_fill_53178_5_mono {l0 : Nat} {l1 : Int32} {l3 : Int32} {K20 K20' : pm_H → Prop}  {Q Q' : pm_H → Prop}  (mK20 : ∀  h, K20  h → K20'  h) (hQ : ∀ h, Q h → Q' h) : ∀ (n : Nat) (l2 : Int32) (h : pm_H), wl_J7_fill_53178_5 l0 l1 l3 K20 Q n l2 h → wl_J7_fill_53178_5 l0 l1 l3 K20' Q' n l2 h
  | 0, _, _ => id
  | n + 1, l2, h => by unfold wl_J7_fill_53178_5; exact (@pm_lt_mono _ _ _ _ _ _ (@pm_ib_mono _ _ _ (@pm_ib_mono _ _ _ (wl_J7_fill_53178_5_mono mK20 hQ n _ _))) (mK20  _))
set_option maxRecDepth 16384 in
theorem wl_J7_fill_53178_5_ok {d : Nat} {l0 : Nat} {l1 : Int32} {l3 : Int32} {K20 : pm_H → Prop} {Q : Option Value → pm_H → Prop} (hK20 : ∀  (h : pm_H), K20  h → pm_R (d + 0) mt_J7_fill_53178 20 [none, none, none, none] [] h Q) : ∀ (n : Nat) (l2 : Int32) (h : pm_H), wl_J7_fill_53178_5 l0 l1 l3 K20 (fun h => Q none h) n l2 h → pm_R (d + 0) mt_J7_fill_53178 5 [some (.ref l0), some (.int l1), some (.int l2), some (.int l3)] [] h Q
  | 0, _, _ => fun hw => hw.elim
  | n + 1, l2, h => fun hw => by
    unfold wl_J7_fill_53178_5 at hw
    refine pm_steps 3 ?_
    refine @pm_wl _ _ _ _ _ _ hw (fun hw => ?_) (fun hw => ?_)
    · refine pm_steps 4 ?_
      refine @pm_wc _ _ _ hw (fun hw => ?_)
      refine @pm_wc _ _ _ hw (fun hw => ?_)
      refine pm_steps 2 ?_
      exact pm_fg (wl_J7_fill_53178_5_ok hK20 n _ _ hw) ⟨rfl, ⟨rfl, ⟨rfl, ⟨rfl, trivial⟩⟩⟩⟩
    · exact pm_fg (hK20  _ hw) trivial
set_option maxRecDepth 16384 in
def wp_J7_fill_53178 (l0 : Nat) (l1 : Int32) (h : pm_H) (Q : pm_H → Prop) : Prop := pm_ib (pm_at 8 l0 8) (∃ n301, wl_J7_fill_53178_5 l0 l1 (nI (pm_len l0)) (fun  h300 => Q h300) Q n301 0 h)
set_option maxRecDepth 16384 in
theorem wp_J7_fill_53178_mono {l0 : Nat} {l1 : Int32} {h : pm_H} {Q Q' : pm_H → Prop} (hQ : ∀ h, Q h → Q' h) : wp_J7_fill_53178 l0 l1 h Q → wp_J7_fill_53178 l0 l1 h Q' := by unfold wp_J7_fill_53178; exact (@pm_ib_mono _ _ _ (fun z => Exists.elim z (fun n301 z => ⟨n301, wl_J7_fill_53178_5_mono (fun  _ => (hQ _)) hQ n301 _ _ z⟩)))
set_option maxRecDepth 16384 in
theorem wp_J7_fill_53178_ok {d : Nat} {l0 : Nat} {l1 : Int32} {h : pm_H} {Q : Option Value → pm_H → Prop} (hw : wp_J7_fill_53178 l0 l1 h (fun h => Q none h)) : pm_R (d + 0) mt_J7_fill_53178 0 [some (.ref l0), some (.int l1), none, none] [] h Q := by
  unfold wp_J7_fill_53178 at hw
  refine pm_steps 4 ?_
  refine @pm_wb _ _ _ _ hw (fun hw => ?_)
  refine pm_steps 1 ?_
  obtain ⟨n301, hw⟩ := hw
  refine pm_fg (wl_J7_fill_53178_5_ok ?_ n301 _ _ hw) ⟨rfl, ⟨rfl, ⟨rfl, ⟨rfl, trivial⟩⟩⟩⟩
  · intro  h300 hw
    exact pm_steps 1 hw
/-! StairLines$Sheet.becomeRow(II)V -/
set_option maxRecDepth 16384 in
def wp_X2_becomeRow (l0 : Nat) (l1 : Int32) (l2 : Int32) (h : pm_H) (Q : pm_H → Prop) : Prop := pm_ib (pm_at 2 l0 2) (pm_ib (pm_at 2 l0 2) (pm_ib (pm_at 2 l0 2) (wp_J7_fill_53178 (l0 + 1) 0 (pm_u (pm_u h l0 1 l1) l0 2 l2) (fun h299 => Q h299))))
set_option maxRecDepth 16384 in
theorem wp_X2_becomeRow_mono {l0 : Nat} {l1 : Int32} {l2 : Int32} {h : pm_H} {Q Q' : pm_H → Prop} (hQ : ∀ h, Q h → Q' h) : wp_X2_becomeRow l0 l1 l2 h Q → wp_X2_becomeRow l0 l1 l2 h Q' := by unfold wp_X2_becomeRow; exact (@pm_ib_mono _ _ _ (@pm_ib_mono _ _ _ (@pm_ib_mono _ _ _ (@wp_J7_fill_53178_mono _ _ _ _ _ (fun _ => (hQ _))))))
set_option maxRecDepth 16384 in
theorem wp_X2_becomeRow_ok {d : Nat} {l0 : Nat} {l1 : Int32} {l2 : Int32} {h : pm_H} {Q : Option Value → pm_H → Prop} (hw : wp_X2_becomeRow l0 l1 l2 h (fun h => Q none h)) : pm_R (d + 1) mt_X2_becomeRow 0 [some (.ref l0), some (.int l1), some (.int l2)] [] h Q := by
  unfold wp_X2_becomeRow at hw
  refine pm_steps 3 ?_
  refine @pm_wc _ _ _ hw (fun hw => ?_)
  refine pm_steps 3 ?_
  refine @pm_wc _ _ _ hw (fun hw => ?_)
  refine pm_steps 2 ?_
  refine @pm_wc _ _ _ hw (fun hw => ?_)
  refine pm_steps 2 ?_
  refine @wp_J7_fill_53178_ok _ _ _ _ _ (@wp_J7_fill_53178_mono _ _ _ _ _ (fun h299 hw => ?_) hw)
  exact pm_steps 1 hw
/-! StairLines.isSort(I)Z -/
set_option maxRecDepth 16384 in
def wp_X6_isSort (l0 : Int32) (h : pm_H) (Q : Int32 → pm_H → Prop) : Prop := wp_X6_between l0 0 2 h (fun r307 h306 => pm_ib (pm_b01 r307) (Q r307 h306))
set_option maxRecDepth 16384 in
theorem wp_X6_isSort_mono {l0 : Int32} {h : pm_H} {Q Q' : Int32 → pm_H → Prop} (hQ : ∀ r h, Q r h → Q' r h) : wp_X6_isSort l0 h Q → wp_X6_isSort l0 h Q' := by unfold wp_X6_isSort; exact (@wp_X6_between_mono _ _ _ _ _ _ (fun _ _ => (@pm_ib_mono _ _ _ (hQ _ _))))
set_option maxRecDepth 16384 in
theorem wp_X6_isSort_ok {d : Nat} {l0 : Int32} {h : pm_H} {Q : Option Value → pm_H → Prop} (hw : wp_X6_isSort l0 h (fun r h => Q (some (.int r)) h)) : pm_R (d + 1) mt_X6_isSort 0 [some (.int l0)] [] h Q := by
  unfold wp_X6_isSort at hw
  refine pm_steps 4 ?_
  refine @wp_X6_between_ok _ _ _ _ _ _ (@wp_X6_between_mono _ _ _ _ _ _ (fun r307 h306 hw => ?_) hw)
  exact pm_steps 1 hw
/-! StairLines.sheet(III)I -/
set_option maxRecDepth 16384 in
def wp_X6_sheet (l1 : Int32) (l2 : Int32) (l3 : Int32) (h : pm_H) (Q : Int32 → pm_H → Prop) : Prop := wp_X6_isSheet l1 h (fun r296 h295 => pm_eq r296 0 (Q (-2) h295) (pm_eq l2 (-1) (pm_eq l2 (-1) (pm_ib (pm_in l1 4) (pm_ib (pm_at 6 (58 + 2 * l1.toNatClampNeg) 2) (wp_X2_becomeMissing (58 + 2 * l1.toNatClampNeg) h295 (fun h297 => Q 1 h297)))) (pm_lt 40 l3 (Q (-2) h295) (pm_lt l3 0 (Q (-14) h295) (pm_ib (pm_in l1 4) (pm_ib (pm_at 6 (58 + 2 * l1.toNatClampNeg) 2) (wp_X2_becomeRow (58 + 2 * l1.toNatClampNeg) l2 l3 h295 (fun h298 => Q 1 h298))))))) (wp_X6_isSort l2 h295 (fun r303 h302 => pm_eq r303 0 (Q (-2) h302) (pm_eq l2 (-1) (pm_ib (pm_in l1 4) (pm_ib (pm_at 6 (58 + 2 * l1.toNatClampNeg) 2) (wp_X2_becomeMissing (58 + 2 * l1.toNatClampNeg) h302 (fun h304 => Q 1 h304)))) (pm_lt 40 l3 (Q (-2) h302) (pm_lt l3 0 (Q (-14) h302) (pm_ib (pm_in l1 4) (pm_ib (pm_at 6 (58 + 2 * l1.toNatClampNeg) 2) (wp_X2_becomeRow (58 + 2 * l1.toNatClampNeg) l2 l3 h302 (fun h305 => Q 1 h305)))))))))))
set_option maxRecDepth 16384 in
theorem wp_X6_sheet_mono {l1 : Int32} {l2 : Int32} {l3 : Int32} {h : pm_H} {Q Q' : Int32 → pm_H → Prop} (hQ : ∀ r h, Q r h → Q' r h) : wp_X6_sheet l1 l2 l3 h Q → wp_X6_sheet l1 l2 l3 h Q' := by unfold wp_X6_sheet; exact (@wp_X6_isSheet_mono _ _ _ _ (fun _ _ => (@pm_eq_mono _ _ _ _ _ _ (hQ _ _) (@pm_eq_mono _ _ _ _ _ _ (@pm_eq_mono _ _ _ _ _ _ (@pm_ib_mono _ _ _ (@pm_ib_mono _ _ _ (@wp_X2_becomeMissing_mono _ _ _ _ (fun _ => (hQ _ _))))) (@pm_lt_mono _ _ _ _ _ _ (hQ _ _) (@pm_lt_mono _ _ _ _ _ _ (hQ _ _) (@pm_ib_mono _ _ _ (@pm_ib_mono _ _ _ (@wp_X2_becomeRow_mono _ _ _ _ _ _ (fun _ => (hQ _ _)))))))) (@wp_X6_isSort_mono _ _ _ _ (fun _ _ => (@pm_eq_mono _ _ _ _ _ _ (hQ _ _) (@pm_eq_mono _ _ _ _ _ _ (@pm_ib_mono _ _ _ (@pm_ib_mono _ _ _ (@wp_X2_becomeMissing_mono _ _ _ _ (fun _ => (hQ _ _))))) (@pm_lt_mono _ _ _ _ _ _ (hQ _ _) (@pm_lt_mono _ _ _ _ _ _ (hQ _ _) (@pm_ib_mono _ _ _ (@pm_ib_mono _ _ _ (@wp_X2_becomeRow_mono _ _ _ _ _ _ (fun _ => (hQ _ _)))))))))))))))
set_option maxRecDepth 16384 in
theorem wp_X6_sheet_ok {d : Nat} {l1 : Int32} {l2 : Int32} {l3 : Int32} {h : pm_H} {Q : Option Value → pm_H → Prop} (hw : wp_X6_sheet l1 l2 l3 h (fun r h => Q (some (.int r)) h)) : pm_R (d + 2) mt_X6_sheet 0 [some (.ref 0), some (.int l1), some (.int l2), some (.int l3)] [] h Q := by
  unfold wp_X6_sheet at hw
  refine pm_steps 2 ?_
  refine @wp_X6_isSheet_ok _ _ _ _ (@wp_X6_isSheet_mono _ _ _ _ (fun r296 h295 hw => ?_) hw)
  refine pm_steps 1 ?_
  refine @pm_we _ _ _ _ _ _ hw (fun hw => ?_) (fun hw => ?_)
  · exact pm_steps 2 hw
  · refine pm_steps 3 ?_
    refine @pm_we _ _ _ _ _ _ hw (fun hw => ?_) (fun hw => ?_)
    · refine pm_steps 3 ?_
      refine @pm_we _ _ _ _ _ _ hw (fun hw => ?_) (fun hw => ?_)
      · refine pm_steps 4 ?_
        refine @pm_wc _ _ _ hw (fun hw => ?_)
        refine pm_steps 1 ?_
        refine @pm_wc _ _ _ hw (fun hw => ?_)
        refine @wp_X2_becomeMissing_ok _ _ _ _ (@wp_X2_becomeMissing_mono _ _ _ _ (fun h297 hw => ?_) hw)
        exact pm_steps 2 hw
      · refine pm_steps 3 ?_
        refine @pm_wl _ _ _ _ _ _ hw (fun hw => ?_) (fun hw => ?_)
        · exact pm_steps 2 hw
        · refine pm_steps 2 ?_
          refine @pm_wl _ _ _ _ _ _ hw (fun hw => ?_) (fun hw => ?_)
          · exact pm_steps 2 hw
          · refine pm_steps 4 ?_
            refine @pm_wc _ _ _ hw (fun hw => ?_)
            refine pm_steps 3 ?_
            refine @pm_wc _ _ _ hw (fun hw => ?_)
            refine @wp_X2_becomeRow_ok _ _ _ _ _ _ (@wp_X2_becomeRow_mono _ _ _ _ _ _ (fun h298 hw => ?_) hw)
            exact pm_steps 2 hw
    · refine pm_steps 2 ?_
      refine @wp_X6_isSort_ok _ _ _ _ (@wp_X6_isSort_mono _ _ _ _ (fun r303 h302 hw => ?_) hw)
      refine pm_steps 1 ?_
      refine @pm_we _ _ _ _ _ _ hw (fun hw => ?_) (fun hw => ?_)
      · exact pm_steps 2 hw
      · refine pm_steps 3 ?_
        refine @pm_we _ _ _ _ _ _ hw (fun hw => ?_) (fun hw => ?_)
        · refine pm_steps 4 ?_
          refine @pm_wc _ _ _ hw (fun hw => ?_)
          refine pm_steps 1 ?_
          refine @pm_wc _ _ _ hw (fun hw => ?_)
          refine @wp_X2_becomeMissing_ok _ _ _ _ (@wp_X2_becomeMissing_mono _ _ _ _ (fun h304 hw => ?_) hw)
          exact pm_steps 2 hw
        · refine pm_steps 3 ?_
          refine @pm_wl _ _ _ _ _ _ hw (fun hw => ?_) (fun hw => ?_)
          · exact pm_steps 2 hw
          · refine pm_steps 2 ?_
            refine @pm_wl _ _ _ _ _ _ hw (fun hw => ?_) (fun hw => ?_)
            · exact pm_steps 2 hw
            · refine pm_steps 4 ?_
              refine @pm_wc _ _ _ hw (fun hw => ?_)
              refine pm_steps 3 ?_
              refine @pm_wc _ _ _ hw (fun hw => ?_)
              refine @wp_X2_becomeRow_ok _ _ _ _ _ _ (@wp_X2_becomeRow_mono _ _ _ _ _ _ (fun h305 hw => ?_) hw)
              exact pm_steps 2 hw
/-! StairLines$Sheet.put(II)V -/
set_option maxRecDepth 16384 in
def wp_X2_put (l0 : Nat) (l1 : Int32) (l2 : Int32) (h : pm_H) (Q : pm_H → Prop) : Prop := pm_ib (pm_at 2 l0 2) (pm_eq (h l0 1) 0 (pm_ib (pm_at 2 l0 2) (pm_ib (pm_at 2 (l0 + 1) 8) (pm_ib (pm_in l1 (pm_len (l0 + 1))) (Q (pm_u h (l0 + 1) l1.toNatClampNeg (pm_op l2.toInt8.toInt32)))))) (pm_ib (pm_at 2 l0 2) (pm_eq (h l0 1) 1 (pm_ib (pm_at 2 l0 2) (pm_ib (pm_at 2 (l0 + 1) 8) (pm_ib (pm_in l1 (pm_len (l0 + 1))) (Q (pm_u h (l0 + 1) l1.toNatClampNeg (pm_op l2.toInt16.toInt32)))))) (pm_ib (pm_at 2 l0 2) (pm_ib (pm_at 2 (l0 + 1) 8) (pm_ib (pm_in l1 (pm_len (l0 + 1))) (Q (pm_u h (l0 + 1) l1.toNatClampNeg l2))))))))
set_option maxRecDepth 16384 in
theorem wp_X2_put_mono {l0 : Nat} {l1 : Int32} {l2 : Int32} {h : pm_H} {Q Q' : pm_H → Prop} (hQ : ∀ h, Q h → Q' h) : wp_X2_put l0 l1 l2 h Q → wp_X2_put l0 l1 l2 h Q' := by unfold wp_X2_put; exact (@pm_ib_mono _ _ _ (@pm_eq_mono _ _ _ _ _ _ (@pm_ib_mono _ _ _ (@pm_ib_mono _ _ _ (@pm_ib_mono _ _ _ (hQ _)))) (@pm_ib_mono _ _ _ (@pm_eq_mono _ _ _ _ _ _ (@pm_ib_mono _ _ _ (@pm_ib_mono _ _ _ (@pm_ib_mono _ _ _ (hQ _)))) (@pm_ib_mono _ _ _ (@pm_ib_mono _ _ _ (@pm_ib_mono _ _ _ (hQ _))))))))
set_option maxRecDepth 16384 in
theorem wp_X2_put_ok {d : Nat} {l0 : Nat} {l1 : Int32} {l2 : Int32} {h : pm_H} {Q : Option Value → pm_H → Prop} (hw : wp_X2_put l0 l1 l2 h (fun h => Q none h)) : pm_R (d + 0) mt_X2_put 0 [some (.ref l0), some (.int l1), some (.int l2)] [] h Q := by
  unfold wp_X2_put at hw
  refine pm_steps 2 ?_
  refine @pm_wc _ _ _ hw (fun hw => ?_)
  refine pm_steps 1 ?_
  refine @pm_we _ _ _ _ _ _ hw (fun hw => ?_) (fun hw => ?_)
  · refine pm_steps 2 ?_
    refine @pm_wc _ _ _ hw (fun hw => ?_)
    refine pm_steps 4 ?_
    refine @pm_wc _ _ _ hw (fun hw => ?_)
    refine @pm_wc _ _ _ hw (fun hw => ?_)
    exact pm_steps 2 hw
  · refine pm_steps 2 ?_
    refine @pm_wc _ _ _ hw (fun hw => ?_)
    refine pm_steps 2 ?_
    refine @pm_we _ _ _ _ _ _ hw (fun hw => ?_) (fun hw => ?_)
    · refine pm_steps 2 ?_
      refine @pm_wc _ _ _ hw (fun hw => ?_)
      refine pm_steps 4 ?_
      refine @pm_wc _ _ _ hw (fun hw => ?_)
      refine @pm_wc _ _ _ hw (fun hw => ?_)
      exact pm_steps 2 hw
    · refine pm_steps 2 ?_
      refine @pm_wc _ _ _ hw (fun hw => ?_)
      refine pm_steps 3 ?_
      refine @pm_wc _ _ _ hw (fun hw => ?_)
      refine @pm_wc _ _ _ hw (fun hw => ?_)
      exact pm_steps 1 hw
/-! StairLines$Sheet.hasPlaces(II)Z -/
set_option maxRecDepth 16384 in
def wp_X2_hasPlaces (l0 : Nat) (l1 : Int32) (l2 : Int32) (h : pm_H) (Q : Int32 → pm_H → Prop) : Prop := pm_lt l1 0 (Q 0 h) (pm_lt l2 0 (Q 0 h) (pm_ib (pm_at 2 l0 2) (pm_lt (h l0 2) l2 (Q 0 h) (pm_ib (pm_at 2 l0 2) (pm_lt (pm_op ((h l0 2) - l2)) l1 (Q 0 h) (Q 1 h))))))
set_option maxRecDepth 16384 in
theorem wp_X2_hasPlaces_mono {l0 : Nat} {l1 : Int32} {l2 : Int32} {h : pm_H} {Q Q' : Int32 → pm_H → Prop} (hQ : ∀ r h, Q r h → Q' r h) : wp_X2_hasPlaces l0 l1 l2 h Q → wp_X2_hasPlaces l0 l1 l2 h Q' := by unfold wp_X2_hasPlaces; exact (@pm_lt_mono _ _ _ _ _ _ (hQ _ _) (@pm_lt_mono _ _ _ _ _ _ (hQ _ _) (@pm_ib_mono _ _ _ (@pm_lt_mono _ _ _ _ _ _ (hQ _ _) (@pm_ib_mono _ _ _ (@pm_lt_mono _ _ _ _ _ _ (hQ _ _) (hQ _ _)))))))
set_option maxRecDepth 16384 in
theorem wp_X2_hasPlaces_ok {d : Nat} {l0 : Nat} {l1 : Int32} {l2 : Int32} {h : pm_H} {Q : Option Value → pm_H → Prop} (hw : wp_X2_hasPlaces l0 l1 l2 h (fun r h => Q (some (.int r)) h)) : pm_R (d + 0) mt_X2_hasPlaces 0 [some (.ref l0), some (.int l1), some (.int l2)] [] h Q := by
  unfold wp_X2_hasPlaces at hw
  refine pm_steps 2 ?_
  refine @pm_wl _ _ _ _ _ _ hw (fun hw => ?_) (fun hw => ?_)
  · exact pm_steps 2 hw
  · refine pm_steps 2 ?_
    refine @pm_wl _ _ _ _ _ _ hw (fun hw => ?_) (fun hw => ?_)
    · exact pm_steps 2 hw
    · refine pm_steps 3 ?_
      refine @pm_wc _ _ _ hw (fun hw => ?_)
      refine pm_steps 1 ?_
      refine @pm_wl _ _ _ _ _ _ hw (fun hw => ?_) (fun hw => ?_)
      · exact pm_steps 2 hw
      · refine pm_steps 3 ?_
        refine @pm_wc _ _ _ hw (fun hw => ?_)
        refine pm_steps 3 ?_
        refine @pm_wl _ _ _ _ _ _ hw (fun hw => ?_) (fun hw => ?_)
        · exact pm_steps 2 hw
        · exact pm_steps 3 hw
/-! StairLines.cell(III)I -/
set_option maxRecDepth 16384 in
def wp_X6_cell (l1 : Int32) (l2 : Int32) (l3 : Int32) (h : pm_H) (Q : Int32 → pm_H → Prop) : Prop := wp_X6_isSheet l1 h (fun r309 h308 => pm_eq r309 0 (Q (-2) h308) (pm_ib (pm_in l1 4) (pm_ib (pm_at 6 (58 + 2 * l1.toNatClampNeg) 2) (wp_X2_isMissing (58 + 2 * l1.toNatClampNeg) h308 (fun r311 h310 => pm_eq r311 0 (pm_ib (pm_at 6 (58 + 2 * l1.toNatClampNeg) 2) (wp_X2_hasPlaces (58 + 2 * l1.toNatClampNeg) l2 1 h310 (fun r313 h312 => pm_eq r313 0 (Q (-12) h312) (pm_ib (pm_at 6 (58 + 2 * l1.toNatClampNeg) 2) (wp_X2_put (58 + 2 * l1.toNatClampNeg) l2 l3 h312 (fun h314 => Q 1 h314)))))) (Q (-11) h310))))))
set_option maxRecDepth 16384 in
theorem wp_X6_cell_mono {l1 : Int32} {l2 : Int32} {l3 : Int32} {h : pm_H} {Q Q' : Int32 → pm_H → Prop} (hQ : ∀ r h, Q r h → Q' r h) : wp_X6_cell l1 l2 l3 h Q → wp_X6_cell l1 l2 l3 h Q' := by unfold wp_X6_cell; exact (@wp_X6_isSheet_mono _ _ _ _ (fun _ _ => (@pm_eq_mono _ _ _ _ _ _ (hQ _ _) (@pm_ib_mono _ _ _ (@pm_ib_mono _ _ _ (@wp_X2_isMissing_mono _ _ _ _ (fun _ _ => (@pm_eq_mono _ _ _ _ _ _ (@pm_ib_mono _ _ _ (@wp_X2_hasPlaces_mono _ _ _ _ _ _ (fun _ _ => (@pm_eq_mono _ _ _ _ _ _ (hQ _ _) (@pm_ib_mono _ _ _ (@wp_X2_put_mono _ _ _ _ _ _ (fun _ => (hQ _ _)))))))) (hQ _ _)))))))))
set_option maxRecDepth 16384 in
theorem wp_X6_cell_ok {d : Nat} {l1 : Int32} {l2 : Int32} {l3 : Int32} {h : pm_H} {Q : Option Value → pm_H → Prop} (hw : wp_X6_cell l1 l2 l3 h (fun r h => Q (some (.int r)) h)) : pm_R (d + 2) mt_X6_cell 0 [some (.ref 0), some (.int l1), some (.int l2), some (.int l3), none] [] h Q := by
  unfold wp_X6_cell at hw
  refine pm_steps 2 ?_
  refine @wp_X6_isSheet_ok _ _ _ _ (@wp_X6_isSheet_mono _ _ _ _ (fun r309 h308 hw => ?_) hw)
  refine pm_steps 1 ?_
  refine @pm_we _ _ _ _ _ _ hw (fun hw => ?_) (fun hw => ?_)
  · exact pm_steps 2 hw
  · refine pm_steps 4 ?_
    refine @pm_wc _ _ _ hw (fun hw => ?_)
    refine pm_steps 3 ?_
    refine @pm_wc _ _ _ hw (fun hw => ?_)
    refine @wp_X2_isMissing_ok _ _ _ _ (@wp_X2_isMissing_mono _ _ _ _ (fun r311 h310 hw => ?_) hw)
    refine pm_steps 1 ?_
    refine @pm_we _ _ _ _ _ _ hw (fun hw => ?_) (fun hw => ?_)
    · refine pm_steps 4 ?_
      refine @pm_wc _ _ _ hw (fun hw => ?_)
      refine @wp_X2_hasPlaces_ok _ _ _ _ _ _ (@wp_X2_hasPlaces_mono _ _ _ _ _ _ (fun r313 h312 hw => ?_) hw)
      refine pm_steps 1 ?_
      refine @pm_we _ _ _ _ _ _ hw (fun hw => ?_) (fun hw => ?_)
      · exact pm_steps 2 hw
      · refine pm_steps 4 ?_
        refine @pm_wc _ _ _ hw (fun hw => ?_)
        refine @wp_X2_put_ok _ _ _ _ _ _ (@wp_X2_put_mono _ _ _ _ _ _ (fun h314 hw => ?_) hw)
        exact pm_steps 2 hw
    · exact pm_steps 2 hw
/-! StairLines.copy(IIIII)I -/
set_option maxRecDepth 16384 in
def wp_X6_copy (l1 : Int32) (l2 : Int32) (l3 : Int32) (l4 : Int32) (l5 : Int32) (h : pm_H) (Q : Int32 → pm_H → Prop) : Prop := wp_X6_isSheet l1 h (fun r316 h315 => pm_eq r316 0 (Q (-2) h315) (wp_X6_isSheet l3 h315 (fun r318 h317 => pm_eq r318 0 (Q (-2) h317) (pm_ib (pm_in l1 4) (pm_ib (pm_in l3 4) (pm_ib (pm_at 6 (58 + 2 * l1.toNatClampNeg) 2) (wp_X2_isMissing (58 + 2 * l1.toNatClampNeg) h317 (fun r320 h319 => pm_eq r320 0 (pm_ib (pm_at 6 (58 + 2 * l3.toNatClampNeg) 2) (wp_X2_isMissing (58 + 2 * l3.toNatClampNeg) h319 (fun r322 h321 => pm_eq r322 0 (pm_ib (pm_at 6 (58 + 2 * l1.toNatClampNeg) 2) (pm_ib (pm_at 6 (58 + 2 * l3.toNatClampNeg) 2) (pm_eq (h321 (58 + 2 * l1.toNatClampNeg) 1) (h321 (58 + 2 * l3.toNatClampNeg) 1) (pm_ib (pm_at 6 (58 + 2 * l1.toNatClampNeg) 2) (wp_X2_hasPlaces (58 + 2 * l1.toNatClampNeg) l2 l5 h321 (fun r324 h323 => pm_eq r324 0 (Q (-12) h323) (pm_ib (pm_at 6 (58 + 2 * l3.toNatClampNeg) 2) (wp_X2_hasPlaces (58 + 2 * l3.toNatClampNeg) l4 l5 h323 (fun r326 h325 => pm_eq r326 0 (Q (-12) h325) (pm_ib (pm_at 6 (58 + 2 * l1.toNatClampNeg) 2) (pm_ib (pm_at 6 (58 + 2 * l3.toNatClampNeg) 2) (pm_ib (pm_at 6 ((58 + 2 * l1.toNatClampNeg) + 1) 8) (pm_ib (pm_at 6 ((58 + 2 * l3.toNatClampNeg) + 1) 8) (pm_ib (pm_ck l2 l4 l5 (pm_len ((58 + 2 * l1.toNatClampNeg) + 1)) (pm_len ((58 + 2 * l3.toNatClampNeg) + 1))) (Q l5 (pm_cp h325 ((58 + 2 * l1.toNatClampNeg) + 1) l2.toNatClampNeg ((58 + 2 * l3.toNatClampNeg) + 1) l4.toNatClampNeg l5.toNatClampNeg))))))))))))) (Q (-13) h321)))) (Q (-11) h321)))) (Q (-11) h319)))))))))
set_option maxRecDepth 16384 in
theorem wp_X6_copy_mono {l1 : Int32} {l2 : Int32} {l3 : Int32} {l4 : Int32} {l5 : Int32} {h : pm_H} {Q Q' : Int32 → pm_H → Prop} (hQ : ∀ r h, Q r h → Q' r h) : wp_X6_copy l1 l2 l3 l4 l5 h Q → wp_X6_copy l1 l2 l3 l4 l5 h Q' := by unfold wp_X6_copy; exact (@wp_X6_isSheet_mono _ _ _ _ (fun _ _ => (@pm_eq_mono _ _ _ _ _ _ (hQ _ _) (@wp_X6_isSheet_mono _ _ _ _ (fun _ _ => (@pm_eq_mono _ _ _ _ _ _ (hQ _ _) (@pm_ib_mono _ _ _ (@pm_ib_mono _ _ _ (@pm_ib_mono _ _ _ (@wp_X2_isMissing_mono _ _ _ _ (fun _ _ => (@pm_eq_mono _ _ _ _ _ _ (@pm_ib_mono _ _ _ (@wp_X2_isMissing_mono _ _ _ _ (fun _ _ => (@pm_eq_mono _ _ _ _ _ _ (@pm_ib_mono _ _ _ (@pm_ib_mono _ _ _ (@pm_eq_mono _ _ _ _ _ _ (@pm_ib_mono _ _ _ (@wp_X2_hasPlaces_mono _ _ _ _ _ _ (fun _ _ => (@pm_eq_mono _ _ _ _ _ _ (hQ _ _) (@pm_ib_mono _ _ _ (@wp_X2_hasPlaces_mono _ _ _ _ _ _ (fun _ _ => (@pm_eq_mono _ _ _ _ _ _ (hQ _ _) (@pm_ib_mono _ _ _ (@pm_ib_mono _ _ _ (@pm_ib_mono _ _ _ (@pm_ib_mono _ _ _ (@pm_ib_mono _ _ _ (hQ _ _)))))))))))))) (hQ _ _)))) (hQ _ _))))) (hQ _ _)))))))))))))
set_option maxRecDepth 16384 in
theorem wp_X6_copy_ok {d : Nat} {l1 : Int32} {l2 : Int32} {l3 : Int32} {l4 : Int32} {l5 : Int32} {h : pm_H} {Q : Option Value → pm_H → Prop} (hw : wp_X6_copy l1 l2 l3 l4 l5 h (fun r h => Q (some (.int r)) h)) : pm_R (d + 2) mt_X6_copy 0 [some (.ref 0), some (.int l1), some (.int l2), some (.int l3), some (.int l4), some (.int l5), none, none] [] h Q := by
  unfold wp_X6_copy at hw
  refine pm_steps 2 ?_
  refine @wp_X6_isSheet_ok _ _ _ _ (@wp_X6_isSheet_mono _ _ _ _ (fun r316 h315 hw => ?_) hw)
  refine pm_steps 1 ?_
  refine @pm_we _ _ _ _ _ _ hw (fun hw => ?_) (fun hw => ?_)
  · exact pm_steps 2 hw
  · refine pm_steps 2 ?_
    refine @wp_X6_isSheet_ok _ _ _ _ (@wp_X6_isSheet_mono _ _ _ _ (fun r318 h317 hw => ?_) hw)
    refine pm_steps 1 ?_
    refine @pm_we _ _ _ _ _ _ hw (fun hw => ?_) (fun hw => ?_)
    · exact pm_steps 2 hw
    · refine pm_steps 4 ?_
      refine @pm_wc _ _ _ hw (fun hw => ?_)
      refine pm_steps 5 ?_
      refine @pm_wc _ _ _ hw (fun hw => ?_)
      refine pm_steps 3 ?_
      refine @pm_wc _ _ _ hw (fun hw => ?_)
      refine @wp_X2_isMissing_ok _ _ _ _ (@wp_X2_isMissing_mono _ _ _ _ (fun r320 h319 hw => ?_) hw)
      refine pm_steps 1 ?_
      refine @pm_we _ _ _ _ _ _ hw (fun hw => ?_) (fun hw => ?_)
      · refine pm_steps 2 ?_
        refine @pm_wc _ _ _ hw (fun hw => ?_)
        refine @wp_X2_isMissing_ok _ _ _ _ (@wp_X2_isMissing_mono _ _ _ _ (fun r322 h321 hw => ?_) hw)
        refine pm_steps 1 ?_
        refine @pm_we _ _ _ _ _ _ hw (fun hw => ?_) (fun hw => ?_)
        · refine pm_steps 2 ?_
          refine @pm_wc _ _ _ hw (fun hw => ?_)
          refine pm_steps 2 ?_
          refine @pm_wc _ _ _ hw (fun hw => ?_)
          refine pm_steps 1 ?_
          refine @pm_we _ _ _ _ _ _ hw (fun hw => ?_) (fun hw => ?_)
          · refine pm_steps 4 ?_
            refine @pm_wc _ _ _ hw (fun hw => ?_)
            refine @wp_X2_hasPlaces_ok _ _ _ _ _ _ (@wp_X2_hasPlaces_mono _ _ _ _ _ _ (fun r324 h323 hw => ?_) hw)
            refine pm_steps 1 ?_
            refine @pm_we _ _ _ _ _ _ hw (fun hw => ?_) (fun hw => ?_)
            · exact pm_steps 2 hw
            · refine pm_steps 4 ?_
              refine @pm_wc _ _ _ hw (fun hw => ?_)
              refine @wp_X2_hasPlaces_ok _ _ _ _ _ _ (@wp_X2_hasPlaces_mono _ _ _ _ _ _ (fun r326 h325 hw => ?_) hw)
              refine pm_steps 1 ?_
              refine @pm_we _ _ _ _ _ _ hw (fun hw => ?_) (fun hw => ?_)
              · exact pm_steps 2 hw
              · refine pm_steps 2 ?_
                refine @pm_wc _ _ _ hw (fun hw => ?_)
                refine pm_steps 3 ?_
                refine @pm_wc _ _ _ hw (fun hw => ?_)
                refine pm_steps 3 ?_
                refine @pm_wc _ _ _ hw (fun hw => ?_)
                refine @pm_wc _ _ _ hw (fun hw => ?_)
                refine @pm_wc _ _ _ hw (fun hw => ?_)
                exact pm_steps 2 hw
          · exact pm_steps 2 hw
        · exact pm_steps 2 hw
      · exact pm_steps 2 hw
/-! StairLines.classes(IIII)I -/
set_option maxRecDepth 16384 in
def wl_X6_classes_64 (l3 : Int32) (l4 : Int32) (l5 : Nat) (K90 : pm_H → Prop) (K137 : Int32 → pm_H → Prop) (Q : Int32 → pm_H → Prop) : Nat → Int32 → Int32 → pm_H → Prop
  | 0, _, _, _ => False
  | n + 1, l6, l7, h => pm_lt l7 l4 (pm_ib (pm_at 6 l5 2) (wp_X2_hasPlaces l5 (pm_op (l3 + (pm_op (3 * l7)))) 3 h (fun r336 h335 => pm_eq r336 0 (K90  h335) (pm_ib (pm_at 6 l5 2) (pm_ib (pm_at 6 (l5 + 1) 8) (pm_ib (pm_in (pm_op (l3 + (pm_op (3 * l7)))) (pm_len (l5 + 1))) (pm_ib (pm_at 6 l5 2) (pm_ib (pm_at 6 (l5 + 1) 8) (pm_ib (pm_in (pm_op ((pm_op (l3 + (pm_op (3 * l7)))) + 1)) (pm_len (l5 + 1))) (pm_ib (pm_at 6 l5 2) (pm_ib (pm_at 6 (l5 + 1) 8) (pm_ib (pm_in (pm_op ((pm_op (l3 + (pm_op (3 * l7)))) + 2)) (pm_len (l5 + 1))) (wp_X6_come (h335 (l5 + 1) (pm_op (l3 + (pm_op (3 * l7)))).toNatClampNeg) (h335 (l5 + 1) (pm_op ((pm_op (l3 + (pm_op (3 * l7)))) + 1)).toNatClampNeg) (h335 (l5 + 1) (pm_op ((pm_op (l3 + (pm_op (3 * l7)))) + 2)).toNatClampNeg) h335 (fun r338 h337 => pm_lt r338 0 (wl_X6_classes_64 l3 l4 l5 K90 K137 Q n l6 (pm_op (l7 + 1)) h337) (wl_X6_classes_64 l3 l4 l5 K90 K137 Q n (pm_op (l6 + 1)) (pm_op (l7 + 1)) h337))))))))))))))) (K137 l6 h)
set_option maxRecDepth 16384 in
theorem wl_X6_classes_64_mono {l3 : Int32} {l4 : Int32} {l5 : Nat} {K90 K90' : pm_H → Prop} {K137 K137' : Int32 → pm_H → Prop}  {Q Q' : Int32 → pm_H → Prop}  (mK90 : ∀  h, K90  h → K90'  h) (mK137 : ∀ x6 h, K137 x6 h → K137' x6 h) (hQ : ∀ r h, Q r h → Q' r h) : ∀ (n : Nat) (l6 : Int32) (l7 : Int32) (h : pm_H), wl_X6_classes_64 l3 l4 l5 K90 K137 Q n l6 l7 h → wl_X6_classes_64 l3 l4 l5 K90' K137' Q' n l6 l7 h
  | 0, _, _, _ => id
  | n + 1, l6, l7, h => by unfold wl_X6_classes_64; exact (@pm_lt_mono _ _ _ _ _ _ (@pm_ib_mono _ _ _ (@wp_X2_hasPlaces_mono _ _ _ _ _ _ (fun _ _ => (@pm_eq_mono _ _ _ _ _ _ (mK90  _) (@pm_ib_mono _ _ _ (@pm_ib_mono _ _ _ (@pm_ib_mono _ _ _ (@pm_ib_mono _ _ _ (@pm_ib_mono _ _ _ (@pm_ib_mono _ _ _ (@pm_ib_mono _ _ _ (@pm_ib_mono _ _ _ (@pm_ib_mono _ _ _ (@wp_X6_come_mono _ _ _ _ _ _ (fun _ _ => (@pm_lt_mono _ _ _ _ _ _ (wl_X6_classes_64_mono mK90 mK137 hQ n _ _ _) (wl_X6_classes_64_mono mK90 mK137 hQ n _ _ _))))))))))))))))) (mK137 _ _))
set_option maxRecDepth 16384 in
theorem wl_X6_classes_64_ok {d : Nat} {l3 : Int32} {l4 : Int32} {l5 : Nat} {K90 : pm_H → Prop} {K137 : Int32 → pm_H → Prop} {Q : Option Value → pm_H → Prop} (hK90 : ∀  (h : pm_H), K90  h → pm_R (d + 3) mt_X6_classes 90 [none, none, none, none, none, none, none, none, none] [] h Q) (hK137 : ∀ (x6 : Int32) (h : pm_H), K137 x6 h → pm_R (d + 3) mt_X6_classes 137 [none, none, none, none, none, none, some (.int x6), none, none] [] h Q) : ∀ (n : Nat) (l6 : Int32) (l7 : Int32) (h : pm_H), wl_X6_classes_64 l3 l4 l5 K90 K137 (fun r h => Q (some (.int r)) h) n l6 l7 h → pm_R (d + 3) mt_X6_classes 64 [some (.ref 0), none, none, some (.int l3), some (.int l4), some (.ref l5), some (.int l6), some (.int l7), none] [] h Q
  | 0, _, _, _ => fun hw => hw.elim
  | n + 1, l6, l7, h => fun hw => by
    unfold wl_X6_classes_64 at hw
    refine pm_steps 3 ?_
    refine @pm_wl _ _ _ _ _ _ hw (fun hw => ?_) (fun hw => ?_)
    · refine pm_steps 10 ?_
      refine @pm_wc _ _ _ hw (fun hw => ?_)
      refine @wp_X2_hasPlaces_ok _ _ _ _ _ _ (@wp_X2_hasPlaces_mono _ _ _ _ _ _ (fun r336 h335 hw => ?_) hw)
      refine pm_steps 1 ?_
      refine @pm_we _ _ _ _ _ _ hw (fun hw => ?_) (fun hw => ?_)
      · exact pm_fg (hK90  _ hw) trivial
      · refine pm_steps 3 ?_
        refine @pm_wc _ _ _ hw (fun hw => ?_)
        refine pm_steps 2 ?_
        refine @pm_wb _ _ _ _ hw (fun hw => ?_)
        refine @pm_wc _ _ _ hw (fun hw => ?_)
        refine pm_steps 2 ?_
        refine @pm_wc _ _ _ hw (fun hw => ?_)
        refine pm_steps 4 ?_
        refine @pm_wb _ _ _ _ hw (fun hw => ?_)
        refine @pm_wc _ _ _ hw (fun hw => ?_)
        refine pm_steps 2 ?_
        refine @pm_wc _ _ _ hw (fun hw => ?_)
        refine pm_steps 4 ?_
        refine @pm_wb _ _ _ _ hw (fun hw => ?_)
        refine @pm_wc _ _ _ hw (fun hw => ?_)
        refine pm_steps 1 ?_
        refine @wp_X6_come_ok _ _ _ _ _ _ (@wp_X6_come_mono _ _ _ _ _ _ (fun r338 h337 hw => ?_) hw)
        refine pm_steps 1 ?_
        refine @pm_wl _ _ _ _ _ _ hw (fun hw => ?_) (fun hw => ?_)
        · refine pm_steps 2 ?_
          exact pm_fg (wl_X6_classes_64_ok hK90 hK137 n _ _ _ hw) ⟨rfl, ⟨rfl, ⟨rfl, ⟨rfl, ⟨rfl, ⟨rfl, trivial⟩⟩⟩⟩⟩⟩
        · refine pm_steps 3 ?_
          exact pm_fg (wl_X6_classes_64_ok hK90 hK137 n _ _ _ hw) ⟨rfl, ⟨rfl, ⟨rfl, ⟨rfl, ⟨rfl, ⟨rfl, trivial⟩⟩⟩⟩⟩⟩
    · exact pm_fg (hK137 _ _ hw) ⟨rfl, trivial⟩
set_option maxRecDepth 16384 in
def wp_X6_classes (l1 : Int32) (l2 : Int32) (l3 : Int32) (l4 : Int32) (h : pm_H) (Q : Int32 → pm_H → Prop) : Prop := wp_X6_isSheet l1 h (fun r328 h327 => pm_eq r328 0 (Q (-2) h327) (wp_X6_isSort l2 h327 (fun r330 h329 => pm_eq r330 0 (Q (-2) h329) (wp_X6_between l4 0 5 h329 (fun r332 h331 => pm_eq r332 0 (Q (-2) h331) (pm_ib (pm_in l1 4) (pm_ib (pm_at 6 (58 + 2 * l1.toNatClampNeg) 2) (wp_X2_isMissing (58 + 2 * l1.toNatClampNeg) h331 (fun r334 h333 => pm_eq r334 0 (pm_ib (pm_at 6 (58 + 2 * l1.toNatClampNeg) 2) (pm_eq (h333 (58 + 2 * l1.toNatClampNeg) 1) l2 (∃ n342, wl_X6_classes_64 l3 l4 (58 + 2 * l1.toNatClampNeg) (fun  h339 => Q (-12) h339) (fun x341 h340 => Q x341 h340) Q n342 0 0 h333) (Q (-13) h333))) (Q (-11) h333))))))))))
set_option maxRecDepth 16384 in
theorem wp_X6_classes_mono {l1 : Int32} {l2 : Int32} {l3 : Int32} {l4 : Int32} {h : pm_H} {Q Q' : Int32 → pm_H → Prop} (hQ : ∀ r h, Q r h → Q' r h) : wp_X6_classes l1 l2 l3 l4 h Q → wp_X6_classes l1 l2 l3 l4 h Q' := by unfold wp_X6_classes; exact (@wp_X6_isSheet_mono _ _ _ _ (fun _ _ => (@pm_eq_mono _ _ _ _ _ _ (hQ _ _) (@wp_X6_isSort_mono _ _ _ _ (fun _ _ => (@pm_eq_mono _ _ _ _ _ _ (hQ _ _) (@wp_X6_between_mono _ _ _ _ _ _ (fun _ _ => (@pm_eq_mono _ _ _ _ _ _ (hQ _ _) (@pm_ib_mono _ _ _ (@pm_ib_mono _ _ _ (@wp_X2_isMissing_mono _ _ _ _ (fun _ _ => (@pm_eq_mono _ _ _ _ _ _ (@pm_ib_mono _ _ _ (@pm_eq_mono _ _ _ _ _ _ (fun z => Exists.elim z (fun n342 z => ⟨n342, wl_X6_classes_64_mono (fun  _ => (hQ _ _)) (fun _ _ => (hQ _ _)) hQ n342 _ _ _ z⟩)) (hQ _ _))) (hQ _ _)))))))))))))))
set_option maxRecDepth 16384 in
theorem wp_X6_classes_ok {d : Nat} {l1 : Int32} {l2 : Int32} {l3 : Int32} {l4 : Int32} {h : pm_H} {Q : Option Value → pm_H → Prop} (hw : wp_X6_classes l1 l2 l3 l4 h (fun r h => Q (some (.int r)) h)) : pm_R (d + 3) mt_X6_classes 0 [some (.ref 0), some (.int l1), some (.int l2), some (.int l3), some (.int l4), none, none, none, none] [] h Q := by
  unfold wp_X6_classes at hw
  refine pm_steps 2 ?_
  refine @wp_X6_isSheet_ok _ _ _ _ (@wp_X6_isSheet_mono _ _ _ _ (fun r328 h327 hw => ?_) hw)
  refine pm_steps 1 ?_
  refine @pm_we _ _ _ _ _ _ hw (fun hw => ?_) (fun hw => ?_)
  · exact pm_steps 2 hw
  · refine pm_steps 2 ?_
    refine @wp_X6_isSort_ok _ _ _ _ (@wp_X6_isSort_mono _ _ _ _ (fun r330 h329 hw => ?_) hw)
    refine pm_steps 1 ?_
    refine @pm_we _ _ _ _ _ _ hw (fun hw => ?_) (fun hw => ?_)
    · exact pm_steps 2 hw
    · refine pm_steps 4 ?_
      refine @wp_X6_between_ok _ _ _ _ _ _ (@wp_X6_between_mono _ _ _ _ _ _ (fun r332 h331 hw => ?_) hw)
      refine pm_steps 1 ?_
      refine @pm_we _ _ _ _ _ _ hw (fun hw => ?_) (fun hw => ?_)
      · exact pm_steps 2 hw
      · refine pm_steps 4 ?_
        refine @pm_wc _ _ _ hw (fun hw => ?_)
        refine pm_steps 3 ?_
        refine @pm_wc _ _ _ hw (fun hw => ?_)
        refine @wp_X2_isMissing_ok _ _ _ _ (@wp_X2_isMissing_mono _ _ _ _ (fun r334 h333 hw => ?_) hw)
        refine pm_steps 1 ?_
        refine @pm_we _ _ _ _ _ _ hw (fun hw => ?_) (fun hw => ?_)
        · refine pm_steps 2 ?_
          refine @pm_wc _ _ _ hw (fun hw => ?_)
          refine pm_steps 2 ?_
          refine @pm_we _ _ _ _ _ _ hw (fun hw => ?_) (fun hw => ?_)
          · refine pm_steps 4 ?_
            obtain ⟨n342, hw⟩ := hw
            refine pm_fg (wl_X6_classes_64_ok ?_ ?_ n342 _ _ _ hw) ⟨rfl, ⟨rfl, ⟨rfl, ⟨rfl, ⟨rfl, ⟨rfl, trivial⟩⟩⟩⟩⟩⟩
            · intro  h339 hw
              exact pm_steps 2 hw
            · intro x341 h340 hw
              exact pm_steps 2 hw
          · exact pm_steps 2 hw
        · exact pm_steps 2 hw
/-! StairLines.isUnder(II)Z -/
set_option maxRecDepth 16384 in
def wl_X6_isUnder_4 (l1 : Int32) (K24 : pm_H → Prop) (K38 : pm_H → Prop) (Q : Int32 → pm_H → Prop) : Nat → Int32 → Int32 → pm_H → Prop
  | 0, _, _, _ => False
  | n + 1, l2, l3, h => pm_lt l3 6 (wp_X6_isKind l2 h (fun r350 h349 => pm_eq r350 0 (K38  h349) (pm_eq l2 l1 (K24  h349) (pm_ib (pm_in l2 6) (wl_X6_isUnder_4 l1 K24 K38 Q n (pm_un l2.toNatClampNeg) (pm_op (l3 + 1)) h349))))) (K38  h)
set_option maxRecDepth 16384 in
theorem wl_X6_isUnder_4_mono {l1 : Int32} {K24 K24' : pm_H → Prop} {K38 K38' : pm_H → Prop}  {Q Q' : Int32 → pm_H → Prop}  (mK24 : ∀  h, K24  h → K24'  h) (mK38 : ∀  h, K38  h → K38'  h) (hQ : ∀ r h, Q r h → Q' r h) : ∀ (n : Nat) (l2 : Int32) (l3 : Int32) (h : pm_H), wl_X6_isUnder_4 l1 K24 K38 Q n l2 l3 h → wl_X6_isUnder_4 l1 K24' K38' Q' n l2 l3 h
  | 0, _, _, _ => id
  | n + 1, l2, l3, h => by unfold wl_X6_isUnder_4; exact (@pm_lt_mono _ _ _ _ _ _ (@wp_X6_isKind_mono _ _ _ _ (fun _ _ => (@pm_eq_mono _ _ _ _ _ _ (mK38  _) (@pm_eq_mono _ _ _ _ _ _ (mK24  _) (@pm_ib_mono _ _ _ (wl_X6_isUnder_4_mono mK24 mK38 hQ n _ _ _)))))) (mK38  _))
set_option maxRecDepth 16384 in
theorem wl_X6_isUnder_4_ok {d : Nat} {l1 : Int32} {K24 : pm_H → Prop} {K38 : pm_H → Prop} {Q : Option Value → pm_H → Prop} (hK24 : ∀  (h : pm_H), K24  h → pm_R (d + 2) mt_X6_isUnder 24 [none, none, none, none] [] h Q) (hK38 : ∀  (h : pm_H), K38  h → pm_R (d + 2) mt_X6_isUnder 38 [none, none, none, none] [] h Q) : ∀ (n : Nat) (l2 : Int32) (l3 : Int32) (h : pm_H), wl_X6_isUnder_4 l1 K24 K38 (fun r h => Q (some (.int r)) h) n l2 l3 h → pm_R (d + 2) mt_X6_isUnder 4 [none, some (.int l1), some (.int l2), some (.int l3)] [] h Q
  | 0, _, _, _ => fun hw => hw.elim
  | n + 1, l2, l3, h => fun hw => by
    unfold wl_X6_isUnder_4 at hw
    refine pm_steps 4 ?_
    refine @pm_wl _ _ _ _ _ _ hw (fun hw => ?_) (fun hw => ?_)
    · refine pm_steps 2 ?_
      refine @wp_X6_isKind_ok _ _ _ _ (@wp_X6_isKind_mono _ _ _ _ (fun r350 h349 hw => ?_) hw)
      refine pm_steps 1 ?_
      refine @pm_we _ _ _ _ _ _ hw (fun hw => ?_) (fun hw => ?_)
      · exact pm_fg (hK38  _ hw) trivial
      · refine pm_steps 3 ?_
        refine @pm_we _ _ _ _ _ _ hw (fun hw => ?_) (fun hw => ?_)
        · exact pm_fg (hK24  _ hw) trivial
        · refine pm_steps 3 ?_
          refine @pm_wc _ _ _ hw (fun hw => ?_)
          refine pm_steps 3 ?_
          exact pm_fg (wl_X6_isUnder_4_ok hK24 hK38 n _ _ _ hw) ⟨rfl, ⟨rfl, ⟨rfl, trivial⟩⟩⟩
    · exact pm_fg (hK38  _ hw) trivial
set_option maxRecDepth 16384 in
def wp_X6_isUnder (l0 : Int32) (l1 : Int32) (h : pm_H) (Q : Int32 → pm_H → Prop) : Prop := ∃ n353, wl_X6_isUnder_4 l1 (fun  h351 => Q 1 h351) (fun  h352 => Q 0 h352) Q n353 l0 0 h
set_option maxRecDepth 16384 in
theorem wp_X6_isUnder_mono {l0 : Int32} {l1 : Int32} {h : pm_H} {Q Q' : Int32 → pm_H → Prop} (hQ : ∀ r h, Q r h → Q' r h) : wp_X6_isUnder l0 l1 h Q → wp_X6_isUnder l0 l1 h Q' := by unfold wp_X6_isUnder; exact (fun z => Exists.elim z (fun n353 z => ⟨n353, wl_X6_isUnder_4_mono (fun  _ => (hQ _ _)) (fun  _ => (hQ _ _)) hQ n353 _ _ _ z⟩))
set_option maxRecDepth 16384 in
theorem wp_X6_isUnder_ok {d : Nat} {l0 : Int32} {l1 : Int32} {h : pm_H} {Q : Option Value → pm_H → Prop} (hw : wp_X6_isUnder l0 l1 h (fun r h => Q (some (.int r)) h)) : pm_R (d + 2) mt_X6_isUnder 0 [some (.int l0), some (.int l1), none, none] [] h Q := by
  unfold wp_X6_isUnder at hw
  refine pm_steps 4 ?_
  obtain ⟨n353, hw⟩ := hw
  refine pm_fg (wl_X6_isUnder_4_ok ?_ ?_ n353 _ _ _ hw) ⟨rfl, ⟨rfl, ⟨rfl, trivial⟩⟩⟩
  · intro  h351 hw
    exact pm_steps 2 hw
  · intro  h352 hw
    exact pm_steps 2 hw
/-! StairLines.taken(II)I -/
set_option maxRecDepth 16384 in
def wp_X6_taken (l1 : Int32) (l2 : Int32) (h : pm_H) (Q : Int32 → pm_H → Prop) : Prop := wp_X6_isKind l2 h (fun r344 h343 => pm_eq r344 0 (Q (-2) h343) (wp_X6_isStep l1 h343 (fun r346 h345 => pm_eq r346 0 (Q (-11) h345) (pm_ib (pm_in l1 10) (wp_X6_isUnder (h345 2 l1.toNatClampNeg) l2 h345 (fun r348 h347 => pm_eq r348 0 (Q (-13) h347) (pm_ib (pm_in l1 10) (Q (h347 3 l1.toNatClampNeg) h347))))))))
set_option maxRecDepth 16384 in
theorem wp_X6_taken_mono {l1 : Int32} {l2 : Int32} {h : pm_H} {Q Q' : Int32 → pm_H → Prop} (hQ : ∀ r h, Q r h → Q' r h) : wp_X6_taken l1 l2 h Q → wp_X6_taken l1 l2 h Q' := by unfold wp_X6_taken; exact (@wp_X6_isKind_mono _ _ _ _ (fun _ _ => (@pm_eq_mono _ _ _ _ _ _ (hQ _ _) (@wp_X6_isStep_mono _ _ _ _ (fun _ _ => (@pm_eq_mono _ _ _ _ _ _ (hQ _ _) (@pm_ib_mono _ _ _ (@wp_X6_isUnder_mono _ _ _ _ _ (fun _ _ => (@pm_eq_mono _ _ _ _ _ _ (hQ _ _) (@pm_ib_mono _ _ _ (hQ _ _))))))))))))
set_option maxRecDepth 16384 in
theorem wp_X6_taken_ok {d : Nat} {l1 : Int32} {l2 : Int32} {h : pm_H} {Q : Option Value → pm_H → Prop} (hw : wp_X6_taken l1 l2 h (fun r h => Q (some (.int r)) h)) : pm_R (d + 3) mt_X6_taken 0 [some (.ref 0), some (.int l1), some (.int l2)] [] h Q := by
  unfold wp_X6_taken at hw
  refine pm_steps 2 ?_
  refine @wp_X6_isKind_ok _ _ _ _ (@wp_X6_isKind_mono _ _ _ _ (fun r344 h343 hw => ?_) hw)
  refine pm_steps 1 ?_
  refine @pm_we _ _ _ _ _ _ hw (fun hw => ?_) (fun hw => ?_)
  · exact pm_steps 2 hw
  · refine pm_steps 2 ?_
    refine @wp_X6_isStep_ok _ _ _ _ (@wp_X6_isStep_mono _ _ _ _ (fun r346 h345 hw => ?_) hw)
    refine pm_steps 1 ?_
    refine @pm_we _ _ _ _ _ _ hw (fun hw => ?_) (fun hw => ?_)
    · exact pm_steps 2 hw
    · refine pm_steps 5 ?_
      refine @pm_wc _ _ _ hw (fun hw => ?_)
      refine pm_steps 2 ?_
      refine @wp_X6_isUnder_ok _ _ _ _ _ (@wp_X6_isUnder_mono _ _ _ _ _ (fun r348 h347 hw => ?_) hw)
      refine pm_steps 1 ?_
      refine @pm_we _ _ _ _ _ _ hw (fun hw => ?_) (fun hw => ?_)
      · exact pm_steps 2 hw
      · refine pm_steps 5 ?_
        refine @pm_wc _ _ _ hw (fun hw => ?_)
        exact pm_steps 2 hw
/-! StairLines.exchange([IIIZ)I -/
set_option maxRecDepth 16384 in
def wp_X6_exchange (l0 : Nat) (l1 : Int32) (l2 : Int32) (l3 : Int32) (h : pm_H) (Q : Int32 → pm_H → Prop) : Prop := pm_eq l3 0 (Q (-2) h) (pm_lt l1 0 (Q (-2) h) (pm_ib (pm_at 6 l0 8) (pm_lt l1 (nI (pm_len l0)) (pm_ib (pm_at 6 l0 8) (pm_ib (pm_in l1 (pm_len l0)) (pm_ib (pm_at 6 l0 8) (pm_ib (pm_in l1 (pm_len l0)) (Q (h l0 l1.toNatClampNeg) (pm_u h l0 l1.toNatClampNeg l2)))))) (Q (-2) h))))
set_option maxRecDepth 16384 in
theorem wp_X6_exchange_mono {l0 : Nat} {l1 : Int32} {l2 : Int32} {l3 : Int32} {h : pm_H} {Q Q' : Int32 → pm_H → Prop} (hQ : ∀ r h, Q r h → Q' r h) : wp_X6_exchange l0 l1 l2 l3 h Q → wp_X6_exchange l0 l1 l2 l3 h Q' := by unfold wp_X6_exchange; exact (@pm_eq_mono _ _ _ _ _ _ (hQ _ _) (@pm_lt_mono _ _ _ _ _ _ (hQ _ _) (@pm_ib_mono _ _ _ (@pm_lt_mono _ _ _ _ _ _ (@pm_ib_mono _ _ _ (@pm_ib_mono _ _ _ (@pm_ib_mono _ _ _ (@pm_ib_mono _ _ _ (hQ _ _))))) (hQ _ _)))))
set_option maxRecDepth 16384 in
theorem wp_X6_exchange_ok {d : Nat} {l0 : Nat} {l1 : Int32} {l2 : Int32} {l3 : Int32} {h : pm_H} {Q : Option Value → pm_H → Prop} (hw : wp_X6_exchange l0 l1 l2 l3 h (fun r h => Q (some (.int r)) h)) : pm_R (d + 0) mt_X6_exchange 0 [some (.ref l0), some (.int l1), some (.int l2), some (.int l3), none] [] h Q := by
  unfold wp_X6_exchange at hw
  refine pm_steps 2 ?_
  refine @pm_we _ _ _ _ _ _ hw (fun hw => ?_) (fun hw => ?_)
  · exact pm_steps 2 hw
  · refine pm_steps 2 ?_
    refine @pm_wl _ _ _ _ _ _ hw (fun hw => ?_) (fun hw => ?_)
    · exact pm_steps 2 hw
    · refine pm_steps 3 ?_
      refine @pm_wb _ _ _ _ hw (fun hw => ?_)
      refine pm_steps 1 ?_
      refine @pm_wl _ _ _ _ _ _ hw (fun hw => ?_) (fun hw => ?_)
      · refine pm_steps 3 ?_
        refine @pm_wb _ _ _ _ hw (fun hw => ?_)
        refine @pm_wc _ _ _ hw (fun hw => ?_)
        refine pm_steps 5 ?_
        refine @pm_wc _ _ _ hw (fun hw => ?_)
        refine @pm_wc _ _ _ hw (fun hw => ?_)
        exact pm_steps 2 hw
      · exact pm_steps 2 hw
/-! StairLinesModel.within(III)Z -/
set_option maxRecDepth 16384 in
def wp_X7_within (l0 : Int32) (l1 : Int32) (l2 : Int32) (h : pm_H) (Q : Int32 → pm_H → Prop) : Prop := pm_lt l0 l1 (Q 0 h) (pm_lt l2 l0 (Q 0 h) (Q 1 h))
set_option maxRecDepth 16384 in
theorem wp_X7_within_mono {l0 : Int32} {l1 : Int32} {l2 : Int32} {h : pm_H} {Q Q' : Int32 → pm_H → Prop} (hQ : ∀ r h, Q r h → Q' r h) : wp_X7_within l0 l1 l2 h Q → wp_X7_within l0 l1 l2 h Q' := by unfold wp_X7_within; exact (@pm_lt_mono _ _ _ _ _ _ (hQ _ _) (@pm_lt_mono _ _ _ _ _ _ (hQ _ _) (hQ _ _)))
set_option maxRecDepth 16384 in
theorem wp_X7_within_ok {d : Nat} {l0 : Int32} {l1 : Int32} {l2 : Int32} {h : pm_H} {Q : Option Value → pm_H → Prop} (hw : wp_X7_within l0 l1 l2 h (fun r h => Q (some (.int r)) h)) : pm_R (d + 0) mt_X7_within 0 [some (.int l0), some (.int l1), some (.int l2)] [] h Q := by
  unfold wp_X7_within at hw
  refine pm_steps 3 ?_
  refine @pm_wl _ _ _ _ _ _ hw (fun hw => ?_) (fun hw => ?_)
  · exact pm_steps 2 hw
  · refine pm_steps 3 ?_
    refine @pm_wl _ _ _ _ _ _ hw (fun hw => ?_) (fun hw => ?_)
    · exact pm_steps 2 hw
    · exact pm_steps 3 hw
/-! StairLinesModel.isClass(I)Z -/
set_option maxRecDepth 16384 in
def wp_X7_isClass (l1 : Int32) (h : pm_H) (Q : Int32 → pm_H → Prop) : Prop := wp_X7_within l1 0 (pm_op ((h 66 3) - 1)) h (fun r355 h354 => pm_ib (pm_b01 r355) (Q r355 h354))
set_option maxRecDepth 16384 in
theorem wp_X7_isClass_mono {l1 : Int32} {h : pm_H} {Q Q' : Int32 → pm_H → Prop} (hQ : ∀ r h, Q r h → Q' r h) : wp_X7_isClass l1 h Q → wp_X7_isClass l1 h Q' := by unfold wp_X7_isClass; exact (@wp_X7_within_mono _ _ _ _ _ _ (fun _ _ => (@pm_ib_mono _ _ _ (hQ _ _))))
set_option maxRecDepth 16384 in
theorem wp_X7_isClass_ok {d : Nat} {l1 : Int32} {h : pm_H} {Q : Option Value → pm_H → Prop} (hw : wp_X7_isClass l1 h (fun r h => Q (some (.int r)) h)) : pm_R (d + 1) mt_X7_isClass 0 [some (.ref 66), some (.int l1)] [] h Q := by
  unfold wp_X7_isClass at hw
  refine pm_steps 7 ?_
  refine @wp_X7_within_ok _ _ _ _ _ _ (@wp_X7_within_mono _ _ _ _ _ _ (fun r355 h354 hw => ?_) hw)
  exact pm_steps 1 hw
/-! StairLinesModel.holds(II)I -/
set_option maxRecDepth 16384 in
def wp_X7_holds (l0 : Int32) (l1 : Int32) (h : pm_H) (Q : Int32 → pm_H → Prop) : Prop := pm_eq l0 0 (Q (pm_op (4 * l1)) h) (pm_eq l0 1 (Q (pm_op (2 * l1)) h) (pm_eq l0 2 (Q (pm_op ((pm_op (4 * l1)) + 2)) h) (pm_eq l0 3 (Q (pm_op ((pm_op (2 * l1)) - 1)) h) (pm_eq l0 4 (Q (pm_op ((pm_op (8 * l1)) + 4)) h) (Q (pm_op (2 * l1)) h)))))
set_option maxRecDepth 16384 in
theorem wp_X7_holds_mono {l0 : Int32} {l1 : Int32} {h : pm_H} {Q Q' : Int32 → pm_H → Prop} (hQ : ∀ r h, Q r h → Q' r h) : wp_X7_holds l0 l1 h Q → wp_X7_holds l0 l1 h Q' := by unfold wp_X7_holds; exact (@pm_eq_mono _ _ _ _ _ _ (hQ _ _) (@pm_eq_mono _ _ _ _ _ _ (hQ _ _) (@pm_eq_mono _ _ _ _ _ _ (hQ _ _) (@pm_eq_mono _ _ _ _ _ _ (hQ _ _) (@pm_eq_mono _ _ _ _ _ _ (hQ _ _) (hQ _ _))))))
set_option maxRecDepth 16384 in
theorem wp_X7_holds_ok {d : Nat} {l0 : Int32} {l1 : Int32} {h : pm_H} {Q : Option Value → pm_H → Prop} (hw : wp_X7_holds l0 l1 h (fun r h => Q (some (.int r)) h)) : pm_R (d + 0) mt_X7_holds 0 [some (.int l0), some (.int l1)] [] h Q := by
  unfold wp_X7_holds at hw
  refine pm_steps 2 ?_
  refine @pm_we _ _ _ _ _ _ hw (fun hw => ?_) (fun hw => ?_)
  · exact pm_steps 4 hw
  · refine @pm_we _ _ _ _ _ _ hw (fun hw => ?_) (fun hw => ?_)
    · exact pm_steps 4 hw
    · refine @pm_we _ _ _ _ _ _ hw (fun hw => ?_) (fun hw => ?_)
      · exact pm_steps 6 hw
      · refine @pm_we _ _ _ _ _ _ hw (fun hw => ?_) (fun hw => ?_)
        · exact pm_steps 6 hw
        · refine @pm_we _ _ _ _ _ _ hw (fun hw => ?_) (fun hw => ?_)
          · exact pm_steps 6 hw
          · exact pm_steps 4 hw
/-! StairLinesModel.holds(I)I -/
set_option maxRecDepth 16384 in
def wp_X7_holds_ (l1 : Int32) (h : pm_H) (Q : Int32 → pm_H → Prop) : Prop := pm_ib (pm_in l1 10) (pm_ib (pm_in l1 10) (wp_X7_holds (h 67 l1.toNatClampNeg) (h 68 l1.toNatClampNeg) h (fun r357 h356 => Q r357 h356)))
set_option maxRecDepth 16384 in
theorem wp_X7_holds__mono {l1 : Int32} {h : pm_H} {Q Q' : Int32 → pm_H → Prop} (hQ : ∀ r h, Q r h → Q' r h) : wp_X7_holds_ l1 h Q → wp_X7_holds_ l1 h Q' := by unfold wp_X7_holds_; exact (@pm_ib_mono _ _ _ (@pm_ib_mono _ _ _ (@wp_X7_holds_mono _ _ _ _ _ (fun _ _ => (hQ _ _)))))
set_option maxRecDepth 16384 in
theorem wp_X7_holds__ok {d : Nat} {l1 : Int32} {h : pm_H} {Q : Option Value → pm_H → Prop} (hw : wp_X7_holds_ l1 h (fun r h => Q (some (.int r)) h)) : pm_R (d + 1) mt_X7_holds_ 0 [some (.ref 66), some (.int l1)] [] h Q := by
  unfold wp_X7_holds_ at hw
  refine pm_steps 4 ?_
  refine @pm_wc _ _ _ hw (fun hw => ?_)
  refine pm_steps 4 ?_
  refine @pm_wc _ _ _ hw (fun hw => ?_)
  refine pm_steps 1 ?_
  refine @wp_X7_holds_ok _ _ _ _ _ (@wp_X7_holds_mono _ _ _ _ _ (fun r357 h356 hw => ?_) hw)
  exact pm_steps 1 hw
/-! StairLinesModel.passes(I)I -/
set_option maxRecDepth 16384 in
def wp_X7_passes (l1 : Int32) (h : pm_H) (Q : Int32 → pm_H → Prop) : Prop := pm_ib (pm_in l1 10) (pm_ib (pm_in l1 10) (pm_eq (h 67 l1.toNatClampNeg) 1 (Q (pm_op ((h 68 l1.toNatClampNeg) - 1)) h) (pm_eq (h 67 l1.toNatClampNeg) 2 (Q (h 68 l1.toNatClampNeg) h) (pm_eq (h 67 l1.toNatClampNeg) 3 (pm_lt 1 (h 68 l1.toNatClampNeg) (Q (pm_op ((h 68 l1.toNatClampNeg) - 1)) h) (Q 1 h)) (pm_eq (h 67 l1.toNatClampNeg) 4 (pm_eq (pm_op (pm_rem (h 66 9) 2)) 0 (Q (h 68 l1.toNatClampNeg) h) (Q 0 h)) (pm_eq (h 67 l1.toNatClampNeg) 5 (pm_nz (pm_op ((h 68 l1.toNatClampNeg) + 2)) (pm_eq (pm_op (pm_rem (h 66 9) (pm_op ((h 68 l1.toNatClampNeg) + 2)))) 0 (Q 0 h) (Q (pm_op ((h 68 l1.toNatClampNeg) - 1)) h))) (Q (h 68 l1.toNatClampNeg) h)))))))
set_option maxRecDepth 16384 in
theorem wp_X7_passes_mono {l1 : Int32} {h : pm_H} {Q Q' : Int32 → pm_H → Prop} (hQ : ∀ r h, Q r h → Q' r h) : wp_X7_passes l1 h Q → wp_X7_passes l1 h Q' := by unfold wp_X7_passes; exact (@pm_ib_mono _ _ _ (@pm_ib_mono _ _ _ (@pm_eq_mono _ _ _ _ _ _ (hQ _ _) (@pm_eq_mono _ _ _ _ _ _ (hQ _ _) (@pm_eq_mono _ _ _ _ _ _ (@pm_lt_mono _ _ _ _ _ _ (hQ _ _) (hQ _ _)) (@pm_eq_mono _ _ _ _ _ _ (@pm_eq_mono _ _ _ _ _ _ (hQ _ _) (hQ _ _)) (@pm_eq_mono _ _ _ _ _ _ (@pm_nz_mono _ _ _ (@pm_eq_mono _ _ _ _ _ _ (hQ _ _) (hQ _ _))) (hQ _ _))))))))
set_option maxRecDepth 16384 in
theorem wp_X7_passes_ok {d : Nat} {l1 : Int32} {h : pm_H} {Q : Option Value → pm_H → Prop} (hw : wp_X7_passes l1 h (fun r h => Q (some (.int r)) h)) : pm_R (d + 0) mt_X7_passes 0 [some (.ref 66), some (.int l1), none] [] h Q := by
  unfold wp_X7_passes at hw
  refine pm_steps 4 ?_
  refine @pm_wc _ _ _ hw (fun hw => ?_)
  refine pm_steps 5 ?_
  refine @pm_wc _ _ _ hw (fun hw => ?_)
  refine pm_steps 1 ?_
  refine @pm_we _ _ _ _ _ _ hw (fun hw => ?_) (fun hw => ?_)
  · exact pm_steps 4 hw
  · refine @pm_we _ _ _ _ _ _ hw (fun hw => ?_) (fun hw => ?_)
    · exact pm_steps 2 hw
    · refine @pm_we _ _ _ _ _ _ hw (fun hw => ?_) (fun hw => ?_)
      · refine pm_steps 3 ?_
        refine @pm_wl _ _ _ _ _ _ hw (fun hw => ?_) (fun hw => ?_)
        · exact pm_steps 5 hw
        · exact pm_steps 2 hw
      · refine @pm_we _ _ _ _ _ _ hw (fun hw => ?_) (fun hw => ?_)
        · refine pm_steps 5 ?_
          refine @pm_we _ _ _ _ _ _ hw (fun hw => ?_) (fun hw => ?_)
          · exact pm_steps 3 hw
          · exact pm_steps 2 hw
        · refine @pm_we _ _ _ _ _ _ hw (fun hw => ?_) (fun hw => ?_)
          · refine pm_steps 6 ?_
            refine @pm_wz _ _ _ hw (fun hw => ?_)
            refine pm_steps 1 ?_
            refine @pm_we _ _ _ _ _ _ hw (fun hw => ?_) (fun hw => ?_)
            · exact pm_steps 3 hw
            · exact pm_steps 4 hw
          · exact pm_steps 2 hw
/-! StairLinesModel.step(III)I -/
set_option maxRecDepth 16384 in
def wp_X7_step (l1 : Int32) (l2 : Int32) (l3 : Int32) (h : pm_H) (Q : Int32 → pm_H → Prop) : Prop := wp_X7_within l1 0 9 h (fun r359 h358 => pm_eq r359 0 (Q (-2) h358) (wp_X7_within l2 0 5 h358 (fun r361 h360 => pm_eq r361 0 (Q (-2) h360) (wp_X7_within l3 1 9 h360 (fun r363 h362 => pm_eq r363 0 (Q (-2) h362) (wp_X7_holds l2 l3 h362 (fun r365 h364 => pm_ib (pm_in l1 10) (pm_lt r365 (h364 69 l1.toNatClampNeg) (Q (-3) h364) (pm_ib (pm_in l1 10) (pm_ib (pm_in l1 10) (pm_ib (pm_in l1 10) (Q (h364 67 l1.toNatClampNeg) (pm_u (pm_u h364 67 l1.toNatClampNeg l2) 68 l1.toNatClampNeg l3)))))))))))))
set_option maxRecDepth 16384 in
theorem wp_X7_step_mono {l1 : Int32} {l2 : Int32} {l3 : Int32} {h : pm_H} {Q Q' : Int32 → pm_H → Prop} (hQ : ∀ r h, Q r h → Q' r h) : wp_X7_step l1 l2 l3 h Q → wp_X7_step l1 l2 l3 h Q' := by unfold wp_X7_step; exact (@wp_X7_within_mono _ _ _ _ _ _ (fun _ _ => (@pm_eq_mono _ _ _ _ _ _ (hQ _ _) (@wp_X7_within_mono _ _ _ _ _ _ (fun _ _ => (@pm_eq_mono _ _ _ _ _ _ (hQ _ _) (@wp_X7_within_mono _ _ _ _ _ _ (fun _ _ => (@pm_eq_mono _ _ _ _ _ _ (hQ _ _) (@wp_X7_holds_mono _ _ _ _ _ (fun _ _ => (@pm_ib_mono _ _ _ (@pm_lt_mono _ _ _ _ _ _ (hQ _ _) (@pm_ib_mono _ _ _ (@pm_ib_mono _ _ _ (@pm_ib_mono _ _ _ (hQ _ _)))))))))))))))))
set_option maxRecDepth 16384 in
theorem wp_X7_step_ok {d : Nat} {l1 : Int32} {l2 : Int32} {l3 : Int32} {h : pm_H} {Q : Option Value → pm_H → Prop} (hw : wp_X7_step l1 l2 l3 h (fun r h => Q (some (.int r)) h)) : pm_R (d + 1) mt_X7_step 0 [some (.ref 66), some (.int l1), some (.int l2), some (.int l3), none] [] h Q := by
  unfold wp_X7_step at hw
  refine pm_steps 4 ?_
  refine @wp_X7_within_ok _ _ _ _ _ _ (@wp_X7_within_mono _ _ _ _ _ _ (fun r359 h358 hw => ?_) hw)
  refine pm_steps 1 ?_
  refine @pm_we _ _ _ _ _ _ hw (fun hw => ?_) (fun hw => ?_)
  · exact pm_steps 2 hw
  · refine pm_steps 4 ?_
    refine @wp_X7_within_ok _ _ _ _ _ _ (@wp_X7_within_mono _ _ _ _ _ _ (fun r361 h360 hw => ?_) hw)
    refine pm_steps 1 ?_
    refine @pm_we _ _ _ _ _ _ hw (fun hw => ?_) (fun hw => ?_)
    · exact pm_steps 2 hw
    · refine pm_steps 4 ?_
      refine @wp_X7_within_ok _ _ _ _ _ _ (@wp_X7_within_mono _ _ _ _ _ _ (fun r363 h362 hw => ?_) hw)
      refine pm_steps 1 ?_
      refine @pm_we _ _ _ _ _ _ hw (fun hw => ?_) (fun hw => ?_)
      · exact pm_steps 2 hw
      · refine pm_steps 3 ?_
        refine @wp_X7_holds_ok _ _ _ _ _ (@wp_X7_holds_mono _ _ _ _ _ (fun r365 h364 hw => ?_) hw)
        refine pm_steps 4 ?_
        refine @pm_wc _ _ _ hw (fun hw => ?_)
        refine pm_steps 1 ?_
        refine @pm_wl _ _ _ _ _ _ hw (fun hw => ?_) (fun hw => ?_)
        · exact pm_steps 2 hw
        · refine pm_steps 4 ?_
          refine @pm_wc _ _ _ hw (fun hw => ?_)
          refine pm_steps 6 ?_
          refine @pm_wc _ _ _ hw (fun hw => ?_)
          refine pm_steps 5 ?_
          refine @pm_wc _ _ _ hw (fun hw => ?_)
          exact pm_steps 2 hw
/-! StairLinesModel.come(III)I -/
set_option maxRecDepth 16384 in
def wp_X7_come (l1 : Int32) (l2 : Int32) (l3 : Int32) (h : pm_H) (Q : Int32 → pm_H → Prop) : Prop := wp_X7_within l1 1 60 h (fun r367 h366 => pm_eq r367 0 (Q (-2) h366) (wp_X7_within l2 0 9 h366 (fun r369 h368 => pm_eq r369 0 (Q (-2) h368) (wp_X7_within l3 1 1999 h368 (fun r371 h370 => pm_eq r371 0 (Q (-2) h370) (pm_eq (pm_op (pm_rem l3 10)) 0 (Q (-2) h370) (pm_eq (h370 66 3) 5 (Q (-4) h370) (pm_ib (pm_in (h370 66 3) 5) (pm_ib (pm_in (h370 66 3) 5) (pm_ib (pm_in (h370 66 3) 5) (pm_ib (pm_in (h370 66 3) 5) (pm_ib (pm_in (h370 66 3) 5) (Q (h370 66 3) (pm_u (pm_u (pm_u (pm_u (pm_u (pm_u h370 70 (h370 66 3).toNatClampNeg l1) 71 (h370 66 3).toNatClampNeg l2) 72 (h370 66 3).toNatClampNeg (pm_op (l3 / 10))) 73 (h370 66 3).toNatClampNeg (pm_op (pm_rem l3 10))) 74 (h370 66 3).toNatClampNeg l1) 66 3 (pm_op ((h370 66 3) + 1))))))))))))))))
set_option maxRecDepth 16384 in
theorem wp_X7_come_mono {l1 : Int32} {l2 : Int32} {l3 : Int32} {h : pm_H} {Q Q' : Int32 → pm_H → Prop} (hQ : ∀ r h, Q r h → Q' r h) : wp_X7_come l1 l2 l3 h Q → wp_X7_come l1 l2 l3 h Q' := by unfold wp_X7_come; exact (@wp_X7_within_mono _ _ _ _ _ _ (fun _ _ => (@pm_eq_mono _ _ _ _ _ _ (hQ _ _) (@wp_X7_within_mono _ _ _ _ _ _ (fun _ _ => (@pm_eq_mono _ _ _ _ _ _ (hQ _ _) (@wp_X7_within_mono _ _ _ _ _ _ (fun _ _ => (@pm_eq_mono _ _ _ _ _ _ (hQ _ _) (@pm_eq_mono _ _ _ _ _ _ (hQ _ _) (@pm_eq_mono _ _ _ _ _ _ (hQ _ _) (@pm_ib_mono _ _ _ (@pm_ib_mono _ _ _ (@pm_ib_mono _ _ _ (@pm_ib_mono _ _ _ (@pm_ib_mono _ _ _ (hQ _ _)))))))))))))))))
set_option maxRecDepth 16384 in
theorem wp_X7_come_ok {d : Nat} {l1 : Int32} {l2 : Int32} {l3 : Int32} {h : pm_H} {Q : Option Value → pm_H → Prop} (hw : wp_X7_come l1 l2 l3 h (fun r h => Q (some (.int r)) h)) : pm_R (d + 1) mt_X7_come 0 [some (.ref 66), some (.int l1), some (.int l2), some (.int l3)] [] h Q := by
  unfold wp_X7_come at hw
  refine pm_steps 4 ?_
  refine @wp_X7_within_ok _ _ _ _ _ _ (@wp_X7_within_mono _ _ _ _ _ _ (fun r367 h366 hw => ?_) hw)
  refine pm_steps 1 ?_
  refine @pm_we _ _ _ _ _ _ hw (fun hw => ?_) (fun hw => ?_)
  · exact pm_steps 2 hw
  · refine pm_steps 4 ?_
    refine @wp_X7_within_ok _ _ _ _ _ _ (@wp_X7_within_mono _ _ _ _ _ _ (fun r369 h368 hw => ?_) hw)
    refine pm_steps 1 ?_
    refine @pm_we _ _ _ _ _ _ hw (fun hw => ?_) (fun hw => ?_)
    · exact pm_steps 2 hw
    · refine pm_steps 4 ?_
      refine @wp_X7_within_ok _ _ _ _ _ _ (@wp_X7_within_mono _ _ _ _ _ _ (fun r371 h370 hw => ?_) hw)
      refine pm_steps 1 ?_
      refine @pm_we _ _ _ _ _ _ hw (fun hw => ?_) (fun hw => ?_)
      · exact pm_steps 2 hw
      · refine pm_steps 4 ?_
        refine @pm_we _ _ _ _ _ _ hw (fun hw => ?_) (fun hw => ?_)
        · exact pm_steps 2 hw
        · refine pm_steps 4 ?_
          refine @pm_we _ _ _ _ _ _ hw (fun hw => ?_) (fun hw => ?_)
          · exact pm_steps 2 hw
          · refine pm_steps 6 ?_
            refine @pm_wc _ _ _ hw (fun hw => ?_)
            refine pm_steps 6 ?_
            refine @pm_wc _ _ _ hw (fun hw => ?_)
            refine pm_steps 8 ?_
            refine @pm_wc _ _ _ hw (fun hw => ?_)
            refine pm_steps 8 ?_
            refine @pm_wc _ _ _ hw (fun hw => ?_)
            refine pm_steps 6 ?_
            refine @pm_wc _ _ _ hw (fun hw => ?_)
            exact pm_steps 8 hw
/-! StairLinesModel.set(III)I -/
set_option maxRecDepth 16384 in
def wp_X7_set (l1 : Int32) (l2 : Int32) (l3 : Int32) (h : pm_H) (Q : Int32 → pm_H → Prop) : Prop := wp_X7_within l1 0 2 h (fun r373 h372 => pm_eq r373 0 (Q (-2) h372) (wp_X7_isClass l2 h372 (fun r375 h374 => pm_eq r375 0 (Q (-2) h374) (pm_eq l1 0 (wp_X7_within l3 0 199 h374 (fun r377 h376 => pm_eq r377 0 (Q (-2) h376) (pm_ib (pm_in l2 5) (pm_ib (pm_in l2 5) (Q (h376 72 l2.toNatClampNeg) (pm_u h376 72 l2.toNatClampNeg l3)))))) (pm_eq l1 1 (wp_X7_within l3 1 9 h374 (fun r379 h378 => pm_eq r379 0 (Q (-2) h378) (pm_ib (pm_in l2 5) (pm_ib (pm_in l2 5) (Q (h378 73 l2.toNatClampNeg) (pm_u h378 73 l2.toNatClampNeg l3)))))) (wp_X7_within l3 0 9 h374 (fun r381 h380 => pm_eq r381 0 (Q (-2) h380) (pm_ib (pm_in l2 5) (pm_ib (pm_in l2 5) (Q (h380 71 l2.toNatClampNeg) (pm_u h380 71 l2.toNatClampNeg l3)))))))))))
set_option maxRecDepth 16384 in
theorem wp_X7_set_mono {l1 : Int32} {l2 : Int32} {l3 : Int32} {h : pm_H} {Q Q' : Int32 → pm_H → Prop} (hQ : ∀ r h, Q r h → Q' r h) : wp_X7_set l1 l2 l3 h Q → wp_X7_set l1 l2 l3 h Q' := by unfold wp_X7_set; exact (@wp_X7_within_mono _ _ _ _ _ _ (fun _ _ => (@pm_eq_mono _ _ _ _ _ _ (hQ _ _) (@wp_X7_isClass_mono _ _ _ _ (fun _ _ => (@pm_eq_mono _ _ _ _ _ _ (hQ _ _) (@pm_eq_mono _ _ _ _ _ _ (@wp_X7_within_mono _ _ _ _ _ _ (fun _ _ => (@pm_eq_mono _ _ _ _ _ _ (hQ _ _) (@pm_ib_mono _ _ _ (@pm_ib_mono _ _ _ (hQ _ _)))))) (@pm_eq_mono _ _ _ _ _ _ (@wp_X7_within_mono _ _ _ _ _ _ (fun _ _ => (@pm_eq_mono _ _ _ _ _ _ (hQ _ _) (@pm_ib_mono _ _ _ (@pm_ib_mono _ _ _ (hQ _ _)))))) (@wp_X7_within_mono _ _ _ _ _ _ (fun _ _ => (@pm_eq_mono _ _ _ _ _ _ (hQ _ _) (@pm_ib_mono _ _ _ (@pm_ib_mono _ _ _ (hQ _ _))))))))))))))
set_option maxRecDepth 16384 in
theorem wp_X7_set_ok {d : Nat} {l1 : Int32} {l2 : Int32} {l3 : Int32} {h : pm_H} {Q : Option Value → pm_H → Prop} (hw : wp_X7_set l1 l2 l3 h (fun r h => Q (some (.int r)) h)) : pm_R (d + 2) mt_X7_set 0 [some (.ref 66), some (.int l1), some (.int l2), some (.int l3), none] [] h Q := by
  unfold wp_X7_set at hw
  refine pm_steps 4 ?_
  refine @wp_X7_within_ok _ _ _ _ _ _ (@wp_X7_within_mono _ _ _ _ _ _ (fun r373 h372 hw => ?_) hw)
  refine pm_steps 1 ?_
  refine @pm_we _ _ _ _ _ _ hw (fun hw => ?_) (fun hw => ?_)
  · exact pm_steps 2 hw
  · refine pm_steps 3 ?_
    refine @wp_X7_isClass_ok _ _ _ _ (@wp_X7_isClass_mono _ _ _ _ (fun r375 h374 hw => ?_) hw)
    refine pm_steps 1 ?_
    refine @pm_we _ _ _ _ _ _ hw (fun hw => ?_) (fun hw => ?_)
    · exact pm_steps 2 hw
    · refine pm_steps 2 ?_
      refine @pm_we _ _ _ _ _ _ hw (fun hw => ?_) (fun hw => ?_)
      · refine pm_steps 4 ?_
        refine @wp_X7_within_ok _ _ _ _ _ _ (@wp_X7_within_mono _ _ _ _ _ _ (fun r377 h376 hw => ?_) hw)
        refine pm_steps 1 ?_
        refine @pm_we _ _ _ _ _ _ hw (fun hw => ?_) (fun hw => ?_)
        · exact pm_steps 2 hw
        · refine pm_steps 4 ?_
          refine @pm_wc _ _ _ hw (fun hw => ?_)
          refine pm_steps 6 ?_
          refine @pm_wc _ _ _ hw (fun hw => ?_)
          exact pm_steps 3 hw
      · refine pm_steps 3 ?_
        refine @pm_we _ _ _ _ _ _ hw (fun hw => ?_) (fun hw => ?_)
        · refine pm_steps 4 ?_
          refine @wp_X7_within_ok _ _ _ _ _ _ (@wp_X7_within_mono _ _ _ _ _ _ (fun r379 h378 hw => ?_) hw)
          refine pm_steps 1 ?_
          refine @pm_we _ _ _ _ _ _ hw (fun hw => ?_) (fun hw => ?_)
          · exact pm_steps 2 hw
          · refine pm_steps 4 ?_
            refine @pm_wc _ _ _ hw (fun hw => ?_)
            refine pm_steps 6 ?_
            refine @pm_wc _ _ _ hw (fun hw => ?_)
            exact pm_steps 3 hw
        · refine pm_steps 4 ?_
          refine @wp_X7_within_ok _ _ _ _ _ _ (@wp_X7_within_mono _ _ _ _ _ _ (fun r381 h380 hw => ?_) hw)
          refine pm_steps 1 ?_
          refine @pm_we _ _ _ _ _ _ hw (fun hw => ?_) (fun hw => ?_)
          · exact pm_steps 2 hw
          · refine pm_steps 4 ?_
            refine @pm_wc _ _ _ hw (fun hw => ?_)
            refine pm_steps 6 ?_
            refine @pm_wc _ _ _ hw (fun hw => ?_)
            exact pm_steps 2 hw
