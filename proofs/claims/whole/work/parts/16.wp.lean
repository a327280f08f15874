/-! StairLinesModel.classes(IIII)I -/
set_option maxRecDepth 16384 in
def wl_X7_classes_63 (l1 : Int32) (l3 : Int32) (l4 : Int32) (K106 : pm_H → Prop) (K160 : Int32 → pm_H → Prop) (Q : Int32 → pm_H → Prop) : Nat → Int32 → Int32 → pm_H → Prop
  | 0, _, _, _ => False
  | n + 1, l5, l6, h => pm_lt l6 l4 (pm_lt (pm_op (pm_lcmp (pm_ol ((pm_ol (l3 : Int32).toInt64) + (pm_ol ((3 : Int64) * (pm_ol (l6 : Int32).toInt64))))) (0 : Int64))) 0 (K106  h) (pm_ib (pm_in l1 4) (pm_lt (pm_op (pm_lcmp (pm_ol ((pm_ol ((pm_ol (l3 : Int32).toInt64) + (pm_ol ((3 : Int64) * (pm_ol (l6 : Int32).toInt64))))) + (2 : Int64))) (pm_ol ((h 89 l1.toNatClampNeg) : Int32).toInt64))) 0 (pm_ib (pm_in (pm_op ((pm_op (40 * l1)) + (pm_op ((pm_ol ((pm_ol (l3 : Int32).toInt64) + (pm_ol ((3 : Int64) * (pm_ol (l6 : Int32).toInt64)))))).toInt32))) 160) (pm_ib (pm_in (pm_op ((pm_op ((pm_op (40 * l1)) + (pm_op ((pm_ol ((pm_ol (l3 : Int32).toInt64) + (pm_ol ((3 : Int64) * (pm_ol (l6 : Int32).toInt64)))))).toInt32))) + 1)) 160) (pm_ib (pm_in (pm_op ((pm_op ((pm_op (40 * l1)) + (pm_op ((pm_ol ((pm_ol (l3 : Int32).toInt64) + (pm_ol ((3 : Int64) * (pm_ol (l6 : Int32).toInt64)))))).toInt32))) + 2)) 160) (wp_X7_come (h 90 (pm_op ((pm_op (40 * l1)) + (pm_op ((pm_ol ((pm_ol (l3 : Int32).toInt64) + (pm_ol ((3 : Int64) * (pm_ol (l6 : Int32).toInt64)))))).toInt32))).toNatClampNeg) (h 90 (pm_op ((pm_op ((pm_op (40 * l1)) + (pm_op ((pm_ol ((pm_ol (l3 : Int32).toInt64) + (pm_ol ((3 : Int64) * (pm_ol (l6 : Int32).toInt64)))))).toInt32))) + 1)).toNatClampNeg) (h 90 (pm_op ((pm_op ((pm_op (40 * l1)) + (pm_op ((pm_ol ((pm_ol (l3 : Int32).toInt64) + (pm_ol ((3 : Int64) * (pm_ol (l6 : Int32).toInt64)))))).toInt32))) + 2)).toNatClampNeg) h (fun r784 h783 => pm_lt r784 0 (wl_X7_classes_63 l1 l3 l4 K106 K160 Q n l5 (pm_op (l6 + 1)) h783) (wl_X7_classes_63 l1 l3 l4 K106 K160 Q n (pm_op (l5 + 1)) (pm_op (l6 + 1)) h783)))))) (K106  h)))) (K160 l5 h)
set_option maxRecDepth 16384 in
theorem wl_X7_classes_63_mono {l1 : Int32} {l3 : Int32} {l4 : Int32} {K106 K106' : pm_H → Prop} {K160 K160' : Int32 → pm_H → Prop}  {Q Q' : Int32 → pm_H → Prop}  (mK106 : ∀  h, K106  h → K106'  h) (mK160 : ∀ x5 h, K160 x5 h → K160' x5 h) (hQ : ∀ r h, Q r h → Q' r h) : ∀ (n : Nat) (l5 : Int32) (l6 : Int32) (h : pm_H), wl_X7_classes_63 l1 l3 l4 K106 K160 Q n l5 l6 h → wl_X7_classes_63 l1 l3 l4 K106' K160' Q' n l5 l6 h
  | 0, _, _, _ => id
  | n + 1, l5, l6, h => by unfold wl_X7_classes_63; exact (@pm_lt_mono _ _ _ _ _ _ (@pm_lt_mono _ _ _ _ _ _ (mK106  _) (@pm_ib_mono _ _ _ (@pm_lt_mono _ _ _ _ _ _ (@pm_ib_mono _ _ _ (@pm_ib_mono _ _ _ (@pm_ib_mono _ _ _ (@wp_X7_come_mono _ _ _ _ _ _ (fun _ _ => (@pm_lt_mono _ _ _ _ _ _ (wl_X7_classes_63_mono mK106 mK160 hQ n _ _ _) (wl_X7_classes_63_mono mK106 mK160 hQ n _ _ _))))))) (mK106  _)))) (mK160 _ _))
set_option maxRecDepth 16384 in
theorem wl_X7_classes_63_ok {d : Nat} {l1 : Int32} {l3 : Int32} {l4 : Int32} {K106 : pm_H → Prop} {K160 : Int32 → pm_H → Prop} {Q : Option Value → pm_H → Prop} (hK106 : ∀  (h : pm_H), K106  h → pm_R (d + 2) mt_X7_classes 106 [none, none, none, none, none, none, none, none, none, none] [] h Q) (hK160 : ∀ (x5 : Int32) (h : pm_H), K160 x5 h → pm_R (d + 2) mt_X7_classes 160 [none, none, none, none, none, some (.int x5), none, none, none, none] [] h Q) : ∀ (n : Nat) (l5 : Int32) (l6 : Int32) (h : pm_H), wl_X7_classes_63 l1 l3 l4 K106 K160 (fun r h => Q (some (.int r)) h) n l5 l6 h → pm_R (d + 2) mt_X7_classes 63 [some (.ref 66), some (.int l1), none, some (.int l3), some (.int l4), some (.int l5), some (.int l6), none, none, none] [] h Q
  | 0, _, _, _ => fun hw => hw.elim
  | n + 1, l5, l6, h => fun hw => by
    unfold wl_X7_classes_63 at hw
    refine pm_steps 3 ?_
    refine @pm_wl _ _ _ _ _ _ hw (fun hw => ?_) (fun hw => ?_)
    · refine pm_steps 12 ?_
      refine @pm_wl _ _ _ _ _ _ hw (fun hw => ?_) (fun hw => ?_)
      · exact pm_fg (hK106  _ hw) trivial
      · refine pm_steps 7 ?_
        refine @pm_wc _ _ _ hw (fun hw => ?_)
        refine pm_steps 3 ?_
        refine @pm_wl _ _ _ _ _ _ hw (fun hw => ?_) (fun hw => ?_)
        · refine pm_steps 12 ?_
          refine @pm_wc _ _ _ hw (fun hw => ?_)
          refine pm_steps 6 ?_
          refine @pm_wc _ _ _ hw (fun hw => ?_)
          refine pm_steps 6 ?_
          refine @pm_wc _ _ _ hw (fun hw => ?_)
          refine pm_steps 1 ?_
          refine @wp_X7_come_ok _ _ _ _ _ _ (@wp_X7_come_mono _ _ _ _ _ _ (fun r784 h783 hw => ?_) hw)
          refine pm_steps 1 ?_
          refine @pm_wl _ _ _ _ _ _ hw (fun hw => ?_) (fun hw => ?_)
          · refine pm_steps 2 ?_
            exact pm_fg (wl_X7_classes_63_ok hK106 hK160 n _ _ _ hw) ⟨rfl, ⟨rfl, ⟨rfl, ⟨rfl, ⟨rfl, ⟨rfl, trivial⟩⟩⟩⟩⟩⟩
          · refine pm_steps 3 ?_
            exact pm_fg (wl_X7_classes_63_ok hK106 hK160 n _ _ _ hw) ⟨rfl, ⟨rfl, ⟨rfl, ⟨rfl, ⟨rfl, ⟨rfl, trivial⟩⟩⟩⟩⟩⟩
        · exact pm_fg (hK106  _ hw) trivial
    · exact pm_fg (hK160 _ _ hw) ⟨rfl, trivial⟩
set_option maxRecDepth 16384 in
def wp_X7_classes (l1 : Int32) (l2 : Int32) (l3 : Int32) (l4 : Int32) (h : pm_H) (Q : Int32 → pm_H → Prop) : Prop := wp_X7_within l1 0 3 h (fun r778 h777 => pm_eq r778 0 (Q (-2) h777) (wp_X7_within l2 0 2 h777 (fun r780 h779 => pm_eq r780 0 (Q (-2) h779) (wp_X7_within l4 0 5 h779 (fun r782 h781 => pm_eq r782 0 (Q (-2) h781) (pm_ib (pm_in l1 4) (pm_eq (h781 88 l1.toNatClampNeg) (-1) (Q (-11) h781) (pm_ib (pm_in l1 4) (pm_eq (h781 88 l1.toNatClampNeg) l2 (∃ n788, wl_X7_classes_63 l1 l3 l4 (fun  h785 => Q (-12) h785) (fun x787 h786 => Q x787 h786) Q n788 0 0 h781) (Q (-13) h781))))))))))
set_option maxRecDepth 16384 in
theorem wp_X7_classes_mono {l1 : Int32} {l2 : Int32} {l3 : Int32} {l4 : Int32} {h : pm_H} {Q Q' : Int32 → pm_H → Prop} (hQ : ∀ r h, Q r h → Q' r h) : wp_X7_classes l1 l2 l3 l4 h Q → wp_X7_classes l1 l2 l3 l4 h Q' := by unfold wp_X7_classes; exact (@wp_X7_within_mono _ _ _ _ _ _ (fun _ _ => (@pm_eq_mono _ _ _ _ _ _ (hQ _ _) (@wp_X7_within_mono _ _ _ _ _ _ (fun _ _ => (@pm_eq_mono _ _ _ _ _ _ (hQ _ _) (@wp_X7_within_mono _ _ _ _ _ _ (fun _ _ => (@pm_eq_mono _ _ _ _ _ _ (hQ _ _) (@pm_ib_mono _ _ _ (@pm_eq_mono _ _ _ _ _ _ (hQ _ _) (@pm_ib_mono _ _ _ (@pm_eq_mono _ _ _ _ _ _ (fun z => Exists.elim z (fun n788 z => ⟨n788, wl_X7_classes_63_mono (fun  _ => (hQ _ _)) (fun _ _ => (hQ _ _)) hQ n788 _ _ _ z⟩)) (hQ _ _))))))))))))))
set_option maxRecDepth 16384 in
theorem wp_X7_classes_ok {d : Nat} {l1 : Int32} {l2 : Int32} {l3 : Int32} {l4 : Int32} {h : pm_H} {Q : Option Value → pm_H → Prop} (hw : wp_X7_classes l1 l2 l3 l4 h (fun r h => Q (some (.int r)) h)) : pm_R (d + 2) mt_X7_classes 0 [some (.ref 66), some (.int l1), some (.int l2), some (.int l3), some (.int l4), none, none, none, none, none] [] h Q := by
  unfold wp_X7_classes at hw
  refine pm_steps 4 ?_
  refine @wp_X7_within_ok _ _ _ _ _ _ (@wp_X7_within_mono _ _ _ _ _ _ (fun r778 h777 hw => ?_) hw)
  refine pm_steps 1 ?_
  refine @pm_we _ _ _ _ _ _ hw (fun hw => ?_) (fun hw => ?_)
  · exact pm_steps 2 hw
  · refine pm_steps 4 ?_
    refine @wp_X7_within_ok _ _ _ _ _ _ (@wp_X7_within_mono _ _ _ _ _ _ (fun r780 h779 hw => ?_) hw)
    refine pm_steps 1 ?_
    refine @pm_we _ _ _ _ _ _ hw (fun hw => ?_) (fun hw => ?_)
    · exact pm_steps 2 hw
    · refine pm_steps 4 ?_
      refine @wp_X7_within_ok _ _ _ _ _ _ (@wp_X7_within_mono _ _ _ _ _ _ (fun r782 h781 hw => ?_) hw)
      refine pm_steps 1 ?_
      refine @pm_we _ _ _ _ _ _ hw (fun hw => ?_) (fun hw => ?_)
      · exact pm_steps 2 hw
      · refine pm_steps 4 ?_
        refine @pm_wc _ _ _ hw (fun hw => ?_)
        refine pm_steps 2 ?_
        refine @pm_we _ _ _ _ _ _ hw (fun hw => ?_) (fun hw => ?_)
        · exact pm_steps 2 hw
        · refine pm_steps 4 ?_
          refine @pm_wc _ _ _ hw (fun hw => ?_)
          refine pm_steps 2 ?_
          refine @pm_we _ _ _ _ _ _ hw (fun hw => ?_) (fun hw => ?_)
          · refine pm_steps 4 ?_
            obtain ⟨n788, hw⟩ := hw
            refine pm_fg (wl_X7_classes_63_ok ?_ ?_ n788 _ _ _ hw) ⟨rfl, ⟨rfl, ⟨rfl, ⟨rfl, ⟨rfl, ⟨rfl, trivial⟩⟩⟩⟩⟩⟩
            · intro  h785 hw
              exact pm_steps 2 hw
            · intro x787 h786 hw
              exact pm_steps 2 hw
          · exact pm_steps 2 hw
/-! StairLinesModel.taken(II)I -/
set_option maxRecDepth 16384 in
def wl_X7_taken_32 (l1 : Int32) (l2 : Int32) (K64 : Int32 → pm_H → Prop) (Q : Int32 → pm_H → Prop) : Nat → Int32 → pm_H → Prop
  | 0, _, _ => False
  | n + 1, l3, h => pm_eq l3 l2 (K64 l3 h) (pm_lt 0 l3 (pm_eq l3 4 (wl_X7_taken_32 l1 l2 K64 Q n 2 h) (pm_lt 2 l3 (wl_X7_taken_32 l1 l2 K64 Q n 1 h) (wl_X7_taken_32 l1 l2 K64 Q n 0 h))) (K64 l3 h))
set_option maxRecDepth 16384 in
theorem wl_X7_taken_32_mono {l1 : Int32} {l2 : Int32} {K64 K64' : Int32 → pm_H → Prop}  {Q Q' : Int32 → pm_H → Prop}  (mK64 : ∀ x3 h, K64 x3 h → K64' x3 h) (hQ : ∀ r h, Q r h → Q' r h) : ∀ (n : Nat) (l3 : Int32) (h : pm_H), wl_X7_taken_32 l1 l2 K64 Q n l3 h → wl_X7_taken_32 l1 l2 K64' Q' n l3 h
  | 0, _, _ => id
  | n + 1, l3, h => by unfold wl_X7_taken_32; exact (@pm_eq_mono _ _ _ _ _ _ (mK64 _ _) (@pm_lt_mono _ _ _ _ _ _ (@pm_eq_mono _ _ _ _ _ _ (wl_X7_taken_32_mono mK64 hQ n _ _) (@pm_lt_mono _ _ _ _ _ _ (wl_X7_taken_32_mono mK64 hQ n _ _) (wl_X7_taken_32_mono mK64 hQ n _ _))) (mK64 _ _)))
set_option maxRecDepth 16384 in
theorem wl_X7_taken_32_ok {d : Nat} {l1 : Int32} {l2 : Int32} {K64 : Int32 → pm_H → Prop} {Q : Option Value → pm_H → Prop} (hK64 : ∀ (x3 : Int32) (h : pm_H), K64 x3 h → pm_R (d + 1) mt_X7_taken 64 [some (.ref 66), some (.int l1), some (.int l2), some (.int x3)] [] h Q) : ∀ (n : Nat) (l3 : Int32) (h : pm_H), wl_X7_taken_32 l1 l2 K64 (fun r h => Q (some (.int r)) h) n l3 h → pm_R (d + 1) mt_X7_taken 32 [some (.ref 66), some (.int l1), some (.int l2), some (.int l3)] [] h Q
  | 0, _, _ => fun hw => hw.elim
  | n + 1, l3, h => fun hw => by
    unfold wl_X7_taken_32 at hw
    refine pm_steps 3 ?_
    refine @pm_we _ _ _ _ _ _ hw (fun hw => ?_) (fun hw => ?_)
    · exact pm_fg (hK64 _ _ hw) ⟨rfl, ⟨rfl, ⟨rfl, ⟨rfl, trivial⟩⟩⟩⟩
    · refine pm_steps 2 ?_
      refine @pm_wl _ _ _ _ _ _ hw (fun hw => ?_) (fun hw => ?_)
      · refine pm_steps 3 ?_
        refine @pm_we _ _ _ _ _ _ hw (fun hw => ?_) (fun hw => ?_)
        · refine pm_steps 4 ?_
          exact pm_fg (wl_X7_taken_32_ok hK64 n _ _ hw) ⟨rfl, ⟨rfl, ⟨rfl, ⟨rfl, trivial⟩⟩⟩⟩
        · refine pm_steps 3 ?_
          refine @pm_wl _ _ _ _ _ _ hw (fun hw => ?_) (fun hw => ?_)
          · refine pm_steps 4 ?_
            exact pm_fg (wl_X7_taken_32_ok hK64 n _ _ hw) ⟨rfl, ⟨rfl, ⟨rfl, ⟨rfl, trivial⟩⟩⟩⟩
          · refine pm_steps 3 ?_
            exact pm_fg (wl_X7_taken_32_ok hK64 n _ _ hw) ⟨rfl, ⟨rfl, ⟨rfl, ⟨rfl, trivial⟩⟩⟩⟩
      · exact pm_fg (hK64 _ _ hw) ⟨rfl, ⟨rfl, ⟨rfl, ⟨rfl, trivial⟩⟩⟩⟩
set_option maxRecDepth 16384 in
def wp_X7_taken (l1 : Int32) (l2 : Int32) (h : pm_H) (Q : Int32 → pm_H → Prop) : Prop := wp_X7_within l2 0 5 h (fun r790 h789 => pm_eq r790 0 (Q (-2) h789) (wp_X7_within l1 0 9 h789 (fun r792 h791 => pm_eq r792 0 (Q (-11) h791) (pm_ib (pm_in l1 10) (∃ n795, wl_X7_taken_32 l1 l2 (fun x794 h793 => pm_eq x794 l2 (pm_ib (pm_in l1 10) (Q (h793 68 l1.toNatClampNeg) h793)) (Q (-13) h793)) Q n795 (h791 67 l1.toNatClampNeg) h791)))))
set_option maxRecDepth 16384 in
theorem wp_X7_taken_mono {l1 : Int32} {l2 : Int32} {h : pm_H} {Q Q' : Int32 → pm_H → Prop} (hQ : ∀ r h, Q r h → Q' r h) : wp_X7_taken l1 l2 h Q → wp_X7_taken l1 l2 h Q' := by unfold wp_X7_taken; exact (@wp_X7_within_mono _ _ _ _ _ _ (fun _ _ => (@pm_eq_mono _ _ _ _ _ _ (hQ _ _) (@wp_X7_within_mono _ _ _ _ _ _ (fun _ _ => (@pm_eq_mono _ _ _ _ _ _ (hQ _ _) (@pm_ib_mono _ _ _ (fun z => Exists.elim z (fun n795 z => ⟨n795, wl_X7_taken_32_mono (fun _ _ => (@pm_eq_mono _ _ _ _ _ _ (@pm_ib_mono _ _ _ (hQ _ _)) (hQ _ _))) hQ n795 _ _ z⟩)))))))))
set_option maxRecDepth 16384 in
theorem wp_X7_taken_ok {d : Nat} {l1 : Int32} {l2 : Int32} {h : pm_H} {Q : Option Value → pm_H → Prop} (hw : wp_X7_taken l1 l2 h (fun r h => Q (some (.int r)) h)) : pm_R (d + 1) mt_X7_taken 0 [some (.ref 66), some (.int l1), some (.int l2), none] [] h Q := by
  unfold wp_X7_taken at hw
  refine pm_steps 4 ?_
  refine @wp_X7_within_ok _ _ _ _ _ _ (@wp_X7_within_mono _ _ _ _ _ _ (fun r790 h789 hw => ?_) hw)
  refine pm_steps 1 ?_
  refine @pm_we _ _ _ _ _ _ hw (fun hw => ?_) (fun hw => ?_)
  · exact pm_steps 2 hw
  · refine pm_steps 4 ?_
    refine @wp_X7_within_ok _ _ _ _ _ _ (@wp_X7_within_mono _ _ _ _ _ _ (fun r792 h791 hw => ?_) hw)
    refine pm_steps 1 ?_
    refine @pm_we _ _ _ _ _ _ hw (fun hw => ?_) (fun hw => ?_)
    · exact pm_steps 2 hw
    · refine pm_steps 4 ?_
      refine @pm_wc _ _ _ hw (fun hw => ?_)
      refine pm_steps 1 ?_
      obtain ⟨n795, hw⟩ := hw
      refine pm_fg (wl_X7_taken_32_ok ?_ n795 _ _ hw) ⟨rfl, ⟨rfl, ⟨rfl, ⟨rfl, trivial⟩⟩⟩⟩
      · intro x794 h793 hw
        refine pm_steps 3 ?_
        refine @pm_we _ _ _ _ _ _ hw (fun hw => ?_) (fun hw => ?_)
        · refine pm_steps 4 ?_
          refine @pm_wc _ _ _ hw (fun hw => ?_)
          exact pm_steps 2 hw
        · exact pm_steps 2 hw
/-! StairLines$Reader.isBlank(I)Z -/
set_option maxRecDepth 16384 in
def wp_X0_isBlank (l0 : Int32) (h : pm_H) (Q : Int32 → pm_H → Prop) : Prop := pm_eq l0 32 (Q 1 h) (pm_eq l0 10 (Q 1 h) (Q 0 h))
set_option maxRecDepth 16384 in
theorem wp_X0_isBlank_mono {l0 : Int32} {h : pm_H} {Q Q' : Int32 → pm_H → Prop} (hQ : ∀ r h, Q r h → Q' r h) : wp_X0_isBlank l0 h Q → wp_X0_isBlank l0 h Q' := by unfold wp_X0_isBlank; exact (@pm_eq_mono _ _ _ _ _ _ (hQ _ _) (@pm_eq_mono _ _ _ _ _ _ (hQ _ _) (hQ _ _)))
set_option maxRecDepth 16384 in
theorem wp_X0_isBlank_ok {d : Nat} {l0 : Int32} {h : pm_H} {Q : Option Value → pm_H → Prop} (hw : wp_X0_isBlank l0 h (fun r h => Q (some (.int r)) h)) : pm_R (d + 0) mt_X0_isBlank 0 [some (.int l0)] [] h Q := by
  unfold wp_X0_isBlank at hw
  refine pm_steps 3 ?_
  refine @pm_we _ _ _ _ _ _ hw (fun hw => ?_) (fun hw => ?_)
  · exact pm_steps 3 hw
  · refine pm_steps 3 ?_
    refine @pm_we _ _ _ _ _ _ hw (fun hw => ?_) (fun hw => ?_)
    · exact pm_steps 3 hw
    · exact pm_steps 2 hw
/-! StairLines$Reader.isSign(I)Z -/
set_option maxRecDepth 16384 in
def wp_X0_isSign (l0 : Int32) (h : pm_H) (Q : Int32 → pm_H → Prop) : Prop := pm_eq l0 40 (Q 1 h) (pm_eq l0 41 (Q 1 h) (pm_eq l0 42 (Q 1 h) (pm_eq l0 43 (Q 1 h) (pm_eq l0 44 (Q 0 h) (pm_eq l0 45 (Q 1 h) (pm_eq l0 46 (Q 0 h) (pm_eq l0 47 (Q 0 h) (pm_eq l0 48 (Q 0 h) (pm_eq l0 49 (Q 0 h) (pm_eq l0 50 (Q 0 h) (pm_eq l0 51 (Q 0 h) (pm_eq l0 52 (Q 0 h) (pm_eq l0 53 (Q 0 h) (pm_eq l0 54 (Q 0 h) (pm_eq l0 55 (Q 0 h) (pm_eq l0 56 (Q 0 h) (pm_eq l0 57 (Q 0 h) (pm_eq l0 58 (Q 0 h) (pm_eq l0 59 (Q 1 h) (pm_eq l0 60 (Q 1 h) (pm_eq l0 61 (Q 1 h) (Q 0 h))))))))))))))))))))))
set_option maxRecDepth 16384 in
theorem wp_X0_isSign_mono {l0 : Int32} {h : pm_H} {Q Q' : Int32 → pm_H → Prop} (hQ : ∀ r h, Q r h → Q' r h) : wp_X0_isSign l0 h Q → wp_X0_isSign l0 h Q' := by unfold wp_X0_isSign; exact (@pm_eq_mono _ _ _ _ _ _ (hQ _ _) (@pm_eq_mono _ _ _ _ _ _ (hQ _ _) (@pm_eq_mono _ _ _ _ _ _ (hQ _ _) (@pm_eq_mono _ _ _ _ _ _ (hQ _ _) (@pm_eq_mono _ _ _ _ _ _ (hQ _ _) (@pm_eq_mono _ _ _ _ _ _ (hQ _ _) (@pm_eq_mono _ _ _ _ _ _ (hQ _ _) (@pm_eq_mono _ _ _ _ _ _ (hQ _ _) (@pm_eq_mono _ _ _ _ _ _ (hQ _ _) (@pm_eq_mono _ _ _ _ _ _ (hQ _ _) (@pm_eq_mono _ _ _ _ _ _ (hQ _ _) (@pm_eq_mono _ _ _ _ _ _ (hQ _ _) (@pm_eq_mono _ _ _ _ _ _ (hQ _ _) (@pm_eq_mono _ _ _ _ _ _ (hQ _ _) (@pm_eq_mono _ _ _ _ _ _ (hQ _ _) (@pm_eq_mono _ _ _ _ _ _ (hQ _ _) (@pm_eq_mono _ _ _ _ _ _ (hQ _ _) (@pm_eq_mono _ _ _ _ _ _ (hQ _ _) (@pm_eq_mono _ _ _ _ _ _ (hQ _ _) (@pm_eq_mono _ _ _ _ _ _ (hQ _ _) (@pm_eq_mono _ _ _ _ _ _ (hQ _ _) (@pm_eq_mono _ _ _ _ _ _ (hQ _ _) (hQ _ _)))))))))))))))))))))))
set_option maxRecDepth 16384 in
theorem wp_X0_isSign_ok {d : Nat} {l0 : Int32} {h : pm_H} {Q : Option Value → pm_H → Prop} (hw : wp_X0_isSign l0 h (fun r h => Q (some (.int r)) h)) : pm_R (d + 0) mt_X0_isSign 0 [some (.int l0)] [] h Q := by
  unfold wp_X0_isSign at hw
  refine pm_steps 2 ?_
  refine @pm_we _ _ _ _ _ _ hw (fun hw => ?_) (fun hw => ?_)
  · exact pm_steps 2 hw
  · refine @pm_we _ _ _ _ _ _ hw (fun hw => ?_) (fun hw => ?_)
    · exact pm_steps 2 hw
    · refine @pm_we _ _ _ _ _ _ hw (fun hw => ?_) (fun hw => ?_)
      · exact pm_steps 2 hw
      · refine @pm_we _ _ _ _ _ _ hw (fun hw => ?_) (fun hw => ?_)
        · exact pm_steps 2 hw
        · refine @pm_we _ _ _ _ _ _ hw (fun hw => ?_) (fun hw => ?_)
          · exact pm_steps 2 hw
          · refine @pm_we _ _ _ _ _ _ hw (fun hw => ?_) (fun hw => ?_)
            · exact pm_steps 2 hw
            · refine @pm_we _ _ _ _ _ _ hw (fun hw => ?_) (fun hw => ?_)
              · exact pm_steps 2 hw
              · refine @pm_we _ _ _ _ _ _ hw (fun hw => ?_) (fun hw => ?_)
                · exact pm_steps 2 hw
                · refine @pm_we _ _ _ _ _ _ hw (fun hw => ?_) (fun hw => ?_)
                  · exact pm_steps 2 hw
                  · refine @pm_we _ _ _ _ _ _ hw (fun hw => ?_) (fun hw => ?_)
                    · exact pm_steps 2 hw
                    · refine @pm_we _ _ _ _ _ _ hw (fun hw => ?_) (fun hw => ?_)
                      · exact pm_steps 2 hw
                      · refine @pm_we _ _ _ _ _ _ hw (fun hw => ?_) (fun hw => ?_)
                        · exact pm_steps 2 hw
                        · refine @pm_we _ _ _ _ _ _ hw (fun hw => ?_) (fun hw => ?_)
                          · exact pm_steps 2 hw
                          · refine @pm_we _ _ _ _ _ _ hw (fun hw => ?_) (fun hw => ?_)
                            · exact pm_steps 2 hw
                            · refine @pm_we _ _ _ _ _ _ hw (fun hw => ?_) (fun hw => ?_)
                              · exact pm_steps 2 hw
                              · refine @pm_we _ _ _ _ _ _ hw (fun hw => ?_) (fun hw => ?_)
                                · exact pm_steps 2 hw
                                · refine @pm_we _ _ _ _ _ _ hw (fun hw => ?_) (fun hw => ?_)
                                  · exact pm_steps 2 hw
                                  · refine @pm_we _ _ _ _ _ _ hw (fun hw => ?_) (fun hw => ?_)
                                    · exact pm_steps 2 hw
                                    · refine @pm_we _ _ _ _ _ _ hw (fun hw => ?_) (fun hw => ?_)
                                      · exact pm_steps 2 hw
                                      · refine @pm_we _ _ _ _ _ _ hw (fun hw => ?_) (fun hw => ?_)
                                        · exact pm_steps 2 hw
                                        · refine @pm_we _ _ _ _ _ _ hw (fun hw => ?_) (fun hw => ?_)
                                          · exact pm_steps 2 hw
                                          · refine @pm_we _ _ _ _ _ _ hw (fun hw => ?_) (fun hw => ?_)
                                            · exact pm_steps 2 hw
                                            · exact pm_steps 2 hw
/-! StairLines$Reader.isDigit(I)Z -/
set_option maxRecDepth 16384 in
def wp_X0_isDigit (l0 : Int32) (h : pm_H) (Q : Int32 → pm_H → Prop) : Prop := pm_lt l0 48 (Q 0 h) (pm_lt 57 l0 (Q 0 h) (Q 1 h))
set_option maxRecDepth 16384 in
theorem wp_X0_isDigit_mono {l0 : Int32} {h : pm_H} {Q Q' : Int32 → pm_H → Prop} (hQ : ∀ r h, Q r h → Q' r h) : wp_X0_isDigit l0 h Q → wp_X0_isDigit l0 h Q' := by unfold wp_X0_isDigit; exact (@pm_lt_mono _ _ _ _ _ _ (hQ _ _) (@pm_lt_mono _ _ _ _ _ _ (hQ _ _) (hQ _ _)))
set_option maxRecDepth 16384 in
theorem wp_X0_isDigit_ok {d : Nat} {l0 : Int32} {h : pm_H} {Q : Option Value → pm_H → Prop} (hw : wp_X0_isDigit l0 h (fun r h => Q (some (.int r)) h)) : pm_R (d + 0) mt_X0_isDigit 0 [some (.int l0)] [] h Q := by
  unfold wp_X0_isDigit at hw
  refine pm_steps 3 ?_
  refine @pm_wl _ _ _ _ _ _ hw (fun hw => ?_) (fun hw => ?_)
  · exact pm_steps 2 hw
  · refine pm_steps 3 ?_
    refine @pm_wl _ _ _ _ _ _ hw (fun hw => ?_) (fun hw => ?_)
    · exact pm_steps 2 hw
    · exact pm_steps 3 hw
/-! StairLines$Reader.numberToken()I -/
set_option maxRecDepth 16384 in
def wl_X0_numberToken_5  (K81 : pm_H → Prop) (Q : Int32 → pm_H → Prop) : Nat → pm_H → Prop
  | 0, _ => False
  | n + 1, h => pm_lt (h 34 3) (h 34 0) (pm_ib (pm_in (h 34 3) 160) (wp_X0_isDigit (h 35 (h 34 3).toNatClampNeg) h (fun r816 h815 => pm_eq r816 0 (K81  h815) (pm_lt (pm_op ((h815 34 3) - (h815 34 5))) 4 (pm_ib (pm_in (h815 34 3) 160) (wl_X0_numberToken_5 K81 Q n  (pm_u (pm_u h815 34 6 (pm_op ((pm_op ((pm_op ((h815 34 6) * 10)) + (h815 35 (h815 34 3).toNatClampNeg))) - 48))) 34 3 (pm_op ((h815 34 3) + 1))))) (wl_X0_numberToken_5 K81 Q n  (pm_u h815 34 3 (pm_op ((h815 34 3) + 1)))))))) (K81  h)
set_option maxRecDepth 16384 in
theorem wl_X0_numberToken_5_mono  {K81 K81' : pm_H → Prop}  {Q Q' : Int32 → pm_H → Prop}  (mK81 : ∀  h, K81  h → K81'  h) (hQ : ∀ r h, Q r h → Q' r h) : ∀ (n : Nat)  (h : pm_H), wl_X0_numberToken_5 K81 Q n  h → wl_X0_numberToken_5 K81' Q' n  h
  | 0, _ => id
  | n + 1, h => by unfold wl_X0_numberToken_5; exact (@pm_lt_mono _ _ _ _ _ _ (@pm_ib_mono _ _ _ (@wp_X0_isDigit_mono _ _ _ _ (fun _ _ => (@pm_eq_mono _ _ _ _ _ _ (mK81  _) (@pm_lt_mono _ _ _ _ _ _ (@pm_ib_mono _ _ _ (wl_X0_numberToken_5_mono mK81 hQ n  _)) (wl_X0_numberToken_5_mono mK81 hQ n  _)))))) (mK81  _))
set_option maxRecDepth 16384 in
theorem wl_X0_numberToken_5_ok {d : Nat}  {K81 : pm_H → Prop} {Q : Option Value → pm_H → Prop} (hK81 : ∀  (h : pm_H), K81  h → pm_R (d + 1) mt_X0_numberToken 81 [some (.ref 34)] [] h Q) : ∀ (n : Nat)  (h : pm_H), wl_X0_numberToken_5 K81 (fun r h => Q (some (.int r)) h) n  h → pm_R (d + 1) mt_X0_numberToken 5 [some (.ref 34)] [] h Q
  | 0, _ => fun hw => hw.elim
  | n + 1, h => fun hw => by
    unfold wl_X0_numberToken_5 at hw
    refine pm_steps 5 ?_
    refine @pm_wl _ _ _ _ _ _ hw (fun hw => ?_) (fun hw => ?_)
    · refine pm_steps 5 ?_
      refine @pm_wc _ _ _ hw (fun hw => ?_)
      refine pm_steps 1 ?_
      refine @wp_X0_isDigit_ok _ _ _ _ (@wp_X0_isDigit_mono _ _ _ _ (fun r816 h815 hw => ?_) hw)
      refine pm_steps 1 ?_
      refine @pm_we _ _ _ _ _ _ hw (fun hw => ?_) (fun hw => ?_)
      · exact pm_fg (hK81  _ hw) ⟨rfl, trivial⟩
      · refine pm_steps 7 ?_
        refine @pm_wl _ _ _ _ _ _ hw (fun hw => ?_) (fun hw => ?_)
        · refine pm_steps 10 ?_
          refine @pm_wc _ _ _ hw (fun hw => ?_)
          refine pm_steps 11 ?_
          exact pm_fg (wl_X0_numberToken_5_ok hK81 n  _ hw) ⟨rfl, trivial⟩
        · refine pm_steps 7 ?_
          exact pm_fg (wl_X0_numberToken_5_ok hK81 n  _ hw) ⟨rfl, trivial⟩
    · exact pm_fg (hK81  _ hw) ⟨rfl, trivial⟩
set_option maxRecDepth 16384 in
def wp_X0_numberToken  (h : pm_H) (Q : Int32 → pm_H → Prop) : Prop := ∃ n818, wl_X0_numberToken_5 (fun  h817 => pm_lt 4 (pm_op ((h817 34 3) - (h817 34 5))) (Q 1 h817) (Q 2 h817)) Q n818  (pm_u h 34 6 0)
set_option maxRecDepth 16384 in
theorem wp_X0_numberToken_mono  {h : pm_H} {Q Q' : Int32 → pm_H → Prop} (hQ : ∀ r h, Q r h → Q' r h) : wp_X0_numberToken  h Q → wp_X0_numberToken  h Q' := by unfold wp_X0_numberToken; exact (fun z => Exists.elim z (fun n818 z => ⟨n818, wl_X0_numberToken_5_mono (fun  _ => (@pm_lt_mono _ _ _ _ _ _ (hQ _ _) (hQ _ _))) hQ n818  _ z⟩))
set_option maxRecDepth 16384 in
theorem wp_X0_numberToken_ok {d : Nat}  {h : pm_H} {Q : Option Value → pm_H → Prop} (hw : wp_X0_numberToken  h (fun r h => Q (some (.int r)) h)) : pm_R (d + 1) mt_X0_numberToken 0 [some (.ref 34)] [] h Q := by
  unfold wp_X0_numberToken at hw
  refine pm_steps 3 ?_
  obtain ⟨n818, hw⟩ := hw
  refine pm_fg (wl_X0_numberToken_5_ok ?_ n818  _ hw) ⟨rfl, trivial⟩
  · intro  h817 hw
    refine pm_steps 7 ?_
    refine @pm_wl _ _ _ _ _ _ hw (fun hw => ?_) (fun hw => ?_)
    · exact pm_steps 3 hw
    · exact pm_steps 2 hw
/-! StairLines$Reader.isLetter(I)Z -/
set_option maxRecDepth 16384 in
def wp_X0_isLetter (l0 : Int32) (h : pm_H) (Q : Int32 → pm_H → Prop) : Prop := pm_lt l0 97 (Q 0 h) (pm_lt 122 l0 (Q 0 h) (Q 1 h))
set_option maxRecDepth 16384 in
theorem wp_X0_isLetter_mono {l0 : Int32} {h : pm_H} {Q Q' : Int32 → pm_H → Prop} (hQ : ∀ r h, Q r h → Q' r h) : wp_X0_isLetter l0 h Q → wp_X0_isLetter l0 h Q' := by unfold wp_X0_isLetter; exact (@pm_lt_mono _ _ _ _ _ _ (hQ _ _) (@pm_lt_mono _ _ _ _ _ _ (hQ _ _) (hQ _ _)))
set_option maxRecDepth 16384 in
theorem wp_X0_isLetter_ok {d : Nat} {l0 : Int32} {h : pm_H} {Q : Option Value → pm_H → Prop} (hw : wp_X0_isLetter l0 h (fun r h => Q (some (.int r)) h)) : pm_R (d + 0) mt_X0_isLetter 0 [some (.int l0)] [] h Q := by
  unfold wp_X0_isLetter at hw
  refine pm_steps 3 ?_
  refine @pm_wl _ _ _ _ _ _ hw (fun hw => ?_) (fun hw => ?_)
  · exact pm_steps 2 hw
  · refine pm_steps 3 ?_
    refine @pm_wl _ _ _ _ _ _ hw (fun hw => ?_) (fun hw => ?_)
    · exact pm_steps 2 hw
    · exact pm_steps 3 hw
/-! StairLines$Reader.passed(Ljava/lang/String;)Z -/
set_option maxRecDepth 16384 in
def wl_X0_passed_20 (l1 : Nat) (K47 : pm_H → Prop) (K55 : pm_H → Prop) (Q : Int32 → pm_H → Prop) : Nat → Int32 → pm_H → Prop
  | 0, _, _ => False
  | n + 1, l2, h => pm_ib (pm_sb l1) (pm_lt l2 (nI (pm_sl (l1 - 1000)).length) (pm_ib (pm_in (pm_op ((h 34 5) + l2)) 160) (pm_ib (pm_sb l1) (pm_ib (pm_in l2 (pm_sl (l1 - 1000)).length) (pm_eq (h 35 (pm_op ((h 34 5) + l2)).toNatClampNeg) (nI ((pm_sl (l1 - 1000)).getD l2.toNatClampNeg 0)) (wl_X0_passed_20 l1 K47 K55 Q n (pm_op (l2 + 1)) h) (K47  h))))) (K55  h))
set_option maxRecDepth 16384 in
theorem wl_X0_passed_20_mono {l1 : Nat} {K47 K47' : pm_H → Prop} {K55 K55' : pm_H → Prop}  {Q Q' : Int32 → pm_H → Prop}  (mK47 : ∀  h, K47  h → K47'  h) (mK55 : ∀  h, K55  h → K55'  h) (hQ : ∀ r h, Q r h → Q' r h) : ∀ (n : Nat) (l2 : Int32) (h : pm_H), wl_X0_passed_20 l1 K47 K55 Q n l2 h → wl_X0_passed_20 l1 K47' K55' Q' n l2 h
  | 0, _, _ => id
  | n + 1, l2, h => by unfold wl_X0_passed_20; exact (@pm_ib_mono _ _ _ (@pm_lt_mono _ _ _ _ _ _ (@pm_ib_mono _ _ _ (@pm_ib_mono _ _ _ (@pm_ib_mono _ _ _ (@pm_eq_mono _ _ _ _ _ _ (wl_X0_passed_20_mono mK47 mK55 hQ n _ _) (mK47  _))))) (mK55  _)))
set_option maxRecDepth 16384 in
theorem wl_X0_passed_20_ok {d : Nat} {l1 : Nat} {K47 : pm_H → Prop} {K55 : pm_H → Prop} {Q : Option Value → pm_H → Prop} (hK47 : ∀  (h : pm_H), K47  h → pm_R (d + 0) mt_X0_passed 47 [none, none, none] [] h Q) (hK55 : ∀  (h : pm_H), K55  h → pm_R (d + 0) mt_X0_passed 55 [none, none, none] [] h Q) : ∀ (n : Nat) (l2 : Int32) (h : pm_H), wl_X0_passed_20 l1 K47 K55 (fun r h => Q (some (.int r)) h) n l2 h → pm_R (d + 0) mt_X0_passed 20 [some (.ref 34), some (.ref l1), some (.int l2)] [] h Q
  | 0, _, _ => fun hw => hw.elim
  | n + 1, l2, h => fun hw => by
    unfold wl_X0_passed_20 at hw
    refine pm_steps 3 ?_
    refine @pm_wc _ _ _ hw (fun hw => ?_)
    refine pm_steps 1 ?_
    refine @pm_wl _ _ _ _ _ _ hw (fun hw => ?_) (fun hw => ?_)
    · refine pm_steps 7 ?_
      refine @pm_wc _ _ _ hw (fun hw => ?_)
      refine pm_steps 3 ?_
      refine @pm_wc _ _ _ hw (fun hw => ?_)
      refine @pm_wc _ _ _ hw (fun hw => ?_)
      refine pm_steps 1 ?_
      refine @pm_we _ _ _ _ _ _ hw (fun hw => ?_) (fun hw => ?_)
      · refine pm_steps 2 ?_
        exact pm_fg (wl_X0_passed_20_ok hK47 hK55 n _ _ hw) ⟨rfl, ⟨rfl, ⟨rfl, trivial⟩⟩⟩
      · exact pm_fg (hK47  _ hw) trivial
    · exact pm_fg (hK55  _ hw) trivial
set_option maxRecDepth 16384 in
def wp_X0_passed (l1 : Nat) (h : pm_H) (Q : Int32 → pm_H → Prop) : Prop := pm_ib (pm_sb l1) (pm_eq (pm_op ((h 34 3) - (h 34 5))) (nI (pm_sl (l1 - 1000)).length) (∃ n830, wl_X0_passed_20 l1 (fun  h828 => Q 0 h828) (fun  h829 => Q 1 h829) Q n830 0 h) (Q 0 h))
set_option maxRecDepth 16384 in
theorem wp_X0_passed_mono {l1 : Nat} {h : pm_H} {Q Q' : Int32 → pm_H → Prop} (hQ : ∀ r h, Q r h → Q' r h) : wp_X0_passed l1 h Q → wp_X0_passed l1 h Q' := by unfold wp_X0_passed; exact (@pm_ib_mono _ _ _ (@pm_eq_mono _ _ _ _ _ _ (fun z => Exists.elim z (fun n830 z => ⟨n830, wl_X0_passed_20_mono (fun  _ => (hQ _ _)) (fun  _ => (hQ _ _)) hQ n830 _ _ z⟩)) (hQ _ _)))
set_option maxRecDepth 16384 in
theorem wp_X0_passed_ok {d : Nat} {l1 : Nat} {h : pm_H} {Q : Option Value → pm_H → Prop} (hw : wp_X0_passed l1 h (fun r h => Q (some (.int r)) h)) : pm_R (d + 0) mt_X0_passed 0 [some (.ref 34), some (.ref l1), none] [] h Q := by
  unfold wp_X0_passed at hw
  refine pm_steps 7 ?_
  refine @pm_wc _ _ _ hw (fun hw => ?_)
  refine pm_steps 1 ?_
  refine @pm_we _ _ _ _ _ _ hw (fun hw => ?_) (fun hw => ?_)
  · refine pm_steps 2 ?_
    obtain ⟨n830, hw⟩ := hw
    refine pm_fg (wl_X0_passed_20_ok ?_ ?_ n830 _ _ hw) ⟨rfl, ⟨rfl, ⟨rfl, trivial⟩⟩⟩
    · intro  h828 hw
      exact pm_steps 2 hw
    · intro  h829 hw
      exact pm_steps 2 hw
  · exact pm_steps 2 hw
/-! StairLines$Reader.word(I)Ljava/lang/String; -/
set_option maxRecDepth 16384 in
def wp_X0_word (l0 : Int32) (h : pm_H) (Q : Nat → pm_H → Prop) : Prop := pm_eq l0 0 (Q 1000 h) (pm_eq l0 1 (Q 1001 h) (pm_eq l0 2 (Q 1002 h) (pm_eq l0 3 (Q 1003 h) (pm_eq l0 4 (Q 1004 h) (pm_eq l0 5 (Q 1005 h) (pm_eq l0 6 (Q 1006 h) (pm_eq l0 7 (Q 1007 h) (pm_eq l0 8 (Q 1008 h) (pm_eq l0 9 (Q 1009 h) (pm_eq l0 10 (Q 1010 h) (Q 1011 h)))))))))))
set_option maxRecDepth 16384 in
theorem wp_X0_word_mono {l0 : Int32} {h : pm_H} {Q Q' : Nat → pm_H → Prop} (hQ : ∀ r h, Q r h → Q' r h) : wp_X0_word l0 h Q → wp_X0_word l0 h Q' := by unfold wp_X0_word; exact (@pm_eq_mono _ _ _ _ _ _ (hQ _ _) (@pm_eq_mono _ _ _ _ _ _ (hQ _ _) (@pm_eq_mono _ _ _ _ _ _ (hQ _ _) (@pm_eq_mono _ _ _ _ _ _ (hQ _ _) (@pm_eq_mono _ _ _ _ _ _ (hQ _ _) (@pm_eq_mono _ _ _ _ _ _ (hQ _ _) (@pm_eq_mono _ _ _ _ _ _ (hQ _ _) (@pm_eq_mono _ _ _ _ _ _ (hQ _ _) (@pm_eq_mono _ _ _ _ _ _ (hQ _ _) (@pm_eq_mono _ _ _ _ _ _ (hQ _ _) (@pm_eq_mono _ _ _ _ _ _ (hQ _ _) (hQ _ _))))))))))))
set_option maxRecDepth 16384 in
theorem wp_X0_word_ok {d : Nat} {l0 : Int32} {h : pm_H} {Q : Option Value → pm_H → Prop} (hw : wp_X0_word l0 h (fun r h => Q (some (.ref r)) h)) : pm_R (d + 0) mt_X0_word 0 [some (.int l0)] [] h Q := by
  unfold wp_X0_word at hw
  refine pm_steps 2 ?_
  refine @pm_we _ _ _ _ _ _ hw (fun hw => ?_) (fun hw => ?_)
  · exact pm_steps 2 hw
  · refine @pm_we _ _ _ _ _ _ hw (fun hw => ?_) (fun hw => ?_)
    · exact pm_steps 2 hw
    · refine @pm_we _ _ _ _ _ _ hw (fun hw => ?_) (fun hw => ?_)
      · exact pm_steps 2 hw
      · refine @pm_we _ _ _ _ _ _ hw (fun hw => ?_) (fun hw => ?_)
        · exact pm_steps 2 hw
        · refine @pm_we _ _ _ _ _ _ hw (fun hw => ?_) (fun hw => ?_)
          · exact pm_steps 2 hw
          · refine @pm_we _ _ _ _ _ _ hw (fun hw => ?_) (fun hw => ?_)
            · exact pm_steps 2 hw
            · refine @pm_we _ _ _ _ _ _ hw (fun hw => ?_) (fun hw => ?_)
              · exact pm_steps 2 hw
              · refine @pm_we _ _ _ _ _ _ hw (fun hw => ?_) (fun hw => ?_)
                · exact pm_steps 2 hw
                · refine @pm_we _ _ _ _ _ _ hw (fun hw => ?_) (fun hw => ?_)
                  · exact pm_steps 2 hw
                  · refine @pm_we _ _ _ _ _ _ hw (fun hw => ?_) (fun hw => ?_)
                    · exact pm_steps 2 hw
                    · refine @pm_we _ _ _ _ _ _ hw (fun hw => ?_) (fun hw => ?_)
                      · exact pm_steps 2 hw
                      · exact pm_steps 2 hw
/-! StairLines$Reader.wordToken()I -/
set_option maxRecDepth 16384 in
def wl_X0_wordToken_0  (K39 : pm_H → Prop) (Q : Int32 → pm_H → Prop) : Nat → pm_H → Prop
  | 0, _ => False
  | n + 1, h => pm_lt (h 34 3) (h 34 0) (pm_ib (pm_in (h 34 3) 160) (wp_X0_isLetter (h 35 (h 34 3).toNatClampNeg) h (fun r822 h821 => pm_eq r822 0 (K39  h821) (wl_X0_wordToken_0 K39 Q n  (pm_u h821 34 3 (pm_op ((h821 34 3) + 1))))))) (K39  h)
set_option maxRecDepth 16384 in
theorem wl_X0_wordToken_0_mono  {K39 K39' : pm_H → Prop}  {Q Q' : Int32 → pm_H → Prop}  (mK39 : ∀  h, K39  h → K39'  h) (hQ : ∀ r h, Q r h → Q' r h) : ∀ (n : Nat)  (h : pm_H), wl_X0_wordToken_0 K39 Q n  h → wl_X0_wordToken_0 K39' Q' n  h
  | 0, _ => id
  | n + 1, h => by unfold wl_X0_wordToken_0; exact (@pm_lt_mono _ _ _ _ _ _ (@pm_ib_mono _ _ _ (@wp_X0_isLetter_mono _ _ _ _ (fun _ _ => (@pm_eq_mono _ _ _ _ _ _ (mK39  _) (wl_X0_wordToken_0_mono mK39 hQ n  _))))) (mK39  _))
set_option maxRecDepth 16384 in
theorem wl_X0_wordToken_0_ok {d : Nat}  {K39 : pm_H → Prop} {Q : Option Value → pm_H → Prop} (hK39 : ∀  (h : pm_H), K39  h → pm_R (d + 1) mt_X0_wordToken 39 [some (.ref 34), none] [] h Q) : ∀ (n : Nat)  (h : pm_H), wl_X0_wordToken_0 K39 (fun r h => Q (some (.int r)) h) n  h → pm_R (d + 1) mt_X0_wordToken 0 [some (.ref 34), none] [] h Q
  | 0, _ => fun hw => hw.elim
  | n + 1, h => fun hw => by
    unfold wl_X0_wordToken_0 at hw
    refine pm_steps 5 ?_
    refine @pm_wl _ _ _ _ _ _ hw (fun hw => ?_) (fun hw => ?_)
    · refine pm_steps 5 ?_
      refine @pm_wc _ _ _ hw (fun hw => ?_)
      refine pm_steps 1 ?_
      refine @wp_X0_isLetter_ok _ _ _ _ (@wp_X0_isLetter_mono _ _ _ _ (fun r822 h821 hw => ?_) hw)
      refine pm_steps 1 ?_
      refine @pm_we _ _ _ _ _ _ hw (fun hw => ?_) (fun hw => ?_)
      · exact pm_fg (hK39  _ hw) ⟨rfl, trivial⟩
      · refine pm_steps 7 ?_
        exact pm_fg (wl_X0_wordToken_0_ok hK39 n  _ hw) ⟨rfl, trivial⟩
    · exact pm_fg (hK39  _ hw) ⟨rfl, trivial⟩
set_option maxRecDepth 16384 in
def wl_X0_wordToken_41  (K58 : Int32 → pm_H → Prop) (K86 : pm_H → Prop) (Q : Int32 → pm_H → Prop) : Nat → Int32 → pm_H → Prop
  | 0, _, _ => False
  | n + 1, l1, h => pm_lt l1 12 (wp_X0_word l1 h (fun t825 h824 => wp_X0_passed t825 h824 (fun r827 h826 => pm_eq r827 0 (wl_X0_wordToken_41 K58 K86 Q n (pm_op (l1 + 1)) h826) (K58 l1 h826)))) (K86  h)
set_option maxRecDepth 16384 in
theorem wl_X0_wordToken_41_mono  {K58 K58' : Int32 → pm_H → Prop} {K86 K86' : pm_H → Prop}  {Q Q' : Int32 → pm_H → Prop}  (mK58 : ∀ x1 h, K58 x1 h → K58' x1 h) (mK86 : ∀  h, K86  h → K86'  h) (hQ : ∀ r h, Q r h → Q' r h) : ∀ (n : Nat) (l1 : Int32) (h : pm_H), wl_X0_wordToken_41 K58 K86 Q n l1 h → wl_X0_wordToken_41 K58' K86' Q' n l1 h
  | 0, _, _ => id
  | n + 1, l1, h => by unfold wl_X0_wordToken_41; exact (@pm_lt_mono _ _ _ _ _ _ (@wp_X0_word_mono _ _ _ _ (fun _ _ => (@wp_X0_passed_mono _ _ _ _ (fun _ _ => (@pm_eq_mono _ _ _ _ _ _ (wl_X0_wordToken_41_mono mK58 mK86 hQ n _ _) (mK58 _ _)))))) (mK86  _))
set_option maxRecDepth 16384 in
theorem wl_X0_wordToken_41_ok {d : Nat}  {K58 : Int32 → pm_H → Prop} {K86 : pm_H → Prop} {Q : Option Value → pm_H → Prop} (hK58 : ∀ (x1 : Int32) (h : pm_H), K58 x1 h → pm_R (d + 1) mt_X0_wordToken 58 [some (.ref 34), some (.int x1)] [] h Q) (hK86 : ∀  (h : pm_H), K86  h → pm_R (d + 1) mt_X0_wordToken 86 [none, none] [] h Q) : ∀ (n : Nat) (l1 : Int32) (h : pm_H), wl_X0_wordToken_41 K58 K86 (fun r h => Q (some (.int r)) h) n l1 h → pm_R (d + 1) mt_X0_wordToken 41 [some (.ref 34), some (.int l1)] [] h Q
  | 0, _, _ => fun hw => hw.elim
  | n + 1, l1, h => fun hw => by
    unfold wl_X0_wordToken_41 at hw
    refine pm_steps 3 ?_
    refine @pm_wl _ _ _ _ _ _ hw (fun hw => ?_) (fun hw => ?_)
    · refine pm_steps 3 ?_
      refine @wp_X0_word_ok _ _ _ _ (@wp_X0_word_mono _ _ _ _ (fun t825 h824 hw => ?_) hw)
      refine pm_steps 1 ?_
      refine @wp_X0_passed_ok _ _ _ _ (@wp_X0_passed_mono _ _ _ _ (fun r827 h826 hw => ?_) hw)
      refine pm_steps 1 ?_
      refine @pm_we _ _ _ _ _ _ hw (fun hw => ?_) (fun hw => ?_)
      · refine pm_steps 2 ?_
        exact pm_fg (wl_X0_wordToken_41_ok hK58 hK86 n _ _ hw) ⟨rfl, ⟨rfl, trivial⟩⟩
      · exact pm_fg (hK58 _ _ hw) ⟨rfl, ⟨rfl, trivial⟩⟩
    · exact pm_fg (hK86  _ hw) trivial
set_option maxRecDepth 16384 in
def wp_X0_wordToken  (h : pm_H) (Q : Int32 → pm_H → Prop) : Prop := ∃ n835, wl_X0_wordToken_0 (fun  h823 => ∃ n834, wl_X0_wordToken_41 (fun x832 h831 => pm_lt x832 6 (Q (pm_op (4 + x832)) (pm_u h831 34 6 (pm_op (x832 - 6)))) (Q 3 (pm_u h831 34 6 (pm_op (x832 - 6))))) (fun  h833 => Q 1 h833) Q n834 0 h823) Q n835  h
set_option maxRecDepth 16384 in
theorem wp_X0_wordToken_mono  {h : pm_H} {Q Q' : Int32 → pm_H → Prop} (hQ : ∀ r h, Q r h → Q' r h) : wp_X0_wordToken  h Q → wp_X0_wordToken  h Q' := by unfold wp_X0_wordToken; exact (fun z => Exists.elim z (fun n835 z => ⟨n835, wl_X0_wordToken_0_mono (fun  _ => (fun z => Exists.elim z (fun n834 z => ⟨n834, wl_X0_wordToken_41_mono (fun _ _ => (@pm_lt_mono _ _ _ _ _ _ (hQ _ _) (hQ _ _))) (fun  _ => (hQ _ _)) hQ n834 _ _ z⟩))) hQ n835  _ z⟩))
set_option maxRecDepth 16384 in
theorem wp_X0_wordToken_ok {d : Nat}  {h : pm_H} {Q : Option Value → pm_H → Prop} (hw : wp_X0_wordToken  h (fun r h => Q (some (.int r)) h)) : pm_R (d + 1) mt_X0_wordToken 0 [some (.ref 34), none] [] h Q := by
  unfold wp_X0_wordToken at hw
  obtain ⟨n835, hw⟩ := hw
  refine pm_fg (wl_X0_wordToken_0_ok ?_ n835  _ hw) ⟨rfl, trivial⟩
  · intro  h823 hw
    refine pm_steps 2 ?_
    obtain ⟨n834, hw⟩ := hw
    refine pm_fg (wl_X0_wordToken_41_ok ?_ ?_ n834 _ _ hw) ⟨rfl, ⟨rfl, trivial⟩⟩
    · intro x832 h831 hw
      refine pm_steps 8 ?_
      refine @pm_wl _ _ _ _ _ _ hw (fun hw => ?_) (fun hw => ?_)
      · exact pm_steps 5 hw
      · exact pm_steps 2 hw
    · intro  h833 hw
      exact pm_steps 2 hw
/-! StairLines$Reader.advance()V -/
set_option maxRecDepth 16384 in
def wl_X0_advance_0  (K39 : pm_H → Prop) (Q : pm_H → Prop) : Nat → pm_H → Prop
  | 0, _ => False
  | n + 1, h => pm_lt (h 34 3) (h 34 0) (pm_ib (pm_in (h 34 3) 160) (wp_X0_isBlank (h 35 (h 34 3).toNatClampNeg) h (fun r805 h804 => pm_eq r805 0 (K39  h804) (wl_X0_advance_0 K39 Q n  (pm_u h804 34 3 (pm_op ((h804 34 3) + 1))))))) (K39  h)
set_option maxRecDepth 16384 in
theorem wl_X0_advance_0_mono  {K39 K39' : pm_H → Prop}  {Q Q' : pm_H → Prop}  (mK39 : ∀  h, K39  h → K39'  h) (hQ : ∀ h, Q h → Q' h) : ∀ (n : Nat)  (h : pm_H), wl_X0_advance_0 K39 Q n  h → wl_X0_advance_0 K39' Q' n  h
  | 0, _ => id
  | n + 1, h => by unfold wl_X0_advance_0; exact (@pm_lt_mono _ _ _ _ _ _ (@pm_ib_mono _ _ _ (@wp_X0_isBlank_mono _ _ _ _ (fun _ _ => (@pm_eq_mono _ _ _ _ _ _ (mK39  _) (wl_X0_advance_0_mono mK39 hQ n  _))))) (mK39  _))
set_option maxRecDepth 16384 in
theorem wl_X0_advance_0_ok {d : Nat}  {K39 : pm_H → Prop} {Q : Option Value → pm_H → Prop} (hK39 : ∀  (h : pm_H), K39  h → pm_R (d + 2) mt_X0_advance 39 [some (.ref 34)] [] h Q) : ∀ (n : Nat)  (h : pm_H), wl_X0_advance_0 K39 (fun h => Q none h) n  h → pm_R (d + 2) mt_X0_advance 0 [some (.ref 34)] [] h Q
  | 0, _ => fun hw => hw.elim
  | n + 1, h => fun hw => by
    unfold wl_X0_advance_0 at hw
    refine pm_steps 5 ?_
    refine @pm_wl _ _ _ _ _ _ hw (fun hw => ?_) (fun hw => ?_)
    · refine pm_steps 5 ?_
      refine @pm_wc _ _ _ hw (fun hw => ?_)
      refine pm_steps 1 ?_
      refine @wp_X0_isBlank_ok _ _ _ _ (@wp_X0_isBlank_mono _ _ _ _ (fun r805 h804 hw => ?_) hw)
      refine pm_steps 1 ?_
      refine @pm_we _ _ _ _ _ _ hw (fun hw => ?_) (fun hw => ?_)
      · exact pm_fg (hK39  _ hw) ⟨rfl, trivial⟩
      · refine pm_steps 7 ?_
        exact pm_fg (wl_X0_advance_0_ok hK39 n  _ hw) ⟨rfl, trivial⟩
    · exact pm_fg (hK39  _ hw) ⟨rfl, trivial⟩
set_option maxRecDepth 16384 in
def wp_X0_advance  (h : pm_H) (Q : pm_H → Prop) : Prop := ∃ n836, wl_X0_advance_0 (fun  h806 => pm_lt (h806 34 3) (h806 34 0) (pm_ib (pm_in (h806 34 3) 160) (wp_X0_isLetter (h806 35 (h806 34 3).toNatClampNeg) (pm_u h806 34 5 (h806 34 3)) (fun r808 h807 => pm_eq r808 0 (pm_ib (pm_in (h807 34 3) 160) (wp_X0_isDigit (h807 35 (h807 34 3).toNatClampNeg) h807 (fun r810 h809 => pm_eq r810 0 (pm_ib (pm_in (h809 34 3) 160) (wp_X0_isSign (h809 35 (h809 34 3).toNatClampNeg) h809 (fun r812 h811 => pm_eq r812 0 (Q (pm_u (pm_u h811 34 4 1) 34 3 (pm_op ((h811 34 3) + 1)))) (pm_ib (pm_in (h811 34 3) 160) (Q (pm_u (pm_u h811 34 4 (h811 35 (h811 34 3).toNatClampNeg)) 34 3 (pm_op ((h811 34 3) + 1)))))))) (wp_X0_numberToken  h809 (fun r814 h813 => Q (pm_u h813 34 4 r814)))))) (wp_X0_wordToken  h807 (fun r820 h819 => Q (pm_u h819 34 4 r820)))))) (Q (pm_u (pm_u h806 34 5 (h806 34 3)) 34 4 0))) Q n836  h
set_option maxRecDepth 16384 in
theorem wp_X0_advance_mono  {h : pm_H} {Q Q' : pm_H → Prop} (hQ : ∀ h, Q h → Q' h) : wp_X0_advance  h Q → wp_X0_advance  h Q' := by unfold wp_X0_advance; exact (fun z => Exists.elim z (fun n836 z => ⟨n836, wl_X0_advance_0_mono (fun  _ => (@pm_lt_mono _ _ _ _ _ _ (@pm_ib_mono _ _ _ (@wp_X0_isLetter_mono _ _ _ _ (fun _ _ => (@pm_eq_mono _ _ _ _ _ _ (@pm_ib_mono _ _ _ (@wp_X0_isDigit_mono _ _ _ _ (fun _ _ => (@pm_eq_mono _ _ _ _ _ _ (@pm_ib_mono _ _ _ (@wp_X0_isSign_mono _ _ _ _ (fun _ _ => (@pm_eq_mono _ _ _ _ _ _ (hQ _) (@pm_ib_mono _ _ _ (hQ _)))))) (@wp_X0_numberToken_mono _ _ _ (fun _ _ => (hQ _))))))) (@wp_X0_wordToken_mono _ _ _ (fun _ _ => (hQ _))))))) (hQ _))) hQ n836  _ z⟩))
set_option maxRecDepth 16384 in
theorem wp_X0_advance_ok {d : Nat}  {h : pm_H} {Q : Option Value → pm_H → Prop} (hw : wp_X0_advance  h (fun h => Q none h)) : pm_R (d + 2) mt_X0_advance 0 [some (.ref 34)] [] h Q := by
  unfold wp_X0_advance at hw
  obtain ⟨n836, hw⟩ := hw
  refine pm_fg (wl_X0_advance_0_ok ?_ n836  _ hw) ⟨rfl, trivial⟩
  · intro  h806 hw
    refine pm_steps 9 ?_
    refine @pm_wl _ _ _ _ _ _ hw (fun hw => ?_) (fun hw => ?_)
    · refine pm_steps 5 ?_
      refine @pm_wc _ _ _ hw (fun hw => ?_)
      refine pm_steps 1 ?_
      refine @wp_X0_isLetter_ok _ _ _ _ (@wp_X0_isLetter_mono _ _ _ _ (fun r808 h807 hw => ?_) hw)
      refine pm_steps 1 ?_
      refine @pm_we _ _ _ _ _ _ hw (fun hw => ?_) (fun hw => ?_)
      · refine pm_steps 5 ?_
        refine @pm_wc _ _ _ hw (fun hw => ?_)
        refine pm_steps 1 ?_
        refine @wp_X0_isDigit_ok _ _ _ _ (@wp_X0_isDigit_mono _ _ _ _ (fun r810 h809 hw => ?_) hw)
        refine pm_steps 1 ?_
        refine @pm_we _ _ _ _ _ _ hw (fun hw => ?_) (fun hw => ?_)
        · refine pm_steps 6 ?_
          refine @pm_wc _ _ _ hw (fun hw => ?_)
          refine pm_steps 1 ?_
          refine @wp_X0_isSign_ok _ _ _ _ (@wp_X0_isSign_mono _ _ _ _ (fun r812 h811 hw => ?_) hw)
          refine pm_steps 1 ?_
          refine @pm_we _ _ _ _ _ _ hw (fun hw => ?_) (fun hw => ?_)
          · exact pm_steps 9 hw
          · refine pm_steps 5 ?_
            refine @pm_wc _ _ _ hw (fun hw => ?_)
            exact pm_steps 9 hw
        · refine pm_steps 3 ?_
          refine @wp_X0_numberToken_ok _ _ _ (@wp_X0_numberToken_mono _ _ _ (fun r814 h813 hw => ?_) hw)
          exact pm_steps 3 hw
      · refine pm_steps 3 ?_
        refine @wp_X0_wordToken_ok _ _ _ (@wp_X0_wordToken_mono _ _ _ (fun r820 h819 hw => ?_) hw)
        exact pm_steps 3 hw
    · exact pm_steps 5 hw
/-! StairLines$Reader.refuse()V -/
set_option maxRecDepth 16384 in
def wp_X0_refuse  (h : pm_H) (Q : pm_H → Prop) : Prop := pm_eq (h 34 7) (-1) (Q (pm_u (pm_u h 34 7 (h 34 5)) 34 4 1)) (Q (pm_u h 34 4 1))
set_option maxRecDepth 16384 in
theorem wp_X0_refuse_mono  {h : pm_H} {Q Q' : pm_H → Prop} (hQ : ∀ h, Q h → Q' h) : wp_X0_refuse  h Q → wp_X0_refuse  h Q' := by unfold wp_X0_refuse; exact (@pm_eq_mono _ _ _ _ _ _ (hQ _) (hQ _))
set_option maxRecDepth 16384 in
theorem wp_X0_refuse_ok {d : Nat}  {h : pm_H} {Q : Option Value → pm_H → Prop} (hw : wp_X0_refuse  h (fun h => Q none h)) : pm_R (d + 0) mt_X0_refuse 0 [some (.ref 34)] [] h Q := by
  unfold wp_X0_refuse at hw
  refine pm_steps 4 ?_
  refine @pm_we _ _ _ _ _ _ hw (fun hw => ?_) (fun hw => ?_)
  · exact pm_steps 8 hw
  · exact pm_steps 4 hw
/-! StairLines$Reader.accept(I)V -/
set_option maxRecDepth 16384 in
def wp_X0_accept (l1 : Int32) (h : pm_H) (Q : pm_H → Prop) : Prop := pm_eq (h 34 4) l1 (wp_X0_advance  h (fun h803 => Q h803)) (wp_X0_refuse  h (fun h837 => Q h837))
set_option maxRecDepth 16384 in
theorem wp_X0_accept_mono {l1 : Int32} {h : pm_H} {Q Q' : pm_H → Prop} (hQ : ∀ h, Q h → Q' h) : wp_X0_accept l1 h Q → wp_X0_accept l1 h Q' := by unfold wp_X0_accept; exact (@pm_eq_mono _ _ _ _ _ _ (@wp_X0_advance_mono _ _ _ (fun _ => (hQ _))) (@wp_X0_refuse_mono _ _ _ (fun _ => (hQ _))))
set_option maxRecDepth 16384 in
theorem wp_X0_accept_ok {d : Nat} {l1 : Int32} {h : pm_H} {Q : Option Value → pm_H → Prop} (hw : wp_X0_accept l1 h (fun h => Q none h)) : pm_R (d + 3) mt_X0_accept 0 [some (.ref 34), some (.int l1)] [] h Q := by
  unfold wp_X0_accept at hw
  refine pm_steps 4 ?_
  refine @pm_we _ _ _ _ _ _ hw (fun hw => ?_) (fun hw => ?_)
  · refine pm_steps 2 ?_
    refine @wp_X0_advance_ok _ _ _ (@wp_X0_advance_mono _ _ _ (fun h803 hw => ?_) hw)
    exact pm_steps 2 hw
  · refine pm_steps 2 ?_
    refine @wp_X0_refuse_ok _ _ _ (@wp_X0_refuse_mono _ _ _ (fun h837 hw => ?_) hw)
    exact pm_steps 1 hw
/-! StairLines$Reader.readInto(LStairLines$Text;)I -/
set_option maxRecDepth 16384 in
def wl_X0_readInto_29 (c_readEither : Int32 → pm_H → (pm_H → Prop) → Prop)  (K74 : pm_H → Prop) (Q : Int32 → pm_H → Prop) : Nat → Int32 → pm_H → Prop
  | 0, _, _ => False
  | n + 1, l2, h => pm_lt l2 3 (wp_X0_accept (pm_op (4 + l2)) h (fun h798 => c_readEither 0 h798 (fun h799 => wp_X0_accept 59 h799 (fun h800 => pm_ob (pm_dec (h800 34 2)) (fun t801 => pm_ib (pm_at 0 t801 4) (pm_ob (pm_dec (h800 34 2)) (fun t802 => pm_ib (pm_at 0 t802 4) (pm_ib (pm_at 0 (t801 + 2) 8) (pm_ib (pm_in l2 (pm_len (t801 + 2))) (wl_X0_readInto_29 c_readEither K74 Q n (pm_op (l2 + 1)) (pm_u h800 (t801 + 2) l2.toNatClampNeg (h800 t802 2)))))))))))) (K74  h)
set_option maxRecDepth 16384 in
theorem wl_X0_readInto_29_mono {c_readEither : Int32 → pm_H → (pm_H → Prop) → Prop}  {K74 K74' : pm_H → Prop}  {Q Q' : Int32 → pm_H → Prop} (mc_readEither : ∀ (a0 : Int32) (h : pm_H) (Q Q' : pm_H → Prop), (∀ h, Q h → Q' h) → c_readEither a0 h Q → c_readEither a0 h Q')  (mK74 : ∀  h, K74  h → K74'  h) (hQ : ∀ r h, Q r h → Q' r h) : ∀ (n : Nat) (l2 : Int32) (h : pm_H), wl_X0_readInto_29 c_readEither K74 Q n l2 h → wl_X0_readInto_29 c_readEither K74' Q' n l2 h
  | 0, _, _ => id
  | n + 1, l2, h => by unfold wl_X0_readInto_29; exact (@pm_lt_mono _ _ _ _ _ _ (@wp_X0_accept_mono _ _ _ _ (fun _ => (mc_readEither _ _ _ _ (fun _ => (@wp_X0_accept_mono _ _ _ _ (fun _ => (@pm_ob_mono _ _ _ (fun _ => (@pm_ib_mono _ _ _ (@pm_ob_mono _ _ _ (fun _ => (@pm_ib_mono _ _ _ (@pm_ib_mono _ _ _ (@pm_ib_mono _ _ _ (wl_X0_readInto_29_mono mc_readEither mK74 hQ n _ _))))))))))))))) (mK74  _))
set_option maxRecDepth 16384 in
theorem wl_X0_readInto_29_ok {d : Nat} {c_readEither : Int32 → pm_H → (pm_H → Prop) → Prop}  {K74 : pm_H → Prop} {Q : Option Value → pm_H → Prop} (oc_readEither : ∀ (a0 : Int32) (h : pm_H) (Q : Option Value → pm_H → Prop), c_readEither a0 h (fun h => Q none h) → pm_R (d + 4) mt_X0_readEither 0 [some (.ref 34), some (.int a0), none] [] h Q) (mc_readEither : ∀ (a0 : Int32) (h : pm_H) (Q Q' : pm_H → Prop), (∀ h, Q h → Q' h) → c_readEither a0 h Q → c_readEither a0 h Q') (hK74 : ∀  (h : pm_H), K74  h → pm_R (d + 5) mt_X0_readInto 74 [some (.ref 34), none, none] [] h Q) : ∀ (n : Nat) (l2 : Int32) (h : pm_H), wl_X0_readInto_29 c_readEither K74 (fun r h => Q (some (.int r)) h) n l2 h → pm_R (d + 5) mt_X0_readInto 29 [some (.ref 34), none, some (.int l2)] [] h Q
  | 0, _, _ => fun hw => hw.elim
  | n + 1, l2, h => fun hw => by
    unfold wl_X0_readInto_29 at hw
    refine pm_steps 3 ?_
    refine @pm_wl _ _ _ _ _ _ hw (fun hw => ?_) (fun hw => ?_)
    · refine pm_steps 5 ?_
      refine @wp_X0_accept_ok _ _ _ _ (@wp_X0_accept_mono _ _ _ _ (fun h798 hw => ?_) hw)
      refine pm_steps 3 ?_
      refine oc_readEither _ _ _ (mc_readEither _ _ _ _ (fun h799 hw => ?_) hw)
      refine pm_steps 3 ?_
      refine @wp_X0_accept_ok _ _ _ _ (@wp_X0_accept_mono _ _ _ _ (fun h800 hw => ?_) hw)
      refine pm_steps 2 ?_
      refine @pm_wo _ _ _ hw (fun t801 hw => ?_)
      refine pm_steps 1 ?_
      refine @pm_wc _ _ _ hw (fun hw => ?_)
      refine pm_steps 3 ?_
      refine @pm_wo _ _ _ hw (fun t802 hw => ?_)
      refine pm_steps 1 ?_
      refine @pm_wc _ _ _ hw (fun hw => ?_)
      refine pm_steps 1 ?_
      refine @pm_wc _ _ _ hw (fun hw => ?_)
      refine @pm_wc _ _ _ hw (fun hw => ?_)
      refine pm_steps 2 ?_
      exact pm_fg (wl_X0_readInto_29_ok oc_readEither mc_readEither hK74 n _ _ hw) ⟨rfl, ⟨rfl, trivial⟩⟩
    · exact pm_fg (hK74  _ hw) ⟨rfl, trivial⟩
set_option maxRecDepth 16384 in
def wp_X0_readInto (c_readEither : Int32 → pm_H → (pm_H → Prop) → Prop) (l1 : Nat) (h : pm_H) (Q : Int32 → pm_H → Prop) : Prop := pm_ib ((Nat.blt 0 l1 && Nat.blt l1 92)) (pm_ob (pm_dec (nI l1)) (fun t796 => pm_ib (pm_at 0 t796 4) (wp_X0_advance  (pm_u (pm_u (pm_u (pm_u h 34 2 (nI l1)) t796 2 0) 34 3 0) 34 7 (-1)) (fun h797 => ∃ n840, wl_X0_readInto_29 c_readEither (fun  h838 => pm_eq (h838 34 4) 0 (Q (h838 34 7) (pm_u h838 34 0 0)) (wp_X0_refuse  h838 (fun h839 => Q (h839 34 7) (pm_u h839 34 0 0)))) Q n840 0 h797))))
set_option maxRecDepth 16384 in
theorem wp_X0_readInto_mono {c_readEither : Int32 → pm_H → (pm_H → Prop) → Prop} {l1 : Nat} {h : pm_H} {Q Q' : Int32 → pm_H → Prop} (mc_readEither : ∀ (a0 : Int32) (h : pm_H) (Q Q' : pm_H → Prop), (∀ h, Q h → Q' h) → c_readEither a0 h Q → c_readEither a0 h Q') (hQ : ∀ r h, Q r h → Q' r h) : wp_X0_readInto c_readEither l1 h Q → wp_X0_readInto c_readEither l1 h Q' := by unfold wp_X0_readInto; exact (@pm_ib_mono _ _ _ (@pm_ob_mono _ _ _ (fun _ => (@pm_ib_mono _ _ _ (@wp_X0_advance_mono _ _ _ (fun _ => (fun z => Exists.elim z (fun n840 z => ⟨n840, wl_X0_readInto_29_mono mc_readEither (fun  _ => (@pm_eq_mono _ _ _ _ _ _ (hQ _ _) (@wp_X0_refuse_mono _ _ _ (fun _ => (hQ _ _))))) hQ n840 _ _ z⟩))))))))
set_option maxRecDepth 16384 in
theorem wp_X0_readInto_ok {d : Nat} {c_readEither : Int32 → pm_H → (pm_H → Prop) → Prop} {l1 : Nat} {h : pm_H} {Q : Option Value → pm_H → Prop} (oc_readEither : ∀ (a0 : Int32) (h : pm_H) (Q : Option Value → pm_H → Prop), c_readEither a0 h (fun h => Q none h) → pm_R (d + 4) mt_X0_readEither 0 [some (.ref 34), some (.int a0), none] [] h Q) (mc_readEither : ∀ (a0 : Int32) (h : pm_H) (Q Q' : pm_H → Prop), (∀ h, Q h → Q' h) → c_readEither a0 h Q → c_readEither a0 h Q') (hw : wp_X0_readInto c_readEither l1 h (fun r h => Q (some (.int r)) h)) : pm_R (d + 5) mt_X0_readInto 0 [some (.ref 34), some (.ref l1), none] [] h Q := by
  unfold wp_X0_readInto at hw
  refine pm_steps 3 ?_
  refine @pm_wc _ _ _ hw (fun hw => ?_)
  refine pm_steps 2 ?_
  refine @pm_wo _ _ _ hw (fun t796 hw => ?_)
  refine pm_steps 2 ?_
  refine @pm_wc _ _ _ hw (fun hw => ?_)
  refine pm_steps 8 ?_
  refine @wp_X0_advance_ok _ _ _ (@wp_X0_advance_mono _ _ _ (fun h797 hw => ?_) hw)
  refine pm_steps 2 ?_
  obtain ⟨n840, hw⟩ := hw
  refine pm_fg (wl_X0_readInto_29_ok oc_readEither mc_readEither ?_ n840 _ _ hw) ⟨rfl, ⟨rfl, trivial⟩⟩
  · intro  h838 hw
    refine pm_steps 3 ?_
    refine @pm_we _ _ _ _ _ _ hw (fun hw => ?_) (fun hw => ?_)
    · exact pm_steps 6 hw
    · refine pm_steps 2 ?_
      refine @wp_X0_refuse_ok _ _ _ (@wp_X0_refuse_mono _ _ _ (fun h839 hw => ?_) hw)
      exact pm_steps 6 hw
/-! StairLines$Text.add(I)V -/
set_option maxRecDepth 16384 in
def wp_X4_add (l0 : Nat) (l1 : Int32) (h : pm_H) (Q : pm_H → Prop) : Prop := pm_ib (pm_at 4 l0 4) (pm_ib (pm_at 4 l0 4) (pm_ib (pm_at 4 (l0 + 1) 8) (pm_lt (h l0 2) (nI (pm_len (l0 + 1))) (pm_ib (pm_at 4 l0 4) (pm_ib (pm_at 4 l0 4) (pm_ib (pm_at 4 (l0 + 1) 8) (pm_ib (pm_in (h l0 2) (pm_len (l0 + 1))) (pm_ib (pm_at 4 l0 4) (pm_ib (pm_at 4 l0 4) (Q (pm_u (pm_u h (l0 + 1) (h l0 2).toNatClampNeg l1) l0 2 (pm_op (((pm_u h (l0 + 1) (h l0 2).toNatClampNeg l1) l0 2) + 1)))))))))) (Q h))))
set_option maxRecDepth 16384 in
theorem wp_X4_add_mono {l0 : Nat} {l1 : Int32} {h : pm_H} {Q Q' : pm_H → Prop} (hQ : ∀ h, Q h → Q' h) : wp_X4_add l0 l1 h Q → wp_X4_add l0 l1 h Q' := by unfold wp_X4_add; exact (@pm_ib_mono _ _ _ (@pm_ib_mono _ _ _ (@pm_ib_mono _ _ _ (@pm_lt_mono _ _ _ _ _ _ (@pm_ib_mono _ _ _ (@pm_ib_mono _ _ _ (@pm_ib_mono _ _ _ (@pm_ib_mono _ _ _ (@pm_ib_mono _ _ _ (@pm_ib_mono _ _ _ (hQ _))))))) (hQ _)))))
set_option maxRecDepth 16384 in
theorem wp_X4_add_ok {d : Nat} {l0 : Nat} {l1 : Int32} {h : pm_H} {Q : Option Value → pm_H → Prop} (hw : wp_X4_add l0 l1 h (fun h => Q none h)) : pm_R (d + 0) mt_X4_add 0 [some (.ref l0), some (.int l1)] [] h Q := by
  unfold wp_X4_add at hw
  refine pm_steps 2 ?_
  refine @pm_wc _ _ _ hw (fun hw => ?_)
  refine pm_steps 2 ?_
  refine @pm_wc _ _ _ hw (fun hw => ?_)
  refine pm_steps 1 ?_
  refine @pm_wb _ _ _ _ hw (fun hw => ?_)
  refine pm_steps 1 ?_
  refine @pm_wl _ _ _ _ _ _ hw (fun hw => ?_) (fun hw => ?_)
  · refine pm_steps 2 ?_
    refine @pm_wc _ _ _ hw (fun hw => ?_)
    refine pm_steps 2 ?_
    refine @pm_wc _ _ _ hw (fun hw => ?_)
    refine pm_steps 2 ?_
    refine @pm_wc _ _ _ hw (fun hw => ?_)
    refine @pm_wc _ _ _ hw (fun hw => ?_)
    refine pm_steps 3 ?_
    refine @pm_wc _ _ _ hw (fun hw => ?_)
    refine pm_steps 3 ?_
    refine @pm_wc _ _ _ hw (fun hw => ?_)
    exact pm_steps 1 hw
  · exact pm_steps 1 hw
/-! StairLines$Reader.readEither(I)V -/
set_option maxRecDepth 16384 in
def wl_X0_readEither_7 (c_readBoth : Int32 → pm_H → (pm_H → Prop) → Prop) (l1 : Int32) (K47 : pm_H → Prop) (Q : pm_H → Prop) : Nat → Int32 → pm_H → Prop
  | 0, _, _ => False
  | n + 1, l2, h => pm_lt l2 160 (pm_eq (h 34 4) 7 (wp_X0_advance  h (fun h842 => c_readBoth l1 h842 (fun h843 => pm_ob (pm_dec (h843 34 2)) (fun t844 => pm_ib (pm_at 0 t844 4) (wp_X4_add t844 (-18) h843 (fun h845 => wl_X0_readEither_7 c_readBoth l1 K47 Q n (pm_op (l2 + 1)) h845)))))) (K47  h)) (K47  h)
set_option maxRecDepth 16384 in
theorem wl_X0_readEither_7_mono {c_readBoth : Int32 → pm_H → (pm_H → Prop) → Prop} {l1 : Int32} {K47 K47' : pm_H → Prop}  {Q Q' : pm_H → Prop} (mc_readBoth : ∀ (a0 : Int32) (h : pm_H) (Q Q' : pm_H → Prop), (∀ h, Q h → Q' h) → c_readBoth a0 h Q → c_readBoth a0 h Q')  (mK47 : ∀  h, K47  h → K47'  h) (hQ : ∀ h, Q h → Q' h) : ∀ (n : Nat) (l2 : Int32) (h : pm_H), wl_X0_readEither_7 c_readBoth l1 K47 Q n l2 h → wl_X0_readEither_7 c_readBoth l1 K47' Q' n l2 h
  | 0, _, _ => id
  | n + 1, l2, h => by unfold wl_X0_readEither_7; exact (@pm_lt_mono _ _ _ _ _ _ (@pm_eq_mono _ _ _ _ _ _ (@wp_X0_advance_mono _ _ _ (fun _ => (mc_readBoth _ _ _ _ (fun _ => (@pm_ob_mono _ _ _ (fun _ => (@pm_ib_mono _ _ _ (@wp_X4_add_mono _ _ _ _ _ (fun _ => (wl_X0_readEither_7_mono mc_readBoth mK47 hQ n _ _)))))))))) (mK47  _)) (mK47  _))
set_option maxRecDepth 16384 in
theorem wl_X0_readEither_7_ok {d : Nat} {c_readBoth : Int32 → pm_H → (pm_H → Prop) → Prop} {l1 : Int32} {K47 : pm_H → Prop} {Q : Option Value → pm_H → Prop} (oc_readBoth : ∀ (a0 : Int32) (h : pm_H) (Q : Option Value → pm_H → Prop), c_readBoth a0 h (fun h => Q none h) → pm_R (d + 3) mt_X0_readBoth 0 [some (.ref 34), some (.int a0), none] [] h Q) (mc_readBoth : ∀ (a0 : Int32) (h : pm_H) (Q Q' : pm_H → Prop), (∀ h, Q h → Q' h) → c_readBoth a0 h Q → c_readBoth a0 h Q') (hK47 : ∀  (h : pm_H), K47  h → pm_R (d + 4) mt_X0_readEither 47 [none, none, none] [] h Q) : ∀ (n : Nat) (l2 : Int32) (h : pm_H), wl_X0_readEither_7 c_readBoth l1 K47 (fun h => Q none h) n l2 h → pm_R (d + 4) mt_X0_readEither 7 [some (.ref 34), some (.int l1), some (.int l2)] [] h Q
  | 0, _, _ => fun hw => hw.elim
  | n + 1, l2, h => fun hw => by
    unfold wl_X0_readEither_7 at hw
    refine pm_steps 3 ?_
    refine @pm_wl _ _ _ _ _ _ hw (fun hw => ?_) (fun hw => ?_)
    · refine pm_steps 4 ?_
      refine @pm_we _ _ _ _ _ _ hw (fun hw => ?_) (fun hw => ?_)
      · refine pm_steps 2 ?_
        refine @wp_X0_advance_ok _ _ _ (@wp_X0_advance_mono _ _ _ (fun h842 hw => ?_) hw)
        refine pm_steps 3 ?_
        refine oc_readBoth _ _ _ (mc_readBoth _ _ _ _ (fun h843 hw => ?_) hw)
        refine pm_steps 2 ?_
        refine @pm_wo _ _ _ hw (fun t844 hw => ?_)
        refine pm_steps 2 ?_
        refine @pm_wc _ _ _ hw (fun hw => ?_)
        refine @wp_X4_add_ok _ _ _ _ _ (@wp_X4_add_mono _ _ _ _ _ (fun h845 hw => ?_) hw)
        refine pm_steps 2 ?_
        exact pm_fg (wl_X0_readEither_7_ok oc_readBoth mc_readBoth hK47 n _ _ hw) ⟨rfl, ⟨rfl, ⟨rfl, trivial⟩⟩⟩
      · exact pm_fg (hK47  _ hw) trivial
    · exact pm_fg (hK47  _ hw) trivial
set_option maxRecDepth 16384 in
def wp_X0_readEither (c_readBoth : Int32 → pm_H → (pm_H → Prop) → Prop) (l1 : Int32) (h : pm_H) (Q : pm_H → Prop) : Prop := c_readBoth l1 h (fun h841 => ∃ n847, wl_X0_readEither_7 c_readBoth l1 (fun  h846 => Q h846) Q n847 0 h841)
set_option maxRecDepth 16384 in
theorem wp_X0_readEither_mono {c_readBoth : Int32 → pm_H → (pm_H → Prop) → Prop} {l1 : Int32} {h : pm_H} {Q Q' : pm_H → Prop} (mc_readBoth : ∀ (a0 : Int32) (h : pm_H) (Q Q' : pm_H → Prop), (∀ h, Q h → Q' h) → c_readBoth a0 h Q → c_readBoth a0 h Q') (hQ : ∀ h, Q h → Q' h) : wp_X0_readEither c_readBoth l1 h Q → wp_X0_readEither c_readBoth l1 h Q' := by unfold wp_X0_readEither; exact (mc_readBoth _ _ _ _ (fun _ => (fun z => Exists.elim z (fun n847 z => ⟨n847, wl_X0_readEither_7_mono mc_readBoth (fun  _ => (hQ _)) hQ n847 _ _ z⟩))))
set_option maxRecDepth 16384 in
theorem wp_X0_readEither_ok {d : Nat} {c_readBoth : Int32 → pm_H → (pm_H → Prop) → Prop} {l1 : Int32} {h : pm_H} {Q : Option Value → pm_H → Prop} (oc_readBoth : ∀ (a0 : Int32) (h : pm_H) (Q : Option Value → pm_H → Prop), c_readBoth a0 h (fun h => Q none h) → pm_R (d + 3) mt_X0_readBoth 0 [some (.ref 34), some (.int a0), none] [] h Q) (mc_readBoth : ∀ (a0 : Int32) (h : pm_H) (Q Q' : pm_H → Prop), (∀ h, Q h → Q' h) → c_readBoth a0 h Q → c_readBoth a0 h Q') (hw : wp_X0_readEither c_readBoth l1 h (fun h => Q none h)) : pm_R (d + 4) mt_X0_readEither 0 [some (.ref 34), some (.int l1), none] [] h Q := by
  unfold wp_X0_readEither at hw
  refine pm_steps 3 ?_
  refine oc_readBoth _ _ _ (mc_readBoth _ _ _ _ (fun h841 hw => ?_) hw)
  refine pm_steps 2 ?_
  obtain ⟨n847, hw⟩ := hw
  refine pm_fg (wl_X0_readEither_7_ok oc_readBoth mc_readBoth ?_ n847 _ _ hw) ⟨rfl, ⟨rfl, ⟨rfl, trivial⟩⟩⟩
  · intro  h846 hw
    exact pm_steps 1 hw
/-! StairLines$Reader.readBoth(I)V -/
set_option maxRecDepth 16384 in
def wl_X0_readBoth_7 (c_readDenied : Int32 → pm_H → (pm_H → Prop) → Prop) (l1 : Int32) (K47 : pm_H → Prop) (Q : pm_H → Prop) : Nat → Int32 → pm_H → Prop
  | 0, _, _ => False
  | n + 1, l2, h => pm_lt l2 160 (pm_eq (h 34 4) 8 (wp_X0_advance  h (fun h849 => c_readDenied l1 h849 (fun h850 => pm_ob (pm_dec (h850 34 2)) (fun t851 => pm_ib (pm_at 0 t851 4) (wp_X4_add t851 (-17) h850 (fun h852 => wl_X0_readBoth_7 c_readDenied l1 K47 Q n (pm_op (l2 + 1)) h852)))))) (K47  h)) (K47  h)
set_option maxRecDepth 16384 in
theorem wl_X0_readBoth_7_mono {c_readDenied : Int32 → pm_H → (pm_H → Prop) → Prop} {l1 : Int32} {K47 K47' : pm_H → Prop}  {Q Q' : pm_H → Prop} (mc_readDenied : ∀ (a0 : Int32) (h : pm_H) (Q Q' : pm_H → Prop), (∀ h, Q h → Q' h) → c_readDenied a0 h Q → c_readDenied a0 h Q')  (mK47 : ∀  h, K47  h → K47'  h) (hQ : ∀ h, Q h → Q' h) : ∀ (n : Nat) (l2 : Int32) (h : pm_H), wl_X0_readBoth_7 c_readDenied l1 K47 Q n l2 h → wl_X0_readBoth_7 c_readDenied l1 K47' Q' n l2 h
  | 0, _, _ => id
  | n + 1, l2, h => by unfold wl_X0_readBoth_7; exact (@pm_lt_mono _ _ _ _ _ _ (@pm_eq_mono _ _ _ _ _ _ (@wp_X0_advance_mono _ _ _ (fun _ => (mc_readDenied _ _ _ _ (fun _ => (@pm_ob_mono _ _ _ (fun _ => (@pm_ib_mono _ _ _ (@wp_X4_add_mono _ _ _ _ _ (fun _ => (wl_X0_readBoth_7_mono mc_readDenied mK47 hQ n _ _)))))))))) (mK47  _)) (mK47  _))
set_option maxRecDepth 16384 in
theorem wl_X0_readBoth_7_ok {d : Nat} {c_readDenied : Int32 → pm_H → (pm_H → Prop) → Prop} {l1 : Int32} {K47 : pm_H → Prop} {Q : Option Value → pm_H → Prop} (oc_readDenied : ∀ (a0 : Int32) (h : pm_H) (Q : Option Value → pm_H → Prop), c_readDenied a0 h (fun h => Q none h) → pm_R (d + 3) mt_X0_readDenied 0 [some (.ref 34), some (.int a0), none] [] h Q) (mc_readDenied : ∀ (a0 : Int32) (h : pm_H) (Q Q' : pm_H → Prop), (∀ h, Q h → Q' h) → c_readDenied a0 h Q → c_readDenied a0 h Q') (hK47 : ∀  (h : pm_H), K47  h → pm_R (d + 4) mt_X0_readBoth 47 [none, none, none] [] h Q) : ∀ (n : Nat) (l2 : Int32) (h : pm_H), wl_X0_readBoth_7 c_readDenied l1 K47 (fun h => Q none h) n l2 h → pm_R (d + 4) mt_X0_readBoth 7 [some (.ref 34), some (.int l1), some (.int l2)] [] h Q
  | 0, _, _ => fun hw => hw.elim
  | n + 1, l2, h => fun hw => by
    unfold wl_X0_readBoth_7 at hw
    refine pm_steps 3 ?_
    refine @pm_wl _ _ _ _ _ _ hw (fun hw => ?_) (fun hw => ?_)
    · refine pm_steps 4 ?_
      refine @pm_we _ _ _ _ _ _ hw (fun hw => ?_) (fun hw => ?_)
      · refine pm_steps 2 ?_
        refine @wp_X0_advance_ok _ _ _ (@wp_X0_advance_mono _ _ _ (fun h849 hw => ?_) hw)
        refine pm_steps 3 ?_
        refine oc_readDenied _ _ _ (mc_readDenied _ _ _ _ (fun h850 hw => ?_) hw)
        refine pm_steps 2 ?_
        refine @pm_wo _ _ _ hw (fun t851 hw => ?_)
        refine pm_steps 2 ?_
        refine @pm_wc _ _ _ hw (fun hw => ?_)
        refine @wp_X4_add_ok _ _ _ _ _ (@wp_X4_add_mono _ _ _ _ _ (fun h852 hw => ?_) hw)
        refine pm_steps 2 ?_
        exact pm_fg (wl_X0_readBoth_7_ok oc_readDenied mc_readDenied hK47 n _ _ hw) ⟨rfl, ⟨rfl, ⟨rfl, trivial⟩⟩⟩
      · exact pm_fg (hK47  _ hw) trivial
    · exact pm_fg (hK47  _ hw) trivial
set_option maxRecDepth 16384 in
def wp_X0_readBoth (c_readDenied : Int32 → pm_H → (pm_H → Prop) → Prop) (l1 : Int32) (h : pm_H) (Q : pm_H → Prop) : Prop := c_readDenied l1 h (fun h848 => ∃ n854, wl_X0_readBoth_7 c_readDenied l1 (fun  h853 => Q h853) Q n854 0 h848)
set_option maxRecDepth 16384 in
theorem wp_X0_readBoth_mono {c_readDenied : Int32 → pm_H → (pm_H → Prop) → Prop} {l1 : Int32} {h : pm_H} {Q Q' : pm_H → Prop} (mc_readDenied : ∀ (a0 : Int32) (h : pm_H) (Q Q' : pm_H → Prop), (∀ h, Q h → Q' h) → c_readDenied a0 h Q → c_readDenied a0 h Q') (hQ : ∀ h, Q h → Q' h) : wp_X0_readBoth c_readDenied l1 h Q → wp_X0_readBoth c_readDenied l1 h Q' := by unfold wp_X0_readBoth; exact (mc_readDenied _ _ _ _ (fun _ => (fun z => Exists.elim z (fun n854 z => ⟨n854, wl_X0_readBoth_7_mono mc_readDenied (fun  _ => (hQ _)) hQ n854 _ _ z⟩))))
set_option maxRecDepth 16384 in
theorem wp_X0_readBoth_ok {d : Nat} {c_readDenied : Int32 → pm_H → (pm_H → Prop) → Prop} {l1 : Int32} {h : pm_H} {Q : Option Value → pm_H → Prop} (oc_readDenied : ∀ (a0 : Int32) (h : pm_H) (Q : Option Value → pm_H → Prop), c_readDenied a0 h (fun h => Q none h) → pm_R (d + 3) mt_X0_readDenied 0 [some (.ref 34), some (.int a0), none] [] h Q) (mc_readDenied : ∀ (a0 : Int32) (h : pm_H) (Q Q' : pm_H → Prop), (∀ h, Q h → Q' h) → c_readDenied a0 h Q → c_readDenied a0 h Q') (hw : wp_X0_readBoth c_readDenied l1 h (fun h => Q none h)) : pm_R (d + 4) mt_X0_readBoth 0 [some (.ref 34), some (.int l1), none] [] h Q := by
  unfold wp_X0_readBoth at hw
  refine pm_steps 3 ?_
  refine oc_readDenied _ _ _ (mc_readDenied _ _ _ _ (fun h848 hw => ?_) hw)
  refine pm_steps 2 ?_
  obtain ⟨n854, hw⟩ := hw
  refine pm_fg (wl_X0_readBoth_7_ok oc_readDenied mc_readDenied ?_ n854 _ _ hw) ⟨rfl, ⟨rfl, ⟨rfl, trivial⟩⟩⟩
  · intro  h853 hw
    exact pm_steps 1 hw
/-! StairLines$Reader.readDenied(I)V -/
set_option maxRecDepth 16384 in
def wp_X0_readDenied (c_readDenied : Int32 → pm_H → (pm_H → Prop) → Prop) (c_readSum : Int32 → pm_H → (pm_H → Prop) → Prop) (l1 : Int32) (h : pm_H) (Q : pm_H → Prop) : Prop := pm_eq (h 34 4) 9 (pm_lt l1 5 (wp_X0_advance  h (fun h855 => c_readDenied (pm_op (l1 + 1)) h855 (fun h856 => pm_ob (pm_dec (h856 34 2)) (fun t857 => pm_ib (pm_at 0 t857 4) (wp_X4_add t857 (-10) h856 (fun h858 => Q h858)))))) (wp_X0_refuse  h (fun h859 => Q h859))) (c_readSum l1 h (fun h860 => pm_eq (h860 34 4) 60 (pm_eq (h860 34 4) 60 (wp_X0_advance  h860 (fun h861 => c_readSum l1 h861 (fun h862 => pm_ob (pm_dec (h862 34 2)) (fun t863 => pm_ib (pm_at 0 t863 4) (wp_X4_add t863 (-15) h862 (fun h864 => Q h864)))))) (wp_X0_advance  h860 (fun h865 => c_readSum l1 h865 (fun h866 => pm_ob (pm_dec (h866 34 2)) (fun t867 => pm_ib (pm_at 0 t867 4) (wp_X4_add t867 (-16) h866 (fun h868 => Q h868))))))) (pm_eq (h860 34 4) 61 (pm_eq (h860 34 4) 60 (wp_X0_advance  h860 (fun h869 => c_readSum l1 h869 (fun h870 => pm_ob (pm_dec (h870 34 2)) (fun t871 => pm_ib (pm_at 0 t871 4) (wp_X4_add t871 (-15) h870 (fun h872 => Q h872)))))) (wp_X0_advance  h860 (fun h873 => c_readSum l1 h873 (fun h874 => pm_ob (pm_dec (h874 34 2)) (fun t875 => pm_ib (pm_at 0 t875 4) (wp_X4_add t875 (-16) h874 (fun h876 => Q h876))))))) (Q h860))))
set_option maxRecDepth 16384 in
theorem wp_X0_readDenied_mono {c_readDenied : Int32 → pm_H → (pm_H → Prop) → Prop} {c_readSum : Int32 → pm_H → (pm_H → Prop) → Prop} {l1 : Int32} {h : pm_H} {Q Q' : pm_H → Prop} (mc_readDenied : ∀ (a0 : Int32) (h : pm_H) (Q Q' : pm_H → Prop), (∀ h, Q h → Q' h) → c_readDenied a0 h Q → c_readDenied a0 h Q') (mc_readSum : ∀ (a0 : Int32) (h : pm_H) (Q Q' : pm_H → Prop), (∀ h, Q h → Q' h) → c_readSum a0 h Q → c_readSum a0 h Q') (hQ : ∀ h, Q h → Q' h) : wp_X0_readDenied c_readDenied c_readSum l1 h Q → wp_X0_readDenied c_readDenied c_readSum l1 h Q' := by unfold wp_X0_readDenied; exact (@pm_eq_mono _ _ _ _ _ _ (@pm_lt_mono _ _ _ _ _ _ (@wp_X0_advance_mono _ _ _ (fun _ => (mc_readDenied _ _ _ _ (fun _ => (@pm_ob_mono _ _ _ (fun _ => (@pm_ib_mono _ _ _ (@wp_X4_add_mono _ _ _ _ _ (fun _ => (hQ _)))))))))) (@wp_X0_refuse_mono _ _ _ (fun _ => (hQ _)))) (mc_readSum _ _ _ _ (fun _ => (@pm_eq_mono _ _ _ _ _ _ (@pm_eq_mono _ _ _ _ _ _ (@wp_X0_advance_mono _ _ _ (fun _ => (mc_readSum _ _ _ _ (fun _ => (@pm_ob_mono _ _ _ (fun _ => (@pm_ib_mono _ _ _ (@wp_X4_add_mono _ _ _ _ _ (fun _ => (hQ _)))))))))) (@wp_X0_advance_mono _ _ _ (fun _ => (mc_readSum _ _ _ _ (fun _ => (@pm_ob_mono _ _ _ (fun _ => (@pm_ib_mono _ _ _ (@wp_X4_add_mono _ _ _ _ _ (fun _ => (hQ _))))))))))) (@pm_eq_mono _ _ _ _ _ _ (@pm_eq_mono _ _ _ _ _ _ (@wp_X0_advance_mono _ _ _ (fun _ => (mc_readSum _ _ _ _ (fun _ => (@pm_ob_mono _ _ _ (fun _ => (@pm_ib_mono _ _ _ (@wp_X4_add_mono _ _ _ _ _ (fun _ => (hQ _)))))))))) (@wp_X0_advance_mono _ _ _ (fun _ => (mc_readSum _ _ _ _ (fun _ => (@pm_ob_mono _ _ _ (fun _ => (@pm_ib_mono _ _ _ (@wp_X4_add_mono _ _ _ _ _ (fun _ => (hQ _))))))))))) (hQ _))))))
set_option maxRecDepth 16384 in
theorem wp_X0_readDenied_ok {d : Nat} {c_readDenied : Int32 → pm_H → (pm_H → Prop) → Prop} {c_readSum : Int32 → pm_H → (pm_H → Prop) → Prop} {l1 : Int32} {h : pm_H} {Q : Option Value → pm_H → Prop} (oc_readDenied : ∀ (a0 : Int32) (h : pm_H) (Q : Option Value → pm_H → Prop), c_readDenied a0 h (fun h => Q none h) → pm_R (d + 3) mt_X0_readDenied 0 [some (.ref 34), some (.int a0), none] [] h Q) (oc_readSum : ∀ (a0 : Int32) (h : pm_H) (Q : Option Value → pm_H → Prop), c_readSum a0 h (fun h => Q none h) → pm_R (d + 3) mt_X0_readSum 0 [some (.ref 34), some (.int a0), none, none] [] h Q) (mc_readDenied : ∀ (a0 : Int32) (h : pm_H) (Q Q' : pm_H → Prop), (∀ h, Q h → Q' h) → c_readDenied a0 h Q → c_readDenied a0 h Q') (mc_readSum : ∀ (a0 : Int32) (h : pm_H) (Q Q' : pm_H → Prop), (∀ h, Q h → Q' h) → c_readSum a0 h Q → c_readSum a0 h Q') (hw : wp_X0_readDenied c_readDenied c_readSum l1 h (fun h => Q none h)) : pm_R (d + 4) mt_X0_readDenied 0 [some (.ref 34), some (.int l1), none] [] h Q := by
  unfold wp_X0_readDenied at hw
  refine pm_steps 4 ?_
  refine @pm_we _ _ _ _ _ _ hw (fun hw => ?_) (fun hw => ?_)
  · refine pm_steps 3 ?_
    refine @pm_wl _ _ _ _ _ _ hw (fun hw => ?_) (fun hw => ?_)
    · refine pm_steps 2 ?_
      refine @wp_X0_advance_ok _ _ _ (@wp_X0_advance_mono _ _ _ (fun h855 hw => ?_) hw)
      refine pm_steps 5 ?_
      refine oc_readDenied _ _ _ (mc_readDenied _ _ _ _ (fun h856 hw => ?_) hw)
      refine pm_steps 2 ?_
      refine @pm_wo _ _ _ hw (fun t857 hw => ?_)
      refine pm_steps 2 ?_
      refine @pm_wc _ _ _ hw (fun hw => ?_)
      refine @wp_X4_add_ok _ _ _ _ _ (@wp_X4_add_mono _ _ _ _ _ (fun h858 hw => ?_) hw)
      exact pm_steps 1 hw
    · refine pm_steps 2 ?_
      refine @wp_X0_refuse_ok _ _ _ (@wp_X0_refuse_mono _ _ _ (fun h859 hw => ?_) hw)
      exact pm_steps 1 hw
  · refine pm_steps 3 ?_
    refine oc_readSum _ _ _ (mc_readSum _ _ _ _ (fun h860 hw => ?_) hw)
    refine pm_steps 4 ?_
    refine @pm_we _ _ _ _ _ _ hw (fun hw => ?_) (fun hw => ?_)
    · refine pm_steps 4 ?_
      refine @pm_we _ _ _ _ _ _ hw (fun hw => ?_) (fun hw => ?_)
      · refine pm_steps 5 ?_
        refine @wp_X0_advance_ok _ _ _ (@wp_X0_advance_mono _ _ _ (fun h861 hw => ?_) hw)
        refine pm_steps 3 ?_
        refine oc_readSum _ _ _ (mc_readSum _ _ _ _ (fun h862 hw => ?_) hw)
        refine pm_steps 2 ?_
        refine @pm_wo _ _ _ hw (fun t863 hw => ?_)
        refine pm_steps 2 ?_
        refine @pm_wc _ _ _ hw (fun hw => ?_)
        refine @wp_X4_add_ok _ _ _ _ _ (@wp_X4_add_mono _ _ _ _ _ (fun h864 hw => ?_) hw)
        exact pm_steps 1 hw
      · refine pm_steps 4 ?_
        refine @wp_X0_advance_ok _ _ _ (@wp_X0_advance_mono _ _ _ (fun h865 hw => ?_) hw)
        refine pm_steps 3 ?_
        refine oc_readSum _ _ _ (mc_readSum _ _ _ _ (fun h866 hw => ?_) hw)
        refine pm_steps 2 ?_
        refine @pm_wo _ _ _ hw (fun t867 hw => ?_)
        refine pm_steps 2 ?_
        refine @pm_wc _ _ _ hw (fun hw => ?_)
        refine @wp_X4_add_ok _ _ _ _ _ (@wp_X4_add_mono _ _ _ _ _ (fun h868 hw => ?_) hw)
        exact pm_steps 1 hw
    · refine pm_steps 4 ?_
      refine @pm_we _ _ _ _ _ _ hw (fun hw => ?_) (fun hw => ?_)
      · refine pm_steps 4 ?_
        refine @pm_we _ _ _ _ _ _ hw (fun hw => ?_) (fun hw => ?_)
        · refine pm_steps 5 ?_
          refine @wp_X0_advance_ok _ _ _ (@wp_X0_advance_mono _ _ _ (fun h869 hw => ?_) hw)
          refine pm_steps 3 ?_
          refine oc_readSum _ _ _ (mc_readSum _ _ _ _ (fun h870 hw => ?_) hw)
          refine pm_steps 2 ?_
          refine @pm_wo _ _ _ hw (fun t871 hw => ?_)
          refine pm_steps 2 ?_
          refine @pm_wc _ _ _ hw (fun hw => ?_)
          refine @wp_X4_add_ok _ _ _ _ _ (@wp_X4_add_mono _ _ _ _ _ (fun h872 hw => ?_) hw)
          exact pm_steps 1 hw
        · refine pm_steps 4 ?_
          refine @wp_X0_advance_ok _ _ _ (@wp_X0_advance_mono _ _ _ (fun h873 hw => ?_) hw)
          refine pm_steps 3 ?_
          refine oc_readSum _ _ _ (mc_readSum _ _ _ _ (fun h874 hw => ?_) hw)
          refine pm_steps 2 ?_
          refine @pm_wo _ _ _ hw (fun t875 hw => ?_)
          refine pm_steps 2 ?_
          refine @pm_wc _ _ _ hw (fun hw => ?_)
          refine @wp_X4_add_ok _ _ _ _ _ (@wp_X4_add_mono _ _ _ _ _ (fun h876 hw => ?_) hw)
          exact pm_steps 1 hw
      · exact pm_steps 1 hw
/-! StairLines$Reader.readSum(I)V -/
set_option maxRecDepth 16384 in
def wl_X0_readSum_7 (c_readTerm : Int32 → pm_H → (pm_H → Prop) → Prop) (l1 : Int32) (K72 : pm_H → Prop) (Q : pm_H → Prop) : Nat → Int32 → pm_H → Prop
  | 0, _, _ => False
  | n + 1, l2, h => pm_lt l2 160 (pm_eq (h 34 4) 43 (pm_eq (h 34 4) 43 (wp_X0_advance  h (fun h878 => c_readTerm l1 h878 (fun h879 => pm_ob (pm_dec (h879 34 2)) (fun t880 => pm_ib (pm_at 0 t880 4) (wp_X4_add t880 (-12) h879 (fun h881 => wl_X0_readSum_7 c_readTerm l1 K72 Q n (pm_op (l2 + 1)) h881)))))) (wp_X0_advance  h (fun h882 => c_readTerm l1 h882 (fun h883 => pm_ob (pm_dec (h883 34 2)) (fun t884 => pm_ib (pm_at 0 t884 4) (wp_X4_add t884 (-13) h883 (fun h885 => wl_X0_readSum_7 c_readTerm l1 K72 Q n (pm_op (l2 + 1)) h885))))))) (pm_eq (h 34 4) 45 (pm_eq (h 34 4) 43 (wp_X0_advance  h (fun h886 => c_readTerm l1 h886 (fun h887 => pm_ob (pm_dec (h887 34 2)) (fun t888 => pm_ib (pm_at 0 t888 4) (wp_X4_add t888 (-12) h887 (fun h889 => wl_X0_readSum_7 c_readTerm l1 K72 Q n (pm_op (l2 + 1)) h889)))))) (wp_X0_advance  h (fun h890 => c_readTerm l1 h890 (fun h891 => pm_ob (pm_dec (h891 34 2)) (fun t892 => pm_ib (pm_at 0 t892 4) (wp_X4_add t892 (-13) h891 (fun h893 => wl_X0_readSum_7 c_readTerm l1 K72 Q n (pm_op (l2 + 1)) h893))))))) (K72  h))) (K72  h)
set_option maxRecDepth 16384 in
theorem wl_X0_readSum_7_mono {c_readTerm : Int32 → pm_H → (pm_H → Prop) → Prop} {l1 : Int32} {K72 K72' : pm_H → Prop}  {Q Q' : pm_H → Prop} (mc_readTerm : ∀ (a0 : Int32) (h : pm_H) (Q Q' : pm_H → Prop), (∀ h, Q h → Q' h) → c_readTerm a0 h Q → c_readTerm a0 h Q')  (mK72 : ∀  h, K72  h → K72'  h) (hQ : ∀ h, Q h → Q' h) : ∀ (n : Nat) (l2 : Int32) (h : pm_H), wl_X0_readSum_7 c_readTerm l1 K72 Q n l2 h → wl_X0_readSum_7 c_readTerm l1 K72' Q' n l2 h
  | 0, _, _ => id
  | n + 1, l2, h => by unfold wl_X0_readSum_7; exact (@pm_lt_mono _ _ _ _ _ _ (@pm_eq_mono _ _ _ _ _ _ (@pm_eq_mono _ _ _ _ _ _ (@wp_X0_advance_mono _ _ _ (fun _ => (mc_readTerm _ _ _ _ (fun _ => (@pm_ob_mono _ _ _ (fun _ => (@pm_ib_mono _ _ _ (@wp_X4_add_mono _ _ _ _ _ (fun _ => (wl_X0_readSum_7_mono mc_readTerm mK72 hQ n _ _)))))))))) (@wp_X0_advance_mono _ _ _ (fun _ => (mc_readTerm _ _ _ _ (fun _ => (@pm_ob_mono _ _ _ (fun _ => (@pm_ib_mono _ _ _ (@wp_X4_add_mono _ _ _ _ _ (fun _ => (wl_X0_readSum_7_mono mc_readTerm mK72 hQ n _ _))))))))))) (@pm_eq_mono _ _ _ _ _ _ (@pm_eq_mono _ _ _ _ _ _ (@wp_X0_advance_mono _ _ _ (fun _ => (mc_readTerm _ _ _ _ (fun _ => (@pm_ob_mono _ _ _ (fun _ => (@pm_ib_mono _ _ _ (@wp_X4_add_mono _ _ _ _ _ (fun _ => (wl_X0_readSum_7_mono mc_readTerm mK72 hQ n _ _)))))))))) (@wp_X0_advance_mono _ _ _ (fun _ => (mc_readTerm _ _ _ _ (fun _ => (@pm_ob_mono _ _ _ (fun _ => (@pm_ib_mono _ _ _ (@wp_X4_add_mono _ _ _ _ _ (fun _ => (wl_X0_readSum_7_mono mc_readTerm mK72 hQ n _ _))))))))))) (mK72  _))) (mK72  _))
set_option maxRecDepth 16384 in
theorem wl_X0_readSum_7_ok {d : Nat} {c_readTerm : Int32 → pm_H → (pm_H → Prop) → Prop} {l1 : Int32} {K72 : pm_H → Prop} {Q : Option Value → pm_H → Prop} (oc_readTerm : ∀ (a0 : Int32) (h : pm_H) (Q : Option Value → pm_H → Prop), c_readTerm a0 h (fun h => Q none h) → pm_R (d + 3) mt_X0_readTerm 0 [some (.ref 34), some (.int a0), none] [] h Q) (mc_readTerm : ∀ (a0 : Int32) (h : pm_H) (Q Q' : pm_H → Prop), (∀ h, Q h → Q' h) → c_readTerm a0 h Q → c_readTerm a0 h Q') (hK72 : ∀  (h : pm_H), K72  h → pm_R (d + 4) mt_X0_readSum 72 [none, none, none, none] [] h Q) : ∀ (n : Nat) (l2 : Int32) (h : pm_H), wl_X0_readSum_7 c_readTerm l1 K72 (fun h => Q none h) n l2 h → pm_R (d + 4) mt_X0_readSum 7 [some (.ref 34), some (.int l1), some (.int l2), none] [] h Q
  | 0, _, _ => fun hw => hw.elim
  | n + 1, l2, h => fun hw => by
    unfold wl_X0_readSum_7 at hw
    refine pm_steps 3 ?_
    refine @pm_wl _ _ _ _ _ _ hw (fun hw => ?_) (fun hw => ?_)
    · refine pm_steps 4 ?_
      refine @pm_we _ _ _ _ _ _ hw (fun hw => ?_) (fun hw => ?_)
      · refine pm_steps 4 ?_
        refine @pm_we _ _ _ _ _ _ hw (fun hw => ?_) (fun hw => ?_)
        · refine pm_steps 5 ?_
          refine @wp_X0_advance_ok _ _ _ (@wp_X0_advance_mono _ _ _ (fun h878 hw => ?_) hw)
          refine pm_steps 3 ?_
          refine oc_readTerm _ _ _ (mc_readTerm _ _ _ _ (fun h879 hw => ?_) hw)
          refine pm_steps 2 ?_
          refine @pm_wo _ _ _ hw (fun t880 hw => ?_)
          refine pm_steps 2 ?_
          refine @pm_wc _ _ _ hw (fun hw => ?_)
          refine @wp_X4_add_ok _ _ _ _ _ (@wp_X4_add_mono _ _ _ _ _ (fun h881 hw => ?_) hw)
          refine pm_steps 2 ?_
          exact pm_fg (wl_X0_readSum_7_ok oc_readTerm mc_readTerm hK72 n _ _ hw) ⟨rfl, ⟨rfl, ⟨rfl, trivial⟩⟩⟩
        · refine pm_steps 4 ?_
          refine @wp_X0_advance_ok _ _ _ (@wp_X0_advance_mono _ _ _ (fun h882 hw => ?_) hw)
          refine pm_steps 3 ?_
          refine oc_readTerm _ _ _ (mc_readTerm _ _ _ _ (fun h883 hw => ?_) hw)
          refine pm_steps 2 ?_
          refine @pm_wo _ _ _ hw (fun t884 hw => ?_)
          refine pm_steps 2 ?_
          refine @pm_wc _ _ _ hw (fun hw => ?_)
          refine @wp_X4_add_ok _ _ _ _ _ (@wp_X4_add_mono _ _ _ _ _ (fun h885 hw => ?_) hw)
          refine pm_steps 2 ?_
          exact pm_fg (wl_X0_readSum_7_ok oc_readTerm mc_readTerm hK72 n _ _ hw) ⟨rfl, ⟨rfl, ⟨rfl, trivial⟩⟩⟩
      · refine pm_steps 4 ?_
        refine @pm_we _ _ _ _ _ _ hw (fun hw => ?_) (fun hw => ?_)
        · refine pm_steps 4 ?_
          refine @pm_we _ _ _ _ _ _ hw (fun hw => ?_) (fun hw => ?_)
          · refine pm_steps 5 ?_
            refine @wp_X0_advance_ok _ _ _ (@wp_X0_advance_mono _ _ _ (fun h886 hw => ?_) hw)
            refine pm_steps 3 ?_
            refine oc_readTerm _ _ _ (mc_readTerm _ _ _ _ (fun h887 hw => ?_) hw)
            refine pm_steps 2 ?_
            refine @pm_wo _ _ _ hw (fun t888 hw => ?_)
            refine pm_steps 2 ?_
            refine @pm_wc _ _ _ hw (fun hw => ?_)
            refine @wp_X4_add_ok _ _ _ _ _ (@wp_X4_add_mono _ _ _ _ _ (fun h889 hw => ?_) hw)
            refine pm_steps 2 ?_
            exact pm_fg (wl_X0_readSum_7_ok oc_readTerm mc_readTerm hK72 n _ _ hw) ⟨rfl, ⟨rfl, ⟨rfl, trivial⟩⟩⟩
          · refine pm_steps 4 ?_
            refine @wp_X0_advance_ok _ _ _ (@wp_X0_advance_mono _ _ _ (fun h890 hw => ?_) hw)
            refine pm_steps 3 ?_
            refine oc_readTerm _ _ _ (mc_readTerm _ _ _ _ (fun h891 hw => ?_) hw)
            refine pm_steps 2 ?_
            refine @pm_wo _ _ _ hw (fun t892 hw => ?_)
            refine pm_steps 2 ?_
            refine @pm_wc _ _ _ hw (fun hw => ?_)
            refine @wp_X4_add_ok _ _ _ _ _ (@wp_X4_add_mono _ _ _ _ _ (fun h893 hw => ?_) hw)
            refine pm_steps 2 ?_
            exact pm_fg (wl_X0_readSum_7_ok oc_readTerm mc_readTerm hK72 n _ _ hw) ⟨rfl, ⟨rfl, ⟨rfl, trivial⟩⟩⟩
        · exact pm_fg (hK72  _ hw) trivial
    · exact pm_fg (hK72  _ hw) trivial
set_option maxRecDepth 16384 in
def wp_X0_readSum (c_readTerm : Int32 → pm_H → (pm_H → Prop) → Prop) (l1 : Int32) (h : pm_H) (Q : pm_H → Prop) : Prop := c_readTerm l1 h (fun h877 => ∃ n895, wl_X0_readSum_7 c_readTerm l1 (fun  h894 => Q h894) Q n895 0 h877)
set_option maxRecDepth 16384 in
theorem wp_X0_readSum_mono {c_readTerm : Int32 → pm_H → (pm_H → Prop) → Prop} {l1 : Int32} {h : pm_H} {Q Q' : pm_H → Prop} (mc_readTerm : ∀ (a0 : Int32) (h : pm_H) (Q Q' : pm_H → Prop), (∀ h, Q h → Q' h) → c_readTerm a0 h Q → c_readTerm a0 h Q') (hQ : ∀ h, Q h → Q' h) : wp_X0_readSum c_readTerm l1 h Q → wp_X0_readSum c_readTerm l1 h Q' := by unfold wp_X0_readSum; exact (mc_readTerm _ _ _ _ (fun _ => (fun z => Exists.elim z (fun n895 z => ⟨n895, wl_X0_readSum_7_mono mc_readTerm (fun  _ => (hQ _)) hQ n895 _ _ z⟩))))
set_option maxRecDepth 16384 in
theorem wp_X0_readSum_ok {d : Nat} {c_readTerm : Int32 → pm_H → (pm_H → Prop) → Prop} {l1 : Int32} {h : pm_H} {Q : Option Value → pm_H → Prop} (oc_readTerm : ∀ (a0 : Int32) (h : pm_H) (Q : Option Value → pm_H → Prop), c_readTerm a0 h (fun h => Q none h) → pm_R (d + 3) mt_X0_readTerm 0 [some (.ref 34), some (.int a0), none] [] h Q) (mc_readTerm : ∀ (a0 : Int32) (h : pm_H) (Q Q' : pm_H → Prop), (∀ h, Q h → Q' h) → c_readTerm a0 h Q → c_readTerm a0 h Q') (hw : wp_X0_readSum c_readTerm l1 h (fun h => Q none h)) : pm_R (d + 4) mt_X0_readSum 0 [some (.ref 34), some (.int l1), none, none] [] h Q := by
  unfold wp_X0_readSum at hw
  refine pm_steps 3 ?_
  refine oc_readTerm _ _ _ (mc_readTerm _ _ _ _ (fun h877 hw => ?_) hw)
  refine pm_steps 2 ?_
  obtain ⟨n895, hw⟩ := hw
  refine pm_fg (wl_X0_readSum_7_ok oc_readTerm mc_readTerm ?_ n895 _ _ hw) ⟨rfl, ⟨rfl, ⟨rfl, trivial⟩⟩⟩
  · intro  h894 hw
    exact pm_steps 1 hw
/-! StairLines$Reader.readTerm(I)V -/
set_option maxRecDepth 16384 in
def wl_X0_readTerm_7 (c_readOne : Int32 → pm_H → (pm_H → Prop) → Prop) (l1 : Int32) (K47 : pm_H → Prop) (Q : pm_H → Prop) : Nat → Int32 → pm_H → Prop
  | 0, _, _ => False
  | n + 1, l2, h => pm_lt l2 160 (pm_eq (h 34 4) 42 (wp_X0_advance  h (fun h897 => c_readOne l1 h897 (fun h898 => pm_ob (pm_dec (h898 34 2)) (fun t899 => pm_ib (pm_at 0 t899 4) (wp_X4_add t899 (-14) h898 (fun h900 => wl_X0_readTerm_7 c_readOne l1 K47 Q n (pm_op (l2 + 1)) h900)))))) (K47  h)) (K47  h)
set_option maxRecDepth 16384 in
theorem wl_X0_readTerm_7_mono {c_readOne : Int32 → pm_H → (pm_H → Prop) → Prop} {l1 : Int32} {K47 K47' : pm_H → Prop}  {Q Q' : pm_H → Prop} (mc_readOne : ∀ (a0 : Int32) (h : pm_H) (Q Q' : pm_H → Prop), (∀ h, Q h → Q' h) → c_readOne a0 h Q → c_readOne a0 h Q')  (mK47 : ∀  h, K47  h → K47'  h) (hQ : ∀ h, Q h → Q' h) : ∀ (n : Nat) (l2 : Int32) (h : pm_H), wl_X0_readTerm_7 c_readOne l1 K47 Q n l2 h → wl_X0_readTerm_7 c_readOne l1 K47' Q' n l2 h
  | 0, _, _ => id
  | n + 1, l2, h => by unfold wl_X0_readTerm_7; exact (@pm_lt_mono _ _ _ _ _ _ (@pm_eq_mono _ _ _ _ _ _ (@wp_X0_advance_mono _ _ _ (fun _ => (mc_readOne _ _ _ _ (fun _ => (@pm_ob_mono _ _ _ (fun _ => (@pm_ib_mono _ _ _ (@wp_X4_add_mono _ _ _ _ _ (fun _ => (wl_X0_readTerm_7_mono mc_readOne mK47 hQ n _ _)))))))))) (mK47  _)) (mK47  _))
set_option maxRecDepth 16384 in
theorem wl_X0_readTerm_7_ok {d : Nat} {c_readOne : Int32 → pm_H → (pm_H → Prop) → Prop} {l1 : Int32} {K47 : pm_H → Prop} {Q : Option Value → pm_H → Prop} (oc_readOne : ∀ (a0 : Int32) (h : pm_H) (Q : Option Value → pm_H → Prop), c_readOne a0 h (fun h => Q none h) → pm_R (d + 3) mt_X0_readOne 0 [some (.ref 34), some (.int a0)] [] h Q) (mc_readOne : ∀ (a0 : Int32) (h : pm_H) (Q Q' : pm_H → Prop), (∀ h, Q h → Q' h) → c_readOne a0 h Q → c_readOne a0 h Q') (hK47 : ∀  (h : pm_H), K47  h → pm_R (d + 4) mt_X0_readTerm 47 [none, none, none] [] h Q) : ∀ (n : Nat) (l2 : Int32) (h : pm_H), wl_X0_readTerm_7 c_readOne l1 K47 (fun h => Q none h) n l2 h → pm_R (d + 4) mt_X0_readTerm 7 [some (.ref 34), some (.int l1), some (.int l2)] [] h Q
  | 0, _, _ => fun hw => hw.elim
  | n + 1, l2, h => fun hw => by
    unfold wl_X0_readTerm_7 at hw
    refine pm_steps 3 ?_
    refine @pm_wl _ _ _ _ _ _ hw (fun hw => ?_) (fun hw => ?_)
    · refine pm_steps 4 ?_
      refine @pm_we _ _ _ _ _ _ hw (fun hw => ?_) (fun hw => ?_)
      · refine pm_steps 2 ?_
        refine @wp_X0_advance_ok _ _ _ (@wp_X0_advance_mono _ _ _ (fun h897 hw => ?_) hw)
        refine pm_steps 3 ?_
        refine oc_readOne _ _ _ (mc_readOne _ _ _ _ (fun h898 hw => ?_) hw)
        refine pm_steps 2 ?_
        refine @pm_wo _ _ _ hw (fun t899 hw => ?_)
        refine pm_steps 2 ?_
        refine @pm_wc _ _ _ hw (fun hw => ?_)
        refine @wp_X4_add_ok _ _ _ _ _ (@wp_X4_add_mono _ _ _ _ _ (fun h900 hw => ?_) hw)
        refine pm_steps 2 ?_
        exact pm_fg (wl_X0_readTerm_7_ok oc_readOne mc_readOne hK47 n _ _ hw) ⟨rfl, ⟨rfl, ⟨rfl, trivial⟩⟩⟩
      · exact pm_fg (hK47  _ hw) trivial
    · exact pm_fg (hK47  _ hw) trivial
set_option maxRecDepth 16384 in
def wp_X0_readTerm (c_readOne : Int32 → pm_H → (pm_H → Prop) → Prop) (l1 : Int32) (h : pm_H) (Q : pm_H → Prop) : Prop := c_readOne l1 h (fun h896 => ∃ n902, wl_X0_readTerm_7 c_readOne l1 (fun  h901 => Q h901) Q n902 0 h896)
set_option maxRecDepth 16384 in
theorem wp_X0_readTerm_mono {c_readOne : Int32 → pm_H → (pm_H → Prop) → Prop} {l1 : Int32} {h : pm_H} {Q Q' : pm_H → Prop} (mc_readOne : ∀ (a0 : Int32) (h : pm_H) (Q Q' : pm_H → Prop), (∀ h, Q h → Q' h) → c_readOne a0 h Q → c_readOne a0 h Q') (hQ : ∀ h, Q h → Q' h) : wp_X0_readTerm c_readOne l1 h Q → wp_X0_readTerm c_readOne l1 h Q' := by unfold wp_X0_readTerm; exact (mc_readOne _ _ _ _ (fun _ => (fun z => Exists.elim z (fun n902 z => ⟨n902, wl_X0_readTerm_7_mono mc_readOne (fun  _ => (hQ _)) hQ n902 _ _ z⟩))))
set_option maxRecDepth 16384 in
theorem wp_X0_readTerm_ok {d : Nat} {c_readOne : Int32 → pm_H → (pm_H → Prop) → Prop} {l1 : Int32} {h : pm_H} {Q : Option Value → pm_H → Prop} (oc_readOne : ∀ (a0 : Int32) (h : pm_H) (Q : Option Value → pm_H → Prop), c_readOne a0 h (fun h => Q none h) → pm_R (d + 3) mt_X0_readOne 0 [some (.ref 34), some (.int a0)] [] h Q) (mc_readOne : ∀ (a0 : Int32) (h : pm_H) (Q Q' : pm_H → Prop), (∀ h, Q h → Q' h) → c_readOne a0 h Q → c_readOne a0 h Q') (hw : wp_X0_readTerm c_readOne l1 h (fun h => Q none h)) : pm_R (d + 4) mt_X0_readTerm 0 [some (.ref 34), some (.int l1), none] [] h Q := by
  unfold wp_X0_readTerm at hw
  refine pm_steps 3 ?_
  refine oc_readOne _ _ _ (mc_readOne _ _ _ _ (fun h896 hw => ?_) hw)
  refine pm_steps 2 ?_
  obtain ⟨n902, hw⟩ := hw
  refine pm_fg (wl_X0_readTerm_7_ok oc_readOne mc_readOne ?_ n902 _ _ hw) ⟨rfl, ⟨rfl, ⟨rfl, trivial⟩⟩⟩
  · intro  h901 hw
    exact pm_steps 1 hw
