/-! StairLinesModel.apart(I)I -/
set_option maxRecDepth 16384 in
def wl_X7_apart_35 (l1 : Int32) (l2 : Int32) (l3 : Int32) (l4 : Int32) (K68 : pm_H → Prop) (Q : Int32 → pm_H → Prop) : Nat → Int32 → pm_H → Prop
  | 0, _, _ => False
  | n + 1, l5, h => pm_lt l5 (h 66 3) (pm_ib (pm_in l5 5) (wl_X7_apart_35 l1 l2 l3 l4 K68 Q n (pm_op (l5 + 1)) (pm_u h 72 l5.toNatClampNeg (pm_op (pm_min 199 (pm_op (l5 * l4))))))) (K68  h)
set_option maxRecDepth 16384 in
theorem wl_X7_apart_35_mono {l1 : Int32} {l2 : Int32} {l3 : Int32} {l4 : Int32} {K68 K68' : pm_H → Prop}  {Q Q' : Int32 → pm_H → Prop}  (mK68 : ∀  h, K68  h → K68'  h) (hQ : ∀ r h, Q r h → Q' r h) : ∀ (n : Nat) (l5 : Int32) (h : pm_H), wl_X7_apart_35 l1 l2 l3 l4 K68 Q n l5 h → wl_X7_apart_35 l1 l2 l3 l4 K68' Q' n l5 h
  | 0, _, _ => id
  | n + 1, l5, h => by unfold wl_X7_apart_35; exact (@pm_lt_mono _ _ _ _ _ _ (@pm_ib_mono _ _ _ (wl_X7_apart_35_mono mK68 hQ n _ _)) (mK68  _))
set_option maxRecDepth 16384 in
theorem wl_X7_apart_35_ok {d : Nat} {l1 : Int32} {l2 : Int32} {l3 : Int32} {l4 : Int32} {K68 : pm_H → Prop} {Q : Option Value → pm_H → Prop} (hK68 : ∀  (h : pm_H), K68  h → pm_R (d + 5) mt_X7_apart 68 [some (.ref 66), some (.int l1), some (.int l2), some (.int l3), some (.int l4), none] [] h Q) : ∀ (n : Nat) (l5 : Int32) (h : pm_H), wl_X7_apart_35 l1 l2 l3 l4 K68 (fun r h => Q (some (.int r)) h) n l5 h → pm_R (d + 5) mt_X7_apart 35 [some (.ref 66), some (.int l1), some (.int l2), some (.int l3), some (.int l4), some (.int l5)] [] h Q
  | 0, _, _ => fun hw => hw.elim
  | n + 1, l5, h => fun hw => by
    unfold wl_X7_apart_35 at hw
    refine pm_steps 4 ?_
    refine @pm_wl _ _ _ _ _ _ hw (fun hw => ?_) (fun hw => ?_)
    · refine pm_steps 9 ?_
      refine @pm_wc _ _ _ hw (fun hw => ?_)
      refine pm_steps 2 ?_
      exact pm_fg (wl_X7_apart_35_ok hK68 n _ _ hw) ⟨rfl, ⟨rfl, ⟨rfl, ⟨rfl, ⟨rfl, ⟨rfl, trivial⟩⟩⟩⟩⟩⟩
    · exact pm_fg (hK68  _ hw) ⟨rfl, ⟨rfl, ⟨rfl, ⟨rfl, ⟨rfl, trivial⟩⟩⟩⟩⟩
set_option maxRecDepth 16384 in
def wl_X7_apart_25 (l1 : Int32) (K85 : Int32 → pm_H → Prop) (K116 : Int32 → pm_H → Prop) (Q : Int32 → pm_H → Prop) : Nat → Int32 → Int32 → Int32 → pm_H → Prop
  | 0, _, _, _, _ => False
  | n + 1, l2, l3, l4, h => pm_lt 30 l4 (K116 l2 h) (∃ n654, wl_X7_apart_35 l1 l2 l3 l4 (fun  h651 => wp_X7_ends_  h651 (fun r653 h652 => pm_eq l1 0 (pm_eq (h652 66 27) 0 (K85 l4 h652) (pm_eq l1 0 (wl_X7_apart_25 l1 K85 K116 Q n l2 l3 (pm_op (l4 + 1)) h652) (pm_lt r653 l3 (wl_X7_apart_25 l1 K85 K116 Q n l4 r653 (pm_op (l4 + 1)) h652) (wl_X7_apart_25 l1 K85 K116 Q n l2 l3 (pm_op (l4 + 1)) h652)))) (pm_eq l1 0 (wl_X7_apart_25 l1 K85 K116 Q n l2 l3 (pm_op (l4 + 1)) h652) (pm_lt r653 l3 (wl_X7_apart_25 l1 K85 K116 Q n l4 r653 (pm_op (l4 + 1)) h652) (wl_X7_apart_25 l1 K85 K116 Q n l2 l3 (pm_op (l4 + 1)) h652))))) Q n654 0 h)
set_option maxRecDepth 16384 in
theorem wl_X7_apart_25_mono {l1 : Int32} {K85 K85' : Int32 → pm_H → Prop} {K116 K116' : Int32 → pm_H → Prop}  {Q Q' : Int32 → pm_H → Prop}  (mK85 : ∀ x4 h, K85 x4 h → K85' x4 h) (mK116 : ∀ x2 h, K116 x2 h → K116' x2 h) (hQ : ∀ r h, Q r h → Q' r h) : ∀ (n : Nat) (l2 : Int32) (l3 : Int32) (l4 : Int32) (h : pm_H), wl_X7_apart_25 l1 K85 K116 Q n l2 l3 l4 h → wl_X7_apart_25 l1 K85' K116' Q' n l2 l3 l4 h
  | 0, _, _, _, _ => id
  | n + 1, l2, l3, l4, h => by unfold wl_X7_apart_25; exact (@pm_lt_mono _ _ _ _ _ _ (mK116 _ _) (fun z => Exists.elim z (fun n654 z => ⟨n654, wl_X7_apart_35_mono (fun  _ => (@wp_X7_ends__mono _ _ _ (fun _ _ => (@pm_eq_mono _ _ _ _ _ _ (@pm_eq_mono _ _ _ _ _ _ (mK85 _ _) (@pm_eq_mono _ _ _ _ _ _ (wl_X7_apart_25_mono mK85 mK116 hQ n _ _ _ _) (@pm_lt_mono _ _ _ _ _ _ (wl_X7_apart_25_mono mK85 mK116 hQ n _ _ _ _) (wl_X7_apart_25_mono mK85 mK116 hQ n _ _ _ _)))) (@pm_eq_mono _ _ _ _ _ _ (wl_X7_apart_25_mono mK85 mK116 hQ n _ _ _ _) (@pm_lt_mono _ _ _ _ _ _ (wl_X7_apart_25_mono mK85 mK116 hQ n _ _ _ _) (wl_X7_apart_25_mono mK85 mK116 hQ n _ _ _ _))))))) hQ n654 _ _ z⟩)))
set_option maxRecDepth 16384 in
theorem wl_X7_apart_25_ok {d : Nat} {l1 : Int32} {K85 : Int32 → pm_H → Prop} {K116 : Int32 → pm_H → Prop} {Q : Option Value → pm_H → Prop} (hK85 : ∀ (x4 : Int32) (h : pm_H), K85 x4 h → pm_R (d + 5) mt_X7_apart 85 [some (.ref 66), none, none, none, some (.int x4), none] [] h Q) (hK116 : ∀ (x2 : Int32) (h : pm_H), K116 x2 h → pm_R (d + 5) mt_X7_apart 116 [some (.ref 66), none, some (.int x2), none, none, none] [] h Q) : ∀ (n : Nat) (l2 : Int32) (l3 : Int32) (l4 : Int32) (h : pm_H), wl_X7_apart_25 l1 K85 K116 (fun r h => Q (some (.int r)) h) n l2 l3 l4 h → pm_R (d + 5) mt_X7_apart 25 [some (.ref 66), some (.int l1), some (.int l2), some (.int l3), some (.int l4), none] [] h Q
  | 0, _, _, _, _ => fun hw => hw.elim
  | n + 1, l2, l3, l4, h => fun hw => by
    unfold wl_X7_apart_25 at hw
    refine pm_steps 3 ?_
    refine @pm_wl _ _ _ _ _ _ hw (fun hw => ?_) (fun hw => ?_)
    · exact pm_fg (hK116 _ _ hw) ⟨rfl, ⟨rfl, trivial⟩⟩
    · refine pm_steps 2 ?_
      obtain ⟨n654, hw⟩ := hw
      refine pm_fg (wl_X7_apart_35_ok ?_ n654 _ _ hw) ⟨rfl, ⟨rfl, ⟨rfl, ⟨rfl, ⟨rfl, ⟨rfl, trivial⟩⟩⟩⟩⟩⟩
      · intro  h651 hw
        refine pm_steps 2 ?_
        refine @wp_X7_ends__ok _ _ _ (@wp_X7_ends__mono _ _ _ (fun r653 h652 hw => ?_) hw)
        refine pm_steps 3 ?_
        refine @pm_we _ _ _ _ _ _ hw (fun hw => ?_) (fun hw => ?_)
        · refine pm_steps 3 ?_
          refine @pm_we _ _ _ _ _ _ hw (fun hw => ?_) (fun hw => ?_)
          · exact pm_fg (hK85 _ _ hw) ⟨rfl, ⟨rfl, trivial⟩⟩
          · refine pm_steps 2 ?_
            refine @pm_we _ _ _ _ _ _ hw (fun hw => ?_) (fun hw => ?_)
            · refine pm_steps 2 ?_
              exact pm_fg (wl_X7_apart_25_ok hK85 hK116 n _ _ _ _ hw) ⟨rfl, ⟨rfl, ⟨rfl, ⟨rfl, ⟨rfl, trivial⟩⟩⟩⟩⟩
            · refine pm_steps 3 ?_
              refine @pm_wl _ _ _ _ _ _ hw (fun hw => ?_) (fun hw => ?_)
              · refine pm_steps 6 ?_
                exact pm_fg (wl_X7_apart_25_ok hK85 hK116 n _ _ _ _ hw) ⟨rfl, ⟨rfl, ⟨rfl, ⟨rfl, ⟨rfl, trivial⟩⟩⟩⟩⟩
              · refine pm_steps 3 ?_
                exact pm_fg (wl_X7_apart_25_ok hK85 hK116 n _ _ _ _ hw) ⟨rfl, ⟨rfl, ⟨rfl, ⟨rfl, ⟨rfl, trivial⟩⟩⟩⟩⟩
        · refine pm_steps 2 ?_
          refine @pm_we _ _ _ _ _ _ hw (fun hw => ?_) (fun hw => ?_)
          · refine pm_steps 2 ?_
            exact pm_fg (wl_X7_apart_25_ok hK85 hK116 n _ _ _ _ hw) ⟨rfl, ⟨rfl, ⟨rfl, ⟨rfl, ⟨rfl, trivial⟩⟩⟩⟩⟩
          · refine pm_steps 3 ?_
            refine @pm_wl _ _ _ _ _ _ hw (fun hw => ?_) (fun hw => ?_)
            · refine pm_steps 6 ?_
              exact pm_fg (wl_X7_apart_25_ok hK85 hK116 n _ _ _ _ hw) ⟨rfl, ⟨rfl, ⟨rfl, ⟨rfl, ⟨rfl, trivial⟩⟩⟩⟩⟩
            · refine pm_steps 3 ?_
              exact pm_fg (wl_X7_apart_25_ok hK85 hK116 n _ _ _ _ hw) ⟨rfl, ⟨rfl, ⟨rfl, ⟨rfl, ⟨rfl, trivial⟩⟩⟩⟩⟩
set_option maxRecDepth 16384 in
def wp_X7_apart (l1 : Int32) (h : pm_H) (Q : Int32 → pm_H → Prop) : Prop := wp_X7_within l1 0 1 h (fun r649 h648 => pm_eq r649 0 (Q (-2) h648) (wp_X7_keepBells  h648 (fun h650 => ∃ n661, wl_X7_apart_25 l1 (fun x656 h655 => wp_X7_bellsAgain  h655 (fun h657 => Q x656 h657)) (fun x659 h658 => wp_X7_bellsAgain  h658 (fun h660 => Q x659 h660)) Q n661 (-1) 401 0 h650)))
set_option maxRecDepth 16384 in
theorem wp_X7_apart_mono {l1 : Int32} {h : pm_H} {Q Q' : Int32 → pm_H → Prop} (hQ : ∀ r h, Q r h → Q' r h) : wp_X7_apart l1 h Q → wp_X7_apart l1 h Q' := by unfold wp_X7_apart; exact (@wp_X7_within_mono _ _ _ _ _ _ (fun _ _ => (@pm_eq_mono _ _ _ _ _ _ (hQ _ _) (@wp_X7_keepBells_mono _ _ _ (fun _ => (fun z => Exists.elim z (fun n661 z => ⟨n661, wl_X7_apart_25_mono (fun _ _ => (@wp_X7_bellsAgain_mono _ _ _ (fun _ => (hQ _ _)))) (fun _ _ => (@wp_X7_bellsAgain_mono _ _ _ (fun _ => (hQ _ _)))) hQ n661 _ _ _ _ z⟩)))))))
set_option maxRecDepth 16384 in
theorem wp_X7_apart_ok {d : Nat} {l1 : Int32} {h : pm_H} {Q : Option Value → pm_H → Prop} (hw : wp_X7_apart l1 h (fun r h => Q (some (.int r)) h)) : pm_R (d + 5) mt_X7_apart 0 [some (.ref 66), some (.int l1), none, none, none, none] [] h Q := by
  unfold wp_X7_apart at hw
  refine pm_steps 4 ?_
  refine @wp_X7_within_ok _ _ _ _ _ _ (@wp_X7_within_mono _ _ _ _ _ _ (fun r649 h648 hw => ?_) hw)
  refine pm_steps 1 ?_
  refine @pm_we _ _ _ _ _ _ hw (fun hw => ?_) (fun hw => ?_)
  · exact pm_steps 2 hw
  · refine pm_steps 2 ?_
    refine @wp_X7_keepBells_ok _ _ _ (@wp_X7_keepBells_mono _ _ _ (fun h650 hw => ?_) hw)
    refine pm_steps 6 ?_
    obtain ⟨n661, hw⟩ := hw
    refine pm_fg (wl_X7_apart_25_ok ?_ ?_ n661 _ _ _ _ hw) ⟨rfl, ⟨rfl, ⟨rfl, ⟨rfl, ⟨rfl, trivial⟩⟩⟩⟩⟩
    · intro x656 h655 hw
      refine pm_steps 5 ?_
      refine @wp_X7_bellsAgain_ok _ _ _ (@wp_X7_bellsAgain_mono _ _ _ (fun h657 hw => ?_) hw)
      exact pm_steps 2 hw
    · intro x659 h658 hw
      refine pm_steps 2 ?_
      refine @wp_X7_bellsAgain_ok _ _ _ (@wp_X7_bellsAgain_mono _ _ _ (fun h660 hw => ?_) hw)
      exact pm_steps 2 hw
/-! StairLinesModel.another()Z -/
set_option maxRecDepth 16384 in
def wl_X7_another_7  (K34 : Int32 → pm_H → Prop) (Q : Int32 → pm_H → Prop) : Nat → Int32 → pm_H → Prop
  | 0, _, _ => False
  | n + 1, l1, h => pm_lt l1 0 (K34 l1 h) (pm_ib (pm_in l1 5) (pm_ib (pm_in (pm_op (l1 + 1)) 5) (pm_lt (h 84 (pm_op (l1 + 1)).toNatClampNeg) (h 84 l1.toNatClampNeg) (wl_X7_another_7 K34 Q n (pm_op (l1 + (-1))) h) (K34 l1 h))))
set_option maxRecDepth 16384 in
theorem wl_X7_another_7_mono  {K34 K34' : Int32 → pm_H → Prop}  {Q Q' : Int32 → pm_H → Prop}  (mK34 : ∀ x1 h, K34 x1 h → K34' x1 h) (hQ : ∀ r h, Q r h → Q' r h) : ∀ (n : Nat) (l1 : Int32) (h : pm_H), wl_X7_another_7 K34 Q n l1 h → wl_X7_another_7 K34' Q' n l1 h
  | 0, _, _ => id
  | n + 1, l1, h => by unfold wl_X7_another_7; exact (@pm_lt_mono _ _ _ _ _ _ (mK34 _ _) (@pm_ib_mono _ _ _ (@pm_ib_mono _ _ _ (@pm_lt_mono _ _ _ _ _ _ (wl_X7_another_7_mono mK34 hQ n _ _) (mK34 _ _)))))
set_option maxRecDepth 16384 in
theorem wl_X7_another_7_ok {d : Nat}  {K34 : Int32 → pm_H → Prop} {Q : Option Value → pm_H → Prop} (hK34 : ∀ (x1 : Int32) (h : pm_H), K34 x1 h → pm_R (d + 0) mt_X7_another 34 [some (.ref 66), some (.int x1), none, none, none, none] [] h Q) : ∀ (n : Nat) (l1 : Int32) (h : pm_H), wl_X7_another_7 K34 (fun r h => Q (some (.int r)) h) n l1 h → pm_R (d + 0) mt_X7_another 7 [some (.ref 66), some (.int l1), none, none, none, none] [] h Q
  | 0, _, _ => fun hw => hw.elim
  | n + 1, l1, h => fun hw => by
    unfold wl_X7_another_7 at hw
    refine pm_steps 2 ?_
    refine @pm_wl _ _ _ _ _ _ hw (fun hw => ?_) (fun hw => ?_)
    · exact pm_fg (hK34 _ _ hw) ⟨rfl, ⟨rfl, trivial⟩⟩
    · refine pm_steps 4 ?_
      refine @pm_wc _ _ _ hw (fun hw => ?_)
      refine pm_steps 6 ?_
      refine @pm_wc _ _ _ hw (fun hw => ?_)
      refine pm_steps 1 ?_
      refine @pm_wl _ _ _ _ _ _ hw (fun hw => ?_) (fun hw => ?_)
      · refine pm_steps 2 ?_
        exact pm_fg (wl_X7_another_7_ok hK34 n _ _ hw) ⟨rfl, ⟨rfl, trivial⟩⟩
      · exact pm_fg (hK34 _ _ hw) ⟨rfl, ⟨rfl, trivial⟩⟩
set_option maxRecDepth 16384 in
def wl_X7_another_47 (l1 : Int32) (K68 : Int32 → pm_H → Prop) (Q : Int32 → pm_H → Prop) : Nat → Int32 → pm_H → Prop
  | 0, _, _ => False
  | n + 1, l2, h => pm_ib (pm_in l2 5) (pm_ib (pm_in l1 5) (pm_lt (h 84 l2.toNatClampNeg) (h 84 l1.toNatClampNeg) (wl_X7_another_47 l1 K68 Q n (pm_op (l2 + (-1))) h) (K68 l2 h)))
set_option maxRecDepth 16384 in
theorem wl_X7_another_47_mono {l1 : Int32} {K68 K68' : Int32 → pm_H → Prop}  {Q Q' : Int32 → pm_H → Prop}  (mK68 : ∀ x2 h, K68 x2 h → K68' x2 h) (hQ : ∀ r h, Q r h → Q' r h) : ∀ (n : Nat) (l2 : Int32) (h : pm_H), wl_X7_another_47 l1 K68 Q n l2 h → wl_X7_another_47 l1 K68' Q' n l2 h
  | 0, _, _ => id
  | n + 1, l2, h => by unfold wl_X7_another_47; exact (@pm_ib_mono _ _ _ (@pm_ib_mono _ _ _ (@pm_lt_mono _ _ _ _ _ _ (wl_X7_another_47_mono mK68 hQ n _ _) (mK68 _ _))))
set_option maxRecDepth 16384 in
theorem wl_X7_another_47_ok {d : Nat} {l1 : Int32} {K68 : Int32 → pm_H → Prop} {Q : Option Value → pm_H → Prop} (hK68 : ∀ (x2 : Int32) (h : pm_H), K68 x2 h → pm_R (d + 0) mt_X7_another 68 [some (.ref 66), some (.int l1), some (.int x2), none, none, none] [] h Q) : ∀ (n : Nat) (l2 : Int32) (h : pm_H), wl_X7_another_47 l1 K68 (fun r h => Q (some (.int r)) h) n l2 h → pm_R (d + 0) mt_X7_another 47 [some (.ref 66), some (.int l1), some (.int l2), none, none, none] [] h Q
  | 0, _, _ => fun hw => hw.elim
  | n + 1, l2, h => fun hw => by
    unfold wl_X7_another_47 at hw
    refine pm_steps 4 ?_
    refine @pm_wc _ _ _ hw (fun hw => ?_)
    refine pm_steps 4 ?_
    refine @pm_wc _ _ _ hw (fun hw => ?_)
    refine pm_steps 1 ?_
    refine @pm_wl _ _ _ _ _ _ hw (fun hw => ?_) (fun hw => ?_)
    · refine pm_steps 2 ?_
      exact pm_fg (wl_X7_another_47_ok hK68 n _ _ hw) ⟨rfl, ⟨rfl, ⟨rfl, trivial⟩⟩⟩
    · exact pm_fg (hK68 _ _ hw) ⟨rfl, ⟨rfl, ⟨rfl, trivial⟩⟩⟩
set_option maxRecDepth 16384 in
def wl_X7_another_107  (K153 : pm_H → Prop) (Q : Int32 → pm_H → Prop) : Nat → Int32 → Int32 → pm_H → Prop
  | 0, _, _, _ => False
  | n + 1, l4, l5, h => pm_lt l4 l5 (pm_ib (pm_in l4 5) (pm_ib (pm_in l5 5) (pm_ib (pm_in l4 5) (pm_ib (pm_in l5 5) (wl_X7_another_107 K153 Q n (pm_op (l4 + 1)) (pm_op (l5 + (-1))) (pm_u (pm_u h 84 l4.toNatClampNeg (h 84 l5.toNatClampNeg)) 84 l5.toNatClampNeg (h 84 l4.toNatClampNeg))))))) (K153  h)
set_option maxRecDepth 16384 in
theorem wl_X7_another_107_mono  {K153 K153' : pm_H → Prop}  {Q Q' : Int32 → pm_H → Prop}  (mK153 : ∀  h, K153  h → K153'  h) (hQ : ∀ r h, Q r h → Q' r h) : ∀ (n : Nat) (l4 : Int32) (l5 : Int32) (h : pm_H), wl_X7_another_107 K153 Q n l4 l5 h → wl_X7_another_107 K153' Q' n l4 l5 h
  | 0, _, _, _ => id
  | n + 1, l4, l5, h => by unfold wl_X7_another_107; exact (@pm_lt_mono _ _ _ _ _ _ (@pm_ib_mono _ _ _ (@pm_ib_mono _ _ _ (@pm_ib_mono _ _ _ (@pm_ib_mono _ _ _ (wl_X7_another_107_mono mK153 hQ n _ _ _))))) (mK153  _))
set_option maxRecDepth 16384 in
theorem wl_X7_another_107_ok {d : Nat}  {K153 : pm_H → Prop} {Q : Option Value → pm_H → Prop} (hK153 : ∀  (h : pm_H), K153  h → pm_R (d + 0) mt_X7_another 153 [none, none, none, none, none, none] [] h Q) : ∀ (n : Nat) (l4 : Int32) (l5 : Int32) (h : pm_H), wl_X7_another_107 K153 (fun r h => Q (some (.int r)) h) n l4 l5 h → pm_R (d + 0) mt_X7_another 107 [some (.ref 66), none, none, none, some (.int l4), some (.int l5)] [] h Q
  | 0, _, _, _ => fun hw => hw.elim
  | n + 1, l4, l5, h => fun hw => by
    unfold wl_X7_another_107 at hw
    refine pm_steps 3 ?_
    refine @pm_wl _ _ _ _ _ _ hw (fun hw => ?_) (fun hw => ?_)
    · refine pm_steps 4 ?_
      refine @pm_wc _ _ _ hw (fun hw => ?_)
      refine pm_steps 8 ?_
      refine @pm_wc _ _ _ hw (fun hw => ?_)
      refine pm_steps 1 ?_
      refine @pm_wc _ _ _ hw (fun hw => ?_)
      refine pm_steps 5 ?_
      refine @pm_wc _ _ _ hw (fun hw => ?_)
      refine pm_steps 3 ?_
      exact pm_fg (wl_X7_another_107_ok hK153 n _ _ _ hw) ⟨rfl, ⟨rfl, ⟨rfl, trivial⟩⟩⟩
    · exact pm_fg (hK153  _ hw) trivial
set_option maxRecDepth 16384 in
def wp_X7_another  (h : pm_H) (Q : Int32 → pm_H → Prop) : Prop := ∃ n677, wl_X7_another_7 (fun x671 h670 => pm_lt x671 0 (Q 0 h670) (∃ n676, wl_X7_another_47 x671 (fun x673 h672 => pm_ib (pm_in x671 5) (pm_ib (pm_in x673 5) (pm_ib (pm_in x671 5) (pm_ib (pm_in x673 5) (∃ n675, wl_X7_another_107 (fun  h674 => Q 1 h674) Q n675 (pm_op (x671 + 1)) (pm_op ((h672 66 3) - 1)) (pm_u (pm_u h672 84 x671.toNatClampNeg (h672 84 x673.toNatClampNeg)) 84 x673.toNatClampNeg (h672 84 x671.toNatClampNeg))))))) Q n676 (pm_op ((h670 66 3) - 1)) h670)) Q n677 (pm_op ((h 66 3) - 2)) h
set_option maxRecDepth 16384 in
theorem wp_X7_another_mono  {h : pm_H} {Q Q' : Int32 → pm_H → Prop} (hQ : ∀ r h, Q r h → Q' r h) : wp_X7_another  h Q → wp_X7_another  h Q' := by unfold wp_X7_another; exact (fun z => Exists.elim z (fun n677 z => ⟨n677, wl_X7_another_7_mono (fun _ _ => (@pm_lt_mono _ _ _ _ _ _ (hQ _ _) (fun z => Exists.elim z (fun n676 z => ⟨n676, wl_X7_another_47_mono (fun _ _ => (@pm_ib_mono _ _ _ (@pm_ib_mono _ _ _ (@pm_ib_mono _ _ _ (@pm_ib_mono _ _ _ (fun z => Exists.elim z (fun n675 z => ⟨n675, wl_X7_another_107_mono (fun  _ => (hQ _ _)) hQ n675 _ _ _ z⟩))))))) hQ n676 _ _ z⟩)))) hQ n677 _ _ z⟩))
set_option maxRecDepth 16384 in
theorem wp_X7_another_ok {d : Nat}  {h : pm_H} {Q : Option Value → pm_H → Prop} (hw : wp_X7_another  h (fun r h => Q (some (.int r)) h)) : pm_R (d + 0) mt_X7_another 0 [some (.ref 66), none, none, none, none, none] [] h Q := by
  unfold wp_X7_another at hw
  refine pm_steps 5 ?_
  obtain ⟨n677, hw⟩ := hw
  refine pm_fg (wl_X7_another_7_ok ?_ n677 _ _ hw) ⟨rfl, ⟨rfl, trivial⟩⟩
  · intro x671 h670 hw
    refine pm_steps 2 ?_
    refine @pm_wl _ _ _ _ _ _ hw (fun hw => ?_) (fun hw => ?_)
    · exact pm_steps 2 hw
    · refine pm_steps 5 ?_
      obtain ⟨n676, hw⟩ := hw
      refine pm_fg (wl_X7_another_47_ok ?_ n676 _ _ hw) ⟨rfl, ⟨rfl, ⟨rfl, trivial⟩⟩⟩
      · intro x673 h672 hw
        refine pm_steps 4 ?_
        refine @pm_wc _ _ _ hw (fun hw => ?_)
        refine pm_steps 8 ?_
        refine @pm_wc _ _ _ hw (fun hw => ?_)
        refine pm_steps 1 ?_
        refine @pm_wc _ _ _ hw (fun hw => ?_)
        refine pm_steps 5 ?_
        refine @pm_wc _ _ _ hw (fun hw => ?_)
        refine pm_steps 9 ?_
        obtain ⟨n675, hw⟩ := hw
        refine pm_fg (wl_X7_another_107_ok ?_ n675 _ _ _ hw) ⟨rfl, ⟨rfl, ⟨rfl, trivial⟩⟩⟩
        · intro  h674 hw
          exact pm_steps 2 hw
/-! StairLinesModel.order(I)I -/
set_option maxRecDepth 16384 in
def wl_X7_order_29 (l1 : Int32) (l2 : Int32) (l3 : Int32) (K53 : pm_H → Prop) (Q : Int32 → pm_H → Prop) : Nat → Int32 → pm_H → Prop
  | 0, _, _ => False
  | n + 1, l4, h => pm_lt l4 (h 66 3) (pm_ib (pm_in l4 5) (wl_X7_order_29 l1 l2 l3 K53 Q n (pm_op (l4 + 1)) (pm_u h 84 l4.toNatClampNeg l4))) (K53  h)
set_option maxRecDepth 16384 in
theorem wl_X7_order_29_mono {l1 : Int32} {l2 : Int32} {l3 : Int32} {K53 K53' : pm_H → Prop}  {Q Q' : Int32 → pm_H → Prop}  (mK53 : ∀  h, K53  h → K53'  h) (hQ : ∀ r h, Q r h → Q' r h) : ∀ (n : Nat) (l4 : Int32) (h : pm_H), wl_X7_order_29 l1 l2 l3 K53 Q n l4 h → wl_X7_order_29 l1 l2 l3 K53' Q' n l4 h
  | 0, _, _ => id
  | n + 1, l4, h => by unfold wl_X7_order_29; exact (@pm_lt_mono _ _ _ _ _ _ (@pm_ib_mono _ _ _ (wl_X7_order_29_mono mK53 hQ n _ _)) (mK53  _))
set_option maxRecDepth 16384 in
theorem wl_X7_order_29_ok {d : Nat} {l1 : Int32} {l2 : Int32} {l3 : Int32} {K53 : pm_H → Prop} {Q : Option Value → pm_H → Prop} (hK53 : ∀  (h : pm_H), K53  h → pm_R (d + 5) mt_X7_order 53 [some (.ref 66), some (.int l1), some (.int l2), some (.int l3), none, none, none] [] h Q) : ∀ (n : Nat) (l4 : Int32) (h : pm_H), wl_X7_order_29 l1 l2 l3 K53 (fun r h => Q (some (.int r)) h) n l4 h → pm_R (d + 5) mt_X7_order 29 [some (.ref 66), some (.int l1), some (.int l2), some (.int l3), some (.int l4), none, none] [] h Q
  | 0, _, _ => fun hw => hw.elim
  | n + 1, l4, h => fun hw => by
    unfold wl_X7_order_29 at hw
    refine pm_steps 4 ?_
    refine @pm_wl _ _ _ _ _ _ hw (fun hw => ?_) (fun hw => ?_)
    · refine pm_steps 5 ?_
      refine @pm_wc _ _ _ hw (fun hw => ?_)
      refine pm_steps 2 ?_
      exact pm_fg (wl_X7_order_29_ok hK53 n _ _ hw) ⟨rfl, ⟨rfl, ⟨rfl, ⟨rfl, ⟨rfl, trivial⟩⟩⟩⟩⟩
    · exact pm_fg (hK53  _ hw) ⟨rfl, ⟨rfl, ⟨rfl, ⟨rfl, trivial⟩⟩⟩⟩
set_option maxRecDepth 16384 in
def wl_X7_order_64 (l1 : Int32) (l2 : Int32) (l3 : Int32) (K98 : pm_H → Prop) (Q : Int32 → pm_H → Prop) : Nat → Int32 → pm_H → Prop
  | 0, _, _ => False
  | n + 1, l5, h => pm_lt l5 (h 66 3) (pm_ib (pm_in l5 5) (pm_ib (pm_in (h 84 l5.toNatClampNeg) 5) (pm_ib (pm_in l5 5) (wl_X7_order_64 l1 l2 l3 K98 Q n (pm_op (l5 + 1)) (pm_u h 72 l5.toNatClampNeg (h 83 (h 84 l5.toNatClampNeg).toNatClampNeg)))))) (K98  h)
set_option maxRecDepth 16384 in
theorem wl_X7_order_64_mono {l1 : Int32} {l2 : Int32} {l3 : Int32} {K98 K98' : pm_H → Prop}  {Q Q' : Int32 → pm_H → Prop}  (mK98 : ∀  h, K98  h → K98'  h) (hQ : ∀ r h, Q r h → Q' r h) : ∀ (n : Nat) (l5 : Int32) (h : pm_H), wl_X7_order_64 l1 l2 l3 K98 Q n l5 h → wl_X7_order_64 l1 l2 l3 K98' Q' n l5 h
  | 0, _, _ => id
  | n + 1, l5, h => by unfold wl_X7_order_64; exact (@pm_lt_mono _ _ _ _ _ _ (@pm_ib_mono _ _ _ (@pm_ib_mono _ _ _ (@pm_ib_mono _ _ _ (wl_X7_order_64_mono mK98 hQ n _ _)))) (mK98  _))
set_option maxRecDepth 16384 in
theorem wl_X7_order_64_ok {d : Nat} {l1 : Int32} {l2 : Int32} {l3 : Int32} {K98 : pm_H → Prop} {Q : Option Value → pm_H → Prop} (hK98 : ∀  (h : pm_H), K98  h → pm_R (d + 5) mt_X7_order 98 [some (.ref 66), some (.int l1), some (.int l2), some (.int l3), none, none, none] [] h Q) : ∀ (n : Nat) (l5 : Int32) (h : pm_H), wl_X7_order_64 l1 l2 l3 K98 (fun r h => Q (some (.int r)) h) n l5 h → pm_R (d + 5) mt_X7_order 64 [some (.ref 66), some (.int l1), some (.int l2), some (.int l3), none, some (.int l5), none] [] h Q
  | 0, _, _ => fun hw => hw.elim
  | n + 1, l5, h => fun hw => by
    unfold wl_X7_order_64 at hw
    refine pm_steps 4 ?_
    refine @pm_wl _ _ _ _ _ _ hw (fun hw => ?_) (fun hw => ?_)
    · refine pm_steps 9 ?_
      refine @pm_wc _ _ _ hw (fun hw => ?_)
      refine pm_steps 1 ?_
      refine @pm_wc _ _ _ hw (fun hw => ?_)
      refine pm_steps 1 ?_
      refine @pm_wc _ _ _ hw (fun hw => ?_)
      refine pm_steps 2 ?_
      exact pm_fg (wl_X7_order_64_ok hK98 n _ _ hw) ⟨rfl, ⟨rfl, ⟨rfl, ⟨rfl, ⟨rfl, trivial⟩⟩⟩⟩⟩
    · exact pm_fg (hK98  _ hw) ⟨rfl, ⟨rfl, ⟨rfl, ⟨rfl, trivial⟩⟩⟩⟩
set_option maxRecDepth 16384 in
def wl_X7_order_135 (l1 : Int32) (l2 : Int32) (l3 : Int32) (K164 : pm_H → Prop) (Q : Int32 → pm_H → Prop) : Nat → Int32 → pm_H → Prop
  | 0, _, _ => False
  | n + 1, l6, h => pm_lt l6 (h 66 3) (pm_ib (pm_in l6 5) (pm_ib (pm_in l6 5) (wl_X7_order_135 l1 l2 l3 K164 Q n (pm_op (l6 + 1)) (pm_u h 85 l6.toNatClampNeg (h 84 l6.toNatClampNeg))))) (K164  h)
set_option maxRecDepth 16384 in
theorem wl_X7_order_135_mono {l1 : Int32} {l2 : Int32} {l3 : Int32} {K164 K164' : pm_H → Prop}  {Q Q' : Int32 → pm_H → Prop}  (mK164 : ∀  h, K164  h → K164'  h) (hQ : ∀ r h, Q r h → Q' r h) : ∀ (n : Nat) (l6 : Int32) (h : pm_H), wl_X7_order_135 l1 l2 l3 K164 Q n l6 h → wl_X7_order_135 l1 l2 l3 K164' Q' n l6 h
  | 0, _, _ => id
  | n + 1, l6, h => by unfold wl_X7_order_135; exact (@pm_lt_mono _ _ _ _ _ _ (@pm_ib_mono _ _ _ (@pm_ib_mono _ _ _ (wl_X7_order_135_mono mK164 hQ n _ _))) (mK164  _))
set_option maxRecDepth 16384 in
theorem wl_X7_order_135_ok {d : Nat} {l1 : Int32} {l2 : Int32} {l3 : Int32} {K164 : pm_H → Prop} {Q : Option Value → pm_H → Prop} (hK164 : ∀  (h : pm_H), K164  h → pm_R (d + 5) mt_X7_order 164 [some (.ref 66), some (.int l1), some (.int l2), some (.int l3), none, none, none] [] h Q) : ∀ (n : Nat) (l6 : Int32) (h : pm_H), wl_X7_order_135 l1 l2 l3 K164 (fun r h => Q (some (.int r)) h) n l6 h → pm_R (d + 5) mt_X7_order 135 [some (.ref 66), some (.int l1), some (.int l2), some (.int l3), none, none, some (.int l6)] [] h Q
  | 0, _, _ => fun hw => hw.elim
  | n + 1, l6, h => fun hw => by
    unfold wl_X7_order_135 at hw
    refine pm_steps 4 ?_
    refine @pm_wl _ _ _ _ _ _ hw (fun hw => ?_) (fun hw => ?_)
    · refine pm_steps 7 ?_
      refine @pm_wc _ _ _ hw (fun hw => ?_)
      refine pm_steps 1 ?_
      refine @pm_wc _ _ _ hw (fun hw => ?_)
      refine pm_steps 2 ?_
      exact pm_fg (wl_X7_order_135_ok hK164 n _ _ hw) ⟨rfl, ⟨rfl, ⟨rfl, ⟨rfl, ⟨rfl, trivial⟩⟩⟩⟩⟩
    · exact pm_fg (hK164  _ hw) ⟨rfl, ⟨rfl, ⟨rfl, ⟨rfl, trivial⟩⟩⟩⟩
set_option maxRecDepth 16384 in
def wl_X7_order_56 (l1 : Int32) (K173 : Int32 → pm_H → Prop) (Q : Int32 → pm_H → Prop) : Nat → Int32 → Int32 → Int32 → pm_H → Prop
  | 0, _, _, _, _ => False
  | n + 1, l2, l3, l4, h => pm_eq l4 0 (K173 l2 h) (∃ n687, wl_X7_order_64 l1 l2 l3 (fun  h664 => wp_X7_ends_  h664 (fun r666 h665 => pm_lt r666 l2 (∃ n678, wl_X7_order_135 l1 r666 (h665 66 27) (fun  h667 => wp_X7_another  h667 (fun r669 h668 => wl_X7_order_56 l1 K173 Q n r666 (h665 66 27) r669 h668)) Q n678 0 h665) (pm_eq r666 l2 (pm_lt (h665 66 27) l3 (∃ n682, wl_X7_order_135 l1 r666 (h665 66 27) (fun  h679 => wp_X7_another  h679 (fun r681 h680 => wl_X7_order_56 l1 K173 Q n r666 (h665 66 27) r681 h680)) Q n682 0 h665) (wp_X7_another  h665 (fun r684 h683 => wl_X7_order_56 l1 K173 Q n l2 l3 r684 h683))) (wp_X7_another  h665 (fun r686 h685 => wl_X7_order_56 l1 K173 Q n l2 l3 r686 h685))))) Q n687 0 h)
set_option maxRecDepth 16384 in
theorem wl_X7_order_56_mono {l1 : Int32} {K173 K173' : Int32 → pm_H → Prop}  {Q Q' : Int32 → pm_H → Prop}  (mK173 : ∀ x2 h, K173 x2 h → K173' x2 h) (hQ : ∀ r h, Q r h → Q' r h) : ∀ (n : Nat) (l2 : Int32) (l3 : Int32) (l4 : Int32) (h : pm_H), wl_X7_order_56 l1 K173 Q n l2 l3 l4 h → wl_X7_order_56 l1 K173' Q' n l2 l3 l4 h
  | 0, _, _, _, _ => id
  | n + 1, l2, l3, l4, h => by unfold wl_X7_order_56; exact (@pm_eq_mono _ _ _ _ _ _ (mK173 _ _) (fun z => Exists.elim z (fun n687 z => ⟨n687, wl_X7_order_64_mono (fun  _ => (@wp_X7_ends__mono _ _ _ (fun _ _ => (@pm_lt_mono _ _ _ _ _ _ (fun z => Exists.elim z (fun n678 z => ⟨n678, wl_X7_order_135_mono (fun  _ => (@wp_X7_another_mono _ _ _ (fun _ _ => (wl_X7_order_56_mono mK173 hQ n _ _ _ _)))) hQ n678 _ _ z⟩)) (@pm_eq_mono _ _ _ _ _ _ (@pm_lt_mono _ _ _ _ _ _ (fun z => Exists.elim z (fun n682 z => ⟨n682, wl_X7_order_135_mono (fun  _ => (@wp_X7_another_mono _ _ _ (fun _ _ => (wl_X7_order_56_mono mK173 hQ n _ _ _ _)))) hQ n682 _ _ z⟩)) (@wp_X7_another_mono _ _ _ (fun _ _ => (wl_X7_order_56_mono mK173 hQ n _ _ _ _)))) (@wp_X7_another_mono _ _ _ (fun _ _ => (wl_X7_order_56_mono mK173 hQ n _ _ _ _)))))))) hQ n687 _ _ z⟩)))
set_option maxRecDepth 16384 in
theorem wl_X7_order_56_ok {d : Nat} {l1 : Int32} {K173 : Int32 → pm_H → Prop} {Q : Option Value → pm_H → Prop} (hK173 : ∀ (x2 : Int32) (h : pm_H), K173 x2 h → pm_R (d + 5) mt_X7_order 173 [some (.ref 66), some (.int l1), some (.int x2), none, none, none, none] [] h Q) : ∀ (n : Nat) (l2 : Int32) (l3 : Int32) (l4 : Int32) (h : pm_H), wl_X7_order_56 l1 K173 (fun r h => Q (some (.int r)) h) n l2 l3 l4 h → pm_R (d + 5) mt_X7_order 56 [some (.ref 66), some (.int l1), some (.int l2), some (.int l3), some (.int l4), none, none] [] h Q
  | 0, _, _, _, _ => fun hw => hw.elim
  | n + 1, l2, l3, l4, h => fun hw => by
    unfold wl_X7_order_56 at hw
    refine pm_steps 2 ?_
    refine @pm_we _ _ _ _ _ _ hw (fun hw => ?_) (fun hw => ?_)
    · exact pm_fg (hK173 _ _ hw) ⟨rfl, ⟨rfl, ⟨rfl, trivial⟩⟩⟩
    · refine pm_steps 2 ?_
      obtain ⟨n687, hw⟩ := hw
      refine pm_fg (wl_X7_order_64_ok ?_ n687 _ _ hw) ⟨rfl, ⟨rfl, ⟨rfl, ⟨rfl, ⟨rfl, trivial⟩⟩⟩⟩⟩
      · intro  h664 hw
        refine pm_steps 2 ?_
        refine @wp_X7_ends__ok _ _ _ (@wp_X7_ends__mono _ _ _ (fun r666 h665 hw => ?_) hw)
        refine pm_steps 4 ?_
        refine @pm_wl _ _ _ _ _ _ hw (fun hw => ?_) (fun hw => ?_)
        · refine pm_steps 7 ?_
          obtain ⟨n678, hw⟩ := hw
          refine pm_fg (wl_X7_order_135_ok ?_ n678 _ _ hw) ⟨rfl, ⟨rfl, ⟨rfl, ⟨rfl, ⟨rfl, trivial⟩⟩⟩⟩⟩
          · intro  h667 hw
            refine pm_steps 2 ?_
            refine @wp_X7_another_ok _ _ _ (@wp_X7_another_mono _ _ _ (fun r669 h668 hw => ?_) hw)
            refine pm_steps 2 ?_
            exact pm_fg (wl_X7_order_56_ok hK173 n _ _ _ _ hw) ⟨rfl, ⟨rfl, ⟨rfl, ⟨rfl, ⟨rfl, trivial⟩⟩⟩⟩⟩
        · refine pm_steps 3 ?_
          refine @pm_we _ _ _ _ _ _ hw (fun hw => ?_) (fun hw => ?_)
          · refine pm_steps 4 ?_
            refine @pm_wl _ _ _ _ _ _ hw (fun hw => ?_) (fun hw => ?_)
            · refine pm_steps 7 ?_
              obtain ⟨n682, hw⟩ := hw
              refine pm_fg (wl_X7_order_135_ok ?_ n682 _ _ hw) ⟨rfl, ⟨rfl, ⟨rfl, ⟨rfl, ⟨rfl, trivial⟩⟩⟩⟩⟩
              · intro  h679 hw
                refine pm_steps 2 ?_
                refine @wp_X7_another_ok _ _ _ (@wp_X7_another_mono _ _ _ (fun r681 h680 hw => ?_) hw)
                refine pm_steps 2 ?_
                exact pm_fg (wl_X7_order_56_ok hK173 n _ _ _ _ hw) ⟨rfl, ⟨rfl, ⟨rfl, ⟨rfl, ⟨rfl, trivial⟩⟩⟩⟩⟩
            · refine pm_steps 2 ?_
              refine @wp_X7_another_ok _ _ _ (@wp_X7_another_mono _ _ _ (fun r684 h683 hw => ?_) hw)
              refine pm_steps 2 ?_
              exact pm_fg (wl_X7_order_56_ok hK173 n _ _ _ _ hw) ⟨rfl, ⟨rfl, ⟨rfl, ⟨rfl, ⟨rfl, trivial⟩⟩⟩⟩⟩
          · refine pm_steps 2 ?_
            refine @wp_X7_another_ok _ _ _ (@wp_X7_another_mono _ _ _ (fun r686 h685 hw => ?_) hw)
            refine pm_steps 2 ?_
            exact pm_fg (wl_X7_order_56_ok hK173 n _ _ _ _ hw) ⟨rfl, ⟨rfl, ⟨rfl, ⟨rfl, ⟨rfl, trivial⟩⟩⟩⟩⟩
set_option maxRecDepth 16384 in
def wp_X7_order (l1 : Int32) (h : pm_H) (Q : Int32 → pm_H → Prop) : Prop := pm_eq l1 (-1) (wp_X7_keepBells  h (fun h662 => ∃ n692, wl_X7_order_29 l1 401 0 (fun  h663 => ∃ n691, wl_X7_order_56 l1 (fun x689 h688 => wp_X7_bellsAgain  h688 (fun h690 => pm_eq l1 (-1) (Q x689 h690) (pm_ib (pm_in l1 5) (Q (h690 85 l1.toNatClampNeg) h690)))) Q n691 401 0 1 h663) Q n692 0 h662)) (wp_X7_isClass l1 h (fun r694 h693 => pm_eq r694 0 (Q (-2) h693) (wp_X7_keepBells  h693 (fun h695 => ∃ n701, wl_X7_order_29 l1 401 0 (fun  h696 => ∃ n700, wl_X7_order_56 l1 (fun x698 h697 => wp_X7_bellsAgain  h697 (fun h699 => pm_eq l1 (-1) (Q x698 h699) (pm_ib (pm_in l1 5) (Q (h699 85 l1.toNatClampNeg) h699)))) Q n700 401 0 1 h696) Q n701 0 h695))))
set_option maxRecDepth 16384 in
theorem wp_X7_order_mono {l1 : Int32} {h : pm_H} {Q Q' : Int32 → pm_H → Prop} (hQ : ∀ r h, Q r h → Q' r h) : wp_X7_order l1 h Q → wp_X7_order l1 h Q' := by unfold wp_X7_order; exact (@pm_eq_mono _ _ _ _ _ _ (@wp_X7_keepBells_mono _ _ _ (fun _ => (fun z => Exists.elim z (fun n692 z => ⟨n692, wl_X7_order_29_mono (fun  _ => (fun z => Exists.elim z (fun n691 z => ⟨n691, wl_X7_order_56_mono (fun _ _ => (@wp_X7_bellsAgain_mono _ _ _ (fun _ => (@pm_eq_mono _ _ _ _ _ _ (hQ _ _) (@pm_ib_mono _ _ _ (hQ _ _)))))) hQ n691 _ _ _ _ z⟩))) hQ n692 _ _ z⟩)))) (@wp_X7_isClass_mono _ _ _ _ (fun _ _ => (@pm_eq_mono _ _ _ _ _ _ (hQ _ _) (@wp_X7_keepBells_mono _ _ _ (fun _ => (fun z => Exists.elim z (fun n701 z => ⟨n701, wl_X7_order_29_mono (fun  _ => (fun z => Exists.elim z (fun n700 z => ⟨n700, wl_X7_order_56_mono (fun _ _ => (@wp_X7_bellsAgain_mono _ _ _ (fun _ => (@pm_eq_mono _ _ _ _ _ _ (hQ _ _) (@pm_ib_mono _ _ _ (hQ _ _)))))) hQ n700 _ _ _ _ z⟩))) hQ n701 _ _ z⟩))))))))
set_option maxRecDepth 16384 in
theorem wp_X7_order_ok {d : Nat} {l1 : Int32} {h : pm_H} {Q : Option Value → pm_H → Prop} (hw : wp_X7_order l1 h (fun r h => Q (some (.int r)) h)) : pm_R (d + 5) mt_X7_order 0 [some (.ref 66), some (.int l1), none, none, none, none, none] [] h Q := by
  unfold wp_X7_order at hw
  refine pm_steps 3 ?_
  refine @pm_we _ _ _ _ _ _ hw (fun hw => ?_) (fun hw => ?_)
  · refine pm_steps 2 ?_
    refine @wp_X7_keepBells_ok _ _ _ (@wp_X7_keepBells_mono _ _ _ (fun h662 hw => ?_) hw)
    refine pm_steps 6 ?_
    obtain ⟨n692, hw⟩ := hw
    refine pm_fg (wl_X7_order_29_ok ?_ n692 _ _ hw) ⟨rfl, ⟨rfl, ⟨rfl, ⟨rfl, ⟨rfl, trivial⟩⟩⟩⟩⟩
    · intro  h663 hw
      refine pm_steps 2 ?_
      obtain ⟨n691, hw⟩ := hw
      refine pm_fg (wl_X7_order_56_ok ?_ n691 _ _ _ _ hw) ⟨rfl, ⟨rfl, ⟨rfl, ⟨rfl, ⟨rfl, trivial⟩⟩⟩⟩⟩
      · intro x689 h688 hw
        refine pm_steps 2 ?_
        refine @wp_X7_bellsAgain_ok _ _ _ (@wp_X7_bellsAgain_mono _ _ _ (fun h690 hw => ?_) hw)
        refine pm_steps 3 ?_
        refine @pm_we _ _ _ _ _ _ hw (fun hw => ?_) (fun hw => ?_)
        · exact pm_steps 3 hw
        · refine pm_steps 4 ?_
          refine @pm_wc _ _ _ hw (fun hw => ?_)
          exact pm_steps 1 hw
  · refine pm_steps 3 ?_
    refine @wp_X7_isClass_ok _ _ _ _ (@wp_X7_isClass_mono _ _ _ _ (fun r694 h693 hw => ?_) hw)
    refine pm_steps 1 ?_
    refine @pm_we _ _ _ _ _ _ hw (fun hw => ?_) (fun hw => ?_)
    · exact pm_steps 2 hw
    · refine pm_steps 2 ?_
      refine @wp_X7_keepBells_ok _ _ _ (@wp_X7_keepBells_mono _ _ _ (fun h695 hw => ?_) hw)
      refine pm_steps 6 ?_
      obtain ⟨n701, hw⟩ := hw
      refine pm_fg (wl_X7_order_29_ok ?_ n701 _ _ hw) ⟨rfl, ⟨rfl, ⟨rfl, ⟨rfl, ⟨rfl, trivial⟩⟩⟩⟩⟩
      · intro  h696 hw
        refine pm_steps 2 ?_
        obtain ⟨n700, hw⟩ := hw
        refine pm_fg (wl_X7_order_56_ok ?_ n700 _ _ _ _ hw) ⟨rfl, ⟨rfl, ⟨rfl, ⟨rfl, ⟨rfl, trivial⟩⟩⟩⟩⟩
        · intro x698 h697 hw
          refine pm_steps 2 ?_
          refine @wp_X7_bellsAgain_ok _ _ _ (@wp_X7_bellsAgain_mono _ _ _ (fun h699 hw => ?_) hw)
          refine pm_steps 3 ?_
          refine @pm_we _ _ _ _ _ _ hw (fun hw => ?_) (fun hw => ?_)
          · exact pm_steps 3 hw
          · refine pm_steps 4 ?_
            refine @pm_wc _ _ _ hw (fun hw => ?_)
            exact pm_steps 1 hw
/-! StairLinesModel.shut(II)I -/
set_option maxRecDepth 16384 in
def wp_X7_shut (l1 : Int32) (l2 : Int32) (h : pm_H) (Q : Int32 → pm_H → Prop) : Prop := wp_X7_within l1 0 9 h (fun r703 h702 => pm_eq r703 0 (Q (-2) h702) (wp_X7_within l2 0 100 h702 (fun r705 h704 => pm_eq r705 0 (Q (-2) h704) (wp_X7_ends l1 l2 h704 (fun r707 h706 => Q r707 h706)))))
set_option maxRecDepth 16384 in
theorem wp_X7_shut_mono {l1 : Int32} {l2 : Int32} {h : pm_H} {Q Q' : Int32 → pm_H → Prop} (hQ : ∀ r h, Q r h → Q' r h) : wp_X7_shut l1 l2 h Q → wp_X7_shut l1 l2 h Q' := by unfold wp_X7_shut; exact (@wp_X7_within_mono _ _ _ _ _ _ (fun _ _ => (@pm_eq_mono _ _ _ _ _ _ (hQ _ _) (@wp_X7_within_mono _ _ _ _ _ _ (fun _ _ => (@pm_eq_mono _ _ _ _ _ _ (hQ _ _) (@wp_X7_ends_mono _ _ _ _ _ (fun _ _ => (hQ _ _)))))))))
set_option maxRecDepth 16384 in
theorem wp_X7_shut_ok {d : Nat} {l1 : Int32} {l2 : Int32} {h : pm_H} {Q : Option Value → pm_H → Prop} (hw : wp_X7_shut l1 l2 h (fun r h => Q (some (.int r)) h)) : pm_R (d + 4) mt_X7_shut 0 [some (.ref 66), some (.int l1), some (.int l2)] [] h Q := by
  unfold wp_X7_shut at hw
  refine pm_steps 4 ?_
  refine @wp_X7_within_ok _ _ _ _ _ _ (@wp_X7_within_mono _ _ _ _ _ _ (fun r703 h702 hw => ?_) hw)
  refine pm_steps 1 ?_
  refine @pm_we _ _ _ _ _ _ hw (fun hw => ?_) (fun hw => ?_)
  · exact pm_steps 3 hw
  · refine pm_steps 4 ?_
    refine @wp_X7_within_ok _ _ _ _ _ _ (@wp_X7_within_mono _ _ _ _ _ _ (fun r705 h704 hw => ?_) hw)
    refine pm_steps 1 ?_
    refine @pm_we _ _ _ _ _ _ hw (fun hw => ?_) (fun hw => ?_)
    · exact pm_steps 3 hw
    · refine pm_steps 4 ?_
      refine @wp_X7_ends_ok _ _ _ _ _ (@wp_X7_ends_mono _ _ _ _ _ (fun r707 h706 hw => ?_) hw)
      exact pm_steps 1 hw
/-! StairLinesModel.drill()I -/
set_option maxRecDepth 16384 in
def wl_X7_drill_6  (K30 : pm_H → Prop) (Q : Int32 → pm_H → Prop) : Nat → Int32 → pm_H → Prop
  | 0, _, _ => False
  | n + 1, l1, h => pm_lt l1 (h 66 3) (pm_ib (pm_in l1 5) (wl_X7_drill_6 K30 Q n (pm_op (l1 + 1)) (pm_u h 72 l1.toNatClampNeg (h 66 9)))) (K30  h)
set_option maxRecDepth 16384 in
theorem wl_X7_drill_6_mono  {K30 K30' : pm_H → Prop}  {Q Q' : Int32 → pm_H → Prop}  (mK30 : ∀  h, K30  h → K30'  h) (hQ : ∀ r h, Q r h → Q' r h) : ∀ (n : Nat) (l1 : Int32) (h : pm_H), wl_X7_drill_6 K30 Q n l1 h → wl_X7_drill_6 K30' Q' n l1 h
  | 0, _, _ => id
  | n + 1, l1, h => by unfold wl_X7_drill_6; exact (@pm_lt_mono _ _ _ _ _ _ (@pm_ib_mono _ _ _ (wl_X7_drill_6_mono mK30 hQ n _ _)) (mK30  _))
set_option maxRecDepth 16384 in
theorem wl_X7_drill_6_ok {d : Nat}  {K30 : pm_H → Prop} {Q : Option Value → pm_H → Prop} (hK30 : ∀  (h : pm_H), K30  h → pm_R (d + 5) mt_X7_drill 30 [some (.ref 66), none] [] h Q) : ∀ (n : Nat) (l1 : Int32) (h : pm_H), wl_X7_drill_6 K30 (fun r h => Q (some (.int r)) h) n l1 h → pm_R (d + 5) mt_X7_drill 6 [some (.ref 66), some (.int l1)] [] h Q
  | 0, _, _ => fun hw => hw.elim
  | n + 1, l1, h => fun hw => by
    unfold wl_X7_drill_6 at hw
    refine pm_steps 4 ?_
    refine @pm_wl _ _ _ _ _ _ hw (fun hw => ?_) (fun hw => ?_)
    · refine pm_steps 6 ?_
      refine @pm_wc _ _ _ hw (fun hw => ?_)
      refine pm_steps 2 ?_
      exact pm_fg (wl_X7_drill_6_ok hK30 n _ _ hw) ⟨rfl, ⟨rfl, trivial⟩⟩
    · exact pm_fg (hK30  _ hw) ⟨rfl, trivial⟩
set_option maxRecDepth 16384 in
def wp_X7_drill  (h : pm_H) (Q : Int32 → pm_H → Prop) : Prop := wp_X7_keepBells  h (fun h708 => ∃ n713, wl_X7_drill_6 (fun  h709 => wp_X7_ends_  h709 (fun r711 h710 => wp_X7_bellsAgain  h710 (fun h712 => Q r711 h712))) Q n713 0 h708)
set_option maxRecDepth 16384 in
theorem wp_X7_drill_mono  {h : pm_H} {Q Q' : Int32 → pm_H → Prop} (hQ : ∀ r h, Q r h → Q' r h) : wp_X7_drill  h Q → wp_X7_drill  h Q' := by unfold wp_X7_drill; exact (@wp_X7_keepBells_mono _ _ _ (fun _ => (fun z => Exists.elim z (fun n713 z => ⟨n713, wl_X7_drill_6_mono (fun  _ => (@wp_X7_ends__mono _ _ _ (fun _ _ => (@wp_X7_bellsAgain_mono _ _ _ (fun _ => (hQ _ _)))))) hQ n713 _ _ z⟩))))
set_option maxRecDepth 16384 in
theorem wp_X7_drill_ok {d : Nat}  {h : pm_H} {Q : Option Value → pm_H → Prop} (hw : wp_X7_drill  h (fun r h => Q (some (.int r)) h)) : pm_R (d + 5) mt_X7_drill 0 [some (.ref 66), none] [] h Q := by
  unfold wp_X7_drill at hw
  refine pm_steps 2 ?_
  refine @wp_X7_keepBells_ok _ _ _ (@wp_X7_keepBells_mono _ _ _ (fun h708 hw => ?_) hw)
  refine pm_steps 2 ?_
  obtain ⟨n713, hw⟩ := hw
  refine pm_fg (wl_X7_drill_6_ok ?_ n713 _ _ hw) ⟨rfl, ⟨rfl, trivial⟩⟩
  · intro  h709 hw
    refine pm_steps 2 ?_
    refine @wp_X7_ends__ok _ _ _ (@wp_X7_ends__mono _ _ _ (fun r711 h710 hw => ?_) hw)
    refine pm_steps 3 ?_
    refine @wp_X7_bellsAgain_ok _ _ _ (@wp_X7_bellsAgain_mono _ _ _ (fun h712 hw => ?_) hw)
    exact pm_steps 2 hw
/-! StairLinesModel.judge(II)I -/
set_option maxRecDepth 16384 in
def wl_X7_judge_44 (l1 : Int32) (l2 : Int32) (K94 : Int32 → pm_H → Prop) (Q : Int32 → pm_H → Prop) : Nat → Int32 → Int32 → pm_H → Prop
  | 0, _, _, _ => False
  | n + 1, l3, l4, h => pm_ib (pm_in l2 4) (pm_lt l4 (h 89 l2.toNatClampNeg) (pm_eq l3 (-1) (wp_X7_pass  h (fun h719 => pm_ib (pm_in l1 10) (pm_ib (pm_in (pm_op ((pm_op (40 * l2)) + l4)) 160) (pm_eq (h719 69 l1.toNatClampNeg) (h719 90 (pm_op ((pm_op (40 * l2)) + l4)).toNatClampNeg) (wl_X7_judge_44 l1 l2 K94 Q n l3 (pm_op (l4 + 1)) h719) (wl_X7_judge_44 l1 l2 K94 Q n l4 (pm_op (l4 + 1)) h719))))) (K94 l3 h)) (K94 l3 h))
set_option maxRecDepth 16384 in
theorem wl_X7_judge_44_mono {l1 : Int32} {l2 : Int32} {K94 K94' : Int32 → pm_H → Prop}  {Q Q' : Int32 → pm_H → Prop}  (mK94 : ∀ x3 h, K94 x3 h → K94' x3 h) (hQ : ∀ r h, Q r h → Q' r h) : ∀ (n : Nat) (l3 : Int32) (l4 : Int32) (h : pm_H), wl_X7_judge_44 l1 l2 K94 Q n l3 l4 h → wl_X7_judge_44 l1 l2 K94' Q' n l3 l4 h
  | 0, _, _, _ => id
  | n + 1, l3, l4, h => by unfold wl_X7_judge_44; exact (@pm_ib_mono _ _ _ (@pm_lt_mono _ _ _ _ _ _ (@pm_eq_mono _ _ _ _ _ _ (@wp_X7_pass_mono _ _ _ (fun _ => (@pm_ib_mono _ _ _ (@pm_ib_mono _ _ _ (@pm_eq_mono _ _ _ _ _ _ (wl_X7_judge_44_mono mK94 hQ n _ _ _) (wl_X7_judge_44_mono mK94 hQ n _ _ _)))))) (mK94 _ _)) (mK94 _ _)))
set_option maxRecDepth 16384 in
theorem wl_X7_judge_44_ok {d : Nat} {l1 : Int32} {l2 : Int32} {K94 : Int32 → pm_H → Prop} {Q : Option Value → pm_H → Prop} (hK94 : ∀ (x3 : Int32) (h : pm_H), K94 x3 h → pm_R (d + 3) mt_X7_judge 94 [some (.ref 66), none, none, some (.int x3), none] [] h Q) : ∀ (n : Nat) (l3 : Int32) (l4 : Int32) (h : pm_H), wl_X7_judge_44 l1 l2 K94 (fun r h => Q (some (.int r)) h) n l3 l4 h → pm_R (d + 3) mt_X7_judge 44 [some (.ref 66), some (.int l1), some (.int l2), some (.int l3), some (.int l4)] [] h Q
  | 0, _, _, _ => fun hw => hw.elim
  | n + 1, l3, l4, h => fun hw => by
    unfold wl_X7_judge_44 at hw
    refine pm_steps 5 ?_
    refine @pm_wc _ _ _ hw (fun hw => ?_)
    refine pm_steps 1 ?_
    refine @pm_wl _ _ _ _ _ _ hw (fun hw => ?_) (fun hw => ?_)
    · refine pm_steps 3 ?_
      refine @pm_we _ _ _ _ _ _ hw (fun hw => ?_) (fun hw => ?_)
      · refine pm_steps 2 ?_
        refine @wp_X7_pass_ok _ _ _ (@wp_X7_pass_mono _ _ _ (fun h719 hw => ?_) hw)
        refine pm_steps 4 ?_
        refine @pm_wc _ _ _ hw (fun hw => ?_)
        refine pm_steps 8 ?_
        refine @pm_wc _ _ _ hw (fun hw => ?_)
        refine pm_steps 1 ?_
        refine @pm_we _ _ _ _ _ _ hw (fun hw => ?_) (fun hw => ?_)
        · refine pm_steps 2 ?_
          exact pm_fg (wl_X7_judge_44_ok hK94 n _ _ _ hw) ⟨rfl, ⟨rfl, ⟨rfl, ⟨rfl, ⟨rfl, trivial⟩⟩⟩⟩⟩
        · refine pm_steps 4 ?_
          exact pm_fg (wl_X7_judge_44_ok hK94 n _ _ _ hw) ⟨rfl, ⟨rfl, ⟨rfl, ⟨rfl, ⟨rfl, trivial⟩⟩⟩⟩⟩
      · exact pm_fg (hK94 _ _ hw) ⟨rfl, ⟨rfl, trivial⟩⟩
    · exact pm_fg (hK94 _ _ hw) ⟨rfl, ⟨rfl, trivial⟩⟩
set_option maxRecDepth 16384 in
def wp_X7_judge (l1 : Int32) (l2 : Int32) (h : pm_H) (Q : Int32 → pm_H → Prop) : Prop := wp_X7_within l1 0 9 h (fun r715 h714 => pm_eq r715 0 (Q (-2) h714) (wp_X7_within l2 0 3 h714 (fun r717 h716 => pm_eq r717 0 (Q (-2) h716) (pm_ib (pm_in l2 4) (pm_eq (h716 88 l2.toNatClampNeg) (-1) (Q (-11) h716) (wp_X7_keep  h716 (fun h718 => ∃ n723, wl_X7_judge_44 l1 l2 (fun x721 h720 => wp_X7_again  h720 (fun h722 => Q x721 h722)) Q n723 (-1) 0 h718)))))))
set_option maxRecDepth 16384 in
theorem wp_X7_judge_mono {l1 : Int32} {l2 : Int32} {h : pm_H} {Q Q' : Int32 → pm_H → Prop} (hQ : ∀ r h, Q r h → Q' r h) : wp_X7_judge l1 l2 h Q → wp_X7_judge l1 l2 h Q' := by unfold wp_X7_judge; exact (@wp_X7_within_mono _ _ _ _ _ _ (fun _ _ => (@pm_eq_mono _ _ _ _ _ _ (hQ _ _) (@wp_X7_within_mono _ _ _ _ _ _ (fun _ _ => (@pm_eq_mono _ _ _ _ _ _ (hQ _ _) (@pm_ib_mono _ _ _ (@pm_eq_mono _ _ _ _ _ _ (hQ _ _) (@wp_X7_keep_mono _ _ _ (fun _ => (fun z => Exists.elim z (fun n723 z => ⟨n723, wl_X7_judge_44_mono (fun _ _ => (@wp_X7_again_mono _ _ _ (fun _ => (hQ _ _)))) hQ n723 _ _ _ z⟩))))))))))))
set_option maxRecDepth 16384 in
theorem wp_X7_judge_ok {d : Nat} {l1 : Int32} {l2 : Int32} {h : pm_H} {Q : Option Value → pm_H → Prop} (hw : wp_X7_judge l1 l2 h (fun r h => Q (some (.int r)) h)) : pm_R (d + 3) mt_X7_judge 0 [some (.ref 66), some (.int l1), some (.int l2), none, none] [] h Q := by
  unfold wp_X7_judge at hw
  refine pm_steps 4 ?_
  refine @wp_X7_within_ok _ _ _ _ _ _ (@wp_X7_within_mono _ _ _ _ _ _ (fun r715 h714 hw => ?_) hw)
  refine pm_steps 1 ?_
  refine @pm_we _ _ _ _ _ _ hw (fun hw => ?_) (fun hw => ?_)
  · exact pm_steps 2 hw
  · refine pm_steps 4 ?_
    refine @wp_X7_within_ok _ _ _ _ _ _ (@wp_X7_within_mono _ _ _ _ _ _ (fun r717 h716 hw => ?_) hw)
    refine pm_steps 1 ?_
    refine @pm_we _ _ _ _ _ _ hw (fun hw => ?_) (fun hw => ?_)
    · exact pm_steps 2 hw
    · refine pm_steps 4 ?_
      refine @pm_wc _ _ _ hw (fun hw => ?_)
      refine pm_steps 2 ?_
      refine @pm_we _ _ _ _ _ _ hw (fun hw => ?_) (fun hw => ?_)
      · exact pm_steps 2 hw
      · refine pm_steps 2 ?_
        refine @wp_X7_keep_ok _ _ _ (@wp_X7_keep_mono _ _ _ (fun h718 hw => ?_) hw)
        refine pm_steps 4 ?_
        obtain ⟨n723, hw⟩ := hw
        refine pm_fg (wl_X7_judge_44_ok ?_ n723 _ _ _ hw) ⟨rfl, ⟨rfl, ⟨rfl, ⟨rfl, ⟨rfl, trivial⟩⟩⟩⟩⟩
        · intro x721 h720 hw
          refine pm_steps 2 ?_
          refine @wp_X7_again_ok _ _ _ (@wp_X7_again_mono _ _ _ (fun h722 hw => ?_) hw)
          exact pm_steps 2 hw
/-! StairLinesModel.look(II)I -/
set_option maxRecDepth 16384 in
def wl_X7_look_33 (l1 : Int32) (l2 : Int32) (K66 : Int32 → pm_H → Prop) (Q : Int32 → pm_H → Prop) : Nat → Int32 → Int32 → pm_H → Prop
  | 0, _, _, _ => False
  | n + 1, l3, l4, h => pm_lt l4 l2 (wp_X7_pass  h (fun h729 => pm_ib (pm_in l1 10) (wp_X7_holds_ l1 h729 (fun r731 h730 => pm_eq (h729 69 l1.toNatClampNeg) r731 (wl_X7_look_33 l1 l2 K66 Q n (pm_op (l3 + 1)) (pm_op (l4 + 1)) h730) (wl_X7_look_33 l1 l2 K66 Q n l3 (pm_op (l4 + 1)) h730))))) (K66 l3 h)
set_option maxRecDepth 16384 in
theorem wl_X7_look_33_mono {l1 : Int32} {l2 : Int32} {K66 K66' : Int32 → pm_H → Prop}  {Q Q' : Int32 → pm_H → Prop}  (mK66 : ∀ x3 h, K66 x3 h → K66' x3 h) (hQ : ∀ r h, Q r h → Q' r h) : ∀ (n : Nat) (l3 : Int32) (l4 : Int32) (h : pm_H), wl_X7_look_33 l1 l2 K66 Q n l3 l4 h → wl_X7_look_33 l1 l2 K66' Q' n l3 l4 h
  | 0, _, _, _ => id
  | n + 1, l3, l4, h => by unfold wl_X7_look_33; exact (@pm_lt_mono _ _ _ _ _ _ (@wp_X7_pass_mono _ _ _ (fun _ => (@pm_ib_mono _ _ _ (@wp_X7_holds__mono _ _ _ _ (fun _ _ => (@pm_eq_mono _ _ _ _ _ _ (wl_X7_look_33_mono mK66 hQ n _ _ _) (wl_X7_look_33_mono mK66 hQ n _ _ _))))))) (mK66 _ _))
set_option maxRecDepth 16384 in
theorem wl_X7_look_33_ok {d : Nat} {l1 : Int32} {l2 : Int32} {K66 : Int32 → pm_H → Prop} {Q : Option Value → pm_H → Prop} (hK66 : ∀ (x3 : Int32) (h : pm_H), K66 x3 h → pm_R (d + 3) mt_X7_look 66 [some (.ref 66), none, none, some (.int x3), none] [] h Q) : ∀ (n : Nat) (l3 : Int32) (l4 : Int32) (h : pm_H), wl_X7_look_33 l1 l2 K66 (fun r h => Q (some (.int r)) h) n l3 l4 h → pm_R (d + 3) mt_X7_look 33 [some (.ref 66), some (.int l1), some (.int l2), some (.int l3), some (.int l4)] [] h Q
  | 0, _, _, _ => fun hw => hw.elim
  | n + 1, l3, l4, h => fun hw => by
    unfold wl_X7_look_33 at hw
    refine pm_steps 3 ?_
    refine @pm_wl _ _ _ _ _ _ hw (fun hw => ?_) (fun hw => ?_)
    · refine pm_steps 2 ?_
      refine @wp_X7_pass_ok _ _ _ (@wp_X7_pass_mono _ _ _ (fun h729 hw => ?_) hw)
      refine pm_steps 4 ?_
      refine @pm_wc _ _ _ hw (fun hw => ?_)
      refine pm_steps 3 ?_
      refine @wp_X7_holds__ok _ _ _ _ (@wp_X7_holds__mono _ _ _ _ (fun r731 h730 hw => ?_) hw)
      refine pm_steps 1 ?_
      refine @pm_we _ _ _ _ _ _ hw (fun hw => ?_) (fun hw => ?_)
      · refine pm_steps 3 ?_
        exact pm_fg (wl_X7_look_33_ok hK66 n _ _ _ hw) ⟨rfl, ⟨rfl, ⟨rfl, ⟨rfl, ⟨rfl, trivial⟩⟩⟩⟩⟩
      · refine pm_steps 2 ?_
        exact pm_fg (wl_X7_look_33_ok hK66 n _ _ _ hw) ⟨rfl, ⟨rfl, ⟨rfl, ⟨rfl, ⟨rfl, trivial⟩⟩⟩⟩⟩
    · exact pm_fg (hK66 _ _ hw) ⟨rfl, ⟨rfl, trivial⟩⟩
set_option maxRecDepth 16384 in
def wp_X7_look (l1 : Int32) (l2 : Int32) (h : pm_H) (Q : Int32 → pm_H → Prop) : Prop := wp_X7_within l1 0 9 h (fun r725 h724 => pm_eq r725 0 (Q (-2) h724) (wp_X7_within l2 0 400 h724 (fun r727 h726 => pm_eq r727 0 (Q (-2) h726) (wp_X7_keep  h726 (fun h728 => ∃ n735, wl_X7_look_33 l1 l2 (fun x733 h732 => wp_X7_again  h732 (fun h734 => Q x733 h734)) Q n735 0 0 h728)))))
set_option maxRecDepth 16384 in
theorem wp_X7_look_mono {l1 : Int32} {l2 : Int32} {h : pm_H} {Q Q' : Int32 → pm_H → Prop} (hQ : ∀ r h, Q r h → Q' r h) : wp_X7_look l1 l2 h Q → wp_X7_look l1 l2 h Q' := by unfold wp_X7_look; exact (@wp_X7_within_mono _ _ _ _ _ _ (fun _ _ => (@pm_eq_mono _ _ _ _ _ _ (hQ _ _) (@wp_X7_within_mono _ _ _ _ _ _ (fun _ _ => (@pm_eq_mono _ _ _ _ _ _ (hQ _ _) (@wp_X7_keep_mono _ _ _ (fun _ => (fun z => Exists.elim z (fun n735 z => ⟨n735, wl_X7_look_33_mono (fun _ _ => (@wp_X7_again_mono _ _ _ (fun _ => (hQ _ _)))) hQ n735 _ _ _ z⟩))))))))))
set_option maxRecDepth 16384 in
theorem wp_X7_look_ok {d : Nat} {l1 : Int32} {l2 : Int32} {h : pm_H} {Q : Option Value → pm_H → Prop} (hw : wp_X7_look l1 l2 h (fun r h => Q (some (.int r)) h)) : pm_R (d + 3) mt_X7_look 0 [some (.ref 66), some (.int l1), some (.int l2), none, none] [] h Q := by
  unfold wp_X7_look at hw
  refine pm_steps 4 ?_
  refine @wp_X7_within_ok _ _ _ _ _ _ (@wp_X7_within_mono _ _ _ _ _ _ (fun r725 h724 hw => ?_) hw)
  refine pm_steps 1 ?_
  refine @pm_we _ _ _ _ _ _ hw (fun hw => ?_) (fun hw => ?_)
  · exact pm_steps 2 hw
  · refine pm_steps 4 ?_
    refine @wp_X7_within_ok _ _ _ _ _ _ (@wp_X7_within_mono _ _ _ _ _ _ (fun r727 h726 hw => ?_) hw)
    refine pm_steps 1 ?_
    refine @pm_we _ _ _ _ _ _ hw (fun hw => ?_) (fun hw => ?_)
    · exact pm_steps 2 hw
    · refine pm_steps 2 ?_
      refine @wp_X7_keep_ok _ _ _ (@wp_X7_keep_mono _ _ _ (fun h728 hw => ?_) hw)
      refine pm_steps 4 ?_
      obtain ⟨n735, hw⟩ := hw
      refine pm_fg (wl_X7_look_33_ok ?_ n735 _ _ _ hw) ⟨rfl, ⟨rfl, ⟨rfl, ⟨rfl, ⟨rfl, trivial⟩⟩⟩⟩⟩
      · intro x733 h732 hw
        refine pm_steps 2 ?_
        refine @wp_X7_again_ok _ _ _ (@wp_X7_again_mono _ _ _ (fun h734 hw => ?_) hw)
        exact pm_steps 2 hw
/-! StairLinesModel.drawn(I)I -/
set_option maxRecDepth 16384 in
def wl_X7_drawn_8  (K71 : Int32 → pm_H → Prop) (Q : Int32 → pm_H → Prop) : Nat → Int32 → Int32 → pm_H → Prop
  | 0, _, _, _ => False
  | n + 1, l2, l3, h => pm_lt l3 400 (wp_X7_onSteps  h (fun r738 h737 => wp_X7_stillIn  h737 (fun r740 h739 => pm_lt 0 (pm_op (r738 + r740)) (pm_eq (pm_op (pm_rem (pm_op (pm_ushr (pm_op ((pm_op (l2 * 1103515245)) + 12345)) 8)) 5)) 0 (wp_X7_pass  (pm_u h739 66 30 (pm_op (pm_rem (pm_op (pm_ushr (pm_op ((pm_op (l2 * 1103515245)) + 12345)) 12)) 10))) (fun h741 => wl_X7_drawn_8 K71 Q n (pm_op ((pm_op (l2 * 1103515245)) + 12345)) (pm_op (l3 + 1)) h741)) (wp_X7_pass  (pm_u h739 66 30 (-1)) (fun h742 => wl_X7_drawn_8 K71 Q n (pm_op ((pm_op (l2 * 1103515245)) + 12345)) (pm_op (l3 + 1)) h742))) (K71 l3 h739)))) (K71 l3 h)
set_option maxRecDepth 16384 in
theorem wl_X7_drawn_8_mono  {K71 K71' : Int32 → pm_H → Prop}  {Q Q' : Int32 → pm_H → Prop}  (mK71 : ∀ x3 h, K71 x3 h → K71' x3 h) (hQ : ∀ r h, Q r h → Q' r h) : ∀ (n : Nat) (l2 : Int32) (l3 : Int32) (h : pm_H), wl_X7_drawn_8 K71 Q n l2 l3 h → wl_X7_drawn_8 K71' Q' n l2 l3 h
  | 0, _, _, _ => id
  | n + 1, l2, l3, h => by unfold wl_X7_drawn_8; exact (@pm_lt_mono _ _ _ _ _ _ (@wp_X7_onSteps_mono _ _ _ (fun _ _ => (@wp_X7_stillIn_mono _ _ _ (fun _ _ => (@pm_lt_mono _ _ _ _ _ _ (@pm_eq_mono _ _ _ _ _ _ (@wp_X7_pass_mono _ _ _ (fun _ => (wl_X7_drawn_8_mono mK71 hQ n _ _ _))) (@wp_X7_pass_mono _ _ _ (fun _ => (wl_X7_drawn_8_mono mK71 hQ n _ _ _)))) (mK71 _ _)))))) (mK71 _ _))
set_option maxRecDepth 16384 in
theorem wl_X7_drawn_8_ok {d : Nat}  {K71 : Int32 → pm_H → Prop} {Q : Option Value → pm_H → Prop} (hK71 : ∀ (x3 : Int32) (h : pm_H), K71 x3 h → pm_R (d + 3) mt_X7_drawn 71 [some (.ref 66), none, none, some (.int x3)] [] h Q) : ∀ (n : Nat) (l2 : Int32) (l3 : Int32) (h : pm_H), wl_X7_drawn_8 K71 (fun r h => Q (some (.int r)) h) n l2 l3 h → pm_R (d + 3) mt_X7_drawn 8 [some (.ref 66), none, some (.int l2), some (.int l3)] [] h Q
  | 0, _, _, _ => fun hw => hw.elim
  | n + 1, l2, l3, h => fun hw => by
    unfold wl_X7_drawn_8 at hw
    refine pm_steps 3 ?_
    refine @pm_wl _ _ _ _ _ _ hw (fun hw => ?_) (fun hw => ?_)
    · refine pm_steps 2 ?_
      refine @wp_X7_onSteps_ok _ _ _ (@wp_X7_onSteps_mono _ _ _ (fun r738 h737 hw => ?_) hw)
      refine pm_steps 2 ?_
      refine @wp_X7_stillIn_ok _ _ _ (@wp_X7_stillIn_mono _ _ _ (fun r740 h739 hw => ?_) hw)
      refine pm_steps 2 ?_
      refine @pm_wl _ _ _ _ _ _ hw (fun hw => ?_) (fun hw => ?_)
      · refine pm_steps 13 ?_
        refine @pm_we _ _ _ _ _ _ hw (fun hw => ?_) (fun hw => ?_)
        · refine pm_steps 9 ?_
          refine @wp_X7_pass_ok _ _ _ (@wp_X7_pass_mono _ _ _ (fun h741 hw => ?_) hw)
          refine pm_steps 2 ?_
          exact pm_fg (wl_X7_drawn_8_ok hK71 n _ _ _ hw) ⟨rfl, ⟨rfl, ⟨rfl, trivial⟩⟩⟩
        · refine pm_steps 4 ?_
          refine @wp_X7_pass_ok _ _ _ (@wp_X7_pass_mono _ _ _ (fun h742 hw => ?_) hw)
          refine pm_steps 2 ?_
          exact pm_fg (wl_X7_drawn_8_ok hK71 n _ _ _ hw) ⟨rfl, ⟨rfl, ⟨rfl, trivial⟩⟩⟩
      · exact pm_fg (hK71 _ _ hw) ⟨rfl, ⟨rfl, trivial⟩⟩
    · exact pm_fg (hK71 _ _ hw) ⟨rfl, ⟨rfl, trivial⟩⟩
set_option maxRecDepth 16384 in
def wp_X7_drawn (l1 : Int32) (h : pm_H) (Q : Int32 → pm_H → Prop) : Prop := wp_X7_keep  h (fun h736 => ∃ n746, wl_X7_drawn_8 (fun x744 h743 => wp_X7_again  (pm_u h743 66 30 (-1)) (fun h745 => Q x744 h745)) Q n746 l1 0 h736)
set_option maxRecDepth 16384 in
theorem wp_X7_drawn_mono {l1 : Int32} {h : pm_H} {Q Q' : Int32 → pm_H → Prop} (hQ : ∀ r h, Q r h → Q' r h) : wp_X7_drawn l1 h Q → wp_X7_drawn l1 h Q' := by unfold wp_X7_drawn; exact (@wp_X7_keep_mono _ _ _ (fun _ => (fun z => Exists.elim z (fun n746 z => ⟨n746, wl_X7_drawn_8_mono (fun _ _ => (@wp_X7_again_mono _ _ _ (fun _ => (hQ _ _)))) hQ n746 _ _ _ z⟩))))
set_option maxRecDepth 16384 in
theorem wp_X7_drawn_ok {d : Nat} {l1 : Int32} {h : pm_H} {Q : Option Value → pm_H → Prop} (hw : wp_X7_drawn l1 h (fun r h => Q (some (.int r)) h)) : pm_R (d + 3) mt_X7_drawn 0 [some (.ref 66), some (.int l1), none, none] [] h Q := by
  unfold wp_X7_drawn at hw
  refine pm_steps 2 ?_
  refine @wp_X7_keep_ok _ _ _ (@wp_X7_keep_mono _ _ _ (fun h736 hw => ?_) hw)
  refine pm_steps 4 ?_
  obtain ⟨n746, hw⟩ := hw
  refine pm_fg (wl_X7_drawn_8_ok ?_ n746 _ _ _ hw) ⟨rfl, ⟨rfl, ⟨rfl, trivial⟩⟩⟩
  · intro x744 h743 hw
    refine pm_steps 5 ?_
    refine @wp_X7_again_ok _ _ _ (@wp_X7_again_mono _ _ _ (fun h745 hw => ?_) hw)
    exact pm_steps 2 hw
/-! StairLinesModel.image()I -/
set_option maxRecDepth 16384 in
def wl_X7_image_39  (K93 : pm_H → Prop) (Q : Int32 → pm_H → Prop) : Nat → Int32 → pm_H → Prop
  | 0, _, _ => False
  | n + 1, l1, h => pm_lt l1 10 (pm_ib (pm_in l1 10) (pm_ib (pm_in l1 30) (pm_ib (pm_in l1 10) (pm_ib (pm_in (pm_op (10 + l1)) 30) (pm_ib (pm_in l1 10) (pm_ib (pm_in (pm_op (20 + l1)) 30) (wl_X7_image_39 K93 Q n (pm_op (l1 + 1)) (pm_u (pm_u (pm_u h 86 l1.toNatClampNeg (h 67 l1.toNatClampNeg)) 86 (pm_op (10 + l1)).toNatClampNeg (h 68 l1.toNatClampNeg)) 86 (pm_op (20 + l1)).toNatClampNeg (h 69 l1.toNatClampNeg))))))))) (K93  h)
set_option maxRecDepth 16384 in
theorem wl_X7_image_39_mono  {K93 K93' : pm_H → Prop}  {Q Q' : Int32 → pm_H → Prop}  (mK93 : ∀  h, K93  h → K93'  h) (hQ : ∀ r h, Q r h → Q' r h) : ∀ (n : Nat) (l1 : Int32) (h : pm_H), wl_X7_image_39 K93 Q n l1 h → wl_X7_image_39 K93' Q' n l1 h
  | 0, _, _ => id
  | n + 1, l1, h => by unfold wl_X7_image_39; exact (@pm_lt_mono _ _ _ _ _ _ (@pm_ib_mono _ _ _ (@pm_ib_mono _ _ _ (@pm_ib_mono _ _ _ (@pm_ib_mono _ _ _ (@pm_ib_mono _ _ _ (@pm_ib_mono _ _ _ (wl_X7_image_39_mono mK93 hQ n _ _))))))) (mK93  _))
set_option maxRecDepth 16384 in
theorem wl_X7_image_39_ok {d : Nat}  {K93 : pm_H → Prop} {Q : Option Value → pm_H → Prop} (hK93 : ∀  (h : pm_H), K93  h → pm_R (d + 0) mt_X7_image 93 [some (.ref 66), none] [] h Q) : ∀ (n : Nat) (l1 : Int32) (h : pm_H), wl_X7_image_39 K93 (fun r h => Q (some (.int r)) h) n l1 h → pm_R (d + 0) mt_X7_image 39 [some (.ref 66), some (.int l1)] [] h Q
  | 0, _, _ => fun hw => hw.elim
  | n + 1, l1, h => fun hw => by
    unfold wl_X7_image_39 at hw
    refine pm_steps 3 ?_
    refine @pm_wl _ _ _ _ _ _ hw (fun hw => ?_) (fun hw => ?_)
    · refine pm_steps 7 ?_
      refine @pm_wc _ _ _ hw (fun hw => ?_)
      refine pm_steps 1 ?_
      refine @pm_wc _ _ _ hw (fun hw => ?_)
      refine pm_steps 9 ?_
      refine @pm_wc _ _ _ hw (fun hw => ?_)
      refine pm_steps 1 ?_
      refine @pm_wc _ _ _ hw (fun hw => ?_)
      refine pm_steps 9 ?_
      refine @pm_wc _ _ _ hw (fun hw => ?_)
      refine pm_steps 1 ?_
      refine @pm_wc _ _ _ hw (fun hw => ?_)
      refine pm_steps 2 ?_
      exact pm_fg (wl_X7_image_39_ok hK93 n _ _ hw) ⟨rfl, ⟨rfl, trivial⟩⟩
    · exact pm_fg (hK93  _ hw) ⟨rfl, trivial⟩
set_option maxRecDepth 16384 in
def wl_X7_image_95  (K165 : pm_H → Prop) (Q : Int32 → pm_H → Prop) : Nat → Int32 → pm_H → Prop
  | 0, _, _ => False
  | n + 1, l1, h => pm_lt l1 (h 66 3) (pm_ib (pm_in l1 5) (pm_ib (pm_in l1 20) (pm_ib (pm_in l1 5) (pm_ib (pm_in (pm_op (5 + l1)) 20) (pm_ib (pm_in l1 5) (pm_ib (pm_in (pm_op (10 + l1)) 20) (pm_ib (pm_in l1 5) (pm_ib (pm_in (pm_op (15 + l1)) 20) (wl_X7_image_95 K165 Q n (pm_op (l1 + 1)) (pm_u (pm_u (pm_u (pm_u h 87 l1.toNatClampNeg (h 71 l1.toNatClampNeg)) 87 (pm_op (5 + l1)).toNatClampNeg (h 72 l1.toNatClampNeg)) 87 (pm_op (10 + l1)).toNatClampNeg (h 73 l1.toNatClampNeg)) 87 (pm_op (15 + l1)).toNatClampNeg (h 74 l1.toNatClampNeg))))))))))) (K165  h)
set_option maxRecDepth 16384 in
theorem wl_X7_image_95_mono  {K165 K165' : pm_H → Prop}  {Q Q' : Int32 → pm_H → Prop}  (mK165 : ∀  h, K165  h → K165'  h) (hQ : ∀ r h, Q r h → Q' r h) : ∀ (n : Nat) (l1 : Int32) (h : pm_H), wl_X7_image_95 K165 Q n l1 h → wl_X7_image_95 K165' Q' n l1 h
  | 0, _, _ => id
  | n + 1, l1, h => by unfold wl_X7_image_95; exact (@pm_lt_mono _ _ _ _ _ _ (@pm_ib_mono _ _ _ (@pm_ib_mono _ _ _ (@pm_ib_mono _ _ _ (@pm_ib_mono _ _ _ (@pm_ib_mono _ _ _ (@pm_ib_mono _ _ _ (@pm_ib_mono _ _ _ (@pm_ib_mono _ _ _ (wl_X7_image_95_mono mK165 hQ n _ _))))))))) (mK165  _))
set_option maxRecDepth 16384 in
theorem wl_X7_image_95_ok {d : Nat}  {K165 : pm_H → Prop} {Q : Option Value → pm_H → Prop} (hK165 : ∀  (h : pm_H), K165  h → pm_R (d + 0) mt_X7_image 165 [some (.ref 66), none] [] h Q) : ∀ (n : Nat) (l1 : Int32) (h : pm_H), wl_X7_image_95 K165 (fun r h => Q (some (.int r)) h) n l1 h → pm_R (d + 0) mt_X7_image 95 [some (.ref 66), some (.int l1)] [] h Q
  | 0, _, _ => fun hw => hw.elim
  | n + 1, l1, h => fun hw => by
    unfold wl_X7_image_95 at hw
    refine pm_steps 4 ?_
    refine @pm_wl _ _ _ _ _ _ hw (fun hw => ?_) (fun hw => ?_)
    · refine pm_steps 7 ?_
      refine @pm_wc _ _ _ hw (fun hw => ?_)
      refine pm_steps 1 ?_
      refine @pm_wc _ _ _ hw (fun hw => ?_)
      refine pm_steps 9 ?_
      refine @pm_wc _ _ _ hw (fun hw => ?_)
      refine pm_steps 1 ?_
      refine @pm_wc _ _ _ hw (fun hw => ?_)
      refine pm_steps 9 ?_
      refine @pm_wc _ _ _ hw (fun hw => ?_)
      refine pm_steps 1 ?_
      refine @pm_wc _ _ _ hw (fun hw => ?_)
      refine pm_steps 9 ?_
      refine @pm_wc _ _ _ hw (fun hw => ?_)
      refine pm_steps 1 ?_
      refine @pm_wc _ _ _ hw (fun hw => ?_)
      refine pm_steps 2 ?_
      exact pm_fg (wl_X7_image_95_ok hK165 n _ _ hw) ⟨rfl, ⟨rfl, trivial⟩⟩
    · exact pm_fg (hK165  _ hw) ⟨rfl, trivial⟩
set_option maxRecDepth 16384 in
def wp_X7_image  (h : pm_H) (Q : Int32 → pm_H → Prop) : Prop := ∃ n750, wl_X7_image_39 (fun  h747 => ∃ n749, wl_X7_image_95 (fun  h748 => Q (h748 66 9) h748) Q n749 0 h747) Q n750 0 (pm_u (pm_u (pm_u (pm_u (pm_u h 66 35 1) 66 36 (h 66 3)) 66 37 (h 66 9)) 66 38 (h 66 10)) 66 39 (h 66 14))
set_option maxRecDepth 16384 in
theorem wp_X7_image_mono  {h : pm_H} {Q Q' : Int32 → pm_H → Prop} (hQ : ∀ r h, Q r h → Q' r h) : wp_X7_image  h Q → wp_X7_image  h Q' := by unfold wp_X7_image; exact (fun z => Exists.elim z (fun n750 z => ⟨n750, wl_X7_image_39_mono (fun  _ => (fun z => Exists.elim z (fun n749 z => ⟨n749, wl_X7_image_95_mono (fun  _ => (hQ _ _)) hQ n749 _ _ z⟩))) hQ n750 _ _ z⟩))
set_option maxRecDepth 16384 in
theorem wp_X7_image_ok {d : Nat}  {h : pm_H} {Q : Option Value → pm_H → Prop} (hw : wp_X7_image  h (fun r h => Q (some (.int r)) h)) : pm_R (d + 0) mt_X7_image 0 [some (.ref 66), none] [] h Q := by
  unfold wp_X7_image at hw
  refine pm_steps 21 ?_
  obtain ⟨n750, hw⟩ := hw
  refine pm_fg (wl_X7_image_39_ok ?_ n750 _ _ hw) ⟨rfl, ⟨rfl, trivial⟩⟩
  · intro  h747 hw
    refine pm_steps 2 ?_
    obtain ⟨n749, hw⟩ := hw
    refine pm_fg (wl_X7_image_95_ok ?_ n749 _ _ hw) ⟨rfl, ⟨rfl, trivial⟩⟩
    · intro  h748 hw
      exact pm_steps 3 hw
/-! StairLinesModel.back()I -/
set_option maxRecDepth 16384 in
def wl_X7_back_44  (K98 : pm_H → Prop) (Q : Int32 → pm_H → Prop) : Nat → Int32 → pm_H → Prop
  | 0, _, _ => False
  | n + 1, l1, h => pm_lt l1 10 (pm_ib (pm_in l1 30) (pm_ib (pm_in l1 10) (pm_ib (pm_in (pm_op (10 + l1)) 30) (pm_ib (pm_in l1 10) (pm_ib (pm_in (pm_op (20 + l1)) 30) (pm_ib (pm_in l1 10) (wl_X7_back_44 K98 Q n (pm_op (l1 + 1)) (pm_u (pm_u (pm_u h 67 l1.toNatClampNeg (h 86 l1.toNatClampNeg)) 68 l1.toNatClampNeg (h 86 (pm_op (10 + l1)).toNatClampNeg)) 69 l1.toNatClampNeg (h 86 (pm_op (20 + l1)).toNatClampNeg))))))))) (K98  h)
set_option maxRecDepth 16384 in
theorem wl_X7_back_44_mono  {K98 K98' : pm_H → Prop}  {Q Q' : Int32 → pm_H → Prop}  (mK98 : ∀  h, K98  h → K98'  h) (hQ : ∀ r h, Q r h → Q' r h) : ∀ (n : Nat) (l1 : Int32) (h : pm_H), wl_X7_back_44 K98 Q n l1 h → wl_X7_back_44 K98' Q' n l1 h
  | 0, _, _ => id
  | n + 1, l1, h => by unfold wl_X7_back_44; exact (@pm_lt_mono _ _ _ _ _ _ (@pm_ib_mono _ _ _ (@pm_ib_mono _ _ _ (@pm_ib_mono _ _ _ (@pm_ib_mono _ _ _ (@pm_ib_mono _ _ _ (@pm_ib_mono _ _ _ (wl_X7_back_44_mono mK98 hQ n _ _))))))) (mK98  _))
set_option maxRecDepth 16384 in
theorem wl_X7_back_44_ok {d : Nat}  {K98 : pm_H → Prop} {Q : Option Value → pm_H → Prop} (hK98 : ∀  (h : pm_H), K98  h → pm_R (d + 0) mt_X7_back 98 [some (.ref 66), none] [] h Q) : ∀ (n : Nat) (l1 : Int32) (h : pm_H), wl_X7_back_44 K98 (fun r h => Q (some (.int r)) h) n l1 h → pm_R (d + 0) mt_X7_back 44 [some (.ref 66), some (.int l1)] [] h Q
  | 0, _, _ => fun hw => hw.elim
  | n + 1, l1, h => fun hw => by
    unfold wl_X7_back_44 at hw
    refine pm_steps 3 ?_
    refine @pm_wl _ _ _ _ _ _ hw (fun hw => ?_) (fun hw => ?_)
    · refine pm_steps 7 ?_
      refine @pm_wc _ _ _ hw (fun hw => ?_)
      refine pm_steps 1 ?_
      refine @pm_wc _ _ _ hw (fun hw => ?_)
      refine pm_steps 9 ?_
      refine @pm_wc _ _ _ hw (fun hw => ?_)
      refine pm_steps 1 ?_
      refine @pm_wc _ _ _ hw (fun hw => ?_)
      refine pm_steps 9 ?_
      refine @pm_wc _ _ _ hw (fun hw => ?_)
      refine pm_steps 1 ?_
      refine @pm_wc _ _ _ hw (fun hw => ?_)
      refine pm_steps 2 ?_
      exact pm_fg (wl_X7_back_44_ok hK98 n _ _ hw) ⟨rfl, ⟨rfl, trivial⟩⟩
    · exact pm_fg (hK98  _ hw) ⟨rfl, trivial⟩
set_option maxRecDepth 16384 in
def wl_X7_back_100  (K170 : pm_H → Prop) (Q : Int32 → pm_H → Prop) : Nat → Int32 → pm_H → Prop
  | 0, _, _ => False
  | n + 1, l1, h => pm_lt l1 (h 66 3) (pm_ib (pm_in l1 20) (pm_ib (pm_in l1 5) (pm_ib (pm_in (pm_op (5 + l1)) 20) (pm_ib (pm_in l1 5) (pm_ib (pm_in (pm_op (10 + l1)) 20) (pm_ib (pm_in l1 5) (pm_ib (pm_in (pm_op (15 + l1)) 20) (pm_ib (pm_in l1 5) (wl_X7_back_100 K170 Q n (pm_op (l1 + 1)) (pm_u (pm_u (pm_u (pm_u h 71 l1.toNatClampNeg (h 87 l1.toNatClampNeg)) 72 l1.toNatClampNeg (h 87 (pm_op (5 + l1)).toNatClampNeg)) 73 l1.toNatClampNeg (h 87 (pm_op (10 + l1)).toNatClampNeg)) 74 l1.toNatClampNeg (h 87 (pm_op (15 + l1)).toNatClampNeg))))))))))) (K170  h)
set_option maxRecDepth 16384 in
theorem wl_X7_back_100_mono  {K170 K170' : pm_H → Prop}  {Q Q' : Int32 → pm_H → Prop}  (mK170 : ∀  h, K170  h → K170'  h) (hQ : ∀ r h, Q r h → Q' r h) : ∀ (n : Nat) (l1 : Int32) (h : pm_H), wl_X7_back_100 K170 Q n l1 h → wl_X7_back_100 K170' Q' n l1 h
  | 0, _, _ => id
  | n + 1, l1, h => by unfold wl_X7_back_100; exact (@pm_lt_mono _ _ _ _ _ _ (@pm_ib_mono _ _ _ (@pm_ib_mono _ _ _ (@pm_ib_mono _ _ _ (@pm_ib_mono _ _ _ (@pm_ib_mono _ _ _ (@pm_ib_mono _ _ _ (@pm_ib_mono _ _ _ (@pm_ib_mono _ _ _ (wl_X7_back_100_mono mK170 hQ n _ _))))))))) (mK170  _))
set_option maxRecDepth 16384 in
theorem wl_X7_back_100_ok {d : Nat}  {K170 : pm_H → Prop} {Q : Option Value → pm_H → Prop} (hK170 : ∀  (h : pm_H), K170  h → pm_R (d + 0) mt_X7_back 170 [some (.ref 66), none] [] h Q) : ∀ (n : Nat) (l1 : Int32) (h : pm_H), wl_X7_back_100 K170 (fun r h => Q (some (.int r)) h) n l1 h → pm_R (d + 0) mt_X7_back 100 [some (.ref 66), some (.int l1)] [] h Q
  | 0, _, _ => fun hw => hw.elim
  | n + 1, l1, h => fun hw => by
    unfold wl_X7_back_100 at hw
    refine pm_steps 4 ?_
    refine @pm_wl _ _ _ _ _ _ hw (fun hw => ?_) (fun hw => ?_)
    · refine pm_steps 7 ?_
      refine @pm_wc _ _ _ hw (fun hw => ?_)
      refine pm_steps 1 ?_
      refine @pm_wc _ _ _ hw (fun hw => ?_)
      refine pm_steps 9 ?_
      refine @pm_wc _ _ _ hw (fun hw => ?_)
      refine pm_steps 1 ?_
      refine @pm_wc _ _ _ hw (fun hw => ?_)
      refine pm_steps 9 ?_
      refine @pm_wc _ _ _ hw (fun hw => ?_)
      refine pm_steps 1 ?_
      refine @pm_wc _ _ _ hw (fun hw => ?_)
      refine pm_steps 9 ?_
      refine @pm_wc _ _ _ hw (fun hw => ?_)
      refine pm_steps 1 ?_
      refine @pm_wc _ _ _ hw (fun hw => ?_)
      refine pm_steps 2 ?_
      exact pm_fg (wl_X7_back_100_ok hK170 n _ _ hw) ⟨rfl, ⟨rfl, trivial⟩⟩
    · exact pm_fg (hK170  _ hw) ⟨rfl, trivial⟩
set_option maxRecDepth 16384 in
def wp_X7_back  (h : pm_H) (Q : Int32 → pm_H → Prop) : Prop := pm_eq (h 66 35) 0 (Q (-3) h) (∃ n754, wl_X7_back_44 (fun  h751 => ∃ n753, wl_X7_back_100 (fun  h752 => Q (h752 66 9) h752) Q n753 0 h751) Q n754 0 (pm_u (pm_u (pm_u (pm_u h 66 3 (h 66 36)) 66 9 (h 66 37)) 66 10 (h 66 38)) 66 14 (h 66 39)))
set_option maxRecDepth 16384 in
theorem wp_X7_back_mono  {h : pm_H} {Q Q' : Int32 → pm_H → Prop} (hQ : ∀ r h, Q r h → Q' r h) : wp_X7_back  h Q → wp_X7_back  h Q' := by unfold wp_X7_back; exact (@pm_eq_mono _ _ _ _ _ _ (hQ _ _) (fun z => Exists.elim z (fun n754 z => ⟨n754, wl_X7_back_44_mono (fun  _ => (fun z => Exists.elim z (fun n753 z => ⟨n753, wl_X7_back_100_mono (fun  _ => (hQ _ _)) hQ n753 _ _ z⟩))) hQ n754 _ _ z⟩)))
set_option maxRecDepth 16384 in
theorem wp_X7_back_ok {d : Nat}  {h : pm_H} {Q : Option Value → pm_H → Prop} (hw : wp_X7_back  h (fun r h => Q (some (.int r)) h)) : pm_R (d + 0) mt_X7_back 0 [some (.ref 66), none] [] h Q := by
  unfold wp_X7_back at hw
  refine pm_steps 3 ?_
  refine @pm_we _ _ _ _ _ _ hw (fun hw => ?_) (fun hw => ?_)
  · exact pm_steps 2 hw
  · refine pm_steps 18 ?_
    obtain ⟨n754, hw⟩ := hw
    refine pm_fg (wl_X7_back_44_ok ?_ n754 _ _ hw) ⟨rfl, ⟨rfl, trivial⟩⟩
    · intro  h751 hw
      refine pm_steps 2 ?_
      obtain ⟨n753, hw⟩ := hw
      refine pm_fg (wl_X7_back_100_ok ?_ n753 _ _ hw) ⟨rfl, ⟨rfl, trivial⟩⟩
      · intro  h752 hw
        exact pm_steps 3 hw
/-! StairLinesModel.count(I)I -/
set_option maxRecDepth 16384 in
def wp_X7_count (l1 : Int32) (h : pm_H) (Q : Int32 → pm_H → Prop) : Prop := pm_eq l1 0 (Q (h 66 3) h) (pm_eq l1 1 (Q (h 66 9) h) (pm_eq l1 2 (Q (h 66 10) h) (pm_eq l1 3 (wp_X7_onSteps  h (fun r758 h757 => Q r758 h757)) (pm_eq l1 4 (wp_X7_stillIn  h (fun r756 h755 => Q r756 h755)) (pm_eq l1 5 (Q (h 66 13) h) (pm_eq l1 6 (Q (h 66 11) h) (pm_eq l1 7 (Q (h 66 14) h) (Q (-2) h))))))))
set_option maxRecDepth 16384 in
theorem wp_X7_count_mono {l1 : Int32} {h : pm_H} {Q Q' : Int32 → pm_H → Prop} (hQ : ∀ r h, Q r h → Q' r h) : wp_X7_count l1 h Q → wp_X7_count l1 h Q' := by unfold wp_X7_count; exact (@pm_eq_mono _ _ _ _ _ _ (hQ _ _) (@pm_eq_mono _ _ _ _ _ _ (hQ _ _) (@pm_eq_mono _ _ _ _ _ _ (hQ _ _) (@pm_eq_mono _ _ _ _ _ _ (@wp_X7_onSteps_mono _ _ _ (fun _ _ => (hQ _ _))) (@pm_eq_mono _ _ _ _ _ _ (@wp_X7_stillIn_mono _ _ _ (fun _ _ => (hQ _ _))) (@pm_eq_mono _ _ _ _ _ _ (hQ _ _) (@pm_eq_mono _ _ _ _ _ _ (hQ _ _) (@pm_eq_mono _ _ _ _ _ _ (hQ _ _) (hQ _ _)))))))))
set_option maxRecDepth 16384 in
theorem wp_X7_count_ok {d : Nat} {l1 : Int32} {h : pm_H} {Q : Option Value → pm_H → Prop} (hw : wp_X7_count l1 h (fun r h => Q (some (.int r)) h)) : pm_R (d + 1) mt_X7_count 0 [some (.ref 66), some (.int l1)] [] h Q := by
  unfold wp_X7_count at hw
  refine pm_steps 2 ?_
  refine @pm_we _ _ _ _ _ _ hw (fun hw => ?_) (fun hw => ?_)
  · exact pm_steps 3 hw
  · refine @pm_we _ _ _ _ _ _ hw (fun hw => ?_) (fun hw => ?_)
    · exact pm_steps 3 hw
    · refine @pm_we _ _ _ _ _ _ hw (fun hw => ?_) (fun hw => ?_)
      · exact pm_steps 3 hw
      · refine @pm_we _ _ _ _ _ _ hw (fun hw => ?_) (fun hw => ?_)
        · refine pm_steps 2 ?_
          refine @wp_X7_onSteps_ok _ _ _ (@wp_X7_onSteps_mono _ _ _ (fun r758 h757 hw => ?_) hw)
          exact pm_steps 1 hw
        · refine @pm_we _ _ _ _ _ _ hw (fun hw => ?_) (fun hw => ?_)
          · refine pm_steps 2 ?_
            refine @wp_X7_stillIn_ok _ _ _ (@wp_X7_stillIn_mono _ _ _ (fun r756 h755 hw => ?_) hw)
            exact pm_steps 1 hw
          · refine @pm_we _ _ _ _ _ _ hw (fun hw => ?_) (fun hw => ?_)
            · exact pm_steps 3 hw
            · refine @pm_we _ _ _ _ _ _ hw (fun hw => ?_) (fun hw => ?_)
              · exact pm_steps 3 hw
              · refine @pm_we _ _ _ _ _ _ hw (fun hw => ?_) (fun hw => ?_)
                · exact pm_steps 3 hw
                · exact pm_steps 2 hw
/-! StairLinesModel.sheet(III)I -/
set_option maxRecDepth 16384 in
def wl_X7_sheet_68 (l1 : Int32) (K94 : pm_H → Prop) (Q : Int32 → pm_H → Prop) : Nat → Int32 → pm_H → Prop
  | 0, _, _ => False
  | n + 1, l4, h => pm_lt l4 40 (pm_ib (pm_in (pm_op ((pm_op (40 * l1)) + l4)) 160) (wl_X7_sheet_68 l1 K94 Q n (pm_op (l4 + 1)) (pm_u h 90 (pm_op ((pm_op (40 * l1)) + l4)).toNatClampNeg 0))) (K94  h)
set_option maxRecDepth 16384 in
theorem wl_X7_sheet_68_mono {l1 : Int32} {K94 K94' : pm_H → Prop}  {Q Q' : Int32 → pm_H → Prop}  (mK94 : ∀  h, K94  h → K94'  h) (hQ : ∀ r h, Q r h → Q' r h) : ∀ (n : Nat) (l4 : Int32) (h : pm_H), wl_X7_sheet_68 l1 K94 Q n l4 h → wl_X7_sheet_68 l1 K94' Q' n l4 h
  | 0, _, _ => id
  | n + 1, l4, h => by unfold wl_X7_sheet_68; exact (@pm_lt_mono _ _ _ _ _ _ (@pm_ib_mono _ _ _ (wl_X7_sheet_68_mono mK94 hQ n _ _)) (mK94  _))
set_option maxRecDepth 16384 in
theorem wl_X7_sheet_68_ok {d : Nat} {l1 : Int32} {K94 : pm_H → Prop} {Q : Option Value → pm_H → Prop} (hK94 : ∀  (h : pm_H), K94  h → pm_R (d + 1) mt_X7_sheet 94 [none, none, none, none, none] [] h Q) : ∀ (n : Nat) (l4 : Int32) (h : pm_H), wl_X7_sheet_68 l1 K94 (fun r h => Q (some (.int r)) h) n l4 h → pm_R (d + 1) mt_X7_sheet 68 [some (.ref 66), some (.int l1), none, none, some (.int l4)] [] h Q
  | 0, _, _ => fun hw => hw.elim
  | n + 1, l4, h => fun hw => by
    unfold wl_X7_sheet_68 at hw
    refine pm_steps 3 ?_
    refine @pm_wl _ _ _ _ _ _ hw (fun hw => ?_) (fun hw => ?_)
    · refine pm_steps 9 ?_
      refine @pm_wc _ _ _ hw (fun hw => ?_)
      refine pm_steps 2 ?_
      exact pm_fg (wl_X7_sheet_68_ok hK94 n _ _ hw) ⟨rfl, ⟨rfl, ⟨rfl, trivial⟩⟩⟩
    · exact pm_fg (hK94  _ hw) trivial
set_option maxRecDepth 16384 in
def wp_X7_sheet (l1 : Int32) (l2 : Int32) (l3 : Int32) (h : pm_H) (Q : Int32 → pm_H → Prop) : Prop := wp_X7_within l1 0 3 h (fun r760 h759 => pm_eq r760 0 (Q (-2) h759) (wp_X7_within l2 (-1) 2 h759 (fun r762 h761 => pm_eq r762 0 (Q (-2) h761) (pm_eq l2 (-1) (pm_ib (pm_in l1 4) (Q 1 (pm_u h761 88 l1.toNatClampNeg (-1)))) (pm_lt 40 l3 (Q (-2) h761) (pm_lt l3 0 (Q (-14) h761) (pm_ib (pm_in l1 4) (pm_ib (pm_in l1 4) (∃ n764, wl_X7_sheet_68 l1 (fun  h763 => Q 1 h763) Q n764 0 (pm_u (pm_u h761 88 l1.toNatClampNeg l2) 89 l1.toNatClampNeg l3))))))))))
set_option maxRecDepth 16384 in
theorem wp_X7_sheet_mono {l1 : Int32} {l2 : Int32} {l3 : Int32} {h : pm_H} {Q Q' : Int32 → pm_H → Prop} (hQ : ∀ r h, Q r h → Q' r h) : wp_X7_sheet l1 l2 l3 h Q → wp_X7_sheet l1 l2 l3 h Q' := by unfold wp_X7_sheet; exact (@wp_X7_within_mono _ _ _ _ _ _ (fun _ _ => (@pm_eq_mono _ _ _ _ _ _ (hQ _ _) (@wp_X7_within_mono _ _ _ _ _ _ (fun _ _ => (@pm_eq_mono _ _ _ _ _ _ (hQ _ _) (@pm_eq_mono _ _ _ _ _ _ (@pm_ib_mono _ _ _ (hQ _ _)) (@pm_lt_mono _ _ _ _ _ _ (hQ _ _) (@pm_lt_mono _ _ _ _ _ _ (hQ _ _) (@pm_ib_mono _ _ _ (@pm_ib_mono _ _ _ (fun z => Exists.elim z (fun n764 z => ⟨n764, wl_X7_sheet_68_mono (fun  _ => (hQ _ _)) hQ n764 _ _ z⟩)))))))))))))
set_option maxRecDepth 16384 in
theorem wp_X7_sheet_ok {d : Nat} {l1 : Int32} {l2 : Int32} {l3 : Int32} {h : pm_H} {Q : Option Value → pm_H → Prop} (hw : wp_X7_sheet l1 l2 l3 h (fun r h => Q (some (.int r)) h)) : pm_R (d + 1) mt_X7_sheet 0 [some (.ref 66), some (.int l1), some (.int l2), some (.int l3), none] [] h Q := by
  unfold wp_X7_sheet at hw
  refine pm_steps 4 ?_
  refine @wp_X7_within_ok _ _ _ _ _ _ (@wp_X7_within_mono _ _ _ _ _ _ (fun r760 h759 hw => ?_) hw)
  refine pm_steps 1 ?_
  refine @pm_we _ _ _ _ _ _ hw (fun hw => ?_) (fun hw => ?_)
  · exact pm_steps 2 hw
  · refine pm_steps 4 ?_
    refine @wp_X7_within_ok _ _ _ _ _ _ (@wp_X7_within_mono _ _ _ _ _ _ (fun r762 h761 hw => ?_) hw)
    refine pm_steps 1 ?_
    refine @pm_we _ _ _ _ _ _ hw (fun hw => ?_) (fun hw => ?_)
    · exact pm_steps 2 hw
    · refine pm_steps 3 ?_
      refine @pm_we _ _ _ _ _ _ hw (fun hw => ?_) (fun hw => ?_)
      · refine pm_steps 5 ?_
        refine @pm_wc _ _ _ hw (fun hw => ?_)
        exact pm_steps 2 hw
      · refine pm_steps 3 ?_
        refine @pm_wl _ _ _ _ _ _ hw (fun hw => ?_) (fun hw => ?_)
        · exact pm_steps 2 hw
        · refine pm_steps 2 ?_
          refine @pm_wl _ _ _ _ _ _ hw (fun hw => ?_) (fun hw => ?_)
          · exact pm_steps 2 hw
          · refine pm_steps 5 ?_
            refine @pm_wc _ _ _ hw (fun hw => ?_)
            refine pm_steps 5 ?_
            refine @pm_wc _ _ _ hw (fun hw => ?_)
            refine pm_steps 2 ?_
            obtain ⟨n764, hw⟩ := hw
            refine pm_fg (wl_X7_sheet_68_ok ?_ n764 _ _ hw) ⟨rfl, ⟨rfl, ⟨rfl, trivial⟩⟩⟩
            · intro  h763 hw
              exact pm_steps 2 hw
/-! StairLinesModel.cell(III)I -/
set_option maxRecDepth 16384 in
def wp_X7_cell (l1 : Int32) (l2 : Int32) (l3 : Int32) (h : pm_H) (Q : Int32 → pm_H → Prop) : Prop := wp_X7_within l1 0 3 h (fun r766 h765 => pm_eq r766 0 (Q (-2) h765) (pm_ib (pm_in l1 4) (pm_eq (h765 88 l1.toNatClampNeg) (-1) (Q (-11) h765) (pm_ib (pm_in l1 4) (wp_X7_within l2 0 (pm_op ((h765 89 l1.toNatClampNeg) - 1)) h765 (fun r768 h767 => pm_eq r768 0 (Q (-12) h767) (pm_ib (pm_in l1 4) (pm_eq (h767 88 l1.toNatClampNeg) 0 (pm_ib (pm_in (pm_op ((pm_op (40 * l1)) + l2)) 160) (Q 1 (pm_u h767 90 (pm_op ((pm_op (40 * l1)) + l2)).toNatClampNeg (pm_op l3.toInt8.toInt32)))) (pm_ib (pm_in l1 4) (pm_eq (h767 88 l1.toNatClampNeg) 1 (pm_ib (pm_in (pm_op ((pm_op (40 * l1)) + l2)) 160) (Q 1 (pm_u h767 90 (pm_op ((pm_op (40 * l1)) + l2)).toNatClampNeg (pm_op l3.toInt16.toInt32)))) (pm_ib (pm_in (pm_op ((pm_op (40 * l1)) + l2)) 160) (Q 1 (pm_u h767 90 (pm_op ((pm_op (40 * l1)) + l2)).toNatClampNeg l3)))))))))))))
set_option maxRecDepth 16384 in
theorem wp_X7_cell_mono {l1 : Int32} {l2 : Int32} {l3 : Int32} {h : pm_H} {Q Q' : Int32 → pm_H → Prop} (hQ : ∀ r h, Q r h → Q' r h) : wp_X7_cell l1 l2 l3 h Q → wp_X7_cell l1 l2 l3 h Q' := by unfold wp_X7_cell; exact (@wp_X7_within_mono _ _ _ _ _ _ (fun _ _ => (@pm_eq_mono _ _ _ _ _ _ (hQ _ _) (@pm_ib_mono _ _ _ (@pm_eq_mono _ _ _ _ _ _ (hQ _ _) (@pm_ib_mono _ _ _ (@wp_X7_within_mono _ _ _ _ _ _ (fun _ _ => (@pm_eq_mono _ _ _ _ _ _ (hQ _ _) (@pm_ib_mono _ _ _ (@pm_eq_mono _ _ _ _ _ _ (@pm_ib_mono _ _ _ (hQ _ _)) (@pm_ib_mono _ _ _ (@pm_eq_mono _ _ _ _ _ _ (@pm_ib_mono _ _ _ (hQ _ _)) (@pm_ib_mono _ _ _ (hQ _ _)))))))))))))))
set_option maxRecDepth 16384 in
theorem wp_X7_cell_ok {d : Nat} {l1 : Int32} {l2 : Int32} {l3 : Int32} {h : pm_H} {Q : Option Value → pm_H → Prop} (hw : wp_X7_cell l1 l2 l3 h (fun r h => Q (some (.int r)) h)) : pm_R (d + 1) mt_X7_cell 0 [some (.ref 66), some (.int l1), some (.int l2), some (.int l3)] [] h Q := by
  unfold wp_X7_cell at hw
  refine pm_steps 4 ?_
  refine @wp_X7_within_ok _ _ _ _ _ _ (@wp_X7_within_mono _ _ _ _ _ _ (fun r766 h765 hw => ?_) hw)
  refine pm_steps 1 ?_
  refine @pm_we _ _ _ _ _ _ hw (fun hw => ?_) (fun hw => ?_)
  · exact pm_steps 2 hw
  · refine pm_steps 4 ?_
    refine @pm_wc _ _ _ hw (fun hw => ?_)
    refine pm_steps 2 ?_
    refine @pm_we _ _ _ _ _ _ hw (fun hw => ?_) (fun hw => ?_)
    · exact pm_steps 2 hw
    · refine pm_steps 6 ?_
      refine @pm_wc _ _ _ hw (fun hw => ?_)
      refine pm_steps 3 ?_
      refine @wp_X7_within_ok _ _ _ _ _ _ (@wp_X7_within_mono _ _ _ _ _ _ (fun r768 h767 hw => ?_) hw)
      refine pm_steps 1 ?_
      refine @pm_we _ _ _ _ _ _ hw (fun hw => ?_) (fun hw => ?_)
      · exact pm_steps 2 hw
      · refine pm_steps 11 ?_
        refine @pm_wc _ _ _ hw (fun hw => ?_)
        refine pm_steps 1 ?_
        refine @pm_we _ _ _ _ _ _ hw (fun hw => ?_) (fun hw => ?_)
        · refine pm_steps 4 ?_
          refine @pm_wc _ _ _ hw (fun hw => ?_)
          exact pm_steps 2 hw
        · refine pm_steps 4 ?_
          refine @pm_wc _ _ _ hw (fun hw => ?_)
          refine pm_steps 2 ?_
          refine @pm_we _ _ _ _ _ _ hw (fun hw => ?_) (fun hw => ?_)
          · refine pm_steps 4 ?_
            refine @pm_wc _ _ _ hw (fun hw => ?_)
            exact pm_steps 2 hw
          · refine pm_steps 2 ?_
            refine @pm_wc _ _ _ hw (fun hw => ?_)
            exact pm_steps 2 hw
/-! StairLinesModel.copy(IIIII)I -/
set_option maxRecDepth 16384 in
def wl_X7_copy_117 (l1 : Int32) (l2 : Int32) (l3 : Int32) (l4 : Int32) (l5 : Int32) (K151 : pm_H → Prop) (Q : Int32 → pm_H → Prop) : Nat → Int32 → pm_H → Prop
  | 0, _, _ => False
  | n + 1, l6, h => pm_lt l6 l5 (pm_ib (pm_in (pm_op ((pm_op ((pm_op (40 * l1)) + l2)) + l6)) 160) (pm_ib (pm_in l6 40) (wl_X7_copy_117 l1 l2 l3 l4 l5 K151 Q n (pm_op (l6 + 1)) (pm_u h 91 l6.toNatClampNeg (h 90 (pm_op ((pm_op ((pm_op (40 * l1)) + l2)) + l6)).toNatClampNeg))))) (K151  h)
set_option maxRecDepth 16384 in
theorem wl_X7_copy_117_mono {l1 : Int32} {l2 : Int32} {l3 : Int32} {l4 : Int32} {l5 : Int32} {K151 K151' : pm_H → Prop}  {Q Q' : Int32 → pm_H → Prop}  (mK151 : ∀  h, K151  h → K151'  h) (hQ : ∀ r h, Q r h → Q' r h) : ∀ (n : Nat) (l6 : Int32) (h : pm_H), wl_X7_copy_117 l1 l2 l3 l4 l5 K151 Q n l6 h → wl_X7_copy_117 l1 l2 l3 l4 l5 K151' Q' n l6 h
  | 0, _, _ => id
  | n + 1, l6, h => by unfold wl_X7_copy_117; exact (@pm_lt_mono _ _ _ _ _ _ (@pm_ib_mono _ _ _ (@pm_ib_mono _ _ _ (wl_X7_copy_117_mono mK151 hQ n _ _))) (mK151  _))
set_option maxRecDepth 16384 in
theorem wl_X7_copy_117_ok {d : Nat} {l1 : Int32} {l2 : Int32} {l3 : Int32} {l4 : Int32} {l5 : Int32} {K151 : pm_H → Prop} {Q : Option Value → pm_H → Prop} (hK151 : ∀  (h : pm_H), K151  h → pm_R (d + 1) mt_X7_copy 151 [some (.ref 66), none, none, some (.int l3), some (.int l4), some (.int l5), none] [] h Q) : ∀ (n : Nat) (l6 : Int32) (h : pm_H), wl_X7_copy_117 l1 l2 l3 l4 l5 K151 (fun r h => Q (some (.int r)) h) n l6 h → pm_R (d + 1) mt_X7_copy 117 [some (.ref 66), some (.int l1), some (.int l2), some (.int l3), some (.int l4), some (.int l5), some (.int l6)] [] h Q
  | 0, _, _ => fun hw => hw.elim
  | n + 1, l6, h => fun hw => by
    unfold wl_X7_copy_117 at hw
    refine pm_steps 3 ?_
    refine @pm_wl _ _ _ _ _ _ hw (fun hw => ?_) (fun hw => ?_)
    · refine pm_steps 13 ?_
      refine @pm_wc _ _ _ hw (fun hw => ?_)
      refine pm_steps 1 ?_
      refine @pm_wc _ _ _ hw (fun hw => ?_)
      refine pm_steps 2 ?_
      exact pm_fg (wl_X7_copy_117_ok hK151 n _ _ hw) ⟨rfl, ⟨rfl, ⟨rfl, ⟨rfl, ⟨rfl, ⟨rfl, ⟨rfl, trivial⟩⟩⟩⟩⟩⟩⟩
    · exact pm_fg (hK151  _ hw) ⟨rfl, ⟨rfl, ⟨rfl, ⟨rfl, trivial⟩⟩⟩⟩
set_option maxRecDepth 16384 in
def wl_X7_copy_154 (l3 : Int32) (l4 : Int32) (l5 : Int32) (K189 : pm_H → Prop) (Q : Int32 → pm_H → Prop) : Nat → Int32 → pm_H → Prop
  | 0, _, _ => False
  | n + 1, l6, h => pm_lt l6 l5 (pm_ib (pm_in l6 40) (pm_ib (pm_in (pm_op ((pm_op ((pm_op (40 * l3)) + l4)) + l6)) 160) (wl_X7_copy_154 l3 l4 l5 K189 Q n (pm_op (l6 + 1)) (pm_u h 90 (pm_op ((pm_op ((pm_op (40 * l3)) + l4)) + l6)).toNatClampNeg (h 91 l6.toNatClampNeg))))) (K189  h)
set_option maxRecDepth 16384 in
theorem wl_X7_copy_154_mono {l3 : Int32} {l4 : Int32} {l5 : Int32} {K189 K189' : pm_H → Prop}  {Q Q' : Int32 → pm_H → Prop}  (mK189 : ∀  h, K189  h → K189'  h) (hQ : ∀ r h, Q r h → Q' r h) : ∀ (n : Nat) (l6 : Int32) (h : pm_H), wl_X7_copy_154 l3 l4 l5 K189 Q n l6 h → wl_X7_copy_154 l3 l4 l5 K189' Q' n l6 h
  | 0, _, _ => id
  | n + 1, l6, h => by unfold wl_X7_copy_154; exact (@pm_lt_mono _ _ _ _ _ _ (@pm_ib_mono _ _ _ (@pm_ib_mono _ _ _ (wl_X7_copy_154_mono mK189 hQ n _ _))) (mK189  _))
set_option maxRecDepth 16384 in
theorem wl_X7_copy_154_ok {d : Nat} {l3 : Int32} {l4 : Int32} {l5 : Int32} {K189 : pm_H → Prop} {Q : Option Value → pm_H → Prop} (hK189 : ∀  (h : pm_H), K189  h → pm_R (d + 1) mt_X7_copy 189 [none, none, none, none, none, some (.int l5), none] [] h Q) : ∀ (n : Nat) (l6 : Int32) (h : pm_H), wl_X7_copy_154 l3 l4 l5 K189 (fun r h => Q (some (.int r)) h) n l6 h → pm_R (d + 1) mt_X7_copy 154 [some (.ref 66), none, none, some (.int l3), some (.int l4), some (.int l5), some (.int l6)] [] h Q
  | 0, _, _ => fun hw => hw.elim
  | n + 1, l6, h => fun hw => by
    unfold wl_X7_copy_154 at hw
    refine pm_steps 3 ?_
    refine @pm_wl _ _ _ _ _ _ hw (fun hw => ?_) (fun hw => ?_)
    · refine pm_steps 13 ?_
      refine @pm_wc _ _ _ hw (fun hw => ?_)
      refine pm_steps 1 ?_
      refine @pm_wc _ _ _ hw (fun hw => ?_)
      refine pm_steps 2 ?_
      exact pm_fg (wl_X7_copy_154_ok hK189 n _ _ hw) ⟨rfl, ⟨rfl, ⟨rfl, ⟨rfl, ⟨rfl, trivial⟩⟩⟩⟩⟩
    · exact pm_fg (hK189  _ hw) ⟨rfl, trivial⟩
set_option maxRecDepth 16384 in
def wp_X7_copy (l1 : Int32) (l2 : Int32) (l3 : Int32) (l4 : Int32) (l5 : Int32) (h : pm_H) (Q : Int32 → pm_H → Prop) : Prop := wp_X7_within l1 0 3 h (fun r770 h769 => pm_eq r770 0 (Q (-2) h769) (wp_X7_within l3 0 3 h769 (fun r772 h771 => pm_eq r772 0 (Q (-2) h771) (pm_ib (pm_in l1 4) (pm_eq (h771 88 l1.toNatClampNeg) (-1) (Q (-11) h771) (pm_ib (pm_in l3 4) (pm_eq (h771 88 l3.toNatClampNeg) (-1) (Q (-11) h771) (pm_ib (pm_in l1 4) (pm_ib (pm_in l3 4) (pm_eq (h771 88 l1.toNatClampNeg) (h771 88 l3.toNatClampNeg) (pm_lt l2 0 (Q (-12) h771) (pm_lt l4 0 (Q (-12) h771) (pm_lt l5 0 (Q (-12) h771) (pm_ib (pm_in l1 4) (pm_lt 0 (pm_op (pm_lcmp (pm_ol ((pm_ol (l2 : Int32).toInt64) + (pm_ol (l5 : Int32).toInt64))) (pm_ol ((h771 89 l1.toNatClampNeg) : Int32).toInt64))) (Q (-12) h771) (pm_ib (pm_in l3 4) (pm_lt 0 (pm_op (pm_lcmp (pm_ol ((pm_ol (l4 : Int32).toInt64) + (pm_ol (l5 : Int32).toInt64))) (pm_ol ((h771 89 l3.toNatClampNeg) : Int32).toInt64))) (Q (-12) h771) (∃ n776, wl_X7_copy_117 l1 l2 l3 l4 l5 (fun  h773 => ∃ n775, wl_X7_copy_154 l3 l4 l5 (fun  h774 => Q l5 h774) Q n775 0 h773) Q n776 0 h771)))))))) (Q (-13) h771)))))))))))
set_option maxRecDepth 16384 in
theorem wp_X7_copy_mono {l1 : Int32} {l2 : Int32} {l3 : Int32} {l4 : Int32} {l5 : Int32} {h : pm_H} {Q Q' : Int32 → pm_H → Prop} (hQ : ∀ r h, Q r h → Q' r h) : wp_X7_copy l1 l2 l3 l4 l5 h Q → wp_X7_copy l1 l2 l3 l4 l5 h Q' := by unfold wp_X7_copy; exact (@wp_X7_within_mono _ _ _ _ _ _ (fun _ _ => (@pm_eq_mono _ _ _ _ _ _ (hQ _ _) (@wp_X7_within_mono _ _ _ _ _ _ (fun _ _ => (@pm_eq_mono _ _ _ _ _ _ (hQ _ _) (@pm_ib_mono _ _ _ (@pm_eq_mono _ _ _ _ _ _ (hQ _ _) (@pm_ib_mono _ _ _ (@pm_eq_mono _ _ _ _ _ _ (hQ _ _) (@pm_ib_mono _ _ _ (@pm_ib_mono _ _ _ (@pm_eq_mono _ _ _ _ _ _ (@pm_lt_mono _ _ _ _ _ _ (hQ _ _) (@pm_lt_mono _ _ _ _ _ _ (hQ _ _) (@pm_lt_mono _ _ _ _ _ _ (hQ _ _) (@pm_ib_mono _ _ _ (@pm_lt_mono _ _ _ _ _ _ (hQ _ _) (@pm_ib_mono _ _ _ (@pm_lt_mono _ _ _ _ _ _ (hQ _ _) (fun z => Exists.elim z (fun n776 z => ⟨n776, wl_X7_copy_117_mono (fun  _ => (fun z => Exists.elim z (fun n775 z => ⟨n775, wl_X7_copy_154_mono (fun  _ => (hQ _ _)) hQ n775 _ _ z⟩))) hQ n776 _ _ z⟩))))))))) (hQ _ _))))))))))))))
set_option maxRecDepth 16384 in
theorem wp_X7_copy_ok {d : Nat} {l1 : Int32} {l2 : Int32} {l3 : Int32} {l4 : Int32} {l5 : Int32} {h : pm_H} {Q : Option Value → pm_H → Prop} (hw : wp_X7_copy l1 l2 l3 l4 l5 h (fun r h => Q (some (.int r)) h)) : pm_R (d + 1) mt_X7_copy 0 [some (.ref 66), some (.int l1), some (.int l2), some (.int l3), some (.int l4), some (.int l5), none] [] h Q := by
  unfold wp_X7_copy at hw
  refine pm_steps 4 ?_
  refine @wp_X7_within_ok _ _ _ _ _ _ (@wp_X7_within_mono _ _ _ _ _ _ (fun r770 h769 hw => ?_) hw)
  refine pm_steps 1 ?_
  refine @pm_we _ _ _ _ _ _ hw (fun hw => ?_) (fun hw => ?_)
  · exact pm_steps 2 hw
  · refine pm_steps 4 ?_
    refine @wp_X7_within_ok _ _ _ _ _ _ (@wp_X7_within_mono _ _ _ _ _ _ (fun r772 h771 hw => ?_) hw)
    refine pm_steps 1 ?_
    refine @pm_we _ _ _ _ _ _ hw (fun hw => ?_) (fun hw => ?_)
    · exact pm_steps 2 hw
    · refine pm_steps 4 ?_
      refine @pm_wc _ _ _ hw (fun hw => ?_)
      refine pm_steps 2 ?_
      refine @pm_we _ _ _ _ _ _ hw (fun hw => ?_) (fun hw => ?_)
      · exact pm_steps 2 hw
      · refine pm_steps 4 ?_
        refine @pm_wc _ _ _ hw (fun hw => ?_)
        refine pm_steps 2 ?_
        refine @pm_we _ _ _ _ _ _ hw (fun hw => ?_) (fun hw => ?_)
        · exact pm_steps 2 hw
        · refine pm_steps 4 ?_
          refine @pm_wc _ _ _ hw (fun hw => ?_)
          refine pm_steps 4 ?_
          refine @pm_wc _ _ _ hw (fun hw => ?_)
          refine pm_steps 1 ?_
          refine @pm_we _ _ _ _ _ _ hw (fun hw => ?_) (fun hw => ?_)
          · refine pm_steps 2 ?_
            refine @pm_wl _ _ _ _ _ _ hw (fun hw => ?_) (fun hw => ?_)
            · exact pm_steps 2 hw
            · refine pm_steps 2 ?_
              refine @pm_wl _ _ _ _ _ _ hw (fun hw => ?_) (fun hw => ?_)
              · exact pm_steps 2 hw
              · refine pm_steps 2 ?_
                refine @pm_wl _ _ _ _ _ _ hw (fun hw => ?_) (fun hw => ?_)
                · exact pm_steps 2 hw
                · refine pm_steps 9 ?_
                  refine @pm_wc _ _ _ hw (fun hw => ?_)
                  refine pm_steps 3 ?_
                  refine @pm_wl _ _ _ _ _ _ hw (fun hw => ?_) (fun hw => ?_)
                  · exact pm_steps 2 hw
                  · refine pm_steps 9 ?_
                    refine @pm_wc _ _ _ hw (fun hw => ?_)
                    refine pm_steps 3 ?_
                    refine @pm_wl _ _ _ _ _ _ hw (fun hw => ?_) (fun hw => ?_)
                    · exact pm_steps 2 hw
                    · refine pm_steps 2 ?_
                      obtain ⟨n776, hw⟩ := hw
                      refine pm_fg (wl_X7_copy_117_ok ?_ n776 _ _ hw) ⟨rfl, ⟨rfl, ⟨rfl, ⟨rfl, ⟨rfl, ⟨rfl, ⟨rfl, trivial⟩⟩⟩⟩⟩⟩⟩
                      · intro  h773 hw
                        refine pm_steps 2 ?_
                        obtain ⟨n775, hw⟩ := hw
                        refine pm_fg (wl_X7_copy_154_ok ?_ n775 _ _ hw) ⟨rfl, ⟨rfl, ⟨rfl, ⟨rfl, ⟨rfl, trivial⟩⟩⟩⟩⟩
                        · intro  h774 hw
                          exact pm_steps 2 hw
          · exact pm_steps 2 hw
