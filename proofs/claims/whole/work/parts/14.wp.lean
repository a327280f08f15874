/-! StairLinesModel.worth(IIII)I -/
set_option maxRecDepth 16384 in
def wl_X7_worth_35 (l2 : Int32) (l3 : Int32) (l4 : Int32) (l5 : Int32) (K422 : pm_H → Prop) (Q : Int32 → pm_H → Prop) : Nat → Int32 → Int32 → pm_H → Prop
  | 0, _, _, _ => False
  | n + 1, l6, l7, h => pm_lt l7 l5 (pm_ib (pm_in (pm_op ((pm_op (170 * (h 66 14))) + l7)) 1020) (pm_lt (h 76 (pm_op ((pm_op (170 * (h 66 14))) + l7)).toNatClampNeg) 0 (pm_lt (-7) (h 76 (pm_op ((pm_op (170 * (h 66 14))) + l7)).toNatClampNeg) (pm_eq (h 76 (pm_op ((pm_op (170 * (h 66 14))) + l7)).toNatClampNeg) (-1) (pm_ib (pm_in l6 170) (wl_X7_worth_35 l2 l3 l4 l5 K422 Q n (pm_op (l6 + 1)) (pm_op (l7 + 1)) (pm_u h 78 l6.toNatClampNeg l2))) (pm_eq (h 76 (pm_op ((pm_op (170 * (h 66 14))) + l7)).toNatClampNeg) (-2) (pm_ib (pm_in l2 10) (pm_ib (pm_in l6 170) (wl_X7_worth_35 l2 l3 l4 l5 K422 Q n (pm_op (l6 + 1)) (pm_op (l7 + 1)) (pm_u h 78 l6.toNatClampNeg (h 69 l2.toNatClampNeg))))) (pm_eq (h 76 (pm_op ((pm_op (170 * (h 66 14))) + l7)).toNatClampNeg) (-3) (pm_ib (pm_in l6 170) (wl_X7_worth_35 l2 l3 l4 l5 K422 Q n (pm_op (l6 + 1)) (pm_op (l7 + 1)) (pm_u h 78 l6.toNatClampNeg (h 66 9)))) (pm_eq (h 76 (pm_op ((pm_op (170 * (h 66 14))) + l7)).toNatClampNeg) (-4) (pm_lt l2 9 (pm_ib (pm_in (pm_op (l2 + 1)) 10) (pm_ib (pm_in l6 170) (wl_X7_worth_35 l2 l3 l4 l5 K422 Q n (pm_op (l6 + 1)) (pm_op (l7 + 1)) (pm_u h 78 l6.toNatClampNeg (h 69 (pm_op (l2 + 1)).toNatClampNeg))))) (pm_ib (pm_in l6 170) (wl_X7_worth_35 l2 l3 l4 l5 K422 Q n (pm_op (l6 + 1)) (pm_op (l7 + 1)) (pm_u h 78 l6.toNatClampNeg 0)))) (pm_eq (h 76 (pm_op ((pm_op (170 * (h 66 14))) + l7)).toNatClampNeg) (-5) (pm_ib (pm_in l2 10) (pm_ib (pm_in l6 170) (wl_X7_worth_35 l2 l3 l4 l5 K422 Q n (pm_op (l6 + 1)) (pm_op (l7 + 1)) (pm_u h 78 l6.toNatClampNeg (h 68 l2.toNatClampNeg))))) (pm_ib (pm_in l6 170) (wl_X7_worth_35 l2 l3 l4 l5 K422 Q n (pm_op (l6 + 1)) (pm_op (l7 + 1)) (pm_u h 78 l6.toNatClampNeg l3)))))))) (pm_ib (pm_in (pm_op (l6 - 1)) 170) (pm_eq (h 76 (pm_op ((pm_op (170 * (h 66 14))) + l7)).toNatClampNeg) (-13) (pm_eq (h 78 (pm_op (l6 - 1)).toNatClampNeg) 0 (pm_ib (pm_in (pm_op (l6 - 1)) 170) (wl_X7_worth_35 l2 l3 l4 l5 K422 Q n l6 (pm_op (l7 + 1)) (pm_u h 78 (pm_op (l6 - 1)).toNatClampNeg 1))) (pm_ib (pm_in (pm_op (l6 - 1)) 170) (wl_X7_worth_35 l2 l3 l4 l5 K422 Q n l6 (pm_op (l7 + 1)) (pm_u h 78 (pm_op (l6 - 1)).toNatClampNeg 0)))) (pm_eq (h 76 (pm_op ((pm_op (170 * (h 66 14))) + l7)).toNatClampNeg) (-19) (pm_ib (pm_in (pm_op (l6 - 1)) 170) (wl_X7_worth_35 l2 l3 l4 l5 K422 Q n l6 (pm_op (l7 + 1)) (pm_u h 78 (pm_op (l6 - 1)).toNatClampNeg (pm_op (-(h 78 (pm_op (l6 - 1)).toNatClampNeg)))))) (pm_ib (pm_in (pm_op (l6 - 2)) 170) (pm_eq (h 76 (pm_op ((pm_op (170 * (h 66 14))) + l7)).toNatClampNeg) (-17) (pm_ib (pm_in (pm_op ((pm_op (l6 + (-1))) - 1)) 170) (wl_X7_worth_35 l2 l3 l4 l5 K422 Q n (pm_op (l6 + (-1))) (pm_op (l7 + 1)) (pm_u h 78 (pm_op ((pm_op (l6 + (-1))) - 1)).toNatClampNeg (pm_op ((h 78 (pm_op (l6 - 2)).toNatClampNeg) - (h 78 (pm_op (l6 - 1)).toNatClampNeg)))))) (pm_eq (h 76 (pm_op ((pm_op (170 * (h 66 14))) + l7)).toNatClampNeg) (-16) (pm_ib (pm_in (pm_op ((pm_op (l6 + (-1))) - 1)) 170) (wl_X7_worth_35 l2 l3 l4 l5 K422 Q n (pm_op (l6 + (-1))) (pm_op (l7 + 1)) (pm_u h 78 (pm_op ((pm_op (l6 + (-1))) - 1)).toNatClampNeg (pm_op ((h 78 (pm_op (l6 - 2)).toNatClampNeg) + (h 78 (pm_op (l6 - 1)).toNatClampNeg)))))) (pm_eq (h 76 (pm_op ((pm_op (170 * (h 66 14))) + l7)).toNatClampNeg) (-15) (pm_eq (h 78 (pm_op (l6 - 2)).toNatClampNeg) (h 78 (pm_op (l6 - 1)).toNatClampNeg) (pm_ib (pm_in (pm_op ((pm_op (l6 + (-1))) - 1)) 170) (wl_X7_worth_35 l2 l3 l4 l5 K422 Q n (pm_op (l6 + (-1))) (pm_op (l7 + 1)) (pm_u h 78 (pm_op ((pm_op (l6 + (-1))) - 1)).toNatClampNeg 1))) (pm_ib (pm_in (pm_op ((pm_op (l6 + (-1))) - 1)) 170) (wl_X7_worth_35 l2 l3 l4 l5 K422 Q n (pm_op (l6 + (-1))) (pm_op (l7 + 1)) (pm_u h 78 (pm_op ((pm_op (l6 + (-1))) - 1)).toNatClampNeg 0)))) (pm_eq (h 76 (pm_op ((pm_op (170 * (h 66 14))) + l7)).toNatClampNeg) (-14) (pm_lt (h 78 (pm_op (l6 - 2)).toNatClampNeg) (h 78 (pm_op (l6 - 1)).toNatClampNeg) (pm_ib (pm_in (pm_op ((pm_op (l6 + (-1))) - 1)) 170) (wl_X7_worth_35 l2 l3 l4 l5 K422 Q n (pm_op (l6 + (-1))) (pm_op (l7 + 1)) (pm_u h 78 (pm_op ((pm_op (l6 + (-1))) - 1)).toNatClampNeg 1))) (pm_ib (pm_in (pm_op ((pm_op (l6 + (-1))) - 1)) 170) (wl_X7_worth_35 l2 l3 l4 l5 K422 Q n (pm_op (l6 + (-1))) (pm_op (l7 + 1)) (pm_u h 78 (pm_op ((pm_op (l6 + (-1))) - 1)).toNatClampNeg 0)))) (pm_eq (h 76 (pm_op ((pm_op (170 * (h 66 14))) + l7)).toNatClampNeg) (-13) (pm_ib (pm_in (pm_op ((pm_op (l6 + (-1))) - 1)) 170) (wl_X7_worth_35 l2 l3 l4 l5 K422 Q n (pm_op (l6 + (-1))) (pm_op (l7 + 1)) (pm_u h 78 (pm_op ((pm_op (l6 + (-1))) - 1)).toNatClampNeg (pm_op ((h 78 (pm_op (l6 - 2)).toNatClampNeg) * (h 78 (pm_op (l6 - 1)).toNatClampNeg)))))) (pm_eq (h 76 (pm_op ((pm_op (170 * (h 66 14))) + l7)).toNatClampNeg) (-12) (pm_eq (h 78 (pm_op (l6 - 2)).toNatClampNeg) 0 (pm_ib (pm_in (pm_op ((pm_op (l6 + (-1))) - 1)) 170) (wl_X7_worth_35 l2 l3 l4 l5 K422 Q n (pm_op (l6 + (-1))) (pm_op (l7 + 1)) (pm_u h 78 (pm_op ((pm_op (l6 + (-1))) - 1)).toNatClampNeg 0))) (pm_eq (h 78 (pm_op (l6 - 1)).toNatClampNeg) 0 (pm_ib (pm_in (pm_op ((pm_op (l6 + (-1))) - 1)) 170) (wl_X7_worth_35 l2 l3 l4 l5 K422 Q n (pm_op (l6 + (-1))) (pm_op (l7 + 1)) (pm_u h 78 (pm_op ((pm_op (l6 + (-1))) - 1)).toNatClampNeg 0))) (pm_ib (pm_in (pm_op ((pm_op (l6 + (-1))) - 1)) 170) (wl_X7_worth_35 l2 l3 l4 l5 K422 Q n (pm_op (l6 + (-1))) (pm_op (l7 + 1)) (pm_u h 78 (pm_op ((pm_op (l6 + (-1))) - 1)).toNatClampNeg 1))))) (pm_eq (h 76 (pm_op ((pm_op (170 * (h 66 14))) + l7)).toNatClampNeg) (-11) (pm_eq (h 78 (pm_op (l6 - 2)).toNatClampNeg) 0 (pm_eq (h 78 (pm_op (l6 - 1)).toNatClampNeg) 0 (pm_ib (pm_in (pm_op ((pm_op (l6 + (-1))) - 1)) 170) (wl_X7_worth_35 l2 l3 l4 l5 K422 Q n (pm_op (l6 + (-1))) (pm_op (l7 + 1)) (pm_u h 78 (pm_op ((pm_op (l6 + (-1))) - 1)).toNatClampNeg 0))) (pm_ib (pm_in (pm_op ((pm_op (l6 + (-1))) - 1)) 170) (wl_X7_worth_35 l2 l3 l4 l5 K422 Q n (pm_op (l6 + (-1))) (pm_op (l7 + 1)) (pm_u h 78 (pm_op ((pm_op (l6 + (-1))) - 1)).toNatClampNeg 1)))) (pm_ib (pm_in (pm_op ((pm_op (l6 + (-1))) - 1)) 170) (wl_X7_worth_35 l2 l3 l4 l5 K422 Q n (pm_op (l6 + (-1))) (pm_op (l7 + 1)) (pm_u h 78 (pm_op ((pm_op (l6 + (-1))) - 1)).toNatClampNeg 1)))) (pm_ib (pm_in (pm_op ((pm_op (l6 + (-1))) - 1)) 170) (wl_X7_worth_35 l2 l3 l4 l5 K422 Q n (pm_op (l6 + (-1))) (pm_op (l7 + 1)) (pm_u h 78 (pm_op ((pm_op (l6 + (-1))) - 1)).toNatClampNeg (pm_op ((h 78 (pm_op (l6 - 2)).toNatClampNeg) * (h 78 (pm_op (l6 - 1)).toNatClampNeg)))))))))))))))))) (pm_ib (pm_in l6 170) (wl_X7_worth_35 l2 l3 l4 l5 K422 Q n (pm_op (l6 + 1)) (pm_op (l7 + 1)) (pm_u h 78 l6.toNatClampNeg (h 76 (pm_op ((pm_op (170 * (h 66 14))) + l7)).toNatClampNeg)))))) (K422  h)
set_option maxRecDepth 16384 in
theorem wl_X7_worth_35_mono {l2 : Int32} {l3 : Int32} {l4 : Int32} {l5 : Int32} {K422 K422' : pm_H → Prop}  {Q Q' : Int32 → pm_H → Prop}  (mK422 : ∀  h, K422  h → K422'  h) (hQ : ∀ r h, Q r h → Q' r h) : ∀ (n : Nat) (l6 : Int32) (l7 : Int32) (h : pm_H), wl_X7_worth_35 l2 l3 l4 l5 K422 Q n l6 l7 h → wl_X7_worth_35 l2 l3 l4 l5 K422' Q' n l6 l7 h
  | 0, _, _, _ => id
  | n + 1, l6, l7, h => by unfold wl_X7_worth_35; exact (@pm_lt_mono _ _ _ _ _ _ (@pm_ib_mono _ _ _ (@pm_lt_mono _ _ _ _ _ _ (@pm_lt_mono _ _ _ _ _ _ (@pm_eq_mono _ _ _ _ _ _ (@pm_ib_mono _ _ _ (wl_X7_worth_35_mono mK422 hQ n _ _ _)) (@pm_eq_mono _ _ _ _ _ _ (@pm_ib_mono _ _ _ (@pm_ib_mono _ _ _ (wl_X7_worth_35_mono mK422 hQ n _ _ _))) (@pm_eq_mono _ _ _ _ _ _ (@pm_ib_mono _ _ _ (wl_X7_worth_35_mono mK422 hQ n _ _ _)) (@pm_eq_mono _ _ _ _ _ _ (@pm_lt_mono _ _ _ _ _ _ (@pm_ib_mono _ _ _ (@pm_ib_mono _ _ _ (wl_X7_worth_35_mono mK422 hQ n _ _ _))) (@pm_ib_mono _ _ _ (wl_X7_worth_35_mono mK422 hQ n _ _ _))) (@pm_eq_mono _ _ _ _ _ _ (@pm_ib_mono _ _ _ (@pm_ib_mono _ _ _ (wl_X7_worth_35_mono mK422 hQ n _ _ _))) (@pm_ib_mono _ _ _ (wl_X7_worth_35_mono mK422 hQ n _ _ _))))))) (@pm_ib_mono _ _ _ (@pm_eq_mono _ _ _ _ _ _ (@pm_eq_mono _ _ _ _ _ _ (@pm_ib_mono _ _ _ (wl_X7_worth_35_mono mK422 hQ n _ _ _)) (@pm_ib_mono _ _ _ (wl_X7_worth_35_mono mK422 hQ n _ _ _))) (@pm_eq_mono _ _ _ _ _ _ (@pm_ib_mono _ _ _ (wl_X7_worth_35_mono mK422 hQ n _ _ _)) (@pm_ib_mono _ _ _ (@pm_eq_mono _ _ _ _ _ _ (@pm_ib_mono _ _ _ (wl_X7_worth_35_mono mK422 hQ n _ _ _)) (@pm_eq_mono _ _ _ _ _ _ (@pm_ib_mono _ _ _ (wl_X7_worth_35_mono mK422 hQ n _ _ _)) (@pm_eq_mono _ _ _ _ _ _ (@pm_eq_mono _ _ _ _ _ _ (@pm_ib_mono _ _ _ (wl_X7_worth_35_mono mK422 hQ n _ _ _)) (@pm_ib_mono _ _ _ (wl_X7_worth_35_mono mK422 hQ n _ _ _))) (@pm_eq_mono _ _ _ _ _ _ (@pm_lt_mono _ _ _ _ _ _ (@pm_ib_mono _ _ _ (wl_X7_worth_35_mono mK422 hQ n _ _ _)) (@pm_ib_mono _ _ _ (wl_X7_worth_35_mono mK422 hQ n _ _ _))) (@pm_eq_mono _ _ _ _ _ _ (@pm_ib_mono _ _ _ (wl_X7_worth_35_mono mK422 hQ n _ _ _)) (@pm_eq_mono _ _ _ _ _ _ (@pm_eq_mono _ _ _ _ _ _ (@pm_ib_mono _ _ _ (wl_X7_worth_35_mono mK422 hQ n _ _ _)) (@pm_eq_mono _ _ _ _ _ _ (@pm_ib_mono _ _ _ (wl_X7_worth_35_mono mK422 hQ n _ _ _)) (@pm_ib_mono _ _ _ (wl_X7_worth_35_mono mK422 hQ n _ _ _)))) (@pm_eq_mono _ _ _ _ _ _ (@pm_eq_mono _ _ _ _ _ _ (@pm_eq_mono _ _ _ _ _ _ (@pm_ib_mono _ _ _ (wl_X7_worth_35_mono mK422 hQ n _ _ _)) (@pm_ib_mono _ _ _ (wl_X7_worth_35_mono mK422 hQ n _ _ _))) (@pm_ib_mono _ _ _ (wl_X7_worth_35_mono mK422 hQ n _ _ _))) (@pm_ib_mono _ _ _ (wl_X7_worth_35_mono mK422 hQ n _ _ _)))))))))))))) (@pm_ib_mono _ _ _ (wl_X7_worth_35_mono mK422 hQ n _ _ _)))) (mK422  _))
set_option maxRecDepth 16384 in
theorem wl_X7_worth_35_ok {d : Nat} {l2 : Int32} {l3 : Int32} {l4 : Int32} {l5 : Int32} {K422 : pm_H → Prop} {Q : Option Value → pm_H → Prop} (hK422 : ∀  (h : pm_H), K422  h → pm_R (d + 0) mt_X7_worth 422 [some (.ref 66), none, none, none, some (.int l4), none, none, none, none, none, none, none] [] h Q) : ∀ (n : Nat) (l6 : Int32) (l7 : Int32) (h : pm_H), wl_X7_worth_35 l2 l3 l4 l5 K422 (fun r h => Q (some (.int r)) h) n l6 l7 h → pm_R (d + 0) mt_X7_worth 35 [some (.ref 66), none, some (.int l2), some (.int l3), some (.int l4), some (.int l5), some (.int l6), some (.int l7), none, none, none, none] [] h Q
  | 0, _, _, _ => fun hw => hw.elim
  | n + 1, l6, l7, h => fun hw => by
    unfold wl_X7_worth_35 at hw
    refine pm_steps 3 ?_
    refine @pm_wl _ _ _ _ _ _ hw (fun hw => ?_) (fun hw => ?_)
    · refine pm_steps 9 ?_
      refine @pm_wc _ _ _ hw (fun hw => ?_)
      refine pm_steps 3 ?_
      refine @pm_wl _ _ _ _ _ _ hw (fun hw => ?_) (fun hw => ?_)
      · refine pm_steps 3 ?_
        refine @pm_wl _ _ _ _ _ _ hw (fun hw => ?_) (fun hw => ?_)
        · refine pm_steps 7 ?_
          refine @pm_we _ _ _ _ _ _ hw (fun hw => ?_) (fun hw => ?_)
          · refine pm_steps 3 ?_
            refine @pm_wc _ _ _ hw (fun hw => ?_)
            refine pm_steps 3 ?_
            exact pm_fg (wl_X7_worth_35_ok hK422 n _ _ _ hw) ⟨rfl, ⟨rfl, ⟨rfl, ⟨rfl, ⟨rfl, ⟨rfl, ⟨rfl, trivial⟩⟩⟩⟩⟩⟩⟩
          · refine pm_steps 3 ?_
            refine @pm_we _ _ _ _ _ _ hw (fun hw => ?_) (fun hw => ?_)
            · refine pm_steps 4 ?_
              refine @pm_wc _ _ _ hw (fun hw => ?_)
              refine pm_steps 2 ?_
              refine @pm_wc _ _ _ hw (fun hw => ?_)
              refine pm_steps 3 ?_
              exact pm_fg (wl_X7_worth_35_ok hK422 n _ _ _ hw) ⟨rfl, ⟨rfl, ⟨rfl, ⟨rfl, ⟨rfl, ⟨rfl, ⟨rfl, trivial⟩⟩⟩⟩⟩⟩⟩
            · refine pm_steps 3 ?_
              refine @pm_we _ _ _ _ _ _ hw (fun hw => ?_) (fun hw => ?_)
              · refine pm_steps 4 ?_
                refine @pm_wc _ _ _ hw (fun hw => ?_)
                refine pm_steps 3 ?_
                exact pm_fg (wl_X7_worth_35_ok hK422 n _ _ _ hw) ⟨rfl, ⟨rfl, ⟨rfl, ⟨rfl, ⟨rfl, ⟨rfl, ⟨rfl, trivial⟩⟩⟩⟩⟩⟩⟩
              · refine pm_steps 3 ?_
                refine @pm_we _ _ _ _ _ _ hw (fun hw => ?_) (fun hw => ?_)
                · refine pm_steps 3 ?_
                  refine @pm_wl _ _ _ _ _ _ hw (fun hw => ?_) (fun hw => ?_)
                  · refine pm_steps 6 ?_
                    refine @pm_wc _ _ _ hw (fun hw => ?_)
                    refine pm_steps 2 ?_
                    refine @pm_wc _ _ _ hw (fun hw => ?_)
                    refine pm_steps 3 ?_
                    exact pm_fg (wl_X7_worth_35_ok hK422 n _ _ _ hw) ⟨rfl, ⟨rfl, ⟨rfl, ⟨rfl, ⟨rfl, ⟨rfl, ⟨rfl, trivial⟩⟩⟩⟩⟩⟩⟩
                  · refine pm_steps 3 ?_
                    refine @pm_wc _ _ _ hw (fun hw => ?_)
                    refine pm_steps 3 ?_
                    exact pm_fg (wl_X7_worth_35_ok hK422 n _ _ _ hw) ⟨rfl, ⟨rfl, ⟨rfl, ⟨rfl, ⟨rfl, ⟨rfl, ⟨rfl, trivial⟩⟩⟩⟩⟩⟩⟩
                · refine pm_steps 3 ?_
                  refine @pm_we _ _ _ _ _ _ hw (fun hw => ?_) (fun hw => ?_)
                  · refine pm_steps 4 ?_
                    refine @pm_wc _ _ _ hw (fun hw => ?_)
                    refine pm_steps 2 ?_
                    refine @pm_wc _ _ _ hw (fun hw => ?_)
                    refine pm_steps 3 ?_
                    exact pm_fg (wl_X7_worth_35_ok hK422 n _ _ _ hw) ⟨rfl, ⟨rfl, ⟨rfl, ⟨rfl, ⟨rfl, ⟨rfl, ⟨rfl, trivial⟩⟩⟩⟩⟩⟩⟩
                  · refine pm_steps 2 ?_
                    refine @pm_wc _ _ _ hw (fun hw => ?_)
                    refine pm_steps 3 ?_
                    exact pm_fg (wl_X7_worth_35_ok hK422 n _ _ _ hw) ⟨rfl, ⟨rfl, ⟨rfl, ⟨rfl, ⟨rfl, ⟨rfl, ⟨rfl, trivial⟩⟩⟩⟩⟩⟩⟩
        · refine pm_steps 6 ?_
          refine @pm_wc _ _ _ hw (fun hw => ?_)
          refine pm_steps 4 ?_
          refine @pm_we _ _ _ _ _ _ hw (fun hw => ?_) (fun hw => ?_)
          · refine pm_steps 7 ?_
            refine @pm_we _ _ _ _ _ _ hw (fun hw => ?_) (fun hw => ?_)
            · refine pm_steps 3 ?_
              refine @pm_wc _ _ _ hw (fun hw => ?_)
              refine pm_steps 3 ?_
              exact pm_fg (wl_X7_worth_35_ok hK422 n _ _ _ hw) ⟨rfl, ⟨rfl, ⟨rfl, ⟨rfl, ⟨rfl, ⟨rfl, ⟨rfl, trivial⟩⟩⟩⟩⟩⟩⟩
            · refine pm_steps 2 ?_
              refine @pm_wc _ _ _ hw (fun hw => ?_)
              refine pm_steps 3 ?_
              exact pm_fg (wl_X7_worth_35_ok hK422 n _ _ _ hw) ⟨rfl, ⟨rfl, ⟨rfl, ⟨rfl, ⟨rfl, ⟨rfl, ⟨rfl, trivial⟩⟩⟩⟩⟩⟩⟩
          · refine pm_steps 3 ?_
            refine @pm_we _ _ _ _ _ _ hw (fun hw => ?_) (fun hw => ?_)
            · refine pm_steps 8 ?_
              refine @pm_wc _ _ _ hw (fun hw => ?_)
              refine pm_steps 3 ?_
              exact pm_fg (wl_X7_worth_35_ok hK422 n _ _ _ hw) ⟨rfl, ⟨rfl, ⟨rfl, ⟨rfl, ⟨rfl, ⟨rfl, ⟨rfl, trivial⟩⟩⟩⟩⟩⟩⟩
            · refine pm_steps 6 ?_
              refine @pm_wc _ _ _ hw (fun hw => ?_)
              refine pm_steps 4 ?_
              refine @pm_we _ _ _ _ _ _ hw (fun hw => ?_) (fun hw => ?_)
              · refine pm_steps 12 ?_
                refine @pm_wc _ _ _ hw (fun hw => ?_)
                refine pm_steps 2 ?_
                exact pm_fg (wl_X7_worth_35_ok hK422 n _ _ _ hw) ⟨rfl, ⟨rfl, ⟨rfl, ⟨rfl, ⟨rfl, ⟨rfl, ⟨rfl, trivial⟩⟩⟩⟩⟩⟩⟩
              · refine @pm_we _ _ _ _ _ _ hw (fun hw => ?_) (fun hw => ?_)
                · refine pm_steps 12 ?_
                  refine @pm_wc _ _ _ hw (fun hw => ?_)
                  refine pm_steps 2 ?_
                  exact pm_fg (wl_X7_worth_35_ok hK422 n _ _ _ hw) ⟨rfl, ⟨rfl, ⟨rfl, ⟨rfl, ⟨rfl, ⟨rfl, ⟨rfl, trivial⟩⟩⟩⟩⟩⟩⟩
                · refine @pm_we _ _ _ _ _ _ hw (fun hw => ?_) (fun hw => ?_)
                  · refine pm_steps 3 ?_
                    refine @pm_we _ _ _ _ _ _ hw (fun hw => ?_) (fun hw => ?_)
                    · refine pm_steps 11 ?_
                      refine @pm_wc _ _ _ hw (fun hw => ?_)
                      refine pm_steps 2 ?_
                      exact pm_fg (wl_X7_worth_35_ok hK422 n _ _ _ hw) ⟨rfl, ⟨rfl, ⟨rfl, ⟨rfl, ⟨rfl, ⟨rfl, ⟨rfl, trivial⟩⟩⟩⟩⟩⟩⟩
                    · refine pm_steps 10 ?_
                      refine @pm_wc _ _ _ hw (fun hw => ?_)
                      refine pm_steps 2 ?_
                      exact pm_fg (wl_X7_worth_35_ok hK422 n _ _ _ hw) ⟨rfl, ⟨rfl, ⟨rfl, ⟨rfl, ⟨rfl, ⟨rfl, ⟨rfl, trivial⟩⟩⟩⟩⟩⟩⟩
                  · refine @pm_we _ _ _ _ _ _ hw (fun hw => ?_) (fun hw => ?_)
                    · refine pm_steps 3 ?_
                      refine @pm_wl _ _ _ _ _ _ hw (fun hw => ?_) (fun hw => ?_)
                      · refine pm_steps 11 ?_
                        refine @pm_wc _ _ _ hw (fun hw => ?_)
                        refine pm_steps 2 ?_
                        exact pm_fg (wl_X7_worth_35_ok hK422 n _ _ _ hw) ⟨rfl, ⟨rfl, ⟨rfl, ⟨rfl, ⟨rfl, ⟨rfl, ⟨rfl, trivial⟩⟩⟩⟩⟩⟩⟩
                      · refine pm_steps 10 ?_
                        refine @pm_wc _ _ _ hw (fun hw => ?_)
                        refine pm_steps 2 ?_
                        exact pm_fg (wl_X7_worth_35_ok hK422 n _ _ _ hw) ⟨rfl, ⟨rfl, ⟨rfl, ⟨rfl, ⟨rfl, ⟨rfl, ⟨rfl, trivial⟩⟩⟩⟩⟩⟩⟩
                    · refine @pm_we _ _ _ _ _ _ hw (fun hw => ?_) (fun hw => ?_)
                      · refine pm_steps 11 ?_
                        refine @pm_wc _ _ _ hw (fun hw => ?_)
                        refine pm_steps 2 ?_
                        exact pm_fg (wl_X7_worth_35_ok hK422 n _ _ _ hw) ⟨rfl, ⟨rfl, ⟨rfl, ⟨rfl, ⟨rfl, ⟨rfl, ⟨rfl, trivial⟩⟩⟩⟩⟩⟩⟩
                      · refine @pm_we _ _ _ _ _ _ hw (fun hw => ?_) (fun hw => ?_)
                        · refine pm_steps 2 ?_
                          refine @pm_we _ _ _ _ _ _ hw (fun hw => ?_) (fun hw => ?_)
                          · refine pm_steps 10 ?_
                            refine @pm_wc _ _ _ hw (fun hw => ?_)
                            refine pm_steps 2 ?_
                            exact pm_fg (wl_X7_worth_35_ok hK422 n _ _ _ hw) ⟨rfl, ⟨rfl, ⟨rfl, ⟨rfl, ⟨rfl, ⟨rfl, ⟨rfl, trivial⟩⟩⟩⟩⟩⟩⟩
                          · refine pm_steps 2 ?_
                            refine @pm_we _ _ _ _ _ _ hw (fun hw => ?_) (fun hw => ?_)
                            · refine pm_steps 10 ?_
                              refine @pm_wc _ _ _ hw (fun hw => ?_)
                              refine pm_steps 2 ?_
                              exact pm_fg (wl_X7_worth_35_ok hK422 n _ _ _ hw) ⟨rfl, ⟨rfl, ⟨rfl, ⟨rfl, ⟨rfl, ⟨rfl, ⟨rfl, trivial⟩⟩⟩⟩⟩⟩⟩
                            · refine pm_steps 11 ?_
                              refine @pm_wc _ _ _ hw (fun hw => ?_)
                              refine pm_steps 2 ?_
                              exact pm_fg (wl_X7_worth_35_ok hK422 n _ _ _ hw) ⟨rfl, ⟨rfl, ⟨rfl, ⟨rfl, ⟨rfl, ⟨rfl, ⟨rfl, trivial⟩⟩⟩⟩⟩⟩⟩
                        · refine @pm_we _ _ _ _ _ _ hw (fun hw => ?_) (fun hw => ?_)
                          · refine pm_steps 2 ?_
                            refine @pm_we _ _ _ _ _ _ hw (fun hw => ?_) (fun hw => ?_)
                            · refine pm_steps 2 ?_
                              refine @pm_we _ _ _ _ _ _ hw (fun hw => ?_) (fun hw => ?_)
                              · refine pm_steps 10 ?_
                                refine @pm_wc _ _ _ hw (fun hw => ?_)
                                refine pm_steps 2 ?_
                                exact pm_fg (wl_X7_worth_35_ok hK422 n _ _ _ hw) ⟨rfl, ⟨rfl, ⟨rfl, ⟨rfl, ⟨rfl, ⟨rfl, ⟨rfl, trivial⟩⟩⟩⟩⟩⟩⟩
                              · refine pm_steps 11 ?_
                                refine @pm_wc _ _ _ hw (fun hw => ?_)
                                refine pm_steps 2 ?_
                                exact pm_fg (wl_X7_worth_35_ok hK422 n _ _ _ hw) ⟨rfl, ⟨rfl, ⟨rfl, ⟨rfl, ⟨rfl, ⟨rfl, ⟨rfl, trivial⟩⟩⟩⟩⟩⟩⟩
                            · refine pm_steps 11 ?_
                              refine @pm_wc _ _ _ hw (fun hw => ?_)
                              refine pm_steps 2 ?_
                              exact pm_fg (wl_X7_worth_35_ok hK422 n _ _ _ hw) ⟨rfl, ⟨rfl, ⟨rfl, ⟨rfl, ⟨rfl, ⟨rfl, ⟨rfl, trivial⟩⟩⟩⟩⟩⟩⟩
                          · refine pm_steps 11 ?_
                            refine @pm_wc _ _ _ hw (fun hw => ?_)
                            refine pm_steps 2 ?_
                            exact pm_fg (wl_X7_worth_35_ok hK422 n _ _ _ hw) ⟨rfl, ⟨rfl, ⟨rfl, ⟨rfl, ⟨rfl, ⟨rfl, ⟨rfl, trivial⟩⟩⟩⟩⟩⟩⟩
      · refine pm_steps 6 ?_
        refine @pm_wc _ _ _ hw (fun hw => ?_)
        refine pm_steps 3 ?_
        exact pm_fg (wl_X7_worth_35_ok hK422 n _ _ _ hw) ⟨rfl, ⟨rfl, ⟨rfl, ⟨rfl, ⟨rfl, ⟨rfl, ⟨rfl, trivial⟩⟩⟩⟩⟩⟩⟩
    · exact pm_fg (hK422  _ hw) ⟨rfl, ⟨rfl, trivial⟩⟩
set_option maxRecDepth 16384 in
def wp_X7_worth (l1 : Int32) (l2 : Int32) (l3 : Int32) (l4 : Int32) (h : pm_H) (Q : Int32 → pm_H → Prop) : Prop := pm_ib (pm_in (pm_op ((pm_op ((pm_op (4 * (h 66 14))) + l1)) + 1)) 24) (pm_ib (pm_in (pm_op ((pm_op (4 * (h 66 14))) + l1)) 24) (∃ n559, wl_X7_worth_35 l2 l3 l4 (h 77 (pm_op ((pm_op ((pm_op (4 * (h 66 14))) + l1)) + 1)).toNatClampNeg) (fun  h558 => Q (pm_op (pm_max 0 (pm_op (pm_min l4 (h558 78 0))))) h558) Q n559 0 (h 77 (pm_op ((pm_op (4 * (h 66 14))) + l1)).toNatClampNeg) h))
set_option maxRecDepth 16384 in
theorem wp_X7_worth_mono {l1 : Int32} {l2 : Int32} {l3 : Int32} {l4 : Int32} {h : pm_H} {Q Q' : Int32 → pm_H → Prop} (hQ : ∀ r h, Q r h → Q' r h) : wp_X7_worth l1 l2 l3 l4 h Q → wp_X7_worth l1 l2 l3 l4 h Q' := by unfold wp_X7_worth; exact (@pm_ib_mono _ _ _ (@pm_ib_mono _ _ _ (fun z => Exists.elim z (fun n559 z => ⟨n559, wl_X7_worth_35_mono (fun  _ => (hQ _ _)) hQ n559 _ _ _ z⟩))))
set_option maxRecDepth 16384 in
theorem wp_X7_worth_ok {d : Nat} {l1 : Int32} {l2 : Int32} {l3 : Int32} {l4 : Int32} {h : pm_H} {Q : Option Value → pm_H → Prop} (hw : wp_X7_worth l1 l2 l3 l4 h (fun r h => Q (some (.int r)) h)) : pm_R (d + 0) mt_X7_worth 0 [some (.ref 66), some (.int l1), some (.int l2), some (.int l3), some (.int l4), none, none, none, none, none, none, none] [] h Q := by
  unfold wp_X7_worth at hw
  refine pm_steps 11 ?_
  refine @pm_wc _ _ _ hw (fun hw => ?_)
  refine pm_steps 12 ?_
  refine @pm_wc _ _ _ hw (fun hw => ?_)
  refine pm_steps 1 ?_
  obtain ⟨n559, hw⟩ := hw
  refine pm_fg (wl_X7_worth_35_ok ?_ n559 _ _ _ hw) ⟨rfl, ⟨rfl, ⟨rfl, ⟨rfl, ⟨rfl, ⟨rfl, ⟨rfl, trivial⟩⟩⟩⟩⟩⟩⟩
  · intro  h558 hw
    exact pm_steps 9 hw
/-! StairLinesModel.stillIn()I -/
set_option maxRecDepth 16384 in
def wl_X7_stillIn_4  (K27 : Int32 → pm_H → Prop) (Q : Int32 → pm_H → Prop) : Nat → Int32 → Int32 → pm_H → Prop
  | 0, _, _, _ => False
  | n + 1, l1, l2, h => pm_lt l2 (h 66 3) (pm_ib (pm_in l2 5) (wl_X7_stillIn_4 K27 Q n (pm_op (l1 + (h 74 l2.toNatClampNeg))) (pm_op (l2 + 1)) h)) (K27 l1 h)
set_option maxRecDepth 16384 in
theorem wl_X7_stillIn_4_mono  {K27 K27' : Int32 → pm_H → Prop}  {Q Q' : Int32 → pm_H → Prop}  (mK27 : ∀ x1 h, K27 x1 h → K27' x1 h) (hQ : ∀ r h, Q r h → Q' r h) : ∀ (n : Nat) (l1 : Int32) (l2 : Int32) (h : pm_H), wl_X7_stillIn_4 K27 Q n l1 l2 h → wl_X7_stillIn_4 K27' Q' n l1 l2 h
  | 0, _, _, _ => id
  | n + 1, l1, l2, h => by unfold wl_X7_stillIn_4; exact (@pm_lt_mono _ _ _ _ _ _ (@pm_ib_mono _ _ _ (wl_X7_stillIn_4_mono mK27 hQ n _ _ _)) (mK27 _ _))
set_option maxRecDepth 16384 in
theorem wl_X7_stillIn_4_ok {d : Nat}  {K27 : Int32 → pm_H → Prop} {Q : Option Value → pm_H → Prop} (hK27 : ∀ (x1 : Int32) (h : pm_H), K27 x1 h → pm_R (d + 0) mt_X7_stillIn 27 [none, some (.int x1), none] [] h Q) : ∀ (n : Nat) (l1 : Int32) (l2 : Int32) (h : pm_H), wl_X7_stillIn_4 K27 (fun r h => Q (some (.int r)) h) n l1 l2 h → pm_R (d + 0) mt_X7_stillIn 4 [some (.ref 66), some (.int l1), some (.int l2)] [] h Q
  | 0, _, _, _ => fun hw => hw.elim
  | n + 1, l1, l2, h => fun hw => by
    unfold wl_X7_stillIn_4 at hw
    refine pm_steps 4 ?_
    refine @pm_wl _ _ _ _ _ _ hw (fun hw => ?_) (fun hw => ?_)
    · refine pm_steps 5 ?_
      refine @pm_wc _ _ _ hw (fun hw => ?_)
      refine pm_steps 4 ?_
      exact pm_fg (wl_X7_stillIn_4_ok hK27 n _ _ _ hw) ⟨rfl, ⟨rfl, ⟨rfl, trivial⟩⟩⟩
    · exact pm_fg (hK27 _ _ hw) ⟨rfl, trivial⟩
set_option maxRecDepth 16384 in
def wp_X7_stillIn  (h : pm_H) (Q : Int32 → pm_H → Prop) : Prop := ∃ n562, wl_X7_stillIn_4 (fun x561 h560 => Q x561 h560) Q n562 0 0 h
set_option maxRecDepth 16384 in
theorem wp_X7_stillIn_mono  {h : pm_H} {Q Q' : Int32 → pm_H → Prop} (hQ : ∀ r h, Q r h → Q' r h) : wp_X7_stillIn  h Q → wp_X7_stillIn  h Q' := by unfold wp_X7_stillIn; exact (fun z => Exists.elim z (fun n562 z => ⟨n562, wl_X7_stillIn_4_mono (fun _ _ => (hQ _ _)) hQ n562 _ _ _ z⟩))
set_option maxRecDepth 16384 in
theorem wp_X7_stillIn_ok {d : Nat}  {h : pm_H} {Q : Option Value → pm_H → Prop} (hw : wp_X7_stillIn  h (fun r h => Q (some (.int r)) h)) : pm_R (d + 0) mt_X7_stillIn 0 [some (.ref 66), none, none] [] h Q := by
  unfold wp_X7_stillIn at hw
  refine pm_steps 4 ?_
  obtain ⟨n562, hw⟩ := hw
  refine pm_fg (wl_X7_stillIn_4_ok ?_ n562 _ _ _ hw) ⟨rfl, ⟨rfl, ⟨rfl, trivial⟩⟩⟩
  · intro x561 h560 hw
    exact pm_steps 2 hw
/-! StairLinesModel.onSteps()I -/
set_option maxRecDepth 16384 in
def wl_X7_onSteps_4  (K25 : Int32 → pm_H → Prop) (Q : Int32 → pm_H → Prop) : Nat → Int32 → Int32 → pm_H → Prop
  | 0, _, _, _ => False
  | n + 1, l1, l2, h => pm_lt l2 10 (pm_ib (pm_in l2 10) (wl_X7_onSteps_4 K25 Q n (pm_op (l1 + (h 69 l2.toNatClampNeg))) (pm_op (l2 + 1)) h)) (K25 l1 h)
set_option maxRecDepth 16384 in
theorem wl_X7_onSteps_4_mono  {K25 K25' : Int32 → pm_H → Prop}  {Q Q' : Int32 → pm_H → Prop}  (mK25 : ∀ x1 h, K25 x1 h → K25' x1 h) (hQ : ∀ r h, Q r h → Q' r h) : ∀ (n : Nat) (l1 : Int32) (l2 : Int32) (h : pm_H), wl_X7_onSteps_4 K25 Q n l1 l2 h → wl_X7_onSteps_4 K25' Q' n l1 l2 h
  | 0, _, _, _ => id
  | n + 1, l1, l2, h => by unfold wl_X7_onSteps_4; exact (@pm_lt_mono _ _ _ _ _ _ (@pm_ib_mono _ _ _ (wl_X7_onSteps_4_mono mK25 hQ n _ _ _)) (mK25 _ _))
set_option maxRecDepth 16384 in
theorem wl_X7_onSteps_4_ok {d : Nat}  {K25 : Int32 → pm_H → Prop} {Q : Option Value → pm_H → Prop} (hK25 : ∀ (x1 : Int32) (h : pm_H), K25 x1 h → pm_R (d + 0) mt_X7_onSteps 25 [none, some (.int x1), none] [] h Q) : ∀ (n : Nat) (l1 : Int32) (l2 : Int32) (h : pm_H), wl_X7_onSteps_4 K25 (fun r h => Q (some (.int r)) h) n l1 l2 h → pm_R (d + 0) mt_X7_onSteps 4 [some (.ref 66), some (.int l1), some (.int l2)] [] h Q
  | 0, _, _, _ => fun hw => hw.elim
  | n + 1, l1, l2, h => fun hw => by
    unfold wl_X7_onSteps_4 at hw
    refine pm_steps 3 ?_
    refine @pm_wl _ _ _ _ _ _ hw (fun hw => ?_) (fun hw => ?_)
    · refine pm_steps 5 ?_
      refine @pm_wc _ _ _ hw (fun hw => ?_)
      refine pm_steps 4 ?_
      exact pm_fg (wl_X7_onSteps_4_ok hK25 n _ _ _ hw) ⟨rfl, ⟨rfl, ⟨rfl, trivial⟩⟩⟩
    · exact pm_fg (hK25 _ _ hw) ⟨rfl, trivial⟩
set_option maxRecDepth 16384 in
def wp_X7_onSteps  (h : pm_H) (Q : Int32 → pm_H → Prop) : Prop := ∃ n565, wl_X7_onSteps_4 (fun x564 h563 => Q x564 h563) Q n565 0 0 h
set_option maxRecDepth 16384 in
theorem wp_X7_onSteps_mono  {h : pm_H} {Q Q' : Int32 → pm_H → Prop} (hQ : ∀ r h, Q r h → Q' r h) : wp_X7_onSteps  h Q → wp_X7_onSteps  h Q' := by unfold wp_X7_onSteps; exact (fun z => Exists.elim z (fun n565 z => ⟨n565, wl_X7_onSteps_4_mono (fun _ _ => (hQ _ _)) hQ n565 _ _ _ z⟩))
set_option maxRecDepth 16384 in
theorem wp_X7_onSteps_ok {d : Nat}  {h : pm_H} {Q : Option Value → pm_H → Prop} (hw : wp_X7_onSteps  h (fun r h => Q (some (.int r)) h)) : pm_R (d + 0) mt_X7_onSteps 0 [some (.ref 66), none, none] [] h Q := by
  unfold wp_X7_onSteps at hw
  refine pm_steps 4 ?_
  obtain ⟨n565, hw⟩ := hw
  refine pm_fg (wl_X7_onSteps_4_ok ?_ n565 _ _ _ hw) ⟨rfl, ⟨rfl, ⟨rfl, trivial⟩⟩⟩
  · intro x564 h563 hw
    exact pm_steps 2 hw
/-! StairLinesModel.pass()V -/
set_option maxRecDepth 16384 in
def wl_X7_pass_8 (l1 : Int32) (K164 : pm_H → Prop) (Q : pm_H → Prop) : Nat → Int32 → pm_H → Prop
  | 0, _, _ => False
  | n + 1, l2, h => pm_lt l2 0 (K164  h) (pm_ib (pm_in l2 10) (pm_ib (pm_in l2 10) (pm_ib (pm_in l2 10) (pm_ib (pm_in l2 10) (pm_eq (h 69 l2.toNatClampNeg) 0 (wl_X7_pass_8 l1 K164 Q n (pm_op (l2 + (-1))) (pm_u (pm_u h 79 l2.toNatClampNeg (h 69 l2.toNatClampNeg)) 80 l2.toNatClampNeg 0)) (pm_eq l2 (h 66 30) (wl_X7_pass_8 l1 K164 Q n (pm_op (l2 + (-1))) (pm_u (pm_u h 79 l2.toNatClampNeg (h 69 l2.toNatClampNeg)) 80 l2.toNatClampNeg 0)) (pm_ib (pm_in l2 10) (wp_X7_passes l2 (pm_u (pm_u h 79 l2.toNatClampNeg (h 69 l2.toNatClampNeg)) 80 l2.toNatClampNeg 0) (fun r569 h568 => wp_X7_worth 0 l2 l1 9 h568 (fun r571 h570 => pm_lt l2 9 (wp_X7_holds_ (pm_op (l2 + 1)) h570 (fun r573 h572 => pm_ib (pm_in (pm_op (l2 + 1)) 10) (pm_lt 0 (pm_op (pm_min (pm_op (pm_min (h 69 l2.toNatClampNeg) (pm_op (r569 - r571)))) (pm_op (r573 - (h572 69 (pm_op (l2 + 1)).toNatClampNeg))))) (pm_ib (pm_in l2 10) (pm_ib (pm_in l2 10) (pm_ib (pm_in l2 10) (pm_lt l2 9 (pm_ib (pm_in (pm_op (l2 + 1)) 10) (pm_ib (pm_in (pm_op (l2 + 1)) 10) (wl_X7_pass_8 l1 K164 Q n (pm_op (l2 + (-1))) (pm_u (pm_u (pm_u h572 80 l2.toNatClampNeg (pm_op (pm_min (pm_op (pm_min (h 69 l2.toNatClampNeg) (pm_op (r569 - r571)))) (pm_op (r573 - (h572 69 (pm_op (l2 + 1)).toNatClampNeg)))))) 69 l2.toNatClampNeg (pm_op ((h572 69 l2.toNatClampNeg) - (pm_op (pm_min (pm_op (pm_min (h 69 l2.toNatClampNeg) (pm_op (r569 - r571)))) (pm_op (r573 - (h572 69 (pm_op (l2 + 1)).toNatClampNeg)))))))) 69 (pm_op (l2 + 1)).toNatClampNeg (pm_op (((pm_u (pm_u h572 80 l2.toNatClampNeg (pm_op (pm_min (pm_op (pm_min (h 69 l2.toNatClampNeg) (pm_op (r569 - r571)))) (pm_op (r573 - (h572 69 (pm_op (l2 + 1)).toNatClampNeg)))))) 69 l2.toNatClampNeg (pm_op ((h572 69 l2.toNatClampNeg) - (pm_op (pm_min (pm_op (pm_min (h 69 l2.toNatClampNeg) (pm_op (r569 - r571)))) (pm_op (r573 - (h572 69 (pm_op (l2 + 1)).toNatClampNeg)))))))) 69 (pm_op (l2 + 1)).toNatClampNeg) + (pm_op (pm_min (pm_op (pm_min (h 69 l2.toNatClampNeg) (pm_op (r569 - r571)))) (pm_op (r573 - (h572 69 (pm_op (l2 + 1)).toNatClampNeg))))))))))) (wl_X7_pass_8 l1 K164 Q n (pm_op (l2 + (-1))) (pm_u (pm_u (pm_u h572 80 l2.toNatClampNeg (pm_op (pm_min (pm_op (pm_min (h 69 l2.toNatClampNeg) (pm_op (r569 - r571)))) (pm_op (r573 - (h572 69 (pm_op (l2 + 1)).toNatClampNeg)))))) 69 l2.toNatClampNeg (pm_op ((h572 69 l2.toNatClampNeg) - (pm_op (pm_min (pm_op (pm_min (h 69 l2.toNatClampNeg) (pm_op (r569 - r571)))) (pm_op (r573 - (h572 69 (pm_op (l2 + 1)).toNatClampNeg)))))))) 66 10 (pm_op ((h572 66 10) + (pm_op (pm_min (pm_op (pm_min (h 69 l2.toNatClampNeg) (pm_op (r569 - r571)))) (pm_op (r573 - (h572 69 (pm_op (l2 + 1)).toNatClampNeg))))))))))))) (wl_X7_pass_8 l1 K164 Q n (pm_op (l2 + (-1))) h572)))) (pm_lt 0 (pm_op (pm_min (h 69 l2.toNatClampNeg) (pm_op (r569 - r571)))) (pm_ib (pm_in l2 10) (pm_ib (pm_in l2 10) (pm_ib (pm_in l2 10) (pm_lt l2 9 (pm_ib (pm_in (pm_op (l2 + 1)) 10) (pm_ib (pm_in (pm_op (l2 + 1)) 10) (wl_X7_pass_8 l1 K164 Q n (pm_op (l2 + (-1))) (pm_u (pm_u (pm_u h570 80 l2.toNatClampNeg (pm_op (pm_min (h 69 l2.toNatClampNeg) (pm_op (r569 - r571))))) 69 l2.toNatClampNeg (pm_op ((h570 69 l2.toNatClampNeg) - (pm_op (pm_min (h 69 l2.toNatClampNeg) (pm_op (r569 - r571))))))) 69 (pm_op (l2 + 1)).toNatClampNeg (pm_op (((pm_u (pm_u h570 80 l2.toNatClampNeg (pm_op (pm_min (h 69 l2.toNatClampNeg) (pm_op (r569 - r571))))) 69 l2.toNatClampNeg (pm_op ((h570 69 l2.toNatClampNeg) - (pm_op (pm_min (h 69 l2.toNatClampNeg) (pm_op (r569 - r571))))))) 69 (pm_op (l2 + 1)).toNatClampNeg) + (pm_op (pm_min (h 69 l2.toNatClampNeg) (pm_op (r569 - r571)))))))))) (wl_X7_pass_8 l1 K164 Q n (pm_op (l2 + (-1))) (pm_u (pm_u (pm_u h570 80 l2.toNatClampNeg (pm_op (pm_min (h 69 l2.toNatClampNeg) (pm_op (r569 - r571))))) 69 l2.toNatClampNeg (pm_op ((h570 69 l2.toNatClampNeg) - (pm_op (pm_min (h 69 l2.toNatClampNeg) (pm_op (r569 - r571))))))) 66 10 (pm_op ((h570 66 10) + (pm_op (pm_min (h 69 l2.toNatClampNeg) (pm_op (r569 - r571)))))))))))) (wl_X7_pass_8 l1 K164 Q n (pm_op (l2 + (-1))) h570))))))))))))
set_option maxRecDepth 16384 in
theorem wl_X7_pass_8_mono {l1 : Int32} {K164 K164' : pm_H → Prop}  {Q Q' : pm_H → Prop}  (mK164 : ∀  h, K164  h → K164'  h) (hQ : ∀ h, Q h → Q' h) : ∀ (n : Nat) (l2 : Int32) (h : pm_H), wl_X7_pass_8 l1 K164 Q n l2 h → wl_X7_pass_8 l1 K164' Q' n l2 h
  | 0, _, _ => id
  | n + 1, l2, h => by unfold wl_X7_pass_8; exact (@pm_lt_mono _ _ _ _ _ _ (mK164  _) (@pm_ib_mono _ _ _ (@pm_ib_mono _ _ _ (@pm_ib_mono _ _ _ (@pm_ib_mono _ _ _ (@pm_eq_mono _ _ _ _ _ _ (wl_X7_pass_8_mono mK164 hQ n _ _) (@pm_eq_mono _ _ _ _ _ _ (wl_X7_pass_8_mono mK164 hQ n _ _) (@pm_ib_mono _ _ _ (@wp_X7_passes_mono _ _ _ _ (fun _ _ => (@wp_X7_worth_mono _ _ _ _ _ _ _ (fun _ _ => (@pm_lt_mono _ _ _ _ _ _ (@wp_X7_holds__mono _ _ _ _ (fun _ _ => (@pm_ib_mono _ _ _ (@pm_lt_mono _ _ _ _ _ _ (@pm_ib_mono _ _ _ (@pm_ib_mono _ _ _ (@pm_ib_mono _ _ _ (@pm_lt_mono _ _ _ _ _ _ (@pm_ib_mono _ _ _ (@pm_ib_mono _ _ _ (wl_X7_pass_8_mono mK164 hQ n _ _))) (wl_X7_pass_8_mono mK164 hQ n _ _))))) (wl_X7_pass_8_mono mK164 hQ n _ _))))) (@pm_lt_mono _ _ _ _ _ _ (@pm_ib_mono _ _ _ (@pm_ib_mono _ _ _ (@pm_ib_mono _ _ _ (@pm_lt_mono _ _ _ _ _ _ (@pm_ib_mono _ _ _ (@pm_ib_mono _ _ _ (wl_X7_pass_8_mono mK164 hQ n _ _))) (wl_X7_pass_8_mono mK164 hQ n _ _))))) (wl_X7_pass_8_mono mK164 hQ n _ _)))))))))))))))
set_option maxRecDepth 16384 in
theorem wl_X7_pass_8_ok {d : Nat} {l1 : Int32} {K164 : pm_H → Prop} {Q : Option Value → pm_H → Prop} (hK164 : ∀  (h : pm_H), K164  h → pm_R (d + 2) mt_X7_pass 164 [some (.ref 66), none, none, none, none] [] h Q) : ∀ (n : Nat) (l2 : Int32) (h : pm_H), wl_X7_pass_8 l1 K164 (fun h => Q none h) n l2 h → pm_R (d + 2) mt_X7_pass 8 [some (.ref 66), some (.int l1), some (.int l2), none, none] [] h Q
  | 0, _, _ => fun hw => hw.elim
  | n + 1, l2, h => fun hw => by
    unfold wl_X7_pass_8 at hw
    refine pm_steps 2 ?_
    refine @pm_wl _ _ _ _ _ _ hw (fun hw => ?_) (fun hw => ?_)
    · exact pm_fg (hK164  _ hw) ⟨rfl, trivial⟩
    · refine pm_steps 7 ?_
      refine @pm_wc _ _ _ hw (fun hw => ?_)
      refine pm_steps 1 ?_
      refine @pm_wc _ _ _ hw (fun hw => ?_)
      refine pm_steps 5 ?_
      refine @pm_wc _ _ _ hw (fun hw => ?_)
      refine pm_steps 4 ?_
      refine @pm_wc _ _ _ hw (fun hw => ?_)
      refine pm_steps 1 ?_
      refine @pm_we _ _ _ _ _ _ hw (fun hw => ?_) (fun hw => ?_)
      · refine pm_steps 2 ?_
        exact pm_fg (wl_X7_pass_8_ok hK164 n _ _ hw) ⟨rfl, ⟨rfl, ⟨rfl, trivial⟩⟩⟩
      · refine pm_steps 4 ?_
        refine @pm_we _ _ _ _ _ _ hw (fun hw => ?_) (fun hw => ?_)
        · refine pm_steps 3 ?_
          exact pm_fg (wl_X7_pass_8_ok hK164 n _ _ hw) ⟨rfl, ⟨rfl, ⟨rfl, trivial⟩⟩⟩
        · refine pm_steps 4 ?_
          refine @pm_wc _ _ _ hw (fun hw => ?_)
          refine pm_steps 3 ?_
          refine @wp_X7_passes_ok _ _ _ _ (@wp_X7_passes_mono _ _ _ _ (fun r569 h568 hw => ?_) hw)
          refine pm_steps 6 ?_
          refine @wp_X7_worth_ok _ _ _ _ _ _ _ (@wp_X7_worth_mono _ _ _ _ _ _ _ (fun r571 h570 hw => ?_) hw)
          refine pm_steps 6 ?_
          refine @pm_wl _ _ _ _ _ _ hw (fun hw => ?_) (fun hw => ?_)
          · refine pm_steps 6 ?_
            refine @wp_X7_holds__ok _ _ _ _ (@wp_X7_holds__mono _ _ _ _ (fun r573 h572 hw => ?_) hw)
            refine pm_steps 6 ?_
            refine @pm_wc _ _ _ hw (fun hw => ?_)
            refine pm_steps 5 ?_
            refine @pm_wl _ _ _ _ _ _ hw (fun hw => ?_) (fun hw => ?_)
            · refine pm_steps 5 ?_
              refine @pm_wc _ _ _ hw (fun hw => ?_)
              refine pm_steps 5 ?_
              refine @pm_wc _ _ _ hw (fun hw => ?_)
              refine pm_steps 3 ?_
              refine @pm_wc _ _ _ hw (fun hw => ?_)
              refine pm_steps 3 ?_
              refine @pm_wl _ _ _ _ _ _ hw (fun hw => ?_) (fun hw => ?_)
              · refine pm_steps 7 ?_
                refine @pm_wc _ _ _ hw (fun hw => ?_)
                refine pm_steps 3 ?_
                refine @pm_wc _ _ _ hw (fun hw => ?_)
                refine pm_steps 3 ?_
                exact pm_fg (wl_X7_pass_8_ok hK164 n _ _ hw) ⟨rfl, ⟨rfl, ⟨rfl, trivial⟩⟩⟩
              · refine pm_steps 8 ?_
                exact pm_fg (wl_X7_pass_8_ok hK164 n _ _ hw) ⟨rfl, ⟨rfl, ⟨rfl, trivial⟩⟩⟩
            · refine pm_steps 3 ?_
              exact pm_fg (wl_X7_pass_8_ok hK164 n _ _ hw) ⟨rfl, ⟨rfl, ⟨rfl, trivial⟩⟩⟩
          · refine pm_steps 2 ?_
            refine @pm_wl _ _ _ _ _ _ hw (fun hw => ?_) (fun hw => ?_)
            · refine pm_steps 5 ?_
              refine @pm_wc _ _ _ hw (fun hw => ?_)
              refine pm_steps 5 ?_
              refine @pm_wc _ _ _ hw (fun hw => ?_)
              refine pm_steps 3 ?_
              refine @pm_wc _ _ _ hw (fun hw => ?_)
              refine pm_steps 3 ?_
              refine @pm_wl _ _ _ _ _ _ hw (fun hw => ?_) (fun hw => ?_)
              · refine pm_steps 7 ?_
                refine @pm_wc _ _ _ hw (fun hw => ?_)
                refine pm_steps 3 ?_
                refine @pm_wc _ _ _ hw (fun hw => ?_)
                refine pm_steps 3 ?_
                exact pm_fg (wl_X7_pass_8_ok hK164 n _ _ hw) ⟨rfl, ⟨rfl, ⟨rfl, trivial⟩⟩⟩
              · refine pm_steps 8 ?_
                exact pm_fg (wl_X7_pass_8_ok hK164 n _ _ hw) ⟨rfl, ⟨rfl, ⟨rfl, trivial⟩⟩⟩
            · refine pm_steps 3 ?_
              exact pm_fg (wl_X7_pass_8_ok hK164 n _ _ hw) ⟨rfl, ⟨rfl, ⟨rfl, trivial⟩⟩⟩
set_option maxRecDepth 16384 in
def wl_X7_pass_166  (K283 : pm_H → Prop) (Q : pm_H → Prop) : Nat → Int32 → pm_H → Prop
  | 0, _, _ => False
  | n + 1, l2, h => pm_lt l2 (h 66 3) (pm_ib (pm_in l2 5) (pm_lt (h 66 9) (h 72 l2.toNatClampNeg) (wl_X7_pass_166 K283 Q n (pm_op (l2 + 1)) h) (pm_ib (pm_in l2 5) (pm_eq (h 74 l2.toNatClampNeg) 0 (wl_X7_pass_166 K283 Q n (pm_op (l2 + 1)) h) (pm_ib (pm_in l2 5) (pm_ib (pm_in l2 5) (pm_ib (pm_in l2 5) (pm_ib (pm_in l2 5) (wp_X7_worth 1 (h 71 l2.toNatClampNeg) (h 74 l2.toNatClampNeg) 9 h (fun r576 h575 => wp_X7_holds_ (h 71 l2.toNatClampNeg) h575 (fun r578 h577 => pm_ib (pm_in (h 71 l2.toNatClampNeg) 10) (pm_ib (pm_in l2 5) (pm_ib (pm_in l2 5) (pm_ib (pm_in (h 71 l2.toNatClampNeg) 10) (pm_ib (pm_in (h 71 l2.toNatClampNeg) 10) (wl_X7_pass_166 K283 Q n (pm_op (l2 + 1)) (pm_u (pm_u h577 74 l2.toNatClampNeg (pm_op ((h577 74 l2.toNatClampNeg) - (pm_op (pm_min (pm_op (pm_min (h 74 l2.toNatClampNeg) (h 73 l2.toNatClampNeg))) (pm_op (pm_min r576 (pm_op (r578 - (h577 69 (h 71 l2.toNatClampNeg).toNatClampNeg)))))))))) 69 (h 71 l2.toNatClampNeg).toNatClampNeg (pm_op ((h577 69 (h 71 l2.toNatClampNeg).toNatClampNeg) + (pm_op (pm_min (pm_op (pm_min (h 74 l2.toNatClampNeg) (h 73 l2.toNatClampNeg))) (pm_op (pm_min r576 (pm_op (r578 - (h577 69 (h 71 l2.toNatClampNeg).toNatClampNeg)))))))))))))))))))))))))) (K283  h)
set_option maxRecDepth 16384 in
theorem wl_X7_pass_166_mono  {K283 K283' : pm_H → Prop}  {Q Q' : pm_H → Prop}  (mK283 : ∀  h, K283  h → K283'  h) (hQ : ∀ h, Q h → Q' h) : ∀ (n : Nat) (l2 : Int32) (h : pm_H), wl_X7_pass_166 K283 Q n l2 h → wl_X7_pass_166 K283' Q' n l2 h
  | 0, _, _ => id
  | n + 1, l2, h => by unfold wl_X7_pass_166; exact (@pm_lt_mono _ _ _ _ _ _ (@pm_ib_mono _ _ _ (@pm_lt_mono _ _ _ _ _ _ (wl_X7_pass_166_mono mK283 hQ n _ _) (@pm_ib_mono _ _ _ (@pm_eq_mono _ _ _ _ _ _ (wl_X7_pass_166_mono mK283 hQ n _ _) (@pm_ib_mono _ _ _ (@pm_ib_mono _ _ _ (@pm_ib_mono _ _ _ (@pm_ib_mono _ _ _ (@wp_X7_worth_mono _ _ _ _ _ _ _ (fun _ _ => (@wp_X7_holds__mono _ _ _ _ (fun _ _ => (@pm_ib_mono _ _ _ (@pm_ib_mono _ _ _ (@pm_ib_mono _ _ _ (@pm_ib_mono _ _ _ (@pm_ib_mono _ _ _ (wl_X7_pass_166_mono mK283 hQ n _ _)))))))))))))))))) (mK283  _))
set_option maxRecDepth 16384 in
theorem wl_X7_pass_166_ok {d : Nat}  {K283 : pm_H → Prop} {Q : Option Value → pm_H → Prop} (hK283 : ∀  (h : pm_H), K283  h → pm_R (d + 2) mt_X7_pass 283 [some (.ref 66), none, none, none, none] [] h Q) : ∀ (n : Nat) (l2 : Int32) (h : pm_H), wl_X7_pass_166 K283 (fun h => Q none h) n l2 h → pm_R (d + 2) mt_X7_pass 166 [some (.ref 66), none, some (.int l2), none, none] [] h Q
  | 0, _, _ => fun hw => hw.elim
  | n + 1, l2, h => fun hw => by
    unfold wl_X7_pass_166 at hw
    refine pm_steps 4 ?_
    refine @pm_wl _ _ _ _ _ _ hw (fun hw => ?_) (fun hw => ?_)
    · refine pm_steps 4 ?_
      refine @pm_wc _ _ _ hw (fun hw => ?_)
      refine pm_steps 3 ?_
      refine @pm_wl _ _ _ _ _ _ hw (fun hw => ?_) (fun hw => ?_)
      · refine pm_steps 2 ?_
        exact pm_fg (wl_X7_pass_166_ok hK283 n _ _ hw) ⟨rfl, ⟨rfl, trivial⟩⟩
      · refine pm_steps 4 ?_
        refine @pm_wc _ _ _ hw (fun hw => ?_)
        refine pm_steps 1 ?_
        refine @pm_we _ _ _ _ _ _ hw (fun hw => ?_) (fun hw => ?_)
        · refine pm_steps 3 ?_
          exact pm_fg (wl_X7_pass_166_ok hK283 n _ _ hw) ⟨rfl, ⟨rfl, trivial⟩⟩
        · refine pm_steps 4 ?_
          refine @pm_wc _ _ _ hw (fun hw => ?_)
          refine pm_steps 5 ?_
          refine @pm_wc _ _ _ hw (fun hw => ?_)
          refine pm_steps 4 ?_
          refine @pm_wc _ _ _ hw (fun hw => ?_)
          refine pm_steps 8 ?_
          refine @pm_wc _ _ _ hw (fun hw => ?_)
          refine pm_steps 2 ?_
          refine @wp_X7_worth_ok _ _ _ _ _ _ _ (@wp_X7_worth_mono _ _ _ _ _ _ _ (fun r576 h575 hw => ?_) hw)
          refine pm_steps 3 ?_
          refine @wp_X7_holds__ok _ _ _ _ (@wp_X7_holds__mono _ _ _ _ (fun r578 h577 hw => ?_) hw)
          refine pm_steps 4 ?_
          refine @pm_wc _ _ _ hw (fun hw => ?_)
          refine pm_steps 9 ?_
          refine @pm_wc _ _ _ hw (fun hw => ?_)
          refine pm_steps 3 ?_
          refine @pm_wc _ _ _ hw (fun hw => ?_)
          refine pm_steps 5 ?_
          refine @pm_wc _ _ _ hw (fun hw => ?_)
          refine pm_steps 3 ?_
          refine @pm_wc _ _ _ hw (fun hw => ?_)
          refine pm_steps 2 ?_
          exact pm_fg (wl_X7_pass_166_ok hK283 n _ _ hw) ⟨rfl, ⟨rfl, trivial⟩⟩
    · exact pm_fg (hK283  _ hw) ⟨rfl, trivial⟩
set_option maxRecDepth 16384 in
def wl_X7_pass_290 (l1 : Int32) (K380 : pm_H → Prop) (Q : pm_H → Prop) : Nat → Int32 → pm_H → Prop
  | 0, _, _ => False
  | n + 1, l2, h => pm_lt l2 10 (pm_ib (pm_in l2 10) (pm_ib (pm_in l2 10) (pm_ib (pm_in l2 10) (pm_eq (pm_op ((h 79 l2.toNatClampNeg) - (h 80 l2.toNatClampNeg))) 0 (wl_X7_pass_290 l1 K380 Q n (pm_op (l2 + 1)) (pm_u h 66 29 (pm_op (pm_max (h 66 29) (h 69 l2.toNatClampNeg))))) (pm_ib (pm_in l2 10) (pm_ib (pm_in l2 10) (wp_X7_worth 2 l2 l1 99 (pm_u (pm_u (pm_u h 66 29 (pm_op (pm_max (h 66 29) (h 69 l2.toNatClampNeg)))) 66 27 (pm_op ((h 66 27) + (pm_op ((h 79 l2.toNatClampNeg) - (h 80 l2.toNatClampNeg)))))) 81 l2.toNatClampNeg (pm_op ((h 81 l2.toNatClampNeg) + (pm_op ((h 79 l2.toNatClampNeg) - (h 80 l2.toNatClampNeg)))))) (fun r583 h582 => wl_X7_pass_290 l1 K380 Q n (pm_op (l2 + 1)) (pm_u h582 66 28 (pm_op ((h 66 28) + (pm_op ((pm_op ((h 79 l2.toNatClampNeg) - (h 80 l2.toNatClampNeg))) * r583))))))))))))) (K380  h)
set_option maxRecDepth 16384 in
theorem wl_X7_pass_290_mono {l1 : Int32} {K380 K380' : pm_H → Prop}  {Q Q' : pm_H → Prop}  (mK380 : ∀  h, K380  h → K380'  h) (hQ : ∀ h, Q h → Q' h) : ∀ (n : Nat) (l2 : Int32) (h : pm_H), wl_X7_pass_290 l1 K380 Q n l2 h → wl_X7_pass_290 l1 K380' Q' n l2 h
  | 0, _, _ => id
  | n + 1, l2, h => by unfold wl_X7_pass_290; exact (@pm_lt_mono _ _ _ _ _ _ (@pm_ib_mono _ _ _ (@pm_ib_mono _ _ _ (@pm_ib_mono _ _ _ (@pm_eq_mono _ _ _ _ _ _ (wl_X7_pass_290_mono mK380 hQ n _ _) (@pm_ib_mono _ _ _ (@pm_ib_mono _ _ _ (@wp_X7_worth_mono _ _ _ _ _ _ _ (fun _ _ => (wl_X7_pass_290_mono mK380 hQ n _ _))))))))) (mK380  _))
set_option maxRecDepth 16384 in
theorem wl_X7_pass_290_ok {d : Nat} {l1 : Int32} {K380 : pm_H → Prop} {Q : Option Value → pm_H → Prop} (hK380 : ∀  (h : pm_H), K380  h → pm_R (d + 2) mt_X7_pass 380 [some (.ref 66), none, none, none, none] [] h Q) : ∀ (n : Nat) (l2 : Int32) (h : pm_H), wl_X7_pass_290 l1 K380 (fun h => Q none h) n l2 h → pm_R (d + 2) mt_X7_pass 290 [some (.ref 66), some (.int l1), some (.int l2), none, none] [] h Q
  | 0, _, _ => fun hw => hw.elim
  | n + 1, l2, h => fun hw => by
    unfold wl_X7_pass_290 at hw
    refine pm_steps 3 ?_
    refine @pm_wl _ _ _ _ _ _ hw (fun hw => ?_) (fun hw => ?_)
    · refine pm_steps 4 ?_
      refine @pm_wc _ _ _ hw (fun hw => ?_)
      refine pm_steps 4 ?_
      refine @pm_wc _ _ _ hw (fun hw => ?_)
      refine pm_steps 9 ?_
      refine @pm_wc _ _ _ hw (fun hw => ?_)
      refine pm_steps 4 ?_
      refine @pm_we _ _ _ _ _ _ hw (fun hw => ?_) (fun hw => ?_)
      · refine pm_steps 3 ?_
        exact pm_fg (wl_X7_pass_290_ok hK380 n _ _ hw) ⟨rfl, ⟨rfl, ⟨rfl, trivial⟩⟩⟩
      · refine pm_steps 11 ?_
        refine @pm_wc _ _ _ hw (fun hw => ?_)
        refine pm_steps 3 ?_
        refine @pm_wc _ _ _ hw (fun hw => ?_)
        refine pm_steps 10 ?_
        refine @wp_X7_worth_ok _ _ _ _ _ _ _ (@wp_X7_worth_mono _ _ _ _ _ _ _ (fun r583 h582 hw => ?_) hw)
        refine pm_steps 5 ?_
        exact pm_fg (wl_X7_pass_290_ok hK380 n _ _ hw) ⟨rfl, ⟨rfl, ⟨rfl, trivial⟩⟩⟩
    · exact pm_fg (hK380  _ hw) ⟨rfl, trivial⟩
set_option maxRecDepth 16384 in
def wp_X7_pass  (h : pm_H) (Q : pm_H → Prop) : Prop := wp_X7_stillIn  h (fun r567 h566 => ∃ n587, wl_X7_pass_8 r567 (fun  h574 => ∃ n586, wl_X7_pass_166 (fun  h579 => wp_X7_stillIn  h579 (fun r581 h580 => ∃ n585, wl_X7_pass_290 r581 (fun  h584 => pm_lt (h584 66 9) 999 (Q (pm_u h584 66 9 (pm_op ((h584 66 9) + 1)))) (Q h584)) Q n585 0 h580)) Q n586 0 h574) Q n587 9 h566)
set_option maxRecDepth 16384 in
theorem wp_X7_pass_mono  {h : pm_H} {Q Q' : pm_H → Prop} (hQ : ∀ h, Q h → Q' h) : wp_X7_pass  h Q → wp_X7_pass  h Q' := by unfold wp_X7_pass; exact (@wp_X7_stillIn_mono _ _ _ (fun _ _ => (fun z => Exists.elim z (fun n587 z => ⟨n587, wl_X7_pass_8_mono (fun  _ => (fun z => Exists.elim z (fun n586 z => ⟨n586, wl_X7_pass_166_mono (fun  _ => (@wp_X7_stillIn_mono _ _ _ (fun _ _ => (fun z => Exists.elim z (fun n585 z => ⟨n585, wl_X7_pass_290_mono (fun  _ => (@pm_lt_mono _ _ _ _ _ _ (hQ _) (hQ _))) hQ n585 _ _ z⟩))))) hQ n586 _ _ z⟩))) hQ n587 _ _ z⟩))))
set_option maxRecDepth 16384 in
theorem wp_X7_pass_ok {d : Nat}  {h : pm_H} {Q : Option Value → pm_H → Prop} (hw : wp_X7_pass  h (fun h => Q none h)) : pm_R (d + 2) mt_X7_pass 0 [some (.ref 66), none, none, none, none] [] h Q := by
  unfold wp_X7_pass at hw
  refine pm_steps 2 ?_
  refine @wp_X7_stillIn_ok _ _ _ (@wp_X7_stillIn_mono _ _ _ (fun r567 h566 hw => ?_) hw)
  refine pm_steps 3 ?_
  obtain ⟨n587, hw⟩ := hw
  refine pm_fg (wl_X7_pass_8_ok ?_ n587 _ _ hw) ⟨rfl, ⟨rfl, ⟨rfl, trivial⟩⟩⟩
  · intro  h574 hw
    refine pm_steps 2 ?_
    obtain ⟨n586, hw⟩ := hw
    refine pm_fg (wl_X7_pass_166_ok ?_ n586 _ _ hw) ⟨rfl, ⟨rfl, trivial⟩⟩
    · intro  h579 hw
      refine pm_steps 2 ?_
      refine @wp_X7_stillIn_ok _ _ _ (@wp_X7_stillIn_mono _ _ _ (fun r581 h580 hw => ?_) hw)
      refine pm_steps 3 ?_
      obtain ⟨n585, hw⟩ := hw
      refine pm_fg (wl_X7_pass_290_ok ?_ n585 _ _ hw) ⟨rfl, ⟨rfl, ⟨rfl, trivial⟩⟩⟩
      · intro  h584 hw
        refine pm_steps 4 ?_
        refine @pm_wl _ _ _ _ _ _ hw (fun hw => ?_) (fun hw => ?_)
        · exact pm_steps 7 hw
        · exact pm_steps 1 hw
/-! StairLinesModel.tick()I -/
set_option maxRecDepth 16384 in
def wp_X7_tick  (h : pm_H) (Q : Int32 → pm_H → Prop) : Prop := wp_X7_pass  h (fun h588 => Q (h588 66 10) h588)
set_option maxRecDepth 16384 in
theorem wp_X7_tick_mono  {h : pm_H} {Q Q' : Int32 → pm_H → Prop} (hQ : ∀ r h, Q r h → Q' r h) : wp_X7_tick  h Q → wp_X7_tick  h Q' := by unfold wp_X7_tick; exact (@wp_X7_pass_mono _ _ _ (fun _ => (hQ _ _)))
set_option maxRecDepth 16384 in
theorem wp_X7_tick_ok {d : Nat}  {h : pm_H} {Q : Option Value → pm_H → Prop} (hw : wp_X7_tick  h (fun r h => Q (some (.int r)) h)) : pm_R (d + 3) mt_X7_tick 0 [some (.ref 66)] [] h Q := by
  unfold wp_X7_tick at hw
  refine pm_steps 2 ?_
  refine @wp_X7_pass_ok _ _ _ (@wp_X7_pass_mono _ _ _ (fun h588 hw => ?_) hw)
  exact pm_steps 3 hw
/-! StairLinesModel.keep()V -/
set_option maxRecDepth 16384 in
def wl_X7_keep_2  (K26 : pm_H → Prop) (Q : pm_H → Prop) : Nat → Int32 → pm_H → Prop
  | 0, _, _ => False
  | n + 1, l1, h => pm_lt l1 10 (pm_ib (pm_in l1 10) (pm_ib (pm_in l1 17) (wl_X7_keep_2 K26 Q n (pm_op (l1 + 1)) (pm_u h 82 l1.toNatClampNeg (h 69 l1.toNatClampNeg))))) (K26  h)
set_option maxRecDepth 16384 in
theorem wl_X7_keep_2_mono  {K26 K26' : pm_H → Prop}  {Q Q' : pm_H → Prop}  (mK26 : ∀  h, K26  h → K26'  h) (hQ : ∀ h, Q h → Q' h) : ∀ (n : Nat) (l1 : Int32) (h : pm_H), wl_X7_keep_2 K26 Q n l1 h → wl_X7_keep_2 K26' Q' n l1 h
  | 0, _, _ => id
  | n + 1, l1, h => by unfold wl_X7_keep_2; exact (@pm_lt_mono _ _ _ _ _ _ (@pm_ib_mono _ _ _ (@pm_ib_mono _ _ _ (wl_X7_keep_2_mono mK26 hQ n _ _))) (mK26  _))
set_option maxRecDepth 16384 in
theorem wl_X7_keep_2_ok {d : Nat}  {K26 : pm_H → Prop} {Q : Option Value → pm_H → Prop} (hK26 : ∀  (h : pm_H), K26  h → pm_R (d + 0) mt_X7_keep 26 [some (.ref 66), none] [] h Q) : ∀ (n : Nat) (l1 : Int32) (h : pm_H), wl_X7_keep_2 K26 (fun h => Q none h) n l1 h → pm_R (d + 0) mt_X7_keep 2 [some (.ref 66), some (.int l1)] [] h Q
  | 0, _, _ => fun hw => hw.elim
  | n + 1, l1, h => fun hw => by
    unfold wl_X7_keep_2 at hw
    refine pm_steps 3 ?_
    refine @pm_wl _ _ _ _ _ _ hw (fun hw => ?_) (fun hw => ?_)
    · refine pm_steps 7 ?_
      refine @pm_wc _ _ _ hw (fun hw => ?_)
      refine pm_steps 1 ?_
      refine @pm_wc _ _ _ hw (fun hw => ?_)
      refine pm_steps 2 ?_
      exact pm_fg (wl_X7_keep_2_ok hK26 n _ _ hw) ⟨rfl, ⟨rfl, trivial⟩⟩
    · exact pm_fg (hK26  _ hw) ⟨rfl, trivial⟩
set_option maxRecDepth 16384 in
def wl_X7_keep_28  (K54 : pm_H → Prop) (Q : pm_H → Prop) : Nat → Int32 → pm_H → Prop
  | 0, _, _ => False
  | n + 1, l1, h => pm_lt l1 5 (pm_ib (pm_in l1 5) (pm_ib (pm_in (pm_op (10 + l1)) 17) (wl_X7_keep_28 K54 Q n (pm_op (l1 + 1)) (pm_u h 82 (pm_op (10 + l1)).toNatClampNeg (h 74 l1.toNatClampNeg))))) (K54  h)
set_option maxRecDepth 16384 in
theorem wl_X7_keep_28_mono  {K54 K54' : pm_H → Prop}  {Q Q' : pm_H → Prop}  (mK54 : ∀  h, K54  h → K54'  h) (hQ : ∀ h, Q h → Q' h) : ∀ (n : Nat) (l1 : Int32) (h : pm_H), wl_X7_keep_28 K54 Q n l1 h → wl_X7_keep_28 K54' Q' n l1 h
  | 0, _, _ => id
  | n + 1, l1, h => by unfold wl_X7_keep_28; exact (@pm_lt_mono _ _ _ _ _ _ (@pm_ib_mono _ _ _ (@pm_ib_mono _ _ _ (wl_X7_keep_28_mono mK54 hQ n _ _))) (mK54  _))
set_option maxRecDepth 16384 in
theorem wl_X7_keep_28_ok {d : Nat}  {K54 : pm_H → Prop} {Q : Option Value → pm_H → Prop} (hK54 : ∀  (h : pm_H), K54  h → pm_R (d + 0) mt_X7_keep 54 [some (.ref 66), none] [] h Q) : ∀ (n : Nat) (l1 : Int32) (h : pm_H), wl_X7_keep_28 K54 (fun h => Q none h) n l1 h → pm_R (d + 0) mt_X7_keep 28 [some (.ref 66), some (.int l1)] [] h Q
  | 0, _, _ => fun hw => hw.elim
  | n + 1, l1, h => fun hw => by
    unfold wl_X7_keep_28 at hw
    refine pm_steps 3 ?_
    refine @pm_wl _ _ _ _ _ _ hw (fun hw => ?_) (fun hw => ?_)
    · refine pm_steps 9 ?_
      refine @pm_wc _ _ _ hw (fun hw => ?_)
      refine pm_steps 1 ?_
      refine @pm_wc _ _ _ hw (fun hw => ?_)
      refine pm_steps 2 ?_
      exact pm_fg (wl_X7_keep_28_ok hK54 n _ _ hw) ⟨rfl, ⟨rfl, trivial⟩⟩
    · exact pm_fg (hK54  _ hw) ⟨rfl, trivial⟩
set_option maxRecDepth 16384 in
def wp_X7_keep  (h : pm_H) (Q : pm_H → Prop) : Prop := ∃ n592, wl_X7_keep_2 (fun  h589 => ∃ n591, wl_X7_keep_28 (fun  h590 => Q (pm_u (pm_u h590 82 15 (h590 66 9)) 82 16 (h590 66 10))) Q n591 0 h589) Q n592 0 h
set_option maxRecDepth 16384 in
theorem wp_X7_keep_mono  {h : pm_H} {Q Q' : pm_H → Prop} (hQ : ∀ h, Q h → Q' h) : wp_X7_keep  h Q → wp_X7_keep  h Q' := by unfold wp_X7_keep; exact (fun z => Exists.elim z (fun n592 z => ⟨n592, wl_X7_keep_2_mono (fun  _ => (fun z => Exists.elim z (fun n591 z => ⟨n591, wl_X7_keep_28_mono (fun  _ => (hQ _)) hQ n591 _ _ z⟩))) hQ n592 _ _ z⟩))
set_option maxRecDepth 16384 in
theorem wp_X7_keep_ok {d : Nat}  {h : pm_H} {Q : Option Value → pm_H → Prop} (hw : wp_X7_keep  h (fun h => Q none h)) : pm_R (d + 0) mt_X7_keep 0 [some (.ref 66), none] [] h Q := by
  unfold wp_X7_keep at hw
  refine pm_steps 2 ?_
  obtain ⟨n592, hw⟩ := hw
  refine pm_fg (wl_X7_keep_2_ok ?_ n592 _ _ hw) ⟨rfl, ⟨rfl, trivial⟩⟩
  · intro  h589 hw
    refine pm_steps 2 ?_
    obtain ⟨n591, hw⟩ := hw
    refine pm_fg (wl_X7_keep_28_ok ?_ n591 _ _ hw) ⟨rfl, ⟨rfl, trivial⟩⟩
    · intro  h590 hw
      exact pm_steps 13 hw
/-! StairLinesModel.again()V -/
set_option maxRecDepth 16384 in
def wl_X7_again_2  (K26 : pm_H → Prop) (Q : pm_H → Prop) : Nat → Int32 → pm_H → Prop
  | 0, _, _ => False
  | n + 1, l1, h => pm_lt l1 10 (pm_ib (pm_in l1 17) (pm_ib (pm_in l1 10) (wl_X7_again_2 K26 Q n (pm_op (l1 + 1)) (pm_u h 69 l1.toNatClampNeg (h 82 l1.toNatClampNeg))))) (K26  h)
set_option maxRecDepth 16384 in
theorem wl_X7_again_2_mono  {K26 K26' : pm_H → Prop}  {Q Q' : pm_H → Prop}  (mK26 : ∀  h, K26  h → K26'  h) (hQ : ∀ h, Q h → Q' h) : ∀ (n : Nat) (l1 : Int32) (h : pm_H), wl_X7_again_2 K26 Q n l1 h → wl_X7_again_2 K26' Q' n l1 h
  | 0, _, _ => id
  | n + 1, l1, h => by unfold wl_X7_again_2; exact (@pm_lt_mono _ _ _ _ _ _ (@pm_ib_mono _ _ _ (@pm_ib_mono _ _ _ (wl_X7_again_2_mono mK26 hQ n _ _))) (mK26  _))
set_option maxRecDepth 16384 in
theorem wl_X7_again_2_ok {d : Nat}  {K26 : pm_H → Prop} {Q : Option Value → pm_H → Prop} (hK26 : ∀  (h : pm_H), K26  h → pm_R (d + 0) mt_X7_again 26 [some (.ref 66), none] [] h Q) : ∀ (n : Nat) (l1 : Int32) (h : pm_H), wl_X7_again_2 K26 (fun h => Q none h) n l1 h → pm_R (d + 0) mt_X7_again 2 [some (.ref 66), some (.int l1)] [] h Q
  | 0, _, _ => fun hw => hw.elim
  | n + 1, l1, h => fun hw => by
    unfold wl_X7_again_2 at hw
    refine pm_steps 3 ?_
    refine @pm_wl _ _ _ _ _ _ hw (fun hw => ?_) (fun hw => ?_)
    · refine pm_steps 7 ?_
      refine @pm_wc _ _ _ hw (fun hw => ?_)
      refine pm_steps 1 ?_
      refine @pm_wc _ _ _ hw (fun hw => ?_)
      refine pm_steps 2 ?_
      exact pm_fg (wl_X7_again_2_ok hK26 n _ _ hw) ⟨rfl, ⟨rfl, trivial⟩⟩
    · exact pm_fg (hK26  _ hw) ⟨rfl, trivial⟩
set_option maxRecDepth 16384 in
def wl_X7_again_28  (K54 : pm_H → Prop) (Q : pm_H → Prop) : Nat → Int32 → pm_H → Prop
  | 0, _, _ => False
  | n + 1, l1, h => pm_lt l1 5 (pm_ib (pm_in (pm_op (10 + l1)) 17) (pm_ib (pm_in l1 5) (wl_X7_again_28 K54 Q n (pm_op (l1 + 1)) (pm_u h 74 l1.toNatClampNeg (h 82 (pm_op (10 + l1)).toNatClampNeg))))) (K54  h)
set_option maxRecDepth 16384 in
theorem wl_X7_again_28_mono  {K54 K54' : pm_H → Prop}  {Q Q' : pm_H → Prop}  (mK54 : ∀  h, K54  h → K54'  h) (hQ : ∀ h, Q h → Q' h) : ∀ (n : Nat) (l1 : Int32) (h : pm_H), wl_X7_again_28 K54 Q n l1 h → wl_X7_again_28 K54' Q' n l1 h
  | 0, _, _ => id
  | n + 1, l1, h => by unfold wl_X7_again_28; exact (@pm_lt_mono _ _ _ _ _ _ (@pm_ib_mono _ _ _ (@pm_ib_mono _ _ _ (wl_X7_again_28_mono mK54 hQ n _ _))) (mK54  _))
set_option maxRecDepth 16384 in
theorem wl_X7_again_28_ok {d : Nat}  {K54 : pm_H → Prop} {Q : Option Value → pm_H → Prop} (hK54 : ∀  (h : pm_H), K54  h → pm_R (d + 0) mt_X7_again 54 [some (.ref 66), none] [] h Q) : ∀ (n : Nat) (l1 : Int32) (h : pm_H), wl_X7_again_28 K54 (fun h => Q none h) n l1 h → pm_R (d + 0) mt_X7_again 28 [some (.ref 66), some (.int l1)] [] h Q
  | 0, _, _ => fun hw => hw.elim
  | n + 1, l1, h => fun hw => by
    unfold wl_X7_again_28 at hw
    refine pm_steps 3 ?_
    refine @pm_wl _ _ _ _ _ _ hw (fun hw => ?_) (fun hw => ?_)
    · refine pm_steps 9 ?_
      refine @pm_wc _ _ _ hw (fun hw => ?_)
      refine pm_steps 1 ?_
      refine @pm_wc _ _ _ hw (fun hw => ?_)
      refine pm_steps 2 ?_
      exact pm_fg (wl_X7_again_28_ok hK54 n _ _ hw) ⟨rfl, ⟨rfl, trivial⟩⟩
    · exact pm_fg (hK54  _ hw) ⟨rfl, trivial⟩
set_option maxRecDepth 16384 in
def wp_X7_again  (h : pm_H) (Q : pm_H → Prop) : Prop := ∃ n596, wl_X7_again_2 (fun  h593 => ∃ n595, wl_X7_again_28 (fun  h594 => Q (pm_u (pm_u h594 66 9 (h594 82 15)) 66 10 (h594 82 16))) Q n595 0 h593) Q n596 0 h
set_option maxRecDepth 16384 in
theorem wp_X7_again_mono  {h : pm_H} {Q Q' : pm_H → Prop} (hQ : ∀ h, Q h → Q' h) : wp_X7_again  h Q → wp_X7_again  h Q' := by unfold wp_X7_again; exact (fun z => Exists.elim z (fun n596 z => ⟨n596, wl_X7_again_2_mono (fun  _ => (fun z => Exists.elim z (fun n595 z => ⟨n595, wl_X7_again_28_mono (fun  _ => (hQ _)) hQ n595 _ _ z⟩))) hQ n596 _ _ z⟩))
set_option maxRecDepth 16384 in
theorem wp_X7_again_ok {d : Nat}  {h : pm_H} {Q : Option Value → pm_H → Prop} (hw : wp_X7_again  h (fun h => Q none h)) : pm_R (d + 0) mt_X7_again 0 [some (.ref 66), none] [] h Q := by
  unfold wp_X7_again at hw
  refine pm_steps 2 ?_
  obtain ⟨n596, hw⟩ := hw
  refine pm_fg (wl_X7_again_2_ok ?_ n596 _ _ hw) ⟨rfl, ⟨rfl, trivial⟩⟩
  · intro  h593 hw
    refine pm_steps 2 ?_
    obtain ⟨n595, hw⟩ := hw
    refine pm_fg (wl_X7_again_28_ok ?_ n595 _ _ hw) ⟨rfl, ⟨rfl, trivial⟩⟩
    · intro  h594 hw
      exact pm_steps 13 hw
/-! StairLinesModel.ends(II)I -/
set_option maxRecDepth 16384 in
def wl_X7_ends_21 (l1 : Int32) (l2 : Int32) (K40 : pm_H → Prop) (Q : Int32 → pm_H → Prop) : Nat → Int32 → pm_H → Prop
  | 0, _, _ => False
  | n + 1, l3, h => pm_lt l3 10 (pm_ib (pm_in l3 10) (wl_X7_ends_21 l1 l2 K40 Q n (pm_op (l3 + 1)) (pm_u h 81 l3.toNatClampNeg 0))) (K40  h)
set_option maxRecDepth 16384 in
theorem wl_X7_ends_21_mono {l1 : Int32} {l2 : Int32} {K40 K40' : pm_H → Prop}  {Q Q' : Int32 → pm_H → Prop}  (mK40 : ∀  h, K40  h → K40'  h) (hQ : ∀ r h, Q r h → Q' r h) : ∀ (n : Nat) (l3 : Int32) (h : pm_H), wl_X7_ends_21 l1 l2 K40 Q n l3 h → wl_X7_ends_21 l1 l2 K40' Q' n l3 h
  | 0, _, _ => id
  | n + 1, l3, h => by unfold wl_X7_ends_21; exact (@pm_lt_mono _ _ _ _ _ _ (@pm_ib_mono _ _ _ (wl_X7_ends_21_mono mK40 hQ n _ _)) (mK40  _))
set_option maxRecDepth 16384 in
theorem wl_X7_ends_21_ok {d : Nat} {l1 : Int32} {l2 : Int32} {K40 : pm_H → Prop} {Q : Option Value → pm_H → Prop} (hK40 : ∀  (h : pm_H), K40  h → pm_R (d + 3) mt_X7_ends 40 [some (.ref 66), some (.int l1), some (.int l2), none] [] h Q) : ∀ (n : Nat) (l3 : Int32) (h : pm_H), wl_X7_ends_21 l1 l2 K40 (fun r h => Q (some (.int r)) h) n l3 h → pm_R (d + 3) mt_X7_ends 21 [some (.ref 66), some (.int l1), some (.int l2), some (.int l3)] [] h Q
  | 0, _, _ => fun hw => hw.elim
  | n + 1, l3, h => fun hw => by
    unfold wl_X7_ends_21 at hw
    refine pm_steps 3 ?_
    refine @pm_wl _ _ _ _ _ _ hw (fun hw => ?_) (fun hw => ?_)
    · refine pm_steps 5 ?_
      refine @pm_wc _ _ _ hw (fun hw => ?_)
      refine pm_steps 2 ?_
      exact pm_fg (wl_X7_ends_21_ok hK40 n _ _ hw) ⟨rfl, ⟨rfl, ⟨rfl, ⟨rfl, trivial⟩⟩⟩⟩
    · exact pm_fg (hK40  _ hw) ⟨rfl, ⟨rfl, ⟨rfl, trivial⟩⟩⟩
set_option maxRecDepth 16384 in
def wl_X7_ends_42 (l1 : Int32) (l2 : Int32) (K85 : Int32 → pm_H → Prop) (Q : Int32 → pm_H → Prop) : Nat → Int32 → pm_H → Prop
  | 0, _, _ => False
  | n + 1, l3, h => pm_lt l3 400 (wp_X7_onSteps  h (fun r600 h599 => wp_X7_stillIn  h599 (fun r602 h601 => pm_lt 0 (pm_op (r600 + r602)) (pm_lt l3 l2 (wp_X7_pass  (pm_u h601 66 30 l1) (fun h603 => wl_X7_ends_42 l1 l2 K85 Q n (pm_op (l3 + 1)) h603)) (wp_X7_pass  (pm_u h601 66 30 (-1)) (fun h604 => wl_X7_ends_42 l1 l2 K85 Q n (pm_op (l3 + 1)) h604))) (K85 l3 h601)))) (K85 l3 h)
set_option maxRecDepth 16384 in
theorem wl_X7_ends_42_mono {l1 : Int32} {l2 : Int32} {K85 K85' : Int32 → pm_H → Prop}  {Q Q' : Int32 → pm_H → Prop}  (mK85 : ∀ x3 h, K85 x3 h → K85' x3 h) (hQ : ∀ r h, Q r h → Q' r h) : ∀ (n : Nat) (l3 : Int32) (h : pm_H), wl_X7_ends_42 l1 l2 K85 Q n l3 h → wl_X7_ends_42 l1 l2 K85' Q' n l3 h
  | 0, _, _ => id
  | n + 1, l3, h => by unfold wl_X7_ends_42; exact (@pm_lt_mono _ _ _ _ _ _ (@wp_X7_onSteps_mono _ _ _ (fun _ _ => (@wp_X7_stillIn_mono _ _ _ (fun _ _ => (@pm_lt_mono _ _ _ _ _ _ (@pm_lt_mono _ _ _ _ _ _ (@wp_X7_pass_mono _ _ _ (fun _ => (wl_X7_ends_42_mono mK85 hQ n _ _))) (@wp_X7_pass_mono _ _ _ (fun _ => (wl_X7_ends_42_mono mK85 hQ n _ _)))) (mK85 _ _)))))) (mK85 _ _))
set_option maxRecDepth 16384 in
theorem wl_X7_ends_42_ok {d : Nat} {l1 : Int32} {l2 : Int32} {K85 : Int32 → pm_H → Prop} {Q : Option Value → pm_H → Prop} (hK85 : ∀ (x3 : Int32) (h : pm_H), K85 x3 h → pm_R (d + 3) mt_X7_ends 85 [some (.ref 66), none, none, some (.int x3)] [] h Q) : ∀ (n : Nat) (l3 : Int32) (h : pm_H), wl_X7_ends_42 l1 l2 K85 (fun r h => Q (some (.int r)) h) n l3 h → pm_R (d + 3) mt_X7_ends 42 [some (.ref 66), some (.int l1), some (.int l2), some (.int l3)] [] h Q
  | 0, _, _ => fun hw => hw.elim
  | n + 1, l3, h => fun hw => by
    unfold wl_X7_ends_42 at hw
    refine pm_steps 3 ?_
    refine @pm_wl _ _ _ _ _ _ hw (fun hw => ?_) (fun hw => ?_)
    · refine pm_steps 2 ?_
      refine @wp_X7_onSteps_ok _ _ _ (@wp_X7_onSteps_mono _ _ _ (fun r600 h599 hw => ?_) hw)
      refine pm_steps 2 ?_
      refine @wp_X7_stillIn_ok _ _ _ (@wp_X7_stillIn_mono _ _ _ (fun r602 h601 hw => ?_) hw)
      refine pm_steps 2 ?_
      refine @pm_wl _ _ _ _ _ _ hw (fun hw => ?_) (fun hw => ?_)
      · refine pm_steps 4 ?_
        refine @pm_wl _ _ _ _ _ _ hw (fun hw => ?_) (fun hw => ?_)
        · refine pm_steps 5 ?_
          refine @wp_X7_pass_ok _ _ _ (@wp_X7_pass_mono _ _ _ (fun h603 hw => ?_) hw)
          refine pm_steps 2 ?_
          exact pm_fg (wl_X7_ends_42_ok hK85 n _ _ hw) ⟨rfl, ⟨rfl, ⟨rfl, ⟨rfl, trivial⟩⟩⟩⟩
        · refine pm_steps 4 ?_
          refine @wp_X7_pass_ok _ _ _ (@wp_X7_pass_mono _ _ _ (fun h604 hw => ?_) hw)
          refine pm_steps 2 ?_
          exact pm_fg (wl_X7_ends_42_ok hK85 n _ _ hw) ⟨rfl, ⟨rfl, ⟨rfl, ⟨rfl, trivial⟩⟩⟩⟩
      · exact pm_fg (hK85 _ _ hw) ⟨rfl, ⟨rfl, trivial⟩⟩
    · exact pm_fg (hK85 _ _ hw) ⟨rfl, ⟨rfl, trivial⟩⟩
set_option maxRecDepth 16384 in
def wp_X7_ends (l1 : Int32) (l2 : Int32) (h : pm_H) (Q : Int32 → pm_H → Prop) : Prop := wp_X7_keep  h (fun h597 => ∃ n609, wl_X7_ends_21 l1 l2 (fun  h598 => ∃ n608, wl_X7_ends_42 l1 l2 (fun x606 h605 => wp_X7_again  (pm_u h605 66 30 (-1)) (fun h607 => Q x606 h607)) Q n608 0 h598) Q n609 0 (pm_u (pm_u (pm_u h597 66 27 0) 66 28 0) 66 29 0))
set_option maxRecDepth 16384 in
theorem wp_X7_ends_mono {l1 : Int32} {l2 : Int32} {h : pm_H} {Q Q' : Int32 → pm_H → Prop} (hQ : ∀ r h, Q r h → Q' r h) : wp_X7_ends l1 l2 h Q → wp_X7_ends l1 l2 h Q' := by unfold wp_X7_ends; exact (@wp_X7_keep_mono _ _ _ (fun _ => (fun z => Exists.elim z (fun n609 z => ⟨n609, wl_X7_ends_21_mono (fun  _ => (fun z => Exists.elim z (fun n608 z => ⟨n608, wl_X7_ends_42_mono (fun _ _ => (@wp_X7_again_mono _ _ _ (fun _ => (hQ _ _)))) hQ n608 _ _ z⟩))) hQ n609 _ _ z⟩))))
set_option maxRecDepth 16384 in
theorem wp_X7_ends_ok {d : Nat} {l1 : Int32} {l2 : Int32} {h : pm_H} {Q : Option Value → pm_H → Prop} (hw : wp_X7_ends l1 l2 h (fun r h => Q (some (.int r)) h)) : pm_R (d + 3) mt_X7_ends 0 [some (.ref 66), some (.int l1), some (.int l2), none] [] h Q := by
  unfold wp_X7_ends at hw
  refine pm_steps 2 ?_
  refine @wp_X7_keep_ok _ _ _ (@wp_X7_keep_mono _ _ _ (fun h597 hw => ?_) hw)
  refine pm_steps 11 ?_
  obtain ⟨n609, hw⟩ := hw
  refine pm_fg (wl_X7_ends_21_ok ?_ n609 _ _ hw) ⟨rfl, ⟨rfl, ⟨rfl, ⟨rfl, trivial⟩⟩⟩⟩
  · intro  h598 hw
    refine pm_steps 2 ?_
    obtain ⟨n608, hw⟩ := hw
    refine pm_fg (wl_X7_ends_42_ok ?_ n608 _ _ hw) ⟨rfl, ⟨rfl, ⟨rfl, ⟨rfl, trivial⟩⟩⟩⟩
    · intro x606 h605 hw
      refine pm_steps 5 ?_
      refine @wp_X7_again_ok _ _ _ (@wp_X7_again_mono _ _ _ (fun h607 hw => ?_) hw)
      exact pm_steps 2 hw
/-! StairLinesModel.ends()I -/
set_option maxRecDepth 16384 in
def wp_X7_ends_  (h : pm_H) (Q : Int32 → pm_H → Prop) : Prop := wp_X7_ends (-1) 0 h (fun r611 h610 => Q r611 h610)
set_option maxRecDepth 16384 in
theorem wp_X7_ends__mono  {h : pm_H} {Q Q' : Int32 → pm_H → Prop} (hQ : ∀ r h, Q r h → Q' r h) : wp_X7_ends_  h Q → wp_X7_ends_  h Q' := by unfold wp_X7_ends_; exact (@wp_X7_ends_mono _ _ _ _ _ (fun _ _ => (hQ _ _)))
set_option maxRecDepth 16384 in
theorem wp_X7_ends__ok {d : Nat}  {h : pm_H} {Q : Option Value → pm_H → Prop} (hw : wp_X7_ends_  h (fun r h => Q (some (.int r)) h)) : pm_R (d + 4) mt_X7_ends_ 0 [some (.ref 66)] [] h Q := by
  unfold wp_X7_ends_ at hw
  refine pm_steps 4 ?_
  refine @wp_X7_ends_ok _ _ _ _ _ (@wp_X7_ends_mono _ _ _ _ _ (fun r611 h610 hw => ?_) hw)
  exact pm_steps 1 hw
/-! StairLinesModel.run(I)I -/
set_option maxRecDepth 16384 in
def wp_X7_run (l1 : Int32) (h : pm_H) (Q : Int32 → pm_H → Prop) : Prop := wp_X7_within l1 0 3 h (fun r613 h612 => pm_eq r613 0 (Q (-2) h612) (wp_X7_ends_  h612 (fun r615 h614 => pm_eq l1 0 (Q r615 h614) (pm_eq l1 1 (Q (h614 66 27) h614) (pm_eq l1 2 (Q (h614 66 28) h614) (Q (h614 66 29) h614))))))
set_option maxRecDepth 16384 in
theorem wp_X7_run_mono {l1 : Int32} {h : pm_H} {Q Q' : Int32 → pm_H → Prop} (hQ : ∀ r h, Q r h → Q' r h) : wp_X7_run l1 h Q → wp_X7_run l1 h Q' := by unfold wp_X7_run; exact (@wp_X7_within_mono _ _ _ _ _ _ (fun _ _ => (@pm_eq_mono _ _ _ _ _ _ (hQ _ _) (@wp_X7_ends__mono _ _ _ (fun _ _ => (@pm_eq_mono _ _ _ _ _ _ (hQ _ _) (@pm_eq_mono _ _ _ _ _ _ (hQ _ _) (@pm_eq_mono _ _ _ _ _ _ (hQ _ _) (hQ _ _)))))))))
set_option maxRecDepth 16384 in
theorem wp_X7_run_ok {d : Nat} {l1 : Int32} {h : pm_H} {Q : Option Value → pm_H → Prop} (hw : wp_X7_run l1 h (fun r h => Q (some (.int r)) h)) : pm_R (d + 5) mt_X7_run 0 [some (.ref 66), some (.int l1), none] [] h Q := by
  unfold wp_X7_run at hw
  refine pm_steps 4 ?_
  refine @wp_X7_within_ok _ _ _ _ _ _ (@wp_X7_within_mono _ _ _ _ _ _ (fun r613 h612 hw => ?_) hw)
  refine pm_steps 1 ?_
  refine @pm_we _ _ _ _ _ _ hw (fun hw => ?_) (fun hw => ?_)
  · exact pm_steps 2 hw
  · refine pm_steps 2 ?_
    refine @wp_X7_ends__ok _ _ _ (@wp_X7_ends__mono _ _ _ (fun r615 h614 hw => ?_) hw)
    refine pm_steps 3 ?_
    refine @pm_we _ _ _ _ _ _ hw (fun hw => ?_) (fun hw => ?_)
    · exact pm_steps 3 hw
    · refine pm_steps 3 ?_
      refine @pm_we _ _ _ _ _ _ hw (fun hw => ?_) (fun hw => ?_)
      · exact pm_steps 4 hw
      · refine pm_steps 3 ?_
        refine @pm_we _ _ _ _ _ _ hw (fun hw => ?_) (fun hw => ?_)
        · exact pm_steps 4 hw
        · exact pm_steps 3 hw
/-! StairLinesModel.on(II)I -/
set_option maxRecDepth 16384 in
def wl_X7_on_30 (l1 : Int32) (l2 : Int32) (K45 : pm_H → Prop) (Q : Int32 → pm_H → Prop) : Nat → Int32 → pm_H → Prop
  | 0, _, _ => False
  | n + 1, l3, h => pm_lt l3 l2 (wp_X7_pass  h (fun h621 => wl_X7_on_30 l1 l2 K45 Q n (pm_op (l3 + 1)) h621)) (K45  h)
set_option maxRecDepth 16384 in
theorem wl_X7_on_30_mono {l1 : Int32} {l2 : Int32} {K45 K45' : pm_H → Prop}  {Q Q' : Int32 → pm_H → Prop}  (mK45 : ∀  h, K45  h → K45'  h) (hQ : ∀ r h, Q r h → Q' r h) : ∀ (n : Nat) (l3 : Int32) (h : pm_H), wl_X7_on_30 l1 l2 K45 Q n l3 h → wl_X7_on_30 l1 l2 K45' Q' n l3 h
  | 0, _, _ => id
  | n + 1, l3, h => by unfold wl_X7_on_30; exact (@pm_lt_mono _ _ _ _ _ _ (@wp_X7_pass_mono _ _ _ (fun _ => (wl_X7_on_30_mono mK45 hQ n _ _))) (mK45  _))
set_option maxRecDepth 16384 in
theorem wl_X7_on_30_ok {d : Nat} {l1 : Int32} {l2 : Int32} {K45 : pm_H → Prop} {Q : Option Value → pm_H → Prop} (hK45 : ∀  (h : pm_H), K45  h → pm_R (d + 3) mt_X7_on 45 [some (.ref 66), some (.int l1), none, none] [] h Q) : ∀ (n : Nat) (l3 : Int32) (h : pm_H), wl_X7_on_30 l1 l2 K45 (fun r h => Q (some (.int r)) h) n l3 h → pm_R (d + 3) mt_X7_on 30 [some (.ref 66), some (.int l1), some (.int l2), some (.int l3)] [] h Q
  | 0, _, _ => fun hw => hw.elim
  | n + 1, l3, h => fun hw => by
    unfold wl_X7_on_30 at hw
    refine pm_steps 3 ?_
    refine @pm_wl _ _ _ _ _ _ hw (fun hw => ?_) (fun hw => ?_)
    · refine pm_steps 2 ?_
      refine @wp_X7_pass_ok _ _ _ (@wp_X7_pass_mono _ _ _ (fun h621 hw => ?_) hw)
      refine pm_steps 2 ?_
      exact pm_fg (wl_X7_on_30_ok hK45 n _ _ hw) ⟨rfl, ⟨rfl, ⟨rfl, ⟨rfl, trivial⟩⟩⟩⟩
    · exact pm_fg (hK45  _ hw) ⟨rfl, ⟨rfl, trivial⟩⟩
set_option maxRecDepth 16384 in
def wp_X7_on (l1 : Int32) (l2 : Int32) (h : pm_H) (Q : Int32 → pm_H → Prop) : Prop := wp_X7_within l1 0 9 h (fun r617 h616 => pm_eq r617 0 (Q (-2) h616) (wp_X7_within l2 0 400 h616 (fun r619 h618 => pm_eq r619 0 (Q (-2) h618) (wp_X7_keep  h618 (fun h620 => ∃ n624, wl_X7_on_30 l1 l2 (fun  h622 => pm_ib (pm_in l1 10) (wp_X7_again  h622 (fun h623 => Q (h622 69 l1.toNatClampNeg) h623))) Q n624 0 h620)))))
set_option maxRecDepth 16384 in
theorem wp_X7_on_mono {l1 : Int32} {l2 : Int32} {h : pm_H} {Q Q' : Int32 → pm_H → Prop} (hQ : ∀ r h, Q r h → Q' r h) : wp_X7_on l1 l2 h Q → wp_X7_on l1 l2 h Q' := by unfold wp_X7_on; exact (@wp_X7_within_mono _ _ _ _ _ _ (fun _ _ => (@pm_eq_mono _ _ _ _ _ _ (hQ _ _) (@wp_X7_within_mono _ _ _ _ _ _ (fun _ _ => (@pm_eq_mono _ _ _ _ _ _ (hQ _ _) (@wp_X7_keep_mono _ _ _ (fun _ => (fun z => Exists.elim z (fun n624 z => ⟨n624, wl_X7_on_30_mono (fun  _ => (@pm_ib_mono _ _ _ (@wp_X7_again_mono _ _ _ (fun _ => (hQ _ _))))) hQ n624 _ _ z⟩))))))))))
set_option maxRecDepth 16384 in
theorem wp_X7_on_ok {d : Nat} {l1 : Int32} {l2 : Int32} {h : pm_H} {Q : Option Value → pm_H → Prop} (hw : wp_X7_on l1 l2 h (fun r h => Q (some (.int r)) h)) : pm_R (d + 3) mt_X7_on 0 [some (.ref 66), some (.int l1), some (.int l2), none] [] h Q := by
  unfold wp_X7_on at hw
  refine pm_steps 4 ?_
  refine @wp_X7_within_ok _ _ _ _ _ _ (@wp_X7_within_mono _ _ _ _ _ _ (fun r617 h616 hw => ?_) hw)
  refine pm_steps 1 ?_
  refine @pm_we _ _ _ _ _ _ hw (fun hw => ?_) (fun hw => ?_)
  · exact pm_steps 2 hw
  · refine pm_steps 4 ?_
    refine @wp_X7_within_ok _ _ _ _ _ _ (@wp_X7_within_mono _ _ _ _ _ _ (fun r619 h618 hw => ?_) hw)
    refine pm_steps 1 ?_
    refine @pm_we _ _ _ _ _ _ hw (fun hw => ?_) (fun hw => ?_)
    · exact pm_steps 2 hw
    · refine pm_steps 2 ?_
      refine @wp_X7_keep_ok _ _ _ (@wp_X7_keep_mono _ _ _ (fun h620 hw => ?_) hw)
      refine pm_steps 2 ?_
      obtain ⟨n624, hw⟩ := hw
      refine pm_fg (wl_X7_on_30_ok ?_ n624 _ _ hw) ⟨rfl, ⟨rfl, ⟨rfl, ⟨rfl, trivial⟩⟩⟩⟩
      · intro  h622 hw
        refine pm_steps 4 ?_
        refine @pm_wc _ _ _ hw (fun hw => ?_)
        refine pm_steps 3 ?_
        refine @wp_X7_again_ok _ _ _ (@wp_X7_again_mono _ _ _ (fun h623 hw => ?_) hw)
        exact pm_steps 2 hw
/-! StairLinesModel.holdsUp()I -/
set_option maxRecDepth 16384 in
def wl_X7_holdsUp_12  (K44 : Int32 → pm_H → Prop) (Q : Int32 → pm_H → Prop) : Nat → Int32 → Int32 → Int32 → pm_H → Prop
  | 0, _, _, _, _ => False
  | n + 1, l1, l2, l3, h => pm_lt l3 0 (K44 l1 h) (pm_ib (pm_in l3 10) (pm_lt l2 (h 81 l3.toNatClampNeg) (pm_ib (pm_in l3 10) (wl_X7_holdsUp_12 K44 Q n l3 (h 81 l3.toNatClampNeg) (pm_op (l3 + (-1))) h)) (wl_X7_holdsUp_12 K44 Q n l1 l2 (pm_op (l3 + (-1))) h)))
set_option maxRecDepth 16384 in
theorem wl_X7_holdsUp_12_mono  {K44 K44' : Int32 → pm_H → Prop}  {Q Q' : Int32 → pm_H → Prop}  (mK44 : ∀ x1 h, K44 x1 h → K44' x1 h) (hQ : ∀ r h, Q r h → Q' r h) : ∀ (n : Nat) (l1 : Int32) (l2 : Int32) (l3 : Int32) (h : pm_H), wl_X7_holdsUp_12 K44 Q n l1 l2 l3 h → wl_X7_holdsUp_12 K44' Q' n l1 l2 l3 h
  | 0, _, _, _, _ => id
  | n + 1, l1, l2, l3, h => by unfold wl_X7_holdsUp_12; exact (@pm_lt_mono _ _ _ _ _ _ (mK44 _ _) (@pm_ib_mono _ _ _ (@pm_lt_mono _ _ _ _ _ _ (@pm_ib_mono _ _ _ (wl_X7_holdsUp_12_mono mK44 hQ n _ _ _ _)) (wl_X7_holdsUp_12_mono mK44 hQ n _ _ _ _))))
set_option maxRecDepth 16384 in
theorem wl_X7_holdsUp_12_ok {d : Nat}  {K44 : Int32 → pm_H → Prop} {Q : Option Value → pm_H → Prop} (hK44 : ∀ (x1 : Int32) (h : pm_H), K44 x1 h → pm_R (d + 5) mt_X7_holdsUp 44 [none, some (.int x1), none, none] [] h Q) : ∀ (n : Nat) (l1 : Int32) (l2 : Int32) (l3 : Int32) (h : pm_H), wl_X7_holdsUp_12 K44 (fun r h => Q (some (.int r)) h) n l1 l2 l3 h → pm_R (d + 5) mt_X7_holdsUp 12 [some (.ref 66), some (.int l1), some (.int l2), some (.int l3)] [] h Q
  | 0, _, _, _, _ => fun hw => hw.elim
  | n + 1, l1, l2, l3, h => fun hw => by
    unfold wl_X7_holdsUp_12 at hw
    refine pm_steps 2 ?_
    refine @pm_wl _ _ _ _ _ _ hw (fun hw => ?_) (fun hw => ?_)
    · exact pm_fg (hK44 _ _ hw) ⟨rfl, trivial⟩
    · refine pm_steps 4 ?_
      refine @pm_wc _ _ _ hw (fun hw => ?_)
      refine pm_steps 2 ?_
      refine @pm_wl _ _ _ _ _ _ hw (fun hw => ?_) (fun hw => ?_)
      · refine pm_steps 4 ?_
        refine @pm_wc _ _ _ hw (fun hw => ?_)
        refine pm_steps 5 ?_
        exact pm_fg (wl_X7_holdsUp_12_ok hK44 n _ _ _ _ hw) ⟨rfl, ⟨rfl, ⟨rfl, ⟨rfl, trivial⟩⟩⟩⟩
      · refine pm_steps 3 ?_
        exact pm_fg (wl_X7_holdsUp_12_ok hK44 n _ _ _ _ hw) ⟨rfl, ⟨rfl, ⟨rfl, ⟨rfl, trivial⟩⟩⟩⟩
set_option maxRecDepth 16384 in
def wp_X7_holdsUp  (h : pm_H) (Q : Int32 → pm_H → Prop) : Prop := wp_X7_ends_  h (fun r626 h625 => ∃ n629, wl_X7_holdsUp_12 (fun x628 h627 => Q x628 h627) Q n629 (-1) 0 9 h625)
set_option maxRecDepth 16384 in
theorem wp_X7_holdsUp_mono  {h : pm_H} {Q Q' : Int32 → pm_H → Prop} (hQ : ∀ r h, Q r h → Q' r h) : wp_X7_holdsUp  h Q → wp_X7_holdsUp  h Q' := by unfold wp_X7_holdsUp; exact (@wp_X7_ends__mono _ _ _ (fun _ _ => (fun z => Exists.elim z (fun n629 z => ⟨n629, wl_X7_holdsUp_12_mono (fun _ _ => (hQ _ _)) hQ n629 _ _ _ _ z⟩))))
set_option maxRecDepth 16384 in
theorem wp_X7_holdsUp_ok {d : Nat}  {h : pm_H} {Q : Option Value → pm_H → Prop} (hw : wp_X7_holdsUp  h (fun r h => Q (some (.int r)) h)) : pm_R (d + 5) mt_X7_holdsUp 0 [some (.ref 66), none, none, none] [] h Q := by
  unfold wp_X7_holdsUp at hw
  refine pm_steps 2 ?_
  refine @wp_X7_ends__ok _ _ _ (@wp_X7_ends__mono _ _ _ (fun r626 h625 hw => ?_) hw)
  refine pm_steps 7 ?_
  obtain ⟨n629, hw⟩ := hw
  refine pm_fg (wl_X7_holdsUp_12_ok ?_ n629 _ _ _ _ hw) ⟨rfl, ⟨rfl, ⟨rfl, ⟨rfl, trivial⟩⟩⟩⟩
  · intro x628 h627 hw
    exact pm_steps 2 hw
/-! StairLinesModel.widen()I -/
set_option maxRecDepth 16384 in
def wl_X7_widen_9  (K75 : Int32 → pm_H → Prop) (Q : Int32 → pm_H → Prop) : Nat → Int32 → Int32 → Int32 → pm_H → Prop
  | 0, _, _, _, _ => False
  | n + 1, l1, l2, l3, h => pm_lt l3 10 (pm_ib (pm_in l3 10) (pm_eq (h 68 l3.toNatClampNeg) 9 (wl_X7_widen_9 K75 Q n l1 l2 (pm_op (l3 + 1)) h) (pm_ib (pm_in l3 10) (pm_ib (pm_in l3 10) (wp_X7_ends_  (pm_u h 68 l3.toNatClampNeg (pm_op ((h 68 l3.toNatClampNeg) + 1))) (fun r633 h632 => pm_ib (pm_in l3 10) (pm_ib (pm_in l3 10) (pm_lt r633 l1 (wl_X7_widen_9 K75 Q n r633 l3 (pm_op (l3 + 1)) (pm_u h632 68 l3.toNatClampNeg (pm_op ((h632 68 l3.toNatClampNeg) - 1)))) (wl_X7_widen_9 K75 Q n l1 l2 (pm_op (l3 + 1)) (pm_u h632 68 l3.toNatClampNeg (pm_op ((h632 68 l3.toNatClampNeg) - 1)))))))))))) (K75 l2 h)
set_option maxRecDepth 16384 in
theorem wl_X7_widen_9_mono  {K75 K75' : Int32 → pm_H → Prop}  {Q Q' : Int32 → pm_H → Prop}  (mK75 : ∀ x2 h, K75 x2 h → K75' x2 h) (hQ : ∀ r h, Q r h → Q' r h) : ∀ (n : Nat) (l1 : Int32) (l2 : Int32) (l3 : Int32) (h : pm_H), wl_X7_widen_9 K75 Q n l1 l2 l3 h → wl_X7_widen_9 K75' Q' n l1 l2 l3 h
  | 0, _, _, _, _ => id
  | n + 1, l1, l2, l3, h => by unfold wl_X7_widen_9; exact (@pm_lt_mono _ _ _ _ _ _ (@pm_ib_mono _ _ _ (@pm_eq_mono _ _ _ _ _ _ (wl_X7_widen_9_mono mK75 hQ n _ _ _ _) (@pm_ib_mono _ _ _ (@pm_ib_mono _ _ _ (@wp_X7_ends__mono _ _ _ (fun _ _ => (@pm_ib_mono _ _ _ (@pm_ib_mono _ _ _ (@pm_lt_mono _ _ _ _ _ _ (wl_X7_widen_9_mono mK75 hQ n _ _ _ _) (wl_X7_widen_9_mono mK75 hQ n _ _ _ _)))))))))) (mK75 _ _))
set_option maxRecDepth 16384 in
theorem wl_X7_widen_9_ok {d : Nat}  {K75 : Int32 → pm_H → Prop} {Q : Option Value → pm_H → Prop} (hK75 : ∀ (x2 : Int32) (h : pm_H), K75 x2 h → pm_R (d + 5) mt_X7_widen 75 [none, none, some (.int x2), none, none] [] h Q) : ∀ (n : Nat) (l1 : Int32) (l2 : Int32) (l3 : Int32) (h : pm_H), wl_X7_widen_9 K75 (fun r h => Q (some (.int r)) h) n l1 l2 l3 h → pm_R (d + 5) mt_X7_widen 9 [some (.ref 66), some (.int l1), some (.int l2), some (.int l3), none] [] h Q
  | 0, _, _, _, _ => fun hw => hw.elim
  | n + 1, l1, l2, l3, h => fun hw => by
    unfold wl_X7_widen_9 at hw
    refine pm_steps 3 ?_
    refine @pm_wl _ _ _ _ _ _ hw (fun hw => ?_) (fun hw => ?_)
    · refine pm_steps 4 ?_
      refine @pm_wc _ _ _ hw (fun hw => ?_)
      refine pm_steps 2 ?_
      refine @pm_we _ _ _ _ _ _ hw (fun hw => ?_) (fun hw => ?_)
      · refine pm_steps 3 ?_
        exact pm_fg (wl_X7_widen_9_ok hK75 n _ _ _ _ hw) ⟨rfl, ⟨rfl, ⟨rfl, ⟨rfl, trivial⟩⟩⟩⟩
      · refine pm_steps 5 ?_
        refine @pm_wc _ _ _ hw (fun hw => ?_)
        refine pm_steps 3 ?_
        refine @pm_wc _ _ _ hw (fun hw => ?_)
        refine pm_steps 2 ?_
        refine @wp_X7_ends__ok _ _ _ (@wp_X7_ends__mono _ _ _ (fun r633 h632 hw => ?_) hw)
        refine pm_steps 6 ?_
        refine @pm_wc _ _ _ hw (fun hw => ?_)
        refine pm_steps 3 ?_
        refine @pm_wc _ _ _ hw (fun hw => ?_)
        refine pm_steps 3 ?_
        refine @pm_wl _ _ _ _ _ _ hw (fun hw => ?_) (fun hw => ?_)
        · refine pm_steps 6 ?_
          exact pm_fg (wl_X7_widen_9_ok hK75 n _ _ _ _ hw) ⟨rfl, ⟨rfl, ⟨rfl, ⟨rfl, trivial⟩⟩⟩⟩
        · refine pm_steps 3 ?_
          exact pm_fg (wl_X7_widen_9_ok hK75 n _ _ _ _ hw) ⟨rfl, ⟨rfl, ⟨rfl, ⟨rfl, trivial⟩⟩⟩⟩
    · exact pm_fg (hK75 _ _ hw) ⟨rfl, trivial⟩
set_option maxRecDepth 16384 in
def wp_X7_widen  (h : pm_H) (Q : Int32 → pm_H → Prop) : Prop := wp_X7_ends_  h (fun r631 h630 => ∃ n636, wl_X7_widen_9 (fun x635 h634 => Q x635 h634) Q n636 r631 (-1) 0 h630)
set_option maxRecDepth 16384 in
theorem wp_X7_widen_mono  {h : pm_H} {Q Q' : Int32 → pm_H → Prop} (hQ : ∀ r h, Q r h → Q' r h) : wp_X7_widen  h Q → wp_X7_widen  h Q' := by unfold wp_X7_widen; exact (@wp_X7_ends__mono _ _ _ (fun _ _ => (fun z => Exists.elim z (fun n636 z => ⟨n636, wl_X7_widen_9_mono (fun _ _ => (hQ _ _)) hQ n636 _ _ _ _ z⟩))))
set_option maxRecDepth 16384 in
theorem wp_X7_widen_ok {d : Nat}  {h : pm_H} {Q : Option Value → pm_H → Prop} (hw : wp_X7_widen  h (fun r h => Q (some (.int r)) h)) : pm_R (d + 5) mt_X7_widen 0 [some (.ref 66), none, none, none, none] [] h Q := by
  unfold wp_X7_widen at hw
  refine pm_steps 2 ?_
  refine @wp_X7_ends__ok _ _ _ (@wp_X7_ends__mono _ _ _ (fun r631 h630 hw => ?_) hw)
  refine pm_steps 5 ?_
  obtain ⟨n636, hw⟩ := hw
  refine pm_fg (wl_X7_widen_9_ok ?_ n636 _ _ _ _ hw) ⟨rfl, ⟨rfl, ⟨rfl, ⟨rfl, trivial⟩⟩⟩⟩
  · intro x635 h634 hw
    exact pm_steps 2 hw
/-! StairLinesModel.later()I -/
set_option maxRecDepth 16384 in
def wl_X7_later_14  (K84 : Int32 → pm_H → Prop) (Q : Int32 → pm_H → Prop) : Nat → Int32 → Int32 → Int32 → pm_H → Prop
  | 0, _, _, _, _ => False
  | n + 1, l1, l2, l3, h => pm_lt l3 (h 66 3) (pm_ib (pm_in l3 5) (pm_ib (pm_in l3 5) (wp_X7_ends_  (pm_u h 72 l3.toNatClampNeg (pm_op (pm_min 199 (pm_op ((h 72 l3.toNatClampNeg) + 20))))) (fun r640 h639 => pm_ib (pm_in l3 5) (pm_lt (h639 66 27) l1 (wl_X7_later_14 K84 Q n (h639 66 27) l3 (pm_op (l3 + 1)) (pm_u h639 72 l3.toNatClampNeg (h 72 l3.toNatClampNeg))) (wl_X7_later_14 K84 Q n l1 l2 (pm_op (l3 + 1)) (pm_u h639 72 l3.toNatClampNeg (h 72 l3.toNatClampNeg)))))))) (K84 l2 h)
set_option maxRecDepth 16384 in
theorem wl_X7_later_14_mono  {K84 K84' : Int32 → pm_H → Prop}  {Q Q' : Int32 → pm_H → Prop}  (mK84 : ∀ x2 h, K84 x2 h → K84' x2 h) (hQ : ∀ r h, Q r h → Q' r h) : ∀ (n : Nat) (l1 : Int32) (l2 : Int32) (l3 : Int32) (h : pm_H), wl_X7_later_14 K84 Q n l1 l2 l3 h → wl_X7_later_14 K84' Q' n l1 l2 l3 h
  | 0, _, _, _, _ => id
  | n + 1, l1, l2, l3, h => by unfold wl_X7_later_14; exact (@pm_lt_mono _ _ _ _ _ _ (@pm_ib_mono _ _ _ (@pm_ib_mono _ _ _ (@wp_X7_ends__mono _ _ _ (fun _ _ => (@pm_ib_mono _ _ _ (@pm_lt_mono _ _ _ _ _ _ (wl_X7_later_14_mono mK84 hQ n _ _ _ _) (wl_X7_later_14_mono mK84 hQ n _ _ _ _))))))) (mK84 _ _))
set_option maxRecDepth 16384 in
theorem wl_X7_later_14_ok {d : Nat}  {K84 : Int32 → pm_H → Prop} {Q : Option Value → pm_H → Prop} (hK84 : ∀ (x2 : Int32) (h : pm_H), K84 x2 h → pm_R (d + 5) mt_X7_later 84 [none, none, some (.int x2), none, none] [] h Q) : ∀ (n : Nat) (l1 : Int32) (l2 : Int32) (l3 : Int32) (h : pm_H), wl_X7_later_14 K84 (fun r h => Q (some (.int r)) h) n l1 l2 l3 h → pm_R (d + 5) mt_X7_later 14 [some (.ref 66), some (.int l1), some (.int l2), some (.int l3), none] [] h Q
  | 0, _, _, _, _ => fun hw => hw.elim
  | n + 1, l1, l2, l3, h => fun hw => by
    unfold wl_X7_later_14 at hw
    refine pm_steps 4 ?_
    refine @pm_wl _ _ _ _ _ _ hw (fun hw => ?_) (fun hw => ?_)
    · refine pm_steps 4 ?_
      refine @pm_wc _ _ _ hw (fun hw => ?_)
      refine pm_steps 10 ?_
      refine @pm_wc _ _ _ hw (fun hw => ?_)
      refine pm_steps 2 ?_
      refine @wp_X7_ends__ok _ _ _ (@wp_X7_ends__mono _ _ _ (fun r640 h639 hw => ?_) hw)
      refine pm_steps 6 ?_
      refine @pm_wc _ _ _ hw (fun hw => ?_)
      refine pm_steps 4 ?_
      refine @pm_wl _ _ _ _ _ _ hw (fun hw => ?_) (fun hw => ?_)
      · refine pm_steps 7 ?_
        exact pm_fg (wl_X7_later_14_ok hK84 n _ _ _ _ hw) ⟨rfl, ⟨rfl, ⟨rfl, ⟨rfl, trivial⟩⟩⟩⟩
      · refine pm_steps 3 ?_
        exact pm_fg (wl_X7_later_14_ok hK84 n _ _ _ _ hw) ⟨rfl, ⟨rfl, ⟨rfl, ⟨rfl, trivial⟩⟩⟩⟩
    · exact pm_fg (hK84 _ _ hw) ⟨rfl, trivial⟩
set_option maxRecDepth 16384 in
def wp_X7_later  (h : pm_H) (Q : Int32 → pm_H → Prop) : Prop := wp_X7_ends_  h (fun r638 h637 => ∃ n643, wl_X7_later_14 (fun x642 h641 => Q x642 h641) Q n643 (h637 66 27) (-1) 0 h637)
set_option maxRecDepth 16384 in
theorem wp_X7_later_mono  {h : pm_H} {Q Q' : Int32 → pm_H → Prop} (hQ : ∀ r h, Q r h → Q' r h) : wp_X7_later  h Q → wp_X7_later  h Q' := by unfold wp_X7_later; exact (@wp_X7_ends__mono _ _ _ (fun _ _ => (fun z => Exists.elim z (fun n643 z => ⟨n643, wl_X7_later_14_mono (fun _ _ => (hQ _ _)) hQ n643 _ _ _ _ z⟩))))
set_option maxRecDepth 16384 in
theorem wp_X7_later_ok {d : Nat}  {h : pm_H} {Q : Option Value → pm_H → Prop} (hw : wp_X7_later  h (fun r h => Q (some (.int r)) h)) : pm_R (d + 5) mt_X7_later 0 [some (.ref 66), none, none, none, none] [] h Q := by
  unfold wp_X7_later at hw
  refine pm_steps 2 ?_
  refine @wp_X7_ends__ok _ _ _ (@wp_X7_ends__mono _ _ _ (fun r638 h637 hw => ?_) hw)
  refine pm_steps 8 ?_
  obtain ⟨n643, hw⟩ := hw
  refine pm_fg (wl_X7_later_14_ok ?_ n643 _ _ _ _ hw) ⟨rfl, ⟨rfl, ⟨rfl, ⟨rfl, trivial⟩⟩⟩⟩
  · intro x642 h641 hw
    exact pm_steps 2 hw
/-! StairLinesModel.keepBells()V -/
set_option maxRecDepth 16384 in
def wl_X7_keepBells_2  (K25 : pm_H → Prop) (Q : pm_H → Prop) : Nat → Int32 → pm_H → Prop
  | 0, _, _ => False
  | n + 1, l1, h => pm_lt l1 5 (pm_ib (pm_in l1 5) (pm_ib (pm_in l1 5) (wl_X7_keepBells_2 K25 Q n (pm_op (l1 + 1)) (pm_u h 83 l1.toNatClampNeg (h 72 l1.toNatClampNeg))))) (K25  h)
set_option maxRecDepth 16384 in
theorem wl_X7_keepBells_2_mono  {K25 K25' : pm_H → Prop}  {Q Q' : pm_H → Prop}  (mK25 : ∀  h, K25  h → K25'  h) (hQ : ∀ h, Q h → Q' h) : ∀ (n : Nat) (l1 : Int32) (h : pm_H), wl_X7_keepBells_2 K25 Q n l1 h → wl_X7_keepBells_2 K25' Q' n l1 h
  | 0, _, _ => id
  | n + 1, l1, h => by unfold wl_X7_keepBells_2; exact (@pm_lt_mono _ _ _ _ _ _ (@pm_ib_mono _ _ _ (@pm_ib_mono _ _ _ (wl_X7_keepBells_2_mono mK25 hQ n _ _))) (mK25  _))
set_option maxRecDepth 16384 in
theorem wl_X7_keepBells_2_ok {d : Nat}  {K25 : pm_H → Prop} {Q : Option Value → pm_H → Prop} (hK25 : ∀  (h : pm_H), K25  h → pm_R (d + 0) mt_X7_keepBells 25 [none, none] [] h Q) : ∀ (n : Nat) (l1 : Int32) (h : pm_H), wl_X7_keepBells_2 K25 (fun h => Q none h) n l1 h → pm_R (d + 0) mt_X7_keepBells 2 [some (.ref 66), some (.int l1)] [] h Q
  | 0, _, _ => fun hw => hw.elim
  | n + 1, l1, h => fun hw => by
    unfold wl_X7_keepBells_2 at hw
    refine pm_steps 3 ?_
    refine @pm_wl _ _ _ _ _ _ hw (fun hw => ?_) (fun hw => ?_)
    · refine pm_steps 7 ?_
      refine @pm_wc _ _ _ hw (fun hw => ?_)
      refine pm_steps 1 ?_
      refine @pm_wc _ _ _ hw (fun hw => ?_)
      refine pm_steps 2 ?_
      exact pm_fg (wl_X7_keepBells_2_ok hK25 n _ _ hw) ⟨rfl, ⟨rfl, trivial⟩⟩
    · exact pm_fg (hK25  _ hw) trivial
set_option maxRecDepth 16384 in
def wp_X7_keepBells  (h : pm_H) (Q : pm_H → Prop) : Prop := ∃ n645, wl_X7_keepBells_2 (fun  h644 => Q h644) Q n645 0 h
set_option maxRecDepth 16384 in
theorem wp_X7_keepBells_mono  {h : pm_H} {Q Q' : pm_H → Prop} (hQ : ∀ h, Q h → Q' h) : wp_X7_keepBells  h Q → wp_X7_keepBells  h Q' := by unfold wp_X7_keepBells; exact (fun z => Exists.elim z (fun n645 z => ⟨n645, wl_X7_keepBells_2_mono (fun  _ => (hQ _)) hQ n645 _ _ z⟩))
set_option maxRecDepth 16384 in
theorem wp_X7_keepBells_ok {d : Nat}  {h : pm_H} {Q : Option Value → pm_H → Prop} (hw : wp_X7_keepBells  h (fun h => Q none h)) : pm_R (d + 0) mt_X7_keepBells 0 [some (.ref 66), none] [] h Q := by
  unfold wp_X7_keepBells at hw
  refine pm_steps 2 ?_
  obtain ⟨n645, hw⟩ := hw
  refine pm_fg (wl_X7_keepBells_2_ok ?_ n645 _ _ hw) ⟨rfl, ⟨rfl, trivial⟩⟩
  · intro  h644 hw
    exact pm_steps 1 hw
/-! StairLinesModel.bellsAgain()V -/
set_option maxRecDepth 16384 in
def wl_X7_bellsAgain_2  (K25 : pm_H → Prop) (Q : pm_H → Prop) : Nat → Int32 → pm_H → Prop
  | 0, _, _ => False
  | n + 1, l1, h => pm_lt l1 5 (pm_ib (pm_in l1 5) (pm_ib (pm_in l1 5) (wl_X7_bellsAgain_2 K25 Q n (pm_op (l1 + 1)) (pm_u h 72 l1.toNatClampNeg (h 83 l1.toNatClampNeg))))) (K25  h)
set_option maxRecDepth 16384 in
theorem wl_X7_bellsAgain_2_mono  {K25 K25' : pm_H → Prop}  {Q Q' : pm_H → Prop}  (mK25 : ∀  h, K25  h → K25'  h) (hQ : ∀ h, Q h → Q' h) : ∀ (n : Nat) (l1 : Int32) (h : pm_H), wl_X7_bellsAgain_2 K25 Q n l1 h → wl_X7_bellsAgain_2 K25' Q' n l1 h
  | 0, _, _ => id
  | n + 1, l1, h => by unfold wl_X7_bellsAgain_2; exact (@pm_lt_mono _ _ _ _ _ _ (@pm_ib_mono _ _ _ (@pm_ib_mono _ _ _ (wl_X7_bellsAgain_2_mono mK25 hQ n _ _))) (mK25  _))
set_option maxRecDepth 16384 in
theorem wl_X7_bellsAgain_2_ok {d : Nat}  {K25 : pm_H → Prop} {Q : Option Value → pm_H → Prop} (hK25 : ∀  (h : pm_H), K25  h → pm_R (d + 0) mt_X7_bellsAgain 25 [none, none] [] h Q) : ∀ (n : Nat) (l1 : Int32) (h : pm_H), wl_X7_bellsAgain_2 K25 (fun h => Q none h) n l1 h → pm_R (d + 0) mt_X7_bellsAgain 2 [some (.ref 66), some (.int l1)] [] h Q
  | 0, _, _ => fun hw => hw.elim
  | n + 1, l1, h => fun hw => by
    unfold wl_X7_bellsAgain_2 at hw
    refine pm_steps 3 ?_
    refine @pm_wl _ _ _ _ _ _ hw (fun hw => ?_) (fun hw => ?_)
    · refine pm_steps 7 ?_
      refine @pm_wc _ _ _ hw (fun hw => ?_)
      refine pm_steps 1 ?_
      refine @pm_wc _ _ _ hw (fun hw => ?_)
      refine pm_steps 2 ?_
      exact pm_fg (wl_X7_bellsAgain_2_ok hK25 n _ _ hw) ⟨rfl, ⟨rfl, trivial⟩⟩
    · exact pm_fg (hK25  _ hw) trivial
set_option maxRecDepth 16384 in
def wp_X7_bellsAgain  (h : pm_H) (Q : pm_H → Prop) : Prop := ∃ n647, wl_X7_bellsAgain_2 (fun  h646 => Q h646) Q n647 0 h
set_option maxRecDepth 16384 in
theorem wp_X7_bellsAgain_mono  {h : pm_H} {Q Q' : pm_H → Prop} (hQ : ∀ h, Q h → Q' h) : wp_X7_bellsAgain  h Q → wp_X7_bellsAgain  h Q' := by unfold wp_X7_bellsAgain; exact (fun z => Exists.elim z (fun n647 z => ⟨n647, wl_X7_bellsAgain_2_mono (fun  _ => (hQ _)) hQ n647 _ _ z⟩))
set_option maxRecDepth 16384 in
theorem wp_X7_bellsAgain_ok {d : Nat}  {h : pm_H} {Q : Option Value → pm_H → Prop} (hw : wp_X7_bellsAgain  h (fun h => Q none h)) : pm_R (d + 0) mt_X7_bellsAgain 0 [some (.ref 66), none] [] h Q := by
  unfold wp_X7_bellsAgain at hw
  refine pm_steps 2 ?_
  obtain ⟨n647, hw⟩ := hw
  refine pm_fg (wl_X7_bellsAgain_2_ok ?_ n647 _ _ hw) ⟨rfl, ⟨rfl, trivial⟩⟩
  · intro  h646 hw
    exact pm_steps 1 hw
