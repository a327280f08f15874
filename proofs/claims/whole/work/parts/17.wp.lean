/-! StairLines$Reader.readOne(I)V -/
set_option maxRecDepth 16384 in
def wp_X0_readOne (c_readOne : Int32 → pm_H → (pm_H → Prop) → Prop) (c_readEither : Int32 → pm_H → (pm_H → Prop) → Prop) (l1 : Int32) (h : pm_H) (Q : pm_H → Prop) : Prop := pm_eq (h 34 4) 2 (pm_ob (pm_dec (h 34 2)) (fun t903 => pm_ib (pm_at 0 t903 4) (wp_X4_add t903 (h 34 6) h (fun h904 => wp_X0_advance  h904 (fun h905 => Q h905))))) (pm_eq (h 34 4) 3 (pm_ob (pm_dec (h 34 2)) (fun t906 => pm_ib (pm_at 0 t906 4) (wp_X4_add t906 (pm_op ((-1) - (h 34 6))) h (fun h907 => wp_X0_advance  h907 (fun h908 => Q h908))))) (pm_eq (h 34 4) 45 (pm_lt l1 5 (wp_X0_advance  h (fun h909 => c_readOne (pm_op (l1 + 1)) h909 (fun h910 => pm_ob (pm_dec (h910 34 2)) (fun t911 => pm_ib (pm_at 0 t911 4) (wp_X4_add t911 (-11) h910 (fun h912 => Q h912)))))) (pm_eq (h 34 4) 40 (pm_lt l1 5 (wp_X0_advance  h (fun h913 => c_readEither (pm_op (l1 + 1)) h913 (fun h914 => wp_X0_accept 41 h914 (fun h915 => Q h915)))) (wp_X0_refuse  h (fun h916 => Q h916))) (wp_X0_refuse  h (fun h917 => Q h917)))) (pm_eq (h 34 4) 40 (pm_lt l1 5 (wp_X0_advance  h (fun h918 => c_readEither (pm_op (l1 + 1)) h918 (fun h919 => wp_X0_accept 41 h919 (fun h920 => Q h920)))) (wp_X0_refuse  h (fun h921 => Q h921))) (wp_X0_refuse  h (fun h922 => Q h922)))))
set_option maxRecDepth 16384 in
theorem wp_X0_readOne_mono {c_readOne : Int32 → pm_H → (pm_H → Prop) → Prop} {c_readEither : Int32 → pm_H → (pm_H → Prop) → Prop} {l1 : Int32} {h : pm_H} {Q Q' : pm_H → Prop} (mc_readOne : ∀ (a0 : Int32) (h : pm_H) (Q Q' : pm_H → Prop), (∀ h, Q h → Q' h) → c_readOne a0 h Q → c_readOne a0 h Q') (mc_readEither : ∀ (a0 : Int32) (h : pm_H) (Q Q' : pm_H → Prop), (∀ h, Q h → Q' h) → c_readEither a0 h Q → c_readEither a0 h Q') (hQ : ∀ h, Q h → Q' h) : wp_X0_readOne c_readOne c_readEither l1 h Q → wp_X0_readOne c_readOne c_readEither l1 h Q' := by unfold wp_X0_readOne; exact (@pm_eq_mono _ _ _ _ _ _ (@pm_ob_mono _ _ _ (fun _ => (@pm_ib_mono _ _ _ (@wp_X4_add_mono _ _ _ _ _ (fun _ => (@wp_X0_advance_mono _ _ _ (fun _ => (hQ _)))))))) (@pm_eq_mono _ _ _ _ _ _ (@pm_ob_mono _ _ _ (fun _ => (@pm_ib_mono _ _ _ (@wp_X4_add_mono _ _ _ _ _ (fun _ => (@wp_X0_advance_mono _ _ _ (fun _ => (hQ _)))))))) (@pm_eq_mono _ _ _ _ _ _ (@pm_lt_mono _ _ _ _ _ _ (@wp_X0_advance_mono _ _ _ (fun _ => (mc_readOne _ _ _ _ (fun _ => (@pm_ob_mono _ _ _ (fun _ => (@pm_ib_mono _ _ _ (@wp_X4_add_mono _ _ _ _ _ (fun _ => (hQ _)))))))))) (@pm_eq_mono _ _ _ _ _ _ (@pm_lt_mono _ _ _ _ _ _ (@wp_X0_advance_mono _ _ _ (fun _ => (mc_readEither _ _ _ _ (fun _ => (@wp_X0_accept_mono _ _ _ _ (fun _ => (hQ _))))))) (@wp_X0_refuse_mono _ _ _ (fun _ => (hQ _)))) (@wp_X0_refuse_mono _ _ _ (fun _ => (hQ _))))) (@pm_eq_mono _ _ _ _ _ _ (@pm_lt_mono _ _ _ _ _ _ (@wp_X0_advance_mono _ _ _ (fun _ => (mc_readEither _ _ _ _ (fun _ => (@wp_X0_accept_mono _ _ _ _ (fun _ => (hQ _))))))) (@wp_X0_refuse_mono _ _ _ (fun _ => (hQ _)))) (@wp_X0_refuse_mono _ _ _ (fun _ => (hQ _)))))))
set_option maxRecDepth 16384 in
theorem wp_X0_readOne_ok {d : Nat} {c_readOne : Int32 → pm_H → (pm_H → Prop) → Prop} {c_readEither : Int32 → pm_H → (pm_H → Prop) → Prop} {l1 : Int32} {h : pm_H} {Q : Option Value → pm_H → Prop} (oc_readOne : ∀ (a0 : Int32) (h : pm_H) (Q : Option Value → pm_H → Prop), c_readOne a0 h (fun h => Q none h) → pm_R (d + 3) mt_X0_readOne 0 [some (.ref 34), some (.int a0)] [] h Q) (oc_readEither : ∀ (a0 : Int32) (h : pm_H) (Q : Option Value → pm_H → Prop), c_readEither a0 h (fun h => Q none h) → pm_R (d + 3) mt_X0_readEither 0 [some (.ref 34), some (.int a0), none] [] h Q) (mc_readOne : ∀ (a0 : Int32) (h : pm_H) (Q Q' : pm_H → Prop), (∀ h, Q h → Q' h) → c_readOne a0 h Q → c_readOne a0 h Q') (mc_readEither : ∀ (a0 : Int32) (h : pm_H) (Q Q' : pm_H → Prop), (∀ h, Q h → Q' h) → c_readEither a0 h Q → c_readEither a0 h Q') (hw : wp_X0_readOne c_readOne c_readEither l1 h (fun h => Q none h)) : pm_R (d + 4) mt_X0_readOne 0 [some (.ref 34), some (.int l1)] [] h Q := by
  unfold wp_X0_readOne at hw
  refine pm_steps 4 ?_
  refine @pm_we _ _ _ _ _ _ hw (fun hw => ?_) (fun hw => ?_)
  · refine pm_steps 2 ?_
    refine @pm_wo _ _ _ hw (fun t903 hw => ?_)
    refine pm_steps 3 ?_
    refine @pm_wc _ _ _ hw (fun hw => ?_)
    refine @wp_X4_add_ok _ _ _ _ _ (@wp_X4_add_mono _ _ _ _ _ (fun h904 hw => ?_) hw)
    refine pm_steps 2 ?_
    refine @wp_X0_advance_ok _ _ _ (@wp_X0_advance_mono _ _ _ (fun h905 hw => ?_) hw)
    exact pm_steps 2 hw
  · refine pm_steps 4 ?_
    refine @pm_we _ _ _ _ _ _ hw (fun hw => ?_) (fun hw => ?_)
    · refine pm_steps 2 ?_
      refine @pm_wo _ _ _ hw (fun t906 hw => ?_)
      refine pm_steps 5 ?_
      refine @pm_wc _ _ _ hw (fun hw => ?_)
      refine @wp_X4_add_ok _ _ _ _ _ (@wp_X4_add_mono _ _ _ _ _ (fun h907 hw => ?_) hw)
      refine pm_steps 2 ?_
      refine @wp_X0_advance_ok _ _ _ (@wp_X0_advance_mono _ _ _ (fun h908 hw => ?_) hw)
      exact pm_steps 2 hw
    · refine pm_steps 4 ?_
      refine @pm_we _ _ _ _ _ _ hw (fun hw => ?_) (fun hw => ?_)
      · refine pm_steps 3 ?_
        refine @pm_wl _ _ _ _ _ _ hw (fun hw => ?_) (fun hw => ?_)
        · refine pm_steps 2 ?_
          refine @wp_X0_advance_ok _ _ _ (@wp_X0_advance_mono _ _ _ (fun h909 hw => ?_) hw)
          refine pm_steps 5 ?_
          refine oc_readOne _ _ _ (mc_readOne _ _ _ _ (fun h910 hw => ?_) hw)
          refine pm_steps 2 ?_
          refine @pm_wo _ _ _ hw (fun t911 hw => ?_)
          refine pm_steps 2 ?_
          refine @pm_wc _ _ _ hw (fun hw => ?_)
          refine @wp_X4_add_ok _ _ _ _ _ (@wp_X4_add_mono _ _ _ _ _ (fun h912 hw => ?_) hw)
          exact pm_steps 2 hw
        · refine pm_steps 4 ?_
          refine @pm_we _ _ _ _ _ _ hw (fun hw => ?_) (fun hw => ?_)
          · refine pm_steps 3 ?_
            refine @pm_wl _ _ _ _ _ _ hw (fun hw => ?_) (fun hw => ?_)
            · refine pm_steps 2 ?_
              refine @wp_X0_advance_ok _ _ _ (@wp_X0_advance_mono _ _ _ (fun h913 hw => ?_) hw)
              refine pm_steps 5 ?_
              refine oc_readEither _ _ _ (mc_readEither _ _ _ _ (fun h914 hw => ?_) hw)
              refine pm_steps 3 ?_
              refine @wp_X0_accept_ok _ _ _ _ (@wp_X0_accept_mono _ _ _ _ (fun h915 hw => ?_) hw)
              exact pm_steps 2 hw
            · refine pm_steps 2 ?_
              refine @wp_X0_refuse_ok _ _ _ (@wp_X0_refuse_mono _ _ _ (fun h916 hw => ?_) hw)
              exact pm_steps 1 hw
          · refine pm_steps 2 ?_
            refine @wp_X0_refuse_ok _ _ _ (@wp_X0_refuse_mono _ _ _ (fun h917 hw => ?_) hw)
            exact pm_steps 1 hw
      · refine pm_steps 4 ?_
        refine @pm_we _ _ _ _ _ _ hw (fun hw => ?_) (fun hw => ?_)
        · refine pm_steps 3 ?_
          refine @pm_wl _ _ _ _ _ _ hw (fun hw => ?_) (fun hw => ?_)
          · refine pm_steps 2 ?_
            refine @wp_X0_advance_ok _ _ _ (@wp_X0_advance_mono _ _ _ (fun h918 hw => ?_) hw)
            refine pm_steps 5 ?_
            refine oc_readEither _ _ _ (mc_readEither _ _ _ _ (fun h919 hw => ?_) hw)
            refine pm_steps 3 ?_
            refine @wp_X0_accept_ok _ _ _ _ (@wp_X0_accept_mono _ _ _ _ (fun h920 hw => ?_) hw)
            exact pm_steps 2 hw
          · refine pm_steps 2 ?_
            refine @wp_X0_refuse_ok _ _ _ (@wp_X0_refuse_mono _ _ _ (fun h921 hw => ?_) hw)
            exact pm_steps 1 hw
        · refine pm_steps 2 ?_
          refine @wp_X0_refuse_ok _ _ _ (@wp_X0_refuse_mono _ _ _ (fun h922 hw => ?_) hw)
          exact pm_steps 1 hw
