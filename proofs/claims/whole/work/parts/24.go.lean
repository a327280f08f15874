/-! the walk of n + 1 steps out of that of n -/
theorem pm_Kpre {σ : Nat → Nat} {D : va_G} {cI cT cS : ClassId} {N : Nat} {s U : State} {H : Heap} {locs : List Loc} {h : pm_H} {as : List Value} (hG : pm_G σ (pm_A σ N s.heap.size) s s.heap) (hS : va_S (pm_A σ N s.heap.size) s.heap H locs) (hK : va_K D vwCl (pm_tys cI cT cS) s) (hP : va_P D vwCl (pm_ws σ cI cT cS N h) H) (hU : U.heap = H) (hW : s.WarmedH U.vm) : pm_Pc D cI cT cS σ N H.size as h (as.map (pm_ev σ)).toArray U := by
  refine ⟨rfl, by rw [hU], by rw [hU]; exact hP, va_K.moved hW.alike hK, ?_⟩
  rw [hU]
  exact ((hG.kept hS.2.1).narrow (fun q hq => pm_A_le hS.1 hq)).warm hW
theorem pm_ret_map {σ : Nat → Nat} (v : Option Value) (r : List Value) : (v.map (pm_ev σ)).toList ++ r.map (pm_ev σ) = (v.toList ++ r).map (pm_ev σ) := by
  cases v <;> simp
set_option maxHeartbeats 4000000 in
set_option maxRecDepth 20000 in
theorem pm_go_succ {l : Launch} {D : va_G} {cI cT cS : ClassId} {σ : Nat → Nat} {N n : Nat} (hj : ∀ i j, i < N → j < N → σ i = σ j → i = j) (hG : pm_Go l D cI cT cS σ N n) : pm_Go l D cI cT cS σ N (n + 1) := by
  intro d M pc L st h Q hR p e R s m args below meth c y cc ret Cx hRf hRl cells slots hcl hsl ls H locs hL hP hS
  unfold pm_Rn at hR
  cases hlk : pm_look M.2.2.2 pc with
  | none => rw [hlk] at hR; exact hR.elim
  | some i =>
    rw [hlk] at hR
    obtain ⟨hx, hb, hret, hml, hts, hown, hlocks, hK, hA, hI, hN, hGs, hD⟩ := id Cx
    refine pm_ins_sd (QQ := MQ below (pm_Qc D cI cT cS σ N (pm_A σ N s.heap.size) Q) args s cells slots (pm_A σ N s.heap.size)) Cx (by omega) (by omega) hcl hsl hlk hR hL hP hS ?_ ?_ ?_ ?_ ?_ ?_
    · intro pc' L' st' h' ls' H' locs' hk hL' hP' hS'
      exact hG d M pc' L' st' h' Q hk p e R s m args below meth c y cc ret Cx hRf hRl cells slots hcl hsl ls' H' locs' hL' hP' hS'
    · intro idx M' k as b r hi hok hst hlen hat hc1 hr1 hr8 hkk
      cases d with
      | zero => exact hkk.elim
      | succ d' =>
        obtain ⟨hle, hkk⟩ := pm_ib_ok hkk
        obtain ⟨y', cc', ret', hI', w1, w2, w3, w4, w5, w6⟩ := hok
        obtain ⟨hob, htag⟩ := pm_at_ok hat
        obtain ⟨T, NN, hvw⟩ := pm_vw M'.1 w5
        have hbd : pm_bd M'.1 ≤ N := Nat.le_trans w6 hN
        have hM := pm_met hj hG (as := .ref b :: as) hI' hc1 (Nat.le_of_ble_eq_true hle) hbd hkk H.size
        have he : (pm_ws σ cI cT cS N h)[b]? = some (σ b, .inr (M'.1, (List.range NN).map (pm_fw σ h M'.1 b))) := by
          rw [pm_ws_get (Nat.lt_of_lt_of_le hob hN), pm_ce_obj htag hvw]
        subst hi
        have hcw := cwV (R := R) (own := pm_cn M.1) (index := idx) (C := y'.cls) (y := y') (bytes := cc') (maxL := M'.2.1) (ret := ret') (rm := pm_rm d') (mc := 0) (ms := 0) k hts (pm_good (ws := wsV (pm_cn M.1) idx y'.cls y' (pm_W0 M' y' cc' ret')) (fun w hw => by
          rcases List.mem_append.mp hw with hw | hw
          · simp only [List.mem_cons, List.not_mem_nil, or_false] at hw
            rcases hw with rfl | rfl | rfl | rfl
            · exact w1
            · exact w2
            · exact w3
            · exact hI'.2.2.2.1
          · rcases List.mem_cons.mp hw with rfl | hw
            · exact hI'.2.2.1
            · exact hw)) rfl rfl rfl ⟨rfl, hI'.2.1.2.2.1, hI'.2.1.2.2.2, w4⟩ ⟨by simp only [pm_rm]; omega, by have := hI'.2.2.2.2.2; simp only [pm_rm]; omega⟩
        have hrun := va_runV (l := l) (e := e) (below := below) (meth := meth) (locs := locs) (cells := cells) (slots := slots) (As := as.map (pm_ev σ)) (rest := r.map (pm_ev σ)) (b := σ b) (g := F0 m pc ls (st.map (pm_ev σ))) ⟨hx, hb, hml, hown, hts⟩ hM hcw ⟨pm_blind, by
            have := va_recv hK hP hvw he
            rw [hI'.2.1.2.1]
            exact this, fun U hU hW => pm_Kpre (as := .ref b :: as) hGs hS hK hP hU hW⟩ rfl (by simp [hlen]) hL.1 (by rw [hst]; simp [pm_ev]) (lv_room (by rw [pm_c1_sum hr1]; exact hr8)) (pm_de hI hlk rfl) ⟨hcl, hsl⟩
        refine pm_cont hrun hS (fun q hq => pm_A_le hS.1 hq) (fun v h' H1 locs1 hq hP1 hS1 => ?_)
        rw [pm_ret_map]
        exact hG (d' + 1) M (pc + 3) L (v.toList ++ r) h' Q hq p e R s m args below meth c y cc ret Cx hRf hRl cells slots hcl hsl ls H1 locs1 hL hP1 hS1
    · intro idx M' k as r hi hok hst hlen hc1 hr1 hr8 hkk
      cases d with
      | zero => exact hkk.elim
      | succ d' =>
        obtain ⟨hle, hkk⟩ := pm_ib_ok hkk
        obtain ⟨y', cc', ret', hI', w1, w2, w4, w6⟩ := hok
        have hbd : pm_bd M'.1 ≤ N := Nat.le_trans w6 hN
        have hM := pm_met hj hG (as := as) hI' hc1 (Nat.le_of_ble_eq_true hle) hbd hkk H.size
        subst hi
        have hcw := va_cwS (R := R) (own := pm_cn M.1) (index := idx) (y := y') (bytes := cc') (maxL := M'.2.1) (ret := ret') (rm := pm_rm d') (mc := 0) (ms := 0) k hts (pm_good (ws := va_wsS (pm_cn M.1) idx y' (pm_W0 M' y' cc' ret')) (fun w hw => by
          rcases List.mem_append.mp hw with hw | hw
          · simp only [List.mem_cons, List.not_mem_nil, or_false] at hw
            rcases hw with rfl | rfl | rfl
            · exact w1
            · exact w2
            · exact hI'.2.2.2.1
          · rcases List.mem_cons.mp hw with rfl | hw
            · exact hI'.2.2.1
            · exact hw)) rfl rfl rfl ⟨hI'.2.1.2.2.1, hI'.2.1.2.2.2, w4⟩ ⟨by simp only [pm_rm]; omega, by have := hI'.2.2.2.2.2; simp only [pm_rm]; omega⟩
        have hrun := va_runS (l := l) (e := e) (below := below) (meth := meth) (locs := locs) (cells := cells) (slots := slots) (As := as.map (pm_ev σ)) (rest := r.map (pm_ev σ)) (g := F0 m pc ls (st.map (pm_ev σ))) ⟨hx, hb, hml, hown, hts⟩ hM hcw ⟨pm_blind, fun U hU hW => pm_Kpre (as := as) hGs hS hK hP hU hW⟩ rfl (by simp [hlen]) hL.1 (by rw [hst]; simp) (lv_room (by rw [pm_c1_sum hr1]; exact hr8)) (pm_de hI hlk rfl) ⟨hcl, hsl⟩
        refine pm_cont hrun hS (fun q hq => pm_A_le hS.1 hq) (fun v h' H1 locs1 hq hP1 hS1 => ?_)
        rw [pm_ret_map]
        exact hG (d' + 1) M (pc + 3) L (v.toList ++ r) h' Q hq p e R s m args below meth c y cc ret Cx hRf hRl cells slots hcl hsl ls H1 locs1 hL hP1 hS1
    · intro idx b r hi hlink hst hsb hr1 hr8 hk
      exact pm_k5 Cx (by omega) (by omega) hcl hsl hi hlk hlink hst hsb hr1 hr8 hL hS hk
    · intro idx b j r hi hlink hst hsb hin hr1 hr8 hk
      exact pm_k6 Cx (by omega) (by omega) hcl hsl hi hlk hlink hst hsb hin hr1 hr8 hL hS hk
    · intro v hq hz
      have hend : ∀ t : State, t.heap = H → s.WarmedH t.vm → pm_Qc D cI cT cS σ N (pm_A σ N s.heap.size) Q args s (.returned (v.map (pm_ev σ))) t := fun t ht hW => ⟨v, h, hq, rfl, by rw [ht]; exact hP, va_K.moved hW.alike hK, hS.F ht⟩
      have hrt := hI.2.2.2.2.1
      rcases hz with ⟨hi, x, rfl, rfl, hk⟩ | ⟨hi, x, rfl, rfl, hk⟩ | ⟨hi, rfl, rfl, hk⟩
      · subst hi
        rcases hk with hk | ⟨hk, hbx⟩
        · rw [hk] at hrt
          exact W.iret hx hb (hret.trans hrt) hend hS.2.2 (pm_de hI hlk rfl) hlocks
        · rw [hk] at hrt
          exact W.zret hx hb (hret.trans hrt) (pm_b01_ok hbx).1 hend hS.2.2 (pm_de hI hlk rfl) hlocks
      · subst hi
        rw [hk] at hrt
        obtain ⟨nm, hrt⟩ := hrt
        exact W.aret hx hb (hret.trans hrt) (Or.inl ⟨nm, rfl⟩) (Or.inr ⟨_, rfl⟩) hend hS.2.2 (pm_de hI hlk rfl) hlocks
      · subst hi
        rw [hk] at hrt
        exact W.vret hx hb (hret.trans hrt) hend hS.2.2 (pm_de hI hlk rfl) hlocks
theorem pm_go_all {l : Launch} {D : va_G} {cI cT cS : ClassId} {σ : Nat → Nat} {N : Nat} (hj : ∀ i j, i < N → j < N → σ i = σ j → i = j) : ∀ n, pm_Go l D cI cT cS σ N n
  | 0 => fun _ _ _ _ _ _ _ h => h.elim
  | n + 1 => pm_go_succ hj (pm_go_all hj n)
