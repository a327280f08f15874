/-! THE LAW, from its entry -/
theorem cs_m : ∀ q ∈ [(RX0, 8), (RX1, 2), (RX2, 3), (RX3, 12), (RX4, 3), (RX5, 9), (RX6, 10), (RX7, 46)], Cond.instantiable q.1 q.2 ∈ pm_w := by decide +kernel
theorem cs_a : Cond.arrayOver (.object "StairLines$Text") ∈ lw_tbl ∧ Cond.arrayOver (.object "StairLines$Sheet") ∈ lw_tbl ∧ Cond.methodLinkNest RX5 27 yX1_init RX6 ∈ lw_tbl ∧ Cond.methodLinkNest RX6 21 yX5_init RX6 ∈ lw_tbl ∧ Cond.methodLinkNest RX6 28 yX0_init RX6 ∈ lw_tbl ∧ Cond.methodLinkNest RX6 52 yX4_init RX6 ∈ lw_tbl ∧ Cond.methodLinkNest RX6 53 yX2_init RX6 ∈ lw_tbl := by decide +kernel
theorem cs_o {C : String} {s : State} (h : va_AO C s) : ∃ cA : ClassId, ArrOfT s cA (.object C) ∧ va_RA s cA (.object C) := by
  obtain ⟨comp, cA, kA, h1, h2, h3, h4, h5⟩ := Cond.arrayOver_spec h
  exact ⟨cA, fun N z => ⟨(fun k h => by cases h), kA, h3, comp, h4⟩, kA, comp, h3, h4, h1, h5⟩
theorem cs_i {args : Array Value} {s : State} (h : (Cond.arrayClass .int).before args s = true) : ∃ cA : ClassId, ArrOfT s cA .int ∧ va_RA s cA .int := by
  obtain ⟨cA, kA, comp, h1, h2, h3⟩ := Cond.arrayClass_spec h
  exact ⟨cA, fun N z => ⟨(fun k h => by cases h), kA, h2, comp, h3⟩, h1⟩
theorem cs_K {args : Array Value} {s : State} (hw : ∀ w ∈ pm_w, w.before args s = true) (h4 : va_AO "StairLines$Text" s) (h2 : va_AO "StairLines$Sheet" s) : ∃ (D : va_G) (cI cT cS : ClassId), va_K D vwCl (pm_tys cI cT cS) s := by
  obtain ⟨cI, i1, i2⟩ := cs_i (hw _ cw_ca)
  obtain ⟨cT, t1, t2⟩ := cs_o h4
  obtain ⟨cS, s1, s2⟩ := cs_o h2
  obtain ⟨d0, e0, k0⟩ := u_known (C := RX0) (T := TX0) (N := 8) (n := 8) hw pm_uw0 (hw _ (cs_m (RX0, 8) (by simp)))
  obtain ⟨d1, e1, k1⟩ := u_known (C := RX1) (T := TX1) (N := 2) (n := 2) hw pm_uw1 (hw _ (cs_m (RX1, 2) (by simp)))
  obtain ⟨d2, e2, k2⟩ := u_known (C := RX2) (T := TX2) (N := 3) (n := 3) hw pm_uw2 (hw _ (cs_m (RX2, 3) (by simp)))
  obtain ⟨d3, e3, k3⟩ := u_known (C := RX3) (T := TX3) (N := 12) (n := 12) hw pm_uw3 (hw _ (cs_m (RX3, 12) (by simp)))
  obtain ⟨d4, e4, k4⟩ := u_known (C := RX4) (T := TX4) (N := 3) (n := 3) hw pm_uw4 (hw _ (cs_m (RX4, 3) (by simp)))
  obtain ⟨d5, e5, k5⟩ := u_known (C := RX5) (T := TX5) (N := 9) (n := 9) hw pm_uw5 (hw _ (cs_m (RX5, 9) (by simp)))
  obtain ⟨d6, e6, k6⟩ := u_known (C := RX6) (T := TX6) (N := 10) (n := 10) hw pm_uw6 (hw _ (cs_m (RX6, 10) (by simp)))
  obtain ⟨d7, e7, k7⟩ := u_known (C := RX7) (T := TX7) (N := 46) (n := 46) hw pm_uw7 (hw _ (cs_m (RX7, 46) (by simp)))
  refine ⟨(fun k => [d0, d1, d2, d3, d4, d5, d6, d7].getD k d0, fun k => [e0, e1, e2, e3, e4, e5, e6, e7].getD k e0), cI, cT, cS, ?_, ?_⟩
  · intro k q hq
    match k, hq with
    | 0, hq => cases hq; exact k0
    | 1, hq => cases hq; exact k1
    | 2, hq => cases hq; exact k2
    | 3, hq => cases hq; exact k3
    | 4, hq => cases hq; exact k4
    | 5, hq => cases hq; exact k5
    | 6, hq => cases hq; exact k6
    | 7, hq => cases hq; exact k7
    | k + 8, hq => simp [vwCl] at hq
  · intro k q hq
    match k, hq with
    | 0, hq => cases hq; exact ⟨i1, i2⟩
    | 1, hq => cases hq; exact ⟨t1, t2⟩
    | 2, hq => cases hq; exact ⟨s1, s2⟩
    | k + 3, hq => simp [pm_tys] at hq
set_option maxHeartbeats 8000000 in
set_option maxRecDepth 100000 in
theorem whole_start {p : Program} {e : Env} {s : State} {m : MethodId} {below : List Frame} {meth : Method} {c : Code} (l : Launch) (hflags : l.flags = flags0) {b L : Nat} {xs : Nat → Int32} (hL : L ≤ 384) (C0 : lw_At p s m meth c b L xs) : W p l e room_1 s m #[Value.ref b] below meth c s.heap [] 0 0 (lw_Z below #[Value.ref b] s) (entryFrame m ([Value.ref b] : List Value).toArray 4) := by
  obtain ⟨hx, hb, hr, hml, hown, hts, hX, hbl, hlocks, hgv⟩ := id C0
  have hw : ∀ w ∈ pm_w, w.before #[Value.ref b] s = true := fun w h => hts w (List.mem_filter.mp h).1
  obtain ⟨a1, a2, n1, n2, n3, n4, n5⟩ := cs_a
  have hao4 : va_AO "StairLines$Text" s := va_AO.of (hts _ a1)
  have hao2 : va_AO "StairLines$Sheet" s := va_AO.of (hts _ a2)
  have hn51 : va_Nw (.methodLinkNest RX5 27 yX1_init RX6) s := va_Nw.of rfl (hts _ n1)
  have hn65 : va_Nw (.methodLinkNest RX6 21 yX5_init RX6) s := va_Nw.of rfl (hts _ n2)
  have hn60 : va_Nw (.methodLinkNest RX6 28 yX0_init RX6) s := va_Nw.of rfl (hts _ n3)
  have hn64 : va_Nw (.methodLinkNest RX6 52 yX4_init RX6) s := va_Nw.of rfl (hts _ n4)
  have hn62 : va_Nw (.methodLinkNest RX6 53 yX2_init RX6) s := va_Nw.of rfl (hts _ n5)
  obtain ⟨D, cI, cT, cS, hK⟩ := cs_K hw hao4 hao2
  obtain ⟨τ, hG⟩ := cg_G (flat_of_before _ hgv) hts
  obtain ⟨l0, l1, l2, l3, c0, c1, c2, P⟩ := cPk_ex
  have hA : ∀ q : Nat, s.heap.size ≤ q → (fun q : Nat => s.heap.size ≤ q) q := fun _ h => h
  have hS : va_S (fun q : Nat => s.heap.size ≤ q) s.heap s.heap [] := va_S.rf
  have hP : va_P D vwCl [] s.heap := fun k q h => by simp at h
  have hD : va_D (fun q : Nat => s.heap.size ≤ q) [] := ⟨fun i j p q h => by simp at h, fun k q h => by simp at h⟩
  have hl := lv_entry ([.ref b]) (n := 4) (Nat.le_of_ble_eq_true rfl)
  rw [lg_entry_eq]
  generalize (lg_sl ([.ref b]) ++ List.replicate (4 - (lg_sl ([.ref b])).length) Slot.unset).toArray = ls at hl ⊢
  have hl : lv_has ls 4 [(0, .ref b)] := hl
  refine va_new (ci := 6) (fs := [.null, .null, .int 0, .null, .null, .null, .int 0, .null, .null, .null]) (C := RX6) (T := TX6) (N := 10) hx hb hw pm_uw6 tyX6 tyX6_ok hown (hw (.classLink R_law 7 RX6) (by decide +kernel)) (hw (.instantiable RX6 10) (by decide +kernel)) (hw (.initialized RX6) (by decide +kernel)) hK hP hD hS hA rfl (by decide +kernel) (Nat.le_of_ble_eq_true rfl) (Nat.le_of_ble_eq_true rfl) (by decide +kernel) (fun b6 H hP hD hS => ?_)
  have hP : va_P D vwCl [(b6, .inr (6, [.null, .null, .int 0, .null, .null, .null, .int 0, .null, .null, .null]))] H := hP
  have hD : va_D (fun q : Nat => s.heap.size ≤ q) [(b6, .inr (6, [.null, .null, .int 0, .null, .null, .null, .int 0, .null, .null, .null]))] := hD
  refine W.widen (k := 1) (n := 10) (Nat.le_refl _) (Nat.le_refl _) ?_
  refine lv_dup hx hb (by decide +kernel) rfl ?_
  have hFc := va_free (wc := [(b6, .inr (6, [.null, .null, .int 0, .null, .null, .null, .int 0, .null, .null, .null]))]) hD hS hA [0] rfl
  refine va_callv (va_runI (As := []) (rest := [.ref b6]) ⟨hx, hb, hml, hown, hw⟩ (c_X6 l D cI cT cS τ b6 H.size P) (cwI 0 hw gX6_init rfl rfl rfl (hw (.initialized RX6) (by decide +kernel)) (hw (.methodLink R_law 9 yX6_init) (by decide +kernel)) (hw (.instanceMethod yX6_init) (by decide +kernel)) rfl (by decide +kernel) ⟨Nat.le_of_ble_eq_true rfl, Nat.le_of_ble_eq_true rfl⟩)
    ⟨fun a U g mk q => by
      obtain ⟨q0, q1, qP, qK, qD, x1, x2, x3, x4, x5, o1, o2, qG⟩ := q
      exact ⟨q0, q1, qP, va_K.moved (u := U) (U := U.calling g mk a) (Vm.Alike.refl U.vm) qK, qD, va_Nw.same rfl rfl x1, va_Nw.same rfl rfl x2, va_Nw.same rfl rfl x3, va_Nw.same rfl rfl x4, va_Nw.same rfl rfl x5, va_AO.moved (u := U) (U := U.calling g mk a) (Vm.Alike.refl U.vm) o1, va_AO.moved (u := U) (U := U.calling g mk a) (Vm.Alike.refl U.vm) o2, pm_G.same (u := U) (U := U.calling g mk a) rfl qG⟩,
     fun U hU hW => ⟨rfl, by rw [hU], by rw [hU]; exact hP, va_K.moved hW.alike hK, hD.weaken (fun _ _ _ _ => trivial), va_Nw.warmM hW hn51, va_Nw.warmM hW hn65, va_Nw.warmM hW hn60, va_Nw.warmM hW hn64, va_Nw.warmM hW hn62, va_AO.moved hW.alike hao4, va_AO.moved hW.alike hao2, by rw [hU]; exact ((hG.kept hS.2.1).narrow hFc).warm hW⟩⟩ rfl rfl hl.1 rfl (lv_room (Nat.le_of_ble_eq_true rfl)) (show decode code 4 = .ok (.invokespecial 9, 3) from by decide +kernel) ⟨Nat.le_of_ble_eq_true rfl, Nat.le_of_ble_eq_true rfl⟩) hS (fun q _ h => hFc q h) hFc (fun a t H1 locs ht hvm ha hB hz1 hk1 hS => ?_)
  obtain ⟨⟨h1, K6, hP1⟩, hK1, hD1⟩ := hB
  rw [ht] at hP1
  subst ha
  have hD1 : va_D (fun q : Nat => s.heap.size ≤ q) (pm_ws (zσ a τ) cI cT cS 66 zM0) := hD1.weaken (fun _ _ _ h => hFc _ h)
  have hD : va_D (fun q : Nat => s.heap.size ≤ q) (pm_ws (zσ a τ) cI cT cS 66 h1) := va_D_by hD1 (by simp [pm_ws])
  clear hD1
  generalize H1 = H at hP1 hS ⊢
  refine W.widen (k := 66) (n := 1668) (Nat.le_refl _) (Nat.le_refl _) ?_
  refine lv_astore_n (k := 1) (i := 1) (x := a 0) (lv' := [(1, .ref (a 0)), (0, .ref b)]) hx hb (by decide +kernel) rfl hl (by decide) rfl (fun ls hl => ?_)
  have hP := hP1
  refine va_new (ci := 7) (fs := [.null, .null, .null, .int 0, .null, .null, .null, .null, .null, .int 0, .int 0, .int 0, .null, .int 0, .int 0, .null, .null, .int 0, .int 0, .int 0, .int 0, .int 0, .int 0, .null, .null, .null, .null, .int 0, .int 0, .int 0, .int 0, .null, .null, .null, .null, .int 0, .int 0, .int 0, .int 0, .int 0, .null, .null, .null, .null, .null, .null]) (C := RX7) (T := TX7) (N := 46) hx hb hw pm_uw7 tyX7 tyX7_ok hown (hw (.classLink R_law 10 RX7) (by decide +kernel)) (hw (.instantiable RX7 46) (by decide +kernel)) (hw (.initialized RX7) (by decide +kernel)) hK hP hD hS hA rfl (by decide +kernel) (Nat.le_of_ble_eq_true rfl) (Nat.le_of_ble_eq_true rfl) (by decide +kernel) (fun b7 H hP hD hS => ?_)
  have hP : va_P D vwCl (cz_X7 (zσ a τ) cI cT cS h1 b7) H := hP
  have hD : va_D (fun q : Nat => s.heap.size ≤ q) (cz_X7 (zσ a τ) cI cT cS h1 b7) := hD
  refine W.widen (k := 67) (n := 1714) (Nat.le_refl _) (Nat.le_refl _) ?_
  refine lv_dup hx hb (by decide +kernel) rfl ?_
  have hFc : ∀ q, va_A (cz_X7 (zσ a τ) cI cT cS h1 b7) H.size q → s.heap.size ≤ q := fun q h => by
    rcases h with ⟨k, x, hk⟩ | h
    · exact hD.2 k (q, x) hk
    · exact Nat.le_trans hS.1 h
  have hPl : va_P D vwCl (pm_ws (zσ a τ) cI cT cS 66 h1) H := fun k q hk => by
    have hk66 : k < 66 := by
      have := (List.getElem?_eq_some_iff.mp hk).1
      rwa [cz_Xlen] at this
    rw [pm_ws_get hk66] at hk
    cases hk
    exact hP k _ (cz_Xlt hk66)
  have hPr : va_P D vwCl [(b7, zM)] H := fun k q hk => by
    have hk1 : k < 1 := (List.getElem?_eq_some_iff.mp hk).1
    rw [show k = 0 by omega] at hk
    cases hk
    exact hP 66 _ cz_X66
  have h19 : h1 19 8 = 0 := by
    rw [K6.1 19 (by omega) (by omega) (by omega) (by omega) (by omega) (by omega)]; rfl
  have hGσ : pm_G (zσ a τ) (fun q : Nat => s.heap.size ≤ q) s s.heap := pm_G_cong (τ := τ) (zσ_ge (by omega)) (fun k => zσ_ge (by omega)) hG
  refine va_callv (va_runI (As := []) (rest := [.ref b7]) ⟨hx, hb, hml, hown, hw⟩ (c_X7 l D cI cT cS (zσ a τ) h1 b7 H.size P h19) (cwI 0 hw gX7_init rfl rfl rfl (hw (.initialized RX7) (by decide +kernel)) (hw (.methodLink R_law 12 yX7_init) (by decide +kernel)) (hw (.instanceMethod yX7_init) (by decide +kernel)) rfl (by decide +kernel) ⟨Nat.le_of_ble_eq_true rfl, Nat.le_of_ble_eq_true rfl⟩)
    ⟨fun a U g mk q => by
      obtain ⟨q0, q1, qX, qP, qK, qD, qG⟩ := q
      exact ⟨q0, q1, qX, qP, va_K.moved (u := U) (U := U.calling g mk a) (Vm.Alike.refl U.vm) qK, qD, pm_G.same (u := U) (U := U.calling g mk a) rfl qG⟩,
     fun U hU hW => ⟨rfl, by rw [hU], by rw [hU]; exact hPl, by rw [hU]; exact hPr, va_K.moved hW.alike hK, hD.weaken (fun _ _ _ _ => trivial), by rw [hU]; exact ((hGσ.kept hS.2.1).narrow hFc).warm hW⟩⟩ rfl rfl hl.1 rfl (lv_room (Nat.le_of_ble_eq_true rfl)) (show decode code 12 = .ok (.invokespecial 12, 3) from by decide +kernel) ⟨Nat.le_of_ble_eq_true rfl, Nat.le_of_ble_eq_true rfl⟩) hS (fun q _ h => hFc q h) hFc (fun a7 t H1 locs ht hvm ha7 hB hz1 hk1 hS => ?_)
  obtain ⟨⟨h2, K7, hP2⟩, hK2, hD2⟩ := hB
  rw [ht] at hP2
  subst ha7
  have hD2 : va_D (fun q : Nat => s.heap.size ≤ q) (pm_ws (zσ7 a7 (zσ a τ) (zσ a τ (h1 34 2).toNatClampNeg)) cI cT cS 92 (zM7 h1)) := hD2.weaken (fun _ _ _ h => hFc _ h)
  generalize hwe : zσ a τ (h1 34 2).toNatClampNeg = w at hP2 hD2
  have hσ : ∀ k, k < 92 → s.heap.size ≤ zσ7 a7 (zσ a τ) w k := fun k hk => hD2.2 k _ (pm_ws_get hk)
  have W0 : cl_W D cI cT cS (zσ7 a7 (zσ a τ) w) s := ⟨fun i j hi hj e => hD2.1 i j _ _ (pm_ws_get hi) (pm_ws_get hj) e, hσ, pm_G_cong (τ := zσ a τ) (zσ7_ge (by omega)) (fun k => zσ7_ge (by omega)) (hGσ.narrow (fun q h => by
    rcases h with ⟨k, hk, rfl⟩ | h
    · exact hσ k hk
    · exact h)), hK⟩
  refine W.widen (k := 600000) (n := 7302250) (Nat.le_of_ble_eq_true rfl) (Nat.le_of_ble_eq_true rfl) ?_
  refine lv_astore_n (k := 2) (i := 2) (x := a7 0) (lv' := [(2, .ref (a7 0)), (1, .ref (a 0)), (0, .ref b)]) hx hb (by decide +kernel) rfl hl (by decide) rfl (fun ls hl => ?_)
  refine lv_iconst hx hb (n := 0) (v := 0) (by decide +kernel) (by decide) ?_
  refine lv_istore_n (k := 3) (i := 3) (x := 0) (lv' := [(3, .int 0), (2, .ref (a7 0)), (1, .ref (a 0)), (0, .ref b)]) hx hb (by decide +kernel) rfl hl (by decide) rfl (fun ls hl => ?_)
  refine law_loop hL C0 W0 (L + 1) 0 (by omega) (Nat.zero_le L) h2 H1 locs ls (zRel_0 (cRR_wf P) K6 K7) hP2 (va_S_mono hS (fun q h => Or.inr h)) ?_
  have hl := lv_sub (l' := [(0, .ref b), (1, .ref (a 0)), (2, .ref (a7 0)), (3, .int 0)]) hl [3, 2, 1, 0] rfl
  exact hl
