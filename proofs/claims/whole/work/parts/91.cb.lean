/-! CONSTRUCTORS of the nested classes (written by wip/whole/ctor.py) -/
def zw3 (cI : ClassId) (a : Nat → Nat) : va_W := [((a 0), .inr (3, [.ref (a 1), .ref (a 2), .ref (a 3), .ref (a 4), .ref (a 5), .ref (a 6), .ref (a 7), .ref (a 8), .int 0, .int 0, .int 0, .int 0])), ((a 1), .inl (cI, 10, .inl (fun _ => 0))), ((a 2), .inl (cI, 10, .inl (fun j => if j < 10 then 2 else 0))), ((a 3), .inl (cI, 10, .inl (fun _ => 0))), ((a 4), .inl (cI, 5, .inl (fun _ => 0))), ((a 5), .inl (cI, 5, .inl (fun _ => 0))), ((a 6), .inl (cI, 5, .inl (fun _ => 0))), ((a 7), .inl (cI, 5, .inl (fun _ => 0))), ((a 8), .inl (cI, 5, .inl (fun _ => 0)))]
def zw4 (cI : ClassId) (a : Nat → Nat) : va_W := [((a 0), .inr (4, [.ref (a 1), .ref (a 2), .int 0])), ((a 1), .inl (cI, 160, .inl (fun _ => 0))), ((a 2), .inl (cI, 3, .inl (fun _ => 0)))]
def zw2 (cI : ClassId) (a : Nat → Nat) : va_W := [((a 0), .inr (2, [.ref (a 1), .int (-1), .int 0])), ((a 1), .inl (cI, 40, .inl (fun _ => 0)))]
def zw1 (cI : ClassId) (a : Nat → Nat) : va_W := [((a 0), .inr (1, [.ref (a 1), .ref (a 2)])), ((a 1), .inl (cI, 6, .inl (fun _ => 0))), ((a 2), .inl (cI, 64, .inl (fun _ => 0)))]
def zw0 (cI : ClassId) (a : Nat → Nat) : va_W := [((a 0), .inr (0, [.int 0, .ref (a 1), .null, .int 0, .int 0, .int 0, .int 0, .int 0])), ((a 1), .inl (cI, 160, .inl (fun _ => 0)))]
def zw5 (cI : ClassId) (a : Nat → Nat) : va_W := [((a 0), .inr (5, [.ref (a 1), .ref (a 10), .int 0, .int 0, .int 0, .int 0, .ref (a 11), .ref (a 12), .null])), ((a 1), .inr (3, [.ref (a 2), .ref (a 3), .ref (a 4), .ref (a 5), .ref (a 6), .ref (a 7), .ref (a 8), .ref (a 9), .int 0, .int 0, .int 0, .int 0])), ((a 2), .inl (cI, 10, .inl (fun _ => 0))), ((a 3), .inl (cI, 10, .inl (fun j => if j < 10 then 2 else 0))), ((a 4), .inl (cI, 10, .inl (fun _ => 0))), ((a 5), .inl (cI, 5, .inl (fun _ => 0))), ((a 6), .inl (cI, 5, .inl (fun _ => 0))), ((a 7), .inl (cI, 5, .inl (fun _ => 0))), ((a 8), .inl (cI, 5, .inl (fun _ => 0))), ((a 9), .inl (cI, 5, .inl (fun _ => 0))), ((a 10), .inl (cI, 10, .inl (fun _ => 0))), ((a 11), .inl (cI, 10, .inl (fun _ => 0))), ((a 12), .inr (1, [.ref (a 13), .ref (a 14)])), ((a 13), .inl (cI, 6, .inl (fun _ => 0))), ((a 14), .inl (cI, 64, .inl (fun _ => 0)))]
theorem g_fill : GoodIn pm_w (va_wsS RX3 36 yJ7_fill_53178 (Cond.code yJ7_fill_53178 cJ7_fill_53178 4 none :: pm_w)) := pm_good (fun w hw => by
  rcases List.mem_append.mp hw with hw | hw
  · simp only [List.mem_cons, List.not_mem_nil, or_false] at hw
    rcases hw with rfl | rfl | rfl
    · exact cw_fl
    · exact cw_fs
    · exact cw_fi
  · rcases List.mem_cons.mp hw with rfl | hw
    · exact cw_fc
    · exact hw)
theorem gX0_init : GoodIn pm_w (Cond.code yX0_init cX0_init 1 none :: pm_w) := pm_good (fun w hw => by
  rcases List.mem_cons.mp hw with rfl | hw
  · decide +kernel
  · exact hw)
set_option maxHeartbeats 4000000 in
set_option maxRecDepth 100000 in
/-- StairLines$Reader is made -/
theorem c_X0 (l : Launch) (D : va_G) (cI cT cS : ClassId) (b sz : Nat) : Met l yX0_init (Cond.code yX0_init cX0_init 1 none :: pm_w) { frames := 1, cells := 1, slots := 160, locals := 40 } (va_Pc [.ref b] (fun U => U.heap.size = sz ∧ va_P D vwCl [(b, .inr (0, [.int 0, .null, .null, .int 0, .int 0, .int 0, .int 0, .int 0]))] U.heap ∧ va_K D vwCl (pm_tys cI cT cS) U ∧ va_D (fun _ => True) [(b, .inr (0, [.int 0, .null, .null, .int 0, .int 0, .int 0, .int 0, .int 0]))])) (va_Qv (fun a : Nat → Nat => a 0 = b) (fun a t => va_P D vwCl (zw0 cI a) t.heap ∧ va_K D vwCl (pm_tys cI cT cS) t ∧ va_D (va_A [(b, .inr (0, [.int 0, .null, .null, .int 0, .int 0, .int 0, .int 0, .int 0]))] sz) (zw0 cI a)) (va_A [(b, .inr (0, [.int 0, .null, .null, .int 0, .int 0, .int 0, .int 0, .int 0]))] sz)) 1 160 (va_A [(b, .inr (0, [.int 0, .null, .null, .int 0, .int 0, .int 0, .int 0, .int 0]))] sz) := by
  refine Met.ofW (cc := cX0_init) (maxL := 1) (ret := none) (by decide) rfl ?_
  intro p e s m args below meth c s₁ B hml hv
  obtain ⟨rfl, hsz, hP, hK, hD0⟩ := hv
  have hx := B.exec
  have hb := B.bytes
  have hr := B.returns
  have hts := atoms_spec (ws := Cond.code yX0_init cX0_init 1 none :: pm_w) B.pre
  have hw : ∀ w ∈ pm_w, w.before _ s = true := fun w h => hts w (List.mem_cons_of_mem _ h)
  have hown : s.vm.findClass RX0 = some m.cls := findClass_of_methodNamed B.named
  have hlocks : meth.locks = false := B.notSynchronized
  have hin : meth.name = "<init>" := (name_of_methodNamed B.named B.method).1
  subst hsz
  have hD := hD0.self (sz := s.heap.size)
  generalize hAe : va_A [(b, .inr (0, [.int 0, .null, .null, .int 0, .int 0, .int 0, .int 0, .int 0]))] s.heap.size = A at hD ⊢
  have hA : ∀ q : Nat, s.heap.size ≤ q → A q := fun q h => by rw [← hAe]; exact Or.inr h
  have hS : va_S A s.heap s.heap [] := va_S.rf
  have hP : va_P D vwCl [(b, .inr (0, [.int 0, .null, .null, .int 0, .int 0, .int 0, .int 0, .int 0]))] s.heap := hP
  have hl := lv_entry ([.ref b]) (n := 1) (Nat.le_of_ble_eq_true rfl)
  rw [lg_entry_eq]
  generalize (lg_sl ([.ref b]) ++ List.replicate (1 - (lg_sl ([.ref b])).length) Slot.unset).toArray = ls at hl ⊢
  have hl : lv_has ls 1 [(0, .ref b)] := hl
  refine lv_aload_n hx hb (k := 0) (i := 0) (x := b) (by decide +kernel) rfl (lv_at hl 0 rfl) ?_
  refine W.objInit hx hb (idx := 3) hown (hw _ cw_o0) (hw _ cw_oi) (hw _ cw_oc) rfl (by rw [hml]; exact hl.1) rfl (show decode cX0_init 1 = .ok (.invokespecial 3, 3) from by decide +kernel) (Nat.le_of_ble_eq_true rfl) (Nat.le_of_ble_eq_true rfl) ?_
  refine W.eq (g2 := F0 m 4 ls []) rfl ?_
  refine lv_aload_n hx hb (k := 0) (i := 0) (x := b) (by decide +kernel) rfl (lv_at hl 0 rfl) ?_
  refine lv_sipush hx hb (n := 160) (v := 160) (by decide +kernel) (by decide) ?_
  refine cz_newa hx hb (hw _ cw_ca) hK hP hD hS hA (N' := 160) (by decide) (by decide) (Nat.le_of_ble_eq_true rfl) (Nat.le_of_ble_eq_true rfl) (Nat.le_of_ble_eq_true rfl) (by decide +kernel) (fun q8 H hP hD hS => ?_)
  have hP : va_P D vwCl [(b, .inr (0, [.int 0, .null, .null, .int 0, .int 0, .int 0, .int 0, .int 0])), (q8, .inl (cI, 160, .inl (fun _ => 0)))] H := hP
  have hD : va_D A [(b, .inr (0, [.int 0, .null, .null, .int 0, .int 0, .int 0, .int 0, .int 0])), (q8, .inl (cI, 160, .inl (fun _ => 0)))] := hD
  refine W.widen (k := 1) (n := 160) (Nat.le_refl _) (Nat.le_refl _) ?_
  refine va_putF (ty := tyX0 1) (D := D) (ci := 0) (v := .ref q8) (C := RX0) (T := TX0) (N := 8) hx hb hw pm_uw0 tyX0 tyX0_ok nmX0 hown hK hP hD hS 0 rfl rfl 1 (by decide) (hw (.fieldLink RX0 9 RX0 "tape" "[I") (by decide +kernel)) (fun _ h9 => h9) rfl hin rfl (by decide +kernel) rfl rfl (Nat.le_of_ble_eq_true rfl) (by decide +kernel) (fun H locs hP hD hS => ?_)
  have hP : va_P D vwCl [(b, .inr (0, [.int 0, .ref q8, .null, .int 0, .int 0, .int 0, .int 0, .int 0])), (q8, .inl (cI, 160, .inl (fun _ => 0)))] H := hP
  have hD : va_D A [(b, .inr (0, [.int 0, .ref q8, .null, .int 0, .int 0, .int 0, .int 0, .int 0])), (q8, .inl (cI, 160, .inl (fun _ => 0)))] := hD
  have hP9 : va_P D vwCl (zw0 cI (fun k => List.getD [b, q8] k 0)) H := hP
  have hD9 : va_D A (zw0 cI (fun k => List.getD [b, q8] k 0)) := hD
  exact W.vret hx hb hr (fun t ht hW => ⟨⟨fun k => List.getD [b, q8] k 0, rfl, rfl, by rw [ht]; exact hP9, va_K.moved hW.alike hK, hD9⟩, hS.F ht⟩) hS.2.2 (by decide +kernel) hlocks
theorem gX1_init : GoodIn pm_w (Cond.code yX1_init cX1_init 1 none :: pm_w) := pm_good (fun w hw => by
  rcases List.mem_cons.mp hw with rfl | hw
  · decide +kernel
  · exact hw)
set_option maxHeartbeats 4000000 in
set_option maxRecDepth 100000 in
/-- StairLines$Reckoner is made -/
theorem c_X1 (l : Launch) (D : va_G) (cI cT cS : ClassId) (b sz : Nat) : Met l yX1_init (Cond.code yX1_init cX1_init 1 none :: pm_w) { frames := 1, cells := 2, slots := 70, locals := 40 } (va_Pc [.ref b] (fun U => U.heap.size = sz ∧ va_P D vwCl [(b, .inr (1, [.null, .null]))] U.heap ∧ va_K D vwCl (pm_tys cI cT cS) U ∧ va_D (fun _ => True) [(b, .inr (1, [.null, .null]))])) (va_Qv (fun a : Nat → Nat => a 0 = b) (fun a t => va_P D vwCl (zw1 cI a) t.heap ∧ va_K D vwCl (pm_tys cI cT cS) t ∧ va_D (va_A [(b, .inr (1, [.null, .null]))] sz) (zw1 cI a)) (va_A [(b, .inr (1, [.null, .null]))] sz)) 2 70 (va_A [(b, .inr (1, [.null, .null]))] sz) := by
  refine Met.ofW (cc := cX1_init) (maxL := 1) (ret := none) (by decide) rfl ?_
  intro p e s m args below meth c s₁ B hml hv
  obtain ⟨rfl, hsz, hP, hK, hD0⟩ := hv
  have hx := B.exec
  have hb := B.bytes
  have hr := B.returns
  have hts := atoms_spec (ws := Cond.code yX1_init cX1_init 1 none :: pm_w) B.pre
  have hw : ∀ w ∈ pm_w, w.before _ s = true := fun w h => hts w (List.mem_cons_of_mem _ h)
  have hown : s.vm.findClass RX1 = some m.cls := findClass_of_methodNamed B.named
  have hlocks : meth.locks = false := B.notSynchronized
  have hin : meth.name = "<init>" := (name_of_methodNamed B.named B.method).1
  subst hsz
  have hD := hD0.self (sz := s.heap.size)
  generalize hAe : va_A [(b, .inr (1, [.null, .null]))] s.heap.size = A at hD ⊢
  have hA : ∀ q : Nat, s.heap.size ≤ q → A q := fun q h => by rw [← hAe]; exact Or.inr h
  have hS : va_S A s.heap s.heap [] := va_S.rf
  have hP : va_P D vwCl [(b, .inr (1, [.null, .null]))] s.heap := hP
  have hl := lv_entry ([.ref b]) (n := 1) (Nat.le_of_ble_eq_true rfl)
  rw [lg_entry_eq]
  generalize (lg_sl ([.ref b]) ++ List.replicate (1 - (lg_sl ([.ref b])).length) Slot.unset).toArray = ls at hl ⊢
  have hl : lv_has ls 1 [(0, .ref b)] := hl
  refine lv_aload_n hx hb (k := 0) (i := 0) (x := b) (by decide +kernel) rfl (lv_at hl 0 rfl) ?_
  refine W.objInit hx hb (idx := 3) hown (hw _ cw_o1) (hw _ cw_oi) (hw _ cw_oc) rfl (by rw [hml]; exact hl.1) rfl (show decode cX1_init 1 = .ok (.invokespecial 3, 3) from by decide +kernel) (Nat.le_of_ble_eq_true rfl) (Nat.le_of_ble_eq_true rfl) ?_
  refine W.eq (g2 := F0 m 4 ls []) rfl ?_
  refine lv_aload_n hx hb (k := 0) (i := 0) (x := b) (by decide +kernel) rfl (lv_at hl 0 rfl) ?_
  refine lv_bipush hx hb (n := 6) (v := 6) (by decide +kernel) (by decide) ?_
  refine cz_newa hx hb (hw _ cw_ca) hK hP hD hS hA (N' := 6) (by decide) (by decide) (Nat.le_of_ble_eq_true rfl) (Nat.le_of_ble_eq_true rfl) (Nat.le_of_ble_eq_true rfl) (by decide +kernel) (fun q7 H hP hD hS => ?_)
  have hP : va_P D vwCl [(b, .inr (1, [.null, .null])), (q7, .inl (cI, 6, .inl (fun _ => 0)))] H := hP
  have hD : va_D A [(b, .inr (1, [.null, .null])), (q7, .inl (cI, 6, .inl (fun _ => 0)))] := hD
  refine W.widen (k := 1) (n := 6) (Nat.le_refl _) (Nat.le_refl _) ?_
  refine va_putF (ty := tyX1 0) (D := D) (ci := 1) (v := .ref q7) (C := RX1) (T := TX1) (N := 2) hx hb hw pm_uw1 tyX1 tyX1_ok nmX1 hown hK hP hD hS 0 rfl rfl 0 (by decide) (hw (.fieldLink RX1 9 RX1 "seen" "[I") (by decide +kernel)) (fun _ h9 => h9) rfl hin rfl (by decide +kernel) rfl rfl (Nat.le_of_ble_eq_true rfl) (by decide +kernel) (fun H locs hP hD hS => ?_)
  have hP : va_P D vwCl [(b, .inr (1, [.ref q7, .null])), (q7, .inl (cI, 6, .inl (fun _ => 0)))] H := hP
  have hD : va_D A [(b, .inr (1, [.ref q7, .null])), (q7, .inl (cI, 6, .inl (fun _ => 0)))] := hD
  refine lv_aload_n hx hb (k := 0) (i := 0) (x := b) (by decide +kernel) rfl (lv_at hl 0 rfl) ?_
  refine lv_bipush hx hb (n := 64) (v := 64) (by decide +kernel) (by decide) ?_
  refine cz_newa hx hb (hw _ cw_ca) hK hP hD hS hA (N' := 64) (by decide) (by decide) (Nat.le_of_ble_eq_true rfl) (Nat.le_of_ble_eq_true rfl) (Nat.le_of_ble_eq_true rfl) (by decide +kernel) (fun q15 H hP hD hS => ?_)
  have hP : va_P D vwCl [(b, .inr (1, [.ref q7, .null])), (q7, .inl (cI, 6, .inl (fun _ => 0))), (q15, .inl (cI, 64, .inl (fun _ => 0)))] H := hP
  have hD : va_D A [(b, .inr (1, [.ref q7, .null])), (q7, .inl (cI, 6, .inl (fun _ => 0))), (q15, .inl (cI, 64, .inl (fun _ => 0)))] := hD
  refine W.widen (k := 2) (n := 70) (Nat.le_refl _) (Nat.le_refl _) ?_
  refine va_putF (ty := tyX1 1) (D := D) (ci := 1) (v := .ref q15) (C := RX1) (T := TX1) (N := 2) hx hb hw pm_uw1 tyX1 tyX1_ok nmX1 hown hK hP hD hS 0 rfl rfl 1 (by decide) (hw (.fieldLink RX1 15 RX1 "stack" "[I") (by decide +kernel)) (fun _ h9 => h9) rfl hin rfl (by decide +kernel) rfl rfl (Nat.le_of_ble_eq_true rfl) (by decide +kernel) (fun H locs hP hD hS => ?_)
  have hP : va_P D vwCl [(b, .inr (1, [.ref q7, .ref q15])), (q7, .inl (cI, 6, .inl (fun _ => 0))), (q15, .inl (cI, 64, .inl (fun _ => 0)))] H := hP
  have hD : va_D A [(b, .inr (1, [.ref q7, .ref q15])), (q7, .inl (cI, 6, .inl (fun _ => 0))), (q15, .inl (cI, 64, .inl (fun _ => 0)))] := hD
  have hP9 : va_P D vwCl (zw1 cI (fun k => List.getD [b, q7, q15] k 0)) H := hP
  have hD9 : va_D A (zw1 cI (fun k => List.getD [b, q7, q15] k 0)) := hD
  exact W.vret hx hb hr (fun t ht hW => ⟨⟨fun k => List.getD [b, q7, q15] k 0, rfl, rfl, by rw [ht]; exact hP9, va_K.moved hW.alike hK, hD9⟩, hS.F ht⟩) hS.2.2 (by decide +kernel) hlocks
theorem gX2_init : GoodIn pm_w (Cond.code yX2_init cX2_init 1 none :: pm_w) := pm_good (fun w hw => by
  rcases List.mem_cons.mp hw with rfl | hw
  · decide +kernel
  · exact hw)
set_option maxHeartbeats 4000000 in
set_option maxRecDepth 100000 in
/-- StairLines$Sheet is made -/
theorem c_X2 (l : Launch) (D : va_G) (cI cT cS : ClassId) (b sz : Nat) : Met l yX2_init (Cond.code yX2_init cX2_init 1 none :: pm_w) { frames := 1, cells := 1, slots := 40, locals := 40 } (va_Pc [.ref b] (fun U => U.heap.size = sz ∧ va_P D vwCl [(b, .inr (2, [.null, .int 0, .int 0]))] U.heap ∧ va_K D vwCl (pm_tys cI cT cS) U ∧ va_D (fun _ => True) [(b, .inr (2, [.null, .int 0, .int 0]))])) (va_Qv (fun a : Nat → Nat => a 0 = b) (fun a t => va_P D vwCl (zw2 cI a) t.heap ∧ va_K D vwCl (pm_tys cI cT cS) t ∧ va_D (va_A [(b, .inr (2, [.null, .int 0, .int 0]))] sz) (zw2 cI a)) (va_A [(b, .inr (2, [.null, .int 0, .int 0]))] sz)) 1 40 (va_A [(b, .inr (2, [.null, .int 0, .int 0]))] sz) := by
  refine Met.ofW (cc := cX2_init) (maxL := 1) (ret := none) (by decide) rfl ?_
  intro p e s m args below meth c s₁ B hml hv
  obtain ⟨rfl, hsz, hP, hK, hD0⟩ := hv
  have hx := B.exec
  have hb := B.bytes
  have hr := B.returns
  have hts := atoms_spec (ws := Cond.code yX2_init cX2_init 1 none :: pm_w) B.pre
  have hw : ∀ w ∈ pm_w, w.before _ s = true := fun w h => hts w (List.mem_cons_of_mem _ h)
  have hown : s.vm.findClass RX2 = some m.cls := findClass_of_methodNamed B.named
  have hlocks : meth.locks = false := B.notSynchronized
  have hin : meth.name = "<init>" := (name_of_methodNamed B.named B.method).1
  subst hsz
  have hD := hD0.self (sz := s.heap.size)
  generalize hAe : va_A [(b, .inr (2, [.null, .int 0, .int 0]))] s.heap.size = A at hD ⊢
  have hA : ∀ q : Nat, s.heap.size ≤ q → A q := fun q h => by rw [← hAe]; exact Or.inr h
  have hS : va_S A s.heap s.heap [] := va_S.rf
  have hP : va_P D vwCl [(b, .inr (2, [.null, .int 0, .int 0]))] s.heap := hP
  have hl := lv_entry ([.ref b]) (n := 1) (Nat.le_of_ble_eq_true rfl)
  rw [lg_entry_eq]
  generalize (lg_sl ([.ref b]) ++ List.replicate (1 - (lg_sl ([.ref b])).length) Slot.unset).toArray = ls at hl ⊢
  have hl : lv_has ls 1 [(0, .ref b)] := hl
  refine lv_aload_n hx hb (k := 0) (i := 0) (x := b) (by decide +kernel) rfl (lv_at hl 0 rfl) ?_
  refine W.objInit hx hb (idx := 3) hown (hw _ cw_o2) (hw _ cw_oi) (hw _ cw_oc) rfl (by rw [hml]; exact hl.1) rfl (show decode cX2_init 1 = .ok (.invokespecial 3, 3) from by decide +kernel) (Nat.le_of_ble_eq_true rfl) (Nat.le_of_ble_eq_true rfl) ?_
  refine W.eq (g2 := F0 m 4 ls []) rfl ?_
  refine lv_aload_n hx hb (k := 0) (i := 0) (x := b) (by decide +kernel) rfl (lv_at hl 0 rfl) ?_
  refine lv_bipush hx hb (n := 40) (v := 40) (by decide +kernel) (by decide) ?_
  refine cz_newa hx hb (hw _ cw_ca) hK hP hD hS hA (N' := 40) (by decide) (by decide) (Nat.le_of_ble_eq_true rfl) (Nat.le_of_ble_eq_true rfl) (Nat.le_of_ble_eq_true rfl) (by decide +kernel) (fun q7 H hP hD hS => ?_)
  have hP : va_P D vwCl [(b, .inr (2, [.null, .int 0, .int 0])), (q7, .inl (cI, 40, .inl (fun _ => 0)))] H := hP
  have hD : va_D A [(b, .inr (2, [.null, .int 0, .int 0])), (q7, .inl (cI, 40, .inl (fun _ => 0)))] := hD
  refine W.widen (k := 1) (n := 40) (Nat.le_refl _) (Nat.le_refl _) ?_
  refine va_putF (ty := tyX2 0) (D := D) (ci := 2) (v := .ref q7) (C := RX2) (T := TX2) (N := 3) hx hb hw pm_uw2 tyX2 tyX2_ok nmX2 hown hK hP hD hS 0 rfl rfl 0 (by decide) (hw (.fieldLink RX2 9 RX2 "cells" "[I") (by decide +kernel)) (fun _ h9 => h9) rfl hin rfl (by decide +kernel) rfl rfl (Nat.le_of_ble_eq_true rfl) (by decide +kernel) (fun H locs hP hD hS => ?_)
  have hP : va_P D vwCl [(b, .inr (2, [.ref q7, .int 0, .int 0])), (q7, .inl (cI, 40, .inl (fun _ => 0)))] H := hP
  have hD : va_D A [(b, .inr (2, [.ref q7, .int 0, .int 0])), (q7, .inl (cI, 40, .inl (fun _ => 0)))] := hD
  refine lv_aload_n hx hb (k := 0) (i := 0) (x := b) (by decide +kernel) rfl (lv_at hl 0 rfl) ?_
  refine lv_iconst hx hb (n := (-1)) (v := (-1)) (by decide +kernel) (by decide) ?_
  refine va_put (ty := tyX2 1) (D := D) (ci := 2) (v := .int (-1)) (C := RX2) (T := TX2) (N := 3) hx hb hw pm_uw2 tyX2 tyX2_ok nmX2 hown hK hP hD hS 0 rfl rfl 1 (by decide) (hw (.fieldLink RX2 15 RX2 "sort" "I") (by decide +kernel)) (fun _ h9 => h9) rfl (by decide +kernel) rfl rfl (Nat.le_of_ble_eq_true rfl) (by decide +kernel) (fun H locs hP hD hS => ?_)
  have hP : va_P D vwCl [(b, .inr (2, [.ref q7, .int (-1), .int 0])), (q7, .inl (cI, 40, .inl (fun _ => 0)))] H := hP
  have hD : va_D A [(b, .inr (2, [.ref q7, .int (-1), .int 0])), (q7, .inl (cI, 40, .inl (fun _ => 0)))] := hD
  have hP9 : va_P D vwCl (zw2 cI (fun k => List.getD [b, q7] k 0)) H := hP
  have hD9 : va_D A (zw2 cI (fun k => List.getD [b, q7] k 0)) := hD
  exact W.vret hx hb hr (fun t ht hW => ⟨⟨fun k => List.getD [b, q7] k 0, rfl, rfl, by rw [ht]; exact hP9, va_K.moved hW.alike hK, hD9⟩, hS.F ht⟩) hS.2.2 (by decide +kernel) hlocks
theorem gX4_init : GoodIn pm_w (Cond.code yX4_init cX4_init 1 none :: pm_w) := pm_good (fun w hw => by
  rcases List.mem_cons.mp hw with rfl | hw
  · decide +kernel
  · exact hw)
set_option maxHeartbeats 4000000 in
set_option maxRecDepth 100000 in
/-- StairLines$Text is made -/
theorem c_X4 (l : Launch) (D : va_G) (cI cT cS : ClassId) (b sz : Nat) : Met l yX4_init (Cond.code yX4_init cX4_init 1 none :: pm_w) { frames := 1, cells := 2, slots := 163, locals := 40 } (va_Pc [.ref b] (fun U => U.heap.size = sz ∧ va_P D vwCl [(b, .inr (4, [.null, .null, .int 0]))] U.heap ∧ va_K D vwCl (pm_tys cI cT cS) U ∧ va_D (fun _ => True) [(b, .inr (4, [.null, .null, .int 0]))])) (va_Qv (fun a : Nat → Nat => a 0 = b) (fun a t => va_P D vwCl (zw4 cI a) t.heap ∧ va_K D vwCl (pm_tys cI cT cS) t ∧ va_D (va_A [(b, .inr (4, [.null, .null, .int 0]))] sz) (zw4 cI a)) (va_A [(b, .inr (4, [.null, .null, .int 0]))] sz)) 2 163 (va_A [(b, .inr (4, [.null, .null, .int 0]))] sz) := by
  refine Met.ofW (cc := cX4_init) (maxL := 1) (ret := none) (by decide) rfl ?_
  intro p e s m args below meth c s₁ B hml hv
  obtain ⟨rfl, hsz, hP, hK, hD0⟩ := hv
  have hx := B.exec
  have hb := B.bytes
  have hr := B.returns
  have hts := atoms_spec (ws := Cond.code yX4_init cX4_init 1 none :: pm_w) B.pre
  have hw : ∀ w ∈ pm_w, w.before _ s = true := fun w h => hts w (List.mem_cons_of_mem _ h)
  have hown : s.vm.findClass RX4 = some m.cls := findClass_of_methodNamed B.named
  have hlocks : meth.locks = false := B.notSynchronized
  have hin : meth.name = "<init>" := (name_of_methodNamed B.named B.method).1
  subst hsz
  have hD := hD0.self (sz := s.heap.size)
  generalize hAe : va_A [(b, .inr (4, [.null, .null, .int 0]))] s.heap.size = A at hD ⊢
  have hA : ∀ q : Nat, s.heap.size ≤ q → A q := fun q h => by rw [← hAe]; exact Or.inr h
  have hS : va_S A s.heap s.heap [] := va_S.rf
  have hP : va_P D vwCl [(b, .inr (4, [.null, .null, .int 0]))] s.heap := hP
  have hl := lv_entry ([.ref b]) (n := 1) (Nat.le_of_ble_eq_true rfl)
  rw [lg_entry_eq]
  generalize (lg_sl ([.ref b]) ++ List.replicate (1 - (lg_sl ([.ref b])).length) Slot.unset).toArray = ls at hl ⊢
  have hl : lv_has ls 1 [(0, .ref b)] := hl
  refine lv_aload_n hx hb (k := 0) (i := 0) (x := b) (by decide +kernel) rfl (lv_at hl 0 rfl) ?_
  refine W.objInit hx hb (idx := 3) hown (hw _ cw_o4) (hw _ cw_oi) (hw _ cw_oc) rfl (by rw [hml]; exact hl.1) rfl (show decode cX4_init 1 = .ok (.invokespecial 3, 3) from by decide +kernel) (Nat.le_of_ble_eq_true rfl) (Nat.le_of_ble_eq_true rfl) ?_
  refine W.eq (g2 := F0 m 4 ls []) rfl ?_
  refine lv_aload_n hx hb (k := 0) (i := 0) (x := b) (by decide +kernel) rfl (lv_at hl 0 rfl) ?_
  refine lv_sipush hx hb (n := 160) (v := 160) (by decide +kernel) (by decide) ?_
  refine cz_newa hx hb (hw _ cw_ca) hK hP hD hS hA (N' := 160) (by decide) (by decide) (Nat.le_of_ble_eq_true rfl) (Nat.le_of_ble_eq_true rfl) (Nat.le_of_ble_eq_true rfl) (by decide +kernel) (fun q8 H hP hD hS => ?_)
  have hP : va_P D vwCl [(b, .inr (4, [.null, .null, .int 0])), (q8, .inl (cI, 160, .inl (fun _ => 0)))] H := hP
  have hD : va_D A [(b, .inr (4, [.null, .null, .int 0])), (q8, .inl (cI, 160, .inl (fun _ => 0)))] := hD
  refine W.widen (k := 1) (n := 160) (Nat.le_refl _) (Nat.le_refl _) ?_
  refine va_putF (ty := tyX4 0) (D := D) (ci := 4) (v := .ref q8) (C := RX4) (T := TX4) (N := 3) hx hb hw pm_uw4 tyX4 tyX4_ok nmX4 hown hK hP hD hS 0 rfl rfl 0 (by decide) (hw (.fieldLink RX4 9 RX4 "code" "[I") (by decide +kernel)) (fun _ h9 => h9) rfl hin rfl (by decide +kernel) rfl rfl (Nat.le_of_ble_eq_true rfl) (by decide +kernel) (fun H locs hP hD hS => ?_)
  have hP : va_P D vwCl [(b, .inr (4, [.ref q8, .null, .int 0])), (q8, .inl (cI, 160, .inl (fun _ => 0)))] H := hP
  have hD : va_D A [(b, .inr (4, [.ref q8, .null, .int 0])), (q8, .inl (cI, 160, .inl (fun _ => 0)))] := hD
  refine lv_aload_n hx hb (k := 0) (i := 0) (x := b) (by decide +kernel) rfl (lv_at hl 0 rfl) ?_
  refine lv_iconst hx hb (n := 3) (v := 3) (by decide +kernel) (by decide) ?_
  refine cz_newa hx hb (hw _ cw_ca) hK hP hD hS hA (N' := 3) (by decide) (by decide) (Nat.le_of_ble_eq_true rfl) (Nat.le_of_ble_eq_true rfl) (Nat.le_of_ble_eq_true rfl) (by decide +kernel) (fun q15 H hP hD hS => ?_)
  have hP : va_P D vwCl [(b, .inr (4, [.ref q8, .null, .int 0])), (q8, .inl (cI, 160, .inl (fun _ => 0))), (q15, .inl (cI, 3, .inl (fun _ => 0)))] H := hP
  have hD : va_D A [(b, .inr (4, [.ref q8, .null, .int 0])), (q8, .inl (cI, 160, .inl (fun _ => 0))), (q15, .inl (cI, 3, .inl (fun _ => 0)))] := hD
  refine W.widen (k := 2) (n := 163) (Nat.le_refl _) (Nat.le_refl _) ?_
  refine va_putF (ty := tyX4 1) (D := D) (ci := 4) (v := .ref q15) (C := RX4) (T := TX4) (N := 3) hx hb hw pm_uw4 tyX4 tyX4_ok nmX4 hown hK hP hD hS 0 rfl rfl 1 (by decide) (hw (.fieldLink RX4 15 RX4 "ends" "[I") (by decide +kernel)) (fun _ h9 => h9) rfl hin rfl (by decide +kernel) rfl rfl (Nat.le_of_ble_eq_true rfl) (by decide +kernel) (fun H locs hP hD hS => ?_)
  have hP : va_P D vwCl [(b, .inr (4, [.ref q8, .ref q15, .int 0])), (q8, .inl (cI, 160, .inl (fun _ => 0))), (q15, .inl (cI, 3, .inl (fun _ => 0)))] H := hP
  have hD : va_D A [(b, .inr (4, [.ref q8, .ref q15, .int 0])), (q8, .inl (cI, 160, .inl (fun _ => 0))), (q15, .inl (cI, 3, .inl (fun _ => 0)))] := hD
  have hP9 : va_P D vwCl (zw4 cI (fun k => List.getD [b, q8, q15] k 0)) H := hP
  have hD9 : va_D A (zw4 cI (fun k => List.getD [b, q8, q15] k 0)) := hD
  exact W.vret hx hb hr (fun t ht hW => ⟨⟨fun k => List.getD [b, q8, q15] k 0, rfl, rfl, by rw [ht]; exact hP9, va_K.moved hW.alike hK, hD9⟩, hS.F ht⟩) hS.2.2 (by decide +kernel) hlocks
