/-! calls of a constant text -/
theorem jd_len13 {b : Nat} (h : pm_sb b = true) : 1000 ≤ b ∧ b < 1013 := by
  unfold pm_sb at h
  simp only [Bool.and_eq_true] at h
  refine ⟨Nat.le_of_ble_eq_true h.1, ?_⟩
  have := h.2
  unfold Nat.blt at this
  exact Nat.le_of_ble_eq_true this
theorem jd_lens (i : Nat) : (pm_sls.map List.length).getD i 0 = (pm_sl i).length := by
  unfold pm_sl
  rw [List.getD_eq_getElem?_getD, List.getElem?_map, List.getD_eq_getElem?_getD]
  cases pm_sls[i]? <;> rfl
def jd_by (i j : Nat) : Int32 := ((pm_sls.map (fun t => t.map (fun k => (nI k).toInt8.toInt32))).getD i []).getD j 0
theorem jd_tab : ∀ i, i < 13 → ∀ j, j < (pm_sl i).length → ((jd_by i j &&& 255).toUInt32 % 65536).toInt32 = nI ((pm_sl i).getD j 0) ∧ narrow .char (.int (nI ((pm_sl i).getD j 0))) = .int (nI ((pm_sl i).getD j 0)) := by decide +kernel
theorem jd_short : ∀ i, i < 13 → (pm_sl i).length < 100 := by decide +kernel
theorem jd_stof {σ : Nat → Nat} {A : Nat → Prop} {U : State} {H : Heap} {b : Nat} (hG : pm_G σ A U H) (h : pm_sb b = true) : jd_St (σ b) (pm_sl (b - 1000)).length (fun j => .int (jd_by (b - 1000) j)) A U H := by
  obtain ⟨h1, h2⟩ := jd_len13 h
  obtain ⟨-, -, ⟨v, h3⟩, -, h5, h6⟩ := hG
  obtain ⟨q1, q2, q3, q4⟩ := h3.1 (b - 1000) (by omega)
  dsimp only at q1 q2 q3
  rw [show 1000 + (b - 1000) = b by omega] at q1 q2 q3
  rw [jd_lens] at q4
  exact ⟨q1, q2, ⟨_, q3, q4⟩, h5, h6⟩
theorem jd_lt {j : Int32} {n : Nat} (hn : n < 100) (h0 : ¬ j < 0) (h1 : j.toNatClampNeg < n) : j < Int32.ofNat n := by
  rw [Int32.lt_iff_toInt_lt, Int32.toInt_ofNat_of_lt (by omega)]
  have h0 : (0 : Int) ≤ j.toInt := by
    have := Int32.not_lt.mp h0
    simpa using Int32.le_iff_toInt_le.mp this
  have : j.toInt = (j.toNatClampNeg : Int) := by
    show j.toInt = ((j.toInt.toNat : Nat) : Int)
    omega
  omega
/-! behind a call that changes nothing at all -/
theorem jd_cont0 {p : Program} {l : Launch} {e : Env} {R : Room} {s : State} {m : MethodId} {args : Array Value} {below : List Frame} {meth : Method} {c : Code} {H : Heap} {locs : List Loc} {QQ : State → Prop} {cells slots : Nat} {pc : Nat} {ls : Array Slot} {st0 rest : List Value} {v : Option Value}
    (hr : va_Run p l e R s m args below meth c H locs cells slots 0 0 (F0 m pc ls st0) rest (fun st oc t => oc = .returned v ∧ t.heap = st.heap) (fun _ => False))
    (kk : W p l e R s m args below meth c H locs cells slots QQ (F0 m (pc + 3) ls (v.toList ++ rest))) : W p l e R s m args below meth c H locs cells slots QQ (F0 m pc ls st0) := by
  intro T hT X
  obtain ⟨w, st₀, t, T', L, h0, X', hL, e1, e2, ⟨hv, hq⟩, st⟩ := hr T hT X
  cases hv
  have hL0 : L = [] := List.eq_nil_iff_forall_not_mem.mpr hL
  subst hL0
  rw [List.append_nil] at X'
  obtain ⟨t2, a1, b1⟩ := kk T' (by rw [e1, hq, h0]) X'
  exact ⟨t2, st t2 a1, b1⟩
section
variable {D : va_G} {cI cT cS : ClassId} {σ : Nat → Nat} {N : Nat} {p : Program} {l : Launch} {e : Env} {R : Room} {s : State} {m : MethodId} {args : Array Value} {below : List Frame} {meth : Method} {c : Code} {M : pm_M} {y : MethodName} {cc : ByteArray} {ret : Option FieldType} {A : Nat → Prop} {QQ : State → Prop} {cells slots : Nat} {i : Instr} {pc : Nat} {L : pm_L} {st : List Value} {ls : Array Slot} {H : Heap} {locs : List Loc}
theorem pm_k5 (Cx : pm_Cx D cI cT cS σ N p s m args meth c M y cc ret A) (hRf : 6 ≤ R.frames) (hRl : 300 ≤ R.locals) (hcl : cells ≤ R.cells) (hsl : slots ≤ R.slots) {idx b : Nat} {r : List Value} (hi : i = .invokevirtual idx) (hl : pm_look M.2.2.2 pc = some i) (hlink : Cond.methodLink (pm_cn M.1) idx yJ0_length_8abf5 ∈ pm_w) (hst : st = .ref b :: r) (hsb : pm_sb b = true) (hr1 : pm_c1 r = true) (hr8 : r.length ≤ 8) (hL : pm_lh σ ls M.2.1 L) (hS : va_S A s.heap H locs)
    (hk : W p l e R s m args below meth c H locs cells slots QQ (F0 m (pc + 3) ls ((Value.int (nI (pm_sl (b - 1000)).length) :: r).map (pm_ev σ)))) : W p l e R s m args below meth c H locs cells slots QQ (F0 m pc ls (st.map (pm_ev σ))) := by
  obtain ⟨hx, hb, hret, hml, hts, hown, hlocks, hK, hA, hI, hN, hGs, hD⟩ := id Cx
  have hJ : jd_St (σ b) (pm_sl (b - 1000)).length (fun j => .int (jd_by (b - 1000) j)) (fun _ => False) s H := ((jd_stof hGs hsb).kept hS.2.1).narrow (fun _ h => h.elim)
  obtain ⟨cell, o1, o2, o3, -⟩ := id hJ.1
  subst hi
  have hcw := cwV (R := R) (own := pm_cn M.1) (index := idx) (C := yJ0_length_8abf5.cls) (y := yJ0_length_8abf5) (bytes := cJ0_length_8abf5) (maxL := 1) (ret := some .int) (rm := { frames := 2, cells := 0, slots := 0, locals := 80 }) (mc := 0) (ms := 0) 0 hts (pm_good (ws := wsV (pm_cn M.1) idx yJ0_length_8abf5.cls yJ0_length_8abf5 (Cond.code yJ0_length_8abf5 cJ0_length_8abf5 1 (some .int) :: pm_w)) (fun w hw => by
    rcases List.mem_append.mp hw with hw | hw
    · simp only [List.mem_cons, List.not_mem_nil, or_false] at hw
      rcases hw with rfl | rfl | rfl | rfl
      · exact hlink
      · exact jd_i1
      · exact jd_e2
      · exact jd_n3
    · rcases List.mem_cons.mp hw with rfl | hw
      · exact jd_c1
      · exact hw)) rfl rfl rfl ⟨rfl, by decide, by decide, by decide +kernel⟩ ⟨by show 2 + 1 ≤ _; omega, by show 8 + (1 + 11) + 80 ≤ _; omega⟩
  have hrun := va_runV (l := l) (e := e) (below := below) (meth := meth) (locs := locs) (cells := cells) (slots := slots) (As := []) (rest := r.map (pm_ev σ)) (b := σ b) (H := H) (g := F0 m pc ls (st.map (pm_ev σ))) ⟨hx, hb, hml, hown, hts⟩ (jd_len (A := fun _ => False) (sz := H.size) (q := σ b) (l := l)) hcw ⟨fun a U g mk z => ⟨z.1, z.2.1, z.2.2.moved (Vm.Alike.refl U.vm)⟩, ⟨cell, o1, o2, o3⟩, fun U hU hW => ⟨rfl, by rw [hU], by rw [hU]; exact hJ.moved hW.alike⟩⟩ rfl rfl hL.1 (by rw [hst]; simp [pm_ev]) (lv_room (by rw [pm_c1_sum hr1]; exact hr8)) (pm_de hI hl rfl) ⟨hcl, hsl⟩
  exact jd_cont0 hrun hk
theorem pm_k6 (Cx : pm_Cx D cI cT cS σ N p s m args meth c M y cc ret A) (hRf : 6 ≤ R.frames) (hRl : 300 ≤ R.locals) (hcl : cells ≤ R.cells) (hsl : slots ≤ R.slots) {idx b : Nat} {j : Int32} {r : List Value} (hi : i = .invokevirtual idx) (hl : pm_look M.2.2.2 pc = some i) (hlink : Cond.methodLink (pm_cn M.1) idx yJ0_charAt_5068e ∈ pm_w) (hst : st = .int j :: .ref b :: r) (hsb : pm_sb b = true) (hin : pm_in j (pm_sl (b - 1000)).length = true) (hr1 : pm_c1 r = true) (hr8 : r.length ≤ 8) (hL : pm_lh σ ls M.2.1 L) (hS : va_S A s.heap H locs)
    (hk : W p l e R s m args below meth c H locs cells slots QQ (F0 m (pc + 3) ls ((Value.int (nI ((pm_sl (b - 1000)).getD j.toNatClampNeg 0)) :: r).map (pm_ev σ)))) : W p l e R s m args below meth c H locs cells slots QQ (F0 m pc ls (st.map (pm_ev σ))) := by
  obtain ⟨hx, hb, hret, hml, hts, hown, hlocks, hK, hA, hI, hN, hGs, hD⟩ := id Cx
  have hJ : jd_St (σ b) (pm_sl (b - 1000)).length (fun j => .int (jd_by (b - 1000) j)) (fun _ => False) s H := ((jd_stof hGs hsb).kept hS.2.1).narrow (fun _ h => h.elim)
  obtain ⟨cell, o1, o2, o3, -⟩ := id hJ.1
  obtain ⟨b1, b2⟩ := jd_len13 hsb
  have hin := pm_in_ok hin
  have h0 : ¬ j < 0 := fun q => hin (Or.inl q)
  have hjn : j.toNatClampNeg < (pm_sl (b - 1000)).length := Nat.not_le.mp fun q => hin (Or.inr q)
  have h1 := jd_lt (jd_short (b - 1000) (by omega)) h0 hjn
  obtain ⟨t1, t2⟩ := jd_tab (b - 1000) (by omega) _ hjn
  subst hi
  have hcw := cwV (R := R) (own := pm_cn M.1) (index := idx) (C := yJ0_charAt_5068e.cls) (y := yJ0_charAt_5068e) (bytes := cJ0_charAt_5068e) (maxL := 2) (ret := some .char) (rm := { frames := 4, cells := 0, slots := 0, locals := 160 }) (mc := 0) (ms := 0) 1 hts (pm_good (ws := wsV (pm_cn M.1) idx yJ0_charAt_5068e.cls yJ0_charAt_5068e (Cond.code yJ0_charAt_5068e cJ0_charAt_5068e 2 (some .char) :: pm_w)) (fun w hw => by
    rcases List.mem_append.mp hw with hw | hw
    · simp only [List.mem_cons, List.not_mem_nil, or_false] at hw
      rcases hw with rfl | rfl | rfl | rfl
      · exact hlink
      · exact jd_i2
      · exact jd_e3
      · exact jd_n3
    · rcases List.mem_cons.mp hw with rfl | hw
      · exact jd_c2
      · exact hw)) rfl rfl rfl ⟨rfl, by decide, by decide, by decide +kernel⟩ ⟨by show 4 + 1 ≤ _; omega, by show 8 + (2 + 11) + 160 ≤ _; omega⟩
  have hrun := va_runV (l := l) (e := e) (below := below) (meth := meth) (locs := locs) (cells := cells) (slots := slots) (As := [.int j]) (rest := r.map (pm_ev σ)) (b := σ b) (H := H) (g := F0 m pc ls (st.map (pm_ev σ))) ⟨hx, hb, hml, hown, hts⟩ (jd_char (A := fun _ => False) (sz := H.size) (q := σ b) (l := l) (f := fun j => .int (jd_by (b - 1000) j)) hin h0 h1 rfl t1 t2) hcw ⟨fun a U g mk z => ⟨z.1, z.2.1, z.2.2.moved (Vm.Alike.refl U.vm)⟩, ⟨cell, o1, o2, o3⟩, fun U hU hW => ⟨rfl, by rw [hU], by rw [hU]; exact hJ.moved hW.alike⟩⟩ rfl rfl hL.1 (by rw [hst]; simp [pm_ev]) (lv_room (by rw [pm_c1_sum hr1]; exact hr8)) (pm_de hI hl rfl) ⟨hcl, hsl⟩
  exact jd_cont0 hrun hk
end
