/-! EVERY METHOD of the machine meets its contract -/
def pm_A (σ : Nat → Nat) (N sz : Nat) : Nat → Prop := fun q => (∃ k, k < N ∧ q = σ k) ∨ sz ≤ q
theorem pm_A_D {σ : Nat → Nat} {cI cT cS : ClassId} {N sz : Nat} (hj : ∀ i j, i < N → j < N → σ i = σ j → i = j) (h : pm_H) : va_D (pm_A σ N sz) (pm_ws σ cI cT cS N h) := by
  have hlt : ∀ (k : Nat) (q : Nat × va_E), (pm_ws σ cI cT cS N h)[k]? = some q → k < N ∧ q.1 = σ k := by
    intro k q hq
    have hk : k < N := by
      have := (List.getElem?_eq_some_iff.mp hq).1
      simpa [pm_ws] using this
    rw [pm_ws_get hk] at hq
    cases hq
    exact ⟨hk, rfl⟩
  refine ⟨fun i j p q hp hq e => ?_, fun k q hq => ?_⟩
  · obtain ⟨h1, h2⟩ := hlt i p hp
    obtain ⟨h3, h4⟩ := hlt j q hq
    exact hj i j h1 h3 (by rw [← h2, ← h4]; exact e)
  · obtain ⟨h1, h2⟩ := hlt k q hq
    exact Or.inl ⟨k, h1, h2⟩
theorem pm_A_le {σ : Nat → Nat} {N a b : Nat} (h : a ≤ b) {q : Nat} (hq : pm_A σ N b q) : pm_A σ N a q := hq.imp id (fun z => Nat.le_trans h z)
def pm_rm (d : Nat) : Room := { frames := d + 6, cells := 0, slots := 0, locals := 40 * d + 300 }
def pm_Qc (D : va_G) (cI cT cS : ClassId) (σ : Nat → Nat) (N : Nat) (A : Nat → Prop) (Q : Option Value → pm_H → Prop) : Array Value → State → Outcome → State → Prop := fun _ st oc t => ∃ (v : Option Value) (h' : pm_H), Q v h' ∧ oc = .returned (v.map (pm_ev σ)) ∧ va_P D vwCl (pm_ws σ cI cT cS N h') t.heap ∧ va_K D vwCl (pm_tys cI cT cS) t ∧ va_F A st t
def pm_Pc (D : va_G) (cI cT cS : ClassId) (σ : Nat → Nat) (N sz : Nat) (as : List Value) (h : pm_H) : Array Value → State → Prop := va_Pc (as.map (pm_ev σ)) (fun U => U.heap.size = sz ∧ va_P D vwCl (pm_ws σ cI cT cS N h) U.heap ∧ va_K D vwCl (pm_tys cI cT cS) U ∧ pm_G σ (pm_A σ N sz) U U.heap)
theorem pm_blind {D : va_G} {cI cT cS : ClassId} {σ : Nat → Nat} {N sz : Nat} {as : List Value} {h : pm_H} : FrameBlind (pm_Pc D cI cT cS σ N sz as h) := by
  intro a U g mk q
  obtain ⟨q0, q1, q2, q3, q4⟩ := q
  exact ⟨q0, q1, q2, va_K.moved (u := U) (U := U.calling g mk a) (Vm.Alike.refl U.vm) q3, pm_G.same (u := U) (U := U.calling g mk a) rfl q4⟩
def pm_W0 (M : pm_M) (y : MethodName) (cc : ByteArray) (ret : Option FieldType) : List Cond := Cond.code y cc M.2.1 ret :: pm_w
theorem pm_good {ws : List Cond} (h : ∀ w ∈ ws, w ∈ pm_w) : GoodIn pm_w ws := fun w hw => ⟨h w hw, good_of_word (List.mem_filter.mp (h w hw)).2⟩
theorem pm_vw : ∀ ci, ci < 8 → ∃ (T : u_T) (N : Nat), vwCl[ci]? = some (pm_cn ci, T, N)
  | 0, _ => ⟨_, _, rfl⟩
  | 1, _ => ⟨_, _, rfl⟩
  | 2, _ => ⟨_, _, rfl⟩
  | 3, _ => ⟨_, _, rfl⟩
  | 4, _ => ⟨_, _, rfl⟩
  | 5, _ => ⟨_, _, rfl⟩
  | 6, _ => ⟨_, _, rfl⟩
  | 7, _ => ⟨_, _, rfl⟩
  | n + 8, h => absurd h (by omega)
section
variable {p : Program} {l : Launch} {e : Env} {R : Room} {s : State} {m : MethodId} {args : Array Value} {below : List Frame} {meth : Method} {c : Code} {H : Heap} {locs : List Loc} {QQ : State → Prop} {D : va_G} {cI cT cS : ClassId} {σ : Nat → Nat} {N cells slots : Nat}
/-- behind a call -/
theorem pm_cont {pc : Nat} {ls : Array Slot} {st0 rest : List Value} {a : Array Value} {A0 A1 : Nat → Prop} {Q' : Option Value → pm_H → Prop}
    (hr : va_Run p l e R s m args below meth c H locs cells slots 0 0 (F0 m pc ls st0) rest (pm_Qc D cI cT cS σ N A1 Q' a) A1) (hS : va_S A0 s.heap H locs) (hA : ∀ q, A1 q → A0 q)
    (kk : ∀ (v : Option Value) (h' : pm_H) (H1 : Heap) (locs1 : List Loc), Q' v h' → va_P D vwCl (pm_ws σ cI cT cS N h') H1 → va_S A0 s.heap H1 locs1 → W p l e R s m args below meth c H1 locs1 cells slots QQ (F0 m (pc + 3) ls ((v.map (pm_ev σ)).toList ++ rest))) : W p l e R s m args below meth c H locs cells slots QQ (F0 m pc ls st0) := by
  intro T hT X
  obtain ⟨v, st₀, t, T', L, h0, X', hL, e1, e2, ⟨w, h', hq, hv, hp, hk, hz, hkk⟩, st⟩ := hr T hT X
  cases hv
  rw [h0] at hz hkk
  obtain ⟨t2, a1, b1⟩ := kk w h' T'.heap (locs ++ L) hq (by rw [e1]; exact hp)
    ⟨Nat.le_trans hS.1 (by rw [e1]; exact hz), fun q h1 h2 => by rw [e1, hkk q (Nat.lt_of_lt_of_le h1 hS.1) (fun z => h2 (hA q z))]; exact hS.2.1 q h1 h2, fun q hq => by
      rcases List.mem_append.mp hq with h | h
      · exact hS.2.2 q h
      · exact hA _ (hL q h)⟩ T' rfl X'
  exact ⟨t2, st t2 a1, b1⟩
end
/-- what is walked: from every state that a run of n steps may have -/
def pm_Go (l : Launch) (D : va_G) (cI cT cS : ClassId) (σ : Nat → Nat) (N : Nat) (n : Nat) : Prop :=
  ∀ (d : Nat) (M : pm_M) (pc : Nat) (L : pm_L) (st : List Value) (h : pm_H) (Q : Option Value → pm_H → Prop), pm_Rn n d M pc L st h Q →
  ∀ (p : Program) (e : Env) (R : Room) (s : State) (m : MethodId) (args : Array Value) (below : List Frame) (meth : Method) (c : Code) (y : MethodName) (cc : ByteArray) (ret : Option FieldType), pm_Cx D cI cT cS σ N p s m args meth c M y cc ret (pm_A σ N s.heap.size) → d + 6 ≤ R.frames → 40 * d + 300 ≤ R.locals → ∀ (cells slots : Nat), cells ≤ R.cells → slots ≤ R.slots →
  ∀ (ls : Array Slot) (H : Heap) (locs : List Loc), pm_lh σ ls M.2.1 L → va_P D vwCl (pm_ws σ cI cT cS N h) H → va_S (pm_A σ N s.heap.size) s.heap H locs →
  W p l e R s m args below meth c H locs cells slots (MQ below (pm_Qc D cI cT cS σ N (pm_A σ N s.heap.size) Q) args s cells slots (pm_A σ N s.heap.size)) (F0 m pc ls (st.map (pm_ev σ)))
theorem pm_en_lo {M : pm_M} {as : List Value} (hle : as.length ≤ M.2.1) : (pm_en M as).length = M.2.1 := by
  unfold pm_en; simp; omega
theorem pm_lo_app : ∀ (as : List Value) (n k : Nat) (v : Value), pm_lo (as.map some ++ List.replicate n none) k = some v → as[k]? = some v
  | [], 0, _, _, h => by cases h
  | [], n + 1, 0, _, h => by cases h
  | [], n + 1, k + 1, v, h => pm_lo_app [] n k v h
  | a :: as, n, 0, v, h => h
  | a :: as, n, k + 1, v, h => pm_lo_app as n k v h
theorem pm_args_mem : ∀ (as : List Value) (σ : Nat → Nat) (j k : Nat) (v : Value), pm_c1 as = true → as[k]? = some v → (j + k, pm_ev σ v) ∈ lv_args j (as.map (pm_ev σ))
  | [], _, _, _, _, _, h => by cases h
  | .int x :: as, σ, j, 0, v, _, h => by cases h; exact List.mem_cons_self
  | .ref x :: as, σ, j, 0, v, _, h => by cases h; exact List.mem_cons_self
  | .int x :: as, σ, j, k + 1, v, hc, h => by
    have := pm_args_mem as σ (j + 1) k v hc h
    rw [show j + (k + 1) = j + 1 + k by omega]
    exact List.mem_cons_of_mem _ this
  | .ref x :: as, σ, j, k + 1, v, hc, h => by
    have := pm_args_mem as σ (j + 1) k v hc h
    rw [show j + (k + 1) = j + 1 + k by omega]
    exact List.mem_cons_of_mem _ this
theorem pm_sl_len : ∀ (as : List Value) (σ : Nat → Nat), pm_c1 as = true → (lg_sl (as.map (pm_ev σ))).length = as.length
  | [], _, _ => rfl
  | .int x :: as, σ, h => by
    have := pm_sl_len as σ h
    simp only [lg_sl, List.map_cons, List.flatMap_cons, List.length_append, List.length_cons] at this ⊢
    rw [this]
    show 1 + as.length = as.length + 1
    omega
  | .ref x :: as, σ, h => by
    have := pm_sl_len as σ h
    simp only [lg_sl, List.map_cons, List.flatMap_cons, List.length_append, List.length_cons] at this ⊢
    rw [this]
    show 1 + as.length = as.length + 1
    omega
/-- the contract out of the walk -/
theorem pm_met {l : Launch} {D : va_G} {cI cT cS : ClassId} {σ : Nat → Nat} {N n : Nat} (hj : ∀ i j, i < N → j < N → σ i = σ j → i = j) (hG : pm_Go l D cI cT cS σ N n) {d : Nat} {M : pm_M} {y : MethodName} {cc : ByteArray} {ret : Option FieldType} {as : List Value} {h : pm_H} {Q : Option Value → pm_H → Prop}
    (hI : pm_I M y cc ret) (hc1 : pm_c1 as = true) (hle : as.length ≤ M.2.1) (hN : pm_bd M.1 ≤ N) (hR : pm_Rn n d M 0 (pm_en M as) [] h Q) (sz : Nat) :
    Met l y (pm_W0 M y cc ret) (pm_rm d) (pm_Pc D cI cT cS σ N sz as h) (pm_Qc D cI cT cS σ N (pm_A σ N sz) Q) 0 0 (pm_A σ N sz) := by
  refine Met.ofW (cc := cc) (maxL := M.2.1) (ret := ret) hI.2.1.1 rfl ?_
  intro p e s m args below meth c s₁ B hml hv
  obtain ⟨rfl, hsz, hP, hK, hGs⟩ := hv
  subst hsz
  have hts := atoms_spec (ws := pm_W0 M y cc ret) B.pre
  have hown : s.vm.findClass y.cls = some m.cls := findClass_of_methodNamed B.named
  rw [hI.2.1.2.1] at hown
  have hCx : pm_Cx D cI cT cS σ N p s m ((as.map (pm_ev σ)).toArray) meth c M y cc ret (pm_A σ N s.heap.size) := ⟨B.exec, B.bytes, B.returns, hml, fun w hw => hts w (List.mem_cons_of_mem _ hw), hown, B.notSynchronized, hK, fun q hq => Or.inr hq, hI, hN, hGs, fun h => pm_A_D hj h⟩
  have hl := lv_entry (as.map (pm_ev σ)) (n := M.2.1) (by rw [pm_sl_len as σ hc1]; exact hle)
  rw [lg_entry_eq]
  refine hG d M 0 (pm_en M as) [] h Q hR p e (pm_rm d) s m _ below meth c y cc ret hCx (Nat.le_refl _) (Nat.le_refl _) 0 0 (Nat.zero_le _) (Nat.zero_le _) _ s.heap [] ?_ hP va_S.rf
  refine ⟨hl.1, hl.2.1, pm_en_lo hle, fun k v hk => ?_⟩
  have h1 := pm_lo_app as _ k v hk
  have h2 := pm_args_mem as σ 0 k v hc1 h1
  rw [Nat.zero_add] at h2
  exact hl.2.2 _ h2
