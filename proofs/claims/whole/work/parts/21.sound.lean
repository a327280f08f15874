/-! SOUNDNESS of the pure machine: the worlds -/
def pm_ev (σ : Nat → Nat) : Value → Value
  | .ref a => .ref (σ a)
  | v => v
def pm_fw (σ : Nat → Nat) (h : pm_H) (ci o f : Nat) : Value := match pm_ft ci f with
  | 0 => .int (h o f)
  | 1 => .int (h o f)
  | 2 => va_rf ((pm_rf ci o f).map σ)
  | _ => va_rf ((pm_dec (h o f)).map σ)
def pm_nf (ci : Nat) : Nat := [8, 2, 3, 12, 3, 9, 10, 46].getD ci 0
def pm_ce (σ : Nat → Nat) (cI cT cS : ClassId) (h : pm_H) (o : Nat) : va_E := match pm_tag o with
  | 8 => .inl (cI, pm_len o, .inl (h o))
  | 9 => .inl (cT, pm_len o, .inr (.inr (.inr (.inr (fun j => (pm_rf 9 o j).map σ)))))
  | 10 => .inl (cS, pm_len o, .inr (.inr (.inr (.inr (fun j => (pm_rf 10 o j).map σ)))))
  | ci => .inr (ci, (List.range (pm_nf ci)).map (pm_fw σ h ci o))
def pm_ws (σ : Nat → Nat) (cI cT cS : ClassId) (N : Nat) (h : pm_H) : va_W := (List.range N).map (fun o => (σ o, pm_ce σ cI cT cS h o))
def pm_tys (cI cT cS : ClassId) : List (ClassId × FieldType) := [(cI, .int), (cT, .object "StairLines$Text"), (cS, .object "StairLines$Sheet")]
theorem pm_ws_get {σ : Nat → Nat} {cI cT cS : ClassId} {N : Nat} {h : pm_H} {o : Nat} (ho : o < N) : (pm_ws σ cI cT cS N h)[o]? = some (σ o, pm_ce σ cI cT cS h o) := by
  simp [pm_ws, ho]
theorem pm_ws_set {σ : Nat → Nat} {cI cT cS : ClassId} {N : Nat} {h h' : pm_H} {o : Nat} (ha : ∀ o', o' ≠ o → h' o' = h o') : (pm_ws σ cI cT cS N h).set o (σ o, pm_ce σ cI cT cS h' o) = pm_ws σ cI cT cS N h' := by
  refine List.ext_getElem? (fun k => ?_)
  rw [List.getElem?_set]
  by_cases hk : o = k
  · subst hk
    by_cases ho : o < N
    · rw [if_pos rfl, if_pos (by simpa [pm_ws] using ho), pm_ws_get ho]
    · rw [if_pos rfl, if_neg (by simpa [pm_ws] using ho)]
      symm
      rw [List.getElem?_eq_none_iff]
      simpa [pm_ws] using Nat.le_of_not_lt ho
  · rw [if_neg hk]
    by_cases ho : k < N
    · rw [pm_ws_get ho, pm_ws_get ho]
      have e := ha k (fun q => hk q.symm)
      have : pm_ce σ cI cT cS h k = pm_ce σ cI cT cS h' k := by
        unfold pm_ce
        have f : ∀ ci, pm_fw σ h ci k = pm_fw σ h' ci k := fun ci => funext (fun f => by unfold pm_fw; rw [e])
        simp only [e, f]
      rw [this]
    · rw [List.getElem?_eq_none_iff.mpr (by simpa [pm_ws] using Nat.le_of_not_lt ho), List.getElem?_eq_none_iff.mpr (by simpa [pm_ws] using Nat.le_of_not_lt ho)]
theorem pm_u_ne {h : pm_H} {o j o' : Nat} {x : Int32} (hn : o' ≠ o) : pm_u h o j x o' = h o' := if_neg hn
theorem pm_u_eq {h : pm_H} {o j : Nat} {x : Int32} : pm_u h o j x o = upd (h o) j x := if_pos rfl
theorem pm_ce_arr {σ : Nat → Nat} {cI cT cS : ClassId} {h : pm_H} {o : Nat} (ht : pm_tag o = 8) : pm_ce σ cI cT cS h o = .inl (cI, pm_len o, .inl (h o)) := by
  unfold pm_ce; rw [ht]; rfl
theorem pm_ce_obj {σ : Nat → Nat} {cI cT cS : ClassId} {h : pm_H} {o ci N : Nat} {C : String} {T : u_T} (ht : pm_tag o = ci) (hc : vwCl[ci]? = some (C, T, N)) : pm_ce σ cI cT cS h o = .inr (ci, (List.range N).map (pm_fw σ h ci o)) := by
  unfold pm_ce
  rw [ht]
  match ci, hc with
  | 0, hc => cases hc; rfl
  | 1, hc => cases hc; rfl
  | 2, hc => cases hc; rfl
  | 3, hc => cases hc; rfl
  | 4, hc => cases hc; rfl
  | 5, hc => cases hc; rfl
  | 6, hc => cases hc; rfl
  | 7, hc => cases hc; rfl
  | n + 8, hc => simp [vwCl] at hc
theorem pm_fs_set {σ : Nat → Nat} {h h' : pm_H} {ci o N f : Nat} {v : Value} (hf : f < N) (hv : pm_fw σ h' ci o f = v) (hn : ∀ k, k ≠ f → pm_fw σ h' ci o k = pm_fw σ h ci o k) : ((List.range N).map (pm_fw σ h ci o)).set f v = (List.range N).map (pm_fw σ h' ci o) := by
  refine List.ext_getElem? (fun k => ?_)
  rw [List.getElem?_set]
  by_cases hk : f = k
  · subst hk
    rw [if_pos rfl, if_pos (by simpa using hf)]
    simp [hf, hv]
  · rw [if_neg hk]
    by_cases h2 : k < N
    · simp [h2, hn k (fun q => hk q.symm)]
    · rw [List.getElem?_eq_none_iff.mpr (by simpa using Nat.le_of_not_lt h2), List.getElem?_eq_none_iff.mpr (by simpa using Nat.le_of_not_lt h2)]
theorem pm_ib_ok {c : Bool} {A : Prop} (h : pm_ib c A) : c = true ∧ A := by
  unfold pm_ib at h
  cases c with
  | true => exact ⟨rfl, h⟩
  | false => exact h.elim
theorem pm_at_ok {own o t : Nat} (h : pm_at own o t = true) : o < pm_bd own ∧ pm_tag o = t := by
  unfold pm_at at h
  simp only [Bool.and_eq_true] at h
  exact ⟨Nat.le_of_ble_eq_true h.1, Nat.eq_of_beq_eq_true h.2⟩
theorem pm_in_ok {i : Int32} {n : Nat} (h : pm_in i n = true) : vp_in i n := by
  unfold pm_in at h
  simp only [Bool.and_eq_true, Bool.not_eq_true', decide_eq_false_iff_not] at h
  have h2 : i.toNatClampNeg < n := Nat.le_of_ble_eq_true h.2
  intro q
  rcases q with q | q
  · exact h.1 q
  · omega
/-! locals -/
def pm_lh (σ : Nat → Nat) (ls : Array Slot) (n : Nat) (L : pm_L) : Prop := ls.size = n ∧ lv_wf ls ∧ L.length = n ∧ ∀ (k : Nat) (v : Value), pm_lo L k = some v → ls[k]? = some (.val (pm_ev σ v))
def pm_lv (σ : Nat → Nat) (L : pm_L) : List (Nat × Value) := (List.range L.length).filterMap (fun k => (pm_lo L k).map (fun v => (k, pm_ev σ v)))
theorem pm_lo_lt : ∀ {L : pm_L} {k : Nat} {v : Value}, pm_lo L k = some v → k < L.length
  | [], _, _, h => by cases h
  | _ :: l, 0, _, _ => Nat.succ_pos _
  | _ :: l, k + 1, v, h => Nat.succ_lt_succ (pm_lo_lt (L := l) h)
theorem pm_lv_mem {σ : Nat → Nat} {L : pm_L} {k : Nat} {w : Value} : (k, w) ∈ pm_lv σ L ↔ ∃ v, pm_lo L k = some v ∧ w = pm_ev σ v := by
  unfold pm_lv
  rw [List.mem_filterMap]
  constructor
  · rintro ⟨j, hj, e⟩
    cases e2 : pm_lo L j with
    | none => rw [e2] at e; cases e
    | some v =>
      rw [e2] at e
      simp only [Option.map_some, Option.some.injEq, Prod.mk.injEq] at e
      obtain ⟨rfl, rfl⟩ := e
      exact ⟨v, e2, rfl⟩
  · rintro ⟨v, hv, rfl⟩
    exact ⟨k, List.mem_range.mpr (pm_lo_lt hv), by rw [hv]; rfl⟩
theorem pm_lh_has {σ : Nat → Nat} {ls : Array Slot} {n : Nat} {L : pm_L} (h : pm_lh σ ls n L) : lv_has ls n (pm_lv σ L) := by
  refine ⟨h.1, h.2.1, fun q hq => ?_⟩
  obtain ⟨k, w⟩ := q
  obtain ⟨v, hv, rfl⟩ := pm_lv_mem.mp hq
  exact h.2.2.2 k v hv
theorem pm_ls_len : ∀ (L : pm_L) (i : Nat) (v : Option Value), (pm_ls L i v).length = L.length
  | [], _, _ => rfl
  | _ :: l, 0, _ => rfl
  | a :: l, 1, v => congrArg (· + 1) (pm_ls_len l 0 v)
  | a :: l, k + 2, v => congrArg (· + 1) (pm_ls_len l (k + 1) v)
theorem pm_lo_ls : ∀ (L : pm_L) (i : Nat) (v : Option Value) (k : Nat) (w : Value), pm_lo (pm_ls L i v) k = some w → (k = i ∧ v = some w) ∨ (k ≠ i ∧ pm_lo L k = some w ∧ (k + 1 = i → w.category = 1))
  | [], _, _, _, _, h => by cases h
  | a :: l, 0, v, 0, w, h => Or.inl ⟨rfl, h⟩
  | a :: l, 0, v, k + 1, w, h => Or.inr ⟨by omega, h, fun q => by omega⟩
  | a :: l, 1, v, 0, w, h => by
    have h : pm_lc a = some w := h
    cases a with
    | none => cases h
    | some z =>
      cases z with
      | long q => cases h
      | int q => cases h; exact Or.inr ⟨by omega, rfl, fun _ => rfl⟩
      | float q => cases h; exact Or.inr ⟨by omega, rfl, fun _ => rfl⟩
      | double q => cases h
      | null => cases h; exact Or.inr ⟨by omega, rfl, fun _ => rfl⟩
      | ref q => cases h; exact Or.inr ⟨by omega, rfl, fun _ => rfl⟩
      | retAddr q => cases h; exact Or.inr ⟨by omega, rfl, fun _ => rfl⟩
  | a :: l, 1, v, k + 1, w, h => by
    have h : pm_lo (pm_ls l 0 v) k = some w := h
    rcases pm_lo_ls l 0 v k w h with ⟨q1, q2⟩ | ⟨q1, q2, q3⟩
    · exact Or.inl ⟨by omega, q2⟩
    · exact Or.inr ⟨by omega, q2, fun z => by omega⟩
  | a :: l, j + 2, v, 0, w, h => Or.inr ⟨by omega, h, fun q => by omega⟩
  | a :: l, j + 2, v, k + 1, w, h => by
    have h : pm_lo (pm_ls l (j + 1) v) k = some w := h
    rcases pm_lo_ls l (j + 1) v k w h with ⟨q1, q2⟩ | ⟨q1, q2, q3⟩
    · exact Or.inl ⟨by omega, q2⟩
    · exact Or.inr ⟨by omega, q2, fun z => q3 (by omega)⟩
theorem pm_ev_cat {σ : Nat → Nat} {v : Value} : (pm_ev σ v).category = v.category := by cases v <;> rfl
theorem pm_lh_st1 {σ : Nat → Nat} {ls ls' : Array Slot} {n i : Nat} {L : pm_L} {v : Value} {v' : Value} (h : pm_lh σ ls n L) (hv : v' = pm_ev σ v) (h' : lv_has ls' n ((i, v') :: (pm_lv σ L).filter (fun q => !(q.1 == i) && !(q.1 + 1 == i && q.2.category == 2)))) : pm_lh σ ls' n (pm_ls L i (some v)) := by
  subst hv
  refine ⟨h'.1, h'.2.1, by rw [pm_ls_len]; exact h.2.2.1, fun k w hw => ?_⟩
  rcases pm_lo_ls L i (some v) k w hw with ⟨rfl, q2⟩ | ⟨q1, q2, q3⟩
  · cases q2
    exact h'.2.2 (k, pm_ev σ v) List.mem_cons_self
  · refine h'.2.2 (k, pm_ev σ w) (List.mem_cons_of_mem _ (List.mem_filter.mpr ⟨pm_lv_mem.mpr ⟨w, q2, rfl⟩, ?_⟩))
    have e1 : (k == i) = false := by simpa using q1
    have e2 : (k + 1 == i && (pm_ev σ w).category == 2) = false := by
      rw [pm_ev_cat]
      by_cases q : k + 1 = i
      · rw [q3 q]; simp
      · have : (k + 1 == i) = false := by simpa using q
        rw [this]; rfl
    simp only [e1, e2]; rfl
theorem pm_lh_st2 {σ : Nat → Nat} {ls ls' : Array Slot} {n i : Nat} {L : pm_L} {x : Int64} (h : pm_lh σ ls n L) (h' : lv_has ls' n ((i, Value.long x) :: (pm_lv σ L).filter (fun q => !(q.1 == i) && (!(q.1 == i + 1) && !(q.1 + 1 == i && q.2.category == 2))))) : pm_lh σ ls' n (pm_ls (pm_ls L (i + 1) none) i (some (.long x))) := by
  refine ⟨h'.1, h'.2.1, by rw [pm_ls_len, pm_ls_len]; exact h.2.2.1, fun k w hw => ?_⟩
  rcases pm_lo_ls _ i (some (.long x)) k w hw with ⟨rfl, q2⟩ | ⟨q1, q2, q3⟩
  · cases q2
    exact h'.2.2 (k, .long x) List.mem_cons_self
  · rcases pm_lo_ls L (i + 1) none k w q2 with ⟨-, q5⟩ | ⟨q4, q5, q6⟩
    · cases q5
    · refine h'.2.2 (k, pm_ev σ w) (List.mem_cons_of_mem _ (List.mem_filter.mpr ⟨pm_lv_mem.mpr ⟨w, q5, rfl⟩, ?_⟩))
      have e1 : (k == i) = false := by simpa using q1
      have e3 : (k == i + 1) = false := by simpa using q4
      have e2 : (k + 1 == i && (pm_ev σ w).category == 2) = false := by
        rw [pm_ev_cat]
        by_cases q : k + 1 = i
        · rw [q3 q]; simp
        · have : (k + 1 == i) = false := by simpa using q
          rw [this]; rfl
      simp only [e1, e2, e3]; rfl
/-! what stays: the class's static row, the constant texts, the JDK's switches -/
def pm_G (σ : Nat → Nat) (A : Nat → Prop) (U : State) (H : Heap) : Prop :=
  va_Z "StairLines" "UNDER" "[I" (.ref (σ 2000)) A U H ∧ va_T .int (σ 2000) 6 (fun j => .int (pm_un j)) A U H ∧
  (∃ adV : Nat → Nat, vk_S 13 (pm_sls.map List.length) (pm_sls.map (fun t => t.map (fun k => (nI k).toInt8.toInt32))) (fun k => σ (1000 + k)) adV A U H) ∧
  (∀ own idx z, pm_look (pm_ss own) idx = some z → ∃ tx, vk_R (pm_cn own) idx tx (σ (1000 + z)) U) ∧
  va_Z "java/lang/String" "COMPACT_STRINGS" "Z" (.int 1) A U H ∧ va_Zq "jdk/internal/util/Preconditions" "SIOOBE_FORMATTER" "Ljava/util/function/BiFunction;" A U H
theorem pm_G.warm {σ : Nat → Nat} {A : Nat → Prop} {u U : State} {H : Heap} (hW : u.WarmedH U.vm) (h : pm_G σ A u H) : pm_G σ A U H := by
  obtain ⟨h1, h2, ⟨v, h3⟩, h4, h5, h6⟩ := h
  exact ⟨h1.moved hW.alike, h2.moved hW.alike, ⟨v, h3.moved hW.alike⟩, fun own idx z hz => (h4 own idx z hz).imp (fun tx q => q.warm hW), h5.moved hW.alike, h6.moved hW.alike⟩
theorem pm_G.kept {σ : Nat → Nat} {A : Nat → Prop} {U : State} {H H1 : Heap} (h : pm_G σ A U H) (hq : ∀ a : Nat, a < H.size → ¬ A a → H1[a]? = H[a]?) : pm_G σ A U H1 := by
  obtain ⟨h1, h2, ⟨v, h3⟩, h4, h5, h6⟩ := h
  exact ⟨h1.kept hq, h2.kept hq, ⟨v, h3.kept hq⟩, h4, h5.kept hq, h6.kept hq⟩
theorem pm_G.narrow {σ : Nat → Nat} {A B : Nat → Prop} {U : State} {H : Heap} (h : pm_G σ A U H) (hAB : ∀ q, B q → A q) : pm_G σ B U H := by
  obtain ⟨h1, h2, ⟨v, h3⟩, h4, h5, h6⟩ := h
  exact ⟨h1.narrow hAB, h2.narrow hAB, ⟨v, h3.narrow hAB⟩, h4, h5.narrow hAB, h6.narrow hAB⟩
theorem pm_G.same {σ : Nat → Nat} {A : Nat → Prop} {u U : State} {H : Heap} (hv : U.vm = u.vm) (h : pm_G σ A u H) : pm_G σ A U H := by
  obtain ⟨h1, h2, ⟨v, h3⟩, h4, h5, h6⟩ := h
  have al : u.vm.Alike U.vm := by rw [hv]; exact Vm.Alike.refl u.vm
  exact ⟨h1.moved al, h2.moved al, ⟨v, h3.moved al⟩, fun own idx z hz => (h4 own idx z hz).imp (fun tx q => q.same hv), h5.moved al, h6.moved al⟩
/-- where a method stands -/
def pm_Cx (D : va_G) (cI cT cS : ClassId) (σ : Nat → Nat) (N : Nat) (p : Program) (s : State) (m : MethodId) (args : Array Value) (meth : Method) (c : Code) (M : pm_M) (y : MethodName) (cc : ByteArray) (ret : Option FieldType) (A : Nat → Prop) : Prop :=
  p.tables.exec = Jvm.exec ∧ c.code = cc ∧ meth.sig.returnType = ret ∧ c.maxLocals = M.2.1 ∧ (∀ w ∈ pm_w, w.before args s = true) ∧ s.vm.findClass (pm_cn M.1) = some m.cls ∧ meth.locks = false ∧ va_K D vwCl (pm_tys cI cT cS) s ∧ (∀ q : Nat, s.heap.size ≤ q → A q) ∧ pm_I M y cc ret ∧ pm_bd M.1 ≤ N ∧ pm_G σ A s s.heap ∧ ∀ h, va_D A (pm_ws σ cI cT cS N h)
theorem pm_de {M : pm_M} {y : MethodName} {cc : ByteArray} {ret : Option FieldType} {pc : Nat} {i : Instr} (hI : pm_I M y cc ret) (hl : pm_look M.2.2.2 pc = some i) (hs : pm_isw i = false) : decode cc pc = .ok (i, pm_il i) := by
  have h := List.all_eq_true.mp hI.1 _ (pm_look_mem hl)
  obtain ⟨n, h1, h2⟩ := pm_dk_ok h
  rcases h2 with rfl | h2
  · exact h1
  · rw [hs] at h2; cases h2
theorem pm_de2 {M : pm_M} {y : MethodName} {cc : ByteArray} {ret : Option FieldType} {pc : Nat} {i : Instr} (hI : pm_I M y cc ret) (hl : pm_look M.2.2.2 pc = some i) : ∃ n, decode cc pc = .ok (i, n) := by
  have h := List.all_eq_true.mp hI.1 _ (pm_look_mem hl)
  obtain ⟨n, h1, -⟩ := pm_dk_ok h
  exact ⟨n, h1⟩
theorem pm_jt {pc : Nat} {off : Int} {k : Nat → Prop} (h : pm_jm pc off k) : ∃ t : Nat, (pc : Int) + off = (t : Int) ∧ k t := by
  unfold pm_jm pm_j at h
  cases e : (pc : Int) + off with
  | ofNat t => rw [e] at h; exact ⟨t, rfl, h⟩
  | negSucc t => rw [e] at h; exact h.elim
theorem pm_o1_ok {L : pm_L} {k n : Nat} (h : pm_o1 L k = true) (hn : L.length = n) : k < n := by
  rw [← hn]
  exact Nat.le_of_ble_eq_true h
theorem pm_c1_sum : ∀ {σ : Nat → Nat} {r : List Value}, pm_c1 r = true → ((r.map (pm_ev σ)).map fun v => v.category).sum = r.length
  | _, [], _ => rfl
  | σ, .int x :: r, h => by
    have := pm_c1_sum (σ := σ) (r := r) h
    rw [List.map_cons, List.map_cons, List.sum_cons, this]
    show 1 + r.length = r.length + 1
    omega
  | σ, .ref x :: r, h => by
    have := pm_c1_sum (σ := σ) (r := r) h
    rw [List.map_cons, List.map_cons, List.sum_cons, this]
    show 1 + r.length = r.length + 1
    omega
theorem pm_sw_ok {x : Int32} {k : Int → Prop} {d : Prop} : ∀ (os : List Int) (v : Int), -100000 ≤ v → v + os.length ≤ 100000 → pm_sw os v x k d → ((x.toInt < v ∨ v + os.length ≤ x.toInt) ∧ d) ∨ (∃ o, ¬ x.toInt < v ∧ x.toInt < v + os.length ∧ os[(x.toInt - v).toNat]? = some o ∧ k o)
  | [], v, h1, h2, h => Or.inl ⟨by simp; omega, h⟩
  | o :: os, v, h1, h2, h => by
    unfold pm_sw pm_eq at h
    simp only [List.length_cons] at h2
    by_cases e : x = Int32.ofInt v
    · rw [if_pos e] at h
      have ev : x.toInt = v := by
        rw [e]
        exact Int32.toInt_ofInt_of_le (by omega) (by omega)
      refine Or.inr ⟨o, by omega, by simp only [List.length_cons]; omega, ?_, h⟩
      rw [ev, Int.sub_self]; rfl
    · rw [if_neg e] at h
      have ne : x.toInt ≠ v := by
        intro q
        apply e
        rw [← q]
        simp
      rcases pm_sw_ok os (v + 1) (by omega) (by omega) h with ⟨q1, q2⟩ | ⟨o', q1, q2, q3, q4⟩
      · exact Or.inl ⟨by simp only [List.length_cons]; omega, q2⟩
      · refine Or.inr ⟨o', by omega, by simp only [List.length_cons]; omega, ?_, q4⟩
        have : (x.toInt - v).toNat = (x.toInt - (v + 1)).toNat + 1 := by omega
        rw [this]; exact q3
theorem pm_call_ok {own kind : Nat} {M' : pm_M} {n pc : Nat} {L : pm_L} {st : List Value} {h : pm_H} {kc : Nat → pm_L → List Value → pm_H → Prop} {kk : pm_M → List Value → Nat → List Value → Prop} (hi : pm_call own kind M' n pc L st h kc kk) :
    (kind = 0 ∧ ∃ as b r, pm_tk n [] st = some (as, .ref b :: r) ∧ pm_c1 as = true ∧ pm_c1 r = true ∧ r.length ≤ 8 ∧ pm_at own b M'.1 = true ∧ kk M' (.ref b :: as) (pc + 3) r) ∨
    (kind = 1 ∧ ∃ as r, pm_tk n [] st = some (as, r) ∧ pm_c1 as = true ∧ pm_c1 r = true ∧ r.length ≤ 8 ∧ kk M' as (pc + 3) r) ∨
    (kind = 2 ∧ ∃ x y r, st = .int y :: .int x :: r ∧ pm_c1 r = true ∧ r.length ≤ 8 ∧ kc (pc + 3) L (.int (pm_op (pm_max x y)) :: r) h) ∨
    (kind = 3 ∧ ∃ x y r, st = .int y :: .int x :: r ∧ pm_c1 r = true ∧ r.length ≤ 8 ∧ kc (pc + 3) L (.int (pm_op (pm_min x y)) :: r) h) ∨
    (kind = 4 ∧ ∃ z dp b sp a r, st = .int z :: .int dp :: .ref b :: .int sp :: .ref a :: r ∧ pm_c1 r = true ∧ r.length ≤ 8 ∧ pm_at own a 8 = true ∧ pm_at own b 8 = true ∧ pm_ck sp dp z (pm_len a) (pm_len b) = true ∧ kc (pc + 3) L r (pm_cp h a sp.toNatClampNeg b dp.toNatClampNeg z.toNatClampNeg)) ∨
    (kind = 5 ∧ ∃ b r, st = .ref b :: r ∧ pm_c1 r = true ∧ r.length ≤ 8 ∧ pm_sb b = true ∧ kc (pc + 3) L (.int (nI (pm_sl (b - 1000)).length) :: r) h) ∨
    (kind = 6 ∧ ∃ j b r, st = .int j :: .ref b :: r ∧ pm_c1 r = true ∧ r.length ≤ 8 ∧ pm_sb b = true ∧ pm_in j (pm_sl (b - 1000)).length = true ∧ kc (pc + 3) L (.int (nI ((pm_sl (b - 1000)).getD j.toNatClampNeg 0)) :: r) h) := by
  unfold pm_call at hi
  split at hi
  · split at hi
    · rename_i as b r htk
      obtain ⟨g1, hi⟩ := pm_ib_ok hi
      obtain ⟨g2, hi⟩ := pm_ib_ok hi
      simp only [Bool.and_eq_true] at g1
      exact Or.inl ⟨rfl, as, b, r, htk, g1.1.1, g1.1.2, Nat.le_of_ble_eq_true g1.2, g2, hi⟩
    · exact hi.elim
  · split at hi
    · rename_i as r htk
      obtain ⟨g1, hi⟩ := pm_ib_ok hi
      simp only [Bool.and_eq_true] at g1
      exact Or.inr (Or.inl ⟨rfl, as, r, htk, g1.1.1, g1.1.2, Nat.le_of_ble_eq_true g1.2, hi⟩)
    · exact hi.elim
  · split at hi
    · obtain ⟨g1, hi⟩ := pm_ib_ok hi
      simp only [Bool.and_eq_true] at g1
      exact Or.inr (Or.inr (Or.inl ⟨rfl, _, _, _, rfl, g1.1, Nat.le_of_ble_eq_true g1.2, hi⟩))
    · exact hi.elim
  · split at hi
    · obtain ⟨g1, hi⟩ := pm_ib_ok hi
      simp only [Bool.and_eq_true] at g1
      exact Or.inr (Or.inr (Or.inr (Or.inl ⟨rfl, _, _, _, rfl, g1.1, Nat.le_of_ble_eq_true g1.2, hi⟩)))
    · exact hi.elim
  · split at hi
    · obtain ⟨g1, hi⟩ := pm_ib_ok hi
      obtain ⟨g2, hi⟩ := pm_ib_ok hi
      obtain ⟨g3, hi⟩ := pm_ib_ok hi
      obtain ⟨g4, hi⟩ := pm_ib_ok hi
      simp only [Bool.and_eq_true] at g1
      exact Or.inr (Or.inr (Or.inr (Or.inr (Or.inl ⟨rfl, _, _, _, _, _, _, rfl, g1.1, Nat.le_of_ble_eq_true g1.2, g2, g3, g4, hi⟩))))
    · exact hi.elim
  · split at hi
    · obtain ⟨g1, hi⟩ := pm_ib_ok hi
      obtain ⟨g2, hi⟩ := pm_ib_ok hi
      simp only [Bool.and_eq_true] at g1
      exact Or.inr (Or.inr (Or.inr (Or.inr (Or.inr (Or.inl ⟨rfl, _, _, rfl, g1.1, Nat.le_of_ble_eq_true g1.2, g2, hi⟩)))))
    · exact hi.elim
  · split at hi
    · obtain ⟨g1, hi⟩ := pm_ib_ok hi
      obtain ⟨g2, hi⟩ := pm_ib_ok hi
      obtain ⟨g3, hi⟩ := pm_ib_ok hi
      simp only [Bool.and_eq_true] at g1
      exact Or.inr (Or.inr (Or.inr (Or.inr (Or.inr (Or.inr ⟨rfl, _, _, _, rfl, g1.1, Nat.le_of_ble_eq_true g1.2, g2, g3, hi⟩)))))
    · exact hi.elim
  · exact hi.elim
theorem pm_b01_ok {x : Int32} (h : pm_b01 x = true) : narrow .boolean (.int x) = .int x ∧ fits .boolean (.int x) = true := by
  unfold pm_b01 at h
  simp only [Bool.or_eq_true, decide_eq_true_eq] at h
  rcases h with rfl | rfl <;> exact ⟨by decide, by decide⟩
theorem pm_tk_go : ∀ {n : Nat} {acc st as st' : List Value}, pm_tk n acc st = some (as, st') → ∃ ts : List Value, ts.length = n ∧ st = ts ++ st' ∧ as = ts.reverse ++ acc
  | 0, acc, st, as, st', h => by
    cases h
    exact ⟨[], rfl, rfl, rfl⟩
  | n + 1, acc, [], as, st', h => by cases h
  | n + 1, acc, v :: st, as, st', h => by
    obtain ⟨ts, h1, h2, h3⟩ := pm_tk_go (n := n) (acc := v :: acc) (st := st) h
    refine ⟨v :: ts, by simp [h1], by rw [h2]; rfl, ?_⟩
    rw [h3]; simp
theorem pm_tk_ok {n : Nat} {st as st' : List Value} (h : pm_tk n [] st = some (as, st')) : as.length = n ∧ st = as.reverse ++ st' := by
  obtain ⟨ts, h1, h2, h3⟩ := pm_tk_go h
  rw [List.append_nil] at h3
  subst h3
  refine ⟨by simp [h1], ?_⟩
  rw [List.reverse_reverse]; exact h2
theorem pm_nl {x y : Int32} (h : y ≤ x) : ¬ x < y := Int32.not_lt.mpr h
theorem pm_nr {x y : Int32} (h : ¬ y ≤ x) : x < y := Int32.not_le.mp h
set_option maxHeartbeats 4000000 in
set_option maxRecDepth 20000 in
theorem pm_ins_sd {D : va_G} {cI cT cS : ClassId} {σ : Nat → Nat} {N : Nat} {p : Program} {l : Launch} {e : Env} {R : Room} {s : State} {m : MethodId} {args : Array Value} {below : List Frame} {meth : Method} {c : Code} {M : pm_M} {y : MethodName} {cc : ByteArray} {ret : Option FieldType} {A : Nat → Prop} {QQ : State → Prop} {cells slots : Nat}
    (Cx : pm_Cx D cI cT cS σ N p s m args meth c M y cc ret A) (hRf : 6 ≤ R.frames) (hRl : 300 ≤ R.locals) (hcl : cells ≤ R.cells) (hsl : slots ≤ R.slots)
    {i : Instr} {pc : Nat} {L : pm_L} {st : List Value} {h : pm_H} {kc : Nat → pm_L → List Value → pm_H → Prop} {kk : pm_M → List Value → Nat → List Value → Prop} {kr : Option Value → Prop} {ls : Array Slot} {H : Heap} {locs : List Loc}
    (hl : pm_look M.2.2.2 pc = some i) (hi : pm_ins M i pc L st h kc kk kr) (hL : pm_lh σ ls M.2.1 L) (hP : va_P D vwCl (pm_ws σ cI cT cS N h) H) (hS : va_S A s.heap H locs)
    (hc : ∀ (pc' : Nat) (L' : pm_L) (st' : List Value) (h' : pm_H) (ls' : Array Slot) (H' : Heap) (locs' : List Loc), kc pc' L' st' h' → pm_lh σ ls' M.2.1 L' → va_P D vwCl (pm_ws σ cI cT cS N h') H' → va_S A s.heap H' locs' → W p l e R s m args below meth c H' locs' cells slots QQ (F0 m pc' ls' (st'.map (pm_ev σ))))
    (hkV : ∀ (idx : Nat) (M' : pm_M) (n : Nat) (as : List Value) (b : Nat) (r : List Value), i = .invokevirtual idx → pm_ok0 M.1 idx M' n → st = as.reverse ++ .ref b :: r → as.length = n → pm_at M.1 b M'.1 = true → pm_c1 as = true → pm_c1 r = true → r.length ≤ 8 → kk M' (.ref b :: as) (pc + 3) r → W p l e R s m args below meth c H locs cells slots QQ (F0 m pc ls (st.map (pm_ev σ))))
    (hkS : ∀ (idx : Nat) (M' : pm_M) (n : Nat) (as : List Value) (r : List Value), i = .invokestatic idx → pm_ok1 M.1 idx M' n → st = as.reverse ++ r → as.length = n → pm_c1 as = true → pm_c1 r = true → r.length ≤ 8 → kk M' as (pc + 3) r → W p l e R s m args below meth c H locs cells slots QQ (F0 m pc ls (st.map (pm_ev σ))))
    (hk5 : ∀ (idx b : Nat) (r : List Value), i = .invokevirtual idx → Cond.methodLink (pm_cn M.1) idx yJ0_length_8abf5 ∈ pm_w → st = .ref b :: r → pm_sb b = true → pm_c1 r = true → r.length ≤ 8 → W p l e R s m args below meth c H locs cells slots QQ (F0 m (pc + 3) ls ((Value.int (nI (pm_sl (b - 1000)).length) :: r).map (pm_ev σ))) → W p l e R s m args below meth c H locs cells slots QQ (F0 m pc ls (st.map (pm_ev σ))))
    (hk6 : ∀ (idx b : Nat) (j : Int32) (r : List Value), i = .invokevirtual idx → Cond.methodLink (pm_cn M.1) idx yJ0_charAt_5068e ∈ pm_w → st = .int j :: .ref b :: r → pm_sb b = true → pm_in j (pm_sl (b - 1000)).length = true → pm_c1 r = true → r.length ≤ 8 → W p l e R s m args below meth c H locs cells slots QQ (F0 m (pc + 3) ls ((Value.int (nI ((pm_sl (b - 1000)).getD j.toNatClampNeg 0)) :: r).map (pm_ev σ))) → W p l e R s m args below meth c H locs cells slots QQ (F0 m pc ls (st.map (pm_ev σ))))
    (hr : ∀ v : Option Value, kr v → (i = .ireturn ∧ (∃ x : Int32, v = some (.int x) ∧ st = [.int x] ∧ (M.2.2.1 = 1 ∨ (M.2.2.1 = 2 ∧ pm_b01 x = true)))) ∨ (i = .areturn ∧ (∃ x : Nat, v = some (.ref x) ∧ st = [.ref x] ∧ M.2.2.1 = 3)) ∨ (i = .return_ ∧ v = none ∧ st = [] ∧ M.2.2.1 = 0) → W p l e R s m args below meth c H locs cells slots QQ (F0 m pc ls (st.map (pm_ev σ)))) :
    W p l e R s m args below meth c H locs cells slots QQ (F0 m pc ls (st.map (pm_ev σ))) := by
  obtain ⟨hx, hb, hret, hml, hts, hown, hlocks, hK, hA, hI, hN, hG, hD⟩ := id Cx
  cases i with
  | aload_n k =>
    dsimp only [pm_ins] at hi
    split at hi
    · rename_i a ha
      refine lv_aload_n hx hb (pm_de hI hl rfl) rfl (hL.2.2.2 _ _ ha) ?_
      exact hc _ _ _ _ _ _ _ hi hL hP hS
    · exact hi.elim
  | aload k =>
    dsimp only [pm_ins] at hi
    split at hi
    · rename_i a ha
      refine lv_aload hx hb (pm_de hI hl rfl) (hL.2.2.2 _ _ ha) ?_
      exact hc _ _ _ _ _ _ _ hi hL hP hS
    · exact hi.elim
  | iload_n k =>
    dsimp only [pm_ins] at hi
    split at hi
    · rename_i a ha
      refine lv_iload_n hx hb (pm_de hI hl rfl) rfl (hL.2.2.2 _ _ ha) ?_
      exact hc _ _ _ _ _ _ _ hi hL hP hS
    · exact hi.elim
  | iload k =>
    dsimp only [pm_ins] at hi
    split at hi
    · rename_i a ha
      refine lv_iload hx hb (pm_de hI hl rfl) (hL.2.2.2 _ _ ha) ?_
      exact hc _ _ _ _ _ _ _ hi hL hP hS
    · exact hi.elim
  | lload k =>
    dsimp only [pm_ins] at hi
    split at hi
    · rename_i a ha
      refine lv_lload hx hb (pm_de hI hl rfl) (hL.2.2.2 _ _ ha) ?_
      exact hc _ _ _ _ _ _ _ hi hL hP hS
    · exact hi.elim
  | istore_n k =>
    dsimp only [pm_ins] at hi
    split at hi
    · rename_i x r
      obtain ⟨ho, hi⟩ := pm_ib_ok hi
      refine lv_istore_n hx hb (pm_de hI hl rfl) rfl (pm_lh_has hL) (pm_o1_ok ho hL.2.2.1) rfl (fun ls' hl' => ?_)
      exact hc _ _ _ _ _ _ _ hi (pm_lh_st1 hL rfl hl') hP hS
    · exact hi.elim
  | istore k =>
    dsimp only [pm_ins] at hi
    split at hi
    · rename_i x r
      obtain ⟨ho, hi⟩ := pm_ib_ok hi
      refine lv_istore hx hb (pm_de hI hl rfl) (pm_lh_has hL) (pm_o1_ok ho hL.2.2.1) rfl (fun ls' hl' => ?_)
      exact hc _ _ _ _ _ _ _ hi (pm_lh_st1 hL rfl hl') hP hS
    · exact hi.elim
  | astore_n k =>
    dsimp only [pm_ins] at hi
    split at hi
    · rename_i x r
      obtain ⟨ho, hi⟩ := pm_ib_ok hi
      refine lv_astore_n hx hb (pm_de hI hl rfl) rfl (pm_lh_has hL) (pm_o1_ok ho hL.2.2.1) rfl (fun ls' hl' => ?_)
      exact hc _ _ _ _ _ _ _ hi (pm_lh_st1 hL rfl hl') hP hS
    · exact hi.elim
  | astore k =>
    dsimp only [pm_ins] at hi
    split at hi
    · rename_i x r
      obtain ⟨ho, hi⟩ := pm_ib_ok hi
      refine lv_astore hx hb (pm_de hI hl rfl) (pm_lh_has hL) (pm_o1_ok ho hL.2.2.1) rfl (fun ls' hl' => ?_)
      exact hc _ _ _ _ _ _ _ hi (pm_lh_st1 hL rfl hl') hP hS
    · exact hi.elim
  | lstore k =>
    dsimp only [pm_ins] at hi
    split at hi
    · rename_i x r
      obtain ⟨ho, hi⟩ := pm_ib_ok hi
      simp only [Bool.and_eq_true] at ho
      have h2 : k + 1 < L.length := Nat.le_of_ble_eq_true ho.2
      refine lv_lstore hx hb (pm_de hI hl rfl) (pm_lh_has hL) (by rw [← hL.2.2.1]; exact h2) rfl (fun ls' hl' => ?_)
      exact hc _ _ _ _ _ _ _ hi (pm_lh_st2 hL hl') hP hS
    · exact hi.elim
  | iinc k n =>
    dsimp only [pm_ins] at hi
    split at hi
    · rename_i x hx2
      obtain ⟨ho, hi⟩ := pm_ib_ok hi
      obtain ⟨j, hj⟩ := List.getElem?_of_mem (pm_lv_mem (σ := σ).mpr ⟨_, hx2, rfl⟩)
      refine lv_iinc hx hb (pm_de hI hl rfl) (pm_lh_has hL) (k := j) hj (pm_op_eq _).symm (pm_o1_ok ho hL.2.2.1) rfl (fun ls' hl' => ?_)
      exact hc _ _ _ _ _ _ _ hi (pm_lh_st1 hL rfl hl') hP hS
    · exact hi.elim
  | iconst n =>
    refine lv_iconst hx hb (pm_de hI hl rfl) rfl ?_
    exact hc _ _ _ _ _ _ _ hi hL hP hS
  | bipush n =>
    refine lv_bipush hx hb (pm_de hI hl rfl) rfl ?_
    exact hc _ _ _ _ _ _ _ hi hL hP hS
  | sipush n =>
    refine lv_sipush hx hb (pm_de hI hl rfl) rfl ?_
    exact hc _ _ _ _ _ _ _ hi hL hP hS
  | lconst n =>
    refine lv_lconst hx hb (pm_de hI hl rfl) rfl ?_
    exact hc _ _ _ _ _ _ _ hi hL hP hS
  | iadd =>
    dsimp only [pm_ins] at hi
    split at hi
    · rename_i y x r
      refine lv_iadd hx hb (pm_de hI hl rfl) ?_
      rw [← pm_op_eq (x + y)]
      exact hc _ _ _ _ _ _ _ hi hL hP hS
    · exact hi.elim
  | isub =>
    dsimp only [pm_ins] at hi
    split at hi
    · rename_i y x r
      refine lv_isub hx hb (pm_de hI hl rfl) ?_
      rw [← pm_op_eq (x - y)]
      exact hc _ _ _ _ _ _ _ hi hL hP hS
    · exact hi.elim
  | imul =>
    dsimp only [pm_ins] at hi
    split at hi
    · rename_i y x r
      refine lv_imul hx hb (pm_de hI hl rfl) ?_
      rw [← pm_op_eq (x * y)]
      exact hc _ _ _ _ _ _ _ hi hL hP hS
    · exact hi.elim
  | ladd =>
    dsimp only [pm_ins] at hi
    split at hi
    · rename_i y x r
      refine lv_ladd hx hb (pm_de hI hl rfl) ?_
      rw [← pm_ol_eq (x + y)]
      exact hc _ _ _ _ _ _ _ hi hL hP hS
    · exact hi.elim
  | lmul =>
    dsimp only [pm_ins] at hi
    split at hi
    · rename_i y x r
      refine lv_lmul hx hb (pm_de hI hl rfl) ?_
      rw [← pm_ol_eq (x * y)]
      exact hc _ _ _ _ _ _ _ hi hL hP hS
    · exact hi.elim
  | idiv =>
    dsimp only [pm_ins] at hi
    split at hi
    · rename_i y x r
      unfold pm_nz at hi
      by_cases hz : y = 0
      · rw [if_pos hz] at hi; exact hi.elim
      · rw [if_neg hz] at hi
        refine lv_idiv hx hb (pm_de hI hl rfl) hz ?_
        rw [← pm_op_eq (x / y)]
        exact hc _ _ _ _ _ _ _ hi hL hP hS
    · exact hi.elim
  | irem =>
    dsimp only [pm_ins] at hi
    split at hi
    · rename_i y x r
      unfold pm_nz at hi
      by_cases hz : y = 0
      · rw [if_pos hz] at hi; exact hi.elim
      · rw [if_neg hz] at hi
        refine lv_irem hx hb (pm_de hI hl rfl) hz ?_
        rw [← pm_op_eq (x - x / y * y)]
        exact hc _ _ _ _ _ _ _ hi hL hP hS
    · exact hi.elim
  | ineg =>
    dsimp only [pm_ins] at hi
    split at hi
    · rename_i x r
      refine lv_ineg hx hb (pm_de hI hl rfl) ?_
      rw [← pm_op_eq (-x)]
      exact hc _ _ _ _ _ _ _ hi hL hP hS
    · exact hi.elim
  | i2b =>
    dsimp only [pm_ins] at hi
    split at hi
    · rename_i x r
      refine lv_i2b hx hb (pm_de hI hl rfl) rfl ?_
      rw [← pm_op_eq (x.toInt8.toInt32)]
      exact hc _ _ _ _ _ _ _ hi hL hP hS
    · exact hi.elim
  | i2s =>
    dsimp only [pm_ins] at hi
    split at hi
    · rename_i x r
      refine lv_i2s hx hb (pm_de hI hl rfl) rfl ?_
      rw [← pm_op_eq (x.toInt16.toInt32)]
      exact hc _ _ _ _ _ _ _ hi hL hP hS
    · exact hi.elim
  | i2l =>
    dsimp only [pm_ins] at hi
    split at hi
    · rename_i x r
      refine lv_i2l hx hb (pm_de hI hl rfl) rfl ?_
      rw [← pm_ol_eq (x.toInt64)]
      exact hc _ _ _ _ _ _ _ hi hL hP hS
    · exact hi.elim
  | l2i =>
    dsimp only [pm_ins] at hi
    split at hi
    · rename_i x r
      refine lv_l2i hx hb (pm_de hI hl rfl) rfl ?_
      rw [← pm_op_eq (x.toInt32)]
      exact hc _ _ _ _ _ _ _ hi hL hP hS
    · exact hi.elim
  | iushr =>
    dsimp only [pm_ins] at hi
    split at hi
    · rename_i y x r
      refine lv_iushr hx hb (pm_de hI hl rfl) (pm_op_eq (pm_ushr x y)).symm ?_
      exact hc _ _ _ _ _ _ _ hi hL hP hS
    · exact hi.elim
  | lcmp =>
    dsimp only [pm_ins] at hi
    split at hi
    · rename_i y x r
      refine W.lcmp hx hb (pm_de hI hl rfl) ?_
      rw [← pm_op_eq (lg_cmp x y)]
      exact hc _ _ _ _ _ _ _ hi hL hP hS
    · exact hi.elim
  | dup =>
    dsimp only [pm_ins] at hi
    split at hi
    · refine lv_dup hx hb (pm_de hI hl rfl) rfl ?_
      exact hc _ _ _ _ _ _ _ hi hL hP hS
    · refine lv_dup hx hb (pm_de hI hl rfl) rfl ?_
      exact hc _ _ _ _ _ _ _ hi hL hP hS
    · exact hi.elim
  | pop =>
    dsimp only [pm_ins] at hi
    split at hi
    · refine lv_pop hx hb (pm_de hI hl rfl) rfl ?_
      exact hc _ _ _ _ _ _ _ hi hL hP hS
    · refine lv_pop hx hb (pm_de hI hl rfl) rfl ?_
      exact hc _ _ _ _ _ _ _ hi hL hP hS
    · exact hi.elim
  | dup_x1 =>
    dsimp only [pm_ins] at hi
    split at hi
    · refine lv_dup_x1 hx hb (pm_de hI hl rfl) rfl rfl ?_
      exact hc _ _ _ _ _ _ _ hi hL hP hS
    · exact hi.elim
  | dup2 =>
    dsimp only [pm_ins] at hi
    split at hi
    · refine lv_dup2_11 hx hb (pm_de hI hl rfl) rfl rfl ?_
      exact hc _ _ _ _ _ _ _ hi hL hP hS
    · exact hi.elim
  | goto off =>
    obtain ⟨t, ht, hi⟩ := pm_jt hi
    refine lv_goto hx hb (pm_de hI hl rfl) ht ?_
    exact hc _ _ _ _ _ _ _ hi hL hP hS
  | ifnull off =>
    dsimp only [pm_ins] at hi
    split at hi
    · refine lv_ifnull hx hb (pm_de hI hl rfl) ?_
      exact hc _ _ _ _ _ _ _ hi hL hP hS
    · exact hi.elim
  | ifCond cd off =>
    dsimp only [pm_ins] at hi
    split at hi
    · rename_i x r
      obtain ⟨t, ht, hi⟩ := pm_jt hi
      cases cd with
      | eq =>
        simp only [pm_ic, pm_eq] at hi
        refine lv_if_eq hx hb (pm_de hI hl rfl) ht (fun q => ?_) (fun q => ?_)
        · rw [if_pos q] at hi; exact hc _ _ _ _ _ _ _ hi hL hP hS
        · rw [if_neg q] at hi; exact hc _ _ _ _ _ _ _ hi hL hP hS
      | ne =>
        simp only [pm_ic, pm_eq] at hi
        refine lv_if_ne hx hb (pm_de hI hl rfl) ht (fun q => ?_) (fun q => ?_)
        · rw [if_neg q] at hi; exact hc _ _ _ _ _ _ _ hi hL hP hS
        · rw [if_pos q] at hi; exact hc _ _ _ _ _ _ _ hi hL hP hS
      | lt =>
        simp only [pm_ic, pm_lt] at hi
        refine lv_if_lt hx hb (pm_de hI hl rfl) ht (fun q => ?_) (fun q => ?_)
        · rw [if_pos q] at hi; exact hc _ _ _ _ _ _ _ hi hL hP hS
        · rw [if_neg q] at hi; exact hc _ _ _ _ _ _ _ hi hL hP hS
      | ge =>
        simp only [pm_ic, pm_lt] at hi
        refine lv_if_ge hx hb (pm_de hI hl rfl) ht (fun q => ?_) (fun q => ?_)
        · rw [if_neg (pm_nl q)] at hi; exact hc _ _ _ _ _ _ _ hi hL hP hS
        · rw [if_pos (pm_nr q)] at hi; exact hc _ _ _ _ _ _ _ hi hL hP hS
      | gt =>
        simp only [pm_ic, pm_lt] at hi
        refine lv_if_gt hx hb (pm_de hI hl rfl) ht (fun q => ?_) (fun q => ?_)
        · rw [if_pos q] at hi; exact hc _ _ _ _ _ _ _ hi hL hP hS
        · rw [if_neg q] at hi; exact hc _ _ _ _ _ _ _ hi hL hP hS
      | le =>
        simp only [pm_ic, pm_lt] at hi
        refine lv_if_le hx hb (pm_de hI hl rfl) ht (fun q => ?_) (fun q => ?_)
        · rw [if_neg (pm_nl q)] at hi; exact hc _ _ _ _ _ _ _ hi hL hP hS
        · rw [if_pos (pm_nr q)] at hi; exact hc _ _ _ _ _ _ _ hi hL hP hS
    · exact hi.elim
  | if_icmp cd off =>
    dsimp only [pm_ins] at hi
    split at hi
    · rename_i y x r
      obtain ⟨t, ht, hi⟩ := pm_jt hi
      cases cd with
      | eq =>
        simp only [pm_ic, pm_eq] at hi
        refine lv_icmp_eq hx hb (pm_de hI hl rfl) ht (fun q => ?_) (fun q => ?_)
        · rw [if_pos q] at hi; exact hc _ _ _ _ _ _ _ hi hL hP hS
        · rw [if_neg q] at hi; exact hc _ _ _ _ _ _ _ hi hL hP hS
      | ne =>
        simp only [pm_ic, pm_eq] at hi
        refine lv_icmp_ne hx hb (pm_de hI hl rfl) ht (fun q => ?_) (fun q => ?_)
        · rw [if_neg q] at hi; exact hc _ _ _ _ _ _ _ hi hL hP hS
        · rw [if_pos q] at hi; exact hc _ _ _ _ _ _ _ hi hL hP hS
      | lt =>
        simp only [pm_ic, pm_lt] at hi
        refine lv_icmp_lt hx hb (pm_de hI hl rfl) ht (fun q => ?_) (fun q => ?_)
        · rw [if_pos q] at hi; exact hc _ _ _ _ _ _ _ hi hL hP hS
        · rw [if_neg q] at hi; exact hc _ _ _ _ _ _ _ hi hL hP hS
      | ge =>
        simp only [pm_ic, pm_lt] at hi
        refine lv_icmp_ge hx hb (pm_de hI hl rfl) ht (fun q => ?_) (fun q => ?_)
        · rw [if_neg (pm_nl q)] at hi; exact hc _ _ _ _ _ _ _ hi hL hP hS
        · rw [if_pos (pm_nr q)] at hi; exact hc _ _ _ _ _ _ _ hi hL hP hS
      | gt =>
        simp only [pm_ic, pm_lt] at hi
        refine lv_icmp_gt hx hb (pm_de hI hl rfl) ht (fun q => ?_) (fun q => ?_)
        · rw [if_pos q] at hi; exact hc _ _ _ _ _ _ _ hi hL hP hS
        · rw [if_neg q] at hi; exact hc _ _ _ _ _ _ _ hi hL hP hS
      | le =>
        simp only [pm_ic, pm_lt] at hi
        refine lv_icmp_le hx hb (pm_de hI hl rfl) ht (fun q => ?_) (fun q => ?_)
        · rw [if_neg (pm_nl q)] at hi; exact hc _ _ _ _ _ _ _ hi hL hP hS
        · rw [if_pos (pm_nr q)] at hi; exact hc _ _ _ _ _ _ _ hi hL hP hS
    · exact hi.elim
  | ldc k =>
    dsimp only [pm_ins] at hi
    split at hi
    · rename_i x hz
      refine lv_ldc hx hb hown (hts _ (pm_csok hz)) (pm_de hI hl rfl) ?_
      exact hc _ _ _ _ _ _ _ hi hL hP hS
    · split at hi
      · rename_i z hz
        obtain ⟨tx, hz2⟩ := hG.2.2.2.1 _ _ _ hz
        refine va_ldcS hx hb hown hz2 (pm_de hI hl rfl) ?_
        exact hc _ _ _ _ _ _ _ hi hL hP hS
      · exact hi.elim
  | ldc_w k =>
    dsimp only [pm_ins] at hi
    split at hi
    · rename_i x hz
      refine lv_ldcw hx hb hown (hts _ (pm_csok hz)) (pm_de hI hl rfl) ?_
      exact hc _ _ _ _ _ _ _ hi hL hP hS
    · exact hi.elim
  | ldc2_w k =>
    dsimp only [pm_ins] at hi
    split at hi
    · rename_i x hz
      refine lv_ldc2 hx hb hown (hts _ (pm_clok hz)) (pm_de hI hl rfl) ?_
      exact hc _ _ _ _ _ _ _ hi hL hP hS
    · exact hi.elim
  | tableswitch dflt lo hg offs =>
    dsimp only [pm_ins] at hi
    split at hi
    · rename_i x r
      obtain ⟨ho, hi⟩ := pm_ib_ok hi
      simp only [Bool.and_eq_true, decide_eq_true_eq] at ho
      obtain ⟨⟨⟨h1, h2⟩, h3⟩, h4⟩ := ho
      have h4 : offs.size < 1000 := Nat.le_of_ble_eq_true h4
      obtain ⟨n, hd⟩ := pm_de2 hI hl
      have hlen : offs.toList.length = offs.size := Array.length_toList
      rcases pm_sw_ok offs.toList lo (by omega) (by rw [hlen]; omega) hi with ⟨q1, q2⟩ | ⟨o, q1, q2, q3, q4⟩
      · obtain ⟨t, ht, hi⟩ := pm_jt q2
        refine lv_tableOut hx hb hd (by rw [hlen] at q1; omega) ht ?_
        exact hc _ _ _ _ _ _ _ hi hL hP hS
      · obtain ⟨t, ht, hi⟩ := pm_jt q4
        refine lv_tableIn hx hb hd q1 (by rw [hlen] at q2; omega) (by rw [← Array.getElem?_toList]; exact q3) ht ?_
        exact hc _ _ _ _ _ _ _ hi hL hP hS
    · exact hi.elim
  | lookupswitch dflt ps =>
    dsimp only [pm_ins] at hi
    split at hi
    · rename_i x r
      obtain ⟨ho, hi⟩ := pm_ib_ok hi
      have ho := of_decide_eq_true ho
      subst ho
      obtain ⟨n, hd⟩ := pm_de2 hI hl
      unfold pm_lk pm_eq at hi
      by_cases e0 : x = Int32.ofInt 0
      · rw [if_pos e0] at hi
        obtain ⟨t, ht, hi⟩ := pm_jt hi
        refine lv_lookup (off := 27) hx hb hd (by decide) (by rw [e0]; rfl) ht ?_
        exact hc _ _ _ _ _ _ _ hi hL hP hS
      · rw [if_neg e0] at hi
        unfold pm_lk pm_eq at hi
        by_cases e1 : x = Int32.ofInt 1
        · rw [if_pos e1] at hi
          obtain ⟨t, ht, hi⟩ := pm_jt hi
          refine lv_lookup (off := 32) hx hb hd (by decide) (by rw [e1]; rfl) ht ?_
          exact hc _ _ _ _ _ _ _ hi hL hP hS
        · rw [if_neg e1] at hi
          unfold pm_lk at hi
          obtain ⟨t, ht, hi⟩ := pm_jt hi
          have n0 : ¬ x.toInt = 0 := fun q => e0 (Int32.toInt_inj.mp (by rw [q]; rfl))
          have n1 : ¬ x.toInt = 1 := fun q => e1 (Int32.toInt_inj.mp (by rw [q]; rfl))
          refine lv_lookup (off := dflt) hx hb hd (by decide) (by simp [lookupswitch.offset, n0, n1, Ne.symm n0, Ne.symm n1, eq_comm]) ht ?_
          exact hc _ _ _ _ _ _ _ hi hL hP hS
    · exact hi.elim
  | getfield k =>
    dsimp only [pm_ins] at hi
    split at hi
    · rename_i o r
      split at hi
      · rename_i ci f hz
        obtain ⟨ho, hi⟩ := pm_ib_ok hi
        obtain ⟨hob, htag⟩ := pm_at_ok ho
        obtain ⟨C, T, NN, ty0, q1, q2, q3, q4, q5, q6, q7, q8, q9, q10⟩ := pm_fall hz
        dsimp only at q1 q2 q3 q4 q8 q9 q10
        have he : (pm_ws σ cI cT cS N h)[o]? = some (σ o, .inr (ci, (List.range NN).map (pm_fw σ h ci o))) := by
          rw [pm_ws_get (Nat.lt_of_lt_of_le hob hN), pm_ce_obj htag q1]
        have hv : ((List.range NN).map (pm_fw σ h ci o))[f]? = some (pm_fw σ h ci o f) := by simp [q2]
        refine va_get hx hb hts q5 hown hK hP o he q1 f q2 (hts _ q4) (fun x hx2 => by rw [q3] at hx2; exact hx2) hv (pm_de hI hl rfl) ?_
        unfold pm_fk at hi
        unfold pm_fw
        split at hi
        · rename_i hq
          rw [hq]; exact hc _ _ _ _ _ _ _ hi hL hP hS
        · rename_i hq
          rw [hq]; exact hc _ _ _ _ _ _ _ hi hL hP hS
        · rename_i hq
          rw [hq]
          cases e : pm_rf ci o f with
          | none => rw [e] at hi; exact hi.elim
          | some z => rw [e] at hi; exact hc _ _ _ _ _ _ _ hi hL hP hS
        · rename_i hq
          rw [hq]
          cases e : pm_dec (h o f) with
          | none => rw [e] at hi; exact hi.elim
          | some z => rw [e] at hi; exact hc _ _ _ _ _ _ _ hi hL hP hS
        · exact hi.elim
      · exact hi.elim
    · exact hi.elim
  | putfield k =>
    dsimp only [pm_ins] at hi
    split at hi
    · rename_i x o r
      split at hi
      · rename_i ci f hz
        obtain ⟨ho, hi⟩ := pm_ib_ok hi
        obtain ⟨hf, hi⟩ := pm_ib_ok hi
        obtain ⟨hob, htag⟩ := pm_at_ok ho
        obtain ⟨C, T, NN, ty0, q1, q2, q3, q4, q5, q6, q7, q8, q9, q10⟩ := pm_fall hz
        dsimp only at q1 q2 q3 q4 q8 q9 q10
        have he : (pm_ws σ cI cT cS N h)[o]? = some (σ o, .inr (ci, (List.range NN).map (pm_fw σ h ci o))) := by
          rw [pm_ws_get (Nat.lt_of_lt_of_le hob hN), pm_ce_obj htag q1]
        have hft : pm_ft ci f = 0 ∨ (pm_ft ci f = 1 ∧ pm_b01 x = true) := by
          simp only [Bool.or_eq_true, Bool.and_eq_true] at hf
          exact hf.imp (fun z => Nat.eq_of_beq_eq_true z) (fun z => ⟨Nat.eq_of_beq_eq_true z.1, z.2⟩)
        have hset : (pm_ws σ cI cT cS N h).set o (σ o, .inr (ci, ((List.range NN).map (pm_fw σ h ci o)).set f (.int x))) = pm_ws σ cI cT cS N (pm_u h o f x) := by
          rw [← pm_ws_set (h := h) (h' := pm_u h o f x) (o := o) (fun o' hn => pm_u_ne hn), pm_ce_obj htag q1]
          rw [pm_fs_set (h' := pm_u h o f x) q2 ?_ ?_]
          · unfold pm_fw
            rw [pm_u_eq]
            rcases hft with z | ⟨z, -⟩ <;> rw [z] <;> simp [upd]
          · intro k hk
            unfold pm_fw
            rw [pm_u_eq]
            simp [upd, hk]
        have hok : (T f).2.2.2 = false ∧ parseFieldDescriptor (T f).2.2.1 = some (ty0 f) ∧ narrow (ty0 f) (.int x) = .int x ∧ fits (ty0 f) (.int x) = true := by
          rcases hft with z | ⟨z, z2⟩
          · obtain ⟨w1, w2⟩ := q8 z
            refine ⟨w2, q6 f q2, ?_, ?_⟩
            · rw [w1]; rfl
            · rw [w1]; rfl
          · obtain ⟨w1, w2⟩ := q9 z
            refine ⟨w2, q6 f q2, ?_, ?_⟩
            · rw [w1]; exact (pm_b01_ok z2).1
            · rw [w1]; exact (pm_b01_ok z2).2
        refine va_put hx hb hts q5 ty0 q6 q7 hown hK hP (hD h) hS o he q1 f q2 (hts _ q4) (fun x hx2 => by rw [q3] at hx2; exact hx2) hok.1 hok.2.1 hok.2.2.1 hok.2.2.2 (by simpa using q2) (pm_de hI hl rfl) (fun H1 locs1 hP1 hD1 hS1 => ?_)
        have hP1 : va_P D vwCl (pm_ws σ cI cT cS N (pm_u h o f x)) H1 := by rw [← hset]; exact hP1
        exact hc _ _ _ _ _ _ _ hi hL hP1 hS1
      · exact hi.elim
    · rename_i x o r
      split at hi
      · rename_i ci f hz
        obtain ⟨ho, hi⟩ := pm_ib_ok hi
        obtain ⟨hf, hi⟩ := pm_ib_ok hi
        obtain ⟨hg, hi⟩ := pm_ib_ok hi
        obtain ⟨hob, htag⟩ := pm_at_ok ho
        obtain ⟨C, T, NN, ty0, q1, q2, q3, q4, q5, q6, q7, q8, q9, q10⟩ := pm_fall hz
        dsimp only at q1 q2 q3 q4 q8 q9 q10
        have hft : pm_ft ci f = 3 := Nat.eq_of_beq_eq_true hf
        simp only [Bool.and_eq_true] at hg
        have hx0 : 0 < x := Nat.le_of_ble_eq_true hg.1
        have hx1 : x < 92 := Nat.le_of_ble_eq_true hg.2
        have he : (pm_ws σ cI cT cS N h)[o]? = some (σ o, .inr (ci, (List.range NN).map (pm_fw σ h ci o))) := by
          rw [pm_ws_get (Nat.lt_of_lt_of_le hob hN), pm_ce_obj htag q1]
        have hset : (pm_ws σ cI cT cS N h).set o (σ o, .inr (ci, ((List.range NN).map (pm_fw σ h ci o)).set f (.ref (σ x)))) = pm_ws σ cI cT cS N (pm_u h o f (nI x)) := by
          rw [← pm_ws_set (h := h) (h' := pm_u h o f (nI x)) (o := o) (fun o' hn => pm_u_ne hn), pm_ce_obj htag q1]
          rw [pm_fs_set (h' := pm_u h o f (nI x)) q2 ?_ ?_]
          · unfold pm_fw
            rw [pm_u_eq, hft]
            have : pm_dec (upd (h o) f (nI x) f) = some x := by
              unfold pm_dec
              simp only [upd, if_true]
              rw [if_neg (nI_ne0 hx0 (Nat.lt_trans hx1 (by decide))), nI_clamp (Nat.lt_trans hx1 (by decide))]
            rw [this]; rfl
          · intro k hk
            unfold pm_fw
            rw [pm_u_eq]
            simp [upd, hk]
        obtain ⟨⟨nm, w1⟩, w2⟩ := q10 hft
        refine va_put hx hb hts q5 ty0 q6 q7 hown hK hP (hD h) hS o he q1 f q2 (hts _ q4) (fun x hx2 => by rw [q3] at hx2; exact hx2) w2 (q6 f q2) (by rw [w1]; rfl) (by rw [w1]; rfl) (by simpa using q2) (pm_de hI hl rfl) (fun H1 locs1 hP1 hD1 hS1 => ?_)
        have hP1 : va_P D vwCl (pm_ws σ cI cT cS N (pm_u h o f (nI x))) H1 := by rw [← hset]; exact hP1
        exact hc _ _ _ _ _ _ _ hi hL hP1 hS1
      · exact hi.elim
    · exact hi.elim
  | getstatic k =>
    dsimp only [pm_ins] at hi
    obtain ⟨ho, hi2⟩ := pm_ib_ok hi
    simp only [Bool.and_eq_true] at ho
    have h6 : M.1 = 6 := Nat.eq_of_beq_eq_true ho.1
    have hk : k = 259 := Nat.eq_of_beq_eq_true ho.2
    subst hk
    rw [h6] at hown
    refine va_gets (ref := "StairLines") hx hb hG.1 hS hown (hts _ pm_jul) (fun _ q => q) (pm_de hI hl rfl) ?_
    exact hc _ _ _ _ _ _ _ hi2 hL hP hS
  | iaload =>
    dsimp only [pm_ins] at hi
    split at hi
    · rename_i j a r
      cases ha : pm_at M.1 a 8 with
      | true =>
        rw [ha] at hi
        obtain ⟨hj, hi⟩ := pm_ib_ok hi
        obtain ⟨hob, htag⟩ := pm_at_ok ha
        have he : (pm_ws σ cI cT cS N h)[a]? = some (σ a, .inl (cI, pm_len a, .inl (h a))) := by rw [pm_ws_get (Nat.lt_of_lt_of_le hob hN), pm_ce_arr htag]
        refine va_iald hx hb hK hP a 0 he rfl (pm_in_ok hj) (pm_de hI hl rfl) ?_
        exact hc _ _ _ _ _ _ _ hi hL hP hS
      | false =>
        rw [ha] at hi
        obtain ⟨hj, hi2⟩ := pm_ib_ok hi
        obtain ⟨hj2, hi3⟩ := pm_ib_ok hi2
        have : a = 2000 := Nat.eq_of_beq_eq_true hj
        subst this
        refine va_ti hx hb hG.2.1 hS (pm_in_ok hj2) rfl (pm_de hI hl rfl) ?_
        exact hc _ _ _ _ _ _ _ hi3 hL hP hS
    · exact hi.elim
  | iastore =>
    dsimp only [pm_ins] at hi
    split at hi
    · rename_i x j a r
      obtain ⟨ha, hi⟩ := pm_ib_ok hi
      obtain ⟨hj, hi⟩ := pm_ib_ok hi
      obtain ⟨hob, htag⟩ := pm_at_ok ha
      have he : (pm_ws σ cI cT cS N h)[a]? = some (σ a, .inl (cI, pm_len a, .inl (h a))) := by rw [pm_ws_get (Nat.lt_of_lt_of_le hob hN), pm_ce_arr htag]
      refine va_iast hx hb hK hP (hD h) hS a 0 he rfl (pm_in_ok hj) (pm_de hI hl rfl) (fun H1 locs1 hP1 hD1 hS1 => ?_)
      have hset : (pm_ws σ cI cT cS N h).set a (σ a, .inl (cI, pm_len a, .inl (upd (h a) j.toNatClampNeg x))) = pm_ws σ cI cT cS N (pm_u h a j.toNatClampNeg x) := by
        rw [← pm_ws_set (h := h) (h' := pm_u h a j.toNatClampNeg x) (o := a) (fun o' hn => pm_u_ne hn), pm_ce_arr htag, pm_u_eq]
      have hP1 : va_P D vwCl (pm_ws σ cI cT cS N (pm_u h a j.toNatClampNeg x)) H1 := by rw [← hset]; exact hP1
      exact hc _ _ _ _ _ _ _ hi hL hP1 hS1
    · exact hi.elim
  | aaload =>
    dsimp only [pm_ins] at hi
    split at hi
    · rename_i j a r
      obtain ⟨ha, hi⟩ := pm_ib_ok hi
      obtain ⟨hj, hi⟩ := pm_ib_ok hi
      simp only [Bool.and_eq_true, Bool.or_eq_true] at ha
      obtain ⟨hob, -⟩ := pm_at_ok ha.1
      rcases ha.2 with z | z
      · have z := Nat.eq_of_beq_eq_true z
        rw [z] at hi
        have he : (pm_ws σ cI cT cS N h)[a]? = some (σ a, .inl (cT, pm_len a, .inr (.inr (.inr (.inr (fun j => (pm_rf 9 a j).map σ)))))) := by
          rw [pm_ws_get (Nat.lt_of_lt_of_le hob hN)]
          unfold pm_ce
          rw [z]; rfl
        refine va_aldq hx hb hK hP a 1 he rfl (pm_in_ok hj) (pm_de hI hl rfl) ?_
        exact hc _ _ _ _ _ _ _ hi hL hP hS
      · have z := Nat.eq_of_beq_eq_true z
        rw [z] at hi
        have he : (pm_ws σ cI cT cS N h)[a]? = some (σ a, .inl (cS, pm_len a, .inr (.inr (.inr (.inr (fun j => (pm_rf 10 a j).map σ)))))) := by
          rw [pm_ws_get (Nat.lt_of_lt_of_le hob hN)]
          unfold pm_ce
          rw [z]; rfl
        refine va_aldq hx hb hK hP a 2 he rfl (pm_in_ok hj) (pm_de hI hl rfl) ?_
        exact hc _ _ _ _ _ _ _ hi hL hP hS
    · exact hi.elim
  | arraylength =>
    dsimp only [pm_ins] at hi
    split at hi
    · rename_i a r
      cases ha : pm_at M.1 a 8 with
      | true =>
        rw [ha] at hi
        obtain ⟨hob, htag⟩ := pm_at_ok ha
        have he : (pm_ws σ cI cT cS N h)[a]? = some (σ a, .inl (cI, pm_len a, .inl (h a))) := by rw [pm_ws_get (Nat.lt_of_lt_of_le hob hN), pm_ce_arr htag]
        refine va_alen hx hb hK hP a 0 he rfl rfl (pm_de hI hl rfl) ?_
        exact hc _ _ _ _ _ _ _ hi hL hP hS
      | false =>
        rw [ha] at hi
        obtain ⟨hj, hi2⟩ := pm_ib_ok hi
        have : a = 2000 := Nat.eq_of_beq_eq_true hj
        subst this
        refine va_tlen hx hb hG.2.1 hS (v := 6) rfl (pm_de hI hl rfl) ?_
        exact hc _ _ _ _ _ _ _ hi2 hL hP hS
    · exact hi.elim
  | invokevirtual k =>
    dsimp only [pm_ins] at hi
    split at hi
    · rename_i kind M' n hz
      obtain ⟨ho, hi⟩ := pm_ib_ok hi
      have hk := pm_lall hz
      rcases pm_call_ok hi with ⟨rfl, as, b, r, htk, g1, g2, g3, g4, hi⟩ | ⟨rfl, as, r, htk, g1, g2, g3, hi⟩ | ⟨rfl, x, y, r, rfl, g1, g2, hi⟩ | ⟨rfl, x, y, r, rfl, g1, g2, hi⟩ | ⟨rfl, z, dp, b, sp, a, r, rfl, g1, g2, g3, g4, g5, hi⟩ | ⟨rfl, b, r, rfl, g1, g2, g3, hi⟩ | ⟨rfl, j, b, r, rfl, g1, g2, g3, g4, hi⟩
      · obtain ⟨h1, h2⟩ := pm_tk_ok htk
        exact hkV k M' n as b r rfl hk h2 h1 g4 g1 g2 g3 hi
      · cases ho
      · cases ho
      · cases ho
      · cases ho
      · exact hk5 k b r rfl hk rfl g3 g1 g2 (hc _ _ _ _ _ _ _ hi hL hP hS)
      · exact hk6 k b j r rfl hk rfl g3 g4 g1 g2 (hc _ _ _ _ _ _ _ hi hL hP hS)
    · exact hi.elim
  | invokestatic k =>
    dsimp only [pm_ins] at hi
    split at hi
    · rename_i kind M' n hz
      obtain ⟨ho, hi⟩ := pm_ib_ok hi
      have hk := pm_lall hz
      have hmx : c.maxLocals = ls.size := by rw [hL.1]; exact hml
      rcases pm_call_ok hi with ⟨rfl, as, b, r, htk, g1, g2, g3, g4, hi⟩ | ⟨rfl, as, r, htk, g1, g2, g3, hi⟩ | ⟨rfl, x, y, r, rfl, g1, g2, hi⟩ | ⟨rfl, x, y, r, rfl, g1, g2, hi⟩ | ⟨rfl, z, dp, b, sp, a, r, rfl, g1, g2, g3, g4, g5, hi⟩ | ⟨rfl, b, r, rfl, g1, g2, g3, hi⟩ | ⟨rfl, j, b, r, rfl, g1, g2, g3, g4, hi⟩
      · cases ho
      · obtain ⟨h1, h2⟩ := pm_tk_ok htk
        exact hkS k M' n as r rfl hk h2 h1 g1 g2 g3 hi
      · refine va_mmax hx hb hmx hown (hts _ hk) (hts _ pm_j2s) (hts _ pm_jmi) (hts _ pm_j2c) (by omega) (by rw [pm_c1_sum g1]; omega) hcl hsl (pm_de hI hl rfl) ?_
        rw [show (if x < y then y else x) = pm_op (pm_max x y) from (pm_op_eq _).symm]
        exact hc _ _ _ _ _ _ _ hi hL hP hS
      · refine va_mmin hx hb hmx hown (hts _ hk) (hts _ pm_j3s) (hts _ pm_jmi) (hts _ pm_j3c) (by omega) (by rw [pm_c1_sum g1]; omega) hcl hsl (pm_de hI hl rfl) ?_
        rw [show (if y < x then y else x) = pm_op (pm_min x y) from (pm_op_eq _).symm]
        exact hc _ _ _ _ _ _ _ hi hL hP hS
      · obtain ⟨hoa, hta⟩ := pm_at_ok g3
        obtain ⟨hob, htb⟩ := pm_at_ok g4
        have hea : (pm_ws σ cI cT cS N h)[a]? = some (σ a, .inl (cI, pm_len a, .inl (h a))) := by rw [pm_ws_get (Nat.lt_of_lt_of_le hoa hN), pm_ce_arr hta]
        have heb : (pm_ws σ cI cT cS N h)[b]? = some (σ b, .inl (cI, pm_len b, .inl (h b))) := by rw [pm_ws_get (Nat.lt_of_lt_of_le hob hN), pm_ce_arr htb]
        unfold pm_ck at g5
        simp only [Bool.and_eq_true, Bool.not_eq_true', decide_eq_false_iff_not] at g5
        obtain ⟨⟨⟨⟨k1, k2⟩, k3⟩, k4⟩, k5⟩ := g5
        have hnf : nativeFrameWords "java/lang/System" "arraycopy" 5 = 7 := by decide
        refine va_copyi hx hb hmx hown (hts _ hk) (hts _ pm_j4n) (hts _ pm_j4s) (hts _ pm_j4i) hK hP (hD h) hS a b 0 0 hea heb rfl rfl rfl k1 k2 k3 (Nat.le_of_ble_eq_true k4) (Nat.le_of_ble_eq_true k5) (fun _ _ => rfl) (by omega) (by rw [pm_c1_sum g1, hnf]; omega) (pm_de hI hl rfl) (fun H1 locs1 hP1 hD1 hS1 => ?_)
        have hset : (pm_ws σ cI cT cS N h).set b (σ b, .inl (cI, pm_len b, .inl (va_cpy (h a) (h b) sp.toNatClampNeg dp.toNatClampNeg z.toNatClampNeg))) = pm_ws σ cI cT cS N (pm_cp h a sp.toNatClampNeg b dp.toNatClampNeg z.toNatClampNeg) := by
          rw [← pm_ws_set (h := h) (h' := pm_cp h a sp.toNatClampNeg b dp.toNatClampNeg z.toNatClampNeg) (o := b) (fun o' hn => if_neg hn), pm_ce_arr htb]
          have : pm_cp h a sp.toNatClampNeg b dp.toNatClampNeg z.toNatClampNeg b = va_cpy (h a) (h b) sp.toNatClampNeg dp.toNatClampNeg z.toNatClampNeg := if_pos rfl
          rw [this]
        have hP1 : va_P D vwCl (pm_ws σ cI cT cS N (pm_cp h a sp.toNatClampNeg b dp.toNatClampNeg z.toNatClampNeg)) H1 := by rw [← hset]; exact hP1
        exact hc _ _ _ _ _ _ _ hi hL hP1 hS1
      · cases ho
      · cases ho
    · exact hi.elim
  | ireturn =>
    dsimp only [pm_ins] at hi
    split at hi
    · rename_i x
      obtain ⟨ho, hi⟩ := pm_ib_ok hi
      simp only [Bool.or_eq_true, Bool.and_eq_true] at ho
      exact hr _ hi (Or.inl ⟨rfl, x, rfl, rfl, ho.imp (fun z => Nat.eq_of_beq_eq_true z) (fun z => ⟨Nat.eq_of_beq_eq_true z.1, z.2⟩)⟩)
    · exact hi.elim
  | areturn =>
    dsimp only [pm_ins] at hi
    split at hi
    · rename_i x
      obtain ⟨ho, hi⟩ := pm_ib_ok hi
      exact hr _ hi (Or.inr (Or.inl ⟨rfl, x, rfl, rfl, Nat.eq_of_beq_eq_true ho⟩))
    · exact hi.elim
  | return_ =>
    dsimp only [pm_ins] at hi
    split at hi
    · obtain ⟨ho, hi⟩ := pm_ib_ok hi
      exact hr _ hi (Or.inr (Or.inr ⟨rfl, rfl, rfl, Nat.eq_of_beq_eq_true ho⟩))
    · exact hi.elim
  | _ => exact (show False from hi).elim
