/-! THE REFERENCE IS MADE: what it needs, what it gives, the end of it -/
def cz_X7 (σ : Nat → Nat) (cI cT cS : ClassId) (h1 : pm_H) (b : Nat) : va_W := pm_ws σ cI cT cS 66 h1 ++ [(b, zM)]
def cz_P7 (D : va_G) (cI cT cS : ClassId) (σ : Nat → Nat) (h1 : pm_H) (b sz : Nat) : Array Value → State → Prop := va_Pc [.ref b] (fun U => U.heap.size = sz ∧ va_P D vwCl (pm_ws σ cI cT cS 66 h1) U.heap ∧ va_P D vwCl [(b, zM)] U.heap ∧ va_K D vwCl (pm_tys cI cT cS) U ∧ va_D (fun _ => True) (cz_X7 σ cI cT cS h1 b) ∧ pm_G σ (va_A (cz_X7 σ cI cT cS h1 b) sz) U U.heap)
def cz_B7 (D : va_G) (cI cT cS : ClassId) (σ : Nat → Nat) (h1 : pm_H) (R : Nat → List Int32) (A : Nat → Prop) (a : Nat → Nat) (t : State) : Prop := (∃ h, cK7 R (zM7 h1) h ∧ va_P D vwCl (pm_ws (zσ7 a σ (σ (h1 34 2).toNatClampNeg)) cI cT cS 92 h) t.heap) ∧ va_K D vwCl (pm_tys cI cT cS) t ∧ va_D A (pm_ws (zσ7 a σ (σ (h1 34 2).toNatClampNeg)) cI cT cS 92 (zM7 h1))
def cz_Q7 (D : va_G) (cI cT cS : ClassId) (σ : Nat → Nat) (h1 : pm_H) (b sz : Nat) (R : Nat → List Int32) : Array Value → State → Outcome → State → Prop := va_Qv (fun a : Nat → Nat => a 0 = b) (cz_B7 D cI cT cS σ h1 R (va_A (cz_X7 σ cI cT cS h1 b) sz)) (va_A (cz_X7 σ cI cT cS h1 b) sz)
theorem cz_Xlen {σ : Nat → Nat} {cI cT cS : ClassId} {h1 : pm_H} : (pm_ws σ cI cT cS 66 h1).length = 66 := by simp [pm_ws]
theorem cz_Xlt {σ : Nat → Nat} {cI cT cS : ClassId} {h1 : pm_H} {b o : Nat} (ho : o < 66) : (cz_X7 σ cI cT cS h1 b)[o]? = some (σ o, pm_ce σ cI cT cS h1 o) := by
  unfold cz_X7
  rw [List.getElem?_append_left (by rw [cz_Xlen]; exact ho), pm_ws_get ho]
theorem cz_X66 {σ : Nat → Nat} {cI cT cS : ClassId} {h1 : pm_H} {b : Nat} : (cz_X7 σ cI cT cS h1 b)[66]? = some (b, zM) := by
  unfold cz_X7
  rw [List.getElem?_append_right (by rw [cz_Xlen]; exact Nat.le_refl _), cz_Xlen]
  rfl
theorem va_D_r {A : Nat → Prop} {X ws : va_W} (h : va_D A (X ++ ws)) : va_D A ws := by
  have g : ∀ (k : Nat) (x : Nat × va_E), ws[k]? = some x → (X ++ ws)[X.length + k]? = some x := fun k x hx => by
    rw [List.getElem?_append_right (by omega), Nat.add_sub_cancel_left]; exact hx
  exact ⟨fun i j x y hx hy e => by have := h.1 _ _ x y (g i x hx) (g j y hy) e; omega, fun k x hx => h.2 _ x (g k x hx)⟩
theorem va_S_mono {A B : Nat → Prop} {H0 H : Heap} {locs : List Loc} (h : va_S A H0 H locs) (hAB : ∀ q, A q → B q) : va_S B H0 H locs := ⟨h.1, fun q h1 h2 => h.2.1 q h1 (fun z => h2 (hAB q z)), fun l hl => hAB _ (h.2.2 l hl)⟩
section
variable {p : Program} {l : Launch} {e : Env} {R : Room} {s : State} {m : MethodId} {args : Array Value} {below : List Frame} {meth : Method} {c : Code} {H : Heap} {locs : List Loc} {cells slots : Nat}
variable {ls : Array Slot} {D : va_G} {A : Nat → Prop} {cI cT cS : ClassId}
theorem c7_tail {l0 l1 l2 l3 : zLs} {c0 c1 c2 : List Int32} (P : cPk l0 l1 l2 l3 c0 c1 c2) {σ : Nat → Nat} {h1 : pm_H} {b : Nat} (a : Nat → Nat) (ha0 : a 0 = b) (h19 : h1 19 8 = 0) (hx : p.tables.exec = Jvm.exec) (hb : c.code = cX7_init) (hr : meth.sig.returnType = none) (hml : c.maxLocals = 3) (hw : ∀ w ∈ pm_w, w.before args s = true) (hown : s.vm.findClass RX7 = some m.cls) (hlocks : meth.locks = false) (hK : va_K D vwCl (pm_tys cI cT cS) s) (hG : pm_G σ (va_A (cz_X7 σ cI cT cS h1 b) s.heap.size) s s.heap) (hA : ∀ q : Nat, s.heap.size ≤ q → A q) (hAb : ∀ q : Nat, A q → q = b ∨ s.heap.size ≤ q)
    (hX : va_P D vwCl (pm_ws σ cI cT cS 66 h1) s.heap) (hDX : va_D (fun _ => True) (cz_X7 σ cI cT cS h1 b))
    (hP : va_P D vwCl (zw7 cI a) H) (hD : va_D A (zw7 cI a)) (hS : va_S A s.heap H locs) (hl : lv_has ls 3 [(0, .ref b)]) (hRf : 52 ≤ R.frames) (hRl : 2140 ≤ R.locals) (hcl : cells ≤ R.cells) (hsl : slots ≤ R.slots) :
    W p l e R s m args below meth c H locs cells slots (MQ below (va_Qv (fun a : Nat → Nat => a 0 = b) (cz_B7 D cI cT cS σ h1 (cRR c0 c1 c2) (va_A (cz_X7 σ cI cT cS h1 b) s.heap.size)) (va_A (cz_X7 σ cI cT cS h1 b) s.heap.size)) args s cells slots (va_A (cz_X7 σ cI cT cS h1 b) s.heap.size)) (F0 m 198 ls []) := by
  obtain ⟨w, hwe⟩ : ∃ w, w = σ (h1 34 2).toNatClampNeg := ⟨_, rfl⟩
  have hσb : ∀ o, o < 66 → σ o ≠ b ∧ σ o < s.heap.size := fun o ho => ⟨fun q => by
    have := hDX.1 o 66 _ _ (cz_Xlt ho) cz_X66 q
    omega, (hX o _ (pm_ws_get ho)).lt⟩
  have hak : ∀ k, k < 26 → a k = b ∨ s.heap.size ≤ a k := fun k hk => by
    have := hD.2 k _ (zw7_get (a := a) (σ := σ) (w := w) (cI := cI) (cT := cT) (cS := cS) (h1 := h1) k hk)
    dsimp only at this
    rw [zσ7_mid hk] at this
    exact hAb _ this
  have hXH : va_P D vwCl (pm_ws σ cI cT cS 66 h1) H := hX.kept (fun k q hk => by
    have hk66 : k < 66 := by
      have := (List.getElem?_eq_some_iff.mp hk).1
      rwa [cz_Xlen] at this
    rw [pm_ws_get hk66] at hk
    cases hk
    obtain ⟨z1, z2⟩ := hσb k hk66
    exact hS.2.1 _ z2 (fun q => by
      rcases hAb _ q with z | z
      · exact z1 z
      · dsimp only at z; omega))
  have hP92 : va_P D vwCl (pm_ws (zσ7 a σ w) cI cT cS 92 (zM7 h1)) H := by
    intro k q hk
    have hk92 : k < 92 := by
      have := (List.getElem?_eq_some_iff.mp hk).1
      simpa [pm_ws] using this
    rw [pm_ws_get hk92] at hk
    cases hk
    by_cases h66 : k < 66
    · rw [hwe]
      exact cz_up h66 h19 (hXH k _ (pm_ws_get h66))
    · obtain ⟨j, rfl⟩ : ∃ j, k = 66 + j := ⟨k - 66, by omega⟩
      exact hP j _ (zw7_get j (by omega))
  have hj : ∀ i j, i < 92 → j < 92 → zσ7 a σ w i = zσ7 a σ w j → i = j := by
    intro i j hi hj he
    by_cases hi6 : i < 66
    · by_cases hj6 : j < 66
      · rw [zσ7_lt hi6, zσ7_lt hj6] at he
        exact hDX.1 i j _ _ (cz_Xlt hi6) (cz_Xlt hj6) he
      · obtain ⟨k, rfl⟩ : ∃ k, j = 66 + k := ⟨j - 66, by omega⟩
        rw [zσ7_lt hi6, zσ7_mid (by omega)] at he
        obtain ⟨z1, z2⟩ := hσb i hi6
        rcases hak k (by omega) with z | z
        · exact absurd (he.trans z) z1
        · omega
    · obtain ⟨k, rfl⟩ : ∃ k, i = 66 + k := ⟨i - 66, by omega⟩
      by_cases hj6 : j < 66
      · rw [zσ7_lt hj6, zσ7_mid (by omega)] at he
        obtain ⟨z1, z2⟩ := hσb j hj6
        rcases hak k (by omega) with z | z
        · exact absurd (he.symm.trans z) z1
        · omega
      · obtain ⟨k', rfl⟩ : ∃ k', j = 66 + k' := ⟨j - 66, by omega⟩
        have := hD.1 k k' _ _ (zw7_get (σ := σ) (w := w) (cT := cT) (cS := cS) (h1 := h1) k (by omega)) (zw7_get (σ := σ) (w := w) (cT := cT) (cS := cS) (h1 := h1) k' (by omega)) he
        omega
  have hAe : va_A (cz_X7 σ cI cT cS h1 b) s.heap.size = pm_A (zσ7 a σ w) 92 s.heap.size := by
    funext q
    refine propext ⟨fun h => ?_, fun h => ?_⟩
    · rcases h with ⟨k, x, h⟩ | h
      · have hk : k < 67 := by
          have := (List.getElem?_eq_some_iff.mp h).1
          unfold cz_X7 at this
          rw [List.length_append, cz_Xlen] at this
          exact this
        by_cases h66 : k < 66
        · rw [cz_Xlt h66] at h
          cases h
          exact Or.inl ⟨k, by omega, (zσ7_lt h66).symm⟩
        · rw [show k = 66 by omega, cz_X66] at h
          cases h
          exact Or.inl ⟨66 + 0, by omega, by rw [zσ7_mid (by omega), ha0]⟩
      · exact Or.inr h
    · rcases h with ⟨k, hk, rfl⟩ | h
      · by_cases h66 : k < 66
        · rw [zσ7_lt h66]
          exact Or.inl ⟨k, _, cz_Xlt h66⟩
        · obtain ⟨j, rfl⟩ : ∃ j, k = 66 + j := ⟨k - 66, by omega⟩
          rw [zσ7_mid (by omega)]
          rcases hak j (by omega) with z | z
          · rw [z]; exact Or.inl ⟨66, _, cz_X66⟩
          · exact Or.inr z
      · exact Or.inr h
  have hS2 : va_S (va_A (cz_X7 σ cI cT cS h1 b) s.heap.size) s.heap H locs := va_S_mono hS (fun q h => by
    rcases hAb q h with rfl | z
    · exact Or.inl ⟨66, _, cz_X66⟩
    · exact Or.inr z)
  unfold cz_B7
  rw [← hwe]
  rw [hAe] at hG hS2 ⊢
  have hG' : pm_G (zσ7 a σ w) (pm_A (zσ7 a σ w) 92 s.heap.size) s s.heap := pm_G_cong (τ := σ) (zσ7_ge (by omega)) (fun k => zσ7_ge (by omega)) hG
  have Cx : pm_Cx D cI cT cS (zσ7 a σ w) 92 p s m args meth c mt_X7_init yX7_init cX7_init none (pm_A (zσ7 a σ w) 92 s.heap.size) := ⟨hx, hb, hr, hml, hw, hown, hlocks, hK, fun q hq => Or.inr hq, ci_X7, Nat.le_refl _, hG', fun h => pm_A_D hj h⟩
  obtain ⟨n, hn⟩ := cm_tail P (h0 := zM7 h1) (Q := fun v h => v = none ∧ cK7 (cRR c0 c1 c2) (zM7 h1) h) rfl rfl (fun h K => ⟨rfl, K⟩)
  have hW := pm_go_all (l := l) (D := D) (cI := cI) (cT := cT) (cS := cS) hj n (44 + 2) mt_X7_init 198 [some (.ref 66), none, none] [] (zM7 h1) _ hn p e R s m args below meth c yX7_init cX7_init none Cx (by omega) (by omega) cells slots hcl hsl ls H locs ⟨hl.1, hl.2.1, rfl, fun k v hk => ?_⟩ hP92 hS2
  · refine W_mono (fun t => MQ_mono (fun o q => ?_) (fun _ h => h)) hW
    obtain ⟨v, h', ⟨rfl, K⟩, ho, hp, hk, hf⟩ := q
    exact ⟨⟨a, ho, ha0, ⟨h', K, hp⟩, hk, pm_A_D hj (zM7 h1)⟩, hf⟩
  · match k, hk with
    | 0, hk =>
      cases hk
      have := hl.2.2 (0, .ref b) List.mem_cons_self
      rw [this]
      show some (Slot.val (Value.ref b)) = some (Slot.val (Value.ref (a 0)))
      rw [ha0]
    | 1, hk => cases hk
    | 2, hk => cases hk
    | k + 3, hk => cases hk
end
