/-! CONSTRUCTORS: the world of all cells out of the worlds that were made -/
section
variable {p : Program} {l : Launch} {e : Env} {R : Room} {s : State} {m : MethodId} {args : Array Value} {below : List Frame} {meth : Method} {c : Code} {H : Heap} {locs : List Loc} {cells slots : Nat} {Q : State → Prop}
variable {cc : ByteArray} {pc : Nat} {ls : Array Slot} {rest : List Value} {D : va_G} {A : Nat → Prop} {a : Nat} {ws : va_W} {H0 : Heap} {cI cT cS : ClassId}
theorem cz_sameq {tys : List (ClassId × FieldType)} {cA cX : ClassId} {C : String} {t k : Nat} (h : va_K D vwCl (pm_tys cI cT cS) s) (ht : (pm_tys cI cT cS)[t]? = some (cX, .object C)) (h' : va_K D vwCl tys s) (hk : tys[k]? = some (cA, .object C)) : cA = cX := by
  obtain ⟨_, _, -, -, -, h1⟩ := (h.2 t _ ht).2
  obtain ⟨_, _, -, -, -, h2⟩ := (h'.2 k _ hk).2
  exact Option.some.inj (h2.symm.trans h1)
theorem cz_newq {t : Nat} {C : String} {cX : ClassId} (ht : (pm_tys cI cT cS)[t]? = some (cX, .object C)) (hexec : p.tables.exec = Jvm.exec) (hb : c.code = cc) {own : String} {index : Nat} (hown : s.vm.findClass own = some m.cls) (hclink : (Cond.classLink own index C).before args s = true) (hover : va_AO C s) (hK : va_K D vwCl (pm_tys cI cT cS) s) (hP : va_P D vwCl ws H) (hD : va_D A ws) (hS : va_S A H0 H locs) (hA : ∀ q, H0.size ≤ q → A q)
    {n : Int32} {N' : Nat} (hn : ¬ n < 0) (hN : n.toNatClampNeg = N') (hbytes : N' * 4 ≤ 536870912) (hcells : cells + 1 ≤ R.cells) (hslots : slots + N' ≤ R.slots) (hdg : decode cc pc = .ok (.anewarray index, 3))
    (kk : ∀ (q : Nat) (H1 : Heap), va_P D vwCl (ws ++ [(q, .inl (cX, N', .inr (.inr (.inr (.inr (fun _ => none))))))]) H1 → va_D A (ws ++ [(q, .inl (cX, N', .inr (.inr (.inr (.inr (fun _ => none))))))]) → va_S A H0 H1 locs →
      W p l e R s m args below meth c H1 locs (cells + 1) (slots + N') Q (F0 m (pc + 3) ls (.ref q :: rest))) : W p l e R s m args below meth c H locs cells slots Q (F0 m pc ls (.int n :: rest)) := by
  refine va_newq hexec hb hown hclink hover hK hP hD hS hA hn hN hbytes hcells hslots hdg (fun q cA H1 hK1 hP1 hD1 hS1 => ?_)
  have e : cA = cX := cz_sameq (k := 3) hK ht hK1 rfl
  subst e
  exact kk q H1 hP1 hD1 hS1
theorem va_P_rep {q : Nat} {e0 e1 : va_E} {k : Nat} (h : va_P D vwCl ws H) (hk : ws[k]? = some (q, e0)) (he : va_at D vwCl (q, e1) H) : va_P D vwCl (ws.set k (q, e1)) H := by
  intro j x hx
  rw [List.getElem?_set] at hx
  by_cases e : k = j
  · rw [if_pos e] at hx
    by_cases hl : k < ws.length
    · rw [if_pos hl] at hx; cases hx; exact he
    · rw [if_neg hl] at hx; cases hx
  · rw [if_neg e] at hx; exact h j x hx
theorem cz_arr {cA : ClassId} {n : Nat} {f g : Nat → Value} (h : ∀ j, j < n → f j = g j) : arrV cA n f = arrV cA n g := by
  unfold arrV
  rw [show (fun j : Fin n => f j.val) = (fun j : Fin n => g j.val) from funext (fun j => h j.val j.isLt)]
theorem va_at_q {cA : ClassId} {n : Nat} {f g : Nat → Option Nat} (hfg : ∀ j, j < n → f j = g j) (h : va_at D vwCl (a, .inl (cA, n, .inr (.inr (.inr (.inr f))))) H) : va_at D vwCl (a, .inl (cA, n, .inr (.inr (.inr (.inr g))))) H := by
  have h : H[a]? = some (vp_cell cA (n, .inr (.inr (.inr (.inr f))))) := h
  show H[a]? = some (vp_cell cA (n, .inr (.inr (.inr (.inr g)))))
  rw [vp_cell_q] at h ⊢
  rw [h, cz_arr (fun j hj => by rw [hfg j hj])]
theorem va_D_by {ws' : va_W} (h : va_D A ws) (hf : ws.map Prod.fst = ws'.map Prod.fst) : va_D A ws' := by
  have g : ∀ (k : Nat) (x : Nat × va_E), ws'[k]? = some x → ∃ y, ws[k]? = some y ∧ y.1 = x.1 := by
    intro k x hx
    have h1 : (ws'.map Prod.fst)[k]? = some x.1 := by rw [List.getElem?_map, hx]; rfl
    rw [← hf, List.getElem?_map] at h1
    cases hy : ws[k]? with
    | none => rw [hy] at h1; cases h1
    | some y => rw [hy] at h1; exact ⟨y, rfl, Option.some.inj h1⟩
  refine ⟨fun i j x y hx hy e => ?_, fun k x hx => ?_⟩
  · obtain ⟨x', h1, h2⟩ := g i x hx
    obtain ⟨y', h3, h4⟩ := g j y hy
    exact h.1 i j x' y' h1 h3 (by rw [h2, h4]; exact e)
  · obtain ⟨x', h1, h2⟩ := g k x hx
    rw [← h2]; exact h.2 k x' h1
theorem W_mono {g : JFrame} {Q' : State → Prop} (h : ∀ t, Q t → Q' t) (k : W p l e R s m args below meth c H locs cells slots Q g) : W p l e R s m args below meth c H locs cells slots Q' g := by
  intro T hT X
  obtain ⟨t, a1, b1⟩ := k T hT X
  exact ⟨t, a1, h t b1⟩
theorem MQ_mono {Qc Qc' : Array Value → State → Outcome → State → Prop} {ar : Array Value} {mc ms : Nat} {free free' : Addr → Prop} {t : State} (hq : ∀ o, Qc ar s o t → Qc' ar s o t) (hf : ∀ q, free q → free' q) (h : MQ below Qc ar s mc ms free t) : MQ below Qc' ar s mc ms free' t := by
  obtain ⟨o, h1, h2, h3, L, h4, h5⟩ := h
  exact ⟨o, h1, h2, hq o h3, L, h4, fun q hq => hf _ (h5 q hq)⟩
end
theorem pm_G_cong {σ τ : Nat → Nat} {A : Nat → Prop} {U : State} {H : Heap} (h2 : σ 2000 = τ 2000) (h1 : ∀ k, σ (1000 + k) = τ (1000 + k)) (h : pm_G τ A U H) : pm_G σ A U H := by
  obtain ⟨g1, g2, g3, g4, g5, g6⟩ := h
  have e : (fun k => σ (1000 + k)) = (fun k => τ (1000 + k)) := funext h1
  unfold pm_G
  rw [h2, e]
  exact ⟨g1, g2, g3, fun own idx z hz => by rw [h1]; exact g4 own idx z hz, g5, g6⟩
/-- the addresses of the class's cells, others as they were -/
def zσ (a τ : Nat → Nat) : Nat → Nat := fun k => bif Nat.blt k 66 then a k else τ k
theorem zσ_lt {a τ : Nat → Nat} {k : Nat} (h : k < 66) : zσ a τ k = a k := by
  unfold zσ
  rw [show Nat.blt k 66 = true from Nat.ble_eq.mpr h]; rfl
theorem zσ_ge {a τ : Nat → Nat} {k : Nat} (h : 66 ≤ k) : zσ a τ k = τ k := by
  unfold zσ
  cases e : Nat.blt k 66 with
  | true => exact absurd (Nat.le_of_ble_eq_true e) (by omega)
  | false => rfl
/-- the class's cells as they are born -/
def zM0 : pm_H := fun o j => bif (Nat.beq o 3 || (Nat.beq o 12 || Nat.beq o 22)) then (if j < 10 then 2 else 0) else bif ((Nat.beq o 58 || (Nat.beq o 60 || (Nat.beq o 62 || Nat.beq o 64))) && Nat.beq j 1) then -1 else 0
def cz_P6 (D : va_G) (cI cT cS : ClassId) (τ : Nat → Nat) (b sz : Nat) : Array Value → State → Prop := va_Pc [.ref b] (fun U => U.heap.size = sz ∧ va_P D vwCl [(b, .inr (6, [.null, .null, .int 0, .null, .null, .null, .int 0, .null, .null, .null]))] U.heap ∧ va_K D vwCl (pm_tys cI cT cS) U ∧ va_D (fun _ => True) [(b, .inr (6, [.null, .null, .int 0, .null, .null, .null, .int 0, .null, .null, .null]))] ∧ va_Nw (.methodLinkNest RX5 27 yX1_init RX6) U ∧ va_Nw (.methodLinkNest RX6 21 yX5_init RX6) U ∧ va_Nw (.methodLinkNest RX6 28 yX0_init RX6) U ∧ va_Nw (.methodLinkNest RX6 52 yX4_init RX6) U ∧ va_Nw (.methodLinkNest RX6 53 yX2_init RX6) U ∧ va_AO "StairLines$Text" U ∧ va_AO "StairLines$Sheet" U ∧ pm_G τ (va_A [(b, .inr (6, [.null, .null, .int 0, .null, .null, .null, .int 0, .null, .null, .null]))] sz) U U.heap)
def cz_B6 (D : va_G) (cI cT cS : ClassId) (τ : Nat → Nat) (R : Nat → List Int32) (A : Nat → Prop) (a : Nat → Nat) (t : State) : Prop := (∃ h, cK6 R zM0 h ∧ va_P D vwCl (pm_ws (zσ a τ) cI cT cS 66 h) t.heap) ∧ va_K D vwCl (pm_tys cI cT cS) t ∧ va_D A (pm_ws (zσ a τ) cI cT cS 66 zM0)
def cz_Q6 (D : va_G) (cI cT cS : ClassId) (τ : Nat → Nat) (b sz : Nat) (R : Nat → List Int32) : Array Value → State → Outcome → State → Prop := va_Qv (fun a : Nat → Nat => a 0 = b) (cz_B6 D cI cT cS τ R (va_A [(b, .inr (6, [.null, .null, .int 0, .null, .null, .null, .int 0, .null, .null, .null]))] sz)) (va_A [(b, .inr (6, [.null, .null, .int 0, .null, .null, .null, .int 0, .null, .null, .null]))] sz)
theorem cz_A1 {b sz q : Nat} {x : va_E} (h : va_A [(b, x)] sz q) : q = b ∨ sz ≤ q := by
  rcases h with ⟨k, e, h⟩ | h
  · have hk : k < 1 := (List.getElem?_eq_some_iff.mp h).1
    rw [show k = 0 by omega] at h
    cases h
    exact Or.inl rfl
  · exact Or.inr h
section
variable {p : Program} {l : Launch} {e : Env} {R : Room} {s : State} {m : MethodId} {args : Array Value} {below : List Frame} {meth : Method} {c : Code} {H : Heap} {locs : List Loc} {cells slots : Nat}
variable {ls : Array Slot} {D : va_G} {A : Nat → Prop} {cI cT cS : ClassId}
/-- behind the makings: the first text, and the end -/
theorem c6_tail {l0 l1 l2 l3 : zLs} {c0 c1 c2 : List Int32} (P : cPk l0 l1 l2 l3 c0 c1 c2) {τ : Nat → Nat} {b : Nat} {x : Int32} (a : Nat → Nat) (ha0 : a 0 = b) (hx : p.tables.exec = Jvm.exec) (hb : c.code = cX6_init) (hr : meth.sig.returnType = none) (hml : c.maxLocals = 2) (hw : ∀ w ∈ pm_w, w.before args s = true) (hown : s.vm.findClass RX6 = some m.cls) (hlocks : meth.locks = false) (hK : va_K D vwCl (pm_tys cI cT cS) s) (hG : pm_G τ A s s.heap) (hA : ∀ q : Nat, s.heap.size ≤ q → A q) (hAb : ∀ q : Nat, A q → q = b ∨ s.heap.size ≤ q)
    (hP : va_P D vwCl (pm_ws (zσ a τ) cI cT cS 66 zM0) H) (hD : va_D A (pm_ws (zσ a τ) cI cT cS 66 zM0)) (hS : va_S A s.heap H locs) (hl : lv_has ls 2 [(0, .ref b), (1, .int x)]) (hRf : 53 ≤ R.frames) (hRl : 2180 ≤ R.locals) (hcl : cells ≤ R.cells) (hsl : slots ≤ R.slots) :
    W p l e R s m args below meth c H locs cells slots (MQ below (va_Qv (fun a : Nat → Nat => a 0 = b) (cz_B6 D cI cT cS τ (cRR c0 c1 c2) A) A) args s cells slots A) (F0 m 132 ls []) := by
  have hj : ∀ i j, i < 66 → j < 66 → zσ a τ i = zσ a τ j → i = j := fun i j hi hj e => hD.1 i j _ _ (pm_ws_get hi) (pm_ws_get hj) e
  have hAe : A = pm_A (zσ a τ) 66 s.heap.size := funext fun q => propext ⟨fun h => (hAb q h).elim (fun e => Or.inl ⟨0, by decide, by rw [e, ← ha0]; rfl⟩) Or.inr, fun h => h.elim (fun ⟨k, hk, e⟩ => by rw [e]; exact hD.2 k _ (pm_ws_get hk)) (hA q)⟩
  subst hAe
  have hG' : pm_G (zσ a τ) (pm_A (zσ a τ) 66 s.heap.size) s s.heap := pm_G_cong (τ := τ) rfl (fun k => zσ_ge (by omega)) hG
  have Cx : pm_Cx D cI cT cS (zσ a τ) 66 p s m args meth c mt_X6_init yX6_init cX6_init none (pm_A (zσ a τ) 66 s.heap.size) := ⟨hx, hb, hr, hml, hw, hown, hlocks, hK, fun q hq => Or.inr hq, ci_X6, Nat.le_refl _, hG', fun h => pm_A_D hj h⟩
  obtain ⟨n, hn⟩ := ct_tail P (h0 := zM0) (Q := fun v h => v = none ∧ cK6 (cRR c0 c1 c2) zM0 h) rfl (fun h K => ⟨rfl, K⟩)
  have hW := pm_go_all (l := l) (D := D) (cI := cI) (cT := cT) (cS := cS) hj n (46 + 1) mt_X6_init 132 [some (.ref 0), none] [] zM0 _ hn p e R s m args below meth c yX6_init cX6_init none Cx (by omega) (by omega) cells slots hcl hsl ls H locs ⟨hl.1, hl.2.1, rfl, fun k v hk => ?_⟩ hP hS
  · refine W_mono (fun t => MQ_mono (fun o q => ?_) (fun _ h => h)) hW
    obtain ⟨v, h', ⟨rfl, K⟩, ho, hp, hk, hf⟩ := q
    exact ⟨⟨a, ho, ha0, ⟨h', K, hp⟩, hk, hD⟩, hf⟩
  · match k, hk with
    | 0, hk =>
      cases hk
      have := hl.2.2 (0, .ref b) List.mem_cons_self
      rw [this]
      show some (Slot.val (Value.ref b)) = some (Slot.val (Value.ref (a 0)))
      rw [ha0]
    | 1, hk => cases hk
    | k + 2, hk => cases hk
end
