/-! CONSTRUCTORS: words of all of them, an array that is made, a row that is filled -/
theorem cw_ca : Cond.arrayClass .int ∈ pm_w := by decide +kernel
theorem cw_oc : Cond.code Lib.objectInit ⟨#[0xb1]⟩ 1 none ∈ pm_w := by decide +kernel
theorem cw_oi : Cond.instanceMethod Lib.objectInit ∈ pm_w := by decide +kernel
theorem cw_o0 : Cond.methodLink RX0 3 Lib.objectInit ∈ pm_w := by decide +kernel
theorem cw_o1 : Cond.methodLink RX1 3 Lib.objectInit ∈ pm_w := by decide +kernel
theorem cw_o2 : Cond.methodLink RX2 3 Lib.objectInit ∈ pm_w := by decide +kernel
theorem cw_o3 : Cond.methodLink RX3 3 Lib.objectInit ∈ pm_w := by decide +kernel
theorem cw_o4 : Cond.methodLink RX4 3 Lib.objectInit ∈ pm_w := by decide +kernel
theorem cw_o5 : Cond.methodLink RX5 3 Lib.objectInit ∈ pm_w := by decide +kernel
theorem cw_o6 : Cond.methodLink RX6 3 Lib.objectInit ∈ pm_w := by decide +kernel
theorem cw_o7 : Cond.methodLink RX7 1 Lib.objectInit ∈ pm_w := by decide +kernel
theorem cw_fc : Cond.code yJ7_fill_53178 cJ7_fill_53178 4 none ∈ pm_w := by decide +kernel
theorem cw_fs : Cond.static yJ7_fill_53178 ∈ pm_w := by decide +kernel
theorem cw_fi : Cond.initialized RJ7 ∈ pm_w := by decide +kernel
theorem cw_fl : Cond.methodLink RX3 36 yJ7_fill_53178 ∈ pm_w := by decide +kernel
section
variable {p : Program} {l : Launch} {e : Env} {R : Room} {s : State} {m : MethodId} {args : Array Value} {below : List Frame} {meth : Method} {c : Code} {H : Heap} {locs : List Loc} {cells slots : Nat} {Q : State → Prop}
variable {cc : ByteArray} {pc : Nat} {ls : Array Slot} {rest : List Value} {D : va_G} {A : Nat → Prop} {a : Nat} {ws : va_W} {H0 : Heap} {cI cT cS : ClassId}
/-- the class of int rows is one -/
theorem cz_same {tys : List (ClassId × FieldType)} {cA cI : ClassId} {k : Nat} (h : va_K D vwCl (pm_tys cI cT cS) s) (h' : va_K D vwCl tys s) (hk : tys[k]? = some (cA, .int)) : cA = cI := by
  have h1 : s.vm.findClass ("[" ++ FieldType.int.toString) = some cI := (h.2 0 (cI, .int) rfl).2
  have h2 : s.vm.findClass ("[" ++ FieldType.int.toString) = some cA := (h'.2 k (cA, .int) hk).2
  exact Option.some.inj (h2.symm.trans h1)
theorem cz_newa (hexec : p.tables.exec = Jvm.exec) (hb : c.code = cc) (harr : (Cond.arrayClass .int).before args s = true) (hK : va_K D vwCl (pm_tys cI cT cS) s) (hP : va_P D vwCl ws H) (hD : va_D A ws) (hS : va_S A H0 H locs) (hA : ∀ q, H0.size ≤ q → A q)
    {n : Int32} {N' : Nat} (hn : ¬ n < 0) (hN : n.toNatClampNeg = N') (hbytes : N' * 4 ≤ 536870912) (hcells : cells + 1 ≤ R.cells) (hslots : slots + N' ≤ R.slots) (hdg : decode cc pc = .ok (.newarray .int, 2))
    (kk : ∀ (q : Nat) (H1 : Heap), va_P D vwCl (ws ++ [(q, .inl (cI, N', .inl (fun _ => 0)))]) H1 → va_D A (ws ++ [(q, .inl (cI, N', .inl (fun _ => 0)))]) → va_S A H0 H1 locs →
      W p l e R s m args below meth c H1 locs (cells + 1) (slots + N') Q (F0 m (pc + 2) ls (.ref q :: rest))) : W p l e R s m args below meth c H locs cells slots Q (F0 m pc ls (.int n :: rest)) := by
  refine va_newa (atype := .int) (ty := .int) (a0 := (N', .inl (fun _ => 0))) hexec hb harr rfl hK hP hD hS hA (fun cA => rfl) hn hN hbytes hcells hslots hdg (fun q cA H1 hK1 hP1 hD1 hS1 => ?_)
  have e : cA = cI := cz_same (k := 3) hK hK1 rfl
  subst e
  exact kk q H1 hP1 hD1 hS1
/-- the loop of Arrays.fill -/
theorem cz_fill (hexec : p.tables.exec = Jvm.exec) (hb : c.code = cJ7_fill_53178) (hK : va_K D vwCl (pm_tys cI cT cS) s) {q n : Nat} {f : Nat → Int32} {v : Int32} (hn : n < 2 ^ 31)
    (kk : ∀ (H : Heap) (locs : List Loc) (ls : Array Slot), va_P D vwCl [(q, .inl (cI, n, .inl (fun j => if j < n then v else f j)))] H → va_D A [(q, .inl (cI, n, .inl (fun j => if j < n then v else f j)))] → va_S A H0 H locs → W p l e R s m args below meth c H locs cells slots Q (F0 m 20 ls [])) :
    ∀ (k i : Nat), i + k = n → ∀ (H : Heap) (locs : List Loc) (ls : Array Slot), va_P D vwCl [(q, .inl (cI, n, .inl (fun j => if j < i then v else f j)))] H → va_D A [(q, .inl (cI, n, .inl (fun j => if j < i then v else f j)))] → va_S A H0 H locs → lv_has ls 4 [(0, .ref q), (1, .int v), (2, .int (nI i)), (3, .int (nI n))] → W p l e R s m args below meth c H locs cells slots Q (F0 m 5 ls [])
  | 0, i, hi, H, locs, ls, hP, hD, hS, hl => by
    have hi : i = n := hi
    subst hi
    refine lv_iload_n hexec hb (k := 2) (i := 2) (x := nI i) (by decide +kernel) rfl (lv_at hl 2 rfl) ?_
    refine lv_iload_n hexec hb (k := 3) (i := 3) (x := nI i) (by decide +kernel) rfl (lv_at hl 3 rfl) ?_
    refine lv_icmp_ge hexec hb (off := 13) (tgt := 20) (by decide +kernel) (by decide) (fun _ => ?_) (fun q => absurd (Int32.le_refl _) q)
    exact kk H locs ls hP hD hS
  | k + 1, i, hi, H, locs, ls, hP, hD, hS, hl => by
    refine lv_iload_n hexec hb (k := 2) (i := 2) (x := nI i) (by decide +kernel) rfl (lv_at hl 2 rfl) ?_
    refine lv_iload_n hexec hb (k := 3) (i := 3) (x := nI n) (by decide +kernel) rfl (lv_at hl 3 rfl) ?_
    refine lv_icmp_ge hexec hb (off := 13) (tgt := 20) (by decide +kernel) (by decide) (fun q => absurd q (nI_ge (by omega) hn)) (fun _ => ?_)
    refine lv_aload_n hexec hb (k := 0) (i := 0) (x := q) (by decide +kernel) rfl (lv_at hl 0 rfl) ?_
    refine lv_iload_n hexec hb (k := 2) (i := 2) (x := nI i) (by decide +kernel) rfl (lv_at hl 2 rfl) ?_
    refine lv_iload_n hexec hb (k := 1) (i := 1) (x := v) (by decide +kernel) rfl (lv_at hl 1 rfl) ?_
    refine va_iast hexec hb hK hP hD hS 0 0 rfl rfl (vp_in_nI (by omega) hn) (by decide +kernel) (fun H1 locs1 hP1 hD1 hS1 => ?_)
    have e : upd (fun j => if j < i then v else f j) (nI i).toNatClampNeg v = (fun j => if j < i + 1 then v else f j) := by
      rw [nI_clamp (by omega)]
      funext j
      unfold upd
      by_cases h1 : j = i
      · subst h1
        rw [if_pos rfl, if_pos (Nat.lt_succ_self _)]
      · rw [if_neg h1]
        show (if j < i then v else f j) = _
        by_cases h2 : j < i
        · rw [if_pos h2, if_pos (by omega)]
        · rw [if_neg h2, if_neg (by omega)]
    have hP1 : va_P D vwCl [(q, .inl (cI, n, .inl (upd (fun j => if j < i then v else f j) (nI i).toNatClampNeg v)))] H1 := hP1
    have hD1 : va_D A [(q, .inl (cI, n, .inl (upd (fun j => if j < i then v else f j) (nI i).toNatClampNeg v)))] := hD1
    rw [e] at hP1 hD1
    refine lv_iinc hexec hb (i := 2) (n := 1) (k := 2) (x := nI i) (v := nI (i + 1)) (lv' := [(2, .int (nI (i + 1))), (0, .ref q), (1, .int v), (3, .int (nI n))]) (by decide +kernel) hl rfl (nI_1 i) (by decide) rfl (fun ls1 hl1 => ?_)
    refine lv_goto hexec hb (off := -12) (tgt := 5) (by decide +kernel) (by decide) ?_
    exact cz_fill hexec hb hK hn kk k (i + 1) (by omega) H1 locs1 ls1 hP1 hD1 hS1 (lv_sub hl1 [1, 2, 0, 3] rfl)
end
/-! the JDK's Arrays.fill of ints -/
theorem c_fill (l : Launch) (D : va_G) (cI cT cS : ClassId) (q sz n : Nat) (f : Nat → Int32) (v : Int32) (hn : n < 2 ^ 31) : Met l yJ7_fill_53178 (Cond.code yJ7_fill_53178 cJ7_fill_53178 4 none :: pm_w) { frames := 0, cells := 0, slots := 0, locals := 0 } (va_Pc [.ref q, .int v] (fun U => U.heap.size = sz ∧ va_P D vwCl [(q, .inl (cI, n, .inl f))] U.heap ∧ va_K D vwCl (pm_tys cI cT cS) U ∧ va_D (fun _ => True) [(q, .inl (cI, n, .inl f))]))
    (va_Qv (fun _ : Unit => True) (fun _ t => va_P D vwCl [(q, .inl (cI, n, .inl (fun j => if j < n then v else f j)))] t.heap ∧ va_K D vwCl (pm_tys cI cT cS) t ∧ va_D (va_A [(q, .inl (cI, n, .inl f))] sz) [(q, .inl (cI, n, .inl (fun j => if j < n then v else f j)))]) (va_A [(q, .inl (cI, n, .inl f))] sz)) 0 0 (va_A [(q, .inl (cI, n, .inl f))] sz) := by
  refine Met.ofW (cc := cJ7_fill_53178) (maxL := 4) (ret := none) (by decide) rfl ?_
  intro p e s m args below meth c s₁ B hml hv
  obtain ⟨rfl, hsz, hP, hK, hD0⟩ := hv
  have hx := B.exec
  have hb := B.bytes
  have hlocks := B.notSynchronized
  subst hsz
  have hD := hD0.self (sz := s.heap.size)
  have hS : va_S (va_A [(q, .inl (cI, n, .inl f))] s.heap.size) s.heap s.heap [] := va_S.rf
  have hl := lv_entry ([.ref q, .int v]) (n := 4) (Nat.le_of_ble_eq_true rfl)
  rw [lg_entry_eq]
  generalize (lg_sl ([.ref q, .int v]) ++ List.replicate (4 - (lg_sl ([.ref q, .int v])).length) Slot.unset).toArray = ls at hl ⊢
  have hl : lv_has ls 4 [(0, .ref q), (1, .int v)] := hl
  refine lv_iconst hx hb (n := 0) (v := 0) (by decide +kernel) (by decide) ?_
  refine lv_istore_n (k := 2) (i := 2) (lv' := [(2, .int 0), (0, .ref q), (1, .int v)]) hx hb (by decide +kernel) rfl hl (by decide) rfl (fun ls hl => ?_)
  refine lv_aload_n hx hb (k := 0) (i := 0) (x := q) (by decide +kernel) rfl (lv_at hl 1 rfl) ?_
  refine va_alen hx hb hK hP 0 0 rfl rfl (v := nI n) rfl (by decide +kernel) ?_
  refine lv_istore_n (k := 3) (i := 3) (lv' := [(3, .int (nI n)), (2, .int 0), (0, .ref q), (1, .int v)]) hx hb (by decide +kernel) rfl hl (by decide) rfl (fun ls hl => ?_)
  have e0 : (fun j => if j < 0 then v else f j) = f := by
    funext j
    rw [if_neg (Nat.not_lt_zero j)]
  refine cz_fill (f := f) (v := v) (n := n) (q := q) hx hb hK hn (fun H locs ls hP hD hS => ?_) n 0 (Nat.zero_add n) s.heap [] ls (by rw [e0]; exact hP) (by rw [e0]; exact hD) hS (lv_sub hl [2, 3, 1, 0] rfl)
  exact W.vret hx hb B.returns (fun t ht hW => ⟨⟨(), rfl, trivial, by rw [ht]; exact hP, va_K.moved hW.alike hK, hD⟩, hS.F ht⟩) hS.2.2 (by decide +kernel) hlocks
