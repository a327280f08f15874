/-! THE LAW'S START: the static row, the constant texts, the JDK's switches -/
def cg_F : List Cond := flatC (Jvm.Cond.and given_1 narrow_1)
def cg_tm (z : Nat) : Term := bif Nat.beq z 12 then .string "StairLines" 54 else .string "StairLines$Reader" (103 + 2 * z)
set_option maxRecDepth 100000 in
theorem cg_m1 : ∀ z, z < 13 → Cond.exactly (cg_tm z) "java/lang/String" ∈ cg_F := by decide +kernel
set_option maxRecDepth 100000 in
theorem cg_m2 : ∀ z, z < 13 → Cond.eq (.field (cg_tm z) "java/lang/String" "coder" "B") (.int 0) ∈ cg_F := by decide +kernel
set_option maxRecDepth 100000 in
theorem cg_m3 : ∀ z, z < 13 → Cond.arrayOf (.field (cg_tm z) "java/lang/String" "value" "[B") .byte ∈ cg_F := by decide +kernel
set_option maxRecDepth 100000 in
theorem cg_m4 : ∀ z, z < 13 → Cond.eq (.length (.field (cg_tm z) "java/lang/String" "value" "[B")) (.int (Int32.ofNat (pm_sl z).length)) ∈ cg_F := by decide +kernel
set_option maxRecDepth 100000 in
theorem cg_m5 : ∀ z, z < 13 → ∀ j, j < (pm_sl z).length → Cond.eq (.elem (.field (cg_tm z) "java/lang/String" "value" "[B") (.int (Int32.ofNat j))) (.int (jd_by z j)) ∈ cg_F := by decide +kernel
/-- the other class's links of the same texts -/
def cg_eq : List ((String × Nat) × Nat) := [(("StairLinesModel", 89), 12), (("StairLinesModel", 213), 0), (("StairLinesModel", 191), 5), (("StairLinesModel", 152), 6), (("StairLinesModel", 158), 7), (("StairLinesModel", 160), 8), (("StairLinesModel", 161), 9), (("StairLinesModel", 163), 10), (("StairLinesModel", 165), 11), (("StairLinesModel", 189), 4), (("StairLinesModel", 177), 3), (("StairLinesModel", 219), 1), (("StairLinesModel", 221), 2)]
set_option maxRecDepth 100000 in
theorem cg_m6 : ∀ q ∈ cg_eq, Cond.eq (cg_tm q.2) (.string q.1.1 q.1.2) ∈ cg_F := by decide +kernel
set_option maxRecDepth 100000 in
theorem cg_m7 : Cond.eq (.static "java/lang/String" "COMPACT_STRINGS" "Z") (.int 1) ∈ cg_F ∧ Cond.isRef (.static "jdk/internal/util/Preconditions" "SIOOBE_FORMATTER" "Ljava/util/function/BiFunction;") ∈ cg_F ∧ Cond.arrayOf (.static "StairLines" "UNDER" "[I") .int ∈ cg_F ∧ Cond.eq (.length (.static "StairLines" "UNDER" "[I")) (.int (Int32.ofNat 6)) ∈ cg_F := by decide +kernel
set_option maxRecDepth 100000 in
theorem cg_m8 : ∀ j, j < 6 → Cond.eq (.elem (.static "StairLines" "UNDER" "[I") (.int (Int32.ofNat j))) (.int (pm_un j)) ∈ cg_F := by decide +kernel
set_option maxRecDepth 100000 in
theorem cg_m9 : Cond.laysStatic "StairLines" "UNDER" "[I" ∈ lw_tbl ∧ Cond.initialized "StairLines" ∈ lw_tbl ∧ Cond.laysStatic "java/lang/String" "COMPACT_STRINGS" "Z" ∈ lw_tbl ∧ Cond.initialized "java/lang/String" ∈ lw_tbl ∧ Cond.laysStatic "jdk/internal/util/Preconditions" "SIOOBE_FORMATTER" "Ljava/util/function/BiFunction;" ∈ lw_tbl ∧ Cond.initialized "jdk/internal/util/Preconditions" ∈ lw_tbl := by decide +kernel
/-- all links of texts, with the texts -/
def cg_lk : List ((Nat × Nat) × (Nat × String)) := [((0, 103), (0, "slows")), ((0, 105), (1, "comes")), ((0, 107), (2, "minds")), ((0, 109), (3, "or")), ((0, 111), (4, "and")), ((0, 113), (5, "not")), ((0, 115), (6, "cell")), ((0, 117), (7, "many")), ((0, 119), (8, "tick")), ((0, 121), (9, "ahead")), ((0, 123), (10, "wide")), ((0, 125), (11, "left")), ((6, 54), (12, "slows 7 < many ; comes 9 ; minds 1 ;")), ((7, 89), (12, "slows 7 < many ; comes 9 ; minds 1 ;")), ((7, 213), (0, "slows")), ((7, 191), (5, "not")), ((7, 152), (6, "cell")), ((7, 158), (7, "many")), ((7, 160), (8, "tick")), ((7, 161), (9, "ahead")), ((7, 163), (10, "wide")), ((7, 165), (11, "left")), ((7, 189), (4, "and")), ((7, 177), (3, "or")), ((7, 219), (1, "comes")), ((7, 221), (2, "minds"))]
set_option maxRecDepth 100000 in
theorem cg_m10 : ∀ q ∈ cg_lk, Cond.stringRef (pm_cn q.1.1) q.1.2 q.2.2 ∈ lw_tbl ∧ q.2.1 < 13 ∧ (cg_tm q.2.1 = .string (pm_cn q.1.1) q.1.2 ∨ ((pm_cn q.1.1, q.1.2), q.2.1) ∈ cg_eq) := by decide +kernel
theorem cg_lk_all {own idx z : Nat} (h : pm_look (pm_ss own) idx = some z) : ∃ tx, ((own, idx), (z, tx)) ∈ cg_lk := by
  have hm := pm_look_mem h
  have g : ∀ own, own < 8 → ∀ q ∈ pm_ss own, ∃ e ∈ cg_lk, e.1 = (own, q.1) ∧ e.2.1 = q.2 := by decide +kernel
  have ho : own < 8 := by
    rcases Nat.lt_or_ge own 8 with q | q
    · exact q
    · have : pm_ss own = [] := by
        match own, q with
        | n + 8, _ => rfl
      rw [this] at hm
      exact absurd hm List.not_mem_nil
  obtain ⟨⟨a, b, tx⟩, h1, h2, h3⟩ := g own ho _ hm
  dsimp only at h2 h3
  subst h2; subst h3
  exact ⟨tx, h1⟩
theorem va_OF_one {o n d : String} {v v' : Value} {t : Nat} {A : Nat → Prop} {U : State} {H : Heap} (h : va_OF o n d v t A U H) (h' : va_OF o n d v' t A U H) : v = v' := by
  obtain ⟨cf, k, i, f, cell, a1, a2, a3, a4, a5, a6⟩ := h
  obtain ⟨cf', k', i', f', cell', b1, b2, b3, b4, b5, b6⟩ := h'
  cases a1.symm.trans b1
  cases a3.symm.trans b3
  exact Option.some.inj (a5.symm.trans b5)
theorem va_T_one {ty : FieldType} {t N N' : Nat} {f f' : Nat → Value} {A : Nat → Prop} {U : State} {H : Heap} (h : va_T ty t N f A U H) (h' : va_T ty t N' f' A U H) : Int32.ofNat N = Int32.ofNat N' ∧ ∀ j, j < N → j < N' → f j = f' j := by
  obtain ⟨cell, a1, a2, a3, a4, a5, a6, a7⟩ := h
  obtain ⟨cell', b1, b2, b3, b4, b5, b6, b7⟩ := h'
  cases a1.symm.trans b1
  exact ⟨a5.symm.trans b5, fun j hj hj' => Option.some.inj ((a6 j hj).symm.trans (b6 j hj'))⟩
/-- no two of the texts are alike -/
theorem cg_apart : ∀ i, i < 13 → ∀ j, j < 13 → Int32.ofNat (pm_sl i).length = Int32.ofNat (pm_sl j).length → (∀ k, k < (pm_sl i).length → k < (pm_sl j).length → jd_by i k = jd_by j k) → i = j := by decide +kernel
theorem cg_one {args : Array Value} {s : State} {A : Nat → Prop} (hF : ∀ c ∈ cg_F, c.before args s = true) (hA : ∀ a : Nat, a < s.heap.size → ¬ A a) (z : Nat) (hz : z < 13) : ∃ a v : Nat, (cg_tm z).eval args s none [] s = some (.ref a) ∧ va_O "java/lang/String" a A s s.heap ∧ va_OF "java/lang/String" "coder" "B" (.int 0) a A s s.heap ∧ va_OF "java/lang/String" "value" "[B" (.ref v) a A s s.heap ∧ va_T .byte v (pm_sl z).length (fun j => .int (jd_by z j)) A s s.heap := by
  obtain ⟨ad, av, h, hv⟩ := vk_Sof (N := 1) (tm := fun _ => cg_tm z) (len := [(pm_sl z).length]) (byt := [(List.range (pm_sl z).length).map (jd_by z)]) (A := A) (args := args) (s := s)
    (fun i hi => by rw [show i = 0 by omega]; have := jd_short z hz; show (pm_sl z).length < _; omega) (fun i hi => hF _ (cg_m1 z hz)) (fun i hi => hF _ (cg_m2 z hz)) (fun i hi => hF _ (cg_m3 z hz)) (fun i hi => by rw [show i = 0 by omega]; exact hF _ (cg_m4 z hz))
    (fun i hi j hj => by
      have hi0 : i = 0 := by omega
      subst hi0
      have hj : j < (pm_sl z).length := hj
      have e : (([(List.range (pm_sl z).length).map (jd_by z)] : List (List Int32)).getD 0 []).getD j 0 = jd_by z j := by
        show ((List.range (pm_sl z).length).map (jd_by z)).getD j 0 = jd_by z j
        rw [List.getD_eq_getElem?_getD, List.getElem?_map, List.getElem?_range hj]; rfl
      rw [e]
      exact hF _ (cg_m5 z hz j hj)) (fun i j hi hj hij => absurd (show i = j by omega) hij) hA
  obtain ⟨h1, h2, h3, h4⟩ := h.1 0 (by omega)
  refine ⟨ad 0, av 0, hv 0 (by omega), h1, h2, h3, ?_⟩
  obtain ⟨cell, t1, t2, t3, t4, t5, t6, t7⟩ := h4
  refine ⟨cell, t1, t2, t3, t4, t5, fun j hj => ?_, t7⟩
  rw [t6 j hj]
  show some (Value.int (((List.range (pm_sl z).length).map (jd_by z)).getD j 0)) = _
  rw [List.getD_eq_getElem?_getD, List.getElem?_map, List.getElem?_range hj]; rfl
/-- two terms that are one object -/
theorem cg_same {args : Array Value} {s : State} {t u : Term} {a : Nat} (h : (Cond.eq t u).before args s = true) (ht : t.eval args s none [] s = some (.ref a)) : u.eval args s none [] s = some (.ref a) := by
  simp only [Cond.before, Cond.holds, Cond.value, ht] at h
  cases hu : u.eval args s none [] s with
  | none => simp [hu] at h
  | some v =>
    rw [hu] at h
    cases v <;> simp at h ⊢ <;> first | exact h.symm | exact h | skip
theorem cg_G {args : Array Value} {s : State} (hF : ∀ c ∈ cg_F, c.before args s = true) (hts : ∀ w ∈ lw_tbl, w.before args s = true) : ∃ τ : Nat → Nat, pm_G τ (fun q => s.heap.size ≤ q) s s.heap := by
  have hA : ∀ a : Nat, a < s.heap.size → ¬ (fun q : Nat => s.heap.size ≤ q) a := fun a h => Nat.not_le.mpr h
  obtain ⟨k1, k2, k3, k4, k5, k6⟩ := cg_m9
  obtain ⟨m1, m2, m3, m4⟩ := cg_m7
  obtain ⟨u, hu, hT⟩ := va_Tof (A := fun q => s.heap.size ≤ q) (N := 6) (f := fun j => .int (pm_un j)) (by decide) (hF _ m3) (va_eqt (hF _ m4)) (fun j hj => va_eqt (hF _ (cg_m8 j hj))) hA
  have hZ : va_Z "StairLines" "UNDER" "[I" (.ref u) (fun q => s.heap.size ≤ q) s s.heap := va_Zref (hts _ k1) (hts _ k2) hu hA
  have h0 : ∀ z : Nat, ∃ q : Nat × Nat, z < 13 → (cg_tm z).eval args s none [] s = some (.ref q.1) ∧ va_O "java/lang/String" q.1 (fun q => s.heap.size ≤ q) s s.heap ∧ va_OF "java/lang/String" "coder" "B" (.int 0) q.1 (fun q => s.heap.size ≤ q) s s.heap ∧ va_OF "java/lang/String" "value" "[B" (.ref q.2) q.1 (fun q => s.heap.size ≤ q) s s.heap ∧ va_T .byte q.2 (pm_sl z).length (fun j => .int (jd_by z j)) (fun q => s.heap.size ≤ q) s s.heap := by
    intro z
    by_cases hz : z < 13
    · obtain ⟨a, v, h⟩ := cg_one (A := fun q => s.heap.size ≤ q) hF hA z hz
      exact ⟨(a, v), fun _ => h⟩
    · exact ⟨(0, 0), fun h => absurd h hz⟩
  obtain ⟨ad, had⟩ := Classical.axiomOfChoice h0
  refine ⟨fun k => if k = 2000 then u else (ad (k - 1000)).1, ?_⟩
  have e2 : (if (2000 : Nat) = 2000 then u else (ad (2000 - 1000)).1) = u := if_pos rfl
  have e1 : ∀ z, z < 13 → (if 1000 + z = 2000 then u else (ad (1000 + z - 1000)).1) = (ad z).1 := fun z hz => by
    rw [if_neg (by omega), Nat.add_sub_cancel_left]
  refine ⟨?_, ?_, ⟨fun i => (ad i).2, fun i hi => ?_, fun i j hi hj e => ?_⟩, fun own idx z hz => ?_, va_Zof (hts _ k3) (hts _ k4) (va_eqt (hF _ m1)) hA, va_Zqof (hts _ k5) (hts _ k6) (hF _ m2) hA⟩
  · dsimp only; rw [e2]; exact hZ
  · dsimp only; rw [e2]; exact hT
  · dsimp only; rw [e1 i hi, jd_lens]
    obtain ⟨-, g1, g2, g3, g4⟩ := had i hi
    exact ⟨g1, g2, g3, g4⟩
  · dsimp only at e
    rw [e1 i hi, e1 j hj] at e
    obtain ⟨-, -, -, g3, g4⟩ := had i hi
    obtain ⟨-, -, -, f3, f4⟩ := had j hj
    rw [← e] at f3
    have ev := va_OF_one g3 f3
    injection ev with ev
    rw [← ev] at f4
    obtain ⟨t1, t2⟩ := va_T_one g4 f4
    exact cg_apart i hi j hj t1 (fun k h1 h2 => by
      have := t2 k h1 h2
      injection this)
  · obtain ⟨tx, hm⟩ := cg_lk_all hz
    obtain ⟨g1, g2, g3⟩ := cg_m10 _ hm
    dsimp only at g1 g2 g3
    refine ⟨tx, ?_⟩
    dsimp only
    rw [e1 z g2]
    have hev := (had z g2).1
    rcases g3 with g3 | g3
    · rw [g3] at hev
      exact vk_R.of (hts _ g1) hev
    · exact vk_R.of (hts _ g1) (cg_same (hF _ (cg_m6 _ g3)) hev)
