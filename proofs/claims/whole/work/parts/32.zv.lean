/-! MATHEMATICS, 32: a tick of the pure stair keeps it as it may be -/
theorem zGo_ok {R : Nat → List Int32} {sh left : Int32} {s : Nat} {z : pm_H} (hV : zV z) (hs : s < 10) : 0 ≤ (zGo R sh left s z).toInt ∧ (zGo R sh left s z).toInt ≤ (z 2 s).toInt ∧ (s < 9 → (z 2 (s + 1)).toInt + (zGo R sh left s z).toInt ≤ (zHo (z 0 (s + 1)) (z 1 (s + 1))).toInt) := by
  obtain ⟨v1, v2, v3, v4⟩ := hV
  obtain ⟨a1, a2, a3, a4⟩ := v3 s hs
  have ah := zHo_ok a1 a2
  have hp : zB 0 10 (if nI s = sh then 0 else zPa (z 0 s) (z 1 s) (z 7 1)) := by
    by_cases h : nI s = sh
    · rw [if_pos h]; exact ⟨by simp, by simp⟩
    · rw [if_neg h]; exact zPa_ok a2
  have hw := zWo_b (R := R) (which := 0) (s := s) (left := left) (bound := 9) (z := z) (by decide)
  unfold zGo
  dsimp only
  generalize (if nI s = sh then 0 else zPa (z 0 s) (z 1 s) (z 7 1)) = p at hp ⊢
  generalize zWo R 0 s left 9 z = w at hw ⊢
  have h9 : (9 : Int32).toInt = 9 := by decide
  rw [h9] at hw
  unfold zB at *
  have hpw : (p - w).toInt = p.toInt - w.toInt := zb_tsub (by omega) (by omega)
  by_cases hg : 0 < pm_min (z 2 s) p
  · rw [if_pos hg]
    rw [zb_tlt, zb_tmin, Int32.toInt_zero] at hg
    by_cases h : s < 9
    · rw [if_pos h, zb_tmin, zb_tmin, zb_tmin, zb_tmax, Int32.toInt_zero, hpw]
      obtain ⟨b1, b2, b3, b4⟩ := v3 (s + 1) (by omega)
      have bh := zHo_ok b1 b2
      unfold zB at bh
      rw [zb_tsub (by omega) (by omega)]
      refine ⟨by omega, by omega, fun _ => by omega⟩
    · rw [if_neg h]
      simp only [zb_tmin, zb_tmax, Int32.toInt_zero, hpw]
      exact ⟨by omega, by omega, fun q => absurd q h⟩
  · rw [if_neg hg]
    rw [zb_tlt, zb_tmin, Int32.toInt_zero] at hg
    rw [zb_tmin]
    refine ⟨by omega, by omega, fun q => ?_⟩
    obtain ⟨b1, b2, b3, b4⟩ := v3 (s + 1) (by omega)
    omega
/-- as the reference reckons it -/
def zGm (R : Nat → List Int32) (sh left : Int32) (s : Nat) (z : pm_H) : Int32 :=
  if z 2 s = 0 then 0 else if nI s = sh then 0 else
  (let g := pm_min (z 2 s) (zPm (z 0 s) (z 1 s) (z 7 1) - zWo R 0 s left 9 z)
   let g2 := if s < 9 then pm_min g (zHm (z 0 (s + 1)) (z 1 (s + 1)) - z 2 (s + 1)) else g
   if 0 < g2 then g2 else 0)
theorem zGm_eq {R : Nat → List Int32} {sh left : Int32} {s : Nat} {z : pm_H} (hV : zV z) (hs : s < 10) : zGm R sh left s z = zGo R sh left s z := by
  obtain ⟨v1, v2, v3, v4⟩ := hV
  obtain ⟨a1, a2, a3, a4⟩ := v3 s hs
  have ah := zHo_ok a1 a2
  have hp := zPa_ok (k := z 0 s) (t := z 7 1) a2
  have hw := zWo_b (R := R) (which := 0) (s := s) (left := left) (bound := 9) (z := z) (by decide)
  unfold zGm zGo
  dsimp only
  rw [zPa_eq a2]
  generalize zPa (z 0 s) (z 1 s) (z 7 1) = p at hp ⊢
  generalize zWo R 0 s left 9 z = w at hw ⊢
  have h9 : (9 : Int32).toInt = 9 := by decide
  rw [h9] at hw
  unfold zB at *
  have hpw : (p - w).toInt = p.toInt - w.toInt := zb_tsub (by omega) (by omega)
  by_cases h0 : z 2 s = 0
  · rw [if_pos h0, h0]
    have e : pm_min 0 (if nI s = sh then 0 else p) = 0 := by
      refine zb_teq.mpr ?_
      rw [zb_tmin, Int32.toInt_zero]
      by_cases h : nI s = sh
      · rw [if_pos h, Int32.toInt_zero]; omega
      · rw [if_neg h]; omega
    rw [e]
    rfl
  · rw [if_neg h0]
    by_cases h : nI s = sh
    · rw [if_pos h, if_pos h]
      have e : pm_min (z 2 s) 0 = 0 := by
        refine zb_teq.mpr ?_
        rw [zb_tmin, Int32.toInt_zero]; omega
      rw [e]
      rfl
    · rw [if_neg h, if_neg h]
      rw [zb_teq, Int32.toInt_zero] at h0
      by_cases h' : s < 9
      · rw [if_pos h', if_pos h']
        obtain ⟨b1, b2, b3, b4⟩ := v3 (s + 1) (by omega)
        have bh := zHo_ok b1 b2
        unfold zB at bh
        rw [zHo_eq b1 b2]
        have hr : (zHo (z 0 (s + 1)) (z 1 (s + 1)) - z 2 (s + 1)).toInt = (zHo (z 0 (s + 1)) (z 1 (s + 1))).toInt - (z 2 (s + 1)).toInt := zb_tsub (by omega) (by omega)
        generalize zHo (z 0 (s + 1)) (z 1 (s + 1)) - z 2 (s + 1) = r at hr ⊢
        refine zb_teq.mpr ?_
        by_cases c1 : 0 < pm_min (pm_min (z 2 s) (p - w)) r <;> by_cases c2 : 0 < pm_min (z 2 s) p
        · rw [if_pos c1, if_pos c2]
          rw [zb_tlt] at c1 c2
          simp only [zb_tmin, zb_tmax, Int32.toInt_zero, hpw, hr] at c1 c2 ⊢
          omega
        · rw [if_pos c1, if_neg c2]
          rw [zb_tlt] at c1 c2
          simp only [zb_tmin, zb_tmax, Int32.toInt_zero, hpw, hr] at c1 c2 ⊢
          omega
        · rw [if_neg c1, if_pos c2]
          rw [zb_tlt] at c1 c2
          simp only [zb_tmin, zb_tmax, Int32.toInt_zero, hpw, hr] at c1 c2 ⊢
          omega
        · rw [if_neg c1, if_neg c2]
          rw [zb_tlt] at c1 c2
          simp only [zb_tmin, zb_tmax, Int32.toInt_zero, hpw, hr] at c1 c2 ⊢
          omega
      · rw [if_neg h', if_neg h']
        refine zb_teq.mpr ?_
        by_cases c1 : 0 < pm_min (z 2 s) (p - w) <;> by_cases c2 : 0 < pm_min (z 2 s) p
        · rw [if_pos c1, if_pos c2]
          rw [zb_tlt] at c1 c2
          simp only [zb_tmin, zb_tmax, Int32.toInt_zero, hpw] at c1 c2 ⊢
          omega
        · rw [if_pos c1, if_neg c2]
          rw [zb_tlt] at c1 c2
          simp only [zb_tmin, zb_tmax, Int32.toInt_zero, hpw] at c1 c2 ⊢
          omega
        · rw [if_neg c1, if_pos c2]
          rw [zb_tlt] at c1 c2
          simp only [zb_tmin, zb_tmax, Int32.toInt_zero, hpw] at c1 c2 ⊢
          omega
        · rw [if_neg c1, if_neg c2]
          rw [zb_tlt] at c1 c2
          simp only [zb_tmin, zb_tmax, Int32.toInt_zero, hpw] at c1 c2 ⊢
          omega
/-- rows that a step's leaving doesn't touch -/
theorem zLe_r {go : Int32} {s : Nat} {z : pm_H} {r : Nat} (h2 : r ≠ 2) (h7 : r ≠ 7) : zLe go s z r = z r := by
  unfold zLe
  by_cases h : s < 9
  · rw [if_pos h, zb_un h2, zb_un h2]
  · rw [if_neg h, zb_un h7, zb_un h2]
theorem zLe_7 {go : Int32} {s : Nat} {z : pm_H} {j : Nat} (hj : j ≠ 2) : zLe go s z 7 j = z 7 j := by
  unfold zLe
  by_cases h : s < 9
  · rw [if_pos h, zb_un (by omega), zb_un (by omega)]
  · rw [if_neg h, zb_uj hj, zb_un (by omega)]
theorem zLe_2 {go : Int32} {s : Nat} {z : pm_H} {j : Nat} : zLe go s z 2 j = if s < 9 ∧ j = s + 1 then z 2 (s + 1) + go else if j = s then z 2 s - go else z 2 j := by
  unfold zLe
  by_cases h : s < 9
  · simp only [if_pos h, zb_u, h, true_and, if_true]
  · simp only [if_neg h, zb_u, h, false_and, if_false]
    rfl
theorem zV_Le {R : Nat → List Int32} {sh left : Int32} {s : Nat} {z : pm_H} (hV : zV z) (hs : s < 10) : zV (zLe (zGo R sh left s z) s z) := by
  obtain ⟨g1, g2, g3⟩ := zGo_ok (R := R) (sh := sh) (left := left) hV hs
  obtain ⟨v1, v2, v3, v4⟩ := hV
  generalize zGo R sh left s z = go at g1 g2 g3 ⊢
  unfold zV
  rw [zLe_7 (by omega), zLe_7 (by omega)]
  simp only [zLe_r (r := 0) (by omega) (by omega), zLe_r (r := 1) (by omega) (by omega), zLe_r (r := 3) (by omega) (by omega), zLe_r (r := 4) (by omega) (by omega), zLe_r (r := 5) (by omega) (by omega), zLe_r (r := 6) (by omega) (by omega)]
  refine ⟨v1, v2, fun j hj => ?_, v4⟩
  obtain ⟨a1, a2, a3, a4⟩ := v3 j hj
  refine ⟨a1, a2, ?_⟩
  rw [zLe_2]
  by_cases c1 : s < 9 ∧ j = s + 1
  · rw [if_pos c1]
    obtain ⟨c1, rfl⟩ := c1
    have := g3 c1
    have ah := zHo_ok a1 a2
    unfold zB at ah
    rw [zb_tadd (by omega) (by omega)]
    omega
  · rw [if_neg c1]
    by_cases c2 : j = s
    · rw [if_pos c2]
      subst c2
      have ah := zHo_ok a1 a2
      unfold zB at ah
      rw [zb_tsub (by omega) (by omega)]
      omega
    · rw [if_neg c2]
      exact ⟨a3, a4⟩
theorem zL_ok {R : Nat → List Int32} {sh left : Int32} : ∀ {k : Nat} {z : pm_H} {st : Nat → Int32}, k ≤ 10 → zV z → zV (zL R sh left k z st).1 ∧ (∀ r, r ≠ 2 → r ≠ 7 → (zL R sh left k z st).1 r = z r) ∧ (∀ j, j ≠ 2 → (zL R sh left k z st).1 7 j = z 7 j) ∧ (∀ j, k ≤ j → (zL R sh left k z st).2 j = st j) ∧ (∀ j, j < k → zB 0 84 ((zL R sh left k z st).2 j))
  | 0, z, st, _, hV => ⟨hV, fun _ _ _ => rfl, fun _ _ => rfl, fun _ _ => rfl, fun j hj => absurd hj (by omega)⟩
  | k + 1, z, st, hk, hV => by
    obtain ⟨i1, i2, i3, i4, i5⟩ := zL_ok (R := R) (sh := sh) (left := left) (k := k) (z := zLe (zGo R sh left k z) k z) (st := upd st k (z 2 k - zGo R sh left k z)) (by omega) (zV_Le hV (by omega))
    unfold zL
    refine ⟨i1, fun r h2 h7 => (i2 r h2 h7).trans (zLe_r h2 h7), fun j hj => (i3 j hj).trans (zLe_7 hj), fun j hj => ?_, fun j hj => ?_⟩
    · rw [i4 j (by omega)]
      unfold upd
      rw [if_neg (by omega)]
    · rcases Nat.lt_or_ge j k with q | q
      · exact i5 j q
      · rw [i4 j q]
        have : j = k := by omega
        subst this
        unfold upd
        rw [if_pos rfl]
        obtain ⟨g1, g2, g3⟩ := zGo_ok (R := R) (sh := sh) (left := left) hV (s := j) (by omega)
        obtain ⟨a1, a2, a3, a4⟩ := hV.2.2.1 j (by omega)
        have ah := zHo_ok a1 a2
        unfold zB at ah ⊢
        rw [zb_tsub (by omega) (by omega)]
        omega
/-- how many of a class step on -/
theorem zFl_ok {R : Nat → List Int32} {c : Nat} {z : pm_H} (hV : zV z) (hc : c < (z 7 0).toNatClampNeg) : zV (zFl R c z) ∧ (∀ r, r ≠ 2 → r ≠ 6 → zFl R c z r = z r) := by
  obtain ⟨v1, v2, v3, v4⟩ := id hV
  obtain ⟨f1, f2, f3, f4⟩ := v4 c hc
  unfold zFl
  by_cases h1 : z 7 1 < z 4 c
  · rw [if_pos h1]; exact ⟨hV, fun _ _ _ => rfl⟩
  rw [if_neg h1]
  by_cases h2 : 0 < z 6 c
  · rw [if_pos h2]
    by_cases h3 : 0 < zHo (z 0 (z 3 c).toNatClampNeg) (z 1 (z 3 c).toNatClampNeg) - z 2 (z 3 c).toNatClampNeg
    · rw [if_pos h3]
      have hf : (z 3 c).toNatClampNeg < 10 := by have := zB_zi (b := 9) f1; omega
      generalize (z 3 c).toNatClampNeg = f at hf h3 ⊢
      obtain ⟨a1, a2, a3, a4⟩ := v3 f hf
      have ah := zHo_ok a1 a2
      have hw := zWo_b (R := R) (which := 1) (s := f) (left := z 6 c) (bound := 9) (z := z) (by decide)
      have h9 : (9 : Int32).toInt = 9 := by decide
      rw [h9] at hw
      generalize zWo R 1 f (z 6 c) 9 z = w at hw ⊢
      dsimp only
      unfold zB at ah hw f3 f4
      have hr : (zHo (z 0 f) (z 1 f) - z 2 f).toInt = (zHo (z 0 f) (z 1 f)).toInt - (z 2 f).toInt := zb_tsub (by omega) (by omega)
      rw [zb_tlt, hr, Int32.toInt_zero] at h3
      have hg : (pm_min (pm_min (z 6 c) (z 5 c)) (pm_min w (zHo (z 0 f) (z 1 f) - z 2 f))).toInt = min (min (z 6 c).toInt (z 5 c).toInt) (min w.toInt ((zHo (z 0 f) (z 1 f)).toInt - (z 2 f).toInt)) := by simp only [zb_tmin, hr]
      generalize pm_min (pm_min (z 6 c) (z 5 c)) (pm_min w (zHo (z 0 f) (z 1 f) - z 2 f)) = g at hg ⊢
      refine ⟨?_, fun r h2 h6 => by rw [zb_un h2, zb_un h6]⟩
      unfold zV
      simp only [zb_u, if_true, if_false, reduceIte, Nat.reduceEqDiff]
      refine ⟨v1, v2, fun s hs => ?_, fun c' hc' => ?_⟩
      · obtain ⟨b1, b2, b3, b4⟩ := v3 s hs
        refine ⟨b1, b2, ?_⟩
        by_cases e : s = f
        · subst e
          rw [if_pos rfl, zb_tadd (by omega) (by omega)]
          omega
        · rw [if_neg e]; exact ⟨b3, b4⟩
      · obtain ⟨e1, e2, e3, e4⟩ := v4 c' hc'
        refine ⟨e1, e2, e3, ?_⟩
        by_cases e : c' = c
        · subst e
          rw [if_pos rfl]
          unfold zB
          rw [zb_tsub (by omega) (by omega)]
          omega
        · rw [if_neg e]; exact e4
    · rw [if_neg h3]; exact ⟨hV, fun _ _ _ => rfl⟩
  · rw [if_neg h2]; exact ⟨hV, fun _ _ _ => rfl⟩
theorem zF_ok {R : Nat → List Int32} : ∀ {m c : Nat} {z : pm_H}, zV z → c + m ≤ (z 7 0).toNatClampNeg → zV (zF R m c z) ∧ (∀ r, r ≠ 2 → r ≠ 6 → zF R m c z r = z r)
  | 0, c, z, hV, _ => ⟨hV, fun _ _ _ => rfl⟩
  | m + 1, c, z, hV, hc => by
    obtain ⟨i1, i2⟩ := zFl_ok (R := R) (c := c) hV (by omega)
    obtain ⟨j1, j2⟩ := zF_ok (R := R) (m := m) (c := c + 1) (z := zFl R c z) i1 (by rw [i2 7 (by omega) (by omega)]; omega)
    unfold zF
    exact ⟨j1, fun r h2 h6 => (j2 r h2 h6).trans (i2 r h2 h6)⟩
theorem zCs_r {st : Nat → Int32} {s : Nat} {z : pm_H} {r : Nat} (h8 : r ≠ 8) (h9 : r ≠ 9) : zCs st s z r = z r := by
  unfold zCs
  by_cases h : 0 < st s
  · rw [if_pos h, zb_un h8, zb_un h9, zb_un h9]
  · rw [if_neg h, zb_un h9]
theorem zC_r {st : Nat → Int32} {r : Nat} (h8 : r ≠ 8) (h9 : r ≠ 9) : ∀ {m s : Nat} {z : pm_H}, zC st m s z r = z r
  | 0, _, _ => rfl
  | m + 1, s, z => by
    unfold zC
    rw [zC_r h8 h9, zCs_r h8 h9]
theorem zV_rows {z w : pm_H} (h : ∀ r, r < 8 → w r = z r) (hV : zV z) : zV w := by
  unfold zV at hV ⊢
  simp only [h 0 (by omega), h 1 (by omega), h 2 (by omega), h 3 (by omega), h 4 (by omega), h 5 (by omega), h 6 (by omega), h 7 (by omega)]
  exact hV
theorem zT0_ok {R : Nat → List Int32} {sh : Int32} {z : pm_H} (hV : zV z) : zV (zT0 R sh z).1 ∧ (∀ r, r ≠ 2 → r ≠ 6 → r ≠ 7 → (zT0 R sh z).1 r = z r) ∧ (∀ j, j ≠ 2 → (zT0 R sh z).1 7 j = z 7 j) ∧ (∀ j, j < 10 → zB 0 84 ((zT0 R sh z).2 j)) := by
  obtain ⟨i1, i2, i3, i4, i5⟩ := zL_ok (R := R) (sh := sh) (left := zIn z) (k := 10) (z := z) (st := fun _ => 0) (by omega) hV
  unfold zT0
  dsimp only
  obtain ⟨j1, j2⟩ := zF_ok (R := R) (m := (z 7 0).toNatClampNeg) (c := 0) (z := (zL R sh (zIn z) 10 z (fun _ => 0)).1) i1 (by rw [i3 0 (by omega)]; omega)
  exact ⟨j1, fun r h2 h6 h7 => (j2 r h2 h6).trans (i2 r h2 h7), fun j hj => by rw [j2 7 (by omega) (by omega)]; exact i3 j hj, i5⟩
theorem zT_ok {R : Nat → List Int32} {sh : Int32} {z : pm_H} (hV : zV z) : zV (zT R sh z) ∧ (∀ r, r ≠ 2 → r ≠ 6 → r ≠ 7 → r ≠ 8 → r ≠ 9 → zT R sh z r = z r) ∧ zT R sh z 7 0 = z 7 0 ∧ zT R sh z 7 1 = pm_min 999 (z 7 1 + 1) := by
  obtain ⟨i1, i2, i3, i4⟩ := zT0_ok (R := R) (sh := sh) hV
  unfold zT
  dsimp only
  generalize zT0 R sh z = q at i1 i2 i3 i4 ⊢
  have hw : zV (zC q.2 10 0 q.1) := zV_rows (fun r hr => zC_r (by omega) (by omega)) i1
  have h71 : zC q.2 10 0 q.1 7 1 = z 7 1 := by rw [zC_r (by omega) (by omega)]; exact i3 1 (by omega)
  have h70 : zC q.2 10 0 q.1 7 0 = z 7 0 := by rw [zC_r (by omega) (by omega)]; exact i3 0 (by omega)
  refine ⟨?_, fun r h2 h6 h7 h8 h9 => by rw [zb_un h7, zC_r h8 h9]; exact i2 r h2 h6 h7, by rw [zb_uj (by omega)]; exact h70, by rw [zb_us, h71]⟩
  generalize zC q.2 10 0 q.1 = w at hw ⊢
  obtain ⟨v1, v2, v3, v4⟩ := hw
  unfold zV
  rw [zb_uj (by omega), zb_us]
  simp only [zb_un (o' := 0) (o := 7) (by omega), zb_un (o' := 1) (o := 7) (by omega), zb_un (o' := 2) (o := 7) (by omega), zb_un (o' := 3) (o := 7) (by omega), zb_un (o' := 4) (o := 7) (by omega), zb_un (o' := 5) (o := 7) (by omega), zb_un (o' := 6) (o := 7) (by omega)]
  refine ⟨v1, ?_, v3, v4⟩
  have h9 : (999 : Int32).toInt = 999 := by decide
  unfold zB at v2 ⊢
  rw [zb_tmin, h9, zb_tadd (by rw [Int32.toInt_one]; omega) (by rw [Int32.toInt_one]; omega), Int32.toInt_one]
  omega
