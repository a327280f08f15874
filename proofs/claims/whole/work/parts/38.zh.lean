/-! MATHEMATICS, 38: runs, purely -/
theorem zR_ge {R : Nat → List Int32} {shf : Nat → Int32} : ∀ (m n : Nat) (z : pm_H), n ≤ (zR R shf m n z).1 ∧ (zR R shf m n z).1 ≤ n + m
  | 0, n, z => ⟨Nat.le_refl _, Nat.le_refl _⟩
  | m + 1, n, z => by
    unfold zR
    by_cases c : zIn z = 0 ∧ zOn z = 0
    · rw [if_pos c]; exact ⟨Nat.le_refl _, by dsimp only; omega⟩
    · rw [if_neg c]
      have := zR_ge (R := R) (shf := shf) m (n + 1) (zT R (shf n) z)
      omega
/-- a run with a smaller limit -/
theorem zR_lim {R : Nat → List Int32} {shf : Nat → Int32} : ∀ (L M n : Nat) (z : pm_H), L ≤ M → ((zR R shf L n z).1 < n + L ∧ zR R shf M n z = zR R shf L n z) ∨ ((zR R shf L n z).1 = n + L ∧ n + L ≤ (zR R shf M n z).1)
  | 0, M, n, z, _ => Or.inr ⟨rfl, (zR_ge M n z).1⟩
  | L + 1, 0, n, z, h => absurd h (by omega)
  | L + 1, M + 1, n, z, h => by
    by_cases c : zIn z = 0 ∧ zOn z = 0
    · left
      unfold zR
      rw [if_pos c, if_pos c]
      exact ⟨by dsimp only; omega, rfl⟩
    · have := zR_lim (R := R) (shf := shf) L M (n + 1) (zT R (shf n) z) (by omega)
      have e1 : zR R shf (L + 1) n z = zR R shf L (n + 1) (zT R (shf n) z) := by
        conv => lhs; unfold zR
        rw [if_neg c]
      have e2 : zR R shf (M + 1) n z = zR R shf M (n + 1) (zT R (shf n) z) := by
        conv => lhs; unfold zR
        rw [if_neg c]
      rw [e1, e2]
      rcases this with ⟨a, b⟩ | ⟨a, b⟩
      · exact Or.inl ⟨by omega, b⟩
      · exact Or.inr ⟨by omega, by omega⟩
theorem zR_V {R : Nat → List Int32} {shf : Nat → Int32} : ∀ (m n : Nat) (z : pm_H), zV z → zV (zR R shf m n z).2
  | 0, _, _, h => h
  | m + 1, n, z, h => by
    unfold zR
    by_cases c : zIn z = 0 ∧ zOn z = 0
    · rw [if_pos c]; exact h
    · rw [if_neg c]; exact zR_V m (n + 1) _ (zT_ok h).1
/-- stood -/
theorem zCs_90 {st : Nat → Int32} {s : Nat} {z : pm_H} (hst : zB 0 84 (st s)) (h0 : 0 ≤ (z 9 0).toInt) (h1 : (z 9 0).toInt ≤ 1000000) : (z 9 0).toInt ≤ (zCs st s z 9 0).toInt ∧ (zCs st s z 9 0).toInt ≤ (z 9 0).toInt + 84 := by
  unfold zB at hst
  unfold zCs
  by_cases c : 0 < st s
  · rw [if_pos c, zb_un (by omega), zb_us, zb_tadd (by omega) (by omega)]
    omega
  · rw [if_neg c, zb_uj (by omega)]
    omega
theorem zC_90 {st : Nat → Int32} : ∀ (m s : Nat) (z : pm_H), s + m ≤ 10 → (∀ j, j < 10 → zB 0 84 (st j)) → 0 ≤ (z 9 0).toInt → (z 9 0).toInt + 84 * m ≤ 1000000 → (z 9 0).toInt ≤ (zC st m s z 9 0).toInt ∧ (zC st m s z 9 0).toInt ≤ (z 9 0).toInt + 84 * m
  | 0, s, z, _, _, _, _ => by unfold zC; omega
  | m + 1, s, z, hs, hst, h0, h1 => by
    have a := zCs_90 (z := z) (hst s (by omega)) h0 (by omega)
    unfold zC
    have b := zC_90 m (s + 1) (zCs st s z) (by omega) hst (by omega) (by omega)
    omega
theorem zT_90 {R : Nat → List Int32} {sh : Int32} {z : pm_H} (hV : zV z) (h0 : 0 ≤ (z 9 0).toInt) (h1 : (z 9 0).toInt ≤ 900000) : (z 9 0).toInt ≤ (zT R sh z 9 0).toInt ∧ (zT R sh z 9 0).toInt ≤ (z 9 0).toInt + 840 := by
  obtain ⟨i1, i2, i3, i4⟩ := zT0_ok (R := R) (sh := sh) hV
  have e : (zT0 R sh z).1 9 0 = z 9 0 := by rw [i2 9 (by omega) (by omega) (by omega)]
  have b := zC_90 10 0 (zT0 R sh z).1 (by omega) i4 (by rw [e]; exact h0) (by rw [e]; omega)
  unfold zT
  rw [zb_un (by omega)]
  rw [e] at b
  omega
theorem zR_90 {R : Nat → List Int32} {shf : Nat → Int32} : ∀ (m n : Nat) (z : pm_H), zV z → 0 ≤ (z 9 0).toInt → (z 9 0).toInt + 840 * m ≤ 900000 → (z 9 0).toInt ≤ ((zR R shf m n z).2 9 0).toInt
  | 0, _, _, _, _, _ => Int.le_refl _
  | m + 1, n, z, hV, h0, h1 => by
    unfold zR
    by_cases c : zIn z = 0 ∧ zOn z = 0
    · rw [if_pos c]; exact Int.le_refl _
    · rw [if_neg c]
      have a := zT_90 (R := R) (sh := shf n) hV h0 (by omega)
      have b := zR_90 (R := R) (shf := shf) m (n + 1) (zT R (shf n) z) (zT_ok hV).1 (by omega) (by omega)
      omega
/-- till somebody stands -/
noncomputable def zRs (R : Nat → List Int32) : Nat → pm_H → pm_H
  | 0, z => z
  | m + 1, z => if z 9 0 = 0 then (if zIn z = 0 ∧ zOn z = 0 then z else zRs R m (zT R (-1) z)) else z
theorem zRs_iff {R : Nat → List Int32} : ∀ (m n : Nat) (z : pm_H), zV z → 0 ≤ (z 9 0).toInt → (z 9 0).toInt + 840 * m ≤ 900000 → (zRs R m z 9 0 = 0 ↔ (zR R (fun _ => -1) m n z).2 9 0 = 0)
  | 0, _, _, _, _, _ => Iff.rfl
  | m + 1, n, z, hV, h0, h1 => by
    by_cases c0 : z 9 0 = 0
    · unfold zRs zR
      rw [if_pos c0]
      by_cases c : zIn z = 0 ∧ zOn z = 0
      · rw [if_pos c, if_pos c]
      · rw [if_neg c, if_neg c]
        have a := zT_90 (R := R) (sh := -1) hV h0 (by omega)
        exact zRs_iff m (n + 1) _ (zT_ok hV).1 (by omega) (by omega)
    · have b := zR_90 (R := R) (shf := fun _ => -1) (m + 1) n z hV h0 h1
      have e : zRs R (m + 1) z = z := by unfold zRs; rw [if_neg c0]
      rw [e]
      refine ⟨fun q => absurd q c0, fun q => ?_⟩
      rw [q, Int32.toInt_zero] at b
      exact absurd (zb_teq.mpr (by rw [Int32.toInt_zero]; omega)) c0
/-- rows 0 to 7 are those of another state -/
def zE (z w : pm_H) : Prop := ∀ r, r < 8 → z r = w r
theorem zE_V {z w : pm_H} (h : zE z w) (hV : zV w) : zV z := zV_rows h hV
theorem zE_in {z w : pm_H} (h : zE z w) : zIn z = zIn w := by unfold zIn; rw [h 6 (by omega), h 7 (by omega)]
theorem zE_on {z w : pm_H} (h : zE z w) : zOn z = zOn w := by unfold zOn; rw [h 2 (by omega)]
theorem zE_wo {R : Nat → List Int32} {which s : Nat} {left bound : Int32} {z w : pm_H} (h : zE z w) : zWo R which s left bound z = zWo R which s left bound w := zWo_congr (h 1 (by omega)) (h 2 (by omega)) (h 7 (by omega))
theorem zE_go {R : Nat → List Int32} {sh left : Int32} {s : Nat} {z w : pm_H} (h : zE z w) : zGo R sh left s z = zGo R sh left s w := by
  unfold zGo
  rw [h 0 (by omega), h 1 (by omega), h 2 (by omega), h 7 (by omega), zE_wo h]
theorem zE_u {z w : pm_H} {r j : Nat} {x : Int32} (h : zE z w) : zE (pm_u z r j x) (pm_u w r j x) := by
  intro r' hr'
  by_cases e : r' = r
  · subst e; rw [zb_ur, zb_ur, h r' hr']
  · rw [zb_un e, zb_un e, h r' hr']
theorem zE_le {go : Int32} {s : Nat} {z w : pm_H} (h : zE z w) : zE (zLe go s z) (zLe go s w) := by
  unfold zLe
  rw [h 2 (by omega), h 7 (by omega)]
  by_cases c : s < 9
  · rw [if_pos c, if_pos c]; exact zE_u (zE_u h)
  · rw [if_neg c, if_neg c]; exact zE_u (zE_u h)
theorem zE_L {R : Nat → List Int32} {sh left : Int32} : ∀ {k : Nat} {z w : pm_H} {st : Nat → Int32}, zE z w → zE (zL R sh left k z st).1 (zL R sh left k w st).1 ∧ (zL R sh left k z st).2 = (zL R sh left k w st).2
  | 0, z, w, st, h => ⟨h, rfl⟩
  | k + 1, z, w, st, h => by
    unfold zL
    rw [zE_go h, h 2 (by omega)]
    exact zE_L (zE_le h)
theorem zE_fl {R : Nat → List Int32} {c : Nat} {z w : pm_H} (h : zE z w) : zE (zFl R c z) (zFl R c w) := by
  unfold zFl
  rw [h 0 (by omega), h 1 (by omega), h 2 (by omega), h 3 (by omega), h 4 (by omega), h 5 (by omega), h 6 (by omega), h 7 (by omega), zE_wo h]
  repeat' split
  all_goals first | exact h | exact zE_u (zE_u h)
theorem zE_f {R : Nat → List Int32} : ∀ {m c : Nat} {z w : pm_H}, zE z w → zE (zF R m c z) (zF R m c w)
  | 0, _, _, _, h => h
  | m + 1, c, z, w, h => by unfold zF; exact zE_f (zE_fl h)
theorem zE_T0 {R : Nat → List Int32} {sh : Int32} {z w : pm_H} (h : zE z w) : zE (zT0 R sh z).1 (zT0 R sh w).1 ∧ (zT0 R sh z).2 = (zT0 R sh w).2 := by
  unfold zT0
  rw [zE_in h, h 7 (by omega)]
  obtain ⟨a, b⟩ := zE_L (R := R) (sh := sh) (left := zIn w) (k := 10) (st := fun _ => 0) h
  exact ⟨zE_f a, b⟩
theorem zE_T {R : Nat → List Int32} {sh : Int32} {z w : pm_H} (h : zE z w) : zE (zT R sh z) (zT R sh w) := by
  obtain ⟨a, b⟩ := zE_T0 (R := R) (sh := sh) h
  have c : zE (zC (zT0 R sh z).2 10 0 (zT0 R sh z).1) (zC (zT0 R sh w).2 10 0 (zT0 R sh w).1) := fun r hr => by
    rw [zC_r (by omega) (by omega), zC_r (by omega) (by omega)]; exact a r hr
  unfold zT
  dsimp only
  rw [c 7 (by omega)]
  exact zE_u c
theorem zE_trans {a b c : pm_H} (h1 : zE a b) (h2 : zE b c) : zE a c := fun r hr => (h1 r hr).trans (h2 r hr)
theorem zE_symm {a b : pm_H} (h1 : zE a b) : zE b a := fun r hr => (h1 r hr).symm
/-- n ticks -/
noncomputable def zIt (R : Nat → List Int32) : Nat → pm_H → pm_H
  | 0, z => z
  | n + 1, z => zIt R n (zT R (-1) z)
theorem zE_it {R : Nat → List Int32} : ∀ {n : Nat} {z w : pm_H}, zE z w → zE (zIt R n z) (zIt R n w)
  | 0, _, _, h => h
  | n + 1, _, _, h => zE_it (n := n) (zE_T h)
/-- where all are out nothing moves -/
def zNo (z : pm_H) : Prop := (∀ s, s < 10 → z 2 s = 0) ∧ ∀ c, c < (z 7 0).toNatClampNeg → z 6 c = 0
theorem zNo_of {z : pm_H} (hV : zV z) (h : zIn z = 0 ∧ zOn z = 0) : zNo z := by
  refine ⟨zSum_0 (m := 84) (by omega) (by omega) (by omega) (fun j hj => ?_) h.2, zSum_0 (m := 60) (by omega) ?_ (by omega) (fun j hj => (hV.2.2.2 j hj).2.2.2) h.1⟩
  · obtain ⟨a1, a2, a3, a4⟩ := hV.2.2.1 j hj
    have := (zHo_ok a1 a2).2
    exact ⟨a3, by omega⟩
  · have := zB_zi (b := 5) hV.1
    omega
theorem zNo_out {z : pm_H} (h : zNo z) : zIn z = 0 ∧ zOn z = 0 := ⟨zSum_z h.2, zSum_z h.1⟩
theorem zNo_L {R : Nat → List Int32} {sh left : Int32} : ∀ {k : Nat} {z : pm_H} {st : Nat → Int32}, k ≤ 10 → zV z → (∀ s, s < 10 → z 2 s = 0) → ∀ s, s < 10 → (zL R sh left k z st).1 2 s = 0
  | 0, z, st, _, _, h => h
  | k + 1, z, st, hk, hV, h => by
    unfold zL
    have hg := zGo_ok (R := R) (sh := sh) (left := left) (s := k) hV (by omega)
    rw [h k (by omega), Int32.toInt_zero] at hg
    have e : zGo R sh left k z = 0 := zb_teq.mpr (by rw [Int32.toInt_zero]; omega)
    refine zNo_L (by omega) (zV_Le hV (by omega)) (fun s hs => ?_)
    rw [zLe_2, e]
    by_cases c1 : k < 9 ∧ s = k + 1
    · rw [if_pos c1, h (k + 1) (by omega)]; rfl
    · rw [if_neg c1]
      by_cases c2 : s = k
      · rw [if_pos c2, h k (by omega)]; rfl
      · rw [if_neg c2]; exact h s hs
theorem zNo_f {R : Nat → List Int32} : ∀ {m c : Nat} {z : pm_H}, c + m ≤ (z 7 0).toNatClampNeg → (∀ c, c < (z 7 0).toNatClampNeg → z 6 c = 0) → zF R m c z = z
  | 0, _, _, _, _ => rfl
  | m + 1, c, z, hc, h => by
    unfold zF
    have e : zFl R c z = z := by
      unfold zFl
      rw [h c (by omega)]
      by_cases q : z 7 1 < z 4 c
      · rw [if_pos q]
      · rw [if_neg q, if_neg (by decide)]
    rw [e]
    exact zNo_f (by omega) h
theorem zNo_T {R : Nat → List Int32} {sh : Int32} {z : pm_H} (hV : zV z) (h : zNo z) : zNo (zT R sh z) := by
  obtain ⟨i1, i2, i3, i4, i5⟩ := zL_ok (R := R) (sh := sh) (left := zIn z) (k := 10) (z := z) (st := fun _ => 0) (by omega) hV
  have e1 : (zT0 R sh z).1 = (zL R sh (zIn z) 10 z (fun _ => 0)).1 := by
    unfold zT0
    refine zNo_f (by rw [i3 0 (by omega)]; omega) (fun c hc => ?_)
    rw [i2 6 (by omega) (by omega)]
    rw [i3 0 (by omega)] at hc
    exact h.2 c hc
  have hL := zNo_L (R := R) (sh := sh) (left := zIn z) (k := 10) (z := z) (st := fun _ => 0) (by omega) hV h.1
  have er : ∀ r, r < 7 → zT R sh z r = (zL R sh (zIn z) 10 z (fun _ => 0)).1 r := by
    intro r hr
    unfold zT
    rw [zb_un (by omega), zC_r (by omega) (by omega), e1]
  refine ⟨fun s hs => by rw [er 2 (by omega)]; exact hL s hs, fun c hc => ?_⟩
  rw [er 6 (by omega), i2 6 (by omega) (by omega)]
  rw [(zT_ok hV).2.2.1] at hc
  exact h.2 c hc
theorem zIt_no {R : Nat → List Int32} : ∀ (n : Nat) (z : pm_H), zV z → zNo z → zNo (zIt R n z)
  | 0, _, _, h => h
  | n + 1, z, hV, h => zIt_no n _ (zT_ok hV).1 (zNo_T hV h)
/-- n ticks, whether or not all are out -/
theorem zR_it {R : Nat → List Int32} : ∀ (m n : Nat) (z : pm_H), zV z → ∀ s, s < 10 → (zR R (fun _ => -1) m n z).2 2 s = zIt R m z 2 s
  | 0, _, _, _, _, _ => rfl
  | m + 1, n, z, hV, s, hs => by
    unfold zR
    by_cases c : zIn z = 0 ∧ zOn z = 0
    · rw [if_pos c]
      have h := zNo_of hV c
      rw [(zIt_no (m + 1) z hV h).1 s hs]
      exact h.1 s hs
    · rw [if_neg c]
      exact zR_it m (n + 1) _ (zT_ok hV).1 s hs
