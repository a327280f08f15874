/-! MATHEMATICS, 54: bells that ring in one tick may change places; the order, purely -/
def zX (z w : pm_H) : Prop := ∀ r, r ≠ 4 → z r = w r
theorem zX_in {z w : pm_H} (h : zX z w) : zIn z = zIn w := by unfold zIn; rw [h 6 (by omega), h 7 (by omega)]
theorem zX_on {z w : pm_H} (h : zX z w) : zOn z = zOn w := by unfold zOn; rw [h 2 (by omega)]
theorem zX_wo {R : Nat → List Int32} {which s : Nat} {left bound : Int32} {z w : pm_H} (h : zX z w) : zWo R which s left bound z = zWo R which s left bound w := zWo_congr (h 1 (by omega)) (h 2 (by omega)) (h 7 (by omega))
theorem zX_go {R : Nat → List Int32} {sh left : Int32} {s : Nat} {z w : pm_H} (h : zX z w) : zGo R sh left s z = zGo R sh left s w := by
  unfold zGo
  rw [h 0 (by omega), h 1 (by omega), h 2 (by omega), h 7 (by omega), zX_wo h]
theorem zX_u {z w : pm_H} {r j : Nat} {x : Int32} (h : zX z w) : zX (pm_u z r j x) (pm_u w r j x) := by
  intro r' hr'
  by_cases e : r' = r
  · subst e; rw [zb_ur, zb_ur, h r' hr']
  · rw [zb_un e, zb_un e, h r' hr']
theorem zX_le {go : Int32} {s : Nat} {z w : pm_H} (h : zX z w) : zX (zLe go s z) (zLe go s w) := by
  unfold zLe
  rw [h 2 (by omega), h 7 (by omega)]
  by_cases c : s < 9
  · rw [if_pos c, if_pos c]; exact zX_u (zX_u h)
  · rw [if_neg c, if_neg c]; exact zX_u (zX_u h)
theorem zX_L {R : Nat → List Int32} {sh left : Int32} : ∀ {k : Nat} {z w : pm_H} {st : Nat → Int32}, zX z w → zX (zL R sh left k z st).1 (zL R sh left k w st).1 ∧ (zL R sh left k z st).2 = (zL R sh left k w st).2
  | 0, z, w, st, h => ⟨h, rfl⟩
  | k + 1, z, w, st, h => by
    unfold zL
    rw [zX_go h, h 2 (by omega)]
    exact zX_L (zX_le h)
theorem zX_fl {R : Nat → List Int32} {c : Nat} {z w : pm_H} (h : zX z w) (h4 : z 7 1 < z 4 c ↔ w 7 1 < w 4 c) : zX (zFl R c z) (zFl R c w) := by
  unfold zFl
  by_cases q : z 7 1 < z 4 c
  · rw [if_pos q, if_pos (h4.mp q)]; exact h
  · rw [if_neg q, if_neg (mt h4.mpr q)]
    rw [h 0 (by omega), h 1 (by omega), h 2 (by omega), h 3 (by omega), h 5 (by omega), h 6 (by omega), zX_wo h]
    repeat' split
    all_goals first | exact h | exact zX_u (zX_u h)
theorem zX_f {R : Nat → List Int32} : ∀ {m c : Nat} {z w : pm_H}, zV z → zV w → c + m ≤ (z 7 0).toNatClampNeg → zX z w → (∀ j, j < (z 7 0).toNatClampNeg → (z 7 1 < z 4 j ↔ w 7 1 < w 4 j)) → zX (zF R m c z) (zF R m c w)
  | 0, _, _, _, _, _, _, h, _ => h
  | m + 1, c, z, w, vz, vw, hc, h, h4 => by
    unfold zF
    have e7 : z 7 = w 7 := h 7 (by omega)
    obtain ⟨a1, a2⟩ := zFl_ok (R := R) (c := c) vz (by omega)
    obtain ⟨b1, b2⟩ := zFl_ok (R := R) (c := c) vw (by rw [← e7]; omega)
    refine zX_f a1 b1 (by rw [a2 7 (by omega) (by omega)]; omega) (zX_fl h (h4 c (by omega))) ?_
    rw [a2 7 (by omega) (by omega), b2 7 (by omega) (by omega), a2 4 (by omega) (by omega), b2 4 (by omega) (by omega)]
    exact h4
def zQ (z w : pm_H) : Prop := zX z w ∧ ∀ j, j < (z 7 0).toNatClampNeg → ∀ t : Int32, (z 7 1).toInt ≤ t.toInt → (t < z 4 j ↔ t < w 4 j)
theorem zQ_T {R : Nat → List Int32} {sh : Int32} {z w : pm_H} (vz : zV z) (vw : zV w) (h : zQ z w) : zQ (zT R sh z) (zT R sh w) := by
  obtain ⟨hx, h4⟩ := h
  obtain ⟨a1, a2, a3, a4, a5⟩ := zL_ok (R := R) (sh := sh) (left := zIn z) (k := 10) (z := z) (st := fun _ => 0) (by omega) vz
  obtain ⟨b1, b2, b3, b4, b5⟩ := zL_ok (R := R) (sh := sh) (left := zIn z) (k := 10) (z := w) (st := fun _ => 0) (by omega) vw
  obtain ⟨c1, c2⟩ := zX_L (R := R) (sh := sh) (left := zIn z) (k := 10) (st := fun _ => 0) hx
  have e7 : z 7 = w 7 := hx 7 (by omega)
  have f0 : zX (zT0 R sh z).1 (zT0 R sh w).1 ∧ (zT0 R sh z).2 = (zT0 R sh w).2 := by
    unfold zT0
    rw [← zX_in hx, ← e7]
    refine ⟨zX_f a1 b1 (by rw [a3 0 (by omega)]; omega) c1 (fun j hj => ?_), c2⟩
    rw [a3 0 (by omega)] at hj
    rw [a3 1 (by omega), b3 1 (by omega), a2 4 (by omega) (by omega), b2 4 (by omega) (by omega), ← e7]
    exact h4 j hj _ (Int.le_refl _)
  have f1 : zX (zC (zT0 R sh z).2 10 0 (zT0 R sh z).1) (zC (zT0 R sh w).2 10 0 (zT0 R sh w).1) := by
    rw [f0.2]
    generalize (zT0 R sh w).2 = st
    have : ∀ m s (z w : pm_H), zX z w → zX (zC st m s z) (zC st m s w) := by
      intro m
      induction m with
      | zero => intro s z w h; exact h
      | succ m ih =>
        intro s z w h
        unfold zC
        refine ih _ _ _ ?_
        unfold zCs
        rw [h 9 (by omega), h 2 (by omega), h 8 (by omega)]
        by_cases c : 0 < st s
        · rw [if_pos c, if_pos c]; exact zX_u (zX_u (zX_u h))
        · rw [if_neg c, if_neg c]; exact zX_u h
    exact this 10 0 _ _ f0.1
  obtain ⟨z1, z2, z3, z4⟩ := zT_ok (R := R) (sh := sh) vz
  obtain ⟨w1, w2, w3, w4⟩ := zT_ok (R := R) (sh := sh) vw
  refine ⟨?_, fun j hj t ht => ?_⟩
  · unfold zT
    dsimp only
    rw [f1 7 (by omega)]
    exact zX_u f1
  · rw [z3] at hj
    rw [z2 4 (by omega) (by omega) (by omega) (by omega) (by omega), w2 4 (by omega) (by omega) (by omega) (by omega) (by omega)]
    refine h4 j hj t ?_
    rw [z4, zb_tmin] at ht
    have b := vz.2.1
    unfold zB at b
    rw [zb_tadd (by rw [Int32.toInt_one]; omega) (by rw [Int32.toInt_one]; omega), Int32.toInt_one, show (999 : Int32).toInt = 999 by decide] at ht
    omega
theorem zQ_R {R : Nat → List Int32} {shf : Nat → Int32} : ∀ (m n : Nat) (z w : pm_H), zV z → zV w → zQ z w → (zR R shf m n z).1 = (zR R shf m n w).1 ∧ (zR R shf m n z).2 9 = (zR R shf m n w).2 9
  | 0, n, z, w, _, _, h => ⟨rfl, h.1 9 (by omega)⟩
  | m + 1, n, z, w, vz, vw, h => by
    unfold zR
    rw [zX_in h.1, zX_on h.1]
    by_cases c : zIn w = 0 ∧ zOn w = 0
    · rw [if_pos c, if_pos c]; exact ⟨rfl, h.1 9 (by omega)⟩
    · rw [if_neg c, if_neg c]
      exact zQ_R m (n + 1) _ _ (zT_ok vz).1 (zT_ok vw).1 (zQ_T vz vw h)
/-- the bells as row L gives them -/
def oB (z : pm_H) (L : List Nat) : Nat → Int32 := fun c => z 4 (L.getD c 0)
noncomputable def oZ (z : pm_H) (n : Nat) (L : List Nat) : pm_H := zBe (oB z L) n 0 z
noncomputable def oV (R : Nat → List Int32) (z : pm_H) (n : Nat) (L : List Nat) : Nat × pm_H := zR R zN1 400 0 (oZ z n L)
theorem oZ_V {z : pm_H} {n : Nat} {L : List Nat} (hV : zV z) (hn : (z 7 0).toNatClampNeg = n) (hL : ∀ c, c < n → L.getD c 0 < n) : zV (oZ z n L) := by
  refine zV_Be hV (fun j hj => ?_)
  rw [hn] at hj
  exact (hV.2.2.2 _ (by rw [hn]; exact hL j hj)).2.1
theorem oV_sw {R : Nat → List Int32} {z : pm_H} {n b c : Nat} {L : List Nat} (hV : zV z) (hn : (z 7 0).toNatClampNeg = n) (hl : L.length = n) (hL : ∀ c, c < n → L.getD c 0 < n) (hb : b < n) (hc : c < n) (e : pm_max (z 7 1) (z 4 (L.getD b 0)) = pm_max (z 7 1) (z 4 (L.getD c 0))) : (oV R z n (rSw L b c)).1 = (oV R z n L).1 ∧ (oV R z n (rSw L b c)).2 9 = (oV R z n L).2 9 := by
  have hL' : ∀ j, j < n → (rSw L b c).getD j 0 < n := by
    intro j hj
    rw [rSw_get (by omega) (by omega)]
    repeat' split
    · exact hL b hb
    · exact hL c hc
    · exact hL j hj
  refine zQ_R 400 0 _ _ (oZ_V hV hn hL') (oZ_V hV hn hL) ⟨fun r hr => ?_, fun j hj t ht => ?_⟩
  · unfold oZ; rw [zBe_r hr, zBe_r hr]
  · unfold oZ at *
    rw [zBe_r (by omega), hn] at hj
    rw [zBe_r (by omega)] at ht
    rw [zBe_4, zBe_4, if_pos (by omega), if_pos (by omega)]
    unfold oB
    rw [rSw_get (by omega) (by omega)]
    have key : t < z 4 (L.getD b 0) ↔ t < z 4 (L.getD c 0) := by
      have := congrArg Int32.toInt e
      rw [zb_tmax, zb_tmax] at this
      rw [zb_tlt, zb_tlt]
      omega
    by_cases e1 : j = c
    · rw [if_pos e1, e1]; exact key
    · rw [if_neg e1]
      by_cases e2 : j = b
      · rw [if_pos e2, e2]; exact key.symm
      · rw [if_neg e2]
def oBt (e : Nat) (s : Int32) (l : Nat) (t : Int32) : Prop := e < l ∨ (e = l ∧ s < t)
noncomputable def oS (R : Nat → List Int32) (z : pm_H) (n : Nat) : List (List Nat) → Nat → Int32 → List Nat → Nat × List Nat
  | [], l, _, B => (l, B)
  | L :: rs, l, t, B => if (oV R z n L).1 < l ∨ ((oV R z n L).1 = l ∧ (oV R z n L).2 9 0 < t) then oS R z n rs (oV R z n L).1 ((oV R z n L).2 9 0) L else oS R z n rs l t B
noncomputable def aOrd (R : Nat → List Int32) (z : pm_H) (w : Int32) : Int32 := if ¬ w = -1 ∧ (w < 0 ∨ ¬ w < z 7 0) then -2 else if w = -1 then nI (oS R z (z 7 0).toNatClampNeg (rAll (z 7 0).toNatClampNeg 120 (rFst (z 7 0).toNatClampNeg)) 401 0 []).1 else nI ((oS R z (z 7 0).toNatClampNeg (rAll (z 7 0).toNatClampNeg 120 (rFst (z 7 0).toNatClampNeg)) 401 0 []).2.getD w.toNatClampNeg 0)
theorem oBt_tr {e e' l : Nat} {s s' t : Int32} (h : oBt e s l t) (h' : ¬ oBt e' s' l t) : ¬ oBt e' s' e s := by
  unfold oBt at *
  rw [zb_tlt] at *
  omega
theorem oBt_self {e : Nat} {s : Int32} : ¬ oBt e s e s := by
  unfold oBt
  rw [zb_tlt]
  omega
