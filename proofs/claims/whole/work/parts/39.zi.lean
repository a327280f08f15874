/-! MATHEMATICS, 39: what the calls about runs answer, purely -/
abbrev zN1 : Nat → Int32 := fun _ => -1
noncomputable def aRun (R : Nat → List Int32) (z : pm_H) (w : Int32) : Int32 := if w < 0 ∨ 3 < w then -2 else if w = 0 then nI (zR R zN1 400 0 z).1 else if w = 1 then (zR R zN1 400 0 z).2 9 0 else if w = 2 then zRm R zN1 400 0 z 0 else (zR R zN1 400 0 z).2 9 1
noncomputable def aOn (R : Nat → List Int32) (z : pm_H) (s n : Int32) : Int32 := if s < 0 ∨ 9 < s then -2 else if n < 0 ∨ 400 < n then -2 else zIt R n.toNatClampNeg z 2 s.toNatClampNeg
/-- the steps k - 1 .. 0: the first on which more stood -/
def zHl (f : Nat → Int32) : Nat → Int32 → Int32 → Int32
  | 0, _, w => w
  | k + 1, lo, w => if lo < f k then zHl f k (f k) (nI k) else zHl f k lo w
noncomputable def aHol (R : Nat → List Int32) (z : pm_H) : Int32 := zHl ((zR R zN1 400 0 z).2 8) 10 0 (-1)
noncomputable def zWid (R : Nat → List Int32) (z : pm_H) : Nat → Nat → Nat → Int32 → Int32
  | 0, _, _, w => w
  | m + 1, s, l, w => if z 1 s < 9 then (if (zR R zN1 400 0 (pm_u z 1 s (z 1 s + 1))).1 < l then zWid R z m (s + 1) (zR R zN1 400 0 (pm_u z 1 s (z 1 s + 1))).1 (nI s) else zWid R z m (s + 1) l w) else zWid R z m (s + 1) l w
noncomputable def aWid (R : Nat → List Int32) (z : pm_H) : Int32 := zWid R z 10 0 (zR R zN1 400 0 z).1 (-1)
noncomputable def zLat (R : Nat → List Int32) (z : pm_H) : Nat → Nat → Int32 → Int32 → Int32
  | 0, _, _, w => w
  | m + 1, c, l, w => if (zR R zN1 400 0 (pm_u z 4 c (pm_min 199 (z 4 c + 20)))).2 9 0 < l then zLat R z m (c + 1) ((zR R zN1 400 0 (pm_u z 4 c (pm_min 199 (z 4 c + 20)))).2 9 0) (nI c) else zLat R z m (c + 1) l w
noncomputable def aLat (R : Nat → List Int32) (z : pm_H) : Int32 := zLat R z (z 7 0).toNatClampNeg 0 ((zR R zN1 400 0 z).2 9 0) (-1)
/-- the bells of the classes from c on, m of them -/
def zBe (f : Nat → Int32) : Nat → Nat → pm_H → pm_H
  | 0, _, z => z
  | m + 1, c, z => zBe f m (c + 1) (pm_u z 4 c (f c))
def zBa (d : Nat) (c : Nat) : Int32 := pm_min 199 (nI c * nI d)
noncomputable def zAp (z : pm_H) (d : Nat) : pm_H := zBe (zBa d) (z 7 0).toNatClampNeg 0 z
noncomputable def zA0 (R : Nat → List Int32) (z : pm_H) : Nat → Nat → Int32
  | 0, _ => -1
  | m + 1, d => if (zR R zN1 400 0 (zAp z d)).2 9 0 = 0 then nI d else zA0 R z m (d + 1)
noncomputable def zA1 (R : Nat → List Int32) (z : pm_H) : Nat → Nat → Nat → Int32 → Int32
  | 0, _, _, w => w
  | m + 1, d, l, w => if (zR R zN1 400 0 (zAp z d)).1 < l then zA1 R z m (d + 1) (zR R zN1 400 0 (zAp z d)).1 (nI d) else zA1 R z m (d + 1) l w
noncomputable def aApa (R : Nat → List Int32) (z : pm_H) (w : Int32) : Int32 := if w = 0 then zA0 R z 31 0 else if w = 1 then zA1 R z 31 0 401 (-1) else -2
def zShf (s k : Int32) : Nat → Int32 := fun n => if nI n < k then s else -1
noncomputable def aShu (R : Nat → List Int32) (z : pm_H) (s k : Int32) : Int32 := if s < 0 ∨ 9 < s then -2 else if k < 0 ∨ 100 < k then -2 else nI (zR R (zShf s k) 400 0 z).1
noncomputable def aDri (R : Nat → List Int32) (z : pm_H) : Int32 := nI (zR R zN1 400 0 (zBe (fun _ => z 7 1) (z 7 0).toNatClampNeg 0 z)).1
noncomputable def zJl (R : Nat → List Int32) (s : Nat) (f : Nat → Int32) : Nat → Nat → pm_H → Int32
  | 0, _, _ => -1
  | m + 1, i, z => if zT R (-1) z 2 s = f i then zJl R s f m (i + 1) (zT R (-1) z) else nI i
noncomputable def zLk (R : Nat → List Int32) (s : Nat) : Nat → Int32 → pm_H → Int32
  | 0, n, _ => n
  | m + 1, n, z => if 0 < zHo (zT R (-1) z 0 s) (zT R (-1) z 1 s) - zT R (-1) z 2 s then zLk R s m n (zT R (-1) z) else zLk R s m (n + 1) (zT R (-1) z)
noncomputable def aLoo (R : Nat → List Int32) (z : pm_H) (s n : Int32) : Int32 := if s < 0 ∨ 9 < s then -2 else if n < 0 ∨ 400 < n then -2 else zLk R s.toNatClampNeg n.toNatClampNeg 0 z
def zSd (seed : Int32) : Nat → Int32
  | 0 => seed
  | n + 1 => zSd seed n * 1103515245 + 12345
def zDsh (seed : Int32) : Nat → Int32 := fun n => if pm_rem (pm_ushr (zSd seed (n + 1)) 8) 5 = 0 then pm_rem (pm_ushr (zSd seed (n + 1)) 12) 10 else -1
noncomputable def aDra (R : Nat → List Int32) (z : pm_H) (seed : Int32) : Int32 := nI (zR R (zDsh seed) 400 0 z).1
/-- rows 8 and 9 don't matter -/
theorem zBe_r {f : Nat → Int32} {r : Nat} (hr : r ≠ 4) : ∀ {m c : Nat} {z : pm_H}, zBe f m c z r = z r
  | 0, _, _ => rfl
  | m + 1, c, z => by unfold zBe; rw [zBe_r hr, zb_un hr]
theorem zBe_4 {f : Nat → Int32} : ∀ {m c : Nat} {z : pm_H} {j : Nat}, zBe f m c z 4 j = if c ≤ j ∧ j < c + m then f j else z 4 j
  | 0, c, z, j => by
    rw [if_neg (by omega)]; rfl
  | m + 1, c, z, j => by
    unfold zBe
    rw [zBe_4, zb_ur]
    unfold upd
    by_cases h : j = c
    · subst h
      rw [if_neg (by omega), if_pos rfl, if_pos (by omega)]
    · rw [if_neg h]
      by_cases h2 : c ≤ j ∧ j < c + (m + 1)
      · rw [if_pos h2, if_pos (by omega)]
      · rw [if_neg h2, if_neg (by omega)]
/-- other bells: still as it may be -/
theorem zV_bells {z w : pm_H} (hV : zV z) (hr : ∀ r, r < 8 → r ≠ 4 → w r = z r) (h4 : ∀ c, c < (z 7 0).toNatClampNeg → zB 0 999 (w 4 c)) : zV w := by
  unfold zV at hV ⊢
  simp only [hr 0 (by omega) (by omega), hr 1 (by omega) (by omega), hr 2 (by omega) (by omega), hr 3 (by omega) (by omega), hr 5 (by omega) (by omega), hr 6 (by omega) (by omega), hr 7 (by omega) (by omega)]
  exact ⟨hV.1, hV.2.1, hV.2.2.1, fun c hc => ⟨(hV.2.2.2 c hc).1, h4 c hc, (hV.2.2.2 c hc).2.2⟩⟩
