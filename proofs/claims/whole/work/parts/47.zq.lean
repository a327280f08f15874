/-! MATHEMATICS, 47: the reference keeps and takes again; its runs -/
/-- rows 8 and 9 cleared -/
def vZ (z : pm_H) : pm_H := fun r j => if r < 8 then z r j else 0
theorem vZ_E {z : pm_H} : zE (vZ z) z := fun r hr => by funext j; unfold vZ; rw [if_pos hr]
theorem vZ_V {z : pm_H} (h : zV z) : zV (vZ z) := zE_V vZ_E h
theorem vZ_eq {z w : pm_H} (h : zE z w) : vZ z = vZ w := by
  funext r j
  unfold vZ
  by_cases hr : r < 8
  · rw [if_pos hr, if_pos hr, h r hr]
  · rw [if_neg hr, if_neg hr]
theorem vZ_u {z : pm_H} {r j : Nat} {x : Int32} (hr : r < 8) : vZ (pm_u z r j x) = pm_u (vZ z) r j x := by
  funext r' j'
  unfold vZ
  rw [zb_u, zb_u]
  by_cases e : r' = r
  · subst e
    simp [hr]
  · rw [if_neg e, if_neg e]
theorem vN_Z {h : pm_H} : vZ (vN h) = vN h := by
  funext r j
  unfold vZ
  by_cases hr : r < 8
  · rw [if_pos hr]
  · rw [if_neg hr, vN_9 (by omega)]
/-- what a question may change of the reference -/
def gM (h h' : pm_H) : Prop := (∀ o, (o < 66 ∨ o = 67 ∨ (70 ≤ o ∧ o ≤ 77 ∧ o ≠ 72 ∧ o ≠ 74) ∨ 86 ≤ o) → h' o = h o) ∧ (∀ j, j < 10 → h' 68 j = h 68 j ∧ h' 69 j = h 69 j) ∧ (∀ j, j < 5 → h' 72 j = h 72 j ∧ h' 74 j = h 74 j) ∧ (∀ j, (j < 27 ∨ 29 < j) → h' 66 j = h 66 j)
theorem gM_rfl {h : pm_H} : gM h h := ⟨fun _ _ => rfl, fun _ _ => ⟨rfl, rfl⟩, fun _ _ => ⟨rfl, rfl⟩, fun _ _ => rfl⟩
theorem gM_trans {a b c : pm_H} (h1 : gM a b) (h2 : gM b c) : gM a c := ⟨fun o ho => (h2.1 o ho).trans (h1.1 o ho), fun j hj => ⟨(h2.2.1 j hj).1.trans (h1.2.1 j hj).1, (h2.2.1 j hj).2.trans (h1.2.1 j hj).2⟩, fun j hj => ⟨(h2.2.2.1 j hj).1.trans (h1.2.2.1 j hj).1, (h2.2.2.1 j hj).2.trans (h1.2.2.1 j hj).2⟩, fun j hj => (h2.2.2.2 j hj).trans (h1.2.2.2 j hj)⟩
theorem gM_E {h h' : pm_H} (hc : (h 66 3).toNatClampNeg ≤ 5) (H : gM h h') : zE (vM h') (vM h) := by
  intro r hr
  funext j
  unfold vM
  rw [H.2.2.2 3 (by omega)]
  by_cases hz : zrg (h 66 3).toNatClampNeg r j = true
  · rw [if_pos hz, if_pos hz]
    have hj10 : j < 10 := by
      unfold zrg at hz
      repeat' split at hz
      all_goals first | (cases hz; done) | (simp at hz; omega)
    rcases (show r = 0 ∨ r = 1 ∨ r = 2 ∨ r = 3 ∨ r = 4 ∨ r = 5 ∨ r = 6 ∨ r = 7 by omega) with q | q | q | q | q | q | q | q <;> subst q
    · exact congrFun (H.1 67 (by omega)) _
    · exact (H.2.1 j hj10).1
    · exact (H.2.1 j hj10).2
    · exact congrFun (H.1 71 (by omega)) _
    · have hj : j < (h 66 3).toNatClampNeg := by simpa [zrg] using hz
      exact (H.2.2.1 j (by omega)).1
    · exact congrFun (H.1 73 (by omega)) _
    · have hj : j < (h 66 3).toNatClampNeg := by simpa [zrg] using hz
      exact (H.2.2.1 j (by omega)).2
    · have hj : j < 3 := by simpa [zrg] using hz
      rcases (show j = 0 ∨ j = 1 ∨ j = 2 by omega) with rfl | rfl | rfl
      · exact H.2.2.2 3 (by omega)
      · exact H.2.2.2 9 (by omega)
      · exact H.2.2.2 10 (by omega)
  · rw [if_neg hz, if_neg hz]
/-- ready, no step shut -/
def zMk (k : Nat) (R : Nat → List Int32) (h : pm_H) : Prop := zMr k R h ∧ h 66 30 = -1
theorem zMk_g {k : Nat} {R : Nat → List Int32} {h h' : pm_H} (H : zMk k R h) (G : gM h h') : zMk k R h' := by
  obtain ⟨⟨a, b, c, d, e⟩, f⟩ := H
  obtain ⟨n, hn, q, q'⟩ := zM_cnt a
  exact ⟨⟨zE_V (gM_E (by omega) G) a, zTm_of (G.1 _ (by omega)) (G.1 _ (by omega)) b, by rw [G.2.2.2 14 (by omega)]; exact c, d, e⟩, by rw [G.2.2.2 30 (by omega)]; exact f⟩
theorem gM_vZ {k : Nat} {R : Nat → List Int32} {h h' : pm_H} (H : zMk k R h) (G : gM h h') : vZ (vM h') = vZ (vM h) := by
  obtain ⟨n, hn, q, q'⟩ := zM_cnt H.1.1
  exact vZ_eq (gM_E (by omega) G)
/-- keep -/
theorem sm_keepL1 {K Q : pm_H → Prop} : ∀ (m j : Nat) (h : pm_H), j + m = 10 → (∀ h', (∀ o, o ≠ 82 → h' o = h o) → (∀ i, h' 82 i = if j ≤ i ∧ i < 10 then h 69 i else h 82 i) → K h') → wl_X7_keep_2 K Q (m + 1) (nI j) h
  | 0, j, h, hj, hK => by
    unfold wl_X7_keep_2
    rw [zb_lt, show (10 : Int32) = nI 10 by decide, if_neg (nI_nlt (by omega) (by omega))]
    exact hK h (fun _ _ => rfl) (fun i => by rw [if_neg (by omega)])
  | m + 1, j, h, hj, hK => by
    unfold wl_X7_keep_2
    rw [zb_lt, show (10 : Int32) = nI 10 by decide, if_pos (nI_lt (by omega) (by omega)), zb_ib (zb_in (by omega) (by omega)), zb_ib (zb_in (by omega) (by omega)), pm_op_eq, nI_1, nI_clamp (by omega)]
    refine sm_keepL1 m (j + 1) _ (by omega) (fun h' e1 e2 => hK h' (fun o ho => by rw [e1 o ho, zb_un ho]) (fun i => ?_))
    rw [e2, zb_ur, zb_un (by omega)]
    unfold upd
    by_cases c1 : i = j
    · subst c1
      rw [if_neg (by omega), if_pos rfl, if_pos (by omega)]
    · rw [if_neg c1]
      by_cases c2 : j ≤ i ∧ i < 10
      · rw [if_pos c2, if_pos (by omega)]
      · rw [if_neg c2, if_neg (by omega)]
theorem sm_keepL2 {K Q : pm_H → Prop} : ∀ (m j : Nat) (h : pm_H), j + m = 5 → (∀ h', (∀ o, o ≠ 82 → h' o = h o) → (∀ i, h' 82 i = if 10 + j ≤ i ∧ i < 15 then h 74 (i - 10) else h 82 i) → K h') → wl_X7_keep_28 K Q (m + 1) (nI j) h
  | 0, j, h, hj, hK => by
    unfold wl_X7_keep_28
    rw [zb_lt, show (5 : Int32) = nI 5 by decide, if_neg (nI_nlt (by omega) (by omega))]
    exact hK h (fun _ _ => rfl) (fun i => by rw [if_neg (by omega)])
  | m + 1, j, h, hj, hK => by
    unfold wl_X7_keep_28
    rw [zb_lt, show (5 : Int32) = nI 5 by decide, if_pos (nI_lt (by omega) (by omega)), zb_ib (zb_in (by omega) (by omega)), pm_op_eq, pm_op_eq, nI_1, show (10 : Int32) = nI 10 by decide, nI_add, zb_ib (zb_in (by omega) (by omega)), nI_clamp (by omega), nI_clamp (by omega)]
    refine sm_keepL2 m (j + 1) _ (by omega) (fun h' e1 e2 => hK h' (fun o ho => by rw [e1 o ho, zb_un ho]) (fun i => ?_))
    rw [e2, zb_ur, zb_un (by omega)]
    unfold upd
    by_cases c1 : i = 10 + j
    · subst c1
      rw [if_neg (by omega), if_pos rfl, if_pos (by omega)]
      congr 1
      omega
    · rw [if_neg c1]
      by_cases c2 : 10 + j ≤ i ∧ i < 15
      · rw [if_pos c2, if_pos (by omega)]
      · rw [if_neg c2, if_neg (by omega)]
def zKp (h h' : pm_H) : Prop := (∀ j, j < 10 → h' 82 j = h 69 j) ∧ (∀ j, j < 5 → h' 82 (10 + j) = h 74 j) ∧ h' 82 15 = h 66 9 ∧ h' 82 16 = h 66 10
theorem sm_keep {h : pm_H} {Q : pm_H → Prop} (hq : ∀ h', (∀ o, o ≠ 82 → h' o = h o) → zKp h h' → Q h') : wp_X7_keep h Q := by
  unfold wp_X7_keep
  rw [zb_c0]
  refine ⟨11, sm_keepL1 10 0 h (by omega) (fun h1 a1 a2 => ⟨6, sm_keepL2 5 0 h1 (by omega) (fun h2 b1 b2 => ?_)⟩)⟩
  refine hq _ (fun o ho => by rw [zb_un ho, zb_un ho, b1 o ho, a1 o ho]) ⟨fun j hj => ?_, fun j hj => ?_, ?_, ?_⟩
  · rw [zb_uj (by omega), zb_uj (by omega), b2, if_neg (by omega), a2, if_pos (by omega)]
  · rw [zb_uj (by omega), zb_uj (by omega), b2, if_pos (by omega), a1 74 (by omega)]
    congr 1
    omega
  · rw [zb_uj (by omega), zb_us, b1 66 (by omega), a1 66 (by omega)]
  · rw [zb_us, b1 66 (by omega), a1 66 (by omega)]
theorem sm_againL1 {K Q : pm_H → Prop} : ∀ (m j : Nat) (h : pm_H), j + m = 10 → (∀ h', (∀ o, o ≠ 69 → h' o = h o) → (∀ i, h' 69 i = if j ≤ i ∧ i < 10 then h 82 i else h 69 i) → K h') → wl_X7_again_2 K Q (m + 1) (nI j) h
  | 0, j, h, hj, hK => by
    unfold wl_X7_again_2
    rw [zb_lt, show (10 : Int32) = nI 10 by decide, if_neg (nI_nlt (by omega) (by omega))]
    exact hK h (fun _ _ => rfl) (fun i => by rw [if_neg (by omega)])
  | m + 1, j, h, hj, hK => by
    unfold wl_X7_again_2
    rw [zb_lt, show (10 : Int32) = nI 10 by decide, if_pos (nI_lt (by omega) (by omega)), zb_ib (zb_in (by omega) (by omega)), zb_ib (zb_in (by omega) (by omega)), pm_op_eq, nI_1, nI_clamp (by omega)]
    refine sm_againL1 m (j + 1) _ (by omega) (fun h' e1 e2 => hK h' (fun o ho => by rw [e1 o ho, zb_un ho]) (fun i => ?_))
    rw [e2, zb_ur, zb_un (by omega)]
    unfold upd
    by_cases c1 : i = j
    · subst c1
      rw [if_neg (by omega), if_pos rfl, if_pos (by omega)]
    · rw [if_neg c1]
      by_cases c2 : j ≤ i ∧ i < 10
      · rw [if_pos c2, if_pos (by omega)]
      · rw [if_neg c2, if_neg (by omega)]
theorem sm_againL2 {K Q : pm_H → Prop} : ∀ (m j : Nat) (h : pm_H), j + m = 5 → (∀ h', (∀ o, o ≠ 74 → h' o = h o) → (∀ i, h' 74 i = if j ≤ i ∧ i < 5 then h 82 (10 + i) else h 74 i) → K h') → wl_X7_again_28 K Q (m + 1) (nI j) h
  | 0, j, h, hj, hK => by
    unfold wl_X7_again_28
    rw [zb_lt, show (5 : Int32) = nI 5 by decide, if_neg (nI_nlt (by omega) (by omega))]
    exact hK h (fun _ _ => rfl) (fun i => by rw [if_neg (by omega)])
  | m + 1, j, h, hj, hK => by
    unfold wl_X7_again_28
    rw [zb_lt, show (5 : Int32) = nI 5 by decide, if_pos (nI_lt (by omega) (by omega)), pm_op_eq, pm_op_eq, nI_1, show (10 : Int32) = nI 10 by decide, nI_add, zb_ib (zb_in (by omega) (by omega)), zb_ib (zb_in (by omega) (by omega)), nI_clamp (by omega), nI_clamp (by omega)]
    refine sm_againL2 m (j + 1) _ (by omega) (fun h' e1 e2 => hK h' (fun o ho => by rw [e1 o ho, zb_un ho]) (fun i => ?_))
    rw [e2, zb_ur, zb_un (by omega)]
    unfold upd
    by_cases c1 : i = j
    · subst c1
      rw [if_neg (by omega), if_pos rfl, if_pos (by omega)]
    · rw [if_neg c1]
      by_cases c2 : j ≤ i ∧ i < 5
      · rw [if_pos c2, if_pos (by omega)]
      · rw [if_neg c2, if_neg (by omega)]
theorem sm_again {h : pm_H} {Q : pm_H → Prop} (hq : ∀ h', (∀ o, o ≠ 69 → o ≠ 74 → o ≠ 66 → h' o = h o) → (∀ j, j < 10 → h' 69 j = h 82 j) → (∀ j, j < 5 → h' 74 j = h 82 (10 + j)) → h' 66 9 = h 82 15 → h' 66 10 = h 82 16 → (∀ j, j ≠ 9 → j ≠ 10 → h' 66 j = h 66 j) → Q h') : wp_X7_again h Q := by
  unfold wp_X7_again
  rw [zb_c0]
  refine ⟨11, sm_againL1 10 0 h (by omega) (fun h1 a1 a2 => ⟨6, sm_againL2 5 0 h1 (by omega) (fun h2 b1 b2 => ?_)⟩)⟩
  refine hq _ (fun o h1 h2 h3 => by rw [zb_un h3, zb_un h3, b1 o h2, a1 o h1]) (fun j hj => ?_) (fun j hj => ?_) ?_ ?_ (fun j hj1 hj2 => ?_)
  · rw [zb_un (by omega), zb_un (by omega), b1 69 (by omega), a2, if_pos (by omega)]
  · rw [zb_un (by omega), zb_un (by omega), b2, if_pos (by omega), a1 82 (by omega)]
  · rw [zb_uj (by omega), zb_us, b1 82 (by omega), a1 82 (by omega)]
  · rw [zb_us, b1 82 (by omega), a1 82 (by omega)]
  · rw [zb_uj (by omega), zb_uj (by omega), b1 66 (by omega), a1 66 (by omega)]
