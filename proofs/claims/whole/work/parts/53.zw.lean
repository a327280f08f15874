/-! MATHEMATICS, 53: the next row, by the class and by the reference -/
section
variable {n : Nat} {L : List Nat}
theorem sp_rise {l1 : Int32} {K Q : Int32 → pm_H → Prop} {h : pm_H} (hn : n ≤ 5) (hR : zRw (h 38) L n) : ∀ (k : Nat) (x : Int32), k < n → x = nI k - 1 → (∀ y, y = nI (rI L k) - 1 → K y h) → wl_X6_nextBellRow_14 l1 K Q (k + 1) x h
  | 0, x, hk, hx, hK => by
    unfold wl_X6_nextBellRow_14
    rw [hx, zb_lt, if_pos (by decide)]
    exact hK _ rfl
  | k + 1, x, hk, hx, hK => by
    have e := zRw_lt hR (a := k + 1) (b := k) (by omega) (by omega)
    obtain ⟨y, hy⟩ : ∃ y : Int32, y = x + -1 := ⟨_, rfl⟩
    have hx' : x = nI k := by rw [hx]; exact nI_pred k
    unfold wl_X6_nextBellRow_14
    unfold rI at hK
    rw [pm_op_eq, pm_op_eq, ← hy]
    rw [hx', zb_lt, if_neg (nI_pos (by omega)), zb_ib (zb_in (by omega) (by omega)), nI_1, zb_ib (zb_in (by omega) (by omega)), zb_lt, nI_clamp (by omega), nI_clamp (by omega)]
    by_cases c : L.getD (k + 1) 0 < L.getD k 0
    · rw [if_pos (e.mpr c)]
      rw [if_pos c] at hK
      exact sp_rise hn hR k y (by omega) (by rw [hy, hx', ← Int32.sub_eq_add_neg]) hK
    · rw [if_neg (mt e.mp c)]
      rw [if_neg c] at hK
      exact hK _ (nI_pred k).symm
theorem sp_above {l1 : Int32} {K Q : Int32 → pm_H → Prop} {h : pm_H} {i : Nat} (hn : n ≤ 5) (hi : i < n) (hR : zRw (h 38) L n) : ∀ (a : Nat) (x : Int32), a < n → x = nI a → (∀ y, y = nI (rJ L i a) → K y h) → wl_X6_nextBellRow_49 l1 (nI i) K Q (a + 1) x h
  | 0, x, ha, hx, hK => by
    unfold wl_X6_nextBellRow_49
    rw [hx, zb_lt, pm_op_eq, nI_1, if_neg (nI_nlt (by omega) (by omega))]
    exact hK _ rfl
  | a + 1, x, ha, hx, hK => by
    have e := zRw_lt hR (a := a + 1) (b := i) (by omega) (by omega)
    obtain ⟨y, hy⟩ : ∃ y : Int32, y = x + -1 := ⟨_, rfl⟩
    unfold wl_X6_nextBellRow_49
    unfold rJ at hK
    rw [pm_op_eq, pm_op_eq, ← hy]
    rw [hx, zb_lt, nI_1]
    by_cases c1 : i + 1 < a + 1
    · rw [if_pos (nI_lt c1 (by omega)), zb_ib (zb_in (by omega) (by omega)), zb_ib (zb_in (by omega) (by omega)), zb_lt, nI_clamp (by omega), nI_clamp (by omega)]
      by_cases c : L.getD (a + 1) 0 < L.getD i 0
      · rw [if_pos (e.mpr c)]
        rw [if_pos ⟨c1, c⟩] at hK
        exact sp_above hn hi hR a y (by omega) (by rw [hy, hx]; exact zb_l1 a) hK
      · rw [if_neg (mt e.mp c)]
        rw [if_neg (fun q => c q.2)] at hK
        exact hK _ rfl
    · rw [if_neg (nI_nlt (by omega) (by omega))]
      rw [if_neg (fun q => c1 q.1)] at hK
      exact hK _ rfl
theorem sp_swap {a b : Nat} {h : pm_H} {Q : pm_H → Prop} (hn : n ≤ 5) (ha : a < n) (hb : b < n) (hR : zRw (h 38) L n) (hq : ∀ h', (∀ o, o ≠ 38 → h' o = h o) → zRw (h' 38) (rSw L a b) n → Q h') : wp_X6_swapBells (nI a) (nI b) h Q := by
  unfold wp_X6_swapBells
  simp only [zb_in (j := a) (n := 5) (by omega) (by omega), zb_in (j := b) (n := 5) (by omega) (by omega), zb_ibt, nI_clamp (n := a) (by omega), nI_clamp (n := b) (by omega)]
  refine hq _ (fun o ho => by rw [zb_un ho, zb_un ho]) ?_
  rw [zb_ur, zb_ur]
  exact zRw_sw hR ha hb
theorem sp_rev {K : pm_H → Prop} {Q : Int32 → pm_H → Prop} (hn : n ≤ 5) : ∀ (m a b : Nat) (x y : Int32) (L : List Nat) (h : pm_H), b < n ∧ a ≤ 10 → b < a + 2 * m → x = nI a → y = nI b → zRw (h 38) L n → (∀ h', (∀ o, o ≠ 38 → h' o = h o) → zRw (h' 38) (rV m L a b) n → K h') → wl_X6_nextBellRow_91 K Q (m + 1) x y h
  | 0, a, b, x, y, L, h, hb, hm, hx, hy, hR, hK => by
    unfold wl_X6_nextBellRow_91
    rw [zb_lt, hx, hy, if_neg (nI_nlt (by omega) (by omega))]
    exact hK h (fun _ _ => rfl) hR
  | m + 1, a, b, x, y, L, h, hb, hm, hx, hy, hR, hK => by
    obtain ⟨x', hx'⟩ : ∃ z : Int32, z = x + 1 := ⟨_, rfl⟩
    obtain ⟨y', hy'⟩ : ∃ z : Int32, z = y + -1 := ⟨_, rfl⟩
    unfold wl_X6_nextBellRow_91
    unfold rV at hK
    rw [pm_op_eq, pm_op_eq, ← hx', ← hy', zb_lt, hx, hy]
    by_cases c : a < b
    · rw [if_pos (nI_lt c (by omega))]
      simp only [if_pos c] at hK
      refine sp_swap hn (by omega) (by omega) hR (fun h1 e1 R1 => ?_)
      refine sp_rev hn m (a + 1) (b - 1) x' y' (rSw L a b) h1 (by omega) (by omega) (by rw [hx', hx, nI_1]) ?_ R1 (fun h2 e2 R2 => hK h2 (fun o ho => (e2 o ho).trans (e1 o ho)) R2)
      rw [hy', hy, show b = (b - 1) + 1 by omega]
      exact zb_l1 _
    · rw [if_neg (nI_nlt (by omega) (by omega))]
      simp only [if_neg c] at hK
      exact hK h (fun _ _ => rfl) hR
set_option maxHeartbeats 2000000 in
/-- the class's next row -/
theorem sp_next {h : pm_H} {Q : Int32 → pm_H → Prop} (hn : n ≤ 5) (e8 : h 1 8 = nI n) (hR : zRw (h 38) L n) (h0 : rX n L = none → Q 0 h) (h1 : ∀ L', rX n L = some L' → ∀ h', (∀ o, o ≠ 38 → h' o = h o) → zRw (h' 38) L' n → Q 1 h') : wp_X6_nextBellRow h Q := by
  unfold wp_X6_nextBellRow
  rw [e8]
  rcases (show n = 0 ∨ ∃ p, n = p + 1 by cases n with | zero => exact Or.inl rfl | succ p => exact Or.inr ⟨p, rfl⟩) with rfl | ⟨p, rfl⟩
  · refine ⟨1, ?_⟩
    unfold wl_X6_nextBellRow_14
    rw [zb_lt, if_pos (by rw [pm_op_eq, pm_op_eq]; decide), zb_lt, if_pos (by rw [pm_op_eq, pm_op_eq]; decide)]
    exact h0 rfl
  · simp only [pm_op_eq, nI_pred]
    obtain ⟨x0, hx0⟩ : ∃ y : Int32, y = nI p - 1 := ⟨_, rfl⟩
    rw [← hx0]
    refine ⟨p + 1, ?_⟩
    refine sp_rise hn hR p x0 (by omega) hx0 (fun y hy => ?_)
    rw [zb_lt]
    have e1 : rX (p + 1) L = if rI L p = 0 then none else some (rV 5 (rSw L (rI L p - 1) (rJ L (rI L p - 1) p)) (rI L p) p) := rfl
    rcases (show rI L p = 0 ∨ ∃ j, rI L p = j + 1 by cases rI L p with | zero => exact Or.inl rfl | succ p => exact Or.inr ⟨p, rfl⟩) with q | ⟨j, q⟩
    · rw [q] at hy e1
      rw [hy, if_pos (by decide)]
      exact h0 e1
    · obtain ⟨o1, o2⟩ := rI_ok q
      rw [q] at hy e1
      rw [nI_pred] at hy
      rw [if_neg (by omega), Nat.add_sub_cancel] at e1
      rw [hy, if_neg (nI_pos (by omega))]
      refine ⟨p + 1, ?_⟩
      refine sp_above hn (by omega) hR p (nI p) (by omega) rfl (fun z hz => ?_)
      have hJ := rJ_le (L := L) (i := j) (a := p)
      rw [hz]
      refine sp_swap hn (by omega) (by omega) hR (fun h2 e2 R2 => ?_)
      refine ⟨6, ?_⟩
      exact sp_rev hn 5 (j + 1) p (nI j + 1) (nI p) _ h2 (by omega) (by omega) (nI_1 j) rfl R2 (fun h3 e3 R3 => h1 _ e1 h3 (fun o ho => (e3 o ho).trans (e2 o ho)) R3)
theorem sm_rise {K Q : Int32 → pm_H → Prop} {h : pm_H} (hn : n ≤ 5) (hR : zRw (h 84) L n) : ∀ (k : Nat) (x : Int32), k < n → x = nI k - 1 → (∀ y, y = nI (rI L k) - 1 → K y h) → wl_X7_another_7 K Q (k + 1) x h
  | 0, x, hk, hx, hK => by
    unfold wl_X7_another_7
    rw [hx, zb_lt, if_pos (by decide)]
    exact hK _ rfl
  | k + 1, x, hk, hx, hK => by
    have e := zRw_lt hR (a := k + 1) (b := k) (by omega) (by omega)
    obtain ⟨y, hy⟩ : ∃ y : Int32, y = x + -1 := ⟨_, rfl⟩
    have hx' : x = nI k := by rw [hx]; exact nI_pred k
    unfold wl_X7_another_7
    unfold rI at hK
    rw [pm_op_eq, pm_op_eq, ← hy]
    rw [hx', zb_lt, if_neg (nI_pos (by omega)), zb_ib (zb_in (by omega) (by omega)), nI_1, zb_ib (zb_in (by omega) (by omega)), zb_lt, nI_clamp (by omega), nI_clamp (by omega)]
    by_cases c : L.getD (k + 1) 0 < L.getD k 0
    · rw [if_pos (e.mpr c)]
      rw [if_pos c] at hK
      exact sm_rise hn hR k y (by omega) (by rw [hy, hx', ← Int32.sub_eq_add_neg]) hK
    · rw [if_neg (mt e.mp c)]
      rw [if_neg c] at hK
      exact hK _ (nI_pred k).symm
theorem sm_above {K Q : Int32 → pm_H → Prop} {h : pm_H} {i : Nat} (hn : n ≤ 5) (hi : i + 1 < n) (hok : ¬ L.getD (i + 1) 0 < L.getD i 0) (hR : zRw (h 84) L n) : ∀ (a : Nat) (x : Int32), i + 1 ≤ a → a < n → x = nI a → (∀ y, y = nI (rJ L i a) → K y h) → wl_X7_another_47 (nI i) K Q (a + 1) x h
  | 0, x, h1, ha, hx, hK => absurd h1 (by omega)
  | a + 1, x, h1, ha, hx, hK => by
    have e := zRw_lt hR (a := a + 1) (b := i) (by omega) (by omega)
    obtain ⟨y, hy⟩ : ∃ y : Int32, y = x + -1 := ⟨_, rfl⟩
    unfold wl_X7_another_47
    unfold rJ at hK
    rw [pm_op_eq, ← hy]
    rw [hx, zb_ib (zb_in (by omega) (by omega)), zb_ib (zb_in (by omega) (by omega)), zb_lt, nI_clamp (by omega), nI_clamp (by omega)]
    by_cases c : L.getD (a + 1) 0 < L.getD i 0
    · have c1 : i + 1 < a + 1 := by
        rcases Nat.lt_or_ge (i + 1) (a + 1) with q | q
        · exact q
        · have : i = a := by omega
          subst this
          exact absurd c hok
      rw [if_pos (e.mpr c)]
      rw [if_pos ⟨c1, c⟩] at hK
      exact sm_above hn hi hok hR a y (by omega) (by omega) (by rw [hy, hx]; exact zb_l1 a) hK
    · rw [if_neg (mt e.mp c)]
      rw [if_neg (fun q => c q.2)] at hK
      exact hK _ rfl
theorem sm_rev {K : pm_H → Prop} {Q : Int32 → pm_H → Prop} (hn : n ≤ 5) : ∀ (m a b : Nat) (x y : Int32) (L : List Nat) (h : pm_H), b < n ∧ a ≤ 10 → b < a + 2 * m → x = nI a → y = nI b → zRw (h 84) L n → (∀ h', (∀ o, o ≠ 84 → h' o = h o) → zRw (h' 84) (rV m L a b) n → K h') → wl_X7_another_107 K Q (m + 1) x y h
  | 0, a, b, x, y, L, h, hb, hm, hx, hy, hR, hK => by
    unfold wl_X7_another_107
    rw [zb_lt, hx, hy, if_neg (nI_nlt (by omega) (by omega))]
    exact hK h (fun _ _ => rfl) hR
  | m + 1, a, b, x, y, L, h, hb, hm, hx, hy, hR, hK => by
    obtain ⟨x', hx'⟩ : ∃ z : Int32, z = x + 1 := ⟨_, rfl⟩
    obtain ⟨y', hy'⟩ : ∃ z : Int32, z = y + -1 := ⟨_, rfl⟩
    unfold wl_X7_another_107
    unfold rV at hK
    rw [pm_op_eq, pm_op_eq, ← hx', ← hy', zb_lt, hx, hy]
    by_cases c : a < b
    · rw [if_pos (nI_lt c (by omega))]
      simp only [if_pos c] at hK
      simp only [zb_in (j := a) (n := 5) (by omega) (by omega), zb_in (j := b) (n := 5) (by omega) (by omega), zb_ibt, nI_clamp (n := a) (by omega), nI_clamp (n := b) (by omega)]
      refine sm_rev hn m (a + 1) (b - 1) x' y' (rSw L a b) _ (by omega) (by omega) (by rw [hx', hx, nI_1]) ?_ (by rw [zb_ur, zb_ur]; exact zRw_sw hR (by omega) (by omega)) (fun h2 e2 R2 => hK h2 (fun o ho => by rw [e2 o ho, zb_un ho, zb_un ho]) R2)
      rw [hy', hy, show b = (b - 1) + 1 by omega]
      exact zb_l1 _
    · rw [if_neg (nI_nlt (by omega) (by omega))]
      simp only [if_neg c] at hK
      exact hK h (fun _ _ => rfl) hR
set_option maxHeartbeats 2000000 in
/-- the reference's next row -/
theorem sm_next {h : pm_H} {Q : Int32 → pm_H → Prop} (hn : n ≤ 5) (e8 : h 66 3 = nI n) (hR : zRw (h 84) L n) (h0 : rX n L = none → Q 0 h) (h1 : ∀ L', rX n L = some L' → ∀ h', (∀ o, o ≠ 84 → h' o = h o) → zRw (h' 84) L' n → Q 1 h') : wp_X7_another h Q := by
  unfold wp_X7_another
  rcases (show n = 0 ∨ ∃ p, n = p + 1 by cases n with | zero => exact Or.inl rfl | succ p => exact Or.inr ⟨p, rfl⟩) with rfl | ⟨p, rfl⟩
  · refine ⟨1, ?_⟩
    unfold wl_X7_another_7
    rw [e8, zb_lt, if_pos (by rw [pm_op_eq]; decide), zb_lt, if_pos (by rw [pm_op_eq]; decide)]
    exact h0 rfl
  · obtain ⟨x0, hx0⟩ : ∃ y : Int32, y = nI (p + 1) - 2 := ⟨_, rfl⟩
    have hx1 : x0 = nI p - 1 := by
      rw [hx0, ← nI_pred p, Int32.sub_sub]
      rfl
    rw [e8]
    simp only [pm_op_eq]
    rw [← hx0]
    refine ⟨p + 1, ?_⟩
    refine sm_rise hn hR p x0 (by omega) hx1 (fun y hy => ?_)
    rw [zb_lt]
    have e1 : rX (p + 1) L = if rI L p = 0 then none else some (rV 5 (rSw L (rI L p - 1) (rJ L (rI L p - 1) p)) (rI L p) p) := rfl
    rcases (show rI L p = 0 ∨ ∃ j, rI L p = j + 1 by cases rI L p with | zero => exact Or.inl rfl | succ p => exact Or.inr ⟨p, rfl⟩) with q | ⟨j, q⟩
    · rw [q] at hy e1
      rw [hy, if_pos (by decide)]
      exact h0 e1
    · obtain ⟨o1, o2⟩ := rI_ok q
      rw [q] at hy e1
      rw [nI_pred] at hy
      rw [if_neg (by omega), Nat.add_sub_cancel] at e1
      rw [hy, if_neg (nI_pos (by omega)), e8, nI_pred]
      refine ⟨p + 1, ?_⟩
      refine sm_above hn (by omega) o2 hR p (nI p) (by omega) (by omega) rfl (fun z hz => ?_)
      have hJ := rJ_le (L := L) (i := j) (a := p)
      rw [hz]
      simp only [zb_in (j := j) (n := 5) (by omega) (by omega), zb_in (j := rJ L j p) (n := 5) (by omega) (by omega), zb_ibt, nI_clamp (n := j) (by omega), nI_clamp (n := rJ L j p) (by omega)]
      refine ⟨6, ?_⟩
      rw [e8, nI_pred]
      exact sm_rev hn 5 (j + 1) p (nI j + 1) (nI p) _ _ (by omega) (by omega) (nI_1 j) rfl (by rw [zb_ur, zb_ur]; exact zRw_sw hR (by omega) (by omega)) (fun h3 e3 R3 => h1 _ e1 h3 (fun o ho => by rw [e3 o ho, zb_un ho, zb_un ho]) R3)
end
