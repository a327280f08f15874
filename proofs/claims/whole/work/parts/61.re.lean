/-! MATHEMATICS, 61: sheet, cell, copy, taken -/
theorem zb_e40 {a i : Nat} (ha : a < 4) (hi : i < 1000) : (40 : Int32) * nI a + nI i = nI (40 * a + i) := by
  have a1 : (nI 40 * nI a).toInt = 40 * (a : Int) := by
    rw [zb_tmul (by rw [nI_toInt (by omega), nI_toInt (by omega)]; omega) (by rw [nI_toInt (by omega), nI_toInt (by omega)]; omega), nI_toInt (by omega), nI_toInt (by omega)]
    rfl
  rw [show (40 : Int32) = nI 40 by decide]
  refine zb_teq.mpr ?_
  rw [zb_tadd (by rw [a1, nI_toInt (by omega)]; omega) (by rw [a1, nI_toInt (by omega)]; omega), a1, nI_toInt (by omega), nI_toInt (by omega)]
  omega
theorem zb_64 {i n s : Int32} : 0 < lg_cmp (i.toInt64 + n.toInt64) s.toInt64 ↔ s.toInt < i.toInt + n.toInt := by
  have h1 := i.toInt_lt
  have h2 := i.le_toInt
  have h3 := n.toInt_lt
  have h4 := n.le_toInt
  rw [lg_cmp_gt, Int64.lt_iff_toInt_lt, Int64.toInt_add, Int32.toInt_toInt64, Int32.toInt_toInt64, Int32.toInt_toInt64, Int.bmod_eq_of_le (by omega) (by omega)]
theorem sp_isSort {a : Int32} {h : pm_H} {Q : Int32 → pm_H → Prop} (h0 : (a < 0 ∨ 2 < a) → Q 0 h) (h1 : ¬ (a < 0 ∨ 2 < a) → Q 1 h) : wp_X6_isSort a h Q := by
  unfold wp_X6_isSort
  exact sp_between (fun q => by rw [zb_b0]; exact h0 q) (fun q => by rw [zb_b1]; exact h1 q)
section
variable {h : pm_H}
/-- only the sheets change -/
theorem zRel_H {h' : pm_H} (H : zRel h) (f : ∀ o, (o < 58 ∨ (65 < o ∧ o < 88) ) → h' o = h o) (H4 : zrH h') : zRel h' := by
  obtain ⟨H1, H2, H3, -, H5⟩ := H
  have eM : vM h' = vM h := vM_of (fun o _ => f o (by omega)) (fun j _ => by rw [f 66 (by omega)])
  exact ⟨zrS_f H1 (fun o _ _ => f o (by omega)) (fun j _ => by rw [f 1 (by omega)]) (by rw [eM]; exact fun _ _ => rfl) (by rw [f 66 (by omega)]) (fun c _ => by rw [f 70 (by omega)]), zrT_f H2 (by rw [f 0 (by omega)]) (by rw [f 66 (by omega)]) (by rw [f 1 (by omega)]) (by rw [f 66 (by omega)]) (by rw [f 66 (by omega)]) (fun o _ _ => f o (by omega)) (f 76 (by omega)) (f 77 (by omega)), zrP_f H3 (by rw [f 34 (by omega)]) (by rw [f 66 (by omega)]) (f 35 (by omega)) (f 75 (by omega)), H4, zrI_f H5 (by rw [f 0 (by omega)]) (fun j _ _ => by rw [f 66 (by omega)]) (fun o _ _ => f o (by omega)) (f 86 (by omega)) (f 87 (by omega)) (by rw [f 1 (by omega)]; exact Int.le_refl _) (fun c _ => by rw [f 70 (by omega)]) (by rw [f 0 (by omega)]; exact Int.le_refl _)⟩
theorem sp_fillS {K Q : pm_H → Prop} {x : Int32} {a : Nat} (ha : a < 4) : ∀ (m j : Nat) (h : pm_H), j + m = 40 → (∀ h', (∀ o, o ≠ 58 + 2 * a + 1 → h' o = h o) → (∀ i, h' (58 + 2 * a + 1) i = if j ≤ i ∧ i < 40 then x else h (58 + 2 * a + 1) i) → K h') → wl_J7_fill_53178_5 (58 + 2 * a + 1) x (nI 40) K Q (m + 1) (nI j) h
  | 0, j, h, hj, hK => by
    unfold wl_J7_fill_53178_5
    rw [zb_lt, if_neg (nI_nlt (by omega) (by omega))]
    exact hK h (fun _ _ => rfl) (fun i => by rw [if_neg (by omega)])
  | m + 1, j, h, hj, hK => by
    have A : ∀ a, a < 4 → pm_at 8 (58 + 2 * a + 1) 8 = true ∧ pm_len (58 + 2 * a + 1) = 40 := by decide +kernel
    unfold wl_J7_fill_53178_5
    rw [zb_lt, if_pos (nI_lt (by omega) (by omega)), zb_ib (A a ha).1, (A a ha).2, zb_ib (zb_in (by omega) (by omega)), pm_op_eq, nI_1, nI_clamp (by omega)]
    refine sp_fillS ha m (j + 1) _ (by omega) (fun h' e1 e2 => hK h' (fun o ho => by rw [e1 o ho, zb_un ho]) (fun i => ?_))
    rw [e2, zb_ur]
    unfold upd
    by_cases c1 : i = j
    · subst c1
      rw [if_neg (by omega), if_pos rfl, if_pos (by omega)]
    · rw [if_neg c1]
      by_cases c2 : j ≤ i ∧ i < 40
      · rw [if_pos c2, if_pos (by omega)]
      · rw [if_neg c2, if_neg (by omega)]
theorem sm_fillS {K : pm_H → Prop} {Q : Int32 → pm_H → Prop} {a : Nat} (ha : a < 4) : ∀ (m j : Nat) (h : pm_H), j + m = 40 → (∀ h', (∀ o, o ≠ 90 → h' o = h o) → (∀ i, h' 90 i = if 40 * a + j ≤ i ∧ i < 40 * a + 40 then 0 else h 90 i) → K h') → wl_X7_sheet_68 (nI a) K Q (m + 1) (nI j) h
  | 0, j, h, hj, hK => by
    unfold wl_X7_sheet_68
    rw [zb_lt, show (40 : Int32) = nI 40 by decide, if_neg (nI_nlt (by omega) (by omega))]
    exact hK h (fun _ _ => rfl) (fun i => by rw [if_neg (by omega)])
  | m + 1, j, h, hj, hK => by
    unfold wl_X7_sheet_68
    rw [pm_op_eq, pm_op_eq, pm_op_eq, zb_e40 ha (by omega), nI_1]
    rw [zb_lt, show (40 : Int32) = nI 40 by decide, if_pos (nI_lt (by omega) (by omega)), zb_ib (zb_in (by omega) (by omega)), nI_clamp (by omega)]
    refine sm_fillS ha m (j + 1) _ (by omega) (fun h' e1 e2 => hK h' (fun o ho => by rw [e1 o ho, zb_un ho]) (fun i => ?_))
    rw [e2, zb_ur]
    unfold upd
    by_cases c1 : i = 40 * a + j
    · subst c1
      rw [if_neg (by omega), if_pos rfl, if_pos (by omega)]
    · rw [if_neg c1]
      by_cases c2 : 40 * a + j ≤ i ∧ i < 40 * a + 40
      · rw [if_pos c2, if_pos (by omega)]
      · rw [if_neg c2, if_neg (by omega)]
set_option maxHeartbeats 1000000 in
theorem pr_sheet (H : zRel h) (a s n : Int32) : wp_X6_sheet a s n h (fun r h1 => wp_X7_sheet a s n h1 (fun r' h2 => r = r' ∧ zRel h2)) := by
  have H4 := H.2.2.2.1
  unfold wp_X6_sheet
  refine sp_isSheet (fun c => ?_) (fun c => ?_)
  · rw [zb_eq, if_pos rfl]
    unfold wp_X7_sheet
    refine sm_within (fun _ => ?_) (fun q => absurd c q)
    rw [zb_eq, if_pos rfl]; exact ⟨rfl, H⟩
  rw [zb_eq, if_neg (by decide)]
  obtain ⟨i, hi, rfl⟩ := zb_rng (m := 3) (by decide) (by omega) c
  have hi4 : i < 4 := by omega
  obtain ⟨A1, A2, A3⟩ := zAt2 i hi4 6 (by omega)
  obtain ⟨B1, B2, B3⟩ := zAt2 i hi4 2 (by omega)
  have em1 : (-1 : Int32).toInt = -1 := by decide
  have e2 : (2 : Int32).toInt = 2 := by decide
  rw [zb_eq]
  -- the reference's head
  have front : ∀ (h1 : pm_H) (Q : Int32 → pm_H → Prop), (¬ (s < -1 ∨ 2 < s)) → (s = -1 → Q 1 (pm_u h1 88 i (-1))) → (¬ s = -1 → 40 < n → Q (-2) h1) → (¬ s = -1 → ¬ 40 < n → n < 0 → Q (-14) h1) → (¬ s = -1 → ¬ 40 < n → ¬ n < 0 → ∀ h2, (∀ o, o ≠ 90 → h2 o = (pm_u (pm_u h1 88 i s) 89 i n) o) → (∀ j, h2 90 j = if 40 * i ≤ j ∧ j < 40 * i + 40 then 0 else h1 90 j) → Q 1 h2) → wp_X7_sheet (nI i) s n h1 Q := by
    intro h1 Q q0 q1 q2 q3 q4
    unfold wp_X7_sheet
    refine sm_within (fun q => absurd q c) (fun _ => ?_)
    rw [zb_eq, if_neg (by decide)]
    refine sm_within (fun q => absurd q q0) (fun _ => ?_)
    rw [zb_eq, if_neg (by decide), zb_eq]
    by_cases c1 : s = -1
    · rw [if_pos c1, zb_ib (zb_in hi4 (by omega)), nI_clamp (by omega)]; exact q1 c1
    rw [if_neg c1, zb_lt]
    by_cases c2 : 40 < n
    · rw [if_pos c2]; exact q2 c1 c2
    rw [if_neg c2, zb_lt]
    by_cases c3 : n < 0
    · rw [if_pos c3]; exact q3 c1 c2 c3
    rw [if_neg c3, zb_ib (zb_in hi4 (by omega)), zb_ib (zb_in hi4 (by omega)), nI_clamp (by omega)]
    refine ⟨41, ?_⟩
    have f := sm_fillS (K := fun h763 => Q 1 h763) (Q := Q) hi4 40 0 (pm_u (pm_u h1 88 i s) 89 i n) (by omega) (fun h2 a1 a2 => q4 c1 c2 c3 h2 a1 (fun j => by rw [a2, zb_un (by omega), zb_un (by omega)]; rfl))
    rw [← zb_c0] at f
    exact f
  by_cases c1 : s = -1
  · subst c1
    rw [if_pos rfl, zb_eq, if_pos rfl, zb_ib (zb_in hi4 (by omega)), nI_clamp (by omega), zb_ib A1]
    unfold wp_X2_becomeMissing
    rw [zb_ib B1, zb_ib B1]
    refine front _ _ (by decide) (fun _ => ⟨rfl, ?_⟩) (fun q => absurd rfl q) (fun q => absurd rfl q) (fun q => absurd rfl q)
    refine zRel_H H (fun o ho => by rw [zb_un (by omega), zb_un (by omega), zb_un (by omega)]) (fun a ha => ?_)
    obtain ⟨y1, y2, y3, y4⟩ := H4 a ha
    simp only [zb_un (o := 88) (o' := 58 + 2 * a) (by omega), zb_un (o := 88) (o' := 58 + 2 * a + 1) (by omega), zb_un (o := 58 + 2 * i) (o' := 58 + 2 * a + 1) (by omega), zb_un (o := 88) (o' := 89) (by omega), zb_un (o := 88) (o' := 90) (by omega), zb_un (o := 58 + 2 * i) (o' := 88) (by omega), zb_un (o := 58 + 2 * i) (o' := 89) (by omega), zb_un (o := 58 + 2 * i) (o' := 90) (by omega), zb_ur]
    by_cases ea : a = i
    · subst ea
      simp only [zb_ur, upd, if_true, if_false, Nat.reduceEqDiff]
      exact ⟨trivial, ⟨by rw [em1]; exact Int.le_refl _, by rw [em1]; omega⟩, ⟨by simp, by simp⟩, fun q => absurd rfl q⟩
    · simp only [zb_un (o := 58 + 2 * i) (o' := 58 + 2 * a) (by omega), upd, if_neg ea]
      exact ⟨y1, y2, y3, y4⟩
  · rw [if_neg c1]
    refine sp_isSort (fun d => ?_) (fun d => ?_)
    · rw [zb_eq, if_pos rfl]
      unfold wp_X7_sheet
      refine sm_within (fun q => absurd q c) (fun _ => ?_)
      rw [zb_eq, if_neg (by decide)]
      refine sm_within (fun _ => ?_) (fun q => ?_)
      · rw [zb_eq, if_pos rfl]; exact ⟨rfl, H⟩
      · exfalso
        apply q
        rcases d with d | d
        · left
          rw [zb_teq, em1] at c1
          rw [zb_tlt, Int32.toInt_zero] at d
          rw [zb_tlt, em1]
          omega
        · exact Or.inr d
    rw [zb_eq, if_neg (by decide), zb_eq, if_neg c1, zb_lt]
    have hs : zB 0 2 s := by
      have d1 : ¬ s < 0 := fun q => d (Or.inl q)
      have d2 : ¬ 2 < s := fun q => d (Or.inr q)
      rw [zb_tlt, Int32.toInt_zero] at d1
      rw [zb_tlt, e2] at d2
      exact ⟨by omega, by omega⟩
    have hs' : ¬ (s < -1 ∨ 2 < s) := by
      rw [zb_tlt, zb_tlt, em1, e2]
      have := hs.1
      have := hs.2
      omega
    by_cases c2 : 40 < n
    · rw [if_pos c2]
      exact front h _ hs' (fun q => absurd q c1) (fun _ _ => ⟨rfl, H⟩) (fun _ q => absurd c2 q) (fun _ q => absurd c2 q)
    rw [if_neg c2, zb_lt]
    by_cases c3 : n < 0
    · rw [if_pos c3]
      exact front h _ hs' (fun q => absurd q c1) (fun _ q => absurd q c2) (fun _ _ _ => ⟨rfl, H⟩) (fun _ _ q => absurd c3 q)
    rw [if_neg c3, zb_ib (zb_in hi4 (by omega)), nI_clamp (by omega), zb_ib A1]
    have hn : zB 0 40 n := by
      rw [zb_tlt, show (40 : Int32).toInt = 40 by decide] at c2
      rw [zb_tlt, Int32.toInt_zero] at c3
      exact ⟨by omega, by omega⟩
    unfold wp_X2_becomeRow wp_J7_fill_53178
    have B4 : pm_at 8 (58 + 2 * i + 1) 8 = true := by
      have A : ∀ a, a < 4 → pm_at 8 (58 + 2 * a + 1) 8 = true := by decide +kernel
      exact A i hi4
    rw [zb_ib B1, zb_ib B1, zb_ib B1, zb_ib B4, B3]
    refine ⟨41, ?_⟩
    have f := sp_fillS (x := 0) (K := fun h300 => wp_X7_sheet (nI i) s n h300 (fun r' h2 => 1 = r' ∧ zRel h2)) (Q := fun h299 => wp_X7_sheet (nI i) s n h299 (fun r' h2 => 1 = r' ∧ zRel h2)) hi4 40 0 (pm_u (pm_u h (58 + 2 * i) 1 s) (58 + 2 * i) 2 n) (by omega) (fun h2 a1 a2 => ?_)
    · rw [show (nI 0 : Int32) = 0 from zb_c0.symm] at f
      exact f
    · refine front h2 _ hs' (fun q => absurd q c1) (fun _ q => absurd q c2) (fun _ _ q => absurd q c3) (fun _ _ _ h3 b1 b2 => ⟨rfl, ?_⟩)
      refine zRel_H H (fun o ho => by rw [b1 o (by omega), zb_un (by omega), zb_un (by omega), a1 o (by omega), zb_un (by omega), zb_un (by omega)]) (fun a ha => ?_)
      obtain ⟨y1, y2, y3, y4⟩ := H4 a ha
      rw [b1 (58 + 2 * a) (by omega), b1 (58 + 2 * a + 1) (by omega), b1 88 (by omega), b1 89 (by omega)]
      simp only [zb_un (o := 89) (o' := 58 + 2 * a) (by omega), zb_un (o := 88) (o' := 58 + 2 * a) (by omega), zb_un (o := 89) (o' := 58 + 2 * a + 1) (by omega), zb_un (o := 88) (o' := 58 + 2 * a + 1) (by omega), zb_un (o := 89) (o' := 88) (by omega), zb_un (o := 88) (o' := 89) (by omega), zb_ur]
      rw [a1 88 (by omega), a1 89 (by omega), a1 (58 + 2 * a) (by omega)]
      simp only [zb_un (o := 58 + 2 * i) (o' := 88) (by omega), zb_un (o := 58 + 2 * i) (o' := 89) (by omega)]
      by_cases ea : a = i
      · subst ea
        simp only [zb_ur, upd, if_true, if_false, Nat.reduceEqDiff]
        refine ⟨trivial, ⟨by have := hs.1; omega, hs.2⟩, hn, fun _ => ⟨trivial, fun j hj => ?_⟩⟩
        rw [a2, if_pos (by omega), b2, if_pos (by omega)]
      · simp only [zb_un (o := 58 + 2 * i) (o' := 58 + 2 * a) (by omega), upd, if_neg ea]
        refine ⟨y1, y2, y3, fun q => ⟨(y4 q).1, fun j hj => ?_⟩⟩
        rw [a1 (58 + 2 * a + 1) (by omega), zb_un (by omega), zb_un (by omega), b2, if_neg (by omega), a1 90 (by omega), zb_un (by omega), zb_un (by omega)]
        exact (y4 q).2 j hj
theorem sp_hasPlaces {a : Nat} (ha : a < 4) {i n : Int32} {Q : Int32 → pm_H → Prop} (hL : zB 0 40 (h (58 + 2 * a) 2)) (h1 : 0 ≤ i.toInt ∧ 0 ≤ n.toInt ∧ i.toInt + n.toInt ≤ (h (58 + 2 * a) 2).toInt → Q 1 h) (h0 : ¬ (0 ≤ i.toInt ∧ 0 ≤ n.toInt ∧ i.toInt + n.toInt ≤ (h (58 + 2 * a) 2).toInt) → Q 0 h) : wp_X2_hasPlaces (58 + 2 * a) i n h Q := by
  have A := (zAt2 a ha 2 (by omega)).1
  unfold zB at hL
  unfold wp_X2_hasPlaces
  rw [zb_lt]
  by_cases c1 : i < 0
  · rw [if_pos c1]
    rw [zb_tlt, Int32.toInt_zero] at c1
    exact h0 (by omega)
  rw [if_neg c1, zb_lt]
  rw [zb_tlt, Int32.toInt_zero] at c1
  by_cases c2 : n < 0
  · rw [if_pos c2]
    rw [zb_tlt, Int32.toInt_zero] at c2
    exact h0 (by omega)
  rw [if_neg c2, zb_ib A, zb_lt]
  rw [zb_tlt, Int32.toInt_zero] at c2
  by_cases c3 : h (58 + 2 * a) 2 < n
  · rw [if_pos c3]
    rw [zb_tlt] at c3
    exact h0 (by omega)
  rw [if_neg c3, zb_ib A, zb_lt, pm_op_eq]
  rw [zb_tlt] at c3
  have e : (h (58 + 2 * a) 2 - n).toInt = (h (58 + 2 * a) 2).toInt - n.toInt := zb_tsub (by omega) (by omega)
  by_cases c4 : h (58 + 2 * a) 2 - n < i
  · rw [if_pos c4]
    rw [zb_tlt, e] at c4
    exact h0 (by omega)
  · rw [if_neg c4]
    rw [zb_tlt, e] at c4
    exact h1 (by omega)
set_option maxHeartbeats 1000000 in
theorem pr_cell (H : zRel h) (a i v : Int32) : wp_X6_cell a i v h (fun r h1 => wp_X7_cell a i v h1 (fun r' h2 => r = r' ∧ zRel h2)) := by
  have H4 := H.2.2.2.1
  unfold wp_X6_cell
  refine sp_isSheet (fun c => ?_) (fun c => ?_)
  · rw [zb_eq, if_pos rfl]
    unfold wp_X7_cell
    refine sm_within (fun _ => ?_) (fun q => absurd c q)
    rw [zb_eq, if_pos rfl]; exact ⟨rfl, H⟩
  rw [zb_eq, if_neg (by decide)]
  obtain ⟨b, hb, rfl⟩ := zb_rng (m := 3) (by decide) (by omega) c
  have hb4 : b < 4 := by omega
  obtain ⟨y1, y2, y3, y4⟩ := H4 b hb4
  obtain ⟨A1, A2, A3⟩ := zAt2 b hb4 6 (by omega)
  obtain ⟨B1, B2, B3⟩ := zAt2 b hb4 2 (by omega)
  have in4 : pm_in (nI b) 4 = true := zb_in hb4 (by omega)
  rw [zb_ib in4, nI_clamp (by omega), zb_ib A1]
  refine sp_isMissing hb4 ?_
  have front : ∀ (h1 : pm_H) (Q : Int32 → pm_H → Prop), h1 88 = h 88 → h1 89 = h 89 → (h 88 b = -1 → Q (-11) h1) → (¬ h 88 b = -1 → ¬ (0 ≤ i.toInt ∧ i.toInt < (h (58 + 2 * b) 2).toInt) → Q (-12) h1) → (¬ h 88 b = -1 → ∀ j : Nat, j < 40 → i = nI j → (j : Int) < (h (58 + 2 * b) 2).toInt → Q 1 (pm_u h1 90 (40 * b + j) (if h 88 b = 0 then v.toInt8.toInt32 else if h 88 b = 1 then v.toInt16.toInt32 else v))) → wp_X7_cell (nI b) i v h1 Q := by
    intro h1 Q e88 e89 q1 q2 q3
    unfold wp_X7_cell
    refine sm_within (fun q => absurd q c) (fun _ => ?_)
    rw [zb_eq, if_neg (by decide), zb_ib in4, nI_clamp (n := b) (by omega), zb_eq, e88]
    by_cases c1 : h 88 b = -1
    · rw [if_pos c1]; exact q1 c1
    rw [if_neg c1, zb_ib in4, e89, (y4 c1).1, pm_op_eq]
    unfold zB at y3
    have e : (h (58 + 2 * b) 2 - 1).toInt = (h (58 + 2 * b) 2).toInt - 1 := by rw [zb_tsub (by rw [Int32.toInt_one]; omega) (by rw [Int32.toInt_one]; omega), Int32.toInt_one]
    refine sm_within (fun d => ?_) (fun d => ?_)
    · rw [zb_eq, if_pos rfl]
      rw [zb_tlt, zb_tlt, e, Int32.toInt_zero] at d
      exact q2 c1 (by omega)
    · rw [zb_eq, if_neg (by decide), zb_ib in4]
      rw [zb_tlt, zb_tlt, e, Int32.toInt_zero] at d
      obtain ⟨j, hj, ej, -⟩ := zB_nat (b := 39) (x := i) ⟨by omega, by omega⟩
      have q := q3 c1 j (by omega) ej (by rw [ej, nI_toInt (by omega)] at d; omega)
      have e40 := zb_e40 hb4 (i := j) (by omega)
      have inx : pm_in (nI (40 * b + j)) 160 = true := zb_in (by omega) (by omega)
      simp only [ej, pm_op_eq, e40, inx, zb_ibt, nI_clamp (n := 40 * b + j) (show 40 * b + j < 2 ^ 31 by omega), zb_eq, e88, in4]
      by_cases s0 : h 88 b = 0
      · rw [if_pos s0] at q ⊢; exact q
      rw [if_neg s0] at q ⊢
      by_cases s1 : h 88 b = 1
      · rw [if_pos s1] at q ⊢; exact q
      rw [if_neg s1] at q ⊢
      exact q
  rw [zb_eq]
  by_cases c1 : h 88 b = -1
  · rw [if_pos (y1.trans c1), if_neg (by decide)]
    exact front h _ rfl rfl (fun _ => ⟨rfl, H⟩) (fun q => absurd c1 q) (fun q => absurd c1 q)
  · rw [if_neg (fun q => c1 (y1.symm.trans q)), if_pos rfl, zb_ib A1]
    refine sp_hasPlaces hb4 y3 (fun d => ?_) (fun d => ?_)
    · rw [Int32.toInt_one] at d
      have y3' := y3
      unfold zB at y3'
      obtain ⟨j, hj, ej, -⟩ := zB_nat (b := 39) (x := i) ⟨by omega, by omega⟩
      rw [zb_eq, if_neg (by decide), zb_ib A1]
      subst ej
      rw [nI_toInt (by omega)] at d
      unfold wp_X2_put
      rw [zb_ib B1, B3, zb_ib B1, zb_ib B2, zb_ib (zb_in (by omega) (by omega)), zb_ib B1, zb_ib B1, zb_ib B2, zb_ib (zb_in (by omega) (by omega)), zb_ib B1, zb_ib B2, zb_ib (zb_in (by omega) (by omega)), nI_clamp (by omega), pm_op_eq, pm_op_eq, zb_eq, zb_eq, y1]
      have fin : ∀ x, x = (if h 88 b = 0 then v.toInt8.toInt32 else if h 88 b = 1 then v.toInt16.toInt32 else v) → wp_X7_cell (nI b) (nI j) v (pm_u h (58 + 2 * b + 1) j x) (fun r' h2 => 1 = r' ∧ zRel h2) := by
        intro x hx
        refine front _ _ (by rw [zb_un (by omega)]) (by rw [zb_un (by omega)]) (fun q => absurd q c1) (fun _ q => absurd ⟨by rw [nI_toInt (by omega)]; omega, by rw [nI_toInt (by omega)]; omega⟩ q) (fun _ j' hj' ej' hl' => ⟨rfl, ?_⟩)
        have : j' = j := by
          have := congrArg Int32.toNatClampNeg ej'
          rw [nI_clamp (by omega), nI_clamp (by omega)] at this
          exact this.symm
        subst this
        rw [← hx]
        refine zRel_H H (fun o ho => by rw [zb_un (by omega), zb_un (by omega)]) (fun a ha => ?_)
        obtain ⟨w1, w2, w3, w4⟩ := H4 a ha
        simp only [zb_un (o := 90) (o' := 58 + 2 * a) (by omega), zb_un (o := 58 + 2 * b + 1) (o' := 58 + 2 * a) (by omega), zb_un (o := 90) (o' := 88) (by omega), zb_un (o := 58 + 2 * b + 1) (o' := 88) (by omega), zb_un (o := 90) (o' := 89) (by omega), zb_un (o := 58 + 2 * b + 1) (o' := 89) (by omega), zb_un (o := 90) (o' := 58 + 2 * a + 1) (by omega), zb_ur, zb_un (o := 58 + 2 * b + 1) (o' := 90) (by omega)]
        refine ⟨w1, w2, w3, fun q => ⟨(w4 q).1, fun m hm => ?_⟩⟩
        unfold upd
        rw [zb_u]
        by_cases ea : a = b
        · subst ea
          rw [if_pos rfl]
          by_cases em : m = j'
          · rw [if_pos em, if_pos (by omega)]
          · rw [if_neg em, if_neg (by omega)]; exact (w4 q).2 m hm
        · rw [if_neg (by omega), if_neg (by omega)]; exact (w4 q).2 m hm
      by_cases s0 : h 88 b = 0
      · rw [if_pos s0] at fin ⊢; exact fin _ rfl
      rw [if_neg s0] at fin ⊢
      by_cases s1 : h 88 b = 1
      · rw [if_pos s1] at fin ⊢; exact fin _ rfl
      rw [if_neg s1] at fin ⊢
      exact fin _ rfl
    · rw [Int32.toInt_one] at d
      rw [zb_eq, if_pos rfl]
      exact front h _ rfl rfl (fun q => absurd q c1) (fun _ _ => ⟨rfl, H⟩) (fun _ j hj ej hl => by
        exfalso
        apply d
        rw [ej, nI_toInt (by omega)]
        omega)
end
