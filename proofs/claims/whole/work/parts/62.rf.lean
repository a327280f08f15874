/-! MATHEMATICS, 62: copy, taken -/
section
variable {h : pm_H}
theorem sm_cpL1 {a i n : Nat} {l3 l4 : Int32} {K : pm_H → Prop} {Q : Int32 → pm_H → Prop} (ha : a < 4) (hi : i + n ≤ 40) : ∀ (m c : Nat) (h : pm_H), c + m = n → (∀ h', (∀ o, o ≠ 91 → h' o = h o) → (∀ k, h' 91 k = if c ≤ k ∧ k < n then h 90 (40 * a + i + k) else h 91 k) → K h') → wl_X7_copy_117 (nI a) (nI i) l3 l4 (nI n) K Q (m + 1) (nI c) h
  | 0, c, h, hc, hK => by
    unfold wl_X7_copy_117
    rw [zb_lt, if_neg (nI_nlt (by omega) (by omega))]
    exact hK h (fun _ _ => rfl) (fun k => by rw [if_neg (by omega)])
  | m + 1, c, h, hc, hK => by
    have e1 := zb_e40 ha (i := i) (by omega)
    unfold wl_X7_copy_117
    rw [pm_op_eq, pm_op_eq, pm_op_eq, pm_op_eq, e1, nI_add, nI_1]
    rw [zb_lt, if_pos (nI_lt (by omega) (by omega)), zb_ib (zb_in (by omega) (by omega)), zb_ib (zb_in (by omega) (by omega)), nI_clamp (by omega), nI_clamp (by omega)]
    refine sm_cpL1 ha hi m (c + 1) _ (by omega) (fun h' e2 e3 => hK h' (fun o ho => by rw [e2 o ho, zb_un ho]) (fun k => ?_))
    rw [e3, zb_ur, zb_un (by omega)]
    unfold upd
    by_cases c1 : k = c
    · subst c1
      rw [if_neg (by omega), if_pos rfl, if_pos (by omega)]
    · rw [if_neg c1]
      by_cases c2 : c ≤ k ∧ k < n
      · rw [if_pos c2, if_pos (by omega)]
      · rw [if_neg c2, if_neg (by omega)]
theorem sm_cpL2 {b j n : Nat} {K : pm_H → Prop} {Q : Int32 → pm_H → Prop} (hb : b < 4) (hj : j + n ≤ 40) : ∀ (m c : Nat) (h : pm_H), c + m = n → (∀ h', (∀ o, o ≠ 90 → h' o = h o) → (∀ k, h' 90 k = if 40 * b + j + c ≤ k ∧ k < 40 * b + j + n then h 91 (k - (40 * b + j)) else h 90 k) → K h') → wl_X7_copy_154 (nI b) (nI j) (nI n) K Q (m + 1) (nI c) h
  | 0, c, h, hc, hK => by
    unfold wl_X7_copy_154
    rw [zb_lt, if_neg (nI_nlt (by omega) (by omega))]
    exact hK h (fun _ _ => rfl) (fun k => by rw [if_neg (by omega)])
  | m + 1, c, h, hc, hK => by
    have e1 := zb_e40 hb (i := j) (by omega)
    unfold wl_X7_copy_154
    rw [pm_op_eq, pm_op_eq, pm_op_eq, pm_op_eq, e1, nI_add, nI_1]
    rw [zb_lt, if_pos (nI_lt (by omega) (by omega)), zb_ib (zb_in (by omega) (by omega)), zb_ib (zb_in (by omega) (by omega)), nI_clamp (by omega), nI_clamp (by omega)]
    refine sm_cpL2 hb hj m (c + 1) _ (by omega) (fun h' e2 e3 => hK h' (fun o ho => by rw [e2 o ho, zb_un ho]) (fun k => ?_))
    rw [e3, zb_ur, zb_un (by omega)]
    unfold upd
    by_cases c1 : k = 40 * b + j + c
    · subst c1
      rw [if_neg (by omega), if_pos rfl, if_pos (by omega)]
      congr 1
      omega
    · rw [if_neg c1]
      by_cases c2 : 40 * b + j + c ≤ k ∧ k < 40 * b + j + n
      · rw [if_pos c2, if_pos (by omega)]
      · rw [if_neg c2, if_neg (by omega)]
set_option maxHeartbeats 2000000 in
theorem pr_copy (H : zRel h) (a i b j n : Int32) : wp_X6_copy a i b j n h (fun r h1 => wp_X7_copy a i b j n h1 (fun r' h2 => r = r' ∧ zRel h2)) := by
  have H4 := H.2.2.2.1
  unfold wp_X6_copy
  refine sp_isSheet (fun c => ?_) (fun c => ?_)
  · rw [zb_eq, if_pos rfl]
    unfold wp_X7_copy
    refine sm_within (fun _ => ?_) (fun q => absurd c q)
    rw [zb_eq, if_pos rfl]; exact ⟨rfl, H⟩
  rw [zb_eq, if_neg (by decide)]
  refine sp_isSheet (fun d => ?_) (fun d => ?_)
  · rw [zb_eq, if_pos rfl]
    unfold wp_X7_copy
    refine sm_within (fun q => absurd q c) (fun _ => ?_)
    rw [zb_eq, if_neg (by decide)]
    refine sm_within (fun _ => ?_) (fun q => absurd d q)
    rw [zb_eq, if_pos rfl]; exact ⟨rfl, H⟩
  rw [zb_eq, if_neg (by decide)]
  obtain ⟨s, hs, rfl⟩ := zb_rng (m := 3) (by decide) (by omega) c
  obtain ⟨t, ht, rfl⟩ := zb_rng (m := 3) (by decide) (by omega) d
  have hs4 : s < 4 := by omega
  have ht4 : t < 4 := by omega
  obtain ⟨y1, y2, y3, y4⟩ := H4 s hs4
  obtain ⟨x1, x2, x3, x4⟩ := H4 t ht4
  obtain ⟨A1, A2, A3⟩ := zAt2 s hs4 6 (by omega)
  obtain ⟨B1, B2, B3⟩ := zAt2 t ht4 6 (by omega)
  have ins : pm_in (nI s) 4 = true := zb_in hs4 (by omega)
  have int : pm_in (nI t) 4 = true := zb_in ht4 (by omega)
  have y3' := y3
  have x3' := x3
  unfold zB at y3' x3'
  have front : ∀ (h1 : pm_H) (Q : Int32 → pm_H → Prop), h1 88 = h 88 → h1 89 = h 89 → (h 88 s = -1 → Q (-11) h1) → (¬ h 88 s = -1 → h 88 t = -1 → Q (-11) h1) → (¬ h 88 s = -1 → ¬ h 88 t = -1 → ¬ h 88 s = h 88 t → Q (-13) h1) → (¬ h 88 s = -1 → ¬ h 88 t = -1 → h 88 s = h 88 t → ¬ (0 ≤ i.toInt ∧ 0 ≤ j.toInt ∧ 0 ≤ n.toInt ∧ i.toInt + n.toInt ≤ (h (58 + 2 * s) 2).toInt ∧ j.toInt + n.toInt ≤ (h (58 + 2 * t) 2).toInt) → Q (-12) h1) → (¬ h 88 s = -1 → ¬ h 88 t = -1 → h 88 s = h 88 t → (0 ≤ i.toInt ∧ 0 ≤ j.toInt ∧ 0 ≤ n.toInt ∧ i.toInt + n.toInt ≤ (h (58 + 2 * s) 2).toInt ∧ j.toInt + n.toInt ≤ (h (58 + 2 * t) 2).toInt) → ∀ i' j' n' : Nat, i = nI i' → j = nI j' → n = nI n' → i' + n' ≤ 40 → j' + n' ≤ 40 → ∀ h2, (∀ o, o ≠ 90 → o ≠ 91 → h2 o = h1 o) → (∀ k, h2 90 k = if 40 * t + j' ≤ k ∧ k < 40 * t + j' + n' then h1 90 (40 * s + i' + (k - (40 * t + j'))) else h1 90 k) → Q n h2) → wp_X7_copy (nI s) i (nI t) j n h1 Q := by
    intro h1 Q e88 e89 q1 q2 q3 q4 q5
    unfold wp_X7_copy
    refine sm_within (fun q => absurd q c) (fun _ => ?_)
    rw [zb_eq, if_neg (by decide)]
    refine sm_within (fun q => absurd q d) (fun _ => ?_)
    rw [zb_eq, if_neg (by decide), zb_ib ins, nI_clamp (n := s) (by omega), nI_clamp (n := t) (by omega), e88, e89, zb_eq]
    by_cases c1 : h 88 s = -1
    · rw [if_pos c1]; exact q1 c1
    rw [if_neg c1, zb_ib int, zb_eq]
    by_cases c2 : h 88 t = -1
    · rw [if_pos c2]; exact q2 c1 c2
    rw [if_neg c2, zb_ib ins, zb_ib int, zb_eq]
    by_cases c3n : ¬ h 88 s = h 88 t
    · rw [if_neg c3n]; exact q3 c1 c2 c3n
    have c3 := Classical.not_not.mp c3n
    have q4 := q4 c1 c2 c3
    rw [if_pos c3, zb_lt]
    by_cases c4 : i < 0
    · rw [if_pos c4]
      rw [zb_tlt, Int32.toInt_zero] at c4
      exact q4 (by omega)
    rw [if_neg c4, zb_lt]
    rw [zb_tlt, Int32.toInt_zero] at c4
    by_cases c5 : j < 0
    · rw [if_pos c5]
      rw [zb_tlt, Int32.toInt_zero] at c5
      exact q4 (by omega)
    rw [if_neg c5, zb_lt]
    rw [zb_tlt, Int32.toInt_zero] at c5
    by_cases c6 : n < 0
    · rw [if_pos c6]
      rw [zb_tlt, Int32.toInt_zero] at c6
      exact q4 (by omega)
    rw [if_neg c6, zb_ib ins, zb_lt, (y4 c1).1, (x4 c2).1]
    rw [zb_tlt, Int32.toInt_zero] at c6
    simp only [pm_op_eq, pm_ol_eq, pm_lcmp]
    by_cases c7 : 0 < lg_cmp (i.toInt64 + n.toInt64) (h (58 + 2 * s) 2).toInt64
    · rw [if_pos c7]
      rw [zb_64] at c7
      exact q4 (by omega)
    rw [if_neg c7, zb_ib int, zb_lt]
    rw [zb_64] at c7
    by_cases c8 : 0 < lg_cmp (j.toInt64 + n.toInt64) (h (58 + 2 * t) 2).toInt64
    · rw [if_pos c8]
      rw [zb_64] at c8
      exact q4 (by omega)
    rw [if_neg c8]
    rw [zb_64] at c8
    have q5 := q5 c1 c2 c3 (by omega)
    obtain ⟨i', hi', ei, -⟩ := zB_nat (b := 40) (x := i) ⟨by omega, by omega⟩
    obtain ⟨j', hj', ej, -⟩ := zB_nat (b := 40) (x := j) ⟨by omega, by omega⟩
    obtain ⟨n', hn', en, -⟩ := zB_nat (b := 40) (x := n) ⟨by omega, by omega⟩
    rw [ei, en, nI_toInt (by omega), nI_toInt (by omega)] at c7
    rw [ej, en, nI_toInt (by omega), nI_toInt (by omega)] at c8
    have q6 := q5 i' j' n' ei ej en (by omega) (by omega)
    subst ei ej en
    refine ⟨n' + 1, ?_⟩
    have f := sm_cpL1 (a := s) (i := i') (n := n') (l3 := nI t) (l4 := nI j') (K := fun h773 => ∃ n775, wl_X7_copy_154 (nI t) (nI j') (nI n') (fun h774 => Q (nI n') h774) Q n775 (nI 0) h773) (Q := Q) hs4 (by omega) n' 0 h1 (by omega) (fun h2 a1 a2 => ⟨n' + 1, sm_cpL2 ht4 (by omega) n' 0 h2 (by omega) (fun h3 b1 b2 => q6 h3 (fun o o1 o2 => (b1 o o1).trans (a1 o o2)) (fun k => ?_))⟩)
    · rw [show (nI 0 : Int32) = 0 from zb_c0.symm] at f
      exact f
    · rw [b2]
      by_cases ck : 40 * t + j' ≤ k ∧ k < 40 * t + j' + n'
      · rw [if_pos (by omega), if_pos ck, a2, if_pos (by omega)]
      · rw [if_neg (by omega), if_neg ck, a1 90 (by omega)]
  rw [zb_ib ins, zb_ib int, nI_clamp (n := s) (by omega), nI_clamp (n := t) (by omega), zb_ib A1]
  refine sp_isMissing hs4 ?_
  rw [zb_eq]
  by_cases c1 : h 88 s = -1
  · rw [if_pos (y1.trans c1), if_neg (by decide)]
    exact front h _ rfl rfl (fun _ => ⟨rfl, H⟩) (fun q => absurd c1 q) (fun q => absurd c1 q) (fun q => absurd c1 q) (fun q => absurd c1 q)
  rw [if_neg (fun q => c1 (y1.symm.trans q)), if_pos rfl, zb_ib B1]
  refine sp_isMissing ht4 ?_
  rw [zb_eq]
  by_cases c2 : h 88 t = -1
  · rw [if_pos (x1.trans c2), if_neg (by decide)]
    exact front h _ rfl rfl (fun q => absurd q c1) (fun _ _ => ⟨rfl, H⟩) (fun _ q => absurd c2 q) (fun _ q => absurd c2 q) (fun _ q => absurd c2 q)
  rw [if_neg (fun q => c2 (x1.symm.trans q)), if_pos rfl, zb_ib A1, zb_ib B1, zb_eq]
  by_cases c3n : ¬ h 88 s = h 88 t
  · rw [if_neg (fun q => c3n (y1.symm.trans (q.trans x1)))]
    exact front h _ rfl rfl (fun q => absurd q c1) (fun _ q => absurd q c2) (fun _ _ _ => ⟨rfl, H⟩) (fun _ _ q => absurd q c3n) (fun _ _ q => absurd q c3n)
  have c3 := Classical.not_not.mp c3n
  rw [if_pos (y1.trans (c3.trans x1.symm)), zb_ib A1]
  refine sp_hasPlaces hs4 y3 (fun p => ?_) (fun p => ?_)
  · rw [zb_eq, if_neg (by decide), zb_ib B1]
    refine sp_hasPlaces ht4 x3 (fun p2 => ?_) (fun p2 => ?_)
    · rw [zb_eq, if_neg (by decide), zb_ib A1, zb_ib B1, zb_ib A2, zb_ib B2, A3, B3]
      obtain ⟨i', hi', ei, -⟩ := zB_nat (b := 40) (x := i) ⟨by omega, by omega⟩
      obtain ⟨j', hj', ej, -⟩ := zB_nat (b := 40) (x := j) ⟨by omega, by omega⟩
      obtain ⟨n', hn', en, -⟩ := zB_nat (b := 40) (x := n) ⟨by omega, by omega⟩
      subst ei ej en
      rw [nI_toInt (by omega), nI_toInt (by omega)] at p p2
      have ck : pm_ck (nI i') (nI j') (nI n') 40 40 = true := by
        unfold pm_ck
        rw [decide_eq_false (nI_pos (by omega)), decide_eq_false (nI_pos (by omega)), decide_eq_false (nI_pos (by omega)), nI_clamp (by omega), nI_clamp (by omega), nI_clamp (by omega)]
        rw [Bool.and_eq_true, Bool.and_eq_true]
        exact ⟨⟨rfl, Nat.ble_eq.mpr (by omega)⟩, Nat.ble_eq.mpr (by omega)⟩
      rw [zb_ib ck, nI_clamp (by omega), nI_clamp (by omega), nI_clamp (by omega)]
      refine front _ _ (by rw [zcp_ne (by omega)]) (by rw [zcp_ne (by omega)]) (fun q => absurd q c1) (fun _ q => absurd q c2) (fun _ _ q => absurd c3 q) (fun _ _ _ q => absurd ⟨by rw [nI_toInt (by omega)]; omega, by rw [nI_toInt (by omega)]; omega, by rw [nI_toInt (by omega)]; omega, by rw [nI_toInt (by omega), nI_toInt (by omega)]; omega, by rw [nI_toInt (by omega), nI_toInt (by omega)]; omega⟩ q) (fun _ _ _ _ i2 j2 n2 ei ej en hi2 hj2 h2 o1 o2 => ⟨rfl, ?_⟩)
      have ei := (nI_eq (by omega) (by omega)).mp ei
      have ej := (nI_eq (by omega) (by omega)).mp ej
      have en := (nI_eq (by omega) (by omega)).mp en
      subst ei ej en
      refine zRel_H H (fun o ho => by rw [o1 o (by omega) (by omega), zcp_ne (by omega)]) (fun a ha => ?_)
      obtain ⟨w1, w2, w3, w4⟩ := H4 a ha
      rw [o1 (58 + 2 * a) (by omega) (by omega), zcp_ne (by omega), o1 88 (by omega) (by omega), zcp_ne (by omega), o1 89 (by omega) (by omega), zcp_ne (by omega)]
      refine ⟨w1, w2, w3, fun q => ⟨(w4 q).1, fun m hm => ?_⟩⟩
      rw [o1 (58 + 2 * a + 1) (by omega) (by omega), o2]
      unfold pm_cp va_cpy
      by_cases ea : a = t
      · subst ea
        rw [if_pos rfl]
        by_cases em : j' ≤ m ∧ m < j' + n'
        · rw [if_pos em, if_pos (by omega), if_neg (by omega), (y4 c1).2 _ (by omega)]
          congr 1
          omega
        · rw [if_neg em, if_neg (by omega), if_neg (by omega)]
          exact (w4 q).2 m hm
      · rw [if_neg (by omega), if_neg (by omega), if_neg (by omega)]
        exact (w4 q).2 m hm
    · rw [zb_eq, if_pos rfl]
      exact front h _ rfl rfl (fun q => absurd q c1) (fun _ q => absurd q c2) (fun _ _ q => absurd c3 q) (fun _ _ _ _ => ⟨rfl, H⟩) (fun _ _ _ P => absurd ⟨P.2.1, P.2.2.1, P.2.2.2.2⟩ p2)
  · rw [zb_eq, if_pos rfl]
    exact front h _ rfl rfl (fun q => absurd q c1) (fun _ q => absurd q c2) (fun _ _ q => absurd c3 q) (fun _ _ _ _ => ⟨rfl, H⟩) (fun _ _ _ P => absurd ⟨P.1, P.2.2.1, P.2.2.2.1⟩ p)
/-- whether kind i is j or under it -/
def uB : Nat → Nat → Nat → Bool
  | 0, _, _ => false
  | f + 1, i, j => if i = j then true else (if i = 0 then false else uB f (if i = 4 then 2 else if 2 < i then 1 else 0) j)
theorem sp_undL {j : Nat} (hj : j < 6) {K24 K38 : pm_H → Prop} {Q : Int32 → pm_H → Prop} : ∀ (f i t : Nat), i < 6 → t + f = 6 → (uB f i j = true → K24 h) → (uB f i j = false → K38 h) → wl_X6_isUnder_4 (nI j) K24 K38 Q (f + 2) (nI i) (nI t) h
  | 0, i, t, hi, ht, h1, h0 => by
    unfold wl_X6_isUnder_4
    rw [zb_lt, show (6 : Int32) = nI 6 by decide, if_neg (nI_nlt (by omega) (by omega))]
    exact h0 rfl
  | f + 1, i, t, hi, ht, h1, h0 => by
    unfold uB at h1 h0
    unfold wl_X6_isUnder_4
    rw [zb_lt, show (6 : Int32) = nI 6 by decide, if_pos (nI_lt (by omega) (by omega))]
    refine sp_isKind (fun q => ?_) (fun _ => ?_)
    · rw [zb_c0, show (5 : Int32) = nI 5 by decide] at q
      exact absurd q (by rintro (z | z); exact nI_nlt (by omega) (by omega) z; exact nI_nlt (by omega) (by omega) z)
    rw [zb_eq, if_neg (by decide), zb_eq]
    by_cases c : i = j
    · rw [if_pos (by rw [c])]
      rw [if_pos c] at h1
      exact h1 rfl
    · rw [if_neg (fun q => c ((nI_eq (by omega) (by omega)).mp q)), zb_ib (zb_in hi (by omega)), nI_clamp (by omega), pm_op_eq, nI_1]
      rw [if_neg c] at h1 h0
      rcases (show i = 0 ∨ i = 1 ∨ i = 2 ∨ i = 3 ∨ i = 4 ∨ i = 5 by omega) with rfl | rfl | rfl | rfl | rfl | rfl
      · show wl_X6_isUnder_4 (nI j) K24 K38 Q (f + 2) (-1) (nI (t + 1)) h
        have h0 := h0 rfl
        unfold wl_X6_isUnder_4
        rw [zb_lt]
        by_cases c6 : nI (t + 1) < 6
        · rw [if_pos c6]
          refine sp_isKind (fun _ => ?_) (fun q => absurd (Or.inl (by decide)) q)
          rw [zb_eq, if_pos rfl]; exact h0
        · rw [if_neg c6]; exact h0
      · exact sp_undL hj f 0 (t + 1) (by omega) (by omega) h1 h0
      · exact sp_undL hj f 0 (t + 1) (by omega) (by omega) h1 h0
      · exact sp_undL hj f 1 (t + 1) (by omega) (by omega) h1 h0
      · exact sp_undL hj f 2 (t + 1) (by omega) (by omega) h1 h0
      · exact sp_undL hj f 1 (t + 1) (by omega) (by omega) h1 h0
theorem sm_undL {s : Int32} {j : Nat} (hj : j < 6) {K : Int32 → pm_H → Prop} {Q : Int32 → pm_H → Prop} : ∀ (f i : Nat), i < 6 → (if i = 0 then 0 else if i < 3 then 1 else 2) < f → (uB f i j = true → K (nI j) h) → (uB f i j = false → ∀ x, x ≠ nI j → K x h) → wl_X7_taken_32 s (nI j) K Q f (nI i) h
  | 0, i, hi, hf, h1, h0 => absurd hf (by omega)
  | f + 1, i, hi, hf, h1, h0 => by
    unfold uB at h1 h0
    unfold wl_X7_taken_32
    rw [zb_eq]
    by_cases c : i = j
    · rw [if_pos (by rw [c])]
      rw [if_pos c] at h1
      rw [c]
      exact h1 rfl
    · have cn : ¬ nI i = nI j := fun q => c ((nI_eq (by omega) (by omega)).mp q)
      rw [if_neg cn, zb_lt]
      rw [if_neg c] at h1 h0
      rcases (show i = 0 ∨ i = 1 ∨ i = 2 ∨ i = 3 ∨ i = 4 ∨ i = 5 by omega) with rfl | rfl | rfl | rfl | rfl | rfl
      · rw [if_neg (by decide)]; exact h0 rfl _ cn
      · rw [if_pos (by decide), zb_eq, if_neg (by decide), zb_lt, if_neg (by decide)]
        exact sm_undL hj f 0 (by omega) (by simp at hf ⊢; omega) h1 h0
      · rw [if_pos (by decide), zb_eq, if_neg (by decide), zb_lt, if_neg (by decide)]
        exact sm_undL hj f 0 (by omega) (by simp at hf ⊢; omega) h1 h0
      · rw [if_pos (by decide), zb_eq, if_neg (by decide), zb_lt, if_pos (by decide)]
        exact sm_undL hj f 1 (by omega) (by simp at hf ⊢; omega) h1 h0
      · rw [if_pos (by decide), zb_eq, if_pos (by decide)]
        exact sm_undL hj f 2 (by omega) (by simp at hf ⊢; omega) h1 h0
      · rw [if_pos (by decide), zb_eq, if_neg (by decide), zb_lt, if_pos (by decide)]
        exact sm_undL hj f 1 (by omega) (by simp at hf ⊢; omega) h1 h0
theorem pr_taken (H : zRel h) (s kk : Int32) : wp_X6_taken s kk h (fun r h1 => wp_X7_taken s kk h1 (fun r' h2 => r = r' ∧ zRel h2)) := by
  obtain ⟨cnt, z1, z2, z3, z4, z5, z6, z7, z8, z9, z10⟩ := zrS_at H.1
  unfold wp_X6_taken
  refine sp_isKind (fun c => ?_) (fun c => ?_)
  · rw [zb_eq, if_pos rfl]
    unfold wp_X7_taken
    refine sm_within (fun _ => ?_) (fun q => absurd c q)
    rw [zb_eq, if_pos rfl]; exact ⟨rfl, H⟩
  rw [zb_eq, if_neg (by decide)]
  refine sp_isStep (fun d => ?_) (fun d => ?_)
  · rw [zb_eq, if_pos rfl]
    unfold wp_X7_taken
    refine sm_within (fun q => absurd q c) (fun _ => ?_)
    rw [zb_eq, if_neg (by decide)]
    refine sm_within (fun _ => ?_) (fun q => absurd d q)
    rw [zb_eq, if_pos rfl]; exact ⟨rfl, H⟩
  rw [zb_eq, if_neg (by decide)]
  obtain ⟨t, ht, rfl⟩ := zb_rng (m := 9) (by decide) (by omega) d
  obtain ⟨j, hj, rfl⟩ := zb_rng (m := 5) (by decide) (by omega) c
  obtain ⟨y1, y2, y3, y4, y5, y6, y7⟩ := z6 t (by omega)
  obtain ⟨i, hi, ei, -⟩ := zB_nat (b := 5) y4
  have int : pm_in (nI t) 10 = true := zb_in (by omega) (by omega)
  have front : ∀ (Q : Int32 → pm_H → Prop), (uB 7 i j = true → Q (h 68 t) h) → (uB 7 i j = false → Q (-13) h) → wp_X7_taken (nI t) (nI j) h Q := by
    intro Q q1 q0
    unfold wp_X7_taken
    refine sm_within (fun q => absurd q c) (fun _ => ?_)
    rw [zb_eq, if_neg (by decide)]
    refine sm_within (fun q => absurd q d) (fun _ => ?_)
    rw [zb_eq, if_neg (by decide), zb_ib int, nI_clamp (n := t) (by omega), y1, ei]
    refine ⟨7, ?_⟩
    refine sm_undL (by omega) 7 i (by omega) (by repeat' split
                                                 all_goals omega) (fun q => ?_) (fun q x hx => ?_)
    · rw [zb_eq, if_pos rfl, zb_ib int]; exact q1 q
    · rw [zb_eq, if_neg hx]; exact q0 q
  have u67 : uB 7 i j = uB 6 i j := by
    have : ∀ i, i < 6 → ∀ j, j < 6 → uB 7 i j = uB 6 i j := by decide
    exact this i (by omega) j (by omega)
  rw [zb_ib int, nI_clamp (n := t) (by omega), ei]
  unfold wp_X6_isUnder
  refine ⟨8, ?_⟩
  have f := sp_undL (h := h) (j := j) (K24 := fun h351 => pm_eq 1 0 (wp_X7_taken (nI t) (nI j) h351 (fun r' h2 => -13 = r' ∧ zRel h2)) (pm_ib (pm_in (nI t) 10) (wp_X7_taken (nI t) (nI j) h351 (fun r' h2 => h351 3 t = r' ∧ zRel h2)))) (K38 := fun h352 => pm_eq 0 0 (wp_X7_taken (nI t) (nI j) h352 (fun r' h2 => -13 = r' ∧ zRel h2)) (pm_ib (pm_in (nI t) 10) (wp_X7_taken (nI t) (nI j) h352 (fun r' h2 => h352 3 t = r' ∧ zRel h2)))) (Q := fun r348 h347 => pm_eq r348 0 (wp_X7_taken (nI t) (nI j) h347 (fun r' h2 => -13 = r' ∧ zRel h2)) (pm_ib (pm_in (nI t) 10) (wp_X7_taken (nI t) (nI j) h347 (fun r' h2 => h347 3 t = r' ∧ zRel h2)))) (by omega) 6 i 0 (by omega) (by omega) (fun q => ?_) (fun q => ?_)
  · rw [show (nI 0 : Int32) = 0 from zb_c0.symm] at f
    exact f
  · rw [zb_eq, if_neg (by decide), zb_ib int]
    exact front _ (fun _ => ⟨y2.symm, H⟩) (fun q2 => by rw [u67, q] at q2; cases q2)
  · rw [zb_eq, if_pos rfl]
    exact front _ (fun q2 => by rw [u67, q] at q2; cases q2) (fun _ => ⟨rfl, H⟩)
end
