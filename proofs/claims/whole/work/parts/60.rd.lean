/-! MATHEMATICS, 60: set, force, feed, count, taken -/
section
variable {h : pm_H}
set_option maxHeartbeats 1000000 in
theorem zRel_row {r j cnt : Nat} {v : Int32} (H : zRel h) (hr : r = 3 ∨ r = 4 ∨ r = 5) (hc5 : cnt ≤ 5) (hc : h 1 8 = nI cnt) (hj : j < cnt) (h3 : r = 3 → zB 0 9 v) (h4 : r = 4 → zB 0 999 v) (h5 : r = 5 → zB 1 9 v) : zRel (pm_u (pm_u h (ncc r) j v) (mcc r) j v) := by
  obtain ⟨H1, H2, H3, H4, H5⟩ := H
  obtain ⟨cn, a1, a2, a3, a4, a5, a6, a7⟩ := H1
  have en : (h 1 8).toNatClampNeg = cnt := by rw [hc]; exact nI_clamp (by omega)
  have em : (h 66 3).toNatClampNeg = cnt := by rw [a3, ← a2]; exact en
  have zr : zrg cnt r j = true := by rcases hr with rfl | rfl | rfl <;> simp [zrg, hj]
  have cN : 6 ≤ ncc r ∧ ncc r ≤ 8 := by rcases hr with rfl | rfl | rfl <;> decide
  have cM : 71 ≤ mcc r ∧ mcc r ≤ 73 := by rcases hr with rfl | rfl | rfl <;> decide
  have es : mcs r j = j := mcs_o (by omega) (by omega)
  have evN : vN (pm_u (pm_u h (ncc r) j v) (mcc r) j v) = pm_u (vN h) r j v := by
    rw [vN_uo (by omega)]
    exact vN_u (by rw [en]; exact zr) (by omega)
  have evM : vM (pm_u (pm_u h (ncc r) j v) (mcc r) j v) = pm_u (vM h) r j v := by
    have q := vM_u (h := pm_u h (ncc r) j v) (r := r) (j := j) (x := v) (by rw [zb_un (by omega), em]; exact zr) (Or.inl (by omega))
    rw [es] at q
    rw [q, vM_uo (by omega)]
  have V : zV (pm_u (vN h) r j v) := by
    obtain ⟨v1, v2, v3, v4⟩ := a4
    unfold zV
    simp only [zb_un (o := r) (o' := 7) (by omega), zb_un (o := r) (o' := 0) (by omega), zb_un (o := r) (o' := 1) (by omega), zb_un (o := r) (o' := 2) (by omega), zb_un (o := r) (o' := 6) (by omega)]
    refine ⟨v1, v2, v3, fun c hcc => ?_⟩
    obtain ⟨w1, w2, w3, w4⟩ := v4 c hcc
    refine ⟨?_, ?_, ?_, w4⟩
    · rw [zb_u]
      repeat' split
      · exact h3 (by omega)
      · rename_i q _; rw [← q]; exact w1
      · exact w1
    · rw [zb_u]
      repeat' split
      · exact h4 (by omega)
      · rename_i q _; rw [← q]; exact w2
      · exact w2
    · rw [zb_u]
      repeat' split
      · exact h5 (by omega)
      · rename_i q _; rw [← q]; exact w3
      · exact w3
  have f : ∀ o, o ≠ ncc r → o ≠ mcc r → (pm_u (pm_u h (ncc r) j v) (mcc r) j v) o = h o := fun o q1 q2 => by rw [zb_un q2, zb_un q1]
  generalize pm_u (pm_u h (ncc r) j v) (mcc r) j v = h' at evN evM f ⊢
  refine ⟨⟨cn, a1, by rw [f 1 (by omega) (by omega)]; exact a2, by rw [f 66 (by omega) (by omega)]; exact a3, by rw [evN]; exact V, by rw [evN, evM]; exact zE_u a5, fun s hs => by rw [f 3 (by omega) (by omega)]; exact a6 s hs, fun c hc => by rw [f 5 (by omega) (by omega), f 70 (by omega) (by omega)]; exact a7 c hc⟩, zrT_f H2 (by rw [f 0 (by omega) (by omega)]) (by rw [f 66 (by omega) (by omega)]) (by rw [f 1 (by omega) (by omega)]) (by rw [f 66 (by omega) (by omega)]) (by rw [f 66 (by omega) (by omega)]) (fun o _ _ => f o (by omega) (by omega)) (f 76 (by omega) (by omega)) (f 77 (by omega) (by omega)), zrP_f H3 (by rw [f 34 (by omega) (by omega)]) (by rw [f 66 (by omega) (by omega)]) (f 35 (by omega) (by omega)) (f 75 (by omega) (by omega)), zrH_f H4 (fun o _ _ => f o (by omega) (by omega)) (fun o _ => f o (by omega) (by omega)), zrI_f H5 (by rw [f 0 (by omega) (by omega)]) (fun j _ _ => by rw [f 66 (by omega) (by omega)]) (fun o _ _ => f o (by omega) (by omega)) (f 86 (by omega) (by omega)) (f 87 (by omega) (by omega)) (by rw [f 1 (by omega) (by omega)]; exact Int.le_refl _) (fun c _ => by rw [f 70 (by omega) (by omega)]) (by rw [f 0 (by omega) (by omega)]; exact Int.le_refl _)⟩
set_option maxHeartbeats 1000000 in
theorem pr_set (H : zRel h) (w a v : Int32) : wp_X6_set w a v h (fun r h1 => wp_X7_set w a v h1 (fun r' h2 => r = r' ∧ zRel h2)) := by
  obtain ⟨cnt, z1, z2, z3, z4, z5, z6, z7, z8, z9, z10⟩ := zrS_at H.1
  unfold wp_X6_set
  -- the reference where w or the class is none
  have bad0 : (w < 0 ∨ 2 < w) ∨ (a < 0 ∨ ¬ a < nI cnt) → wp_X7_set w a v h (fun r' h2 => -2 = r' ∧ zRel h2) := by
    intro q
    unfold wp_X7_set
    refine sm_within (fun n => ?_) (fun n => ?_)
    · rw [zb_eq, if_pos rfl]; exact ⟨rfl, H⟩
    rw [zb_eq, if_neg (by decide)]
    rcases q with q | q
    · exact absurd q n
    refine sm_isClass z1 z3 (fun _ => ?_) (fun d => absurd q d)
    rw [zb_eq, if_pos rfl]; exact ⟨rfl, H⟩
  refine sp_isClass (fun d => ?_) (fun d => ?_)
  · rw [zb_eq, if_pos rfl]
    exact bad0 (Or.inr (by rw [← z2]; exact d))
  rw [zb_eq, if_neg (by decide)]
  rw [z2] at d
  obtain ⟨j, hj, rfl⟩ := zb_cls z1 d
  obtain ⟨y1, y2, y3, y4, y5⟩ := z7 j hj
  have nlt : ¬ nI j < 0 := nI_pos (by omega)
  have lt5 : nI j < nI 5 := nI_lt (by omega) (by omega)
  have inj : pm_in (nI j) 5 = true := zb_in (by omega) (by omega)
  have r0 : w = 0 → ¬ (w < 0 ∨ 2 < w) := by rintro rfl; decide
  have r1 : w = 1 → ¬ (w < 0 ∨ 2 < w) := by rintro rfl; decide
  have r2 : w = 2 → ¬ (w < 0 ∨ 2 < w) := by rintro rfl; decide
  rw [zb_eq]
  by_cases w0 : w = 0
  · rw [if_pos w0]
    refine sp_between (fun e => ?_) (fun e => ?_)
    · unfold wp_X6_exchange_r7
      rw [zb_eq, if_pos rfl]
      unfold wp_X7_set
      refine sm_within (fun n => absurd n (r0 w0)) (fun _ => ?_)
      rw [zb_eq, if_neg (by decide)]
      refine sm_isClass z1 z3 (fun q => absurd q d) (fun _ => ?_)
      rw [zb_eq, if_neg (by decide), zb_eq, if_pos w0]
      refine sm_within (fun _ => ?_) (fun n => absurd e n)
      rw [zb_eq, if_pos rfl]; exact ⟨rfl, H⟩
    · unfold wp_X6_exchange_r7
      rw [zb_eq, if_neg (by decide), zb_lt, if_neg nlt, zb_lt, if_pos lt5, zb_ib inj, zb_ib inj, nI_clamp (by omega)]
      unfold wp_X7_set
      refine sm_within (fun n => absurd n (r0 w0)) (fun _ => ?_)
      rw [zb_eq, if_neg (by decide)]
      refine sm_isClass z1 (by rw [zb_un (by omega)]; exact z3) (fun q => absurd q d) (fun _ => ?_)
      rw [zb_eq, if_neg (by decide), zb_eq, if_pos w0]
      refine sm_within (fun n => absurd n e) (fun _ => ?_)
      rw [zb_eq, if_neg (by decide), zb_ib inj, zb_ib inj, nI_clamp (by omega)]
      refine ⟨by rw [zb_un (by omega)]; exact y2.symm, ?_⟩
      obtain ⟨i, hi, rfl⟩ := zb_rng (m := 199) (by decide) (by omega) e
      exact zRel_row (r := 4) H (by omega) z1 z2 hj (fun q => absurd q (by omega)) (fun _ => zB_of (by omega) (by omega)) (fun q => absurd q (by omega))
  rw [if_neg w0, zb_eq]
  by_cases w1 : w = 1
  · rw [if_pos w1]
    refine sp_between (fun e => ?_) (fun e => ?_)
    · unfold wp_X6_exchange_r8
      rw [zb_eq, if_pos rfl]
      unfold wp_X7_set
      refine sm_within (fun n => absurd n (r1 w1)) (fun _ => ?_)
      rw [zb_eq, if_neg (by decide)]
      refine sm_isClass z1 z3 (fun q => absurd q d) (fun _ => ?_)
      rw [zb_eq, if_neg (by decide), zb_eq, if_neg w0, zb_eq, if_pos w1]
      refine sm_within (fun _ => ?_) (fun n => absurd e n)
      rw [zb_eq, if_pos rfl]; exact ⟨rfl, H⟩
    · unfold wp_X6_exchange_r8
      rw [zb_eq, if_neg (by decide), zb_lt, if_neg nlt, zb_lt, if_pos lt5, zb_ib inj, zb_ib inj, nI_clamp (by omega)]
      unfold wp_X7_set
      refine sm_within (fun n => absurd n (r1 w1)) (fun _ => ?_)
      rw [zb_eq, if_neg (by decide)]
      refine sm_isClass z1 (by rw [zb_un (by omega)]; exact z3) (fun q => absurd q d) (fun _ => ?_)
      rw [zb_eq, if_neg (by decide), zb_eq, if_neg w0, zb_eq, if_pos w1]
      refine sm_within (fun n => absurd n e) (fun _ => ?_)
      rw [zb_eq, if_neg (by decide), zb_ib inj, zb_ib inj, nI_clamp (by omega)]
      refine ⟨by rw [zb_un (by omega)]; exact y3.symm, ?_⟩
      have hw : zB 1 9 v := by
        have e1 : ¬ v < 1 := fun q => e (Or.inl q)
        have e2 : ¬ 9 < v := fun q => e (Or.inr q)
        rw [zb_tlt, Int32.toInt_one] at e1
        rw [zb_tlt, show (9 : Int32).toInt = 9 by decide] at e2
        exact ⟨by omega, by omega⟩
      exact zRel_row (r := 5) H (by omega) z1 z2 hj (fun q => absurd q (by omega)) (fun q => absurd q (by omega)) (fun _ => hw)
  rw [if_neg w1, zb_eq]
  by_cases w2 : w = 2
  · rw [if_pos w2]
    refine sp_isStep (fun e => ?_) (fun e => ?_)
    · unfold wp_X6_exchange_r6
      rw [zb_eq, if_pos rfl]
      unfold wp_X7_set
      refine sm_within (fun n => absurd n (r2 w2)) (fun _ => ?_)
      rw [zb_eq, if_neg (by decide)]
      refine sm_isClass z1 z3 (fun q => absurd q d) (fun _ => ?_)
      rw [zb_eq, if_neg (by decide), zb_eq, if_neg w0, zb_eq, if_neg w1]
      refine sm_within (fun _ => ?_) (fun n => absurd e n)
      rw [zb_eq, if_pos rfl]; exact ⟨rfl, H⟩
    · unfold wp_X6_exchange_r6
      rw [zb_eq, if_neg (by decide), zb_lt, if_neg nlt, zb_lt, if_pos lt5, zb_ib inj, zb_ib inj, nI_clamp (by omega)]
      unfold wp_X7_set
      refine sm_within (fun n => absurd n (r2 w2)) (fun _ => ?_)
      rw [zb_eq, if_neg (by decide)]
      refine sm_isClass z1 (by rw [zb_un (by omega)]; exact z3) (fun q => absurd q d) (fun _ => ?_)
      rw [zb_eq, if_neg (by decide), zb_eq, if_neg w0, zb_eq, if_neg w1]
      refine sm_within (fun n => absurd n e) (fun _ => ?_)
      rw [zb_eq, if_neg (by decide), zb_ib inj, zb_ib inj, nI_clamp (by omega)]
      refine ⟨by rw [zb_un (by omega)]; exact y1.symm, ?_⟩
      obtain ⟨i, hi, rfl⟩ := zb_rng (m := 9) (by decide) (by omega) e
      exact zRel_row (r := 3) H (by omega) z1 z2 hj (fun _ => zB_of (by omega) (by omega)) (fun q => absurd q (by omega)) (fun q => absurd q (by omega))
  rw [if_neg w2]
  refine bad0 (Or.inl ?_)
  simp only [zb_teq, zb_tlt, Int32.toInt_zero, Int32.toInt_one, show (2 : Int32).toInt = 2 by decide] at w0 w1 w2 ⊢
  omega
theorem pr_force (H : zRel h) (a : Int32) : wp_X6_force a h (fun r h1 => wp_X7_force a h1 (fun r' h2 => r = r' ∧ zRel h2)) := by
  obtain ⟨H1, ⟨tc, k, Rs, b1, b2, b3, b4, b5, b6, b7, b8, b9⟩, H3, H4, H5⟩ := id H
  have key : nI tc - 1 < a ↔ ¬ a < nI tc := by
    rw [zb_tlt, zb_tlt, nI_toInt (by omega), zb_tsub (by rw [nI_toInt (by omega), Int32.toInt_one]; omega) (by rw [nI_toInt (by omega), Int32.toInt_one]; omega), nI_toInt (by omega), Int32.toInt_one]
    omega
  have bad : (a < 0 ∨ ¬ a < nI tc) → wp_X7_force a h (fun r' h2 => -2 = r' ∧ zRel h2) := by
    intro q
    unfold wp_X7_force
    rw [b5, pm_op_eq]
    refine sm_within (fun _ => ?_) (fun n => absurd (q.imp id key.mpr) n)
    rw [zb_eq, if_pos rfl]; exact ⟨rfl, H⟩
  unfold wp_X6_force
  rw [zb_lt, zb_lt, b4]
  by_cases c1 : a < 0
  · rw [if_pos c1]; exact bad (Or.inl c1)
  rw [if_neg c1]
  by_cases c2 : a < nI tc
  · rw [if_pos c2]
    have hb : ¬ (a < 0 ∨ ¬ a < nI tc) := fun q => q.elim c1 (fun z => z c2)
    unfold wp_X7_force
    dsimp only
    rw [zb_un (o := 1) (o' := 66) (by omega), b5, pm_op_eq]
    refine sm_within (fun q => absurd (q.imp id key.mp) hb) (fun _ => ?_)
    rw [zb_eq, if_neg (by decide), zb_un (o := 1) (o' := 66) (by omega)]
    refine ⟨by rw [b6, b7], ?_⟩
    have cN : ¬ a < 0 := c1
    rw [zb_tlt, Int32.toInt_zero] at c1
    rw [zb_tlt, nI_toInt (by omega)] at c2
    obtain ⟨j, hj, ej, -⟩ := zB_nat (b := 6) (x := a) ⟨by omega, by omega⟩
    rw [ej, nI_toInt (by omega)] at c2
    have f : ∀ o, o ≠ 1 → o ≠ 66 → (pm_u (pm_u h 1 11 a) 66 14 a) o = h o := fun o q1 q2 => by rw [zb_un q2, zb_un q1]
    have f1 : ∀ i, i ≠ 11 → (pm_u (pm_u h 1 11 a) 66 14 a) 1 i = h 1 i := fun i hi => by rw [zb_un (by omega), zb_uj hi]
    have f66 : ∀ i, i ≠ 14 → (pm_u (pm_u h 1 11 a) 66 14 a) 66 i = h 66 i := fun i hi => by rw [zb_uj hi, zb_un (by omega)]
    refine ⟨zrS_f H1 (fun o _ _ => f o (by omega) (by omega)) f1 ?_ (f66 3 (by omega)) (fun c _ => by rw [f 70 (by omega) (by omega)]), ⟨tc, j, Rs, b1, b2, by omega, by rw [f 0 (by omega) (by omega)]; exact b4, by rw [f66 13 (by omega)]; exact b5, by rw [zb_un (by omega), zb_us, ej], by rw [zb_us, ej], by rw [f66 30 (by omega)]; exact b8, fun i hi => ⟨zTx_of (f _ (by omega) (by omega)) (f _ (by omega) (by omega)) (b9 i hi).1, zTm_of (f _ (by omega) (by omega)) (f _ (by omega) (by omega)) (b9 i hi).2.1, (b9 i hi).2.2⟩⟩, zrP_f H3 (by rw [f 34 (by omega) (by omega)]) (f66 11 (by omega)) (f 35 (by omega) (by omega)) (f 75 (by omega) (by omega)), zrH_f H4 (fun o _ _ => f o (by omega) (by omega)) (fun o _ => f o (by omega) (by omega)), zrI_f H5 (by rw [f 0 (by omega) (by omega)]) (fun j _ _ => f66 j (by omega)) (fun o _ _ => f o (by omega) (by omega)) (f 86 (by omega) (by omega)) (f 87 (by omega) (by omega)) (by rw [f1 8 (by omega)]; exact Int.le_refl _) (fun c _ => by rw [f 70 (by omega) (by omega)]) (by rw [f 0 (by omega) (by omega)]; exact Int.le_refl _)⟩
    rw [vM_u66 (by omega), vM_uo (by omega)]
    exact fun _ _ => rfl
  · rw [if_neg c2]; exact bad (Or.inr c2)
theorem pr_feed (H : zRel h) (a : Int32) : wp_X6_feed a h (fun r h1 => wp_X7_feed a h1 (fun r' h2 => r = r' ∧ zRel h2)) := by
  obtain ⟨H1, H2, ⟨n, a1, a2, a3, a4⟩, H4, H5⟩ := id H
  unfold wp_X6_feed
  refine sp_between (fun c => ?_) (fun c => ?_)
  · rw [zb_eq, if_pos rfl]
    unfold wp_X7_feed
    refine sm_within (fun _ => ?_) (fun q => absurd c q)
    rw [zb_eq, if_pos rfl]; exact ⟨rfl, H⟩
  rw [zb_eq, if_neg (by decide)]
  unfold wp_X0_put
  rw [zb_lt, a2, show (160 : Int32) = nI 160 by decide]
  by_cases hn : n < 160
  · rw [if_pos (nI_lt hn (by omega)), zb_ib (zb_in hn (by omega))]
    dsimp only
    rw [zb_eq, if_neg (by decide), nI_clamp (by omega), pm_op_eq, nI_1, zb_us]
    unfold wp_X7_feed
    refine sm_within (fun q => absurd q c) (fun _ => ?_)
    rw [zb_eq, if_neg (by decide), zb_eq]
    rw [zb_un (o := 34) (o' := 66) (by omega), zb_un (o := 35) (o' := 66) (by omega), a3]
    rw [show (160 : Int32) = nI 160 by decide, if_neg (fun q => by have := (nI_eq (by omega) (by omega)).mp q; omega), zb_ib (zb_in hn (by omega)), nI_clamp (by omega), pm_op_eq, nI_1]
    refine ⟨rfl, ?_⟩
    obtain ⟨i, hi, rfl⟩ := zb_rng (m := 255) (by decide) (by omega) c
    generalize eH : pm_u (pm_u (pm_u (pm_u h 35 n (nI i)) 34 0 (nI (n + 1))) 66 11 (nI (n + 1))) 75 n (nI i) = h'
    have f : ∀ o, o ≠ 34 → o ≠ 35 → o ≠ 66 → o ≠ 75 → h' o = h o := fun o q1 q2 q3 q4 => by rw [← eH, zb_un q4, zb_un q3, zb_un q1, zb_un q2]
    have f66 : ∀ i, i ≠ 11 → h' 66 i = h 66 i := fun j hj => by rw [← eH, zb_un (by omega), zb_uj hj, zb_un (by omega), zb_un (by omega)]
    have e35 : h' 35 = upd (h 35) n (nI i) := by rw [← eH, zb_un (by omega), zb_un (by omega), zb_un (by omega), zb_ur]
    have e75 : h' 75 = upd (h 75) n (nI i) := by rw [← eH, zb_ur, zb_un (by omega), zb_un (by omega), zb_un (by omega)]
    have eM : vM h' = vM h := by rw [← eH, vM_uo (by omega), vM_u66 (by omega), vM_uo (by omega), vM_uo (by omega)]
    refine ⟨zrS_f H1 (fun o _ _ => f o (by omega) (by omega) (by omega) (by omega)) (fun j _ => by rw [f 1 (by omega) (by omega) (by omega) (by omega)]) (by rw [eM]; exact fun _ _ => rfl) (f66 3 (by omega)) (fun c _ => by rw [f 70 (by omega) (by omega) (by omega) (by omega)]), zrT_f H2 (by rw [f 0 (by omega) (by omega) (by omega) (by omega)]) (f66 13 (by omega)) (by rw [f 1 (by omega) (by omega) (by omega) (by omega)]) (f66 14 (by omega)) (f66 30 (by omega)) (fun o _ _ => f o (by omega) (by omega) (by omega) (by omega)) (f 76 (by omega) (by omega) (by omega) (by omega)) (f 77 (by omega) (by omega) (by omega) (by omega)), ⟨n + 1, by omega, by rw [← eH, zb_un (by omega), zb_un (by omega), zb_us], by rw [← eH, zb_un (by omega), zb_us], fun j hj => ?_⟩, zrH_f H4 (fun o _ _ => f o (by omega) (by omega) (by omega) (by omega)) (fun o _ => f o (by omega) (by omega) (by omega) (by omega)), zrI_f H5 (by rw [f 0 (by omega) (by omega) (by omega) (by omega)]) (fun j _ _ => f66 j (by omega)) (fun o _ _ => f o (by omega) (by omega) (by omega) (by omega)) (f 86 (by omega) (by omega) (by omega) (by omega)) (f 87 (by omega) (by omega) (by omega) (by omega)) (by rw [f 1 (by omega) (by omega) (by omega) (by omega)]; exact Int.le_refl _) (fun c _ => by rw [f 70 (by omega) (by omega) (by omega) (by omega)]) (by rw [f 0 (by omega) (by omega) (by omega) (by omega)]; exact Int.le_refl _)⟩
    rw [e35, e75]
    unfold upd
    by_cases ej : j = n
    · rw [if_pos ej, if_pos ej]; exact ⟨rfl, zB_of (by omega) (by omega)⟩
    · rw [if_neg ej, if_neg ej]; exact a4 j (by omega)
  · rw [if_neg (nI_nlt (by omega) (by omega))]
    dsimp only
    rw [zb_eq, if_pos rfl]
    unfold wp_X7_feed
    refine sm_within (fun q => absurd q c) (fun _ => ?_)
    rw [zb_eq, if_neg (by decide), zb_eq, a3, show (160 : Int32) = nI 160 by decide, if_pos (by rw [show n = 160 by omega])]
    exact ⟨rfl, H⟩
theorem sp_cntIn1 {cnt : Nat} (hc : cnt ≤ 5) {K Q : Int32 → pm_H → Prop} (e : h 1 8 = nI cnt) (hK : K (zSum (h 9) cnt) h) : ∀ (m j : Nat), j + m = cnt → wl_X3_countIn_r1_4 K Q (m + 1) (zSum (h 9) j) (nI j) h
  | 0, j, hj => by
    unfold wl_X3_countIn_r1_4
    rw [zb_lt, e, if_neg (nI_nlt (by omega) (by omega)), show j = cnt by omega]
    exact hK
  | m + 1, j, hj => by
    unfold wl_X3_countIn_r1_4
    rw [zb_lt, e, if_pos (nI_lt (by omega) (by omega)), zb_ib (zb_in (by omega) (by omega)), pm_op_eq, pm_op_eq, nI_1, nI_clamp (by omega)]
    exact sp_cntIn1 hc e hK m (j + 1) (by omega)
theorem sp_cntOn1 {K Q : Int32 → pm_H → Prop} (hK : K (zSum (h 4) 10) h) : ∀ (m j : Nat), j + m = 10 → wl_X3_countOnSteps_r1_4 K Q (m + 1) (zSum (h 4) j) (nI j) h
  | 0, j, hj => by
    unfold wl_X3_countOnSteps_r1_4
    rw [zb_lt, show (10 : Int32) = nI 10 by decide, if_neg (nI_nlt (by omega) (by omega)), show j = 10 by omega]
    exact hK
  | m + 1, j, hj => by
    unfold wl_X3_countOnSteps_r1_4
    rw [zb_lt, show (10 : Int32) = nI 10 by decide, if_pos (nI_lt (by omega) (by omega)), zb_ib (zb_in (by omega) (by omega)), pm_op_eq, pm_op_eq, nI_1, nI_clamp (by omega)]
    exact sp_cntOn1 hK m (j + 1) (by omega)
theorem pr_count (H : zRel h) (w : Int32) : wp_X6_count w h (fun r h1 => wp_X7_count w h1 (fun r' h2 => r = r' ∧ zRel h2)) := by
  obtain ⟨cnt, z1, z2, z3, z4, z5, z6, z7, z8, z9, z10⟩ := zrS_at H.1
  obtain ⟨-, ⟨tc, k, Rs, b1, b2, b3, b4, b5, b6, b7, -⟩, ⟨n, a1, a2, a3, -⟩, -⟩ := id H
  have hV := zM_V H.1
  have eOn : zOn (vM h) = zSum (h 4) 10 := zSum_congr (fun j hj => by rw [vM_2 hj]; exact (z6 j hj).2.2.1)
  have eIn : zIn (vM h) = zSum (h 9) cnt := by
    unfold zIn
    rw [vM_70, z5]
    exact zSum_congr (fun j hj => by rw [vM_6 (by omega)]; exact (z7 j hj).2.2.2.1)
  unfold wp_X6_count wp_X7_count
  simp only [zb_eq]
  by_cases w0 : w = 0
  · simp only [if_pos w0]; exact ⟨by rw [z2, z3], H⟩
  simp only [if_neg w0]
  by_cases w1 : w = 1
  · simp only [if_pos w1]; exact ⟨z8.symm, H⟩
  simp only [if_neg w1]
  by_cases w2 : w = 2
  · simp only [if_pos w2]; exact ⟨z9.symm, H⟩
  simp only [if_neg w2]
  by_cases w3 : w = 3
  · simp only [if_pos w3]
    unfold wp_X3_countOnSteps_r1
    refine ⟨11, sp_cntOn1 ?_ 10 0 (by omega)⟩
    exact sm_onSteps ⟨eOn.symm, H⟩
  simp only [if_neg w3]
  by_cases w4 : w = 4
  · simp only [if_pos w4]
    unfold wp_X3_countIn_r1
    refine ⟨cnt + 1, sp_cntIn1 z1 z2 ?_ cnt 0 (by omega)⟩
    exact sm_stillIn hV ⟨eIn.symm, H⟩
  simp only [if_neg w4]
  by_cases w5 : w = 5
  · simp only [if_pos w5]; exact ⟨by rw [b4, b5], H⟩
  simp only [if_neg w5]
  by_cases w6 : w = 6
  · simp only [if_pos w6]; exact ⟨by rw [a2, a3], H⟩
  simp only [if_neg w6]
  by_cases w7 : w = 7
  · simp only [if_pos w7]; exact ⟨by rw [b6, b7], H⟩
  simp only [if_neg w7]
  exact ⟨trivial, H⟩
end
