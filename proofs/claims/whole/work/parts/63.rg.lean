/-! MATHEMATICS, 63: come, classes, tick -/
theorem zrS_of {h : pm_H} {cnt : Nat} (a1 : cnt ≤ 5) (a2 : h 1 8 = nI cnt) (a3 : h 66 3 = nI cnt) (s : ∀ s, s < 10 → h 67 s = h 2 s ∧ h 68 s = h 3 s ∧ h 69 s = h 4 s ∧ zB 0 5 (h 2 s) ∧ zB 1 9 (h 3 s) ∧ 0 ≤ (h 4 s).toInt ∧ (h 4 s).toInt ≤ (zHo (h 2 s) (h 3 s)).toInt) (c : ∀ c, c < cnt → h 71 c = h 6 c ∧ h 72 c = h 7 c ∧ h 73 c = h 8 c ∧ h 74 c = h 9 c ∧ h 70 c = h 5 c ∧ zB 0 9 (h 6 c) ∧ zB 0 999 (h 7 c) ∧ zB 1 9 (h 8 c) ∧ zB 0 60 (h 9 c)) (e9 : h 66 9 = h 1 9) (e10 : h 66 10 = h 1 10) (b9 : zB 0 999 (h 1 9)) : zrS h := by
  have e1 : (h 1 8).toNatClampNeg = cnt := by rw [a2]; exact nI_clamp (by omega)
  have e2 : (h 66 3).toNatClampNeg = cnt := by rw [a3]; exact nI_clamp (by omega)
  refine ⟨cnt, a1, a2, a3, ⟨?_, ?_, fun j hj => ?_, fun j hj => ?_⟩, fun r hr => ?_, fun j hj => (s j hj).2.2.2.2.1.2, fun j hj => (c j hj).2.2.2.2.1.symm⟩
  · rw [vN_70, a2]; exact zB_of (by omega) (by omega)
  · rw [vN_71]; exact b9
  · obtain ⟨-, -, -, q4, q5, q6, q7⟩ := s j hj
    rw [vN_0 hj, vN_1 hj, vN_2 hj]
    exact ⟨q4, ⟨q5.1, by have := q5.2; omega⟩, q6, q7⟩
  · rw [vN_70, e1] at hj
    obtain ⟨-, -, -, -, -, q6, q7, q8, q9⟩ := c j hj
    rw [vN_3 (by omega), vN_4 (by omega), vN_5 (by omega), vN_6 (by omega)]
    exact ⟨q6, q7, q8, q9⟩
  · funext j
    unfold vN vM
    rw [e1, e2]
    by_cases hz : zrg cnt r j = true
    · rw [if_pos ⟨hz, hr⟩, if_pos hz]
      have hj10 : j < 10 := by
        unfold zrg at hz
        repeat' split at hz
        all_goals first | (cases hz; done) | (simp at hz; omega)
      rcases (show r = 0 ∨ r = 1 ∨ r = 2 ∨ r = 3 ∨ r = 4 ∨ r = 5 ∨ r = 6 ∨ r = 7 by omega) with q | q | q | q | q | q | q | q <;> subst q
      · exact (s j hj10).1.symm
      · exact (s j hj10).2.1.symm
      · exact (s j hj10).2.2.1.symm
      · exact (c j (by simpa [zrg] using hz)).1.symm
      · exact (c j (by simpa [zrg] using hz)).2.1.symm
      · exact (c j (by simpa [zrg] using hz)).2.2.1.symm
      · exact (c j (by simpa [zrg] using hz)).2.2.2.1.symm
      · have hj : j < 3 := by simpa [zrg] using hz
        rcases (show j = 0 ∨ j = 1 ∨ j = 2 by omega) with rfl | rfl | rfl
        · show h 1 8 = h 66 3
          rw [a2, a3]
        · exact e9.symm
        · exact e10.symm
    · rw [if_neg (fun q => hz q.1), if_neg hz]
theorem zrS_cl {h : pm_H} (H : zrS h) : ∀ c : Nat, (c : Int) < (h 1 8).toInt → zB 0 9 (h 6 c) ∧ zB 0 999 (h 7 c) ∧ zB 1 9 (h 8 c) ∧ zB 0 60 (h 9 c) := by
  obtain ⟨cnt, a1, a2, a3, a4, -⟩ := H
  intro c hc
  rw [a2, nI_toInt (by omega)] at hc
  have e1 : (h 1 8).toNatClampNeg = cnt := by rw [a2]; exact nI_clamp (by omega)
  have := a4.2.2.2 c (by rw [vN_70, e1]; omega)
  rw [vN_3 (by omega), vN_4 (by omega), vN_5 (by omega), vN_6 (by omega)] at this
  exact this
theorem zb_d10 {j : Nat} (h : j < 2 ^ 31) : nI j / 10 = nI (j / 10) ∧ pm_rem (nI j) 10 = nI (j % 10) := by
  have e10 : (10 : Int32).toInt = 10 := by decide
  have a : (nI j / 10 : Int32).toInt = ((j / 10 : Nat) : Int) := by
    rw [Int32.toInt_div_of_ne_right _ _ (by decide), nI_toInt h, e10]
    exact (Int.ofNat_tdiv j 10).symm
  have d : nI j / 10 = nI (j / 10) := zb_teq.mpr (by rw [a, nI_toInt (by omega)])
  refine ⟨d, ?_⟩
  unfold pm_rem
  rw [d]
  have m : (nI (j / 10) * 10 : Int32).toInt = ((j / 10 * 10 : Nat) : Int) := by
    rw [zb_tmul (by rw [nI_toInt (by omega), e10]; omega) (by rw [nI_toInt (by omega), e10]; omega), nI_toInt (by omega), e10]
    omega
  refine zb_teq.mpr ?_
  rw [zb_tsub (by rw [m, nI_toInt h]; omega) (by rw [m, nI_toInt h]; omega), m, nI_toInt h, nI_toInt (by omega)]
  omega
abbrev okC (a b c : Int32) : Prop := ¬ (a < 1 ∨ 60 < a) ∧ ¬ (b < 0 ∨ 9 < b) ∧ ¬ (c < 1 ∨ 1999 < c) ∧ ¬ pm_rem c 10 = 0
theorem okC_be {c : Int32} : (¬ c < 0 ∧ ¬ 199 < c / 10 ∧ ¬ pm_rem c 10 < 1) ↔ (¬ (c < 1 ∨ 1999 < c) ∧ ¬ pm_rem c 10 = 0) := by
  by_cases h : c < 0
  · have h' : c < 1 := by
      rw [zb_tlt, Int32.toInt_zero] at h
      rw [zb_tlt, Int32.toInt_one]
      omega
    exact ⟨fun q => absurd h q.1, fun q => absurd (Or.inl h') q.1⟩
  · obtain ⟨j, hj, rfl⟩ := nI_of h
    obtain ⟨d1, d2⟩ := zb_d10 hj
    rw [d1, d2]
    rw [show (199 : Int32) = nI 199 by decide, show (1999 : Int32) = nI 1999 by decide, show (1 : Int32) = nI 1 by decide, show (0 : Int32) = nI 0 by decide, nI_ltI (by omega) (by omega), nI_ltI (by omega) (by omega), nI_ltI (by omega) (by omega), nI_ltI (by omega) (by omega), nI_ltI (by omega) (by omega), nI_eq (by omega) (by omega)]
    omega
theorem okC_v {a b c : Int32} (h : okC a b c) : zB 0 60 a ∧ zB 0 9 b ∧ zB 0 999 (c / 10) ∧ zB 1 9 (pm_rem c 10) := by
  obtain ⟨h1, h2, h3⟩ := h
  have h3' := okC_be.mpr h3
  obtain ⟨j, hj, rfl⟩ := nI_of h3'.1
  obtain ⟨d1, d2⟩ := zb_d10 hj
  obtain ⟨-, q1, q2⟩ := h3'
  rw [d1, d2] at *
  rw [show (199 : Int32) = nI 199 by decide, nI_ltI (by omega) (by omega)] at q1
  rw [show (1 : Int32) = nI 1 by decide, nI_ltI (by omega) (by omega)] at q2
  refine ⟨?_, ?_, zB_of (by omega) (by omega), ?_⟩
  · have a1 : ¬ a < 1 := fun q => h1 (Or.inl q)
    have a2 : ¬ 60 < a := fun q => h1 (Or.inr q)
    rw [zb_tlt, Int32.toInt_one] at a1
    rw [zb_tlt, show (60 : Int32).toInt = 60 by decide] at a2
    exact ⟨by omega, by omega⟩
  · have a1 : ¬ b < 0 := fun q => h2 (Or.inl q)
    have a2 : ¬ 9 < b := fun q => h2 (Or.inr q)
    rw [zb_tlt, Int32.toInt_zero] at a1
    rw [zb_tlt, show (9 : Int32).toInt = 9 by decide] at a2
    exact ⟨by omega, by omega⟩
  · unfold zB
    rw [nI_toInt (by omega)]
    omega
def fcm (h : pm_H) (n : Nat) (a b c : Int32) : pm_H := pm_u (pm_u (pm_u (pm_u (pm_u (pm_u h 5 n a) 6 n b) 7 n (c / 10)) 8 n (pm_rem c 10)) 9 n a) 1 8 (nI (n + 1))
def mcm (h : pm_H) (n : Nat) (a b c : Int32) : pm_H := pm_u (pm_u (pm_u (pm_u (pm_u (pm_u h 70 n a) 71 n b) 72 n (c / 10)) 73 n (pm_rem c 10)) 74 n a) 66 3 (nI (n + 1))
section
variable {h : pm_H}
theorem sp_come {n : Nat} (hn : n ≤ 5) (e : h 1 8 = nI n) {a b c : Int32} {Q : Int32 → pm_H → Prop} (h2 : ¬ okC a b c → Q (-2) h) (h4 : okC a b c → ¬ n < 5 → Q (-4) h) (h0 : okC a b c → n < 5 → Q (nI n) (fcm h n a b c)) : wp_X6_come a b c h Q := by
  unfold wp_X6_come
  refine sp_between (fun q => ?_) (fun q1 => ?_)
  · rw [zb_eq, if_pos rfl]; exact h2 (fun z => z.1 q)
  rw [zb_eq, if_neg (by decide)]
  refine sp_isStep (fun q => ?_) (fun q2 => ?_)
  · rw [zb_eq, if_pos rfl]; exact h2 (fun z => z.2.1 q)
  rw [zb_eq, if_neg (by decide)]
  unfold wp_X6_isBellAndEvery
  have bad : ¬ (¬ c < 0 ∧ ¬ 199 < c / 10 ∧ ¬ pm_rem c 10 < 1) → Q (-2) h := fun q => h2 (fun z => q (okC_be.mpr z.2.2))
  rw [zb_lt, zb_lt, zb_lt, pm_op_eq, pm_op_eq]
  by_cases c1 : c < 0
  · rw [if_pos c1]
    dsimp only
    rw [zb_eq, if_pos rfl]; exact bad (fun z => z.1 c1)
  rw [if_neg c1]
  by_cases c2 : 199 < c / 10
  · rw [if_pos c2]
    dsimp only
    rw [zb_eq, if_pos rfl]; exact bad (fun z => z.2.1 c2)
  rw [if_neg c2]
  by_cases c3 : pm_rem c 10 < 1
  · rw [if_pos c3]
    dsimp only
    rw [zb_eq, if_pos rfl]; exact bad (fun z => z.2.2 c3)
  rw [if_neg c3]
  dsimp only
  rw [zb_eq, if_neg (by decide)]
  have ok : okC a b c := ⟨q1, q2, okC_be.mp ⟨c1, c2, c3⟩⟩
  rw [zb_lt, e, show (5 : Int32) = nI 5 by decide]
  by_cases c4 : n < 5
  · have inn : pm_in (nI n) 5 = true := zb_in c4 (by omega)
    rw [if_pos (nI_lt c4 (by omega)), zb_ib inn, zb_ib inn, zb_ib inn, zb_ib inn, zb_ib inn, nI_clamp (by omega), pm_op_eq, nI_1]
    exact h0 ok c4
  · rw [if_neg (nI_nlt (by omega) (by omega))]
    exact h4 ok c4
theorem sm_come {n : Nat} (hn : n ≤ 5) (e : h 66 3 = nI n) {a b c : Int32} {Q : Int32 → pm_H → Prop} (h2 : ¬ okC a b c → Q (-2) h) (h4 : okC a b c → ¬ n < 5 → Q (-4) h) (h0 : okC a b c → n < 5 → Q (nI n) (mcm h n a b c)) : wp_X7_come a b c h Q := by
  unfold wp_X7_come
  refine sm_within (fun q => ?_) (fun q1 => ?_)
  · rw [zb_eq, if_pos rfl]; exact h2 (fun z => z.1 q)
  rw [zb_eq, if_neg (by decide)]
  refine sm_within (fun q => ?_) (fun q2 => ?_)
  · rw [zb_eq, if_pos rfl]; exact h2 (fun z => z.2.1 q)
  rw [zb_eq, if_neg (by decide)]
  refine sm_within (fun q => ?_) (fun q3 => ?_)
  · rw [zb_eq, if_pos rfl]; exact h2 (fun z => z.2.2.1 q)
  rw [zb_eq, if_neg (by decide), zb_eq, pm_op_eq, pm_op_eq]
  by_cases c3 : pm_rem c 10 = 0
  · rw [if_pos c3]; exact h2 (fun z => z.2.2.2 c3)
  rw [if_neg c3, zb_eq, e, show (5 : Int32) = nI 5 by decide]
  have ok : okC a b c := ⟨q1, q2, q3, c3⟩
  by_cases c4 : n < 5
  · have inn : pm_in (nI n) 5 = true := zb_in c4 (by omega)
    rw [if_neg (fun q => by have := (nI_eq (by omega) (by omega)).mp q; omega), zb_ib inn, zb_ib inn, zb_ib inn, zb_ib inn, zb_ib inn, nI_clamp (by omega), pm_op_eq, nI_1]
    exact h0 ok c4
  · rw [if_pos (by rw [show n = 5 by omega])]
    exact h4 ok c4
theorem fcm_o {n : Nat} {a b c : Int32} {o : Nat} (ho : o = 0 ∨ (1 < o ∧ o < 5) ∨ 9 < o) : fcm h n a b c o = h o := by
  unfold fcm
  rw [zb_un (by omega), zb_un (by omega), zb_un (by omega), zb_un (by omega), zb_un (by omega), zb_un (by omega)]
theorem mcm_o {n : Nat} {a b c : Int32} {o : Nat} (ho : o < 66 ∨ (66 < o ∧ o < 70) ∨ 74 < o) : mcm h n a b c o = h o := by
  unfold mcm
  rw [zb_un (by omega), zb_un (by omega), zb_un (by omega), zb_un (by omega), zb_un (by omega), zb_un (by omega)]
/-- a class came to both -/
theorem zRel_come {n : Nat} (H : zRel h) (e : h 1 8 = nI n) (hn : n < 5) {a b c : Int32} (ok : okC a b c) : zRel (mcm (fcm h n a b c) n a b c) := by
  obtain ⟨ok1, ok2, ok3, ok4⟩ := okC_v ok
  obtain ⟨cnt, z1, z2, z3, z4, z5, z6, z7, z8, z9, z10⟩ := zrS_at H.1
  have zc := zrS_cl H.1
  have ecn : cnt = n := (nI_eq (by omega) (by omega)).mp (z2.symm.trans e)
  subst ecn
  obtain ⟨H1, H2, H3, H4, H5⟩ := H
  have f : ∀ o, (o = 0 ∨ (1 < o ∧ o < 5) ∨ (9 < o ∧ o < 66) ∨ (66 < o ∧ o < 70) ∨ 74 < o) → (mcm (fcm h cnt a b c) cnt a b c) o = h o := fun o ho => by rw [mcm_o (by omega), fcm_o (by omega)]
  have f1 : ∀ j, j ≠ 8 → (mcm (fcm h cnt a b c) cnt a b c) 1 j = h 1 j := fun j hj => by rw [mcm_o (by omega)]; unfold fcm; rw [zb_uj hj, zb_un (by omega), zb_un (by omega), zb_un (by omega), zb_un (by omega), zb_un (by omega)]
  have f66 : ∀ j, j ≠ 3 → (mcm (fcm h cnt a b c) cnt a b c) 66 j = h 66 j := fun j hj => by unfold mcm; rw [zb_uj hj, zb_un (by omega), zb_un (by omega), zb_un (by omega), zb_un (by omega), zb_un (by omega), fcm_o (by omega)]
  have g8 : (mcm (fcm h cnt a b c) cnt a b c) 1 8 = nI (cnt + 1) := by rw [mcm_o (by omega)]; unfold fcm; rw [zb_us]
  have g3 : (mcm (fcm h cnt a b c) cnt a b c) 66 3 = nI (cnt + 1) := by unfold mcm; rw [zb_us]
  have r : ∀ o x, ((o = 5 ∧ x = a) ∨ (o = 6 ∧ x = b) ∨ (o = 7 ∧ x = c / 10) ∨ (o = 8 ∧ x = pm_rem c 10) ∨ (o = 9 ∧ x = a)) → ∀ j, (mcm (fcm h cnt a b c) cnt a b c) o j = if j = cnt then x else h o j := by
    intro o x ho j
    rw [mcm_o (by omega)]
    unfold fcm
    rcases ho with ⟨rfl, rfl⟩ | ⟨rfl, rfl⟩ | ⟨rfl, rfl⟩ | ⟨rfl, rfl⟩ | ⟨rfl, rfl⟩ <;> simp [zb_u]
  have rm : ∀ o x, ((o = 70 ∧ x = a) ∨ (o = 71 ∧ x = b) ∨ (o = 72 ∧ x = c / 10) ∨ (o = 73 ∧ x = pm_rem c 10) ∨ (o = 74 ∧ x = a)) → ∀ j, (mcm (fcm h cnt a b c) cnt a b c) o j = if j = cnt then x else h o j := by
    intro o x ho j
    unfold mcm
    rcases ho with ⟨rfl, rfl⟩ | ⟨rfl, rfl⟩ | ⟨rfl, rfl⟩ | ⟨rfl, rfl⟩ | ⟨rfl, rfl⟩ <;> simp [zb_u, fcm_o]
  generalize mcm (fcm h cnt a b c) cnt a b c = h' at f f1 f66 g8 g3 r rm ⊢
  refine ⟨zrS_of (cnt := cnt + 1) (by omega) g8 g3 (fun s hs => ?_) (fun j hj => ?_) (by rw [f66 9 (by omega), f1 9 (by omega)]; exact z8) (by rw [f66 10 (by omega), f1 10 (by omega)]; exact z9) (by rw [f1 9 (by omega)]; exact z10), zrT_f H2 (by rw [f 0 (by omega)]) (f66 13 (by omega)) (f1 11 (by omega)) (f66 14 (by omega)) (f66 30 (by omega)) (fun o _ _ => f o (by omega)) (f 76 (by omega)) (f 77 (by omega)), zrP_f H3 (by rw [f 34 (by omega)]) (f66 11 (by omega)) (f 35 (by omega)) (f 75 (by omega)), zrH_f H4 (fun o _ _ => f o (by omega)) (fun o _ => f o (by omega)), zrI_f H5 (by rw [f 0 (by omega)]) (fun j _ _ => f66 j (by omega)) (fun o _ _ => f o (by omega)) (f 86 (by omega)) (f 87 (by omega)) (by rw [g8, e, nI_toInt (by omega), nI_toInt (by omega)]; omega) (fun j hj => by rw [e, nI_toInt (by omega)] at hj; rw [rm 70 a (by simp), if_neg (by omega)]) (by rw [f 0 (by omega)]; exact Int.le_refl _)⟩
  · rw [f 67 (by omega), f 68 (by omega), f 69 (by omega), f 2 (by omega), f 3 (by omega), f 4 (by omega)]
    exact z6 s hs
  · rw [rm 71 b (by simp), rm 72 (c / 10) (by simp), rm 73 (pm_rem c 10) (by simp), rm 74 a (by simp), rm 70 a (by simp), r 6 b (by simp), r 7 (c / 10) (by simp), r 8 (pm_rem c 10) (by simp), r 9 a (by simp), r 5 a (by simp)]
    by_cases ej : j = cnt
    · simp only [if_pos ej]
      exact ⟨trivial, trivial, trivial, trivial, trivial, ok2, ok3, ok4, ok1⟩
    · simp only [if_neg ej]
      obtain ⟨y1, y2, y3, y4, y5⟩ := z7 j (by omega)
      obtain ⟨q1, q2, q3, q4⟩ := zc j (by rw [e, nI_toInt (by omega)]; omega)
      exact ⟨y1, y2, y3, y4, y5, q1, q2, q3, q4⟩
theorem pr_come (H : zRel h) (a b c : Int32) : wp_X6_come a b c h (fun r h1 => wp_X7_come a b c h1 (fun r' h2 => r = r' ∧ zRel h2)) := by
  obtain ⟨cnt, z1, z2, z3, -⟩ := zrS_at H.1
  refine sp_come z1 z2 (fun q => ?_) (fun q1 q2 => ?_) (fun q1 q2 => ?_)
  · exact sm_come z1 z3 (fun _ => ⟨rfl, H⟩) (fun z => absurd z q) (fun z => absurd z q)
  · exact sm_come z1 z3 (fun z => absurd q1 z) (fun _ _ => ⟨rfl, H⟩) (fun _ z => absurd z q2)
  · exact sm_come z1 (by rw [fcm_o (by omega)]; exact z3) (fun z => absurd q1 z) (fun _ z => absurd q2 z) (fun _ _ => ⟨rfl, zRel_come H z2 q2 q1⟩)
end
/-- only what a tick of both changes -/
theorem pr_tick {h : pm_H} (H : zRel h) : wp_X6_tick h (fun r h1 => wp_X7_tick h1 (fun r' h2 => r = r' ∧ zRel h2)) := by
  obtain ⟨k, R, C, M, e⟩ := zRel_cl H
  obtain ⟨H1, H2, H3, H4, H5⟩ := H
  obtain ⟨cnt, a1, a2, a3, a4, a5, a6, a7⟩ := id H1
  refine sp_tick C (fun h1 f1 f11 f5 fE => ?_)
  have vm1 : vM h1 = vM h := vM_of (fun o _ => f1 o (by omega)) (fun j _ => by rw [f1 66 (by omega)])
  have M1 : zMr k R h1 := ⟨by rw [vm1]; exact M.1.1, zTm_of (f1 _ (by omega)) (f1 _ (by omega)) M.1.2.1, by rw [f1 66 (by omega)]; exact M.1.2.2.1, M.1.2.2.2⟩
  unfold wp_X7_tick
  refine sm_pass (sh := -1) M1 (by rw [f1 66 (by omega)]; exact M.2) (fun h2 F2 M2 v2 _ => ?_)
  rw [vm1] at v2
  have eT : zE (zT R (-1) (vN h)) (zT R (-1) (vM h)) := zE_T a5
  have f : ∀ o, (o = 0 ∨ (9 < o ∧ o < 19) ∨ (33 < o ∧ o < 66) ∨ o = 67 ∨ o = 68 ∨ (69 < o ∧ o < 74) ∨ o = 75 ∨ o = 76 ∨ o = 77 ∨ 81 < o) → h2 o = h o := fun o ho => by rw [F2.1 o (by omega), f1 o (by omega)]
  have c2 : ∀ o, o < 66 → h2 o = h1 o := fun o ho => F2.1 o (by omega)
  have f66 : ∀ j, j ≠ 9 → j ≠ 10 → j ≠ 27 → j ≠ 28 → j ≠ 29 → h2 66 j = h 66 j := fun j b1 b2 b3 b4 b5 => by rw [F2.2 j b1 b2 b3 b4 b5, f1 66 (by omega)]
  have evN : vN h2 = vN h1 := by
    funext r j
    unfold vN
    rw [c2 1 (by omega)]
    by_cases hr : zrg (h1 1 8).toNatClampNeg r j = true ∧ r < 8
    · rw [if_pos hr, if_pos hr]
      have : ∀ r, r < 8 → ncc r < 66 := by decide
      rw [c2 _ (this r hr.2)]
    · rw [if_neg hr, if_neg hr]
  obtain ⟨T1, T2, T3, T4⟩ := zT_ok (R := R) (sh := -1) a4
  have e18 : h2 1 8 = h 1 8 := by
    have := congrFun (fE 7 (by omega)) 0
    rw [T3, vN_70, vN_70] at this
    rw [c2 1 (by omega)]
    exact this
  refine ⟨?_, ⟨cnt, a1, by rw [e18]; exact a2, by rw [f66 3 (by omega) (by omega) (by omega) (by omega) (by omega)]; exact a3, by rw [evN]; exact zE_V fE T1, by rw [evN, v2]; exact zE_trans fE eT, fun s hs => ?_, fun c hc => by rw [c2 5 (by omega), f5 c (by omega), f 70 (by omega)]; exact a7 c hc⟩, zrT_f H2 (by rw [f 0 (by omega)]) (f66 13 (by omega) (by omega) (by omega) (by omega) (by omega)) (by rw [c2 1 (by omega)]; exact f11) (f66 14 (by omega) (by omega) (by omega) (by omega) (by omega)) (f66 30 (by omega) (by omega) (by omega) (by omega) (by omega)) (fun o _ _ => f o (by omega)) (f 76 (by omega)) (f 77 (by omega)), zrP_f H3 (by rw [f 34 (by omega)]) (f66 11 (by omega) (by omega) (by omega) (by omega) (by omega)) (f 35 (by omega)) (f 75 (by omega)), zrH_f H4 (fun o _ _ => f o (by omega)) (fun o _ => f o (by omega)), zrI_f H5 (by rw [f 0 (by omega)]) (fun j _ _ => f66 j (by omega) (by omega) (by omega) (by omega) (by omega)) (fun o _ _ => f o (by omega)) (f 86 (by omega)) (f 87 (by omega)) (by rw [e18]; exact Int.le_refl _) (fun c _ => by rw [f 70 (by omega)]) (by rw [f 0 (by omega)]; exact Int.le_refl _)⟩
  · rw [← vM_72 (h := h2), v2, ← eT 7 (by omega)]
  · have := congrFun (fE 1 (by omega)) s
    rw [T2 1 (by omega) (by omega) (by omega) (by omega) (by omega), vN_1 hs, vN_1 hs] at this
    rw [c2 3 (by omega), this]
    exact a6 s hs
