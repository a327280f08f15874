/-! MATHEMATICS, 65: image, back -/
theorem sm_bkL1 {K : pm_H → Prop} {Q : Int32 → pm_H → Prop} : ∀ (m j : Nat) (h : pm_H), j + m = 10 → (∀ h', (∀ o, o ≠ 67 → o ≠ 68 → o ≠ 69 → h' o = h o) → (∀ i, (j ≤ i ∧ i < 10 → h' 67 i = h 86 i ∧ h' 68 i = h 86 (10 + i) ∧ h' 69 i = h 86 (20 + i)) ∧ (i < j → h' 67 i = h 67 i ∧ h' 68 i = h 68 i ∧ h' 69 i = h 69 i)) → K h') → wl_X7_back_44 K Q (m + 1) (nI j) h
  | 0, j, h, hj, hK => by
    unfold wl_X7_back_44
    rw [zb_lt, show (10 : Int32) = nI 10 by decide, if_neg (nI_nlt (by omega) (by omega))]
    exact hK h (fun _ _ _ _ => rfl) (fun i => ⟨fun q => absurd q (by omega), fun _ => ⟨rfl, rfl, rfl⟩⟩)
  | m + 1, j, h, hj, hK => by
    unfold wl_X7_back_44
    simp only [pm_op_eq, show (10 : Int32) = nI 10 by decide, show (20 : Int32) = nI 20 by decide, nI_add, nI_1, zb_lt, zb_in (j := j) (n := 10) (by omega) (by omega), zb_in (j := j) (n := 30) (by omega) (by omega), zb_in (j := 10 + j) (n := 30) (by omega) (by omega), zb_in (j := 20 + j) (n := 30) (by omega) (by omega), zb_ibt, nI_clamp (n := j) (by omega), nI_clamp (n := 10 + j) (by omega), nI_clamp (n := 20 + j) (by omega)]
    rw [if_pos (nI_lt (by omega) (by omega))]
    refine sm_bkL1 m (j + 1) _ (by omega) (fun h' e1 e2 => hK h' (fun o o1 o2 o3 => by rw [e1 o o1 o2 o3, zb_un o3, zb_un o2, zb_un o1]) (fun i => ?_))
    obtain ⟨p1, p2⟩ := e2 i
    simp only [zb_u, Nat.reduceEqDiff, if_true, if_false] at p1 p2
    refine ⟨fun q => ?_, fun q => ?_⟩
    · by_cases c : i = j
      · subst c
        obtain ⟨q1, q2, q3⟩ := p2 (by omega)
        rw [if_pos rfl] at q1 q2 q3
        exact ⟨q1, q2, q3⟩
      · exact p1 (by omega)
    · obtain ⟨q1, q2, q3⟩ := p2 (by omega)
      rw [if_neg (by omega)] at q1 q2 q3
      exact ⟨q1, q2, q3⟩
theorem sm_bkL2 {K : pm_H → Prop} {Q : Int32 → pm_H → Prop} {n : Nat} (hn : n ≤ 5) : ∀ (m j : Nat) (h : pm_H), j + m = n → h 66 3 = nI n → (∀ h', (∀ o, o ≠ 71 → o ≠ 72 → o ≠ 73 → o ≠ 74 → h' o = h o) → (∀ i, (j ≤ i ∧ i < n → h' 71 i = h 87 i ∧ h' 72 i = h 87 (5 + i) ∧ h' 73 i = h 87 (10 + i) ∧ h' 74 i = h 87 (15 + i)) ∧ (i < j → h' 71 i = h 71 i ∧ h' 72 i = h 72 i ∧ h' 73 i = h 73 i ∧ h' 74 i = h 74 i)) → K h') → wl_X7_back_100 K Q (m + 1) (nI j) h
  | 0, j, h, hj, e, hK => by
    unfold wl_X7_back_100
    rw [zb_lt, e, if_neg (nI_nlt (by omega) (by omega))]
    exact hK h (fun _ _ _ _ _ => rfl) (fun i => ⟨fun q => absurd q (by omega), fun _ => ⟨rfl, rfl, rfl, rfl⟩⟩)
  | m + 1, j, h, hj, e, hK => by
    unfold wl_X7_back_100
    simp only [pm_op_eq, e, show (5 : Int32) = nI 5 by decide, show (10 : Int32) = nI 10 by decide, show (15 : Int32) = nI 15 by decide, nI_add, nI_1, zb_lt, zb_in (j := j) (n := 5) (by omega) (by omega), zb_in (j := j) (n := 20) (by omega) (by omega), zb_in (j := 5 + j) (n := 20) (by omega) (by omega), zb_in (j := 10 + j) (n := 20) (by omega) (by omega), zb_in (j := 15 + j) (n := 20) (by omega) (by omega), zb_ibt, nI_clamp (n := j) (by omega), nI_clamp (n := 5 + j) (by omega), nI_clamp (n := 10 + j) (by omega), nI_clamp (n := 15 + j) (by omega)]
    rw [if_pos (nI_lt (by omega) (by omega))]
    refine sm_bkL2 hn m (j + 1) _ (by omega) (by rw [zb_un (by omega), zb_un (by omega), zb_un (by omega), zb_un (by omega)]; exact e) (fun h' e1 e2 => hK h' (fun o o1 o2 o3 o4 => by rw [e1 o o1 o2 o3 o4, zb_un o4, zb_un o3, zb_un o2, zb_un o1]) (fun i => ?_))
    obtain ⟨p1, p2⟩ := e2 i
    simp only [zb_u, Nat.reduceEqDiff, if_true, if_false] at p1 p2
    refine ⟨fun q => ?_, fun q => ?_⟩
    · by_cases c : i = j
      · subst c
        obtain ⟨q1, q2, q3, q4⟩ := p2 (by omega)
        rw [if_pos rfl] at q1 q2 q3 q4
        exact ⟨q1, q2, q3, q4⟩
      · exact p1 (by omega)
    · obtain ⟨q1, q2, q3, q4⟩ := p2 (by omega)
      rw [if_neg (by omega)] at q1 q2 q3 q4
      exact ⟨q1, q2, q3, q4⟩
section
variable {h : pm_H}
/-- the stair at a copied to that at b: what it holds then -/
theorem sp_bl10 {Q : pm_H → Prop} (hq : ∀ h', (∀ o, (o < 10 ∨ 18 < o) → h' o = h o) → (∀ j, j ≠ 8 → j ≠ 9 → j ≠ 10 → j ≠ 11 → h' 10 j = h 10 j) → (∀ j, 8 ≤ j → j < 12 → h' 10 j = h 1 j) → (∀ j, j < 10 → h' 11 j = h 2 j ∧ h' 12 j = h 3 j ∧ h' 13 j = h 4 j) → (∀ j, j < 5 → h' 14 j = h 5 j ∧ h' 15 j = h 6 j ∧ h' 16 j = h 7 j ∧ h' 17 j = h 8 j ∧ h' 18 j = h 9 j) → Q h') : wp_X3_becomeLike_r10_r1 h Q := by
  unfold wp_X3_becomeLike_r10_r1
  generalize hH : pm_cp (pm_cp (pm_cp (pm_cp (pm_cp (pm_cp (pm_cp (pm_cp h 2 0 11 0 10) 3 0 12 0 10) 4 0 13 0 10) 5 0 14 0 5) 6 0 15 0 5) 7 0 16 0 5) 8 0 17 0 5) 9 0 18 0 5 = W
  have W0 : ∀ o, (o < 11 ∨ 18 < o) → W o = h o := by
    intro o ho
    rw [← hH, zcp_ne (by omega), zcp_ne (by omega), zcp_ne (by omega), zcp_ne (by omega), zcp_ne (by omega), zcp_ne (by omega), zcp_ne (by omega), zcp_ne (by omega)]
  rw [W0 1 (by omega)]
  have hW : ∀ o, o ≠ 10 → (pm_u (pm_u (pm_u (pm_u W 10 8 (h 1 8)) 10 9 (h 1 9)) 10 10 (h 1 10)) 10 11 (h 1 11)) o = W o := fun o ho => by rw [zb_un ho, zb_un ho, zb_un ho, zb_un ho]
  have h10 : ∀ j, (pm_u (pm_u (pm_u (pm_u W 10 8 (h 1 8)) 10 9 (h 1 9)) 10 10 (h 1 10)) 10 11 (h 1 11)) 10 j = if j = 11 then h 1 11 else if j = 10 then h 1 10 else if j = 9 then h 1 9 else if j = 8 then h 1 8 else h 10 j := by
    intro j
    simp only [zb_u, if_true, W0 10 (by omega)]
  generalize pm_u (pm_u (pm_u (pm_u W 10 8 (h 1 8)) 10 9 (h 1 9)) 10 10 (h 1 10)) 10 11 (h 1 11) = h' at hW h10 ⊢
  refine hq h' (fun o ho => by rw [hW o (by omega), W0 o (by omega)]) (fun j b1 b2 b3 b4 => by rw [h10, if_neg b4, if_neg b3, if_neg b2, if_neg b1]) (fun j b1 b2 => ?_) (fun j hj => ⟨?_, ?_, ?_⟩) (fun j hj => ⟨?_, ?_, ?_, ?_, ?_⟩)
  · rw [h10]
    rcases (show j = 8 ∨ j = 9 ∨ j = 10 ∨ j = 11 by omega) with rfl | rfl | rfl | rfl <;> rfl
  · rw [hW 11 (by omega), ← hH, zcp_ne (by omega), zcp_ne (by omega), zcp_ne (by omega), zcp_ne (by omega), zcp_ne (by omega), zcp_ne (by omega), zcp_ne (by omega), zcp_at hj]
  · rw [hW 12 (by omega), ← hH, zcp_ne (by omega), zcp_ne (by omega), zcp_ne (by omega), zcp_ne (by omega), zcp_ne (by omega), zcp_ne (by omega), zcp_at hj, zcp_ne (by omega)]
  · rw [hW 13 (by omega), ← hH, zcp_ne (by omega), zcp_ne (by omega), zcp_ne (by omega), zcp_ne (by omega), zcp_ne (by omega), zcp_at hj, zcp_ne (by omega), zcp_ne (by omega)]
  · rw [hW 14 (by omega), ← hH, zcp_ne (by omega), zcp_ne (by omega), zcp_ne (by omega), zcp_ne (by omega), zcp_at hj, zcp_ne (by omega), zcp_ne (by omega), zcp_ne (by omega)]
  · rw [hW 15 (by omega), ← hH, zcp_ne (by omega), zcp_ne (by omega), zcp_ne (by omega), zcp_at hj, zcp_ne (by omega), zcp_ne (by omega), zcp_ne (by omega), zcp_ne (by omega)]
  · rw [hW 16 (by omega), ← hH, zcp_ne (by omega), zcp_ne (by omega), zcp_at hj, zcp_ne (by omega), zcp_ne (by omega), zcp_ne (by omega), zcp_ne (by omega), zcp_ne (by omega)]
  · rw [hW 17 (by omega), ← hH, zcp_ne (by omega), zcp_at hj, zcp_ne (by omega), zcp_ne (by omega), zcp_ne (by omega), zcp_ne (by omega), zcp_ne (by omega), zcp_ne (by omega)]
  · rw [hW 18 (by omega), ← hH, zcp_at hj, zcp_ne (by omega), zcp_ne (by omega), zcp_ne (by omega), zcp_ne (by omega), zcp_ne (by omega), zcp_ne (by omega), zcp_ne (by omega)]
theorem sp_bl1 {Q : pm_H → Prop} (hq : ∀ h', (∀ o, (o < 1 ∨ 9 < o) → h' o = h o) → (∀ j, 8 ≤ j → j < 12 → h' 1 j = h 10 j) → (∀ j, j < 10 → h' 2 j = h 11 j ∧ h' 3 j = h 12 j ∧ h' 4 j = h 13 j) → (∀ j, j < 5 → h' 5 j = h 14 j ∧ h' 6 j = h 15 j ∧ h' 7 j = h 16 j ∧ h' 8 j = h 17 j ∧ h' 9 j = h 18 j) → Q h') : wp_X3_becomeLike_r1_r10 h Q := by
  unfold wp_X3_becomeLike_r1_r10
  generalize hH : pm_cp (pm_cp (pm_cp (pm_cp (pm_cp (pm_cp (pm_cp (pm_cp h 11 0 2 0 10) 12 0 3 0 10) 13 0 4 0 10) 14 0 5 0 5) 15 0 6 0 5) 16 0 7 0 5) 17 0 8 0 5) 18 0 9 0 5 = W
  have W0 : ∀ o, (o < 2 ∨ 9 < o) → W o = h o := by
    intro o ho
    rw [← hH, zcp_ne (by omega), zcp_ne (by omega), zcp_ne (by omega), zcp_ne (by omega), zcp_ne (by omega), zcp_ne (by omega), zcp_ne (by omega), zcp_ne (by omega)]
  rw [W0 10 (by omega)]
  have hW : ∀ o, o ≠ 1 → (pm_u (pm_u (pm_u (pm_u W 1 8 (h 10 8)) 1 9 (h 10 9)) 1 10 (h 10 10)) 1 11 (h 10 11)) o = W o := fun o ho => by rw [zb_un ho, zb_un ho, zb_un ho, zb_un ho]
  have h10 : ∀ j, (pm_u (pm_u (pm_u (pm_u W 1 8 (h 10 8)) 1 9 (h 10 9)) 1 10 (h 10 10)) 1 11 (h 10 11)) 1 j = if j = 11 then h 10 11 else if j = 10 then h 10 10 else if j = 9 then h 10 9 else if j = 8 then h 10 8 else h 1 j := by
    intro j
    simp only [zb_u, if_true, W0 1 (by omega)]
  generalize pm_u (pm_u (pm_u (pm_u W 1 8 (h 10 8)) 1 9 (h 10 9)) 1 10 (h 10 10)) 1 11 (h 10 11) = h' at hW h10 ⊢
  refine hq h' (fun o ho => by rw [hW o (by omega), W0 o (by omega)]) (fun j b1 b2 => ?_) (fun j hj => ⟨?_, ?_, ?_⟩) (fun j hj => ⟨?_, ?_, ?_, ?_, ?_⟩)
  · rw [h10]
    rcases (show j = 8 ∨ j = 9 ∨ j = 10 ∨ j = 11 by omega) with rfl | rfl | rfl | rfl <;> rfl
  · rw [hW 2 (by omega), ← hH, zcp_ne (by omega), zcp_ne (by omega), zcp_ne (by omega), zcp_ne (by omega), zcp_ne (by omega), zcp_ne (by omega), zcp_ne (by omega), zcp_at hj]
  · rw [hW 3 (by omega), ← hH, zcp_ne (by omega), zcp_ne (by omega), zcp_ne (by omega), zcp_ne (by omega), zcp_ne (by omega), zcp_ne (by omega), zcp_at hj, zcp_ne (by omega)]
  · rw [hW 4 (by omega), ← hH, zcp_ne (by omega), zcp_ne (by omega), zcp_ne (by omega), zcp_ne (by omega), zcp_ne (by omega), zcp_at hj, zcp_ne (by omega), zcp_ne (by omega)]
  · rw [hW 5 (by omega), ← hH, zcp_ne (by omega), zcp_ne (by omega), zcp_ne (by omega), zcp_ne (by omega), zcp_at hj, zcp_ne (by omega), zcp_ne (by omega), zcp_ne (by omega)]
  · rw [hW 6 (by omega), ← hH, zcp_ne (by omega), zcp_ne (by omega), zcp_ne (by omega), zcp_at hj, zcp_ne (by omega), zcp_ne (by omega), zcp_ne (by omega), zcp_ne (by omega)]
  · rw [hW 7 (by omega), ← hH, zcp_ne (by omega), zcp_ne (by omega), zcp_at hj, zcp_ne (by omega), zcp_ne (by omega), zcp_ne (by omega), zcp_ne (by omega), zcp_ne (by omega)]
  · rw [hW 8 (by omega), ← hH, zcp_ne (by omega), zcp_at hj, zcp_ne (by omega), zcp_ne (by omega), zcp_ne (by omega), zcp_ne (by omega), zcp_ne (by omega), zcp_ne (by omega)]
  · rw [hW 9 (by omega), ← hH, zcp_at hj, zcp_ne (by omega), zcp_ne (by omega), zcp_ne (by omega), zcp_ne (by omega), zcp_ne (by omega), zcp_ne (by omega), zcp_ne (by omega)]
set_option maxHeartbeats 1000000 in
theorem pr_image (H : zRel h) : wp_X6_image h (fun r h1 => wp_X7_image h1 (fun r' h2 => r = r' ∧ zRel h2)) := by
  obtain ⟨cnt, z1, z2, z3, z4, z5, z6, z7, z8, z9, z10⟩ := zrS_at H.1
  have zc := zrS_cl H.1
  obtain ⟨H1, H2, H3, H4, H5⟩ := H
  obtain ⟨tc, k, Rs, t1, t2, t3, t4, t5, t6, t7, t8, t9⟩ := id H2
  unfold wp_X6_image
  refine sp_bl10 (fun h1 f f10 g10 gs gc => ?_)
  unfold wp_X7_image
  have e66 : (pm_u h1 0 2 1) 66 = h 66 := by rw [zb_un (by omega), f 66 (by omega)]
  dsimp only
  rw [zb_c0, e66]
  refine ⟨11, sm_imL1 10 0 _ (by omega) (fun h2 a1 a2 => ⟨cnt + 1, sm_imL2 z1 cnt 0 h2 (by omega) (by rw [a1 66 (by omega)]; simp only [zb_u, Nat.reduceEqDiff, if_true, if_false]; rw [f 66 (by omega)]; exact z3) (fun h3 b1 b2 => ?_)⟩)⟩
  have F : ∀ o, (0 < o ∧ o < 10) ∨ (18 < o ∧ o < 66) ∨ (66 < o ∧ o < 86) ∨ 87 < o → h3 o = h o := fun o ho => by
    rw [b1 o (by omega), a1 o (by omega), zb_un (by omega), zb_un (by omega), zb_un (by omega), zb_un (by omega), zb_un (by omega), zb_un (by omega), f o (by omega)]
  have F1 : ∀ o, 10 ≤ o → o ≤ 18 → h3 o = h1 o := fun o ho1 ho2 => by
    rw [b1 o (by omega), a1 o (by omega), zb_un (by omega), zb_un (by omega), zb_un (by omega), zb_un (by omega), zb_un (by omega), zb_un (by omega)]
  have F0 : ∀ j, h3 0 j = if j = 2 then 1 else h 0 j := fun j => by
    rw [b1 0 (by omega), a1 0 (by omega), zb_un (by omega), zb_un (by omega), zb_un (by omega), zb_un (by omega), zb_un (by omega), zb_u, f 0 (by omega)]
    rfl
  have F66 : ∀ j, h3 66 j = if j = 39 then h 66 14 else if j = 38 then h 66 10 else if j = 37 then h 66 9 else if j = 36 then h 66 3 else if j = 35 then 1 else h 66 j := fun j => by
    rw [b1 66 (by omega), a1 66 (by omega)]
    simp only [zb_u, Nat.reduceEqDiff, if_true, if_false]
    rw [f 66 (by omega)]
  have G86 : ∀ i, i < 10 → h3 86 i = h 67 i ∧ h3 86 (10 + i) = h 68 i ∧ h3 86 (20 + i) = h 69 i := fun i hi => by
    obtain ⟨q1, q2, q3⟩ := (a2 i).1 ⟨by omega, hi⟩
    rw [b1 86 (by omega), q1, q2, q3]
    simp only [zb_un (o := 66) (o' := 67) (by omega), zb_un (o := 66) (o' := 68) (by omega), zb_un (o := 66) (o' := 69) (by omega), zb_un (o := 0) (o' := 67) (by omega), zb_un (o := 0) (o' := 68) (by omega), zb_un (o := 0) (o' := 69) (by omega), f 67 (by omega), f 68 (by omega), f 69 (by omega)]
    exact ⟨trivial, trivial, trivial⟩
  have A2 : ∀ o, 71 ≤ o → o < 75 → h2 o = h o := fun o o1 o2 => by
    rw [a1 o (by omega), zb_un (by omega), zb_un (by omega), zb_un (by omega), zb_un (by omega), zb_un (by omega), zb_un (by omega), f o (by omega)]
  have G87 : ∀ i, i < cnt → h3 87 i = h 71 i ∧ h3 87 (5 + i) = h 72 i ∧ h3 87 (10 + i) = h 73 i ∧ h3 87 (15 + i) = h 74 i := fun i hi => by
    obtain ⟨q1, q2, q3, q4⟩ := (b2 i).1 ⟨by omega, hi⟩
    rw [q1, q2, q3, q4, A2 71 (by omega) (by omega), A2 72 (by omega) (by omega), A2 73 (by omega) (by omega), A2 74 (by omega) (by omega)]
    exact ⟨rfl, rfl, rfl, rfl⟩
  have eM : vM h3 = vM h := vM_of (fun o _ => F o (by omega)) (fun j _ => by rw [F66, if_neg (by omega), if_neg (by omega), if_neg (by omega), if_neg (by omega), if_neg (by omega)])
  have f66 : ∀ j, j < 35 → h3 66 j = h 66 j := fun j hj => by rw [F66, if_neg (by omega), if_neg (by omega), if_neg (by omega), if_neg (by omega), if_neg (by omega)]
  refine ⟨?_, zrS_f H1 (fun o _ _ => F o (by omega)) (fun j _ => by rw [F 1 (by omega)]) (by rw [eM]; exact fun _ _ => rfl) (f66 3 (by omega)) (fun c _ => by rw [F 70 (by omega)]), zrT_f H2 (by rw [F0]; rfl) (f66 13 (by omega)) (by rw [F 1 (by omega)]) (f66 14 (by omega)) (f66 30 (by omega)) (fun o _ _ => F o (by omega)) (F 76 (by omega)) (F 77 (by omega)), zrP_f H3 (by rw [F 34 (by omega)]) (f66 11 (by omega)) (F 35 (by omega)) (F 75 (by omega)), zrH_f H4 (fun o _ _ => F o (by omega)) (fun o _ => F o (by omega)), ?_, Or.inr ⟨by rw [F0]; rfl, cnt, k, z1, by rw [F 1 (by omega), z2, nI_toInt (by omega)]; exact Int.le_refl _, ?_, ?_, ?_, ?_, ?_, ?_, by omega, ?_, ?_, fun s hs => ?_, fun c hc => ?_⟩⟩
  · rw [f 1 (by omega), f66 9 (by omega)]; exact z8.symm
  · rw [F0, F66]; rfl
  · rw [F1 10 (by omega) (by omega), g10 8 (by omega) (by omega)]; exact z2
  · rw [F66]; exact z3
  · rw [F1 10 (by omega) (by omega), g10 9 (by omega) (by omega), F66]; exact z8.symm
  · rw [F1 10 (by omega) (by omega), g10 10 (by omega) (by omega), F66]; exact z9.symm
  · rw [F1 10 (by omega) (by omega), g10 11 (by omega) (by omega)]; exact t6
  · rw [F66]; exact t7
  · rw [F0, if_neg (by omega), t4, nI_toInt (by omega)]; omega
  · rw [F1 10 (by omega) (by omega), g10 9 (by omega) (by omega)]; exact z10
  · obtain ⟨q1, q2, q3⟩ := G86 s hs
    obtain ⟨w1, w2, w3⟩ := gs s hs
    obtain ⟨y1, y2, y3, y4, y5, y6, y7⟩ := z6 s hs
    rw [F1 11 (by omega) (by omega), F1 12 (by omega) (by omega), F1 13 (by omega) (by omega), w1, w2, w3, q1, q2, q3]
    exact ⟨y1.symm, y2.symm, y3.symm, y4, y5, y6, y7⟩
  · obtain ⟨q1, q2, q3, q4⟩ := G87 c hc
    obtain ⟨w1, w2, w3, w4, w5⟩ := gc c (by omega)
    obtain ⟨y1, y2, y3, y4, y5⟩ := z7 c hc
    obtain ⟨v1, v2, v3, v4⟩ := zc c (by rw [z2, nI_toInt (by omega)]; omega)
    rw [F1 14 (by omega) (by omega), F1 15 (by omega) (by omega), F1 16 (by omega) (by omega), F1 17 (by omega) (by omega), F1 18 (by omega) (by omega), w1, w2, w3, w4, w5, q1, q2, q3, q4, F 70 (by omega)]
    exact ⟨y1.symm, y2.symm, y3.symm, y4.symm, y5.symm, v1, v2, v3, v4⟩
set_option maxHeartbeats 1000000 in
theorem pr_back (H : zRel h) : wp_X6_back h (fun r h1 => wp_X7_back h1 (fun r' h2 => r = r' ∧ zRel h2)) := by
  obtain ⟨H1, H2, H3, H4, H5⟩ := id H
  obtain ⟨i1, i2⟩ := id H5
  unfold wp_X6_back
  rw [zb_eq]
  by_cases c : h 0 2 = 0
  · rw [if_pos c]
    unfold wp_X7_back
    dsimp only
    rw [zb_eq, if_pos (i1.symm.trans c)]
    exact ⟨rfl, H⟩
  rw [if_neg c]
  obtain ⟨-, oc, ok, j1, j2, j3, j4, j5, j6, j7, j8, j9, j10, j11, j12, j13⟩ := i2.resolve_left c
  obtain ⟨tc, k, Rs, t1, t2, t3, t4, t5, t6, t7, t8, t9⟩ := id H2
  refine sp_bl1 (fun h1 f g1 gs gc => ?_)
  unfold wp_X7_back
  dsimp only
  rw [f 66 (by omega), zb_eq, if_neg (fun q => c (i1.trans q)), zb_c0]
  refine ⟨11, sm_bkL1 10 0 _ (by omega) (fun h2 a1 a2 => ⟨oc + 1, sm_bkL2 j1 oc 0 h2 (by omega) (by rw [a1 66 (by omega) (by omega) (by omega)]; simp only [zb_u, Nat.reduceEqDiff, if_true, if_false]; exact j4) (fun h3 b1 b2 => ?_)⟩)⟩
  have F : ∀ o, o < 1 ∨ (9 < o ∧ o < 66) ∨ o = 70 ∨ 74 < o → h3 o = h o := fun o ho => by
    rw [b1 o (by omega) (by omega) (by omega) (by omega), a1 o (by omega) (by omega) (by omega), zb_un (by omega), zb_un (by omega), zb_un (by omega), zb_un (by omega), f o (by omega)]
  have F1 : ∀ o, o < 10 → h3 o = h1 o := fun o ho => by
    rw [b1 o (by omega) (by omega) (by omega) (by omega), a1 o (by omega) (by omega) (by omega), zb_un (by omega), zb_un (by omega), zb_un (by omega), zb_un (by omega)]
  have F66 : ∀ j, h3 66 j = if j = 14 then h 66 39 else if j = 10 then h 66 38 else if j = 9 then h 66 37 else if j = 3 then h 66 36 else h 66 j := fun j => by
    rw [b1 66 (by omega) (by omega) (by omega) (by omega), a1 66 (by omega) (by omega) (by omega)]
    simp only [zb_u, Nat.reduceEqDiff, if_true, if_false]
    rw [f 66 (by omega)]
  have f66 : ∀ j, j ≠ 14 → j ≠ 10 → j ≠ 9 → j ≠ 3 → h3 66 j = h 66 j := fun j q1 q2 q3 q4 => by rw [F66, if_neg q1, if_neg q2, if_neg q3, if_neg q4]
  have A86 : ∀ o, o = 86 ∨ o = 87 → h2 o = h o := fun o ho => by
    rw [a1 o (by omega) (by omega) (by omega), zb_un (by omega), zb_un (by omega), zb_un (by omega), zb_un (by omega), f o (by omega)]
  have G6 : ∀ i, i < 10 → h3 67 i = h 86 i ∧ h3 68 i = h 86 (10 + i) ∧ h3 69 i = h 86 (20 + i) := fun i hi => by
    obtain ⟨q1, q2, q3⟩ := (a2 i).1 ⟨by omega, hi⟩
    rw [b1 67 (by omega) (by omega) (by omega) (by omega), b1 68 (by omega) (by omega) (by omega) (by omega), b1 69 (by omega) (by omega) (by omega) (by omega), q1, q2, q3, zb_un (by omega), zb_un (by omega), zb_un (by omega), zb_un (by omega), f 86 (by omega)]
    exact ⟨rfl, rfl, rfl⟩
  have G7 : ∀ i, i < oc → h3 71 i = h 87 i ∧ h3 72 i = h 87 (5 + i) ∧ h3 73 i = h 87 (10 + i) ∧ h3 74 i = h 87 (15 + i) := fun i hi => by
    obtain ⟨q1, q2, q3, q4⟩ := (b2 i).1 ⟨by omega, hi⟩
    rw [q1, q2, q3, q4, A86 87 (by omega)]
    exact ⟨rfl, rfl, rfl, rfl⟩
  have e18 : h3 1 8 = nI oc := by rw [F1 1 (by omega), g1 8 (by omega) (by omega)]; exact j3
  have e63 : h3 66 3 = nI oc := by rw [F66]; exact j4
  refine ⟨?_, zrS_of j1 e18 e63 (fun s hs => ?_) (fun cc hc => ?_) ?_ ?_ ?_, ⟨tc, ok, Rs, t1, t2, by rw [t4, nI_toInt (by omega)] at j10; omega, by rw [F 0 (by omega)]; exact t4, by rw [f66 13 (by omega) (by omega) (by omega) (by omega)]; exact t5, by rw [F1 1 (by omega), g1 11 (by omega) (by omega)]; exact j7, by rw [F66]; exact j8, by rw [f66 30 (by omega) (by omega) (by omega) (by omega)]; exact t8, fun j hj => ⟨zTx_of (F _ (by omega)) (F _ (by omega)) (t9 j hj).1, zTm_of (F _ (by omega)) (F _ (by omega)) (t9 j hj).2.1, (t9 j hj).2.2⟩⟩, zrP_f H3 (by rw [F 34 (by omega)]) (f66 11 (by omega) (by omega) (by omega) (by omega)) (F 35 (by omega)) (F 75 (by omega)), zrH_f H4 (fun o _ _ => F o (by omega)) (fun o _ => F o (by omega)), by rw [F 0 (by omega), f66 35 (by omega) (by omega) (by omega) (by omega)]; exact i1, Or.inr ⟨by rw [F 0 (by omega)]; exact (i2.resolve_left c).1, oc, ok, j1, by rw [e18, nI_toInt (by omega)]; exact Int.le_refl _, ?_⟩⟩
  · rw [g1 9 (by omega) (by omega), F66]; exact j5
  · obtain ⟨q1, q2, q3⟩ := G6 s hs
    obtain ⟨w1, w2, w3⟩ := gs s hs
    obtain ⟨y1, y2, y3, y4, y5, y6, y7⟩ := j12 s hs
    rw [F1 2 (by omega), F1 3 (by omega), F1 4 (by omega), w1, w2, w3, q1, q2, q3]
    exact ⟨y1.symm, y2.symm, y3.symm, y4, y5, y6, y7⟩
  · obtain ⟨q1, q2, q3, q4⟩ := G7 cc hc
    obtain ⟨w1, w2, w3, w4, w5⟩ := gc cc (by omega)
    obtain ⟨y1, y2, y3, y4, y5, v1, v2, v3, v4⟩ := j13 cc hc
    rw [F1 5 (by omega), F1 6 (by omega), F1 7 (by omega), F1 8 (by omega), F1 9 (by omega), w1, w2, w3, w4, w5, q1, q2, q3, q4, F 70 (by omega)]
    exact ⟨y1.symm, y2.symm, y3.symm, y4.symm, y5.symm, v1, v2, v3, v4⟩
  · rw [F66, F1 1 (by omega), g1 9 (by omega) (by omega)]; exact j5.symm
  · rw [F66, F1 1 (by omega), g1 10 (by omega) (by omega)]; exact j6.symm
  · rw [F1 1 (by omega), g1 9 (by omega) (by omega)]; exact j11
  · rw [F 10 (by omega), F 11 (by omega), F 12 (by omega), F 13 (by omega), F 14 (by omega), F 15 (by omega), F 16 (by omega), F 17 (by omega), F 18 (by omega), F 86 (by omega), F 87 (by omega), F 70 (by omega), F 0 (by omega), f66 36 (by omega) (by omega) (by omega) (by omega), f66 37 (by omega) (by omega) (by omega) (by omega), f66 38 (by omega) (by omega) (by omega) (by omega), f66 39 (by omega) (by omega) (by omega) (by omega)]
    exact ⟨j3, j4, j5, j6, j7, j8, j9, j10, j11, j12, j13⟩
end
