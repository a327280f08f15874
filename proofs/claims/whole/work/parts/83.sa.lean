/-! MATHEMATICS, 83: the call text -/
theorem zFp_one {b0 b1 b2 : Bool} {l1 l2 l3 : zLs} {p p' : Nat} (h : zFp b0 b1 b2 l1 l2 l3 p) (h' : zFp b0 b1 b2 l1 l2 l3 p') : p = p' := by
  rcases h with ⟨x, rfl⟩ | ⟨x, y, rfl⟩ | ⟨x, y, z, rfl⟩ | ⟨x, y, z, w, rfl⟩ <;> rcases h' with ⟨x', rfl⟩ | ⟨x', y', rfl⟩ | ⟨x', y', z', rfl⟩ | ⟨x', y', z', w', rfl⟩ <;> simp_all
theorem zFp_not {b0 b1 b2 : Bool} {l1 l2 l3 : zLs} {p : Nat} (h : zFp b0 b1 b2 l1 l2 l3 p) (x0 : b0 = true) (x1 : b1 = true) (x2 : b2 = true) (x3 : l3.2.2.1 = 0) : False := by
  rcases h with ⟨x, rfl⟩ | ⟨x, y, rfl⟩ | ⟨x, y, z, rfl⟩ | ⟨x, y, z, w, rfl⟩ <;> simp_all
theorem zTm_lt {h h' : pm_H} {k tc : Nat} {R : Nat → List Int32} (hk : k < tc) (W : zWf R) (e1 : ∀ j, j < 170 * tc → h' 76 j = h 76 j) (e2 : ∀ j, j < 4 * tc → h' 77 j = h 77 j) (H : zTm h k R) : zTm h' k R := by
  intro w hw
  obtain ⟨a, b, c⟩ := H w hw
  have b1 := zBg_le W (w := w + 1) (by omega)
  have b2 : zBg R (w + 1) = zBg R w + (R w).length := rfl
  exact ⟨by rw [e2 _ (by omega)]; exact a, by rw [e2 _ (by omega)]; exact b, fun i hi => by rw [e1 _ (by omega)]; exact c i hi⟩
section
variable {h h' : pm_H}
theorem zRel_tx {tc tc2 : Nat} {R : Nat → List Int32} (H : zRel h) (t4 : h 0 6 = nI tc) (ht : tc < 6) (f : ∀ o, o ≠ 0 → o ≠ 34 → o ≠ 40 + 3 * tc → o ≠ 40 + 3 * tc + 1 → o ≠ 40 + 3 * tc + 2 → o ≠ 66 → o ≠ 76 → o ≠ 77 → h' o = h o) (f0 : ∀ j, j ≠ 6 → h' 0 j = h 0 j) (f66 : ∀ j, j ≠ 11 → j ≠ 13 → (j < 17 ∨ 22 < j) → h' 66 j = h 66 j) (f76 : ∀ j, j < 170 * tc → h' 76 j = h 76 j) (f77 : ∀ j, j < 4 * tc → h' 77 j = h 77 j) (g34 : h' 34 0 = 0) (g11 : h' 66 11 = 0) (g6 : h' 0 6 = nI tc2) (g13 : h' 66 13 = nI tc2) (hh : tc2 = tc ∨ (tc2 = tc + 1 ∧ tc < 6 ∧ zTx h' tc R ∧ zTm h' tc R ∧ zWf R)) : zRel h' := by
  obtain ⟨H1, H2, H3, H4, H5⟩ := H
  obtain ⟨tc', k, Rs, t1, t2, t3, t4', t5, t6, t7, t8, t9⟩ := H2
  have : tc' = tc := (nI_eq (by omega) (by omega)).mp (t4'.symm.trans t4)
  subst this
  have h2 : tc2 ≤ 6 ∧ tc' ≤ tc2 := by omega
  have hc : (h 0 6).toInt ≤ (h' 0 6).toInt := by rw [t4, g6, nI_toInt (by omega), nI_toInt (by omega)]; omega
  refine ⟨zrS_f H1 (fun o _ _ => f o (by omega) (by omega) (by omega) (by omega) (by omega) (by omega) (by omega) (by omega)) (fun j _ => by rw [f 1 (by omega) (by omega) (by omega) (by omega) (by omega) (by omega) (by omega) (by omega)]) (by rw [vM_of (fun o _ => f o (by omega) (by omega) (by omega) (by omega) (by omega) (by omega) (by omega) (by omega)) (fun j _ => f66 j (by omega) (by omega) (by omega))]; exact fun _ _ => rfl) (f66 3 (by omega) (by omega) (by omega)) (fun c _ => by rw [f 70 (by omega) (by omega) (by omega) (by omega) (by omega) (by omega) (by omega) (by omega)]), ?_, ⟨0, by omega, by rw [g34]; exact zb_c0, by rw [g11]; exact zb_c0, fun j hj => absurd hj (by omega)⟩, zrH_f H4 (fun o _ _ => f o (by omega) (by omega) (by omega) (by omega) (by omega) (by omega) (by omega) (by omega)) (fun o _ => f o (by omega) (by omega) (by omega) (by omega) (by omega) (by omega) (by omega) (by omega)), zrI_f H5 (f0 2 (by omega)) (fun j _ _ => f66 j (by omega) (by omega) (by omega)) (fun o _ _ => f o (by omega) (by omega) (by omega) (by omega) (by omega) (by omega) (by omega) (by omega)) (f 86 (by omega) (by omega) (by omega) (by omega) (by omega) (by omega) (by omega) (by omega)) (f 87 (by omega) (by omega) (by omega) (by omega) (by omega) (by omega) (by omega) (by omega)) (by rw [f 1 (by omega) (by omega) (by omega) (by omega) (by omega) (by omega) (by omega) (by omega)]; exact Int.le_refl _) (fun c _ => by rw [f 70 (by omega) (by omega) (by omega) (by omega) (by omega) (by omega) (by omega) (by omega)]) hc⟩
  refine ⟨tc2, k, fun j => if j < tc' then Rs j else R, by omega, h2.1, by omega, g6, g13, by rw [f 1 (by omega) (by omega) (by omega) (by omega) (by omega) (by omega) (by omega) (by omega)]; exact t6, by rw [f66 14 (by omega) (by omega) (by omega)]; exact t7, by rw [f66 30 (by omega) (by omega) (by omega)]; exact t8, fun j hj => ?_⟩
  dsimp only
  by_cases cj : j < tc'
  · rw [if_pos cj]
    obtain ⟨x1, x2, x3⟩ := t9 j cj
    exact ⟨zTx_of (f _ (by omega) (by omega) (by omega) (by omega) (by omega) (by omega) (by omega) (by omega)) (f _ (by omega) (by omega) (by omega) (by omega) (by omega) (by omega) (by omega) (by omega)) x1, zTm_lt cj x3 f76 f77 x2, x3⟩
  · rw [if_neg cj]
    rcases hh with e | ⟨e1, e2, e3⟩
    · omega
    · have : j = tc' := by omega
      subst this
      exact e3
set_option maxHeartbeats 1000000 in
theorem pr_text (H : zRel h) : wp_X6_text (wp_X0_readInto (zCc 6 0)) h (fun r h1 => wp_X7_text (wp_X7_part (zMc 6 0)) h1 (fun r' h2 => r = r' ∧ zRel h2)) := by
  obtain ⟨H1, H2, ⟨n, a1, a2, a3, a4⟩, H4, H5⟩ := id H
  obtain ⟨tc, k, Rs, t1, t2, t3, t4, t5, t6, t7, t8, t9⟩ := id H2
  unfold wp_X6_text
  rw [zb_lt, t4, show (6 : Int32) = nI 6 by decide]
  by_cases ht : tc < 6
  rotate_left
  · rw [if_neg (nI_nlt (by omega) (by omega))]
    unfold wp_X7_text
    dsimp only
    rw [zb_eq, t5, show (6 : Int32) = nI 6 by decide, if_pos (by rw [show tc = 6 by omega])]
    exact ⟨rfl, H⟩
  rw [if_pos (nI_lt (by omega) (by omega)), zb_ib (zb_in ht (by omega)), nI_clamp (by omega)]
  have he : ∀ j, j < n → h 35 j = h 75 j := fun j hj => (a4 j hj).1
  obtain ⟨v0, -⟩ := @zLx_v (h 35) n 0 (Nat.zero_le _)
  generalize el : zLx (h 35) n 0 = l0 at v0
  have el' : zLx (h 75) n 0 = l0 := by rw [← el]; exact (zLx_congr he (Nat.zero_le _)).symm
  obtain ⟨b0, l1, c0, e0, v1, n0⟩ := @zRu_ok (h 35) n 0 l0 v0
  obtain ⟨b1, l2, c1, e1, v2, n1⟩ := @zRu_ok (h 35) n 1 l1 v1
  obtain ⟨b2, l3, c2, e2, v3, n2⟩ := @zRu_ok (h 35) n 2 l2 v2
  have e0' := (zRu_congr he v0).symm.trans e0
  have e1' := (zRu_congr he v1).symm.trans e1
  have e2' := (zRu_congr he v2).symm.trans e2
  refine sp_into a1 ht el v0 e0 v1 (fun q => (n0 q).1) e1 v2 (fun q => (n1 q).1) e2 v3 (fun q => (n2 q).1) a2 rfl (fun p hp F h1 I => ?_) (fun x0 x1 x2 x3 h1 I y0 y1 y2 s0 s1 s2 => ?_)
  · obtain ⟨I1, I2⟩ := I
    rw [zb_eq, if_neg (nI_m1 (by omega)), pm_op_eq]
    have i66 := I1 66 (by omega) (by omega) (by omega) (by omega)
    refine sm_text (T := h 75) a1 ht el' v0 e0' v1 (fun q => (n0 q).1) e1' v2 (fun q => (n1 q).1) e2' v3 (fun q => (n2 q).1) (by rw [i66]; exact a3) (I1 75 (by omega) (by omega) (by omega) (by omega)) (by rw [i66]; exact t5) (fun p' hp' F' h2 M => ?_) (fun x0 x1 x2 x3 => absurd (zFp_not F x0 x1 x2 x3) id)
    obtain ⟨M1, M2, M3, M4⟩ := M
    refine ⟨by rw [zFp_one F F'], ?_⟩
    refine zRel_tx (tc := tc) (tc2 := tc) (R := Rs 0) H t4 ht (fun o q0 q1 q2 q3 q4 q5 q6 q7 => by rw [zb_un q5, M1 o q5 q6 q7, I1 o q1 q2 q3 q4]) (fun j _ => by rw [zb_un (by omega), M1 0 (by omega) (by omega) (by omega), I1 0 (by omega) (by omega) (by omega) (by omega)]) (fun j q1 q2 q3 => by rw [zb_uj q1, M2 j q3, i66]) (fun j hj => by rw [zb_un (by omega), M3 j (by omega), I1 76 (by omega) (by omega) (by omega) (by omega)]) (fun j hj => by rw [zb_un (by omega), M4 j (by omega), I1 77 (by omega) (by omega) (by omega) (by omega)]) (by rw [zb_un (by omega), M1 34 (by omega) (by omega) (by omega)]; exact I2) zb_us (by rw [zb_un (by omega), M1 0 (by omega) (by omega) (by omega), I1 0 (by omega) (by omega) (by omega) (by omega)]; exact t4) (by rw [zb_uj (by omega), M2 13 (by omega), i66]; exact t5) (Or.inl rfl)
  · obtain ⟨I1, I2⟩ := I
    have i66 := I1 66 (by omega) (by omega) (by omega) (by omega)
    have i0 := I1 0 (by omega) (by omega) (by omega) (by omega)
    rw [zb_eq, if_pos rfl, i0, t4]
    simp only [pm_op_eq, nI_1, nI_pred]
    refine sm_text (T := h 75) a1 ht el' v0 e0' v1 (fun q => (n0 q).1) e1' v2 (fun q => (n1 q).1) e2' v3 (fun q => (n2 q).1) (by rw [zb_un (by omega), i66]; exact a3) (by rw [zb_un (by omega)]; exact I1 75 (by omega) (by omega) (by omega) (by omega)) (by rw [zb_un (by omega), i66]; exact t5) (fun p' hp' F' => absurd (zFp_not F' x0 x1 x2 x3) id) (fun _ _ _ _ h2 M r0 r1 r2 u0 u1 u2 => ⟨rfl, ?_⟩)
    obtain ⟨M1, M2, M3, M4⟩ := M
    have m0 := (n0 x0).1
    have m1 := (n1 x1).1
    have m2 := (n2 x2).1
    have m3 : l3.1 ≤ 160 := by have := v3.1; have := v3.2.1; omega
    refine zRel_tx (tc := tc) (tc2 := tc + 1) (R := fun w => if w = 0 then c0 else if w = 1 then c1 else c2) H t4 ht (fun o q0 q1 q2 q3 q4 q5 q6 q7 => by rw [zb_un q5, zb_un q7, zb_un q5, M1 o q5 q6 q7, zb_un q0, I1 o q1 q2 q3 q4]) (fun j q => by rw [zb_un (by omega), zb_un (by omega), zb_un (by omega), M1 0 (by omega) (by omega) (by omega), zb_uj q, i0]) (fun j q1 q2 q3 => by rw [zb_uj q2, zb_un (by omega), zb_uj q1, M2 j q3, zb_un (by omega), i66]) (fun j hj => by rw [zb_un (by omega), zb_un (by omega), zb_un (by omega), M3 j (by omega), zb_un (by omega), I1 76 (by omega) (by omega) (by omega) (by omega)]) (fun j hj => by rw [zb_un (by omega), zb_uj (by omega), zb_un (by omega), M4 j (by omega), zb_un (by omega), I1 77 (by omega) (by omega) (by omega) (by omega)]) (by rw [zb_un (by omega), zb_un (by omega), zb_un (by omega), M1 34 (by omega) (by omega) (by omega), zb_un (by omega)]; exact I2) (by rw [zb_uj (by omega), zb_un (by omega), zb_us]) (by rw [zb_un (by omega), zb_un (by omega), zb_un (by omega), M1 0 (by omega) (by omega) (by omega), zb_us]) zb_us (Or.inr ⟨rfl, ht, ?_, ?_, ?_⟩)
    · have E1 : ∀ o, o = 40 + 3 * tc + 1 ∨ o = 40 + 3 * tc + 2 → (pm_u (pm_u (pm_u h2 66 11 0) 77 (4 * tc + 3) (nI (c0.length + c1.length + c2.length))) 66 13 (nI (tc + 1))) o = h1 o := fun o ho => by rw [zb_un (by omega), zb_un (by omega), zb_un (by omega), M1 o (by omega) (by omega) (by omega), zb_un (by omega)]
      intro w hw
      rw [E1 _ (Or.inl rfl), E1 _ (Or.inr rfl)]
      rcases (show w = 0 ∨ w = 1 ∨ w = 2 by omega) with rfl | rfl | rfl
      · refine ⟨by rw [y0]; simp [zBg], fun i hi => ?_⟩
        simp only [zBg, Nat.zero_add]; exact s0 i hi
      · refine ⟨by rw [y1]; simp [zBg], fun i hi => ?_⟩
        simp only [zBg, Nat.zero_add]; exact s1 i hi
      · refine ⟨by rw [y2]; simp [zBg], fun i hi => ?_⟩
        simp only [zBg, Nat.zero_add]; exact s2 i hi
    · have E1 : (pm_u (pm_u (pm_u h2 66 11 0) 77 (4 * tc + 3) (nI (c0.length + c1.length + c2.length))) 66 13 (nI (tc + 1))) 76 = h2 76 := by rw [zb_un (by omega), zb_un (by omega), zb_un (by omega)]
      have E2 : ∀ j, j < 4 * tc + 3 → (pm_u (pm_u (pm_u h2 66 11 0) 77 (4 * tc + 3) (nI (c0.length + c1.length + c2.length))) 66 13 (nI (tc + 1))) 77 j = h2 77 j := fun j hj => by rw [zb_un (by omega), zb_uj (by omega), zb_un (by omega)]
      have E3 : (pm_u (pm_u (pm_u h2 66 11 0) 77 (4 * tc + 3) (nI (c0.length + c1.length + c2.length))) 66 13 (nI (tc + 1))) 77 (4 * tc + 3) = nI (c0.length + c1.length + c2.length) := by rw [zb_un (by omega), zb_us]
      intro w hw
      rw [E1]
      rcases (show w = 0 ∨ w = 1 ∨ w = 2 by omega) with rfl | rfl | rfl
      · refine ⟨by rw [E2 _ (by omega), r0]; rfl, by rw [E2 _ (by omega), show 4 * tc + 0 + 1 = 4 * tc + 1 from rfl, r1]; simp [zBg], fun i hi => ?_⟩
        simp only [zBg, Nat.zero_add]; exact u0 i hi
      · refine ⟨by rw [E2 _ (by omega), r1]; simp [zBg], by rw [E2 _ (by omega), show 4 * tc + 1 + 1 = 4 * tc + 2 from rfl, r2]; simp [zBg], fun i hi => ?_⟩
        have := u1 i hi
        rw [Nat.add_assoc] at this
        simp only [zBg, Nat.zero_add]; exact this
      · refine ⟨by rw [E2 _ (by omega), r2]; simp [zBg], by rw [show 4 * tc + 2 + 1 = 4 * tc + 3 from rfl, E3]; simp [zBg], fun i hi => ?_⟩
        have := u2 i hi
        rw [Nat.add_assoc] at this
        simp only [zBg, Nat.zero_add]; exact this
    · refine ⟨fun w hw => ?_, by simp [zBg]; omega⟩
      rcases (show w = 0 ∨ w = 1 ∨ w = 2 by omega) with rfl | rfl | rfl
      · exact (n0 x0).2
      · exact (n1 x1).2
      · exact (n2 x2).2
end
