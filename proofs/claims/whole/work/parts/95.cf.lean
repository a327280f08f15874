/-! THE END OF THE REFERENCE'S CONSTRUCTOR -/
def mt_X7_init : pm_M := (7, 3, 0, [(198, .iconst 0), (199, .istore_n 1), (200, .iload_n 1), (201, .iconst 4), (202, .if_icmp .ge 16), (205, .aload_n 0), (206, .getfield 73), (209, .iload_n 1), (210, .iconst (-1)), (211, .iastore), (212, .iinc 1 1), (215, .goto (-15)), (218, .iconst 0), (219, .istore_n 1), (220, .iload_n 1), (221, .bipush 10), (223, .if_icmp .ge 16), (226, .aload_n 0), (227, .getfield 13), (230, .iload_n 1), (231, .iconst 2), (232, .iastore), (233, .iinc 1 1), (236, .goto (-16)), (239, .aload_n 0), (240, .iconst (-1)), (241, .putfield 85), (244, .ldc 89), (246, .astore_n 1), (247, .iconst 0), (248, .istore_n 2), (249, .iload_n 2), (250, .aload_n 1), (251, .invokevirtual 91), (254, .if_icmp .ge 19), (257, .aload_n 0), (258, .aload_n 1), (259, .iload_n 2), (260, .invokevirtual 97), (263, .invokevirtual 101), (266, .pop), (267, .iinc 2 1), (270, .goto (-21)), (273, .aload_n 0), (274, .invokevirtual 105), (277, .pop), (278, .return_)])
theorem ci_X7 : pm_I mt_X7_init yX7_init cX7_init none := ⟨by decide +kernel, by decide +kernel, by decide +kernel, by decide +kernel, rfl, by decide +kernel⟩
/-- a row that holds x up to i, all else as before -/
def cL (o : Nat) (x : Int32) (i : Nat) (h0 h : pm_H) : Prop := (∀ j, j < i → h o j = x) ∧ ∀ o', o' ≠ o → h o' = h0 o'
theorem cL_s {o i : Nat} {x : Int32} {h0 h : pm_H} (J : cL o x i h0 h) : cL o x (i + 1) h0 (pm_u h o i x) := by
  refine ⟨fun j hj => ?_, fun o' ho => by rw [zb_un ho]; exact J.2 o' ho⟩
  by_cases e : j = i
  · subst e; exact zb_us
  · rw [zb_uj e]; exact J.1 j (by omega)
theorem cm_l1 {d : Nat} {h0 : pm_H} {Q : Option Value → pm_H → Prop} (hQ : ∀ h, cL 88 (-1) 4 h0 h → pm_R (d + 1) mt_X7_init 218 [some (.ref 66), some (.int (nI 4)), none] [] h Q) :
    ∀ (k i : Nat), i + k = 4 → ∀ h, cL 88 (-1) i h0 h → pm_R (d + 1) mt_X7_init 200 [some (.ref 66), some (.int (nI i)), none] [] h Q
  | 0, i, hi, h, J => by
    have hi : i = 4 := hi
    subst hi
    refine pm_steps 3 ?_
    show pm_lt (nI 4) (Int32.ofInt 4) (pm_R (d + 1) mt_X7_init 205 [some (.ref 66), some (.int (nI 4)), none] [] h Q) (pm_R (d + 1) mt_X7_init 218 [some (.ref 66), some (.int (nI 4)), none] [] h Q)
    refine pm_ltF (by decide) ?_
    exact hQ h J
  | k + 1, i, hi, h, J => by
    refine pm_steps 3 ?_
    show pm_lt (nI i) (Int32.ofInt 4) (pm_R (d + 1) mt_X7_init 205 [some (.ref 66), some (.int (nI i)), none] [] h Q) (pm_R (d + 1) mt_X7_init 218 [some (.ref 66), some (.int (nI i)), none] [] h Q)
    refine pm_ltT (nI_lt (b := 4) (by omega) (by omega)) ?_
    refine pm_steps 5 ?_
    show pm_ib (pm_in (nI i) 4) (pm_R (d + 1) mt_X7_init 212 [some (.ref 66), some (.int (nI i)), none] [] (pm_u h 88 (nI i).toNatClampNeg (Int32.ofInt (-1))) Q)
    rw [zb_ib (zb_in (by omega) (by omega)), nI_clamp (by omega)]
    refine pm_steps 2 ?_
    show pm_R (d + 1) mt_X7_init 200 [some (.ref 66), some (.int (pm_op (nI i + Int32.ofInt 1))), none] [] (pm_u h 88 i (Int32.ofInt (-1))) Q
    rw [pm_op_eq, show Int32.ofInt 1 = 1 by decide, nI_1]
    exact cm_l1 hQ k (i + 1) (by omega) _ (cL_s J)
theorem cm_l2 {d : Nat} {h0 : pm_H} {Q : Option Value → pm_H → Prop} (hQ : ∀ h, cL 68 2 10 h0 h → pm_R (d + 1) mt_X7_init 239 [some (.ref 66), some (.int (nI 10)), none] [] h Q) :
    ∀ (k i : Nat), i + k = 10 → ∀ h, cL 68 2 i h0 h → pm_R (d + 1) mt_X7_init 220 [some (.ref 66), some (.int (nI i)), none] [] h Q
  | 0, i, hi, h, J => by
    have hi : i = 10 := hi
    subst hi
    refine pm_steps 3 ?_
    show pm_lt (nI 10) ((Int8.ofInt 10).toInt32) (pm_R (d + 1) mt_X7_init 226 [some (.ref 66), some (.int (nI 10)), none] [] h Q) (pm_R (d + 1) mt_X7_init 239 [some (.ref 66), some (.int (nI 10)), none] [] h Q)
    refine pm_ltF (by decide) ?_
    exact hQ h J
  | k + 1, i, hi, h, J => by
    refine pm_steps 3 ?_
    show pm_lt (nI i) ((Int8.ofInt 10).toInt32) (pm_R (d + 1) mt_X7_init 226 [some (.ref 66), some (.int (nI i)), none] [] h Q) (pm_R (d + 1) mt_X7_init 239 [some (.ref 66), some (.int (nI i)), none] [] h Q)
    refine pm_ltT (nI_lt (b := 10) (by omega) (by omega)) ?_
    refine pm_steps 5 ?_
    show pm_ib (pm_in (nI i) 10) (pm_R (d + 1) mt_X7_init 233 [some (.ref 66), some (.int (nI i)), none] [] (pm_u h 68 (nI i).toNatClampNeg (Int32.ofInt 2)) Q)
    rw [zb_ib (zb_in (by omega) (by omega)), nI_clamp (by omega)]
    refine pm_steps 2 ?_
    show pm_R (d + 1) mt_X7_init 220 [some (.ref 66), some (.int (pm_op (nI i + Int32.ofInt 1))), none] [] (pm_u h 68 i (Int32.ofInt 2)) Q
    rw [pm_op_eq, show Int32.ofInt 1 = 1 by decide, nI_1]
    exact cm_l2 hQ k (i + 1) (by omega) _ (cL_s J)
/-- the tape holds the first i letters -/
def cN (i : Nat) (h0 h : pm_H) : Prop := h 66 11 = nI i ∧ (∀ j, j < i → h 75 j = cT0 j) ∧ (∀ o, o ≠ 66 → o ≠ 75 → h o = h0 o) ∧ ∀ j, j ≠ 11 → h 66 j = h0 66 j
theorem cT0_in : ∀ j, j < 36 → ¬ cT0 j < 0 ∧ ¬ 255 < cT0 j := by decide +kernel
theorem cm_feed {i : Nat} {h0 h : pm_H} {Q : Int32 → pm_H → Prop} (hi : i < 36) (J : cN i h0 h) (hQ : ∀ r h', cN (i + 1) h0 h' → Q r h') : wp_X7_feed (cT0 i) h Q := by
  obtain ⟨J1, J2, J3, J4⟩ := J
  obtain ⟨a, b⟩ := cT0_in i hi
  unfold wp_X7_feed wp_X7_within
  rw [zb_lt, if_neg a, zb_lt, if_neg b]
  dsimp only
  rw [zb_eq, if_neg (by decide), zb_eq, J1, show (160 : Int32) = nI 160 by decide, if_neg (fun q => by have := (nI_eq (by omega) (by omega)).mp q; omega), zb_ib (zb_in (by omega) (by omega)), pm_op_eq, nI_clamp (by omega)]
  refine hQ _ _ ⟨by rw [zb_un (by omega), zb_us]; exact nI_1 i, fun j hj => ?_, fun o h1 h2 => by rw [zb_un h2, zb_un h1]; exact J3 o h1 h2, fun j hj => by rw [zb_un (by omega), zb_uj hj]; exact J4 j hj⟩
  by_cases e : j = i
  · subst e; exact zb_us
  · rw [zb_uj e, zb_un (by omega)]; exact J2 j (by omega)
theorem cm_l3 {d : Nat} {h0 : pm_H} {Q : Option Value → pm_H → Prop} (hQ : ∀ h, cN 36 h0 h → pm_R (d + 2) mt_X7_init 273 [some (.ref 66), some (.ref 1012), some (.int (nI 36))] [] h Q) :
    ∀ (k i : Nat), i + k = 36 → ∀ h, cN i h0 h → pm_R (d + 2) mt_X7_init 249 [some (.ref 66), some (.ref 1012), some (.int (nI i))] [] h Q
  | 0, i, hi, h, J => by
    have hi : i = 36 := hi
    subst hi
    refine pm_steps 3 ?_
    show pm_R (d + 2) mt_X7_init 254 _ [.int (nI 36), .int (nI 36)] h Q
    refine pm_steps 1 ?_
    show pm_lt (nI 36) (nI 36) (pm_R (d + 2) mt_X7_init 257 [some (.ref 66), some (.ref 1012), some (.int (nI 36))] [] h Q) (pm_R (d + 2) mt_X7_init 273 [some (.ref 66), some (.ref 1012), some (.int (nI 36))] [] h Q)
    refine pm_ltF (by decide) ?_
    exact hQ h J
  | k + 1, i, hi, h, J => by
    refine pm_steps 3 ?_
    show pm_R (d + 2) mt_X7_init 254 _ [.int (nI 36), .int (nI i)] h Q
    refine pm_steps 1 ?_
    show pm_lt (nI i) (nI 36) (pm_R (d + 2) mt_X7_init 257 [some (.ref 66), some (.ref 1012), some (.int (nI i))] [] h Q) (pm_R (d + 2) mt_X7_init 273 [some (.ref 66), some (.ref 1012), some (.int (nI i))] [] h Q)
    refine pm_ltT (nI_lt (by omega) (by omega)) ?_
    refine pm_steps 4 ?_
    show pm_ib (pm_in (nI i) 36) (pm_R (d + 2) mt_X7_init 263 [some (.ref 66), some (.ref 1012), some (.int (nI i))] [.int (nI ((pm_sl 12).getD (nI i).toNatClampNeg 0)), .ref 66] h Q)
    rw [zb_ib (zb_in (by omega) (by omega)), nI_clamp (by omega)]
    refine pm_steps 1 ?_
    refine @wp_X7_feed_ok _ _ _ _ (cm_feed (by omega) J (fun r h' J' => ?_))
    refine pm_steps 3 ?_
    show pm_R (d + 2) mt_X7_init 249 [some (.ref 66), some (.ref 1012), some (.int (pm_op (nI i + Int32.ofInt 1)))] [] h' Q
    rw [pm_op_eq, show Int32.ofInt 1 = 1 by decide, nI_1]
    exact cm_l3 hQ k (i + 1) (by omega) h' J'
/-- what the reference holds when it is made -/
def cK7 (R : Nat → List Int32) (h0 h : pm_H) : Prop := (∀ o, o ≠ 66 → o ≠ 68 → o ≠ 75 → o ≠ 76 → o ≠ 77 → o ≠ 88 → h o = h0 o) ∧ (∀ j, j ≠ 11 → j ≠ 13 → j ≠ 30 → (j < 17 ∨ 22 < j) → h 66 j = h0 66 j) ∧ (∀ j, j < 10 → h 68 j = 2) ∧ (∀ j, j < 4 → h 88 j = -1) ∧ h 66 30 = -1 ∧ h 66 11 = 0 ∧ h 66 13 = nI 1 ∧ zTm h 0 R
theorem cm_text {l0 l1 l2 l3 : zLs} {c0 c1 c2 : List Int32} (P : cPk l0 l1 l2 l3 c0 c1 c2) {h : pm_H} {Q : Int32 → pm_H → Prop} (J1 : h 66 11 = nI 36) (J2 : ∀ j, j < 36 → h 75 j = cT0 j) (h13 : h 66 13 = nI 0) (hQ : ∀ r h', (∀ o, o ≠ 66 → o ≠ 76 → o ≠ 77 → h' o = h o) → (∀ j, j ≠ 11 → j ≠ 13 → (j < 17 ∨ 22 < j) → h' 66 j = h 66 j) → h' 66 11 = 0 → h' 66 13 = nI 1 → zTm h' 0 (cRR c0 c1 c2) → Q r h') : wp_X7_text (wp_X7_part (zMc 6 0)) h Q := by
  obtain ⟨g, v0, v1, v2, v3, n0, n1, n2, z, -⟩ := P
  obtain ⟨e, e0, e1, e2⟩ := g (h 75) J2
  refine sm_text (T := h 75) (n := 36) (tc := 0) (by omega) (by omega) e v0 e0 v1 (fun _ => n0) e1 v2 (fun _ => n1) e2 v3 (fun _ => n2) J1 rfl h13 (fun p hp F => absurd (zFp_not F rfl rfl rfl z) id) (fun _ _ _ _ h2 M r0 r1 r2 u0 u1 u2 => ?_)
  obtain ⟨M1, M2, M3, M4⟩ := M
  refine hQ _ _ (fun o a b c => by rw [zb_un a, zb_un c, zb_un a]; exact M1 o a b c) (fun j q1 q2 q3 => by rw [zb_uj q2, zb_un (by omega), zb_uj q1]; exact M2 j q3) (by rw [zb_uj (by omega), zb_un (by omega), zb_us]) zb_us ?_
  have E1 : (pm_u (pm_u (pm_u h2 66 11 0) 77 (4 * 0 + 3) (nI (c0.length + c1.length + c2.length))) 66 13 (nI (0 + 1))) 76 = h2 76 := by rw [zb_un (by omega), zb_un (by omega), zb_un (by omega)]
  have E2 : ∀ j, j < 4 * 0 + 3 → (pm_u (pm_u (pm_u h2 66 11 0) 77 (4 * 0 + 3) (nI (c0.length + c1.length + c2.length))) 66 13 (nI (0 + 1))) 77 j = h2 77 j := fun j hj => by rw [zb_un (by omega), zb_uj (by omega), zb_un (by omega)]
  have E3 : (pm_u (pm_u (pm_u h2 66 11 0) 77 (4 * 0 + 3) (nI (c0.length + c1.length + c2.length))) 66 13 (nI (0 + 1))) 77 (4 * 0 + 3) = nI (c0.length + c1.length + c2.length) := by rw [zb_un (by omega), zb_us]
  intro w hw
  rw [E1]
  rcases (show w = 0 ∨ w = 1 ∨ w = 2 by omega) with rfl | rfl | rfl
  · refine ⟨by rw [E2 _ (by omega), r0]; rfl, by rw [E2 _ (by omega), show 4 * 0 + 0 + 1 = 4 * 0 + 1 from rfl, r1]; simp [zBg, cRR], fun i hi => ?_⟩
    simp only [zBg, Nat.zero_add]; exact u0 i hi
  · refine ⟨by rw [E2 _ (by omega), r1]; simp [zBg, cRR], by rw [E2 _ (by omega), show 4 * 0 + 1 + 1 = 4 * 0 + 2 from rfl, r2]; simp [zBg, cRR], fun i hi => ?_⟩
    have := u1 i hi
    rw [Nat.add_assoc] at this
    simp only [zBg, Nat.zero_add]; exact this
  · refine ⟨by rw [E2 _ (by omega), r2]; simp [zBg, cRR], by rw [show 4 * 0 + 2 + 1 = 4 * 0 + 3 from rfl, E3]; simp [zBg, cRR], fun i hi => ?_⟩
    have := u2 i hi
    rw [Nat.add_assoc] at this
    simp only [zBg, Nat.zero_add]; exact this
theorem cm_tail {l0 l1 l2 l3 : zLs} {c0 c1 c2 : List Int32} (P : cPk l0 l1 l2 l3 c0 c1 c2) {h0 : pm_H} {Q : Option Value → pm_H → Prop} (h11 : h0 66 11 = 0) (h13 : h0 66 13 = 0) (hQ : ∀ h : pm_H, cK7 (cRR c0 c1 c2) h0 h → Q none h) : pm_R (44 + 2) mt_X7_init 198 [some (.ref 66), none, none] [] h0 Q := by
  refine pm_steps 2 ?_
  refine cm_l1 (d := 45) (h0 := h0) (fun h1 A => ?_) 4 0 rfl h0 ⟨fun j hj => absurd hj (Nat.not_lt_zero j), fun _ _ => rfl⟩
  refine pm_steps 2 ?_
  refine cm_l2 (d := 45) (h0 := h1) (fun h2 B => ?_) 10 0 rfl h1 ⟨fun j hj => absurd hj (Nat.not_lt_zero j), fun _ _ => rfl⟩
  refine pm_steps 7 ?_
  have k : ∀ o, o ≠ 66 → o ≠ 68 → o ≠ 88 → pm_u h2 66 30 (-1) o = h0 o := fun o a b c => by rw [zb_un a, B.2 o b, A.2 o c]
  have k66 : ∀ j, j ≠ 30 → pm_u h2 66 30 (-1) 66 j = h0 66 j := fun j hj => by rw [zb_uj hj, B.2 66 (by omega), A.2 66 (by omega)]
  refine cm_l3 (d := 44) (h0 := pm_u h2 66 30 (-1)) (fun h3 C => ?_) 36 0 rfl (pm_u h2 66 30 (-1)) ⟨by rw [k66 11 (by omega), h11]; exact zb_c0, fun j hj => absurd hj (Nat.not_lt_zero j), fun _ _ _ => rfl, fun _ _ => rfl⟩
  obtain ⟨C1, C2, C3, C4⟩ := C
  refine pm_steps 2 ?_
  refine zo_mtext (cm_text P C1 C2 (by rw [C4 13 (by omega), k66 13 (by omega), h13]; exact zb_c0) (fun r h4 D1 D2 D3 D4 D5 => ?_))
  refine pm_steps 2 ?_
  refine hQ h4 ⟨fun o a b c d e f => by rw [D1 o a d e, C3 o a c, k o a b f], fun j a b c d => by rw [D2 j a b d, C4 j a, k66 j c], fun j hj => ?_, fun j hj => ?_, ?_, D3, D4, D5⟩
  · rw [D1 68 (by omega) (by omega) (by omega), C3 68 (by omega) (by omega), zb_un (by omega)]
    exact B.1 j hj
  · rw [D1 88 (by omega) (by omega) (by omega), C3 88 (by omega) (by omega), zb_un (by omega), B.2 88 (by omega)]
    exact A.1 j hj
  · rw [D2 30 (by omega) (by omega) (by omega), C4 30 (by omega), zb_us]
