/-! THE END OF THE CLASS'S CONSTRUCTOR: the first text is put on the tape and read -/
def mt_X6_init : pm_M := (6, 2, 0, [(132, .iconst 0), (133, .istore_n 1), (134, .iload_n 1), (135, .ldc 54), (137, .invokevirtual 56), (140, .if_icmp .ge 23), (143, .aload_n 0), (144, .getfield 29), (147, .ldc 54), (149, .iload_n 1), (150, .invokevirtual 62), (153, .invokevirtual 66), (156, .pop), (157, .iinc 1 1), (160, .goto (-26)), (163, .aload_n 0), (164, .getfield 29), (167, .aload_n 0), (168, .getfield 35), (171, .iconst 0), (172, .aaload), (173, .invokevirtual 70), (176, .pop), (177, .aload_n 0), (178, .iconst 1), (179, .putfield 74), (182, .return_)])
theorem ci_X6 : pm_I mt_X6_init yX6_init cX6_init none := ⟨by decide +kernel, by decide +kernel, by decide +kernel, by decide +kernel, rfl, by decide +kernel⟩
def cJ (i : Nat) (h0 h : pm_H) : Prop := h 34 0 = nI i ∧ (∀ j, j < i → h 35 j = cT0 j) ∧ ∀ o, o ≠ 34 → o ≠ 35 → h o = h0 o
theorem ct_put {i : Nat} {h0 h : pm_H} {Q : Int32 → pm_H → Prop} (hi : i < 36) (J : cJ i h0 h) (hQ : ∀ r h', cJ (i + 1) h0 h' → Q r h') : wp_X0_put (cT0 i) h Q := by
  obtain ⟨J1, J2, J3⟩ := J
  unfold wp_X0_put
  rw [zb_lt, J1, show (160 : Int32) = nI 160 by decide, if_pos (nI_lt (by omega) (by omega)), zb_ib (zb_in (by omega) (by omega)), pm_op_eq, nI_clamp (by omega)]
  refine hQ _ _ ⟨by rw [zb_us]; exact nI_1 i, fun j hj => ?_, fun o h1 h2 => by rw [zb_un h1, zb_un h2]; exact J3 o h1 h2⟩
  rw [zb_un (by omega)]
  by_cases e : j = i
  · subst e; exact zb_us
  · rw [zb_uj e]; exact J2 j (by omega)
theorem ct_loop {d : Nat} {h0 : pm_H} {Q : Option Value → pm_H → Prop} (hQ : ∀ h, cJ 36 h0 h → pm_R (d + 1) mt_X6_init 163 [some (.ref 0), some (.int (nI 36))] [] h Q) :
    ∀ (k i : Nat), i + k = 36 → ∀ h, cJ i h0 h → pm_R (d + 1) mt_X6_init 134 [some (.ref 0), some (.int (nI i))] [] h Q
  | 0, i, hi, h, J => by
    have hi : i = 36 := hi
    subst hi
    refine pm_steps 3 ?_
    show pm_R (d + 1) mt_X6_init 140 _ [.int (nI 36), .int (nI 36)] h Q
    refine pm_steps 1 ?_
    show pm_lt (nI 36) (nI 36) (pm_R (d + 1) mt_X6_init 143 [some (.ref 0), some (.int (nI 36))] [] h Q) (pm_R (d + 1) mt_X6_init 163 [some (.ref 0), some (.int (nI 36))] [] h Q)
    refine pm_ltF (by decide) ?_
    exact hQ h J
  | k + 1, i, hi, h, J => by
    refine pm_steps 3 ?_
    show pm_R (d + 1) mt_X6_init 140 _ [.int (nI 36), .int (nI i)] h Q
    refine pm_steps 1 ?_
    show pm_lt (nI i) (nI 36) (pm_R (d + 1) mt_X6_init 143 [some (.ref 0), some (.int (nI i))] [] h Q) (pm_R (d + 1) mt_X6_init 163 [some (.ref 0), some (.int (nI i))] [] h Q)
    refine pm_ltT (nI_lt (by omega) (by omega)) ?_
    refine pm_steps 5 ?_
    show pm_ib (pm_in (nI i) 36) (pm_R (d + 1) mt_X6_init 153 [some (.ref 0), some (.int (nI i))] [.int (nI ((pm_sl 12).getD (nI i).toNatClampNeg 0)), .ref 34] h Q)
    rw [zb_ib (zb_in (by omega) (by omega)), nI_clamp (by omega)]
    refine pm_steps 1 ?_
    refine @wp_X0_put_ok _ _ _ _ (ct_put (by omega) J (fun r h' J' => ?_))
    refine pm_steps 3 ?_
    show pm_R (d + 1) mt_X6_init 134 [some (.ref 0), some (.int (pm_op (nI i + Int32.ofInt 1)))] [] h' Q
    rw [pm_op_eq, show Int32.ofInt 1 = 1 by decide, nI_1]
    exact ct_loop hQ k (i + 1) (by omega) h' J'
/-- the first text's reading, for any tape that begins so -/
def cPk (l0 l1 l2 l3 : zLs) (c0 c1 c2 : List Int32) : Prop := (∀ T : Nat → Int32, (∀ j, j < 36 → T j = cT0 j) → zLx T 36 0 = l0 ∧ zRu T 36 0 l0 = some (true, l1, c0) ∧ zRu T 36 1 l1 = some (true, l2, c1) ∧ zRu T 36 2 l2 = some (true, l3, c2)) ∧ zLv 36 l0 ∧ zLv 36 l1 ∧ zLv 36 l2 ∧ zLv 36 l3 ∧ l0.1 + c0.length ≤ l1.1 ∧ l1.1 + c1.length ≤ l2.1 ∧ l2.1 + c2.length ≤ l3.1 ∧ l3.2.2.1 = 0 ∧ zW c0 0 1 ∧ zW c1 0 1 ∧ zW c2 0 1
theorem cPk_ex : ∃ (l0 l1 l2 l3 : zLs) (c0 c1 c2 : List Int32), cPk l0 l1 l2 l3 c0 c1 c2 := by
  obtain ⟨l0, l1, l2, l3, c0, c1, c2, e, v0, e0, v1, n0, e1, v2, n1, e2, v3, n2, z, w0, w1, w2⟩ := cT0_all (T := cT0) (fun _ _ => rfl)
  exact ⟨l0, l1, l2, l3, c0, c1, c2, fun T hT => ⟨(zLx_congr hT (Nat.zero_le _)).trans e, (zRu_congr hT v0).trans e0, (zRu_congr hT v1).trans e1, (zRu_congr hT v2).trans e2⟩, v0, v1, v2, v3, n0, n1, n2, z, w0, w1, w2⟩
def cRR (c0 c1 c2 : List Int32) : Nat → List Int32 := fun w => if w = 0 then c0 else if w = 1 then c1 else c2
theorem cRR_wf {l0 l1 l2 l3 : zLs} {c0 c1 c2 : List Int32} (P : cPk l0 l1 l2 l3 c0 c1 c2) : zWf (cRR c0 c1 c2) := by
  obtain ⟨-, v0, v1, v2, v3, n0, n1, n2, z, w0, w1, w2⟩ := P
  have m3 : l3.1 ≤ 160 := by have := v3.1; have := v3.2.1; omega
  refine ⟨fun w hw => ?_, by simp [zBg, cRR]; omega⟩
  rcases (show w = 0 ∨ w = 1 ∨ w = 2 by omega) with rfl | rfl | rfl
  · exact w0
  · exact w1
  · exact w2
/-- what the class holds when it is made -/
def cK6 (R : Nat → List Int32) (h0 h : pm_H) : Prop := (∀ o, o ≠ 0 → o ≠ 34 → o ≠ 35 → o ≠ 40 → o ≠ 41 → o ≠ 42 → h o = h0 o) ∧ (∀ j, j ≠ 6 → h 0 j = h0 0 j) ∧ h 0 6 = 1 ∧ h 34 0 = 0 ∧ zTx h 0 R
theorem ct_read {a : Nat} {h : pm_H} {Q : Option Value → pm_H → Prop} (hw : wp_X0_readInto (zCc 6 0) a h (fun r h => Q (some (.int r)) h)) : pm_R 46 mt_X0_readInto 0 [some (.ref 34), some (.ref a), none] [] h Q :=
  wp_X0_readInto_ok (d := 41) (fun a h Q q => pm_R_mono (by omega) (fun _ _ x => x) ((zoC_all 6).1 a h Q q)) (zmC_all 6).1 hw
theorem ct_into {l0 l1 l2 l3 : zLs} {c0 c1 c2 : List Int32} (P : cPk l0 l1 l2 l3 c0 c1 c2) {h0 h : pm_H} {Q : Int32 → pm_H → Prop} (J : cJ 36 h0 h) (hQ : ∀ r h', (∀ o, o ≠ 34 → o ≠ 35 → o ≠ 40 → o ≠ 41 → o ≠ 42 → h' o = h0 o) → h' 34 0 = 0 → zTx h' 0 (cRR c0 c1 c2) → Q r h') : wp_X0_readInto (zCc 6 0) (40 + 3 * 0) h Q := by
  obtain ⟨J1, J2, J3⟩ := J
  obtain ⟨g, v0, v1, v2, v3, n0, n1, n2, z, -⟩ := P
  obtain ⟨e, e0, e1, e2⟩ := g (h 35) J2
  refine sp_into (T := h 35) (n := 36) (tc := 0) (by omega) (by omega) e v0 e0 v1 (fun _ => n0) e1 v2 (fun _ => n1) e2 v3 (fun _ => n2) J1 rfl (fun p hp F => absurd (zFp_not F rfl rfl rfl z) id) (fun _ _ _ _ h1 I y0 y1 y2 s0 s1 s2 => ?_)
  obtain ⟨I1, I2⟩ := I
  refine hQ _ _ (fun o a b c d e => by rw [I1 o a c d e]; exact J3 o a b) I2 ?_
  intro w hw
  rcases (show w = 0 ∨ w = 1 ∨ w = 2 by omega) with rfl | rfl | rfl
  · refine ⟨by rw [y0]; simp [zBg, cRR], fun i hi => ?_⟩
    simp only [zBg, Nat.zero_add]; exact s0 i hi
  · refine ⟨by rw [y1]; simp [zBg, cRR], fun i hi => ?_⟩
    simp only [zBg, Nat.zero_add]; exact s1 i hi
  · refine ⟨by rw [y2]; simp [zBg, cRR], fun i hi => ?_⟩
    simp only [zBg, Nat.zero_add]; exact s2 i hi
theorem ct_tail {l0 l1 l2 l3 : zLs} {c0 c1 c2 : List Int32} (P : cPk l0 l1 l2 l3 c0 c1 c2) {h0 : pm_H} {Q : Option Value → pm_H → Prop} (h34 : h0 34 0 = 0) (hQ : ∀ h : pm_H, cK6 (cRR c0 c1 c2) h0 h → Q none h) : pm_R (46 + 1) mt_X6_init 132 [some (.ref 0), none] [] h0 Q := by
  refine pm_steps 2 ?_
  refine ct_loop (h0 := h0) (fun h J => ?_) 36 0 rfl h0 ⟨h34, fun j hj => absurd hj (Nat.not_lt_zero j), fun _ _ _ => rfl⟩
  refine pm_steps 6 ?_
  show pm_ib (pm_in (Int32.ofInt 0) 6) (pm_R (46 + 1) mt_X6_init 173 [some (.ref 0), some (.int (nI 36))] [.ref (40 + 3 * (Int32.ofInt 0).toNatClampNeg), .ref 34] h Q)
  rw [zb_ib (by decide), show (Int32.ofInt 0).toNatClampNeg = 0 by decide]
  refine pm_steps 1 ?_
  refine ct_read (ct_into P J (fun r h' I1 I2 I3 => ?_))
  refine pm_steps 5 ?_
  refine hQ _ ⟨fun o a b c d e f => by rw [zb_un a]; exact I1 o b c d e f, fun j hj => by rw [zb_uj hj, I1 0 (by omega) (by omega) (by omega) (by omega) (by omega)], zb_us, by rw [zb_un (by omega)]; exact I2, zTx_of (zb_un (by omega)) (zb_un (by omega)) I3⟩
