/-! MATHEMATICS, 81: the reference's whole text -/
/-- what a rule's reading leaves alone -/
def zMh (tc w m : Nat) (h h' : pm_H) : Prop := (∀ o, o ≠ 66 → o ≠ 76 → o ≠ 77 → h' o = h o) ∧ (∀ j, (j < 17 ∨ 22 < j) → h' 66 j = h 66 j) ∧ (∀ j, j < 170 * tc + m → h' 76 j = h 76 j) ∧ (∀ j, j < 4 * tc + w → h' 77 j = h 77 j)
theorem zMh_t {tc w w' m m' : Nat} {h h1 h2 : pm_H} (H1 : zMh tc w m h h1) (H2 : zMh tc w' m' h1 h2) (hw : w ≤ w') (hm : m ≤ m') : zMh tc w m h h2 :=
  ⟨fun a p q r => (H2.1 a p q r).trans (H1.1 a p q r), fun j hj => (H2.2.1 j hj).trans (H1.2.1 j hj), fun j hj => (H2.2.2.1 j (by omega)).trans (H1.2.2.1 j hj), fun j hj => (H2.2.2.2 j (by omega)).trans (H1.2.2.2 j hj)⟩
theorem zMh_f {tc w m : Nat} {h h1 : pm_H} (H : zMf tc m h h1) : zMh tc w m h h1 := ⟨fun a p q _ => H.1 a p q, fun j hj => H.2.1 j hj, fun j hj => H.2.2 j hj, fun j _ => by rw [H.1 _ (by omega) (by omega)]⟩
theorem zRk_0 {h : pm_H} {n : Nat} {l : zLs} (H : zRk h n l) : h 66 20 = 0 ↔ l.2.2.1 = 0 := by
  obtain ⟨-, -, -, -, -, H⟩ := H
  rcases H with ⟨t, e⟩ | ⟨t, e⟩ | ⟨t, e, -⟩ | ⟨t, e, -⟩ | ⟨t, e, -⟩
  · rw [e]; exact ⟨fun _ => t, fun _ => rfl⟩
  · rw [e]; exact ⟨fun q => absurd q (by decide), fun q => by omega⟩
  · rw [e]; exact ⟨fun q => absurd q (by decide), fun q => by omega⟩
  · rw [e]; exact ⟨fun q => absurd q (by decide), fun q => by omega⟩
  · rw [e]; exact ⟨fun q => absurd q (by decide), fun q => by omega⟩
section
variable {T : Nat → Int32} {n tc : Nat} {h : pm_H}
theorem n4 {w : Nat} (ht : tc < 6) (hw : w < 4) : (4 : Int32) * nI tc + nI w = nI (4 * tc + w) := by
  have e4 : (4 : Int32) * nI tc = nI (4 * tc) := by
    rw [show (4 : Int32) = nI 4 by decide, zb_teq, zb_tmul (by rw [nI_toInt (by omega), nI_toInt (by omega)]; omega) (by rw [nI_toInt (by omega), nI_toInt (by omega)]; omega), nI_toInt (by omega), nI_toInt (by omega), nI_toInt (by omega)]
    omega
  rw [e4, nI_add]
theorem sm_part {Q : Int32 → pm_H → Prop} {l l' : zLs} {b : Bool} {c : List Int32} {m w : Nat} (hn : n ≤ 160) (ht : tc < 6) (hw : w < 3) (E : zRu T n w l = some (b, l', c)) (v : zLv n l) (A : zMa T n tc 0 l m h) (hm : m ≤ l.1) (q1 : b = true → ∀ h', zMh tc w m h h' → zMa T n tc 0 l' (m + c.length) h' → h' 77 (4 * tc + w) = nI m → (∀ i, i < c.length → h' 76 (170 * tc + m + i) = zTw (c.getD i 0)) → Q 1 h') (q0 : b = false → ∀ h', zMh tc w m h h' → h' 66 19 = nI l'.1 → Q 0 h') : wp_X7_part (zMc 6 0) (1000 + w) (nI w) h Q := by
  have hl : l.1 ≤ n := by have := v.1; have := v.2.1; omega
  unfold zRu at E
  unfold wp_X7_part
  refine sm_is (k := w) hn (by omega) A.2.1 (fun c0 => ?_) (fun c0 => ?_)
  · rw [if_pos (show zWi l w from c0)] at E
    rw [zb_eq, if_neg (by decide)]
    obtain ⟨w1, w2, w3⟩ := @zLv_nx T n l v (by rw [c0.1]; decide)
    refine sm_n hn v A (fun h1 B1 A1 => ?_)
    obtain ⟨t0, t1, t2, t3, t4⟩ := id A1
    simp only [pm_op_eq, t3, t4, n4 ht (show w < 4 by omega)]
    rw [zb_ib (zb_in (by omega) (by omega)), nI_clamp (by omega)]
    have A2 : zMa T n tc 0 (zLx T n l.2.1) m (pm_u h1 77 (4 * tc + w) (nI m)) := by
      refine ⟨by rw [zb_un (by omega)]; exact t0, ?_, by rw [zb_un (by omega)]; exact t2, by rw [zb_un (by omega)]; exact t3, by rw [zb_un (by omega)]; exact t4⟩
      unfold zRk
      rw [zb_un (by omega), zb_un (by omega)]
      exact t1
    have F2 : zMh tc w m h (pm_u h1 77 (4 * tc + w) (nI m)) := zMh_t (zMh_f B1.1) (w' := w) (m' := m) ⟨fun o a b c => by rw [zb_un c], fun j _ => by rw [zb_un (by omega)], fun j _ => by rw [zb_un (by omega)], fun j hj => by rw [zb_uj (by omega)]⟩ (Nat.le_refl _) (Nat.le_refl _)
    have e77 : (pm_u h1 77 (4 * tc + w) (nI m)) 77 (4 * tc + w) = nI m := zb_us
    generalize pm_u h1 77 (4 * tc + w) (nI m) = h2 at A2 F2 e77 ⊢
    rcases zThn_inv E with ⟨c1, e1, e2, e3⟩ | ⟨l1, c1, c2, e1, e2, e3⟩
    · refine sm_all hn ht (6 * n + 6) 0 0 _ false l' c1 (by omega) e1 w1 (by omega) 6 (by omega) h2 m _ A2 (by omega) (fun h3 hb _ => absurd hb (by decide)) (fun h3 _ B3 => ?_)
      rw [zb_eq, if_pos rfl]
      exact q0 e2 h3 (zMh_t F2 (zMh_f (w := w) B3.1) (Nat.le_refl _) (Nat.le_refl _)) (B3.2.2 rfl)
    · obtain ⟨v1, len1⟩ := zPz_len (6 * n + 6) 0 0 _ w1 _ _ _ e1
      refine sm_all hn ht (6 * n + 6) 0 0 _ true l1 c1 (by omega) e1 w1 (by omega) 6 (by omega) h2 m _ A2 (by omega) (fun h3 _ B3 => ?_) (fun h3 hb _ => absurd hb (by decide))
      obtain ⟨A3, W3⟩ := B3.2.1 rfl
      rw [zb_eq, if_neg (by decide)]
      refine sm_is_ A3.2.1 (fun c7 => ?_) (fun c7 => ?_)
      · rw [if_pos (show zSn l1 59 from c7)] at e2
        obtain ⟨y1, y2, y3⟩ := zPr_inv e2
        rw [zb_eq, if_neg (by decide)]
        refine sm_n hn v1 A3 (fun h4 B4 A4 => ?_)
        have ec : c = c1 ++ [] := by rw [e3, ← y3]
        rw [List.append_nil] at ec
        rw [ec, ← y2] at q1
        refine q1 y1.symm h4 (zMh_t F2 (zMh_t (zMh_f (w := w) B3.1) (zMh_f (w := w) B4.1) (Nat.le_refl _) (by omega)) (Nat.le_refl _) (Nat.le_refl _)) A4 ?_ (fun i hi => ?_)
        · rw [B4.1.1 77 (by omega) (by omega), B3.1.1 77 (by omega) (by omega), e77]
        · rw [B4.1.2.2 _ (by omega), W3 i hi]
      · rw [if_neg (show ¬ zSn l1 59 from c7)] at e2
        obtain ⟨y1, y2, y3⟩ := zPr_inv e2
        rw [zb_eq, if_pos rfl]
        refine q0 y1.symm h3 (zMh_t F2 (zMh_f (w := w) B3.1) (Nat.le_refl _) (Nat.le_refl _)) ?_
        rw [← y2]; exact A3.2.1.2.2.1
  · rw [if_neg (show ¬ zWi l w from c0)] at E
    obtain ⟨y1, y2, y3⟩ := zPr_inv E
    rw [zb_eq, if_pos rfl]
    exact q0 y1.symm h ⟨fun _ _ _ _ => rfl, fun _ _ => rfl, fun _ _ => rfl, fun _ _ => rfl⟩ (y2 ▸ A.2.1.2.2.1)
theorem sm_text {Q : Int32 → pm_H → Prop} {l0 l1 l2 l3 : zLs} {b0 b1 b2 : Bool} {c0 c1 c2 : List Int32} (hn : n ≤ 160) (ht : tc < 6) (el : zLx T n 0 = l0) (v0 : zLv n l0) (e0 : zRu T n 0 l0 = some (b0, l1, c0)) (v1 : zLv n l1) (n0 : b0 = true → l0.1 + c0.length ≤ l1.1) (e1 : zRu T n 1 l1 = some (b1, l2, c1)) (v2 : zLv n l2) (n1 : b1 = true → l1.1 + c1.length ≤ l2.1) (e2 : zRu T n 2 l2 = some (b2, l3, c2)) (v3 : zLv n l3) (n2 : b2 = true → l2.1 + c2.length ≤ l3.1) (h11 : h 66 11 = nI n) (h75 : h 75 = T) (h13 : h 66 13 = nI tc) (qf : ∀ p, p ≤ 160 → zFp b0 b1 b2 l1 l2 l3 p → ∀ h', zMh tc 0 0 h h' → Q (-100 - nI p) (pm_u h' 66 11 0)) (qk : b0 = true → b1 = true → b2 = true → l3.2.2.1 = 0 → ∀ h', zMh tc 0 0 h h' → h' 77 (4 * tc + 0) = nI 0 → h' 77 (4 * tc + 1) = nI c0.length → h' 77 (4 * tc + 2) = nI (c0.length + c1.length) → (∀ i, i < c0.length → h' 76 (170 * tc + i) = zTw (c0.getD i 0)) → (∀ i, i < c1.length → h' 76 (170 * tc + c0.length + i) = zTw (c1.getD i 0)) → (∀ i, i < c2.length → h' 76 (170 * tc + (c0.length + c1.length) + i) = zTw (c2.getD i 0)) → Q (nI tc) (pm_u (pm_u (pm_u h' 66 11 0) 77 (4 * tc + 3) (nI (c0.length + c1.length + c2.length))) 66 13 (nI (tc + 1)))) : wp_X7_text (wp_X7_part (zMc 6 0)) h Q := by
  have k1 : l1.1 ≤ 160 := by have := v1.1; have := v1.2.1; omega
  have k2 : l2.1 ≤ 160 := by have := v2.1; have := v2.2.1; omega
  have k3 : l3.1 ≤ 160 := by have := v3.1; have := v3.2.1; omega
  unfold wp_X7_text
  rw [zb_eq, h13, show (6 : Int32) = nI 6 by decide, if_neg (fun q => by have := (nI_eq (by omega) (by omega)).mp q; omega)]
  refine sm_nxt (i := 0) hn (Nat.zero_le _) (by rw [zb_uj (by omega), zb_uj (by omega), zb_uj (by omega)]; exact h11) (by rw [zb_uj (by omega), zb_uj (by omega), zb_us]; exact zb_c0) (fun ha f f6 z => ?_)
  rw [zb_un (by omega), zb_un (by omega), zb_un (by omega), h75, el] at z
  have Aa : zMa T n tc 0 l0 0 ha := ⟨by rw [f 75 (by omega), zb_un (by omega), zb_un (by omega), zb_un (by omega)]; exact h75, z, by rw [f6 22 (by omega) (by omega) (by omega) (by omega), zb_uj (by omega), zb_us]; exact zb_c0, by rw [f6 13 (by omega) (by omega) (by omega) (by omega), zb_uj (by omega), zb_uj (by omega), zb_uj (by omega)]; exact h13, by rw [f6 17 (by omega) (by omega) (by omega) (by omega), zb_us]; exact zb_c0⟩
  have fa : zMh tc 0 0 h ha := ⟨fun o a _ _ => by rw [f o a, zb_un a, zb_un a, zb_un a], fun j hj => by rw [f6 j (by omega) (by omega) (by omega) (by omega), zb_uj (by omega), zb_uj (by omega), zb_uj (by omega)], fun j _ => by rw [f 76 (by omega), zb_un (by omega), zb_un (by omega), zb_un (by omega)], fun j _ => by rw [f 77 (by omega), zb_un (by omega), zb_un (by omega), zb_un (by omega)]⟩
  have P0 : ∀ {X : Int32 → pm_H → Prop}, wp_X7_part (zMc 6 0) (1000 + 0) (nI 0) ha X → wp_X7_part (zMc 6 0) 1000 0 ha X := fun q => by rw [← zb_c0] at q; exact q
  refine P0 (sm_part hn ht (by omega) e0 v0 Aa (Nat.zero_le _) (fun hb0 hA fA A1 r0 s0 => ?_) (fun hb0 hA fA g => ?_))
  · have m0 := n0 hb0
    rw [Nat.zero_add] at A1
    rw [zb_eq, if_neg (by decide)]
    have P1 : ∀ {X : Int32 → pm_H → Prop}, wp_X7_part (zMc 6 0) (1000 + 1) (nI 1) hA X → wp_X7_part (zMc 6 0) 1001 1 hA X := fun q => by rw [← zb_c1] at q; exact q
    refine P1 (sm_part hn ht (by omega) e1 v1 A1 (by omega) (fun hb1 hB fB A2 r1 s1 => ?_) (fun hb1 hB fB g => ?_))
    · have m1 := n1 hb1
      rw [zb_eq, if_neg (by decide)]
      have P2 : ∀ {X : Int32 → pm_H → Prop}, wp_X7_part (zMc 6 0) (1000 + 2) (nI 2) hB X → wp_X7_part (zMc 6 0) 1002 2 hB X := fun q => by rw [show (nI 2) = (2 : Int32) by decide] at q; exact q
      refine P2 (sm_part hn ht (by omega) e2 v2 A2 (by omega) (fun hb2 hC fC A3 r2 s2 => ?_) (fun hb2 hC fC g => ?_))
      · have m2 := n2 hb2
        have FC := zMh_t fa (zMh_t fA (zMh_t fB fC (by omega) (by omega)) (by omega) (by omega)) (Nat.le_refl _) (Nat.le_refl _)
        rw [zb_eq, if_neg (by decide), zb_eq]
        obtain ⟨t0, t1, t2, t3, t4⟩ := id A3
        by_cases c : l3.2.2.1 = 0
        · rw [if_pos ((zRk_0 t1).mpr c)]
          have n43 := n4 (w := 3) ht (by omega)
          rw [show (nI 3) = (3 : Int32) by decide] at n43
          simp only [pm_op_eq, t3, t4, n43, nI_1]
          rw [zb_ib (zb_in (by omega) (by omega)), nI_clamp (by omega)]
          refine qk hb0 hb1 hb2 c hC FC ?_ ?_ ?_ (fun i hi => ?_) (fun i hi => ?_) (fun i hi => ?_)
          · rw [fC.2.2.2 _ (by omega), fB.2.2.2 _ (by omega), r0]
          · rw [fC.2.2.2 _ (by omega), r1]
          · rw [r2]
          · have := s0 i hi
            rw [Nat.add_zero] at this
            rw [fC.2.2.1 _ (by omega), fB.2.2.1 _ (by omega), this]
          · rw [fC.2.2.1 _ (by omega), s1 i hi]
          · rw [s2 i hi]
        · rw [if_neg (fun q => c ((zRk_0 t1).mp q)), t1.2.2.1, pm_op_eq]
          exact qf _ k3 (Or.inr (Or.inr (Or.inr ⟨hb0, hb1, hb2, c, rfl⟩))) hC FC
      · rw [zb_eq, if_pos rfl, g, pm_op_eq]
        exact qf _ k3 (Or.inr (Or.inr (Or.inl ⟨hb0, hb1, hb2, rfl⟩))) hC (zMh_t fa (zMh_t fA (zMh_t fB fC (by omega) (by omega)) (by omega) (by omega)) (Nat.le_refl _) (Nat.le_refl _))
    · rw [zb_eq, if_pos rfl, g, pm_op_eq]
      exact qf _ k2 (Or.inr (Or.inl ⟨hb0, hb1, rfl⟩)) hB (zMh_t fa (zMh_t fA fB (by omega) (by omega)) (Nat.le_refl _) (Nat.le_refl _))
  · rw [zb_eq, if_pos rfl, g, pm_op_eq]
    exact qf _ k1 (Or.inl ⟨hb0, rfl⟩) hA (zMh_t fa fA (Nat.le_refl _) (Nat.le_refl _))
end
