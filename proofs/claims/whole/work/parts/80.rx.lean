/-! MATHEMATICS, 80: the class's whole text -/
/-- the place of the fault -/
def zFp (b0 b1 b2 : Bool) (l1 l2 l3 : zLs) (p : Nat) : Prop := (b0 = false ∧ p = l1.1) ∨ (b0 = true ∧ b1 = false ∧ p = l2.1) ∨ (b0 = true ∧ b1 = true ∧ b2 = false ∧ p = l3.1) ∨ (b0 = true ∧ b1 = true ∧ b2 = true ∧ l3.2.2.1 ≠ 0 ∧ p = l3.1)
def zCi (tc : Nat) (h h' : pm_H) : Prop := (∀ o, o ≠ 34 → o ≠ 40 + 3 * tc → o ≠ 40 + 3 * tc + 1 → o ≠ 40 + 3 * tc + 2 → h' o = h o) ∧ h' 34 0 = 0
section
variable {T : Nat → Int32} {n tc : Nat} {h : pm_H}
theorem sp_fin {Q : Int32 → pm_H → Prop} {h0 : pm_H} {w p : Nat} (ht : tc < 6) (hp : p ≤ 160) (f : zCh tc w h0 h) (H : zCp n tc p h) (q : ∀ h', zCi tc h0 h' → Q (nI p) h') : pm_eq (h 34 4) 0 (Q (h 34 7) (pm_u h 34 0 0)) (wp_X0_refuse h (fun h839 => Q (h839 34 7) (pm_u h839 34 0 0))) := by
  rw [zb_eq, H.2.2.1, if_neg (by decide)]
  refine sp_rp ht hp H (fun h1 f1 H1 => ?_)
  rw [H1.2.2.2.1]
  refine q _ ⟨fun o a b c d => ?_, zb_us⟩
  rw [zb_un a, f1.1 o a b c, f.1 o a b c d]
theorem sp_into {Q : Int32 → pm_H → Prop} {l0 l1 l2 l3 : zLs} {b0 b1 b2 : Bool} {c0 c1 c2 : List Int32} (hn : n ≤ 160) (ht : tc < 6) (el : zLx T n 0 = l0) (v0 : zLv n l0) (e0 : zRu T n 0 l0 = some (b0, l1, c0)) (v1 : zLv n l1) (n0 : b0 = true → l0.1 + c0.length ≤ l1.1) (e1 : zRu T n 1 l1 = some (b1, l2, c1)) (v2 : zLv n l2) (n1 : b1 = true → l1.1 + c1.length ≤ l2.1) (e2 : zRu T n 2 l2 = some (b2, l3, c2)) (v3 : zLv n l3) (n2 : b2 = true → l2.1 + c2.length ≤ l3.1) (h34 : h 34 0 = nI n) (h35 : h 35 = T) (qf : ∀ p, p ≤ 160 → zFp b0 b1 b2 l1 l2 l3 p → ∀ h', zCi tc h h' → Q (nI p) h') (qk : b0 = true → b1 = true → b2 = true → l3.2.2.1 = 0 → ∀ h', zCi tc h h' → h' (40 + 3 * tc + 2) 0 = nI c0.length → h' (40 + 3 * tc + 2) 1 = nI (c0.length + c1.length) → h' (40 + 3 * tc + 2) 2 = nI (c0.length + c1.length + c2.length) → (∀ i, i < c0.length → h' (40 + 3 * tc + 1) i = c0.getD i 0) → (∀ i, i < c1.length → h' (40 + 3 * tc + 1) (c0.length + i) = c1.getD i 0) → (∀ i, i < c2.length → h' (40 + 3 * tc + 1) (c0.length + c1.length + i) = c2.getD i 0) → Q (-1) h') : wp_X0_readInto (zCc 6 0) (40 + 3 * tc) h Q := by
  obtain ⟨a1, a2, a3, a4, a5, a6⟩ := zt_at ht
  have k1 : l1.1 ≤ 160 := by have := v1.1; have := v1.2.1; omega
  have k2 : l2.1 ≤ 160 := by have := v2.1; have := v2.2.1; omega
  have k3 : l3.1 ≤ 160 := by have := v3.1; have := v3.2.1; omega
  unfold wp_X0_readInto
  rw [zb_ib (by simp only [Bool.and_eq_true, Nat.blt_eq]; omega), zt_dec ht]
  show pm_ib (pm_at 0 (40 + 3 * tc) 4) (wp_X0_advance (pm_u (pm_u (pm_u (pm_u h 34 2 (nI (40 + 3 * tc))) (40 + 3 * tc) 2 0) 34 3 0) 34 7 (-1)) _)
  rw [zb_ib a1]
  have g34 : (pm_u (pm_u (pm_u (pm_u h 34 2 (nI (40 + 3 * tc))) (40 + 3 * tc) 2 0) 34 3 0) 34 7 (-1)) 34 0 = nI n := by rw [zb_uj (by omega), zb_uj (by omega), zb_un (by omega), zb_uj (by omega)]; exact h34
  have g35 : (pm_u (pm_u (pm_u (pm_u h 34 2 (nI (40 + 3 * tc))) (40 + 3 * tc) 2 0) 34 3 0) 34 7 (-1)) 35 = T := by rw [zb_un (by omega), zb_un (by omega), zb_un (by omega), zb_un (by omega)]; exact h35
  have g2 : (pm_u (pm_u (pm_u (pm_u h 34 2 (nI (40 + 3 * tc))) (40 + 3 * tc) 2 0) 34 3 0) 34 7 (-1)) 34 2 = nI (40 + 3 * tc) := by rw [zb_uj (by omega), zb_uj (by omega), zb_un (by omega), zb_us]
  have g3 : (pm_u (pm_u (pm_u (pm_u h 34 2 (nI (40 + 3 * tc))) (40 + 3 * tc) 2 0) 34 3 0) 34 7 (-1)) 34 3 = nI 0 := by rw [zb_uj (by omega), zb_us]; exact zb_c0
  have g7 : (pm_u (pm_u (pm_u (pm_u h 34 2 (nI (40 + 3 * tc))) (40 + 3 * tc) 2 0) 34 3 0) 34 7 (-1)) 34 7 = -1 := zb_us
  have gt2 : (pm_u (pm_u (pm_u (pm_u h 34 2 (nI (40 + 3 * tc))) (40 + 3 * tc) 2 0) 34 3 0) 34 7 (-1)) (40 + 3 * tc) 2 = nI 0 := by rw [zb_un (by omega), zb_un (by omega), zb_us]; exact zb_c0
  have gf : zCh tc 0 h (pm_u (pm_u (pm_u (pm_u h 34 2 (nI (40 + 3 * tc))) (40 + 3 * tc) 2 0) 34 3 0) 34 7 (-1)) := ⟨fun o a b c d => by rw [zb_un a, zb_un a, zb_un b, zb_un a], fun j hj => by rw [zb_uj (by omega), zb_uj (by omega), zb_un (by omega), zb_uj (by omega)], fun j hj => absurd hj (by omega)⟩
  generalize pm_u (pm_u (pm_u (pm_u h 34 2 (nI (40 + 3 * tc))) (40 + 3 * tc) 2 0) 34 3 0) 34 7 (-1) = hh at g34 g35 g2 g3 g7 gt2 gf ⊢
  refine sp_advance hn (Nat.zero_le n) g34 g3 (fun ha f f6 z => ⟨4, ?_⟩)
  rw [g35, el] at z
  have Aa : zCa T n tc l0 0 ha := ⟨by rw [f 35 (by omega)]; exact g35, z, by rw [f6 2 (by omega) (by omega) (by omega) (by omega)]; exact g2, by rw [f _ (by omega)]; exact gt2, by rw [f6 7 (by omega) (by omega) (by omega) (by omega)]; exact g7⟩
  have fa : zCh tc 0 h ha := zCh_t gf (w' := 0) ⟨fun o a _ _ _ => f o a, fun j hj => f6 j (by omega) (by omega) (by omega) (by omega), fun j hj => absurd hj (by omega)⟩ (Nat.le_refl _)
  rw [zb_c0]
  have hfin : ∀ {w p : Nat} {h' : pm_H}, p ≤ 160 → zFp b0 b1 b2 l1 l2 l3 p → zCh tc w h h' → zCp n tc p h' → wl_X0_readInto_29 (zCc 6 0) (fun h838 => pm_eq (h838 34 4) 0 (Q (h838 34 7) (pm_u h838 34 0 0)) (wp_X0_refuse h838 (fun h839 => Q (h839 34 7) (pm_u h839 34 0 0)))) Q 1 (nI 3) h' := fun {w p h'} hp hf f' H => by
    unfold wl_X0_readInto_29
    rw [zb_lt, show (3 : Int32) = nI 3 by decide, if_neg (nI_nlt (by omega) (by omega))]
    exact sp_fin ht hp f' H (qf _ hp hf)
  rw [← zb_c0]
  show wl_X0_readInto_29 (zCc 6 0) (fun h838 => pm_eq (h838 34 4) 0 (Q (h838 34 7) (pm_u h838 34 0 0)) (wp_X0_refuse h838 (fun h839 => Q (h839 34 7) (pm_u h839 34 0 0)))) Q (3 + 1) 0 ha
  rw [show (wl_X0_readInto_29 (zCc 6 0) (fun h838 => pm_eq (h838 34 4) 0 (Q (h838 34 7) (pm_u h838 34 0 0)) (wp_X0_refuse h838 (fun h839 => Q (h839 34 7) (pm_u h839 34 0 0)))) Q (3 + 1) 0 ha) = (wl_X0_readInto_29 (zCc 6 0) (fun h838 => pm_eq (h838 34 4) 0 (Q (h838 34 7) (pm_u h838 34 0 0)) (wp_X0_refuse h838 (fun h839 => Q (h839 34 7) (pm_u h839 34 0 0)))) Q (3 + 1) (nI 0) ha) from congrArg (fun y => wl_X0_readInto_29 (zCc 6 0) (fun h838 => pm_eq (h838 34 4) 0 (Q (h838 34 7) (pm_u h838 34 0 0)) (wp_X0_refuse h838 (fun h839 => Q (h839 34 7) (pm_u h839 34 0 0)))) Q (3 + 1) y ha) zb_c0]
  refine sp_ru (k := 3) hn ht (by omega) e0 v0 Aa (Nat.zero_le _) (fun hb0 hA fA A1 r0 _ s0 => ?_) (fun hb0 hA fA H1 => ?_)
  · have m0 := n0 hb0
    rw [Nat.zero_add] at A1 r0
    refine sp_ru (k := 2) hn ht (by omega) e1 v1 A1 (by omega) (fun hb1 hB fB A2 r1 s1' s1 => ?_) (fun hb1 hB fB H1 => ?_)
    · have m1 := n1 hb1
      refine sp_ru (k := 1) hn ht (by omega) e2 v2 A2 (by omega) (fun hb2 hC fC A3 r2 s2' s2 => ?_) (fun hb2 hC fC H1 => ?_)
      · have m2 := n2 hb2
        have FC := zCh_t fa (zCh_t fA (zCh_t fB fC (by omega)) (by omega)) (Nat.le_refl _)
        unfold wl_X0_readInto_29
        rw [zb_lt, show (3 : Int32) = nI 3 by decide, if_neg (nI_nlt (by omega) (by omega)), zb_eq]
        by_cases c : l3.2.2.1 = 0
        · rw [if_pos ((zTk_0 A3.2.1).mpr c), A3.2.2.2.2]
          refine qk hb0 hb1 hb2 c _ ⟨fun o a b c d => by rw [zb_un a]; exact FC.1 o a b c d, zb_us⟩ ?_ ?_ ?_ (fun i hi => ?_) (fun i hi => ?_) (fun i hi => ?_)
          · rw [zb_un (by omega), fC.2.2 0 (by omega), fB.2.2 0 (by omega), r0]
          · rw [zb_un (by omega), fC.2.2 1 (by omega), r1]
          · rw [zb_un (by omega), r2]
          · rw [zb_un (by omega), s2' i (by omega), s1' i (by omega)]
            have := s0 i hi
            rw [Nat.zero_add] at this
            exact this
          · rw [zb_un (by omega), s2' _ (by omega), s1 i hi]
          · rw [zb_un (by omega), s2 i hi]
        · rw [if_neg (fun q => c ((zTk_0 A3.2.1).mp q))]
          refine sp_ra ht (by omega) A3 (fun h1 f1 H1 => ?_)
          rw [H1.2.2.2.1]
          refine qf _ k3 (Or.inr (Or.inr (Or.inr ⟨hb0, hb1, hb2, c, rfl⟩))) _ ⟨fun o a b c d => ?_, zb_us⟩
          rw [zb_un a, f1.1 o a b c]; exact FC.1 o a b c d
      · exact hfin k3 (Or.inr (Or.inr (Or.inl ⟨hb0, hb1, hb2, rfl⟩))) (zCh_t fa (zCh_t fA (zCh_t fB fC (by omega)) (by omega)) (Nat.le_refl _)) H1
    · refine sp_rup (k := 1) ht k2 (by omega) H1 (fun hC fC H2 => ?_)
      exact hfin k2 (Or.inr (Or.inl ⟨hb0, hb1, rfl⟩)) (zCh_t fa (zCh_t fA (zCh_t fB fC (by omega)) (by omega)) (Nat.le_refl _)) H2
  · refine sp_rup (k := 2) ht k1 (by omega) H1 (fun hB fB H2 => ?_)
    refine sp_rup (k := 1) ht k1 (by omega) H2 (fun hC fC H3 => ?_)
    exact hfin k1 (Or.inl ⟨hb0, rfl⟩) (zCh_t fa (zCh_t fA (zCh_t fB fC (by omega)) (by omega)) (Nat.le_refl _)) H3
end
