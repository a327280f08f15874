/-! MATHEMATICS, 79: a rule read, and the class's whole text -/
/-- a rule: its word, what it says, the sign that ends it -/
noncomputable def zRu (T : Nat → Int32) (n w : Nat) (l : zLs) : Option zPr := if zWi l w then zThn (zPz T n (6 * n + 6) 0 0 (zLx T n l.2.1)) (fun l' => if zSn l' 59 then some (true, zLx T n l'.2.1, []) else some (false, l', [])) else some (false, l, [])
theorem zRu_ok {T : Nat → Int32} {n w : Nat} {l : zLs} (v : zLv n l) : ∃ b l' c, zRu T n w l = some (b, l', c) ∧ zLv n l' ∧ (b = true → l.1 + c.length ≤ l'.1 ∧ zW c 0 1) := by
  unfold zRu
  by_cases c : zWi l w
  · rw [if_pos c]
    obtain ⟨w1, w2, w3⟩ := @zLv_nx T n l v (by rw [c.1]; decide)
    obtain ⟨b, l', c', e, v', q⟩ := zGt_thn (E := zX1 5 0) (E1 := zX1 5 0) (k := fun l' => if zSn l' 59 then some (true, zLx T n l'.2.1, []) else some (false, l', [])) (@zPz_ok T n (6 * n + 6) 0 0 _ (by omega) (by omega) w1 (by simp only [zRn]; omega)) (fun l' c v' p' q' => by
      by_cases c7 : zSn l' 59
      · rw [if_pos c7]
        obtain ⟨y1, y2, y3⟩ := @zLv_nx T n l' v' (by rw [c7.1]; decide)
        refine ⟨true, _, _, rfl, y1, fun _ => ⟨by simp only [List.length_nil]; omega, ?_⟩⟩
        show zX1 5 0 (c ++ [])
        rw [List.append_nil]; exact q'
      · rw [if_neg c7]; exact zGt_bad v')
    exact ⟨b, l', c', e, v', fun hb => ⟨by have := (q hb).1; omega, (q hb).2 0 (by omega)⟩⟩
  · rw [if_neg c]
    exact ⟨false, l, [], rfl, v, fun q => absurd q (by decide)⟩
theorem zTk_0 {h : pm_H} {n : Nat} {l : zLs} (H : zTk h n l) : h 34 4 = 0 ↔ l.2.2.1 = 0 := by
  obtain ⟨-, -, -, H⟩ := H
  rw [zb_c0]
  rcases H with ⟨t, e⟩ | ⟨t, e⟩ | ⟨t, e, e6⟩ | ⟨t, k', e, q⟩ | ⟨t, s, e⟩
  · rw [e, zb_c0]; exact ⟨fun _ => t, fun _ => rfl⟩
  · rw [e, zb_c1]; exact ⟨fun q => by have := (nI_eq (by omega) (by omega)).mp q; omega, fun q => by omega⟩
  · rw [e, show (2 : Int32) = nI 2 by decide]; exact ⟨fun q => by have := (nI_eq (by omega) (by omega)).mp q; omega, fun q => by omega⟩
  · rcases q with ⟨q1, q2⟩ | ⟨q1, q2, q3, q4⟩ | ⟨q1, q2⟩
    · rw [q2]; exact ⟨fun q => by have := (nI_eq (by omega) (by omega)).mp q; omega, fun q => by omega⟩
    · rw [q3, show (3 : Int32) = nI 3 by decide]; exact ⟨fun q => by have := (nI_eq (by omega) (by omega)).mp q; omega, fun q => by omega⟩
    · rw [q2, zb_c1]; exact ⟨fun q => by have := (nI_eq (by omega) (by omega)).mp q; omega, fun q => by omega⟩
  · rw [e]; exact ⟨fun q => absurd q (zSi_n s (by omega)), fun q => by omega⟩
/-- what a rule's reading leaves alone -/
def zCh (tc w : Nat) (h h' : pm_H) : Prop := (∀ o, o ≠ 34 → o ≠ 40 + 3 * tc → o ≠ 40 + 3 * tc + 1 → o ≠ 40 + 3 * tc + 2 → h' o = h o) ∧ (∀ j, (j < 2) → h' 34 j = h 34 j) ∧ (∀ j, j < w → h' (40 + 3 * tc + 2) j = h (40 + 3 * tc + 2) j)
theorem zCh_t {tc w w' : Nat} {h h1 h2 : pm_H} (H1 : zCh tc w h h1) (H2 : zCh tc w' h1 h2) (hw : w ≤ w') : zCh tc w h h2 :=
  ⟨fun a p q r s => (H2.1 a p q r s).trans (H1.1 a p q r s), fun j hj => (H2.2.1 j hj).trans (H1.2.1 j hj), fun j hj => (H2.2.2 j (by omega)).trans (H1.2.2 j hj)⟩
theorem zCh_f {tc w : Nat} {h h1 : pm_H} (H : zCf tc h h1) : zCh tc w h h1 := ⟨fun a p q r _ => H.1 a p q r, fun j hj => H.2.1 j (by omega), fun j _ => by rw [H.1 _ (by omega) (by omega) (by omega)]⟩
section
variable {T : Nat → Int32} {n tc : Nat} {l : zLs} {m p w : Nat} {h : pm_H}
theorem sp_en {X : pm_H → Prop} (ht : tc < 6) (hw : w < 3) {y : Int32} (e : h 34 2 = nI (40 + 3 * tc)) (e2 : h (40 + 3 * tc) 2 = y) (hX : X (pm_u h (40 + 3 * tc + 2) w y)) : pm_ob (pm_dec (h 34 2)) (fun t801 => pm_ib (pm_at 0 t801 4) (pm_ob (pm_dec (h 34 2)) (fun t802 => pm_ib (pm_at 0 t802 4) (pm_ib (pm_at 0 (t801 + 2) 8) (pm_ib (pm_in (nI w) (pm_len (t801 + 2))) (X (pm_u h (t801 + 2) (nI w).toNatClampNeg (h t802 2)))))))) := by
  obtain ⟨a1, a2, a3, a4, a5, a6⟩ := zt_at ht
  rw [e, zt_dec ht]
  show pm_ib (pm_at 0 (40 + 3 * tc) 4) (pm_ib (pm_at 0 (40 + 3 * tc) 4) (pm_ib (pm_at 0 (40 + 3 * tc + 2) 8) (pm_ib (pm_in (nI w) (pm_len (40 + 3 * tc + 2))) (X (pm_u h (40 + 3 * tc + 2) (nI w).toNatClampNeg (h (40 + 3 * tc) 2))))))
  rw [zb_ib a1, zb_ib a1, zb_ib a4, a6, zb_ib (zb_in hw (by omega)), nI_clamp (by omega), e2]
  exact hX
/-- a rule, behind a fault -/
theorem sp_rup {K : pm_H → Prop} {Q : Int32 → pm_H → Prop} {k : Nat} (ht : tc < 6) (hp : p ≤ 160) (hw : w < 3) (H : zCp n tc p h) (hQ : ∀ h', zCh tc w h h' → zCp n tc p h' → wl_X0_readInto_29 (zCc 6 0) K Q k (nI (w + 1)) h') : wl_X0_readInto_29 (zCc 6 0) K Q (k + 1) (nI w) h := by
  unfold wl_X0_readInto_29
  rw [zb_lt, show (3 : Int32) = nI 3 by decide, if_pos (nI_lt (by omega) (by omega)), pm_op_eq, show (4 : Int32) = nI 4 by decide, nI_add]
  refine sp_pa ht hp (fun q => by rw [zb_c1] at q; have := (nI_eq (by omega) (by omega)).mp q; omega) H (fun h1 f1 H1 => ?_)
  refine sp_po0 ht hp H1 (fun h2 f2 H2 => ?_)
  refine sp_pa ht hp (by decide) H2 (fun h3 f3 H3 => ?_)
  obtain ⟨t0, t1, t2, t3, mm, t4, t5⟩ := id H3
  refine sp_en ht hw t1 t5 ?_
  rw [pm_op_eq, nI_1]
  refine hQ _ ?_ ?_
  · refine zCh_t (zCh_f (zCf_t f1 (zCf_t f2 f3))) (w' := w) ⟨fun a p q r s => by rw [zb_un s], fun j hj => by rw [zb_un (by omega)], fun j hj => by rw [zb_uj (by omega)]⟩ (Nat.le_refl _)
  · exact ⟨by rw [zb_un (by omega)]; exact t0, by rw [zb_un (by omega)]; exact t1, by rw [zb_un (by omega)]; exact t2, by rw [zb_un (by omega)]; exact t3, mm, t4, by rw [zb_un (by omega)]; exact t5⟩
/-- a rule -/
theorem sp_ru {K : pm_H → Prop} {Q : Int32 → pm_H → Prop} {k : Nat} {b : Bool} {l' : zLs} {c : List Int32} (hn : n ≤ 160) (ht : tc < 6) (hw : w < 3) (E : zRu T n w l = some (b, l', c)) (v : zLv n l) (A : zCa T n tc l m h) (hm : m ≤ l.1) (q1 : b = true → ∀ h', zCh tc w h h' → zCa T n tc l' (m + c.length) h' → h' (40 + 3 * tc + 2) w = nI (m + c.length) → (∀ j, j < m → h' (40 + 3 * tc + 1) j = h (40 + 3 * tc + 1) j) → (∀ i, i < c.length → h' (40 + 3 * tc + 1) (m + i) = c.getD i 0) → wl_X0_readInto_29 (zCc 6 0) K Q k (nI (w + 1)) h') (q0 : b = false → ∀ h', zCh tc w h h' → zCp n tc l'.1 h' → wl_X0_readInto_29 (zCc 6 0) K Q k (nI (w + 1)) h') : wl_X0_readInto_29 (zCc 6 0) K Q (k + 1) (nI w) h := by
  have hl : l.1 ≤ n := by have := v.1; have := v.2.1; omega
  unfold wl_X0_readInto_29
  rw [zb_lt, show (3 : Int32) = nI 3 by decide, if_pos (nI_lt (by omega) (by omega)), pm_op_eq, show (4 : Int32) = nI 4 by decide, nI_add]
  -- the last steps
  have fin_p : ∀ {h3 : pm_H}, b = false → zCf tc h h3 → zCp n tc l'.1 h3 → pm_ob (pm_dec (h3 34 2)) (fun t801 => pm_ib (pm_at 0 t801 4) (pm_ob (pm_dec (h3 34 2)) (fun t802 => pm_ib (pm_at 0 t802 4) (pm_ib (pm_at 0 (t801 + 2) 8) (pm_ib (pm_in (nI w) (pm_len (t801 + 2))) (wl_X0_readInto_29 (zCc 6 0) K Q k (pm_op (nI w + 1)) (pm_u h3 (t801 + 2) (nI w).toNatClampNeg (h3 t802 2)))))))) := fun {h3} hb f3 H3 => by
    obtain ⟨t0, t1, t2, t3, mm, t4, t5⟩ := id H3
    refine sp_en (X := fun h' => wl_X0_readInto_29 (zCc 6 0) K Q k (pm_op (nI w + 1)) h') ht hw t1 t5 ?_
    rw [pm_op_eq, nI_1]
    refine q0 hb _ ?_ ?_
    · exact zCh_t (zCh_f f3) (w' := w) ⟨fun a p q r s => by rw [zb_un s], fun j hj => by rw [zb_un (by omega)], fun j hj => by rw [zb_uj (by omega)]⟩ (Nat.le_refl _)
    · exact ⟨by rw [zb_un (by omega)]; exact t0, by rw [zb_un (by omega)]; exact t1, by rw [zb_un (by omega)]; exact t2, by rw [zb_un (by omega)]; exact t3, mm, t4, by rw [zb_un (by omega)]; exact t5⟩
  unfold zRu at E
  unfold wp_X0_accept
  rw [zb_eq]
  by_cases c0 : zWi l w
  · rw [if_pos c0] at E
    rw [if_pos ((zTk_w A.2.1 (by omega)).mpr c0)]
    obtain ⟨w1, w2, w3⟩ := @zLv_nx T n l v (by rw [c0.1]; decide)
    refine sp_n hn ht v A (fun h1 B1 A1 => ?_)
    rcases zThn_inv E with ⟨c1, e1, e2, e3⟩ | ⟨l1, c1, c2, e1, e2, e3⟩
    · have v1 := (zPz_len (6 * n + 6) 0 0 _ w1 _ _ _ e1).1
      refine sp_all hn ht (6 * n + 6) 0 0 _ false l' c1 (by omega) e1 w1 (by omega) 6 (by omega) h1 m _ A1 (by omega) (fun h2 B2 => ?_)
      rw [zb_eq, (B2.2.2 rfl).2.2.1, if_neg (by decide)]
      refine sp_rp ht (by have := v1.1; have := v1.2.1; omega) (B2.2.2 rfl) (fun h3 f3 H3 => ?_)
      exact fin_p e2 (zCf_t B1.1 (zCf_t B2.1 f3)) H3
    · obtain ⟨v1, len1⟩ := zPz_len (6 * n + 6) 0 0 _ w1 _ _ _ e1
      have hlen := len1 rfl
      have y4 : l1.1 ≤ n := by have := v1.1; have := v1.2.1; omega
      refine sp_all hn ht (6 * n + 6) 0 0 _ true l1 c1 (by omega) e1 w1 (by omega) 6 (by omega) h1 m _ A1 (by omega) (fun h2 B2 => ?_)
      have A2 := (B2.2.1 rfl).1
      rw [zb_eq]
      by_cases c7 : zSn l1 59
      · rw [if_pos c7] at e2
        obtain ⟨y1, y2, y3⟩ := zPr_inv e2
        rw [if_pos ((zTk_s A2.2.1 (by unfold zSi; simp)).mpr c7)]
        refine sp_n hn ht v1 A2 (fun h3 B3 A3 => ?_)
        have Z := zCb_t B1 (zCb_t B2 B3)
        obtain ⟨Z1, Z2, -⟩ := Z
        obtain ⟨Z3, Z4, Z5⟩ := Z2 rfl
        refine sp_en (X := fun h' => wl_X0_readInto_29 (zCc 6 0) K Q k (pm_op (nI w + 1)) h') ht hw A3.2.2.1 A3.2.2.2.1 ?_
        rw [pm_op_eq, nI_1]
        have ec : c = [] ++ (c1 ++ []) := by rw [e3, ← y3]; rfl
        have el : m + c.length = m + c1.length := by rw [e3, ← y3, List.append_nil]
        refine q1 y1.symm _ ?_ ?_ (by rw [zb_us, el]) (fun j hj => by rw [zb_un (by omega)]; exact Z4 j hj) (fun i hi => by rw [zb_un (by omega), ec]; exact Z5 i (by rw [← ec]; exact hi))
        · exact zCh_t (zCh_f Z1) (w' := w) ⟨fun a p q r s => by rw [zb_un s], fun j hj => by rw [zb_un (by omega)], fun j hj => by rw [zb_uj (by omega)]⟩ (Nat.le_refl _)
        · rw [el, ← y2]
          obtain ⟨t0, t1, t2, t3, t4⟩ := A3
          refine ⟨by rw [zb_un (by omega)]; exact t0, ?_, by rw [zb_un (by omega)]; exact t2, by rw [zb_un (by omega)]; exact t3, by rw [zb_un (by omega)]; exact t4⟩
          unfold zTk
          rw [zb_un (by omega)]
          exact t1
      · rw [if_neg c7] at e2
        obtain ⟨y1, y2, y3⟩ := zPr_inv e2
        rw [if_neg (fun k => c7 ((zTk_s A2.2.1 (by unfold zSi; simp)).mp k))]
        refine sp_ra ht (by omega) A2 (fun h3 f3 H3 => ?_)
        exact fin_p y1.symm (zCf_t B1.1 (zCf_t B2.1 f3)) (y2 ▸ H3)
  · rw [if_neg c0] at E
    obtain ⟨y1, y2, y3⟩ := zPr_inv E
    rw [if_neg (fun k => c0 ((zTk_w A.2.1 (by omega)).mp k))]
    refine sp_ra ht (by omega) A (fun h1 f1 H1 => ?_)
    refine sp_po0 ht (by omega) H1 (fun h2 f2 H2 => ?_)
    rw [zb_eq, H2.2.2.1, if_neg (by decide)]
    refine sp_rp ht (by omega) H2 (fun h3 f3 H3 => ?_)
    exact fin_p y1.symm (zCf_t f1 (zCf_t f2 f3)) (y2 ▸ H3)
end
