/-! MATHEMATICS, 70: the reference asks for a word or a sign, and writes; the class accepts, refuses, writes -/
theorem zw_d : ∀ j, j < 12 → ∀ k, k < 12 → (pm_sl j).length = (pm_sl k).length → (∀ i, i < (pm_sl j).length → (pm_sl j).getD i 0 = (pm_sl k).getD i 0) → j = k := by decide
theorem zw_b : ∀ k, k < 12 → ∀ i, i < 5 → (pm_sl k).getD i 0 < 1000 := by decide
theorem zEw_one {T : Nat → Int32} {a b j k : Nat} (hj : j < 12) (hk : k < 12) (q1 : zEw T a b j) (q2 : zEw T a b k) : j = k := by
  have l1 := q1.1
  have l2 := q2.1
  have b1 := zw_len hj
  refine zw_d j hj k hk (by omega) (fun i hi => ?_)
  have e1 := q1.2 i hi
  rw [q2.2 i (by omega)] at e1
  have c1 := zw_b j hj i (by omega)
  have c2 := zw_b k hk i (by omega)
  exact ((nI_eq (by omega) (by omega)).mp e1).symm
theorem zWd_find {T : Nat → Int32} {a b j : Nat} (hj : j < 12) (q : zEw T a b j) : ∀ {m k : Nat}, k ≤ j → k + m = 12 → zWd T a b m k = j
  | 0, k, h1, h2 => by omega
  | m + 1, k, h1, h2 => by
    by_cases c : zEw T a b k
    · rw [zWd_pos c]; exact zEw_one (by omega) hj c q
    · rw [zWd_neg c]
      refine zWd_find hj q (by have : k ≠ j := (fun e => c (e ▸ q)); omega) (by omega)
theorem zWd_at {T : Nat → Int32} {a b : Nat} : ∀ {m k j : Nat}, zWd T a b m k = j → j < k + m → zEw T a b j
  | 0, k, j, h1, h2 => by simp only [zWd] at h1; omega
  | m + 1, k, j, h1, h2 => by
    by_cases c : zEw T a b k
    · rw [zWd_pos c] at h1; exact h1 ▸ c
    · rw [zWd_neg c] at h1
      exact zWd_at h1 (by omega)
section
variable {h : pm_H} {n : Nat}
theorem sm_isL {K1 K2 : pm_H → Prop} {Q : Int32 → pm_H → Prop} {k a b : Nat} (hk : k < 12) (e5 : h 66 19 = nI a) (hl : b - a = (pm_sl k).length) (hb : b ≤ 160) (k1 : ¬ zEw (h 75) a b k → K1 h) (k2 : zEw (h 75) a b k → K2 h) : ∀ (m j : Nat), j + m = (pm_sl k).length → (∀ i, i < j → h 75 (a + i) = nI ((pm_sl k).getD i 0)) → wl_X7_is_28 (1000 + k) K1 K2 Q (m + 1) (nI j) h
  | 0, j, hj, hp => by
    have h5 := zw_len hk
    unfold wl_X7_is_28
    rw [zb_ib (zw_sb hk), zb_lt, Nat.add_sub_cancel_left, if_neg (nI_nlt (by omega) (by omega))]
    exact k2 ⟨hl, fun i hi => hp i (by omega)⟩
  | m + 1, j, hj, hp => by
    have h5 := zw_len hk
    unfold wl_X7_is_28
    rw [zb_ib (zw_sb hk), zb_lt, Nat.add_sub_cancel_left, if_pos (nI_lt (by omega) (by omega)), e5, pm_op_eq, nI_add, zb_ib (zb_in (by omega) (by omega)), zb_ib (zw_sb hk), zb_ib (zb_in (by omega) (by omega)), zb_eq, nI_clamp (by omega), nI_clamp (by omega)]
    by_cases c : h 75 (a + j) = nI ((pm_sl k).getD j 0)
    · rw [if_pos c, pm_op_eq, nI_1]
      refine sm_isL hk e5 hl hb k1 k2 m (j + 1) (by omega) (fun i hi => ?_)
      by_cases ci : i = j
      · rw [ci]; exact c
      · exact hp i (by omega)
    · rw [if_neg c]
      exact k1 (fun q => c (q.2 j (by omega)))
theorem sm_is {Q : Int32 → pm_H → Prop} {k : Nat} {l : zLs} (hn : n ≤ 160) (hk : k < 12) (H : zRk h n l) (k1 : (l.2.2.1 = 3 ∧ l.2.2.2 = nI k) → Q 1 h) (k0 : ¬ (l.2.2.1 = 3 ∧ l.2.2.2 = nI k) → Q 0 h) : wp_X7_is (1000 + k) h Q := by
  obtain ⟨h1, h2, h3, h4, h5, h6⟩ := H
  have b5 := zw_len hk
  unfold wp_X7_is
  rw [zb_eq]
  rcases h6 with ⟨t, e⟩ | ⟨t, e⟩ | ⟨t, e, -⟩ | ⟨t, e, e2⟩ | ⟨t, e, -⟩
  · rw [if_neg (by rw [e]; decide)]; exact k0 (fun q => by omega)
  · rw [if_neg (by rw [e]; decide)]; exact k0 (fun q => by omega)
  · rw [if_neg (by rw [e]; decide)]; exact k0 (fun q => by omega)
  · rw [if_pos e, zb_ib (zw_sb hk), zb_eq, h2, h3, pm_op_eq, nI_sub h4 (by omega), Nat.add_sub_cancel_left]
    have hz := @zWd_le (h 75) l.1 l.2.1 12 0
    have g1 : zEw (h 75) l.1 l.2.1 k → Q 1 h := fun q => k1 ⟨t, by rw [e2, zWd_find hk q (by omega) (by omega)]⟩
    have g0 : ¬ zEw (h 75) l.1 l.2.1 k → Q 0 h := fun q => k0 (fun p => by
      have p2 := p.2
      rw [e2] at p2
      have p3 := (nI_eq (by omega) (by omega)).mp p2
      exact q (zWd_at p3 (by omega)))
    by_cases c : l.2.1 - l.1 = (pm_sl k).length
    · rw [if_pos (by rw [c])]
      refine ⟨(pm_sl k).length + 1, ?_⟩
      rw [zb_c0, zb_c1] at *
      exact sm_isL hk h3 c (by omega) g0 g1 _ 0 (by omega) (fun i hi => absurd hi (by omega))
    · rw [if_neg (fun q => c ((nI_eq (by omega) (by omega)).mp q))]
      exact g0 (fun q => c q.1)
  · rw [if_neg (by rw [e]; decide)]; exact k0 (fun q => by omega)
theorem sm_is_ {Q : Int32 → pm_H → Prop} {x : Int32} {l : zLs} (H : zRk h n l) (k1 : (l.2.2.1 = 4 ∧ l.2.2.2 = x) → Q 1 h) (k0 : ¬ (l.2.2.1 = 4 ∧ l.2.2.2 = x) → Q 0 h) : wp_X7_is_ x h Q := by
  obtain ⟨h1, h2, h3, h4, h5, h6⟩ := H
  unfold wp_X7_is_
  rw [zb_eq, zb_eq]
  rcases h6 with ⟨t, e⟩ | ⟨t, e⟩ | ⟨t, e, -⟩ | ⟨t, e, e2⟩ | ⟨t, e, e2⟩
  · rw [if_neg (by rw [e]; decide)]; exact k0 (fun q => by omega)
  · rw [if_neg (by rw [e]; decide)]; exact k0 (fun q => by omega)
  · rw [if_neg (by rw [e]; decide)]; exact k0 (fun q => by omega)
  · rw [if_neg (by rw [e]; decide)]; exact k0 (fun q => by omega)
  · rw [if_pos e, e2]
    by_cases c : l.2.2.2 = x
    · rw [if_pos c]; exact k1 ⟨t, c⟩
    · rw [if_neg c]; exact k0 (fun q => c q.2)
theorem sm_name {Q : Int32 → pm_H → Prop} {l : zLs} (hn : n ≤ 160) (H : zRk h n l) (k1 : ∀ k, k < 6 → l.2.2.1 = 3 → l.2.2.2 = nI (6 + k) → Q (nI (k + 1)) h) (k0 : (∀ k, k < 6 → ¬ (l.2.2.1 = 3 ∧ l.2.2.2 = nI (6 + k))) → Q 0 h) : wp_X7_name h Q := by
  unfold wp_X7_name
  refine sm_is (k := 6) hn (by omega) H (fun c => ?_) (fun c0 => ?_)
  · rw [zb_eq, if_neg (by decide)]; exact k1 0 (by omega) c.1 c.2
  rw [zb_eq, if_pos rfl]
  refine sm_is (k := 7) hn (by omega) H (fun c => ?_) (fun c1 => ?_)
  · rw [zb_eq, if_neg (by decide)]; exact k1 1 (by omega) c.1 c.2
  rw [zb_eq, if_pos rfl]
  refine sm_is (k := 8) hn (by omega) H (fun c => ?_) (fun c2 => ?_)
  · rw [zb_eq, if_neg (by decide)]; exact k1 2 (by omega) c.1 c.2
  rw [zb_eq, if_pos rfl]
  refine sm_is (k := 9) hn (by omega) H (fun c => ?_) (fun c3 => ?_)
  · rw [zb_eq, if_neg (by decide)]; exact k1 3 (by omega) c.1 c.2
  rw [zb_eq, if_pos rfl]
  refine sm_is (k := 10) hn (by omega) H (fun c => ?_) (fun c4 => ?_)
  · rw [zb_eq, if_neg (by decide)]; exact k1 4 (by omega) c.1 c.2
  rw [zb_eq, if_pos rfl]
  refine sm_is (k := 11) hn (by omega) H (fun c => ?_) (fun c5 => ?_)
  · rw [zb_eq, if_neg (by decide)]; exact k1 5 (by omega) c.1 c.2
  rw [zb_eq, if_pos rfl]
  refine k0 (fun k hk => ?_)
  rcases (show k = 0 ∨ k = 1 ∨ k = 2 ∨ k = 3 ∨ k = 4 ∨ k = 5 by omega) with rfl | rfl | rfl | rfl | rfl | rfl
  · exact c0
  · exact c1
  · exact c2
  · exact c3
  · exact c4
  · exact c5
theorem sm_pput {Q : pm_H → Prop} {w : Int32} {k m : Nat} (hk : k < 6) (hm : m < 160) (e13 : h 66 13 = nI k) (e17 : h 66 17 = nI m) (hQ : Q (pm_u (pm_u h 66 17 (nI (m + 1))) 76 (170 * k + m) w)) : wp_X7_put w h Q := by
  have e170 : (170 : Int32) * nI k = nI (170 * k) := by
    rw [show (170 : Int32) = nI 170 by decide, zb_teq, zb_tmul (by rw [nI_toInt (by omega), nI_toInt (by omega)]; omega) (by rw [nI_toInt (by omega), nI_toInt (by omega)]; omega), nI_toInt (by omega), nI_toInt (by omega), nI_toInt (by omega)]
    omega
  unfold wp_X7_put
  simp only [pm_op_eq, e13, e17, e170, nI_add, nI_1]
  rw [zb_ib (zb_in (by omega) (by omega)), nI_clamp (by omega)]
  exact hQ
theorem zt_at {k : Nat} (hk : k < 6) : pm_at 0 (40 + 3 * k) 4 = true ∧ pm_at 4 (40 + 3 * k) 4 = true ∧ pm_at 4 (40 + 3 * k + 1) 8 = true ∧ pm_at 0 (40 + 3 * k + 2) 8 = true ∧ pm_len (40 + 3 * k + 1) = 160 ∧ pm_len (40 + 3 * k + 2) = 3 := by
  rcases (show k = 0 ∨ k = 1 ∨ k = 2 ∨ k = 3 ∨ k = 4 ∨ k = 5 by omega) with rfl | rfl | rfl | rfl | rfl | rfl <;> decide
theorem zt_dec {k : Nat} (hk : k < 6) : pm_dec (nI (40 + 3 * k)) = some (40 + 3 * k) := by
  unfold pm_dec
  rw [if_neg (fun q => by rw [zb_c0] at q; have := (nI_eq (by omega) (by omega)).mp q; omega), nI_clamp (by omega)]
theorem sp_padd {Q : pm_H → Prop} {w : Int32} {k m : Nat} (hk : k < 6) (hm : m ≤ 160) (e2 : h (40 + 3 * k) 2 = nI m) (h1 : m < 160 → Q (pm_u (pm_u h (40 + 3 * k + 1) m w) (40 + 3 * k) 2 (nI (m + 1)))) (h2 : m = 160 → Q h) : wp_X4_add (40 + 3 * k) w h Q := by
  obtain ⟨a1, a2, a3, a4, a5, a6⟩ := zt_at hk
  unfold wp_X4_add
  rw [zb_ib a2, zb_ib a2, zb_ib a3, zb_lt, e2, a5]
  by_cases c : m < 160
  · rw [if_pos (nI_lt c (by omega)), zb_ib a2, zb_ib a2, zb_ib a3, zb_ib (zb_in c (by omega)), zb_ib a2, zb_ib a2, nI_clamp (by omega), zb_un (by omega), e2, pm_op_eq, nI_1]
    exact h1 c
  · rw [if_neg (nI_nlt (by omega) (by omega))]
    exact h2 (by omega)
theorem sp_refuse {Q : pm_H → Prop} (hQ : ∀ h', (∀ o, o ≠ 34 → h' o = h o) → (∀ j, j ≠ 4 → j ≠ 7 → h' 34 j = h 34 j) → h' 34 4 = 1 → (h 34 7 = -1 → h' 34 7 = h 34 5) → (h 34 7 ≠ -1 → h' 34 7 = h 34 7) → Q h') : wp_X0_refuse h Q := by
  unfold wp_X0_refuse
  rw [zb_eq]
  by_cases c : h 34 7 = -1
  · rw [if_pos c]
    exact hQ _ (fun o ho => by rw [zb_un ho, zb_un ho]) (fun j p4 p7 => by rw [zb_uj p4, zb_uj p7]) zb_us (fun _ => by rw [zb_uj (by omega), zb_us]) (fun q => absurd c q)
  · rw [if_neg c]
    exact hQ _ (fun o ho => by rw [zb_un ho]) (fun j p4 p7 => by rw [zb_uj p4]) zb_us (fun q => absurd q c) (fun _ => by rw [zb_uj (by omega)])
end
