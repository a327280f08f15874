/-! MATHEMATICS, 64: classes, image, back -/
theorem fcm_at {h : pm_H} {n : Nat} {a b c : Int32} {o : Nat} : fcm h n a b c o = if o = 1 then upd (h 1) 8 (nI (n + 1)) else if o = 5 then upd (h 5) n a else if o = 6 then upd (h 6) n b else if o = 7 then upd (h 7) n (c / 10) else if o = 8 then upd (h 8) n (pm_rem c 10) else if o = 9 then upd (h 9) n a else h o := by
  unfold fcm
  by_cases e1 : o = 1
  · subst e1; simp [zb_ur, zb_un]
  by_cases e5 : o = 5
  · subst e5; simp [zb_ur, zb_un]
  by_cases e6 : o = 6
  · subst e6; simp [zb_ur, zb_un]
  by_cases e7 : o = 7
  · subst e7; simp [zb_ur, zb_un]
  by_cases e8 : o = 8
  · subst e8; simp [zb_ur, zb_un]
  by_cases e9 : o = 9
  · subst e9; simp [zb_ur, zb_un]
  rw [if_neg e1, if_neg e5, if_neg e6, if_neg e7, if_neg e8, if_neg e9, zb_un e1, zb_un e9, zb_un e8, zb_un e7, zb_un e6, zb_un e5]
theorem cm_comm {h : pm_H} {n m : Nat} {a b c a' b' c' : Int32} : mcm (fcm h m a' b' c') n a b c = fcm (mcm h n a b c) m a' b' c' := by
  funext o
  by_cases ho : o < 66
  · rw [mcm_o (Or.inl ho), fcm_at, fcm_at, mcm_o (o := 1) (by omega), mcm_o (o := 5) (by omega), mcm_o (o := 6) (by omega), mcm_o (o := 7) (by omega), mcm_o (o := 8) (by omega), mcm_o (o := 9) (by omega), mcm_o (Or.inl ho)]
  · rw [fcm_o (o := o) (by omega)]
    unfold mcm
    by_cases e1 : o = 66
    · subst e1; simp [zb_ur, zb_un, fcm_o]
    by_cases e5 : o = 70
    · subst e5; simp [zb_ur, zb_un, fcm_o]
    by_cases e6 : o = 71
    · subst e6; simp [zb_ur, zb_un, fcm_o]
    by_cases e7 : o = 72
    · subst e7; simp [zb_ur, zb_un, fcm_o]
    by_cases e8 : o = 73
    · subst e8; simp [zb_ur, zb_un, fcm_o]
    by_cases e9 : o = 74
    · subst e9; simp [zb_ur, zb_un, fcm_o]
    rw [zb_un e1, zb_un e9, zb_un e8, zb_un e7, zb_un e6, zb_un e5, zb_un e1, zb_un e9, zb_un e8, zb_un e7, zb_un e6, zb_un e5, fcm_o (by omega)]
abbrev T3 : Type := Int32 × Int32 × Int32
def fch : List T3 → pm_H → Nat → pm_H
  | [], h, _ => h
  | x :: l, h, n => if okC x.1 x.2.1 x.2.2 ∧ n < 5 then fch l (fcm h n x.1 x.2.1 x.2.2) (n + 1) else fch l h n
def mch : List T3 → pm_H → Nat → pm_H
  | [], h, _ => h
  | x :: l, h, n => if okC x.1 x.2.1 x.2.2 ∧ n < 5 then mch l (mcm h n x.1 x.2.1 x.2.2) (n + 1) else mch l h n
/-- how many of them come -/
def cch : List T3 → Nat → Nat
  | [], _ => 0
  | x :: l, n => if okC x.1 x.2.1 x.2.2 ∧ n < 5 then cch l (n + 1) + 1 else cch l n
theorem fch_mcm {n : Nat} {a b c : Int32} : ∀ {l : List T3} {h : pm_H} {m : Nat}, mcm (fch l h m) n a b c = fch l (mcm h n a b c) m
  | [], _, _ => rfl
  | x :: l, h, m => by
    unfold fch
    by_cases q : okC x.1 x.2.1 x.2.2 ∧ m < 5
    · rw [if_pos q, if_pos q, fch_mcm, cm_comm]
    · rw [if_neg q, if_neg q, fch_mcm]
theorem zRel_ch : ∀ {l : List T3} {h : pm_H} {n : Nat}, zRel h → h 1 8 = nI n → n ≤ 5 → zRel (mch l (fch l h n) n)
  | [], _, _, H, _, _ => H
  | x :: l, h, n, H, e, hn => by
    unfold fch mch
    by_cases q : okC x.1 x.2.1 x.2.2 ∧ n < 5
    · rw [if_pos q, if_pos q, fch_mcm]
      refine zRel_ch (zRel_come H e q.2 q.1) ?_ (by omega)
      rw [mcm_o (by omega)]
      unfold fcm
      rw [zb_us]
    · rw [if_neg q, if_neg q]
      exact zRel_ch H e hn
theorem fch_o : ∀ {l : List T3} {h : pm_H} {n : Nat} {o : Nat}, 9 < o → fch l h n o = h o
  | [], _, _, _, _ => rfl
  | x :: l, h, n, o, ho => by
    unfold fch
    by_cases q : okC x.1 x.2.1 x.2.2 ∧ n < 5
    · rw [if_pos q, fch_o ho, fcm_o (by omega)]
    · rw [if_neg q, fch_o ho]
/-- three by three, from the place i on, while they have places -/
def csL (g : Nat → Int32) (i : Int) (len : Nat) : Nat → Nat → List T3 × Bool
  | 0, _ => ([], true)
  | m + 1, k => if 0 ≤ i + 3 * k ∧ i + 3 * k + 3 ≤ len then ((g (i + 3 * k).toNat, g ((i + 3 * k).toNat + 1), g ((i + 3 * k).toNat + 2)) :: (csL g i len m (k + 1)).1, (csL g i len m (k + 1)).2) else ([], false)
theorem zb_3k {k : Nat} (hk : k ≤ 5) : (3 * nI k : Int32) = nI (3 * k) := by
  rw [show (3 : Int32) = nI 3 by decide]
  refine zb_teq.mpr ?_
  rw [zb_tmul (by rw [nI_toInt (by omega), nI_toInt (by omega)]; omega) (by rw [nI_toInt (by omega), nI_toInt (by omega)]; omega), nI_toInt (by omega), nI_toInt (by omega), nI_toInt (by omega)]
  omega
set_option maxHeartbeats 2000000 in
theorem sp_clsL {a : Nat} (ha : a < 4) {i : Int32} {N len : Nat} {g : Nat → Int32} {K90 : pm_H → Prop} {K137 Q : Int32 → pm_H → Prop} (hN : N ≤ 5) (hlen : len ≤ 40) : ∀ (m k came n : Nat) (h : pm_H), k + m = N → n ≤ 5 → came ≤ k → h 1 8 = nI n → h (58 + 2 * a) 2 = nI len → (∀ j, j < 40 → h (58 + 2 * a + 1) j = g j) → ((csL g i.toInt len m k).2 = true → K137 (nI (came + cch (csL g i.toInt len m k).1 n)) (fch (csL g i.toInt len m k).1 h n)) → ((csL g i.toInt len m k).2 = false → K90 (fch (csL g i.toInt len m k).1 h n)) → wl_X6_classes_64 i (nI N) (58 + 2 * a) K90 K137 Q (m + 1) (nI came) (nI k) h
  | 0, k, came, n, h, hk, hn, hca, e8, eL, hg, h1, h0 => by
    unfold wl_X6_classes_64
    rw [zb_lt, if_neg (nI_nlt (by omega) (by omega))]
    exact h1 rfl
  | m + 1, k, came, n, h, hk, hn, hca, e8, eL, hg, h1, h0 => by
    obtain ⟨A1, A2, A3⟩ := zAt2 a ha 6 (by omega)
    have hL : zB 0 40 (h (58 + 2 * a) 2) := by rw [eL]; exact zB_of (by omega) (by omega)
    have b1 := i.toInt_lt
    have b2 := i.le_toInt
    obtain ⟨k1, hk1⟩ : ∃ y : Int32, y = nI k + 1 := ⟨_, rfl⟩
    obtain ⟨c1, hc1⟩ : ∃ y : Int32, y = nI came + 1 := ⟨_, rfl⟩
    obtain ⟨x, hx⟩ : ∃ y : Int32, y = i + nI (3 * k) := ⟨_, rfl⟩
    have ex : x.toInt = (i.toInt + 3 * k).bmod (2 ^ 32) := by rw [hx, Int32.toInt_add, nI_toInt (by omega)]; norm_cast
    unfold csL at h1 h0
    unfold wl_X6_classes_64
    simp only [pm_op_eq, zb_3k (show k ≤ 5 by omega), ← hx, ← hk1, ← hc1]
    rw [zb_lt, if_pos (nI_lt (by omega) (by omega)), zb_ib A1]
    have key : (0 ≤ x.toInt ∧ x.toInt + 3 ≤ len) ↔ (0 ≤ i.toInt + 3 * k ∧ i.toInt + 3 * k + 3 ≤ len) := by
      rw [ex]
      by_cases q : i.toInt + 3 * k < 2 ^ 31
      · rw [Int.bmod_eq_of_le (by omega) (by omega)]
      · have : (i.toInt + 3 * k).bmod (2 ^ 32) = i.toInt + 3 * k - 2 ^ 32 := by
          have := Int.bmod_def (i.toInt + 3 * k) (2 ^ 32)
          omega
        rw [this]
        omega
    have e3 : (3 : Int32).toInt = 3 := by decide
    refine sp_hasPlaces ha hL (fun p => ?_) (fun p => ?_)
    · rw [eL, nI_toInt (by omega), e3] at p
      have p' := key.mp (by omega)
      simp only [if_pos p'] at h1 h0
      have exx : x = nI (i.toInt + 3 * k).toNat := by
        refine zb_teq.mpr ?_
        rw [nI_toInt (by omega), ex, Int.bmod_eq_of_le (by omega) (by omega)]
        omega
      rw [zb_eq, if_neg (by decide)]
      generalize hI : (i.toInt + 3 * k).toNat = I at exx h1 h0
      have hI37 : I + 3 ≤ 40 := by omega
      subst exx
      rw [zb_ib A1, zb_ib A2, A3, zb_ib (zb_in (by omega) (by omega)), zb_ib A1, zb_ib A2, nI_1, zb_ib (zb_in (by omega) (by omega)), zb_ib A1, zb_ib A2, show nI I + 2 = nI (I + 2) from nI_add I 2, zb_ib (zb_in (by omega) (by omega)), nI_clamp (by omega), nI_clamp (by omega), nI_clamp (by omega), hg I (by omega), hg (I + 1) (by omega), hg (I + 2) (by omega)]
      have no : ¬ (okC (g I) (g (I + 1)) (g (I + 2)) ∧ n < 5) → ∀ r : Int32, r < 0 → pm_lt r 0 (wl_X6_classes_64 i (nI N) (58 + 2 * a) K90 K137 Q (m + 1) (nI came) k1 h) (wl_X6_classes_64 i (nI N) (58 + 2 * a) K90 K137 Q (m + 1) c1 k1 h) := by
        intro q r hr
        rw [zb_lt, if_pos hr, hk1, nI_1]
        unfold fch cch at h1
        unfold fch at h0
        simp only [if_neg q] at h1 h0
        exact sp_clsL ha (g := g) hN hlen m (k + 1) came n h (by omega) hn (by omega) e8 eL hg h1 h0
      refine sp_come hn e8 (fun q => no (fun z => q z.1) _ (by decide)) (fun q q2 => no (fun z => q2 z.2) _ (by decide)) (fun q q2 => ?_)
      rw [zb_lt, if_neg (nI_pos (by omega)), hk1, hc1, nI_1, nI_1]
      unfold fch cch at h1
      unfold fch at h0
      simp only [if_pos (And.intro q q2)] at h1 h0
      refine sp_clsL ha (g := g) hN hlen m (k + 1) (came + 1) (n + 1) _ (by omega) (by omega) (by omega) (by unfold fcm; rw [zb_us]) (by rw [fcm_o (by omega)]; exact eL) (fun j hj => by rw [fcm_o (by omega)]; exact hg j hj) (fun z => ?_) h0
      have := h1 z
      rw [show came + (cch (csL g i.toInt len m (k + 1)).1 (n + 1) + 1) = came + 1 + cch (csL g i.toInt len m (k + 1)).1 (n + 1) by omega] at this
      exact this
    · rw [eL, nI_toInt (by omega), e3] at p
      rw [zb_eq, if_pos rfl]
      simp only [if_neg (fun z => p (by have := key.mpr z; omega))] at h1 h0
      exact h0 trivial
set_option maxHeartbeats 2000000 in
theorem sm_clsL {a : Nat} (ha : a < 4) {i : Int32} {N len : Nat} {g : Nat → Int32} {K90 : pm_H → Prop} {K137 Q : Int32 → pm_H → Prop} (hN : N ≤ 5) (hlen : len ≤ 40) : ∀ (m k came n : Nat) (h : pm_H), k + m = N → n ≤ 5 → came ≤ k → h 66 3 = nI n → h 89 a = nI len → (∀ j, j < 40 → h 90 (40 * a + j) = g j) → ((csL g i.toInt len m k).2 = true → K137 (nI (came + cch (csL g i.toInt len m k).1 n)) (mch (csL g i.toInt len m k).1 h n)) → ((csL g i.toInt len m k).2 = false → K90 (mch (csL g i.toInt len m k).1 h n)) → wl_X7_classes_63 (nI a) i (nI N) K90 K137 Q (m + 1) (nI came) (nI k) h
  | 0, k, came, n, h, hk, hn, hca, e8, eL, hg, h1, h0 => by
    unfold wl_X7_classes_63
    rw [zb_lt, if_neg (nI_nlt (by omega) (by omega))]
    exact h1 rfl
  | m + 1, k, came, n, h, hk, hn, hca, e8, eL, hg, h1, h0 => by
    have b1 := i.toInt_lt
    have b2 := i.le_toInt
    obtain ⟨k1, hk1⟩ : ∃ y : Int32, y = nI k + 1 := ⟨_, rfl⟩
    obtain ⟨c1, hc1⟩ : ∃ y : Int32, y = nI came + 1 := ⟨_, rfl⟩
    obtain ⟨X, hX⟩ : ∃ y : Int64, y = i.toInt64 + 3 * (nI k).toInt64 := ⟨_, rfl⟩
    have e3 : (3 : Int64).toInt = 3 := by decide
    have e2 : (2 : Int64).toInt = 2 := by decide
    have e0 : (0 : Int64).toInt = 0 := by decide
    have eX : X.toInt = i.toInt + 3 * k := by
      rw [hX, Int64.toInt_add, Int64.toInt_mul, Int32.toInt_toInt64, Int32.toInt_toInt64, e3, nI_toInt (by omega), Int.bmod_eq_of_le (n := 3 * (k : Int)) (by omega) (by omega), Int.bmod_eq_of_le (by omega) (by omega)]
    have l1 : lg_cmp X 0 < 0 ↔ i.toInt + 3 * k < 0 := by rw [lg_cmp_lt, Int64.lt_iff_toInt_lt, eX, e0]
    have l2 : lg_cmp (X + 2) (nI len).toInt64 < 0 ↔ i.toInt + 3 * k + 2 < len := by
      rw [lg_cmp_lt, Int64.lt_iff_toInt_lt, Int64.toInt_add, eX, e2, Int32.toInt_toInt64, nI_toInt (by omega), Int.bmod_eq_of_le (by omega) (by omega)]
    unfold csL at h1 h0
    unfold wl_X7_classes_63
    simp only [pm_op_eq, pm_ol_eq, pm_lcmp, ← hX, ← hk1, ← hc1]
    rw [zb_lt, if_pos (nI_lt (by omega) (by omega)), zb_lt]
    by_cases q1 : lg_cmp X 0 < 0
    · rw [if_pos q1]
      rw [l1] at q1
      simp only [if_neg (show ¬ (0 ≤ i.toInt + 3 * (k : Int) ∧ i.toInt + 3 * (k : Int) + 3 ≤ len) by omega)] at h1 h0
      exact h0 trivial
    rw [if_neg q1, zb_ib (zb_in ha (by omega)), nI_clamp (n := a) (by omega), eL, zb_lt]
    rw [l1] at q1
    by_cases q2 : lg_cmp (X + 2) (nI len).toInt64 < 0
    · rw [if_pos q2]
      rw [l2] at q2
      simp only [if_pos (show (0 ≤ i.toInt + 3 * (k : Int) ∧ i.toInt + 3 * (k : Int) + 3 ≤ len) by omega)] at h1 h0
      have e32 : X.toInt32 = nI (i.toInt + 3 * k).toNat := by
        refine zb_teq.mpr ?_
        rw [Int64.toInt_toInt32, eX, nI_toInt (by omega), Int.bmod_eq_of_le (by omega) (by omega)]
        omega
      rw [e32]
      generalize hI : (i.toInt + 3 * k).toNat = I at h1 h0
      have hI37 : I + 3 ≤ 40 := by omega
      have e40 := zb_e40 ha (i := I) (by omega)
      rw [e40, zb_ib (zb_in (by omega) (by omega)), nI_1, zb_ib (zb_in (by omega) (by omega)), show nI (40 * a + I) + 2 = nI (40 * a + I + 2) from nI_add _ 2, zb_ib (zb_in (by omega) (by omega)), nI_clamp (by omega), nI_clamp (by omega), nI_clamp (by omega), show 40 * a + I + 1 = 40 * a + (I + 1) by omega, show 40 * a + I + 2 = 40 * a + (I + 2) by omega, hg I (by omega), hg (I + 1) (by omega), hg (I + 2) (by omega)]
      have no : ¬ (okC (g I) (g (I + 1)) (g (I + 2)) ∧ n < 5) → ∀ r : Int32, r < 0 → pm_lt r 0 (wl_X7_classes_63 (nI a) i (nI N) K90 K137 Q (m + 1) (nI came) k1 h) (wl_X7_classes_63 (nI a) i (nI N) K90 K137 Q (m + 1) c1 k1 h) := by
        intro q r hr
        rw [zb_lt, if_pos hr, hk1, nI_1]
        unfold mch cch at h1
        unfold mch at h0
        simp only [if_neg q] at h1 h0
        exact sm_clsL ha (g := g) hN hlen m (k + 1) came n h (by omega) hn (by omega) e8 eL hg h1 h0
      refine sm_come hn e8 (fun q => no (fun z => q z.1) _ (by decide)) (fun q q2 => no (fun z => q2 z.2) _ (by decide)) (fun q q2 => ?_)
      rw [zb_lt, if_neg (nI_pos (by omega)), hk1, hc1, nI_1, nI_1]
      unfold mch cch at h1
      unfold mch at h0
      simp only [if_pos (And.intro q q2)] at h1 h0
      refine sm_clsL ha (g := g) hN hlen m (k + 1) (came + 1) (n + 1) _ (by omega) (by omega) (by omega) (by unfold mcm; rw [zb_us]) (by rw [mcm_o (by omega)]; exact eL) (fun j hj => by rw [mcm_o (by omega)]; exact hg j hj) (fun z => ?_) h0
      have := h1 z
      rw [show came + (cch (csL g i.toInt len m (k + 1)).1 (n + 1) + 1) = came + 1 + cch (csL g i.toInt len m (k + 1)).1 (n + 1) by omega] at this
      exact this
    · rw [if_neg q2]
      rw [l2] at q2
      simp only [if_neg (show ¬ (0 ≤ i.toInt + 3 * (k : Int) ∧ i.toInt + 3 * (k : Int) + 3 ≤ len) by omega)] at h1 h0
      exact h0 trivial
set_option maxHeartbeats 2000000 in
theorem pr_classes {h : pm_H} (H : zRel h) (a s i n : Int32) : wp_X6_classes a s i n h (fun r h1 => wp_X7_classes a s i n h1 (fun r' h2 => r = r' ∧ zRel h2)) := by
  have H4 := H.2.2.2.1
  obtain ⟨cnt, z1, z2, z3, -⟩ := zrS_at H.1
  unfold wp_X6_classes
  refine sp_isSheet (fun c => ?_) (fun c => ?_)
  · rw [zb_eq, if_pos rfl]
    unfold wp_X7_classes
    refine sm_within (fun _ => ?_) (fun q => absurd c q)
    rw [zb_eq, if_pos rfl]; exact ⟨rfl, H⟩
  rw [zb_eq, if_neg (by decide)]
  refine sp_isSort (fun d => ?_) (fun d => ?_)
  · rw [zb_eq, if_pos rfl]
    unfold wp_X7_classes
    refine sm_within (fun q => absurd q c) (fun _ => ?_)
    rw [zb_eq, if_neg (by decide)]
    refine sm_within (fun _ => ?_) (fun q => absurd d q)
    rw [zb_eq, if_pos rfl]; exact ⟨rfl, H⟩
  rw [zb_eq, if_neg (by decide)]
  refine sp_between (fun e => ?_) (fun e => ?_)
  · rw [zb_eq, if_pos rfl]
    unfold wp_X7_classes
    refine sm_within (fun q => absurd q c) (fun _ => ?_)
    rw [zb_eq, if_neg (by decide)]
    refine sm_within (fun q => absurd q d) (fun _ => ?_)
    rw [zb_eq, if_neg (by decide)]
    refine sm_within (fun _ => ?_) (fun q => absurd e q)
    rw [zb_eq, if_pos rfl]; exact ⟨rfl, H⟩
  rw [zb_eq, if_neg (by decide)]
  obtain ⟨t, ht, rfl⟩ := zb_rng (m := 3) (by decide) (by omega) c
  obtain ⟨N, hN, rfl⟩ := zb_rng (m := 5) (by decide) (by omega) e
  have ht4 : t < 4 := by omega
  obtain ⟨y1, y2, y3, y4⟩ := H4 t ht4
  obtain ⟨A1, A2, A3⟩ := zAt2 t ht4 6 (by omega)
  have int : pm_in (nI t) 4 = true := zb_in ht4 (by omega)
  have front : ∀ (h1 : pm_H) (Q : Int32 → pm_H → Prop), h1 88 = h 88 → (h 88 t = -1 → Q (-11) h1) → (¬ h 88 t = -1 → ¬ h 88 t = s → Q (-13) h1) → (¬ h 88 t = -1 → h 88 t = s → ∃ n788, wl_X7_classes_63 (nI t) i (nI N) (fun h785 => Q (-12) h785) (fun x787 h786 => Q x787 h786) Q n788 0 0 h1) → wp_X7_classes (nI t) s i (nI N) h1 Q := by
    intro h1 Q e88 q1 q2 q3
    unfold wp_X7_classes
    refine sm_within (fun q => absurd q c) (fun _ => ?_)
    rw [zb_eq, if_neg (by decide)]
    refine sm_within (fun q => absurd q d) (fun _ => ?_)
    rw [zb_eq, if_neg (by decide)]
    refine sm_within (fun q => absurd q e) (fun _ => ?_)
    rw [zb_eq, if_neg (by decide), zb_ib int, nI_clamp (n := t) (by omega), e88, zb_eq]
    by_cases c1 : h 88 t = -1
    · rw [if_pos c1]; exact q1 c1
    rw [if_neg c1, zb_ib int, zb_eq]
    by_cases c2 : h 88 t = s
    · rw [if_pos c2]; exact q3 c1 c2
    · rw [if_neg c2]; exact q2 c1 c2
  rw [zb_ib int, nI_clamp (n := t) (by omega), zb_ib A1]
  refine sp_isMissing ht4 ?_
  rw [zb_eq]
  by_cases c1 : h 88 t = -1
  · rw [if_pos (y1.trans c1), if_neg (by decide)]
    exact front h _ rfl (fun _ => ⟨rfl, H⟩) (fun q => absurd c1 q) (fun q => absurd c1 q)
  rw [if_neg (fun q => c1 (y1.symm.trans q)), if_pos rfl, zb_ib A1, zb_eq]
  by_cases c2 : h 88 t = s
  · rw [if_pos (y1.trans c2)]
    obtain ⟨len, hlen, el, -⟩ := zB_nat (b := 40) y3
    obtain ⟨y5, y6⟩ := y4 c1
    have hg : ∀ j, j < 40 → h 90 (40 * t + j) = h (58 + 2 * t + 1) j := fun j hj => (y6 j hj).symm
    refine ⟨N + 1, ?_⟩
    have f := sp_clsL (h := h) (a := t) ht4 (i := i) (N := N) (len := len) (g := h (58 + 2 * t + 1)) (K90 := fun h339 => wp_X7_classes (nI t) s i (nI N) h339 (fun r' h2 => -12 = r' ∧ zRel h2)) (K137 := fun x341 h340 => wp_X7_classes (nI t) s i (nI N) h340 (fun r' h2 => x341 = r' ∧ zRel h2)) (Q := fun r h1 => wp_X7_classes (nI t) s i (nI N) h1 (fun r' h2 => r = r' ∧ zRel h2)) hN hlen N 0 0 cnt (by omega) z1 (by omega) z2 el (fun _ _ => rfl) ?_ ?_
    · rw [show (nI 0 : Int32) = 0 from zb_c0.symm] at f
      exact f
    · intro q
      generalize hl : csL (h (58 + 2 * t + 1)) i.toInt len N 0 = r at q ⊢
      refine front _ _ (fch_o (by omega)) (fun z => absurd z c1) (fun _ z => absurd c2 z) (fun _ _ => ⟨N + 1, ?_⟩)
      have fm := sm_clsL (h := fch r.1 h cnt) (a := t) ht4 (i := i) (N := N) (len := len) (g := h (58 + 2 * t + 1)) (K90 := fun h785 => nI (0 + cch r.1 cnt) = -12 ∧ zRel h785) (K137 := fun x787 h786 => nI (0 + cch r.1 cnt) = x787 ∧ zRel h786) (Q := fun r' h2 => nI (0 + cch r.1 cnt) = r' ∧ zRel h2) hN hlen N 0 0 cnt (by omega) z1 (by omega) (by rw [fch_o (by omega)]; exact z3) (by rw [fch_o (by omega), y5]; exact el) (fun j hj => by rw [fch_o (by omega)]; exact hg j hj) ?_ ?_
      · rw [show (nI 0 : Int32) = 0 from zb_c0.symm] at fm
        exact fm
      · rw [hl]; exact fun _ => ⟨rfl, zRel_ch H z2 z1⟩
      · rw [hl, q]; exact fun z => absurd z (by decide)
    · intro q
      generalize hl : csL (h (58 + 2 * t + 1)) i.toInt len N 0 = r at q ⊢
      refine front _ _ (fch_o (by omega)) (fun z => absurd z c1) (fun _ z => absurd c2 z) (fun _ _ => ⟨N + 1, ?_⟩)
      have fm := sm_clsL (h := fch r.1 h cnt) (a := t) ht4 (i := i) (N := N) (len := len) (g := h (58 + 2 * t + 1)) (K90 := fun h785 => (-12 : Int32) = -12 ∧ zRel h785) (K137 := fun x787 h786 => (-12 : Int32) = x787 ∧ zRel h786) (Q := fun r' h2 => (-12 : Int32) = r' ∧ zRel h2) hN hlen N 0 0 cnt (by omega) z1 (by omega) (by rw [fch_o (by omega)]; exact z3) (by rw [fch_o (by omega), y5]; exact el) (fun j hj => by rw [fch_o (by omega)]; exact hg j hj) ?_ ?_
      · rw [show (nI 0 : Int32) = 0 from zb_c0.symm] at fm
        exact fm
      · rw [hl, q]; exact fun z => absurd z (by decide)
      · rw [hl]; exact fun _ => ⟨rfl, zRel_ch H z2 z1⟩
  · rw [if_neg (fun q => c2 (y1.symm.trans q))]
    exact front h _ rfl (fun q => absurd q c1) (fun _ _ => ⟨rfl, H⟩) (fun _ q => absurd q c2)
/-- image -/
theorem sm_imL1 {K : pm_H → Prop} {Q : Int32 → pm_H → Prop} : ∀ (m j : Nat) (h : pm_H), j + m = 10 → (∀ h', (∀ o, o ≠ 86 → h' o = h o) → (∀ i, (j ≤ i ∧ i < 10 → h' 86 i = h 67 i ∧ h' 86 (10 + i) = h 68 i ∧ h' 86 (20 + i) = h 69 i) ∧ (i < j → h' 86 i = h 86 i ∧ h' 86 (10 + i) = h 86 (10 + i) ∧ h' 86 (20 + i) = h 86 (20 + i))) → K h') → wl_X7_image_39 K Q (m + 1) (nI j) h
  | 0, j, h, hj, hK => by
    unfold wl_X7_image_39
    rw [zb_lt, show (10 : Int32) = nI 10 by decide, if_neg (nI_nlt (by omega) (by omega))]
    exact hK h (fun _ _ => rfl) (fun i => ⟨fun q => absurd q (by omega), fun _ => ⟨rfl, rfl, rfl⟩⟩)
  | m + 1, j, h, hj, hK => by
    unfold wl_X7_image_39
    simp only [pm_op_eq, show (10 : Int32) = nI 10 by decide, show (20 : Int32) = nI 20 by decide, nI_add, nI_1, zb_lt, zb_in (j := j) (n := 10) (by omega) (by omega), zb_in (j := j) (n := 30) (by omega) (by omega), zb_in (j := 10 + j) (n := 30) (by omega) (by omega), zb_in (j := 20 + j) (n := 30) (by omega) (by omega), zb_ibt, nI_clamp (n := j) (by omega), nI_clamp (n := 10 + j) (by omega), nI_clamp (n := 20 + j) (by omega)]
    rw [if_pos (nI_lt (by omega) (by omega))]
    refine sm_imL1 m (j + 1) _ (by omega) (fun h' e1 e2 => hK h' (fun o ho => by rw [e1 o ho, zb_un ho, zb_un ho, zb_un ho]) (fun i => ?_))
    obtain ⟨p1, p2⟩ := e2 i
    simp only [zb_u, show ¬ ((67 : Nat) = 86) by omega, show ¬ ((68 : Nat) = 86) by omega, show ¬ ((69 : Nat) = 86) by omega, if_true, if_false] at p1 p2
    refine ⟨fun q => ?_, fun q => ?_⟩
    · by_cases c : i = j
      · subst c
        obtain ⟨q1, q2, q3⟩ := p2 (by omega)
        rw [if_neg (by omega), if_neg (by omega), if_pos rfl] at q1
        rw [if_neg (by omega), if_pos rfl] at q2
        rw [if_pos rfl] at q3
        exact ⟨q1, q2, q3⟩
      · exact p1 (by omega)
    · obtain ⟨q1, q2, q3⟩ := p2 (by omega)
      rw [if_neg (by omega), if_neg (by omega), if_neg (by omega)] at q1
      rw [if_neg (by omega), if_neg (by omega), if_neg (by omega)] at q2
      rw [if_neg (by omega), if_neg (by omega), if_neg (by omega)] at q3
      exact ⟨q1, q2, q3⟩
theorem sm_imL2 {K : pm_H → Prop} {Q : Int32 → pm_H → Prop} {n : Nat} (hn : n ≤ 5) : ∀ (m j : Nat) (h : pm_H), j + m = n → h 66 3 = nI n → (∀ h', (∀ o, o ≠ 87 → h' o = h o) → (∀ i, (j ≤ i ∧ i < n → h' 87 i = h 71 i ∧ h' 87 (5 + i) = h 72 i ∧ h' 87 (10 + i) = h 73 i ∧ h' 87 (15 + i) = h 74 i) ∧ (i < j → h' 87 i = h 87 i ∧ h' 87 (5 + i) = h 87 (5 + i) ∧ h' 87 (10 + i) = h 87 (10 + i) ∧ h' 87 (15 + i) = h 87 (15 + i))) → K h') → wl_X7_image_95 K Q (m + 1) (nI j) h
  | 0, j, h, hj, e, hK => by
    unfold wl_X7_image_95
    rw [zb_lt, e, if_neg (nI_nlt (by omega) (by omega))]
    exact hK h (fun _ _ => rfl) (fun i => ⟨fun q => absurd q (by omega), fun _ => ⟨rfl, rfl, rfl, rfl⟩⟩)
  | m + 1, j, h, hj, e, hK => by
    unfold wl_X7_image_95
    simp only [pm_op_eq, e, show (5 : Int32) = nI 5 by decide, show (10 : Int32) = nI 10 by decide, show (15 : Int32) = nI 15 by decide, nI_add, nI_1, zb_lt, zb_in (j := j) (n := 5) (by omega) (by omega), zb_in (j := j) (n := 20) (by omega) (by omega), zb_in (j := 5 + j) (n := 20) (by omega) (by omega), zb_in (j := 10 + j) (n := 20) (by omega) (by omega), zb_in (j := 15 + j) (n := 20) (by omega) (by omega), zb_ibt, nI_clamp (n := j) (by omega), nI_clamp (n := 5 + j) (by omega), nI_clamp (n := 10 + j) (by omega), nI_clamp (n := 15 + j) (by omega)]
    rw [if_pos (nI_lt (by omega) (by omega))]
    refine sm_imL2 hn m (j + 1) _ (by omega) (by rw [zb_un (by omega), zb_un (by omega), zb_un (by omega), zb_un (by omega)]; exact e) (fun h' e1 e2 => hK h' (fun o ho => by rw [e1 o ho, zb_un ho, zb_un ho, zb_un ho, zb_un ho]) (fun i => ?_))
    obtain ⟨p1, p2⟩ := e2 i
    simp only [zb_u, show ¬ ((71 : Nat) = 87) by omega, show ¬ ((72 : Nat) = 87) by omega, show ¬ ((73 : Nat) = 87) by omega, show ¬ ((74 : Nat) = 87) by omega, if_true, if_false] at p1 p2
    refine ⟨fun q => ?_, fun q => ?_⟩
    · by_cases c : i = j
      · subst c
        obtain ⟨q1, q2, q3, q4⟩ := p2 (by omega)
        rw [if_neg (by omega), if_neg (by omega), if_neg (by omega), if_pos rfl] at q1
        rw [if_neg (by omega), if_neg (by omega), if_pos rfl] at q2
        rw [if_neg (by omega), if_pos rfl] at q3
        rw [if_pos rfl] at q4
        exact ⟨q1, q2, q3, q4⟩
      · exact p1 (by omega)
    · obtain ⟨q1, q2, q3, q4⟩ := p2 (by omega)
      rw [if_neg (by omega), if_neg (by omega), if_neg (by omega), if_neg (by omega)] at q1
      rw [if_neg (by omega), if_neg (by omega), if_neg (by omega), if_neg (by omega)] at q2
      rw [if_neg (by omega), if_neg (by omega), if_neg (by omega), if_neg (by omega)] at q3
      rw [if_neg (by omega), if_neg (by omega), if_neg (by omega), if_neg (by omega)] at q4
      exact ⟨q1, q2, q3, q4⟩
