/-! MATHEMATICS, 56: the reference's order -/
section
variable {k : Nat} {R : Nat → List Int32}
theorem sm_ordB {l1 l2 l3 : Int32} {K : pm_H → Prop} {Q : Int32 → pm_H → Prop} {n : Nat} {L : List Nat} (hn : n ≤ 5) (hL : ∀ c, c < n → L.getD c 0 < n) {f : Nat → Int32} : ∀ (m c : Nat) (h : pm_H), c + m = n → h 66 3 = nI n → zRw (h 84) L n → (∀ c, c < n → h 83 (L.getD c 0) = f c) → (∀ h', (∀ o, o ≠ 72 → h' o = h o) → (∀ i, h' 72 i = if c ≤ i ∧ i < n then f i else h 72 i) → K h') → wl_X7_order_64 l1 l2 l3 K Q (m + 1) (nI c) h
  | 0, c, h, hs, e1, hR, hf, hK => by
    unfold wl_X7_order_64
    rw [zb_lt, e1, if_neg (nI_nlt (by omega) (by omega))]
    exact hK h (fun _ _ => rfl) (fun i => by rw [if_neg (by omega)])
  | m + 1, c, h, hs, e1, hR, hf, hK => by
    have hc : c < n := by omega
    have hLc := hL c hc
    unfold wl_X7_order_64
    rw [zb_lt, e1, if_pos (nI_lt (by omega) (by omega)), zb_ib (zb_in (by omega) (by omega)), nI_clamp (n := c) (by omega), hR.2.1 c hc, zb_ib (zb_in (by omega) (by omega)), zb_ib (zb_in (by omega) (by omega)), pm_op_eq, nI_1, nI_clamp (by omega), hf c hc]
    refine sm_ordB (f := f) hn hL m (c + 1) _ (by omega) (by rw [zb_un (by omega)]; exact e1) (by rw [zb_un (by omega)]; exact hR) (fun c hc => by rw [zb_un (by omega)]; exact hf c hc) (fun h' e2 e3 => hK h' (fun o ho => by rw [e2 o ho, zb_un ho]) (fun i => ?_))
    rw [e3, zb_ur]
    unfold upd
    by_cases c1 : i = c
    · subst c1
      rw [if_neg (by omega), if_pos rfl, if_pos (by omega)]
    · rw [if_neg c1]
      by_cases c2 : c ≤ i ∧ i < n
      · rw [if_pos c2, if_pos (by omega)]
      · rw [if_neg c2, if_neg (by omega)]
theorem sm_ordC {l1 l2 l3 : Int32} {K : pm_H → Prop} {Q : Int32 → pm_H → Prop} {n : Nat} (hn : n ≤ 5) : ∀ (m c : Nat) (h : pm_H), c + m = n → h 66 3 = nI n → (∀ h', (∀ o, o ≠ 85 → h' o = h o) → (∀ i, h' 85 i = if c ≤ i ∧ i < n then h 84 i else h 85 i) → K h') → wl_X7_order_135 l1 l2 l3 K Q (m + 1) (nI c) h
  | 0, c, h, hs, e1, hK => by
    unfold wl_X7_order_135
    rw [zb_lt, e1, if_neg (nI_nlt (by omega) (by omega))]
    exact hK h (fun _ _ => rfl) (fun i => by rw [if_neg (by omega)])
  | m + 1, c, h, hs, e1, hK => by
    unfold wl_X7_order_135
    rw [zb_lt, e1, if_pos (nI_lt (by omega) (by omega)), zb_ib (zb_in (by omega) (by omega)), zb_ib (zb_in (by omega) (by omega)), pm_op_eq, nI_1, nI_clamp (by omega)]
    refine sm_ordC hn m (c + 1) _ (by omega) (by rw [zb_un (by omega)]; exact e1) (fun h' e2 e3 => hK h' (fun o ho => by rw [e2 o ho, zb_un ho]) (fun i => ?_))
    rw [e3, zb_ur, zb_un (by omega)]
    unfold upd
    by_cases c1 : i = c
    · subst c1
      rw [if_neg (by omega), if_pos rfl, if_pos (by omega)]
    · rw [if_neg c1]
      by_cases c2 : c ≤ i ∧ i < n
      · rw [if_pos c2, if_pos (by omega)]
      · rw [if_neg c2, if_neg (by omega)]
theorem sm_ordX {w l t : Int32} {K Q : Int32 → pm_H → Prop} {m : Nat} {h : pm_H} (hK : K l h) : wl_X7_order_56 w K Q (m + 1) l t 0 h := by
  unfold wl_X7_order_56
  rw [zb_eq, if_pos rfl]; exact hK
set_option maxHeartbeats 4000000 in
theorem sm_ordL {w : Int32} {K Q : Int32 → pm_H → Prop} {h0 : pm_H} {n : Nat} (hn : n ≤ 5) (e3 : h0 66 3 = nI n) (H0 : zMk k R h0) : ∀ (m l : Nat) (t : Int32) (L B : List Nat) (h : pm_H), rEnd n m L = true → l ≤ 401 → gB h0 h → zRw (h 84) L n → (l ≤ 400 → ∀ c, c < n → h 85 c = nI (B.getD c 0)) → (∀ h', gB h0 h' → ((oS R (vZ (vM h0)) n (rAll n m L) l t B).1 ≤ 400 → ∀ c, c < n → h' 85 c = nI ((oS R (vZ (vM h0)) n (rAll n m L) l t B).2.getD c 0)) → K (nI (oS R (vZ (vM h0)) n (rAll n m L) l t B).1) h') → wl_X7_order_56 w K Q (m + 1) (nI l) t 1 h
  | 0, l, t, L, B, h, hE, hl, G, hR, hB, hK => by cases hE
  | m + 1, l, t, L, B, h, hE, hl, G, hR, hB, hK => by
    obtain ⟨hLl, hL, hN⟩ := rEnd_get hE
    have e3h : ∀ h1, gB h0 h1 → h1 66 3 = nI n := fun h1 G1 => by rw [G1.2.2.2 3 (by omega)]; exact e3
    have e3' : (h0 66 3).toNatClampNeg = n := by rw [e3]; exact nI_clamp (by omega)
    have eA : rAll n (m + 1) L = L :: (match rX n L with | none => [] | some L' => rAll n m L') := rfl
    rw [eA] at hK
    have hle := (zR_ge (R := R) (shf := zN1) 400 0 (oZ (vZ (vM h0)) n L)).2
    have eV : oV R (vZ (vM h0)) n L = zR R zN1 400 0 (oZ (vZ (vM h0)) n L) := rfl
    rw [← eV] at hle
    have nxg : ∀ (h1 : pm_H), (oV R (vZ (vM h0)) n L).1 < l ∨ ((oV R (vZ (vM h0)) n L).1 = l ∧ (oV R (vZ (vM h0)) n L).2 9 0 < t) → gB h0 h1 → zRw (h1 84) L n → ∃ n678, wl_X7_order_135 w (nI (oV R (vZ (vM h0)) n L).1) ((oV R (vZ (vM h0)) n L).2 9 0) (fun h667 => wp_X7_another h667 (fun r669 h668 => wl_X7_order_56 w K Q (m + 1) (nI (oV R (vZ (vM h0)) n L).1) ((oV R (vZ (vM h0)) n L).2 9 0) r669 h668)) Q n678 0 h1 := by
      intro h1 q G1 R1
      unfold oS at hK
      simp only [if_pos q] at hK
      refine ⟨n + 1, ?_⟩
      rw [show wl_X7_order_135 w (nI (oV R (vZ (vM h0)) n L).1) ((oV R (vZ (vM h0)) n L).2 9 0) (fun h667 => wp_X7_another h667 (fun r669 h668 => wl_X7_order_56 w K Q (m + 1) (nI (oV R (vZ (vM h0)) n L).1) ((oV R (vZ (vM h0)) n L).2 9 0) r669 h668)) Q (n + 1) 0 h1 = wl_X7_order_135 w (nI (oV R (vZ (vM h0)) n L).1) ((oV R (vZ (vM h0)) n L).2 9 0) (fun h667 => wp_X7_another h667 (fun r669 h668 => wl_X7_order_56 w K Q (m + 1) (nI (oV R (vZ (vM h0)) n L).1) ((oV R (vZ (vM h0)) n L).2 9 0) r669 h668)) Q (n + 1) (nI 0) h1 by rw [← zb_c0]]
      refine sm_ordC hn n 0 h1 (by omega) (e3h h1 G1) (fun h2 a1 a2 => ?_)
      have G2 : gB h0 h2 := gB_o G1 (fun o _ _ ho => a1 o ho)
      have R2 : zRw (h2 84) L n := by rw [a1 84 (by omega)]; exact R1
      have hB2 : ∀ c, c < n → h2 85 c = nI (L.getD c 0) := fun c hc => by rw [a2, if_pos (by omega)]; exact R1.2.1 c hc
      refine sm_next hn (e3h h2 G2) R2 (fun e => ?_) (fun L' e h3 o3 R3 => ?_)
      · refine sm_ordX ?_
        rw [e] at hK
        exact hK h2 G2 (fun _ => hB2)
      · rw [e] at hK
        exact sm_ordL hn e3 H0 m _ _ L' L h3 (hN L' e) (by omega) (gB_o G2 (fun o _ ho _ => o3 o ho)) R3 (fun _ c hc => by rw [o3 85 (by omega)]; exact hB2 c hc) hK
    have stay : ∀ (h1 : pm_H), ¬ ((oV R (vZ (vM h0)) n L).1 < l ∨ ((oV R (vZ (vM h0)) n L).1 = l ∧ (oV R (vZ (vM h0)) n L).2 9 0 < t)) → gB h0 h1 → zRw (h1 84) L n → (l ≤ 400 → ∀ c, c < n → h1 85 c = nI (B.getD c 0)) → wp_X7_another h1 (fun r h683 => wl_X7_order_56 w K Q (m + 1) (nI l) t r h683) := by
      intro h1 q G1 R1 hB1
      unfold oS at hK
      simp only [if_neg q] at hK
      refine sm_next hn (e3h h1 G1) R1 (fun e => ?_) (fun L' e h3 o3 R3 => ?_)
      · refine sm_ordX ?_
        rw [e] at hK
        exact hK h1 G1 hB1
      · rw [e] at hK
        exact sm_ordL hn e3 H0 m _ _ L' B h3 (hN L' e) hl (gB_o G1 (fun o _ ho _ => o3 o ho)) R3 (fun hl c hc => by rw [o3 85 (by omega)]; exact hB1 hl c hc) hK
    unfold wl_X7_order_56
    rw [zb_eq, if_neg (by decide)]
    refine ⟨n + 1, ?_⟩
    have eB4 : ∀ c, c < n → vZ (vM h0) 4 (L.getD c 0) = h0 72 (L.getD c 0) := fun c hc => by rw [vZ_r (by omega), vM_4 (by rw [e3']; exact hL c hc)]
    have hf : ∀ c, c < n → zB 0 999 (oB (vZ (vM h0)) L c) := fun c hc => by
      have := (H0.1.1.2.2.2 (L.getD c 0) (by rw [vM_70, e3']; exact hL c hc)).2.1
      unfold oB
      rw [vZ_r (by omega)]
      exact this
    suffices hs : wl_X7_order_64 w (nI l) t (fun h664 => wp_X7_ends_ h664 (fun r666 h665 => pm_lt r666 (nI l) (∃ n678, wl_X7_order_135 w r666 (h665 66 27) (fun h667 => wp_X7_another h667 (fun r669 h668 => wl_X7_order_56 w K Q (m + 1) r666 (h665 66 27) r669 h668)) Q n678 0 h665) (pm_eq r666 (nI l) (pm_lt (h665 66 27) t (∃ n682, wl_X7_order_135 w r666 (h665 66 27) (fun h679 => wp_X7_another h679 (fun r681 h680 => wl_X7_order_56 w K Q (m + 1) r666 (h665 66 27) r681 h680)) Q n682 0 h665) (wp_X7_another h665 (fun r684 h683 => wl_X7_order_56 w K Q (m + 1) (nI l) t r684 h683))) (wp_X7_another h665 (fun r686 h685 => wl_X7_order_56 w K Q (m + 1) (nI l) t r686 h685))))) Q (n + 1) (nI 0) h by
      rw [← zb_c0] at hs
      exact hs
    refine sm_ordB (f := oB (vZ (vM h0)) L) hn hL n 0 h (by omega) (e3h h G) hR (fun c hc => by rw [(G.2.2.1 _ (by have := hL c hc; omega)).1]; exact (eB4 c hc).symm) (fun h1 a1 a2 => ?_)
    have G1 : gB h0 h1 := gB_o G (fun o ho _ _ => a1 o ho)
    obtain ⟨M1, v1⟩ := gB_ok H0 hn e3 G1 (fun c hc => by rw [a2, if_pos (by omega)]) hf
    refine sm_ends_ M1 (fun h2 g g0 a27 _ _ _ => ?_)
    have v1 : vZ (vM h1) = oZ (vZ (vM h0)) n L := v1
    rw [v1, ← eV] at a27 ⊢
    rw [a27]
    have G2 := gB_M G1 g g0
    have R2 : zRw (h2 84) L n := by rw [g0 84 (by omega), a1 84 (by omega)]; exact hR
    have hB2 : l ≤ 400 → ∀ c, c < n → h2 85 c = nI (B.getD c 0) := fun q c hc => by rw [g0 85 (by omega), a1 85 (by omega)]; exact hB q c hc
    rw [zb_lt]
    by_cases q1 : (oV R (vZ (vM h0)) n L).1 < l
    · rw [if_pos (nI_lt q1 (by omega))]
      exact nxg h2 (Or.inl q1) G2 R2
    · rw [if_neg (nI_nlt (by omega) (by omega)), zb_eq]
      by_cases q2 : (oV R (vZ (vM h0)) n L).1 = l
      · rw [if_pos (by rw [q2]), zb_lt]
        by_cases q3 : (oV R (vZ (vM h0)) n L).2 9 0 < t
        · rw [if_pos q3]
          exact nxg h2 (Or.inr ⟨q2, q3⟩) G2 R2
        · rw [if_neg q3]
          exact stay h2 (by rintro (z | z); exact q1 z; exact q3 z.2) G2 R2 hB2
      · rw [if_neg (fun z => q2 ((nI_eq (by omega) (by omega)).mp z))]
        exact stay h2 (by rintro (z | z); exact q1 z; exact q2 z.1) G2 R2 hB2
theorem sm_ordI {w a b : Int32} {K : pm_H → Prop} {Q : Int32 → pm_H → Prop} {n : Nat} (hn : n ≤ 5) : ∀ (m c : Nat) (h : pm_H), c + m = n → h 66 3 = nI n → (∀ h', (∀ o, o ≠ 84 → h' o = h o) → (∀ i, h' 84 i = if c ≤ i ∧ i < n then nI i else h 84 i) → K h') → wl_X7_order_29 w a b K Q (m + 1) (nI c) h
  | 0, c, h, hs, e1, hK => by
    unfold wl_X7_order_29
    rw [zb_lt, e1, if_neg (nI_nlt (by omega) (by omega))]
    exact hK h (fun _ _ => rfl) (fun i => by rw [if_neg (by omega)])
  | m + 1, c, h, hs, e1, hK => by
    unfold wl_X7_order_29
    rw [zb_lt, e1, if_pos (nI_lt (by omega) (by omega)), zb_ib (zb_in (by omega) (by omega)), pm_op_eq, nI_1, nI_clamp (by omega)]
    refine sm_ordI hn m (c + 1) _ (by omega) (by rw [zb_un (by omega)]; exact e1) (fun h' e2 e3 => hK h' (fun o ho => by rw [e2 o ho, zb_un ho]) (fun i => ?_))
    rw [e3, zb_ur]
    unfold upd
    by_cases c1 : i = c
    · subst c1
      rw [if_neg (by omega), if_pos rfl, if_pos (by omega)]
    · rw [if_neg c1]
      by_cases c2 : c ≤ i ∧ i < n
      · rw [if_pos c2, if_pos (by omega)]
      · rw [if_neg c2, if_neg (by omega)]
theorem oS_first {z : pm_H} {n : Nat} : (oS R z n (rAll n 120 (rFst n)) 401 0 []).1 ≤ 400 := by
  have eA : rAll n 120 (rFst n) = rFst n :: (match rX n (rFst n) with | none => [] | some L' => rAll n 119 L') := rfl
  have le := (zR_ge (R := R) (shf := zN1) 400 0 (oZ z n (rFst n))).2
  have mono : ∀ rs l t B, (oS R z n rs l t B).1 ≤ l := by
    intro rs
    induction rs with
    | nil => intro l t B; exact Nat.le_refl _
    | cons L rs ih =>
      intro l t B
      unfold oS
      by_cases q : (oV R z n L).1 < l ∨ ((oV R z n L).1 = l ∧ (oV R z n L).2 9 0 < t)
      · rw [if_pos q]
        have := ih (oV R z n L).1 ((oV R z n L).2 9 0) L
        omega
      · rw [if_neg q]; exact ih l t B
  rw [eA]
  unfold oS
  rw [if_pos (Or.inl (by unfold oV; omega))]
  have := mono (match rX n (rFst n) with | none => [] | some L' => rAll n 119 L') (oV R z n (rFst n)).1 ((oV R z n (rFst n)).2 9 0) (rFst n)
  unfold oV at this ⊢
  omega
theorem sm_isClass {a : Int32} {h : pm_H} {n : Nat} {Q : Int32 → pm_H → Prop} (hn : n ≤ 5) (e : h 66 3 = nI n) (h0 : (a < 0 ∨ ¬ a < nI n) → Q 0 h) (h1 : ¬ (a < 0 ∨ ¬ a < nI n) → Q 1 h) : wp_X7_isClass a h Q := by
  have key : nI n - 1 < a ↔ ¬ a < nI n := by
    rw [zb_tlt, zb_tlt, nI_toInt (by omega), zb_tsub (by rw [nI_toInt (by omega), Int32.toInt_one]; omega) (by rw [nI_toInt (by omega), Int32.toInt_one]; omega), nI_toInt (by omega), Int32.toInt_one]
    omega
  unfold wp_X7_isClass
  rw [e, pm_op_eq]
  refine sm_within (fun c => ?_) (fun c => ?_)
  · rw [zb_b0]; exact h0 (c.imp id key.mp)
  · rw [zb_b1]; exact h1 (fun q => c (q.imp id key.mpr))
set_option maxHeartbeats 2000000 in
theorem sm_order {w : Int32} {h : pm_H} {Q : Int32 → pm_H → Prop} (H : zMk k R h) (hq : ∀ h', gM h h' → Q (aOrd R (vZ (vM h)) w) h') : wp_X7_order w h Q := by
  obtain ⟨n, hn, e, e'⟩ := zM_cnt H.1.1
  have hE := rEnd_ok n (by omega)
  unfold aOrd at hq
  rw [vZ_r (r := 7) (by omega), vM_70, e'] at hq
  have go : (w = -1 ∨ ∃ j, j < n ∧ w = nI j) → wp_X7_keepBells h (fun h695 => ∃ n701, wl_X7_order_29 w 401 0 (fun h696 => ∃ n700, wl_X7_order_56 w (fun x698 h697 => wp_X7_bellsAgain h697 (fun h699 => pm_eq w (-1) (Q x698 h699) (pm_ib (pm_in w 5) (Q (h699 85 w.toNatClampNeg) h699)))) Q n700 401 0 1 h696) Q n701 0 h695) := by
    intro hw
    refine sm_keepBells (fun h1 G1 e1 => ⟨n + 1, ?_⟩)
    have e401 : (401 : Int32) = nI 401 := by decide
    suffices hs : wl_X7_order_29 w 401 0 (fun h696 => ∃ n700, wl_X7_order_56 w (fun x698 h697 => wp_X7_bellsAgain h697 (fun h699 => pm_eq w (-1) (Q x698 h699) (pm_ib (pm_in w 5) (Q (h699 85 w.toNatClampNeg) h699)))) Q n700 (nI 401) 0 1 h696) Q (n + 1) (nI 0) h1 by
      rw [← e401] at hs
      rw [show (nI 0 : Int32) = 0 from zb_c0.symm] at hs
      exact hs
    refine sm_ordI hn n 0 h1 (by omega) (by rw [e1 66 (by omega)]; exact e) (fun h2 a1 a2 => ⟨121, ?_⟩)
    refine sm_ordL hn e H 120 401 0 (rFst n) [] h2 hE (by omega) (gB_o G1 (fun o _ ho _ => a1 o ho)) (zRw_fst hn (fun c hc => by rw [a2, if_pos (by omega)])) (fun z => absurd z (by omega)) (fun h3 G3 hb => ?_)
    refine sm_bellsAgain G3 (fun h4 g4 e4 => ?_)
    rw [zb_eq]
    have hq := hq h4 g4
    rcases hw with rfl | ⟨j, hj, rfl⟩
    · rw [if_pos rfl]
      rw [if_neg (fun z => z.1 rfl), if_pos rfl] at hq
      exact hq
    · have hne : ¬ nI j = -1 := by
        intro q
        have := congrArg Int32.toInt q
        rw [nI_toInt (by omega), show (-1 : Int32).toInt = -1 by decide] at this
        omega
      rw [if_neg hne, zb_ib (zb_in (by omega) (by omega)), nI_clamp (by omega)]
      rw [if_neg (fun z => by
        rcases z.2 with z | z
        · exact nI_pos (by omega) z
        · rw [e] at z; exact z (nI_lt hj (by omega))), if_neg hne, nI_clamp (by omega)] at hq
      rw [e4 85 (by omega), hb oS_first j hj]
      exact hq
  unfold wp_X7_order
  rw [zb_eq]
  by_cases c : w = -1
  · rw [if_pos c]
    exact go (Or.inl c)
  · rw [if_neg c]
    refine sm_isClass hn e (fun d => ?_) (fun d => ?_)
    · rw [zb_eq, if_pos rfl]
      have := hq h gM_rfl
      rw [if_pos ⟨c, by rw [e]; exact d⟩] at this
      exact this
    · rw [zb_eq, if_neg (by decide)]
      refine go (Or.inr ?_)
      have c1 : ¬ w < 0 := fun z => d (Or.inl z)
      have c2 : w < nI n := by
        rcases Classical.em (w < nI n) with z | z
        · exact z
        · exact absurd (Or.inr z) d
      rw [zb_tlt, Int32.toInt_zero] at c1
      rw [zb_tlt, nI_toInt (by omega)] at c2
      obtain ⟨j, hj, ej, -⟩ := zB_nat (b := 5) (x := w) ⟨by omega, by omega⟩
      refine ⟨j, ?_, ej⟩
      rw [ej, nI_toInt (by omega)] at c2
      omega
end
