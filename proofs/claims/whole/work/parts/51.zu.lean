/-! MATHEMATICS, 51: other bells, by the reference -/
def gB (h0 h : pm_H) : Prop := (∀ o, (o < 66 ∨ o = 67 ∨ (70 ≤ o ∧ o ≤ 77 ∧ o ≠ 72 ∧ o ≠ 74) ∨ 86 ≤ o) → h o = h0 o) ∧ (∀ j, j < 10 → h 68 j = h0 68 j ∧ h 69 j = h0 69 j) ∧ (∀ j, j < 5 → h 83 j = h0 72 j ∧ h 74 j = h0 74 j) ∧ (∀ j, (j < 27 ∨ 29 < j) → h 66 j = h0 66 j)
theorem gB_M {h0 h h' : pm_H} (H : gB h0 h) (G : gM h h') (e : ∀ o, 83 ≤ o → h' o = h o) : gB h0 h' := ⟨fun o ho => (G.1 o ho).trans (H.1 o ho), fun j hj => ⟨(G.2.1 j hj).1.trans (H.2.1 j hj).1, (G.2.1 j hj).2.trans (H.2.1 j hj).2⟩, fun j hj => ⟨by rw [e 83 (by omega)]; exact (H.2.2.1 j hj).1, (G.2.2.1 j hj).2.trans (H.2.2.1 j hj).2⟩, fun j hj => (G.2.2.2 j hj).trans (H.2.2.2 j hj)⟩
/-- bells, rows of the orders: nothing else -/
theorem gB_o {h0 h h' : pm_H} (H : gB h0 h) (e : ∀ o, o ≠ 72 → o ≠ 84 → o ≠ 85 → h' o = h o) : gB h0 h' := ⟨fun o ho => by rw [e o (by omega) (by omega) (by omega)]; exact H.1 o ho, fun j hj => by rw [e 68 (by omega) (by omega) (by omega), e 69 (by omega) (by omega) (by omega)]; exact H.2.1 j hj, fun j hj => by rw [e 83 (by omega) (by omega) (by omega), e 74 (by omega) (by omega) (by omega)]; exact H.2.2.1 j hj, fun j hj => by rw [e 66 (by omega) (by omega) (by omega)]; exact H.2.2.2 j hj⟩
theorem sm_keepBL {K Q : pm_H → Prop} : ∀ (m j : Nat) (h : pm_H), j + m = 5 → (∀ h', (∀ o, o ≠ 83 → h' o = h o) → (∀ i, h' 83 i = if j ≤ i ∧ i < 5 then h 72 i else h 83 i) → K h') → wl_X7_keepBells_2 K Q (m + 1) (nI j) h
  | 0, j, h, hj, hK => by
    unfold wl_X7_keepBells_2
    rw [zb_lt, show (5 : Int32) = nI 5 by decide, if_neg (nI_nlt (by omega) (by omega))]
    exact hK h (fun _ _ => rfl) (fun i => by rw [if_neg (by omega)])
  | m + 1, j, h, hj, hK => by
    unfold wl_X7_keepBells_2
    rw [zb_lt, show (5 : Int32) = nI 5 by decide, if_pos (nI_lt (by omega) (by omega)), zb_ib (zb_in (by omega) (by omega)), zb_ib (zb_in (by omega) (by omega)), pm_op_eq, nI_1, nI_clamp (by omega)]
    refine sm_keepBL m (j + 1) _ (by omega) (fun h' e1 e2 => hK h' (fun o ho => by rw [e1 o ho, zb_un ho]) (fun i => ?_))
    rw [e2, zb_ur, zb_un (by omega)]
    unfold upd
    by_cases c1 : i = j
    · subst c1
      rw [if_neg (by omega), if_pos rfl, if_pos (by omega)]
    · rw [if_neg c1]
      by_cases c2 : j ≤ i ∧ i < 5
      · rw [if_pos c2, if_pos (by omega)]
      · rw [if_neg c2, if_neg (by omega)]
theorem sm_keepBells {h : pm_H} {Q : pm_H → Prop} (hq : ∀ h', gB h h' → (∀ o, o ≠ 83 → h' o = h o) → Q h') : wp_X7_keepBells h Q := by
  unfold wp_X7_keepBells
  rw [zb_c0]
  refine ⟨6, sm_keepBL 5 0 h (by omega) (fun h' e1 e2 => hq h' ⟨fun o ho => e1 o (by omega), fun j hj => ?_, fun j hj => ⟨?_, ?_⟩, fun j hj => ?_⟩ e1)⟩
  · rw [e1 68 (by omega), e1 69 (by omega)]; exact ⟨rfl, rfl⟩
  · rw [e2, if_pos (by omega)]
  · rw [e1 74 (by omega)]
  · rw [e1 66 (by omega)]
theorem sm_bellsAL {K Q : pm_H → Prop} : ∀ (m j : Nat) (h : pm_H), j + m = 5 → (∀ h', (∀ o, o ≠ 72 → h' o = h o) → (∀ i, h' 72 i = if j ≤ i ∧ i < 5 then h 83 i else h 72 i) → K h') → wl_X7_bellsAgain_2 K Q (m + 1) (nI j) h
  | 0, j, h, hj, hK => by
    unfold wl_X7_bellsAgain_2
    rw [zb_lt, show (5 : Int32) = nI 5 by decide, if_neg (nI_nlt (by omega) (by omega))]
    exact hK h (fun _ _ => rfl) (fun i => by rw [if_neg (by omega)])
  | m + 1, j, h, hj, hK => by
    unfold wl_X7_bellsAgain_2
    rw [zb_lt, show (5 : Int32) = nI 5 by decide, if_pos (nI_lt (by omega) (by omega)), zb_ib (zb_in (by omega) (by omega)), zb_ib (zb_in (by omega) (by omega)), pm_op_eq, nI_1, nI_clamp (by omega)]
    refine sm_bellsAL m (j + 1) _ (by omega) (fun h' e1 e2 => hK h' (fun o ho => by rw [e1 o ho, zb_un ho]) (fun i => ?_))
    rw [e2, zb_ur, zb_un (by omega)]
    unfold upd
    by_cases c1 : i = j
    · subst c1
      rw [if_neg (by omega), if_pos rfl, if_pos (by omega)]
    · rw [if_neg c1]
      by_cases c2 : j ≤ i ∧ i < 5
      · rw [if_pos c2, if_pos (by omega)]
      · rw [if_neg c2, if_neg (by omega)]
theorem sm_bellsAgain {h0 h : pm_H} {Q : pm_H → Prop} (G : gB h0 h) (hq : ∀ h', gM h0 h' → (∀ o, o ≠ 72 → h' o = h o) → Q h') : wp_X7_bellsAgain h Q := by
  unfold wp_X7_bellsAgain
  rw [zb_c0]
  refine ⟨6, sm_bellsAL 5 0 h (by omega) (fun h' e1 e2 => hq h' ⟨fun o ho => by rw [e1 o (by omega)]; exact G.1 o ho, fun j hj => by rw [e1 68 (by omega), e1 69 (by omega)]; exact G.2.1 j hj, fun j hj => ⟨?_, ?_⟩, fun j hj => by rw [e1 66 (by omega)]; exact G.2.2.2 j hj⟩ e1)⟩
  · rw [e2, if_pos (by omega)]; exact (G.2.2.1 j hj).1
  · rw [e1 74 (by omega)]; exact (G.2.2.1 j hj).2
theorem vZ_Be {f : Nat → Int32} : ∀ {m c : Nat} {z : pm_H}, vZ (zBe f m c z) = zBe f m c (vZ z)
  | 0, _, _ => rfl
  | m + 1, c, z => by unfold zBe; rw [vZ_Be, vZ_u (by omega)]
section
variable {k : Nat} {R : Nat → List Int32}
/-- with other bells -/
theorem gB_ok {h0 h : pm_H} {cnt : Nat} {f : Nat → Int32} (H0 : zMk k R h0) (hc : cnt ≤ 5) (ec : h0 66 3 = nI cnt) (G : gB h0 h) (hb : ∀ c, c < cnt → h 72 c = f c) (hf : ∀ c, c < cnt → zB 0 999 (f c)) : zMk k R h ∧ vZ (vM h) = zBe f cnt 0 (vZ (vM h0)) := by
  have ec' : (h0 66 3).toNatClampNeg = cnt := by rw [ec]; exact nI_clamp (by omega)
  have E : zE (vM h) (zBe f cnt 0 (vM h0)) := by
    intro r hr
    funext j
    by_cases e4 : r = 4
    · subst e4
      rw [zBe_4]
      unfold vM
      rw [G.2.2.2 3 (by omega), ec']
      by_cases hj : j < cnt
      · rw [if_pos (by simp [zrg, hj]), if_pos (by omega)]
        exact hb j hj
      · rw [if_neg (by simp [zrg, hj]), if_neg (by omega), if_neg (by simp [zrg, hj])]
    · rw [zBe_r e4]
      unfold vM
      rw [G.2.2.2 3 (by omega), ec']
      by_cases hz : zrg cnt r j = true
      · rw [if_pos hz, if_pos hz]
        have hj10 : j < 10 := by
          unfold zrg at hz
          repeat' split at hz
          all_goals first | (cases hz; done) | (simp at hz; omega)
        rcases (show r = 0 ∨ r = 1 ∨ r = 2 ∨ r = 3 ∨ r = 5 ∨ r = 6 ∨ r = 7 by omega) with q | q | q | q | q | q | q <;> subst q
        · exact congrFun (G.1 67 (by omega)) _
        · exact (G.2.1 j hj10).1
        · exact (G.2.1 j hj10).2
        · exact congrFun (G.1 71 (by omega)) _
        · exact congrFun (G.1 73 (by omega)) _
        · have hj : j < cnt := by simpa [zrg] using hz
          exact (G.2.2.1 j (by omega)).2
        · have hj : j < 3 := by simpa [zrg] using hz
          rcases (show j = 0 ∨ j = 1 ∨ j = 2 by omega) with rfl | rfl | rfl
          · exact G.2.2.2 3 (by omega)
          · exact G.2.2.2 9 (by omega)
          · exact G.2.2.2 10 (by omega)
      · rw [if_neg hz, if_neg hz]
  have V : zV (zBe f cnt 0 (vM h0)) := zV_Be H0.1.1 (fun j hj => hf j (by rw [vM_70, ec'] at hj; exact hj))
  exact ⟨⟨⟨zE_V E V, zTm_of (G.1 _ (by omega)) (G.1 _ (by omega)) H0.1.2.1, by rw [G.2.2.2 14 (by omega)]; exact H0.1.2.2.1, H0.1.2.2.2⟩, by rw [G.2.2.2 30 (by omega)]; exact H0.2⟩, by rw [vZ_eq E, vZ_Be]⟩
theorem sm_apBL {l1 l2 l3 : Int32} {K : pm_H → Prop} {Q : Int32 → pm_H → Prop} {d cnt : Nat} (hc : cnt ≤ 5) : ∀ (m c : Nat) (h : pm_H), c + m = cnt → h 66 3 = nI cnt → (∀ h', (∀ o, o ≠ 72 → h' o = h o) → (∀ i, h' 72 i = if c ≤ i ∧ i < cnt then zBa d i else h 72 i) → K h') → wl_X7_apart_35 l1 l2 l3 (nI d) K Q (m + 1) (nI c) h
  | 0, c, h, hs, e1, hK => by
    unfold wl_X7_apart_35
    rw [zb_lt, e1, if_neg (nI_nlt (by omega) (by omega))]
    exact hK h (fun _ _ => rfl) (fun i => by rw [if_neg (by omega)])
  | m + 1, c, h, hs, e1, hK => by
    unfold wl_X7_apart_35
    rw [zb_lt, e1, if_pos (nI_lt (by omega) (by omega)), zb_ib (zb_in (by omega) (by omega)), pm_op_eq, pm_op_eq, pm_op_eq, nI_1, nI_clamp (by omega)]
    refine sm_apBL (d := d) hc m (c + 1) _ (by omega) (by rw [zb_un (by omega)]; exact e1) (fun h' e2 e3 => hK h' (fun o ho => by rw [e2 o ho, zb_un ho]) (fun i => ?_))
    rw [e3, zb_ur]
    unfold upd
    by_cases c1 : i = c
    · subst c1
      rw [if_neg (by omega), if_pos rfl, if_pos (by omega)]
      rfl
    · rw [if_neg c1]
      by_cases c2 : c ≤ i ∧ i < cnt
      · rw [if_pos c2, if_pos (by omega)]
      · rw [if_neg c2, if_neg (by omega)]
set_option maxHeartbeats 2000000 in
theorem sm_ap0L {K85 K116 Q : Int32 → pm_H → Prop} {h0 : pm_H} {cnt : Nat} {l : Int32} {P : Int32 → pm_H → Prop} (h85 : ∀ x h, P x h → K85 x h) (h116 : ∀ x h, P x h → K116 x h) (H0 : zMk k R h0) (hc : cnt ≤ 5) (ec : h0 66 3 = nI cnt) : ∀ (m d : Nat) (h : pm_H), d + m = 31 → gB h0 h → (∀ h', gB h0 h' → P (zA0 R (vZ (vM h0)) m d) h') → wl_X7_apart_25 0 K85 K116 Q (m + 1) (-1) l (nI d) h
  | 0, d, h, hd, G, hK => by
    unfold wl_X7_apart_25
    rw [zb_lt, show (30 : Int32) = nI 30 by decide, if_pos (nI_lt (by omega) (by omega))]
    exact h116 _ _ (hK h G)
  | m + 1, d, h, hd, G, hK => by
    unfold wl_X7_apart_25
    rw [zb_lt, show (30 : Int32) = nI 30 by decide, if_neg (nI_nlt (by omega) (by omega))]
    refine ⟨cnt + 1, ?_⟩
    rw [show wl_X7_apart_35 0 (-1) l (nI d) (fun h651 => wp_X7_ends_ h651 (fun r653 h652 => pm_eq 0 0 (pm_eq (h652 66 27) 0 (K85 (nI d) h652) (pm_eq 0 0 (wl_X7_apart_25 0 K85 K116 Q (m + 1) (-1) l (pm_op (nI d + 1)) h652) (pm_lt r653 l (wl_X7_apart_25 0 K85 K116 Q (m + 1) (nI d) r653 (pm_op (nI d + 1)) h652) (wl_X7_apart_25 0 K85 K116 Q (m + 1) (-1) l (pm_op (nI d + 1)) h652)))) (pm_eq 0 0 (wl_X7_apart_25 0 K85 K116 Q (m + 1) (-1) l (pm_op (nI d + 1)) h652) (pm_lt r653 l (wl_X7_apart_25 0 K85 K116 Q (m + 1) (nI d) r653 (pm_op (nI d + 1)) h652) (wl_X7_apart_25 0 K85 K116 Q (m + 1) (-1) l (pm_op (nI d + 1)) h652))))) Q (cnt + 1) 0 h = wl_X7_apart_35 0 (-1) l (nI d) (fun h651 => wp_X7_ends_ h651 (fun r653 h652 => pm_eq (h652 66 27) 0 (K85 (nI d) h652) (wl_X7_apart_25 0 K85 K116 Q (m + 1) (-1) l (pm_op (nI d + 1)) h652))) Q (cnt + 1) (nI 0) h by simp only [zb_eq, if_true, ← zb_c0]]
    refine sm_apBL (d := d) hc cnt 0 h (by omega) (by rw [G.2.2.2 3 (by omega)]; exact ec) (fun h1 e1 e2 => ?_)
    have G1 := gB_o G (fun o ho _ _ => e1 o ho)
    obtain ⟨M1, v1⟩ := gB_ok (f := zBa d) H0 hc ec G1 (fun c hcc => by rw [e2, if_pos (by omega)]) (fun c hcc => zBa_ok (by omega) (by omega))
    refine sm_ends_ M1 (fun h2 g g0 a27 _ _ _ => ?_)
    have e70 : (vZ (vM h0) 7 0).toNatClampNeg = cnt := by rw [vZ_r (by omega), vM_70, ec]; exact nI_clamp (by omega)
    have G2 := gB_M G1 g g0
    rw [zb_eq, a27, v1]
    unfold zA0 at hK
    unfold zAp at hK
    rw [e70] at hK
    by_cases c : (zR R zN1 400 0 (zBe (zBa d) cnt 0 (vZ (vM h0)))).2 9 0 = 0
    · rw [if_pos c]
      simp only [if_pos c] at hK
      exact h85 _ _ (hK h2 G2)
    · rw [if_neg c]
      simp only [if_neg c] at hK
      rw [pm_op_eq, nI_1]
      exact sm_ap0L h85 h116 H0 hc ec m (d + 1) h2 (by omega) G2 hK
set_option maxHeartbeats 2000000 in
theorem sm_ap1L {K85 K116 Q : Int32 → pm_H → Prop} {h0 : pm_H} {cnt : Nat} {P : Int32 → pm_H → Prop} (h116 : ∀ x h, P x h → K116 x h) (H0 : zMk k R h0) (hc : cnt ≤ 5) (ec : h0 66 3 = nI cnt) : ∀ (m d l : Nat) (w : Int32) (h : pm_H), d + m = 31 → l ≤ 401 → gB h0 h → (∀ h', gB h0 h' → P (zA1 R (vZ (vM h0)) m d l w) h') → wl_X7_apart_25 1 K85 K116 Q (m + 1) w (nI l) (nI d) h
  | 0, d, l, w, h, hd, hl, G, hK => by
    unfold wl_X7_apart_25
    rw [zb_lt, show (30 : Int32) = nI 30 by decide, if_pos (nI_lt (by omega) (by omega))]
    exact h116 _ _ (hK h G)
  | m + 1, d, l, w, h, hd, hl, G, hK => by
    unfold wl_X7_apart_25
    rw [zb_lt, show (30 : Int32) = nI 30 by decide, if_neg (nI_nlt (by omega) (by omega))]
    refine ⟨cnt + 1, ?_⟩
    have z10 : ¬ ((1 : Int32) = 0) := by decide
    simp only [zb_eq, if_neg z10]
    rw [zb_c0]
    refine sm_apBL (d := d) hc cnt 0 h (by omega) (by rw [G.2.2.2 3 (by omega)]; exact ec) (fun h1 e1 e2 => ?_)
    have G1 := gB_o G (fun o ho _ _ => e1 o ho)
    obtain ⟨M1, v1⟩ := gB_ok (f := zBa d) H0 hc ec G1 (fun c hcc => by rw [e2, if_pos (by omega)]) (fun c hcc => zBa_ok (by omega) (by omega))
    refine sm_ends_ M1 (fun h2 g g0 a27 _ _ _ => ?_)
    have e70 : (vZ (vM h0) 7 0).toNatClampNeg = cnt := by rw [vZ_r (by omega), vM_70, ec]; exact nI_clamp (by omega)
    have G2 := gB_M G1 g g0
    rw [v1]
    unfold zA1 at hK
    unfold zAp at hK
    rw [e70] at hK
    have hge := zR_ge (R := R) (shf := zN1) 400 0 (zBe (zBa d) cnt 0 (vZ (vM h0)))
    rw [pm_op_eq, nI_1, zb_lt]
    by_cases c : (zR R zN1 400 0 (zBe (zBa d) cnt 0 (vZ (vM h0)))).1 < l
    · rw [if_pos (nI_lt c (by omega))]
      simp only [if_pos c] at hK
      exact sm_ap1L h116 H0 hc ec m (d + 1) _ _ h2 (by omega) (by omega) G2 hK
    · rw [if_neg (nI_nlt (by omega) (by omega))]
      simp only [if_neg c] at hK
      exact sm_ap1L h116 H0 hc ec m (d + 1) l w h2 (by omega) hl G2 hK
theorem sm_apart {w : Int32} {h : pm_H} {Q : Int32 → pm_H → Prop} (H : zMk k R h) (hq : ∀ h', gM h h' → Q (aApa R (vZ (vM h)) w) h') : wp_X7_apart w h Q := by
  obtain ⟨n, hn, e, e'⟩ := zM_cnt H.1.1
  unfold aApa at hq
  unfold wp_X7_apart
  refine sm_within (fun c => ?_) (fun c => ?_)
  · have c0 : ¬ w = 0 := by rintro rfl; exact c.elim (by decide) (by decide)
    have c1 : ¬ w = 1 := by rintro rfl; exact c.elim (by decide) (by decide)
    rw [if_neg c0, if_neg c1] at hq
    rw [zb_eq, if_pos rfl]
    exact hq h gM_rfl
  rw [zb_eq, if_neg (by decide)]
  refine sm_keepBells (fun h1 G1 _ => ?_)
  refine ⟨32, ?_⟩
  obtain ⟨j, hj, rfl⟩ := zb_rng (m := 1) (by decide) (by omega) c
  rcases (show j = 0 ∨ j = 1 by omega) with rfl | rfl
  · rw [if_pos (by decide)] at hq
    rw [show (401 : Int32) = nI 401 by decide]
    show wl_X7_apart_25 0 _ _ Q 32 (-1) (nI 401) (nI 0) h1
    exact sm_ap0L (P := fun x h655 => wp_X7_bellsAgain h655 (fun h657 => Q x h657)) (fun _ _ => id) (fun _ _ => id) H hn e 31 0 h1 (by omega) G1 (fun h2 G2 => sm_bellsAgain G2 (fun h3 g3 _ => hq h3 g3))
  · rw [if_neg (by decide), if_pos (by decide)] at hq
    rw [show (401 : Int32) = nI 401 by decide]
    show wl_X7_apart_25 1 _ _ Q 32 (-1) (nI 401) (nI 0) h1
    exact sm_ap1L (P := fun x h655 => wp_X7_bellsAgain h655 (fun h657 => Q x h657)) (fun _ _ => id) H hn e 31 0 401 (-1) h1 (by omega) (by omega) G1 (fun h2 G2 => sm_bellsAgain G2 (fun h3 g3 _ => hq h3 g3))
theorem sm_driL {x : Int32} {K : pm_H → Prop} {Q : Int32 → pm_H → Prop} {cnt : Nat} (hc : cnt ≤ 5) : ∀ (m c : Nat) (h : pm_H), c + m = cnt → h 66 3 = nI cnt → h 66 9 = x → (∀ h', (∀ o, o ≠ 72 → h' o = h o) → (∀ i, h' 72 i = if c ≤ i ∧ i < cnt then x else h 72 i) → K h') → wl_X7_drill_6 K Q (m + 1) (nI c) h
  | 0, c, h, hs, e1, e9, hK => by
    unfold wl_X7_drill_6
    rw [zb_lt, e1, if_neg (nI_nlt (by omega) (by omega))]
    exact hK h (fun _ _ => rfl) (fun i => by rw [if_neg (by omega)])
  | m + 1, c, h, hs, e1, e9, hK => by
    unfold wl_X7_drill_6
    rw [zb_lt, e1, if_pos (nI_lt (by omega) (by omega)), zb_ib (zb_in (by omega) (by omega)), pm_op_eq, nI_1, nI_clamp (by omega), e9]
    refine sm_driL (x := x) hc m (c + 1) _ (by omega) (by rw [zb_un (by omega)]; exact e1) (by rw [zb_un (by omega)]; exact e9) (fun h' e2 e3 => hK h' (fun o ho => by rw [e2 o ho, zb_un ho]) (fun i => ?_))
    rw [e3, zb_ur]
    unfold upd
    by_cases c1 : i = c
    · subst c1
      rw [if_neg (by omega), if_pos rfl, if_pos (by omega)]
    · rw [if_neg c1]
      by_cases c2 : c ≤ i ∧ i < cnt
      · rw [if_pos c2, if_pos (by omega)]
      · rw [if_neg c2, if_neg (by omega)]
theorem sm_drill {h : pm_H} {Q : Int32 → pm_H → Prop} (H : zMk k R h) (hq : ∀ h', gM h h' → Q (aDri R (vZ (vM h))) h') : wp_X7_drill h Q := by
  obtain ⟨n, hn, e, e'⟩ := zM_cnt H.1.1
  unfold aDri at hq
  rw [vZ_r (r := 7) (by omega), vM_70, e', vM_71] at hq
  unfold wp_X7_drill
  refine sm_keepBells (fun h1 G1 e1 => ?_)
  refine ⟨n + 1, ?_⟩
  rw [zb_c0]
  refine sm_driL (x := h 66 9) hn n 0 h1 (by omega) (by rw [e1 66 (by omega)]; exact e) (by rw [e1 66 (by omega)]) (fun h2 e2 e3 => ?_)
  have G2 := gB_o G1 (fun o ho _ _ => e2 o ho)
  have b9 : zB 0 999 (h 66 9) := by rw [← vM_71 (h := h)]; exact H.1.1.2.1
  obtain ⟨M2, v2⟩ := gB_ok (f := fun _ => h 66 9) H hn e G2 (fun c hcc => by rw [e3, if_pos (by omega)]) (fun c hcc => b9)
  refine sm_ends_ M2 (fun h3 g g0 _ _ _ _ => ?_)
  rw [v2]
  exact sm_bellsAgain (gB_M G2 g g0) (fun h4 g4 _ => hq h4 g4)
end
