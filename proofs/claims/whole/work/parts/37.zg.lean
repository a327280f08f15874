/-! MATHEMATICS, 37: runs of the class's trial -/
/-- all are out -/
def zOut (z : pm_H) : Prop := zIn z = 0 ∧ zOn z = 0
noncomputable def zR (R : Nat → List Int32) (shf : Nat → Int32) : Nat → Nat → pm_H → Nat × pm_H
  | 0, n, z => (n, z)
  | m + 1, n, z => if zIn z = 0 ∧ zOn z = 0 then (n, z) else zR R shf m (n + 1) (zT R (shf n) z)
noncomputable def zRm (R : Nat → List Int32) (shf : Nat → Int32) : Nat → Nat → pm_H → Int32 → Int32
  | 0, _, _, d => d
  | m + 1, n, z, d => if zIn z = 0 ∧ zOn z = 0 then d else zRm R shf m (n + 1) (zT R (shf n) z) (zD R (shf n) z d)
/-- what stands in the class, as a stair -/
def ncc (r : Nat) : Nat := if r = 0 then 2 else if r = 1 then 3 else if r = 2 then 4 else if r = 3 then 6 else if r = 4 then 7 else if r = 5 then 8 else if r = 6 then 9 else 1
def vN (h : pm_H) : pm_H := fun r j => if zrg (h 1 8).toNatClampNeg r j = true ∧ r < 8 then h (ncc r) (zcs r j) else 0
/-- all but the trial is as it was -/
def gC (h h' : pm_H) : Prop := ∀ o, (o < 19 ∨ 33 < o) → h' o = h o
theorem gC_rfl {h : pm_H} : gC h h := fun _ _ => rfl
theorem gC_trans {a b c : pm_H} (h1 : gC a b) (h2 : gC b c) : gC a c := fun o ho => (h2 o ho).trans (h1 o ho)
theorem fC_g {h h' : pm_H} (H : fC h h') : gC h h' := fun o ho => H.1 o (by omega)
theorem gC_vN {h h' : pm_H} (H : gC h h') : vN h' = vN h := by
  funext r j
  unfold vN
  rw [H 1 (by omega)]
  by_cases hr : zrg (h 1 8).toNatClampNeg r j = true ∧ r < 8
  · rw [if_pos hr, if_pos hr, H (ncc r) (by
      have : ∀ r, r < 8 → ncc r < 19 := by decide
      exact Or.inl (this r hr.2))]
  · rw [if_neg hr, if_neg hr]
theorem gC_tx {h h' : pm_H} {k : Nat} {R : Nat → List Int32} (H : gC h h') (hT : zTx h k R) : zTx h' k R := zTx_of (H _ (by omega)) (H _ (by omega)) hT
theorem sp_fillL {K Q : pm_H → Prop} {x : Int32} : ∀ (m j : Nat) (h : pm_H), j + m = 10 → (∀ h', (∀ o, o ≠ 29 → h' o = h o) → (∀ i, h' 29 i = if j ≤ i ∧ i < 10 then x else h 29 i) → K h') → wl_J7_fill_53178_r29_5 x (nI 10) K Q (m + 1) (nI j) h
  | 0, j, h, hj, hK => by
    unfold wl_J7_fill_53178_r29_5
    rw [zb_lt, if_neg (nI_nlt (by omega) (by omega))]
    exact hK h (fun _ _ => rfl) (fun i => by rw [if_neg (by omega)])
  | m + 1, j, h, hj, hK => by
    unfold wl_J7_fill_53178_r29_5
    rw [zb_lt, if_pos (nI_lt (by omega) (by omega)), zb_ib (zb_in (by omega) (by omega)), pm_op_eq, nI_1, nI_clamp (by omega)]
    refine sp_fillL m (j + 1) _ (by omega) (fun h' e1 e2 => hK h' (fun o ho => by rw [e1 o ho, zb_un ho]) (fun i => ?_))
    rw [e2, zb_ur]
    unfold upd
    by_cases c1 : i = j
    · subst c1
      rw [if_neg (by omega), if_pos rfl, if_pos (by omega)]
    · rw [if_neg c1]
      by_cases c2 : j ≤ i ∧ i < 10
      · rw [if_pos c2, if_pos (by omega)]
      · rw [if_neg c2, if_neg (by omega)]
theorem zcp_ne {h : pm_H} {a sp b dp n o : Nat} (ho : o ≠ b) : pm_cp h a sp b dp n o = h o := by unfold pm_cp; rw [if_neg ho]
theorem zcp_at {h : pm_H} {a b n j : Nat} (hj : j < n) : pm_cp h a 0 b 0 n b j = h a j := by
  unfold pm_cp va_cpy
  rw [if_pos rfl, if_pos (by omega)]
  congr 1
  omega
set_option maxHeartbeats 4000000 in
/-- a trial begins as all stands -/
theorem sp_begin {rule : Nat} {h : pm_H} {Q : pm_H → Prop} (hr : rule < 6) (h11 : h 1 11 = nI rule) (hc : (h 1 8).toNatClampNeg ≤ 5)
    (hq : ∀ h', gC h h' → vC h' = vN h → h' 19 8 = nI (40 + 3 * rule) → h' 19 5 = 0 → h' 19 3 = 0 → h' 20 8 = h 1 8 → (h' 20 11 = h 1 11 ∧ ∀ j, j < 5 → h' 24 j = h 5 j) → Q h') : wp_X6_beginTrial h Q := by
  unfold wp_X6_beginTrial wp_X5_begin_r1
  rw [h11, zb_ib (zb_in hr (by omega)), nI_clamp (by omega)]
  unfold wp_X3_becomeLike_r20_r1
  generalize hH : pm_cp (pm_cp (pm_cp (pm_cp (pm_cp (pm_cp (pm_cp (pm_cp h 2 0 21 0 10) 3 0 22 0 10) 4 0 23 0 10) 5 0 24 0 5) 6 0 25 0 5) 7 0 26 0 5) 8 0 27 0 5) 9 0 28 0 5 = H
  have hb : (Nat.blt 0 (40 + 3 * rule) && Nat.blt (40 + 3 * rule) 92) = true := by
    rw [Bool.and_eq_true]
    exact ⟨Nat.blt_eq.mpr (by omega), Nat.blt_eq.mpr (by omega)⟩
  rw [zb_ib hb]
  unfold wp_J7_fill_53178_r29
  have H0 : ∀ o, (o < 21 ∨ 28 < o) → H o = h o := by
    intro o ho
    rw [← hH, zcp_ne (by omega), zcp_ne (by omega), zcp_ne (by omega), zcp_ne (by omega), zcp_ne (by omega), zcp_ne (by omega), zcp_ne (by omega), zcp_ne (by omega)]
  refine ⟨11, ?_⟩
  rw [zb_c0]
  refine sp_fillL 10 0 _ (by omega) (fun h1 e1 e2 => ?_)
  rw [← zb_c0] at e2 ⊢
  have e3 : ∀ o, (o < 19 ∨ 28 < o) → o ≠ 29 → h1 o = h o := fun o ho h29 => by
    rw [e1 o h29]
    simp only [zb_un (o := 20) (o' := o) (by omega), zb_un (o := 19) (o' := o) (by omega)]
    exact H0 o (by omega)
  have h20 : ∀ j, h1 20 j = if j = 11 then h 1 11 else if j = 10 then h 1 10 else if j = 9 then h 1 9 else if j = 8 then h 1 8 else h 20 j := by
    intro j
    rw [e1 20 (by omega)]
    simp only [zb_u, H0 1 (by omega), H0 20 (by omega), show ¬ ((20 : Nat) = 19) by omega, if_false, if_true]
  have h2x : ∀ o, 21 ≤ o → o ≤ 28 → h1 o = H o := by
    intro o ha hb
    rw [e1 o (by omega)]
    simp only [zb_un (o := 20) (o' := o) (by omega), zb_un (o := 19) (o' := o) (by omega)]
  have h19 : h1 19 = (pm_u (pm_u (pm_u (pm_u (pm_u H 20 8 (H 1 8)) 20 9 (H 1 9)) 20 10 (H 1 10)) 20 11 (H 1 11)) 19 8 (nI (40 + 3 * rule))) 19 := e1 19 (by omega)
  refine hq _ (fun o ho => ?_) ?_ ?_ ?_ ?_ ?_ ⟨?_, fun j hj => ?_⟩
  · simp only [zb_un (o := 19) (o' := o) (by omega)]
    exact e3 o (by omega) (by omega)
  · funext r j
    unfold vC vN
    have hcnt : (pm_u (pm_u (pm_u (pm_u h1 19 2 0) 19 3 0) 19 4 0) 19 5 0) 20 8 = h 1 8 := by
      simp only [zb_un (o := 19) (o' := 20) (by omega)]
      rw [h20]
      rfl
    rw [hcnt]
    by_cases hz : zrg (h 1 8).toNatClampNeg r j = true
    · rw [if_pos hz]
      have r10 := zrg_10 hz
      have hj10 : j < 10 := by
        unfold zrg at hz
        repeat' split at hz
        all_goals first | (cases hz; done) | (simp at hz; omega)
      rcases (show r = 0 ∨ r = 1 ∨ r = 2 ∨ r = 3 ∨ r = 4 ∨ r = 5 ∨ r = 6 ∨ r = 7 ∨ r = 8 ∨ r = 9 by omega) with e | e | e | e | e | e | e | e | e | e <;> subst e
      · rw [if_pos ⟨hz, by omega⟩]
        show (pm_u (pm_u (pm_u (pm_u h1 19 2 0) 19 3 0) 19 4 0) 19 5 0) 21 j = h 2 j
        simp only [zb_un (o := 19) (o' := 21) (by omega)]
        rw [h2x 21 (by omega) (by omega), ← hH]
        rw [zcp_ne (by omega), zcp_ne (by omega), zcp_ne (by omega), zcp_ne (by omega), zcp_ne (by omega), zcp_ne (by omega), zcp_ne (by omega), zcp_at hj10]
      · rw [if_pos ⟨hz, by omega⟩]
        show (pm_u (pm_u (pm_u (pm_u h1 19 2 0) 19 3 0) 19 4 0) 19 5 0) 22 j = h 3 j
        simp only [zb_un (o := 19) (o' := 22) (by omega)]
        rw [h2x 22 (by omega) (by omega), ← hH]
        rw [zcp_ne (by omega), zcp_ne (by omega), zcp_ne (by omega), zcp_ne (by omega), zcp_ne (by omega), zcp_ne (by omega), zcp_at hj10, zcp_ne (by omega)]
      · rw [if_pos ⟨hz, by omega⟩]
        show (pm_u (pm_u (pm_u (pm_u h1 19 2 0) 19 3 0) 19 4 0) 19 5 0) 23 j = h 4 j
        simp only [zb_un (o := 19) (o' := 23) (by omega)]
        rw [h2x 23 (by omega) (by omega), ← hH]
        rw [zcp_ne (by omega), zcp_ne (by omega), zcp_ne (by omega), zcp_ne (by omega), zcp_ne (by omega), zcp_at hj10, zcp_ne (by omega), zcp_ne (by omega)]
      · have hj5 : j < 5 := by have : j < (h 1 8).toNatClampNeg := by simpa [zrg] using hz
                               omega
        rw [if_pos ⟨hz, by omega⟩]
        show (pm_u (pm_u (pm_u (pm_u h1 19 2 0) 19 3 0) 19 4 0) 19 5 0) 25 j = h 6 j
        simp only [zb_un (o := 19) (o' := 25) (by omega)]
        rw [h2x 25 (by omega) (by omega), ← hH]
        rw [zcp_ne (by omega), zcp_ne (by omega), zcp_ne (by omega), zcp_at hj5, zcp_ne (by omega), zcp_ne (by omega), zcp_ne (by omega), zcp_ne (by omega)]
      · have hj5 : j < 5 := by have : j < (h 1 8).toNatClampNeg := by simpa [zrg] using hz
                               omega
        rw [if_pos ⟨hz, by omega⟩]
        show (pm_u (pm_u (pm_u (pm_u h1 19 2 0) 19 3 0) 19 4 0) 19 5 0) 26 j = h 7 j
        simp only [zb_un (o := 19) (o' := 26) (by omega)]
        rw [h2x 26 (by omega) (by omega), ← hH]
        rw [zcp_ne (by omega), zcp_ne (by omega), zcp_at hj5, zcp_ne (by omega), zcp_ne (by omega), zcp_ne (by omega), zcp_ne (by omega), zcp_ne (by omega)]
      · have hj5 : j < 5 := by have : j < (h 1 8).toNatClampNeg := by simpa [zrg] using hz
                               omega
        rw [if_pos ⟨hz, by omega⟩]
        show (pm_u (pm_u (pm_u (pm_u h1 19 2 0) 19 3 0) 19 4 0) 19 5 0) 27 j = h 8 j
        simp only [zb_un (o := 19) (o' := 27) (by omega)]
        rw [h2x 27 (by omega) (by omega), ← hH]
        rw [zcp_ne (by omega), zcp_at hj5, zcp_ne (by omega), zcp_ne (by omega), zcp_ne (by omega), zcp_ne (by omega), zcp_ne (by omega), zcp_ne (by omega)]
      · have hj5 : j < 5 := by have : j < (h 1 8).toNatClampNeg := by simpa [zrg] using hz
                               omega
        rw [if_pos ⟨hz, by omega⟩]
        show (pm_u (pm_u (pm_u (pm_u h1 19 2 0) 19 3 0) 19 4 0) 19 5 0) 28 j = h 9 j
        simp only [zb_un (o := 19) (o' := 28) (by omega)]
        rw [h2x 28 (by omega) (by omega), ← hH]
        rw [zcp_at hj5, zcp_ne (by omega), zcp_ne (by omega), zcp_ne (by omega), zcp_ne (by omega), zcp_ne (by omega), zcp_ne (by omega), zcp_ne (by omega)]
      · have hj3 : j < 3 := by simpa [zrg] using hz
        rw [if_pos ⟨hz, by omega⟩]
        show (pm_u (pm_u (pm_u (pm_u h1 19 2 0) 19 3 0) 19 4 0) 19 5 0) 20 (8 + j) = h 1 (8 + j)
        simp only [zb_un (o := 19) (o' := 20) (by omega)]
        rw [h20]
        rcases (show j = 0 ∨ j = 1 ∨ j = 2 by omega) with rfl | rfl | rfl <;> rfl
      · rw [if_neg (by omega)]
        show (pm_u (pm_u (pm_u (pm_u h1 19 2 0) 19 3 0) 19 4 0) 19 5 0) 29 j = 0
        simp only [zb_un (o := 19) (o' := 29) (by omega)]
        rw [e2, if_pos (by omega)]
      · rw [if_neg (by omega)]
        have hj2 : j < 2 := by simpa [zrg] using hz
        rcases (show j = 0 ∨ j = 1 by omega) with rfl | rfl
        · show (pm_u (pm_u (pm_u (pm_u h1 19 2 0) 19 3 0) 19 4 0) 19 5 0) 19 2 = 0
          simp [zb_u]
        · show (pm_u (pm_u (pm_u (pm_u h1 19 2 0) 19 3 0) 19 4 0) 19 5 0) 19 4 = 0
          simp [zb_u]
    · rw [if_neg hz, if_neg (fun q => hz q.1)]
  · simp only [zb_u, if_true, if_false, Nat.reduceEqDiff, h19]
  · simp [zb_u]
  · simp [zb_u]
  · simp only [zb_un (o := 19) (o' := 20) (by omega)]
    rw [h20]
    rfl
  · simp only [zb_un (o := 19) (o' := 20) (by omega)]
    rw [h20]
    rfl
  · simp only [zb_un (o := 19) (o' := 24) (by omega)]
    rw [h2x 24 (by omega) (by omega), ← hH]
    rw [zcp_ne (by omega), zcp_ne (by omega), zcp_ne (by omega), zcp_ne (by omega), zcp_at hj, zcp_ne (by omega), zcp_ne (by omega), zcp_ne (by omega)]
/-- whether all are out -/
theorem sp_countOnL {K Q : Int32 → pm_H → Prop} {h : pm_H} (hK : K (zSum (h 23) 10) h) : ∀ (m j : Nat), j + m = 10 → wl_X3_countOnSteps_r20_4 K Q (m + 1) (zSum (h 23) j) (nI j) h
  | 0, j, hj => by
    unfold wl_X3_countOnSteps_r20_4
    rw [zb_lt, show (10 : Int32) = nI 10 by decide, if_neg (nI_nlt (by omega) (by omega)), show j = 10 by omega]
    exact hK
  | m + 1, j, hj => by
    unfold wl_X3_countOnSteps_r20_4
    rw [zb_lt, show (10 : Int32) = nI 10 by decide, if_pos (nI_lt (by omega) (by omega)), zb_ib (zb_in (by omega) (by omega)), pm_op_eq, pm_op_eq, nI_1, nI_clamp (by omega)]
    exact sp_countOnL hK m (j + 1) (by omega)
theorem zOn_vC {h : pm_H} : zOn (vC h) = zSum (h 23) 10 := zSum_congr (fun j hj => vC_2 hj)
theorem sp_allOut {h : pm_H} {Q : Int32 → pm_H → Prop} (hV : zV (vC h)) (h1 : zIn (vC h) = 0 ∧ zOn (vC h) = 0 → Q 1 h) (h0 : ¬ (zIn (vC h) = 0 ∧ zOn (vC h) = 0) → Q 0 h) : wp_X3_isAllOut_r20 h Q := by
  unfold wp_X3_isAllOut_r20
  refine sp_countIn hV ?_
  rw [zb_eq]
  by_cases c1 : zIn (vC h) = 0
  · rw [if_pos c1]
    unfold wp_X3_countOnSteps_r20
    refine ⟨11, ?_⟩
    refine sp_countOnL (K := fun x122 h121 => pm_eq x122 0 (Q 1 h121) (Q 0 h121)) ?_ 10 0 (by omega)
    rw [← zOn_vC, zb_eq]
    by_cases c2 : zOn (vC h) = 0
    · rw [if_pos c2]; exact h1 ⟨c1, c2⟩
    · rw [if_neg c2]; exact h0 (fun q => c2 q.2)
  · rw [if_neg c1]; exact h0 (fun q => c1 q.1)
/-- what holds of a trial while it runs: rule R at text k, minding as mi -/
def zTr (k : Nat) (R : Nat → List Int32) (mi : Int32) (h : pm_H) : Prop := zV (vC h) ∧ zTx h k R ∧ h 19 8 = nI (40 + 3 * k) ∧ h 19 5 = mi ∧ (mi = 0 ∨ mi = 1)
theorem zTr_f {k : Nat} {R : Nat → List Int32} {mi : Int32} {h h' : pm_H} (H : zTr k R mi h) (F : fC h h') (hV : zV (vC h')) : zTr k R mi h' := ⟨hV, fC_tx F H.2.1, by rw [F.2.1]; exact H.2.2.1, by rw [F.2.2.1]; exact H.2.2.2.1, H.2.2.2.2⟩
section
variable {k : Nat} {R : Nat → List Int32} {mi : Int32}
theorem sp_pass (hk : k < 6) (hR : zWf R) {sh : Int32} {h : pm_H} {Q : pm_H → Prop} (H : zTr k R mi h) (hq : ∀ h', fC h h' → zTr k R mi h' → vC h' = zT R sh (vC h) → (mi = 1 → h' 19 3 = zD R sh (vC h) (h 19 3)) → Q h') : wp_X5_passTick sh h Q := by
  refine sp_passTick hk hR H.1 H.2.1 H.2.2.1 (by rw [H.2.2.2.1]; exact H.2.2.2.2) (fun h' F e1 e2 => ?_)
  exact hq h' F (zTr_f H F (by rw [e1]; exact (zT_ok H.1).1)) e1 (fun q => e2 (by rw [H.2.2.2.1]; exact q))
/-- a run till all are out, L ticks at most -/
theorem sp_runOutL (hk : k < 6) (hR : zWf R) {L : Nat} (hL : L ≤ 1000) {K Q : Int32 → pm_H → Prop} : ∀ (m n : Nat) (h : pm_H), n + m = L → zTr k R mi h → (∀ h', fC h h' → zTr k R mi h' → vC h' = (zR R (fun _ => -1) m n (vC h)).2 → (mi = 1 → h' 19 3 = zRm R (fun _ => -1) m n (vC h) (h 19 3)) → K (nI (zR R (fun _ => -1) m n (vC h)).1) h') → wl_X5_runOut_2 (nI L) K Q (m + 1) (nI n) h
  | 0, n, h, hn, H, hK => by
    unfold wl_X5_runOut_2
    rw [zb_lt, if_neg (nI_nlt (by omega) (by omega))]
    exact hK h fC_rfl H rfl (fun _ => rfl)
  | m + 1, n, h, hn, H, hK => by
    unfold wl_X5_runOut_2
    rw [zb_lt, if_pos (nI_lt (by omega) (by omega))]
    refine sp_allOut H.1 (fun c => ?_) (fun c => ?_)
    · rw [zb_eq, if_neg (by decide)]
      have eR : zR R (fun _ => -1) (m + 1) n (vC h) = (n, vC h) := by
        unfold zR; rw [if_pos c]
      have := hK h fC_rfl H (by rw [eR]) (fun _ => by unfold zRm; rw [if_pos c])
      rw [eR] at this
      exact this
    · rw [zb_eq, if_pos rfl]
      refine sp_pass hk hR H (fun h1 F H1 e1 e2 => ?_)
      rw [pm_op_eq, nI_1]
      refine sp_runOutL hk hR hL m (n + 1) h1 (by omega) H1 (fun h2 F2 H2 e3 e4 => ?_)
      have eR : zR R (fun _ => -1) (m + 1) n (vC h) = zR R (fun _ => -1) m (n + 1) (vC h1) := by
        rw [e1]; conv => lhs; unfold zR
        rw [if_neg c]
      have := hK h2 (fC_trans F F2) H2 (by rw [eR]; exact e3) (fun q => by
        rw [e4 q, e1, e2 q]
        conv => rhs; unfold zRm
        rw [if_neg c])
      rw [eR] at this
      exact this
theorem sp_runOut (hk : k < 6) (hR : zWf R) {L : Nat} (hL : L ≤ 1000) {h : pm_H} {Q : Int32 → pm_H → Prop} (H : zTr k R mi h) (hq : ∀ h', fC h h' → zTr k R mi h' → vC h' = (zR R (fun _ => -1) L 0 (vC h)).2 → (mi = 1 → h' 19 3 = zRm R (fun _ => -1) L 0 (vC h) (h 19 3)) → Q (nI (zR R (fun _ => -1) L 0 (vC h)).1) h') : wp_X5_runOut (nI L) h Q := by
  unfold wp_X5_runOut
  refine ⟨L + 1, ?_⟩
  rw [zb_c0]
  exact sp_runOutL hk hR hL L 0 h (by omega) H hq
end
