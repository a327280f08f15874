/-! MATHEMATICS, 45: the reference as a pure stair; its tick -/
def mcc (r : Nat) : Nat := if r = 0 then 67 else if r = 1 then 68 else if r = 2 then 69 else if r = 3 then 71 else if r = 4 then 72 else if r = 5 then 73 else if r = 6 then 74 else if r = 7 then 66 else if r = 8 then 81 else 66
def mcs (r j : Nat) : Nat := if r = 7 then (if j = 0 then 3 else if j = 1 then 9 else if j = 2 then 10 else 1000 + 2 * j) else if r = 9 then (if j = 0 then 27 else if j = 1 then 29 else 1001 + 2 * j) else j
def vM (h : pm_H) : pm_H := fun r j => if zrg (h 66 3).toNatClampNeg r j = true then h (mcc r) (mcs r j) else 0
theorem vM_at {h : pm_H} {r j : Nat} (hr : zrg (h 66 3).toNatClampNeg r j = true) : vM h r j = h (mcc r) (mcs r j) := by unfold vM; rw [if_pos hr]
theorem mcs_7 {j j' : Nat} (h : mcs 7 j = mcs 7 j') : j = j' := by
  unfold mcs at h
  repeat' split at h
  all_goals omega
theorem mcs_9 {j j' : Nat} (h : mcs 9 j = mcs 9 j') : j = j' := by
  unfold mcs at h
  repeat' split at h
  all_goals omega
theorem mcs_79 {j j' : Nat} (h : mcs 7 j = mcs 9 j') : False := by
  unfold mcs at h
  repeat' split at h
  all_goals omega
theorem mcc_inj : ∀ r, r < 10 → ∀ r', r' < 10 → mcc r = mcc r' → r = r' ∨ (r = 7 ∧ r' = 9) ∨ (r = 9 ∧ r' = 7) := by decide
theorem mcs_o {r j : Nat} (h7 : r ≠ 7) (h9 : r ≠ 9) : mcs r j = j := by unfold mcs; rw [if_neg h7, if_neg h9]
theorem m_inj {r r' j j' : Nat} (hr : r < 10) (hr' : r' < 10) (h1 : mcc r = mcc r') (h2 : mcs r j = mcs r' j') : r = r' ∧ j = j' := by
  rcases mcc_inj r hr r' hr' h1 with rfl | ⟨rfl, rfl⟩ | ⟨rfl, rfl⟩
  · refine ⟨rfl, ?_⟩
    by_cases h7 : r = 7
    · subst h7; exact mcs_7 h2
    · by_cases h9 : r = 9
      · subst h9; exact mcs_9 h2
      · rw [mcs_o h7 h9, mcs_o h7 h9] at h2; exact h2
  · exact (mcs_79 h2).elim
  · exact (mcs_79 h2.symm).elim
theorem vM_u {h : pm_H} {r j : Nat} {x : Int32} (hr : zrg (h 66 3).toNatClampNeg r j = true) (h7 : r ≠ 7 ∨ j ≠ 0) : vM (pm_u h (mcc r) (mcs r j) x) = pm_u (vM h) r j x := by
  have r10 := zrg_10 hr
  have hc : pm_u h (mcc r) (mcs r j) x 66 3 = h 66 3 := by
    rw [zb_u]
    by_cases e : (66 : Nat) = mcc r
    · rw [if_pos e]
      by_cases e2 : (3 : Nat) = mcs r j
      · have := m_inj (r := 7) (r' := r) (j := 0) (j' := j) (by omega) r10 (by rw [← e]; rfl) (by rw [← e2]; rfl)
        omega
      · rw [if_neg e2, ← e]
    · rw [if_neg e]
  funext r' j'
  unfold vM
  rw [hc]
  by_cases hr' : zrg (h 66 3).toNatClampNeg r' j' = true
  · rw [if_pos hr', zb_u, zb_u]
    have r10' := zrg_10 hr'
    by_cases e : r' = r
    · subst e
      rw [if_pos rfl, if_pos rfl]
      by_cases e2 : j' = j
      · subst e2; rw [if_pos rfl, if_pos rfl]
      · rw [if_neg e2, if_neg (fun q => e2 (m_inj r10' r10' rfl q).2), if_pos hr']
    · rw [if_neg e, if_pos hr']
      by_cases e3 : mcc r' = mcc r
      · rw [if_pos e3, if_neg (fun q => e (m_inj r10' r10 e3 q).1), ← e3]
      · rw [if_neg e3]
  · rw [if_neg hr', zb_u]
    by_cases e : r' = r
    · subst e
      rw [if_pos rfl]
      by_cases e2 : j' = j
      · subst e2; exact absurd hr hr'
      · rw [if_neg e2, if_neg hr']
    · rw [if_neg e, if_neg hr']
theorem vM_of {h h' : pm_H} (h1 : ∀ o, (67 ≤ o ∧ o < 75 ∧ o ≠ 70) ∨ o = 81 → h' o = h o) (h2 : ∀ j, j = 3 ∨ j = 9 ∨ j = 10 ∨ j = 27 ∨ j = 29 → h' 66 j = h 66 j) : vM h' = vM h := by
  funext r j
  unfold vM
  rw [h2 3 (by omega)]
  by_cases hr : zrg (h 66 3).toNatClampNeg r j = true
  · rw [if_pos hr, if_pos hr]
    have r10 := zrg_10 hr
    by_cases e : r = 9
    · subst e
      have hj : j < 2 := by simpa [zrg] using hr
      rcases (show j = 0 ∨ j = 1 by omega) with rfl | rfl
      · exact h2 27 (by omega)
      · exact h2 29 (by omega)
    · by_cases e7 : r = 7
      · subst e7
        have hj : j < 3 := by simpa [zrg] using hr
        rcases (show j = 0 ∨ j = 1 ∨ j = 2 by omega) with rfl | rfl | rfl
        · exact h2 3 (by omega)
        · exact h2 9 (by omega)
        · exact h2 10 (by omega)
      · have : ∀ r, r < 10 → r ≠ 9 → r ≠ 7 → (67 ≤ mcc r ∧ mcc r < 75 ∧ mcc r ≠ 70) ∨ mcc r = 81 := by decide
        rw [h1 (mcc r) (this r r10 e e7)]
  · rw [if_neg hr, if_neg hr]
section
variable {h : pm_H} {j : Nat}
theorem vM_0 (hj : j < 10) : vM h 0 j = h 67 j := vM_at (by simp [zrg, hj])
theorem vM_1 (hj : j < 10) : vM h 1 j = h 68 j := vM_at (by simp [zrg, hj])
theorem vM_2 (hj : j < 10) : vM h 2 j = h 69 j := vM_at (by simp [zrg, hj])
theorem vM_3 (hj : j < (h 66 3).toNatClampNeg) : vM h 3 j = h 71 j := vM_at (by simp [zrg, hj])
theorem vM_4 (hj : j < (h 66 3).toNatClampNeg) : vM h 4 j = h 72 j := vM_at (by simp [zrg, hj])
theorem vM_5 (hj : j < (h 66 3).toNatClampNeg) : vM h 5 j = h 73 j := vM_at (by simp [zrg, hj])
theorem vM_6 (hj : j < (h 66 3).toNatClampNeg) : vM h 6 j = h 74 j := vM_at (by simp [zrg, hj])
theorem vM_70 : vM h 7 0 = h 66 3 := vM_at (by simp [zrg])
theorem vM_71 : vM h 7 1 = h 66 9 := vM_at (by simp [zrg])
theorem vM_72 : vM h 7 2 = h 66 10 := vM_at (by simp [zrg])
theorem vM_8 (hj : j < 10) : vM h 8 j = h 81 j := vM_at (by simp [zrg, hj])
theorem vM_90 : vM h 9 0 = h 66 27 := vM_at (by simp [zrg])
theorem vM_91 : vM h 9 1 = h 66 29 := vM_at (by simp [zrg])
theorem vM_u1 {x : Int32} (hj : j < 10) : vM (pm_u h 68 j x) = pm_u (vM h) 1 j x := vM_u (r := 1) (by simp [zrg, hj]) (Or.inl (by omega))
theorem vM_u2 {x : Int32} (hj : j < 10) : vM (pm_u h 69 j x) = pm_u (vM h) 2 j x := vM_u (r := 2) (by simp [zrg, hj]) (Or.inl (by omega))
theorem vM_u4 {x : Int32} (hj : j < (h 66 3).toNatClampNeg) : vM (pm_u h 72 j x) = pm_u (vM h) 4 j x := vM_u (r := 4) (by simp [zrg, hj]) (Or.inl (by omega))
theorem vM_u6 {x : Int32} (hj : j < (h 66 3).toNatClampNeg) : vM (pm_u h 74 j x) = pm_u (vM h) 6 j x := vM_u (r := 6) (by simp [zrg, hj]) (Or.inl (by omega))
theorem vM_u71 {x : Int32} : vM (pm_u h 66 9 x) = pm_u (vM h) 7 1 x := vM_u (r := 7) (j := 1) (by simp [zrg]) (Or.inr (by omega))
theorem vM_u72 {x : Int32} : vM (pm_u h 66 10 x) = pm_u (vM h) 7 2 x := vM_u (r := 7) (j := 2) (by simp [zrg]) (Or.inr (by omega))
theorem vM_u8 {x : Int32} (hj : j < 10) : vM (pm_u h 81 j x) = pm_u (vM h) 8 j x := vM_u (r := 8) (by simp [zrg, hj]) (Or.inl (by omega))
theorem vM_u90 {x : Int32} : vM (pm_u h 66 27 x) = pm_u (vM h) 9 0 x := vM_u (r := 9) (j := 0) (by simp [zrg]) (Or.inl (by omega))
theorem vM_u91 {x : Int32} : vM (pm_u h 66 29 x) = pm_u (vM h) 9 1 x := vM_u (r := 9) (j := 1) (by simp [zrg]) (Or.inl (by omega))
theorem vM_uo {o : Nat} {x : Int32} (ho : o < 66 ∨ o = 70 ∨ o = 75 ∨ o = 76 ∨ o = 77 ∨ o = 78 ∨ o = 79 ∨ o = 80 ∨ 81 < o) : vM (pm_u h o j x) = vM h := vM_of (fun o' a => zb_un (by omega)) (fun _ _ => by rw [zb_un (by omega)])
theorem vM_u66 {x : Int32} (hj : j ≠ 3 ∧ j ≠ 9 ∧ j ≠ 10 ∧ j ≠ 27 ∧ j ≠ 29) : vM (pm_u h 66 j x) = vM h := vM_of (fun o' a => zb_un (by omega)) (fun _ _ => by rw [zb_uj (by omega)])
end
/-- what a tick of the reference may change -/
def fM (h h' : pm_H) : Prop := (∀ o, (o < 66 ∨ o = 67 ∨ o = 68 ∨ (69 < o ∧ o < 74) ∨ o = 75 ∨ o = 76 ∨ o = 77 ∨ 81 < o) → h' o = h o) ∧ (∀ j, j ≠ 9 → j ≠ 10 → j ≠ 27 → j ≠ 28 → j ≠ 29 → h' 66 j = h 66 j)
theorem fM_rfl {h : pm_H} : fM h h := ⟨fun _ _ => rfl, fun _ _ _ _ _ _ => rfl⟩
theorem fM_trans {a b c : pm_H} (h1 : fM a b) (h2 : fM b c) : fM a c := ⟨fun o ho => (h2.1 o ho).trans (h1.1 o ho), fun j a b c d e => (h2.2 j a b c d e).trans (h1.2 j a b c d e)⟩
theorem fM_u {h : pm_H} {o j : Nat} {x : Int32} (h1 : o = 69 ∨ o = 74 ∨ (78 ≤ o ∧ o ≤ 81) ∨ (o = 66 ∧ (j = 9 ∨ j = 10 ∨ j = 27 ∨ j = 28 ∨ j = 29))) : fM h (pm_u h o j x) := by
  refine ⟨fun o' ho => zb_un (by omega), fun j' a b c d e => ?_⟩
  rw [zb_u]
  by_cases q : (66 : Nat) = o
  · rw [if_pos q, if_neg (by omega), ← q]
  · rw [if_neg q]
theorem fM_scr {h h' : pm_H} (H : ∀ o, o ≠ 78 → h' o = h o) : fM h h' := ⟨fun o ho => H o (by omega), fun j _ _ _ _ _ => by rw [H 66 (by omega)]⟩
theorem fM_tm {h h' : pm_H} {k : Nat} {R : Nat → List Int32} (H : fM h h') (hT : zTm h k R) : zTm h' k R := zTm_of (H.1 _ (by omega)) (H.1 _ (by omega)) hT
theorem vM_scr {h h' : pm_H} (H : ∀ o, o ≠ 78 → h' o = h o) : vM h' = vM h := vM_of (fun o _ => H o (by omega)) (fun j _ => by rw [H 66 (by omega)])
theorem zb_id {z : pm_H} {r j : Nat} : pm_u z r j (z r j) = z := by
  funext r' j'
  rw [zb_u]
  by_cases e : r' = r
  · subst e
    rw [if_pos rfl]
    by_cases e2 : j' = j
    · subst e2; rw [if_pos rfl]
    · rw [if_neg e2]
  · rw [if_neg e]
theorem zLe_0 {s : Nat} {z : pm_H} : zLe 0 s z = z := by
  unfold zLe
  rw [Int32.sub_zero, Int32.add_zero, Int32.add_zero, zb_id, zb_id, zb_id]
  by_cases h : s < 9
  · rw [if_pos h]
  · rw [if_neg h]
section
variable {k : Nat} {R : Nat → List Int32}
set_option maxHeartbeats 4000000 in
theorem sm_worth (hk : k < 6) (hR : zWf R) {which s : Nat} {h : pm_H} {left bound : Int32} {Q : Int32 → pm_H → Prop} (hw : which < 3) (hs : s < 10) (hT : zTm h k R) (h14 : h 66 14 = nI k) (hq : ∀ h', (∀ o, o ≠ 78 → h' o = h o) → Q (zWo R which s left bound (vM h)) h') : wp_X7_worth (nI which) (nI s) left bound h Q := by
  have e4 : (4 : Int32) * nI k = nI (4 * k) := by
    rw [show (4 : Int32) = nI 4 by decide]
    refine zb_teq.mpr ?_
    rw [zb_tmul (by rw [nI_toInt (by omega), nI_toInt (by omega)]; omega) (by rw [nI_toInt (by omega), nI_toInt (by omega)]; omega), nI_toInt (by omega), nI_toInt (by omega), nI_toInt (by omega)]
    omega
  have hb := zBg_le hR (w := which + 1) (by omega)
  have hb' : zBg R (which + 1) = zBg R which + (R which).length := rfl
  obtain ⟨t1, t2, t3⟩ := hT which hw
  unfold wp_X7_worth
  simp only [pm_op_eq, h14, e4, nI_add, nI_1, zb_in (j := 4 * k + which + 1) (n := 24) (by omega) (by omega), zb_in (j := 4 * k + which) (n := 24) (by omega) (by omega), zb_ibt, nI_clamp (n := 4 * k + which + 1) (by omega), nI_clamp (n := 4 * k + which) (by omega), t1, t2]
  refine ⟨(R which).length + 1, ?_⟩
  rw [show (0 : Int32) = nI ([] : List Int32).length by decide]
  refine sp_worthL (f := zSe (vM h) s left) hk hs (by omega) rfl rfl (fun q => by simp [zSe, q]) (R which) (zBg R which) [] h (hR.1 which hw) (by simp) (by omega) h14 t3 ⟨by simp [zSe, vM_2 hs], by simp [zSe, vM_71], fun q => by simp [zSe, q, vM_2 (h := h) (j := s + 1) (by omega)], by simp [zSe, vM_1 hs]⟩ trivial (fun h' e hS hl => ?_)
  rw [show nI ([] : List Int32).length = (0 : Int32) by decide]
  have := hq h' e
  unfold zWo at this
  match hz : zEv (zSe (vM h) s left) (R which) [] with
  | [] => rw [hz] at hl; simp at hl
  | v :: r =>
    rw [hz] at hl hS this
    have hr : r = [] := List.length_eq_zero_iff.mp (by simpa using hl)
    subst hr
    have h0 : h' 78 0 = v := hS.1
    rw [h0]
    exact this
theorem sm_holds {kk w : Int32} {h : pm_H} {Q : Int32 → pm_H → Prop} (hq : Q (zHm kk w) h) : wp_X7_holds kk w h Q := by
  unfold wp_X7_holds
  unfold zHm at hq
  simp only [pm_op_eq, zb_eq]
  repeat' split
  all_goals simp_all
theorem sm_holds_ {s : Nat} {h : pm_H} {Q : Int32 → pm_H → Prop} (hV : zV (vM h)) (hs : s < 10) (hq : Q (zHo (vM h 0 s) (vM h 1 s)) h) : wp_X7_holds_ (nI s) h Q := by
  obtain ⟨a1, a2, -⟩ := hV.2.2.1 s hs
  unfold wp_X7_holds_
  rw [zb_ib (zb_in hs (by omega)), zb_ib (zb_in hs (by omega)), nI_clamp (by omega)]
  rw [vM_0 hs, vM_1 hs] at *
  refine sm_holds ?_
  rw [zHo_eq a1 a2]
  exact hq
theorem sm_passes {s : Nat} {h : pm_H} {Q : Int32 → pm_H → Prop} (hs : s < 10) (hw : zB 1 10 (vM h 1 s)) (hq : Q (zPm (vM h 0 s) (vM h 1 s) (vM h 7 1)) h) : wp_X7_passes (nI s) h Q := by
  rw [vM_1 hs] at hw
  have h2 := zb_w2 hw
  unfold wp_X7_passes
  rw [vM_0 hs, vM_1 hs, vM_71] at hq
  unfold zPm at hq
  simp only [zb_in (j := s) (n := 10) hs (by omega), zb_ibt, nI_clamp (n := s) (by omega), pm_op_eq, zb_eq, zb_lt, zb_nz h2]
  repeat' split
  all_goals simp_all
theorem sm_stillInL {cnt : Nat} (hc : cnt ≤ 5) {K Q : Int32 → pm_H → Prop} {h : pm_H} (e : h 66 3 = nI cnt) (hK : K (zSum (h 74) cnt) h) : ∀ (m j : Nat), j + m = cnt → wl_X7_stillIn_4 K Q (m + 1) (zSum (h 74) j) (nI j) h
  | 0, j, hj => by
    unfold wl_X7_stillIn_4
    rw [zb_lt, e, if_neg (nI_nlt (by omega) (by omega)), show j = cnt by omega]
    exact hK
  | m + 1, j, hj => by
    unfold wl_X7_stillIn_4
    rw [zb_lt, e, if_pos (nI_lt (by omega) (by omega)), zb_ib (zb_in (by omega) (by omega)), pm_op_eq, pm_op_eq, nI_1, nI_clamp (by omega)]
    exact sm_stillInL hc e hK m (j + 1) (by omega)
theorem zM_cnt {h : pm_H} (hV : zV (vM h)) : ∃ cnt, cnt ≤ 5 ∧ h 66 3 = nI cnt ∧ (h 66 3).toNatClampNeg = cnt := by
  have := hV.1
  rw [vM_70] at this
  obtain ⟨j, hj, e, hb⟩ := zB_nat (b := 5) this
  exact ⟨j, hj, e, by rw [e]; exact nI_clamp hb⟩
theorem sm_stillIn {h : pm_H} {Q : Int32 → pm_H → Prop} (hV : zV (vM h)) (hq : Q (zIn (vM h)) h) : wp_X7_stillIn h Q := by
  obtain ⟨cnt, hc, e, e'⟩ := zM_cnt hV
  have eI : zIn (vM h) = zSum (h 74) cnt := by
    unfold zIn
    rw [vM_70, e']
    exact zSum_congr (fun j hj => vM_6 (by omega))
  rw [eI] at hq
  unfold wp_X7_stillIn
  exact ⟨cnt + 1, sm_stillInL hc e hq cnt 0 (by omega)⟩
theorem sm_onStepsL {K Q : Int32 → pm_H → Prop} {h : pm_H} (hK : K (zSum (h 69) 10) h) : ∀ (m j : Nat), j + m = 10 → wl_X7_onSteps_4 K Q (m + 1) (zSum (h 69) j) (nI j) h
  | 0, j, hj => by
    unfold wl_X7_onSteps_4
    rw [zb_lt, show (10 : Int32) = nI 10 by decide, if_neg (nI_nlt (by omega) (by omega)), show j = 10 by omega]
    exact hK
  | m + 1, j, hj => by
    unfold wl_X7_onSteps_4
    rw [zb_lt, show (10 : Int32) = nI 10 by decide, if_pos (nI_lt (by omega) (by omega)), zb_ib (zb_in (by omega) (by omega)), pm_op_eq, pm_op_eq, nI_1, nI_clamp (by omega)]
    exact sm_onStepsL hK m (j + 1) (by omega)
theorem sm_onSteps {h : pm_H} {Q : Int32 → pm_H → Prop} (hq : Q (zOn (vM h)) h) : wp_X7_onSteps h Q := by
  have eI : zOn (vM h) = zSum (h 69) 10 := zSum_congr (fun j hj => vM_2 hj)
  rw [eI] at hq
  unfold wp_X7_onSteps
  exact ⟨11, sm_onStepsL hq 10 0 (by omega)⟩
end
