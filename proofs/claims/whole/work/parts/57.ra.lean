/-! MATHEMATICS, 57: what holds between the class and the reference -/
section
variable {h : pm_H} {j : Nat}
theorem vN_0 (hj : j < 10) : vN h 0 j = h 2 j := by unfold vN; rw [if_pos (by simp [zrg, hj])]; rfl
theorem vN_2 (hj : j < 10) : vN h 2 j = h 4 j := by unfold vN; rw [if_pos (by simp [zrg, hj])]; rfl
theorem vN_3 (hj : j < (h 1 8).toNatClampNeg) : vN h 3 j = h 6 j := by unfold vN; rw [if_pos (by simp [zrg, hj])]; rfl
theorem vN_5 (hj : j < (h 1 8).toNatClampNeg) : vN h 5 j = h 8 j := by unfold vN; rw [if_pos (by simp [zrg, hj])]; rfl
theorem vN_6 (hj : j < (h 1 8).toNatClampNeg) : vN h 6 j = h 9 j := by unfold vN; rw [if_pos (by simp [zrg, hj])]; rfl
theorem vN_72 : vN h 7 2 = h 1 10 := by unfold vN; rw [if_pos (by simp [zrg])]; rfl
end
def zrS (h : pm_H) : Prop := ∃ cnt, cnt ≤ 5 ∧ h 1 8 = nI cnt ∧ h 66 3 = nI cnt ∧ zV (vN h) ∧ zE (vN h) (vM h) ∧ (∀ s, s < 10 → (h 3 s).toInt ≤ 9) ∧ (∀ c, c < cnt → h 5 c = h 70 c)
def zrT (h : pm_H) : Prop := ∃ (tc k : Nat) (Rs : Nat → Nat → List Int32), 1 ≤ tc ∧ tc ≤ 6 ∧ k < tc ∧ h 0 6 = nI tc ∧ h 66 13 = nI tc ∧ h 1 11 = nI k ∧ h 66 14 = nI k ∧ h 66 30 = -1 ∧ ∀ j, j < tc → zTx h j (Rs j) ∧ zTm h j (Rs j) ∧ zWf (Rs j)
def zrP (h : pm_H) : Prop := ∃ n, n ≤ 160 ∧ h 34 0 = nI n ∧ h 66 11 = nI n ∧ ∀ j, j < n → h 35 j = h 75 j ∧ zB 0 255 (h 35 j)
def zrH (h : pm_H) : Prop := ∀ a, a < 4 → h (58 + 2 * a) 1 = h 88 a ∧ zB (-1) 2 (h 88 a) ∧ zB 0 40 (h (58 + 2 * a) 2) ∧ (h 88 a ≠ -1 → h 89 a = h (58 + 2 * a) 2 ∧ ∀ j, j < 40 → h (58 + 2 * a + 1) j = h 90 (40 * a + j))
def zIm (h : pm_H) : Prop := ∃ (oc ok : Nat), oc ≤ 5 ∧ (oc : Int) ≤ (h 1 8).toInt ∧ h 10 8 = nI oc ∧ h 66 36 = nI oc ∧ h 10 9 = h 66 37 ∧ h 10 10 = h 66 38 ∧ h 10 11 = nI ok ∧ h 66 39 = nI ok ∧ ok < 6 ∧ (ok : Int) < (h 0 6).toInt ∧ zB 0 999 (h 10 9) ∧
  (∀ s, s < 10 → h 11 s = h 86 s ∧ h 12 s = h 86 (10 + s) ∧ h 13 s = h 86 (20 + s) ∧ zB 0 5 (h 11 s) ∧ zB 1 9 (h 12 s) ∧ 0 ≤ (h 13 s).toInt ∧ (h 13 s).toInt ≤ (zHo (h 11 s) (h 12 s)).toInt) ∧
  (∀ c, c < oc → h 15 c = h 87 c ∧ h 16 c = h 87 (5 + c) ∧ h 17 c = h 87 (10 + c) ∧ h 18 c = h 87 (15 + c) ∧ h 14 c = h 70 c ∧ zB 0 9 (h 15 c) ∧ zB 0 999 (h 16 c) ∧ zB 1 9 (h 17 c) ∧ zB 0 60 (h 18 c))
def zrI (h : pm_H) : Prop := h 0 2 = h 66 35 ∧ (h 0 2 = 0 ∨ (h 0 2 = 1 ∧ zIm h))
def zRel (h : pm_H) : Prop := zrS h ∧ zrT h ∧ zrP h ∧ zrH h ∧ zrI h
theorem zrS_f {h h' : pm_H} (H : zrS h) (c1 : ∀ o, 2 ≤ o → o < 10 → h' o = h o) (c2 : ∀ j, j ≠ 11 → h' 1 j = h 1 j) (m : zE (vM h') (vM h)) (m3 : h' 66 3 = h 66 3) (m70 : ∀ c, c < 5 → h' 70 c = h 70 c) : zrS h' := by
  obtain ⟨cnt, a1, a2, a3, a4, a5, a6, a7⟩ := H
  have e : vN h' = vN h := by
    funext r j
    unfold vN
    rw [c2 8 (by omega)]
    by_cases hr : zrg (h 1 8).toNatClampNeg r j = true ∧ r < 8
    · rw [if_pos hr, if_pos hr]
      by_cases e7 : r = 7
      · subst e7
        have hj : j < 3 := by simpa [zrg] using hr.1
        show h' 1 (8 + j) = h 1 (8 + j)
        exact c2 _ (by omega)
      · have : ∀ r, r < 8 → r ≠ 7 → 2 ≤ ncc r ∧ ncc r < 10 := by decide
        rw [c1 (ncc r) (this r hr.2 e7).1 (this r hr.2 e7).2]
    · rw [if_neg hr, if_neg hr]
  refine ⟨cnt, a1, by rw [c2 8 (by omega)]; exact a2, by rw [m3]; exact a3, by rw [e]; exact a4, by rw [e]; exact zE_trans a5 (zE_symm m), fun s hs => by rw [c1 3 (by omega) (by omega)]; exact a6 s hs, fun c hc => by rw [c1 5 (by omega) (by omega), m70 c (by omega)]; exact a7 c hc⟩
theorem zrT_f {h h' : pm_H} (H : zrT h) (c6 : h' 0 6 = h 0 6) (m13 : h' 66 13 = h 66 13) (c11 : h' 1 11 = h 1 11) (m14 : h' 66 14 = h 66 14) (m30 : h' 66 30 = h 66 30) (ct : ∀ o, 40 ≤ o → o < 58 → h' o = h o) (m76 : h' 76 = h 76) (m77 : h' 77 = h 77) : zrT h' := by
  obtain ⟨tc, k, Rs, b1, b2, b3, b4, b5, b6, b7, b8, b9⟩ := H
  refine ⟨tc, k, Rs, b1, b2, b3, by rw [c6]; exact b4, by rw [m13]; exact b5, by rw [c11]; exact b6, by rw [m14]; exact b7, by rw [m30]; exact b8, fun j hj => ⟨zTx_of (ct _ (by omega) (by omega)) (ct _ (by omega) (by omega)) (b9 j hj).1, zTm_of m76 m77 (b9 j hj).2.1, (b9 j hj).2.2⟩⟩
theorem zrP_f {h h' : pm_H} (H : zrP h) (c34 : h' 34 0 = h 34 0) (m11 : h' 66 11 = h 66 11) (c35 : h' 35 = h 35) (m75 : h' 75 = h 75) : zrP h' := by
  obtain ⟨n, a1, a2, a3, a4⟩ := H
  exact ⟨n, a1, by rw [c34]; exact a2, by rw [m11]; exact a3, fun j hj => by rw [c35, m75]; exact a4 j hj⟩
theorem zrH_f {h h' : pm_H} (H : zrH h) (c : ∀ o, 58 ≤ o → o < 66 → h' o = h o) (m : ∀ o, o = 88 ∨ o = 89 ∨ o = 90 → h' o = h o) : zrH h' := by
  intro a ha
  rw [c (58 + 2 * a) (by omega) (by omega), c (58 + 2 * a + 1) (by omega) (by omega), m 88 (by omega), m 89 (by omega), m 90 (by omega)]
  exact H a ha
theorem zrI_f {h h' : pm_H} (H : zrI h) (c2 : h' 0 2 = h 0 2) (m : ∀ j, 35 ≤ j → j < 40 → h' 66 j = h 66 j) (c : ∀ o, 10 ≤ o → o < 19 → h' o = h o) (m86 : h' 86 = h 86) (m87 : h' 87 = h 87) (c8 : (h 1 8).toInt ≤ (h' 1 8).toInt) (m70 : ∀ c : Nat, (c : Int) < (h 1 8).toInt → h' 70 c = h 70 c) (c6 : (h 0 6).toInt ≤ (h' 0 6).toInt) : zrI h' := by
  obtain ⟨a1, a2⟩ := H
  refine ⟨by rw [c2, m 35 (by omega) (by omega)]; exact a1, ?_⟩
  rw [c2]
  refine a2.imp id (fun ⟨q, oc, ok, i1, i2, i3, i4, i5, i6, i7, i8, i9, i10, i11, i12, i13⟩ => ⟨q, oc, ok, i1, by omega, ?_⟩)
  rw [c 10 (by omega) (by omega), c 11 (by omega) (by omega), c 12 (by omega) (by omega), c 13 (by omega) (by omega), c 14 (by omega) (by omega), c 15 (by omega) (by omega), c 16 (by omega) (by omega), c 17 (by omega) (by omega), c 18 (by omega) (by omega), m86, m87, m 36 (by omega) (by omega), m 37 (by omega) (by omega), m 38 (by omega) (by omega), m 39 (by omega) (by omega)]
  exact ⟨i3, i4, i5, i6, i7, i8, i9, by omega, i11, i12, fun c hc => by rw [m70 c (by omega)]; exact i13 c hc⟩
/-- after a question to both all is as before -/
theorem zRel_q {h h1 h2 : pm_H} (H : zRel h) (G : gO h h1) (M : gM h1 h2) : zRel h2 := by
  obtain ⟨H1, H2, H3, H4, H5⟩ := H
  have e : ∀ o, (o < 19 ∨ (33 < o ∧ o ≠ 38 ∧ o ≠ 39 ∧ o < 66)) → h2 o = h o := fun o ho => by rw [M.1 o (by omega), G o (by omega)]
  have e2 : ∀ o, (o = 67 ∨ (70 ≤ o ∧ o ≤ 77 ∧ o ≠ 72 ∧ o ≠ 74) ∨ 86 ≤ o) → h2 o = h o := fun o ho => by rw [M.1 o (by omega), G o (by omega)]
  have e66 : ∀ j, (j < 27 ∨ 29 < j) → h2 66 j = h 66 j := fun j hj => by rw [M.2.2.2 j hj, G 66 (by omega)]
  have vm1 : vM h1 = vM h := vM_of (fun o _ => G o (by omega)) (fun j _ => by rw [G 66 (by omega)])
  obtain ⟨cnt, a1, a2, a3, -⟩ := id H1
  have ec : (h1 66 3).toNatClampNeg ≤ 5 := by rw [G 66 (by omega), a3, nI_clamp (by omega)]; exact a1
  refine ⟨zrS_f H1 (fun o h1 h2 => e o (by omega)) (fun j _ => by rw [e 1 (by omega)]) ?_ (e66 3 (by omega)) (fun c _ => by rw [e2 70 (by omega)]), zrT_f H2 (by rw [e 0 (by omega)]) (e66 13 (by omega)) (by rw [e 1 (by omega)]) (e66 14 (by omega)) (e66 30 (by omega)) (fun o _ _ => e o (by omega)) (e2 76 (by omega)) (e2 77 (by omega)), zrP_f H3 (by rw [e 34 (by omega)]) (e66 11 (by omega)) (e 35 (by omega)) (e2 75 (by omega)), zrH_f H4 (fun o _ _ => e o (by omega)) (fun o _ => e2 o (by omega)), zrI_f H5 (by rw [e 0 (by omega)]) (fun j _ _ => e66 j (by omega)) (fun o _ _ => e o (by omega)) (e2 86 (by omega)) (e2 87 (by omega)) (by rw [e 1 (by omega)]; exact Int.le_refl _) (fun c _ => by rw [e2 70 (by omega)]) (by rw [e 0 (by omega)]; exact Int.le_refl _)⟩
  rw [← vm1]
  exact gM_E ec M
theorem zRel_cl {h : pm_H} (H : zRel h) : ∃ k R, zCl k R h ∧ zMk k R h ∧ vZ (vM h) = vN h := by
  obtain ⟨⟨cnt, a1, a2, a3, a4, a5, -⟩, ⟨tc, k, Rs, b1, b2, b3, b4, b5, b6, b7, b8, b9⟩, -⟩ := H
  obtain ⟨t1, t2, t3⟩ := b9 k b3
  exact ⟨k, Rs k, ⟨a4, b6, by omega, t1, t3⟩, ⟨⟨zE_V (zE_symm a5) a4, t2, b7, by omega, t3⟩, b8⟩, by rw [vZ_eq (zE_symm a5), vN_Z]⟩
theorem zMk_o {k : Nat} {R : Nat → List Int32} {h h1 : pm_H} (H : zMk k R h) (G : gO h h1) : zMk k R h1 ∧ vM h1 = vM h := by
  have vm1 : vM h1 = vM h := vM_of (fun o _ => G o (by omega)) (fun j _ => by rw [G 66 (by omega)])
  obtain ⟨⟨a, b, c, d, e⟩, f⟩ := H
  exact ⟨⟨⟨by rw [vm1]; exact a, zTm_of (G _ (by omega)) (G _ (by omega)) b, by rw [G 66 (by omega)]; exact c, d, e⟩, by rw [G 66 (by omega)]; exact f⟩, vm1⟩
/-- a question that both answer alike -/
theorem pr_q {h : pm_H} (H : zRel h) (a : (Nat → List Int32) → pm_H → Int32) (W6 : (Int32 → pm_H → Prop) → Prop) (W7 : pm_H → (Int32 → pm_H → Prop) → Prop)
    (c : ∀ (k : Nat) (R : Nat → List Int32) (Q : Int32 → pm_H → Prop), zCl k R h → (∀ h', gO h h' → Q (a R (vN h)) h') → W6 Q)
    (m : ∀ (h1 : pm_H) (k : Nat) (R : Nat → List Int32) (Q : Int32 → pm_H → Prop), gO h h1 → zMk k R h1 → vZ (vM h1) = vN h → (∀ h', gM h1 h' → Q (a R (vN h)) h') → W7 h1 Q) : W6 (fun r h1 => W7 h1 (fun r' h2 => r = r' ∧ zRel h2)) := by
  obtain ⟨k, R, C, M, e⟩ := zRel_cl H
  refine c k R _ C (fun h1 G => ?_)
  obtain ⟨M1, e1⟩ := zMk_o M G
  exact m h1 k R _ G M1 (by rw [e1]; exact e) (fun h2 g2 => ⟨rfl, zRel_q H G g2⟩)
section
variable {h : pm_H}
theorem pr_run (H : zRel h) (w : Int32) : wp_X6_run w h (fun r h1 => wp_X7_run w h1 (fun r' h2 => r = r' ∧ zRel h2)) :=
  pr_q H (fun R z => aRun R z w) _ _ (fun _ _ _ C q => sp_run C (fun h' g => q h' (gC_O g))) (fun _ _ _ _ _ M e q => sm_run M (by rw [e]; exact q))
theorem pr_on (H : zRel h) (s n : Int32) : wp_X6_on s n h (fun r h1 => wp_X7_on s n h1 (fun r' h2 => r = r' ∧ zRel h2)) :=
  pr_q H (fun R z => aOn R z s n) _ _ (fun _ _ _ C q => sp_on C (fun h' g => q h' (gC_O g))) (fun _ _ _ _ _ M e q => sm_on M (by rw [e]; exact q))
theorem pr_holdsUp (H : zRel h) : wp_X6_holdsUp h (fun r h1 => wp_X7_holdsUp h1 (fun r' h2 => r = r' ∧ zRel h2)) :=
  pr_q H aHol _ _ (fun _ _ _ C q => sp_holdsUp C (fun h' g => q h' (gC_O g))) (fun _ _ _ _ _ M e q => sm_holdsUp M (by rw [e]; exact q))
theorem pr_widen (H : zRel h) : wp_X6_widen h (fun r h1 => wp_X7_widen h1 (fun r' h2 => r = r' ∧ zRel h2)) := by
  obtain ⟨cnt, a1, a2, a3, a4, a5, a6, a7⟩ := id H.1
  refine pr_q H aWid _ _ (fun _ _ _ C q => sp_widen C (fun h' g => q h' (gC_O g))) (fun h1 _ _ _ G M e q => sm_widen M (fun j hj => ?_) (by rw [e]; exact q))
  have vm1 : vM h1 = vM h := vM_of (fun o _ => G o (by omega)) (fun j _ => by rw [G 66 (by omega)])
  rw [vm1, ← a5 1 (by omega), vN_1 hj]
  exact a6 j hj
theorem pr_later (H : zRel h) : wp_X6_later h (fun r h1 => wp_X7_later h1 (fun r' h2 => r = r' ∧ zRel h2)) :=
  pr_q H aLat _ _ (fun _ _ _ C q => sp_later C (fun h' g => q h' (gC_O g))) (fun _ _ _ _ _ M e q => sm_later M (by rw [e]; exact q))
theorem pr_apart (H : zRel h) (w : Int32) : wp_X6_apart w h (fun r h1 => wp_X7_apart w h1 (fun r' h2 => r = r' ∧ zRel h2)) :=
  pr_q H (fun R z => aApa R z w) _ _ (fun _ _ _ C q => sp_apart C (fun h' g => q h' (gC_O g))) (fun _ _ _ _ _ M e q => sm_apart M (by rw [e]; exact q))
theorem pr_order (H : zRel h) (w : Int32) : wp_X6_order w h (fun r h1 => wp_X7_order w h1 (fun r' h2 => r = r' ∧ zRel h2)) :=
  pr_q H (fun R z => aOrd R z w) _ _ (fun _ _ _ C q => sp_order C q) (fun _ _ _ _ _ M e q => sm_order M (by rw [e]; exact q))
theorem pr_shut (H : zRel h) (s n : Int32) : wp_X6_shut s n h (fun r h1 => wp_X7_shut s n h1 (fun r' h2 => r = r' ∧ zRel h2)) :=
  pr_q H (fun R z => aShu R z s n) _ _ (fun _ _ _ C q => sp_shut C (fun h' g => q h' (gC_O g))) (fun _ _ _ _ _ M e q => sm_shut M (by rw [e]; exact q))
theorem pr_drill (H : zRel h) : wp_X6_drill h (fun r h1 => wp_X7_drill h1 (fun r' h2 => r = r' ∧ zRel h2)) :=
  pr_q H aDri _ _ (fun _ _ _ C q => sp_drill C (fun h' g => q h' (gC_O g))) (fun _ _ _ _ _ M e q => sm_drill M (by rw [e]; exact q))
theorem pr_look (H : zRel h) (s n : Int32) : wp_X6_look s n h (fun r h1 => wp_X7_look s n h1 (fun r' h2 => r = r' ∧ zRel h2)) :=
  pr_q H (fun R z => aLoo R z s n) _ _ (fun _ _ _ C q => sp_look C (fun h' g => q h' (gC_O g))) (fun _ _ _ _ _ M e q => sm_look M (by rw [e]; exact q))
theorem pr_drawn (H : zRel h) (w : Int32) : wp_X6_drawn w h (fun r h1 => wp_X7_drawn w h1 (fun r' h2 => r = r' ∧ zRel h2)) :=
  pr_q H (fun R z => aDra R z w) _ _ (fun _ _ _ C q => sp_drawn C (fun h' g => q h' (gC_O g))) (fun _ _ _ _ _ M e q => sm_drawn M (by rw [e]; exact q))
theorem zJl_congr {R : Nat → List Int32} {s : Nat} {f g : Nat → Int32} {len : Nat} (h : ∀ j, j < len → f j = g j) : ∀ (m i : Nat) (z : pm_H), i + m = len → zJl R s f m i z = zJl R s g m i z
  | 0, _, _, _ => rfl
  | m + 1, i, z, hi => by
    unfold zJl
    rw [h i (by omega), zJl_congr h m (i + 1) _ (by omega)]
theorem pr_judge (H : zRel h) (s sh : Int32) : wp_X6_judge s sh h (fun r h1 => wp_X7_judge s sh h1 (fun r' h2 => r = r' ∧ zRel h2)) := by
  have HH := H.2.2.2.1
  have eq : ∀ R z, aJud R z (fun a => h (58 + 2 * a) 1) (fun a => h (58 + 2 * a) 2) (fun a => h (58 + 2 * a + 1)) s sh = aJud R z (h 88) (h 89) (fun a j => h 90 (40 * a + j)) s sh := by
    intro R z
    unfold aJud
    by_cases c1 : s < 0 ∨ 9 < s
    · rw [if_pos c1, if_pos c1]
    rw [if_neg c1, if_neg c1]
    by_cases c2 : sh < 0 ∨ 3 < sh
    · rw [if_pos c2, if_pos c2]
    rw [if_neg c2, if_neg c2]
    obtain ⟨a, ha, rfl⟩ := zb_rng (m := 3) (by decide) (by omega) c2
    rw [nI_clamp (by omega)]
    obtain ⟨q1, q2, q3, q4⟩ := HH a (by omega)
    dsimp only
    by_cases c3 : h 88 a = -1
    · rw [if_pos (q1.trans c3), if_pos c3]
    rw [if_neg (fun q => c3 (q1.symm.trans q)), if_neg c3, (q4 c3).1]
    have b := zB_zi (b := 40) q3
    exact zJl_congr (len := (h (58 + 2 * a) 2).toNatClampNeg) (fun j hj => (q4 c3).2 j (by omega)) _ 0 _ (by omega)
  refine pr_q H (fun R z => aJud R z (h 88) (h 89) (fun a j => h 90 (40 * a + j)) s sh) _ _ (fun _ _ _ C q => sp_judge C (fun a ha => (HH a ha).2.2.1) (fun h' g => by rw [eq]; exact q h' (gC_O g))) (fun h1 _ _ _ G M e q => sm_judge M (fun a ha hne => ?_) (fun h' g => ?_))
  · rw [G 88 (by omega)] at hne
    rw [G 89 (by omega), ((HH a ha).2.2.2 hne).1]
    exact (HH a ha).2.2.1
  · rw [e, G 88 (by omega), G 89 (by omega), G 90 (by omega)]
    exact q h' g
end
