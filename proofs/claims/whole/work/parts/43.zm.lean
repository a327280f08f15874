/-! MATHEMATICS, 43: the class's tick, image, back -/
section
variable {k : Nat} {R : Nat → List Int32}
set_option maxHeartbeats 4000000 in
/-- a tick truly passes -/
theorem sp_tick {h : pm_H} {Q : Int32 → pm_H → Prop} (H : zCl k R h) (hq : ∀ h', (∀ o, (o < 1 ∨ (9 < o ∧ o < 19) ∨ 33 < o) → h' o = h o) → h' 1 11 = h 1 11 → (∀ j, j < 5 → h' 5 j = h 5 j) → zE (vN h') (zT R (-1) (vN h)) → Q (zT R (-1) (vN h) 7 2) h') : wp_X6_tick h Q := by
  obtain ⟨n, hn, e, e'⟩ := zCl_cnt H
  obtain ⟨a, b, c, d, f⟩ := id H
  unfold wp_X6_tick
  refine sp_begin c b (by omega) (fun h1 g1 v1 g3 g4 g5 g6 g7 => ?_)
  have t1 : zTr k R 0 h1 := ⟨by rw [v1]; exact a, gC_tx g1 d, g3, g4, Or.inl rfl⟩
  refine sp_pass c f t1 (fun h2 F2 t2 v2 _ => ?_)
  rw [v1] at v2
  unfold wp_X3_becomeLike_r1_r20
  generalize hH : pm_cp (pm_cp (pm_cp (pm_cp (pm_cp (pm_cp (pm_cp (pm_cp h2 21 0 2 0 10) 22 0 3 0 10) 23 0 4 0 10) 24 0 5 0 5) 25 0 6 0 5) 26 0 7 0 5) 27 0 8 0 5) 28 0 9 0 5 = W
  have W0 : ∀ o, (o < 2 ∨ 9 < o) → W o = h2 o := by
    intro o ho
    rw [← hH, zcp_ne (by omega), zcp_ne (by omega), zcp_ne (by omega), zcp_ne (by omega), zcp_ne (by omega), zcp_ne (by omega), zcp_ne (by omega), zcp_ne (by omega)]
  simp only [W0 20 (by omega)]
  have h20 : ∀ j, (pm_u (pm_u (pm_u (pm_u W 1 8 (h2 20 8)) 1 9 (h2 20 9)) 1 10 (h2 20 10)) 1 11 (h2 20 11)) 1 j = if j = 11 then h2 20 11 else if j = 10 then h2 20 10 else if j = 9 then h2 20 9 else if j = 8 then h2 20 8 else h2 1 j := by
    intro j
    simp only [zb_u, if_true, W0 1 (by omega)]
  have hW : ∀ o, o ≠ 1 → (pm_u (pm_u (pm_u (pm_u W 1 8 (h2 20 8)) 1 9 (h2 20 9)) 1 10 (h2 20 10)) 1 11 (h2 20 11)) o = W o := by
    intro o ho
    rw [zb_un ho, zb_un ho, zb_un ho, zb_un ho]
  generalize pm_u (pm_u (pm_u (pm_u W 1 8 (h2 20 8)) 1 9 (h2 20 9)) 1 10 (h2 20 10)) 1 11 (h2 20 11) = h3 at h20 hW ⊢
  have e10 : h3 1 10 = zT R (-1) (vN h) 7 2 := by rw [h20, ← v2, vC_72]; rfl
  rw [e10]
  have c20 : h2 20 8 = nI n := by rw [F2.2.2.2.1, g6]; exact e
  have c38 : (h3 1 8).toNatClampNeg = n := by rw [h20]; simp only [Nat.reduceEqDiff, if_false, if_true]; rw [c20, nI_clamp (by omega)]
  refine hq h3 (fun o ho => ?_) ?_ (fun j hj => ?_) ?_
  · rw [hW o (by omega), W0 o (by omega), F2.1 o (by omega), g1 o (by omega)]
  · rw [h20]
    simp only [if_true]
    rw [F2.2.2.2.2]
    exact g7.1
  · rw [hW 5 (by omega), ← hH, zcp_ne (by omega), zcp_ne (by omega), zcp_ne (by omega), zcp_ne (by omega), zcp_at hj, zcp_ne (by omega), zcp_ne (by omega), zcp_ne (by omega), F2.1 24 (by omega)]
    exact g7.2 j hj
  · intro r hr
    rw [← v2]
    funext j
    unfold vN vC
    rw [c38, c20, nI_clamp (by omega)]
    by_cases hz : zrg n r j = true
    · rw [if_pos ⟨hz, hr⟩, if_pos hz]
      have hj10 : j < 10 := by
        unfold zrg at hz
        repeat' split at hz
        all_goals first | (cases hz; done) | (simp at hz; omega)
      rcases (show r = 0 ∨ r = 1 ∨ r = 2 ∨ r = 3 ∨ r = 4 ∨ r = 5 ∨ r = 6 ∨ r = 7 by omega) with q | q | q | q | q | q | q | q <;> subst q
      · show h3 2 j = h2 21 j
        rw [hW 2 (by omega), ← hH, zcp_ne (by omega), zcp_ne (by omega), zcp_ne (by omega), zcp_ne (by omega), zcp_ne (by omega), zcp_ne (by omega), zcp_ne (by omega), zcp_at hj10]
      · show h3 3 j = h2 22 j
        rw [hW 3 (by omega), ← hH, zcp_ne (by omega), zcp_ne (by omega), zcp_ne (by omega), zcp_ne (by omega), zcp_ne (by omega), zcp_ne (by omega), zcp_at hj10, zcp_ne (by omega)]
      · show h3 4 j = h2 23 j
        rw [hW 4 (by omega), ← hH, zcp_ne (by omega), zcp_ne (by omega), zcp_ne (by omega), zcp_ne (by omega), zcp_ne (by omega), zcp_at hj10, zcp_ne (by omega), zcp_ne (by omega)]
      · have hj5 : j < 5 := by have : j < n := by simpa [zrg] using hz
                               omega
        show h3 6 j = h2 25 j
        rw [hW 6 (by omega), ← hH, zcp_ne (by omega), zcp_ne (by omega), zcp_ne (by omega), zcp_at hj5, zcp_ne (by omega), zcp_ne (by omega), zcp_ne (by omega), zcp_ne (by omega)]
      · have hj5 : j < 5 := by have : j < n := by simpa [zrg] using hz
                               omega
        show h3 7 j = h2 26 j
        rw [hW 7 (by omega), ← hH, zcp_ne (by omega), zcp_ne (by omega), zcp_at hj5, zcp_ne (by omega), zcp_ne (by omega), zcp_ne (by omega), zcp_ne (by omega), zcp_ne (by omega)]
      · have hj5 : j < 5 := by have : j < n := by simpa [zrg] using hz
                               omega
        show h3 8 j = h2 27 j
        rw [hW 8 (by omega), ← hH, zcp_ne (by omega), zcp_at hj5, zcp_ne (by omega), zcp_ne (by omega), zcp_ne (by omega), zcp_ne (by omega), zcp_ne (by omega), zcp_ne (by omega)]
      · have hj5 : j < 5 := by have : j < n := by simpa [zrg] using hz
                               omega
        show h3 9 j = h2 28 j
        rw [hW 9 (by omega), ← hH, zcp_at hj5, zcp_ne (by omega), zcp_ne (by omega), zcp_ne (by omega), zcp_ne (by omega), zcp_ne (by omega), zcp_ne (by omega), zcp_ne (by omega)]
      · have hj3 : j < 3 := by simpa [zrg] using hz
        show h3 1 (8 + j) = h2 20 (8 + j)
        rw [h20]
        rcases (show j = 0 ∨ j = 1 ∨ j = 2 by omega) with rfl | rfl | rfl <;> rfl
    · rw [if_neg (fun q => hz q.1), if_neg hz]
end
