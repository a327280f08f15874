/-! THE LAW: what holds at first, its loop, its start -/
def z0 : pm_H := fun r j => if r = 1 ∧ j < 10 then 2 else 0
theorem z0_vN {h : pm_H} (h1 : h 1 = fun _ => 0) (h2 : h 2 = fun _ => 0) (h3 : ∀ j, j < 10 → h 3 j = 2) (h4 : h 4 = fun _ => 0) : vN h = z0 := by
  funext r j
  unfold vN z0
  rw [h1]
  dsimp only
  rw [show (0 : Int32).toNatClampNeg = 0 by decide]
  by_cases c : zrg 0 r j = true ∧ r < 8
  · rw [if_pos c]
    obtain ⟨c1, c2⟩ := c
    unfold zrg at c1
    rcases (show r = 0 ∨ r = 1 ∨ r = 2 ∨ r = 7 ∨ (3 ≤ r ∧ r < 7) by omega) with rfl | rfl | rfl | rfl | c3
    · rw [if_neg (by omega)]
      show h 2 j = 0
      rw [h2]
    · have hj : j < 10 := by simpa using c1
      rw [if_pos ⟨rfl, hj⟩]
      exact h3 j hj
    · rw [if_neg (by omega)]
      show h 4 j = 0
      rw [h4]
    · rw [if_neg (by omega)]
      show h 1 (8 + j) = 0
      rw [h1]
    · rw [if_neg (by omega), if_pos (by omega)] at c1
      exact absurd (of_decide_eq_true c1) (Nat.not_lt_zero j)
  · rw [if_neg c, if_neg]
    rintro ⟨rfl, hj⟩
    exact c ⟨by simpa [zrg] using hj, by omega⟩
theorem z0_vM {h : pm_H} (h3 : h 66 3 = 0) (h9 : h 66 9 = 0) (h10 : h 66 10 = 0) (h67 : h 67 = fun _ => 0) (h68 : ∀ j, j < 10 → h 68 j = 2) (h69 : h 69 = fun _ => 0) : zE z0 (vM h) := by
  intro r hr
  funext j
  unfold vM z0
  rw [h3, show (0 : Int32).toNatClampNeg = 0 by decide]
  by_cases c : zrg 0 r j = true
  · rw [if_pos c]
    have c1 := c
    unfold zrg at c1
    rcases (show r = 0 ∨ r = 1 ∨ r = 2 ∨ r = 7 ∨ (3 ≤ r ∧ r < 7) by omega) with rfl | rfl | rfl | rfl | c3
    · rw [if_neg (by omega)]
      show 0 = h 67 j
      rw [h67]
    · have hj : j < 10 := by simpa using c1
      rw [if_pos ⟨rfl, hj⟩]
      exact (h68 j hj).symm
    · rw [if_neg (by omega)]
      show 0 = h 69 j
      rw [h69]
    · rw [if_neg (by omega)]
      have hj : j < 3 := by simpa using c1
      rcases (show j = 0 ∨ j = 1 ∨ j = 2 by omega) with rfl | rfl | rfl
      · exact h3.symm
      · exact h9.symm
      · exact h10.symm
    · rw [if_neg (by omega), if_pos (by omega)] at c1
      exact absurd (of_decide_eq_true c1) (Nat.not_lt_zero j)
  · rw [if_neg c, if_neg]
    rintro ⟨rfl, hj⟩
    exact c (by simpa [zrg] using hj)
theorem z0_V : zV z0 := by
  refine ⟨by unfold zB z0; decide, by unfold zB z0; decide, fun s hs => ?_, fun c hc => absurd hc (by rw [show (z0 7 0).toNatClampNeg = 0 by decide]; exact Nat.not_lt_zero c)⟩
  rw [show z0 0 s = 0 from if_neg (by omega), show z0 1 s = 2 from if_pos ⟨rfl, hs⟩, show z0 2 s = 0 from if_neg (by omega)]
  unfold zB
  decide +kernel
/-- both, as they are made, are alike -/
theorem zRel_0 {R : Nat → List Int32} {h1 h : pm_H} (W : zWf R) (K6 : cK6 R zM0 h1) (K7 : cK7 R (zM7 h1) h) : zRel h := by
  obtain ⟨a1, a2, a3, a4, a5⟩ := K6
  obtain ⟨b1, b2, b3, b4, b5, b6, b7, b8⟩ := K7
  have e : ∀ o, o < 66 → o ≠ 34 → h o = h1 o := fun o ho hn => by
    rw [b1 o (by omega) (by omega) (by omega) (by omega) (by omega) (by omega)]
    exact funext fun j => zM7_lt ho (fun q => hn q.1)
  have e0 : ∀ o, o < 66 → o ≠ 0 → o ≠ 34 → o ≠ 35 → o ≠ 40 → o ≠ 41 → o ≠ 42 → h o = zM0 o := fun o ho q0 q1 q2 q3 q4 q5 => by rw [e o ho q1, a1 o q0 q1 q2 q3 q4 q5]
  have e66 : ∀ j, j ≠ 11 → j ≠ 13 → j ≠ 30 → (j < 17 ∨ 22 < j) → h 66 j = 0 := fun j q1 q2 q3 q4 => by rw [b2 j q1 q2 q3 q4, zM7_ge (by omega)]
  have g1 : h 1 = fun _ => 0 := e0 1 (by omega) (by omega) (by omega) (by omega) (by omega) (by omega) (by omega)
  have g2 : h 2 = fun _ => 0 := e0 2 (by omega) (by omega) (by omega) (by omega) (by omega) (by omega) (by omega)
  have g3 : ∀ j, j < 10 → h 3 j = 2 := fun j hj => by
    rw [e0 3 (by omega) (by omega) (by omega) (by omega) (by omega) (by omega) (by omega)]
    exact if_pos hj
  have g4 : h 4 = fun _ => 0 := e0 4 (by omega) (by omega) (by omega) (by omega) (by omega) (by omega) (by omega)
  have ev : vN h = z0 := z0_vN g1 g2 g3 g4
  have em : zE z0 (vM h) := z0_vM (e66 3 (by omega) (by omega) (by omega) (by omega)) (e66 9 (by omega) (by omega) (by omega) (by omega)) (e66 10 (by omega) (by omega) (by omega) (by omega)) (by rw [b1 67 (by omega) (by omega) (by omega) (by omega) (by omega) (by omega), zM7_ge (by omega)]) b3 (by rw [b1 69 (by omega) (by omega) (by omega) (by omega) (by omega) (by omega), zM7_ge (by omega)])
  have h340 : h 34 0 = 0 := by
    rw [b1 34 (by omega) (by omega) (by omega) (by omega) (by omega) (by omega), zM7_lt (by omega) (by omega)]
    exact a4
  refine ⟨⟨0, by omega, by rw [g1]; exact zb_c0, by rw [e66 3 (by omega) (by omega) (by omega) (by omega)]; exact zb_c0, by rw [ev]; exact z0_V, by rw [ev]; exact em, fun s hs => by rw [g3 s hs]; decide, fun c hc => absurd hc (Nat.not_lt_zero c)⟩, ⟨1, 0, fun _ => R, by omega, by omega, by omega, ?_, b7, by rw [g1]; exact zb_c0, by rw [e66 14 (by omega) (by omega) (by omega) (by omega)]; exact zb_c0, b5, fun j hj => ?_⟩, ⟨0, by omega, by rw [h340]; exact zb_c0, by rw [b6]; exact zb_c0, fun j hj => absurd hj (Nat.not_lt_zero j)⟩, fun a ha => ?_, ⟨?_, Or.inl ?_⟩⟩
  · rw [e 0 (by omega) (by omega), a3]; decide
  · rw [show j = 0 by omega]
    exact ⟨zTx_of (e _ (by omega) (by omega)) (e _ (by omega) (by omega)) a5, b8, W⟩
  · rw [b4 a ha]
    refine ⟨?_, by unfold zB; decide, ?_, fun q => absurd rfl q⟩
    · rw [e0 (58 + 2 * a) (by omega) (by omega) (by omega) (by omega) (by omega) (by omega) (by omega)]
      rcases (show a = 0 ∨ a = 1 ∨ a = 2 ∨ a = 3 by omega) with rfl | rfl | rfl | rfl <;> rfl
    · rw [e0 (58 + 2 * a) (by omega) (by omega) (by omega) (by omega) (by omega) (by omega) (by omega)]
      rcases (show a = 0 ∨ a = 1 ∨ a = 2 ∨ a = 3 by omega) with rfl | rfl | rfl | rfl <;> (unfold zB; decide)
  · rw [e 0 (by omega) (by omega), a2 2 (by omega), e66 35 (by omega) (by omega) (by omega) (by omega)]; rfl
  · rw [e 0 (by omega) (by omega), a2 2 (by omega)]; rfl
theorem cl_le {i L : Nat} (hL : L ≤ 384) (hi : i ≤ L) (h : ¬ (Int32.ofNat L - 6 < nI i)) : i + 6 ≤ L := by
  rw [zb_tlt, show Int32.ofNat L = nI L from rfl, zb_tsub (by rw [nI_toInt (by omega)]; have : (6 : Int32).toInt = 6 := by decide
                                                              omega) (by rw [nI_toInt (by omega)]; have : (6 : Int32).toInt = 6 := by decide
                                                                         omega), nI_toInt (by omega), nI_toInt (by omega)] at h
  have : (6 : Int32).toInt = 6 := by decide
  omega
theorem cl_and31 (x : Int32) : 0 ≤ (x &&& 31).toInt ∧ (x &&& 31).toInt < 32 := by
  have h1 : (x &&& 31).toBitVec.toNat = x.toBitVec.toNat &&& 31 := by
    show (x.toBitVec &&& 31#32).toNat = _
    rw [BitVec.toNat_and]
    rfl
  have h2 : x.toBitVec.toNat &&& 31 ≤ 31 := Nat.and_le_right
  have h3 : (x &&& 31).toBitVec.toNat < 32 := by omega
  have h4 : (x &&& 31).toInt = ((x &&& 31).toBitVec.toNat : Int) := by
    show (x &&& 31).toBitVec.toInt = _
    rw [BitVec.toInt_eq_toNat_of_lt (by omega)]
  omega
set_option maxHeartbeats 4000000 in
theorem law_loop {p : Program} {l : Launch} {e : Env} {s : State} {m : MethodId} {below : List Frame} {meth : Method} {c : Code} {b L : Nat} {xs : Nat → Int32} {D : va_G} {cI cT cS : ClassId} {σ : Nat → Nat} (hL : L ≤ 384) (C0 : lw_At p s m meth c b L xs) (W0 : cl_W D cI cT cS σ s) :
    ∀ (k i : Nat), L < i + k → i ≤ L → ∀ (h : pm_H) (H : Heap) (locs : List Loc) (ls : Array Slot), zRel h → va_P D vwCl (pm_ws σ cI cT cS 92 h) H → va_S (pm_A σ 92 s.heap.size) s.heap H locs → lv_has ls 4 [(0, .ref b), (1, .ref (σ 0)), (2, .ref (σ 66)), (3, .int (nI i))] → W p l e room_1 s m #[Value.ref b] below meth c H locs 600000 7302250 (lw_Z below #[Value.ref b] s) (F0 m 18 ls []) := by
  intro k
  induction k with
  | zero => intro i h1 h2; omega
  | succ k ih =>
    intro i hk hi h H locs ls HR hP hS hl
    obtain ⟨hx, hb, hr, hml, hown, hts, hX, hbl, hlocks, hgv⟩ := id C0
    have hnb := cl_nb C0 W0
    refine lv_iload_n hx hb (k := 3) (i := 3) (x := nI i) (cl_de (by decide +kernel) rfl) rfl (lv_at hl 3 rfl) ?_
    refine lv_aload_n hx hb (k := 0) (i := 0) (x := b) (cl_de (by decide +kernel) rfl) rfl (lv_at hl 0 rfl) ?_
    refine va_slen hx hb hX hbl hnb hS (cl_de (by decide +kernel) rfl) ?_
    refine lv_bipush hx hb (n := 6) (v := 6) (cl_de (by decide +kernel) rfl) (by decide) ?_
    refine lv_isub hx hb (cl_de (by decide +kernel) rfl) ?_
    refine lv_icmp_gt hx hb (off := 936) (tgt := 960) (cl_de (by decide +kernel) rfl) (by decide) (fun _ => ?_) (fun hc => ?_)
    · refine lv_iconst hx hb (n := 1) (v := 1) (cl_de (by decide +kernel) rfl) (by decide) ?_
      refine va_forget (fun q hq => ?_) (lw_ret hx hb hr hlocks (cl_de (by decide +kernel) rfl))
      rcases hS.2.2 q hq with ⟨j, hj, e⟩ | z
      · rw [e]; exact W0.2.1 j hj
      · exact z
    · have hi6 := cl_le hL hi hc
      have hnext : ∀ (h' : pm_H) (H1 : Heap) (locs1 : List Loc), zRel h' → va_P D vwCl (pm_ws σ cI cT cS 92 h') H1 → va_S (pm_A σ 92 s.heap.size) s.heap H1 locs1 → W p l e room_1 s m #[Value.ref b] below meth c H1 locs1 600000 7302250 (lw_Z below #[Value.ref b] s) (F0 m 954 ls []) := by
        intro h' H1 locs1 HR1 hP1 hS1
        refine lv_iinc hx hb (i := 3) (n := 6) (k := 3) (x := nI i) (v := nI (i + 6)) (lv' := [(3, .int (nI (i + 6))), (0, .ref b), (1, .ref (σ 0)), (2, .ref (σ 66))]) (cl_de (by decide +kernel) rfl) hl rfl (nI_add i 6) (by decide) rfl (fun ls1 hl1 => ?_)
        refine lv_goto hx hb (off := -939) (tgt := 18) (cl_de (by decide +kernel) rfl) (by decide) ?_
        exact ih (i + 6) (by omega) (by omega) h' H1 locs1 ls1 HR1 hP1 hS1 (lv_sub hl1 [1, 2, 3, 0] rfl)
      refine lv_aload_n hx hb (k := 0) (i := 0) (x := b) (cl_de (by decide +kernel) rfl) rfl (lv_at hl 0 rfl) ?_
      refine lv_iload_n hx hb (k := 3) (i := 3) (x := nI i) (cl_de (by decide +kernel) rfl) rfl (lv_at hl 3 rfl) ?_
      refine va_sld hx hb hX hbl hnb hS (vp_in_nI (by omega) (by omega)) (cl_de (by decide +kernel) rfl) ?_
      rw [nI_clamp (by omega)]
      refine lv_bipush hx hb (n := 31) (v := 31) (cl_de (by decide +kernel) rfl) (by decide) ?_
      refine lv_iand hx hb (by decide +kernel) ?_
      obtain ⟨hlo, hhi⟩ := cl_and31 (xs i)
      obtain ⟨nsw, hsw⟩ : ∃ n, decode code 33 = .ok (.tableswitch 921 0 27 #[127, 170, 213, 256, 289, 312, 325, 348, 361, 384, 417, 430, 443, 456, 479, 502, 535, 548, 581, 614, 637, 650, 663, 686, 729, 772, 835, 888], n) := cl_de2 (by decide +kernel)
      obtain ⟨v, hv⟩ : ∃ v : Nat, (xs i &&& 31).toInt = (v : Int) := ⟨(xs i &&& 31).toInt.toNat, by omega⟩
      have hv32 : v < 32 := by omega
      by_cases h27 : 27 < v
      · refine lv_tableOut hx hb (tgt := 954) hsw (Or.inr (by omega)) (by decide) ?_
        exact hnext h H locs HR hP hS
      match v, hv, h27 with
      | 0, hv, _ => 
        refine lv_tableIn hx hb (off := 127) (tgt := 160) hsw (by omega) (by omega) (by rw [show (xs i &&& 31).toInt - 0 = ((0 : Nat) : Int) by omega]; rfl) (by decide) ?_
        exact cl_case C0 hL W0 (by omega) cf_step ck6_step ck7_step ⟨rfl, rfl, by decide, by decide⟩ (fun f h H => cb_step H) hl HR hP hS hnext
      | 1, hv, _ => 
        refine lv_tableIn hx hb (off := 170) (tgt := 203) hsw (by omega) (by omega) (by rw [show (xs i &&& 31).toInt - 0 = ((1 : Nat) : Int) by omega]; rfl) (by decide) ?_
        exact cl_case C0 hL W0 (by omega) cf_come ck6_come ck7_come ⟨rfl, rfl, by decide, by decide⟩ (fun f h H => cb_come H) hl HR hP hS hnext
      | 2, hv, _ => 
        refine lv_tableIn hx hb (off := 213) (tgt := 246) hsw (by omega) (by omega) (by rw [show (xs i &&& 31).toInt - 0 = ((2 : Nat) : Int) by omega]; rfl) (by decide) ?_
        exact cl_case C0 hL W0 (by omega) cf_set ck6_set ck7_set ⟨rfl, rfl, by decide, by decide⟩ (fun f h H => cb_set H) hl HR hP hS hnext
      | 3, hv, _ => 
        refine lv_tableIn hx hb (off := 256) (tgt := 289) hsw (by omega) (by omega) (by rw [show (xs i &&& 31).toInt - 0 = ((3 : Nat) : Int) by omega]; rfl) (by decide) ?_
        exact cl_case C0 hL W0 (by omega) cf_told ck6_told ck7_told ⟨rfl, rfl, by decide, by decide⟩ (fun f h H => cb_told H) hl HR hP hS hnext
      | 4, hv, _ => 
        refine lv_tableIn hx hb (off := 289) (tgt := 322) hsw (by omega) (by omega) (by rw [show (xs i &&& 31).toInt - 0 = ((4 : Nat) : Int) by omega]; rfl) (by decide) ?_
        exact cl_case C0 hL W0 (by omega) cf_feed ck6_feed ck7_feed ⟨rfl, rfl, by decide, by decide⟩ (fun f h H => cb_feed H) hl HR hP hS hnext
      | 5, hv, _ => 
        refine lv_tableIn hx hb (off := 312) (tgt := 345) hsw (by omega) (by omega) (by rw [show (xs i &&& 31).toInt - 0 = ((5 : Nat) : Int) by omega]; rfl) (by decide) ?_
        exact cl_case C0 hL W0 (by omega) cf_text ck6_text ck7_text ⟨rfl, rfl, by decide, by decide⟩ (fun f h H => cb_text H) hl HR hP hS hnext
      | 6, hv, _ => 
        refine lv_tableIn hx hb (off := 325) (tgt := 358) hsw (by omega) (by omega) (by rw [show (xs i &&& 31).toInt - 0 = ((6 : Nat) : Int) by omega]; rfl) (by decide) ?_
        exact cl_case C0 hL W0 (by omega) cf_force ck6_force ck7_force ⟨rfl, rfl, by decide, by decide⟩ (fun f h H => cb_force H) hl HR hP hS hnext
      | 7, hv, _ => 
        refine lv_tableIn hx hb (off := 348) (tgt := 381) hsw (by omega) (by omega) (by rw [show (xs i &&& 31).toInt - 0 = ((7 : Nat) : Int) by omega]; rfl) (by decide) ?_
        exact cl_case C0 hL W0 (by omega) cf_tick ck6_tick ck7_tick ⟨rfl, rfl, by decide, by decide⟩ (fun f h H => cb_tick H) hl HR hP hS hnext
      | 8, hv, _ => 
        refine lv_tableIn hx hb (off := 361) (tgt := 394) hsw (by omega) (by omega) (by rw [show (xs i &&& 31).toInt - 0 = ((8 : Nat) : Int) by omega]; rfl) (by decide) ?_
        exact cl_case C0 hL W0 (by omega) cf_run ck6_run ck7_run ⟨rfl, rfl, by decide, by decide⟩ (fun f h H => cb_run H) hl HR hP hS hnext
      | 9, hv, _ => 
        refine lv_tableIn hx hb (off := 384) (tgt := 417) hsw (by omega) (by omega) (by rw [show (xs i &&& 31).toInt - 0 = ((9 : Nat) : Int) by omega]; rfl) (by decide) ?_
        exact cl_case C0 hL W0 (by omega) cf_on ck6_on ck7_on ⟨rfl, rfl, by decide, by decide⟩ (fun f h H => cb_on H) hl HR hP hS hnext
      | 10, hv, _ => 
        refine lv_tableIn hx hb (off := 417) (tgt := 450) hsw (by omega) (by omega) (by rw [show (xs i &&& 31).toInt - 0 = ((10 : Nat) : Int) by omega]; rfl) (by decide) ?_
        exact cl_case C0 hL W0 (by omega) cf_holdsUp ck6_holdsUp ck7_holdsUp ⟨rfl, rfl, by decide, by decide⟩ (fun f h H => cb_holdsUp H) hl HR hP hS hnext
      | 11, hv, _ => 
        refine lv_tableIn hx hb (off := 430) (tgt := 463) hsw (by omega) (by omega) (by rw [show (xs i &&& 31).toInt - 0 = ((11 : Nat) : Int) by omega]; rfl) (by decide) ?_
        exact cl_case C0 hL W0 (by omega) cf_widen ck6_widen ck7_widen ⟨rfl, rfl, by decide, by decide⟩ (fun f h H => cb_widen H) hl HR hP hS hnext
      | 12, hv, _ => 
        refine lv_tableIn hx hb (off := 443) (tgt := 476) hsw (by omega) (by omega) (by rw [show (xs i &&& 31).toInt - 0 = ((12 : Nat) : Int) by omega]; rfl) (by decide) ?_
        exact cl_case C0 hL W0 (by omega) cf_later ck6_later ck7_later ⟨rfl, rfl, by decide, by decide⟩ (fun f h H => cb_later H) hl HR hP hS hnext
      | 13, hv, _ => 
        refine lv_tableIn hx hb (off := 456) (tgt := 489) hsw (by omega) (by omega) (by rw [show (xs i &&& 31).toInt - 0 = ((13 : Nat) : Int) by omega]; rfl) (by decide) ?_
        exact cl_case C0 hL W0 (by omega) cf_apart ck6_apart ck7_apart ⟨rfl, rfl, by decide, by decide⟩ (fun f h H => cb_apart H) hl HR hP hS hnext
      | 14, hv, _ => 
        refine lv_tableIn hx hb (off := 479) (tgt := 512) hsw (by omega) (by omega) (by rw [show (xs i &&& 31).toInt - 0 = ((14 : Nat) : Int) by omega]; rfl) (by decide) ?_
        exact cl_case C0 hL W0 (by omega) cf_order ck6_order ck7_order ⟨rfl, rfl, by decide, by decide⟩ (fun f h H => cb_order H) hl HR hP hS hnext
      | 15, hv, _ => 
        refine lv_tableIn hx hb (off := 502) (tgt := 535) hsw (by omega) (by omega) (by rw [show (xs i &&& 31).toInt - 0 = ((15 : Nat) : Int) by omega]; rfl) (by decide) ?_
        exact cl_case C0 hL W0 (by omega) cf_shut ck6_shut ck7_shut ⟨rfl, rfl, by decide, by decide⟩ (fun f h H => cb_shut H) hl HR hP hS hnext
      | 16, hv, _ => 
        refine lv_tableIn hx hb (off := 535) (tgt := 568) hsw (by omega) (by omega) (by rw [show (xs i &&& 31).toInt - 0 = ((16 : Nat) : Int) by omega]; rfl) (by decide) ?_
        exact cl_case C0 hL W0 (by omega) cf_drill ck6_drill ck7_drill ⟨rfl, rfl, by decide, by decide⟩ (fun f h H => cb_drill H) hl HR hP hS hnext
      | 17, hv, _ => 
        refine lv_tableIn hx hb (off := 548) (tgt := 581) hsw (by omega) (by omega) (by rw [show (xs i &&& 31).toInt - 0 = ((17 : Nat) : Int) by omega]; rfl) (by decide) ?_
        exact cl_case C0 hL W0 (by omega) cf_judge ck6_judge ck7_judge ⟨rfl, rfl, by decide, by decide⟩ (fun f h H => cb_judge H) hl HR hP hS hnext
      | 18, hv, _ => 
        refine lv_tableIn hx hb (off := 581) (tgt := 614) hsw (by omega) (by omega) (by rw [show (xs i &&& 31).toInt - 0 = ((18 : Nat) : Int) by omega]; rfl) (by decide) ?_
        exact cl_case C0 hL W0 (by omega) cf_look ck6_look ck7_look ⟨rfl, rfl, by decide, by decide⟩ (fun f h H => cb_look H) hl HR hP hS hnext
      | 19, hv, _ => 
        refine lv_tableIn hx hb (off := 614) (tgt := 647) hsw (by omega) (by omega) (by rw [show (xs i &&& 31).toInt - 0 = ((19 : Nat) : Int) by omega]; rfl) (by decide) ?_
        exact cl_case C0 hL W0 (by omega) cf_drawn ck6_drawn ck7_drawn ⟨rfl, rfl, by decide, by decide⟩ (fun f h H => cb_drawn H) hl HR hP hS hnext
      | 20, hv, _ => 
        refine lv_tableIn hx hb (off := 637) (tgt := 670) hsw (by omega) (by omega) (by rw [show (xs i &&& 31).toInt - 0 = ((20 : Nat) : Int) by omega]; rfl) (by decide) ?_
        exact cl_case C0 hL W0 (by omega) cf_image ck6_image ck7_image ⟨rfl, rfl, by decide, by decide⟩ (fun f h H => cb_image H) hl HR hP hS hnext
      | 21, hv, _ => 
        refine lv_tableIn hx hb (off := 650) (tgt := 683) hsw (by omega) (by omega) (by rw [show (xs i &&& 31).toInt - 0 = ((21 : Nat) : Int) by omega]; rfl) (by decide) ?_
        exact cl_case C0 hL W0 (by omega) cf_back ck6_back ck7_back ⟨rfl, rfl, by decide, by decide⟩ (fun f h H => cb_back H) hl HR hP hS hnext
      | 22, hv, _ => 
        refine lv_tableIn hx hb (off := 663) (tgt := 696) hsw (by omega) (by omega) (by rw [show (xs i &&& 31).toInt - 0 = ((22 : Nat) : Int) by omega]; rfl) (by decide) ?_
        exact cl_case C0 hL W0 (by omega) cf_count ck6_count ck7_count ⟨rfl, rfl, by decide, by decide⟩ (fun f h H => cb_count H) hl HR hP hS hnext
      | 23, hv, _ => 
        refine lv_tableIn hx hb (off := 686) (tgt := 719) hsw (by omega) (by omega) (by rw [show (xs i &&& 31).toInt - 0 = ((23 : Nat) : Int) by omega]; rfl) (by decide) ?_
        exact cl_case C0 hL W0 (by omega) cf_sheet ck6_sheet ck7_sheet ⟨rfl, rfl, by decide, by decide⟩ (fun f h H => cb_sheet H) hl HR hP hS hnext
      | 24, hv, _ => 
        refine lv_tableIn hx hb (off := 729) (tgt := 762) hsw (by omega) (by omega) (by rw [show (xs i &&& 31).toInt - 0 = ((24 : Nat) : Int) by omega]; rfl) (by decide) ?_
        exact cl_case C0 hL W0 (by omega) cf_cell ck6_cell ck7_cell ⟨rfl, rfl, by decide, by decide⟩ (fun f h H => cb_cell H) hl HR hP hS hnext
      | 25, hv, _ => 
        refine lv_tableIn hx hb (off := 772) (tgt := 805) hsw (by omega) (by omega) (by rw [show (xs i &&& 31).toInt - 0 = ((25 : Nat) : Int) by omega]; rfl) (by decide) ?_
        exact cl_case C0 hL W0 (by omega) cf_copy ck6_copy ck7_copy ⟨rfl, rfl, by decide, by decide⟩ (fun f h H => cb_copy H) hl HR hP hS hnext
      | 26, hv, _ => 
        refine lv_tableIn hx hb (off := 835) (tgt := 868) hsw (by omega) (by omega) (by rw [show (xs i &&& 31).toInt - 0 = ((26 : Nat) : Int) by omega]; rfl) (by decide) ?_
        exact cl_case C0 hL W0 (by omega) cf_classes ck6_classes ck7_classes ⟨rfl, rfl, by decide, by decide⟩ (fun f h H => cb_classes H) hl HR hP hS hnext
      | 27, hv, _ => 
        refine lv_tableIn hx hb (off := 888) (tgt := 921) hsw (by omega) (by omega) (by rw [show (xs i &&& 31).toInt - 0 = ((27 : Nat) : Int) by omega]; rfl) (by decide) ?_
        exact cl_case C0 hL W0 (by omega) cf_taken ck6_taken ck7_taken ⟨rfl, rfl, by decide, by decide⟩ (fun f h H => cb_taken H) hl HR hP hS hnext
      | w + 28, _, h27 => exact absurd (show 27 < w + 28 by omega) h27
