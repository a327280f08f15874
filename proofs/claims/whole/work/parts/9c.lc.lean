/-! THE LAW'S WALK: the arguments of a call, a call, a case -/
abbrev cl_pat (pc j : Nat) : Prop := pm_look cl_code pc = some (.aload_n 0) ∧ pm_look cl_code (pc + 1) = some (.iload_n 3) ∧ pm_look cl_code (pc + 1 + 1) = some (.iconst (Int.ofNat j)) ∧ pm_look cl_code (pc + 1 + 1 + 1) = some .iadd ∧ pm_look cl_code (pc + 1 + 1 + 1 + 1) = some .iaload
abbrev cl_fact (n pc0 i6 i7 : Nat) (off : Int) : Prop := pm_look cl_code pc0 = some (.aload_n 1) ∧ (∀ j, j < n → cl_pat (pc0 + 1 + 5 * j) (j + 1)) ∧ pm_look cl_code (pc0 + 1 + 5 * n) = some (.invokevirtual i6) ∧ pm_look cl_code (pc0 + 1 + 5 * n + 3) = some (.aload_n 2) ∧ (∀ j, j < n → cl_pat (pc0 + 1 + 5 * n + 3 + 1 + 5 * j) (j + 1)) ∧ pm_look cl_code (pc0 + 1 + 5 * n + 3 + 1 + 5 * n) = some (.invokevirtual i7) ∧ pm_look cl_code (pc0 + 1 + 5 * n + 3 + 1 + 5 * n + 3) = some (.if_icmp .eq off) ∧ ((pc0 + 1 + 5 * n + 3 + 1 + 5 * n + 3 : Nat) : Int) + off = ((954 : Nat) : Int) ∧ n ≤ 5
def cl_ok (idx : Nat) (M' : pm_M) (n : Nat) : Prop := ∃ y cc ret, pm_I M' y cc ret ∧ Cond.methodLink R_law idx y ∈ pm_w ∧ Cond.instanceMethod y ∈ pm_w ∧ Cond.selects y.cls y y ∈ pm_w ∧ (parseMethodDescriptor y.desc).map (fun d => d.parameters.length) = some n ∧ M'.1 < 8
/-- both answer alike, and go on alike -/
def cl_both (M6 M7 : pm_M) (as : List Value) (h : pm_H) : Prop := pm_R 50 M6 0 (pm_en M6 (.ref 0 :: as)) [] h (fun v h1 => ∃ r : Int32, v = some (.int r) ∧ pm_R 50 M7 0 (pm_en M7 (.ref 66 :: as)) [] h1 (fun v' h2 => v' = some (.int r) ∧ zRel h2))
def cl_W (D : va_G) (cI cT cS : ClassId) (σ : Nat → Nat) (s : State) : Prop := (∀ i j, i < 92 → j < 92 → σ i = σ j → i = j) ∧ (∀ k, k < 92 → s.heap.size ≤ σ k) ∧ pm_G σ (pm_A σ 92 s.heap.size) s s.heap ∧ va_K D vwCl (pm_tys cI cT cS) s
theorem cl_c5 : ∀ j, j < 6 → Int32.ofInt (Int.ofNat j) = nI j := by decide +kernel
theorem cl_c1 (f : Nat → Int32) : ∀ l : List Nat, pm_c1 (l.map (fun j => Value.int (f j))) = true
  | [] => rfl
  | _ :: l => cl_c1 f l
theorem cl_ev (σ : Nat → Nat) (f : Nat → Int32) (l : List Nat) : (l.map (fun j => Value.int (f j))).map (pm_ev σ) = l.map (fun j => Value.int (f j)) := by
  rw [List.map_map]; rfl
section
variable {p : Program} {l : Launch} {e : Env} {s : State} {m : MethodId} {below : List Frame} {meth : Method} {c : Code} {b L : Nat} {xs : Nat → Int32} {H : Heap} {locs : List Loc} {Q : State → Prop} {D : va_G} {cI cT cS : ClassId} {σ : Nat → Nat} {ls : Array Slot} {st : List Value} {pc : Nat}
theorem cl_nb (C0 : lw_At p s m meth c b L xs) (W0 : cl_W D cI cT cS σ s) : ¬ pm_A σ 92 s.heap.size b := by
  intro h
  have hb := C0.2.2.2.2.2.2.2.1
  rcases h with ⟨k, hk, rfl⟩ | h
  · have := W0.2.1 k hk; omega
  · omega
theorem cl_arg (C0 : lw_At p s m meth c b L xs) (W0 : cl_W D cI cT cS σ s) (hL : L ≤ 384) (hS : va_S (pm_A σ 92 s.heap.size) s.heap H locs) {i j x0 x1 : Nat} (hl : lv_has ls 4 [(0, .ref b), (1, .ref x0), (2, .ref x1), (3, .int (nI i))]) (hp : cl_pat pc j) (hij : i + j < L) (hj : j < 6)
    (kk : W p l e room_1 s m #[Value.ref b] below meth c H locs 600000 7302250 Q (F0 m (pc + 5) ls (.int (xs (i + j)) :: st))) : W p l e room_1 s m #[Value.ref b] below meth c H locs 600000 7302250 Q (F0 m pc ls st) := by
  obtain ⟨hx, hb, hr, hml, hown, hts, hX, hbl, hlocks, hgv⟩ := id C0
  obtain ⟨p0, p1, p2, p3, p4⟩ := hp
  refine lv_aload_n hx hb (k := 0) (i := 0) (x := b) (cl_de p0 rfl) rfl (lv_at hl 0 rfl) ?_
  refine lv_iload_n hx hb (k := 3) (i := 3) (x := nI i) (cl_de p1 rfl) rfl (lv_at hl 3 rfl) ?_
  refine lv_iconst hx hb (n := Int.ofNat j) (v := nI j) (cl_de p2 rfl) (cl_c5 j hj) ?_
  refine lv_iadd hx hb (cl_de p3 rfl) ?_
  rw [nI_add]
  refine va_sld hx hb hX hbl (cl_nb C0 W0) hS (vp_in_nI hij (by omega)) (cl_de p4 rfl) ?_
  rw [nI_clamp (by omega)]
  exact kk
theorem cl_args (C0 : lw_At p s m meth c b L xs) (W0 : cl_W D cI cT cS σ s) (hL : L ≤ 384) (hS : va_S (pm_A σ 92 s.heap.size) s.heap H locs) {i x0 x1 : Nat} (hl : lv_has ls 4 [(0, .ref b), (1, .ref x0), (2, .ref x1), (3, .int (nI i))]) (hi : i + 5 < L) :
    ∀ n, n ≤ 5 → (∀ j, j < n → cl_pat (pc + 5 * j) (j + 1)) → W p l e room_1 s m #[Value.ref b] below meth c H locs 600000 7302250 Q (F0 m (pc + 5 * n) ls (((List.range n).map (fun j => Value.int (xs (i + (j + 1))))).reverse ++ st)) → W p l e room_1 s m #[Value.ref b] below meth c H locs 600000 7302250 Q (F0 m pc ls st)
  | 0, _, _, kk => kk
  | n + 1, hn, hp, kk => by
    refine cl_args C0 W0 hL hS hl hi n (by omega) (fun j hj => hp j (by omega)) ?_
    refine cl_arg C0 W0 hL hS hl (hp n (by omega)) (by omega) (by omega) ?_
    rw [List.range_succ, List.map_append, List.reverse_append] at kk
    exact kk
/-- a call of the class's or the reference's -/
theorem cl_call (C0 : lw_At p s m meth c b L xs) (W0 : cl_W D cI cT cS σ s) {idx n o : Nat} {M' : pm_M} {as : List Value} {h : pm_H} {Qp : Option Value → pm_H → Prop} (hok : cl_ok idx M' n) (hR : pm_R 50 M' 0 (pm_en M' (.ref o :: as)) [] h Qp) (hc1 : pm_c1 as = true) (hlen : as.length = n) (ho : o < 92) (ht : pm_tag o = M'.1) (hle : n + 1 ≤ M'.2.1) (hbd : pm_bd M'.1 ≤ 92)
    (hP : va_P D vwCl (pm_ws σ cI cT cS 92 h) H) (hS : va_S (pm_A σ 92 s.heap.size) s.heap H locs) (hls : ls.size = 4) (hst : (st.map fun v => v.category).sum ≤ 8) (hdg : pm_look cl_code pc = some (.invokevirtual idx))
    (kk : ∀ (v : Option Value) (h' : pm_H) (H1 : Heap) (locs1 : List Loc), Qp v h' → va_P D vwCl (pm_ws σ cI cT cS 92 h') H1 → va_S (pm_A σ 92 s.heap.size) s.heap H1 locs1 → W p l e room_1 s m #[Value.ref b] below meth c H1 locs1 600000 7302250 Q (F0 m (pc + 3) ls ((v.map (pm_ev σ)).toList ++ st))) :
    W p l e room_1 s m #[Value.ref b] below meth c H locs 600000 7302250 Q (F0 m pc ls ((as.map (pm_ev σ)).reverse ++ .ref (σ o) :: st)) := by
  obtain ⟨hx, hb, hr, hml, hown, hts, hX, hbl, hlocks, hgv⟩ := id C0
  obtain ⟨hj, hσ, hGs, hK⟩ := W0
  have hw : ∀ w ∈ pm_w, w.before #[Value.ref b] s = true := fun w h => hts w (List.mem_filter.mp h).1
  obtain ⟨y, cc, ret, hI, w1, w2, w3, w4, w5⟩ := hok
  obtain ⟨T, NN, hvw⟩ := pm_vw M'.1 w5
  obtain ⟨k, hk⟩ := hR
  have hM := pm_met (l := l) (D := D) (cI := cI) (cT := cT) (cS := cS) hj (pm_go_all hj k) (as := .ref o :: as) hI hc1 (by rw [List.length_cons, hlen]; exact hle) hbd hk H.size
  have he : (pm_ws σ cI cT cS 92 h)[o]? = some (σ o, .inr (M'.1, (List.range NN).map (pm_fw σ h M'.1 o))) := by
    rw [pm_ws_get ho, pm_ce_obj ht hvw]
  have hcw := cwV (R := room_1) (own := R_law) (index := idx) (C := y.cls) (y := y) (bytes := cc) (maxL := M'.2.1) (ret := ret) (rm := pm_rm 50) (mc := 0) (ms := 0) n hw (pm_good (ws := wsV R_law idx y.cls y (pm_W0 M' y cc ret)) (fun w hw => by
    rcases List.mem_append.mp hw with hw | hw
    · simp only [List.mem_cons, List.not_mem_nil, or_false] at hw
      rcases hw with rfl | rfl | rfl | rfl
      · exact w1
      · exact w2
      · exact w3
      · exact hI.2.2.2.1
    · rcases List.mem_cons.mp hw with rfl | hw
      · exact hI.2.2.1
      · exact hw)) rfl rfl rfl ⟨rfl, hI.2.1.2.2.1, hI.2.1.2.2.2, w4⟩ ⟨by show 50 + 6 + 1 ≤ 2048; omega, by have := hI.2.2.2.2.2; show 8 + (M'.2.1 + 11) + (40 * 50 + 300) ≤ 84000; omega⟩
  have hrun := va_runV (l := l) (e := e) (below := below) (meth := meth) (locs := locs) (cells := 600000) (slots := 7302250) (As := as.map (pm_ev σ)) (rest := st) (b := σ o) (g := F0 m pc ls ((as.map (pm_ev σ)).reverse ++ .ref (σ o) :: st)) ⟨hx, hb, hml, hown, hw⟩ hM hcw ⟨pm_blind, by
      have := va_recv hK hP hvw he
      rw [hI.2.1.2.1]
      exact this, fun U hU hW => pm_Kpre (as := .ref o :: as) hGs hS hK hP hU hW⟩ rfl (by simp [hlen]) hls rfl (lv_room hst) (cl_de hdg rfl) ⟨Nat.le_refl _, Nat.le_refl _⟩
  exact pm_cont hrun hS (fun q hq => pm_A_le hS.1 hq) kk
/-- a case of the law's switch -/
theorem cl_case (C0 : lw_At p s m meth c b L xs) (hL : L ≤ 384) (W0 : cl_W D cI cT cS σ s) {i n pc0 i6 i7 : Nat} {off : Int} {M6 M7 : pm_M} {h : pm_H} (hi : i + 5 < L) (hf : cl_fact n pc0 i6 i7 off) (k6 : cl_ok i6 M6 n) (k7 : cl_ok i7 M7 n) (hM : M6.1 = 6 ∧ M7.1 = 7 ∧ n + 1 ≤ M6.2.1 ∧ n + 1 ≤ M7.2.1) (hb2 : ∀ (f : Nat → Int32) (h : pm_H), zRel h → cl_both M6 M7 ((List.range n).map (fun j => Value.int (f (j + 1)))) h)
    (hl : lv_has ls 4 [(0, .ref b), (1, .ref (σ 0)), (2, .ref (σ 66)), (3, .int (nI i))]) (HR : zRel h) (hP : va_P D vwCl (pm_ws σ cI cT cS 92 h) H) (hS : va_S (pm_A σ 92 s.heap.size) s.heap H locs)
    (kk : ∀ (h' : pm_H) (H1 : Heap) (locs1 : List Loc), zRel h' → va_P D vwCl (pm_ws σ cI cT cS 92 h') H1 → va_S (pm_A σ 92 s.heap.size) s.heap H1 locs1 → W p l e room_1 s m #[Value.ref b] below meth c H1 locs1 600000 7302250 Q (F0 m 954 ls [])) :
    W p l e room_1 s m #[Value.ref b] below meth c H locs 600000 7302250 Q (F0 m pc0 ls []) := by
  obtain ⟨f1, f2, f3, f4, f5, f6, f7, f8, f9⟩ := hf
  obtain ⟨m1, m2, m3, m4⟩ := hM
  obtain ⟨hx, hb, -⟩ := id C0
  have hB := hb2 (fun k => xs (i + k)) h HR
  have ev := cl_ev σ (fun j => xs (i + (j + 1))) (List.range n)
  have hc := cl_c1 (fun j => xs (i + (j + 1))) (List.range n)
  refine lv_aload_n hx hb (k := 1) (i := 1) (x := σ 0) (cl_de f1 rfl) rfl (lv_at hl 1 rfl) ?_
  refine cl_args C0 W0 hL hS hl hi n f9 f2 ?_
  rw [← ev]
  refine cl_call C0 W0 (o := 0) k6 hB hc (by simp) (by decide) (by rw [m1]; decide) m3 (by rw [m1]; decide) hP hS hl.1 (by decide) f3 (fun v h1 H1 locs1 hq hP1 hS1 => ?_)
  obtain ⟨r, rfl, hq⟩ := hq
  show W p l e room_1 s m #[Value.ref b] below meth c H1 locs1 600000 7302250 Q (F0 m (pc0 + 1 + 5 * n + 3) ls [.int r])
  refine lv_aload_n hx hb (k := 2) (i := 2) (x := σ 66) (cl_de f4 rfl) rfl (lv_at hl 2 rfl) ?_
  refine cl_args C0 W0 hL hS1 hl hi n f9 f5 ?_
  rw [← ev]
  refine cl_call C0 W0 (o := 66) k7 hq hc (by simp) (by decide) (by rw [m2]; decide) m4 (by rw [m2]; decide) hP1 hS1 hl.1 (Nat.le_of_ble_eq_true rfl) f6 (fun v h2 H2 locs2 hq2 hP2 hS2 => ?_)
  obtain ⟨rfl, HR2⟩ := hq2
  show W p l e room_1 s m #[Value.ref b] below meth c H2 locs2 600000 7302250 Q (F0 m (pc0 + 1 + 5 * n + 3 + 1 + 5 * n + 3) ls [.int r, .int r])
  refine lv_icmp_eq hx hb (tgt := 954) (cl_de f7 rfl) f8 (fun _ => ?_) (fun q => absurd rfl q)
  exact kk h2 H2 locs2 HR2 hP2 hS2
end
