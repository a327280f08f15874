/-! MATHEMATICS, 76: the class reads: its pieces -/
theorem zSi_n {x : Int32} (c : zSi x) {j : Nat} (hj : j < 12) : x ≠ nI j := by
  intro q
  rcases c with rfl | rfl | rfl | rfl | rfl | rfl | rfl | rfl
  · rw [show (40 : Int32) = nI 40 by decide] at q; have := (nI_eq (by omega) (by omega)).mp q; omega
  · rw [show (41 : Int32) = nI 41 by decide] at q; have := (nI_eq (by omega) (by omega)).mp q; omega
  · rw [show (42 : Int32) = nI 42 by decide] at q; have := (nI_eq (by omega) (by omega)).mp q; omega
  · rw [show (43 : Int32) = nI 43 by decide] at q; have := (nI_eq (by omega) (by omega)).mp q; omega
  · rw [show (45 : Int32) = nI 45 by decide] at q; have := (nI_eq (by omega) (by omega)).mp q; omega
  · rw [show (59 : Int32) = nI 59 by decide] at q; have := (nI_eq (by omega) (by omega)).mp q; omega
  · rw [show (60 : Int32) = nI 60 by decide] at q; have := (nI_eq (by omega) (by omega)).mp q; omega
  · rw [show (61 : Int32) = nI 61 by decide] at q; have := (nI_eq (by omega) (by omega)).mp q; omega
section
variable {h : pm_H} {n : Nat} {l : zLs}
theorem zTk_w (H : zTk h n l) {k : Nat} (hk : k < 6) : h 34 4 = nI (4 + k) ↔ zWi l k := by
  obtain ⟨-, -, -, H⟩ := H
  rcases H with ⟨t, e⟩ | ⟨t, e⟩ | ⟨t, e, -⟩ | ⟨t, k', e, q⟩ | ⟨t, s, e⟩
  · rw [e, zb_c0]; exact ⟨fun q => by have := (nI_eq (by omega) (by omega)).mp q; omega, fun q => by have := q.1; omega⟩
  · rw [e, zb_c1]; exact ⟨fun q => by have := (nI_eq (by omega) (by omega)).mp q; omega, fun q => by have := q.1; omega⟩
  · rw [e, show (2 : Int32) = nI 2 by decide]; exact ⟨fun q => by have := (nI_eq (by omega) (by omega)).mp q; omega, fun q => by have := q.1; omega⟩
  · rcases q with ⟨q1, q2⟩ | ⟨q1, q2, q3, -⟩ | ⟨q1, q2⟩
    · rw [q2]
      refine ⟨fun q => ⟨t, by have := (nI_eq (by omega) (by omega)).mp q; rw [e]; congr 1; omega⟩, fun q => ?_⟩
      have := q.2
      rw [e] at this
      rw [(nI_eq (by omega) (by omega)).mp this]
    · rw [q3, show (3 : Int32) = nI 3 by decide]
      refine ⟨fun q => by have := (nI_eq (by omega) (by omega)).mp q; omega, fun q => ?_⟩
      have := q.2
      rw [e] at this
      have := (nI_eq (by omega) (by omega)).mp this
      omega
    · rw [q2, zb_c1]
      refine ⟨fun q => by have := (nI_eq (by omega) (by omega)).mp q; omega, fun q => ?_⟩
      have := q.2
      rw [e] at this
      have := (nI_eq (by omega) (by omega)).mp this
      omega
  · rw [e]; exact ⟨fun q => absurd q (zSi_n s (by omega)), fun q => by have := q.1; omega⟩
theorem zTk_s (H : zTk h n l) {x : Int32} (hx : zSi x) : h 34 4 = x ↔ zSn l x := by
  obtain ⟨-, -, -, H⟩ := H
  rcases H with ⟨t, e⟩ | ⟨t, e⟩ | ⟨t, e, -⟩ | ⟨t, k', e, q⟩ | ⟨t, s, e⟩
  · rw [e, zb_c0]; exact ⟨fun q => absurd q.symm (zSi_n hx (by omega)), fun q => by have := q.1; omega⟩
  · rw [e, zb_c1]; exact ⟨fun q => absurd q.symm (zSi_n hx (by omega)), fun q => by have := q.1; omega⟩
  · rw [e, show (2 : Int32) = nI 2 by decide]; exact ⟨fun q => absurd q.symm (zSi_n hx (by omega)), fun q => by have := q.1; omega⟩
  · rcases q with ⟨q1, q2⟩ | ⟨q1, q2, q3, -⟩ | ⟨q1, q2⟩
    · rw [q2]; exact ⟨fun q => absurd q.symm (zSi_n hx (by omega)), fun q => by have := q.1; omega⟩
    · rw [q3, show (3 : Int32) = nI 3 by decide]; exact ⟨fun q => absurd q.symm (zSi_n hx (by omega)), fun q => by have := q.1; omega⟩
    · rw [q2, zb_c1]; exact ⟨fun q => absurd q.symm (zSi_n hx (by omega)), fun q => by have := q.1; omega⟩
  · rw [e]; exact ⟨fun q => ⟨t, q⟩, fun q => q.2⟩
theorem zTk_2 (H : zTk h n l) : (h 34 4 = 2 ↔ l.2.2.1 = 2) ∧ (l.2.2.1 = 2 → h 34 6 = l.2.2.2) := by
  obtain ⟨-, -, -, H⟩ := H
  rw [show (2 : Int32) = nI 2 by decide]
  rcases H with ⟨t, e⟩ | ⟨t, e⟩ | ⟨t, e, e6⟩ | ⟨t, k', e, q⟩ | ⟨t, s, e⟩
  · rw [e, zb_c0]; exact ⟨⟨fun q => by have := (nI_eq (by omega) (by omega)).mp q; omega, fun q => by omega⟩, fun q => by omega⟩
  · rw [e, zb_c1]; exact ⟨⟨fun q => by have := (nI_eq (by omega) (by omega)).mp q; omega, fun q => by omega⟩, fun q => by omega⟩
  · exact ⟨⟨fun _ => t, fun _ => by rw [e]; decide⟩, fun _ => e6⟩
  · rcases q with ⟨q1, q2⟩ | ⟨q1, q2, q3, -⟩ | ⟨q1, q2⟩
    · rw [q2]; exact ⟨⟨fun q => by have := (nI_eq (by omega) (by omega)).mp q; omega, fun q => by omega⟩, fun q => by omega⟩
    · rw [q3, show (3 : Int32) = nI 3 by decide]; exact ⟨⟨fun q => by have := (nI_eq (by omega) (by omega)).mp q; omega, fun q => by omega⟩, fun q => by omega⟩
    · rw [q2, zb_c1]; exact ⟨⟨fun q => by have := (nI_eq (by omega) (by omega)).mp q; omega, fun q => by omega⟩, fun q => by omega⟩
  · rw [e]; exact ⟨⟨fun q => absurd q (zSi_n s (by omega)), fun q => by omega⟩, fun q => by omega⟩
theorem zTk_3 (H : zTk h n l) : (h 34 4 = 3 ↔ (l.2.2.1 = 3 ∧ 6 ≤ l.2.2.2.toNatClampNeg ∧ l.2.2.2.toNatClampNeg < 12)) ∧ ((l.2.2.1 = 3 ∧ 6 ≤ l.2.2.2.toNatClampNeg ∧ l.2.2.2.toNatClampNeg < 12) → h 34 6 = l.2.2.2 - 6) := by
  obtain ⟨-, -, -, H⟩ := H
  rw [show (3 : Int32) = nI 3 by decide]
  rcases H with ⟨t, e⟩ | ⟨t, e⟩ | ⟨t, e, e6⟩ | ⟨t, k', e, q⟩ | ⟨t, s, e⟩
  · rw [e, zb_c0]; exact ⟨⟨fun q => by have := (nI_eq (by omega) (by omega)).mp q; omega, fun q => by omega⟩, fun q => by omega⟩
  · rw [e, zb_c1]; exact ⟨⟨fun q => by have := (nI_eq (by omega) (by omega)).mp q; omega, fun q => by omega⟩, fun q => by omega⟩
  · rw [e, show (2 : Int32) = nI 2 by decide]; exact ⟨⟨fun q => by have := (nI_eq (by omega) (by omega)).mp q; omega, fun q => by omega⟩, fun q => by omega⟩
  · rcases q with ⟨q1, q2⟩ | ⟨q1, q2, q3, q4⟩ | ⟨q1, q2⟩
    · rw [q2, e, nI_clamp (by omega)]; exact ⟨⟨fun q => by have := (nI_eq (by omega) (by omega)).mp q; omega, fun q => by omega⟩, fun q => by omega⟩
    · rw [q3, e, nI_clamp (by omega)]
      exact ⟨⟨fun _ => ⟨t, q1, q2⟩, fun _ => by decide⟩, fun _ => by rw [q4, show (6 : Int32) = nI 6 by decide, nI_sub q1 (by omega)]⟩
    · rw [q2, zb_c1, e, nI_clamp (by omega)]; exact ⟨⟨fun q => by have := (nI_eq (by omega) (by omega)).mp q; omega, fun q => by omega⟩, fun q => by omega⟩
  · rw [e]; exact ⟨⟨fun q => absurd q (zSi_n s (by omega)), fun q => by omega⟩, fun q => by omega⟩
end
/-- the class reads: where it stands; where it stands behind a fault -/
def zCa (T : Nat → Int32) (n tc : Nat) (l : zLs) (m : Nat) (h : pm_H) : Prop := h 35 = T ∧ zTk h n l ∧ h 34 2 = nI (40 + 3 * tc) ∧ h (40 + 3 * tc) 2 = nI m ∧ h 34 7 = -1
def zCp (n tc p : Nat) (h : pm_H) : Prop := h 34 0 = nI n ∧ h 34 2 = nI (40 + 3 * tc) ∧ h 34 4 = 1 ∧ h 34 7 = nI p ∧ ∃ m, m ≤ 160 ∧ h (40 + 3 * tc) 2 = nI m
def zCf (tc : Nat) (h h' : pm_H) : Prop := (∀ o, o ≠ 34 → o ≠ 40 + 3 * tc → o ≠ 40 + 3 * tc + 1 → h' o = h o) ∧ (∀ j, (j < 3 ∨ 7 < j) → h' 34 j = h 34 j) ∧ (∀ j, j ≠ 2 → h' (40 + 3 * tc) j = h (40 + 3 * tc) j)
def zCb (T : Nat → Int32) (n tc : Nat) (b : Bool) (l : zLs) (c : List Int32) (m : Nat) (h h' : pm_H) : Prop := zCf tc h h' ∧ (b = true → zCa T n tc l (m + c.length) h' ∧ (∀ j, j < m → h' (40 + 3 * tc + 1) j = h (40 + 3 * tc + 1) j) ∧ ∀ i, i < c.length → h' (40 + 3 * tc + 1) (m + i) = c.getD i 0) ∧ (b = false → zCp n tc l.1 h')
section
variable {T : Nat → Int32} {n tc : Nat} {l l' : zLs} {m p : Nat} {h h1 h2 : pm_H}
theorem zCf_r : zCf tc h h := ⟨fun _ _ _ _ => rfl, fun _ _ => rfl, fun _ _ => rfl⟩
theorem zCf_t (H1 : zCf tc h h1) (H2 : zCf tc h1 h2) : zCf tc h h2 :=
  ⟨fun a p q r => (H2.1 a p q r).trans (H1.1 a p q r), fun j hj => (H2.2.1 j hj).trans (H1.2.1 j hj), fun j hj => (H2.2.2 j hj).trans (H1.2.2 j hj)⟩
theorem zCb_t {b : Bool} {c1 c2 : List Int32} (H1 : zCb T n tc true l c1 m h h1) (H2 : zCb T n tc b l' c2 (m + c1.length) h1 h2) : zCb T n tc b l' (c1 ++ c2) m h h2 := by
  obtain ⟨f1, q1, -⟩ := H1
  obtain ⟨f2, q2, r2⟩ := H2
  refine ⟨zCf_t f1 f2, fun hb => ?_, r2⟩
  obtain ⟨a2, k2, e2⟩ := q2 hb
  obtain ⟨a1, k1, e1⟩ := q1 rfl
  refine ⟨by rw [List.length_append, ← Nat.add_assoc]; exact a2, fun j hj => by rw [k2 j (by omega), k1 j hj], fun i hi => ?_⟩
  by_cases ci : i < c1.length
  · rw [k2 _ (by omega), e1 i ci]
    simp only [List.getD_eq_getElem?_getD, List.getElem?_append_left ci]
  · rw [List.length_append] at hi
    have := e2 (i - c1.length) (by omega)
    rw [show m + c1.length + (i - c1.length) = m + i by omega] at this
    rw [this]
    simp only [List.getD_eq_getElem?_getD, List.getElem?_append_right (Nat.le_of_not_lt ci)]
theorem zCb_f {c c' : List Int32} {m' : Nat} (H : zCb T n tc false l c m h h1) : zCb T n tc false l c' m' h h1 := ⟨H.1, fun q => absurd q (by decide), H.2.2⟩
theorem zCb_p {c : List Int32} (f : zCf tc h h1) (H : zCp n tc l.1 h1) : zCb T n tc false l c m h h1 := ⟨f, fun q => absurd q (by decide), fun _ => H⟩
theorem zCa_0 (H : zCa T n tc l m h) : zCb T n tc true l [] m h h := ⟨zCf_r, fun _ => ⟨H, fun _ _ => rfl, fun i hi => absurd hi (by simp)⟩, fun q => absurd q (by decide)⟩
theorem sp_n {Q : pm_H → Prop} (hn : n ≤ 160) (ht : tc < 6) (v : zLv n l) (H : zCa T n tc l m h) (hQ : ∀ h', zCb T n tc true (zLx T n l.2.1) [] m h h' → zCa T n tc (zLx T n l.2.1) m h' → Q h') : wp_X0_advance h Q := by
  obtain ⟨t0, t1, t2, t3, t4⟩ := H
  refine sp_advance hn v.2.1 t1.1 t1.2.1 (fun h' f f6 z => ?_)
  rw [t0] at z
  have A : zCa T n tc (zLx T n l.2.1) m h' := ⟨by rw [f 35 (by omega)]; exact t0, z, by rw [f6 2 (by omega) (by omega) (by omega) (by omega)]; exact t2, by rw [f _ (by omega)]; exact t3, by rw [f6 7 (by omega) (by omega) (by omega) (by omega)]; exact t4⟩
  exact hQ h' ⟨⟨fun a p _ _ => f a p, fun j hj => f6 j (by omega) (by omega) (by omega) (by omega), fun j hj => by rw [f _ (by omega)]⟩, fun _ => ⟨A, fun j _ => by rw [f _ (by omega)], fun i hi => absurd hi (by simp)⟩, fun q => absurd q (by decide)⟩ A
theorem sp_w {Q : pm_H → Prop} {w : Int32} (ht : tc < 6) (hm : m < 160) (H : zCa T n tc l m h) (hQ : ∀ h', zCb T n tc true l [w] m h h' → zCa T n tc l (m + 1) h' → Q h') : pm_ob (pm_dec (h 34 2)) (fun t => pm_ib (pm_at 0 t 4) (wp_X4_add t w h Q)) := by
  obtain ⟨t0, t1, t2, t3, t4⟩ := H
  rw [t2, zt_dec ht]
  show pm_ib (pm_at 0 (40 + 3 * tc) 4) _
  rw [zb_ib (zt_at ht).1]
  refine sp_padd ht (by omega) t3 (fun _ => hQ _ ?_ ?_) (fun q => by omega)
  all_goals
    have A : zCa T n tc l (m + 1) (pm_u (pm_u h (40 + 3 * tc + 1) m w) (40 + 3 * tc) 2 (nI (m + 1))) := by
      refine ⟨by rw [zb_un (by omega), zb_un (by omega)]; exact t0, ?_, by rw [zb_un (by omega), zb_un (by omega)]; exact t2, zb_us, by rw [zb_un (by omega), zb_un (by omega)]; exact t4⟩
      unfold zTk
      rw [zb_un (o := 40 + 3 * tc) (o' := 34) (by omega), zb_un (by omega)]
      exact t1
  · refine ⟨⟨fun a p q r => by rw [zb_un q, zb_un r], fun j hj => by rw [zb_un (by omega), zb_un (by omega)], fun j hj => by rw [zb_uj hj, zb_un (by omega)]⟩, fun _ => ⟨A, fun j hj => by rw [zb_un (by omega), zb_uj (by omega)], fun i hi => ?_⟩, fun q => absurd q (by decide)⟩
    simp only [List.length_singleton] at hi
    have : i = 0 := by omega
    subst this
    rw [show m + 0 = m from rfl, zb_un (by omega), zb_us]; rfl
  · exact A
/-- behind a fault: refused again, written again -/
theorem sp_rp {Q : pm_H → Prop} (ht : tc < 6) (hp : p ≤ 160) (H : zCp n tc p h) (hQ : ∀ h', zCf tc h h' → zCp n tc p h' → Q h') : wp_X0_refuse h Q := by
  obtain ⟨t0, t1, t2, t3, mm, t4, t5⟩ := H
  refine sp_refuse (fun h' f f6 e4 e7 e7' => hQ h' ⟨fun a p _ _ => f a p, fun j hj => f6 j (by omega) (by omega), fun j _ => by rw [f _ (by omega)]⟩ ⟨by rw [f6 0 (by omega) (by omega)]; exact t0, by rw [f6 2 (by omega) (by omega)]; exact t1, e4, ?_, mm, t4, by rw [f _ (by omega)]; exact t5⟩)
  rw [e7' (by rw [t3]; exact nI_m1 (by omega))]; exact t3
theorem sp_wpo {Q : pm_H → Prop} {w : Int32} (ht : tc < 6) (H : zCp n tc p h) (hQ : ∀ h', zCf tc h h' → zCp n tc p h' → Q h') : pm_ob (pm_dec (h 34 2)) (fun t => pm_ib (pm_at 0 t 4) (wp_X4_add t w h Q)) := by
  obtain ⟨t0, t1, t2, t3, mm, t4, t5⟩ := id H
  rw [t1, zt_dec ht]
  show pm_ib (pm_at 0 (40 + 3 * tc) 4) _
  rw [zb_ib (zt_at ht).1]
  refine sp_padd ht t4 t5 (fun hmm => hQ _ ?_ ?_) (fun _ => hQ h zCf_r H)
  · exact ⟨fun a p q r => by rw [zb_un q, zb_un r], fun j hj => by rw [zb_un (by omega), zb_un (by omega)], fun j hj => by rw [zb_uj hj, zb_un (by omega)]⟩
  · exact ⟨by rw [zb_un (by omega), zb_un (by omega)]; exact t0, by rw [zb_un (by omega), zb_un (by omega)]; exact t1, by rw [zb_un (by omega), zb_un (by omega)]; exact t2, by rw [zb_un (by omega), zb_un (by omega)]; exact t3, mm + 1, by omega, zb_us⟩
/-- refused at the token l -/
theorem sp_ra {Q : pm_H → Prop} (ht : tc < 6) (hm : m ≤ 160) (H : zCa T n tc l m h) (hQ : ∀ h', zCf tc h h' → zCp n tc l.1 h' → Q h') : wp_X0_refuse h Q := by
  obtain ⟨t0, t1, t2, t3, t4⟩ := H
  refine sp_refuse (fun h' f f6 e4 e7 e7' => hQ h' ⟨fun a p _ _ => f a p, fun j hj => f6 j (by omega) (by omega), fun j _ => by rw [f _ (by omega)]⟩ ⟨by rw [f6 0 (by omega) (by omega)]; exact t1.1, by rw [f6 2 (by omega) (by omega)]; exact t2, e4, ?_, m, hm, by rw [f _ (by omega)]; exact t3⟩)
  rw [e7 t4]; exact t1.2.2.1
end
