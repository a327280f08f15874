/-! MATHEMATICS, 52: the orders of rows -/
def rSw (L : List Nat) (a b : Nat) : List Nat := (L.set a (L.getD b 0)).set b (L.getD a 0)
def rI (L : List Nat) : Nat → Nat
  | 0 => 0
  | k + 1 => if L.getD (k + 1) 0 < L.getD k 0 then rI L k else k + 1
def rJ (L : List Nat) (i : Nat) : Nat → Nat
  | 0 => 0
  | a + 1 => if i + 1 < a + 1 ∧ L.getD (a + 1) 0 < L.getD i 0 then rJ L i a else a + 1
def rV : Nat → List Nat → Nat → Nat → List Nat
  | 0, L, _, _ => L
  | m + 1, L, a, b => if a < b then rV m (rSw L a b) (a + 1) (b - 1) else L
def rX (n : Nat) (L : List Nat) : Option (List Nat) := if rI L (n - 1) = 0 then none else some (rV 5 (rSw L (rI L (n - 1) - 1) (rJ L (rI L (n - 1) - 1) (n - 1))) (rI L (n - 1)) (n - 1))
/-- all rows from L on -/
def rAll (n : Nat) : Nat → List Nat → List (List Nat)
  | 0, _ => []
  | m + 1, L => L :: (match rX n L with | none => [] | some L' => rAll n m L')
def rFst (n : Nat) : List Nat := List.range n
/-- the rows end within m, each is one of n numbers below n -/
def rEnd (n : Nat) : Nat → List Nat → Bool
  | 0, _ => false
  | m + 1, L => Nat.beq L.length n && L.all (fun x => Nat.blt x n) && (match rX n L with | none => true | some L' => rEnd n m L')
/-- the row with b and c changed came before, where b's was the greater -/
def rLk (n : Nat) : List (List Nat) → List (List Nat) → Bool
  | _, [] => true
  | pre, L :: rs => (List.range n).all (fun c => (List.range c).all (fun b => !(Nat.blt (L.getD c 0) (L.getD b 0)) || pre.elem (rSw L b c))) && rLk n (L :: pre) rs
theorem rEnd_ok : ∀ n, n < 6 → rEnd n 120 (rFst n) = true := by decide +kernel
set_option maxRecDepth 100000 in
theorem rLk_ok : ∀ n, n < 6 → rLk n [] (rAll n 120 (rFst n)) = true := by decide +kernel
theorem rLk_get {n : Nat} : ∀ {pre rs : List (List Nat)} {L : List Nat}, rLk n pre (L :: rs) = true → ∀ b c, b < c → c < n → L.getD c 0 < L.getD b 0 → rSw L b c ∈ pre := by
  intro pre rs L h b c hb hc hl
  unfold rLk at h
  rw [Bool.and_eq_true, List.all_eq_true] at h
  have h1 := h.1 c (List.mem_range.mpr hc)
  rw [List.all_eq_true] at h1
  have h2 := h1 b (List.mem_range.mpr hb)
  rw [Bool.or_eq_true] at h2
  rcases h2 with h2 | h2
  · have : Nat.blt (L.getD c 0) (L.getD b 0) = true := Nat.blt_eq.mpr hl
    rw [this] at h2
    cases h2
  · exact List.elem_iff.mp h2
theorem rLk_next {n : Nat} {pre rs : List (List Nat)} {L : List Nat} (h : rLk n pre (L :: rs) = true) : rLk n (L :: pre) rs = true := by
  unfold rLk at h
  rw [Bool.and_eq_true] at h
  exact h.2
theorem rEnd_get {n m : Nat} {L : List Nat} (h : rEnd n (m + 1) L = true) : L.length = n ∧ (∀ c, c < n → L.getD c 0 < n) ∧ (∀ L', rX n L = some L' → rEnd n m L' = true) := by
  unfold rEnd at h
  rw [Bool.and_eq_true, Bool.and_eq_true, List.all_eq_true] at h
  obtain ⟨⟨h1, h2⟩, h3⟩ := h
  have hl := Nat.eq_of_beq_eq_true h1
  refine ⟨hl, fun c hc => ?_, fun L' e => by rw [e] at h3; exact h3⟩
  have hm : L.getD c 0 ∈ L := by
    rw [List.getD_eq_getElem?_getD, List.getElem?_eq_getElem (by omega)]
    exact List.getElem_mem (by omega)
  exact Nat.blt_eq.mp (h2 _ hm)
theorem rSw_len {L : List Nat} {a b : Nat} : (rSw L a b).length = L.length := by unfold rSw; simp
theorem rSw_get {L : List Nat} {a b c : Nat} (ha : a < L.length) (hb : b < L.length) : (rSw L a b).getD c 0 = if c = b then L.getD a 0 else if c = a then L.getD b 0 else L.getD c 0 := by
  unfold rSw
  simp only [List.getD_eq_getElem?_getD, List.getElem?_set, List.length_set]
  by_cases h1 : c = b
  · subst h1
    rw [if_pos rfl, if_pos rfl, if_pos hb]
    rfl
  · rw [if_neg (show ¬ b = c from fun q => h1 q.symm), if_neg h1]
    by_cases h2 : c = a
    · subst h2
      rw [if_pos rfl, if_pos rfl, if_pos ha]
      rfl
    · rw [if_neg (show ¬ a = c from fun q => h2 q.symm), if_neg h2]
theorem rI_ok {L : List Nat} : ∀ {k j : Nat}, rI L k = j + 1 → j < k ∧ ¬ L.getD (j + 1) 0 < L.getD j 0
  | 0, j, h => by cases h
  | k + 1, j, h => by
    unfold rI at h
    by_cases c : L.getD (k + 1) 0 < L.getD k 0
    · rw [if_pos c] at h
      have := rI_ok h
      exact ⟨by omega, this.2⟩
    · rw [if_neg c] at h
      have : j = k := by omega
      subst this
      exact ⟨by omega, c⟩
theorem rI_le {L : List Nat} : ∀ {k : Nat}, rI L k ≤ k
  | 0 => Nat.le_refl _
  | k + 1 => by
    unfold rI
    by_cases c : L.getD (k + 1) 0 < L.getD k 0
    · rw [if_pos c]; have := rI_le (L := L) (k := k); omega
    · rw [if_neg c]; omega
theorem rJ_le {L : List Nat} {i : Nat} : ∀ {a : Nat}, rJ L i a ≤ a
  | 0 => Nat.le_refl _
  | a + 1 => by
    unfold rJ
    by_cases c : i + 1 < a + 1 ∧ L.getD (a + 1) 0 < L.getD i 0
    · rw [if_pos c]; have := rJ_le (L := L) (i := i) (a := a); omega
    · rw [if_neg c]; omega
/-- a row of numbers in memory -/
def zRw (f : Nat → Int32) (L : List Nat) (n : Nat) : Prop := L.length = n ∧ (∀ c, c < n → f c = nI (L.getD c 0)) ∧ ∀ c, c < n → L.getD c 0 < 1000
theorem zRw_sw {f : Nat → Int32} {L : List Nat} {n a b : Nat} (h : zRw f L n) (ha : a < n) (hb : b < n) : zRw (upd (upd f a (f b)) b (f a)) (rSw L a b) n := by
  obtain ⟨h1, h2, h3⟩ := h
  refine ⟨rSw_len.trans h1, fun c hc => ?_, fun c hc => ?_⟩
  · rw [rSw_get (by omega) (by omega)]
    unfold upd
    by_cases e1 : c = b
    · rw [if_pos e1, if_pos e1]; exact h2 a ha
    · rw [if_neg e1, if_neg e1]
      by_cases e2 : c = a
      · rw [if_pos e2, if_pos e2]; exact h2 b hb
      · rw [if_neg e2, if_neg e2]; exact h2 c hc
  · rw [rSw_get (by omega) (by omega)]
    repeat' split
    · exact h3 a ha
    · exact h3 b hb
    · exact h3 c hc
theorem zRw_lt {f : Nat → Int32} {L : List Nat} {n a b : Nat} (h : zRw f L n) (ha : a < n) (hb : b < n) : f a < f b ↔ L.getD a 0 < L.getD b 0 := by
  rw [h.2.1 a ha, h.2.1 b hb]
  have := h.2.2 a ha
  have := h.2.2 b hb
  exact nI_ltI (by omega) (by omega)
