/-! MATHEMATICS, 74: the reference reads -/
def zMn (a0 a2 a5 : pm_H → (Int32 → pm_H → Prop) → Prop) : Nat → pm_H → (Int32 → pm_H → Prop) → Prop
  | 5 => wp_X7_one a0 a5
  | 4 => wp_X7_term (wp_X7_one a0 a5)
  | 3 => wp_X7_sum (wp_X7_term (wp_X7_one a0 a5))
  | 2 => wp_X7_not (wp_X7_sum (wp_X7_term (wp_X7_one a0 a5))) a2
  | 1 => wp_X7_both (wp_X7_not (wp_X7_sum (wp_X7_term (wp_X7_one a0 a5))) a2)
  | _ => wp_X7_any (wp_X7_both (wp_X7_not (wp_X7_sum (wp_X7_term (wp_X7_one a0 a5))) a2))
def zMc : Nat → Nat → pm_H → (Int32 → pm_H → Prop) → Prop
  | 0, _ => fun _ _ => False
  | g + 1, nt => zMn (zMc g 0) (zMc g 2) (zMc g 5) nt
/-- a piece, or what follows one (with p its place) -/
def zMu (n g p : Nat) (h : pm_H) (Q : Int32 → pm_H → Prop) : Nat → Prop
  | 6 => ∀ k, n - p + 1 ≤ k → wl_X7_any_9 (zMc g 1) (fun h => Q 0 h) (fun h => Q 1 h) Q k h
  | 7 => ∀ k, n - p + 1 ≤ k → wl_X7_both_9 (zMc g 2) (fun h => Q 0 h) (fun h => Q 1 h) Q k h
  | 8 => ∀ k, n - p + 1 ≤ k → wl_X7_sum_9 (zMc g 4) (fun h => Q 0 h) (fun h => Q 1 h) Q k h
  | 9 => ∀ k, n - p + 1 ≤ k → wl_X7_term_9 (zMc g 5) (fun h => Q 0 h) (fun h => Q 1 h) Q k h
  | nt => zMc g nt h Q
def zMs (T : Nat → Int32) (n tc f : Nat) : Prop := ∀ (nt o : Nat) (l : zLs) (b : Bool) (l' : zLs) (c : List Int32), nt < 10 → zPz T n f nt o l = some (b, l', c) → zLv n l → o ≤ 5 → ∀ (g : Nat), 6 ≤ o + g → ∀ (h : pm_H) (m : Nat) (Q : Int32 → pm_H → Prop), zMa T n tc o l m h → m ≤ l.1 → (∀ h', b = true → zMb T n tc o true l' c m h h' → Q 1 h') → (∀ h', b = false → zMb T n tc o false l' [] m h h' → Q 0 h') → zMu n g l.1 h Q nt
theorem zPr_inv {b b' : Bool} {l l' : zLs} {c c' : List Int32} (e : (some (b, l, c) : Option zPr) = some (b', l', c')) : b = b' ∧ l = l' ∧ c = c' := by
  simp only [Option.some.injEq, Prod.mk.injEq] at e
  exact e
section
variable {T : Nat → Int32} {n tc : Nat}
/-- a piece, then its word -/
theorem sm_pw {f nt o : Nat} {l : zLs} {b : Bool} {l' : zLs} {c : List Int32} {w w' : Int32} (S : zMs T n tc f) (hn : n ≤ 160) (ht : tc < 6) (hnt : nt < 10) (E : zThn (zPz T n f nt o l) (zEmt w) = some (b, l', c)) (v : zLv n l) (ho : o ≤ 5) (g : Nat) (hg : 6 ≤ o + g) (h : pm_H) (m : Nat) {K0 K1 : pm_H → Prop} (A : zMa T n tc o l m h) (hm : m + 1 ≤ l.1) (hw : w' = zTw w) (q1 : ∀ h', b = true → zMb T n tc o true l' c m h h' → K1 h') (q0 : ∀ h', b = false → zMb T n tc o false l' [] m h h' → K0 h') : zMu n g l.1 h (fun r h1 => pm_eq r 0 (K0 h1) (wp_X7_put w' h1 (fun h2 => K1 h2))) nt := by
  rcases zThn_inv E with ⟨c1, e1, e2, e3⟩ | ⟨l1, c1, c2, e1, e2, e3⟩
  · refine S nt o l false l' c1 hnt e1 v ho g hg h m _ A (by omega) (fun h1 hb _ => absurd hb (by decide)) (fun h1 _ B => ?_)
    rw [zb_eq, if_pos rfl]
    exact q0 h1 e2 B
  · obtain ⟨v1, len1⟩ := zPz_len f nt o l v _ _ _ e1
    have := len1 rfl
    obtain ⟨y1, y2, y3⟩ := zPr_inv e2
    have y4 : l1.1 ≤ n := by have := v1.1; have := v1.2.1; omega
    refine S nt o l true l1 c1 hnt e1 v ho g hg h m _ A (by omega) (fun h1 _ B => ?_) (fun h1 hb _ => absurd hb (by decide))
    rw [zb_eq, if_neg (by decide)]
    refine sm_w ht (by omega) (B.2.1 rfl).1 hw (fun h2 B2 _ => q1 h2 y1.symm ?_)
    rw [e3, ← y3, ← y2]
    exact zMb_t B B2
/-- one piece after another -/
theorem sm_pp {f nt nt' o : Nat} {l : zLs} {b : Bool} {l' : zLs} {c : List Int32} (S : zMs T n tc f) (hnt : nt < 10) (hnt' : nt' < 10) (E : zThn (zPz T n f nt o l) (zPz T n f nt' o) = some (b, l', c)) (v : zLv n l) (ho : o ≤ 5) (g : Nat) (hg : 6 ≤ o + g) (h : pm_H) (m : Nat) (Q : Int32 → pm_H → Prop) (A : zMa T n tc o l m h) (hm : m ≤ l.1) (q1 : ∀ h', b = true → zMb T n tc o true l' c m h h' → Q 1 h') (q0 : ∀ h', b = false → zMb T n tc o false l' [] m h h' → Q 0 h') {K : pm_H → Prop} (hK : ∀ l1 h1, zMu n g l1 h1 Q nt' → K h1) : zMu n g l.1 h (fun r h1 => pm_eq r 0 (Q 0 h1) (K h1)) nt := by
  rcases zThn_inv E with ⟨c1, e1, e2, e3⟩ | ⟨l1, c1, c2, e1, e2, e3⟩
  · refine S nt o l false l' c1 hnt e1 v ho g hg h m _ A (by omega) (fun h1 hb _ => absurd hb (by decide)) (fun h1 _ B => ?_)
    rw [zb_eq, if_pos rfl]
    exact q0 h1 e2 B
  · obtain ⟨v1, len1⟩ := zPz_len f nt o l v _ _ _ e1
    have := len1 rfl
    refine S nt o l true l1 c1 hnt e1 v ho g hg h m _ A (by omega) (fun h1 _ B => ?_) (fun h1 hb _ => absurd hb (by decide))
    rw [zb_eq, if_neg (by decide)]
    refine hK l1.1 h1 (S nt' o l1 b l' c2 hnt' e2 v1 ho g hg h1 (m + c1.length) Q (B.2.1 rfl).1 (by omega) (fun h2 hb B2 => q1 h2 hb ?_) (fun h2 hb B2 => q0 h2 hb (zMb_f (zMb_t B B2))))
    rw [e3]
    exact zMb_t B B2
end
