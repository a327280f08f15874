/-! MATHEMATICS, 77: the class reads: behind a fault, and one piece after another -/
def zCn (a0 a2 a5 : Int32 → pm_H → (pm_H → Prop) → Prop) : Nat → Int32 → pm_H → (pm_H → Prop) → Prop
  | 5 => wp_X0_readOne a5 a0
  | 4 => wp_X0_readTerm (wp_X0_readOne a5 a0)
  | 3 => wp_X0_readSum (wp_X0_readTerm (wp_X0_readOne a5 a0))
  | 2 => wp_X0_readDenied a2 (wp_X0_readSum (wp_X0_readTerm (wp_X0_readOne a5 a0)))
  | 1 => wp_X0_readBoth (wp_X0_readDenied a2 (wp_X0_readSum (wp_X0_readTerm (wp_X0_readOne a5 a0))))
  | _ => wp_X0_readEither (wp_X0_readBoth (wp_X0_readDenied a2 (wp_X0_readSum (wp_X0_readTerm (wp_X0_readOne a5 a0)))))
def zCc : Nat → Nat → Int32 → pm_H → (pm_H → Prop) → Prop
  | 0, _ => fun _ _ _ => False
  | g + 1, nt => zCn (zCc g 0) (zCc g 2) (zCc g 5) nt
section
variable {n tc p : Nat} {h : pm_H} {x y : Int32} {Q K : pm_H → Prop} {c : Int32 → pm_H → (pm_H → Prop) → Prop} {a0 a2 a5 : Int32 → pm_H → (pm_H → Prop) → Prop}
theorem sp_pl_readEither (H : zCp n tc p h) (hK : K h) {k : Nat} : wl_X0_readEither_7 c x K Q (k + 1) y h := by
  unfold wl_X0_readEither_7
  rw [zb_lt]
  by_cases e : y < 160
  · rw [if_pos e, H.2.2.1, zb_eq, if_neg (by decide)]; exact hK
  · rw [if_neg e]; exact hK
theorem sp_pl_readBoth (H : zCp n tc p h) (hK : K h) {k : Nat} : wl_X0_readBoth_7 c x K Q (k + 1) y h := by
  unfold wl_X0_readBoth_7
  rw [zb_lt]
  by_cases e : y < 160
  · rw [if_pos e, H.2.2.1, zb_eq, if_neg (by decide)]; exact hK
  · rw [if_neg e]; exact hK
theorem sp_pl_readSum (H : zCp n tc p h) (hK : K h) {k : Nat} : wl_X0_readSum_7 c x K Q (k + 1) y h := by
  unfold wl_X0_readSum_7
  rw [zb_lt]
  by_cases e : y < 160
  · rw [if_pos e, H.2.2.1, zb_eq, if_neg (by decide), zb_eq, if_neg (by decide)]; exact hK
  · rw [if_neg e]; exact hK
theorem sp_pl_readTerm (H : zCp n tc p h) (hK : K h) {k : Nat} : wl_X0_readTerm_7 c x K Q (k + 1) y h := by
  unfold wl_X0_readTerm_7
  rw [zb_lt]
  by_cases e : y < 160
  · rw [if_pos e, H.2.2.1, zb_eq, if_neg (by decide)]; exact hK
  · rw [if_neg e]; exact hK
theorem sp_po5 (ht : tc < 6) (hp : p ≤ 160) (H : zCp n tc p h) (hQ : ∀ h', zCf tc h h' → zCp n tc p h' → Q h') : zCn a0 a2 a5 5 x h Q := by
  show wp_X0_readOne a5 a0 x h Q
  unfold wp_X0_readOne
  rw [H.2.2.1, zb_eq, if_neg (by decide), zb_eq, if_neg (by decide), zb_eq, if_neg (by decide), zb_eq, if_neg (by decide)]
  exact sp_rp ht hp H hQ
theorem sp_po4 (ht : tc < 6) (hp : p ≤ 160) (H : zCp n tc p h) (hQ : ∀ h', zCf tc h h' → zCp n tc p h' → Q h') : zCn a0 a2 a5 4 x h Q := by
  show wp_X0_readTerm (zCn a0 a2 a5 5) x h Q
  unfold wp_X0_readTerm
  exact sp_po5 ht hp H (fun h1 f H1 => ⟨1, sp_pl_readTerm H1 (hQ h1 f H1)⟩)
theorem sp_po3 (ht : tc < 6) (hp : p ≤ 160) (H : zCp n tc p h) (hQ : ∀ h', zCf tc h h' → zCp n tc p h' → Q h') : zCn a0 a2 a5 3 x h Q := by
  show wp_X0_readSum (zCn a0 a2 a5 4) x h Q
  unfold wp_X0_readSum
  exact sp_po4 ht hp H (fun h1 f H1 => ⟨1, sp_pl_readSum H1 (hQ h1 f H1)⟩)
theorem sp_po2 (ht : tc < 6) (hp : p ≤ 160) (H : zCp n tc p h) (hQ : ∀ h', zCf tc h h' → zCp n tc p h' → Q h') : zCn a0 a2 a5 2 x h Q := by
  show wp_X0_readDenied a2 (zCn a0 a2 a5 3) x h Q
  unfold wp_X0_readDenied
  rw [H.2.2.1, zb_eq, if_neg (by decide)]
  refine sp_po3 ht hp H (fun h1 f H1 => ?_)
  rw [H1.2.2.1, zb_eq, if_neg (by decide), zb_eq, if_neg (by decide)]
  exact hQ h1 f H1
theorem sp_po1 (ht : tc < 6) (hp : p ≤ 160) (H : zCp n tc p h) (hQ : ∀ h', zCf tc h h' → zCp n tc p h' → Q h') : zCn a0 a2 a5 1 x h Q := by
  show wp_X0_readBoth (zCn a0 a2 a5 2) x h Q
  unfold wp_X0_readBoth
  exact sp_po2 ht hp H (fun h1 f H1 => ⟨1, sp_pl_readBoth H1 (hQ h1 f H1)⟩)
theorem sp_po0 (ht : tc < 6) (hp : p ≤ 160) (H : zCp n tc p h) (hQ : ∀ h', zCf tc h h' → zCp n tc p h' → Q h') : zCn a0 a2 a5 0 x h Q := by
  show wp_X0_readEither (zCn a0 a2 a5 1) x h Q
  unfold wp_X0_readEither
  exact sp_po1 ht hp H (fun h1 f H1 => ⟨1, sp_pl_readEither H1 (hQ h1 f H1)⟩)
theorem sp_po (ht : tc < 6) (hp : p ≤ 160) (H : zCp n tc p h) (hQ : ∀ h', zCf tc h h' → zCp n tc p h' → Q h') {nt : Nat} (hnt : nt < 6) : zCn a0 a2 a5 nt x h Q := by
  rcases (show nt = 0 ∨ nt = 1 ∨ nt = 2 ∨ nt = 3 ∨ nt = 4 ∨ nt = 5 by omega) with rfl | rfl | rfl | rfl | rfl | rfl
  · exact sp_po0 ht hp H hQ
  · exact sp_po1 ht hp H hQ
  · exact sp_po2 ht hp H hQ
  · exact sp_po3 ht hp H hQ
  · exact sp_po4 ht hp H hQ
  · exact sp_po5 ht hp H hQ
theorem sp_pa {w : Int32} (ht : tc < 6) (hp : p ≤ 160) (hw : w ≠ 1) (H : zCp n tc p h) (hQ : ∀ h', zCf tc h h' → zCp n tc p h' → Q h') : wp_X0_accept w h Q := by
  unfold wp_X0_accept
  rw [zb_eq, H.2.2.1, if_neg (fun q => hw q.symm)]
  exact sp_rp ht hp H hQ
end
/-- a piece, or what follows one (with p its place) -/
def zCu (n g o p : Nat) (h : pm_H) (Q : pm_H → Prop) : Nat → Prop
  | 6 => ∀ k i, n - p + 1 ≤ k → i ≤ p → wl_X0_readEither_7 (zCc g 1) (nI o) (fun h => Q h) Q k (nI i) h
  | 7 => ∀ k i, n - p + 1 ≤ k → i ≤ p → wl_X0_readBoth_7 (zCc g 2) (nI o) (fun h => Q h) Q k (nI i) h
  | 8 => ∀ k i, n - p + 1 ≤ k → i ≤ p → wl_X0_readSum_7 (zCc g 4) (nI o) (fun h => Q h) Q k (nI i) h
  | 9 => ∀ k i, n - p + 1 ≤ k → i ≤ p → wl_X0_readTerm_7 (zCc g 5) (nI o) (fun h => Q h) Q k (nI i) h
  | nt => zCc g nt (nI o) h Q
def zCS (T : Nat → Int32) (n tc f : Nat) : Prop := ∀ (nt o : Nat) (l : zLs) (b : Bool) (l' : zLs) (c : List Int32), nt < 10 → zPz T n f nt o l = some (b, l', c) → zLv n l → o ≤ 5 → ∀ (g : Nat), 6 ≤ o + g → ∀ (h : pm_H) (m : Nat) (Q : pm_H → Prop), zCa T n tc l m h → m ≤ l.1 → (∀ h', zCb T n tc b l' c m h h' → Q h') → zCu n g o l.1 h Q nt
section
variable {T : Nat → Int32} {n tc : Nat}
/-- a piece, then its word -/
theorem sp_pw {f nt o : Nat} {l : zLs} {b : Bool} {l' : zLs} {c : List Int32} {w : Int32} (S : zCS T n tc f) (hn : n ≤ 160) (ht : tc < 6) (hnt : nt < 6) (E : zThn (zPz T n f nt o l) (zEmt w) = some (b, l', c)) (v : zLv n l) (ho : o ≤ 5) (g : Nat) (hg : 6 ≤ o + g) (h : pm_H) (m : Nat) {K : pm_H → Prop} (A : zCa T n tc l m h) (hm : m + 1 ≤ l.1) (q : ∀ h', zCb T n tc b l' c m h h' → K h') : zCu n g o l.1 h (fun h1 => pm_ob (pm_dec (h1 34 2)) (fun t => pm_ib (pm_at 0 t 4) (wp_X4_add t w h1 K))) nt := by
  rcases zThn_inv E with ⟨c1, e1, e2, e3⟩ | ⟨l1, c1, c2, e1, e2, e3⟩
  · refine S nt o l false l' c1 (by omega) e1 v ho g hg h m _ A (by omega) (fun h1 B => ?_)
    refine sp_wpo ht (B.2.2 rfl) (fun h2 f2 H2 => q h2 ?_)
    rw [e2]
    exact zCb_p (zCf_t B.1 f2) H2
  · obtain ⟨v1, len1⟩ := zPz_len f nt o l v _ _ _ e1
    have := len1 rfl
    obtain ⟨y1, y2, y3⟩ := zPr_inv e2
    have y4 : l1.1 ≤ n := by have := v1.1; have := v1.2.1; omega
    refine S nt o l true l1 c1 (by omega) e1 v ho g hg h m _ A (by omega) (fun h1 B => ?_)
    refine sp_w ht (by omega) (B.2.1 rfl).1 (fun h2 B2 _ => q h2 ?_)
    rw [e3, ← y3, ← y2, ← y1]
    exact zCb_t B B2
/-- one piece after another -/
theorem sp_pp {f nt nt' o : Nat} {l : zLs} {b : Bool} {l' : zLs} {c : List Int32} (S : zCS T n tc f) (hnt : nt < 10) (hnt' : nt' < 10) (E : zThn (zPz T n f nt o l) (zPz T n f nt' o) = some (b, l', c)) (v : zLv n l) (ho : o ≤ 5) (g : Nat) (hg : 6 ≤ o + g) (h : pm_H) (m : Nat) (Q : pm_H → Prop) (A : zCa T n tc l m h) (hm : m ≤ l.1) (q : ∀ h', zCb T n tc b l' c m h h' → Q h') {K : pm_H → Prop} (hK : ∀ l1 h1, zCu n g o l1 h1 Q nt' → K h1) (hP : ∀ h1 p, zCp n tc p h1 → Q h1 → K h1) : zCu n g o l.1 h K nt := by
  rcases zThn_inv E with ⟨c1, e1, e2, e3⟩ | ⟨l1, c1, c2, e1, e2, e3⟩
  · refine S nt o l false l' c1 hnt e1 v ho g hg h m _ A (by omega) (fun h1 B => ?_)
    refine hP h1 _ (B.2.2 rfl) (q h1 ?_)
    rw [e2]; exact zCb_f B
  · obtain ⟨v1, len1⟩ := zPz_len f nt o l v _ _ _ e1
    have := len1 rfl
    refine S nt o l true l1 c1 hnt e1 v ho g hg h m _ A (by omega) (fun h1 B => ?_)
    refine hK l1.1 h1 (S nt' o l1 b l' c2 hnt' e2 v1 ho g hg h1 (m + c1.length) Q (B.2.1 rfl).1 (by omega) (fun h2 B2 => q h2 ?_))
    rw [e3]
    exact zCb_t B B2
end
