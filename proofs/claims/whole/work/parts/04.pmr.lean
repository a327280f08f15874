/-! THE PURE MACHINE'S RULES -/
theorem pm_bm {c : Bool} {A B A' B' : Prop} (h : A → A') (h2 : B → B') : (bif c then A else B) → (bif c then A' else B') := by cases c <;> simpa
theorem pm_jm_mono {pc : Nat} {off : Int} {k k' : Nat → Prop} (h : ∀ t, k t → k' t) : pm_jm pc off k → pm_jm pc off k' := by
  unfold pm_jm
  cases pm_j pc off with
  | none => exact id
  | some t => exact h t
theorem pm_if_mono {c : Prop} [Decidable c] {A B A' B' : Prop} (h : A → A') (h2 : B → B') : (if c then A else B) → (if c then A' else B') := by
  by_cases hc : c <;> simp [hc] <;> assumption
theorem pm_lt_mono {x y : Int32} {A B A' B' : Prop} (h : A → A') (h2 : B → B') : pm_lt x y A B → pm_lt x y A' B' := pm_if_mono h h2
theorem pm_eq_mono {x y : Int32} {A B A' B' : Prop} (h : A → A') (h2 : B → B') : pm_eq x y A B → pm_eq x y A' B' := pm_if_mono h h2
theorem pm_nz_mono {y : Int32} {A A' : Prop} (h : A → A') : pm_nz y A → pm_nz y A' := pm_if_mono id h
theorem pm_ib_mono {c : Bool} {A A' : Prop} (h : A → A') : pm_ib c A → pm_ib c A' := pm_bm h id
theorem pm_ic_mono {c : Jvm.ClassFile.Cond} {x y : Int32} {A B A' B' : Prop} (h : A → A') (h2 : B → B') : pm_ic c x y A B → pm_ic c x y A' B' := by
  cases c <;> simp only [pm_ic] <;> first | exact pm_eq_mono h h2 | exact pm_eq_mono h2 h | exact pm_lt_mono h h2 | exact pm_lt_mono h2 h
theorem pm_sw_mono {x : Int32} {k k' : Int → Prop} {d d' : Prop} (h : ∀ o, k o → k' o) (h2 : d → d') : ∀ (os : List Int) (v : Int), pm_sw os v x k d → pm_sw os v x k' d'
  | [], _ => h2
  | _ :: os, v => pm_eq_mono (h _) (pm_sw_mono h h2 os (v + 1))
theorem pm_lk_mono {x : Int32} {k k' : Int → Prop} {d d' : Prop} (h : ∀ o, k o → k' o) (h2 : d → d') : ∀ (os : List (Int × Int)), pm_lk os x k d → pm_lk os x k' d'
  | [] => h2
  | _ :: os => pm_eq_mono (h _) (pm_lk_mono h h2 os)
theorem pm_ob_mono {o : Option Nat} {k k' : Nat → Prop} (h : ∀ r, k r → k' r) : pm_ob o k → pm_ob o k' := by
  cases o with
  | none => exact id
  | some r => exact h r
theorem pm_fk_mono {h : pm_H} {ci o f : Nat} {k k' : Value → Prop} (hk : ∀ v, k v → k' v) : pm_fk h ci o f k → pm_fk h ci o f k' := by
  unfold pm_fk
  split <;> first | exact hk _ | exact pm_ob_mono (fun r => hk _) | exact id
theorem pm_call_mono {own kind : Nat} {M' : pm_M} {n pc : Nat} {L : pm_L} {st : List Value} {h : pm_H} {kc kc' : Nat → pm_L → List Value → pm_H → Prop} {kk kk' : pm_M → List Value → Nat → List Value → Prop}
    (h1 : ∀ a b c d, kc a b c d → kc' a b c d) (h2 : ∀ a b c d, kk a b c d → kk' a b c d) : pm_call own kind M' n pc L st h kc kk → pm_call own kind M' n pc L st h kc' kk' := by
  unfold pm_call
  repeat' split
  all_goals first | exact id | exact pm_bm (h1 _ _ _ _) id | exact pm_bm (h2 _ _ _ _) id | exact pm_bm (pm_bm (h2 _ _ _ _) id) id | exact pm_bm (pm_bm (h1 _ _ _ _) id) id | exact pm_bm (pm_bm (pm_bm (h1 _ _ _ _) id) id) id | exact pm_bm (pm_bm (pm_bm (pm_bm (h1 _ _ _ _) id) id) id) id
theorem pm_ins_mono {M : pm_M} {i : Instr} {pc : Nat} {L : pm_L} {st : List Value} {h : pm_H} {kc kc' : Nat → pm_L → List Value → pm_H → Prop} {kk kk' : pm_M → List Value → Nat → List Value → Prop} {kr kr' : Option Value → Prop}
    (h1 : ∀ a b c d, kc a b c d → kc' a b c d) (h2 : ∀ a b c d, kk a b c d → kk' a b c d) (h3 : ∀ v, kr v → kr' v) : pm_ins M i pc L st h kc kk kr → pm_ins M i pc L st h kc' kk' kr' := by
  cases i <;> dsimp only [pm_ins] <;> repeat' split
  all_goals first
    | exact id
    | exact h1 _ _ _ _
    | exact pm_bm (h1 _ _ _ _) id
    | exact pm_nz_mono (h1 _ _ _ _)
    | exact pm_bm (h3 _) id
    | exact pm_bm (pm_bm (h1 _ _ _ _) id) id
    | exact pm_bm (pm_bm (pm_bm (h1 _ _ _ _) id) id) id
    | exact pm_bm (pm_bm (h1 _ _ _ _) id) (pm_bm (pm_bm (h1 _ _ _ _) id) id)
    | exact pm_bm (h1 _ _ _ _) (pm_bm (h1 _ _ _ _) id)
    | exact pm_jm_mono (fun t => h1 _ _ _ _)
    | exact pm_jm_mono (fun t => pm_ic_mono (h1 _ _ _ _) (h1 _ _ _ _))
    | exact pm_bm (pm_sw_mono (fun o => pm_jm_mono (fun t => h1 _ _ _ _)) (pm_jm_mono (fun t => h1 _ _ _ _)) _ _) id
    | exact pm_bm (pm_lk_mono (fun o => pm_jm_mono (fun t => h1 _ _ _ _)) (pm_jm_mono (fun t => h1 _ _ _ _)) _) id
    | exact pm_bm (pm_call_mono h1 h2) id
    | exact pm_bm (pm_fk_mono (fun v => h1 _ _ _ _)) id
    | exact pm_bm (pm_bm (pm_ob_mono (fun v => h1 _ _ _ _)) id) id
theorem pm_Rn_mono : ∀ {n n' d d' : Nat} {M : pm_M} {pc : Nat} {L : pm_L} {st : List Value} {h : pm_H} {Q Q' : Option Value → pm_H → Prop}, n ≤ n' → d ≤ d' → (∀ v h', Q v h' → Q' v h') → pm_Rn n d M pc L st h Q → pm_Rn n' d' M pc L st h Q'
  | 0, _, _, _, _, _, _, _, _, _, _, _, _, _, hr => hr.elim
  | n + 1, 0, _, _, _, _, _, _, _, _, _, hn, _, _, _ => absurd hn (by omega)
  | n + 1, n' + 1, d, d', M, pc, L, st, h, Q, Q', hn, hd, hq, hr => by
    unfold pm_Rn at hr ⊢
    cases hl : pm_look M.2.2.2 pc with
    | none => rw [hl] at hr; exact hr
    | some i =>
      rw [hl] at hr
      refine pm_ins_mono (fun a b c e => pm_Rn_mono (by omega) hd hq) (fun M' as pc' r hk => ?_) (fun v => hq v h) hr
      cases d with
      | zero => exact hk.elim
      | succ e =>
        cases d' with
        | zero => exact absurd hd (by omega)
        | succ e' =>
          refine pm_bm (fun z => ?_) id hk
          exact pm_Rn_mono (by omega) (by omega) (fun v h' => pm_Rn_mono (by omega) hd hq) z
theorem pm_R_mono {d d' : Nat} {M : pm_M} {pc : Nat} {L : pm_L} {st : List Value} {h : pm_H} {Q Q' : Option Value → pm_H → Prop} (hd : d ≤ d') (hq : ∀ v h', Q v h' → Q' v h') : pm_R d M pc L st h Q → pm_R d' M pc L st h Q'
  | ⟨n, hr⟩ => ⟨n, pm_Rn_mono (Nat.le_refl n) hd hq hr⟩
section
variable {ι : Type}
theorem pm_bx {c : Bool} {A : ι → Prop} : pm_ib c (∃ x, A x) → ∃ x, pm_ib c (A x) := by unfold pm_ib; cases c <;> simp
theorem pm_bx0 {y : Int32} {A : ι → Prop} : pm_nz y (∃ x, A x) → ∃ x, pm_nz y (A x) := by unfold pm_nz; by_cases hc : y = 0 <;> simp [hc]
theorem pm_bx2 {c : Bool} {A B : ι → Prop} : (bif c then (∃ x, A x) else (∃ x, B x)) → ∃ x, (bif c then A x else B x) := by cases c <;> simp
theorem pm_jx {pc : Nat} {off : Int} {k : ι → Nat → Prop} : pm_jm pc off (fun t => ∃ x, k x t) → ∃ x, pm_jm pc off (k x) := by
  unfold pm_jm
  cases pm_j pc off with
  | none => exact fun h => h.elim
  | some t => exact id
theorem pm_ix {c : Prop} [Decidable c] {A B : ι → Prop} : (if c then (∃ x, A x) else (∃ x, B x)) → ∃ x, (if c then A x else B x) := by
  by_cases hc : c <;> simp [hc]
theorem pm_icx {c : Jvm.ClassFile.Cond} {x y : Int32} {A B : ι → Prop} : pm_ic c x y (∃ x, A x) (∃ x, B x) → ∃ z, pm_ic c x y (A z) (B z) := by
  cases c <;> simp only [pm_ic, pm_eq, pm_lt] <;> exact pm_ix
theorem pm_swx {x : Int32} {k : ι → Int → Prop} {d : ι → Prop} : ∀ (os : List Int) (v : Int), pm_sw os v x (fun o => ∃ z, k z o) (∃ z, d z) → ∃ z, pm_sw os v x (k z) (d z)
  | [], _ => id
  | o :: os, v => fun h => by
    unfold pm_sw pm_eq at h ⊢
    by_cases hc : x = Int32.ofInt v
    · simp only [if_pos hc] at h ⊢; exact h
    · simp only [if_neg hc] at h ⊢; exact pm_swx os (v + 1) h
theorem pm_lkx {x : Int32} {k : ι → Int → Prop} {d : ι → Prop} : ∀ (os : List (Int × Int)), pm_lk os x (fun o => ∃ z, k z o) (∃ z, d z) → ∃ z, pm_lk os x (k z) (d z)
  | [] => id
  | o :: os => fun h => by
    unfold pm_lk pm_eq at h ⊢
    by_cases hc : x = Int32.ofInt o.1
    · simp only [if_pos hc] at h ⊢; exact h
    · simp only [if_neg hc] at h ⊢; exact pm_lkx os h
theorem pm_obx {o : Option Nat} {k : ι → Nat → Prop} : pm_ob o (fun r => ∃ x, k x r) → ∃ x, pm_ob o (k x) := by
  cases o with
  | none => exact fun h => h.elim
  | some r => exact id
theorem pm_fkx {h : pm_H} {ci o f : Nat} {k : ι → Value → Prop} : pm_fk h ci o f (fun v => ∃ x, k x v) → ∃ x, pm_fk h ci o f (k x) := by
  unfold pm_fk
  split <;> first | exact id | exact pm_obx | exact (fun h => h.elim)
theorem pm_callx {own kind : Nat} {M' : pm_M} {n pc : Nat} {L : pm_L} {st : List Value} {h : pm_H} {kc : ι → Nat → pm_L → List Value → pm_H → Prop} {kk : ι → pm_M → List Value → Nat → List Value → Prop} :
    pm_call own kind M' n pc L st h (fun a b c d => ∃ x, kc x a b c d) (fun a b c d => ∃ x, kk x a b c d) → ∃ x, pm_call own kind M' n pc L st h (kc x) (kk x) := by
  unfold pm_call
  repeat' split
  all_goals first | exact pm_bx | exact (fun h => h.elim) | exact fun z => pm_bx (pm_bm pm_bx id z) | exact fun z => pm_bx (pm_bm (fun y => pm_bx (pm_bm pm_bx id y)) id z) | exact fun z => pm_bx (pm_bm (fun y => pm_bx (pm_bm (fun w => pm_bx (pm_bm pm_bx id w)) id y)) id z)
theorem pm_insx {M : pm_M} {i : Instr} {pc : Nat} {L : pm_L} {st : List Value} {h : pm_H} {kc : ι → Nat → pm_L → List Value → pm_H → Prop} {kk : ι → pm_M → List Value → Nat → List Value → Prop} {kr : ι → Option Value → Prop} :
    pm_ins M i pc L st h (fun a b c d => ∃ x, kc x a b c d) (fun a b c d => ∃ x, kk x a b c d) (fun v => ∃ x, kr x v) → ∃ x, pm_ins M i pc L st h (kc x) (kk x) (kr x) := by
  cases i <;> dsimp only [pm_ins] <;> repeat' split
  all_goals first
    | exact id
    | exact (fun h => h.elim)
    | exact pm_bx
    | exact pm_bx0
    | exact fun z => pm_bx (pm_bm pm_bx id z)
    | exact fun z => pm_bx (pm_bm (fun y => pm_bx (pm_bm pm_bx id y)) id z)
    | exact fun z => pm_bx2 (pm_bm pm_bx (fun y => pm_bx (pm_bm pm_bx id y)) z)
    | exact fun z => pm_bx2 (pm_bm id pm_bx z)
    | exact pm_jx
    | exact fun z => pm_jx (pm_jm_mono (fun t => pm_icx) z)
    | exact fun z => pm_bx (pm_bm (fun y => pm_swx _ _ (pm_sw_mono (fun o => pm_jx) pm_jx _ _ y)) id z)
    | exact fun z => pm_bx (pm_bm (fun y => pm_lkx _ (pm_lk_mono (fun o => pm_jx) pm_jx _ y)) id z)
    | exact fun z => pm_bx (pm_bm pm_callx id z)
    | exact fun z => pm_bx (pm_bm pm_fkx id z)
    | exact fun z => pm_bx (pm_bm (fun y => pm_bx (pm_bm pm_obx id y)) id z)
end
/-- the outcome is one -/
theorem pm_one : ∀ {n d : Nat} {M : pm_M} {pc : Nat} {L : pm_L} {st : List Value} {h : pm_H} {Q : Option Value → pm_H → Prop}, pm_Rn n d M pc L st h Q → ∃ z : Option Value × pm_H, Q z.1 z.2 ∧ pm_Rn n d M pc L st h (fun v h' => v = z.1 ∧ h' = z.2)
  | 0, _, _, _, _, _, _, _, hr => hr.elim
  | n + 1, d, M, pc, L, st, h, Q, hr => by
    unfold pm_Rn at hr ⊢
    cases hl : pm_look M.2.2.2 pc with
    | none => rw [hl] at hr; exact hr.elim
    | some i =>
      rw [hl] at hr
      obtain ⟨z, hz⟩ := pm_insx (ι := Option Value × pm_H) (kc := fun z a b c e => Q z.1 z.2 ∧ pm_Rn n d M a b c e (fun v h' => v = z.1 ∧ h' = z.2))
        (kk := fun z M' as pc' r => Q z.1 z.2 ∧ pm_dn d (fun d' => pm_ib (Nat.ble as.length M'.2.1) (pm_Rn n d' M' 0 (pm_en M' as) [] h (fun v h' => pm_Rn n d M pc' L (v.toList ++ r) h' (fun v h' => v = z.1 ∧ h' = z.2)))))
        (kr := fun z v => Q z.1 z.2 ∧ v = z.1 ∧ h = z.2) (pm_ins_mono (fun a b c e => pm_one) (fun M' as pc' r hk => by
          cases d with
          | zero => exact hk.elim
          | succ e =>
            dsimp only [pm_dn, pm_ib] at hk ⊢
            cases hc : Nat.ble as.length M'.2.1 with
            | false => rw [hc] at hk; exact hk.elim
            | true =>
              rw [hc] at hk
              dsimp only [cond_true] at hk
              obtain ⟨z, hz1, hz2⟩ := pm_one hk
              obtain ⟨z2, hz3, hz4⟩ := pm_one hz1
              refine ⟨z2, hz3, ?_⟩
              dsimp only [cond_true]
              refine pm_Rn_mono (Nat.le_refl _) (Nat.le_refl _) (fun v h' hv => ?_) hz2
              obtain ⟨rfl, rfl⟩ := hv
              exact hz4) (fun v hv => ⟨(v, h), hv, rfl, rfl⟩) hr)
      refine ⟨z, ?_, ?_⟩
      · rcases Classical.em (Q z.1 z.2) with hq | hq
        · exact hq
        · exfalso
          have h0 : ∀ {i : Instr}, pm_ins M i pc L st h (fun _ _ _ _ => False) (fun _ _ _ _ => False) (fun _ => False) → False := by
            intro i hi
            obtain ⟨x, -⟩ := pm_insx (ι := Empty) (kc := fun _ _ _ _ _ => True) (kk := fun _ _ _ _ _ => True) (kr := fun _ _ => True) (pm_ins_mono (fun _ _ _ _ => False.elim) (fun _ _ _ _ => False.elim) (fun _ => False.elim) hi)
            exact x.elim
          exact h0 (pm_ins_mono (fun _ _ _ _ z => hq z.1) (fun _ _ _ _ z => hq z.1) (fun _ z => hq z.1) hz)
      · exact pm_ins_mono (fun _ _ _ _ z => z.2) (fun _ _ _ _ z => z.2) (fun _ z => z.2) hz
/-- one step -/
theorem pm_step {d : Nat} {M : pm_M} {pc : Nat} {L : pm_L} {st : List Value} {h : pm_H} {Q : Option Value → pm_H → Prop} (hr : match pm_look M.2.2.2 pc with
    | none => False
    | some i => pm_ins M i pc L st h (fun pc' L' st' h' => pm_R d M pc' L' st' h' Q)
        (fun M' as pc' r => pm_dn d (fun d' => pm_ib (Nat.ble as.length M'.2.1) (pm_R d' M' 0 (pm_en M' as) [] h (fun v h' => pm_R d M pc' L (v.toList ++ r) h' Q))))
        (fun v => Q v h)) : pm_R d M pc L st h Q := by
  cases hl : pm_look M.2.2.2 pc with
  | none => rw [hl] at hr; exact hr.elim
  | some i =>
    rw [hl] at hr
    obtain ⟨n, hn⟩ := pm_insx (ι := Nat) (kc := fun n pc' L' st' h' => pm_Rn n d M pc' L' st' h' Q) (kk := fun n M' as pc' r => pm_dn d (fun d' => pm_ib (Nat.ble as.length M'.2.1) (pm_Rn n d' M' 0 (pm_en M' as) [] h (fun v h' => pm_Rn n d M pc' L (v.toList ++ r) h' Q)))) (kr := fun _ v => Q v h) (pm_ins_mono (fun _ _ _ _ => id) (fun M' as pc' r hk => by
      cases d with
      | zero => exact hk.elim
      | succ e =>
        dsimp only [pm_dn, pm_ib] at hk ⊢
        cases hc : Nat.ble as.length M'.2.1 with
        | false => rw [hc] at hk; exact hk.elim
        | true =>
          rw [hc] at hk
          dsimp only [cond_true] at hk ⊢
          obtain ⟨n, hn⟩ := hk
          obtain ⟨z, ⟨k, hz1⟩, hz2⟩ := pm_one hn
          refine ⟨n + k, pm_Rn_mono (by omega) (Nat.le_refl _) (fun v h' hv => ?_) hz2⟩
          obtain ⟨rfl, rfl⟩ := hv
          exact pm_Rn_mono (by omega) (Nat.le_refl _) (fun _ _ => id) hz1) (fun v hv => ⟨0, hv⟩) hr)
    refine ⟨n + 1, ?_⟩
    unfold pm_Rn
    rw [hl]
    exact hn
/-- many steps at once, without calls: calls and returns end the walk -/
def pm_go (d : Nat) (M : pm_M) (Q : Option Value → pm_H → Prop) : Nat → Nat → pm_L → List Value → pm_H → Prop
  | 0, pc, L, st, h => pm_R d M pc L st h Q
  | n + 1, pc, L, st, h => match pm_look M.2.2.2 pc with
    | none => False
    | some i => pm_ins M i pc L st h (pm_go d M Q n)
        (fun M' as pc' r => pm_dn d (fun d' => pm_ib (Nat.ble as.length M'.2.1) (pm_R d' M' 0 (pm_en M' as) [] h (fun v h' => pm_go d M Q n pc' L (v.toList ++ r) h'))))
        (fun v => Q v h)
theorem pm_steps {d : Nat} {M : pm_M} {Q : Option Value → pm_H → Prop} : ∀ (n : Nat) {pc : Nat} {L : pm_L} {st : List Value} {h : pm_H}, pm_go d M Q n pc L st h → pm_R d M pc L st h Q
  | 0, _, _, _, _, hr => hr
  | n + 1, pc, L, st, h, hr => by
    refine pm_step ?_
    unfold pm_go at hr
    cases hl : pm_look M.2.2.2 pc with
    | none => rw [hl] at hr; exact hr.elim
    | some i =>
      rw [hl] at hr
      refine pm_ins_mono (fun a b c e => pm_steps n) (fun M' as pc' r hk => ?_) (fun v => id) hr
      cases d with
      | zero => exact hk.elim
      | succ e => exact pm_bm (pm_R_mono (Nat.le_refl _) (fun v h' => pm_steps n)) id hk
/-- locals that aren't known may be anything -/
def pm_le : pm_L → pm_L → Prop
  | [], [] => True
  | none :: a, _ :: b => pm_le a b
  | some v :: a, some w :: b => v = w ∧ pm_le a b
  | _, _ => False
theorem pm_le_len : ∀ {a b : pm_L}, pm_le a b → a.length = b.length
  | [], [], _ => rfl
  | none :: a, _ :: b, h => congrArg (· + 1) (pm_le_len (a := a) (b := b) h)
  | some v :: a, some w :: b, h => congrArg (· + 1) (pm_le_len (a := a) (b := b) h.2)
  | [], _ :: _, h => h.elim
  | none :: _, [], h => h.elim
  | some _ :: _, [], h => h.elim
  | some _ :: _, none :: _, h => h.elim
theorem pm_le_get : ∀ {a b : pm_L} {k : Nat} {v : Value}, pm_le a b → pm_lo a k = some v → pm_lo b k = some v
  | [], [], _, _, _, e => e
  | none :: a, _ :: b, 0, v, h, e => by cases e
  | some v :: a, some w :: b, 0, x, h, e => by rw [← h.1]; exact e
  | none :: a, _ :: b, k + 1, v, h, e => pm_le_get (a := a) (b := b) h e
  | some v :: a, some w :: b, k + 1, x, h, e => pm_le_get (a := a) (b := b) h.2 e
  | [], _ :: _, _, _, h, _ => h.elim
  | none :: _, [], _, _, h, _ => h.elim
  | some _ :: _, [], _, _, h, _ => h.elim
  | some _ :: _, none :: _, _, _, h, _ => h.elim
theorem pm_le_o1 {a b : pm_L} {k : Nat} (h : pm_le a b) (e : pm_o1 a k = true) : pm_o1 b k = true := by
  unfold pm_o1 at e ⊢
  rw [← pm_le_len h]
  exact e
theorem pm_le_set : ∀ {a b : pm_L} (k : Nat) (v : Option Value), pm_le a b → pm_le (pm_ls a k v) (pm_ls b k v)
  | [], [], _, _, _ => trivial
  | none :: a, _ :: b, 0, v, h => by cases v with
    | none => exact h
    | some v => exact ⟨rfl, h⟩
  | some w :: a, some w' :: b, 0, v, h => by cases v with
    | none => exact h.2
    | some v => exact ⟨rfl, h.2⟩
  | none :: a, w :: b, 1, v, h => by
    show pm_le (none :: pm_ls a 0 v) (pm_lc w :: pm_ls b 0 v)
    exact pm_le_set (a := a) (b := b) 0 v h
  | some w :: a, some w' :: b, 1, v, h => by
    obtain ⟨rfl, h⟩ := h
    have ih := pm_le_set (a := a) (b := b) 0 v h
    show pm_le (pm_lc (some w) :: pm_ls a 0 v) (pm_lc (some w) :: pm_ls b 0 v)
    cases pm_lc (some w) with
    | none => exact ih
    | some z => exact ⟨rfl, ih⟩
  | none :: a, _ :: b, k + 2, v, h => pm_le_set (a := a) (b := b) (k + 1) v h
  | some w :: a, some w' :: b, k + 2, v, h => ⟨h.1, pm_le_set (a := a) (b := b) (k + 1) v h.2⟩
  | [], _ :: _, _, _, h => h.elim
  | none :: _, [], _, _, h => h.elim
  | some _ :: _, [], _, _, h => h.elim
  | some _ :: _, none :: _, _, _, h => h.elim
theorem pm_bt {c : Bool} {A B : Prop} (hc : c = true) (h : A) : bif c then A else B := by rw [hc]; exact h
theorem pm_ins_le {M : pm_M} {i : Instr} {pc : Nat} {L L' : pm_L} {st : List Value} {h : pm_H} {kc kc' : Nat → pm_L → List Value → pm_H → Prop} {kk kk' : pm_M → List Value → Nat → List Value → Prop} {kr kr' : Option Value → Prop}
    (hL : pm_le L L') (h1 : ∀ a b b' c d, pm_le b b' → kc a b c d → kc' a b' c d) (h2 : ∀ a b c d, kk a b c d → kk' a b c d) (h3 : ∀ v, kr v → kr' v) : pm_ins M i pc L st h kc kk kr → pm_ins M i pc L' st h kc' kk' kr' := by
  have hg : ∀ k (f f' : Value → Prop), (∀ v, f v → f' v) → (match pm_lo L k with | some v => f v | none => False) → (match pm_lo L' k with | some v => f' v | none => False) := by
    intro k f f' hf hz
    cases e : pm_lo L k with
    | none => rw [e] at hz; exact hz.elim
    | some v => rw [e] at hz; rw [pm_le_get hL e]; exact hf v hz
  have ho : ∀ k (A B : Prop), (A → B) → pm_ib (pm_o1 L k) A → pm_ib (pm_o1 L' k) B := by
    intro k A B hab hz
    cases e : pm_o1 L k with
    | false => rw [e] at hz; exact hz.elim
    | true => rw [e] at hz; exact pm_bt (pm_le_o1 hL e) (hab hz)
  have hc : ∀ (own kind : Nat) (M' : pm_M) (n : Nat), pm_call own kind M' n pc L st h kc kk → pm_call own kind M' n pc L' st h kc' kk' := by
    intro own kind M' n
    unfold pm_call
    repeat' split
    all_goals first | exact id | exact pm_bm (h1 _ _ _ _ _ hL) id | exact pm_bm (h2 _ _ _ _) id | exact pm_bm (pm_bm (h2 _ _ _ _) id) id | exact pm_bm (pm_bm (h1 _ _ _ _ _ hL) id) id | exact pm_bm (pm_bm (pm_bm (h1 _ _ _ _ _ hL) id) id) id | exact pm_bm (pm_bm (pm_bm (pm_bm (h1 _ _ _ _ _ hL) id) id) id) id
  cases i with
  | aload_n k =>
    intro hz
    dsimp only [pm_ins] at hz ⊢
    cases e : pm_lo L k.val with
    | none => rw [e] at hz; exact hz.elim
    | some v => rw [e] at hz; rw [pm_le_get hL e]; revert hz; split <;> first | exact h1 _ _ _ _ _ hL | exact id
  | aload k =>
    intro hz
    dsimp only [pm_ins] at hz ⊢
    cases e : pm_lo L k with
    | none => rw [e] at hz; exact hz.elim
    | some v => rw [e] at hz; rw [pm_le_get hL e]; revert hz; split <;> first | exact h1 _ _ _ _ _ hL | exact id
  | iload_n k =>
    intro hz
    dsimp only [pm_ins] at hz ⊢
    cases e : pm_lo L k.val with
    | none => rw [e] at hz; exact hz.elim
    | some v => rw [e] at hz; rw [pm_le_get hL e]; revert hz; split <;> first | exact h1 _ _ _ _ _ hL | exact id
  | iload k =>
    intro hz
    dsimp only [pm_ins] at hz ⊢
    cases e : pm_lo L k with
    | none => rw [e] at hz; exact hz.elim
    | some v => rw [e] at hz; rw [pm_le_get hL e]; revert hz; split <;> first | exact h1 _ _ _ _ _ hL | exact id
  | lload k =>
    intro hz
    dsimp only [pm_ins] at hz ⊢
    cases e : pm_lo L k with
    | none => rw [e] at hz; exact hz.elim
    | some v => rw [e] at hz; rw [pm_le_get hL e]; revert hz; split <;> first | exact h1 _ _ _ _ _ hL | exact id
  | iinc k n =>
    intro hz
    dsimp only [pm_ins] at hz ⊢
    cases e : pm_lo L k with
    | none => rw [e] at hz; exact hz.elim
    | some v => rw [e] at hz; rw [pm_le_get hL e]; revert hz; split <;> first | exact ho _ _ _ (h1 _ _ _ _ _ (pm_le_set _ _ hL)) | exact id
  | istore_n k => dsimp only [pm_ins]; split <;> first | exact ho _ _ _ (h1 _ _ _ _ _ (pm_le_set _ _ hL)) | exact id
  | istore k => dsimp only [pm_ins]; split <;> first | exact ho _ _ _ (h1 _ _ _ _ _ (pm_le_set _ _ hL)) | exact id
  | astore_n k => dsimp only [pm_ins]; split <;> first | exact ho _ _ _ (h1 _ _ _ _ _ (pm_le_set _ _ hL)) | exact id
  | astore k => dsimp only [pm_ins]; split <;> first | exact ho _ _ _ (h1 _ _ _ _ _ (pm_le_set _ _ hL)) | exact id
  | lstore k =>
    dsimp only [pm_ins]
    split
    · intro hz
      rw [← pm_le_len hL]
      revert hz
      cases e : Nat.blt (k + 1) L.length with
      | false => simp [pm_ib]
      | true =>
        simp only [Bool.and_true]
        exact ho _ _ _ (h1 _ _ _ _ _ (pm_le_set _ _ (pm_le_set _ _ hL)))
    · exact id
  | _ =>
    dsimp only [pm_ins]
    repeat' split
    all_goals first
      | exact id
      | exact h1 _ _ _ _ _ hL
      | exact pm_bm (h1 _ _ _ _ _ hL) id
      | exact pm_nz_mono (h1 _ _ _ _ _ hL)
      | exact pm_bm (h3 _) id
      | exact pm_bm (pm_bm (h1 _ _ _ _ _ hL) id) id
      | exact pm_bm (pm_bm (pm_bm (h1 _ _ _ _ _ hL) id) id) id
      | exact pm_bm (pm_bm (h1 _ _ _ _ _ hL) id) (pm_bm (pm_bm (h1 _ _ _ _ _ hL) id) id)
      | exact pm_bm (h1 _ _ _ _ _ hL) (pm_bm (h1 _ _ _ _ _ hL) id)
      | exact pm_jm_mono (fun t => h1 _ _ _ _ _ hL)
      | exact pm_jm_mono (fun t => pm_ic_mono (h1 _ _ _ _ _ hL) (h1 _ _ _ _ _ hL))
      | exact pm_bm (pm_sw_mono (fun o => pm_jm_mono (fun t => h1 _ _ _ _ _ hL)) (pm_jm_mono (fun t => h1 _ _ _ _ _ hL)) _ _) id
      | exact pm_bm (pm_lk_mono (fun o => pm_jm_mono (fun t => h1 _ _ _ _ _ hL)) (pm_jm_mono (fun t => h1 _ _ _ _ _ hL)) _) id
      | exact pm_bm (hc _ _ _ _) id
      | exact pm_bm (pm_fk_mono (fun v => h1 _ _ _ _ _ hL)) id
      | exact pm_bm (pm_bm (pm_ob_mono (fun v => h1 _ _ _ _ _ hL)) id) id
theorem pm_Rn_le : ∀ {n d : Nat} {M : pm_M} {pc : Nat} {L L' : pm_L} {st : List Value} {h : pm_H} {Q : Option Value → pm_H → Prop}, pm_le L L' → pm_Rn n d M pc L st h Q → pm_Rn n d M pc L' st h Q
  | 0, _, _, _, _, _, _, _, _, _, hr => hr.elim
  | n + 1, d, M, pc, L, L', st, h, Q, hL, hr => by
    unfold pm_Rn at hr ⊢
    cases hl : pm_look M.2.2.2 pc with
    | none => rw [hl] at hr; exact hr
    | some i =>
      rw [hl] at hr
      refine pm_ins_le hL (fun a b b' c e hb => pm_Rn_le hb) (fun M' as pc' r hk => ?_) (fun v => id) hr
      cases d with
      | zero => exact hk.elim
      | succ e => exact pm_bm (pm_Rn_mono (Nat.le_refl _) (Nat.le_refl _) (fun v h' => pm_Rn_le hL)) id hk
theorem pm_fg {d : Nat} {M : pm_M} {pc : Nat} {L L' : pm_L} {st : List Value} {h : pm_H} {Q : Option Value → pm_H → Prop} (hr : pm_R d M pc L st h Q) (hL : pm_le L L') : pm_R d M pc L' st h Q := by
  obtain ⟨n, hn⟩ := hr
  exact ⟨n, pm_Rn_le hL hn⟩
/-- for the walks -/
theorem pm_wb {c : Bool} {A A' B : Prop} (hw : pm_ib c A') (k : A' → A) : bif c then A else B := by cases c <;> first | exact hw.elim | exact k hw
theorem pm_wi {c : Prop} [Decidable c] {A B A' B' : Prop} (hw : if c then A' else B') (k1 : A' → A) (k2 : B' → B) : if c then A else B := by
  by_cases hc : c
  · rw [if_pos hc] at hw ⊢; exact k1 hw
  · rw [if_neg hc] at hw ⊢; exact k2 hw
theorem pm_wo {o : Option Nat} {k k' : Nat → Prop} (hw : pm_ob o k') (hk : ∀ r, k' r → k r) : pm_ob o k := pm_ob_mono hk hw
theorem pm_wz {y : Int32} {A A' : Prop} (hw : pm_nz y A') (k : A' → A) : pm_nz y A := pm_nz_mono k hw
theorem pm_we {x y : Int32} {A B A' B' : Prop} (hw : pm_eq x y A' B') (k1 : A' → A) (k2 : B' → B) : pm_eq x y A B := pm_eq_mono k1 k2 hw
theorem pm_wl {x y : Int32} {A B A' B' : Prop} (hw : pm_lt x y A' B') (k1 : A' → A) (k2 : B' → B) : pm_lt x y A B := pm_lt_mono k1 k2 hw
theorem pm_wc {c : Bool} {A A' : Prop} (hw : pm_ib c A') (k : A' → A) : pm_ib c A := pm_ib_mono k hw
theorem pm_eqT {x y : Int32} {A B : Prop} (h : x = y) (k : A) : pm_eq x y A B := by unfold pm_eq; rw [if_pos h]; exact k
theorem pm_eqF {x y : Int32} {A B : Prop} (h : ¬ x = y) (k : B) : pm_eq x y A B := by unfold pm_eq; rw [if_neg h]; exact k
theorem pm_ltT {x y : Int32} {A B : Prop} (h : x < y) (k : A) : pm_lt x y A B := by unfold pm_lt; rw [if_pos h]; exact k
theorem pm_ltF {x y : Int32} {A B : Prop} (h : ¬ x < y) (k : B) : pm_lt x y A B := by unfold pm_lt; rw [if_neg h]; exact k
