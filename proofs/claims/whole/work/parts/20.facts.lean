/-! WHAT THE TABLES SAY of the machine's methods, calls and fields (by program: wip/whole/facts.py) -/
def pm_w : List Cond := lw_tbl.filter goodWord
theorem pm_wm (i : Nat) {w : Cond} (h : lw_tbl[i]? = some w) (g : goodWord w = true) : w ∈ pm_w := List.mem_filter.mpr ⟨List.mem_of_getElem? h, g⟩
def pm_cn (own : Nat) : String := match own with
  | 0 => RX0
  | 1 => RX1
  | 2 => RX2
  | 3 => RX3
  | 4 => RX4
  | 5 => RX5
  | 6 => RX6
  | 7 => RX7
  | 8 => RJ7
  | _ => ""
def pm_il (i : Instr) : Nat := match i with
  | .aload_n _ => 1
  | .iload_n _ => 1
  | .istore_n _ => 1
  | .astore_n _ => 1
  | .iconst _ => 1
  | .lconst _ => 1
  | .iadd => 1
  | .isub => 1
  | .imul => 1
  | .idiv => 1
  | .irem => 1
  | .ineg => 1
  | .iushr => 1
  | .i2b => 1
  | .i2s => 1
  | .i2l => 1
  | .l2i => 1
  | .ladd => 1
  | .lmul => 1
  | .lcmp => 1
  | .dup => 1
  | .pop => 1
  | .dup_x1 => 1
  | .dup2 => 1
  | .iaload => 1
  | .iastore => 1
  | .aaload => 1
  | .arraylength => 1
  | .ireturn => 1
  | .areturn => 1
  | .return_ => 1
  | .aload _ => 2
  | .iload _ => 2
  | .lload _ => 2
  | .istore _ => 2
  | .astore _ => 2
  | .lstore _ => 2
  | .bipush _ => 2
  | .ldc _ => 2
  | .sipush _ => 3
  | .ldc_w _ => 3
  | .ldc2_w _ => 3
  | .goto _ => 3
  | .ifnull _ => 3
  | .getfield _ => 3
  | .putfield _ => 3
  | .getstatic _ => 3
  | .invokevirtual _ => 3
  | .invokestatic _ => 3
  | .iinc _ _ => 3
  | .ifCond _ _ => 3
  | .if_icmp _ _ => 3
  | _ => 0
def pm_isw (i : Instr) : Bool := match i with
  | .tableswitch _ _ _ _ => true
  | .lookupswitch _ _ => true
  | _ => false
def pm_dk (cc : ByteArray) (pc : Nat) (i : Instr) : Bool := match decode cc pc with
  | .ok (j, n) => decide (j = i) && (Nat.beq n (pm_il i) || pm_isw i)
  | .error _ => false
theorem pm_dk_ok {cc : ByteArray} {pc : Nat} {i : Instr} (h : pm_dk cc pc i = true) : ∃ n, decode cc pc = .ok (i, n) ∧ (n = pm_il i ∨ pm_isw i = true) := by
  unfold pm_dk at h
  cases e : decode cc pc with
  | error x => rw [e] at h; cases h
  | ok z =>
    obtain ⟨j, n⟩ := z
    rw [e] at h
    simp only [Bool.and_eq_true, decide_eq_true_eq, Bool.or_eq_true] at h
    obtain ⟨rfl, h2⟩ := h
    refine ⟨n, rfl, h2.imp (fun q => Nat.eq_of_beq_eq_true q) id⟩
def pm_rt (k : Nat) (ret : Option FieldType) : Prop := match k with
  | 0 => ret = none
  | 1 => ret = some .int
  | 2 => ret = some .boolean
  | 3 => ∃ nm, ret = some (.object nm)
  | _ => False
/-- a method of the machine is the method y, with the bytes cc -/
def pm_I (M : pm_M) (y : MethodName) (cc : ByteArray) (ret : Option FieldType) : Prop :=
  M.2.2.2.all (fun e => pm_dk cc e.1 e.2) = true ∧ (plainName y.cls = true ∧ y.cls = pm_cn M.1 ∧ y.cls ≠ "java/lang/invoke/MethodHandle" ∧ y.cls ≠ "java/lang/invoke/VarHandle") ∧ Cond.code y cc M.2.1 ret ∈ pm_w ∧ Cond.initialized y.cls ∈ pm_w ∧ pm_rt M.2.2.1 ret ∧ M.2.1 ≤ 21
def pm_ok0 (own : Nat) (idx : Nat) (M' : pm_M) (n : Nat) : Prop := ∃ y cc ret, pm_I M' y cc ret ∧ Cond.methodLink (pm_cn own) idx y ∈ pm_w ∧ Cond.instanceMethod y ∈ pm_w ∧ Cond.selects y.cls y y ∈ pm_w ∧ (parseMethodDescriptor y.desc).map (fun d => d.parameters.length) = some n ∧ M'.1 < 8 ∧ pm_bd M'.1 ≤ pm_bd own
def pm_ok1 (own : Nat) (idx : Nat) (M' : pm_M) (n : Nat) : Prop := ∃ y cc ret, pm_I M' y cc ret ∧ Cond.methodLink (pm_cn own) idx y ∈ pm_w ∧ Cond.static y ∈ pm_w ∧ (parseMethodDescriptor y.desc).map (fun d => d.parameters.length) = some n ∧ pm_bd M'.1 ≤ pm_bd own
def pm_lok (own : Nat) (e : Nat × (Nat × pm_M × Nat)) : Prop := match e.2.1 with
  | 0 => pm_ok0 own e.1 e.2.2.1 e.2.2.2
  | 1 => pm_ok1 own e.1 e.2.2.1 e.2.2.2
  | 2 => Cond.methodLink (pm_cn own) e.1 Lib.Math.max.name ∈ pm_w
  | 3 => Cond.methodLink (pm_cn own) e.1 Lib.Math.min.name ∈ pm_w
  | 4 => Cond.methodLink (pm_cn own) e.1 arraycopyName ∈ pm_w
  | 5 => Cond.methodLink (pm_cn own) e.1 yJ0_length_8abf5 ∈ pm_w
  | 6 => Cond.methodLink (pm_cn own) e.1 yJ0_charAt_5068e ∈ pm_w
  | _ => False
/-- a field by its link -/
def pm_fok (own : Nat) (e : Nat × (Nat × Nat)) : Prop := ∃ (C : String) (T : u_T) (N : Nat) (ty0 : Nat → FieldType), vwCl[e.2.1]? = some (C, T, N) ∧ e.2.2 < N ∧ (T e.2.2).1 = C ∧ Cond.fieldLink (pm_cn own) e.1 C (T e.2.2).2.1 (T e.2.2).2.2.1 ∈ pm_w ∧ (∀ w ∈ u_ws C T N, w ∈ pm_w) ∧ (∀ k, k < N → parseFieldDescriptor (T k).2.2.1 = some (ty0 k)) ∧ (∀ a, a < N → ∀ b, b < N → a ≠ b → (T a).2.1 ≠ (T b).2.1) ∧
  (pm_ft e.2.1 e.2.2 = 0 → ty0 e.2.2 = .int ∧ (T e.2.2).2.2.2 = false) ∧ (pm_ft e.2.1 e.2.2 = 1 → ty0 e.2.2 = .boolean ∧ (T e.2.2).2.2.2 = false) ∧ (pm_ft e.2.1 e.2.2 = 3 → (∃ nm, ty0 e.2.2 = .object nm) ∧ (T e.2.2).2.2.2 = false)
theorem pm_look_mem {β : Type} : ∀ {l : List (Nat × β)} {k : Nat} {b : β}, pm_look l k = some b → (k, b) ∈ l
  | [], _, _, h => by cases h
  | (a, b') :: l, k, b, h => by
    unfold pm_look at h
    cases e : Nat.beq a k with
    | true =>
      rw [e] at h
      have := Nat.eq_of_beq_eq_true e
      subst this
      cases h
      exact List.mem_cons_self
    | false =>
      rw [e] at h
      exact List.mem_cons_of_mem _ (pm_look_mem h)
set_option maxRecDepth 100000 in
theorem pm_uw0 : ∀ w ∈ u_ws RX0 TX0 8, w ∈ pm_w := by decide +kernel
set_option maxRecDepth 100000 in
theorem pm_uw1 : ∀ w ∈ u_ws RX1 TX1 2, w ∈ pm_w := by decide +kernel
set_option maxRecDepth 100000 in
theorem pm_uw2 : ∀ w ∈ u_ws RX2 TX2 3, w ∈ pm_w := by decide +kernel
set_option maxRecDepth 100000 in
theorem pm_uw3 : ∀ w ∈ u_ws RX3 TX3 12, w ∈ pm_w := by decide +kernel
set_option maxRecDepth 100000 in
theorem pm_uw4 : ∀ w ∈ u_ws RX4 TX4 3, w ∈ pm_w := by decide +kernel
set_option maxRecDepth 100000 in
theorem pm_uw5 : ∀ w ∈ u_ws RX5 TX5 9, w ∈ pm_w := by decide +kernel
set_option maxRecDepth 100000 in
theorem pm_uw6 : ∀ w ∈ u_ws RX6 TX6 10, w ∈ pm_w := by decide +kernel
set_option maxRecDepth 100000 in
theorem pm_uw7 : ∀ w ∈ u_ws RX7 TX7 46, w ∈ pm_w := by decide +kernel
set_option maxRecDepth 100000 in
theorem mi_X0_put : pm_I mt_X0_put yX0_put cX0_put (some .boolean) := ⟨by decide +kernel, ⟨by decide +kernel, rfl, by decide +kernel, by decide +kernel⟩, pm_wm 328 (by decide +kernel) (by decide +kernel), pm_wm 61 (by decide +kernel) (by decide +kernel), rfl, by decide⟩
set_option maxRecDepth 100000 in
theorem mi_X0_readInto : pm_I mt_X0_readInto yX0_readInto cX0_readInto (some .int) := ⟨by decide +kernel, ⟨by decide +kernel, rfl, by decide +kernel, by decide +kernel⟩, pm_wm 332 (by decide +kernel) (by decide +kernel), pm_wm 61 (by decide +kernel) (by decide +kernel), rfl, by decide⟩
set_option maxRecDepth 100000 in
theorem mi_X0_accept : pm_I mt_X0_accept yX0_accept cX0_accept none := ⟨by decide +kernel, ⟨by decide +kernel, rfl, by decide +kernel, by decide +kernel⟩, pm_wm 381 (by decide +kernel) (by decide +kernel), pm_wm 61 (by decide +kernel) (by decide +kernel), rfl, by decide⟩
set_option maxRecDepth 100000 in
theorem mi_X0_refuse : pm_I mt_X0_refuse yX0_refuse cX0_refuse none := ⟨by decide +kernel, ⟨by decide +kernel, rfl, by decide +kernel, by decide +kernel⟩, pm_wm 385 (by decide +kernel) (by decide +kernel), pm_wm 61 (by decide +kernel) (by decide +kernel), rfl, by decide⟩
set_option maxRecDepth 100000 in
theorem mi_X0_readEither : pm_I mt_X0_readEither yX0_readEither cX0_readEither none := ⟨by decide +kernel, ⟨by decide +kernel, rfl, by decide +kernel, by decide +kernel⟩, pm_wm 389 (by decide +kernel) (by decide +kernel), pm_wm 61 (by decide +kernel) (by decide +kernel), rfl, by decide⟩
set_option maxRecDepth 100000 in
theorem mi_X0_readBoth : pm_I mt_X0_readBoth yX0_readBoth cX0_readBoth none := ⟨by decide +kernel, ⟨by decide +kernel, rfl, by decide +kernel, by decide +kernel⟩, pm_wm 393 (by decide +kernel) (by decide +kernel), pm_wm 61 (by decide +kernel) (by decide +kernel), rfl, by decide⟩
set_option maxRecDepth 100000 in
theorem mi_X0_readDenied : pm_I mt_X0_readDenied yX0_readDenied cX0_readDenied none := ⟨by decide +kernel, ⟨by decide +kernel, rfl, by decide +kernel, by decide +kernel⟩, pm_wm 397 (by decide +kernel) (by decide +kernel), pm_wm 61 (by decide +kernel) (by decide +kernel), rfl, by decide⟩
set_option maxRecDepth 100000 in
theorem mi_X0_readSum : pm_I mt_X0_readSum yX0_readSum cX0_readSum none := ⟨by decide +kernel, ⟨by decide +kernel, rfl, by decide +kernel, by decide +kernel⟩, pm_wm 405 (by decide +kernel) (by decide +kernel), pm_wm 61 (by decide +kernel) (by decide +kernel), rfl, by decide⟩
set_option maxRecDepth 100000 in
theorem mi_X0_readTerm : pm_I mt_X0_readTerm yX0_readTerm cX0_readTerm none := ⟨by decide +kernel, ⟨by decide +kernel, rfl, by decide +kernel, by decide +kernel⟩, pm_wm 409 (by decide +kernel) (by decide +kernel), pm_wm 61 (by decide +kernel) (by decide +kernel), rfl, by decide⟩
set_option maxRecDepth 100000 in
theorem mi_X0_readOne : pm_I mt_X0_readOne yX0_readOne cX0_readOne none := ⟨by decide +kernel, ⟨by decide +kernel, rfl, by decide +kernel, by decide +kernel⟩, pm_wm 413 (by decide +kernel) (by decide +kernel), pm_wm 61 (by decide +kernel) (by decide +kernel), rfl, by decide⟩
set_option maxRecDepth 100000 in
theorem mi_X0_advance : pm_I mt_X0_advance yX0_advance cX0_advance none := ⟨by decide +kernel, ⟨by decide +kernel, rfl, by decide +kernel, by decide +kernel⟩, pm_wm 336 (by decide +kernel) (by decide +kernel), pm_wm 61 (by decide +kernel) (by decide +kernel), rfl, by decide⟩
set_option maxRecDepth 100000 in
theorem mi_X0_wordToken : pm_I mt_X0_wordToken yX0_wordToken cX0_wordToken (some .int) := ⟨by decide +kernel, ⟨by decide +kernel, rfl, by decide +kernel, by decide +kernel⟩, pm_wm 346 (by decide +kernel) (by decide +kernel), pm_wm 61 (by decide +kernel) (by decide +kernel), rfl, by decide⟩
set_option maxRecDepth 100000 in
theorem mi_X0_word : pm_I mt_X0_word yX0_word cX0_word (some (.object "java/lang/String")) := ⟨by decide +kernel, ⟨by decide +kernel, rfl, by decide +kernel, by decide +kernel⟩, pm_wm 349 (by decide +kernel) (by decide +kernel), pm_wm 61 (by decide +kernel) (by decide +kernel), ⟨_, rfl⟩, by decide⟩
set_option maxRecDepth 100000 in
theorem mi_X0_numberToken : pm_I mt_X0_numberToken yX0_numberToken cX0_numberToken (some .int) := ⟨by decide +kernel, ⟨by decide +kernel, rfl, by decide +kernel, by decide +kernel⟩, pm_wm 374 (by decide +kernel) (by decide +kernel), pm_wm 61 (by decide +kernel) (by decide +kernel), rfl, by decide⟩
set_option maxRecDepth 100000 in
theorem mi_X0_passed : pm_I mt_X0_passed yX0_passed cX0_passed (some .boolean) := ⟨by decide +kernel, ⟨by decide +kernel, rfl, by decide +kernel, by decide +kernel⟩, pm_wm 365 (by decide +kernel) (by decide +kernel), pm_wm 61 (by decide +kernel) (by decide +kernel), rfl, by decide⟩
set_option maxRecDepth 100000 in
theorem mi_X0_isBlank : pm_I mt_X0_isBlank yX0_isBlank cX0_isBlank (some .boolean) := ⟨by decide +kernel, ⟨by decide +kernel, rfl, by decide +kernel, by decide +kernel⟩, pm_wm 339 (by decide +kernel) (by decide +kernel), pm_wm 61 (by decide +kernel) (by decide +kernel), rfl, by decide⟩
set_option maxRecDepth 100000 in
theorem mi_X0_isLetter : pm_I mt_X0_isLetter yX0_isLetter cX0_isLetter (some .boolean) := ⟨by decide +kernel, ⟨by decide +kernel, rfl, by decide +kernel, by decide +kernel⟩, pm_wm 342 (by decide +kernel) (by decide +kernel), pm_wm 61 (by decide +kernel) (by decide +kernel), rfl, by decide⟩
set_option maxRecDepth 100000 in
theorem mi_X0_isDigit : pm_I mt_X0_isDigit yX0_isDigit cX0_isDigit (some .boolean) := ⟨by decide +kernel, ⟨by decide +kernel, rfl, by decide +kernel, by decide +kernel⟩, pm_wm 370 (by decide +kernel) (by decide +kernel), pm_wm 61 (by decide +kernel) (by decide +kernel), rfl, by decide⟩
set_option maxRecDepth 100000 in
theorem mi_X0_isSign : pm_I mt_X0_isSign yX0_isSign cX0_isSign (some .boolean) := ⟨by decide +kernel, ⟨by decide +kernel, rfl, by decide +kernel, by decide +kernel⟩, pm_wm 377 (by decide +kernel) (by decide +kernel), pm_wm 61 (by decide +kernel) (by decide +kernel), rfl, by decide⟩
set_option maxRecDepth 100000 in
theorem mi_X1_value : pm_I mt_X1_value yX1_value cX1_value (some .int) := ⟨by decide +kernel, ⟨by decide +kernel, rfl, by decide +kernel, by decide +kernel⟩, pm_wm 554 (by decide +kernel) (by decide +kernel), pm_wm 60 (by decide +kernel) (by decide +kernel), rfl, by decide⟩
set_option maxRecDepth 100000 in
theorem mi_X1_nameValue : pm_I mt_X1_nameValue yX1_nameValue cX1_nameValue (some .int) := ⟨by decide +kernel, ⟨by decide +kernel, rfl, by decide +kernel, by decide +kernel⟩, pm_wm 562 (by decide +kernel) (by decide +kernel), pm_wm 60 (by decide +kernel) (by decide +kernel), rfl, by decide⟩
set_option maxRecDepth 100000 in
theorem mi_X1_joined : pm_I mt_X1_joined yX1_joined cX1_joined (some .int) := ⟨by decide +kernel, ⟨by decide +kernel, rfl, by decide +kernel, by decide +kernel⟩, pm_wm 565 (by decide +kernel) (by decide +kernel), pm_wm 60 (by decide +kernel) (by decide +kernel), rfl, by decide⟩
set_option maxRecDepth 100000 in
theorem mi_X2_isMissing : pm_I mt_X2_isMissing yX2_isMissing cX2_isMissing (some .boolean) := ⟨by decide +kernel, ⟨by decide +kernel, rfl, by decide +kernel, by decide +kernel⟩, pm_wm 677 (by decide +kernel) (by decide +kernel), pm_wm 63 (by decide +kernel) (by decide +kernel), rfl, by decide⟩
set_option maxRecDepth 100000 in
theorem mi_X2_becomeMissing : pm_I mt_X2_becomeMissing yX2_becomeMissing cX2_becomeMissing none := ⟨by decide +kernel, ⟨by decide +kernel, rfl, by decide +kernel, by decide +kernel⟩, pm_wm 712 (by decide +kernel) (by decide +kernel), pm_wm 63 (by decide +kernel) (by decide +kernel), rfl, by decide⟩
set_option maxRecDepth 100000 in
theorem mi_X2_becomeRow : pm_I mt_X2_becomeRow yX2_becomeRow cX2_becomeRow none := ⟨by decide +kernel, ⟨by decide +kernel, rfl, by decide +kernel, by decide +kernel⟩, pm_wm 716 (by decide +kernel) (by decide +kernel), pm_wm 63 (by decide +kernel) (by decide +kernel), rfl, by decide⟩
set_option maxRecDepth 100000 in
theorem mi_X2_hasPlaces : pm_I mt_X2_hasPlaces yX2_hasPlaces cX2_hasPlaces (some .boolean) := ⟨by decide +kernel, ⟨by decide +kernel, rfl, by decide +kernel, by decide +kernel⟩, pm_wm 725 (by decide +kernel) (by decide +kernel), pm_wm 63 (by decide +kernel) (by decide +kernel), rfl, by decide⟩
set_option maxRecDepth 100000 in
theorem mi_X2_put : pm_I mt_X2_put yX2_put cX2_put none := ⟨by decide +kernel, ⟨by decide +kernel, rfl, by decide +kernel, by decide +kernel⟩, pm_wm 729 (by decide +kernel) (by decide +kernel), pm_wm 63 (by decide +kernel) (by decide +kernel), rfl, by decide⟩
set_option maxRecDepth 100000 in
theorem mi_X3_becomeLike : pm_I mt_X3_becomeLike yX3_becomeLike cX3_becomeLike none := ⟨by decide +kernel, ⟨by decide +kernel, rfl, by decide +kernel, by decide +kernel⟩, pm_wm 526 (by decide +kernel) (by decide +kernel), pm_wm 57 (by decide +kernel) (by decide +kernel), rfl, by decide⟩
set_option maxRecDepth 100000 in
theorem mi_X3_holdsOf : pm_I mt_X3_holdsOf yX3_holdsOf cX3_holdsOf (some .int) := ⟨by decide +kernel, ⟨by decide +kernel, rfl, by decide +kernel, by decide +kernel⟩, pm_wm 461 (by decide +kernel) (by decide +kernel), pm_wm 57 (by decide +kernel) (by decide +kernel), rfl, by decide⟩
set_option maxRecDepth 100000 in
theorem mi_X3_roomOn : pm_I mt_X3_roomOn yX3_roomOn cX3_roomOn (some .int) := ⟨by decide +kernel, ⟨by decide +kernel, rfl, by decide +kernel, by decide +kernel⟩, pm_wm 570 (by decide +kernel) (by decide +kernel), pm_wm 57 (by decide +kernel) (by decide +kernel), rfl, by decide⟩
set_option maxRecDepth 100000 in
theorem mi_X3_passes : pm_I mt_X3_passes yX3_passes cX3_passes (some .int) := ⟨by decide +kernel, ⟨by decide +kernel, rfl, by decide +kernel, by decide +kernel⟩, pm_wm 494 (by decide +kernel) (by decide +kernel), pm_wm 57 (by decide +kernel) (by decide +kernel), rfl, by decide⟩
set_option maxRecDepth 100000 in
theorem mi_X3_countOnSteps : pm_I mt_X3_countOnSteps yX3_countOnSteps cX3_countOnSteps (some .int) := ⟨by decide +kernel, ⟨by decide +kernel, rfl, by decide +kernel, by decide +kernel⟩, pm_wm 597 (by decide +kernel) (by decide +kernel), pm_wm 57 (by decide +kernel) (by decide +kernel), rfl, by decide⟩
set_option maxRecDepth 100000 in
theorem mi_X3_countIn : pm_I mt_X3_countIn yX3_countIn cX3_countIn (some .int) := ⟨by decide +kernel, ⟨by decide +kernel, rfl, by decide +kernel, by decide +kernel⟩, pm_wm 538 (by decide +kernel) (by decide +kernel), pm_wm 57 (by decide +kernel) (by decide +kernel), rfl, by decide⟩
set_option maxRecDepth 100000 in
theorem mi_X3_isAllOut : pm_I mt_X3_isAllOut yX3_isAllOut cX3_isAllOut (some .boolean) := ⟨by decide +kernel, ⟨by decide +kernel, rfl, by decide +kernel, by decide +kernel⟩, pm_wm 592 (by decide +kernel) (by decide +kernel), pm_wm 57 (by decide +kernel) (by decide +kernel), rfl, by decide⟩
set_option maxRecDepth 100000 in
theorem mi_X4_add : pm_I mt_X4_add yX4_add cX4_add none := ⟨by decide +kernel, ⟨by decide +kernel, rfl, by decide +kernel, by decide +kernel⟩, pm_wm 401 (by decide +kernel) (by decide +kernel), pm_wm 62 (by decide +kernel) (by decide +kernel), rfl, by decide⟩
set_option maxRecDepth 100000 in
theorem mi_X4_startOf : pm_I mt_X4_startOf yX4_startOf cX4_startOf (some .int) := ⟨by decide +kernel, ⟨by decide +kernel, rfl, by decide +kernel, by decide +kernel⟩, pm_wm 558 (by decide +kernel) (by decide +kernel), pm_wm 62 (by decide +kernel) (by decide +kernel), rfl, by decide⟩
set_option maxRecDepth 100000 in
theorem mi_X5_begin : pm_I mt_X5_begin yX5_begin cX5_begin none := ⟨by decide +kernel, ⟨by decide +kernel, rfl, by decide +kernel, by decide +kernel⟩, pm_wm 522 (by decide +kernel) (by decide +kernel), pm_wm 59 (by decide +kernel) (by decide +kernel), rfl, by decide⟩
set_option maxRecDepth 100000 in
theorem mi_X5_runOut : pm_I mt_X5_runOut yX5_runOut cX5_runOut (some .int) := ⟨by decide +kernel, ⟨by decide +kernel, rfl, by decide +kernel, by decide +kernel⟩, pm_wm 588 (by decide +kernel) (by decide +kernel), pm_wm 59 (by decide +kernel) (by decide +kernel), rfl, by decide⟩
set_option maxRecDepth 100000 in
theorem mi_X5_passTick : pm_I mt_X5_passTick yX5_passTick cX5_passTick none := ⟨by decide +kernel, ⟨by decide +kernel, rfl, by decide +kernel, by decide +kernel⟩, pm_wm 534 (by decide +kernel) (by decide +kernel), pm_wm 59 (by decide +kernel) (by decide +kernel), rfl, by decide⟩
set_option maxRecDepth 100000 in
theorem mi_X5_leaveStep : pm_I mt_X5_leaveStep yX5_leaveStep cX5_leaveStep none := ⟨by decide +kernel, ⟨by decide +kernel, rfl, by decide +kernel, by decide +kernel⟩, pm_wm 543 (by decide +kernel) (by decide +kernel), pm_wm 59 (by decide +kernel) (by decide +kernel), rfl, by decide⟩
set_option maxRecDepth 100000 in
theorem mi_X5_stepOnFloor : pm_I mt_X5_stepOnFloor yX5_stepOnFloor cX5_stepOnFloor none := ⟨by decide +kernel, ⟨by decide +kernel, rfl, by decide +kernel, by decide +kernel⟩, pm_wm 575 (by decide +kernel) (by decide +kernel), pm_wm 59 (by decide +kernel) (by decide +kernel), rfl, by decide⟩
set_option maxRecDepth 100000 in
theorem mi_X5_countStanding : pm_I mt_X5_countStanding yX5_countStanding cX5_countStanding none := ⟨by decide +kernel, ⟨by decide +kernel, rfl, by decide +kernel, by decide +kernel⟩, pm_wm 579 (by decide +kernel) (by decide +kernel), pm_wm 59 (by decide +kernel) (by decide +kernel), rfl, by decide⟩
set_option maxRecDepth 100000 in
theorem mi_X5_reckon : pm_I mt_X5_reckon yX5_reckon cX5_reckon (some .int) := ⟨by decide +kernel, ⟨by decide +kernel, rfl, by decide +kernel, by decide +kernel⟩, pm_wm 550 (by decide +kernel) (by decide +kernel), pm_wm 59 (by decide +kernel) (by decide +kernel), rfl, by decide⟩
set_option maxRecDepth 100000 in
theorem mi_X6_step : pm_I mt_X6_step yX6_step cX6_step (some .int) := ⟨by decide +kernel, ⟨by decide +kernel, rfl, by decide +kernel, by decide +kernel⟩, pm_wm 449 (by decide +kernel) (by decide +kernel), pm_wm 56 (by decide +kernel) (by decide +kernel), rfl, by decide⟩
set_option maxRecDepth 100000 in
theorem mi_X6_come : pm_I mt_X6_come yX6_come cX6_come (some .int) := ⟨by decide +kernel, ⟨by decide +kernel, rfl, by decide +kernel, by decide +kernel⟩, pm_wm 468 (by decide +kernel) (by decide +kernel), pm_wm 56 (by decide +kernel) (by decide +kernel), rfl, by decide⟩
set_option maxRecDepth 100000 in
theorem mi_X6_set : pm_I mt_X6_set yX6_set cX6_set (some .int) := ⟨by decide +kernel, ⟨by decide +kernel, rfl, by decide +kernel, by decide +kernel⟩, pm_wm 475 (by decide +kernel) (by decide +kernel), pm_wm 56 (by decide +kernel) (by decide +kernel), rfl, by decide⟩
set_option maxRecDepth 100000 in
theorem mi_X6_told : pm_I mt_X6_told yX6_told cX6_told (some .int) := ⟨by decide +kernel, ⟨by decide +kernel, rfl, by decide +kernel, by decide +kernel⟩, pm_wm 486 (by decide +kernel) (by decide +kernel), pm_wm 56 (by decide +kernel) (by decide +kernel), rfl, by decide⟩
set_option maxRecDepth 100000 in
theorem mi_X6_feed : pm_I mt_X6_feed yX6_feed cX6_feed (some .int) := ⟨by decide +kernel, ⟨by decide +kernel, rfl, by decide +kernel, by decide +kernel⟩, pm_wm 502 (by decide +kernel) (by decide +kernel), pm_wm 56 (by decide +kernel) (by decide +kernel), rfl, by decide⟩
set_option maxRecDepth 100000 in
theorem mi_X6_text : pm_I mt_X6_text yX6_text cX6_text (some .int) := ⟨by decide +kernel, ⟨by decide +kernel, rfl, by decide +kernel, by decide +kernel⟩, pm_wm 506 (by decide +kernel) (by decide +kernel), pm_wm 56 (by decide +kernel) (by decide +kernel), rfl, by decide⟩
set_option maxRecDepth 100000 in
theorem mi_X6_force : pm_I mt_X6_force yX6_force cX6_force (some .int) := ⟨by decide +kernel, ⟨by decide +kernel, rfl, by decide +kernel, by decide +kernel⟩, pm_wm 510 (by decide +kernel) (by decide +kernel), pm_wm 56 (by decide +kernel) (by decide +kernel), rfl, by decide⟩
set_option maxRecDepth 100000 in
theorem mi_X6_tick : pm_I mt_X6_tick yX6_tick cX6_tick (some .int) := ⟨by decide +kernel, ⟨by decide +kernel, rfl, by decide +kernel, by decide +kernel⟩, pm_wm 514 (by decide +kernel) (by decide +kernel), pm_wm 56 (by decide +kernel) (by decide +kernel), rfl, by decide⟩
set_option maxRecDepth 100000 in
theorem mi_X6_run : pm_I mt_X6_run yX6_run cX6_run (some .int) := ⟨by decide +kernel, ⟨by decide +kernel, rfl, by decide +kernel, by decide +kernel⟩, pm_wm 584 (by decide +kernel) (by decide +kernel), pm_wm 56 (by decide +kernel) (by decide +kernel), rfl, by decide⟩
set_option maxRecDepth 100000 in
theorem mi_X6_on : pm_I mt_X6_on yX6_on cX6_on (some .int) := ⟨by decide +kernel, ⟨by decide +kernel, rfl, by decide +kernel, by decide +kernel⟩, pm_wm 602 (by decide +kernel) (by decide +kernel), pm_wm 56 (by decide +kernel) (by decide +kernel), rfl, by decide⟩
set_option maxRecDepth 100000 in
theorem mi_X6_holdsUp : pm_I mt_X6_holdsUp yX6_holdsUp cX6_holdsUp (some .int) := ⟨by decide +kernel, ⟨by decide +kernel, rfl, by decide +kernel, by decide +kernel⟩, pm_wm 606 (by decide +kernel) (by decide +kernel), pm_wm 56 (by decide +kernel) (by decide +kernel), rfl, by decide⟩
set_option maxRecDepth 100000 in
theorem mi_X6_widen : pm_I mt_X6_widen yX6_widen cX6_widen (some .int) := ⟨by decide +kernel, ⟨by decide +kernel, rfl, by decide +kernel, by decide +kernel⟩, pm_wm 610 (by decide +kernel) (by decide +kernel), pm_wm 56 (by decide +kernel) (by decide +kernel), rfl, by decide⟩
set_option maxRecDepth 100000 in
theorem mi_X6_later : pm_I mt_X6_later yX6_later cX6_later (some .int) := ⟨by decide +kernel, ⟨by decide +kernel, rfl, by decide +kernel, by decide +kernel⟩, pm_wm 614 (by decide +kernel) (by decide +kernel), pm_wm 56 (by decide +kernel) (by decide +kernel), rfl, by decide⟩
set_option maxRecDepth 100000 in
theorem mi_X6_apart : pm_I mt_X6_apart yX6_apart cX6_apart (some .int) := ⟨by decide +kernel, ⟨by decide +kernel, rfl, by decide +kernel, by decide +kernel⟩, pm_wm 619 (by decide +kernel) (by decide +kernel), pm_wm 56 (by decide +kernel) (by decide +kernel), rfl, by decide⟩
set_option maxRecDepth 100000 in
theorem mi_X6_order : pm_I mt_X6_order yX6_order cX6_order (some .int) := ⟨by decide +kernel, ⟨by decide +kernel, rfl, by decide +kernel, by decide +kernel⟩, pm_wm 636 (by decide +kernel) (by decide +kernel), pm_wm 56 (by decide +kernel) (by decide +kernel), rfl, by decide⟩
set_option maxRecDepth 100000 in
theorem mi_X6_shut : pm_I mt_X6_shut yX6_shut cX6_shut (some .int) := ⟨by decide +kernel, ⟨by decide +kernel, rfl, by decide +kernel, by decide +kernel⟩, pm_wm 662 (by decide +kernel) (by decide +kernel), pm_wm 56 (by decide +kernel) (by decide +kernel), rfl, by decide⟩
set_option maxRecDepth 100000 in
theorem mi_X6_drill : pm_I mt_X6_drill yX6_drill cX6_drill (some .int) := ⟨by decide +kernel, ⟨by decide +kernel, rfl, by decide +kernel, by decide +kernel⟩, pm_wm 666 (by decide +kernel) (by decide +kernel), pm_wm 56 (by decide +kernel) (by decide +kernel), rfl, by decide⟩
set_option maxRecDepth 100000 in
theorem mi_X6_judge : pm_I mt_X6_judge yX6_judge cX6_judge (some .int) := ⟨by decide +kernel, ⟨by decide +kernel, rfl, by decide +kernel, by decide +kernel⟩, pm_wm 670 (by decide +kernel) (by decide +kernel), pm_wm 56 (by decide +kernel) (by decide +kernel), rfl, by decide⟩
set_option maxRecDepth 100000 in
theorem mi_X6_look : pm_I mt_X6_look yX6_look cX6_look (some .int) := ⟨by decide +kernel, ⟨by decide +kernel, rfl, by decide +kernel, by decide +kernel⟩, pm_wm 681 (by decide +kernel) (by decide +kernel), pm_wm 56 (by decide +kernel) (by decide +kernel), rfl, by decide⟩
set_option maxRecDepth 100000 in
theorem mi_X6_drawn : pm_I mt_X6_drawn yX6_drawn cX6_drawn (some .int) := ⟨by decide +kernel, ⟨by decide +kernel, rfl, by decide +kernel, by decide +kernel⟩, pm_wm 686 (by decide +kernel) (by decide +kernel), pm_wm 56 (by decide +kernel) (by decide +kernel), rfl, by decide⟩
set_option maxRecDepth 100000 in
theorem mi_X6_image : pm_I mt_X6_image yX6_image cX6_image (some .int) := ⟨by decide +kernel, ⟨by decide +kernel, rfl, by decide +kernel, by decide +kernel⟩, pm_wm 691 (by decide +kernel) (by decide +kernel), pm_wm 56 (by decide +kernel) (by decide +kernel), rfl, by decide⟩
set_option maxRecDepth 100000 in
theorem mi_X6_back : pm_I mt_X6_back yX6_back cX6_back (some .int) := ⟨by decide +kernel, ⟨by decide +kernel, rfl, by decide +kernel, by decide +kernel⟩, pm_wm 695 (by decide +kernel) (by decide +kernel), pm_wm 56 (by decide +kernel) (by decide +kernel), rfl, by decide⟩
set_option maxRecDepth 100000 in
theorem mi_X6_count : pm_I mt_X6_count yX6_count cX6_count (some .int) := ⟨by decide +kernel, ⟨by decide +kernel, rfl, by decide +kernel, by decide +kernel⟩, pm_wm 699 (by decide +kernel) (by decide +kernel), pm_wm 56 (by decide +kernel) (by decide +kernel), rfl, by decide⟩
set_option maxRecDepth 100000 in
theorem mi_X6_sheet : pm_I mt_X6_sheet yX6_sheet cX6_sheet (some .int) := ⟨by decide +kernel, ⟨by decide +kernel, rfl, by decide +kernel, by decide +kernel⟩, pm_wm 705 (by decide +kernel) (by decide +kernel), pm_wm 56 (by decide +kernel) (by decide +kernel), rfl, by decide⟩
set_option maxRecDepth 100000 in
theorem mi_X6_cell : pm_I mt_X6_cell yX6_cell cX6_cell (some .int) := ⟨by decide +kernel, ⟨by decide +kernel, rfl, by decide +kernel, by decide +kernel⟩, pm_wm 721 (by decide +kernel) (by decide +kernel), pm_wm 56 (by decide +kernel) (by decide +kernel), rfl, by decide⟩
set_option maxRecDepth 100000 in
theorem mi_X6_copy : pm_I mt_X6_copy yX6_copy cX6_copy (some .int) := ⟨by decide +kernel, ⟨by decide +kernel, rfl, by decide +kernel, by decide +kernel⟩, pm_wm 733 (by decide +kernel) (by decide +kernel), pm_wm 56 (by decide +kernel) (by decide +kernel), rfl, by decide⟩
set_option maxRecDepth 100000 in
theorem mi_X6_classes : pm_I mt_X6_classes yX6_classes cX6_classes (some .int) := ⟨by decide +kernel, ⟨by decide +kernel, rfl, by decide +kernel, by decide +kernel⟩, pm_wm 737 (by decide +kernel) (by decide +kernel), pm_wm 56 (by decide +kernel) (by decide +kernel), rfl, by decide⟩
set_option maxRecDepth 100000 in
theorem mi_X6_taken : pm_I mt_X6_taken yX6_taken cX6_taken (some .int) := ⟨by decide +kernel, ⟨by decide +kernel, rfl, by decide +kernel, by decide +kernel⟩, pm_wm 742 (by decide +kernel) (by decide +kernel), pm_wm 56 (by decide +kernel) (by decide +kernel), rfl, by decide⟩
set_option maxRecDepth 100000 in
theorem mi_X6_between : pm_I mt_X6_between yX6_between cX6_between (some .boolean) := ⟨by decide +kernel, ⟨by decide +kernel, rfl, by decide +kernel, by decide +kernel⟩, pm_wm 455 (by decide +kernel) (by decide +kernel), pm_wm 56 (by decide +kernel) (by decide +kernel), rfl, by decide⟩
set_option maxRecDepth 100000 in
theorem mi_X6_isStep : pm_I mt_X6_isStep yX6_isStep cX6_isStep (some .boolean) := ⟨by decide +kernel, ⟨by decide +kernel, rfl, by decide +kernel, by decide +kernel⟩, pm_wm 452 (by decide +kernel) (by decide +kernel), pm_wm 56 (by decide +kernel) (by decide +kernel), rfl, by decide⟩
set_option maxRecDepth 100000 in
theorem mi_X6_isKind : pm_I mt_X6_isKind yX6_isKind cX6_isKind (some .boolean) := ⟨by decide +kernel, ⟨by decide +kernel, rfl, by decide +kernel, by decide +kernel⟩, pm_wm 458 (by decide +kernel) (by decide +kernel), pm_wm 56 (by decide +kernel) (by decide +kernel), rfl, by decide⟩
set_option maxRecDepth 100000 in
theorem mi_X6_isSheet : pm_I mt_X6_isSheet yX6_isSheet cX6_isSheet (some .boolean) := ⟨by decide +kernel, ⟨by decide +kernel, rfl, by decide +kernel, by decide +kernel⟩, pm_wm 673 (by decide +kernel) (by decide +kernel), pm_wm 56 (by decide +kernel) (by decide +kernel), rfl, by decide⟩
set_option maxRecDepth 100000 in
theorem mi_X6_isSort : pm_I mt_X6_isSort yX6_isSort cX6_isSort (some .boolean) := ⟨by decide +kernel, ⟨by decide +kernel, rfl, by decide +kernel, by decide +kernel⟩, pm_wm 708 (by decide +kernel) (by decide +kernel), pm_wm 56 (by decide +kernel) (by decide +kernel), rfl, by decide⟩
set_option maxRecDepth 100000 in
theorem mi_X6_isBellAndEvery : pm_I mt_X6_isBellAndEvery yX6_isBellAndEvery cX6_isBellAndEvery (some .boolean) := ⟨by decide +kernel, ⟨by decide +kernel, rfl, by decide +kernel, by decide +kernel⟩, pm_wm 471 (by decide +kernel) (by decide +kernel), pm_wm 56 (by decide +kernel) (by decide +kernel), rfl, by decide⟩
set_option maxRecDepth 100000 in
theorem mi_X6_isUnder : pm_I mt_X6_isUnder yX6_isUnder cX6_isUnder (some .boolean) := ⟨by decide +kernel, ⟨by decide +kernel, rfl, by decide +kernel, by decide +kernel⟩, pm_wm 745 (by decide +kernel) (by decide +kernel), pm_wm 56 (by decide +kernel) (by decide +kernel), rfl, by decide⟩
set_option maxRecDepth 100000 in
theorem mi_X6_isClass : pm_I mt_X6_isClass yX6_isClass cX6_isClass (some .boolean) := ⟨by decide +kernel, ⟨by decide +kernel, rfl, by decide +kernel, by decide +kernel⟩, pm_wm 479 (by decide +kernel) (by decide +kernel), pm_wm 56 (by decide +kernel) (by decide +kernel), rfl, by decide⟩
set_option maxRecDepth 100000 in
theorem mi_X6_exchange : pm_I mt_X6_exchange yX6_exchange cX6_exchange (some .int) := ⟨by decide +kernel, ⟨by decide +kernel, rfl, by decide +kernel, by decide +kernel⟩, pm_wm 482 (by decide +kernel) (by decide +kernel), pm_wm 56 (by decide +kernel) (by decide +kernel), rfl, by decide⟩
set_option maxRecDepth 100000 in
theorem mi_X6_toldOfStep : pm_I mt_X6_toldOfStep yX6_toldOfStep cX6_toldOfStep (some .int) := ⟨by decide +kernel, ⟨by decide +kernel, rfl, by decide +kernel, by decide +kernel⟩, pm_wm 490 (by decide +kernel) (by decide +kernel), pm_wm 56 (by decide +kernel) (by decide +kernel), rfl, by decide⟩
set_option maxRecDepth 100000 in
theorem mi_X6_toldOfClass : pm_I mt_X6_toldOfClass yX6_toldOfClass cX6_toldOfClass (some .int) := ⟨by decide +kernel, ⟨by decide +kernel, rfl, by decide +kernel, by decide +kernel⟩, pm_wm 498 (by decide +kernel) (by decide +kernel), pm_wm 56 (by decide +kernel) (by decide +kernel), rfl, by decide⟩
set_option maxRecDepth 100000 in
theorem mi_X6_beginTrial : pm_I mt_X6_beginTrial yX6_beginTrial cX6_beginTrial none := ⟨by decide +kernel, ⟨by decide +kernel, rfl, by decide +kernel, by decide +kernel⟩, pm_wm 518 (by decide +kernel) (by decide +kernel), pm_wm 56 (by decide +kernel) (by decide +kernel), rfl, by decide⟩
set_option maxRecDepth 100000 in
theorem mi_X6_beginTrialApart : pm_I mt_X6_beginTrialApart yX6_beginTrialApart cX6_beginTrialApart none := ⟨by decide +kernel, ⟨by decide +kernel, rfl, by decide +kernel, by decide +kernel⟩, pm_wm 627 (by decide +kernel) (by decide +kernel), pm_wm 56 (by decide +kernel) (by decide +kernel), rfl, by decide⟩
set_option maxRecDepth 100000 in
theorem mi_X6_leastApart : pm_I mt_X6_leastApart yX6_leastApart cX6_leastApart (some .int) := ⟨by decide +kernel, ⟨by decide +kernel, rfl, by decide +kernel, by decide +kernel⟩, pm_wm 623 (by decide +kernel) (by decide +kernel), pm_wm 56 (by decide +kernel) (by decide +kernel), rfl, by decide⟩
set_option maxRecDepth 100000 in
theorem mi_X6_soonestApart : pm_I mt_X6_soonestApart yX6_soonestApart cX6_soonestApart (some .int) := ⟨by decide +kernel, ⟨by decide +kernel, rfl, by decide +kernel, by decide +kernel⟩, pm_wm 632 (by decide +kernel) (by decide +kernel), pm_wm 56 (by decide +kernel) (by decide +kernel), rfl, by decide⟩
set_option maxRecDepth 100000 in
theorem mi_X6_beginTrialInOrder : pm_I mt_X6_beginTrialInOrder yX6_beginTrialInOrder cX6_beginTrialInOrder none := ⟨by decide +kernel, ⟨by decide +kernel, rfl, by decide +kernel, by decide +kernel⟩, pm_wm 649 (by decide +kernel) (by decide +kernel), pm_wm 56 (by decide +kernel) (by decide +kernel), rfl, by decide⟩
set_option maxRecDepth 100000 in
theorem mi_X6_isLikeAnEarlierRow : pm_I mt_X6_isLikeAnEarlierRow yX6_isLikeAnEarlierRow cX6_isLikeAnEarlierRow (some .boolean) := ⟨by decide +kernel, ⟨by decide +kernel, rfl, by decide +kernel, by decide +kernel⟩, pm_wm 640 (by decide +kernel) (by decide +kernel), pm_wm 56 (by decide +kernel) (by decide +kernel), rfl, by decide⟩
set_option maxRecDepth 100000 in
theorem mi_X6_ringsAt : pm_I mt_X6_ringsAt yX6_ringsAt cX6_ringsAt (some .int) := ⟨by decide +kernel, ⟨by decide +kernel, rfl, by decide +kernel, by decide +kernel⟩, pm_wm 644 (by decide +kernel) (by decide +kernel), pm_wm 56 (by decide +kernel) (by decide +kernel), rfl, by decide⟩
set_option maxRecDepth 100000 in
theorem mi_X6_nextBellRow : pm_I mt_X6_nextBellRow yX6_nextBellRow cX6_nextBellRow (some .boolean) := ⟨by decide +kernel, ⟨by decide +kernel, rfl, by decide +kernel, by decide +kernel⟩, pm_wm 654 (by decide +kernel) (by decide +kernel), pm_wm 56 (by decide +kernel) (by decide +kernel), rfl, by decide⟩
set_option maxRecDepth 100000 in
theorem mi_X6_swapBells : pm_I mt_X6_swapBells yX6_swapBells cX6_swapBells none := ⟨by decide +kernel, ⟨by decide +kernel, rfl, by decide +kernel, by decide +kernel⟩, pm_wm 658 (by decide +kernel) (by decide +kernel), pm_wm 56 (by decide +kernel) (by decide +kernel), rfl, by decide⟩
set_option maxRecDepth 100000 in
theorem mi_X7_within : pm_I mt_X7_within yX7_within cX7_within (some .boolean) := ⟨by decide +kernel, ⟨by decide +kernel, rfl, by decide +kernel, by decide +kernel⟩, pm_wm 763 (by decide +kernel) (by decide +kernel), pm_wm 68 (by decide +kernel) (by decide +kernel), rfl, by decide⟩
set_option maxRecDepth 100000 in
theorem mi_X7_isClass : pm_I mt_X7_isClass yX7_isClass cX7_isClass (some .boolean) := ⟨by decide +kernel, ⟨by decide +kernel, rfl, by decide +kernel, by decide +kernel⟩, pm_wm 991 (by decide +kernel) (by decide +kernel), pm_wm 68 (by decide +kernel) (by decide +kernel), rfl, by decide⟩
set_option maxRecDepth 100000 in
theorem mi_X7_holds : pm_I mt_X7_holds yX7_holds cX7_holds (some .int) := ⟨by decide +kernel, ⟨by decide +kernel, rfl, by decide +kernel, by decide +kernel⟩, pm_wm 979 (by decide +kernel) (by decide +kernel), pm_wm 68 (by decide +kernel) (by decide +kernel), rfl, by decide⟩
set_option maxRecDepth 100000 in
theorem mi_X7_holds_ : pm_I mt_X7_holds_ yX7_holds_ cX7_holds_ (some .int) := ⟨by decide +kernel, ⟨by decide +kernel, rfl, by decide +kernel, by decide +kernel⟩, pm_wm 999 (by decide +kernel) (by decide +kernel), pm_wm 68 (by decide +kernel) (by decide +kernel), rfl, by decide⟩
set_option maxRecDepth 100000 in
theorem mi_X7_passes : pm_I mt_X7_passes yX7_passes cX7_passes (some .int) := ⟨by decide +kernel, ⟨by decide +kernel, rfl, by decide +kernel, by decide +kernel⟩, pm_wm 1003 (by decide +kernel) (by decide +kernel), pm_wm 68 (by decide +kernel) (by decide +kernel), rfl, by decide⟩
set_option maxRecDepth 100000 in
theorem mi_X7_step : pm_I mt_X7_step yX7_step cX7_step (some .int) := ⟨by decide +kernel, ⟨by decide +kernel, rfl, by decide +kernel, by decide +kernel⟩, pm_wm 976 (by decide +kernel) (by decide +kernel), pm_wm 68 (by decide +kernel) (by decide +kernel), rfl, by decide⟩
set_option maxRecDepth 100000 in
theorem mi_X7_come : pm_I mt_X7_come yX7_come cX7_come (some .int) := ⟨by decide +kernel, ⟨by decide +kernel, rfl, by decide +kernel, by decide +kernel⟩, pm_wm 983 (by decide +kernel) (by decide +kernel), pm_wm 68 (by decide +kernel) (by decide +kernel), rfl, by decide⟩
set_option maxRecDepth 100000 in
theorem mi_X7_set : pm_I mt_X7_set yX7_set cX7_set (some .int) := ⟨by decide +kernel, ⟨by decide +kernel, rfl, by decide +kernel, by decide +kernel⟩, pm_wm 987 (by decide +kernel) (by decide +kernel), pm_wm 68 (by decide +kernel) (by decide +kernel), rfl, by decide⟩
set_option maxRecDepth 100000 in
theorem mi_X7_told : pm_I mt_X7_told yX7_told cX7_told (some .int) := ⟨by decide +kernel, ⟨by decide +kernel, rfl, by decide +kernel, by decide +kernel⟩, pm_wm 995 (by decide +kernel) (by decide +kernel), pm_wm 68 (by decide +kernel) (by decide +kernel), rfl, by decide⟩
set_option maxRecDepth 100000 in
theorem mi_X7_feed : pm_I mt_X7_feed yX7_feed cX7_feed (some .int) := ⟨by decide +kernel, ⟨by decide +kernel, rfl, by decide +kernel, by decide +kernel⟩, pm_wm 760 (by decide +kernel) (by decide +kernel), pm_wm 68 (by decide +kernel) (by decide +kernel), rfl, by decide⟩
set_option maxRecDepth 100000 in
theorem mi_X7_next : pm_I mt_X7_next yX7_next cX7_next none := ⟨by decide +kernel, ⟨by decide +kernel, rfl, by decide +kernel, by decide +kernel⟩, pm_wm 771 (by decide +kernel) (by decide +kernel), pm_wm 68 (by decide +kernel) (by decide +kernel), rfl, by decide⟩
set_option maxRecDepth 100000 in
theorem mi_X7_isDigit : pm_I mt_X7_isDigit yX7_isDigit cX7_isDigit (some .boolean) := ⟨by decide +kernel, ⟨by decide +kernel, rfl, by decide +kernel, by decide +kernel⟩, pm_wm 774 (by decide +kernel) (by decide +kernel), pm_wm 68 (by decide +kernel) (by decide +kernel), rfl, by decide⟩
set_option maxRecDepth 100000 in
theorem mi_X7_isLetter : pm_I mt_X7_isLetter yX7_isLetter cX7_isLetter (some .boolean) := ⟨by decide +kernel, ⟨by decide +kernel, rfl, by decide +kernel, by decide +kernel⟩, pm_wm 777 (by decide +kernel) (by decide +kernel), pm_wm 68 (by decide +kernel) (by decide +kernel), rfl, by decide⟩
set_option maxRecDepth 100000 in
theorem mi_X7_is : pm_I mt_X7_is yX7_is cX7_is (some .boolean) := ⟨by decide +kernel, ⟨by decide +kernel, rfl, by decide +kernel, by decide +kernel⟩, pm_wm 786 (by decide +kernel) (by decide +kernel), pm_wm 68 (by decide +kernel) (by decide +kernel), rfl, by decide⟩
set_option maxRecDepth 100000 in
theorem mi_X7_is_ : pm_I mt_X7_is_ yX7_is_ cX7_is_ (some .boolean) := ⟨by decide +kernel, ⟨by decide +kernel, rfl, by decide +kernel, by decide +kernel⟩, pm_wm 829 (by decide +kernel) (by decide +kernel), pm_wm 68 (by decide +kernel) (by decide +kernel), rfl, by decide⟩
set_option maxRecDepth 100000 in
theorem mi_X7_name : pm_I mt_X7_name yX7_name cX7_name (some .int) := ⟨by decide +kernel, ⟨by decide +kernel, rfl, by decide +kernel, by decide +kernel⟩, pm_wm 819 (by decide +kernel) (by decide +kernel), pm_wm 68 (by decide +kernel) (by decide +kernel), rfl, by decide⟩
set_option maxRecDepth 100000 in
theorem mi_X7_put : pm_I mt_X7_put yX7_put cX7_put none := ⟨by decide +kernel, ⟨by decide +kernel, rfl, by decide +kernel, by decide +kernel⟩, pm_wm 803 (by decide +kernel) (by decide +kernel), pm_wm 68 (by decide +kernel) (by decide +kernel), rfl, by decide⟩
set_option maxRecDepth 100000 in
theorem mi_X7_any : pm_I mt_X7_any yX7_any cX7_any (some .boolean) := ⟨by decide +kernel, ⟨by decide +kernel, rfl, by decide +kernel, by decide +kernel⟩, pm_wm 790 (by decide +kernel) (by decide +kernel), pm_wm 68 (by decide +kernel) (by decide +kernel), rfl, by decide⟩
set_option maxRecDepth 100000 in
theorem mi_X7_both : pm_I mt_X7_both yX7_both cX7_both (some .boolean) := ⟨by decide +kernel, ⟨by decide +kernel, rfl, by decide +kernel, by decide +kernel⟩, pm_wm 794 (by decide +kernel) (by decide +kernel), pm_wm 68 (by decide +kernel) (by decide +kernel), rfl, by decide⟩
set_option maxRecDepth 100000 in
theorem mi_X7_not : pm_I mt_X7_not yX7_not cX7_not (some .boolean) := ⟨by decide +kernel, ⟨by decide +kernel, rfl, by decide +kernel, by decide +kernel⟩, pm_wm 798 (by decide +kernel) (by decide +kernel), pm_wm 68 (by decide +kernel) (by decide +kernel), rfl, by decide⟩
set_option maxRecDepth 100000 in
theorem mi_X7_sum : pm_I mt_X7_sum yX7_sum cX7_sum (some .boolean) := ⟨by decide +kernel, ⟨by decide +kernel, rfl, by decide +kernel, by decide +kernel⟩, pm_wm 807 (by decide +kernel) (by decide +kernel), pm_wm 68 (by decide +kernel) (by decide +kernel), rfl, by decide⟩
set_option maxRecDepth 100000 in
theorem mi_X7_term : pm_I mt_X7_term yX7_term cX7_term (some .boolean) := ⟨by decide +kernel, ⟨by decide +kernel, rfl, by decide +kernel, by decide +kernel⟩, pm_wm 811 (by decide +kernel) (by decide +kernel), pm_wm 68 (by decide +kernel) (by decide +kernel), rfl, by decide⟩
set_option maxRecDepth 100000 in
theorem mi_X7_one : pm_I mt_X7_one yX7_one cX7_one (some .boolean) := ⟨by decide +kernel, ⟨by decide +kernel, rfl, by decide +kernel, by decide +kernel⟩, pm_wm 815 (by decide +kernel) (by decide +kernel), pm_wm 68 (by decide +kernel) (by decide +kernel), rfl, by decide⟩
set_option maxRecDepth 100000 in
theorem mi_X7_part : pm_I mt_X7_part yX7_part cX7_part (some .boolean) := ⟨by decide +kernel, ⟨by decide +kernel, rfl, by decide +kernel, by decide +kernel⟩, pm_wm 782 (by decide +kernel) (by decide +kernel), pm_wm 68 (by decide +kernel) (by decide +kernel), rfl, by decide⟩
set_option maxRecDepth 100000 in
theorem mi_X7_text : pm_I mt_X7_text yX7_text cX7_text (some .int) := ⟨by decide +kernel, ⟨by decide +kernel, rfl, by decide +kernel, by decide +kernel⟩, pm_wm 767 (by decide +kernel) (by decide +kernel), pm_wm 68 (by decide +kernel) (by decide +kernel), rfl, by decide⟩
set_option maxRecDepth 100000 in
theorem mi_X7_force : pm_I mt_X7_force yX7_force cX7_force (some .int) := ⟨by decide +kernel, ⟨by decide +kernel, rfl, by decide +kernel, by decide +kernel⟩, pm_wm 1009 (by decide +kernel) (by decide +kernel), pm_wm 68 (by decide +kernel) (by decide +kernel), rfl, by decide⟩
set_option maxRecDepth 100000 in
theorem mi_X7_worth : pm_I mt_X7_worth yX7_worth cX7_worth (some .int) := ⟨by decide +kernel, ⟨by decide +kernel, rfl, by decide +kernel, by decide +kernel⟩, pm_wm 1025 (by decide +kernel) (by decide +kernel), pm_wm 68 (by decide +kernel) (by decide +kernel), rfl, by decide⟩
set_option maxRecDepth 100000 in
theorem mi_X7_stillIn : pm_I mt_X7_stillIn yX7_stillIn cX7_stillIn (some .int) := ⟨by decide +kernel, ⟨by decide +kernel, rfl, by decide +kernel, by decide +kernel⟩, pm_wm 1021 (by decide +kernel) (by decide +kernel), pm_wm 68 (by decide +kernel) (by decide +kernel), rfl, by decide⟩
set_option maxRecDepth 100000 in
theorem mi_X7_onSteps : pm_I mt_X7_onSteps yX7_onSteps cX7_onSteps (some .int) := ⟨by decide +kernel, ⟨by decide +kernel, rfl, by decide +kernel, by decide +kernel⟩, pm_wm 1047 (by decide +kernel) (by decide +kernel), pm_wm 68 (by decide +kernel) (by decide +kernel), rfl, by decide⟩
set_option maxRecDepth 100000 in
theorem mi_X7_pass : pm_I mt_X7_pass yX7_pass cX7_pass none := ⟨by decide +kernel, ⟨by decide +kernel, rfl, by decide +kernel, by decide +kernel⟩, pm_wm 1017 (by decide +kernel) (by decide +kernel), pm_wm 68 (by decide +kernel) (by decide +kernel), rfl, by decide⟩
set_option maxRecDepth 100000 in
theorem mi_X7_tick : pm_I mt_X7_tick yX7_tick cX7_tick (some .int) := ⟨by decide +kernel, ⟨by decide +kernel, rfl, by decide +kernel, by decide +kernel⟩, pm_wm 1013 (by decide +kernel) (by decide +kernel), pm_wm 68 (by decide +kernel) (by decide +kernel), rfl, by decide⟩
set_option maxRecDepth 100000 in
theorem mi_X7_keep : pm_I mt_X7_keep yX7_keep cX7_keep none := ⟨by decide +kernel, ⟨by decide +kernel, rfl, by decide +kernel, by decide +kernel⟩, pm_wm 1043 (by decide +kernel) (by decide +kernel), pm_wm 68 (by decide +kernel) (by decide +kernel), rfl, by decide⟩
set_option maxRecDepth 100000 in
theorem mi_X7_again : pm_I mt_X7_again yX7_again cX7_again none := ⟨by decide +kernel, ⟨by decide +kernel, rfl, by decide +kernel, by decide +kernel⟩, pm_wm 1051 (by decide +kernel) (by decide +kernel), pm_wm 68 (by decide +kernel) (by decide +kernel), rfl, by decide⟩
set_option maxRecDepth 100000 in
theorem mi_X7_ends : pm_I mt_X7_ends yX7_ends cX7_ends (some .int) := ⟨by decide +kernel, ⟨by decide +kernel, rfl, by decide +kernel, by decide +kernel⟩, pm_wm 1039 (by decide +kernel) (by decide +kernel), pm_wm 68 (by decide +kernel) (by decide +kernel), rfl, by decide⟩
set_option maxRecDepth 100000 in
theorem mi_X7_ends_ : pm_I mt_X7_ends_ yX7_ends_ cX7_ends_ (some .int) := ⟨by decide +kernel, ⟨by decide +kernel, rfl, by decide +kernel, by decide +kernel⟩, pm_wm 1035 (by decide +kernel) (by decide +kernel), pm_wm 68 (by decide +kernel) (by decide +kernel), rfl, by decide⟩
set_option maxRecDepth 100000 in
theorem mi_X7_run : pm_I mt_X7_run yX7_run cX7_run (some .int) := ⟨by decide +kernel, ⟨by decide +kernel, rfl, by decide +kernel, by decide +kernel⟩, pm_wm 1031 (by decide +kernel) (by decide +kernel), pm_wm 68 (by decide +kernel) (by decide +kernel), rfl, by decide⟩
set_option maxRecDepth 100000 in
theorem mi_X7_on : pm_I mt_X7_on yX7_on cX7_on (some .int) := ⟨by decide +kernel, ⟨by decide +kernel, rfl, by decide +kernel, by decide +kernel⟩, pm_wm 1055 (by decide +kernel) (by decide +kernel), pm_wm 68 (by decide +kernel) (by decide +kernel), rfl, by decide⟩
set_option maxRecDepth 100000 in
theorem mi_X7_holdsUp : pm_I mt_X7_holdsUp yX7_holdsUp cX7_holdsUp (some .int) := ⟨by decide +kernel, ⟨by decide +kernel, rfl, by decide +kernel, by decide +kernel⟩, pm_wm 1059 (by decide +kernel) (by decide +kernel), pm_wm 68 (by decide +kernel) (by decide +kernel), rfl, by decide⟩
set_option maxRecDepth 100000 in
theorem mi_X7_widen : pm_I mt_X7_widen yX7_widen cX7_widen (some .int) := ⟨by decide +kernel, ⟨by decide +kernel, rfl, by decide +kernel, by decide +kernel⟩, pm_wm 1063 (by decide +kernel) (by decide +kernel), pm_wm 68 (by decide +kernel) (by decide +kernel), rfl, by decide⟩
set_option maxRecDepth 100000 in
theorem mi_X7_later : pm_I mt_X7_later yX7_later cX7_later (some .int) := ⟨by decide +kernel, ⟨by decide +kernel, rfl, by decide +kernel, by decide +kernel⟩, pm_wm 1067 (by decide +kernel) (by decide +kernel), pm_wm 68 (by decide +kernel) (by decide +kernel), rfl, by decide⟩
set_option maxRecDepth 100000 in
theorem mi_X7_keepBells : pm_I mt_X7_keepBells yX7_keepBells cX7_keepBells none := ⟨by decide +kernel, ⟨by decide +kernel, rfl, by decide +kernel, by decide +kernel⟩, pm_wm 1075 (by decide +kernel) (by decide +kernel), pm_wm 68 (by decide +kernel) (by decide +kernel), rfl, by decide⟩
set_option maxRecDepth 100000 in
theorem mi_X7_bellsAgain : pm_I mt_X7_bellsAgain yX7_bellsAgain cX7_bellsAgain none := ⟨by decide +kernel, ⟨by decide +kernel, rfl, by decide +kernel, by decide +kernel⟩, pm_wm 1079 (by decide +kernel) (by decide +kernel), pm_wm 68 (by decide +kernel) (by decide +kernel), rfl, by decide⟩
set_option maxRecDepth 100000 in
theorem mi_X7_apart : pm_I mt_X7_apart yX7_apart cX7_apart (some .int) := ⟨by decide +kernel, ⟨by decide +kernel, rfl, by decide +kernel, by decide +kernel⟩, pm_wm 1071 (by decide +kernel) (by decide +kernel), pm_wm 68 (by decide +kernel) (by decide +kernel), rfl, by decide⟩
set_option maxRecDepth 100000 in
theorem mi_X7_order : pm_I mt_X7_order yX7_order cX7_order (some .int) := ⟨by decide +kernel, ⟨by decide +kernel, rfl, by decide +kernel, by decide +kernel⟩, pm_wm 1083 (by decide +kernel) (by decide +kernel), pm_wm 68 (by decide +kernel) (by decide +kernel), rfl, by decide⟩
set_option maxRecDepth 100000 in
theorem mi_X7_another : pm_I mt_X7_another yX7_another cX7_another (some .boolean) := ⟨by decide +kernel, ⟨by decide +kernel, rfl, by decide +kernel, by decide +kernel⟩, pm_wm 1087 (by decide +kernel) (by decide +kernel), pm_wm 68 (by decide +kernel) (by decide +kernel), rfl, by decide⟩
set_option maxRecDepth 100000 in
theorem mi_X7_shut : pm_I mt_X7_shut yX7_shut cX7_shut (some .int) := ⟨by decide +kernel, ⟨by decide +kernel, rfl, by decide +kernel, by decide +kernel⟩, pm_wm 1091 (by decide +kernel) (by decide +kernel), pm_wm 68 (by decide +kernel) (by decide +kernel), rfl, by decide⟩
set_option maxRecDepth 100000 in
theorem mi_X7_drill : pm_I mt_X7_drill yX7_drill cX7_drill (some .int) := ⟨by decide +kernel, ⟨by decide +kernel, rfl, by decide +kernel, by decide +kernel⟩, pm_wm 1095 (by decide +kernel) (by decide +kernel), pm_wm 68 (by decide +kernel) (by decide +kernel), rfl, by decide⟩
set_option maxRecDepth 100000 in
theorem mi_X7_judge : pm_I mt_X7_judge yX7_judge cX7_judge (some .int) := ⟨by decide +kernel, ⟨by decide +kernel, rfl, by decide +kernel, by decide +kernel⟩, pm_wm 1099 (by decide +kernel) (by decide +kernel), pm_wm 68 (by decide +kernel) (by decide +kernel), rfl, by decide⟩
set_option maxRecDepth 100000 in
theorem mi_X7_look : pm_I mt_X7_look yX7_look cX7_look (some .int) := ⟨by decide +kernel, ⟨by decide +kernel, rfl, by decide +kernel, by decide +kernel⟩, pm_wm 1103 (by decide +kernel) (by decide +kernel), pm_wm 68 (by decide +kernel) (by decide +kernel), rfl, by decide⟩
set_option maxRecDepth 100000 in
theorem mi_X7_drawn : pm_I mt_X7_drawn yX7_drawn cX7_drawn (some .int) := ⟨by decide +kernel, ⟨by decide +kernel, rfl, by decide +kernel, by decide +kernel⟩, pm_wm 1107 (by decide +kernel) (by decide +kernel), pm_wm 68 (by decide +kernel) (by decide +kernel), rfl, by decide⟩
set_option maxRecDepth 100000 in
theorem mi_X7_image : pm_I mt_X7_image yX7_image cX7_image (some .int) := ⟨by decide +kernel, ⟨by decide +kernel, rfl, by decide +kernel, by decide +kernel⟩, pm_wm 1112 (by decide +kernel) (by decide +kernel), pm_wm 68 (by decide +kernel) (by decide +kernel), rfl, by decide⟩
set_option maxRecDepth 100000 in
theorem mi_X7_back : pm_I mt_X7_back yX7_back cX7_back (some .int) := ⟨by decide +kernel, ⟨by decide +kernel, rfl, by decide +kernel, by decide +kernel⟩, pm_wm 1116 (by decide +kernel) (by decide +kernel), pm_wm 68 (by decide +kernel) (by decide +kernel), rfl, by decide⟩
set_option maxRecDepth 100000 in
theorem mi_X7_count : pm_I mt_X7_count yX7_count cX7_count (some .int) := ⟨by decide +kernel, ⟨by decide +kernel, rfl, by decide +kernel, by decide +kernel⟩, pm_wm 1120 (by decide +kernel) (by decide +kernel), pm_wm 68 (by decide +kernel) (by decide +kernel), rfl, by decide⟩
set_option maxRecDepth 100000 in
theorem mi_X7_sheet : pm_I mt_X7_sheet yX7_sheet cX7_sheet (some .int) := ⟨by decide +kernel, ⟨by decide +kernel, rfl, by decide +kernel, by decide +kernel⟩, pm_wm 1124 (by decide +kernel) (by decide +kernel), pm_wm 68 (by decide +kernel) (by decide +kernel), rfl, by decide⟩
set_option maxRecDepth 100000 in
theorem mi_X7_cell : pm_I mt_X7_cell yX7_cell cX7_cell (some .int) := ⟨by decide +kernel, ⟨by decide +kernel, rfl, by decide +kernel, by decide +kernel⟩, pm_wm 1128 (by decide +kernel) (by decide +kernel), pm_wm 68 (by decide +kernel) (by decide +kernel), rfl, by decide⟩
set_option maxRecDepth 100000 in
theorem mi_X7_copy : pm_I mt_X7_copy yX7_copy cX7_copy (some .int) := ⟨by decide +kernel, ⟨by decide +kernel, rfl, by decide +kernel, by decide +kernel⟩, pm_wm 1132 (by decide +kernel) (by decide +kernel), pm_wm 68 (by decide +kernel) (by decide +kernel), rfl, by decide⟩
set_option maxRecDepth 100000 in
theorem mi_X7_classes : pm_I mt_X7_classes yX7_classes cX7_classes (some .int) := ⟨by decide +kernel, ⟨by decide +kernel, rfl, by decide +kernel, by decide +kernel⟩, pm_wm 1136 (by decide +kernel) (by decide +kernel), pm_wm 68 (by decide +kernel) (by decide +kernel), rfl, by decide⟩
set_option maxRecDepth 100000 in
theorem mi_X7_taken : pm_I mt_X7_taken yX7_taken cX7_taken (some .int) := ⟨by decide +kernel, ⟨by decide +kernel, rfl, by decide +kernel, by decide +kernel⟩, pm_wm 1143 (by decide +kernel) (by decide +kernel), pm_wm 68 (by decide +kernel) (by decide +kernel), rfl, by decide⟩
set_option maxRecDepth 100000 in
theorem mi_J7_fill_53178 : pm_I mt_J7_fill_53178 yJ7_fill_53178 cJ7_fill_53178 none := ⟨by decide +kernel, ⟨by decide +kernel, rfl, by decide +kernel, by decide +kernel⟩, pm_wm 87 (by decide +kernel) (by decide +kernel), pm_wm 58 (by decide +kernel) (by decide +kernel), rfl, by decide⟩
set_option maxRecDepth 100000 in
theorem ml_0_32 : pm_lok 0 (32, (0, mt_X0_advance, 0)) := (⟨yX0_advance, cX0_advance, _, mi_X0_advance, pm_wm 333 (by decide +kernel) (by decide +kernel), pm_wm 335 (by decide +kernel) (by decide +kernel), pm_wm 0 (by decide +kernel) (by decide +kernel), by decide +kernel, by decide, by decide⟩ : pm_ok0 0 32 mt_X0_advance 0)
set_option maxRecDepth 100000 in
theorem ml_0_35 : pm_lok 0 (35, (0, mt_X0_accept, 1)) := (⟨yX0_accept, cX0_accept, _, mi_X0_accept, pm_wm 378 (by decide +kernel) (by decide +kernel), pm_wm 380 (by decide +kernel) (by decide +kernel), pm_wm 4 (by decide +kernel) (by decide +kernel), by decide +kernel, by decide, by decide⟩ : pm_ok0 0 35 mt_X0_accept 1)
set_option maxRecDepth 100000 in
theorem ml_0_39 : pm_lok 0 (39, (0, mt_X0_readEither, 1)) := (⟨yX0_readEither, cX0_readEither, _, mi_X0_readEither, pm_wm 386 (by decide +kernel) (by decide +kernel), pm_wm 388 (by decide +kernel) (by decide +kernel), pm_wm 6 (by decide +kernel) (by decide +kernel), by decide +kernel, by decide, by decide⟩ : pm_ok0 0 39 mt_X0_readEither 1)
set_option maxRecDepth 100000 in
theorem ml_0_48 : pm_lok 0 (48, (0, mt_X0_refuse, 0)) := (⟨yX0_refuse, cX0_refuse, _, mi_X0_refuse, pm_wm 382 (by decide +kernel) (by decide +kernel), pm_wm 384 (by decide +kernel) (by decide +kernel), pm_wm 5 (by decide +kernel) (by decide +kernel), by decide +kernel, by decide, by decide⟩ : pm_ok0 0 48 mt_X0_refuse 0)
set_option maxRecDepth 100000 in
theorem ml_0_54 : pm_lok 0 (54, (0, mt_X0_readBoth, 1)) := (⟨yX0_readBoth, cX0_readBoth, _, mi_X0_readBoth, pm_wm 390 (by decide +kernel) (by decide +kernel), pm_wm 392 (by decide +kernel) (by decide +kernel), pm_wm 7 (by decide +kernel) (by decide +kernel), by decide +kernel, by decide, by decide⟩ : pm_ok0 0 54 mt_X0_readBoth 1)
set_option maxRecDepth 100000 in
theorem ml_0_57 : pm_lok 0 (57, (0, mt_X4_add, 1)) := (⟨yX4_add, cX4_add, _, mi_X4_add, pm_wm 398 (by decide +kernel) (by decide +kernel), pm_wm 399 (by decide +kernel) (by decide +kernel), pm_wm 400 (by decide +kernel) (by decide +kernel), by decide +kernel, by decide, by decide⟩ : pm_ok0 0 57 mt_X4_add 1)
set_option maxRecDepth 100000 in
theorem ml_0_60 : pm_lok 0 (60, (0, mt_X0_readDenied, 1)) := (⟨yX0_readDenied, cX0_readDenied, _, mi_X0_readDenied, pm_wm 394 (by decide +kernel) (by decide +kernel), pm_wm 396 (by decide +kernel) (by decide +kernel), pm_wm 8 (by decide +kernel) (by decide +kernel), by decide +kernel, by decide, by decide⟩ : pm_ok0 0 60 mt_X0_readDenied 1)
set_option maxRecDepth 100000 in
theorem ml_0_63 : pm_lok 0 (63, (0, mt_X0_readSum, 1)) := (⟨yX0_readSum, cX0_readSum, _, mi_X0_readSum, pm_wm 402 (by decide +kernel) (by decide +kernel), pm_wm 404 (by decide +kernel) (by decide +kernel), pm_wm 9 (by decide +kernel) (by decide +kernel), by decide +kernel, by decide, by decide⟩ : pm_ok0 0 63 mt_X0_readSum 1)
set_option maxRecDepth 100000 in
theorem ml_0_66 : pm_lok 0 (66, (0, mt_X0_readTerm, 1)) := (⟨yX0_readTerm, cX0_readTerm, _, mi_X0_readTerm, pm_wm 406 (by decide +kernel) (by decide +kernel), pm_wm 408 (by decide +kernel) (by decide +kernel), pm_wm 10 (by decide +kernel) (by decide +kernel), by decide +kernel, by decide, by decide⟩ : pm_ok0 0 66 mt_X0_readTerm 1)
set_option maxRecDepth 100000 in
theorem ml_0_69 : pm_lok 0 (69, (0, mt_X0_readOne, 1)) := (⟨yX0_readOne, cX0_readOne, _, mi_X0_readOne, pm_wm 410 (by decide +kernel) (by decide +kernel), pm_wm 412 (by decide +kernel) (by decide +kernel), pm_wm 11 (by decide +kernel) (by decide +kernel), by decide +kernel, by decide, by decide⟩ : pm_ok0 0 69 mt_X0_readOne 1)
set_option maxRecDepth 100000 in
theorem ml_0_75 : pm_lok 0 (75, (1, mt_X0_isBlank, 1)) := (⟨yX0_isBlank, cX0_isBlank, _, mi_X0_isBlank, pm_wm 337 (by decide +kernel) (by decide +kernel), pm_wm 338 (by decide +kernel) (by decide +kernel), by decide +kernel, by decide⟩ : pm_ok1 0 75 mt_X0_isBlank 1)
set_option maxRecDepth 100000 in
theorem ml_0_79 : pm_lok 0 (79, (1, mt_X0_isLetter, 1)) := (⟨yX0_isLetter, cX0_isLetter, _, mi_X0_isLetter, pm_wm 340 (by decide +kernel) (by decide +kernel), pm_wm 341 (by decide +kernel) (by decide +kernel), by decide +kernel, by decide⟩ : pm_ok1 0 79 mt_X0_isLetter 1)
set_option maxRecDepth 100000 in
theorem ml_0_82 : pm_lok 0 (82, (0, mt_X0_wordToken, 0)) := (⟨yX0_wordToken, cX0_wordToken, _, mi_X0_wordToken, pm_wm 343 (by decide +kernel) (by decide +kernel), pm_wm 345 (by decide +kernel) (by decide +kernel), pm_wm 1 (by decide +kernel) (by decide +kernel), by decide +kernel, by decide, by decide⟩ : pm_ok0 0 82 mt_X0_wordToken 0)
set_option maxRecDepth 100000 in
theorem ml_0_86 : pm_lok 0 (86, (1, mt_X0_isDigit, 1)) := (⟨yX0_isDigit, cX0_isDigit, _, mi_X0_isDigit, pm_wm 368 (by decide +kernel) (by decide +kernel), pm_wm 369 (by decide +kernel) (by decide +kernel), by decide +kernel, by decide⟩ : pm_ok1 0 86 mt_X0_isDigit 1)
set_option maxRecDepth 100000 in
theorem ml_0_89 : pm_lok 0 (89, (0, mt_X0_numberToken, 0)) := (⟨yX0_numberToken, cX0_numberToken, _, mi_X0_numberToken, pm_wm 371 (by decide +kernel) (by decide +kernel), pm_wm 373 (by decide +kernel) (by decide +kernel), pm_wm 3 (by decide +kernel) (by decide +kernel), by decide +kernel, by decide, by decide⟩ : pm_ok0 0 89 mt_X0_numberToken 0)
set_option maxRecDepth 100000 in
theorem ml_0_92 : pm_lok 0 (92, (1, mt_X0_isSign, 1)) := (⟨yX0_isSign, cX0_isSign, _, mi_X0_isSign, pm_wm 375 (by decide +kernel) (by decide +kernel), pm_wm 376 (by decide +kernel) (by decide +kernel), by decide +kernel, by decide⟩ : pm_ok1 0 92 mt_X0_isSign 1)
set_option maxRecDepth 100000 in
theorem ml_0_95 : pm_lok 0 (95, (1, mt_X0_word, 1)) := (⟨yX0_word, cX0_word, _, mi_X0_word, pm_wm 347 (by decide +kernel) (by decide +kernel), pm_wm 348 (by decide +kernel) (by decide +kernel), by decide +kernel, by decide⟩ : pm_ok1 0 95 mt_X0_word 1)
set_option maxRecDepth 100000 in
theorem ml_0_99 : pm_lok 0 (99, (0, mt_X0_passed, 1)) := (⟨yX0_passed, cX0_passed, _, mi_X0_passed, pm_wm 362 (by decide +kernel) (by decide +kernel), pm_wm 364 (by decide +kernel) (by decide +kernel), pm_wm 2 (by decide +kernel) (by decide +kernel), by decide +kernel, by decide, by decide⟩ : pm_ok0 0 99 mt_X0_passed 1)
set_option maxRecDepth 100000 in
theorem ml_0_127 : pm_lok 0 (127, (5, pm_m0, 0)) := (pm_wm 366 (by decide +kernel) (by decide +kernel) : Cond.methodLink (pm_cn 0) 127 yJ0_length_8abf5 ∈ pm_w)
set_option maxRecDepth 100000 in
theorem ml_0_131 : pm_lok 0 (131, (6, pm_m0, 1)) := (pm_wm 367 (by decide +kernel) (by decide +kernel) : Cond.methodLink (pm_cn 0) 131 yJ0_charAt_5068e ∈ pm_w)
theorem ml_0 : ∀ e ∈ pm_ml 0, pm_lok 0 e := (List.forall_mem_cons.mpr ⟨ml_0_32, (List.forall_mem_cons.mpr ⟨ml_0_35, (List.forall_mem_cons.mpr ⟨ml_0_39, (List.forall_mem_cons.mpr ⟨ml_0_48, (List.forall_mem_cons.mpr ⟨ml_0_54, (List.forall_mem_cons.mpr ⟨ml_0_57, (List.forall_mem_cons.mpr ⟨ml_0_60, (List.forall_mem_cons.mpr ⟨ml_0_63, (List.forall_mem_cons.mpr ⟨ml_0_66, (List.forall_mem_cons.mpr ⟨ml_0_69, (List.forall_mem_cons.mpr ⟨ml_0_75, (List.forall_mem_cons.mpr ⟨ml_0_79, (List.forall_mem_cons.mpr ⟨ml_0_82, (List.forall_mem_cons.mpr ⟨ml_0_86, (List.forall_mem_cons.mpr ⟨ml_0_89, (List.forall_mem_cons.mpr ⟨ml_0_92, (List.forall_mem_cons.mpr ⟨ml_0_95, (List.forall_mem_cons.mpr ⟨ml_0_99, (List.forall_mem_cons.mpr ⟨ml_0_127, (List.forall_mem_cons.mpr ⟨ml_0_131, (fun _ h => absurd h List.not_mem_nil)⟩)⟩)⟩)⟩)⟩)⟩)⟩)⟩)⟩)⟩)⟩)⟩)⟩)⟩)⟩)⟩)⟩)⟩)⟩)⟩)
set_option maxRecDepth 100000 in
theorem ml_1_18 : pm_lok 1 (18, (0, mt_X4_startOf, 1)) := (⟨yX4_startOf, cX4_startOf, _, mi_X4_startOf, pm_wm 555 (by decide +kernel) (by decide +kernel), pm_wm 556 (by decide +kernel) (by decide +kernel), pm_wm 557 (by decide +kernel) (by decide +kernel), by decide +kernel, by decide, by decide⟩ : pm_ok0 1 18 mt_X4_startOf 1)
set_option maxRecDepth 100000 in
theorem ml_1_30 : pm_lok 1 (30, (0, mt_X1_nameValue, 1)) := (⟨yX1_nameValue, cX1_nameValue, _, mi_X1_nameValue, pm_wm 559 (by decide +kernel) (by decide +kernel), pm_wm 561 (by decide +kernel) (by decide +kernel), pm_wm 18 (by decide +kernel) (by decide +kernel), by decide +kernel, by decide, by decide⟩ : pm_ok0 1 30 mt_X1_nameValue 1)
set_option maxRecDepth 100000 in
theorem ml_1_33 : pm_lok 1 (33, (1, mt_X1_joined, 3)) := (⟨yX1_joined, cX1_joined, _, mi_X1_joined, pm_wm 563 (by decide +kernel) (by decide +kernel), pm_wm 564 (by decide +kernel) (by decide +kernel), by decide +kernel, by decide⟩ : pm_ok1 1 33 mt_X1_joined 3)
theorem ml_1 : ∀ e ∈ pm_ml 1, pm_lok 1 e := (List.forall_mem_cons.mpr ⟨ml_1_18, (List.forall_mem_cons.mpr ⟨ml_1_30, (List.forall_mem_cons.mpr ⟨ml_1_33, (fun _ h => absurd h List.not_mem_nil)⟩)⟩)⟩)
set_option maxRecDepth 100000 in
theorem ml_2_22 : pm_lok 2 (22, (1, mt_J7_fill_53178, 2)) := (⟨yJ7_fill_53178, cJ7_fill_53178, _, mi_J7_fill_53178, pm_wm 717 (by decide +kernel) (by decide +kernel), pm_wm 86 (by decide +kernel) (by decide +kernel), by decide +kernel, by decide⟩ : pm_ok1 2 22 mt_J7_fill_53178 2)
theorem ml_2 : ∀ e ∈ pm_ml 2, pm_lok 2 e := (List.forall_mem_cons.mpr ⟨ml_2_22, (fun _ h => absurd h List.not_mem_nil)⟩)
set_option maxRecDepth 100000 in
theorem ml_3_42 : pm_lok 3 (42, (4, pm_m0, 5)) := (pm_wm 527 (by decide +kernel) (by decide +kernel) : Cond.methodLink (pm_cn 3) 42 arraycopyName ∈ pm_w)
set_option maxRecDepth 100000 in
theorem ml_3_61 : pm_lok 3 (61, (2, pm_m0, 2)) := (pm_wm 462 (by decide +kernel) (by decide +kernel) : Cond.methodLink (pm_cn 3) 61 Lib.Math.max.name ∈ pm_w)
set_option maxRecDepth 100000 in
theorem ml_3_67 : pm_lok 3 (67, (1, mt_X3_holdsOf, 2)) := (⟨yX3_holdsOf, cX3_holdsOf, _, mi_X3_holdsOf, pm_wm 571 (by decide +kernel) (by decide +kernel), pm_wm 460 (by decide +kernel) (by decide +kernel), by decide +kernel, by decide⟩ : pm_ok1 3 67 mt_X3_holdsOf 2)
set_option maxRecDepth 100000 in
theorem ml_3_70 : pm_lok 3 (70, (0, mt_X3_countIn, 0)) := (⟨yX3_countIn, cX3_countIn, _, mi_X3_countIn, pm_wm 593 (by decide +kernel) (by decide +kernel), pm_wm 536 (by decide +kernel) (by decide +kernel), pm_wm 537 (by decide +kernel) (by decide +kernel), by decide +kernel, by decide, by decide⟩ : pm_ok0 3 70 mt_X3_countIn 0)
set_option maxRecDepth 100000 in
theorem ml_3_74 : pm_lok 3 (74, (0, mt_X3_countOnSteps, 0)) := (⟨yX3_countOnSteps, cX3_countOnSteps, _, mi_X3_countOnSteps, pm_wm 594 (by decide +kernel) (by decide +kernel), pm_wm 595 (by decide +kernel) (by decide +kernel), pm_wm 596 (by decide +kernel) (by decide +kernel), by decide +kernel, by decide, by decide⟩ : pm_ok0 3 74 mt_X3_countOnSteps 0)
theorem ml_3 : ∀ e ∈ pm_ml 3, pm_lok 3 e := (List.forall_mem_cons.mpr ⟨ml_3_42, (List.forall_mem_cons.mpr ⟨ml_3_61, (List.forall_mem_cons.mpr ⟨ml_3_67, (List.forall_mem_cons.mpr ⟨ml_3_70, (List.forall_mem_cons.mpr ⟨ml_3_74, (fun _ h => absurd h List.not_mem_nil)⟩)⟩)⟩)⟩)⟩)
set_option maxRecDepth 100000 in
theorem ml_5_32 : pm_lok 5 (32, (0, mt_X3_becomeLike, 1)) := (⟨yX3_becomeLike, cX3_becomeLike, _, mi_X3_becomeLike, pm_wm 523 (by decide +kernel) (by decide +kernel), pm_wm 524 (by decide +kernel) (by decide +kernel), pm_wm 525 (by decide +kernel) (by decide +kernel), by decide +kernel, by decide, by decide⟩ : pm_ok0 5 32 mt_X3_becomeLike 1)
set_option maxRecDepth 100000 in
theorem ml_5_40 : pm_lok 5 (40, (1, mt_J7_fill_53178, 2)) := (⟨yJ7_fill_53178, cJ7_fill_53178, _, mi_J7_fill_53178, pm_wm 530 (by decide +kernel) (by decide +kernel), pm_wm 86 (by decide +kernel) (by decide +kernel), by decide +kernel, by decide⟩ : pm_ok1 5 40 mt_J7_fill_53178 2)
set_option maxRecDepth 100000 in
theorem ml_5_60 : pm_lok 5 (60, (0, mt_X3_isAllOut, 0)) := (⟨yX3_isAllOut, cX3_isAllOut, _, mi_X3_isAllOut, pm_wm 589 (by decide +kernel) (by decide +kernel), pm_wm 590 (by decide +kernel) (by decide +kernel), pm_wm 591 (by decide +kernel) (by decide +kernel), by decide +kernel, by decide, by decide⟩ : pm_ok0 5 60 mt_X3_isAllOut 0)
set_option maxRecDepth 100000 in
theorem ml_5_64 : pm_lok 5 (64, (0, mt_X5_passTick, 1)) := (⟨yX5_passTick, cX5_passTick, _, mi_X5_passTick, pm_wm 598 (by decide +kernel) (by decide +kernel), pm_wm 532 (by decide +kernel) (by decide +kernel), pm_wm 533 (by decide +kernel) (by decide +kernel), by decide +kernel, by decide, by decide⟩ : pm_ok0 5 64 mt_X5_passTick 1)
set_option maxRecDepth 100000 in
theorem ml_5_68 : pm_lok 5 (68, (0, mt_X3_countIn, 0)) := (⟨yX3_countIn, cX3_countIn, _, mi_X3_countIn, pm_wm 535 (by decide +kernel) (by decide +kernel), pm_wm 536 (by decide +kernel) (by decide +kernel), pm_wm 537 (by decide +kernel) (by decide +kernel), by decide +kernel, by decide, by decide⟩ : pm_ok0 5 68 mt_X3_countIn 0)
set_option maxRecDepth 100000 in
theorem ml_5_72 : pm_lok 5 (72, (0, mt_X3_passes, 1)) := (⟨yX3_passes, cX3_passes, _, mi_X3_passes, pm_wm 539 (by decide +kernel) (by decide +kernel), pm_wm 492 (by decide +kernel) (by decide +kernel), pm_wm 493 (by decide +kernel) (by decide +kernel), by decide +kernel, by decide, by decide⟩ : pm_ok0 5 72 mt_X3_passes 1)
set_option maxRecDepth 100000 in
theorem ml_5_76 : pm_lok 5 (76, (0, mt_X5_leaveStep, 3)) := (⟨yX5_leaveStep, cX5_leaveStep, _, mi_X5_leaveStep, pm_wm 540 (by decide +kernel) (by decide +kernel), pm_wm 542 (by decide +kernel) (by decide +kernel), pm_wm 16 (by decide +kernel) (by decide +kernel), by decide +kernel, by decide, by decide⟩ : pm_ok0 5 76 mt_X5_leaveStep 3)
set_option maxRecDepth 100000 in
theorem ml_5_92 : pm_lok 5 (92, (0, mt_X5_stepOnFloor, 1)) := (⟨yX5_stepOnFloor, cX5_stepOnFloor, _, mi_X5_stepOnFloor, pm_wm 572 (by decide +kernel) (by decide +kernel), pm_wm 574 (by decide +kernel) (by decide +kernel), pm_wm 19 (by decide +kernel) (by decide +kernel), by decide +kernel, by decide, by decide⟩ : pm_ok0 5 92 mt_X5_stepOnFloor 1)
set_option maxRecDepth 100000 in
theorem ml_5_95 : pm_lok 5 (95, (0, mt_X5_countStanding, 0)) := (⟨yX5_countStanding, cX5_countStanding, _, mi_X5_countStanding, pm_wm 576 (by decide +kernel) (by decide +kernel), pm_wm 578 (by decide +kernel) (by decide +kernel), pm_wm 20 (by decide +kernel) (by decide +kernel), by decide +kernel, by decide, by decide⟩ : pm_ok0 5 95 mt_X5_countStanding 0)
set_option maxRecDepth 100000 in
theorem ml_5_98 : pm_lok 5 (98, (3, pm_m0, 2)) := (pm_wm 544 (by decide +kernel) (by decide +kernel) : Cond.methodLink (pm_cn 5) 98 Lib.Math.min.name ∈ pm_w)
set_option maxRecDepth 100000 in
theorem ml_5_107 : pm_lok 5 (107, (0, mt_X5_reckon, 4)) := (⟨yX5_reckon, cX5_reckon, _, mi_X5_reckon, pm_wm 547 (by decide +kernel) (by decide +kernel), pm_wm 549 (by decide +kernel) (by decide +kernel), pm_wm 17 (by decide +kernel) (by decide +kernel), by decide +kernel, by decide, by decide⟩ : pm_ok0 5 107 mt_X5_reckon 4)
set_option maxRecDepth 100000 in
theorem ml_5_111 : pm_lok 5 (111, (2, pm_m0, 2)) := (pm_wm 566 (by decide +kernel) (by decide +kernel) : Cond.methodLink (pm_cn 5) 111 Lib.Math.max.name ∈ pm_w)
set_option maxRecDepth 100000 in
theorem ml_5_114 : pm_lok 5 (114, (0, mt_X3_roomOn, 1)) := (⟨yX3_roomOn, cX3_roomOn, _, mi_X3_roomOn, pm_wm 567 (by decide +kernel) (by decide +kernel), pm_wm 568 (by decide +kernel) (by decide +kernel), pm_wm 569 (by decide +kernel) (by decide +kernel), by decide +kernel, by decide, by decide⟩ : pm_ok0 5 114 mt_X3_roomOn 1)
set_option maxRecDepth 100000 in
theorem ml_5_132 : pm_lok 5 (132, (0, mt_X1_value, 2)) := (⟨yX1_value, cX1_value, _, mi_X1_value, pm_wm 551 (by decide +kernel) (by decide +kernel), pm_wm 552 (by decide +kernel) (by decide +kernel), pm_wm 553 (by decide +kernel) (by decide +kernel), by decide +kernel, by decide, by decide⟩ : pm_ok0 5 132 mt_X1_value 2)
theorem ml_5 : ∀ e ∈ pm_ml 5, pm_lok 5 e := (List.forall_mem_cons.mpr ⟨ml_5_32, (List.forall_mem_cons.mpr ⟨ml_5_40, (List.forall_mem_cons.mpr ⟨ml_5_60, (List.forall_mem_cons.mpr ⟨ml_5_64, (List.forall_mem_cons.mpr ⟨ml_5_68, (List.forall_mem_cons.mpr ⟨ml_5_72, (List.forall_mem_cons.mpr ⟨ml_5_76, (List.forall_mem_cons.mpr ⟨ml_5_92, (List.forall_mem_cons.mpr ⟨ml_5_95, (List.forall_mem_cons.mpr ⟨ml_5_98, (List.forall_mem_cons.mpr ⟨ml_5_107, (List.forall_mem_cons.mpr ⟨ml_5_111, (List.forall_mem_cons.mpr ⟨ml_5_114, (List.forall_mem_cons.mpr ⟨ml_5_132, (fun _ h => absurd h List.not_mem_nil)⟩)⟩)⟩)⟩)⟩)⟩)⟩)⟩)⟩)⟩)⟩)⟩)⟩)⟩)
set_option maxRecDepth 100000 in
theorem ml_6_56 : pm_lok 6 (56, (5, pm_m0, 0)) := (pm_wm 277 (by decide +kernel) (by decide +kernel) : Cond.methodLink (pm_cn 6) 56 yJ0_length_8abf5 ∈ pm_w)
set_option maxRecDepth 100000 in
theorem ml_6_62 : pm_lok 6 (62, (6, pm_m0, 1)) := (pm_wm 287 (by decide +kernel) (by decide +kernel) : Cond.methodLink (pm_cn 6) 62 yJ0_charAt_5068e ∈ pm_w)
set_option maxRecDepth 100000 in
theorem ml_6_66 : pm_lok 6 (66, (0, mt_X0_put, 1)) := (⟨yX0_put, cX0_put, _, mi_X0_put, pm_wm 325 (by decide +kernel) (by decide +kernel), pm_wm 326 (by decide +kernel) (by decide +kernel), pm_wm 327 (by decide +kernel) (by decide +kernel), by decide +kernel, by decide, by decide⟩ : pm_ok0 6 66 mt_X0_put 1)
set_option maxRecDepth 100000 in
theorem ml_6_70 : pm_lok 6 (70, (0, mt_X0_readInto, 1)) := (⟨yX0_readInto, cX0_readInto, _, mi_X0_readInto, pm_wm 329 (by decide +kernel) (by decide +kernel), pm_wm 330 (by decide +kernel) (by decide +kernel), pm_wm 331 (by decide +kernel) (by decide +kernel), by decide +kernel, by decide, by decide⟩ : pm_ok0 6 70 mt_X0_readInto 1)
set_option maxRecDepth 100000 in
theorem ml_6_78 : pm_lok 6 (78, (1, mt_X6_isStep, 1)) := (⟨yX6_isStep, cX6_isStep, _, mi_X6_isStep, pm_wm 450 (by decide +kernel) (by decide +kernel), pm_wm 451 (by decide +kernel) (by decide +kernel), by decide +kernel, by decide⟩ : pm_ok1 6 78 mt_X6_isStep 1)
set_option maxRecDepth 100000 in
theorem ml_6_81 : pm_lok 6 (81, (1, mt_X6_isKind, 1)) := (⟨yX6_isKind, cX6_isKind, _, mi_X6_isKind, pm_wm 456 (by decide +kernel) (by decide +kernel), pm_wm 457 (by decide +kernel) (by decide +kernel), by decide +kernel, by decide⟩ : pm_ok1 6 81 mt_X6_isKind 1)
set_option maxRecDepth 100000 in
theorem ml_6_84 : pm_lok 6 (84, (1, mt_X6_between, 3)) := (⟨yX6_between, cX6_between, _, mi_X6_between, pm_wm 453 (by decide +kernel) (by decide +kernel), pm_wm 454 (by decide +kernel) (by decide +kernel), by decide +kernel, by decide⟩ : pm_ok1 6 84 mt_X6_between 3)
set_option maxRecDepth 100000 in
theorem ml_6_91 : pm_lok 6 (91, (1, mt_X3_holdsOf, 2)) := (⟨yX3_holdsOf, cX3_holdsOf, _, mi_X3_holdsOf, pm_wm 459 (by decide +kernel) (by decide +kernel), pm_wm 460 (by decide +kernel) (by decide +kernel), by decide +kernel, by decide⟩ : pm_ok1 6 91 mt_X3_holdsOf 2)
set_option maxRecDepth 100000 in
theorem ml_6_101 : pm_lok 6 (101, (1, mt_X6_isBellAndEvery, 1)) := (⟨yX6_isBellAndEvery, cX6_isBellAndEvery, _, mi_X6_isBellAndEvery, pm_wm 469 (by decide +kernel) (by decide +kernel), pm_wm 470 (by decide +kernel) (by decide +kernel), by decide +kernel, by decide⟩ : pm_ok1 6 101 mt_X6_isBellAndEvery 1)
set_option maxRecDepth 100000 in
theorem ml_6_122 : pm_lok 6 (122, (0, mt_X6_isClass, 1)) := (⟨yX6_isClass, cX6_isClass, _, mi_X6_isClass, pm_wm 476 (by decide +kernel) (by decide +kernel), pm_wm 478 (by decide +kernel) (by decide +kernel), pm_wm 12 (by decide +kernel) (by decide +kernel), by decide +kernel, by decide, by decide⟩ : pm_ok0 6 122 mt_X6_isClass 1)
set_option maxRecDepth 100000 in
theorem ml_6_125 : pm_lok 6 (125, (1, mt_X6_exchange, 4)) := (⟨yX6_exchange, cX6_exchange, _, mi_X6_exchange, pm_wm 480 (by decide +kernel) (by decide +kernel), pm_wm 481 (by decide +kernel) (by decide +kernel), by decide +kernel, by decide⟩ : pm_ok1 6 125 mt_X6_exchange 4)
set_option maxRecDepth 100000 in
theorem ml_6_129 : pm_lok 6 (129, (0, mt_X6_toldOfStep, 2)) := (⟨yX6_toldOfStep, cX6_toldOfStep, _, mi_X6_toldOfStep, pm_wm 487 (by decide +kernel) (by decide +kernel), pm_wm 489 (by decide +kernel) (by decide +kernel), pm_wm 13 (by decide +kernel) (by decide +kernel), by decide +kernel, by decide, by decide⟩ : pm_ok0 6 129 mt_X6_toldOfStep 2)
set_option maxRecDepth 100000 in
theorem ml_6_132 : pm_lok 6 (132, (0, mt_X6_toldOfClass, 2)) := (⟨yX6_toldOfClass, cX6_toldOfClass, _, mi_X6_toldOfClass, pm_wm 495 (by decide +kernel) (by decide +kernel), pm_wm 497 (by decide +kernel) (by decide +kernel), pm_wm 14 (by decide +kernel) (by decide +kernel), by decide +kernel, by decide, by decide⟩ : pm_ok0 6 132 mt_X6_toldOfClass 2)
set_option maxRecDepth 100000 in
theorem ml_6_140 : pm_lok 6 (140, (0, mt_X6_beginTrial, 0)) := (⟨yX6_beginTrial, cX6_beginTrial, _, mi_X6_beginTrial, pm_wm 515 (by decide +kernel) (by decide +kernel), pm_wm 517 (by decide +kernel) (by decide +kernel), pm_wm 15 (by decide +kernel) (by decide +kernel), by decide +kernel, by decide, by decide⟩ : pm_ok0 6 140 mt_X6_beginTrial 0)
set_option maxRecDepth 100000 in
theorem ml_6_143 : pm_lok 6 (143, (0, mt_X5_passTick, 1)) := (⟨yX5_passTick, cX5_passTick, _, mi_X5_passTick, pm_wm 531 (by decide +kernel) (by decide +kernel), pm_wm 532 (by decide +kernel) (by decide +kernel), pm_wm 533 (by decide +kernel) (by decide +kernel), by decide +kernel, by decide, by decide⟩ : pm_ok0 6 143 mt_X5_passTick 1)
set_option maxRecDepth 100000 in
theorem ml_6_150 : pm_lok 6 (150, (0, mt_X3_becomeLike, 1)) := (⟨yX3_becomeLike, cX3_becomeLike, _, mi_X3_becomeLike, pm_wm 580 (by decide +kernel) (by decide +kernel), pm_wm 524 (by decide +kernel) (by decide +kernel), pm_wm 525 (by decide +kernel) (by decide +kernel), by decide +kernel, by decide, by decide⟩ : pm_ok0 6 150 mt_X3_becomeLike 1)
set_option maxRecDepth 100000 in
theorem ml_6_161 : pm_lok 6 (161, (0, mt_X5_runOut, 1)) := (⟨yX5_runOut, cX5_runOut, _, mi_X5_runOut, pm_wm 585 (by decide +kernel) (by decide +kernel), pm_wm 586 (by decide +kernel) (by decide +kernel), pm_wm 587 (by decide +kernel) (by decide +kernel), by decide +kernel, by decide, by decide⟩ : pm_ok0 6 161 mt_X5_runOut 1)
set_option maxRecDepth 100000 in
theorem ml_6_177 : pm_lok 6 (177, (3, pm_m0, 2)) := (pm_wm 615 (by decide +kernel) (by decide +kernel) : Cond.methodLink (pm_cn 6) 177 Lib.Math.min.name ∈ pm_w)
set_option maxRecDepth 100000 in
theorem ml_6_182 : pm_lok 6 (182, (0, mt_X6_leastApart, 0)) := (⟨yX6_leastApart, cX6_leastApart, _, mi_X6_leastApart, pm_wm 620 (by decide +kernel) (by decide +kernel), pm_wm 622 (by decide +kernel) (by decide +kernel), pm_wm 21 (by decide +kernel) (by decide +kernel), by decide +kernel, by decide, by decide⟩ : pm_ok0 6 182 mt_X6_leastApart 0)
set_option maxRecDepth 100000 in
theorem ml_6_185 : pm_lok 6 (185, (0, mt_X6_soonestApart, 0)) := (⟨yX6_soonestApart, cX6_soonestApart, _, mi_X6_soonestApart, pm_wm 629 (by decide +kernel) (by decide +kernel), pm_wm 631 (by decide +kernel) (by decide +kernel), pm_wm 23 (by decide +kernel) (by decide +kernel), by decide +kernel, by decide, by decide⟩ : pm_ok0 6 185 mt_X6_soonestApart 0)
set_option maxRecDepth 100000 in
theorem ml_6_188 : pm_lok 6 (188, (0, mt_X6_isLikeAnEarlierRow, 0)) := (⟨yX6_isLikeAnEarlierRow, cX6_isLikeAnEarlierRow, _, mi_X6_isLikeAnEarlierRow, pm_wm 637 (by decide +kernel) (by decide +kernel), pm_wm 639 (by decide +kernel) (by decide +kernel), pm_wm 24 (by decide +kernel) (by decide +kernel), by decide +kernel, by decide, by decide⟩ : pm_ok0 6 188 mt_X6_isLikeAnEarlierRow 0)
set_option maxRecDepth 100000 in
theorem ml_6_192 : pm_lok 6 (192, (0, mt_X6_beginTrialInOrder, 0)) := (⟨yX6_beginTrialInOrder, cX6_beginTrialInOrder, _, mi_X6_beginTrialInOrder, pm_wm 646 (by decide +kernel) (by decide +kernel), pm_wm 648 (by decide +kernel) (by decide +kernel), pm_wm 26 (by decide +kernel) (by decide +kernel), by decide +kernel, by decide, by decide⟩ : pm_ok0 6 192 mt_X6_beginTrialInOrder 0)
set_option maxRecDepth 100000 in
theorem ml_6_195 : pm_lok 6 (195, (4, pm_m0, 5)) := (pm_wm 650 (by decide +kernel) (by decide +kernel) : Cond.methodLink (pm_cn 6) 195 arraycopyName ∈ pm_w)
set_option maxRecDepth 100000 in
theorem ml_6_201 : pm_lok 6 (201, (0, mt_X6_nextBellRow, 0)) := (⟨yX6_nextBellRow, cX6_nextBellRow, _, mi_X6_nextBellRow, pm_wm 651 (by decide +kernel) (by decide +kernel), pm_wm 653 (by decide +kernel) (by decide +kernel), pm_wm 27 (by decide +kernel) (by decide +kernel), by decide +kernel, by decide, by decide⟩ : pm_ok0 6 201 mt_X6_nextBellRow 0)
set_option maxRecDepth 100000 in
theorem ml_6_204 : pm_lok 6 (204, (0, mt_X3_isAllOut, 0)) := (⟨yX3_isAllOut, cX3_isAllOut, _, mi_X3_isAllOut, pm_wm 628 (by decide +kernel) (by decide +kernel), pm_wm 590 (by decide +kernel) (by decide +kernel), pm_wm 591 (by decide +kernel) (by decide +kernel), by decide +kernel, by decide, by decide⟩ : pm_ok0 6 204 mt_X3_isAllOut 0)
set_option maxRecDepth 100000 in
theorem ml_6_210 : pm_lok 6 (210, (1, mt_X6_isSheet, 1)) := (⟨yX6_isSheet, cX6_isSheet, _, mi_X6_isSheet, pm_wm 671 (by decide +kernel) (by decide +kernel), pm_wm 672 (by decide +kernel) (by decide +kernel), by decide +kernel, by decide⟩ : pm_ok1 6 210 mt_X6_isSheet 1)
set_option maxRecDepth 100000 in
theorem ml_6_213 : pm_lok 6 (213, (0, mt_X2_isMissing, 0)) := (⟨yX2_isMissing, cX2_isMissing, _, mi_X2_isMissing, pm_wm 674 (by decide +kernel) (by decide +kernel), pm_wm 675 (by decide +kernel) (by decide +kernel), pm_wm 676 (by decide +kernel) (by decide +kernel), by decide +kernel, by decide, by decide⟩ : pm_ok0 6 213 mt_X2_isMissing 0)
set_option maxRecDepth 100000 in
theorem ml_6_220 : pm_lok 6 (220, (0, mt_X3_roomOn, 1)) := (⟨yX3_roomOn, cX3_roomOn, _, mi_X3_roomOn, pm_wm 682 (by decide +kernel) (by decide +kernel), pm_wm 568 (by decide +kernel) (by decide +kernel), pm_wm 569 (by decide +kernel) (by decide +kernel), by decide +kernel, by decide, by decide⟩ : pm_ok0 6 220 mt_X3_roomOn 1)
set_option maxRecDepth 100000 in
theorem ml_6_227 : pm_lok 6 (227, (0, mt_X3_countOnSteps, 0)) := (⟨yX3_countOnSteps, cX3_countOnSteps, _, mi_X3_countOnSteps, pm_wm 700 (by decide +kernel) (by decide +kernel), pm_wm 595 (by decide +kernel) (by decide +kernel), pm_wm 596 (by decide +kernel) (by decide +kernel), by decide +kernel, by decide, by decide⟩ : pm_ok0 6 227 mt_X3_countOnSteps 0)
set_option maxRecDepth 100000 in
theorem ml_6_230 : pm_lok 6 (230, (0, mt_X3_countIn, 0)) := (⟨yX3_countIn, cX3_countIn, _, mi_X3_countIn, pm_wm 701 (by decide +kernel) (by decide +kernel), pm_wm 536 (by decide +kernel) (by decide +kernel), pm_wm 537 (by decide +kernel) (by decide +kernel), by decide +kernel, by decide, by decide⟩ : pm_ok0 6 230 mt_X3_countIn 0)
set_option maxRecDepth 100000 in
theorem ml_6_233 : pm_lok 6 (233, (1, mt_X6_isSort, 1)) := (⟨yX6_isSort, cX6_isSort, _, mi_X6_isSort, pm_wm 706 (by decide +kernel) (by decide +kernel), pm_wm 707 (by decide +kernel) (by decide +kernel), by decide +kernel, by decide⟩ : pm_ok1 6 233 mt_X6_isSort 1)
set_option maxRecDepth 100000 in
theorem ml_6_236 : pm_lok 6 (236, (0, mt_X2_becomeMissing, 0)) := (⟨yX2_becomeMissing, cX2_becomeMissing, _, mi_X2_becomeMissing, pm_wm 709 (by decide +kernel) (by decide +kernel), pm_wm 710 (by decide +kernel) (by decide +kernel), pm_wm 711 (by decide +kernel) (by decide +kernel), by decide +kernel, by decide, by decide⟩ : pm_ok0 6 236 mt_X2_becomeMissing 0)
set_option maxRecDepth 100000 in
theorem ml_6_239 : pm_lok 6 (239, (0, mt_X2_becomeRow, 2)) := (⟨yX2_becomeRow, cX2_becomeRow, _, mi_X2_becomeRow, pm_wm 713 (by decide +kernel) (by decide +kernel), pm_wm 714 (by decide +kernel) (by decide +kernel), pm_wm 715 (by decide +kernel) (by decide +kernel), by decide +kernel, by decide, by decide⟩ : pm_ok0 6 239 mt_X2_becomeRow 2)
set_option maxRecDepth 100000 in
theorem ml_6_243 : pm_lok 6 (243, (0, mt_X2_hasPlaces, 2)) := (⟨yX2_hasPlaces, cX2_hasPlaces, _, mi_X2_hasPlaces, pm_wm 722 (by decide +kernel) (by decide +kernel), pm_wm 723 (by decide +kernel) (by decide +kernel), pm_wm 724 (by decide +kernel) (by decide +kernel), by decide +kernel, by decide, by decide⟩ : pm_ok0 6 243 mt_X2_hasPlaces 2)
set_option maxRecDepth 100000 in
theorem ml_6_247 : pm_lok 6 (247, (0, mt_X2_put, 2)) := (⟨yX2_put, cX2_put, _, mi_X2_put, pm_wm 726 (by decide +kernel) (by decide +kernel), pm_wm 727 (by decide +kernel) (by decide +kernel), pm_wm 728 (by decide +kernel) (by decide +kernel), by decide +kernel, by decide, by decide⟩ : pm_ok0 6 247 mt_X2_put 2)
set_option maxRecDepth 100000 in
theorem ml_6_252 : pm_lok 6 (252, (0, mt_X6_come, 3)) := (⟨yX6_come, cX6_come, _, mi_X6_come, pm_wm 738 (by decide +kernel) (by decide +kernel), pm_wm 466 (by decide +kernel) (by decide +kernel), pm_wm 467 (by decide +kernel) (by decide +kernel), by decide +kernel, by decide, by decide⟩ : pm_ok0 6 252 mt_X6_come 3)
set_option maxRecDepth 100000 in
theorem ml_6_256 : pm_lok 6 (256, (1, mt_X6_isUnder, 2)) := (⟨yX6_isUnder, cX6_isUnder, _, mi_X6_isUnder, pm_wm 743 (by decide +kernel) (by decide +kernel), pm_wm 744 (by decide +kernel) (by decide +kernel), by decide +kernel, by decide⟩ : pm_ok1 6 256 mt_X6_isUnder 2)
set_option maxRecDepth 100000 in
theorem ml_6_262 : pm_lok 6 (262, (0, mt_X3_passes, 1)) := (⟨yX3_passes, cX3_passes, _, mi_X3_passes, pm_wm 491 (by decide +kernel) (by decide +kernel), pm_wm 492 (by decide +kernel) (by decide +kernel), pm_wm 493 (by decide +kernel) (by decide +kernel), by decide +kernel, by decide, by decide⟩ : pm_ok0 6 262 mt_X3_passes 1)
set_option maxRecDepth 100000 in
theorem ml_6_265 : pm_lok 6 (265, (0, mt_X5_begin, 2)) := (⟨yX5_begin, cX5_begin, _, mi_X5_begin, pm_wm 519 (by decide +kernel) (by decide +kernel), pm_wm 520 (by decide +kernel) (by decide +kernel), pm_wm 521 (by decide +kernel) (by decide +kernel), by decide +kernel, by decide, by decide⟩ : pm_ok0 6 265 mt_X5_begin 2)
set_option maxRecDepth 100000 in
theorem ml_6_269 : pm_lok 6 (269, (0, mt_X6_beginTrialApart, 1)) := (⟨yX6_beginTrialApart, cX6_beginTrialApart, _, mi_X6_beginTrialApart, pm_wm 624 (by decide +kernel) (by decide +kernel), pm_wm 626 (by decide +kernel) (by decide +kernel), pm_wm 22 (by decide +kernel) (by decide +kernel), by decide +kernel, by decide, by decide⟩ : pm_ok0 6 269 mt_X6_beginTrialApart 1)
set_option maxRecDepth 100000 in
theorem ml_6_272 : pm_lok 6 (272, (0, mt_X6_ringsAt, 1)) := (⟨yX6_ringsAt, cX6_ringsAt, _, mi_X6_ringsAt, pm_wm 641 (by decide +kernel) (by decide +kernel), pm_wm 643 (by decide +kernel) (by decide +kernel), pm_wm 25 (by decide +kernel) (by decide +kernel), by decide +kernel, by decide, by decide⟩ : pm_ok0 6 272 mt_X6_ringsAt 1)
set_option maxRecDepth 100000 in
theorem ml_6_275 : pm_lok 6 (275, (2, pm_m0, 2)) := (pm_wm 645 (by decide +kernel) (by decide +kernel) : Cond.methodLink (pm_cn 6) 275 Lib.Math.max.name ∈ pm_w)
set_option maxRecDepth 100000 in
theorem ml_6_278 : pm_lok 6 (278, (0, mt_X6_swapBells, 2)) := (⟨yX6_swapBells, cX6_swapBells, _, mi_X6_swapBells, pm_wm 655 (by decide +kernel) (by decide +kernel), pm_wm 657 (by decide +kernel) (by decide +kernel), pm_wm 28 (by decide +kernel) (by decide +kernel), by decide +kernel, by decide, by decide⟩ : pm_ok0 6 278 mt_X6_swapBells 2)
theorem ml_6 : ∀ e ∈ pm_ml 6, pm_lok 6 e := (List.forall_mem_cons.mpr ⟨ml_6_56, (List.forall_mem_cons.mpr ⟨ml_6_62, (List.forall_mem_cons.mpr ⟨ml_6_66, (List.forall_mem_cons.mpr ⟨ml_6_70, (List.forall_mem_cons.mpr ⟨ml_6_78, (List.forall_mem_cons.mpr ⟨ml_6_81, (List.forall_mem_cons.mpr ⟨ml_6_84, (List.forall_mem_cons.mpr ⟨ml_6_91, (List.forall_mem_cons.mpr ⟨ml_6_101, (List.forall_mem_cons.mpr ⟨ml_6_122, (List.forall_mem_cons.mpr ⟨ml_6_125, (List.forall_mem_cons.mpr ⟨ml_6_129, (List.forall_mem_cons.mpr ⟨ml_6_132, (List.forall_mem_cons.mpr ⟨ml_6_140, (List.forall_mem_cons.mpr ⟨ml_6_143, (List.forall_mem_cons.mpr ⟨ml_6_150, (List.forall_mem_cons.mpr ⟨ml_6_161, (List.forall_mem_cons.mpr ⟨ml_6_177, (List.forall_mem_cons.mpr ⟨ml_6_182, (List.forall_mem_cons.mpr ⟨ml_6_185, (List.forall_mem_cons.mpr ⟨ml_6_188, (List.forall_mem_cons.mpr ⟨ml_6_192, (List.forall_mem_cons.mpr ⟨ml_6_195, (List.forall_mem_cons.mpr ⟨ml_6_201, (List.forall_mem_cons.mpr ⟨ml_6_204, (List.forall_mem_cons.mpr ⟨ml_6_210, (List.forall_mem_cons.mpr ⟨ml_6_213, (List.forall_mem_cons.mpr ⟨ml_6_220, (List.forall_mem_cons.mpr ⟨ml_6_227, (List.forall_mem_cons.mpr ⟨ml_6_230, (List.forall_mem_cons.mpr ⟨ml_6_233, (List.forall_mem_cons.mpr ⟨ml_6_236, (List.forall_mem_cons.mpr ⟨ml_6_239, (List.forall_mem_cons.mpr ⟨ml_6_243, (List.forall_mem_cons.mpr ⟨ml_6_247, (List.forall_mem_cons.mpr ⟨ml_6_252, (List.forall_mem_cons.mpr ⟨ml_6_256, (List.forall_mem_cons.mpr ⟨ml_6_262, (List.forall_mem_cons.mpr ⟨ml_6_265, (List.forall_mem_cons.mpr ⟨ml_6_269, (List.forall_mem_cons.mpr ⟨ml_6_272, (List.forall_mem_cons.mpr ⟨ml_6_275, (List.forall_mem_cons.mpr ⟨ml_6_278, (fun _ h => absurd h List.not_mem_nil)⟩)⟩)⟩)⟩)⟩)⟩)⟩)⟩)⟩)⟩)⟩)⟩)⟩)⟩)⟩)⟩)⟩)⟩)⟩)⟩)⟩)⟩)⟩)⟩)⟩)⟩)⟩)⟩)⟩)⟩)⟩)⟩)⟩)⟩)⟩)⟩)⟩)⟩)⟩)⟩)⟩)⟩)⟩)
set_option maxRecDepth 100000 in
theorem ml_7_91 : pm_lok 7 (91, (5, pm_m0, 0)) := (pm_wm 755 (by decide +kernel) (by decide +kernel) : Cond.methodLink (pm_cn 7) 91 yJ0_length_8abf5 ∈ pm_w)
set_option maxRecDepth 100000 in
theorem ml_7_97 : pm_lok 7 (97, (6, pm_m0, 1)) := (pm_wm 756 (by decide +kernel) (by decide +kernel) : Cond.methodLink (pm_cn 7) 97 yJ0_charAt_5068e ∈ pm_w)
set_option maxRecDepth 100000 in
theorem ml_7_101 : pm_lok 7 (101, (0, mt_X7_feed, 1)) := (⟨yX7_feed, cX7_feed, _, mi_X7_feed, pm_wm 757 (by decide +kernel) (by decide +kernel), pm_wm 758 (by decide +kernel) (by decide +kernel), pm_wm 759 (by decide +kernel) (by decide +kernel), by decide +kernel, by decide, by decide⟩ : pm_ok0 7 101 mt_X7_feed 1)
set_option maxRecDepth 100000 in
theorem ml_7_105 : pm_lok 7 (105, (0, mt_X7_text, 0)) := (⟨yX7_text, cX7_text, _, mi_X7_text, pm_wm 764 (by decide +kernel) (by decide +kernel), pm_wm 765 (by decide +kernel) (by decide +kernel), pm_wm 766 (by decide +kernel) (by decide +kernel), by decide +kernel, by decide, by decide⟩ : pm_ok0 7 105 mt_X7_text 0)
set_option maxRecDepth 100000 in
theorem ml_7_111 : pm_lok 7 (111, (1, mt_X7_within, 3)) := (⟨yX7_within, cX7_within, _, mi_X7_within, pm_wm 761 (by decide +kernel) (by decide +kernel), pm_wm 762 (by decide +kernel) (by decide +kernel), by decide +kernel, by decide⟩ : pm_ok1 7 111 mt_X7_within 3)
set_option maxRecDepth 100000 in
theorem ml_7_115 : pm_lok 7 (115, (1, mt_X7_holds, 2)) := (⟨yX7_holds, cX7_holds, _, mi_X7_holds, pm_wm 977 (by decide +kernel) (by decide +kernel), pm_wm 978 (by decide +kernel) (by decide +kernel), by decide +kernel, by decide⟩ : pm_ok1 7 115 mt_X7_holds 2)
set_option maxRecDepth 100000 in
theorem ml_7_122 : pm_lok 7 (122, (0, mt_X7_isClass, 1)) := (⟨yX7_isClass, cX7_isClass, _, mi_X7_isClass, pm_wm 988 (by decide +kernel) (by decide +kernel), pm_wm 990 (by decide +kernel) (by decide +kernel), pm_wm 41 (by decide +kernel) (by decide +kernel), by decide +kernel, by decide, by decide⟩ : pm_ok0 7 122 mt_X7_isClass 1)
set_option maxRecDepth 100000 in
theorem ml_7_126 : pm_lok 7 (126, (0, mt_X7_holds_, 1)) := (⟨yX7_holds_, cX7_holds_, _, mi_X7_holds_, pm_wm 996 (by decide +kernel) (by decide +kernel), pm_wm 998 (by decide +kernel) (by decide +kernel), pm_wm 42 (by decide +kernel) (by decide +kernel), by decide +kernel, by decide, by decide⟩ : pm_ok0 7 126 mt_X7_holds_ 1)
set_option maxRecDepth 100000 in
theorem ml_7_128 : pm_lok 7 (128, (0, mt_X7_passes, 1)) := (⟨yX7_passes, cX7_passes, _, mi_X7_passes, pm_wm 1000 (by decide +kernel) (by decide +kernel), pm_wm 1002 (by decide +kernel) (by decide +kernel), pm_wm 43 (by decide +kernel) (by decide +kernel), by decide +kernel, by decide, by decide⟩ : pm_ok0 7 128 mt_X7_passes 1)
set_option maxRecDepth 100000 in
theorem ml_7_143 : pm_lok 7 (143, (1, mt_X7_isDigit, 1)) := (⟨yX7_isDigit, cX7_isDigit, _, mi_X7_isDigit, pm_wm 772 (by decide +kernel) (by decide +kernel), pm_wm 773 (by decide +kernel) (by decide +kernel), by decide +kernel, by decide⟩ : pm_ok1 7 143 mt_X7_isDigit 1)
set_option maxRecDepth 100000 in
theorem ml_7_149 : pm_lok 7 (149, (1, mt_X7_isLetter, 1)) := (⟨yX7_isLetter, cX7_isLetter, _, mi_X7_isLetter, pm_wm 775 (by decide +kernel) (by decide +kernel), pm_wm 776 (by decide +kernel) (by decide +kernel), by decide +kernel, by decide⟩ : pm_ok1 7 149 mt_X7_isLetter 1)
set_option maxRecDepth 100000 in
theorem ml_7_154 : pm_lok 7 (154, (0, mt_X7_is, 1)) := (⟨yX7_is, cX7_is, _, mi_X7_is, pm_wm 783 (by decide +kernel) (by decide +kernel), pm_wm 785 (by decide +kernel) (by decide +kernel), pm_wm 31 (by decide +kernel) (by decide +kernel), by decide +kernel, by decide, by decide⟩ : pm_ok0 7 154 mt_X7_is 1)
set_option maxRecDepth 100000 in
theorem ml_7_173 : pm_lok 7 (173, (0, mt_X7_both, 0)) := (⟨yX7_both, cX7_both, _, mi_X7_both, pm_wm 791 (by decide +kernel) (by decide +kernel), pm_wm 793 (by decide +kernel) (by decide +kernel), pm_wm 33 (by decide +kernel) (by decide +kernel), by decide +kernel, by decide, by decide⟩ : pm_ok0 7 173 mt_X7_both 0)
set_option maxRecDepth 100000 in
theorem ml_7_179 : pm_lok 7 (179, (0, mt_X7_next, 0)) := (⟨yX7_next, cX7_next, _, mi_X7_next, pm_wm 768 (by decide +kernel) (by decide +kernel), pm_wm 770 (by decide +kernel) (by decide +kernel), pm_wm 29 (by decide +kernel) (by decide +kernel), by decide +kernel, by decide, by decide⟩ : pm_ok0 7 179 mt_X7_next 0)
set_option maxRecDepth 100000 in
theorem ml_7_182 : pm_lok 7 (182, (0, mt_X7_put, 1)) := (⟨yX7_put, cX7_put, _, mi_X7_put, pm_wm 800 (by decide +kernel) (by decide +kernel), pm_wm 802 (by decide +kernel) (by decide +kernel), pm_wm 35 (by decide +kernel) (by decide +kernel), by decide +kernel, by decide, by decide⟩ : pm_ok0 7 182 mt_X7_put 1)
set_option maxRecDepth 100000 in
theorem ml_7_186 : pm_lok 7 (186, (0, mt_X7_not, 0)) := (⟨yX7_not, cX7_not, _, mi_X7_not, pm_wm 795 (by decide +kernel) (by decide +kernel), pm_wm 797 (by decide +kernel) (by decide +kernel), pm_wm 34 (by decide +kernel) (by decide +kernel), by decide +kernel, by decide, by decide⟩ : pm_ok0 7 186 mt_X7_not 0)
set_option maxRecDepth 100000 in
theorem ml_7_195 : pm_lok 7 (195, (0, mt_X7_sum, 0)) := (⟨yX7_sum, cX7_sum, _, mi_X7_sum, pm_wm 804 (by decide +kernel) (by decide +kernel), pm_wm 806 (by decide +kernel) (by decide +kernel), pm_wm 36 (by decide +kernel) (by decide +kernel), by decide +kernel, by decide, by decide⟩ : pm_ok0 7 195 mt_X7_sum 0)
set_option maxRecDepth 100000 in
theorem ml_7_198 : pm_lok 7 (198, (0, mt_X7_is_, 1)) := (⟨yX7_is_, cX7_is_, _, mi_X7_is_, pm_wm 826 (by decide +kernel) (by decide +kernel), pm_wm 828 (by decide +kernel) (by decide +kernel), pm_wm 40 (by decide +kernel) (by decide +kernel), by decide +kernel, by decide, by decide⟩ : pm_ok0 7 198 mt_X7_is_ 1)
set_option maxRecDepth 100000 in
theorem ml_7_201 : pm_lok 7 (201, (0, mt_X7_term, 0)) := (⟨yX7_term, cX7_term, _, mi_X7_term, pm_wm 808 (by decide +kernel) (by decide +kernel), pm_wm 810 (by decide +kernel) (by decide +kernel), pm_wm 37 (by decide +kernel) (by decide +kernel), by decide +kernel, by decide, by decide⟩ : pm_ok0 7 201 mt_X7_term 0)
set_option maxRecDepth 100000 in
theorem ml_7_204 : pm_lok 7 (204, (0, mt_X7_one, 0)) := (⟨yX7_one, cX7_one, _, mi_X7_one, pm_wm 812 (by decide +kernel) (by decide +kernel), pm_wm 814 (by decide +kernel) (by decide +kernel), pm_wm 38 (by decide +kernel) (by decide +kernel), by decide +kernel, by decide, by decide⟩ : pm_ok0 7 204 mt_X7_one 0)
set_option maxRecDepth 100000 in
theorem ml_7_207 : pm_lok 7 (207, (0, mt_X7_name, 0)) := (⟨yX7_name, cX7_name, _, mi_X7_name, pm_wm 816 (by decide +kernel) (by decide +kernel), pm_wm 818 (by decide +kernel) (by decide +kernel), pm_wm 39 (by decide +kernel) (by decide +kernel), by decide +kernel, by decide, by decide⟩ : pm_ok0 7 207 mt_X7_name 0)
set_option maxRecDepth 100000 in
theorem ml_7_210 : pm_lok 7 (210, (0, mt_X7_any, 0)) := (⟨yX7_any, cX7_any, _, mi_X7_any, pm_wm 787 (by decide +kernel) (by decide +kernel), pm_wm 789 (by decide +kernel) (by decide +kernel), pm_wm 32 (by decide +kernel) (by decide +kernel), by decide +kernel, by decide, by decide⟩ : pm_ok0 7 210 mt_X7_any 0)
set_option maxRecDepth 100000 in
theorem ml_7_215 : pm_lok 7 (215, (0, mt_X7_part, 2)) := (⟨yX7_part, cX7_part, _, mi_X7_part, pm_wm 779 (by decide +kernel) (by decide +kernel), pm_wm 781 (by decide +kernel) (by decide +kernel), pm_wm 30 (by decide +kernel) (by decide +kernel), by decide +kernel, by decide, by decide⟩ : pm_ok0 7 215 mt_X7_part 2)
set_option maxRecDepth 100000 in
theorem ml_7_226 : pm_lok 7 (226, (3, pm_m0, 2)) := (pm_wm 1026 (by decide +kernel) (by decide +kernel) : Cond.methodLink (pm_cn 7) 226 Lib.Math.min.name ∈ pm_w)
set_option maxRecDepth 100000 in
theorem ml_7_231 : pm_lok 7 (231, (2, pm_m0, 2)) := (pm_wm 1027 (by decide +kernel) (by decide +kernel) : Cond.methodLink (pm_cn 7) 231 Lib.Math.max.name ∈ pm_w)
set_option maxRecDepth 100000 in
theorem ml_7_234 : pm_lok 7 (234, (0, mt_X7_stillIn, 0)) := (⟨yX7_stillIn, cX7_stillIn, _, mi_X7_stillIn, pm_wm 1018 (by decide +kernel) (by decide +kernel), pm_wm 1020 (by decide +kernel) (by decide +kernel), pm_wm 45 (by decide +kernel) (by decide +kernel), by decide +kernel, by decide, by decide⟩ : pm_ok0 7 234 mt_X7_stillIn 0)
set_option maxRecDepth 100000 in
theorem ml_7_237 : pm_lok 7 (237, (0, mt_X7_worth, 4)) := (⟨yX7_worth, cX7_worth, _, mi_X7_worth, pm_wm 1022 (by decide +kernel) (by decide +kernel), pm_wm 1024 (by decide +kernel) (by decide +kernel), pm_wm 46 (by decide +kernel) (by decide +kernel), by decide +kernel, by decide, by decide⟩ : pm_ok0 7 237 mt_X7_worth 4)
set_option maxRecDepth 100000 in
theorem ml_7_253 : pm_lok 7 (253, (0, mt_X7_pass, 0)) := (⟨yX7_pass, cX7_pass, _, mi_X7_pass, pm_wm 1014 (by decide +kernel) (by decide +kernel), pm_wm 1016 (by decide +kernel) (by decide +kernel), pm_wm 44 (by decide +kernel) (by decide +kernel), by decide +kernel, by decide, by decide⟩ : pm_ok0 7 253 mt_X7_pass 0)
set_option maxRecDepth 100000 in
theorem ml_7_256 : pm_lok 7 (256, (0, mt_X7_keep, 0)) := (⟨yX7_keep, cX7_keep, _, mi_X7_keep, pm_wm 1040 (by decide +kernel) (by decide +kernel), pm_wm 1042 (by decide +kernel) (by decide +kernel), pm_wm 49 (by decide +kernel) (by decide +kernel), by decide +kernel, by decide, by decide⟩ : pm_ok0 7 256 mt_X7_keep 0)
set_option maxRecDepth 100000 in
theorem ml_7_259 : pm_lok 7 (259, (0, mt_X7_onSteps, 0)) := (⟨yX7_onSteps, cX7_onSteps, _, mi_X7_onSteps, pm_wm 1044 (by decide +kernel) (by decide +kernel), pm_wm 1046 (by decide +kernel) (by decide +kernel), pm_wm 50 (by decide +kernel) (by decide +kernel), by decide +kernel, by decide, by decide⟩ : pm_ok0 7 259 mt_X7_onSteps 0)
set_option maxRecDepth 100000 in
theorem ml_7_262 : pm_lok 7 (262, (0, mt_X7_again, 0)) := (⟨yX7_again, cX7_again, _, mi_X7_again, pm_wm 1048 (by decide +kernel) (by decide +kernel), pm_wm 1050 (by decide +kernel) (by decide +kernel), pm_wm 51 (by decide +kernel) (by decide +kernel), by decide +kernel, by decide, by decide⟩ : pm_ok0 7 262 mt_X7_again 0)
set_option maxRecDepth 100000 in
theorem ml_7_265 : pm_lok 7 (265, (0, mt_X7_ends, 2)) := (⟨yX7_ends, cX7_ends, _, mi_X7_ends, pm_wm 1036 (by decide +kernel) (by decide +kernel), pm_wm 1038 (by decide +kernel) (by decide +kernel), pm_wm 48 (by decide +kernel) (by decide +kernel), by decide +kernel, by decide, by decide⟩ : pm_ok0 7 265 mt_X7_ends 2)
set_option maxRecDepth 100000 in
theorem ml_7_268 : pm_lok 7 (268, (0, mt_X7_ends_, 0)) := (⟨yX7_ends_, cX7_ends_, _, mi_X7_ends_, pm_wm 1032 (by decide +kernel) (by decide +kernel), pm_wm 1034 (by decide +kernel) (by decide +kernel), pm_wm 47 (by decide +kernel) (by decide +kernel), by decide +kernel, by decide, by decide⟩ : pm_ok0 7 268 mt_X7_ends_ 0)
set_option maxRecDepth 100000 in
theorem ml_7_270 : pm_lok 7 (270, (0, mt_X7_keepBells, 0)) := (⟨yX7_keepBells, cX7_keepBells, _, mi_X7_keepBells, pm_wm 1072 (by decide +kernel) (by decide +kernel), pm_wm 1074 (by decide +kernel) (by decide +kernel), pm_wm 52 (by decide +kernel) (by decide +kernel), by decide +kernel, by decide, by decide⟩ : pm_ok0 7 270 mt_X7_keepBells 0)
set_option maxRecDepth 100000 in
theorem ml_7_273 : pm_lok 7 (273, (0, mt_X7_bellsAgain, 0)) := (⟨yX7_bellsAgain, cX7_bellsAgain, _, mi_X7_bellsAgain, pm_wm 1076 (by decide +kernel) (by decide +kernel), pm_wm 1078 (by decide +kernel) (by decide +kernel), pm_wm 53 (by decide +kernel) (by decide +kernel), by decide +kernel, by decide, by decide⟩ : pm_ok0 7 273 mt_X7_bellsAgain 0)
set_option maxRecDepth 100000 in
theorem ml_7_276 : pm_lok 7 (276, (0, mt_X7_another, 0)) := (⟨yX7_another, cX7_another, _, mi_X7_another, pm_wm 1084 (by decide +kernel) (by decide +kernel), pm_wm 1086 (by decide +kernel) (by decide +kernel), pm_wm 54 (by decide +kernel) (by decide +kernel), by decide +kernel, by decide, by decide⟩ : pm_ok0 7 276 mt_X7_another 0)
set_option maxRecDepth 100000 in
theorem ml_7_300 : pm_lok 7 (300, (0, mt_X7_come, 3)) := (⟨yX7_come, cX7_come, _, mi_X7_come, pm_wm 1139 (by decide +kernel) (by decide +kernel), pm_wm 981 (by decide +kernel) (by decide +kernel), pm_wm 982 (by decide +kernel) (by decide +kernel), by decide +kernel, by decide, by decide⟩ : pm_ok0 7 300 mt_X7_come 3)
theorem ml_7 : ∀ e ∈ pm_ml 7, pm_lok 7 e := (List.forall_mem_cons.mpr ⟨ml_7_91, (List.forall_mem_cons.mpr ⟨ml_7_97, (List.forall_mem_cons.mpr ⟨ml_7_101, (List.forall_mem_cons.mpr ⟨ml_7_105, (List.forall_mem_cons.mpr ⟨ml_7_111, (List.forall_mem_cons.mpr ⟨ml_7_115, (List.forall_mem_cons.mpr ⟨ml_7_122, (List.forall_mem_cons.mpr ⟨ml_7_126, (List.forall_mem_cons.mpr ⟨ml_7_128, (List.forall_mem_cons.mpr ⟨ml_7_143, (List.forall_mem_cons.mpr ⟨ml_7_149, (List.forall_mem_cons.mpr ⟨ml_7_154, (List.forall_mem_cons.mpr ⟨ml_7_173, (List.forall_mem_cons.mpr ⟨ml_7_179, (List.forall_mem_cons.mpr ⟨ml_7_182, (List.forall_mem_cons.mpr ⟨ml_7_186, (List.forall_mem_cons.mpr ⟨ml_7_195, (List.forall_mem_cons.mpr ⟨ml_7_198, (List.forall_mem_cons.mpr ⟨ml_7_201, (List.forall_mem_cons.mpr ⟨ml_7_204, (List.forall_mem_cons.mpr ⟨ml_7_207, (List.forall_mem_cons.mpr ⟨ml_7_210, (List.forall_mem_cons.mpr ⟨ml_7_215, (List.forall_mem_cons.mpr ⟨ml_7_226, (List.forall_mem_cons.mpr ⟨ml_7_231, (List.forall_mem_cons.mpr ⟨ml_7_234, (List.forall_mem_cons.mpr ⟨ml_7_237, (List.forall_mem_cons.mpr ⟨ml_7_253, (List.forall_mem_cons.mpr ⟨ml_7_256, (List.forall_mem_cons.mpr ⟨ml_7_259, (List.forall_mem_cons.mpr ⟨ml_7_262, (List.forall_mem_cons.mpr ⟨ml_7_265, (List.forall_mem_cons.mpr ⟨ml_7_268, (List.forall_mem_cons.mpr ⟨ml_7_270, (List.forall_mem_cons.mpr ⟨ml_7_273, (List.forall_mem_cons.mpr ⟨ml_7_276, (List.forall_mem_cons.mpr ⟨ml_7_300, (fun _ h => absurd h List.not_mem_nil)⟩)⟩)⟩)⟩)⟩)⟩)⟩)⟩)⟩)⟩)⟩)⟩)⟩)⟩)⟩)⟩)⟩)⟩)⟩)⟩)⟩)⟩)⟩)⟩)⟩)⟩)⟩)⟩)⟩)⟩)⟩)⟩)⟩)⟩)⟩)⟩)⟩)
set_option maxRecDepth 100000 in
theorem fl_0_9 : pm_fok 0 (9, (0, 1)) := ⟨RX0, TX0, 8, tyX0, rfl, by decide, rfl, pm_wm 211 (by decide +kernel) (by decide +kernel), pm_uw0, tyX0_ok, nmX0, (fun h => by cases h), (fun h => by cases h), (fun h => by cases h)⟩
set_option maxRecDepth 100000 in
theorem fl_0_15 : pm_fok 0 (15, (0, 0)) := ⟨RX0, TX0, 8, tyX0, rfl, by decide, rfl, pm_wm 209 (by decide +kernel) (by decide +kernel), pm_uw0, tyX0_ok, nmX0, (fun _ => ⟨rfl, rfl⟩), (fun h => by cases h), (fun h => by cases h)⟩
set_option maxRecDepth 100000 in
theorem fl_0_19 : pm_fok 0 (19, (0, 2)) := ⟨RX0, TX0, 8, tyX0, rfl, by decide, rfl, pm_wm 212 (by decide +kernel) (by decide +kernel), pm_uw0, tyX0_ok, nmX0, (fun h => by cases h), (fun h => by cases h), (fun _ => ⟨⟨_, rfl⟩, rfl⟩)⟩
set_option maxRecDepth 100000 in
theorem fl_0_23 : pm_fok 0 (23, (4, 2)) := ⟨RX4, TX4, 3, tyX4, rfl, by decide, rfl, pm_wm 250 (by decide +kernel) (by decide +kernel), pm_uw4, tyX4_ok, nmX4, (fun _ => ⟨rfl, rfl⟩), (fun h => by cases h), (fun h => by cases h)⟩
set_option maxRecDepth 100000 in
theorem fl_0_26 : pm_fok 0 (26, (0, 3)) := ⟨RX0, TX0, 8, tyX0, rfl, by decide, rfl, pm_wm 213 (by decide +kernel) (by decide +kernel), pm_uw0, tyX0_ok, nmX0, (fun _ => ⟨rfl, rfl⟩), (fun h => by cases h), (fun h => by cases h)⟩
set_option maxRecDepth 100000 in
theorem fl_0_29 : pm_fok 0 (29, (0, 7)) := ⟨RX0, TX0, 8, tyX0, rfl, by decide, rfl, pm_wm 217 (by decide +kernel) (by decide +kernel), pm_uw0, tyX0_ok, nmX0, (fun _ => ⟨rfl, rfl⟩), (fun h => by cases h), (fun h => by cases h)⟩
set_option maxRecDepth 100000 in
theorem fl_0_42 : pm_fok 0 (42, (4, 1)) := ⟨RX4, TX4, 3, tyX4, rfl, by decide, rfl, pm_wm 248 (by decide +kernel) (by decide +kernel), pm_uw4, tyX4_ok, nmX4, (fun h => by cases h), (fun h => by cases h), (fun h => by cases h)⟩
set_option maxRecDepth 100000 in
theorem fl_0_45 : pm_fok 0 (45, (0, 4)) := ⟨RX0, TX0, 8, tyX0, rfl, by decide, rfl, pm_wm 214 (by decide +kernel) (by decide +kernel), pm_uw0, tyX0_ok, nmX0, (fun _ => ⟨rfl, rfl⟩), (fun h => by cases h), (fun h => by cases h)⟩
set_option maxRecDepth 100000 in
theorem fl_0_51 : pm_fok 0 (51, (0, 5)) := ⟨RX0, TX0, 8, tyX0, rfl, by decide, rfl, pm_wm 215 (by decide +kernel) (by decide +kernel), pm_uw0, tyX0_ok, nmX0, (fun _ => ⟨rfl, rfl⟩), (fun h => by cases h), (fun h => by cases h)⟩
set_option maxRecDepth 100000 in
theorem fl_0_72 : pm_fok 0 (72, (0, 6)) := ⟨RX0, TX0, 8, tyX0, rfl, by decide, rfl, pm_wm 216 (by decide +kernel) (by decide +kernel), pm_uw0, tyX0_ok, nmX0, (fun _ => ⟨rfl, rfl⟩), (fun h => by cases h), (fun h => by cases h)⟩
theorem fl_0 : ∀ e ∈ pm_fl 0, pm_fok 0 e := (List.forall_mem_cons.mpr ⟨fl_0_9, (List.forall_mem_cons.mpr ⟨fl_0_15, (List.forall_mem_cons.mpr ⟨fl_0_19, (List.forall_mem_cons.mpr ⟨fl_0_23, (List.forall_mem_cons.mpr ⟨fl_0_26, (List.forall_mem_cons.mpr ⟨fl_0_29, (List.forall_mem_cons.mpr ⟨fl_0_42, (List.forall_mem_cons.mpr ⟨fl_0_45, (List.forall_mem_cons.mpr ⟨fl_0_51, (List.forall_mem_cons.mpr ⟨fl_0_72, (fun _ h => absurd h List.not_mem_nil)⟩)⟩)⟩)⟩)⟩)⟩)⟩)⟩)⟩)⟩)
set_option maxRecDepth 100000 in
theorem fl_1_9 : pm_fok 1 (9, (1, 0)) := ⟨RX1, TX1, 2, tyX1, rfl, by decide, rfl, pm_wm 161 (by decide +kernel) (by decide +kernel), pm_uw1, tyX1_ok, nmX1, (fun h => by cases h), (fun h => by cases h), (fun h => by cases h)⟩
set_option maxRecDepth 100000 in
theorem fl_1_15 : pm_fok 1 (15, (1, 1)) := ⟨RX1, TX1, 2, tyX1, rfl, by decide, rfl, pm_wm 163 (by decide +kernel) (by decide +kernel), pm_uw1, tyX1_ok, nmX1, (fun h => by cases h), (fun h => by cases h), (fun h => by cases h)⟩
set_option maxRecDepth 100000 in
theorem fl_1_24 : pm_fok 1 (24, (4, 1)) := ⟨RX4, TX4, 3, tyX4, rfl, by decide, rfl, pm_wm 247 (by decide +kernel) (by decide +kernel), pm_uw4, tyX4_ok, nmX4, (fun h => by cases h), (fun h => by cases h), (fun h => by cases h)⟩
set_option maxRecDepth 100000 in
theorem fl_1_27 : pm_fok 1 (27, (4, 0)) := ⟨RX4, TX4, 3, tyX4, rfl, by decide, rfl, pm_wm 245 (by decide +kernel) (by decide +kernel), pm_uw4, tyX4_ok, nmX4, (fun h => by cases h), (fun h => by cases h), (fun h => by cases h)⟩
theorem fl_1 : ∀ e ∈ pm_fl 1, pm_fok 1 e := (List.forall_mem_cons.mpr ⟨fl_1_9, (List.forall_mem_cons.mpr ⟨fl_1_15, (List.forall_mem_cons.mpr ⟨fl_1_24, (List.forall_mem_cons.mpr ⟨fl_1_27, (fun _ h => absurd h List.not_mem_nil)⟩)⟩)⟩)⟩)
set_option maxRecDepth 100000 in
theorem fl_2_9 : pm_fok 2 (9, (2, 0)) := ⟨RX2, TX2, 3, tyX2, rfl, by decide, rfl, pm_wm 263 (by decide +kernel) (by decide +kernel), pm_uw2, tyX2_ok, nmX2, (fun h => by cases h), (fun h => by cases h), (fun h => by cases h)⟩
set_option maxRecDepth 100000 in
theorem fl_2_15 : pm_fok 2 (15, (2, 1)) := ⟨RX2, TX2, 3, tyX2, rfl, by decide, rfl, pm_wm 265 (by decide +kernel) (by decide +kernel), pm_uw2, tyX2_ok, nmX2, (fun _ => ⟨rfl, rfl⟩), (fun h => by cases h), (fun h => by cases h)⟩
set_option maxRecDepth 100000 in
theorem fl_2_19 : pm_fok 2 (19, (2, 2)) := ⟨RX2, TX2, 3, tyX2, rfl, by decide, rfl, pm_wm 267 (by decide +kernel) (by decide +kernel), pm_uw2, tyX2_ok, nmX2, (fun _ => ⟨rfl, rfl⟩), (fun h => by cases h), (fun h => by cases h)⟩
theorem fl_2 : ∀ e ∈ pm_fl 2, pm_fok 2 e := (List.forall_mem_cons.mpr ⟨fl_2_9, (List.forall_mem_cons.mpr ⟨fl_2_15, (List.forall_mem_cons.mpr ⟨fl_2_19, (fun _ h => absurd h List.not_mem_nil)⟩)⟩)⟩)
set_option maxRecDepth 100000 in
theorem fl_3_9 : pm_fok 3 (9, (3, 0)) := ⟨RX3, TX3, 12, tyX3, rfl, by decide, rfl, pm_wm 88 (by decide +kernel) (by decide +kernel), pm_uw3, tyX3_ok, nmX3, (fun h => by cases h), (fun h => by cases h), (fun h => by cases h)⟩
set_option maxRecDepth 100000 in
theorem fl_3_15 : pm_fok 3 (15, (3, 1)) := ⟨RX3, TX3, 12, tyX3, rfl, by decide, rfl, pm_wm 90 (by decide +kernel) (by decide +kernel), pm_uw3, tyX3_ok, nmX3, (fun h => by cases h), (fun h => by cases h), (fun h => by cases h)⟩
set_option maxRecDepth 100000 in
theorem fl_3_18 : pm_fok 3 (18, (3, 2)) := ⟨RX3, TX3, 12, tyX3, rfl, by decide, rfl, pm_wm 93 (by decide +kernel) (by decide +kernel), pm_uw3, tyX3_ok, nmX3, (fun h => by cases h), (fun h => by cases h), (fun h => by cases h)⟩
set_option maxRecDepth 100000 in
theorem fl_3_21 : pm_fok 3 (21, (3, 3)) := ⟨RX3, TX3, 12, tyX3, rfl, by decide, rfl, pm_wm 96 (by decide +kernel) (by decide +kernel), pm_uw3, tyX3_ok, nmX3, (fun h => by cases h), (fun h => by cases h), (fun h => by cases h)⟩
set_option maxRecDepth 100000 in
theorem fl_3_24 : pm_fok 3 (24, (3, 4)) := ⟨RX3, TX3, 12, tyX3, rfl, by decide, rfl, pm_wm 98 (by decide +kernel) (by decide +kernel), pm_uw3, tyX3_ok, nmX3, (fun h => by cases h), (fun h => by cases h), (fun h => by cases h)⟩
set_option maxRecDepth 100000 in
theorem fl_3_27 : pm_fok 3 (27, (3, 5)) := ⟨RX3, TX3, 12, tyX3, rfl, by decide, rfl, pm_wm 101 (by decide +kernel) (by decide +kernel), pm_uw3, tyX3_ok, nmX3, (fun h => by cases h), (fun h => by cases h), (fun h => by cases h)⟩
set_option maxRecDepth 100000 in
theorem fl_3_30 : pm_fok 3 (30, (3, 6)) := ⟨RX3, TX3, 12, tyX3, rfl, by decide, rfl, pm_wm 104 (by decide +kernel) (by decide +kernel), pm_uw3, tyX3_ok, nmX3, (fun h => by cases h), (fun h => by cases h), (fun h => by cases h)⟩
set_option maxRecDepth 100000 in
theorem fl_3_33 : pm_fok 3 (33, (3, 7)) := ⟨RX3, TX3, 12, tyX3, rfl, by decide, rfl, pm_wm 107 (by decide +kernel) (by decide +kernel), pm_uw3, tyX3_ok, nmX3, (fun h => by cases h), (fun h => by cases h), (fun h => by cases h)⟩
set_option maxRecDepth 100000 in
theorem fl_3_48 : pm_fok 3 (48, (3, 8)) := ⟨RX3, TX3, 12, tyX3, rfl, by decide, rfl, pm_wm 110 (by decide +kernel) (by decide +kernel), pm_uw3, tyX3_ok, nmX3, (fun _ => ⟨rfl, rfl⟩), (fun h => by cases h), (fun h => by cases h)⟩
set_option maxRecDepth 100000 in
theorem fl_3_52 : pm_fok 3 (52, (3, 9)) := ⟨RX3, TX3, 12, tyX3, rfl, by decide, rfl, pm_wm 113 (by decide +kernel) (by decide +kernel), pm_uw3, tyX3_ok, nmX3, (fun _ => ⟨rfl, rfl⟩), (fun h => by cases h), (fun h => by cases h)⟩
set_option maxRecDepth 100000 in
theorem fl_3_55 : pm_fok 3 (55, (3, 10)) := ⟨RX3, TX3, 12, tyX3, rfl, by decide, rfl, pm_wm 116 (by decide +kernel) (by decide +kernel), pm_uw3, tyX3_ok, nmX3, (fun _ => ⟨rfl, rfl⟩), (fun h => by cases h), (fun h => by cases h)⟩
set_option maxRecDepth 100000 in
theorem fl_3_58 : pm_fok 3 (58, (3, 11)) := ⟨RX3, TX3, 12, tyX3, rfl, by decide, rfl, pm_wm 119 (by decide +kernel) (by decide +kernel), pm_uw3, tyX3_ok, nmX3, (fun _ => ⟨rfl, rfl⟩), (fun h => by cases h), (fun h => by cases h)⟩
theorem fl_3 : ∀ e ∈ pm_fl 3, pm_fok 3 e := (List.forall_mem_cons.mpr ⟨fl_3_9, (List.forall_mem_cons.mpr ⟨fl_3_15, (List.forall_mem_cons.mpr ⟨fl_3_18, (List.forall_mem_cons.mpr ⟨fl_3_21, (List.forall_mem_cons.mpr ⟨fl_3_24, (List.forall_mem_cons.mpr ⟨fl_3_27, (List.forall_mem_cons.mpr ⟨fl_3_30, (List.forall_mem_cons.mpr ⟨fl_3_33, (List.forall_mem_cons.mpr ⟨fl_3_48, (List.forall_mem_cons.mpr ⟨fl_3_52, (List.forall_mem_cons.mpr ⟨fl_3_55, (List.forall_mem_cons.mpr ⟨fl_3_58, (fun _ h => absurd h List.not_mem_nil)⟩)⟩)⟩)⟩)⟩)⟩)⟩)⟩)⟩)⟩)⟩)⟩)
set_option maxRecDepth 100000 in
theorem fl_4_9 : pm_fok 4 (9, (4, 0)) := ⟨RX4, TX4, 3, tyX4, rfl, by decide, rfl, pm_wm 244 (by decide +kernel) (by decide +kernel), pm_uw4, tyX4_ok, nmX4, (fun h => by cases h), (fun h => by cases h), (fun h => by cases h)⟩
set_option maxRecDepth 100000 in
theorem fl_4_15 : pm_fok 4 (15, (4, 1)) := ⟨RX4, TX4, 3, tyX4, rfl, by decide, rfl, pm_wm 246 (by decide +kernel) (by decide +kernel), pm_uw4, tyX4_ok, nmX4, (fun h => by cases h), (fun h => by cases h), (fun h => by cases h)⟩
set_option maxRecDepth 100000 in
theorem fl_4_18 : pm_fok 4 (18, (4, 2)) := ⟨RX4, TX4, 3, tyX4, rfl, by decide, rfl, pm_wm 249 (by decide +kernel) (by decide +kernel), pm_uw4, tyX4_ok, nmX4, (fun _ => ⟨rfl, rfl⟩), (fun h => by cases h), (fun h => by cases h)⟩
theorem fl_4 : ∀ e ∈ pm_fl 4, pm_fok 4 e := (List.forall_mem_cons.mpr ⟨fl_4_9, (List.forall_mem_cons.mpr ⟨fl_4_15, (List.forall_mem_cons.mpr ⟨fl_4_18, (fun _ h => absurd h List.not_mem_nil)⟩)⟩)⟩)
set_option maxRecDepth 100000 in
theorem fl_5_12 : pm_fok 5 (12, (5, 0)) := ⟨RX5, TX5, 9, tyX5, rfl, by decide, rfl, pm_wm 169 (by decide +kernel) (by decide +kernel), pm_uw5, tyX5_ok, nmX5, (fun h => by cases h), (fun h => by cases h), (fun h => by cases h)⟩
set_option maxRecDepth 100000 in
theorem fl_5_18 : pm_fok 5 (18, (5, 1)) := ⟨RX5, TX5, 9, tyX5, rfl, by decide, rfl, pm_wm 171 (by decide +kernel) (by decide +kernel), pm_uw5, tyX5_ok, nmX5, (fun h => by cases h), (fun h => by cases h), (fun h => by cases h)⟩
set_option maxRecDepth 100000 in
theorem fl_5_22 : pm_fok 5 (22, (5, 6)) := ⟨RX5, TX5, 9, tyX5, rfl, by decide, rfl, pm_wm 181 (by decide +kernel) (by decide +kernel), pm_uw5, tyX5_ok, nmX5, (fun h => by cases h), (fun h => by cases h), (fun h => by cases h)⟩
set_option maxRecDepth 100000 in
theorem fl_5_28 : pm_fok 5 (28, (5, 7)) := ⟨RX5, TX5, 9, tyX5, rfl, by decide, rfl, pm_wm 182 (by decide +kernel) (by decide +kernel), pm_uw5, tyX5_ok, nmX5, (fun h => by cases h), (fun h => by cases h), (fun h => by cases h)⟩
set_option maxRecDepth 100000 in
theorem fl_5_36 : pm_fok 5 (36, (5, 8)) := ⟨RX5, TX5, 9, tyX5, rfl, by decide, rfl, pm_wm 183 (by decide +kernel) (by decide +kernel), pm_uw5, tyX5_ok, nmX5, (fun h => by cases h), (fun h => by cases h), (fun _ => ⟨⟨_, rfl⟩, rfl⟩)⟩
set_option maxRecDepth 100000 in
theorem fl_5_46 : pm_fok 5 (46, (5, 2)) := ⟨RX5, TX5, 9, tyX5, rfl, by decide, rfl, pm_wm 173 (by decide +kernel) (by decide +kernel), pm_uw5, tyX5_ok, nmX5, (fun _ => ⟨rfl, rfl⟩), (fun h => by cases h), (fun h => by cases h)⟩
set_option maxRecDepth 100000 in
theorem fl_5_50 : pm_fok 5 (50, (5, 3)) := ⟨RX5, TX5, 9, tyX5, rfl, by decide, rfl, pm_wm 175 (by decide +kernel) (by decide +kernel), pm_uw5, tyX5_ok, nmX5, (fun _ => ⟨rfl, rfl⟩), (fun h => by cases h), (fun h => by cases h)⟩
set_option maxRecDepth 100000 in
theorem fl_5_53 : pm_fok 5 (53, (5, 4)) := ⟨RX5, TX5, 9, tyX5, rfl, by decide, rfl, pm_wm 177 (by decide +kernel) (by decide +kernel), pm_uw5, tyX5_ok, nmX5, (fun _ => ⟨rfl, rfl⟩), (fun h => by cases h), (fun h => by cases h)⟩
set_option maxRecDepth 100000 in
theorem fl_5_56 : pm_fok 5 (56, (5, 5)) := ⟨RX5, TX5, 9, tyX5, rfl, by decide, rfl, pm_wm 179 (by decide +kernel) (by decide +kernel), pm_uw5, tyX5_ok, nmX5, (fun h => by cases h), (fun _ => ⟨rfl, rfl⟩), (fun h => by cases h)⟩
set_option maxRecDepth 100000 in
theorem fl_5_80 : pm_fok 5 (80, (3, 8)) := ⟨RX3, TX3, 12, tyX3, rfl, by decide, rfl, pm_wm 112 (by decide +kernel) (by decide +kernel), pm_uw3, tyX3_ok, nmX3, (fun _ => ⟨rfl, rfl⟩), (fun h => by cases h), (fun h => by cases h)⟩
set_option maxRecDepth 100000 in
theorem fl_5_83 : pm_fok 5 (83, (3, 5)) := ⟨RX3, TX3, 12, tyX3, rfl, by decide, rfl, pm_wm 103 (by decide +kernel) (by decide +kernel), pm_uw3, tyX3_ok, nmX3, (fun h => by cases h), (fun h => by cases h), (fun h => by cases h)⟩
set_option maxRecDepth 100000 in
theorem fl_5_86 : pm_fok 5 (86, (3, 9)) := ⟨RX3, TX3, 12, tyX3, rfl, by decide, rfl, pm_wm 114 (by decide +kernel) (by decide +kernel), pm_uw3, tyX3_ok, nmX3, (fun _ => ⟨rfl, rfl⟩), (fun h => by cases h), (fun h => by cases h)⟩
set_option maxRecDepth 100000 in
theorem fl_5_89 : pm_fok 5 (89, (3, 7)) := ⟨RX3, TX3, 12, tyX3, rfl, by decide, rfl, pm_wm 109 (by decide +kernel) (by decide +kernel), pm_uw3, tyX3_ok, nmX3, (fun h => by cases h), (fun h => by cases h), (fun h => by cases h)⟩
set_option maxRecDepth 100000 in
theorem fl_5_104 : pm_fok 5 (104, (3, 2)) := ⟨RX3, TX3, 12, tyX3, rfl, by decide, rfl, pm_wm 95 (by decide +kernel) (by decide +kernel), pm_uw3, tyX3_ok, nmX3, (fun h => by cases h), (fun h => by cases h), (fun h => by cases h)⟩
set_option maxRecDepth 100000 in
theorem fl_5_117 : pm_fok 5 (117, (3, 10)) := ⟨RX3, TX3, 12, tyX3, rfl, by decide, rfl, pm_wm 117 (by decide +kernel) (by decide +kernel), pm_uw3, tyX3_ok, nmX3, (fun _ => ⟨rfl, rfl⟩), (fun h => by cases h), (fun h => by cases h)⟩
set_option maxRecDepth 100000 in
theorem fl_5_120 : pm_fok 5 (120, (3, 4)) := ⟨RX3, TX3, 12, tyX3, rfl, by decide, rfl, pm_wm 100 (by decide +kernel) (by decide +kernel), pm_uw3, tyX3_ok, nmX3, (fun h => by cases h), (fun h => by cases h), (fun h => by cases h)⟩
set_option maxRecDepth 100000 in
theorem fl_5_123 : pm_fok 5 (123, (3, 6)) := ⟨RX3, TX3, 12, tyX3, rfl, by decide, rfl, pm_wm 106 (by decide +kernel) (by decide +kernel), pm_uw3, tyX3_ok, nmX3, (fun h => by cases h), (fun h => by cases h), (fun h => by cases h)⟩
set_option maxRecDepth 100000 in
theorem fl_5_126 : pm_fok 5 (126, (1, 0)) := ⟨RX1, TX1, 2, tyX1, rfl, by decide, rfl, pm_wm 162 (by decide +kernel) (by decide +kernel), pm_uw1, tyX1_ok, nmX1, (fun h => by cases h), (fun h => by cases h), (fun h => by cases h)⟩
set_option maxRecDepth 100000 in
theorem fl_5_129 : pm_fok 5 (129, (3, 1)) := ⟨RX3, TX3, 12, tyX3, rfl, by decide, rfl, pm_wm 92 (by decide +kernel) (by decide +kernel), pm_uw3, tyX3_ok, nmX3, (fun h => by cases h), (fun h => by cases h), (fun h => by cases h)⟩
theorem fl_5 : ∀ e ∈ pm_fl 5, pm_fok 5 e := (List.forall_mem_cons.mpr ⟨fl_5_12, (List.forall_mem_cons.mpr ⟨fl_5_18, (List.forall_mem_cons.mpr ⟨fl_5_22, (List.forall_mem_cons.mpr ⟨fl_5_28, (List.forall_mem_cons.mpr ⟨fl_5_36, (List.forall_mem_cons.mpr ⟨fl_5_46, (List.forall_mem_cons.mpr ⟨fl_5_50, (List.forall_mem_cons.mpr ⟨fl_5_53, (List.forall_mem_cons.mpr ⟨fl_5_56, (List.forall_mem_cons.mpr ⟨fl_5_80, (List.forall_mem_cons.mpr ⟨fl_5_83, (List.forall_mem_cons.mpr ⟨fl_5_86, (List.forall_mem_cons.mpr ⟨fl_5_89, (List.forall_mem_cons.mpr ⟨fl_5_104, (List.forall_mem_cons.mpr ⟨fl_5_117, (List.forall_mem_cons.mpr ⟨fl_5_120, (List.forall_mem_cons.mpr ⟨fl_5_123, (List.forall_mem_cons.mpr ⟨fl_5_126, (List.forall_mem_cons.mpr ⟨fl_5_129, (fun _ h => absurd h List.not_mem_nil)⟩)⟩)⟩)⟩)⟩)⟩)⟩)⟩)⟩)⟩)⟩)⟩)⟩)⟩)⟩)⟩)⟩)⟩)⟩)
set_option maxRecDepth 100000 in
theorem fl_6_12 : pm_fok 6 (12, (6, 0)) := ⟨RX6, TX6, 10, tyX6, rfl, by decide, rfl, pm_wm 414 (by decide +kernel) (by decide +kernel), pm_uw6, tyX6_ok, nmX6, (fun h => by cases h), (fun h => by cases h), (fun h => by cases h)⟩
set_option maxRecDepth 100000 in
theorem fl_6_16 : pm_fok 6 (16, (6, 1)) := ⟨RX6, TX6, 10, tyX6, rfl, by decide, rfl, pm_wm 415 (by decide +kernel) (by decide +kernel), pm_uw6, tyX6_ok, nmX6, (fun h => by cases h), (fun h => by cases h), (fun h => by cases h)⟩
set_option maxRecDepth 100000 in
theorem fl_6_22 : pm_fok 6 (22, (6, 3)) := ⟨RX6, TX6, 10, tyX6, rfl, by decide, rfl, pm_wm 417 (by decide +kernel) (by decide +kernel), pm_uw6, tyX6_ok, nmX6, (fun h => by cases h), (fun h => by cases h), (fun h => by cases h)⟩
set_option maxRecDepth 100000 in
theorem fl_6_29 : pm_fok 6 (29, (6, 4)) := ⟨RX6, TX6, 10, tyX6, rfl, by decide, rfl, pm_wm 418 (by decide +kernel) (by decide +kernel), pm_uw6, tyX6_ok, nmX6, (fun h => by cases h), (fun h => by cases h), (fun h => by cases h)⟩
set_option maxRecDepth 100000 in
theorem fl_6_35 : pm_fok 6 (35, (6, 5)) := ⟨RX6, TX6, 10, tyX6, rfl, by decide, rfl, pm_wm 419 (by decide +kernel) (by decide +kernel), pm_uw6, tyX6_ok, nmX6, (fun h => by cases h), (fun h => by cases h), (fun h => by cases h)⟩
set_option maxRecDepth 100000 in
theorem fl_6_41 : pm_fok 6 (41, (6, 7)) := ⟨RX6, TX6, 10, tyX6, rfl, by decide, rfl, pm_wm 421 (by decide +kernel) (by decide +kernel), pm_uw6, tyX6_ok, nmX6, (fun h => by cases h), (fun h => by cases h), (fun h => by cases h)⟩
set_option maxRecDepth 100000 in
theorem fl_6_45 : pm_fok 6 (45, (6, 8)) := ⟨RX6, TX6, 10, tyX6, rfl, by decide, rfl, pm_wm 422 (by decide +kernel) (by decide +kernel), pm_uw6, tyX6_ok, nmX6, (fun h => by cases h), (fun h => by cases h), (fun h => by cases h)⟩
set_option maxRecDepth 100000 in
theorem fl_6_49 : pm_fok 6 (49, (6, 9)) := ⟨RX6, TX6, 10, tyX6, rfl, by decide, rfl, pm_wm 423 (by decide +kernel) (by decide +kernel), pm_uw6, tyX6_ok, nmX6, (fun h => by cases h), (fun h => by cases h), (fun h => by cases h)⟩
set_option maxRecDepth 100000 in
theorem fl_6_74 : pm_fok 6 (74, (6, 6)) := ⟨RX6, TX6, 10, tyX6, rfl, by decide, rfl, pm_wm 420 (by decide +kernel) (by decide +kernel), pm_uw6, tyX6_ok, nmX6, (fun _ => ⟨rfl, rfl⟩), (fun h => by cases h), (fun h => by cases h)⟩
set_option maxRecDepth 100000 in
theorem fl_6_88 : pm_fok 6 (88, (3, 2)) := ⟨RX3, TX3, 12, tyX3, rfl, by decide, rfl, pm_wm 94 (by decide +kernel) (by decide +kernel), pm_uw3, tyX3_ok, nmX3, (fun h => by cases h), (fun h => by cases h), (fun h => by cases h)⟩
set_option maxRecDepth 100000 in
theorem fl_6_95 : pm_fok 6 (95, (3, 0)) := ⟨RX3, TX3, 12, tyX3, rfl, by decide, rfl, pm_wm 89 (by decide +kernel) (by decide +kernel), pm_uw3, tyX3_ok, nmX3, (fun h => by cases h), (fun h => by cases h), (fun h => by cases h)⟩
set_option maxRecDepth 100000 in
theorem fl_6_98 : pm_fok 6 (98, (3, 1)) := ⟨RX3, TX3, 12, tyX3, rfl, by decide, rfl, pm_wm 91 (by decide +kernel) (by decide +kernel), pm_uw3, tyX3_ok, nmX3, (fun h => by cases h), (fun h => by cases h), (fun h => by cases h)⟩
set_option maxRecDepth 100000 in
theorem fl_6_104 : pm_fok 6 (104, (3, 8)) := ⟨RX3, TX3, 12, tyX3, rfl, by decide, rfl, pm_wm 111 (by decide +kernel) (by decide +kernel), pm_uw3, tyX3_ok, nmX3, (fun _ => ⟨rfl, rfl⟩), (fun h => by cases h), (fun h => by cases h)⟩
set_option maxRecDepth 100000 in
theorem fl_6_107 : pm_fok 6 (107, (3, 3)) := ⟨RX3, TX3, 12, tyX3, rfl, by decide, rfl, pm_wm 97 (by decide +kernel) (by decide +kernel), pm_uw3, tyX3_ok, nmX3, (fun h => by cases h), (fun h => by cases h), (fun h => by cases h)⟩
set_option maxRecDepth 100000 in
theorem fl_6_110 : pm_fok 6 (110, (3, 4)) := ⟨RX3, TX3, 12, tyX3, rfl, by decide, rfl, pm_wm 99 (by decide +kernel) (by decide +kernel), pm_uw3, tyX3_ok, nmX3, (fun h => by cases h), (fun h => by cases h), (fun h => by cases h)⟩
set_option maxRecDepth 100000 in
theorem fl_6_113 : pm_fok 6 (113, (3, 5)) := ⟨RX3, TX3, 12, tyX3, rfl, by decide, rfl, pm_wm 102 (by decide +kernel) (by decide +kernel), pm_uw3, tyX3_ok, nmX3, (fun h => by cases h), (fun h => by cases h), (fun h => by cases h)⟩
set_option maxRecDepth 100000 in
theorem fl_6_116 : pm_fok 6 (116, (3, 6)) := ⟨RX3, TX3, 12, tyX3, rfl, by decide, rfl, pm_wm 105 (by decide +kernel) (by decide +kernel), pm_uw3, tyX3_ok, nmX3, (fun h => by cases h), (fun h => by cases h), (fun h => by cases h)⟩
set_option maxRecDepth 100000 in
theorem fl_6_119 : pm_fok 6 (119, (3, 7)) := ⟨RX3, TX3, 12, tyX3, rfl, by decide, rfl, pm_wm 108 (by decide +kernel) (by decide +kernel), pm_uw3, tyX3_ok, nmX3, (fun h => by cases h), (fun h => by cases h), (fun h => by cases h)⟩
set_option maxRecDepth 100000 in
theorem fl_6_135 : pm_fok 6 (135, (0, 0)) := ⟨RX0, TX0, 8, tyX0, rfl, by decide, rfl, pm_wm 210 (by decide +kernel) (by decide +kernel), pm_uw0, tyX0_ok, nmX0, (fun _ => ⟨rfl, rfl⟩), (fun h => by cases h), (fun h => by cases h)⟩
set_option maxRecDepth 100000 in
theorem fl_6_137 : pm_fok 6 (137, (3, 11)) := ⟨RX3, TX3, 12, tyX3, rfl, by decide, rfl, pm_wm 120 (by decide +kernel) (by decide +kernel), pm_uw3, tyX3_ok, nmX3, (fun _ => ⟨rfl, rfl⟩), (fun h => by cases h), (fun h => by cases h)⟩
set_option maxRecDepth 100000 in
theorem fl_6_147 : pm_fok 6 (147, (5, 0)) := ⟨RX5, TX5, 9, tyX5, rfl, by decide, rfl, pm_wm 170 (by decide +kernel) (by decide +kernel), pm_uw5, tyX5_ok, nmX5, (fun h => by cases h), (fun h => by cases h), (fun h => by cases h)⟩
set_option maxRecDepth 100000 in
theorem fl_6_154 : pm_fok 6 (154, (3, 10)) := ⟨RX3, TX3, 12, tyX3, rfl, by decide, rfl, pm_wm 118 (by decide +kernel) (by decide +kernel), pm_uw3, tyX3_ok, nmX3, (fun _ => ⟨rfl, rfl⟩), (fun h => by cases h), (fun h => by cases h)⟩
set_option maxRecDepth 100000 in
theorem fl_6_157 : pm_fok 6 (157, (5, 5)) := ⟨RX5, TX5, 9, tyX5, rfl, by decide, rfl, pm_wm 180 (by decide +kernel) (by decide +kernel), pm_uw5, tyX5_ok, nmX5, (fun h => by cases h), (fun _ => ⟨rfl, rfl⟩), (fun h => by cases h)⟩
set_option maxRecDepth 100000 in
theorem fl_6_165 : pm_fok 6 (165, (5, 2)) := ⟨RX5, TX5, 9, tyX5, rfl, by decide, rfl, pm_wm 174 (by decide +kernel) (by decide +kernel), pm_uw5, tyX5_ok, nmX5, (fun _ => ⟨rfl, rfl⟩), (fun h => by cases h), (fun h => by cases h)⟩
set_option maxRecDepth 100000 in
theorem fl_6_168 : pm_fok 6 (168, (5, 3)) := ⟨RX5, TX5, 9, tyX5, rfl, by decide, rfl, pm_wm 176 (by decide +kernel) (by decide +kernel), pm_uw5, tyX5_ok, nmX5, (fun _ => ⟨rfl, rfl⟩), (fun h => by cases h), (fun h => by cases h)⟩
set_option maxRecDepth 100000 in
theorem fl_6_171 : pm_fok 6 (171, (5, 4)) := ⟨RX5, TX5, 9, tyX5, rfl, by decide, rfl, pm_wm 178 (by decide +kernel) (by decide +kernel), pm_uw5, tyX5_ok, nmX5, (fun _ => ⟨rfl, rfl⟩), (fun h => by cases h), (fun h => by cases h)⟩
set_option maxRecDepth 100000 in
theorem fl_6_174 : pm_fok 6 (174, (5, 1)) := ⟨RX5, TX5, 9, tyX5, rfl, by decide, rfl, pm_wm 172 (by decide +kernel) (by decide +kernel), pm_uw5, tyX5_ok, nmX5, (fun h => by cases h), (fun h => by cases h), (fun h => by cases h)⟩
set_option maxRecDepth 100000 in
theorem fl_6_207 : pm_fok 6 (207, (3, 9)) := ⟨RX3, TX3, 12, tyX3, rfl, by decide, rfl, pm_wm 115 (by decide +kernel) (by decide +kernel), pm_uw3, tyX3_ok, nmX3, (fun _ => ⟨rfl, rfl⟩), (fun h => by cases h), (fun h => by cases h)⟩
set_option maxRecDepth 100000 in
theorem fl_6_216 : pm_fok 6 (216, (2, 2)) := ⟨RX2, TX2, 3, tyX2, rfl, by decide, rfl, pm_wm 268 (by decide +kernel) (by decide +kernel), pm_uw2, tyX2_ok, nmX2, (fun _ => ⟨rfl, rfl⟩), (fun h => by cases h), (fun h => by cases h)⟩
set_option maxRecDepth 100000 in
theorem fl_6_217 : pm_fok 6 (217, (2, 0)) := ⟨RX2, TX2, 3, tyX2, rfl, by decide, rfl, pm_wm 264 (by decide +kernel) (by decide +kernel), pm_uw2, tyX2_ok, nmX2, (fun h => by cases h), (fun h => by cases h), (fun h => by cases h)⟩
set_option maxRecDepth 100000 in
theorem fl_6_224 : pm_fok 6 (224, (6, 2)) := ⟨RX6, TX6, 10, tyX6, rfl, by decide, rfl, pm_wm 416 (by decide +kernel) (by decide +kernel), pm_uw6, tyX6_ok, nmX6, (fun h => by cases h), (fun _ => ⟨rfl, rfl⟩), (fun h => by cases h)⟩
set_option maxRecDepth 100000 in
theorem fl_6_249 : pm_fok 6 (249, (2, 1)) := ⟨RX2, TX2, 3, tyX2, rfl, by decide, rfl, pm_wm 266 (by decide +kernel) (by decide +kernel), pm_uw2, tyX2_ok, nmX2, (fun _ => ⟨rfl, rfl⟩), (fun h => by cases h), (fun h => by cases h)⟩
theorem fl_6 : ∀ e ∈ pm_fl 6, pm_fok 6 e := (List.forall_mem_cons.mpr ⟨fl_6_12, (List.forall_mem_cons.mpr ⟨fl_6_16, (List.forall_mem_cons.mpr ⟨fl_6_22, (List.forall_mem_cons.mpr ⟨fl_6_29, (List.forall_mem_cons.mpr ⟨fl_6_35, (List.forall_mem_cons.mpr ⟨fl_6_41, (List.forall_mem_cons.mpr ⟨fl_6_45, (List.forall_mem_cons.mpr ⟨fl_6_49, (List.forall_mem_cons.mpr ⟨fl_6_74, (List.forall_mem_cons.mpr ⟨fl_6_88, (List.forall_mem_cons.mpr ⟨fl_6_95, (List.forall_mem_cons.mpr ⟨fl_6_98, (List.forall_mem_cons.mpr ⟨fl_6_104, (List.forall_mem_cons.mpr ⟨fl_6_107, (List.forall_mem_cons.mpr ⟨fl_6_110, (List.forall_mem_cons.mpr ⟨fl_6_113, (List.forall_mem_cons.mpr ⟨fl_6_116, (List.forall_mem_cons.mpr ⟨fl_6_119, (List.forall_mem_cons.mpr ⟨fl_6_135, (List.forall_mem_cons.mpr ⟨fl_6_137, (List.forall_mem_cons.mpr ⟨fl_6_147, (List.forall_mem_cons.mpr ⟨fl_6_154, (List.forall_mem_cons.mpr ⟨fl_6_157, (List.forall_mem_cons.mpr ⟨fl_6_165, (List.forall_mem_cons.mpr ⟨fl_6_168, (List.forall_mem_cons.mpr ⟨fl_6_171, (List.forall_mem_cons.mpr ⟨fl_6_174, (List.forall_mem_cons.mpr ⟨fl_6_207, (List.forall_mem_cons.mpr ⟨fl_6_216, (List.forall_mem_cons.mpr ⟨fl_6_217, (List.forall_mem_cons.mpr ⟨fl_6_224, (List.forall_mem_cons.mpr ⟨fl_6_249, (fun _ h => absurd h List.not_mem_nil)⟩)⟩)⟩)⟩)⟩)⟩)⟩)⟩)⟩)⟩)⟩)⟩)⟩)⟩)⟩)⟩)⟩)⟩)⟩)⟩)⟩)⟩)⟩)⟩)⟩)⟩)⟩)⟩)⟩)⟩)⟩)⟩)
set_option maxRecDepth 100000 in
theorem fl_7_7 : pm_fok 7 (7, (7, 0)) := ⟨RX7, TX7, 46, tyX7, rfl, by decide, rfl, pm_wm 834 (by decide +kernel) (by decide +kernel), pm_uw7, tyX7_ok, nmX7, (fun h => by cases h), (fun h => by cases h), (fun h => by cases h)⟩
set_option maxRecDepth 100000 in
theorem fl_7_13 : pm_fok 7 (13, (7, 1)) := ⟨RX7, TX7, 46, tyX7, rfl, by decide, rfl, pm_wm 835 (by decide +kernel) (by decide +kernel), pm_uw7, tyX7_ok, nmX7, (fun h => by cases h), (fun h => by cases h), (fun h => by cases h)⟩
set_option maxRecDepth 100000 in
theorem fl_7_16 : pm_fok 7 (16, (7, 2)) := ⟨RX7, TX7, 46, tyX7, rfl, by decide, rfl, pm_wm 836 (by decide +kernel) (by decide +kernel), pm_uw7, tyX7_ok, nmX7, (fun h => by cases h), (fun h => by cases h), (fun h => by cases h)⟩
set_option maxRecDepth 100000 in
theorem fl_7_19 : pm_fok 7 (19, (7, 4)) := ⟨RX7, TX7, 46, tyX7, rfl, by decide, rfl, pm_wm 838 (by decide +kernel) (by decide +kernel), pm_uw7, tyX7_ok, nmX7, (fun h => by cases h), (fun h => by cases h), (fun h => by cases h)⟩
set_option maxRecDepth 100000 in
theorem fl_7_22 : pm_fok 7 (22, (7, 5)) := ⟨RX7, TX7, 46, tyX7, rfl, by decide, rfl, pm_wm 839 (by decide +kernel) (by decide +kernel), pm_uw7, tyX7_ok, nmX7, (fun h => by cases h), (fun h => by cases h), (fun h => by cases h)⟩
set_option maxRecDepth 100000 in
theorem fl_7_25 : pm_fok 7 (25, (7, 6)) := ⟨RX7, TX7, 46, tyX7, rfl, by decide, rfl, pm_wm 840 (by decide +kernel) (by decide +kernel), pm_uw7, tyX7_ok, nmX7, (fun h => by cases h), (fun h => by cases h), (fun h => by cases h)⟩
set_option maxRecDepth 100000 in
theorem fl_7_28 : pm_fok 7 (28, (7, 7)) := ⟨RX7, TX7, 46, tyX7, rfl, by decide, rfl, pm_wm 841 (by decide +kernel) (by decide +kernel), pm_uw7, tyX7_ok, nmX7, (fun h => by cases h), (fun h => by cases h), (fun h => by cases h)⟩
set_option maxRecDepth 100000 in
theorem fl_7_31 : pm_fok 7 (31, (7, 8)) := ⟨RX7, TX7, 46, tyX7, rfl, by decide, rfl, pm_wm 842 (by decide +kernel) (by decide +kernel), pm_uw7, tyX7_ok, nmX7, (fun h => by cases h), (fun h => by cases h), (fun h => by cases h)⟩
set_option maxRecDepth 100000 in
theorem fl_7_34 : pm_fok 7 (34, (7, 12)) := ⟨RX7, TX7, 46, tyX7, rfl, by decide, rfl, pm_wm 846 (by decide +kernel) (by decide +kernel), pm_uw7, tyX7_ok, nmX7, (fun h => by cases h), (fun h => by cases h), (fun h => by cases h)⟩
set_option maxRecDepth 100000 in
theorem fl_7_37 : pm_fok 7 (37, (7, 15)) := ⟨RX7, TX7, 46, tyX7, rfl, by decide, rfl, pm_wm 849 (by decide +kernel) (by decide +kernel), pm_uw7, tyX7_ok, nmX7, (fun h => by cases h), (fun h => by cases h), (fun h => by cases h)⟩
set_option maxRecDepth 100000 in
theorem fl_7_40 : pm_fok 7 (40, (7, 16)) := ⟨RX7, TX7, 46, tyX7, rfl, by decide, rfl, pm_wm 850 (by decide +kernel) (by decide +kernel), pm_uw7, tyX7_ok, nmX7, (fun h => by cases h), (fun h => by cases h), (fun h => by cases h)⟩
set_option maxRecDepth 100000 in
theorem fl_7_43 : pm_fok 7 (43, (7, 23)) := ⟨RX7, TX7, 46, tyX7, rfl, by decide, rfl, pm_wm 857 (by decide +kernel) (by decide +kernel), pm_uw7, tyX7_ok, nmX7, (fun h => by cases h), (fun h => by cases h), (fun h => by cases h)⟩
set_option maxRecDepth 100000 in
theorem fl_7_46 : pm_fok 7 (46, (7, 24)) := ⟨RX7, TX7, 46, tyX7, rfl, by decide, rfl, pm_wm 858 (by decide +kernel) (by decide +kernel), pm_uw7, tyX7_ok, nmX7, (fun h => by cases h), (fun h => by cases h), (fun h => by cases h)⟩
set_option maxRecDepth 100000 in
theorem fl_7_49 : pm_fok 7 (49, (7, 25)) := ⟨RX7, TX7, 46, tyX7, rfl, by decide, rfl, pm_wm 859 (by decide +kernel) (by decide +kernel), pm_uw7, tyX7_ok, nmX7, (fun h => by cases h), (fun h => by cases h), (fun h => by cases h)⟩
set_option maxRecDepth 100000 in
theorem fl_7_52 : pm_fok 7 (52, (7, 26)) := ⟨RX7, TX7, 46, tyX7, rfl, by decide, rfl, pm_wm 860 (by decide +kernel) (by decide +kernel), pm_uw7, tyX7_ok, nmX7, (fun h => by cases h), (fun h => by cases h), (fun h => by cases h)⟩
set_option maxRecDepth 100000 in
theorem fl_7_55 : pm_fok 7 (55, (7, 31)) := ⟨RX7, TX7, 46, tyX7, rfl, by decide, rfl, pm_wm 865 (by decide +kernel) (by decide +kernel), pm_uw7, tyX7_ok, nmX7, (fun h => by cases h), (fun h => by cases h), (fun h => by cases h)⟩
set_option maxRecDepth 100000 in
theorem fl_7_58 : pm_fok 7 (58, (7, 32)) := ⟨RX7, TX7, 46, tyX7, rfl, by decide, rfl, pm_wm 866 (by decide +kernel) (by decide +kernel), pm_uw7, tyX7_ok, nmX7, (fun h => by cases h), (fun h => by cases h), (fun h => by cases h)⟩
set_option maxRecDepth 100000 in
theorem fl_7_61 : pm_fok 7 (61, (7, 33)) := ⟨RX7, TX7, 46, tyX7, rfl, by decide, rfl, pm_wm 867 (by decide +kernel) (by decide +kernel), pm_uw7, tyX7_ok, nmX7, (fun h => by cases h), (fun h => by cases h), (fun h => by cases h)⟩
set_option maxRecDepth 100000 in
theorem fl_7_64 : pm_fok 7 (64, (7, 34)) := ⟨RX7, TX7, 46, tyX7, rfl, by decide, rfl, pm_wm 868 (by decide +kernel) (by decide +kernel), pm_uw7, tyX7_ok, nmX7, (fun h => by cases h), (fun h => by cases h), (fun h => by cases h)⟩
set_option maxRecDepth 100000 in
theorem fl_7_67 : pm_fok 7 (67, (7, 40)) := ⟨RX7, TX7, 46, tyX7, rfl, by decide, rfl, pm_wm 874 (by decide +kernel) (by decide +kernel), pm_uw7, tyX7_ok, nmX7, (fun h => by cases h), (fun h => by cases h), (fun h => by cases h)⟩
set_option maxRecDepth 100000 in
theorem fl_7_70 : pm_fok 7 (70, (7, 41)) := ⟨RX7, TX7, 46, tyX7, rfl, by decide, rfl, pm_wm 875 (by decide +kernel) (by decide +kernel), pm_uw7, tyX7_ok, nmX7, (fun h => by cases h), (fun h => by cases h), (fun h => by cases h)⟩
set_option maxRecDepth 100000 in
theorem fl_7_73 : pm_fok 7 (73, (7, 42)) := ⟨RX7, TX7, 46, tyX7, rfl, by decide, rfl, pm_wm 876 (by decide +kernel) (by decide +kernel), pm_uw7, tyX7_ok, nmX7, (fun h => by cases h), (fun h => by cases h), (fun h => by cases h)⟩
set_option maxRecDepth 100000 in
theorem fl_7_76 : pm_fok 7 (76, (7, 43)) := ⟨RX7, TX7, 46, tyX7, rfl, by decide, rfl, pm_wm 877 (by decide +kernel) (by decide +kernel), pm_uw7, tyX7_ok, nmX7, (fun h => by cases h), (fun h => by cases h), (fun h => by cases h)⟩
set_option maxRecDepth 100000 in
theorem fl_7_79 : pm_fok 7 (79, (7, 44)) := ⟨RX7, TX7, 46, tyX7, rfl, by decide, rfl, pm_wm 878 (by decide +kernel) (by decide +kernel), pm_uw7, tyX7_ok, nmX7, (fun h => by cases h), (fun h => by cases h), (fun h => by cases h)⟩
set_option maxRecDepth 100000 in
theorem fl_7_82 : pm_fok 7 (82, (7, 45)) := ⟨RX7, TX7, 46, tyX7, rfl, by decide, rfl, pm_wm 879 (by decide +kernel) (by decide +kernel), pm_uw7, tyX7_ok, nmX7, (fun h => by cases h), (fun h => by cases h), (fun h => by cases h)⟩
set_option maxRecDepth 100000 in
theorem fl_7_85 : pm_fok 7 (85, (7, 30)) := ⟨RX7, TX7, 46, tyX7, rfl, by decide, rfl, pm_wm 864 (by decide +kernel) (by decide +kernel), pm_uw7, tyX7_ok, nmX7, (fun _ => ⟨rfl, rfl⟩), (fun h => by cases h), (fun h => by cases h)⟩
set_option maxRecDepth 100000 in
theorem fl_7_108 : pm_fok 7 (108, (7, 3)) := ⟨RX7, TX7, 46, tyX7, rfl, by decide, rfl, pm_wm 837 (by decide +kernel) (by decide +kernel), pm_uw7, tyX7_ok, nmX7, (fun _ => ⟨rfl, rfl⟩), (fun h => by cases h), (fun h => by cases h)⟩
set_option maxRecDepth 100000 in
theorem fl_7_119 : pm_fok 7 (119, (7, 9)) := ⟨RX7, TX7, 46, tyX7, rfl, by decide, rfl, pm_wm 843 (by decide +kernel) (by decide +kernel), pm_uw7, tyX7_ok, nmX7, (fun _ => ⟨rfl, rfl⟩), (fun h => by cases h), (fun h => by cases h)⟩
set_option maxRecDepth 100000 in
theorem fl_7_131 : pm_fok 7 (131, (7, 11)) := ⟨RX7, TX7, 46, tyX7, rfl, by decide, rfl, pm_wm 845 (by decide +kernel) (by decide +kernel), pm_uw7, tyX7_ok, nmX7, (fun _ => ⟨rfl, rfl⟩), (fun h => by cases h), (fun h => by cases h)⟩
set_option maxRecDepth 100000 in
theorem fl_7_134 : pm_fok 7 (134, (7, 18)) := ⟨RX7, TX7, 46, tyX7, rfl, by decide, rfl, pm_wm 852 (by decide +kernel) (by decide +kernel), pm_uw7, tyX7_ok, nmX7, (fun _ => ⟨rfl, rfl⟩), (fun h => by cases h), (fun h => by cases h)⟩
set_option maxRecDepth 100000 in
theorem fl_7_137 : pm_fok 7 (137, (7, 19)) := ⟨RX7, TX7, 46, tyX7, rfl, by decide, rfl, pm_wm 853 (by decide +kernel) (by decide +kernel), pm_uw7, tyX7_ok, nmX7, (fun _ => ⟨rfl, rfl⟩), (fun h => by cases h), (fun h => by cases h)⟩
set_option maxRecDepth 100000 in
theorem fl_7_140 : pm_fok 7 (140, (7, 20)) := ⟨RX7, TX7, 46, tyX7, rfl, by decide, rfl, pm_wm 854 (by decide +kernel) (by decide +kernel), pm_uw7, tyX7_ok, nmX7, (fun _ => ⟨rfl, rfl⟩), (fun h => by cases h), (fun h => by cases h)⟩
set_option maxRecDepth 100000 in
theorem fl_7_146 : pm_fok 7 (146, (7, 21)) := ⟨RX7, TX7, 46, tyX7, rfl, by decide, rfl, pm_wm 855 (by decide +kernel) (by decide +kernel), pm_uw7, tyX7_ok, nmX7, (fun _ => ⟨rfl, rfl⟩), (fun h => by cases h), (fun h => by cases h)⟩
set_option maxRecDepth 100000 in
theorem fl_7_167 : pm_fok 7 (167, (7, 13)) := ⟨RX7, TX7, 46, tyX7, rfl, by decide, rfl, pm_wm 847 (by decide +kernel) (by decide +kernel), pm_uw7, tyX7_ok, nmX7, (fun _ => ⟨rfl, rfl⟩), (fun h => by cases h), (fun h => by cases h)⟩
set_option maxRecDepth 100000 in
theorem fl_7_170 : pm_fok 7 (170, (7, 17)) := ⟨RX7, TX7, 46, tyX7, rfl, by decide, rfl, pm_wm 851 (by decide +kernel) (by decide +kernel), pm_uw7, tyX7_ok, nmX7, (fun _ => ⟨rfl, rfl⟩), (fun h => by cases h), (fun h => by cases h)⟩
set_option maxRecDepth 100000 in
theorem fl_7_192 : pm_fok 7 (192, (7, 22)) := ⟨RX7, TX7, 46, tyX7, rfl, by decide, rfl, pm_wm 856 (by decide +kernel) (by decide +kernel), pm_uw7, tyX7_ok, nmX7, (fun _ => ⟨rfl, rfl⟩), (fun h => by cases h), (fun h => by cases h)⟩
set_option maxRecDepth 100000 in
theorem fl_7_223 : pm_fok 7 (223, (7, 14)) := ⟨RX7, TX7, 46, tyX7, rfl, by decide, rfl, pm_wm 848 (by decide +kernel) (by decide +kernel), pm_uw7, tyX7_ok, nmX7, (fun _ => ⟨rfl, rfl⟩), (fun h => by cases h), (fun h => by cases h)⟩
set_option maxRecDepth 100000 in
theorem fl_7_241 : pm_fok 7 (241, (7, 10)) := ⟨RX7, TX7, 46, tyX7, rfl, by decide, rfl, pm_wm 844 (by decide +kernel) (by decide +kernel), pm_uw7, tyX7_ok, nmX7, (fun _ => ⟨rfl, rfl⟩), (fun h => by cases h), (fun h => by cases h)⟩
set_option maxRecDepth 100000 in
theorem fl_7_244 : pm_fok 7 (244, (7, 29)) := ⟨RX7, TX7, 46, tyX7, rfl, by decide, rfl, pm_wm 863 (by decide +kernel) (by decide +kernel), pm_uw7, tyX7_ok, nmX7, (fun _ => ⟨rfl, rfl⟩), (fun h => by cases h), (fun h => by cases h)⟩
set_option maxRecDepth 100000 in
theorem fl_7_247 : pm_fok 7 (247, (7, 27)) := ⟨RX7, TX7, 46, tyX7, rfl, by decide, rfl, pm_wm 861 (by decide +kernel) (by decide +kernel), pm_uw7, tyX7_ok, nmX7, (fun _ => ⟨rfl, rfl⟩), (fun h => by cases h), (fun h => by cases h)⟩
set_option maxRecDepth 100000 in
theorem fl_7_250 : pm_fok 7 (250, (7, 28)) := ⟨RX7, TX7, 46, tyX7, rfl, by decide, rfl, pm_wm 862 (by decide +kernel) (by decide +kernel), pm_uw7, tyX7_ok, nmX7, (fun _ => ⟨rfl, rfl⟩), (fun h => by cases h), (fun h => by cases h)⟩
set_option maxRecDepth 100000 in
theorem fl_7_280 : pm_fok 7 (280, (7, 35)) := ⟨RX7, TX7, 46, tyX7, rfl, by decide, rfl, pm_wm 869 (by decide +kernel) (by decide +kernel), pm_uw7, tyX7_ok, nmX7, (fun h => by cases h), (fun _ => ⟨rfl, rfl⟩), (fun h => by cases h)⟩
set_option maxRecDepth 100000 in
theorem fl_7_284 : pm_fok 7 (284, (7, 36)) := ⟨RX7, TX7, 46, tyX7, rfl, by decide, rfl, pm_wm 870 (by decide +kernel) (by decide +kernel), pm_uw7, tyX7_ok, nmX7, (fun _ => ⟨rfl, rfl⟩), (fun h => by cases h), (fun h => by cases h)⟩
set_option maxRecDepth 100000 in
theorem fl_7_287 : pm_fok 7 (287, (7, 37)) := ⟨RX7, TX7, 46, tyX7, rfl, by decide, rfl, pm_wm 871 (by decide +kernel) (by decide +kernel), pm_uw7, tyX7_ok, nmX7, (fun _ => ⟨rfl, rfl⟩), (fun h => by cases h), (fun h => by cases h)⟩
set_option maxRecDepth 100000 in
theorem fl_7_290 : pm_fok 7 (290, (7, 38)) := ⟨RX7, TX7, 46, tyX7, rfl, by decide, rfl, pm_wm 872 (by decide +kernel) (by decide +kernel), pm_uw7, tyX7_ok, nmX7, (fun _ => ⟨rfl, rfl⟩), (fun h => by cases h), (fun h => by cases h)⟩
set_option maxRecDepth 100000 in
theorem fl_7_293 : pm_fok 7 (293, (7, 39)) := ⟨RX7, TX7, 46, tyX7, rfl, by decide, rfl, pm_wm 873 (by decide +kernel) (by decide +kernel), pm_uw7, tyX7_ok, nmX7, (fun _ => ⟨rfl, rfl⟩), (fun h => by cases h), (fun h => by cases h)⟩
theorem fl_7 : ∀ e ∈ pm_fl 7, pm_fok 7 e := (List.forall_mem_cons.mpr ⟨fl_7_7, (List.forall_mem_cons.mpr ⟨fl_7_13, (List.forall_mem_cons.mpr ⟨fl_7_16, (List.forall_mem_cons.mpr ⟨fl_7_19, (List.forall_mem_cons.mpr ⟨fl_7_22, (List.forall_mem_cons.mpr ⟨fl_7_25, (List.forall_mem_cons.mpr ⟨fl_7_28, (List.forall_mem_cons.mpr ⟨fl_7_31, (List.forall_mem_cons.mpr ⟨fl_7_34, (List.forall_mem_cons.mpr ⟨fl_7_37, (List.forall_mem_cons.mpr ⟨fl_7_40, (List.forall_mem_cons.mpr ⟨fl_7_43, (List.forall_mem_cons.mpr ⟨fl_7_46, (List.forall_mem_cons.mpr ⟨fl_7_49, (List.forall_mem_cons.mpr ⟨fl_7_52, (List.forall_mem_cons.mpr ⟨fl_7_55, (List.forall_mem_cons.mpr ⟨fl_7_58, (List.forall_mem_cons.mpr ⟨fl_7_61, (List.forall_mem_cons.mpr ⟨fl_7_64, (List.forall_mem_cons.mpr ⟨fl_7_67, (List.forall_mem_cons.mpr ⟨fl_7_70, (List.forall_mem_cons.mpr ⟨fl_7_73, (List.forall_mem_cons.mpr ⟨fl_7_76, (List.forall_mem_cons.mpr ⟨fl_7_79, (List.forall_mem_cons.mpr ⟨fl_7_82, (List.forall_mem_cons.mpr ⟨fl_7_85, (List.forall_mem_cons.mpr ⟨fl_7_108, (List.forall_mem_cons.mpr ⟨fl_7_119, (List.forall_mem_cons.mpr ⟨fl_7_131, (List.forall_mem_cons.mpr ⟨fl_7_134, (List.forall_mem_cons.mpr ⟨fl_7_137, (List.forall_mem_cons.mpr ⟨fl_7_140, (List.forall_mem_cons.mpr ⟨fl_7_146, (List.forall_mem_cons.mpr ⟨fl_7_167, (List.forall_mem_cons.mpr ⟨fl_7_170, (List.forall_mem_cons.mpr ⟨fl_7_192, (List.forall_mem_cons.mpr ⟨fl_7_223, (List.forall_mem_cons.mpr ⟨fl_7_241, (List.forall_mem_cons.mpr ⟨fl_7_244, (List.forall_mem_cons.mpr ⟨fl_7_247, (List.forall_mem_cons.mpr ⟨fl_7_250, (List.forall_mem_cons.mpr ⟨fl_7_280, (List.forall_mem_cons.mpr ⟨fl_7_284, (List.forall_mem_cons.mpr ⟨fl_7_287, (List.forall_mem_cons.mpr ⟨fl_7_290, (List.forall_mem_cons.mpr ⟨fl_7_293, (fun _ h => absurd h List.not_mem_nil)⟩)⟩)⟩)⟩)⟩)⟩)⟩)⟩)⟩)⟩)⟩)⟩)⟩)⟩)⟩)⟩)⟩)⟩)⟩)⟩)⟩)⟩)⟩)⟩)⟩)⟩)⟩)⟩)⟩)⟩)⟩)⟩)⟩)⟩)⟩)⟩)⟩)⟩)⟩)⟩)⟩)⟩)⟩)⟩)⟩)⟩)
theorem pm_lall {own idx : Nat} {z : Nat × pm_M × Nat} (h : pm_look (pm_ml own) idx = some z) : pm_lok own (idx, z) := by
  have hm := pm_look_mem h
  match own, hm with
  | 0, hm => exact ml_0 _ hm
  | 1, hm => exact ml_1 _ hm
  | 2, hm => exact ml_2 _ hm
  | 3, hm => exact ml_3 _ hm
  | 5, hm => exact ml_5 _ hm
  | 6, hm => exact ml_6 _ hm
  | 7, hm => exact ml_7 _ hm
  | 4, hm => exact absurd hm List.not_mem_nil
  | 8, hm => exact absurd hm List.not_mem_nil
  | n + 9, hm => exact absurd hm List.not_mem_nil
theorem pm_fall {own idx : Nat} {z : Nat × Nat} (h : pm_look (pm_fl own) idx = some z) : pm_fok own (idx, z) := by
  have hm := pm_look_mem h
  match own, hm with
  | 0, hm => exact fl_0 _ hm
  | 1, hm => exact fl_1 _ hm
  | 2, hm => exact fl_2 _ hm
  | 3, hm => exact fl_3 _ hm
  | 4, hm => exact fl_4 _ hm
  | 5, hm => exact fl_5 _ hm
  | 6, hm => exact fl_6 _ hm
  | 7, hm => exact fl_7 _ hm
  | 8, hm => exact absurd hm List.not_mem_nil
  | n + 9, hm => exact absurd hm List.not_mem_nil
set_option maxRecDepth 100000 in
theorem pm_csok {own idx : Nat} {x : Int32} (h : pm_look (pm_cs own) idx = some x) : Cond.constant (pm_cn own) idx x ∈ pm_w := by
  have hm := pm_look_mem h
  match own, hm with
  | 0, hm => exact absurd hm List.not_mem_nil
  | 1, hm => exact absurd hm List.not_mem_nil
  | 2, hm => exact absurd hm List.not_mem_nil
  | 3, hm => exact absurd hm List.not_mem_nil
  | 4, hm => exact absurd hm List.not_mem_nil
  | 5, hm => exact absurd hm List.not_mem_nil
  | 6, hm =>
    rcases List.mem_cons.mp hm with hm | hm
    · cases hm; exact pm_wm 687 (by decide +kernel) (by decide +kernel)
    · exact absurd hm List.not_mem_nil
  | 7, hm =>
    rcases List.mem_cons.mp hm with hm | hm
    · cases hm; exact pm_wm 1108 (by decide +kernel) (by decide +kernel)
    · exact absurd hm List.not_mem_nil
  | 8, hm => exact absurd hm List.not_mem_nil
  | n + 9, hm => exact absurd hm List.not_mem_nil
set_option maxRecDepth 100000 in
theorem pm_clok {own idx : Nat} {x : Int64} (h : pm_look (pm_cl own) idx = some x) : Cond.constantLong (pm_cn own) idx x ∈ pm_w := by
  have hm := pm_look_mem h
  match own, hm with
  | 0, hm => exact absurd hm List.not_mem_nil
  | 1, hm => exact absurd hm List.not_mem_nil
  | 2, hm => exact absurd hm List.not_mem_nil
  | 3, hm => exact absurd hm List.not_mem_nil
  | 4, hm => exact absurd hm List.not_mem_nil
  | 5, hm => exact absurd hm List.not_mem_nil
  | 6, hm => exact absurd hm List.not_mem_nil
  | 7, hm =>
    rcases List.mem_cons.mp hm with hm | hm
    · cases hm; exact pm_wm 1137 (by decide +kernel) (by decide +kernel)
    · rcases List.mem_cons.mp hm with hm | hm
      · cases hm; exact pm_wm 1138 (by decide +kernel) (by decide +kernel)
      · exact absurd hm List.not_mem_nil
  | 8, hm => exact absurd hm List.not_mem_nil
  | n + 9, hm => exact absurd hm List.not_mem_nil
set_option maxRecDepth 100000 in
theorem pm_j2s : Cond.static Lib.Math.max.name ∈ pm_w := pm_wm 463 (by decide +kernel) (by decide +kernel)
set_option maxRecDepth 100000 in
theorem pm_j2c : Cond.code Lib.Math.max.name Lib.Math.max.code 2 (some .int) ∈ pm_w := pm_wm 464 (by decide +kernel) (by decide +kernel)
set_option maxRecDepth 100000 in
theorem pm_j3s : Cond.static Lib.Math.min.name ∈ pm_w := pm_wm 545 (by decide +kernel) (by decide +kernel)
set_option maxRecDepth 100000 in
theorem pm_j3c : Cond.code Lib.Math.min.name Lib.Math.min.code 2 (some .int) ∈ pm_w := pm_wm 546 (by decide +kernel) (by decide +kernel)
set_option maxRecDepth 100000 in
theorem pm_jmi : Cond.initialized "java/lang/Math" ∈ pm_w := pm_wm 69 (by decide +kernel) (by decide +kernel)
set_option maxRecDepth 100000 in
theorem pm_j4s : Cond.static arraycopyName ∈ pm_w := pm_wm 528 (by decide +kernel) (by decide +kernel)
set_option maxRecDepth 100000 in
theorem pm_j4n : Cond.native arraycopyName ∈ pm_w := pm_wm 529 (by decide +kernel) (by decide +kernel)
set_option maxRecDepth 100000 in
theorem pm_j4i : Cond.initialized "java/lang/System" ∈ pm_w := pm_wm 70 (by decide +kernel) (by decide +kernel)
set_option maxRecDepth 100000 in
theorem pm_jul : Cond.fieldLink "StairLines" 259 "StairLines" "UNDER" "[I" ∈ pm_w := pm_wm 746 (by decide +kernel) (by decide +kernel)
