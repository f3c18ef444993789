theorem yf_jb_Reader_readInstruction_43 {fu : Nat} {b1 : Int32} {b2 : Int32} {s0 : Int32} {u : xk_St} : yf_F [8, 9, 17] [] [7, 8, 9, 11] [2] u (jb_Reader_readInstruction_43 fu b1 b2 s0 u) := by
  have hu : yf_fr [8, 9, 17] [] [7, 8, 9, 11] [2] u u := yf_refl
  have add : ∀ {a b : Int32} {c : Int64} {w : xk_St}, yf_fr [8, 9, 17] [] [7, 8, 9, 11] [2] u w → yf_F [8, 9, 17] [] [7, 8, 9, 11] [2] u (fm_Code_add a b c w) := fun h => yf_call h yf_fm_Code_add (by decide)
  unfold jb_Reader_readInstruction_43
  refine yf_ite (yf_some hu) ?_
  refine yf_ite (yf_seq (add hu) fun _ _ h => yf_some h) ?_
  refine yf_ite (yf_try (yf_call hu yf_fm_Reader_readBlockType (by decide)) fun _ _ h => yf_seq (add h) fun _ _ h => yf_seq (yf_call h yf_fm_Code_opened (by decide)) fun _ _ h => yf_some h) ?_
  refine yf_ite (yf_ite yf_none (yf_ite (yf_seq (add hu) fun _ _ h => yf_seq (yf_call h yf_fm_Code_turned (by decide)) fun _ _ h => yf_some h) (yf_some hu))) ?_
  refine yf_ite (yf_try (yf_call hu yf_fm_Reader_readSigned (by decide)) fun _ _ h => yf_seq (add h) fun _ _ h => yf_some h) ?_
  refine yf_ite (yf_try (yf_call hu yf_fm_Reader_readSigned (by decide)) fun _ _ h => yf_seq (add h) fun _ _ h => yf_some h) ?_
  refine yf_ite (yf_ite yf_none (yf_ite (yf_call hu yf_jb_Reader_readInstruction_365 (by decide)) (yf_call hu yf_jb_Reader_readInstruction_365 (by decide)))) ?_
  refine yf_ite (yf_try (yf_call hu yf_fm_Reader_readWays (by decide)) fun _ _ h => yf_some h) ?_
  refine yf_ite (yf_try (yf_call hu yf_fm_Reader_readTarget (by decide)) fun _ _ h => yf_seq (add h) fun _ _ h => yf_some h) ?_
  refine yf_ite (yf_try (yf_call hu yf_fm_Reader_readNumber (by decide)) fun _ _ h => yf_seq (add h) fun _ _ h => yf_some h) ?_
  refine yf_ite (yf_try (yf_call hu yf_fm_Reader_readNumber (by decide)) fun _ _ h => yf_try (yf_call h yf_fm_Reader_readUnsigned (by decide)) fun _ _ h => yf_seq (add h) fun _ _ h => yf_some h) ?_
  refine yf_ite (yf_try (yf_call hu yf_fm_Reader_expect (by decide)) fun _ _ h => yf_seq (add h) fun _ _ h => yf_some h) ?_
  exact yf_some hu
theorem yf_jb_Reader_readInstruction_26 {fu : Nat} {b1 : Int32} {b2 : Int32} {u : xk_St} : yf_F [8, 9, 17] [] [7, 8, 9, 11] [2] u (jb_Reader_readInstruction_26 fu b1 b2 u) := by
  have hu : yf_fr [8, 9, 17] [] [7, 8, 9, 11] [2] u u := yf_refl
  unfold jb_Reader_readInstruction_26
  repeat' with_reducible first
    | exact yf_none
    | exact yf_some (by assumption)
    | refine yf_ite ?_ ?_
    | exact yf_call (by assumption) (yf_jb_Reader_readInstruction_43) (by decide)
theorem yf_fm_Reader_readInstruction {fu : Nat} {x0 : Int32} {u : xk_St} : yf_F [8, 9, 17] [] [7, 8, 9, 11] [2] u (fm_Reader_readInstruction fu x0 u) := by
  have hu : yf_fr [8, 9, 17] [] [7, 8, 9, 11] [2] u u := yf_refl
  unfold fm_Reader_readInstruction
  repeat' with_reducible first
    | exact yf_none
    | exact yf_some (by assumption)
    | refine yf_ite ?_ ?_
    | refine yf_try ?_ (fun _ _ _ => ?_)
    | exact yf_call (by assumption) (yf_fm_Reader_readByte) (by decide)
    | exact yf_call (by assumption) (yf_fm_Reader_readNumber) (by decide)
    | exact yf_call (by assumption) (yf_jb_Reader_readInstruction_26) (by decide)
    | refine yf_letV (fun _ => ?_)
theorem yf_jb_Reader_readCode_123 {fu : Nat} {k20 : Int32 → Int32 → Int32 → xk_St → Option ((Unit ⊕ Nat) × xk_St)} {b1 : Int32} {b2 : Int32} {b3 : Int32} {u : xk_St} (hk20 : ∀ c0 c1 c2 v, yf_F [5, 8, 9, 17, 18] [] [7, 8, 9, 11, 13] [2] v (k20 c0 c1 c2 v)) : yf_F [5, 8, 9, 17, 18] [] [7, 8, 9, 11, 13] [2] u (jb_Reader_readCode_123 fu k20 b1 b2 b3 u) := by
  have hu : yf_fr [5, 8, 9, 17, 18] [] [7, 8, 9, 11, 13] [2] u u := yf_refl
  unfold jb_Reader_readCode_123
  repeat' with_reducible first
    | exact yf_none
    | exact yf_some (by assumption)
    | refine yf_ite ?_ ?_
    | refine yf_letS (yf_I (by assumption) (by decide)) (fun _ _ => ?_)
    | exact yf_call (by assumption) (hk20 ..) (by decide)
    | refine yf_letV (fun _ => ?_)
theorem yf_jb_Reader_readCode_95 {fu : Nat} {k20 : Int32 → Int32 → Int32 → xk_St → Option ((Unit ⊕ Nat) × xk_St)} (hk20 : ∀ c0 c1 c2 v, yf_F [5, 8, 9, 17, 18] [] [7, 8, 9, 11, 13] [2] v (k20 c0 c1 c2 v)) : ∀ {n : Nat} {b1 : Int32} {b2 : Int32} {b3 : Int32} {b5 : Int32} {b6 : Int32} {u : xk_St}, yf_F [5, 8, 9, 17, 18] [] [7, 8, 9, 11, 13] [2] u (jb_Reader_readCode_95 fu k20 n b1 b2 b3 b5 b6 u) := by
  intro n
  induction n with
  | zero => intros; exact yf_none
  | succ n ih =>
    intro b1 b2 b3 b5 b6 u
    have hu : yf_fr [5, 8, 9, 17, 18] [] [7, 8, 9, 11, 13] [2] u u := yf_refl
    unfold jb_Reader_readCode_95
    refine yf_let ?_
    repeat' with_reducible first
      | exact yf_none
      | exact yf_some (by assumption)
      | refine yf_ite ?_ ?_
      | refine yf_try ?_ (fun _ _ _ => ?_)
      | exact yf_call (by assumption) (yf_jb_Reader_readCode_123 (by intros; first | apply hk20 | apply ih)) (by decide)
      | exact yf_call (by assumption) (yf_fm_Reader_readInstruction) (by decide)
      | exact yf_call (by assumption) (hk20 ..) (by decide)
      | exact yf_call (by assumption) (ih ..) (by decide)
      | refine yf_letV (fun _ => ?_)
theorem yf_jb_Reader_readCode_20 {fu : Nat} : ∀ {n : Nat} {b1 : Int32} {b2 : Int32} {b3 : Int32} {u : xk_St}, yf_F [5, 8, 9, 17, 18] [] [7, 8, 9, 11, 13] [2] u (jb_Reader_readCode_20 fu n b1 b2 b3 u) := by
  intro n
  induction n with
  | zero => intros; exact yf_none
  | succ n ih =>
    intro b1 b2 b3 u
    have hu : yf_fr [5, 8, 9, 17, 18] [] [7, 8, 9, 11, 13] [2] u u := yf_refl
    unfold jb_Reader_readCode_20
    refine yf_let ?_
    repeat' with_reducible first
      | exact yf_none
      | exact yf_some (by assumption)
      | refine yf_ite ?_ ?_
      | refine yf_letS (yf_I (by assumption) (by decide)) (fun _ _ => ?_)
      | refine yf_letS (yf_A (by assumption) (by decide)) (fun _ _ => ?_)
      | refine yf_seq ?_ (fun _ _ _ => ?_)
      | refine yf_try ?_ (fun _ _ _ => ?_)
      | exact yf_call (by assumption) (yf_fm_Reader_readSize) (by decide)
      | exact yf_call (by assumption) (yf_fm_Code_add) (by decide)
      | exact yf_call (by assumption) (yf_fm_Code_opened) (by decide)
      | exact yf_call (by assumption) (yf_fm_Reader_readLocals) (by decide)
      | exact yf_call (by assumption) (yf_jb_Reader_readCode_95 (by intros; first | apply ih)) (by decide)
      | exact yf_call (by assumption) (ih ..) (by decide)
      | refine yf_letV (fun _ => ?_)
theorem yf_fm_Reader_readCode {fu : Nat} {u : xk_St} : yf_F [5, 8, 9, 17, 18] [] [7, 8, 9, 11, 13] [2] u (fm_Reader_readCode fu u) := by
  have hu : yf_fr [5, 8, 9, 17, 18] [] [7, 8, 9, 11, 13] [2] u u := yf_refl
  unfold fm_Reader_readCode
  repeat' with_reducible first
    | exact yf_none
    | exact yf_some (by assumption)
    | refine yf_ite ?_ ?_
    | refine yf_letS (yf_I (by assumption) (by decide)) (fun _ _ => ?_)
    | refine yf_try ?_ (fun _ _ _ => ?_)
    | exact yf_call (by assumption) (yf_fm_Reader_readNumber) (by decide)
    | exact yf_call (by assumption) (yf_jb_Reader_readCode_20) (by decide)
    | refine yf_letV (fun _ => ?_)
theorem yf_jb_Reader_readModule_281 {fu : Nat} {k62 : Int32 → Int32 → Int32 → xk_St → Option ((Unit ⊕ Nat) × xk_St)} {b2 : Int32} {b3 : Int32} {b4 : Int32} {b5 : Int32} {u : xk_St} (hk62 : ∀ c0 c1 c2 v, yf_F [5, 6, 7, 8, 9, 10, 11, 12, 13, 14, 15, 16, 17, 18] [] [2, 3, 4, 6, 7, 8, 9, 11, 12, 13, 16, 17, 19, 20, 21, 22, 23, 24, 25, 26, 28, 29, 31, 32] [2, 6, 7, 8, 9] v (k62 c0 c1 c2 v)) : yf_F [5, 6, 7, 8, 9, 10, 11, 12, 13, 14, 15, 16, 17, 18] [] [2, 3, 4, 6, 7, 8, 9, 11, 12, 13, 16, 17, 19, 20, 21, 22, 23, 24, 25, 26, 28, 29, 31, 32] [2, 6, 7, 8, 9] u (jb_Reader_readModule_281 fu k62 b2 b3 b4 b5 u) := by
  have hu : yf_fr [5, 6, 7, 8, 9, 10, 11, 12, 13, 14, 15, 16, 17, 18] [] [2, 3, 4, 6, 7, 8, 9, 11, 12, 13, 16, 17, 19, 20, 21, 22, 23, 24, 25, 26, 28, 29, 31, 32] [2, 6, 7, 8, 9] u u := yf_refl
  unfold jb_Reader_readModule_281
  repeat' with_reducible first
    | exact yf_none
    | exact yf_some (by assumption)
    | refine yf_ite ?_ ?_
    | refine yf_letS (yf_I (by assumption) (by decide)) (fun _ _ => ?_)
    | exact yf_call (by assumption) (hk62 ..) (by decide)
    | refine yf_letV (fun _ => ?_)
theorem yf_jb_Reader_readModule_277 {fu : Nat} {k62 : Int32 → Int32 → Int32 → xk_St → Option ((Unit ⊕ Nat) × xk_St)} {b2 : Int32} {b3 : Int32} {b4 : Int32} {b5 : Int32} {u : xk_St} (hk62 : ∀ c0 c1 c2 v, yf_F [5, 6, 7, 8, 9, 10, 11, 12, 13, 14, 15, 16, 17, 18] [] [2, 3, 4, 6, 7, 8, 9, 11, 12, 13, 16, 17, 19, 20, 21, 22, 23, 24, 25, 26, 28, 29, 31, 32] [2, 6, 7, 8, 9] v (k62 c0 c1 c2 v)) : yf_F [5, 6, 7, 8, 9, 10, 11, 12, 13, 14, 15, 16, 17, 18] [] [2, 3, 4, 6, 7, 8, 9, 11, 12, 13, 16, 17, 19, 20, 21, 22, 23, 24, 25, 26, 28, 29, 31, 32] [2, 6, 7, 8, 9] u (jb_Reader_readModule_277 fu k62 b2 b3 b4 b5 u) := by
  have hu : yf_fr [5, 6, 7, 8, 9, 10, 11, 12, 13, 14, 15, 16, 17, 18] [] [2, 3, 4, 6, 7, 8, 9, 11, 12, 13, 16, 17, 19, 20, 21, 22, 23, 24, 25, 26, 28, 29, 31, 32] [2, 6, 7, 8, 9] u u := yf_refl
  unfold jb_Reader_readModule_277
  repeat' with_reducible first
    | exact yf_none
    | exact yf_some (by assumption)
    | refine yf_ite ?_ ?_
    | refine yf_try ?_ (fun _ _ _ => ?_)
    | exact yf_call (by assumption) (yf_fm_Reader_readData) (by decide)
    | exact yf_call (by assumption) (yf_jb_Reader_readModule_281 (by intros; first | apply hk62)) (by decide)
    | exact yf_call (by assumption) (hk62 ..) (by decide)
theorem yf_jb_Reader_readModule_116 {fu : Nat} {k62 : Int32 → Int32 → Int32 → xk_St → Option ((Unit ⊕ Nat) × xk_St)} {b2 : Int32} {b3 : Int32} {b4 : Int32} {b5 : Int32} {u : xk_St} (hk62 : ∀ c0 c1 c2 v, yf_F [5, 6, 7, 8, 9, 10, 11, 12, 13, 14, 15, 16, 17, 18] [] [2, 3, 4, 6, 7, 8, 9, 11, 12, 13, 16, 17, 19, 20, 21, 22, 23, 24, 25, 26, 28, 29, 31, 32] [2, 6, 7, 8, 9] v (k62 c0 c1 c2 v)) : yf_F [5, 6, 7, 8, 9, 10, 11, 12, 13, 14, 15, 16, 17, 18] [] [2, 3, 4, 6, 7, 8, 9, 11, 12, 13, 16, 17, 19, 20, 21, 22, 23, 24, 25, 26, 28, 29, 31, 32] [2, 6, 7, 8, 9] u (jb_Reader_readModule_116 fu k62 b2 b3 b4 b5 u) := by
  have hu : yf_fr [5, 6, 7, 8, 9, 10, 11, 12, 13, 14, 15, 16, 17, 18] [] [2, 3, 4, 6, 7, 8, 9, 11, 12, 13, 16, 17, 19, 20, 21, 22, 23, 24, 25, 26, 28, 29, 31, 32] [2, 6, 7, 8, 9] u u := yf_refl
  unfold jb_Reader_readModule_116
  repeat' with_reducible first
    | exact yf_none
    | exact yf_some (by assumption)
    | refine yf_ite ?_ ?_
    | refine yf_letS (yf_I (by assumption) (by decide)) (fun _ _ => ?_)
    | refine yf_try ?_ (fun _ _ _ => ?_)
    | exact yf_call (by assumption) (yf_fm_Reader_readSize) (by decide)
    | exact yf_call (by assumption) (yf_jb_Reader_readModule_281 (by intros; first | apply hk62)) (by decide)
    | exact yf_call (by assumption) (yf_fm_Reader_readTypes) (by decide)
    | exact yf_call (by assumption) (yf_jb_Reader_readModule_277 (by intros; first | apply hk62)) (by decide)
    | exact yf_call (by assumption) (yf_fm_Reader_readFunctions) (by decide)
    | exact yf_call (by assumption) (yf_fm_Reader_readTables) (by decide)
    | exact yf_call (by assumption) (yf_fm_Reader_readMemories) (by decide)
    | exact yf_call (by assumption) (yf_fm_Reader_readGlobals) (by decide)
    | exact yf_call (by assumption) (yf_fm_Reader_readExports) (by decide)
    | exact yf_call (by assumption) (yf_fm_Reader_readNumber) (by decide)
    | exact yf_call (by assumption) (yf_fm_Reader_readElements) (by decide)
    | exact yf_call (by assumption) (yf_fm_Reader_readCode) (by decide)
    | exact yf_call (by assumption) (hk62 ..) (by decide)
    | refine yf_letV (fun _ => ?_)
theorem yf_jb_Reader_readModule_62 {fu : Nat} : ∀ {n : Nat} {b2 : Int32} {b3 : Int32} {b4 : Int32} {u : xk_St}, yf_F [5, 6, 7, 8, 9, 10, 11, 12, 13, 14, 15, 16, 17, 18] [] [2, 3, 4, 6, 7, 8, 9, 11, 12, 13, 16, 17, 19, 20, 21, 22, 23, 24, 25, 26, 28, 29, 31, 32] [2, 6, 7, 8, 9] u (jb_Reader_readModule_62 fu n b2 b3 b4 u) := by
  intro n
  induction n with
  | zero => intros; exact yf_none
  | succ n ih =>
    intro b2 b3 b4 u
    have hu : yf_fr [5, 6, 7, 8, 9, 10, 11, 12, 13, 14, 15, 16, 17, 18] [] [2, 3, 4, 6, 7, 8, 9, 11, 12, 13, 16, 17, 19, 20, 21, 22, 23, 24, 25, 26, 28, 29, 31, 32] [2, 6, 7, 8, 9] u u := yf_refl
    unfold jb_Reader_readModule_62
    refine yf_let ?_
    repeat' with_reducible first
      | exact yf_none
      | exact yf_some (by assumption)
      | refine yf_ite ?_ ?_
      | refine yf_try ?_ (fun _ _ _ => ?_)
      | exact yf_call (by assumption) (yf_fm_Reader_readByte) (by decide)
      | exact yf_call (by assumption) (yf_jb_Reader_readModule_116 (by intros; first | apply ih)) (by decide)
      | exact yf_call (by assumption) (ih ..) (by decide)
      | refine yf_letV (fun _ => ?_)
theorem yf_jb_Reader_readModule_23 {fu : Nat} : ∀ {n : Nat} {b2 : Int32} {b3 : Int32} {u : xk_St}, yf_F [5, 6, 7, 8, 9, 10, 11, 12, 13, 14, 15, 16, 17, 18] [] [2, 3, 4, 6, 7, 8, 9, 11, 12, 13, 16, 17, 19, 20, 21, 22, 23, 24, 25, 26, 28, 29, 31, 32] [2, 6, 7, 8, 9] u (jb_Reader_readModule_23 fu n b2 b3 u) := by
  intro n
  induction n with
  | zero => intros; exact yf_none
  | succ n ih =>
    intro b2 b3 u
    have hu : yf_fr [5, 6, 7, 8, 9, 10, 11, 12, 13, 14, 15, 16, 17, 18] [] [2, 3, 4, 6, 7, 8, 9, 11, 12, 13, 16, 17, 19, 20, 21, 22, 23, 24, 25, 26, 28, 29, 31, 32] [2, 6, 7, 8, 9] u u := yf_refl
    unfold jb_Reader_readModule_23
    refine yf_let ?_
    repeat' with_reducible first
      | exact yf_none
      | exact yf_some (by assumption)
      | refine yf_ite ?_ ?_
      | refine yf_try ?_ (fun _ _ _ => ?_)
      | exact yf_call (by assumption) (yf_jb_Reader_readModule_62) (by decide)
      | exact yf_call (by assumption) (yf_fm_Reader_readByte) (by decide)
      | exact yf_call (by assumption) (ih ..) (by decide)
      | refine yf_letV (fun _ => ?_)
