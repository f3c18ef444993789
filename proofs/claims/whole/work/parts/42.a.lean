theorem yf_fm_Types_member {x0 : Int32} {x1 : Int32} {u : xk_St} : yf_F [] [] [] [] u (fm_Types_member x0 x1 u) := by
  have hu : yf_fr [] [] [] [] u u := yf_refl
  unfold fm_Types_member
  repeat' with_reducible first
    | exact yf_none
    | exact yf_some (by assumption)
    | refine yf_ite ?_ ?_
theorem yf_fm_Types_isReference {x0 : Int32} {u : xk_St} : yf_F [] [] [] [] u (fm_Types_isReference x0 u) := by
  have hu : yf_fr [] [] [] [] u u := yf_refl
  unfold fm_Types_isReference
  repeat' with_reducible first
    | exact yf_none
    | exact yf_some (by assumption)
    | refine yf_ite ?_ ?_
theorem yf_fm_Arrays_rangeCheck__h {x0 : Int32} {x1 : Int32} {x2 : Int32} {u : xk_St} : yf_F [] [] [] [] u (fm_Arrays_rangeCheck__h x0 x1 x2 u) := by
  have hu : yf_fr [] [] [] [] u u := yf_refl
  unfold fm_Arrays_rangeCheck__h
  repeat' with_reducible first
    | exact yf_none
    | exact yf_some (by assumption)
    | refine yf_ite ?_ ?_
theorem yf_fm_Memory_width {x0 : Int32} {u : xk_St} : yf_F [] [] [] [] u (fm_Memory_width x0 u) := by
  have hu : yf_fr [] [] [] [] u u := yf_refl
  unfold fm_Memory_width
  repeat' with_reducible first
    | exact yf_none
    | exact yf_some (by assumption)
    | refine yf_ite ?_ ?_
theorem yf_fm_Reader_readByte {u : xk_St} : yf_F [17] [] [] [] u (fm_Reader_readByte u) := by
  have hu : yf_fr [17] [] [] [] u u := yf_refl
  unfold fm_Reader_readByte
  repeat' with_reducible first
    | exact yf_none
    | exact yf_some (by assumption)
    | refine yf_ite ?_ ?_
    | refine yf_letS (yf_I (by assumption) (by decide)) (fun _ _ => ?_)
    | refine yf_letV (fun _ => ?_)
theorem yf_jb_Reader_readUnsigned_75 {fu : Nat} {k4 : Int64 → Int32 → xk_St → Option ((Int64 ⊕ Nat) × xk_St)} {b1 : Int64} {b3 : Int32} {b4 : Int32} {u : xk_St} (hk4 : ∀ c0 c1 v, yf_F [17] [] [] [] v (k4 c0 c1 v)) : yf_F [17] [] [] [] u (jb_Reader_readUnsigned_75 fu k4 b1 b3 b4 u) := by
  have hu : yf_fr [17] [] [] [] u u := yf_refl
  unfold jb_Reader_readUnsigned_75
  repeat' with_reducible first
    | exact yf_none
    | exact yf_some (by assumption)
    | refine yf_ite ?_ ?_
    | exact yf_call (by assumption) (hk4 ..) (by decide)
    | refine yf_letV (fun _ => ?_)
theorem yf_jb_Reader_readUnsigned_4 {fu : Nat} : ∀ {n : Nat} {b1 : Int64} {b3 : Int32} {u : xk_St}, yf_F [17] [] [] [] u (jb_Reader_readUnsigned_4 fu n b1 b3 u) := by
  intro n
  induction n with
  | zero => intros; exact yf_none
  | succ n ih =>
    intro b1 b3 u
    have hu : yf_fr [17] [] [] [] u u := yf_refl
    unfold jb_Reader_readUnsigned_4
    refine yf_let ?_
    repeat' with_reducible first
      | exact yf_none
      | exact yf_some (by assumption)
      | refine yf_ite ?_ ?_
      | refine yf_letS (yf_I (by assumption) (by decide)) (fun _ _ => ?_)
      | exact yf_call (by assumption) (yf_jb_Reader_readUnsigned_75 (by intros; first | apply ih)) (by decide)
      | exact yf_call (by assumption) (ih ..) (by decide)
      | refine yf_letV (fun _ => ?_)
theorem yf_fm_Reader_readUnsigned {fu : Nat} {u : xk_St} : yf_F [17] [] [] [] u (fm_Reader_readUnsigned fu u) := by
  have hu : yf_fr [17] [] [] [] u u := yf_refl
  unfold fm_Reader_readUnsigned
  repeat' with_reducible first
    | exact yf_none
    | exact yf_some (by assumption)
    | refine yf_ite ?_ ?_
    | exact yf_call (by assumption) (yf_jb_Reader_readUnsigned_4) (by decide)
theorem yf_fm_Reader_readSize {fu : Nat} {x0 : Int32} {u : xk_St} : yf_F [17] [] [] [] u (fm_Reader_readSize fu x0 u) := by
  have hu : yf_fr [17] [] [] [] u u := yf_refl
  unfold fm_Reader_readSize
  repeat' with_reducible first
    | exact yf_none
    | exact yf_some (by assumption)
    | refine yf_ite ?_ ?_
    | refine yf_try ?_ (fun _ _ _ => ?_)
    | exact yf_call (by assumption) (yf_fm_Reader_readUnsigned) (by decide)
theorem yf_fm_Reader_readNumber {fu : Nat} {u : xk_St} : yf_F [17] [] [] [] u (fm_Reader_readNumber fu u) := by
  have hu : yf_fr [17] [] [] [] u u := yf_refl
  unfold fm_Reader_readNumber
  repeat' with_reducible first
    | exact yf_none
    | exact yf_some (by assumption)
    | refine yf_ite ?_ ?_
    | refine yf_try ?_ (fun _ _ _ => ?_)
    | exact yf_call (by assumption) (yf_fm_Reader_readUnsigned) (by decide)
theorem yf_fm_Reader_peekByte {u : xk_St} : yf_F [] [] [] [] u (fm_Reader_peekByte u) := by
  have hu : yf_fr [] [] [] [] u u := yf_refl
  unfold fm_Reader_peekByte
  repeat' with_reducible first
    | exact yf_none
    | exact yf_some (by assumption)
    | refine yf_ite ?_ ?_
theorem yf_fm_Types_setMember {x0 : Int32} {x1 : Int32} {x2 : Int32} {u : xk_St} : yf_F [] [] [6] [] u (fm_Types_setMember x0 x1 x2 u) := by
  have hu : yf_fr [] [] [6] [] u u := yf_refl
  unfold fm_Types_setMember
  repeat' with_reducible first
    | exact yf_none
    | exact yf_some (by assumption)
    | refine yf_ite ?_ ?_
    | refine yf_letS (yf_A (by assumption) (by decide)) (fun _ _ => ?_)
    | refine yf_letV (fun _ => ?_)
theorem yf_fm_Reader_readFlag {u : xk_St} : yf_F [17] [] [] [] u (fm_Reader_readFlag u) := by
  have hu : yf_fr [17] [] [] [] u u := yf_refl
  unfold fm_Reader_readFlag
  repeat' with_reducible first
    | exact yf_none
    | exact yf_some (by assumption)
    | refine yf_ite ?_ ?_
    | refine yf_try ?_ (fun _ _ _ => ?_)
    | exact yf_call (by assumption) (yf_fm_Reader_readByte) (by decide)
theorem yf_fm_Types_setOutcome {x0 : Int32} {x1 : Int32} {x2 : Int32} {u : xk_St} : yf_F [] [] [6] [] u (fm_Types_setOutcome x0 x1 x2 u) := by
  have hu : yf_fr [] [] [6] [] u u := yf_refl
  unfold fm_Types_setOutcome
  repeat' with_reducible first
    | exact yf_none
    | exact yf_some (by assumption)
    | refine yf_ite ?_ ?_
    | refine yf_letS (yf_A (by assumption) (by decide)) (fun _ _ => ?_)
    | refine yf_letV (fun _ => ?_)
theorem yf_jb_Reader_readSigned_117 {fu : Nat} {b2 : Int64} {s0 : Int64} {u : xk_St} : yf_F [17] [] [] [] u (jb_Reader_readSigned_117 fu b2 s0 u) := by
  have hu : yf_fr [17] [] [] [] u u := yf_refl
  unfold jb_Reader_readSigned_117
  repeat' with_reducible first
    | exact yf_none
    | exact yf_some (by assumption)
    | refine yf_ite ?_ ?_
theorem yf_jb_Reader_readSigned_83 {fu : Nat} {b1 : Int32} {b2 : Int64} {b4 : Int32} {b5 : Int32} {s0 : Int32} {u : xk_St} : yf_F [17] [] [] [] u (jb_Reader_readSigned_83 fu b1 b2 b4 b5 s0 u) := by
  have hu : yf_fr [17] [] [] [] u u := yf_refl
  unfold jb_Reader_readSigned_83
  repeat' with_reducible first
    | exact yf_none
    | exact yf_some (by assumption)
    | refine yf_ite ?_ ?_
    | exact yf_call (by assumption) (yf_jb_Reader_readSigned_117) (by decide)
    | refine yf_letV (fun _ => ?_)
theorem yf_jb_Reader_readSigned_5 {fu : Nat} : ∀ {n : Nat} {b1 : Int32} {b2 : Int64} {b4 : Int32} {u : xk_St}, yf_F [17] [] [] [] u (jb_Reader_readSigned_5 fu n b1 b2 b4 u) := by
  intro n
  induction n with
  | zero => intros; exact yf_none
  | succ n ih =>
    intro b1 b2 b4 u
    have hu : yf_fr [17] [] [] [] u u := yf_refl
    unfold jb_Reader_readSigned_5
    refine yf_let ?_
    repeat' with_reducible first
      | exact yf_none
      | exact yf_some (by assumption)
      | refine yf_ite ?_ ?_
      | refine yf_letS (yf_I (by assumption) (by decide)) (fun _ _ => ?_)
      | exact yf_call (by assumption) (yf_jb_Reader_readSigned_83) (by decide)
      | exact yf_call (by assumption) (ih ..) (by decide)
      | refine yf_letV (fun _ => ?_)
theorem yf_fm_Reader_readSigned {fu : Nat} {x0 : Int32} {u : xk_St} : yf_F [17] [] [] [] u (fm_Reader_readSigned fu x0 u) := by
  have hu : yf_fr [17] [] [] [] u u := yf_refl
  unfold fm_Reader_readSigned
  repeat' with_reducible first
    | exact yf_none
    | exact yf_some (by assumption)
    | refine yf_ite ?_ ?_
    | exact yf_call (by assumption) (yf_jb_Reader_readSigned_5) (by decide)
theorem yf_jb_Reader_readTarget_17 {fu : Nat} {b1 : Int32} {u : xk_St} : yf_F [17] [] [] [] u (jb_Reader_readTarget_17 fu b1 u) := by
  have hu : yf_fr [17] [] [] [] u u := yf_refl
  unfold jb_Reader_readTarget_17
  repeat' with_reducible first
    | exact yf_none
    | exact yf_some (by assumption)
    | refine yf_ite ?_ ?_
    | refine yf_letS (yf_I (by assumption) (by decide)) (fun _ _ => ?_)
    | refine yf_letV (fun _ => ?_)
theorem yf_fm_Reader_readTarget {fu : Nat} {u : xk_St} : yf_F [17] [] [] [] u (fm_Reader_readTarget fu u) := by
  have hu : yf_fr [17] [] [] [] u u := yf_refl
  unfold fm_Reader_readTarget
  repeat' with_reducible first
    | exact yf_none
    | exact yf_some (by assumption)
    | refine yf_ite ?_ ?_
    | refine yf_try ?_ (fun _ _ _ => ?_)
    | exact yf_call (by assumption) (yf_fm_Reader_peekByte) (by decide)
    | exact yf_call (by assumption) (yf_jb_Reader_readTarget_17) (by decide)
    | exact yf_call (by assumption) (yf_fm_Reader_readSigned) (by decide)
theorem yf_fm_Types_reference {x0 : Int32} {x1 : Int32} {u : xk_St} : yf_F [] [] [] [] u (fm_Types_reference x0 x1 u) := by
  have hu : yf_fr [] [] [] [] u u := yf_refl
  unfold fm_Types_reference
  repeat' with_reducible first
    | exact yf_none
    | exact yf_some (by assumption)
    | refine yf_ite ?_ ?_
theorem yf_fm_Reader_readValueType {fu : Nat} {u : xk_St} : yf_F [17] [] [] [] u (fm_Reader_readValueType fu u) := by
  have hu : yf_fr [17] [] [] [] u u := yf_refl
  unfold fm_Reader_readValueType
  repeat' with_reducible first
    | exact yf_none
    | exact yf_some (by assumption)
    | refine yf_ite ?_ ?_
    | refine yf_seq ?_ (fun _ _ _ => ?_)
    | refine yf_try ?_ (fun _ _ _ => ?_)
    | exact yf_call (by assumption) (yf_fm_Reader_readByte) (by decide)
    | exact yf_call (by assumption) (yf_fm_Reader_readTarget) (by decide)
    | exact yf_call (by assumption) (yf_fm_Types_reference) (by decide)
theorem yf_jb_Reader_readFields_84 {fu : Nat} {k12 : Int32 → Int32 → Int32 → xk_St → Option ((Unit ⊕ Nat) × xk_St)} {b1 : Int32} {b2 : Int32} {b3 : Int32} {u : xk_St} (hk12 : ∀ c0 c1 c2 v, yf_F [17] [] [3, 6] [] v (k12 c0 c1 c2 v)) : yf_F [17] [] [3, 6] [] u (jb_Reader_readFields_84 fu k12 b1 b2 b3 u) := by
  have hu : yf_fr [17] [] [3, 6] [] u u := yf_refl
  unfold jb_Reader_readFields_84
  repeat' with_reducible first
    | exact yf_none
    | exact yf_some (by assumption)
    | refine yf_ite ?_ ?_
    | refine yf_seq ?_ (fun _ _ _ => ?_)
    | refine yf_try ?_ (fun _ _ _ => ?_)
    | exact yf_call (by assumption) (yf_fm_Reader_readFlag) (by decide)
    | exact yf_call (by assumption) (yf_fm_Types_setOutcome) (by decide)
    | exact yf_call (by assumption) (hk12 ..) (by decide)
    | refine yf_letV (fun _ => ?_)
theorem yf_jb_Reader_readFields_65 {fu : Nat} {k12 : Int32 → Int32 → Int32 → xk_St → Option ((Unit ⊕ Nat) × xk_St)} {b1 : Int32} {b2 : Int32} {b3 : Int32} {s0 : Int32} {s1 : Int32} {s2 : Int32} {u : xk_St} (hk12 : ∀ c0 c1 c2 v, yf_F [17] [] [3, 6] [] v (k12 c0 c1 c2 v)) : yf_F [17] [] [3, 6] [] u (jb_Reader_readFields_65 fu k12 b1 b2 b3 s0 s1 s2 u) := by
  have hu : yf_fr [17] [] [3, 6] [] u u := yf_refl
  unfold jb_Reader_readFields_65
  repeat' with_reducible first
    | exact yf_none
    | exact yf_some (by assumption)
    | refine yf_ite ?_ ?_
    | refine yf_seq ?_ (fun _ _ _ => ?_)
    | exact yf_call (by assumption) (yf_fm_Types_setMember) (by decide)
    | exact yf_call (by assumption) (yf_jb_Reader_readFields_84 (by intros; first | apply hk12)) (by decide)
    | exact yf_call (by assumption) (hk12 ..) (by decide)
theorem yf_jb_Reader_readFields_37 {fu : Nat} {k12 : Int32 → Int32 → Int32 → xk_St → Option ((Unit ⊕ Nat) × xk_St)} {b1 : Int32} {b2 : Int32} {b3 : Int32} {b4 : Int32} {u : xk_St} (hk12 : ∀ c0 c1 c2 v, yf_F [17] [] [3, 6] [] v (k12 c0 c1 c2 v)) : yf_F [17] [] [3, 6] [] u (jb_Reader_readFields_37 fu k12 b1 b2 b3 b4 u) := by
  have hu : yf_fr [17] [] [3, 6] [] u u := yf_refl
  unfold jb_Reader_readFields_37
  repeat' with_reducible first
    | exact yf_none
    | exact yf_some (by assumption)
    | refine yf_ite ?_ ?_
    | refine yf_letS (yf_I (by assumption) (by decide)) (fun _ _ => ?_)
    | exact yf_call (by assumption) (yf_jb_Reader_readFields_65 (by intros; first | apply hk12)) (by decide)
    | exact yf_call (by assumption) (hk12 ..) (by decide)
    | refine yf_letV (fun _ => ?_)
theorem yf_jb_Reader_readFields_12 {fu : Nat} : ∀ {n : Nat} {b1 : Int32} {b2 : Int32} {b3 : Int32} {u : xk_St}, yf_F [17] [] [3, 6] [] u (jb_Reader_readFields_12 fu n b1 b2 b3 u) := by
  intro n
  induction n with
  | zero => intros; exact yf_none
  | succ n ih =>
    intro b1 b2 b3 u
    have hu : yf_fr [17] [] [3, 6] [] u u := yf_refl
    unfold jb_Reader_readFields_12
    refine yf_let ?_
    repeat' with_reducible first
      | exact yf_none
      | exact yf_some (by assumption)
      | refine yf_ite ?_ ?_
      | refine yf_seq ?_ (fun _ _ _ => ?_)
      | refine yf_try ?_ (fun _ _ _ => ?_)
      | exact yf_call (by assumption) (yf_fm_Reader_peekByte) (by decide)
      | exact yf_call (by assumption) (yf_jb_Reader_readFields_37 (by intros; first | apply ih)) (by decide)
      | exact yf_call (by assumption) (yf_fm_Reader_readValueType) (by decide)
      | exact yf_call (by assumption) (yf_fm_Types_setMember) (by decide)
      | exact yf_call (by assumption) (yf_jb_Reader_readFields_84 (by intros; first | apply ih)) (by decide)
      | exact yf_call (by assumption) (ih ..) (by decide)
      | refine yf_letV (fun _ => ?_)
theorem yf_fm_Reader_readFields {fu : Nat} {x0 : Int32} {x1 : Int32} {u : xk_St} : yf_F [17] [] [3, 6] [] u (fm_Reader_readFields fu x0 x1 u) := by
  have hu : yf_fr [17] [] [3, 6] [] u u := yf_refl
  unfold fm_Reader_readFields
  repeat' with_reducible first
    | exact yf_none
    | exact yf_some (by assumption)
    | refine yf_ite ?_ ?_
    | refine yf_letS (yf_A (by assumption) (by decide)) (fun _ _ => ?_)
    | exact yf_call (by assumption) (yf_jb_Reader_readFields_12) (by decide)
    | refine yf_letV (fun _ => ?_)
theorem yf_jb_Reader_readSignature_59 {fu : Nat} : ∀ {n : Nat} {b1 : Int32} {b3 : Int32} {b4 : Int32} {u : xk_St}, yf_F [17] [] [3, 4, 6] [] u (jb_Reader_readSignature_59 fu n b1 b3 b4 u) := by
  intro n
  induction n with
  | zero => intros; exact yf_none
  | succ n ih =>
    intro b1 b3 b4 u
    have hu : yf_fr [17] [] [3, 4, 6] [] u u := yf_refl
    unfold jb_Reader_readSignature_59
    refine yf_let ?_
    repeat' with_reducible first
      | exact yf_none
      | exact yf_some (by assumption)
      | refine yf_ite ?_ ?_
      | refine yf_seq ?_ (fun _ _ _ => ?_)
      | refine yf_try ?_ (fun _ _ _ => ?_)
      | exact yf_call (by assumption) (yf_fm_Reader_readValueType) (by decide)
      | exact yf_call (by assumption) (yf_fm_Types_setOutcome) (by decide)
      | exact yf_call (by assumption) (ih ..) (by decide)
      | refine yf_letV (fun _ => ?_)
theorem yf_jb_Reader_readSignature_17 {fu : Nat} : ∀ {n : Nat} {b1 : Int32} {b2 : Int32} {b3 : Int32} {u : xk_St}, yf_F [17] [] [3, 4, 6] [] u (jb_Reader_readSignature_17 fu n b1 b2 b3 u) := by
  intro n
  induction n with
  | zero => intros; exact yf_none
  | succ n ih =>
    intro b1 b2 b3 u
    have hu : yf_fr [17] [] [3, 4, 6] [] u u := yf_refl
    unfold jb_Reader_readSignature_17
    refine yf_let ?_
    repeat' with_reducible first
      | exact yf_none
      | exact yf_some (by assumption)
      | refine yf_ite ?_ ?_
      | refine yf_letS (yf_A (by assumption) (by decide)) (fun _ _ => ?_)
      | refine yf_seq ?_ (fun _ _ _ => ?_)
      | refine yf_try ?_ (fun _ _ _ => ?_)
      | exact yf_call (by assumption) (yf_fm_Reader_readNumber) (by decide)
      | exact yf_call (by assumption) (yf_jb_Reader_readSignature_59) (by decide)
      | exact yf_call (by assumption) (yf_fm_Reader_readValueType) (by decide)
      | exact yf_call (by assumption) (yf_fm_Types_setMember) (by decide)
      | exact yf_call (by assumption) (ih ..) (by decide)
      | refine yf_letV (fun _ => ?_)
theorem yf_fm_Reader_readSignature {fu : Nat} {x0 : Int32} {u : xk_St} : yf_F [17] [] [3, 4, 6] [] u (fm_Reader_readSignature fu x0 u) := by
  have hu : yf_fr [17] [] [3, 4, 6] [] u u := yf_refl
  unfold fm_Reader_readSignature
  repeat' with_reducible first
    | exact yf_none
    | exact yf_some (by assumption)
    | refine yf_ite ?_ ?_
    | refine yf_letS (yf_A (by assumption) (by decide)) (fun _ _ => ?_)
    | refine yf_try ?_ (fun _ _ _ => ?_)
    | exact yf_call (by assumption) (yf_fm_Reader_readNumber) (by decide)
    | exact yf_call (by assumption) (yf_jb_Reader_readSignature_17) (by decide)
    | refine yf_letV (fun _ => ?_)
theorem yf_jb_Reader_readTypes_121 {fu : Nat} {k15 : Int32 → Int32 → xk_St → Option ((Unit ⊕ Nat) × xk_St)} {b1 : Int32} {b2 : Int32} {u : xk_St} (hk15 : ∀ c0 c1 v, yf_F [7, 17] [] [2, 3, 4, 6] [] v (k15 c0 c1 v)) : yf_F [7, 17] [] [2, 3, 4, 6] [] u (jb_Reader_readTypes_121 fu k15 b1 b2 u) := by
  have hu : yf_fr [7, 17] [] [2, 3, 4, 6] [] u u := yf_refl
  unfold jb_Reader_readTypes_121
  repeat' with_reducible first
    | exact yf_none
    | exact yf_some (by assumption)
    | refine yf_ite ?_ ?_
    | exact yf_call (by assumption) (hk15 ..) (by decide)
    | refine yf_letV (fun _ => ?_)
theorem yf_jb_Reader_readTypes_15 {fu : Nat} : ∀ {n : Nat} {b1 : Int32} {b2 : Int32} {u : xk_St}, yf_F [7, 17] [] [2, 3, 4, 6] [] u (jb_Reader_readTypes_15 fu n b1 b2 u) := by
  intro n
  induction n with
  | zero => intros; exact yf_none
  | succ n ih =>
    intro b1 b2 u
    have hu : yf_fr [7, 17] [] [2, 3, 4, 6] [] u u := yf_refl
    unfold jb_Reader_readTypes_15
    refine yf_let ?_
    repeat' with_reducible first
      | exact yf_none
      | exact yf_some (by assumption)
      | refine yf_ite ?_ ?_
      | refine yf_letS (yf_A (by assumption) (by decide)) (fun _ _ => ?_)
      | refine yf_try ?_ (fun _ _ _ => ?_)
      | exact yf_call (by assumption) (yf_fm_Reader_readByte) (by decide)
      | exact yf_call (by assumption) (yf_fm_Reader_readFields) (by decide)
      | exact yf_call (by assumption) (yf_jb_Reader_readTypes_121 (by intros; first | apply ih)) (by decide)
      | exact yf_call (by assumption) (yf_fm_Reader_readNumber) (by decide)
      | exact yf_call (by assumption) (yf_fm_Reader_readSignature) (by decide)
      | exact yf_call (by assumption) (ih ..) (by decide)
      | refine yf_letV (fun _ => ?_)
theorem yf_fm_Reader_readTypes {fu : Nat} {u : xk_St} : yf_F [7, 17] [] [2, 3, 4, 6] [] u (fm_Reader_readTypes fu u) := by
  have hu : yf_fr [7, 17] [] [2, 3, 4, 6] [] u u := yf_refl
  unfold fm_Reader_readTypes
  repeat' with_reducible first
    | exact yf_none
    | exact yf_some (by assumption)
    | refine yf_ite ?_ ?_
    | refine yf_letS (yf_I (by assumption) (by decide)) (fun _ _ => ?_)
    | refine yf_try ?_ (fun _ _ _ => ?_)
    | exact yf_call (by assumption) (yf_fm_Reader_readNumber) (by decide)
    | exact yf_call (by assumption) (yf_jb_Reader_readTypes_15) (by decide)
    | refine yf_letV (fun _ => ?_)
theorem yf_fm_Reader_expect {x0 : Int32} {u : xk_St} : yf_F [17] [] [] [] u (fm_Reader_expect x0 u) := by
  have hu : yf_fr [17] [] [] [] u u := yf_refl
  unfold fm_Reader_expect
  repeat' with_reducible first
    | exact yf_none
    | exact yf_some (by assumption)
    | refine yf_ite ?_ ?_
    | refine yf_try ?_ (fun _ _ _ => ?_)
    | exact yf_call (by assumption) (yf_fm_Reader_readByte) (by decide)
theorem yf_fm_Reader_readPlace {fu : Nat} {u : xk_St} : yf_F [17] [] [] [] u (fm_Reader_readPlace fu u) := by
  have hu : yf_fr [17] [] [] [] u u := yf_refl
  unfold fm_Reader_readPlace
  repeat' with_reducible first
    | exact yf_none
    | exact yf_some (by assumption)
    | refine yf_ite ?_ ?_
    | refine yf_try ?_ (fun _ _ _ => ?_)
    | exact yf_call (by assumption) (yf_fm_Reader_expect) (by decide)
    | exact yf_call (by assumption) (yf_fm_Reader_readSigned) (by decide)
    | refine yf_letV (fun _ => ?_)
theorem yf_fm_Reader_passBytes {fu : Nat} {x1 : Int32} {u : xk_St} : yf_F [17] [] [31, 32] [] u (fm_Reader_passBytes fu x1 u) := by
  have hu : yf_fr [17] [] [31, 32] [] u u := yf_refl
  unfold fm_Reader_passBytes
  repeat' with_reducible first
    | exact yf_none
    | exact yf_some (by assumption)
    | refine yf_ite ?_ ?_
    | refine yf_letS (yf_I (by assumption) (by decide)) (fun _ _ => ?_)
    | refine yf_letS (yf_A (by assumption) (by decide)) (fun _ _ => ?_)
    | refine yf_try ?_ (fun _ _ _ => ?_)
    | exact yf_call (by assumption) (yf_fm_Reader_readSize) (by decide)
    | refine yf_letV (fun _ => ?_)
theorem yf_jb_Reader_readData_18 {fu : Nat} : ∀ {n : Nat} {b1 : Int32} {b2 : Int32} {u : xk_St}, yf_F [16, 17] [] [31, 32] [9] u (jb_Reader_readData_18 fu n b1 b2 u) := by
  intro n
  induction n with
  | zero => intros; exact yf_none
  | succ n ih =>
    intro b1 b2 u
    have hu : yf_fr [16, 17] [] [31, 32] [9] u u := yf_refl
    unfold jb_Reader_readData_18
    refine yf_let ?_
    repeat' with_reducible first
      | exact yf_none
      | exact yf_some (by assumption)
      | refine yf_ite ?_ ?_
      | refine yf_letS (yf_B (by assumption) (by decide)) (fun _ _ => ?_)
      | refine yf_try ?_ (fun _ _ _ => ?_)
      | exact yf_call (by assumption) (yf_fm_Reader_readPlace) (by decide)
      | exact yf_call (by assumption) (yf_fm_Reader_passBytes) (by decide)
      | exact yf_call (by assumption) (ih ..) (by decide)
      | refine yf_letV (fun _ => ?_)
theorem yf_fm_Reader_readData {fu : Nat} {u : xk_St} : yf_F [16, 17] [] [31, 32] [9] u (fm_Reader_readData fu u) := by
  have hu : yf_fr [16, 17] [] [31, 32] [9] u u := yf_refl
  unfold fm_Reader_readData
  repeat' with_reducible first
    | exact yf_none
    | exact yf_some (by assumption)
    | refine yf_ite ?_ ?_
    | refine yf_letS (yf_I (by assumption) (by decide)) (fun _ _ => ?_)
    | refine yf_try ?_ (fun _ _ _ => ?_)
    | exact yf_call (by assumption) (yf_fm_Reader_readNumber) (by decide)
    | exact yf_call (by assumption) (yf_jb_Reader_readData_18) (by decide)
    | refine yf_letV (fun _ => ?_)
theorem yf_jb_Reader_readFunctions_18 {fu : Nat} : ∀ {n : Nat} {b1 : Int32} {b2 : Int32} {u : xk_St}, yf_F [10, 17] [] [12] [] u (jb_Reader_readFunctions_18 fu n b1 b2 u) := by
  intro n
  induction n with
  | zero => intros; exact yf_none
  | succ n ih =>
    intro b1 b2 u
    have hu : yf_fr [10, 17] [] [12] [] u u := yf_refl
    unfold jb_Reader_readFunctions_18
    refine yf_let ?_
    repeat' with_reducible first
      | exact yf_none
      | exact yf_some (by assumption)
      | refine yf_ite ?_ ?_
      | refine yf_letS (yf_A (by assumption) (by decide)) (fun _ _ => ?_)
      | refine yf_try ?_ (fun _ _ _ => ?_)
      | exact yf_call (by assumption) (yf_fm_Reader_readNumber) (by decide)
      | exact yf_call (by assumption) (ih ..) (by decide)
      | refine yf_letV (fun _ => ?_)
theorem yf_fm_Reader_readFunctions {fu : Nat} {u : xk_St} : yf_F [10, 17] [] [12] [] u (fm_Reader_readFunctions fu u) := by
  have hu : yf_fr [10, 17] [] [12] [] u u := yf_refl
  unfold fm_Reader_readFunctions
  repeat' with_reducible first
    | exact yf_none
    | exact yf_some (by assumption)
    | refine yf_ite ?_ ?_
    | refine yf_letS (yf_I (by assumption) (by decide)) (fun _ _ => ?_)
    | refine yf_try ?_ (fun _ _ _ => ?_)
    | exact yf_call (by assumption) (yf_fm_Reader_readNumber) (by decide)
    | exact yf_call (by assumption) (yf_jb_Reader_readFunctions_18) (by decide)
    | refine yf_letV (fun _ => ?_)
theorem yf_fm_Reader_readLimits {fu : Nat} {x1 : Int32} {u : xk_St} : yf_F [17] [] [16, 17] [] u (fm_Reader_readLimits fu x1 u) := by
  have hu : yf_fr [17] [] [16, 17] [] u u := yf_refl
  unfold fm_Reader_readLimits
  repeat' with_reducible first
    | exact yf_none
    | exact yf_some (by assumption)
    | refine yf_ite ?_ ?_
    | refine yf_letS (yf_A (by assumption) (by decide)) (fun _ _ => ?_)
    | refine yf_try ?_ (fun _ _ _ => ?_)
    | exact yf_call (by assumption) (yf_fm_Reader_readFlag) (by decide)
    | exact yf_call (by assumption) (yf_fm_Reader_readNumber) (by decide)
    | refine yf_letV (fun _ => ?_)
theorem yf_jb_Reader_readTables_18 {fu : Nat} : ∀ {n : Nat} {b1 : Int32} {b2 : Int32} {u : xk_St}, yf_F [11, 17] [] [16, 17] [] u (jb_Reader_readTables_18 fu n b1 b2 u) := by
  intro n
  induction n with
  | zero => intros; exact yf_none
  | succ n ih =>
    intro b1 b2 u
    have hu : yf_fr [11, 17] [] [16, 17] [] u u := yf_refl
    unfold jb_Reader_readTables_18
    refine yf_let ?_
    repeat' with_reducible first
      | exact yf_none
      | exact yf_some (by assumption)
      | refine yf_ite ?_ ?_
      | refine yf_try ?_ (fun _ _ _ => ?_)
      | exact yf_call (by assumption) (yf_fm_Reader_expect) (by decide)
      | exact yf_call (by assumption) (yf_fm_Reader_readLimits) (by decide)
      | exact yf_call (by assumption) (ih ..) (by decide)
      | refine yf_letV (fun _ => ?_)
theorem yf_fm_Reader_readTables {fu : Nat} {u : xk_St} : yf_F [11, 17] [] [16, 17] [] u (fm_Reader_readTables fu u) := by
  have hu : yf_fr [11, 17] [] [16, 17] [] u u := yf_refl
  unfold fm_Reader_readTables
  repeat' with_reducible first
    | exact yf_none
    | exact yf_some (by assumption)
    | refine yf_ite ?_ ?_
    | refine yf_letS (yf_I (by assumption) (by decide)) (fun _ _ => ?_)
    | refine yf_try ?_ (fun _ _ _ => ?_)
    | exact yf_call (by assumption) (yf_fm_Reader_readNumber) (by decide)
    | exact yf_call (by assumption) (yf_jb_Reader_readTables_18) (by decide)
    | refine yf_letV (fun _ => ?_)
theorem yf_fm_Reader_readLimits__h54_29 {fu : Nat} {x1 : Int32} {u : xk_St} : yf_F [17] [] [19, 20] [] u (fm_Reader_readLimits__h54_29 fu x1 u) := by
  have hu : yf_fr [17] [] [19, 20] [] u u := yf_refl
  unfold fm_Reader_readLimits__h54_29
  repeat' with_reducible first
    | exact yf_none
    | exact yf_some (by assumption)
    | refine yf_ite ?_ ?_
    | refine yf_letS (yf_A (by assumption) (by decide)) (fun _ _ => ?_)
    | refine yf_try ?_ (fun _ _ _ => ?_)
    | exact yf_call (by assumption) (yf_fm_Reader_readFlag) (by decide)
    | exact yf_call (by assumption) (yf_fm_Reader_readNumber) (by decide)
    | refine yf_letV (fun _ => ?_)
theorem yf_jb_Reader_readMemories_18 {fu : Nat} : ∀ {n : Nat} {b1 : Int32} {b2 : Int32} {u : xk_St}, yf_F [12, 17] [] [19, 20] [] u (jb_Reader_readMemories_18 fu n b1 b2 u) := by
  intro n
  induction n with
  | zero => intros; exact yf_none
  | succ n ih =>
    intro b1 b2 u
    have hu : yf_fr [12, 17] [] [19, 20] [] u u := yf_refl
    unfold jb_Reader_readMemories_18
    refine yf_let ?_
    repeat' with_reducible first
      | exact yf_none
      | exact yf_some (by assumption)
      | refine yf_ite ?_ ?_
      | refine yf_try ?_ (fun _ _ _ => ?_)
      | exact yf_call (by assumption) (yf_fm_Reader_readLimits__h54_29) (by decide)
      | exact yf_call (by assumption) (ih ..) (by decide)
      | refine yf_letV (fun _ => ?_)
theorem yf_fm_Reader_readMemories {fu : Nat} {u : xk_St} : yf_F [12, 17] [] [19, 20] [] u (fm_Reader_readMemories fu u) := by
  have hu : yf_fr [12, 17] [] [19, 20] [] u u := yf_refl
  unfold fm_Reader_readMemories
  repeat' with_reducible first
    | exact yf_none
    | exact yf_some (by assumption)
    | refine yf_ite ?_ ?_
    | refine yf_letS (yf_I (by assumption) (by decide)) (fun _ _ => ?_)
    | refine yf_try ?_ (fun _ _ _ => ?_)
    | exact yf_call (by assumption) (yf_fm_Reader_readNumber) (by decide)
    | exact yf_call (by assumption) (yf_jb_Reader_readMemories_18) (by decide)
    | refine yf_letV (fun _ => ?_)
theorem yf_jb_Reader_readGlobals_166 {fu : Nat} {k20 : Int32 → Int32 → xk_St → Option ((Unit ⊕ Nat) × xk_St)} {b2 : Int32} {b3 : Int32} {u : xk_St} (hk20 : ∀ c0 c1 v, yf_F [13, 17] [] [21, 22, 23] [6] v (k20 c0 c1 v)) : yf_F [13, 17] [] [21, 22, 23] [6] u (jb_Reader_readGlobals_166 fu k20 b2 b3 u) := by
  have hu : yf_fr [13, 17] [] [21, 22, 23] [6] u u := yf_refl
  unfold jb_Reader_readGlobals_166
  repeat' with_reducible first
    | exact yf_none
    | exact yf_some (by assumption)
    | refine yf_ite ?_ ?_
    | refine yf_try ?_ (fun _ _ _ => ?_)
    | exact yf_call (by assumption) (yf_fm_Reader_expect) (by decide)
    | exact yf_call (by assumption) (hk20 ..) (by decide)
    | refine yf_letV (fun _ => ?_)
theorem yf_jb_Reader_readGlobals_20 {fu : Nat} : ∀ {n : Nat} {b2 : Int32} {b3 : Int32} {u : xk_St}, yf_F [13, 17] [] [21, 22, 23] [6] u (jb_Reader_readGlobals_20 fu n b2 b3 u) := by
  intro n
  induction n with
  | zero => intros; exact yf_none
  | succ n ih =>
    intro b2 b3 u
    have hu : yf_fr [13, 17] [] [21, 22, 23] [6] u u := yf_refl
    unfold jb_Reader_readGlobals_20
    refine yf_let ?_
    repeat' with_reducible first
      | exact yf_none
      | exact yf_some (by assumption)
      | refine yf_ite ?_ ?_
      | refine yf_letS (yf_A (by assumption) (by decide)) (fun _ _ => ?_)
      | refine yf_letS (yf_B (by assumption) (by decide)) (fun _ _ => ?_)
      | refine yf_seq ?_ (fun _ _ _ => ?_)
      | refine yf_try ?_ (fun _ _ _ => ?_)
      | exact yf_call (by assumption) (yf_fm_Reader_readValueType) (by decide)
      | exact yf_call (by assumption) (yf_fm_Reader_readFlag) (by decide)
      | exact yf_call (by assumption) (yf_fm_Reader_readByte) (by decide)
      | exact yf_call (by assumption) (yf_fm_Reader_readSigned) (by decide)
      | exact yf_call (by assumption) (yf_jb_Reader_readGlobals_166 (by intros; first | apply ih)) (by decide)
      | exact yf_call (by assumption) (yf_fm_Reader_readTarget) (by decide)
      | exact yf_call (by assumption) (yf_fm_Types_reference) (by decide)
      | exact yf_call (by assumption) (ih ..) (by decide)
      | refine yf_letV (fun _ => ?_)
theorem yf_fm_Reader_readGlobals {fu : Nat} {u : xk_St} : yf_F [13, 17] [] [21, 22, 23] [6] u (fm_Reader_readGlobals fu u) := by
  have hu : yf_fr [13, 17] [] [21, 22, 23] [6] u u := yf_refl
  unfold fm_Reader_readGlobals
  repeat' with_reducible first
    | exact yf_none
    | exact yf_some (by assumption)
    | refine yf_ite ?_ ?_
    | refine yf_letS (yf_I (by assumption) (by decide)) (fun _ _ => ?_)
    | refine yf_try ?_ (fun _ _ _ => ?_)
    | exact yf_call (by assumption) (yf_fm_Reader_readNumber) (by decide)
    | exact yf_call (by assumption) (yf_jb_Reader_readGlobals_20) (by decide)
    | refine yf_letV (fun _ => ?_)
theorem yf_fm_Reader_passBytes__h54_39 {fu : Nat} {x1 : Int32} {u : xk_St} : yf_F [17] [] [25, 26] [] u (fm_Reader_passBytes__h54_39 fu x1 u) := by
  have hu : yf_fr [17] [] [25, 26] [] u u := yf_refl
  unfold fm_Reader_passBytes__h54_39
  repeat' with_reducible first
    | exact yf_none
    | exact yf_some (by assumption)
    | refine yf_ite ?_ ?_
    | refine yf_letS (yf_I (by assumption) (by decide)) (fun _ _ => ?_)
    | refine yf_letS (yf_A (by assumption) (by decide)) (fun _ _ => ?_)
    | refine yf_try ?_ (fun _ _ _ => ?_)
    | exact yf_call (by assumption) (yf_fm_Reader_readSize) (by decide)
    | refine yf_letV (fun _ => ?_)
theorem yf_jb_Reader_readExports_18 {fu : Nat} : ∀ {n : Nat} {b1 : Int32} {b2 : Int32} {u : xk_St}, yf_F [14, 17] [] [24, 25, 26] [7] u (jb_Reader_readExports_18 fu n b1 b2 u) := by
  intro n
  induction n with
  | zero => intros; exact yf_none
  | succ n ih =>
    intro b1 b2 u
    have hu : yf_fr [14, 17] [] [24, 25, 26] [7] u u := yf_refl
    unfold jb_Reader_readExports_18
    refine yf_let ?_
    repeat' with_reducible first
      | exact yf_none
      | exact yf_some (by assumption)
      | refine yf_ite ?_ ?_
      | refine yf_letS (yf_A (by assumption) (by decide)) (fun _ _ => ?_)
      | refine yf_letS (yf_B (by assumption) (by decide)) (fun _ _ => ?_)
      | refine yf_try ?_ (fun _ _ _ => ?_)
      | exact yf_call (by assumption) (yf_fm_Reader_passBytes__h54_39) (by decide)
      | exact yf_call (by assumption) (yf_fm_Reader_readByte) (by decide)
      | exact yf_call (by assumption) (yf_fm_Reader_readNumber) (by decide)
      | exact yf_call (by assumption) (ih ..) (by decide)
      | refine yf_letV (fun _ => ?_)
theorem yf_fm_Reader_readExports {fu : Nat} {u : xk_St} : yf_F [14, 17] [] [24, 25, 26] [7] u (fm_Reader_readExports fu u) := by
  have hu : yf_fr [14, 17] [] [24, 25, 26] [7] u u := yf_refl
  unfold fm_Reader_readExports
  repeat' with_reducible first
    | exact yf_none
    | exact yf_some (by assumption)
    | refine yf_ite ?_ ?_
    | refine yf_letS (yf_I (by assumption) (by decide)) (fun _ _ => ?_)
    | refine yf_try ?_ (fun _ _ _ => ?_)
    | exact yf_call (by assumption) (yf_fm_Reader_readNumber) (by decide)
    | exact yf_call (by assumption) (yf_jb_Reader_readExports_18) (by decide)
    | refine yf_letV (fun _ => ?_)
theorem yf_fm_Code_addNumber {x0 : Int32} {u : xk_St} : yf_F [9] [] [11] [] u (fm_Code_addNumber x0 u) := by
  have hu : yf_fr [9] [] [11] [] u u := yf_refl
  unfold fm_Code_addNumber
  repeat' with_reducible first
    | exact yf_none
    | exact yf_some (by assumption)
    | refine yf_ite ?_ ?_
    | refine yf_letS (yf_I (by assumption) (by decide)) (fun _ _ => ?_)
    | refine yf_letS (yf_A (by assumption) (by decide)) (fun _ _ => ?_)
    | refine yf_letV (fun _ => ?_)
theorem yf_jb_Reader_readNumbers_7 {fu : Nat} : ∀ {n : Nat} {b1 : Int32} {b2 : Int32} {u : xk_St}, yf_F [9, 17] [] [11] [] u (jb_Reader_readNumbers_7 fu n b1 b2 u) := by
  intro n
  induction n with
  | zero => intros; exact yf_none
  | succ n ih =>
    intro b1 b2 u
    have hu : yf_fr [9, 17] [] [11] [] u u := yf_refl
    unfold jb_Reader_readNumbers_7
    refine yf_let ?_
    repeat' with_reducible first
      | exact yf_none
      | exact yf_some (by assumption)
      | refine yf_ite ?_ ?_
      | refine yf_seq ?_ (fun _ _ _ => ?_)
      | refine yf_try ?_ (fun _ _ _ => ?_)
      | exact yf_call (by assumption) (yf_fm_Reader_readNumber) (by decide)
      | exact yf_call (by assumption) (yf_fm_Code_addNumber) (by decide)
      | exact yf_call (by assumption) (ih ..) (by decide)
      | refine yf_letV (fun _ => ?_)
theorem yf_fm_Reader_readNumbers {fu : Nat} {u : xk_St} : yf_F [9, 17] [] [11] [] u (fm_Reader_readNumbers fu u) := by
  have hu : yf_fr [9, 17] [] [11] [] u u := yf_refl
  unfold fm_Reader_readNumbers
  repeat' with_reducible first
    | exact yf_none
    | exact yf_some (by assumption)
    | refine yf_ite ?_ ?_
    | refine yf_try ?_ (fun _ _ _ => ?_)
    | exact yf_call (by assumption) (yf_fm_Reader_readNumber) (by decide)
    | exact yf_call (by assumption) (yf_jb_Reader_readNumbers_7) (by decide)
theorem yf_jb_Reader_readElements_20 {fu : Nat} : ∀ {n : Nat} {b2 : Int32} {b3 : Int32} {u : xk_St}, yf_F [9, 15, 17] [] [11, 28, 29] [8] u (jb_Reader_readElements_20 fu n b2 b3 u) := by
  intro n
  induction n with
  | zero => intros; exact yf_none
  | succ n ih =>
    intro b2 b3 u
    have hu : yf_fr [9, 15, 17] [] [11, 28, 29] [8] u u := yf_refl
    unfold jb_Reader_readElements_20
    refine yf_let ?_
    repeat' with_reducible first
      | exact yf_none
      | exact yf_some (by assumption)
      | refine yf_ite ?_ ?_
      | refine yf_letS (yf_A (by assumption) (by decide)) (fun _ _ => ?_)
      | refine yf_letS (yf_B (by assumption) (by decide)) (fun _ _ => ?_)
      | refine yf_try ?_ (fun _ _ _ => ?_)
      | exact yf_call (by assumption) (yf_fm_Reader_readPlace) (by decide)
      | exact yf_call (by assumption) (yf_fm_Reader_readNumbers) (by decide)
      | exact yf_call (by assumption) (ih ..) (by decide)
      | refine yf_letV (fun _ => ?_)
theorem yf_fm_Reader_readElements {fu : Nat} {u : xk_St} : yf_F [9, 15, 17] [] [11, 28, 29] [8] u (fm_Reader_readElements fu u) := by
  have hu : yf_fr [9, 15, 17] [] [11, 28, 29] [8] u u := yf_refl
  unfold fm_Reader_readElements
  repeat' with_reducible first
    | exact yf_none
    | exact yf_some (by assumption)
    | refine yf_ite ?_ ?_
    | refine yf_letS (yf_I (by assumption) (by decide)) (fun _ _ => ?_)
    | refine yf_try ?_ (fun _ _ _ => ?_)
    | exact yf_call (by assumption) (yf_fm_Reader_readNumber) (by decide)
    | exact yf_call (by assumption) (yf_jb_Reader_readElements_20) (by decide)
    | refine yf_letV (fun _ => ?_)
theorem yf_fm_Code_add {x0 : Int32} {x1 : Int32} {x2 : Int64} {u : xk_St} : yf_F [8] [] [7, 8] [2] u (fm_Code_add x0 x1 x2 u) := by
  have hu : yf_fr [8] [] [7, 8] [2] u u := yf_refl
  unfold fm_Code_add
  repeat' with_reducible first
    | exact yf_none
    | exact yf_some (by assumption)
    | refine yf_ite ?_ ?_
    | refine yf_letS (yf_I (by assumption) (by decide)) (fun _ _ => ?_)
    | refine yf_letS (yf_A (by assumption) (by decide)) (fun _ _ => ?_)
    | refine yf_letS (yf_B (by assumption) (by decide)) (fun _ _ => ?_)
    | refine yf_letV (fun _ => ?_)
theorem yf_fm_Code_opened {x0 : Int32} {u : xk_St} : yf_F [] [] [9] [] u (fm_Code_opened x0 u) := by
  have hu : yf_fr [] [] [9] [] u u := yf_refl
  unfold fm_Code_opened
  repeat' with_reducible first
    | exact yf_none
    | exact yf_some (by assumption)
    | refine yf_ite ?_ ?_
    | refine yf_letS (yf_A (by assumption) (by decide)) (fun _ _ => ?_)
    | refine yf_letV (fun _ => ?_)
theorem yf_jb_Reader_readLocals_7 {fu : Nat} : ∀ {n : Nat} {b1 : Int32} {b2 : Int32} {u : xk_St}, yf_F [8, 17] [] [7, 8] [2] u (jb_Reader_readLocals_7 fu n b1 b2 u) := by
  intro n
  induction n with
  | zero => intros; exact yf_none
  | succ n ih =>
    intro b1 b2 u
    have hu : yf_fr [8, 17] [] [7, 8] [2] u u := yf_refl
    unfold jb_Reader_readLocals_7
    refine yf_let ?_
    repeat' with_reducible first
      | exact yf_none
      | exact yf_some (by assumption)
      | refine yf_ite ?_ ?_
      | refine yf_seq ?_ (fun _ _ _ => ?_)
      | refine yf_try ?_ (fun _ _ _ => ?_)
      | exact yf_call (by assumption) (yf_fm_Reader_readNumber) (by decide)
      | exact yf_call (by assumption) (yf_fm_Reader_readValueType) (by decide)
      | exact yf_call (by assumption) (yf_fm_Code_add) (by decide)
      | exact yf_call (by assumption) (ih ..) (by decide)
      | refine yf_letV (fun _ => ?_)
theorem yf_fm_Reader_readLocals {fu : Nat} {u : xk_St} : yf_F [8, 17] [] [7, 8] [2] u (fm_Reader_readLocals fu u) := by
  have hu : yf_fr [8, 17] [] [7, 8] [2] u u := yf_refl
  unfold fm_Reader_readLocals
  repeat' with_reducible first
    | exact yf_none
    | exact yf_some (by assumption)
    | refine yf_ite ?_ ?_
    | refine yf_try ?_ (fun _ _ _ => ?_)
    | exact yf_call (by assumption) (yf_fm_Reader_readNumber) (by decide)
    | exact yf_call (by assumption) (yf_jb_Reader_readLocals_7) (by decide)
theorem yf_jb_Reader_readBlockType_84 {fu : Nat} {u : xk_St} : yf_F [17] [] [] [] u (jb_Reader_readBlockType_84 fu u) := by
  have hu : yf_fr [17] [] [] [] u u := yf_refl
  unfold jb_Reader_readBlockType_84
  repeat' with_reducible first
    | exact yf_none
    | exact yf_some (by assumption)
    | refine yf_ite ?_ ?_
    | refine yf_try ?_ (fun _ _ _ => ?_)
    | exact yf_call (by assumption) (yf_fm_Reader_readValueType) (by decide)
theorem yf_fm_Reader_readBlockType {fu : Nat} {u : xk_St} : yf_F [17] [] [] [] u (fm_Reader_readBlockType fu u) := by
  have hu : yf_fr [17] [] [] [] u u := yf_refl
  unfold fm_Reader_readBlockType
  repeat' with_reducible first
    | exact yf_none
    | exact yf_some (by assumption)
    | refine yf_ite ?_ ?_
    | refine yf_letS (yf_I (by assumption) (by decide)) (fun _ _ => ?_)
    | refine yf_try ?_ (fun _ _ _ => ?_)
    | exact yf_call (by assumption) (yf_fm_Reader_peekByte) (by decide)
    | exact yf_call (by assumption) (yf_jb_Reader_readBlockType_84) (by decide)
    | exact yf_call (by assumption) (yf_fm_Reader_readSigned) (by decide)
    | refine yf_letV (fun _ => ?_)
theorem yf_fm_Code_turned {x0 : Int32} {u : xk_St} : yf_F [] [] [9] [] u (fm_Code_turned x0 u) := by
  have hu : yf_fr [] [] [9] [] u u := yf_refl
  unfold fm_Code_turned
  repeat' with_reducible first
    | exact yf_none
    | exact yf_some (by assumption)
    | refine yf_ite ?_ ?_
    | refine yf_letS (yf_A (by assumption) (by decide)) (fun _ _ => ?_)
    | refine yf_letV (fun _ => ?_)
theorem yf_fm_Code_closed {x0 : Int32} {u : xk_St} : yf_F [] [] [9] [] u (fm_Code_closed x0 u) := by
  have hu : yf_fr [] [] [9] [] u u := yf_refl
  unfold fm_Code_closed
  repeat' with_reducible first
    | exact yf_none
    | exact yf_some (by assumption)
    | refine yf_ite ?_ ?_
    | refine yf_letS (yf_A (by assumption) (by decide)) (fun _ _ => ?_)
    | refine yf_letV (fun _ => ?_)
theorem yf_fm_Reader_readWays {fu : Nat} {x0 : Int32} {u : xk_St} : yf_F [8, 9, 17] [] [7, 8, 11] [2] u (fm_Reader_readWays fu x0 u) := by
  have hu : yf_fr [8, 9, 17] [] [7, 8, 11] [2] u u := yf_refl
  unfold fm_Reader_readWays
  repeat' with_reducible first
    | exact yf_none
    | exact yf_some (by assumption)
    | refine yf_ite ?_ ?_
    | refine yf_seq ?_ (fun _ _ _ => ?_)
    | refine yf_try ?_ (fun _ _ _ => ?_)
    | exact yf_call (by assumption) (yf_fm_Reader_readNumbers) (by decide)
    | exact yf_call (by assumption) (yf_fm_Reader_readNumber) (by decide)
    | exact yf_call (by assumption) (yf_fm_Code_addNumber) (by decide)
    | exact yf_call (by assumption) (yf_fm_Code_add) (by decide)
    | refine yf_letV (fun _ => ?_)
theorem yf_jb_Reader_readInstruction_365 {fu : Nat} {b1 : Int32} {s0 : Int32} {u : xk_St} : yf_F [8, 9, 17] [] [7, 8, 9, 11] [2] u (jb_Reader_readInstruction_365 fu b1 s0 u) := by
  have hu : yf_fr [8, 9, 17] [] [7, 8, 9, 11] [2] u u := yf_refl
  unfold jb_Reader_readInstruction_365
  repeat' with_reducible first
    | exact yf_none
    | exact yf_some (by assumption)
    | refine yf_ite ?_ ?_
    | refine yf_seq ?_ (fun _ _ _ => ?_)
    | exact yf_call (by assumption) (yf_fm_Code_add) (by decide)
    | exact yf_call (by assumption) (yf_fm_Code_closed) (by decide)
