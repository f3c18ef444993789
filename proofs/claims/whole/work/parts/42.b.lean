theorem yf_fm_Checker_need {x0 : Int32} {u : xk_St} : yf_F [] [] [] [] u (fm_Checker_need x0 u) := by
  have hu : yf_fr [] [] [] [] u u := yf_refl
  unfold fm_Checker_need
  repeat' with_reducible first
    | exact yf_none
    | exact yf_some (by assumption)
    | refine yf_ite ?_ ?_
theorem yf_fm_Types_target {x0 : Int32} {u : xk_St} : yf_F [] [] [] [] u (fm_Types_target x0 u) := by
  have hu : yf_fr [] [] [] [] u u := yf_refl
  unfold fm_Types_target
  repeat' with_reducible first
    | exact yf_none
    | exact yf_some (by assumption)
    | refine yf_ite ?_ ?_
theorem yf_fm_Types_orNull {x0 : Int32} {u : xk_St} : yf_F [] [] [] [] u (fm_Types_orNull x0 u) := by
  have hu : yf_fr [] [] [] [] u u := yf_refl
  unfold fm_Types_orNull
  repeat' with_reducible first
    | exact yf_none
    | exact yf_some (by assumption)
    | refine yf_ite ?_ ?_
    | refine yf_seq ?_ (fun _ _ _ => ?_)
    | exact yf_call (by assumption) (yf_fm_Types_isReference) (by decide)
theorem yf_jb_Types_alikeWithin_30 {b1 : Int32} {b3 : Int32} {u : xk_St} : yf_F [] [] [] [] u (jb_Types_alikeWithin_30 b1 b3 u) := by
  have hu : yf_fr [] [] [] [] u u := yf_refl
  unfold jb_Types_alikeWithin_30
  repeat' with_reducible first
    | exact yf_none
    | exact yf_some (by assumption)
    | refine yf_ite ?_ ?_
theorem yf_jb_Types_alikeWithin_119 {u : xk_St} : yf_F [] [] [] [] u (jb_Types_alikeWithin_119 u) := by
  have hu : yf_fr [] [] [] [] u u := yf_refl
  unfold jb_Types_alikeWithin_119
  repeat' with_reducible first
    | exact yf_none
    | exact yf_some (by assumption)
    | refine yf_ite ?_ ?_
theorem yf_jb_Types_alikeWithin_91 {b2 : Int32} {b5 : Int32} {b6 : Int32} {s0 : Int32} {s1 : Int32} {u : xk_St} : yf_F [] [] [] [] u (jb_Types_alikeWithin_91 b2 b5 b6 s0 s1 u) := by
  have hu : yf_fr [] [] [] [] u u := yf_refl
  unfold jb_Types_alikeWithin_91
  repeat' with_reducible first
    | exact yf_none
    | exact yf_some (by assumption)
    | refine yf_ite ?_ ?_
    | exact yf_call (by assumption) (yf_jb_Types_alikeWithin_119) (by decide)
theorem yf_jb_Types_alikeWithin_79 {b2 : Int32} {b4 : Int32} {b5 : Int32} {b6 : Int32} {s0 : Int32} {u : xk_St} : yf_F [] [] [] [] u (jb_Types_alikeWithin_79 b2 b4 b5 b6 s0 u) := by
  have hu : yf_fr [] [] [] [] u u := yf_refl
  unfold jb_Types_alikeWithin_79
  repeat' with_reducible first
    | exact yf_none
    | exact yf_some (by assumption)
    | refine yf_ite ?_ ?_
    | exact yf_call (by assumption) (yf_jb_Types_alikeWithin_91) (by decide)
theorem yf_fm_Types_alikeWithin {x0 : Int32} {x1 : Int32} {x2 : Int32} {x3 : Int32} {u : xk_St} : yf_F [] [] [] [] u (fm_Types_alikeWithin x0 x1 x2 x3 u) := by
  have hu : yf_fr [] [] [] [] u u := yf_refl
  unfold fm_Types_alikeWithin
  repeat' with_reducible first
    | exact yf_none
    | exact yf_some (by assumption)
    | refine yf_ite ?_ ?_
    | refine yf_seq ?_ (fun _ _ _ => ?_)
    | exact yf_call (by assumption) (yf_fm_Types_isReference) (by decide)
    | exact yf_call (by assumption) (yf_jb_Types_alikeWithin_30) (by decide)
    | exact yf_call (by assumption) (yf_fm_Types_target) (by decide)
    | exact yf_call (by assumption) (yf_fm_Types_orNull) (by decide)
    | exact yf_call (by assumption) (yf_jb_Types_alikeWithin_79) (by decide)
    | refine yf_letV (fun _ => ?_)
theorem yf_jb_Types_alike_140 {fu : Nat} : ∀ {n : Nat} {b1 : Int32} {b2 : Int32} {b3 : Int32} {b4 : Int32} {b5 : Int32} {b6 : Int32} {u : xk_St}, yf_F [] [] [] [] u (jb_Types_alike_140 fu n b1 b2 b3 b4 b5 b6 u) := by
  intro n
  induction n with
  | zero => intros; exact yf_none
  | succ n ih =>
    intro b1 b2 b3 b4 b5 b6 u
    have hu : yf_fr [] [] [] [] u u := yf_refl
    unfold jb_Types_alike_140
    refine yf_let ?_
    repeat' with_reducible first
      | exact yf_none
      | exact yf_some (by assumption)
      | refine yf_ite ?_ ?_
      | refine yf_seq ?_ (fun _ _ _ => ?_)
      | exact yf_call (by assumption) (yf_fm_Types_alikeWithin) (by decide)
      | exact yf_call (by assumption) (ih ..) (by decide)
      | refine yf_letV (fun _ => ?_)
theorem yf_jb_Types_alike_89 {fu : Nat} : ∀ {n : Nat} {b1 : Int32} {b2 : Int32} {b3 : Int32} {b4 : Int32} {b5 : Int32} {b6 : Int32} {u : xk_St}, yf_F [] [] [] [] u (jb_Types_alike_89 fu n b1 b2 b3 b4 b5 b6 u) := by
  intro n
  induction n with
  | zero => intros; exact yf_none
  | succ n ih =>
    intro b1 b2 b3 b4 b5 b6 u
    have hu : yf_fr [] [] [] [] u u := yf_refl
    unfold jb_Types_alike_89
    refine yf_let ?_
    repeat' with_reducible first
      | exact yf_none
      | exact yf_some (by assumption)
      | refine yf_ite ?_ ?_
      | refine yf_seq ?_ (fun _ _ _ => ?_)
      | exact yf_call (by assumption) (yf_jb_Types_alike_140) (by decide)
      | exact yf_call (by assumption) (yf_fm_Types_alikeWithin) (by decide)
      | exact yf_call (by assumption) (ih ..) (by decide)
      | refine yf_letV (fun _ => ?_)
theorem yf_jb_Types_alike_84 {fu : Nat} {b1 : Int32} {b2 : Int32} {b3 : Int32} {b4 : Int32} {s0 : Int32} {u : xk_St} : yf_F [] [] [] [] u (jb_Types_alike_84 fu b1 b2 b3 b4 s0 u) := by
  have hu : yf_fr [] [] [] [] u u := yf_refl
  unfold jb_Types_alike_84
  repeat' with_reducible first
    | exact yf_none
    | exact yf_some (by assumption)
    | refine yf_ite ?_ ?_
    | exact yf_call (by assumption) (yf_jb_Types_alike_89) (by decide)
theorem yf_fm_Types_alike {fu : Nat} {x0 : Int32} {x1 : Int32} {u : xk_St} : yf_F [] [] [] [] u (fm_Types_alike fu x0 x1 u) := by
  have hu : yf_fr [] [] [] [] u u := yf_refl
  unfold fm_Types_alike
  repeat' with_reducible first
    | exact yf_none
    | exact yf_some (by assumption)
    | refine yf_ite ?_ ?_
    | exact yf_call (by assumption) (yf_jb_Types_alike_84) (by decide)
    | refine yf_letV (fun _ => ?_)
theorem yf_jb_Types_group_59 {fu : Nat} {k2 : Int32 → xk_St → Option (Unit × xk_St)} {b1 : Int32} {u : xk_St} (hk2 : ∀ c0 v, yf_F [] [] [5] [] v (k2 c0 v)) : yf_F [] [] [5] [] u (jb_Types_group_59 fu k2 b1 u) := by
  have hu : yf_fr [] [] [5] [] u u := yf_refl
  unfold jb_Types_group_59
  repeat' with_reducible first
    | exact yf_none
    | exact yf_some (by assumption)
    | refine yf_ite ?_ ?_
    | exact yf_call (by assumption) (hk2 ..) (by decide)
    | refine yf_letV (fun _ => ?_)
theorem yf_jb_Types_group_53 {fu : Nat} {k2 : Int32 → xk_St → Option (Unit × xk_St)} {k19 : Int32 → Int32 → xk_St → Option (Unit × xk_St)} {b1 : Int32} {b2 : Int32} {u : xk_St} (hk2 : ∀ c0 v, yf_F [] [] [5] [] v (k2 c0 v)) (hk19 : ∀ c0 c1 v, yf_F [] [] [5] [] v (k19 c0 c1 v)) : yf_F [] [] [5] [] u (jb_Types_group_53 fu k2 k19 b1 b2 u) := by
  have hu : yf_fr [] [] [5] [] u u := yf_refl
  unfold jb_Types_group_53
  repeat' with_reducible first
    | exact yf_none
    | exact yf_some (by assumption)
    | refine yf_ite ?_ ?_
    | exact yf_call (by assumption) (hk2 ..) (by decide)
    | exact yf_call (by assumption) (hk19 ..) (by decide)
    | refine yf_letV (fun _ => ?_)
theorem yf_jb_Types_group_19 {fu : Nat} {k2 : Int32 → xk_St → Option (Unit × xk_St)} (hk2 : ∀ c0 v, yf_F [] [] [5] [] v (k2 c0 v)) : ∀ {n : Nat} {b1 : Int32} {b2 : Int32} {u : xk_St}, yf_F [] [] [5] [] u (jb_Types_group_19 fu k2 n b1 b2 u) := by
  intro n
  induction n with
  | zero => intros; exact yf_none
  | succ n ih =>
    intro b1 b2 u
    have hu : yf_fr [] [] [5] [] u u := yf_refl
    unfold jb_Types_group_19
    refine yf_let ?_
    repeat' with_reducible first
      | exact yf_none
      | exact yf_some (by assumption)
      | refine yf_ite ?_ ?_
      | refine yf_letS (yf_A (by assumption) (by decide)) (fun _ _ => ?_)
      | refine yf_seq ?_ (fun _ _ _ => ?_)
      | exact yf_call (by assumption) (yf_jb_Types_group_59 (by intros; first | apply hk2 | apply ih)) (by decide)
      | exact yf_call (by assumption) (yf_fm_Types_alike) (by decide)
      | exact yf_call (by assumption) (yf_jb_Types_group_53 (by intros; first | apply hk2 | apply ih) (by intros; first | apply hk2 | apply ih)) (by decide)
      | exact yf_call (by assumption) (hk2 ..) (by decide)
      | exact yf_call (by assumption) (ih ..) (by decide)
      | refine yf_letV (fun _ => ?_)
theorem yf_jb_Types_group_2 {fu : Nat} : ∀ {n : Nat} {b1 : Int32} {u : xk_St}, yf_F [] [] [5] [] u (jb_Types_group_2 fu n b1 u) := by
  intro n
  induction n with
  | zero => intros; exact yf_none
  | succ n ih =>
    intro b1 u
    have hu : yf_fr [] [] [5] [] u u := yf_refl
    unfold jb_Types_group_2
    refine yf_let ?_
    repeat' with_reducible first
      | exact yf_none
      | exact yf_some (by assumption)
      | refine yf_ite ?_ ?_
      | refine yf_letS (yf_A (by assumption) (by decide)) (fun _ _ => ?_)
      | exact yf_call (by assumption) (yf_jb_Types_group_19 (by intros; first | apply ih)) (by decide)
      | exact yf_call (by assumption) (ih ..) (by decide)
      | refine yf_letV (fun _ => ?_)
theorem yf_fm_Types_group {fu : Nat} {u : xk_St} : yf_F [] [] [5] [] u (fm_Types_group fu u) := by
  have hu : yf_fr [] [] [5] [] u u := yf_refl
  unfold fm_Types_group
  repeat' with_reducible first
    | exact yf_none
    | exact yf_some (by assumption)
    | refine yf_ite ?_ ?_
    | exact yf_call (by assumption) (yf_jb_Types_group_2) (by decide)
theorem yf_fm_Types_outcome {x0 : Int32} {x1 : Int32} {u : xk_St} : yf_F [] [] [] [] u (fm_Types_outcome x0 x1 u) := by
  have hu : yf_fr [] [] [] [] u u := yf_refl
  unfold fm_Types_outcome
  repeat' with_reducible first
    | exact yf_none
    | exact yf_some (by assumption)
    | refine yf_ite ?_ ?_
theorem yf_jb_Types_knowsTarget_28 {u : xk_St} : yf_F [] [] [] [] u (jb_Types_knowsTarget_28 u) := by
  have hu : yf_fr [] [] [] [] u u := yf_refl
  unfold jb_Types_knowsTarget_28
  repeat' with_reducible first
    | exact yf_none
    | exact yf_some (by assumption)
    | refine yf_ite ?_ ?_
theorem yf_fm_Types_knowsTarget {x0 : Int32} {u : xk_St} : yf_F [] [] [] [] u (fm_Types_knowsTarget x0 u) := by
  have hu : yf_fr [] [] [] [] u u := yf_refl
  unfold fm_Types_knowsTarget
  repeat' with_reducible first
    | exact yf_none
    | exact yf_some (by assumption)
    | refine yf_ite ?_ ?_
    | exact yf_call (by assumption) (yf_jb_Types_knowsTarget_28) (by decide)
theorem yf_jb_Types_knows_18 {u : xk_St} : yf_F [] [] [] [] u (jb_Types_knows_18 u) := by
  have hu : yf_fr [] [] [] [] u u := yf_refl
  unfold jb_Types_knows_18
  repeat' with_reducible first
    | exact yf_none
    | exact yf_some (by assumption)
    | refine yf_ite ?_ ?_
theorem yf_fm_Types_knows {x0 : Int32} {u : xk_St} : yf_F [] [] [] [] u (fm_Types_knows x0 u) := by
  have hu : yf_fr [] [] [] [] u u := yf_refl
  unfold fm_Types_knows
  repeat' with_reducible first
    | exact yf_none
    | exact yf_some (by assumption)
    | refine yf_ite ?_ ?_
    | refine yf_seq ?_ (fun _ _ _ => ?_)
    | exact yf_call (by assumption) (yf_fm_Types_isReference) (by decide)
    | exact yf_call (by assumption) (yf_jb_Types_knows_18) (by decide)
    | exact yf_call (by assumption) (yf_fm_Types_target) (by decide)
    | exact yf_call (by assumption) (yf_fm_Types_knowsTarget) (by decide)
theorem yf_jb_Checker_needWithin_33 {s0 : Int32} {u : xk_St} : yf_F [] [] [] [] u (jb_Checker_needWithin_33 s0 u) := by
  have hu : yf_fr [] [] [] [] u u := yf_refl
  unfold jb_Checker_needWithin_33
  repeat' with_reducible first
    | exact yf_none
    | exact yf_some (by assumption)
    | refine yf_ite ?_ ?_
    | refine yf_try ?_ (fun _ _ _ => ?_)
    | exact yf_call (by assumption) (yf_fm_Checker_need) (by decide)
theorem yf_jb_Checker_needWithin_28 {u : xk_St} : yf_F [] [] [] [] u (jb_Checker_needWithin_28 u) := by
  have hu : yf_fr [] [] [] [] u u := yf_refl
  unfold jb_Checker_needWithin_28
  repeat' with_reducible first
    | exact yf_none
    | exact yf_some (by assumption)
    | refine yf_ite ?_ ?_
    | exact yf_call (by assumption) (yf_jb_Checker_needWithin_33) (by decide)
theorem yf_fm_Checker_needWithin {x0 : Int32} {x1 : Int32} {u : xk_St} : yf_F [] [] [] [] u (fm_Checker_needWithin x0 x1 u) := by
  have hu : yf_fr [] [] [] [] u u := yf_refl
  unfold fm_Checker_needWithin
  repeat' with_reducible first
    | exact yf_none
    | exact yf_some (by assumption)
    | refine yf_ite ?_ ?_
    | refine yf_seq ?_ (fun _ _ _ => ?_)
    | refine yf_try ?_ (fun _ _ _ => ?_)
    | exact yf_call (by assumption) (yf_fm_Types_knows) (by decide)
    | exact yf_call (by assumption) (yf_fm_Checker_need) (by decide)
    | exact yf_call (by assumption) (yf_fm_Types_isReference) (by decide)
    | exact yf_call (by assumption) (yf_jb_Checker_needWithin_28) (by decide)
    | exact yf_call (by assumption) (yf_fm_Types_target) (by decide)
    | exact yf_call (by assumption) (yf_jb_Checker_needWithin_33) (by decide)
theorem yf_jb_Checker_checkTypes_86 {fu : Nat} {k2 : Int32 → xk_St → Option ((Unit ⊕ Nat) × xk_St)} (hk2 : ∀ c0 v, yf_F [] [] [5] [] v (k2 c0 v)) : ∀ {n : Nat} {b1 : Int32} {b2 : Int32} {u : xk_St}, yf_F [] [] [5] [] u (jb_Checker_checkTypes_86 fu k2 n b1 b2 u) := by
  intro n
  induction n with
  | zero => intros; exact yf_none
  | succ n ih =>
    intro b1 b2 u
    have hu : yf_fr [] [] [5] [] u u := yf_refl
    unfold jb_Checker_checkTypes_86
    refine yf_let ?_
    repeat' with_reducible first
      | exact yf_none
      | exact yf_some (by assumption)
      | refine yf_ite ?_ ?_
      | refine yf_seq ?_ (fun _ _ _ => ?_)
      | refine yf_try ?_ (fun _ _ _ => ?_)
      | exact yf_call (by assumption) (yf_fm_Types_outcome) (by decide)
      | exact yf_call (by assumption) (yf_fm_Checker_needWithin) (by decide)
      | exact yf_call (by assumption) (hk2 ..) (by decide)
      | exact yf_call (by assumption) (ih ..) (by decide)
      | refine yf_letV (fun _ => ?_)
theorem yf_jb_Checker_checkTypes_51 {fu : Nat} {k2 : Int32 → xk_St → Option ((Unit ⊕ Nat) × xk_St)} (hk2 : ∀ c0 v, yf_F [] [] [5] [] v (k2 c0 v)) : ∀ {n : Nat} {b1 : Int32} {b2 : Int32} {u : xk_St}, yf_F [] [] [5] [] u (jb_Checker_checkTypes_51 fu k2 n b1 b2 u) := by
  intro n
  induction n with
  | zero => intros; exact yf_none
  | succ n ih =>
    intro b1 b2 u
    have hu : yf_fr [] [] [5] [] u u := yf_refl
    unfold jb_Checker_checkTypes_51
    refine yf_let ?_
    repeat' with_reducible first
      | exact yf_none
      | exact yf_some (by assumption)
      | refine yf_ite ?_ ?_
      | refine yf_seq ?_ (fun _ _ _ => ?_)
      | refine yf_try ?_ (fun _ _ _ => ?_)
      | exact yf_call (by assumption) (yf_jb_Checker_checkTypes_86 (by intros; first | apply hk2 | apply ih)) (by decide)
      | exact yf_call (by assumption) (yf_fm_Types_member) (by decide)
      | exact yf_call (by assumption) (yf_fm_Checker_needWithin) (by decide)
      | exact yf_call (by assumption) (hk2 ..) (by decide)
      | exact yf_call (by assumption) (ih ..) (by decide)
      | refine yf_letV (fun _ => ?_)
theorem yf_jb_Checker_checkTypes_46 {fu : Nat} {k2 : Int32 → xk_St → Option ((Unit ⊕ Nat) × xk_St)} {b1 : Int32} {s0 : Int32} {u : xk_St} (hk2 : ∀ c0 v, yf_F [] [] [5] [] v (k2 c0 v)) : yf_F [] [] [5] [] u (jb_Checker_checkTypes_46 fu k2 b1 s0 u) := by
  have hu : yf_fr [] [] [5] [] u u := yf_refl
  unfold jb_Checker_checkTypes_46
  repeat' with_reducible first
    | exact yf_none
    | exact yf_some (by assumption)
    | refine yf_ite ?_ ?_
    | refine yf_try ?_ (fun _ _ _ => ?_)
    | exact yf_call (by assumption) (yf_fm_Checker_need) (by decide)
    | exact yf_call (by assumption) (yf_jb_Checker_checkTypes_51 (by intros; first | apply hk2)) (by decide)
    | exact yf_call (by assumption) (hk2 ..) (by decide)
theorem yf_jb_Checker_checkTypes_45 {fu : Nat} {k2 : Int32 → xk_St → Option ((Unit ⊕ Nat) × xk_St)} {b1 : Int32} {u : xk_St} (hk2 : ∀ c0 v, yf_F [] [] [5] [] v (k2 c0 v)) : yf_F [] [] [5] [] u (jb_Checker_checkTypes_45 fu k2 b1 u) := by
  have hu : yf_fr [] [] [5] [] u u := yf_refl
  unfold jb_Checker_checkTypes_45
  repeat' with_reducible first
    | exact yf_none
    | exact yf_some (by assumption)
    | refine yf_ite ?_ ?_
    | exact yf_call (by assumption) (yf_jb_Checker_checkTypes_46 (by intros; first | apply hk2)) (by decide)
    | exact yf_call (by assumption) (hk2 ..) (by decide)
theorem yf_jb_Checker_checkTypes_2 {fu : Nat} : ∀ {n : Nat} {b1 : Int32} {u : xk_St}, yf_F [] [] [5] [] u (jb_Checker_checkTypes_2 fu n b1 u) := by
  intro n
  induction n with
  | zero => intros; exact yf_none
  | succ n ih =>
    intro b1 u
    have hu : yf_fr [] [] [5] [] u u := yf_refl
    unfold jb_Checker_checkTypes_2
    refine yf_let ?_
    repeat' with_reducible first
      | exact yf_none
      | exact yf_some (by assumption)
      | refine yf_ite ?_ ?_
      | refine yf_seq ?_ (fun _ _ _ => ?_)
      | exact yf_call (by assumption) (yf_fm_Types_group) (by decide)
      | exact yf_call (by assumption) (yf_jb_Checker_checkTypes_45 (by intros; first | apply ih)) (by decide)
      | exact yf_call (by assumption) (yf_jb_Checker_checkTypes_46 (by intros; first | apply ih)) (by decide)
      | exact yf_call (by assumption) (ih ..) (by decide)
      | refine yf_letV (fun _ => ?_)
theorem yf_fm_Checker_checkTypes {fu : Nat} {u : xk_St} : yf_F [] [] [5] [] u (fm_Checker_checkTypes fu u) := by
  have hu : yf_fr [] [] [5] [] u u := yf_refl
  unfold fm_Checker_checkTypes
  repeat' with_reducible first
    | exact yf_none
    | exact yf_some (by assumption)
    | refine yf_ite ?_ ?_
    | exact yf_call (by assumption) (yf_jb_Checker_checkTypes_2) (by decide)
theorem yf_fm_Types_is {x0 : Int32} {x1 : Int32} {u : xk_St} : yf_F [] [] [] [] u (fm_Types_is x0 x1 u) := by
  have hu : yf_fr [] [] [] [] u u := yf_refl
  unfold fm_Types_is
  repeat' with_reducible first
    | exact yf_none
    | exact yf_some (by assumption)
    | refine yf_ite ?_ ?_
theorem yf_jb_Checker_checkFunctions_133 {fu : Nat} {s0 : Int32} {u : xk_St} : yf_F [] [] [] [] u (jb_Checker_checkFunctions_133 fu s0 u) := by
  have hu : yf_fr [] [] [] [] u u := yf_refl
  unfold jb_Checker_checkFunctions_133
  repeat' with_reducible first
    | exact yf_none
    | exact yf_some (by assumption)
    | refine yf_ite ?_ ?_
    | refine yf_try ?_ (fun _ _ _ => ?_)
    | exact yf_call (by assumption) (yf_fm_Checker_need) (by decide)
theorem yf_jb_Checker_checkFunctions_132 {fu : Nat} {u : xk_St} : yf_F [] [] [] [] u (jb_Checker_checkFunctions_132 fu u) := by
  have hu : yf_fr [] [] [] [] u u := yf_refl
  unfold jb_Checker_checkFunctions_132
  repeat' with_reducible first
    | exact yf_none
    | exact yf_some (by assumption)
    | refine yf_ite ?_ ?_
    | exact yf_call (by assumption) (yf_jb_Checker_checkFunctions_133) (by decide)
theorem yf_jb_Checker_checkFunctions_82 {fu : Nat} {s0 : Int32} {u : xk_St} : yf_F [] [] [] [] u (jb_Checker_checkFunctions_82 fu s0 u) := by
  have hu : yf_fr [] [] [] [] u u := yf_refl
  unfold jb_Checker_checkFunctions_82
  repeat' with_reducible first
    | exact yf_none
    | exact yf_some (by assumption)
    | refine yf_ite ?_ ?_
    | refine yf_try ?_ (fun _ _ _ => ?_)
    | exact yf_call (by assumption) (yf_fm_Checker_need) (by decide)
    | exact yf_call (by assumption) (yf_jb_Checker_checkFunctions_133) (by decide)
    | exact yf_call (by assumption) (yf_jb_Checker_checkFunctions_132) (by decide)
    | refine yf_letV (fun _ => ?_)
theorem yf_jb_Checker_checkFunctions_2 {fu : Nat} : ∀ {n : Nat} {b1 : Int32} {u : xk_St}, yf_F [] [] [] [] u (jb_Checker_checkFunctions_2 fu n b1 u) := by
  intro n
  induction n with
  | zero => intros; exact yf_none
  | succ n ih =>
    intro b1 u
    have hu : yf_fr [] [] [] [] u u := yf_refl
    unfold jb_Checker_checkFunctions_2
    refine yf_let ?_
    repeat' with_reducible first
      | exact yf_none
      | exact yf_some (by assumption)
      | refine yf_ite ?_ ?_
      | refine yf_seq ?_ (fun _ _ _ => ?_)
      | refine yf_try ?_ (fun _ _ _ => ?_)
      | exact yf_call (by assumption) (yf_jb_Checker_checkFunctions_82) (by decide)
      | exact yf_call (by assumption) (yf_fm_Types_is) (by decide)
      | exact yf_call (by assumption) (yf_fm_Checker_need) (by decide)
      | exact yf_call (by assumption) (ih ..) (by decide)
      | refine yf_letV (fun _ => ?_)
theorem yf_fm_Checker_checkFunctions {fu : Nat} {u : xk_St} : yf_F [] [] [] [] u (fm_Checker_checkFunctions fu u) := by
  have hu : yf_fr [] [] [] [] u u := yf_refl
  unfold fm_Checker_checkFunctions
  repeat' with_reducible first
    | exact yf_none
    | exact yf_some (by assumption)
    | refine yf_ite ?_ ?_
    | exact yf_call (by assumption) (yf_jb_Checker_checkFunctions_2) (by decide)
theorem yf_jb_Checker_checkLimits_53 {s0 : Int32} {u : xk_St} : yf_F [] [] [] [] u (jb_Checker_checkLimits_53 s0 u) := by
  have hu : yf_fr [] [] [] [] u u := yf_refl
  unfold jb_Checker_checkLimits_53
  repeat' with_reducible first
    | exact yf_none
    | exact yf_some (by assumption)
    | refine yf_ite ?_ ?_
    | refine yf_try ?_ (fun _ _ _ => ?_)
    | exact yf_call (by assumption) (yf_fm_Checker_need) (by decide)
theorem yf_jb_Checker_checkLimits_48 {u : xk_St} : yf_F [] [] [] [] u (jb_Checker_checkLimits_48 u) := by
  have hu : yf_fr [] [] [] [] u u := yf_refl
  unfold jb_Checker_checkLimits_48
  repeat' with_reducible first
    | exact yf_none
    | exact yf_some (by assumption)
    | refine yf_ite ?_ ?_
    | exact yf_call (by assumption) (yf_jb_Checker_checkLimits_53) (by decide)
theorem yf_jb_Checker_checkLimits_52 {u : xk_St} : yf_F [] [] [] [] u (jb_Checker_checkLimits_52 u) := by
  have hu : yf_fr [] [] [] [] u u := yf_refl
  unfold jb_Checker_checkLimits_52
  repeat' with_reducible first
    | exact yf_none
    | exact yf_some (by assumption)
    | refine yf_ite ?_ ?_
    | exact yf_call (by assumption) (yf_jb_Checker_checkLimits_53) (by decide)
theorem yf_jb_Checker_checkLimits_13 {b2 : Int32} {s0 : Int32} {u : xk_St} : yf_F [] [] [] [] u (jb_Checker_checkLimits_13 b2 s0 u) := by
  have hu : yf_fr [] [] [] [] u u := yf_refl
  unfold jb_Checker_checkLimits_13
  repeat' with_reducible first
    | exact yf_none
    | exact yf_some (by assumption)
    | refine yf_ite ?_ ?_
    | refine yf_try ?_ (fun _ _ _ => ?_)
    | exact yf_call (by assumption) (yf_fm_Checker_need) (by decide)
    | exact yf_call (by assumption) (yf_jb_Checker_checkLimits_48) (by decide)
    | exact yf_call (by assumption) (yf_jb_Checker_checkLimits_52) (by decide)
theorem yf_fm_Checker_checkLimits {x1 : Int32} {u : xk_St} : yf_F [] [] [] [] u (fm_Checker_checkLimits x1 u) := by
  have hu : yf_fr [] [] [] [] u u := yf_refl
  unfold fm_Checker_checkLimits
  repeat' with_reducible first
    | exact yf_none
    | exact yf_some (by assumption)
    | refine yf_ite ?_ ?_
    | exact yf_call (by assumption) (yf_jb_Checker_checkLimits_13) (by decide)
theorem yf_jb_Checker_checkLimits__h55_29_53 {s0 : Int32} {u : xk_St} : yf_F [] [] [] [] u (jb_Checker_checkLimits__h55_29_53 s0 u) := by
  have hu : yf_fr [] [] [] [] u u := yf_refl
  unfold jb_Checker_checkLimits__h55_29_53
  repeat' with_reducible first
    | exact yf_none
    | exact yf_some (by assumption)
    | refine yf_ite ?_ ?_
    | refine yf_try ?_ (fun _ _ _ => ?_)
    | exact yf_call (by assumption) (yf_fm_Checker_need) (by decide)
theorem yf_jb_Checker_checkLimits__h55_29_48 {u : xk_St} : yf_F [] [] [] [] u (jb_Checker_checkLimits__h55_29_48 u) := by
  have hu : yf_fr [] [] [] [] u u := yf_refl
  unfold jb_Checker_checkLimits__h55_29_48
  repeat' with_reducible first
    | exact yf_none
    | exact yf_some (by assumption)
    | refine yf_ite ?_ ?_
    | exact yf_call (by assumption) (yf_jb_Checker_checkLimits__h55_29_53) (by decide)
theorem yf_jb_Checker_checkLimits__h55_29_52 {u : xk_St} : yf_F [] [] [] [] u (jb_Checker_checkLimits__h55_29_52 u) := by
  have hu : yf_fr [] [] [] [] u u := yf_refl
  unfold jb_Checker_checkLimits__h55_29_52
  repeat' with_reducible first
    | exact yf_none
    | exact yf_some (by assumption)
    | refine yf_ite ?_ ?_
    | exact yf_call (by assumption) (yf_jb_Checker_checkLimits__h55_29_53) (by decide)
theorem yf_jb_Checker_checkLimits__h55_29_13 {b2 : Int32} {s0 : Int32} {u : xk_St} : yf_F [] [] [] [] u (jb_Checker_checkLimits__h55_29_13 b2 s0 u) := by
  have hu : yf_fr [] [] [] [] u u := yf_refl
  unfold jb_Checker_checkLimits__h55_29_13
  repeat' with_reducible first
    | exact yf_none
    | exact yf_some (by assumption)
    | refine yf_ite ?_ ?_
    | refine yf_try ?_ (fun _ _ _ => ?_)
    | exact yf_call (by assumption) (yf_fm_Checker_need) (by decide)
    | exact yf_call (by assumption) (yf_jb_Checker_checkLimits__h55_29_48) (by decide)
    | exact yf_call (by assumption) (yf_jb_Checker_checkLimits__h55_29_52) (by decide)
theorem yf_fm_Checker_checkLimits__h55_29 {x1 : Int32} {u : xk_St} : yf_F [] [] [] [] u (fm_Checker_checkLimits__h55_29 x1 u) := by
  have hu : yf_fr [] [] [] [] u u := yf_refl
  unfold fm_Checker_checkLimits__h55_29
  repeat' with_reducible first
    | exact yf_none
    | exact yf_some (by assumption)
    | refine yf_ite ?_ ?_
    | exact yf_call (by assumption) (yf_jb_Checker_checkLimits__h55_29_13) (by decide)
theorem yf_fm_Types_fits {x0 : Int32} {x1 : Int32} {u : xk_St} : yf_F [] [] [] [] u (fm_Types_fits x0 x1 u) := by
  have hu : yf_fr [] [] [] [] u u := yf_refl
  unfold fm_Types_fits
  repeat' with_reducible first
    | exact yf_none
    | exact yf_some (by assumption)
    | refine yf_ite ?_ ?_
    | refine yf_letV (fun _ => ?_)
theorem yf_jb_Checker_checkGlobals_55 {fu : Nat} {k10 : Int32 → xk_St → Option ((Unit ⊕ Nat) × xk_St)} {b2 : Int32} {s0 : Int32} {u : xk_St} (hk10 : ∀ c0 v, yf_F [] [] [] [] v (k10 c0 v)) : yf_F [] [] [] [] u (jb_Checker_checkGlobals_55 fu k10 b2 s0 u) := by
  have hu : yf_fr [] [] [] [] u u := yf_refl
  unfold jb_Checker_checkGlobals_55
  repeat' with_reducible first
    | exact yf_none
    | exact yf_some (by assumption)
    | refine yf_ite ?_ ?_
    | refine yf_seq ?_ (fun _ _ _ => ?_)
    | refine yf_try ?_ (fun _ _ _ => ?_)
    | exact yf_call (by assumption) (yf_fm_Checker_need) (by decide)
    | exact yf_call (by assumption) (yf_fm_Types_fits) (by decide)
    | exact yf_call (by assumption) (hk10 ..) (by decide)
    | refine yf_letV (fun _ => ?_)
theorem yf_jb_Checker_checkGlobals_54 {fu : Nat} {k10 : Int32 → xk_St → Option ((Unit ⊕ Nat) × xk_St)} {b2 : Int32} {u : xk_St} (hk10 : ∀ c0 v, yf_F [] [] [] [] v (k10 c0 v)) : yf_F [] [] [] [] u (jb_Checker_checkGlobals_54 fu k10 b2 u) := by
  have hu : yf_fr [] [] [] [] u u := yf_refl
  unfold jb_Checker_checkGlobals_54
  repeat' with_reducible first
    | exact yf_none
    | exact yf_some (by assumption)
    | refine yf_ite ?_ ?_
    | exact yf_call (by assumption) (yf_jb_Checker_checkGlobals_55 (by intros; first | apply hk10)) (by decide)
    | exact yf_call (by assumption) (hk10 ..) (by decide)
theorem yf_jb_Checker_checkGlobals_10 {fu : Nat} : ∀ {n : Nat} {b2 : Int32} {u : xk_St}, yf_F [] [] [] [] u (jb_Checker_checkGlobals_10 fu n b2 u) := by
  intro n
  induction n with
  | zero => intros; exact yf_none
  | succ n ih =>
    intro b2 u
    have hu : yf_fr [] [] [] [] u u := yf_refl
    unfold jb_Checker_checkGlobals_10
    refine yf_let ?_
    repeat' with_reducible first
      | exact yf_none
      | exact yf_some (by assumption)
      | refine yf_ite ?_ ?_
      | refine yf_seq ?_ (fun _ _ _ => ?_)
      | exact yf_call (by assumption) (yf_fm_Types_knows) (by decide)
      | exact yf_call (by assumption) (yf_jb_Checker_checkGlobals_54 (by intros; first | apply ih)) (by decide)
      | exact yf_call (by assumption) (yf_jb_Checker_checkGlobals_55 (by intros; first | apply ih)) (by decide)
      | exact yf_call (by assumption) (ih ..) (by decide)
      | refine yf_letV (fun _ => ?_)
theorem yf_fm_Checker_checkGlobals {fu : Nat} {u : xk_St} : yf_F [] [] [] [] u (fm_Checker_checkGlobals fu u) := by
  have hu : yf_fr [] [] [] [] u u := yf_refl
  unfold fm_Checker_checkGlobals
  repeat' with_reducible first
    | exact yf_none
    | exact yf_some (by assumption)
    | refine yf_ite ?_ ?_
    | exact yf_call (by assumption) (yf_jb_Checker_checkGlobals_10) (by decide)
theorem yf_jb_Checker_sameName_30 {fu : Nat} : ∀ {n : Nat} {b1 : Int32} {b3 : Int32} {b4 : Int32} {b5 : Int32} {u : xk_St}, yf_F [] [] [] [] u (jb_Checker_sameName_30 fu n b1 b3 b4 b5 u) := by
  intro n
  induction n with
  | zero => intros; exact yf_none
  | succ n ih =>
    intro b1 b3 b4 b5 u
    have hu : yf_fr [] [] [] [] u u := yf_refl
    unfold jb_Checker_sameName_30
    refine yf_let ?_
    repeat' with_reducible first
      | exact yf_none
      | exact yf_some (by assumption)
      | refine yf_ite ?_ ?_
      | exact yf_call (by assumption) (ih ..) (by decide)
      | refine yf_letV (fun _ => ?_)
theorem yf_fm_Checker_sameName {fu : Nat} {x0 : Int32} {x1 : Int32} {u : xk_St} : yf_F [] [] [] [] u (fm_Checker_sameName fu x0 x1 u) := by
  have hu : yf_fr [] [] [] [] u u := yf_refl
  unfold fm_Checker_sameName
  repeat' with_reducible first
    | exact yf_none
    | exact yf_some (by assumption)
    | refine yf_ite ?_ ?_
    | exact yf_call (by assumption) (yf_jb_Checker_sameName_30) (by decide)
    | refine yf_letV (fun _ => ?_)
theorem yf_jb_Checker_checkExports_162 {fu : Nat} {k10 : Int32 → xk_St → Option ((Unit ⊕ Nat) × xk_St)} {k125 : Int32 → Int32 → xk_St → Option ((Unit ⊕ Nat) × xk_St)} {b2 : Int32} {b4 : Int32} {s0 : Int32} {u : xk_St} (hk10 : ∀ c0 v, yf_F [] [] [] [] v (k10 c0 v)) (hk125 : ∀ c0 c1 v, yf_F [] [] [] [] v (k125 c0 c1 v)) : yf_F [] [] [] [] u (jb_Checker_checkExports_162 fu k10 k125 b2 b4 s0 u) := by
  have hu : yf_fr [] [] [] [] u u := yf_refl
  unfold jb_Checker_checkExports_162
  repeat' with_reducible first
    | exact yf_none
    | exact yf_some (by assumption)
    | refine yf_ite ?_ ?_
    | refine yf_try ?_ (fun _ _ _ => ?_)
    | exact yf_call (by assumption) (yf_fm_Checker_need) (by decide)
    | exact yf_call (by assumption) (hk10 ..) (by decide)
    | exact yf_call (by assumption) (hk125 ..) (by decide)
    | refine yf_letV (fun _ => ?_)
theorem yf_jb_Checker_checkExports_157 {fu : Nat} {k10 : Int32 → xk_St → Option ((Unit ⊕ Nat) × xk_St)} {k125 : Int32 → Int32 → xk_St → Option ((Unit ⊕ Nat) × xk_St)} {b2 : Int32} {b4 : Int32} {u : xk_St} (hk10 : ∀ c0 v, yf_F [] [] [] [] v (k10 c0 v)) (hk125 : ∀ c0 c1 v, yf_F [] [] [] [] v (k125 c0 c1 v)) : yf_F [] [] [] [] u (jb_Checker_checkExports_157 fu k10 k125 b2 b4 u) := by
  have hu : yf_fr [] [] [] [] u u := yf_refl
  unfold jb_Checker_checkExports_157
  repeat' with_reducible first
    | exact yf_none
    | exact yf_some (by assumption)
    | refine yf_ite ?_ ?_
    | exact yf_call (by assumption) (yf_jb_Checker_checkExports_162 (by intros; first | apply hk10 | apply hk125) (by intros; first | apply hk10 | apply hk125)) (by decide)
    | exact yf_call (by assumption) (hk10 ..) (by decide)
    | exact yf_call (by assumption) (hk125 ..) (by decide)
theorem yf_jb_Checker_checkExports_125 {fu : Nat} {k10 : Int32 → xk_St → Option ((Unit ⊕ Nat) × xk_St)} (hk10 : ∀ c0 v, yf_F [] [] [] [] v (k10 c0 v)) : ∀ {n : Nat} {b2 : Int32} {b4 : Int32} {u : xk_St}, yf_F [] [] [] [] u (jb_Checker_checkExports_125 fu k10 n b2 b4 u) := by
  intro n
  induction n with
  | zero => intros; exact yf_none
  | succ n ih =>
    intro b2 b4 u
    have hu : yf_fr [] [] [] [] u u := yf_refl
    unfold jb_Checker_checkExports_125
    refine yf_let ?_
    repeat' with_reducible first
      | exact yf_none
      | exact yf_some (by assumption)
      | refine yf_ite ?_ ?_
      | refine yf_seq ?_ (fun _ _ _ => ?_)
      | exact yf_call (by assumption) (yf_fm_Checker_sameName) (by decide)
      | exact yf_call (by assumption) (yf_jb_Checker_checkExports_157 (by intros; first | apply hk10 | apply ih) (by intros; first | apply hk10 | apply ih)) (by decide)
      | exact yf_call (by assumption) (yf_jb_Checker_checkExports_162 (by intros; first | apply hk10 | apply ih) (by intros; first | apply hk10 | apply ih)) (by decide)
      | exact yf_call (by assumption) (hk10 ..) (by decide)
      | exact yf_call (by assumption) (ih ..) (by decide)
      | refine yf_letV (fun _ => ?_)
theorem yf_jb_Checker_checkExports_119 {fu : Nat} {k10 : Int32 → xk_St → Option ((Unit ⊕ Nat) × xk_St)} {b2 : Int32} {s0 : Int32} {u : xk_St} (hk10 : ∀ c0 v, yf_F [] [] [] [] v (k10 c0 v)) : yf_F [] [] [] [] u (jb_Checker_checkExports_119 fu k10 b2 s0 u) := by
  have hu : yf_fr [] [] [] [] u u := yf_refl
  unfold jb_Checker_checkExports_119
  repeat' with_reducible first
    | exact yf_none
    | exact yf_some (by assumption)
    | refine yf_ite ?_ ?_
    | refine yf_try ?_ (fun _ _ _ => ?_)
    | exact yf_call (by assumption) (yf_fm_Checker_need) (by decide)
    | exact yf_call (by assumption) (yf_jb_Checker_checkExports_125 (by intros; first | apply hk10)) (by decide)
    | exact yf_call (by assumption) (hk10 ..) (by decide)
theorem yf_jb_Checker_checkExports_101 {fu : Nat} {k10 : Int32 → xk_St → Option ((Unit ⊕ Nat) × xk_St)} {b2 : Int32} {s0 : Int32} {u : xk_St} (hk10 : ∀ c0 v, yf_F [] [] [] [] v (k10 c0 v)) : yf_F [] [] [] [] u (jb_Checker_checkExports_101 fu k10 b2 s0 u) := by
  have hu : yf_fr [] [] [] [] u u := yf_refl
  unfold jb_Checker_checkExports_101
  repeat' with_reducible first
    | exact yf_none
    | exact yf_some (by assumption)
    | refine yf_ite ?_ ?_
    | exact yf_call (by assumption) (yf_jb_Checker_checkExports_119 (by intros; first | apply hk10)) (by decide)
    | exact yf_call (by assumption) (hk10 ..) (by decide)
theorem yf_jb_Checker_checkExports_10 {fu : Nat} : ∀ {n : Nat} {b2 : Int32} {u : xk_St}, yf_F [] [] [] [] u (jb_Checker_checkExports_10 fu n b2 u) := by
  intro n
  induction n with
  | zero => intros; exact yf_none
  | succ n ih =>
    intro b2 u
    have hu : yf_fr [] [] [] [] u u := yf_refl
    unfold jb_Checker_checkExports_10
    refine yf_let ?_
    repeat' with_reducible first
      | exact yf_none
      | exact yf_some (by assumption)
      | refine yf_ite ?_ ?_
      | exact yf_call (by assumption) (yf_jb_Checker_checkExports_101 (by intros; first | apply ih)) (by decide)
      | exact yf_call (by assumption) (ih ..) (by decide)
      | refine yf_letV (fun _ => ?_)
theorem yf_fm_Checker_checkExports {fu : Nat} {u : xk_St} : yf_F [] [] [] [] u (fm_Checker_checkExports fu u) := by
  have hu : yf_fr [] [] [] [] u u := yf_refl
  unfold fm_Checker_checkExports
  repeat' with_reducible first
    | exact yf_none
    | exact yf_some (by assumption)
    | refine yf_ite ?_ ?_
    | exact yf_call (by assumption) (yf_jb_Checker_checkExports_10) (by decide)
theorem yf_jb_Checker_checkSegments_146 {fu : Nat} {k72 : Int32 → xk_St → Option ((Unit ⊕ Nat) × xk_St)} {k101 : Int32 → Int32 → Int32 → xk_St → Option ((Unit ⊕ Nat) × xk_St)} {b1 : Int32} {b2 : Int32} {b3 : Int32} {s0 : Int32} {u : xk_St} (hk72 : ∀ c0 v, yf_F [] [] [] [] v (k72 c0 v)) (hk101 : ∀ c0 c1 c2 v, yf_F [] [] [] [] v (k101 c0 c1 c2 v)) : yf_F [] [] [] [] u (jb_Checker_checkSegments_146 fu k72 k101 b1 b2 b3 s0 u) := by
  have hu : yf_fr [] [] [] [] u u := yf_refl
  unfold jb_Checker_checkSegments_146
  repeat' with_reducible first
    | exact yf_none
    | exact yf_some (by assumption)
    | refine yf_ite ?_ ?_
    | refine yf_try ?_ (fun _ _ _ => ?_)
    | exact yf_call (by assumption) (yf_fm_Checker_need) (by decide)
    | exact yf_call (by assumption) (hk72 ..) (by decide)
    | exact yf_call (by assumption) (hk101 ..) (by decide)
    | refine yf_letV (fun _ => ?_)
theorem yf_jb_Checker_checkSegments_101 {fu : Nat} {k72 : Int32 → xk_St → Option ((Unit ⊕ Nat) × xk_St)} (hk72 : ∀ c0 v, yf_F [] [] [] [] v (k72 c0 v)) : ∀ {n : Nat} {b1 : Int32} {b2 : Int32} {b3 : Int32} {u : xk_St}, yf_F [] [] [] [] u (jb_Checker_checkSegments_101 fu k72 n b1 b2 b3 u) := by
  intro n
  induction n with
  | zero => intros; exact yf_none
  | succ n ih =>
    intro b1 b2 b3 u
    have hu : yf_fr [] [] [] [] u u := yf_refl
    unfold jb_Checker_checkSegments_101
    refine yf_let ?_
    repeat' with_reducible first
      | exact yf_none
      | exact yf_some (by assumption)
      | refine yf_ite ?_ ?_
      | exact yf_call (by assumption) (yf_jb_Checker_checkSegments_146 (by intros; first | apply hk72 | apply ih) (by intros; first | apply hk72 | apply ih)) (by decide)
      | exact yf_call (by assumption) (hk72 ..) (by decide)
      | exact yf_call (by assumption) (ih ..) (by decide)
      | refine yf_letV (fun _ => ?_)
theorem yf_jb_Checker_checkSegments_72 {fu : Nat} : ∀ {n : Nat} {b1 : Int32} {u : xk_St}, yf_F [] [] [] [] u (jb_Checker_checkSegments_72 fu n b1 u) := by
  intro n
  induction n with
  | zero => intros; exact yf_none
  | succ n ih =>
    intro b1 u
    have hu : yf_fr [] [] [] [] u u := yf_refl
    unfold jb_Checker_checkSegments_72
    refine yf_let ?_
    repeat' with_reducible first
      | exact yf_none
      | exact yf_some (by assumption)
      | refine yf_ite ?_ ?_
      | exact yf_call (by assumption) (yf_jb_Checker_checkSegments_101 (by intros; first | apply ih)) (by decide)
      | exact yf_call (by assumption) (ih ..) (by decide)
      | refine yf_letV (fun _ => ?_)
theorem yf_jb_Checker_checkSegments_67 {fu : Nat} {s0 : Int32} {u : xk_St} : yf_F [] [] [] [] u (jb_Checker_checkSegments_67 fu s0 u) := by
  have hu : yf_fr [] [] [] [] u u := yf_refl
  unfold jb_Checker_checkSegments_67
  repeat' with_reducible first
    | exact yf_none
    | exact yf_some (by assumption)
    | refine yf_ite ?_ ?_
    | refine yf_try ?_ (fun _ _ _ => ?_)
    | exact yf_call (by assumption) (yf_fm_Checker_need) (by decide)
    | exact yf_call (by assumption) (yf_jb_Checker_checkSegments_72) (by decide)
theorem yf_jb_Checker_checkSegments_62 {fu : Nat} {u : xk_St} : yf_F [] [] [] [] u (jb_Checker_checkSegments_62 fu u) := by
  have hu : yf_fr [] [] [] [] u u := yf_refl
  unfold jb_Checker_checkSegments_62
  repeat' with_reducible first
    | exact yf_none
    | exact yf_some (by assumption)
    | refine yf_ite ?_ ?_
    | exact yf_call (by assumption) (yf_jb_Checker_checkSegments_67) (by decide)
theorem yf_jb_Checker_checkSegments_32 {fu : Nat} {s0 : Int32} {u : xk_St} : yf_F [] [] [] [] u (jb_Checker_checkSegments_32 fu s0 u) := by
  have hu : yf_fr [] [] [] [] u u := yf_refl
  unfold jb_Checker_checkSegments_32
  repeat' with_reducible first
    | exact yf_none
    | exact yf_some (by assumption)
    | refine yf_ite ?_ ?_
    | refine yf_try ?_ (fun _ _ _ => ?_)
    | exact yf_call (by assumption) (yf_fm_Checker_need) (by decide)
    | exact yf_call (by assumption) (yf_jb_Checker_checkSegments_62) (by decide)
    | exact yf_call (by assumption) (yf_jb_Checker_checkSegments_67) (by decide)
theorem yf_jb_Checker_checkSegments_27 {fu : Nat} {u : xk_St} : yf_F [] [] [] [] u (jb_Checker_checkSegments_27 fu u) := by
  have hu : yf_fr [] [] [] [] u u := yf_refl
  unfold jb_Checker_checkSegments_27
  repeat' with_reducible first
    | exact yf_none
    | exact yf_some (by assumption)
    | refine yf_ite ?_ ?_
    | exact yf_call (by assumption) (yf_jb_Checker_checkSegments_32) (by decide)
theorem yf_fm_Checker_checkSegments {fu : Nat} {u : xk_St} : yf_F [] [] [] [] u (fm_Checker_checkSegments fu u) := by
  have hu : yf_fr [] [] [] [] u u := yf_refl
  unfold fm_Checker_checkSegments
  repeat' with_reducible first
    | exact yf_none
    | exact yf_some (by assumption)
    | refine yf_ite ?_ ?_
    | exact yf_call (by assumption) (yf_jb_Checker_checkSegments_27) (by decide)
    | exact yf_call (by assumption) (yf_jb_Checker_checkSegments_32) (by decide)
theorem yf_jb_Checker_checkParts_128 {fu : Nat} {s0 : Int32} {u : xk_St} : yf_F [] [] [5] [] u (jb_Checker_checkParts_128 fu s0 u) := by
  have hu : yf_fr [] [] [5] [] u u := yf_refl
  unfold jb_Checker_checkParts_128
  repeat' with_reducible first
    | exact yf_none
    | exact yf_some (by assumption)
    | refine yf_ite ?_ ?_
    | refine yf_try ?_ (fun _ _ _ => ?_)
    | exact yf_call (by assumption) (yf_fm_Checker_need) (by decide)
    | exact yf_call (by assumption) (yf_fm_Checker_checkTypes) (by decide)
    | exact yf_call (by assumption) (yf_fm_Checker_checkFunctions) (by decide)
    | exact yf_call (by assumption) (yf_fm_Checker_checkLimits) (by decide)
    | exact yf_call (by assumption) (yf_fm_Checker_checkLimits__h55_29) (by decide)
    | exact yf_call (by assumption) (yf_fm_Checker_checkGlobals) (by decide)
    | exact yf_call (by assumption) (yf_fm_Checker_checkExports) (by decide)
    | exact yf_call (by assumption) (yf_fm_Checker_checkSegments) (by decide)
theorem yf_jb_Checker_checkParts_100 {fu : Nat} {s0 : Int32} {u : xk_St} : yf_F [] [] [5] [] u (jb_Checker_checkParts_100 fu s0 u) := by
  have hu : yf_fr [] [] [5] [] u u := yf_refl
  unfold jb_Checker_checkParts_100
  repeat' with_reducible first
    | exact yf_none
    | exact yf_some (by assumption)
    | refine yf_ite ?_ ?_
    | refine yf_try ?_ (fun _ _ _ => ?_)
    | exact yf_call (by assumption) (yf_fm_Checker_need) (by decide)
    | exact yf_call (by assumption) (yf_jb_Checker_checkParts_128) (by decide)
theorem yf_jb_Checker_checkParts_99 {fu : Nat} {u : xk_St} : yf_F [] [] [5] [] u (jb_Checker_checkParts_99 fu u) := by
  have hu : yf_fr [] [] [5] [] u u := yf_refl
  unfold jb_Checker_checkParts_99
  repeat' with_reducible first
    | exact yf_none
    | exact yf_some (by assumption)
    | refine yf_ite ?_ ?_
    | exact yf_call (by assumption) (yf_jb_Checker_checkParts_100) (by decide)
theorem yf_jb_Checker_checkParts_47 {fu : Nat} {s0 : Int32} {u : xk_St} : yf_F [] [] [5] [] u (jb_Checker_checkParts_47 fu s0 u) := by
  have hu : yf_fr [] [] [5] [] u u := yf_refl
  unfold jb_Checker_checkParts_47
  repeat' with_reducible first
    | exact yf_none
    | exact yf_some (by assumption)
    | refine yf_ite ?_ ?_
    | refine yf_try ?_ (fun _ _ _ => ?_)
    | exact yf_call (by assumption) (yf_fm_Checker_need) (by decide)
    | exact yf_call (by assumption) (yf_jb_Checker_checkParts_99) (by decide)
    | exact yf_call (by assumption) (yf_jb_Checker_checkParts_100) (by decide)
theorem yf_jb_Checker_checkParts_46 {fu : Nat} {u : xk_St} : yf_F [] [] [5] [] u (jb_Checker_checkParts_46 fu u) := by
  have hu : yf_fr [] [] [5] [] u u := yf_refl
  unfold jb_Checker_checkParts_46
  repeat' with_reducible first
    | exact yf_none
    | exact yf_some (by assumption)
    | refine yf_ite ?_ ?_
    | exact yf_call (by assumption) (yf_jb_Checker_checkParts_47) (by decide)
theorem yf_fm_Checker_checkParts {fu : Nat} {u : xk_St} : yf_F [] [] [5] [] u (fm_Checker_checkParts fu u) := by
  have hu : yf_fr [] [] [5] [] u u := yf_refl
  unfold fm_Checker_checkParts
  repeat' with_reducible first
    | exact yf_none
    | exact yf_some (by assumption)
    | refine yf_ite ?_ ?_
    | exact yf_call (by assumption) (yf_jb_Checker_checkParts_46) (by decide)
    | exact yf_call (by assumption) (yf_jb_Checker_checkParts_47) (by decide)
theorem yf_fm_Checker_resultCount {x0 : Int32} {u : xk_St} : yf_F [] [] [] [] u (fm_Checker_resultCount x0 u) := by
  have hu : yf_fr [] [] [] [] u u := yf_refl
  unfold fm_Checker_resultCount
  repeat' with_reducible first
    | exact yf_none
    | exact yf_some (by assumption)
    | refine yf_ite ?_ ?_
    | refine yf_letV (fun _ => ?_)
theorem yf_fm_Checker_parameterCount {x0 : Int32} {u : xk_St} : yf_F [] [] [] [] u (fm_Checker_parameterCount x0 u) := by
  have hu : yf_fr [] [] [] [] u u := yf_refl
  unfold fm_Checker_parameterCount
  repeat' with_reducible first
    | exact yf_none
    | exact yf_some (by assumption)
    | refine yf_ite ?_ ?_
    | refine yf_letV (fun _ => ?_)
theorem yf_jb_Checker_openPart_66 {b1 : Int32} {s0 : Int64} {s1 : Int32} {u : xk_St} : yf_F [20, 21] [] [10, 34, 35] [2] u (jb_Checker_openPart_66 b1 s0 s1 u) := by
  have hu : yf_fr [20, 21] [] [10, 34, 35] [2] u u := yf_refl
  unfold jb_Checker_openPart_66
  repeat' with_reducible first
    | exact yf_none
    | exact yf_some (by assumption)
    | refine yf_ite ?_ ?_
    | refine yf_letS (yf_I (by assumption) (by decide)) (fun _ _ => ?_)
    | refine yf_letS (yf_A (by assumption) (by decide)) (fun _ _ => ?_)
    | refine yf_letS (yf_B (by assumption) (by decide)) (fun _ _ => ?_)
    | refine yf_letV (fun _ => ?_)
theorem yf_jb_Checker_openPart_14 {b1 : Int32} {s0 : Int32} {u : xk_St} : yf_F [20, 21] [] [10, 34, 35] [2] u (jb_Checker_openPart_14 b1 s0 u) := by
  have hu : yf_fr [20, 21] [] [10, 34, 35] [2] u u := yf_refl
  unfold jb_Checker_openPart_14
  repeat' with_reducible first
    | exact yf_none
    | exact yf_some (by assumption)
    | refine yf_ite ?_ ?_
    | refine yf_letS (yf_A (by assumption) (by decide)) (fun _ _ => ?_)
    | refine yf_seq ?_ (fun _ _ _ => ?_)
    | refine yf_try ?_ (fun _ _ _ => ?_)
    | exact yf_call (by assumption) (yf_fm_Checker_need) (by decide)
    | exact yf_call (by assumption) (yf_fm_Checker_parameterCount) (by decide)
    | exact yf_call (by assumption) (yf_jb_Checker_openPart_66) (by decide)
    | exact yf_call (by assumption) (yf_fm_Checker_resultCount) (by decide)
    | refine yf_letV (fun _ => ?_)
theorem yf_fm_Checker_openPart {x0 : Int32} {u : xk_St} : yf_F [20, 21] [] [10, 34, 35] [2] u (fm_Checker_openPart x0 u) := by
  have hu : yf_fr [20, 21] [] [10, 34, 35] [2] u u := yf_refl
  unfold fm_Checker_openPart
  repeat' with_reducible first
    | exact yf_none
    | exact yf_some (by assumption)
    | refine yf_ite ?_ ?_
    | exact yf_call (by assumption) (yf_jb_Checker_openPart_14) (by decide)
theorem yf_fm_Checker_pop_ {u : xk_St} : yf_F [19] [] [] [] u (fm_Checker_pop_ u) := by
  have hu : yf_fr [19] [] [] [] u u := yf_refl
  unfold fm_Checker_pop_
  repeat' with_reducible first
    | exact yf_none
    | exact yf_some (by assumption)
    | refine yf_ite ?_ ?_
    | refine yf_letS (yf_I (by assumption) (by decide)) (fun _ _ => ?_)
    | refine yf_letV (fun _ => ?_)
theorem yf_fm_Checker_pop_I {x0 : Int32} {u : xk_St} : yf_F [19] [] [] [] u (fm_Checker_pop_I x0 u) := by
  have hu : yf_fr [19] [] [] [] u u := yf_refl
  unfold fm_Checker_pop_I
  repeat' with_reducible first
    | exact yf_none
    | exact yf_some (by assumption)
    | refine yf_ite ?_ ?_
    | refine yf_seq ?_ (fun _ _ _ => ?_)
    | refine yf_try ?_ (fun _ _ _ => ?_)
    | exact yf_call (by assumption) (yf_fm_Checker_pop_) (by decide)
    | exact yf_call (by assumption) (yf_fm_Types_fits) (by decide)
    | exact yf_call (by assumption) (yf_fm_Checker_need) (by decide)
theorem yf_jb_Checker_push_14 {b1 : Int32} {s0 : Int32} {u : xk_St} : yf_F [19] [] [33] [] u (jb_Checker_push_14 b1 s0 u) := by
  have hu : yf_fr [19] [] [33] [] u u := yf_refl
  unfold jb_Checker_push_14
  repeat' with_reducible first
    | exact yf_none
    | exact yf_some (by assumption)
    | refine yf_ite ?_ ?_
    | refine yf_letS (yf_I (by assumption) (by decide)) (fun _ _ => ?_)
    | refine yf_letS (yf_A (by assumption) (by decide)) (fun _ _ => ?_)
    | refine yf_try ?_ (fun _ _ _ => ?_)
    | exact yf_call (by assumption) (yf_fm_Checker_need) (by decide)
    | refine yf_letV (fun _ => ?_)
theorem yf_fm_Checker_push {x0 : Int32} {u : xk_St} : yf_F [19] [] [33] [] u (fm_Checker_push x0 u) := by
  have hu : yf_fr [19] [] [33] [] u u := yf_refl
  unfold fm_Checker_push
  repeat' with_reducible first
    | exact yf_none
    | exact yf_some (by assumption)
    | refine yf_ite ?_ ?_
    | exact yf_call (by assumption) (yf_jb_Checker_push_14) (by decide)
theorem yf_fm_Types_notNull {x0 : Int32} {u : xk_St} : yf_F [] [] [] [] u (fm_Types_notNull x0 u) := by
  have hu : yf_fr [] [] [] [] u u := yf_refl
  unfold fm_Types_notNull
  repeat' with_reducible first
    | exact yf_none
    | exact yf_some (by assumption)
    | refine yf_ite ?_ ?_
theorem yf_jb_Checker_checkKind_86 {s0 : Int32} {u : xk_St} : yf_F [19] [] [33] [] u (jb_Checker_checkKind_86 s0 u) := by
  have hu : yf_fr [19] [] [33] [] u u := yf_refl
  unfold jb_Checker_checkKind_86
  repeat' with_reducible first
    | exact yf_none
    | exact yf_some (by assumption)
    | refine yf_ite ?_ ?_
    | refine yf_try ?_ (fun _ _ _ => ?_)
    | exact yf_call (by assumption) (yf_fm_Checker_push) (by decide)
theorem yf_jb_Checker_checkKind_83 {s0 : Int32} {s1 : Int32} {u : xk_St} : yf_F [19] [] [33] [] u (jb_Checker_checkKind_83 s0 s1 u) := by
  have hu : yf_fr [19] [] [33] [] u u := yf_refl
  unfold jb_Checker_checkKind_83
  repeat' with_reducible first
    | exact yf_none
    | exact yf_some (by assumption)
    | refine yf_ite ?_ ?_
    | refine yf_seq ?_ (fun _ _ _ => ?_)
    | exact yf_call (by assumption) (yf_fm_Types_reference) (by decide)
    | exact yf_call (by assumption) (yf_jb_Checker_checkKind_86) (by decide)
theorem yf_fm_Checker_checkKind {x0 : Int32} {x1 : Int32} {u : xk_St} : yf_F [19] [] [33] [] u (fm_Checker_checkKind x0 x1 u) := by
  have hu : yf_fr [19] [] [33] [] u u := yf_refl
  unfold fm_Checker_checkKind
  repeat' with_reducible first
    | exact yf_none
    | exact yf_some (by assumption)
    | refine yf_ite ?_ ?_
    | refine yf_seq ?_ (fun _ _ _ => ?_)
    | refine yf_try ?_ (fun _ _ _ => ?_)
    | exact yf_call (by assumption) (yf_fm_Checker_pop_I) (by decide)
    | exact yf_call (by assumption) (yf_fm_Types_notNull) (by decide)
    | exact yf_call (by assumption) (yf_fm_Checker_push) (by decide)
    | exact yf_call (by assumption) (yf_fm_Types_knowsTarget) (by decide)
    | exact yf_call (by assumption) (yf_fm_Checker_need) (by decide)
    | exact yf_call (by assumption) (yf_jb_Checker_checkKind_83) (by decide)
    | exact yf_call (by assumption) (yf_jb_Checker_checkKind_86) (by decide)
theorem yf_jb_Types_isPacked_10 {u : xk_St} : yf_F [] [] [] [] u (jb_Types_isPacked_10 u) := by
  have hu : yf_fr [] [] [] [] u u := yf_refl
  unfold jb_Types_isPacked_10
  repeat' with_reducible first
    | exact yf_none
    | exact yf_some (by assumption)
    | refine yf_ite ?_ ?_
theorem yf_fm_Types_isPacked {x0 : Int32} {u : xk_St} : yf_F [] [] [] [] u (fm_Types_isPacked x0 u) := by
  have hu : yf_fr [] [] [] [] u u := yf_refl
  unfold fm_Types_isPacked
  repeat' with_reducible first
    | exact yf_none
    | exact yf_some (by assumption)
    | refine yf_ite ?_ ?_
    | exact yf_call (by assumption) (yf_jb_Types_isPacked_10) (by decide)
theorem yf_fm_Types_unpacked {x0 : Int32} {u : xk_St} : yf_F [] [] [] [] u (fm_Types_unpacked x0 u) := by
  have hu : yf_fr [] [] [] [] u u := yf_refl
  unfold fm_Types_unpacked
  repeat' with_reducible first
    | exact yf_none
    | exact yf_some (by assumption)
    | refine yf_ite ?_ ?_
    | refine yf_seq ?_ (fun _ _ _ => ?_)
    | exact yf_call (by assumption) (yf_fm_Types_isPacked) (by decide)
theorem yf_fm_Types_canBeSet {x0 : Int32} {x1 : Int32} {u : xk_St} : yf_F [] [] [] [] u (fm_Types_canBeSet x0 x1 u) := by
  have hu : yf_fr [] [] [] [] u u := yf_refl
  unfold fm_Types_canBeSet
  repeat' with_reducible first
    | exact yf_none
    | exact yf_some (by assumption)
    | refine yf_ite ?_ ?_
    | refine yf_seq ?_ (fun _ _ _ => ?_)
    | exact yf_call (by assumption) (yf_fm_Types_outcome) (by decide)
theorem yf_jb_Types_hasDefault_14 {u : xk_St} : yf_F [] [] [] [] u (jb_Types_hasDefault_14 u) := by
  have hu : yf_fr [] [] [] [] u u := yf_refl
  unfold jb_Types_hasDefault_14
  repeat' with_reducible first
    | exact yf_none
    | exact yf_some (by assumption)
    | refine yf_ite ?_ ?_
theorem yf_fm_Types_hasDefault {x0 : Int32} {u : xk_St} : yf_F [] [] [] [] u (fm_Types_hasDefault x0 u) := by
  have hu : yf_fr [] [] [] [] u u := yf_refl
  unfold fm_Types_hasDefault
  repeat' with_reducible first
    | exact yf_none
    | exact yf_some (by assumption)
    | refine yf_ite ?_ ?_
    | refine yf_seq ?_ (fun _ _ _ => ?_)
    | exact yf_call (by assumption) (yf_fm_Types_isReference) (by decide)
    | exact yf_call (by assumption) (yf_jb_Types_hasDefault_14) (by decide)
    | exact yf_call (by assumption) (yf_fm_Types_orNull) (by decide)
theorem yf_jb_Checker_checkNewArray_25 {fu : Nat} : ∀ {n : Nat} {b2 : Int32} {b3 : Int64} {b5 : Int32} {u : xk_St}, yf_F [19] [] [] [] u (jb_Checker_checkNewArray_25 fu n b2 b3 b5 u) := by
  intro n
  induction n with
  | zero => intros; exact yf_none
  | succ n ih =>
    intro b2 b3 b5 u
    have hu : yf_fr [19] [] [] [] u u := yf_refl
    unfold jb_Checker_checkNewArray_25
    refine yf_let ?_
    repeat' with_reducible first
      | exact yf_none
      | exact yf_some (by assumption)
      | refine yf_ite ?_ ?_
      | refine yf_seq ?_ (fun _ _ _ => ?_)
      | refine yf_try ?_ (fun _ _ _ => ?_)
      | exact yf_call (by assumption) (yf_fm_Types_unpacked) (by decide)
      | exact yf_call (by assumption) (yf_fm_Checker_pop_I) (by decide)
      | exact yf_call (by assumption) (ih ..) (by decide)
      | refine yf_letV (fun _ => ?_)
theorem yf_jb_Checker_checkNewArray_19 {fu : Nat} {b2 : Int32} {b3 : Int64} {s0 : Int32} {u : xk_St} : yf_F [19] [] [] [] u (jb_Checker_checkNewArray_19 fu b2 b3 s0 u) := by
  have hu : yf_fr [19] [] [] [] u u := yf_refl
  unfold jb_Checker_checkNewArray_19
  repeat' with_reducible first
    | exact yf_none
    | exact yf_some (by assumption)
    | refine yf_ite ?_ ?_
    | refine yf_try ?_ (fun _ _ _ => ?_)
    | exact yf_call (by assumption) (yf_fm_Checker_need) (by decide)
    | exact yf_call (by assumption) (yf_jb_Checker_checkNewArray_25) (by decide)
theorem yf_fm_Checker_checkNewArray {fu : Nat} {x0 : Int32} {x1 : Int32} {x2 : Int64} {u : xk_St} : yf_F [19] [] [] [] u (fm_Checker_checkNewArray fu x0 x1 x2 u) := by
  have hu : yf_fr [19] [] [] [] u u := yf_refl
  unfold fm_Checker_checkNewArray
  repeat' with_reducible first
    | exact yf_none
    | exact yf_some (by assumption)
    | refine yf_ite ?_ ?_
    | refine yf_seq ?_ (fun _ _ _ => ?_)
    | refine yf_try ?_ (fun _ _ _ => ?_)
    | exact yf_call (by assumption) (yf_jb_Checker_checkNewArray_19) (by decide)
    | exact yf_call (by assumption) (yf_fm_Checker_pop_I) (by decide)
    | exact yf_call (by assumption) (yf_fm_Types_unpacked) (by decide)
    | exact yf_call (by assumption) (yf_fm_Types_hasDefault) (by decide)
    | exact yf_call (by assumption) (yf_fm_Checker_need) (by decide)
theorem yf_fm_Checker_popReference {u : xk_St} : yf_F [19] [] [] [] u (fm_Checker_popReference u) := by
  have hu : yf_fr [19] [] [] [] u u := yf_refl
  unfold fm_Checker_popReference
  repeat' with_reducible first
    | exact yf_none
    | exact yf_some (by assumption)
    | refine yf_ite ?_ ?_
    | refine yf_seq ?_ (fun _ _ _ => ?_)
    | refine yf_try ?_ (fun _ _ _ => ?_)
    | exact yf_call (by assumption) (yf_fm_Checker_pop_) (by decide)
    | exact yf_call (by assumption) (yf_fm_Types_reference) (by decide)
    | exact yf_call (by assumption) (yf_fm_Types_isReference) (by decide)
    | exact yf_call (by assumption) (yf_fm_Checker_need) (by decide)
theorem yf_jb_Checker_checkLength_38 {s0 : Int32} {u : xk_St} : yf_F [19] [] [33] [] u (jb_Checker_checkLength_38 s0 u) := by
  have hu : yf_fr [19] [] [33] [] u u := yf_refl
  unfold jb_Checker_checkLength_38
  repeat' with_reducible first
    | exact yf_none
    | exact yf_some (by assumption)
    | refine yf_ite ?_ ?_
    | refine yf_try ?_ (fun _ _ _ => ?_)
    | exact yf_call (by assumption) (yf_fm_Checker_need) (by decide)
    | exact yf_call (by assumption) (yf_fm_Checker_push) (by decide)
theorem yf_jb_Checker_checkLength_33 {u : xk_St} : yf_F [19] [] [33] [] u (jb_Checker_checkLength_33 u) := by
  have hu : yf_fr [19] [] [33] [] u u := yf_refl
  unfold jb_Checker_checkLength_33
  repeat' with_reducible first
    | exact yf_none
    | exact yf_some (by assumption)
    | refine yf_ite ?_ ?_
    | exact yf_call (by assumption) (yf_jb_Checker_checkLength_38) (by decide)
