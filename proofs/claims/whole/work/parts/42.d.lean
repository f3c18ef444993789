theorem yf_jb_Checker_needThere_60 {fu : Nat} {k2 : Int32 → Int32 → Int32 → xk_St → Option ((Unit ⊕ Nat) × xk_St)} {b1 : Int32} {b2 : Int32} {b3 : Int32} {s0 : Int32} {u : xk_St} (hk2 : ∀ c0 c1 c2 v, yf_F [] [] [] [] v (k2 c0 c1 c2 v)) : yf_F [] [] [] [] u (jb_Checker_needThere_60 fu k2 b1 b2 b3 s0 u) := by
  have hu : yf_fr [] [] [] [] u u := yf_refl
  unfold jb_Checker_needThere_60
  repeat' with_reducible first
    | refine yf_ite ?_ ?_
    | exact yf_none
    | exact yf_some (by assumption)
    | refine yf_try ?_ (fun _ _ _ => ?_)
    | exact yf_call (by assumption) (yf_fm_Checker_need) (by decide)
    | exact yf_call (by assumption) (hk2 ..) (by decide)
    | refine yf_letV (fun _ => ?_)
theorem yf_jb_Checker_needThere_2 {fu : Nat} : ∀ {n : Nat} {b1 : Int32} {b2 : Int32} {b3 : Int32} {u : xk_St}, yf_F [] [] [] [] u (jb_Checker_needThere_2 fu n b1 b2 b3 u) := by
  intro n
  induction n with
  | zero => intros; exact yf_none
  | succ n ih =>
    intro b1 b2 b3 u
    have hu : yf_fr [] [] [] [] u u := yf_refl
    unfold jb_Checker_needThere_2
    refine yf_let ?_
    repeat' with_reducible first
    | refine yf_ite ?_ ?_
      | exact yf_none
      | exact yf_some (by assumption)
        | refine yf_seq ?_ (fun _ _ _ => ?_)
      | exact yf_call (by assumption) (yf_jb_Checker_needThere_60 (by intros; first | apply ih)) (by decide)
      | exact yf_call (by assumption) (yf_fm_Checker_wayType) (by decide)
      | exact yf_call (by assumption) (yf_fm_Types_fits) (by decide)
      | exact yf_call (by assumption) (ih ..) (by decide)
      | refine yf_letV (fun _ => ?_)
theorem yf_fm_Checker_needThere {fu : Nat} {x0 : Int32} {x1 : Int32} {u : xk_St} : yf_F [] [] [] [] u (fm_Checker_needThere fu x0 x1 u) := by
  have hu : yf_fr [] [] [] [] u u := yf_refl
  unfold fm_Checker_needThere
  repeat' with_reducible first
    | refine yf_ite ?_ ?_
    | exact yf_none
    | exact yf_some (by assumption)
    | exact yf_call (by assumption) (yf_jb_Checker_needThere_2) (by decide)
theorem yf_jb_Checker_checkWays_79 {fu : Nat} {k28 : Int32 → Int32 → Int32 → Int32 → xk_St → Option ((Unit ⊕ Nat) × xk_St)} {b1 : Int32} {b2 : Int32} {b3 : Int32} {b4 : Int32} {b5 : Int32} {s0 : Int32} {u : xk_St} (hk28 : ∀ c0 c1 c2 c3 v, yf_F [19] [] [11, 35] [] v (k28 c0 c1 c2 c3 v)) : yf_F [19] [] [11, 35] [] u (jb_Checker_checkWays_79 fu k28 b1 b2 b3 b4 b5 s0 u) := by
  have hu : yf_fr [19] [] [11, 35] [] u u := yf_refl
  unfold jb_Checker_checkWays_79
  repeat' with_reducible first
    | refine yf_ite ?_ ?_
    | exact yf_none
    | exact yf_some (by assumption)
    | refine yf_try ?_ (fun _ _ _ => ?_)
    | exact yf_call (by assumption) (yf_fm_Checker_need) (by decide)
    | exact yf_call (by assumption) (yf_fm_Checker_needThere) (by decide)
    | exact yf_call (by assumption) (hk28 ..) (by decide)
    | refine yf_letV (fun _ => ?_)
theorem yf_jb_Checker_checkWays_28 {fu : Nat} : ∀ {n : Nat} {b1 : Int32} {b2 : Int32} {b3 : Int32} {b4 : Int32} {u : xk_St}, yf_F [19] [] [11, 35] [] u (jb_Checker_checkWays_28 fu n b1 b2 b3 b4 u) := by
  intro n
  induction n with
  | zero => intros; exact yf_none
  | succ n ih =>
    intro b1 b2 b3 b4 u
    have hu : yf_fr [19] [] [11, 35] [] u u := yf_refl
    unfold jb_Checker_checkWays_28
    refine yf_let ?_
    refine yf_ite (yf_seq (yf_call hu yf_fm_Checker_lose (by decide)) fun _ _ h => yf_some h) ?_
    refine yf_ite yf_none ?_
    refine yf_try (yf_call hu yf_fm_Checker_blockAt (by decide)) fun _ w h => ?_
    refine yf_ite yf_none ?_
    refine yf_letS (yf_A h (by decide)) fun w1 h1 => ?_
    refine yf_seq (yf_call h1 yf_fm_Checker_wayCount (by decide)) fun _ w2 h2 => ?_
    exact yf_ite (yf_call h2 (yf_jb_Checker_checkWays_79 (by intros; apply ih)) (by decide)) (yf_call h2 (yf_jb_Checker_checkWays_79 (by intros; apply ih)) (by decide))
theorem yf_fm_Checker_checkWays {fu : Nat} {x0 : Int32} {x1 : Int32} {u : xk_St} : yf_F [19] [] [11, 35] [] u (fm_Checker_checkWays fu x0 x1 u) := by
  have hu : yf_fr [19] [] [11, 35] [] u u := yf_refl
  unfold fm_Checker_checkWays
  repeat' with_reducible first
    | refine yf_ite ?_ ?_
    | exact yf_none
    | exact yf_some (by assumption)
    | refine yf_seq ?_ (fun _ _ _ => ?_)
    | refine yf_try ?_ (fun _ _ _ => ?_)
    | exact yf_call (by assumption) (yf_fm_Checker_pop_I) (by decide)
    | exact yf_call (by assumption) (yf_fm_Checker_blockAt) (by decide)
    | exact yf_call (by assumption) (yf_fm_Checker_wayCount) (by decide)
    | exact yf_call (by assumption) (yf_jb_Checker_checkWays_28) (by decide)
theorem yf_jb_Checker_checkControl_113 {fu : Nat} {b2 : Int32} {u : xk_St} : yf_F [19, 20, 21, 22] [] [9, 10, 11, 33, 34, 35, 36] [2] u (jb_Checker_checkControl_113 fu b2 u) := by
  have hu : yf_fr [19, 20, 21, 22] [] [9, 10, 11, 33, 34, 35, 36] [2] u u := yf_refl
  unfold jb_Checker_checkControl_113
  repeat' with_reducible first
    | refine yf_ite ?_ ?_
    | exact yf_none
    | exact yf_some (by assumption)
    | refine yf_try ?_ (fun _ _ _ => ?_)
    | exact yf_call (by assumption) (yf_fm_Checker_open) (by decide)
theorem yf_jb_Checker_checkControl_141 {fu : Nat} {u : xk_St} : yf_F [19, 20, 21, 22] [] [9, 10, 11, 33, 34, 35, 36] [2] u (jb_Checker_checkControl_141 fu u) := by
  have hu : yf_fr [19, 20, 21, 22] [] [9, 10, 11, 33, 34, 35, 36] [2] u u := yf_refl
  unfold jb_Checker_checkControl_141
  repeat' with_reducible first
    | refine yf_ite ?_ ?_
    | exact yf_none
    | exact yf_some (by assumption)
    | refine yf_try ?_ (fun _ _ _ => ?_)
    | exact yf_call (by assumption) (yf_fm_Checker_close) (by decide)
theorem yf_fm_Checker_checkControl {fu : Nat} {x0 : Int32} {x1 : Int32} {u : xk_St} : yf_F [19, 20, 21, 22] [] [9, 10, 11, 33, 34, 35, 36] [2] u (fm_Checker_checkControl fu x0 x1 u) := by
  have hu : yf_fr [19, 20, 21, 22] [] [9, 10, 11, 33, 34, 35, 36] [2] u u := yf_refl
  have h113 : yf_F [19, 20, 21, 22] [] [9, 10, 11, 33, 34, 35, 36] [2] u (jb_Checker_checkControl_113 fu x1 u) := yf_call hu yf_jb_Checker_checkControl_113 (by decide)
  have h141 : yf_F [19, 20, 21, 22] [] [9, 10, 11, 33, 34, 35, 36] [2] u (jb_Checker_checkControl_141 fu u) := yf_call hu yf_jb_Checker_checkControl_141 (by decide)
  unfold fm_Checker_checkControl
  refine yf_ite (yf_seq (yf_call hu yf_fm_Checker_lose (by decide)) fun _ _ h => yf_some h) ?_
  refine yf_ite (yf_some hu) (yf_ite h113 (yf_ite h113 ?_))
  refine yf_ite (yf_try (yf_call hu yf_fm_Checker_pop_I (by decide)) fun _ _ h => yf_try (yf_call h yf_fm_Checker_open (by decide)) fun _ _ h => yf_some h) ?_
  refine yf_ite (yf_try (yf_call hu yf_fm_Checker_turn (by decide)) fun _ _ h => yf_some h) ?_
  refine yf_ite (yf_some hu) (yf_ite h141 ?_)
  refine yf_ite (yf_ite yf_none (yf_ite yf_none (yf_try (yf_call hu yf_fm_Checker_declare (by decide)) fun _ _ h => yf_some h))) ?_
  refine yf_ite (yf_some hu) (yf_ite (yf_some hu) (yf_ite h141 ?_))
  refine yf_ite (yf_try (yf_call hu yf_fm_Checker_branch (by decide)) fun _ _ h => yf_seq (yf_call h yf_fm_Checker_wayCount (by decide)) fun _ _ h => yf_try (yf_call h yf_fm_Checker_popWay (by decide)) fun _ _ h => yf_seq (yf_call h yf_fm_Checker_lose (by decide)) fun _ _ h => yf_some h) ?_
  refine yf_ite (yf_try (yf_call hu yf_fm_Checker_pop_I (by decide)) fun _ _ h => yf_try (yf_call h yf_fm_Checker_branch (by decide)) fun _ _ h => yf_seq (yf_call h yf_fm_Checker_wayCount (by decide)) fun _ _ h => yf_try (yf_call h yf_fm_Checker_popWay (by decide)) fun _ _ h => yf_seq (yf_call h yf_fm_Checker_wayCount (by decide)) fun _ _ h => yf_try (yf_call h yf_fm_Checker_pushWay (by decide)) fun _ _ h => yf_some h) ?_
  refine yf_ite (yf_ite yf_none (yf_ite yf_none (yf_try (yf_call hu yf_fm_Checker_checkWays (by decide)) fun _ _ h => yf_some h))) ?_
  refine yf_ite (yf_ite yf_none (yf_ite yf_none (yf_seq (yf_call hu yf_fm_Checker_wayCount (by decide)) fun _ _ h => yf_try (yf_call h yf_fm_Checker_popWay (by decide)) fun _ _ h => yf_seq (yf_call h yf_fm_Checker_lose (by decide)) fun _ _ h => yf_some h))) ?_
  exact yf_some hu
theorem yf_jb_Checker_checkInstruction_90 {fu : Nat} {s0 : Int32} {u : xk_St} : yf_F [19, 20, 21, 22] [] [9, 10, 11, 33, 34, 35, 36] [2] u (jb_Checker_checkInstruction_90 fu s0 u) := by
  have hu : yf_fr [19, 20, 21, 22] [] [9, 10, 11, 33, 34, 35, 36] [2] u u := yf_refl
  unfold jb_Checker_checkInstruction_90
  repeat' with_reducible first
    | refine yf_ite ?_ ?_
    | exact yf_none
    | exact yf_some (by assumption)
    | refine yf_try ?_ (fun _ _ _ => ?_)
    | exact yf_call (by assumption) (yf_fm_Checker_push) (by decide)
theorem yf_fm_Checker_checkInstruction {fu : Nat} {x0 : Int32} {u : xk_St} : yf_F [19, 20, 21, 22] [] [9, 10, 11, 33, 34, 35, 36] [2] u (fm_Checker_checkInstruction fu x0 u) := by
  have hu : yf_fr [19, 20, 21, 22] [] [9, 10, 11, 33, 34, 35, 36] [2] u u := yf_refl
  unfold fm_Checker_checkInstruction
  repeat' with_reducible first
    | refine yf_ite ?_ ?_
    | exact yf_none
    | exact yf_some (by assumption)
    | refine yf_try ?_ (fun _ _ _ => ?_)
    | exact yf_call (by assumption) (yf_fm_Checker_checkKind) (by decide)
    | exact yf_call (by assumption) (yf_fm_Checker_checkArray) (by decide)
    | exact yf_call (by assumption) (yf_fm_Checker_checkStructure) (by decide)
    | exact yf_call (by assumption) (yf_fm_Checker_checkReference) (by decide)
    | exact yf_call (by assumption) (yf_fm_Checker_checkNumeric) (by decide)
    | exact yf_call (by assumption) (yf_jb_Checker_checkInstruction_90) (by decide)
    | exact yf_call (by assumption) (yf_fm_Checker_checkMemory) (by decide)
    | exact yf_call (by assumption) (yf_fm_Checker_checkSimple) (by decide)
    | exact yf_call (by assumption) (yf_fm_Checker_checkControl) (by decide)
    | refine yf_letV (fun _ => ?_)
theorem yf_jb_Checker_checkBody_139 {fu : Nat} {b1 : Int32} {u : xk_St} : yf_F [19, 20, 21, 22] [] [8, 9, 10, 11, 14, 33, 34, 35, 36] [2] u (jb_Checker_checkBody_139 fu b1 u) := by
  have hu : yf_fr [19, 20, 21, 22] [] [8, 9, 10, 11, 14, 33, 34, 35, 36] [2] u u := yf_refl
  unfold jb_Checker_checkBody_139
  repeat' with_reducible first
    | refine yf_ite ?_ ?_
    | exact yf_none
    | exact yf_some (by assumption)
    | refine yf_letS (yf_A (by assumption) (by decide)) (fun _ _ => ?_)
    | refine yf_letV (fun _ => ?_)
theorem yf_jb_Checker_checkBody_108 {fu : Nat} : ∀ {n : Nat} {b1 : Int32} {b4 : Int32} {u : xk_St}, yf_F [19, 20, 21, 22] [] [8, 9, 10, 11, 14, 33, 34, 35, 36] [2] u (jb_Checker_checkBody_108 fu n b1 b4 u) := by
  intro n
  induction n with
  | zero => intros; exact yf_none
  | succ n ih =>
    intro b1 b4 u
    have hu : yf_fr [19, 20, 21, 22] [] [8, 9, 10, 11, 14, 33, 34, 35, 36] [2] u u := yf_refl
    unfold jb_Checker_checkBody_108
    refine yf_let ?_
    repeat' with_reducible first
    | refine yf_ite ?_ ?_
      | exact yf_none
      | exact yf_some (by assumption)
        | refine yf_try ?_ (fun _ _ _ => ?_)
      | exact yf_call (by assumption) (yf_jb_Checker_checkBody_139) (by decide)
      | exact yf_call (by assumption) (yf_fm_Checker_checkInstruction) (by decide)
      | exact yf_call (by assumption) (ih ..) (by decide)
      | refine yf_letV (fun _ => ?_)
theorem yf_jb_Checker_checkBody_42 {fu : Nat} : ∀ {n : Nat} {b1 : Int32} {b2 : Int32} {b3 : Int32} {b4 : Int32} {u : xk_St}, yf_F [19, 20, 21, 22] [] [8, 9, 10, 11, 14, 33, 34, 35, 36] [2] u (jb_Checker_checkBody_42 fu n b1 b2 b3 b4 u) := by
  intro n
  induction n with
  | zero => intros; exact yf_none
  | succ n ih =>
    intro b1 b2 b3 b4 u
    have hu : yf_fr [19, 20, 21, 22] [] [8, 9, 10, 11, 14, 33, 34, 35, 36] [2] u u := yf_refl
    unfold jb_Checker_checkBody_42
    refine yf_let ?_
    repeat' with_reducible first
    | refine yf_ite ?_ ?_
      | exact yf_none
      | exact yf_some (by assumption)
        | refine yf_letS (yf_I (by assumption) (by decide)) (fun _ _ => ?_)
      | refine yf_letS (yf_A (by assumption) (by decide)) (fun _ _ => ?_)
      | refine yf_seq ?_ (fun _ _ _ => ?_)
      | refine yf_try ?_ (fun _ _ _ => ?_)
      | exact yf_call (by assumption) (yf_fm_Checker_openPart) (by decide)
      | exact yf_call (by assumption) (yf_jb_Checker_checkBody_108) (by decide)
      | exact yf_call (by assumption) (yf_fm_Types_member) (by decide)
      | exact yf_call (by assumption) (ih ..) (by decide)
      | refine yf_letV (fun _ => ?_)
theorem yf_fm_Checker_checkBody {fu : Nat} {x0 : Int32} {u : xk_St} : yf_F [19, 20, 21, 22] [] [8, 9, 10, 11, 14, 33, 34, 35, 36] [2] u (fm_Checker_checkBody fu x0 u) := by
  have hu : yf_fr [19, 20, 21, 22] [] [8, 9, 10, 11, 14, 33, 34, 35, 36] [2] u u := yf_refl
  unfold fm_Checker_checkBody
  repeat' with_reducible first
    | refine yf_ite ?_ ?_
    | exact yf_none
    | exact yf_some (by assumption)
    | refine yf_letS (yf_I (by assumption) (by decide)) (fun _ _ => ?_)
    | exact yf_call (by assumption) (yf_jb_Checker_checkBody_42) (by decide)
    | refine yf_letV (fun _ => ?_)
