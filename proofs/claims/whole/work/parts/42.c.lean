theorem yf_jb_Checker_checkLength_37 {u : xk_St} : yf_F [19] [] [33] [] u (jb_Checker_checkLength_37 u) := by
  have hu : yf_fr [19] [] [33] [] u u := yf_refl
  unfold jb_Checker_checkLength_37
  repeat' with_reducible first
    | exact yf_none
    | exact yf_some (by assumption)
    | refine yf_ite ?_ ?_
    | exact yf_call (by assumption) (yf_jb_Checker_checkLength_38) (by decide)
theorem yf_fm_Checker_checkLength {u : xk_St} : yf_F [19] [] [33] [] u (fm_Checker_checkLength u) := by
  have hu : yf_fr [19] [] [33] [] u u := yf_refl
  unfold fm_Checker_checkLength
  repeat' with_reducible first
    | exact yf_none
    | exact yf_some (by assumption)
    | refine yf_ite ?_ ?_
    | refine yf_seq ?_ (fun _ _ _ => ?_)
    | refine yf_try ?_ (fun _ _ _ => ?_)
    | exact yf_call (by assumption) (yf_fm_Checker_popReference) (by decide)
    | exact yf_call (by assumption) (yf_fm_Types_target) (by decide)
    | exact yf_call (by assumption) (yf_jb_Checker_checkLength_33) (by decide)
    | exact yf_call (by assumption) (yf_jb_Checker_checkLength_37) (by decide)
    | exact yf_call (by assumption) (yf_fm_Types_is) (by decide)
theorem yf_jb_Checker_checkArray_145 {fu : Nat} {b5 : Int32} {s0 : Int32} {u : xk_St} : yf_F [19] [] [33] [] u (jb_Checker_checkArray_145 fu b5 s0 u) := by
  have hu : yf_fr [19] [] [33] [] u u := yf_refl
  unfold jb_Checker_checkArray_145
  repeat' with_reducible first
    | exact yf_none
    | exact yf_some (by assumption)
    | refine yf_ite ?_ ?_
    | refine yf_seq ?_ (fun _ _ _ => ?_)
    | refine yf_try ?_ (fun _ _ _ => ?_)
    | exact yf_call (by assumption) (yf_fm_Checker_need) (by decide)
    | exact yf_call (by assumption) (yf_fm_Types_unpacked) (by decide)
    | exact yf_call (by assumption) (yf_fm_Checker_push) (by decide)
theorem yf_jb_Checker_checkArray_137 {fu : Nat} {b5 : Int32} {s0 : Int32} {s1 : Int32} {u : xk_St} : yf_F [19] [] [33] [] u (jb_Checker_checkArray_137 fu b5 s0 s1 u) := by
  have hu : yf_fr [19] [] [33] [] u u := yf_refl
  unfold jb_Checker_checkArray_137
  repeat' with_reducible first
    | exact yf_none
    | exact yf_some (by assumption)
    | refine yf_ite ?_ ?_
    | exact yf_call (by assumption) (yf_jb_Checker_checkArray_145) (by decide)
theorem yf_jb_Checker_checkArray_99 {fu : Nat} {b1 : Int32} {b2 : Int32} {b5 : Int32} {u : xk_St} : yf_F [19] [] [33] [] u (jb_Checker_checkArray_99 fu b1 b2 b5 u) := by
  have hu : yf_fr [19] [] [33] [] u u := yf_refl
  unfold jb_Checker_checkArray_99
  repeat' with_reducible first
    | exact yf_none
    | exact yf_some (by assumption)
    | refine yf_ite ?_ ?_
    | refine yf_seq ?_ (fun _ _ _ => ?_)
    | refine yf_try ?_ (fun _ _ _ => ?_)
    | exact yf_call (by assumption) (yf_fm_Checker_pop_I) (by decide)
    | exact yf_call (by assumption) (yf_fm_Types_reference) (by decide)
    | exact yf_call (by assumption) (yf_fm_Types_isPacked) (by decide)
    | exact yf_call (by assumption) (yf_jb_Checker_checkArray_137) (by decide)
theorem yf_jb_Checker_checkArray_72 {fu : Nat} {b1 : Int32} {b2 : Int32} {b5 : Int32} {u : xk_St} : yf_F [19] [] [33] [] u (jb_Checker_checkArray_72 fu b1 b2 b5 u) := by
  have hu : yf_fr [19] [] [33] [] u u := yf_refl
  unfold jb_Checker_checkArray_72
  repeat' with_reducible first
    | exact yf_none
    | exact yf_some (by assumption)
    | refine yf_ite ?_ ?_
    | refine yf_seq ?_ (fun _ _ _ => ?_)
    | refine yf_try ?_ (fun _ _ _ => ?_)
    | exact yf_call (by assumption) (yf_jb_Checker_checkArray_99) (by decide)
    | exact yf_call (by assumption) (yf_fm_Types_canBeSet) (by decide)
    | exact yf_call (by assumption) (yf_fm_Checker_need) (by decide)
    | exact yf_call (by assumption) (yf_fm_Types_unpacked) (by decide)
    | exact yf_call (by assumption) (yf_fm_Checker_pop_I) (by decide)
theorem yf_fm_Checker_checkArray {fu : Nat} {x0 : Int32} {x1 : Int32} {x2 : Int64} {u : xk_St} : yf_F [19] [] [33] [] u (fm_Checker_checkArray fu x0 x1 x2 u) := by
  have hu : yf_fr [19] [] [33] [] u u := yf_refl
  unfold fm_Checker_checkArray
  repeat' with_reducible first
    | exact yf_none
    | exact yf_some (by assumption)
    | refine yf_ite ?_ ?_
    | refine yf_seq ?_ (fun _ _ _ => ?_)
    | refine yf_try ?_ (fun _ _ _ => ?_)
    | exact yf_call (by assumption) (yf_fm_Checker_checkLength) (by decide)
    | exact yf_call (by assumption) (yf_fm_Types_is) (by decide)
    | exact yf_call (by assumption) (yf_fm_Checker_need) (by decide)
    | exact yf_call (by assumption) (yf_fm_Types_member) (by decide)
    | exact yf_call (by assumption) (yf_fm_Checker_pop_I) (by decide)
    | exact yf_call (by assumption) (yf_jb_Checker_checkArray_72) (by decide)
    | exact yf_call (by assumption) (yf_fm_Checker_checkNewArray) (by decide)
    | exact yf_call (by assumption) (yf_fm_Types_reference) (by decide)
    | exact yf_call (by assumption) (yf_fm_Checker_push) (by decide)
theorem yf_jb_Checker_checkStructure_199 {fu : Nat} {b2 : Int32} {b6 : Int32} {s0 : Int32} {u : xk_St} : yf_F [19] [] [33] [] u (jb_Checker_checkStructure_199 fu b2 b6 s0 u) := by
  have hu : yf_fr [19] [] [33] [] u u := yf_refl
  unfold jb_Checker_checkStructure_199
  repeat' with_reducible first
    | exact yf_none
    | exact yf_some (by assumption)
    | refine yf_ite ?_ ?_
    | refine yf_seq ?_ (fun _ _ _ => ?_)
    | refine yf_try ?_ (fun _ _ _ => ?_)
    | exact yf_call (by assumption) (yf_fm_Checker_need) (by decide)
    | exact yf_call (by assumption) (yf_fm_Types_reference) (by decide)
    | exact yf_call (by assumption) (yf_fm_Checker_pop_I) (by decide)
    | exact yf_call (by assumption) (yf_fm_Types_unpacked) (by decide)
    | exact yf_call (by assumption) (yf_fm_Checker_push) (by decide)
theorem yf_jb_Checker_checkStructure_191 {fu : Nat} {b2 : Int32} {b6 : Int32} {s0 : Int32} {s1 : Int32} {u : xk_St} : yf_F [19] [] [33] [] u (jb_Checker_checkStructure_191 fu b2 b6 s0 s1 u) := by
  have hu : yf_fr [19] [] [33] [] u u := yf_refl
  unfold jb_Checker_checkStructure_191
  repeat' with_reducible first
    | exact yf_none
    | exact yf_some (by assumption)
    | refine yf_ite ?_ ?_
    | exact yf_call (by assumption) (yf_jb_Checker_checkStructure_199) (by decide)
theorem yf_jb_Checker_checkStructure_120 {fu : Nat} {b1 : Int32} {b2 : Int32} {b3 : Int64} {s0 : Int32} {u : xk_St} : yf_F [19] [] [33] [] u (jb_Checker_checkStructure_120 fu b1 b2 b3 s0 u) := by
  have hu : yf_fr [19] [] [33] [] u u := yf_refl
  unfold jb_Checker_checkStructure_120
  repeat' with_reducible first
    | exact yf_none
    | exact yf_some (by assumption)
    | refine yf_ite ?_ ?_
    | refine yf_seq ?_ (fun _ _ _ => ?_)
    | refine yf_try ?_ (fun _ _ _ => ?_)
    | exact yf_call (by assumption) (yf_fm_Checker_need) (by decide)
    | exact yf_call (by assumption) (yf_fm_Types_member) (by decide)
    | exact yf_call (by assumption) (yf_fm_Types_canBeSet) (by decide)
    | exact yf_call (by assumption) (yf_fm_Types_unpacked) (by decide)
    | exact yf_call (by assumption) (yf_fm_Checker_pop_I) (by decide)
    | exact yf_call (by assumption) (yf_fm_Types_reference) (by decide)
    | exact yf_call (by assumption) (yf_fm_Types_isPacked) (by decide)
    | exact yf_call (by assumption) (yf_jb_Checker_checkStructure_191) (by decide)
theorem yf_jb_Checker_checkStructure_89 {fu : Nat} {k35 : Int32 → Int32 → Int32 → xk_St → Option ((Unit ⊕ Nat) × xk_St)} {b1 : Int32} {b2 : Int32} {b6 : Int32} {u : xk_St} (hk35 : ∀ c0 c1 c2 v, yf_F [19] [] [33] [] v (k35 c0 c1 c2 v)) : yf_F [19] [] [33] [] u (jb_Checker_checkStructure_89 fu k35 b1 b2 b6 u) := by
  have hu : yf_fr [19] [] [33] [] u u := yf_refl
  unfold jb_Checker_checkStructure_89
  repeat' with_reducible first
    | exact yf_none
    | exact yf_some (by assumption)
    | refine yf_ite ?_ ?_
    | exact yf_call (by assumption) (hk35 ..) (by decide)
    | refine yf_letV (fun _ => ?_)
theorem yf_jb_Checker_checkStructure_65 {fu : Nat} {k35 : Int32 → Int32 → Int32 → xk_St → Option ((Unit ⊕ Nat) × xk_St)} {b1 : Int32} {b2 : Int32} {b6 : Int32} {s0 : Int32} {u : xk_St} (hk35 : ∀ c0 c1 c2 v, yf_F [19] [] [33] [] v (k35 c0 c1 c2 v)) : yf_F [19] [] [33] [] u (jb_Checker_checkStructure_65 fu k35 b1 b2 b6 s0 u) := by
  have hu : yf_fr [19] [] [33] [] u u := yf_refl
  unfold jb_Checker_checkStructure_65
  repeat' with_reducible first
    | exact yf_none
    | exact yf_some (by assumption)
    | refine yf_ite ?_ ?_
    | refine yf_seq ?_ (fun _ _ _ => ?_)
    | refine yf_try ?_ (fun _ _ _ => ?_)
    | exact yf_call (by assumption) (yf_fm_Checker_need) (by decide)
    | exact yf_call (by assumption) (yf_fm_Types_member) (by decide)
    | exact yf_call (by assumption) (yf_fm_Types_unpacked) (by decide)
    | exact yf_call (by assumption) (yf_fm_Checker_pop_I) (by decide)
    | exact yf_call (by assumption) (yf_jb_Checker_checkStructure_89 (by intros; first | apply hk35)) (by decide)
    | exact yf_call (by assumption) (hk35 ..) (by decide)
theorem yf_jb_Checker_checkStructure_60 {fu : Nat} {k35 : Int32 → Int32 → Int32 → xk_St → Option ((Unit ⊕ Nat) × xk_St)} {b1 : Int32} {b2 : Int32} {b6 : Int32} {u : xk_St} (hk35 : ∀ c0 c1 c2 v, yf_F [19] [] [33] [] v (k35 c0 c1 c2 v)) : yf_F [19] [] [33] [] u (jb_Checker_checkStructure_60 fu k35 b1 b2 b6 u) := by
  have hu : yf_fr [19] [] [33] [] u u := yf_refl
  unfold jb_Checker_checkStructure_60
  repeat' with_reducible first
    | exact yf_none
    | exact yf_some (by assumption)
    | refine yf_ite ?_ ?_
    | exact yf_call (by assumption) (yf_jb_Checker_checkStructure_65 (by intros; first | apply hk35)) (by decide)
    | exact yf_call (by assumption) (hk35 ..) (by decide)
theorem yf_jb_Checker_checkStructure_35 {fu : Nat} : ∀ {n : Nat} {b1 : Int32} {b2 : Int32} {b6 : Int32} {u : xk_St}, yf_F [19] [] [33] [] u (jb_Checker_checkStructure_35 fu n b1 b2 b6 u) := by
  intro n
  induction n with
  | zero => intros; exact yf_none
  | succ n ih =>
    intro b1 b2 b6 u
    have hu : yf_fr [19] [] [33] [] u u := yf_refl
    unfold jb_Checker_checkStructure_35
    refine yf_let ?_
    repeat' with_reducible first
      | exact yf_none
      | exact yf_some (by assumption)
      | refine yf_ite ?_ ?_
      | refine yf_seq ?_ (fun _ _ _ => ?_)
      | refine yf_try ?_ (fun _ _ _ => ?_)
      | exact yf_call (by assumption) (yf_fm_Types_reference) (by decide)
      | exact yf_call (by assumption) (yf_fm_Checker_push) (by decide)
      | exact yf_call (by assumption) (yf_jb_Checker_checkStructure_60 (by intros; first | apply ih)) (by decide)
      | exact yf_call (by assumption) (yf_fm_Types_member) (by decide)
      | exact yf_call (by assumption) (yf_fm_Types_hasDefault) (by decide)
      | exact yf_call (by assumption) (yf_jb_Checker_checkStructure_65 (by intros; first | apply ih)) (by decide)
      | exact yf_call (by assumption) (ih ..) (by decide)
      | refine yf_letV (fun _ => ?_)
theorem yf_fm_Checker_checkStructure {fu : Nat} {x0 : Int32} {x1 : Int32} {x2 : Int64} {u : xk_St} : yf_F [19] [] [33] [] u (fm_Checker_checkStructure fu x0 x1 x2 u) := by
  have hu : yf_fr [19] [] [33] [] u u := yf_refl
  unfold fm_Checker_checkStructure
  repeat' with_reducible first
    | exact yf_none
    | exact yf_some (by assumption)
    | refine yf_ite ?_ ?_
    | refine yf_seq ?_ (fun _ _ _ => ?_)
    | refine yf_try ?_ (fun _ _ _ => ?_)
    | exact yf_call (by assumption) (yf_fm_Types_is) (by decide)
    | exact yf_call (by assumption) (yf_fm_Checker_need) (by decide)
    | exact yf_call (by assumption) (yf_jb_Checker_checkStructure_120) (by decide)
    | exact yf_call (by assumption) (yf_jb_Checker_checkStructure_35) (by decide)
    | refine yf_letV (fun _ => ?_)
theorem yf_jb_Checker_blockAt_13 {b1 : Int32} {s0 : Int32} {u : xk_St} : yf_F [] [] [] [] u (jb_Checker_blockAt_13 b1 s0 u) := by
  have hu : yf_fr [] [] [] [] u u := yf_refl
  unfold jb_Checker_blockAt_13
  repeat' with_reducible first
    | exact yf_none
    | exact yf_some (by assumption)
    | refine yf_ite ?_ ?_
    | refine yf_try ?_ (fun _ _ _ => ?_)
    | exact yf_call (by assumption) (yf_fm_Checker_need) (by decide)
theorem yf_fm_Checker_blockAt {x0 : Int32} {u : xk_St} : yf_F [] [] [] [] u (fm_Checker_blockAt x0 u) := by
  have hu : yf_fr [] [] [] [] u u := yf_refl
  unfold fm_Checker_blockAt
  repeat' with_reducible first
    | exact yf_none
    | exact yf_some (by assumption)
    | refine yf_ite ?_ ?_
    | exact yf_call (by assumption) (yf_jb_Checker_blockAt_13) (by decide)
theorem yf_fm_Checker_branch {x0 : Int32} {u : xk_St} : yf_F [] [] [9] [] u (fm_Checker_branch x0 u) := by
  have hu : yf_fr [] [] [9] [] u u := yf_refl
  unfold fm_Checker_branch
  repeat' with_reducible first
    | exact yf_none
    | exact yf_some (by assumption)
    | refine yf_ite ?_ ?_
    | refine yf_letS (yf_A (by assumption) (by decide)) (fun _ _ => ?_)
    | refine yf_try ?_ (fun _ _ _ => ?_)
    | exact yf_call (by assumption) (yf_fm_Checker_blockAt) (by decide)
    | refine yf_letV (fun _ => ?_)
theorem yf_fm_Checker_wayCount {x0 : Int32} {u : xk_St} : yf_F [] [] [] [] u (fm_Checker_wayCount x0 u) := by
  have hu : yf_fr [] [] [] [] u u := yf_refl
  unfold fm_Checker_wayCount
  repeat' with_reducible first
    | exact yf_none
    | exact yf_some (by assumption)
    | refine yf_ite ?_ ?_
theorem yf_fm_Checker_wayType {x0 : Int32} {x1 : Int32} {u : xk_St} : yf_F [] [] [] [] u (fm_Checker_wayType x0 x1 u) := by
  have hu : yf_fr [] [] [] [] u u := yf_refl
  unfold fm_Checker_wayType
  refine yf_ite yf_none ?_
  refine yf_letV fun _ => ?_
  refine yf_ite ?_ (yf_some hu)
  refine yf_letV fun _ => ?_
  exact yf_ite yf_none (yf_ite (yf_seq (yf_call hu yf_fm_Types_member (by decide)) fun _ _ h => yf_some h) (yf_seq (yf_call hu yf_fm_Types_outcome (by decide)) fun _ _ h => yf_some h))
theorem yf_jb_Checker_popWay_4 {fu : Nat} : ∀ {n : Nat} {b1 : Int32} {b3 : Int32} {u : xk_St}, yf_F [19] [] [] [] u (jb_Checker_popWay_4 fu n b1 b3 u) := by
  intro n
  induction n with
  | zero => intros; exact yf_none
  | succ n ih =>
    intro b1 b3 u
    have hu : yf_fr [19] [] [] [] u u := yf_refl
    unfold jb_Checker_popWay_4
    refine yf_let ?_
    repeat' with_reducible first
      | exact yf_none
      | exact yf_some (by assumption)
      | refine yf_ite ?_ ?_
      | refine yf_seq ?_ (fun _ _ _ => ?_)
      | refine yf_try ?_ (fun _ _ _ => ?_)
      | exact yf_call (by assumption) (yf_fm_Checker_wayType) (by decide)
      | exact yf_call (by assumption) (yf_fm_Checker_pop_I) (by decide)
      | exact yf_call (by assumption) (ih ..) (by decide)
      | refine yf_letV (fun _ => ?_)
theorem yf_fm_Checker_popWay {fu : Nat} {x0 : Int32} {x1 : Int32} {u : xk_St} : yf_F [19] [] [] [] u (fm_Checker_popWay fu x0 x1 u) := by
  have hu : yf_fr [19] [] [] [] u u := yf_refl
  unfold fm_Checker_popWay
  repeat' with_reducible first
    | exact yf_none
    | exact yf_some (by assumption)
    | refine yf_ite ?_ ?_
    | exact yf_call (by assumption) (yf_jb_Checker_popWay_4) (by decide)
    | refine yf_letV (fun _ => ?_)
theorem yf_jb_Checker_pushWay_2 {fu : Nat} : ∀ {n : Nat} {b1 : Int32} {b2 : Int32} {b3 : Int32} {u : xk_St}, yf_F [19] [] [33] [] u (jb_Checker_pushWay_2 fu n b1 b2 b3 u) := by
  intro n
  induction n with
  | zero => intros; exact yf_none
  | succ n ih =>
    intro b1 b2 b3 u
    have hu : yf_fr [19] [] [33] [] u u := yf_refl
    unfold jb_Checker_pushWay_2
    refine yf_let ?_
    repeat' with_reducible first
      | exact yf_none
      | exact yf_some (by assumption)
      | refine yf_ite ?_ ?_
      | refine yf_seq ?_ (fun _ _ _ => ?_)
      | refine yf_try ?_ (fun _ _ _ => ?_)
      | exact yf_call (by assumption) (yf_fm_Checker_wayType) (by decide)
      | exact yf_call (by assumption) (yf_fm_Checker_push) (by decide)
      | exact yf_call (by assumption) (ih ..) (by decide)
      | refine yf_letV (fun _ => ?_)
theorem yf_fm_Checker_pushWay {fu : Nat} {x0 : Int32} {x1 : Int32} {u : xk_St} : yf_F [19] [] [33] [] u (fm_Checker_pushWay fu x0 x1 u) := by
  have hu : yf_fr [19] [] [33] [] u u := yf_refl
  unfold fm_Checker_pushWay
  repeat' with_reducible first
    | exact yf_none
    | exact yf_some (by assumption)
    | refine yf_ite ?_ ?_
    | exact yf_call (by assumption) (yf_jb_Checker_pushWay_2) (by decide)
theorem yf_jb_Checker_compute_3 {fu : Nat} : ∀ {n : Nat} {b1 : Int32} {b2 : Int32} {b3 : Int32} {b4 : Int32} {u : xk_St}, yf_F [19] [] [33] [] u (jb_Checker_compute_3 fu n b1 b2 b3 b4 u) := by
  intro n
  induction n with
  | zero => intros; exact yf_none
  | succ n ih =>
    intro b1 b2 b3 b4 u
    have hu : yf_fr [19] [] [33] [] u u := yf_refl
    unfold jb_Checker_compute_3
    refine yf_let ?_
    repeat' with_reducible first
      | exact yf_none
      | exact yf_some (by assumption)
      | refine yf_ite ?_ ?_
      | refine yf_try ?_ (fun _ _ _ => ?_)
      | exact yf_call (by assumption) (yf_fm_Checker_push) (by decide)
      | exact yf_call (by assumption) (yf_fm_Checker_pop_I) (by decide)
      | exact yf_call (by assumption) (ih ..) (by decide)
      | refine yf_letV (fun _ => ?_)
theorem yf_fm_Checker_compute {fu : Nat} {x0 : Int32} {x1 : Int32} {x2 : Int32} {u : xk_St} : yf_F [19] [] [33] [] u (fm_Checker_compute fu x0 x1 x2 u) := by
  have hu : yf_fr [19] [] [33] [] u u := yf_refl
  unfold fm_Checker_compute
  repeat' with_reducible first
    | exact yf_none
    | exact yf_some (by assumption)
    | refine yf_ite ?_ ?_
    | exact yf_call (by assumption) (yf_jb_Checker_compute_3) (by decide)
theorem yf_jb_Checker_checkReference_218 {fu : Nat} {b4 : Int32} {b5 : Int32} {s0 : Int32} {u : xk_St} : yf_F [19] [] [9, 33] [] u (jb_Checker_checkReference_218 fu b4 b5 s0 u) := by
  have hu : yf_fr [19] [] [9, 33] [] u u := yf_refl
  unfold jb_Checker_checkReference_218
  repeat' with_reducible first
    | exact yf_none
    | exact yf_some (by assumption)
    | refine yf_ite ?_ ?_
    | refine yf_try ?_ (fun _ _ _ => ?_)
    | exact yf_call (by assumption) (yf_fm_Checker_need) (by decide)
    | exact yf_call (by assumption) (yf_fm_Checker_popWay) (by decide)
    | exact yf_call (by assumption) (yf_fm_Checker_pushWay) (by decide)
theorem yf_jb_Checker_checkReference_217 {fu : Nat} {b4 : Int32} {b5 : Int32} {u : xk_St} : yf_F [19] [] [9, 33] [] u (jb_Checker_checkReference_217 fu b4 b5 u) := by
  have hu : yf_fr [19] [] [9, 33] [] u u := yf_refl
  unfold jb_Checker_checkReference_217
  repeat' with_reducible first
    | exact yf_none
    | exact yf_some (by assumption)
    | refine yf_ite ?_ ?_
    | exact yf_call (by assumption) (yf_jb_Checker_checkReference_218) (by decide)
theorem yf_jb_Checker_checkReference_164 {fu : Nat} {b2 : Int32} {u : xk_St} : yf_F [19] [] [9, 33] [] u (jb_Checker_checkReference_164 fu b2 u) := by
  have hu : yf_fr [19] [] [9, 33] [] u u := yf_refl
  unfold jb_Checker_checkReference_164
  repeat' with_reducible first
    | exact yf_none
    | exact yf_some (by assumption)
    | refine yf_ite ?_ ?_
    | refine yf_seq ?_ (fun _ _ _ => ?_)
    | refine yf_try ?_ (fun _ _ _ => ?_)
    | exact yf_call (by assumption) (yf_fm_Checker_popReference) (by decide)
    | exact yf_call (by assumption) (yf_fm_Types_notNull) (by decide)
    | exact yf_call (by assumption) (yf_fm_Checker_branch) (by decide)
    | exact yf_call (by assumption) (yf_fm_Checker_wayCount) (by decide)
    | exact yf_call (by assumption) (yf_jb_Checker_checkReference_217) (by decide)
    | exact yf_call (by assumption) (yf_fm_Checker_wayType) (by decide)
    | exact yf_call (by assumption) (yf_fm_Types_fits) (by decide)
    | exact yf_call (by assumption) (yf_jb_Checker_checkReference_218) (by decide)
    | refine yf_letV (fun _ => ?_)
theorem yf_fm_Checker_checkReference {fu : Nat} {x0 : Int32} {x1 : Int32} {u : xk_St} : yf_F [19] [] [9, 33] [] u (fm_Checker_checkReference fu x0 x1 u) := by
  have hu : yf_fr [19] [] [9, 33] [] u u := yf_refl
  unfold fm_Checker_checkReference
  repeat' with_reducible first
    | exact yf_none
    | exact yf_some (by assumption)
    | refine yf_ite ?_ ?_
    | refine yf_seq ?_ (fun _ _ _ => ?_)
    | refine yf_try ?_ (fun _ _ _ => ?_)
    | exact yf_call (by assumption) (yf_fm_Types_knowsTarget) (by decide)
    | exact yf_call (by assumption) (yf_fm_Checker_need) (by decide)
    | exact yf_call (by assumption) (yf_fm_Types_reference) (by decide)
    | exact yf_call (by assumption) (yf_fm_Checker_push) (by decide)
    | exact yf_call (by assumption) (yf_fm_Checker_popReference) (by decide)
    | exact yf_call (by assumption) (yf_jb_Checker_checkReference_164) (by decide)
    | exact yf_call (by assumption) (yf_fm_Checker_compute) (by decide)
    | exact yf_call (by assumption) (yf_fm_Types_notNull) (by decide)
    | exact yf_call (by assumption) (yf_fm_Checker_branch) (by decide)
    | exact yf_call (by assumption) (yf_fm_Checker_wayCount) (by decide)
    | exact yf_call (by assumption) (yf_fm_Checker_popWay) (by decide)
    | exact yf_call (by assumption) (yf_fm_Checker_pushWay) (by decide)
theorem yf_jb_Checker_checkNumeric_97 {fu : Nat} {s0 : Int32} {u : xk_St} : yf_F [19] [] [33] [] u (jb_Checker_checkNumeric_97 fu s0 u) := by
  have hu : yf_fr [19] [] [33] [] u u := yf_refl
  unfold jb_Checker_checkNumeric_97
  repeat' with_reducible first
    | exact yf_none
    | exact yf_some (by assumption)
    | refine yf_ite ?_ ?_
    | refine yf_try ?_ (fun _ _ _ => ?_)
    | exact yf_call (by assumption) (yf_fm_Checker_compute) (by decide)
theorem yf_jb_Checker_checkNumeric_70 {fu : Nat} {s0 : Int32} {u : xk_St} : yf_F [19] [] [33] [] u (jb_Checker_checkNumeric_70 fu s0 u) := by
  have hu : yf_fr [19] [] [33] [] u u := yf_refl
  unfold jb_Checker_checkNumeric_70
  repeat' with_reducible first
    | exact yf_none
    | exact yf_some (by assumption)
    | refine yf_ite ?_ ?_
    | refine yf_try ?_ (fun _ _ _ => ?_)
    | exact yf_call (by assumption) (yf_fm_Checker_compute) (by decide)
theorem yf_jb_Checker_checkNumeric_44 {fu : Nat} {s0 : Int32} {u : xk_St} : yf_F [19] [] [33] [] u (jb_Checker_checkNumeric_44 fu s0 u) := by
  have hu : yf_fr [19] [] [33] [] u u := yf_refl
  unfold jb_Checker_checkNumeric_44
  repeat' with_reducible first
    | exact yf_none
    | exact yf_some (by assumption)
    | refine yf_ite ?_ ?_
    | refine yf_try ?_ (fun _ _ _ => ?_)
    | exact yf_call (by assumption) (yf_fm_Checker_compute) (by decide)
theorem yf_jb_Checker_checkNumeric_18 {fu : Nat} {s0 : Int32} {u : xk_St} : yf_F [19] [] [33] [] u (jb_Checker_checkNumeric_18 fu s0 u) := by
  have hu : yf_fr [19] [] [33] [] u u := yf_refl
  unfold jb_Checker_checkNumeric_18
  repeat' with_reducible first
    | exact yf_none
    | exact yf_some (by assumption)
    | refine yf_ite ?_ ?_
    | refine yf_try ?_ (fun _ _ _ => ?_)
    | exact yf_call (by assumption) (yf_fm_Checker_compute) (by decide)
theorem yf_fm_Checker_checkNumeric {fu : Nat} {x0 : Int32} {u : xk_St} : yf_F [19] [] [33] [] u (fm_Checker_checkNumeric fu x0 u) := by
  have hu : yf_fr [19] [] [33] [] u u := yf_refl
  unfold fm_Checker_checkNumeric
  repeat' with_reducible first
    | exact yf_none
    | exact yf_some (by assumption)
    | refine yf_ite ?_ ?_
    | refine yf_try ?_ (fun _ _ _ => ?_)
    | exact yf_call (by assumption) (yf_fm_Checker_compute) (by decide)
    | exact yf_call (by assumption) (yf_jb_Checker_checkNumeric_97) (by decide)
    | exact yf_call (by assumption) (yf_jb_Checker_checkNumeric_70) (by decide)
    | exact yf_call (by assumption) (yf_jb_Checker_checkNumeric_44) (by decide)
    | exact yf_call (by assumption) (yf_jb_Checker_checkNumeric_18) (by decide)
theorem yf_jb_Memory_isWide_30 {u : xk_St} : yf_F [] [] [] [] u (jb_Memory_isWide_30 u) := by
  have hu : yf_fr [] [] [] [] u u := yf_refl
  unfold jb_Memory_isWide_30
  repeat' with_reducible first
    | exact yf_none
    | exact yf_some (by assumption)
    | refine yf_ite ?_ ?_
theorem yf_jb_Memory_isWide_18 {b0 : Int32} {u : xk_St} : yf_F [] [] [] [] u (jb_Memory_isWide_18 b0 u) := by
  have hu : yf_fr [] [] [] [] u u := yf_refl
  unfold jb_Memory_isWide_18
  repeat' with_reducible first
    | exact yf_none
    | exact yf_some (by assumption)
    | refine yf_ite ?_ ?_
    | exact yf_call (by assumption) (yf_jb_Memory_isWide_30) (by decide)
theorem yf_fm_Memory_isWide {x0 : Int32} {u : xk_St} : yf_F [] [] [] [] u (fm_Memory_isWide x0 u) := by
  have hu : yf_fr [] [] [] [] u u := yf_refl
  unfold fm_Memory_isWide
  repeat' with_reducible first
    | exact yf_none
    | exact yf_some (by assumption)
    | refine yf_ite ?_ ?_
    | exact yf_call (by assumption) (yf_jb_Memory_isWide_30) (by decide)
    | exact yf_call (by assumption) (yf_jb_Memory_isWide_18) (by decide)
theorem yf_jb_Checker_checkMemory_80 {b1 : Int32} {s0 : Int32} {u : xk_St} : yf_F [19] [] [33] [] u (jb_Checker_checkMemory_80 b1 s0 u) := by
  have hu : yf_fr [19] [] [33] [] u u := yf_refl
  unfold jb_Checker_checkMemory_80
  repeat' with_reducible first
    | exact yf_none
    | exact yf_some (by assumption)
    | refine yf_ite ?_ ?_
    | refine yf_try ?_ (fun _ _ _ => ?_)
    | exact yf_call (by assumption) (yf_fm_Checker_pop_I) (by decide)
    | exact yf_call (by assumption) (yf_fm_Checker_push) (by decide)
theorem yf_jb_Checker_checkMemory_65 {b1 : Int32} {s0 : Int32} {u : xk_St} : yf_F [19] [] [33] [] u (jb_Checker_checkMemory_65 b1 s0 u) := by
  have hu : yf_fr [19] [] [33] [] u u := yf_refl
  unfold jb_Checker_checkMemory_65
  repeat' with_reducible first
    | exact yf_none
    | exact yf_some (by assumption)
    | refine yf_ite ?_ ?_
    | refine yf_seq ?_ (fun _ _ _ => ?_)
    | refine yf_try ?_ (fun _ _ _ => ?_)
    | exact yf_call (by assumption) (yf_fm_Checker_need) (by decide)
    | exact yf_call (by assumption) (yf_fm_Memory_isWide) (by decide)
    | exact yf_call (by assumption) (yf_jb_Checker_checkMemory_80) (by decide)
theorem yf_jb_Checker_checkMemory_64 {b1 : Int32} {u : xk_St} : yf_F [19] [] [33] [] u (jb_Checker_checkMemory_64 b1 u) := by
  have hu : yf_fr [19] [] [33] [] u u := yf_refl
  unfold jb_Checker_checkMemory_64
  repeat' with_reducible first
    | exact yf_none
    | exact yf_some (by assumption)
    | refine yf_ite ?_ ?_
    | exact yf_call (by assumption) (yf_jb_Checker_checkMemory_65) (by decide)
theorem yf_jb_Checker_checkMemory_39 {u : xk_St} : yf_F [19] [] [33] [] u (jb_Checker_checkMemory_39 u) := by
  have hu : yf_fr [19] [] [33] [] u u := yf_refl
  unfold jb_Checker_checkMemory_39
  repeat' with_reducible first
    | exact yf_none
    | exact yf_some (by assumption)
    | refine yf_ite ?_ ?_
    | refine yf_try ?_ (fun _ _ _ => ?_)
    | exact yf_call (by assumption) (yf_fm_Checker_push) (by decide)
theorem yf_jb_Checker_checkMemory_19 {b1 : Int32} {b2 : Int32} {s0 : Int32} {u : xk_St} : yf_F [19] [] [33] [] u (jb_Checker_checkMemory_19 b1 b2 s0 u) := by
  have hu : yf_fr [19] [] [33] [] u u := yf_refl
  unfold jb_Checker_checkMemory_19
  repeat' with_reducible first
    | exact yf_none
    | exact yf_some (by assumption)
    | refine yf_ite ?_ ?_
    | refine yf_seq ?_ (fun _ _ _ => ?_)
    | refine yf_try ?_ (fun _ _ _ => ?_)
    | exact yf_call (by assumption) (yf_fm_Checker_need) (by decide)
    | exact yf_call (by assumption) (yf_jb_Checker_checkMemory_64) (by decide)
    | exact yf_call (by assumption) (yf_fm_Memory_width) (by decide)
    | exact yf_call (by assumption) (yf_jb_Checker_checkMemory_65) (by decide)
    | exact yf_call (by assumption) (yf_fm_Checker_pop_I) (by decide)
    | exact yf_call (by assumption) (yf_jb_Checker_checkMemory_39) (by decide)
theorem yf_fm_Checker_checkMemory {x0 : Int32} {x1 : Int32} {u : xk_St} : yf_F [19] [] [33] [] u (fm_Checker_checkMemory x0 x1 u) := by
  have hu : yf_fr [19] [] [33] [] u u := yf_refl
  unfold fm_Checker_checkMemory
  repeat' with_reducible first
    | exact yf_none
    | exact yf_some (by assumption)
    | refine yf_ite ?_ ?_
    | exact yf_call (by assumption) (yf_jb_Checker_checkMemory_19) (by decide)
theorem yf_jb_Checker_checkCall_37 {fu : Nat} : ∀ {n : Nat} {b1 : Int32} {b2 : Int32} {u : xk_St}, yf_F [19] [] [33] [] u (jb_Checker_checkCall_37 fu n b1 b2 u) := by
  intro n
  induction n with
  | zero => intros; exact yf_none
  | succ n ih =>
    intro b1 b2 u
    have hu : yf_fr [19] [] [33] [] u u := yf_refl
    unfold jb_Checker_checkCall_37
    refine yf_let ?_
    repeat' with_reducible first
      | exact yf_none
      | exact yf_some (by assumption)
      | refine yf_ite ?_ ?_
      | refine yf_seq ?_ (fun _ _ _ => ?_)
      | refine yf_try ?_ (fun _ _ _ => ?_)
      | exact yf_call (by assumption) (yf_fm_Types_outcome) (by decide)
      | exact yf_call (by assumption) (yf_fm_Checker_push) (by decide)
      | exact yf_call (by assumption) (ih ..) (by decide)
      | refine yf_letV (fun _ => ?_)
theorem yf_jb_Checker_checkCall_12 {fu : Nat} : ∀ {n : Nat} {b1 : Int32} {b2 : Int32} {u : xk_St}, yf_F [19] [] [33] [] u (jb_Checker_checkCall_12 fu n b1 b2 u) := by
  intro n
  induction n with
  | zero => intros; exact yf_none
  | succ n ih =>
    intro b1 b2 u
    have hu : yf_fr [19] [] [33] [] u u := yf_refl
    unfold jb_Checker_checkCall_12
    refine yf_let ?_
    repeat' with_reducible first
      | exact yf_none
      | exact yf_some (by assumption)
      | refine yf_ite ?_ ?_
      | refine yf_seq ?_ (fun _ _ _ => ?_)
      | refine yf_try ?_ (fun _ _ _ => ?_)
      | exact yf_call (by assumption) (yf_jb_Checker_checkCall_37) (by decide)
      | exact yf_call (by assumption) (yf_fm_Types_member) (by decide)
      | exact yf_call (by assumption) (yf_fm_Checker_pop_I) (by decide)
      | exact yf_call (by assumption) (ih ..) (by decide)
      | refine yf_letV (fun _ => ?_)
theorem yf_fm_Checker_checkCall {fu : Nat} {x0 : Int32} {u : xk_St} : yf_F [19] [] [33] [] u (fm_Checker_checkCall fu x0 u) := by
  have hu : yf_fr [19] [] [33] [] u u := yf_refl
  unfold fm_Checker_checkCall
  repeat' with_reducible first
    | exact yf_none
    | exact yf_some (by assumption)
    | refine yf_ite ?_ ?_
    | exact yf_call (by assumption) (yf_jb_Checker_checkCall_12) (by decide)
    | refine yf_letV (fun _ => ?_)
theorem yf_jb_Checker_checkVariable_9 {b1 : Int32} {b2 : Int32} {u : xk_St} : yf_F [19] [] [33] [] u (jb_Checker_checkVariable_9 b1 b2 u) := by
  have hu : yf_fr [19] [] [33] [] u u := yf_refl
  unfold jb_Checker_checkVariable_9
  repeat' with_reducible first
    | exact yf_none
    | exact yf_some (by assumption)
    | refine yf_ite ?_ ?_
    | refine yf_try ?_ (fun _ _ _ => ?_)
    | exact yf_call (by assumption) (yf_fm_Checker_push) (by decide)
theorem yf_fm_Checker_checkVariable {x0 : Int32} {x1 : Int32} {u : xk_St} : yf_F [19] [] [33] [] u (fm_Checker_checkVariable x0 x1 u) := by
  have hu : yf_fr [19] [] [33] [] u u := yf_refl
  unfold fm_Checker_checkVariable
  repeat' with_reducible first
    | exact yf_none
    | exact yf_some (by assumption)
    | refine yf_ite ?_ ?_
    | refine yf_try ?_ (fun _ _ _ => ?_)
    | exact yf_call (by assumption) (yf_jb_Checker_checkVariable_9) (by decide)
    | exact yf_call (by assumption) (yf_fm_Checker_pop_I) (by decide)
theorem yf_jb_Checker_checkChoice_55 {b1 : Int32} {b2 : Int32} {s0 : Int32} {u : xk_St} : yf_F [19] [] [33] [] u (jb_Checker_checkChoice_55 b1 b2 s0 u) := by
  have hu : yf_fr [19] [] [33] [] u u := yf_refl
  unfold jb_Checker_checkChoice_55
  repeat' with_reducible first
    | exact yf_none
    | exact yf_some (by assumption)
    | refine yf_ite ?_ ?_
    | refine yf_try ?_ (fun _ _ _ => ?_)
    | exact yf_call (by assumption) (yf_fm_Checker_need) (by decide)
    | exact yf_call (by assumption) (yf_fm_Checker_push) (by decide)
theorem yf_jb_Checker_checkChoice_50 {b1 : Int32} {b2 : Int32} {u : xk_St} : yf_F [19] [] [33] [] u (jb_Checker_checkChoice_50 b1 b2 u) := by
  have hu : yf_fr [19] [] [33] [] u u := yf_refl
  unfold jb_Checker_checkChoice_50
  repeat' with_reducible first
    | exact yf_none
    | exact yf_some (by assumption)
    | refine yf_ite ?_ ?_
    | exact yf_call (by assumption) (yf_jb_Checker_checkChoice_55) (by decide)
theorem yf_jb_Checker_checkChoice_34 {b1 : Int32} {b2 : Int32} {s0 : Int32} {u : xk_St} : yf_F [19] [] [33] [] u (jb_Checker_checkChoice_34 b1 b2 s0 u) := by
  have hu : yf_fr [19] [] [33] [] u u := yf_refl
  unfold jb_Checker_checkChoice_34
  repeat' with_reducible first
    | exact yf_none
    | exact yf_some (by assumption)
    | refine yf_ite ?_ ?_
    | refine yf_try ?_ (fun _ _ _ => ?_)
    | exact yf_call (by assumption) (yf_fm_Checker_need) (by decide)
    | exact yf_call (by assumption) (yf_jb_Checker_checkChoice_50) (by decide)
    | exact yf_call (by assumption) (yf_jb_Checker_checkChoice_55) (by decide)
theorem yf_jb_Checker_checkChoice_33 {b1 : Int32} {b2 : Int32} {u : xk_St} : yf_F [19] [] [33] [] u (jb_Checker_checkChoice_33 b1 b2 u) := by
  have hu : yf_fr [19] [] [33] [] u u := yf_refl
  unfold jb_Checker_checkChoice_33
  repeat' with_reducible first
    | exact yf_none
    | exact yf_some (by assumption)
    | refine yf_ite ?_ ?_
    | exact yf_call (by assumption) (yf_jb_Checker_checkChoice_34) (by decide)
theorem yf_fm_Checker_checkChoice {u : xk_St} : yf_F [19] [] [33] [] u (fm_Checker_checkChoice u) := by
  have hu : yf_fr [19] [] [33] [] u u := yf_refl
  unfold fm_Checker_checkChoice
  repeat' with_reducible first
    | exact yf_none
    | exact yf_some (by assumption)
    | refine yf_ite ?_ ?_
    | refine yf_seq ?_ (fun _ _ _ => ?_)
    | refine yf_try ?_ (fun _ _ _ => ?_)
    | exact yf_call (by assumption) (yf_fm_Checker_pop_I) (by decide)
    | exact yf_call (by assumption) (yf_fm_Checker_pop_) (by decide)
    | exact yf_call (by assumption) (yf_fm_Types_isReference) (by decide)
    | exact yf_call (by assumption) (yf_jb_Checker_checkChoice_34) (by decide)
    | exact yf_call (by assumption) (yf_jb_Checker_checkChoice_33) (by decide)
theorem yf_jb_Checker_checkSimple_111 {fu : Nat} {b2 : Int32} {s0 : Int32} {u : xk_St} : yf_F [19] [] [33] [] u (jb_Checker_checkSimple_111 fu b2 s0 u) := by
  have hu : yf_fr [19] [] [33] [] u u := yf_refl
  unfold jb_Checker_checkSimple_111
  repeat' with_reducible first
    | exact yf_none
    | exact yf_some (by assumption)
    | refine yf_ite ?_ ?_
    | refine yf_try ?_ (fun _ _ _ => ?_)
    | exact yf_call (by assumption) (yf_fm_Checker_need) (by decide)
    | exact yf_call (by assumption) (yf_fm_Checker_checkCall) (by decide)
theorem yf_jb_Checker_checkSimple_179 {fu : Nat} {b2 : Int32} {s0 : Int32} {u : xk_St} : yf_F [19] [] [33] [] u (jb_Checker_checkSimple_179 fu b2 s0 u) := by
  have hu : yf_fr [19] [] [33] [] u u := yf_refl
  unfold jb_Checker_checkSimple_179
  repeat' with_reducible first
    | exact yf_none
    | exact yf_some (by assumption)
    | refine yf_ite ?_ ?_
    | refine yf_try ?_ (fun _ _ _ => ?_)
    | exact yf_call (by assumption) (yf_fm_Checker_need) (by decide)
    | exact yf_call (by assumption) (yf_fm_Checker_pop_I) (by decide)
    | exact yf_call (by assumption) (yf_fm_Checker_checkCall) (by decide)
theorem yf_jb_Checker_checkSimple_178 {fu : Nat} {b2 : Int32} {u : xk_St} : yf_F [19] [] [33] [] u (jb_Checker_checkSimple_178 fu b2 u) := by
  have hu : yf_fr [19] [] [33] [] u u := yf_refl
  unfold jb_Checker_checkSimple_178
  repeat' with_reducible first
    | exact yf_none
    | exact yf_some (by assumption)
    | refine yf_ite ?_ ?_
    | exact yf_call (by assumption) (yf_jb_Checker_checkSimple_179) (by decide)
theorem yf_jb_Checker_checkSimple_292 {fu : Nat} {b1 : Int32} {b2 : Int32} {s0 : Int32} {u : xk_St} : yf_F [19] [] [33] [] u (jb_Checker_checkSimple_292 fu b1 b2 s0 u) := by
  have hu : yf_fr [19] [] [33] [] u u := yf_refl
  unfold jb_Checker_checkSimple_292
  repeat' with_reducible first
    | exact yf_none
    | exact yf_some (by assumption)
    | refine yf_ite ?_ ?_
    | refine yf_try ?_ (fun _ _ _ => ?_)
    | exact yf_call (by assumption) (yf_fm_Checker_need) (by decide)
    | exact yf_call (by assumption) (yf_fm_Checker_checkVariable) (by decide)
theorem yf_jb_Checker_checkSimple_287 {fu : Nat} {b1 : Int32} {b2 : Int32} {u : xk_St} : yf_F [19] [] [33] [] u (jb_Checker_checkSimple_287 fu b1 b2 u) := by
  have hu : yf_fr [19] [] [33] [] u u := yf_refl
  unfold jb_Checker_checkSimple_287
  repeat' with_reducible first
    | exact yf_none
    | exact yf_some (by assumption)
    | refine yf_ite ?_ ?_
    | exact yf_call (by assumption) (yf_jb_Checker_checkSimple_292) (by decide)
theorem yf_jb_Checker_checkSimple_262 {fu : Nat} {b1 : Int32} {b2 : Int32} {s0 : Int32} {u : xk_St} : yf_F [19] [] [33] [] u (jb_Checker_checkSimple_262 fu b1 b2 s0 u) := by
  have hu : yf_fr [19] [] [33] [] u u := yf_refl
  unfold jb_Checker_checkSimple_262
  repeat' with_reducible first
    | exact yf_none
    | exact yf_some (by assumption)
    | refine yf_ite ?_ ?_
    | refine yf_try ?_ (fun _ _ _ => ?_)
    | exact yf_call (by assumption) (yf_fm_Checker_need) (by decide)
    | exact yf_call (by assumption) (yf_jb_Checker_checkSimple_287) (by decide)
    | exact yf_call (by assumption) (yf_jb_Checker_checkSimple_292) (by decide)
theorem yf_jb_Checker_checkSimple_243 {fu : Nat} {b1 : Int32} {b2 : Int32} {u : xk_St} : yf_F [19] [] [33] [] u (jb_Checker_checkSimple_243 fu b1 b2 u) := by
  have hu : yf_fr [19] [] [33] [] u u := yf_refl
  unfold jb_Checker_checkSimple_243
  repeat' with_reducible first
    | exact yf_none
    | exact yf_some (by assumption)
    | refine yf_ite ?_ ?_
    | exact yf_call (by assumption) (yf_jb_Checker_checkSimple_262) (by decide)
theorem yf_jb_Checker_checkSimple_223 {fu : Nat} {b1 : Int32} {b2 : Int32} {s0 : Int32} {u : xk_St} : yf_F [19] [] [33] [] u (jb_Checker_checkSimple_223 fu b1 b2 s0 u) := by
  have hu : yf_fr [19] [] [33] [] u u := yf_refl
  unfold jb_Checker_checkSimple_223
  repeat' with_reducible first
    | exact yf_none
    | exact yf_some (by assumption)
    | refine yf_ite ?_ ?_
    | refine yf_try ?_ (fun _ _ _ => ?_)
    | exact yf_call (by assumption) (yf_fm_Checker_need) (by decide)
    | exact yf_call (by assumption) (yf_fm_Checker_checkVariable) (by decide)
theorem yf_jb_Checker_checkSimple_210 {fu : Nat} {b1 : Int32} {b2 : Int32} {u : xk_St} : yf_F [19] [] [33] [] u (jb_Checker_checkSimple_210 fu b1 b2 u) := by
  have hu : yf_fr [19] [] [33] [] u u := yf_refl
  unfold jb_Checker_checkSimple_210
  repeat' with_reducible first
    | exact yf_none
    | exact yf_some (by assumption)
    | refine yf_ite ?_ ?_
    | exact yf_call (by assumption) (yf_jb_Checker_checkSimple_223) (by decide)
theorem yf_fm_Checker_checkSimple {fu : Nat} {x0 : Int32} {x1 : Int32} {x2 : Int32} {u : xk_St} : yf_F [19] [] [33] [] u (fm_Checker_checkSimple fu x0 x1 x2 u) := by
  have hu : yf_fr [19] [] [33] [] u u := yf_refl
  have h243 : yf_F [19] [] [33] [] u (jb_Checker_checkSimple_243 fu x0 x1 u) := yf_call hu yf_jb_Checker_checkSimple_243 (by decide)
  have h210 : yf_F [19] [] [33] [] u (jb_Checker_checkSimple_210 fu x0 x1 u) := yf_call hu yf_jb_Checker_checkSimple_210 (by decide)
  unfold fm_Checker_checkSimple
  refine yf_ite (yf_ite (yf_call hu yf_jb_Checker_checkSimple_111 (by decide)) (yf_call hu yf_jb_Checker_checkSimple_111 (by decide))) ?_
  refine yf_ite (yf_seq (yf_call hu yf_fm_Types_is (by decide)) fun _ _ h => yf_ite (yf_call h yf_jb_Checker_checkSimple_178 (by decide)) (yf_ite (yf_ite yf_none (yf_ite (yf_call h yf_jb_Checker_checkSimple_179 (by decide)) (yf_call h yf_jb_Checker_checkSimple_178 (by decide)))) (yf_call h yf_jb_Checker_checkSimple_178 (by decide)))) ?_
  refine yf_ite h243 (yf_ite h243 (yf_ite h243 (yf_ite h243 (yf_ite h243 (yf_ite h243 (yf_ite h243 (yf_ite h243 ?_)))))))
  refine yf_ite (yf_try (yf_call hu yf_fm_Checker_pop_ (by decide)) fun _ _ h => yf_some h) ?_
  refine yf_ite (yf_try (yf_call hu yf_fm_Checker_checkChoice (by decide)) fun _ _ h => yf_some h) ?_
  exact yf_ite h243 (yf_ite h243 (yf_ite h243 (yf_ite h243 (yf_ite h210 (yf_ite h210 (yf_ite h210 h243))))))
theorem yf_fm_Checker_lose {u : xk_St} : yf_F [19] [] [35] [] u (fm_Checker_lose u) := by
  have hu : yf_fr [19] [] [35] [] u u := yf_refl
  unfold fm_Checker_lose
  repeat' with_reducible first
    | exact yf_none
    | exact yf_some (by assumption)
    | refine yf_ite ?_ ?_
    | refine yf_letS (yf_I (by assumption) (by decide)) (fun _ _ => ?_)
    | refine yf_letS (yf_A (by assumption) (by decide)) (fun _ _ => ?_)
    | refine yf_letV (fun _ => ?_)
theorem yf_fm_Checker_parameterOf {x0 : Int32} {x1 : Int32} {u : xk_St} : yf_F [] [] [] [] u (fm_Checker_parameterOf x0 x1 u) := by
  have hu : yf_fr [] [] [] [] u u := yf_refl
  unfold fm_Checker_parameterOf
  repeat' with_reducible first
    | exact yf_none
    | exact yf_some (by assumption)
    | refine yf_ite ?_ ?_
    | refine yf_seq ?_ (fun _ _ _ => ?_)
    | exact yf_call (by assumption) (yf_fm_Types_member) (by decide)
theorem yf_jb_Checker_pushParameters_2 {fu : Nat} : ∀ {n : Nat} {b1 : Int32} {b2 : Int32} {b3 : Int32} {u : xk_St}, yf_F [19] [] [33] [] u (jb_Checker_pushParameters_2 fu n b1 b2 b3 u) := by
  intro n
  induction n with
  | zero => intros; exact yf_none
  | succ n ih =>
    intro b1 b2 b3 u
    have hu : yf_fr [19] [] [33] [] u u := yf_refl
    unfold jb_Checker_pushParameters_2
    refine yf_let ?_
    repeat' with_reducible first
      | exact yf_none
      | exact yf_some (by assumption)
      | refine yf_ite ?_ ?_
      | refine yf_seq ?_ (fun _ _ _ => ?_)
      | refine yf_try ?_ (fun _ _ _ => ?_)
      | exact yf_call (by assumption) (yf_fm_Checker_parameterOf) (by decide)
      | exact yf_call (by assumption) (yf_fm_Checker_push) (by decide)
      | exact yf_call (by assumption) (ih ..) (by decide)
      | refine yf_letV (fun _ => ?_)
theorem yf_fm_Checker_pushParameters {fu : Nat} {x0 : Int32} {x1 : Int32} {u : xk_St} : yf_F [19] [] [33] [] u (fm_Checker_pushParameters fu x0 x1 u) := by
  have hu : yf_fr [19] [] [33] [] u u := yf_refl
  unfold fm_Checker_pushParameters
  repeat' with_reducible first
    | exact yf_none
    | exact yf_some (by assumption)
    | refine yf_ite ?_ ?_
    | exact yf_call (by assumption) (yf_jb_Checker_pushParameters_2) (by decide)
theorem yf_jb_Checker_open_56 {fu : Nat} : ∀ {n : Nat} {b1 : Int32} {b3 : Int32} {b4 : Int32} {u : xk_St}, yf_F [19, 20, 21] [] [10, 33, 34, 35] [2] u (jb_Checker_open_56 fu n b1 b3 b4 u) := by
  intro n
  induction n with
  | zero => intros; exact yf_none
  | succ n ih =>
    intro b1 b3 b4 u
    have hu : yf_fr [19, 20, 21] [] [10, 33, 34, 35] [2] u u := yf_refl
    unfold jb_Checker_open_56
    refine yf_let ?_
    repeat' with_reducible first
      | exact yf_none
      | exact yf_some (by assumption)
      | refine yf_ite ?_ ?_
      | refine yf_seq ?_ (fun _ _ _ => ?_)
      | refine yf_try ?_ (fun _ _ _ => ?_)
      | exact yf_call (by assumption) (yf_fm_Checker_openPart) (by decide)
      | exact yf_call (by assumption) (yf_fm_Checker_pushParameters) (by decide)
      | exact yf_call (by assumption) (yf_fm_Checker_parameterOf) (by decide)
      | exact yf_call (by assumption) (yf_fm_Checker_pop_I) (by decide)
      | exact yf_call (by assumption) (ih ..) (by decide)
      | refine yf_letV (fun _ => ?_)
theorem yf_jb_Checker_open_42 {fu : Nat} {b1 : Int32} {s0 : Int32} {u : xk_St} : yf_F [19, 20, 21] [] [10, 33, 34, 35] [2] u (jb_Checker_open_42 fu b1 s0 u) := by
  have hu : yf_fr [19, 20, 21] [] [10, 33, 34, 35] [2] u u := yf_refl
  unfold jb_Checker_open_42
  repeat' with_reducible first
    | exact yf_none
    | exact yf_some (by assumption)
    | refine yf_ite ?_ ?_
    | refine yf_seq ?_ (fun _ _ _ => ?_)
    | refine yf_try ?_ (fun _ _ _ => ?_)
    | exact yf_call (by assumption) (yf_fm_Checker_need) (by decide)
    | exact yf_call (by assumption) (yf_fm_Checker_parameterCount) (by decide)
    | exact yf_call (by assumption) (yf_jb_Checker_open_56) (by decide)
    | refine yf_letV (fun _ => ?_)
theorem yf_fm_Checker_open {fu : Nat} {x0 : Int32} {u : xk_St} : yf_F [19, 20, 21] [] [10, 33, 34, 35] [2] u (fm_Checker_open fu x0 u) := by
  have hu : yf_fr [19, 20, 21] [] [10, 33, 34, 35] [2] u u := yf_refl
  unfold fm_Checker_open
  repeat' with_reducible first
    | exact yf_none
    | exact yf_some (by assumption)
    | refine yf_ite ?_ ?_
    | refine yf_seq ?_ (fun _ _ _ => ?_)
    | exact yf_call (by assumption) (yf_fm_Types_knows) (by decide)
    | exact yf_call (by assumption) (yf_jb_Checker_open_42) (by decide)
    | exact yf_call (by assumption) (yf_fm_Types_is) (by decide)
    | refine yf_letV (fun _ => ?_)
theorem yf_fm_Checker_resultOf {x0 : Int32} {x1 : Int32} {u : xk_St} : yf_F [] [] [] [] u (fm_Checker_resultOf x0 x1 u) := by
  have hu : yf_fr [] [] [] [] u u := yf_refl
  unfold fm_Checker_resultOf
  repeat' with_reducible first
    | exact yf_none
    | exact yf_some (by assumption)
    | refine yf_ite ?_ ?_
    | refine yf_seq ?_ (fun _ _ _ => ?_)
    | exact yf_call (by assumption) (yf_fm_Types_outcome) (by decide)
    | refine yf_letV (fun _ => ?_)
theorem yf_jb_Checker_popResults_44 {fu : Nat} {s0 : Int32} {u : xk_St} : yf_F [19] [] [] [] u (jb_Checker_popResults_44 fu s0 u) := by
  have hu : yf_fr [19] [] [] [] u u := yf_refl
  unfold jb_Checker_popResults_44
  repeat' with_reducible first
    | exact yf_none
    | exact yf_some (by assumption)
    | refine yf_ite ?_ ?_
    | refine yf_try ?_ (fun _ _ _ => ?_)
    | exact yf_call (by assumption) (yf_fm_Checker_need) (by decide)
theorem yf_jb_Checker_popResults_8 {fu : Nat} : ∀ {n : Nat} {b1 : Int32} {b2 : Int32} {u : xk_St}, yf_F [19] [] [] [] u (jb_Checker_popResults_8 fu n b1 b2 u) := by
  intro n
  induction n with
  | zero => intros; exact yf_none
  | succ n ih =>
    intro b1 b2 u
    have hu : yf_fr [19] [] [] [] u u := yf_refl
    unfold jb_Checker_popResults_8
    refine yf_let ?_
    repeat' with_reducible first
      | exact yf_none
      | exact yf_some (by assumption)
      | refine yf_ite ?_ ?_
      | refine yf_seq ?_ (fun _ _ _ => ?_)
      | refine yf_try ?_ (fun _ _ _ => ?_)
      | exact yf_call (by assumption) (yf_jb_Checker_popResults_44) (by decide)
      | exact yf_call (by assumption) (yf_fm_Checker_resultOf) (by decide)
      | exact yf_call (by assumption) (yf_fm_Checker_pop_I) (by decide)
      | exact yf_call (by assumption) (ih ..) (by decide)
      | refine yf_letV (fun _ => ?_)
theorem yf_fm_Checker_popResults {fu : Nat} {x0 : Int32} {u : xk_St} : yf_F [19] [] [] [] u (fm_Checker_popResults fu x0 u) := by
  have hu : yf_fr [19] [] [] [] u u := yf_refl
  unfold fm_Checker_popResults
  repeat' with_reducible first
    | exact yf_none
    | exact yf_some (by assumption)
    | refine yf_ite ?_ ?_
    | refine yf_seq ?_ (fun _ _ _ => ?_)
    | exact yf_call (by assumption) (yf_fm_Checker_resultCount) (by decide)
    | exact yf_call (by assumption) (yf_jb_Checker_popResults_8) (by decide)
    | refine yf_letV (fun _ => ?_)
theorem yf_fm_Checker_turn {fu : Nat} {u : xk_St} : yf_F [19] [] [33, 35] [] u (fm_Checker_turn fu u) := by
  have hu : yf_fr [19] [] [33, 35] [] u u := yf_refl
  unfold fm_Checker_turn
  repeat' with_reducible first
    | exact yf_none
    | exact yf_some (by assumption)
    | refine yf_ite ?_ ?_
    | refine yf_letS (yf_A (by assumption) (by decide)) (fun _ _ => ?_)
    | refine yf_seq ?_ (fun _ _ _ => ?_)
    | refine yf_try ?_ (fun _ _ _ => ?_)
    | exact yf_call (by assumption) (yf_fm_Checker_popResults) (by decide)
    | exact yf_call (by assumption) (yf_fm_Checker_parameterCount) (by decide)
    | exact yf_call (by assumption) (yf_fm_Checker_pushParameters) (by decide)
    | refine yf_letV (fun _ => ?_)
theorem yf_fm_Types_same {x0 : Int32} {x1 : Int32} {u : xk_St} : yf_F [] [] [] [] u (fm_Types_same x0 x1 u) := by
  have hu : yf_fr [] [] [] [] u u := yf_refl
  unfold fm_Types_same
  repeat' with_reducible first
    | exact yf_none
    | exact yf_some (by assumption)
    | refine yf_ite ?_ ?_
    | refine yf_seq ?_ (fun _ _ _ => ?_)
    | exact yf_call (by assumption) (yf_fm_Types_fits) (by decide)
theorem yf_jb_Checker_needUnchanged_25 {fu : Nat} : ∀ {n : Nat} {b1 : Int32} {b2 : Int32} {b3 : Int32} {u : xk_St}, yf_F [] [] [] [] u (jb_Checker_needUnchanged_25 fu n b1 b2 b3 u) := by
  intro n
  induction n with
  | zero => intros; exact yf_none
  | succ n ih =>
    intro b1 b2 b3 u
    have hu : yf_fr [] [] [] [] u u := yf_refl
    unfold jb_Checker_needUnchanged_25
    refine yf_let ?_
    repeat' with_reducible first
      | exact yf_none
      | exact yf_some (by assumption)
      | refine yf_ite ?_ ?_
      | refine yf_seq ?_ (fun _ _ _ => ?_)
      | refine yf_try ?_ (fun _ _ _ => ?_)
      | exact yf_call (by assumption) (yf_fm_Checker_parameterOf) (by decide)
      | exact yf_call (by assumption) (yf_fm_Checker_resultOf) (by decide)
      | exact yf_call (by assumption) (yf_fm_Types_same) (by decide)
      | exact yf_call (by assumption) (yf_fm_Checker_need) (by decide)
      | exact yf_call (by assumption) (ih ..) (by decide)
      | refine yf_letV (fun _ => ?_)
theorem yf_jb_Checker_needUnchanged_20 {fu : Nat} {b1 : Int32} {b2 : Int32} {s0 : Int32} {u : xk_St} : yf_F [] [] [] [] u (jb_Checker_needUnchanged_20 fu b1 b2 s0 u) := by
  have hu : yf_fr [] [] [] [] u u := yf_refl
  unfold jb_Checker_needUnchanged_20
  repeat' with_reducible first
    | exact yf_none
    | exact yf_some (by assumption)
    | refine yf_ite ?_ ?_
    | refine yf_try ?_ (fun _ _ _ => ?_)
    | exact yf_call (by assumption) (yf_fm_Checker_need) (by decide)
    | exact yf_call (by assumption) (yf_jb_Checker_needUnchanged_25) (by decide)
theorem yf_fm_Checker_needUnchanged {fu : Nat} {x0 : Int32} {u : xk_St} : yf_F [] [] [] [] u (fm_Checker_needUnchanged fu x0 u) := by
  have hu : yf_fr [] [] [] [] u u := yf_refl
  unfold fm_Checker_needUnchanged
  repeat' with_reducible first
    | exact yf_none
    | exact yf_some (by assumption)
    | refine yf_ite ?_ ?_
    | refine yf_seq ?_ (fun _ _ _ => ?_)
    | exact yf_call (by assumption) (yf_fm_Checker_resultCount) (by decide)
    | exact yf_call (by assumption) (yf_fm_Checker_parameterCount) (by decide)
    | exact yf_call (by assumption) (yf_jb_Checker_needUnchanged_20) (by decide)
theorem yf_jb_Checker_close_99 {fu : Nat} : ∀ {n : Nat} {b1 : Int32} {b2 : Int32} {u : xk_St}, yf_F [19, 20, 21] [] [33] [] u (jb_Checker_close_99 fu n b1 b2 u) := by
  intro n
  induction n with
  | zero => intros; exact yf_none
  | succ n ih =>
    intro b1 b2 u
    have hu : yf_fr [19, 20, 21] [] [33] [] u u := yf_refl
    unfold jb_Checker_close_99
    refine yf_let ?_
    repeat' with_reducible first
      | exact yf_none
      | exact yf_some (by assumption)
      | refine yf_ite ?_ ?_
      | refine yf_seq ?_ (fun _ _ _ => ?_)
      | refine yf_try ?_ (fun _ _ _ => ?_)
      | exact yf_call (by assumption) (yf_fm_Checker_resultCount) (by decide)
      | exact yf_call (by assumption) (yf_fm_Checker_resultOf) (by decide)
      | exact yf_call (by assumption) (yf_fm_Checker_push) (by decide)
      | exact yf_call (by assumption) (ih ..) (by decide)
      | refine yf_letV (fun _ => ?_)
theorem yf_jb_Checker_close_57 {fu : Nat} {b1 : Int32} {u : xk_St} : yf_F [19, 20, 21] [] [33] [] u (jb_Checker_close_57 fu b1 u) := by
  have hu : yf_fr [19, 20, 21] [] [33] [] u u := yf_refl
  unfold jb_Checker_close_57
  repeat' with_reducible first
    | exact yf_none
    | exact yf_some (by assumption)
    | refine yf_ite ?_ ?_
    | refine yf_letS (yf_I (by assumption) (by decide)) (fun _ _ => ?_)
    | exact yf_call (by assumption) (yf_jb_Checker_close_99) (by decide)
    | refine yf_letV (fun _ => ?_)
theorem yf_fm_Checker_close {fu : Nat} {u : xk_St} : yf_F [19, 20, 21] [] [33] [] u (fm_Checker_close fu u) := by
  have hu : yf_fr [19, 20, 21] [] [33] [] u u := yf_refl
  unfold fm_Checker_close
  repeat' with_reducible first
    | exact yf_none
    | exact yf_some (by assumption)
    | refine yf_ite ?_ ?_
    | refine yf_try ?_ (fun _ _ _ => ?_)
    | exact yf_call (by assumption) (yf_fm_Checker_popResults) (by decide)
    | exact yf_call (by assumption) (yf_fm_Checker_needUnchanged) (by decide)
    | exact yf_call (by assumption) (yf_jb_Checker_close_57) (by decide)
    | refine yf_letV (fun _ => ?_)
theorem yf_jb_Arrays_fill_AIIII__h59_10 {fu : Nat} : ∀ {n : Nat} {b2 : Int32} {b3 : Int32} {b4 : Int32} {u : xk_St}, yf_F [] [] [36] [] u (jb_Arrays_fill_AIIII__h59_10 fu n b2 b3 b4 u) := by
  intro n
  induction n with
  | zero => intros; exact yf_none
  | succ n ih =>
    intro b2 b3 b4 u
    have hu : yf_fr [] [] [36] [] u u := yf_refl
    unfold jb_Arrays_fill_AIIII__h59_10
    refine yf_let ?_
    repeat' with_reducible first
      | exact yf_none
      | exact yf_some (by assumption)
      | refine yf_ite ?_ ?_
      | refine yf_letS (yf_A (by assumption) (by decide)) (fun _ _ => ?_)
      | exact yf_call (by assumption) (ih ..) (by decide)
      | refine yf_letV (fun _ => ?_)
theorem yf_fm_Arrays_fill_AIIII__h59 {fu : Nat} {x1 : Int32} {x2 : Int32} {x3 : Int32} {u : xk_St} : yf_F [] [] [36] [] u (fm_Arrays_fill_AIIII__h59 fu x1 x2 x3 u) := by
  have hu : yf_fr [] [] [36] [] u u := yf_refl
  unfold fm_Arrays_fill_AIIII__h59
  repeat' with_reducible first
    | exact yf_none
    | exact yf_some (by assumption)
    | refine yf_ite ?_ ?_
    | refine yf_seq ?_ (fun _ _ _ => ?_)
    | exact yf_call (by assumption) (yf_fm_Arrays_rangeCheck__h) (by decide)
    | exact yf_call (by assumption) (yf_jb_Arrays_fill_AIIII__h59_10) (by decide)
theorem yf_jb_Checker_declare_43 {fu : Nat} {b1 : Int32} {b2 : Int32} {s0 : Int32} {u : xk_St} : yf_F [22] [] [36] [] u (jb_Checker_declare_43 fu b1 b2 s0 u) := by
  have hu : yf_fr [22] [] [36] [] u u := yf_refl
  unfold jb_Checker_declare_43
  repeat' with_reducible first
    | exact yf_none
    | exact yf_some (by assumption)
    | refine yf_ite ?_ ?_
    | refine yf_letS (yf_I (by assumption) (by decide)) (fun _ _ => ?_)
    | refine yf_seq ?_ (fun _ _ _ => ?_)
    | refine yf_try ?_ (fun _ _ _ => ?_)
    | exact yf_call (by assumption) (yf_fm_Checker_need) (by decide)
    | exact yf_call (by assumption) (yf_fm_Arrays_fill_AIIII__h59) (by decide)
    | refine yf_letV (fun _ => ?_)
theorem yf_jb_Checker_declare_23 {fu : Nat} {b1 : Int32} {b2 : Int32} {s0 : Int32} {u : xk_St} : yf_F [22] [] [36] [] u (jb_Checker_declare_23 fu b1 b2 s0 u) := by
  have hu : yf_fr [22] [] [36] [] u u := yf_refl
  unfold jb_Checker_declare_23
  repeat' with_reducible first
    | exact yf_none
    | exact yf_some (by assumption)
    | refine yf_ite ?_ ?_
    | refine yf_try ?_ (fun _ _ _ => ?_)
    | exact yf_call (by assumption) (yf_fm_Checker_need) (by decide)
    | exact yf_call (by assumption) (yf_jb_Checker_declare_43) (by decide)
theorem yf_jb_Checker_declare_22 {fu : Nat} {b1 : Int32} {b2 : Int32} {u : xk_St} : yf_F [22] [] [36] [] u (jb_Checker_declare_22 fu b1 b2 u) := by
  have hu : yf_fr [22] [] [36] [] u u := yf_refl
  unfold jb_Checker_declare_22
  repeat' with_reducible first
    | exact yf_none
    | exact yf_some (by assumption)
    | refine yf_ite ?_ ?_
    | exact yf_call (by assumption) (yf_jb_Checker_declare_23) (by decide)
theorem yf_fm_Checker_declare {fu : Nat} {x0 : Int32} {x1 : Int32} {u : xk_St} : yf_F [22] [] [36] [] u (fm_Checker_declare fu x0 x1 u) := by
  have hu : yf_fr [22] [] [36] [] u u := yf_refl
  unfold fm_Checker_declare
  repeat' with_reducible first
    | exact yf_none
    | exact yf_some (by assumption)
    | refine yf_ite ?_ ?_
    | refine yf_seq ?_ (fun _ _ _ => ?_)
    | exact yf_call (by assumption) (yf_fm_Types_knows) (by decide)
    | exact yf_call (by assumption) (yf_jb_Checker_declare_22) (by decide)
    | exact yf_call (by assumption) (yf_fm_Types_hasDefault) (by decide)
    | exact yf_call (by assumption) (yf_jb_Checker_declare_23) (by decide)
