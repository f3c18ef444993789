theorem yf_fm_Model_thrown {u : xk_St} : yf_F [] [] [] [] u (fm_Model_thrown u) := by
  have hu : yf_fr [] [] [] [] u u := yf_refl
  unfold fm_Model_thrown
  repeat' with_reducible first
    | exact yf_none
    | exact yf_some (by assumption)
    | refine yf_ite ?_ ?_
theorem yf_fm_Model_in {x0 : Int64} {x1 : Int64} {x2 : Int64} {u : xk_St} : yf_F [] [] [] [] u (fm_Model_in x0 x1 x2 u) := by
  have hu : yf_fr [] [] [] [] u u := yf_refl
  unfold fm_Model_in
  repeat' with_reducible first
    | exact yf_none
    | exact yf_some (by assumption)
    | refine yf_ite ?_ ?_
theorem yf_fm_Model_fails {x0 : Int32} {x1 : Int32} {u : xk_St} : yf_F [0] [] [] [] u (fm_Model_fails x0 x1 u) := by
  have hu : yf_fr [0] [] [] [] u u := yf_refl
  unfold fm_Model_fails
  repeat' with_reducible first
    | exact yf_none
    | exact yf_some (by assumption)
    | refine yf_ite ?_ ?_
    | refine yf_letS (yf_I (by assumption) (by decide)) (fun _ _ => ?_)
    | refine yf_letV (fun _ => ?_)
theorem yf_jb_Model_feed_55 {fu : Nat} : ∀ {n : Nat} {b1 : Int32} {b2 : Int64} {b4 : Int32} {u : xk_St}, yf_F [0, 1] [] [0] [] u (jb_Model_feed_55 fu n b1 b2 b4 u) := by
  intro n
  induction n with
  | zero => intros; exact yf_none
  | succ n ih =>
    intro b1 b2 b4 u
    have hu : yf_fr [0, 1] [] [0] [] u u := yf_refl
    unfold jb_Model_feed_55
    refine yf_let ?_
    repeat' with_reducible first
      | exact yf_none
      | exact yf_some (by assumption)
      | refine yf_ite ?_ ?_
      | refine yf_letS (yf_I (by assumption) (by decide)) (fun _ _ => ?_)
      | refine yf_letS (yf_A (by assumption) (by decide)) (fun _ _ => ?_)
      | exact yf_call (by assumption) (ih ..) (by decide)
      | refine yf_letV (fun _ => ?_)
theorem yf_jb_Model_feed_43 {fu : Nat} {b1 : Int32} {b2 : Int64} {s0 : Int32} {u : xk_St} : yf_F [0, 1] [] [0] [] u (jb_Model_feed_43 fu b1 b2 s0 u) := by
  have hu : yf_fr [0, 1] [] [0] [] u u := yf_refl
  unfold jb_Model_feed_43
  repeat' with_reducible first
    | exact yf_none
    | exact yf_some (by assumption)
    | refine yf_ite ?_ ?_
    | refine yf_seq ?_ (fun _ _ _ => ?_)
    | exact yf_call (by assumption) (yf_fm_Model_fails) (by decide)
    | exact yf_call (by assumption) (yf_jb_Model_feed_55) (by decide)
theorem yf_jb_Model_feed_18 {fu : Nat} {b1 : Int32} {b2 : Int64} {s0 : Int32} {u : xk_St} : yf_F [0, 1] [] [0] [] u (jb_Model_feed_18 fu b1 b2 s0 u) := by
  have hu : yf_fr [0, 1] [] [0] [] u u := yf_refl
  unfold jb_Model_feed_18
  repeat' with_reducible first
    | exact yf_none
    | exact yf_some (by assumption)
    | refine yf_ite ?_ ?_
    | refine yf_seq ?_ (fun _ _ _ => ?_)
    | exact yf_call (by assumption) (yf_fm_Model_fails) (by decide)
    | exact yf_call (by assumption) (yf_jb_Model_feed_43) (by decide)
theorem yf_fm_Model_feed {fu : Nat} {x0 : Int32} {x1 : Int64} {u : xk_St} : yf_F [0, 1] [] [0] [] u (fm_Model_feed fu x0 x1 u) := by
  have hu : yf_fr [0, 1] [] [0] [] u u := yf_refl
  unfold fm_Model_feed
  repeat' with_reducible first
    | exact yf_none
    | exact yf_some (by assumption)
    | refine yf_ite ?_ ?_
    | refine yf_seq ?_ (fun _ _ _ => ?_)
    | exact yf_call (by assumption) (yf_fm_Model_in) (by decide)
    | exact yf_call (by assumption) (yf_jb_Model_feed_18) (by decide)
theorem yf_fm_Model_fail {x0 : Int32} {u : xk_St} : yf_F [6] [] [] [] u (fm_Model_fail x0 u) := by
  have hu : yf_fr [6] [] [] [] u u := yf_refl
  unfold fm_Model_fail
  repeat' with_reducible first
    | exact yf_none
    | exact yf_some (by assumption)
    | refine yf_ite ?_ ?_
    | refine yf_letS (yf_I (by assumption) (by decide)) (fun _ _ => ?_)
    | refine yf_letV (fun _ => ?_)
theorem yf_jb_Model_one_18 {u : xk_St} : yf_F [4, 6] [] [] [] u (jb_Model_one_18 u) := by
  have hu : yf_fr [4, 6] [] [] [] u u := yf_refl
  unfold jb_Model_one_18
  repeat' with_reducible first
    | exact yf_none
    | exact yf_some (by assumption)
    | refine yf_ite ?_ ?_
    | refine yf_seq ?_ (fun _ _ _ => ?_)
    | exact yf_call (by assumption) (yf_fm_Model_fail) (by decide)
theorem yf_fm_Model_one {u : xk_St} : yf_F [4, 6] [] [] [] u (fm_Model_one u) := by
  have hu : yf_fr [4, 6] [] [] [] u u := yf_refl
  unfold fm_Model_one
  repeat' with_reducible first
    | exact yf_none
    | exact yf_some (by assumption)
    | refine yf_ite ?_ ?_
    | refine yf_letS (yf_I (by assumption) (by decide)) (fun _ _ => ?_)
    | exact yf_call (by assumption) (yf_jb_Model_one_18) (by decide)
    | refine yf_letV (fun _ => ?_)
theorem yf_jb_Model_number_65 {fu : Nat} {b1 : Int64} {u : xk_St} : yf_F [4, 6] [] [] [] u (jb_Model_number_65 fu b1 u) := by
  have hu : yf_fr [4, 6] [] [] [] u u := yf_refl
  unfold jb_Model_number_65
  repeat' with_reducible first
    | exact yf_none
    | exact yf_some (by assumption)
    | refine yf_ite ?_ ?_
theorem yf_jb_Model_number_60 {fu : Nat} {b1 : Int64} {u : xk_St} : yf_F [4, 6] [] [] [] u (jb_Model_number_60 fu b1 u) := by
  have hu : yf_fr [4, 6] [] [] [] u u := yf_refl
  unfold jb_Model_number_60
  repeat' with_reducible first
    | exact yf_none
    | exact yf_some (by assumption)
    | refine yf_ite ?_ ?_
    | refine yf_seq ?_ (fun _ _ _ => ?_)
    | exact yf_call (by assumption) (yf_fm_Model_fail) (by decide)
    | exact yf_call (by assumption) (yf_jb_Model_number_65) (by decide)
theorem yf_jb_Model_number_46 {fu : Nat} {b1 : Int64} {b3 : Int32} {u : xk_St} : yf_F [4, 6] [] [] [] u (jb_Model_number_46 fu b1 b3 u) := by
  have hu : yf_fr [4, 6] [] [] [] u u := yf_refl
  unfold jb_Model_number_46
  repeat' with_reducible first
    | exact yf_none
    | exact yf_some (by assumption)
    | refine yf_ite ?_ ?_
    | exact yf_call (by assumption) (yf_jb_Model_number_60) (by decide)
    | exact yf_call (by assumption) (yf_jb_Model_number_65) (by decide)
theorem yf_jb_Model_number_9 {fu : Nat} : ∀ {n : Nat} {b1 : Int64} {b3 : Int32} {b4 : Int32} {u : xk_St}, yf_F [4, 6] [] [] [] u (jb_Model_number_9 fu n b1 b3 b4 u) := by
  intro n
  induction n with
  | zero => intros; exact yf_none
  | succ n ih =>
    intro b1 b3 b4 u
    have hu : yf_fr [4, 6] [] [] [] u u := yf_refl
    unfold jb_Model_number_9
    refine yf_let ?_
    repeat' with_reducible first
      | exact yf_none
      | exact yf_some (by assumption)
      | refine yf_ite ?_ ?_
      | refine yf_seq ?_ (fun _ _ _ => ?_)
      | exact yf_call (by assumption) (yf_jb_Model_number_46) (by decide)
      | exact yf_call (by assumption) (yf_fm_Model_one) (by decide)
      | exact yf_call (by assumption) (ih ..) (by decide)
      | refine yf_letV (fun _ => ?_)
theorem yf_fm_Model_number {fu : Nat} {u : xk_St} : yf_F [4, 6] [] [] [] u (fm_Model_number fu u) := by
  have hu : yf_fr [4, 6] [] [] [] u u := yf_refl
  unfold fm_Model_number
  repeat' with_reducible first
    | exact yf_none
    | exact yf_some (by assumption)
    | refine yf_ite ?_ ?_
    | exact yf_call (by assumption) (yf_jb_Model_number_9) (by decide)
theorem yf_fm_Model_ahead {u : xk_St} : yf_F [] [] [] [] u (fm_Model_ahead u) := by
  have hu : yf_fr [] [] [] [] u u := yf_refl
  unfold fm_Model_ahead
  repeat' with_reducible first
    | exact yf_none
    | exact yf_some (by assumption)
    | refine yf_ite ?_ ?_
theorem yf_jb_Model_isTypeByte_36 {u : xk_St} : yf_F [] [] [] [] u (jb_Model_isTypeByte_36 u) := by
  have hu : yf_fr [] [] [] [] u u := yf_refl
  unfold jb_Model_isTypeByte_36
  repeat' with_reducible first
    | exact yf_none
    | exact yf_some (by assumption)
    | refine yf_ite ?_ ?_
theorem yf_fm_Model_isTypeByte {x0 : Int32} {u : xk_St} : yf_F [] [] [] [] u (fm_Model_isTypeByte x0 u) := by
  have hu : yf_fr [] [] [] [] u u := yf_refl
  unfold fm_Model_isTypeByte
  repeat' with_reducible first
    | exact yf_none
    | exact yf_some (by assumption)
    | refine yf_ite ?_ ?_
    | exact yf_call (by assumption) (yf_jb_Model_isTypeByte_36) (by decide)
theorem yf_fm_Model_reference {x0 : Int32} {x1 : Int32} {u : xk_St} : yf_F [] [] [] [] u (fm_Model_reference x0 x1 u) := by
  have hu : yf_fr [] [] [] [] u u := yf_refl
  unfold fm_Model_reference
  repeat' with_reducible first
    | exact yf_none
    | exact yf_some (by assumption)
    | refine yf_ite ?_ ?_
theorem yf_fm_Model_sx {x0 : Int64} {x1 : Int32} {u : xk_St} : yf_F [] [] [] [] u (fm_Model_sx x0 x1 u) := by
  have hu : yf_fr [] [] [] [] u u := yf_refl
  unfold fm_Model_sx
  repeat' with_reducible first
    | exact yf_none
    | exact yf_some (by assumption)
    | refine yf_ite ?_ ?_
theorem yf_jb_Model_signed_135 {fu : Nat} {b2 : Int64} {u : xk_St} : yf_F [4, 6] [] [] [] u (jb_Model_signed_135 fu b2 u) := by
  have hu : yf_fr [4, 6] [] [] [] u u := yf_refl
  unfold jb_Model_signed_135
  repeat' with_reducible first
    | exact yf_none
    | exact yf_some (by assumption)
    | refine yf_ite ?_ ?_
theorem yf_jb_Model_signed_114 {fu : Nat} {b1 : Int32} {b2 : Int64} {u : xk_St} : yf_F [4, 6] [] [] [] u (jb_Model_signed_114 fu b1 b2 u) := by
  have hu : yf_fr [4, 6] [] [] [] u u := yf_refl
  unfold jb_Model_signed_114
  repeat' with_reducible first
    | exact yf_none
    | exact yf_some (by assumption)
    | refine yf_ite ?_ ?_
    | refine yf_seq ?_ (fun _ _ _ => ?_)
    | exact yf_call (by assumption) (yf_jb_Model_signed_135) (by decide)
    | exact yf_call (by assumption) (yf_fm_Model_sx) (by decide)
    | exact yf_call (by assumption) (yf_fm_Model_fail) (by decide)
theorem yf_jb_Model_signed_90 {fu : Nat} {b1 : Int32} {b2 : Int64} {b4 : Int32} {b5 : Int32} {u : xk_St} : yf_F [4, 6] [] [] [] u (jb_Model_signed_90 fu b1 b2 b4 b5 u) := by
  have hu : yf_fr [4, 6] [] [] [] u u := yf_refl
  unfold jb_Model_signed_90
  repeat' with_reducible first
    | exact yf_none
    | exact yf_some (by assumption)
    | refine yf_ite ?_ ?_
    | exact yf_call (by assumption) (yf_jb_Model_signed_114) (by decide)
    | refine yf_letV (fun _ => ?_)
theorem yf_jb_Model_signed_78 {fu : Nat} {b1 : Int32} {b2 : Int64} {b4 : Int32} {b5 : Int32} {u : xk_St} : yf_F [4, 6] [] [] [] u (jb_Model_signed_78 fu b1 b2 b4 b5 u) := by
  have hu : yf_fr [4, 6] [] [] [] u u := yf_refl
  unfold jb_Model_signed_78
  repeat' with_reducible first
    | exact yf_none
    | exact yf_some (by assumption)
    | refine yf_ite ?_ ?_
    | refine yf_seq ?_ (fun _ _ _ => ?_)
    | exact yf_call (by assumption) (yf_jb_Model_signed_90) (by decide)
    | exact yf_call (by assumption) (yf_fm_Model_fail) (by decide)
theorem yf_jb_Model_signed_60 {fu : Nat} {k10 : Int32 → Int64 → Int32 → Int32 → xk_St → Option (Int64 × xk_St)} {b1 : Int32} {b2 : Int64} {b4 : Int32} {b5 : Int32} {u : xk_St} (hk10 : ∀ c0 c1 c2 c3 v, yf_F [4, 6] [] [] [] v (k10 c0 c1 c2 c3 v)) : yf_F [4, 6] [] [] [] u (jb_Model_signed_60 fu k10 b1 b2 b4 b5 u) := by
  have hu : yf_fr [4, 6] [] [] [] u u := yf_refl
  unfold jb_Model_signed_60
  repeat' with_reducible first
    | exact yf_none
    | exact yf_some (by assumption)
    | refine yf_ite ?_ ?_
    | exact yf_call (by assumption) (hk10 ..) (by decide)
    | refine yf_letV (fun _ => ?_)
theorem yf_jb_Model_signed_10 {fu : Nat} : ∀ {n : Nat} {b1 : Int32} {b2 : Int64} {b4 : Int32} {b5 : Int32} {u : xk_St}, yf_F [4, 6] [] [] [] u (jb_Model_signed_10 fu n b1 b2 b4 b5 u) := by
  intro n
  induction n with
  | zero => intros; exact yf_none
  | succ n ih =>
    intro b1 b2 b4 b5 u
    have hu : yf_fr [4, 6] [] [] [] u u := yf_refl
    unfold jb_Model_signed_10
    refine yf_let ?_
    repeat' with_reducible first
      | exact yf_none
      | exact yf_some (by assumption)
      | refine yf_ite ?_ ?_
      | refine yf_seq ?_ (fun _ _ _ => ?_)
      | exact yf_call (by assumption) (yf_jb_Model_signed_78) (by decide)
      | exact yf_call (by assumption) (yf_fm_Model_one) (by decide)
      | exact yf_call (by assumption) (yf_jb_Model_signed_60 (by intros; first | apply ih)) (by decide)
      | exact yf_call (by assumption) (yf_fm_Model_fail) (by decide)
      | exact yf_call (by assumption) (ih ..) (by decide)
      | refine yf_letV (fun _ => ?_)
theorem yf_fm_Model_signed {fu : Nat} {x0 : Int32} {u : xk_St} : yf_F [4, 6] [] [] [] u (fm_Model_signed fu x0 u) := by
  have hu : yf_fr [4, 6] [] [] [] u u := yf_refl
  unfold fm_Model_signed
  repeat' with_reducible first
    | exact yf_none
    | exact yf_some (by assumption)
    | refine yf_ite ?_ ?_
    | exact yf_call (by assumption) (yf_jb_Model_signed_10) (by decide)
theorem yf_jb_Model_target_17 {fu : Nat} {b1 : Int32} {u : xk_St} : yf_F [4, 6] [] [] [] u (jb_Model_target_17 fu b1 u) := by
  have hu : yf_fr [4, 6] [] [] [] u u := yf_refl
  unfold jb_Model_target_17
  repeat' with_reducible first
    | exact yf_none
    | exact yf_some (by assumption)
    | refine yf_ite ?_ ?_
    | refine yf_letS (yf_I (by assumption) (by decide)) (fun _ _ => ?_)
    | refine yf_letV (fun _ => ?_)
theorem yf_jb_Model_target_57 {fu : Nat} {b2 : Int64} {u : xk_St} : yf_F [4, 6] [] [] [] u (jb_Model_target_57 fu b2 u) := by
  have hu : yf_fr [4, 6] [] [] [] u u := yf_refl
  unfold jb_Model_target_57
  repeat' with_reducible first
    | exact yf_none
    | exact yf_some (by assumption)
    | refine yf_ite ?_ ?_
theorem yf_fm_Model_target {fu : Nat} {u : xk_St} : yf_F [4, 6] [] [] [] u (fm_Model_target fu u) := by
  have hu : yf_fr [4, 6] [] [] [] u u := yf_refl
  unfold fm_Model_target
  repeat' with_reducible first
    | exact yf_none
    | exact yf_some (by assumption)
    | refine yf_ite ?_ ?_
    | refine yf_seq ?_ (fun _ _ _ => ?_)
    | exact yf_call (by assumption) (yf_fm_Model_ahead) (by decide)
    | exact yf_call (by assumption) (yf_jb_Model_target_17) (by decide)
    | exact yf_call (by assumption) (yf_fm_Model_signed) (by decide)
    | exact yf_call (by assumption) (yf_jb_Model_target_57) (by decide)
    | exact yf_call (by assumption) (yf_fm_Model_fail) (by decide)
theorem yf_jb_Model_valueType_29 {fu : Nat} {b1 : Int32} {u : xk_St} : yf_F [4, 6] [] [] [] u (jb_Model_valueType_29 fu b1 u) := by
  have hu : yf_fr [4, 6] [] [] [] u u := yf_refl
  unfold jb_Model_valueType_29
  repeat' with_reducible first
    | exact yf_none
    | exact yf_some (by assumption)
    | refine yf_ite ?_ ?_
theorem yf_jb_Model_valueType_64 {fu : Nat} {s0 : Int32} {u : xk_St} : yf_F [4, 6] [] [] [] u (jb_Model_valueType_64 fu s0 u) := by
  have hu : yf_fr [4, 6] [] [] [] u u := yf_refl
  unfold jb_Model_valueType_64
  repeat' with_reducible first
    | exact yf_none
    | exact yf_some (by assumption)
    | refine yf_ite ?_ ?_
    | refine yf_seq ?_ (fun _ _ _ => ?_)
    | exact yf_call (by assumption) (yf_fm_Model_reference) (by decide)
theorem yf_jb_Model_valueType_53 {fu : Nat} {b1 : Int32} {u : xk_St} : yf_F [4, 6] [] [] [] u (jb_Model_valueType_53 fu b1 u) := by
  have hu : yf_fr [4, 6] [] [] [] u u := yf_refl
  unfold jb_Model_valueType_53
  repeat' with_reducible first
    | exact yf_none
    | exact yf_some (by assumption)
    | refine yf_ite ?_ ?_
    | exact yf_call (by assumption) (yf_jb_Model_valueType_64) (by decide)
theorem yf_jb_Model_valueType_84 {fu : Nat} {s0 : Int32} {s1 : Int32} {u : xk_St} : yf_F [4, 6] [] [] [] u (jb_Model_valueType_84 fu s0 s1 u) := by
  have hu : yf_fr [4, 6] [] [] [] u u := yf_refl
  unfold jb_Model_valueType_84
  repeat' with_reducible first
    | exact yf_none
    | exact yf_some (by assumption)
    | refine yf_ite ?_ ?_
    | refine yf_seq ?_ (fun _ _ _ => ?_)
    | exact yf_call (by assumption) (yf_fm_Model_reference) (by decide)
theorem yf_jb_Model_valueType_17 {fu : Nat} {b1 : Int32} {u : xk_St} : yf_F [4, 6] [] [] [] u (jb_Model_valueType_17 fu b1 u) := by
  have hu : yf_fr [4, 6] [] [] [] u u := yf_refl
  unfold jb_Model_valueType_17
  repeat' with_reducible first
    | exact yf_none
    | exact yf_some (by assumption)
    | refine yf_ite ?_ ?_
    | refine yf_seq ?_ (fun _ _ _ => ?_)
    | exact yf_call (by assumption) (yf_jb_Model_valueType_29) (by decide)
    | exact yf_call (by assumption) (yf_jb_Model_valueType_53) (by decide)
    | exact yf_call (by assumption) (yf_fm_Model_target) (by decide)
    | exact yf_call (by assumption) (yf_jb_Model_valueType_84) (by decide)
theorem yf_fm_Model_valueType {fu : Nat} {u : xk_St} : yf_F [4, 6] [] [] [] u (fm_Model_valueType fu u) := by
  have hu : yf_fr [4, 6] [] [] [] u u := yf_refl
  unfold fm_Model_valueType
  repeat' with_reducible first
    | exact yf_none
    | exact yf_some (by assumption)
    | refine yf_ite ?_ ?_
    | refine yf_seq ?_ (fun _ _ _ => ?_)
    | exact yf_call (by assumption) (yf_fm_Model_one) (by decide)
    | exact yf_call (by assumption) (yf_fm_Model_isTypeByte) (by decide)
    | exact yf_call (by assumption) (yf_fm_Model_fail) (by decide)
    | exact yf_call (by assumption) (yf_jb_Model_valueType_17) (by decide)
theorem yf_jb_Model_fieldType_22 {fu : Nat} {b1 : Int32} {u : xk_St} : yf_F [4, 6] [] [] [] u (jb_Model_fieldType_22 fu b1 u) := by
  have hu : yf_fr [4, 6] [] [] [] u u := yf_refl
  unfold jb_Model_fieldType_22
  repeat' with_reducible first
    | exact yf_none
    | exact yf_some (by assumption)
    | refine yf_ite ?_ ?_
    | refine yf_letS (yf_I (by assumption) (by decide)) (fun _ _ => ?_)
    | refine yf_letV (fun _ => ?_)
theorem yf_fm_Model_fieldType {fu : Nat} {u : xk_St} : yf_F [4, 6] [] [] [] u (fm_Model_fieldType fu u) := by
  have hu : yf_fr [4, 6] [] [] [] u u := yf_refl
  unfold fm_Model_fieldType
  repeat' with_reducible first
    | exact yf_none
    | exact yf_some (by assumption)
    | refine yf_ite ?_ ?_
    | refine yf_seq ?_ (fun _ _ _ => ?_)
    | exact yf_call (by assumption) (yf_fm_Model_ahead) (by decide)
    | exact yf_call (by assumption) (yf_jb_Model_fieldType_22) (by decide)
    | exact yf_call (by assumption) (yf_fm_Model_valueType) (by decide)
theorem yf_fm_Model_flag {u : xk_St} : yf_F [4, 6] [] [] [] u (fm_Model_flag u) := by
  have hu : yf_fr [4, 6] [] [] [] u u := yf_refl
  unfold fm_Model_flag
  repeat' with_reducible first
    | exact yf_none
    | exact yf_some (by assumption)
    | refine yf_ite ?_ ?_
    | refine yf_seq ?_ (fun _ _ _ => ?_)
    | exact yf_call (by assumption) (yf_fm_Model_one) (by decide)
    | exact yf_call (by assumption) (yf_fm_Model_fail) (by decide)
theorem yf_jb_Model_valueRow_5 {fu : Nat} : ∀ {n : Nat} {b1 : Int64} {u : xk_St}, yf_F [4, 6] [] [] [] u (jb_Model_valueRow_5 fu n b1 u) := by
  intro n
  induction n with
  | zero => intros; exact yf_none
  | succ n ih =>
    intro b1 u
    have hu : yf_fr [4, 6] [] [] [] u u := yf_refl
    unfold jb_Model_valueRow_5
    refine yf_let ?_
    repeat' with_reducible first
      | exact yf_none
      | exact yf_some (by assumption)
      | refine yf_ite ?_ ?_
      | refine yf_seq ?_ (fun _ _ _ => ?_)
      | exact yf_call (by assumption) (yf_fm_Model_valueType) (by decide)
      | exact yf_call (by assumption) (ih ..) (by decide)
      | refine yf_letV (fun _ => ?_)
theorem yf_fm_Model_valueRow {fu : Nat} {u : xk_St} : yf_F [4, 6] [] [] [] u (fm_Model_valueRow fu u) := by
  have hu : yf_fr [4, 6] [] [] [] u u := yf_refl
  unfold fm_Model_valueRow
  repeat' with_reducible first
    | exact yf_none
    | exact yf_some (by assumption)
    | refine yf_ite ?_ ?_
    | refine yf_seq ?_ (fun _ _ _ => ?_)
    | exact yf_call (by assumption) (yf_fm_Model_number) (by decide)
    | exact yf_call (by assumption) (yf_jb_Model_valueRow_5) (by decide)
theorem yf_jb_Model_typeForm_85 {fu : Nat} {u : xk_St} : yf_F [4, 6] [] [] [] u (jb_Model_typeForm_85 fu u) := by
  have hu : yf_fr [4, 6] [] [] [] u u := yf_refl
  unfold jb_Model_typeForm_85
  repeat' with_reducible first
    | exact yf_none
    | exact yf_some (by assumption)
    | refine yf_ite ?_ ?_
theorem yf_jb_Model_typeForm_52 {fu : Nat} : ∀ {n : Nat} {b2 : Int64} {b4 : Int64} {u : xk_St}, yf_F [4, 6] [] [] [] u (jb_Model_typeForm_52 fu n b2 b4 u) := by
  intro n
  induction n with
  | zero => intros; exact yf_none
  | succ n ih =>
    intro b2 b4 u
    have hu : yf_fr [4, 6] [] [] [] u u := yf_refl
    unfold jb_Model_typeForm_52
    refine yf_let ?_
    repeat' with_reducible first
      | exact yf_none
      | exact yf_some (by assumption)
      | refine yf_ite ?_ ?_
      | refine yf_seq ?_ (fun _ _ _ => ?_)
      | exact yf_call (by assumption) (yf_jb_Model_typeForm_85) (by decide)
      | exact yf_call (by assumption) (yf_fm_Model_fieldType) (by decide)
      | exact yf_call (by assumption) (yf_fm_Model_flag) (by decide)
      | exact yf_call (by assumption) (ih ..) (by decide)
      | refine yf_letV (fun _ => ?_)
theorem yf_jb_Model_typeForm_48 {fu : Nat} {s0 : Int64} {u : xk_St} : yf_F [4, 6] [] [] [] u (jb_Model_typeForm_48 fu s0 u) := by
  have hu : yf_fr [4, 6] [] [] [] u u := yf_refl
  unfold jb_Model_typeForm_48
  repeat' with_reducible first
    | exact yf_none
    | exact yf_some (by assumption)
    | refine yf_ite ?_ ?_
    | exact yf_call (by assumption) (yf_jb_Model_typeForm_52) (by decide)
theorem yf_jb_Model_typeForm_34 {fu : Nat} {b1 : Int32} {u : xk_St} : yf_F [4, 6] [] [] [] u (jb_Model_typeForm_34 fu b1 u) := by
  have hu : yf_fr [4, 6] [] [] [] u u := yf_refl
  unfold jb_Model_typeForm_34
  repeat' with_reducible first
    | exact yf_none
    | exact yf_some (by assumption)
    | refine yf_ite ?_ ?_
    | refine yf_seq ?_ (fun _ _ _ => ?_)
    | exact yf_call (by assumption) (yf_jb_Model_typeForm_48) (by decide)
    | exact yf_call (by assumption) (yf_fm_Model_number) (by decide)
theorem yf_fm_Model_typeForm {fu : Nat} {u : xk_St} : yf_F [4, 6] [] [] [] u (fm_Model_typeForm fu u) := by
  have hu : yf_fr [4, 6] [] [] [] u u := yf_refl
  unfold fm_Model_typeForm
  repeat' with_reducible first
    | exact yf_none
    | exact yf_some (by assumption)
    | refine yf_ite ?_ ?_
    | refine yf_seq ?_ (fun _ _ _ => ?_)
    | exact yf_call (by assumption) (yf_fm_Model_one) (by decide)
    | exact yf_call (by assumption) (yf_fm_Model_valueRow) (by decide)
    | exact yf_call (by assumption) (yf_jb_Model_typeForm_34) (by decide)
    | exact yf_call (by assumption) (yf_fm_Model_fail) (by decide)
theorem yf_fm_Model_needs {x0 : Int32} {u : xk_St} : yf_F [4, 6] [] [] [] u (fm_Model_needs x0 u) := by
  have hu : yf_fr [4, 6] [] [] [] u u := yf_refl
  unfold fm_Model_needs
  repeat' with_reducible first
    | exact yf_none
    | exact yf_some (by assumption)
    | refine yf_ite ?_ ?_
    | refine yf_seq ?_ (fun _ _ _ => ?_)
    | exact yf_call (by assumption) (yf_fm_Model_one) (by decide)
    | exact yf_call (by assumption) (yf_fm_Model_fail) (by decide)
theorem yf_fm_Model_place {fu : Nat} {u : xk_St} : yf_F [4, 6] [0] [] [] u (fm_Model_place fu u) := by
  have hu : yf_fr [4, 6] [0] [] [] u u := yf_refl
  unfold fm_Model_place
  repeat' with_reducible first
    | exact yf_none
    | exact yf_some (by assumption)
    | refine yf_ite ?_ ?_
    | refine yf_letS (yf_J (by assumption) (by decide)) (fun _ _ => ?_)
    | refine yf_seq ?_ (fun _ _ _ => ?_)
    | exact yf_call (by assumption) (yf_fm_Model_needs) (by decide)
    | exact yf_call (by assumption) (yf_fm_Model_signed) (by decide)
    | refine yf_letV (fun _ => ?_)
theorem yf_jb_Model_bytesForm_25 {fu : Nat} {b1 : Int64} {u : xk_St} : yf_F [4, 6] [] [] [] u (jb_Model_bytesForm_25 fu b1 u) := by
  have hu : yf_fr [4, 6] [] [] [] u u := yf_refl
  unfold jb_Model_bytesForm_25
  repeat' with_reducible first
    | exact yf_none
    | exact yf_some (by assumption)
    | refine yf_ite ?_ ?_
    | refine yf_letS (yf_I (by assumption) (by decide)) (fun _ _ => ?_)
    | refine yf_letV (fun _ => ?_)
theorem yf_fm_Model_bytesForm {fu : Nat} {u : xk_St} : yf_F [4, 6] [] [] [] u (fm_Model_bytesForm fu u) := by
  have hu : yf_fr [4, 6] [] [] [] u u := yf_refl
  unfold fm_Model_bytesForm
  repeat' with_reducible first
    | exact yf_none
    | exact yf_some (by assumption)
    | refine yf_ite ?_ ?_
    | refine yf_seq ?_ (fun _ _ _ => ?_)
    | exact yf_call (by assumption) (yf_fm_Model_number) (by decide)
    | exact yf_call (by assumption) (yf_jb_Model_bytesForm_25) (by decide)
    | exact yf_call (by assumption) (yf_fm_Model_fail) (by decide)
theorem yf_fm_Model_limits {fu : Nat} {u : xk_St} : yf_F [4, 6] [0, 1] [] [] u (fm_Model_limits fu u) := by
  have hu : yf_fr [4, 6] [0, 1] [] [] u u := yf_refl
  unfold fm_Model_limits
  repeat' with_reducible first
    | exact yf_none
    | exact yf_some (by assumption)
    | refine yf_ite ?_ ?_
    | refine yf_letS (yf_J (by assumption) (by decide)) (fun _ _ => ?_)
    | refine yf_seq ?_ (fun _ _ _ => ?_)
    | exact yf_call (by assumption) (yf_fm_Model_flag) (by decide)
    | exact yf_call (by assumption) (yf_fm_Model_number) (by decide)
    | refine yf_letV (fun _ => ?_)
theorem yf_jb_Model_constant_84 {fu : Nat} {b2 : Int32} {u : xk_St} : yf_F [4, 6] [0] [] [] u (jb_Model_constant_84 fu b2 u) := by
  have hu : yf_fr [4, 6] [0] [] [] u u := yf_refl
  unfold jb_Model_constant_84
  repeat' with_reducible first
    | exact yf_none
    | exact yf_some (by assumption)
    | refine yf_ite ?_ ?_
    | refine yf_seq ?_ (fun _ _ _ => ?_)
    | exact yf_call (by assumption) (yf_fm_Model_needs) (by decide)
theorem yf_jb_Model_constant_56 {fu : Nat} {s0 : Int32} {u : xk_St} : yf_F [4, 6] [0] [] [] u (jb_Model_constant_56 fu s0 u) := by
  have hu : yf_fr [4, 6] [0] [] [] u u := yf_refl
  unfold jb_Model_constant_56
  repeat' with_reducible first
    | exact yf_none
    | exact yf_some (by assumption)
    | refine yf_ite ?_ ?_
    | exact yf_call (by assumption) (yf_jb_Model_constant_84) (by decide)
theorem yf_jb_Model_constant_39 {fu : Nat} {b1 : Int32} {s0 : Int32} {u : xk_St} : yf_F [4, 6] [0] [] [] u (jb_Model_constant_39 fu b1 s0 u) := by
  have hu : yf_fr [4, 6] [0] [] [] u u := yf_refl
  unfold jb_Model_constant_39
  repeat' with_reducible first
    | exact yf_none
    | exact yf_some (by assumption)
    | refine yf_ite ?_ ?_
    | refine yf_letS (yf_J (by assumption) (by decide)) (fun _ _ => ?_)
    | refine yf_seq ?_ (fun _ _ _ => ?_)
    | exact yf_call (by assumption) (yf_fm_Model_signed) (by decide)
    | exact yf_call (by assumption) (yf_jb_Model_constant_56) (by decide)
    | refine yf_letV (fun _ => ?_)
theorem yf_jb_Model_constant_24 {fu : Nat} {b1 : Int32} {u : xk_St} : yf_F [4, 6] [0] [] [] u (jb_Model_constant_24 fu b1 u) := by
  have hu : yf_fr [4, 6] [0] [] [] u u := yf_refl
  unfold jb_Model_constant_24
  repeat' with_reducible first
    | exact yf_none
    | exact yf_some (by assumption)
    | refine yf_ite ?_ ?_
    | exact yf_call (by assumption) (yf_jb_Model_constant_39) (by decide)
theorem yf_fm_Model_constant {fu : Nat} {u : xk_St} : yf_F [4, 6] [0] [] [] u (fm_Model_constant fu u) := by
  have hu : yf_fr [4, 6] [0] [] [] u u := yf_refl
  unfold fm_Model_constant
  repeat' with_reducible first
    | exact yf_none
    | exact yf_some (by assumption)
    | refine yf_ite ?_ ?_
    | refine yf_letS (yf_J (by assumption) (by decide)) (fun _ _ => ?_)
    | refine yf_seq ?_ (fun _ _ _ => ?_)
    | exact yf_call (by assumption) (yf_fm_Model_one) (by decide)
    | exact yf_call (by assumption) (yf_jb_Model_constant_24) (by decide)
    | exact yf_call (by assumption) (yf_fm_Model_target) (by decide)
    | exact yf_call (by assumption) (yf_fm_Model_reference) (by decide)
    | exact yf_call (by assumption) (yf_jb_Model_constant_84) (by decide)
    | exact yf_call (by assumption) (yf_fm_Model_fail) (by decide)
    | refine yf_letV (fun _ => ?_)
theorem yf_jb_Model_exportForm_17 {fu : Nat} {u : xk_St} : yf_F [4, 6] [] [] [] u (jb_Model_exportForm_17 fu u) := by
  have hu : yf_fr [4, 6] [] [] [] u u := yf_refl
  unfold jb_Model_exportForm_17
  repeat' with_reducible first
    | exact yf_none
    | exact yf_some (by assumption)
    | refine yf_ite ?_ ?_
    | refine yf_seq ?_ (fun _ _ _ => ?_)
    | exact yf_call (by assumption) (yf_fm_Model_number) (by decide)
theorem yf_fm_Model_exportForm {fu : Nat} {u : xk_St} : yf_F [4, 6] [] [] [] u (fm_Model_exportForm fu u) := by
  have hu : yf_fr [4, 6] [] [] [] u u := yf_refl
  unfold fm_Model_exportForm
  repeat' with_reducible first
    | exact yf_none
    | exact yf_some (by assumption)
    | refine yf_ite ?_ ?_
    | refine yf_seq ?_ (fun _ _ _ => ?_)
    | exact yf_call (by assumption) (yf_fm_Model_bytesForm) (by decide)
    | exact yf_call (by assumption) (yf_fm_Model_one) (by decide)
    | exact yf_call (by assumption) (yf_jb_Model_exportForm_17) (by decide)
    | exact yf_call (by assumption) (yf_fm_Model_fail) (by decide)
theorem yf_jb_Model_isRefused_157 {u : xk_St} : yf_F [] [] [] [] u (jb_Model_isRefused_157 u) := by
  have hu : yf_fr [] [] [] [] u u := yf_refl
  unfold jb_Model_isRefused_157
  repeat' with_reducible first
    | exact yf_none
    | exact yf_some (by assumption)
    | refine yf_ite ?_ ?_
theorem yf_jb_Model_isRefused_89 {b0 : Int32} {s0 : Int32} {u : xk_St} : yf_F [] [] [] [] u (jb_Model_isRefused_89 b0 s0 u) := by
  have hu : yf_fr [] [] [] [] u u := yf_refl
  unfold jb_Model_isRefused_89
  repeat' with_reducible first
    | exact yf_none
    | exact yf_some (by assumption)
    | refine yf_ite ?_ ?_
    | refine yf_seq ?_ (fun _ _ _ => ?_)
    | exact yf_call (by assumption) (yf_fm_Model_in) (by decide)
    | exact yf_call (by assumption) (yf_jb_Model_isRefused_157) (by decide)
theorem yf_jb_Model_isRefused_84 {b0 : Int32} {u : xk_St} : yf_F [] [] [] [] u (jb_Model_isRefused_84 b0 u) := by
  have hu : yf_fr [] [] [] [] u u := yf_refl
  unfold jb_Model_isRefused_84
  repeat' with_reducible first
    | exact yf_none
    | exact yf_some (by assumption)
    | refine yf_ite ?_ ?_
    | exact yf_call (by assumption) (yf_jb_Model_isRefused_89) (by decide)
theorem yf_fm_Model_isRefused {x0 : Int32} {u : xk_St} : yf_F [] [] [] [] u (fm_Model_isRefused x0 u) := by
  have hu : yf_fr [] [] [] [] u u := yf_refl
  unfold fm_Model_isRefused
  repeat' with_reducible first
    | exact yf_none
    | exact yf_some (by assumption)
    | refine yf_ite ?_ ?_
    | refine yf_seq ?_ (fun _ _ _ => ?_)
    | exact yf_call (by assumption) (yf_fm_Model_in) (by decide)
    | exact yf_call (by assumption) (yf_jb_Model_isRefused_89) (by decide)
    | exact yf_call (by assumption) (yf_jb_Model_isRefused_84) (by decide)
theorem yf_fm_Model_pair {fu : Nat} {u : xk_St} : yf_F [4, 6] [0, 1] [] [] u (fm_Model_pair fu u) := by
  have hu : yf_fr [4, 6] [0, 1] [] [] u u := yf_refl
  unfold fm_Model_pair
  repeat' with_reducible first
    | exact yf_none
    | exact yf_some (by assumption)
    | refine yf_ite ?_ ?_
    | refine yf_letS (yf_J (by assumption) (by decide)) (fun _ _ => ?_)
    | refine yf_seq ?_ (fun _ _ _ => ?_)
    | exact yf_call (by assumption) (yf_fm_Model_number) (by decide)
    | refine yf_letV (fun _ => ?_)
theorem yf_jb_Model_isPlain_128 {u : xk_St} : yf_F [] [] [] [] u (jb_Model_isPlain_128 u) := by
  have hu : yf_fr [] [] [] [] u u := yf_refl
  unfold jb_Model_isPlain_128
  repeat' with_reducible first
    | exact yf_none
    | exact yf_some (by assumption)
    | refine yf_ite ?_ ?_
theorem yf_jb_Model_isPlain_39 {b0 : Int32} {s0 : Int32} {u : xk_St} : yf_F [] [] [] [] u (jb_Model_isPlain_39 b0 s0 u) := by
  have hu : yf_fr [] [] [] [] u u := yf_refl
  unfold jb_Model_isPlain_39
  repeat' with_reducible first
    | exact yf_none
    | exact yf_some (by assumption)
    | refine yf_ite ?_ ?_
    | refine yf_seq ?_ (fun _ _ _ => ?_)
    | exact yf_call (by assumption) (yf_fm_Model_in) (by decide)
    | exact yf_call (by assumption) (yf_jb_Model_isPlain_128) (by decide)
theorem yf_jb_Model_isPlain_34 {b0 : Int32} {u : xk_St} : yf_F [] [] [] [] u (jb_Model_isPlain_34 b0 u) := by
  have hu : yf_fr [] [] [] [] u u := yf_refl
  unfold jb_Model_isPlain_34
  repeat' with_reducible first
    | exact yf_none
    | exact yf_some (by assumption)
    | refine yf_ite ?_ ?_
    | exact yf_call (by assumption) (yf_jb_Model_isPlain_39) (by decide)
theorem yf_fm_Model_isPlain {x0 : Int32} {u : xk_St} : yf_F [] [] [] [] u (fm_Model_isPlain x0 u) := by
  have hu : yf_fr [] [] [] [] u u := yf_refl
  unfold fm_Model_isPlain
  repeat' with_reducible first
    | exact yf_none
    | exact yf_some (by assumption)
    | refine yf_ite ?_ ?_
    | exact yf_call (by assumption) (yf_jb_Model_isPlain_34) (by decide)
    | exact yf_call (by assumption) (yf_jb_Model_isPlain_39) (by decide)
theorem yf_jb_Model_object_85 {fu : Nat} {u : xk_St} : yf_F [4, 6, 9] [0, 1] [] [] u (jb_Model_object_85 fu u) := by
  have hu : yf_fr [4, 6, 9] [0, 1] [] [] u u := yf_refl
  unfold jb_Model_object_85
  repeat' with_reducible first
    | exact yf_none
    | exact yf_some (by assumption)
    | refine yf_ite ?_ ?_
    | refine yf_seq ?_ (fun _ _ _ => ?_)
    | exact yf_call (by assumption) (yf_fm_Model_fail) (by decide)
theorem yf_jb_Model_object_120 {fu : Nat} {u : xk_St} : yf_F [4, 6, 9] [0, 1] [] [] u (jb_Model_object_120 fu u) := by
  have hu : yf_fr [4, 6, 9] [0, 1] [] [] u u := yf_refl
  unfold jb_Model_object_120
  repeat' with_reducible first
    | exact yf_none
    | exact yf_some (by assumption)
    | refine yf_ite ?_ ?_
    | refine yf_seq ?_ (fun _ _ _ => ?_)
    | exact yf_call (by assumption) (yf_fm_Model_pair) (by decide)
theorem yf_jb_Model_object_174 {fu : Nat} {u : xk_St} : yf_F [4, 6, 9] [0, 1] [] [] u (jb_Model_object_174 fu u) := by
  have hu : yf_fr [4, 6, 9] [0, 1] [] [] u u := yf_refl
  unfold jb_Model_object_174
  repeat' with_reducible first
    | exact yf_none
    | exact yf_some (by assumption)
    | refine yf_ite ?_ ?_
    | refine yf_letS (yf_J (by assumption) (by decide)) (fun _ _ => ?_)
    | refine yf_seq ?_ (fun _ _ _ => ?_)
    | exact yf_call (by assumption) (yf_fm_Model_number) (by decide)
    | refine yf_letV (fun _ => ?_)
theorem yf_fm_Model_object {fu : Nat} {u : xk_St} : yf_F [4, 6, 9] [0, 1] [] [] u (fm_Model_object fu u) := by
  have hu : yf_fr [4, 6, 9] [0, 1] [] [] u u := yf_refl
  unfold fm_Model_object
  repeat' with_reducible first
    | exact yf_none
    | exact yf_some (by assumption)
    | refine yf_ite ?_ ?_
    | refine yf_letS (yf_I (by assumption) (by decide)) (fun _ _ => ?_)
    | refine yf_letS (yf_J (by assumption) (by decide)) (fun _ _ => ?_)
    | refine yf_seq ?_ (fun _ _ _ => ?_)
    | exact yf_call (by assumption) (yf_fm_Model_number) (by decide)
    | exact yf_call (by assumption) (yf_jb_Model_object_85) (by decide)
    | exact yf_call (by assumption) (yf_fm_Model_in) (by decide)
    | exact yf_call (by assumption) (yf_jb_Model_object_120) (by decide)
    | exact yf_call (by assumption) (yf_jb_Model_object_174) (by decide)
    | exact yf_call (by assumption) (yf_fm_Model_target) (by decide)
    | exact yf_call (by assumption) (yf_fm_Model_fail) (by decide)
    | refine yf_letV (fun _ => ?_)
theorem yf_jb_Model_ways_59 {fu : Nat} {s0 : Int64} {u : xk_St} : yf_F [4, 6, 10, 11] [0] [] [] u (jb_Model_ways_59 fu s0 u) := by
  have hu : yf_fr [4, 6, 10, 11] [0] [] [] u u := yf_refl
  unfold jb_Model_ways_59
  repeat' with_reducible first
    | exact yf_none
    | exact yf_some (by assumption)
    | refine yf_ite ?_ ?_
    | refine yf_letS (yf_I (by assumption) (by decide)) (fun _ _ => ?_)
    | refine yf_letS (yf_J (by assumption) (by decide)) (fun _ _ => ?_)
    | refine yf_seq ?_ (fun _ _ _ => ?_)
    | exact yf_call (by assumption) (yf_fm_Model_number) (by decide)
    | refine yf_letV (fun _ => ?_)
theorem yf_jb_Model_ways_43 {fu : Nat} {b1 : Int64} {u : xk_St} : yf_F [4, 6, 10, 11] [0] [] [] u (jb_Model_ways_43 fu b1 u) := by
  have hu : yf_fr [4, 6, 10, 11] [0] [] [] u u := yf_refl
  unfold jb_Model_ways_43
  repeat' with_reducible first
    | exact yf_none
    | exact yf_some (by assumption)
    | refine yf_ite ?_ ?_
    | exact yf_call (by assumption) (yf_jb_Model_ways_59) (by decide)
theorem yf_jb_Model_ways_15 {fu : Nat} : ∀ {n : Nat} {b1 : Int64} {b3 : Int64} {u : xk_St}, yf_F [4, 6, 10, 11] [0] [] [] u (jb_Model_ways_15 fu n b1 b3 u) := by
  intro n
  induction n with
  | zero => intros; exact yf_none
  | succ n ih =>
    intro b1 b3 u
    have hu : yf_fr [4, 6, 10, 11] [0] [] [] u u := yf_refl
    unfold jb_Model_ways_15
    refine yf_let ?_
    repeat' with_reducible first
      | exact yf_none
      | exact yf_some (by assumption)
      | refine yf_ite ?_ ?_
      | refine yf_letS (yf_J (by assumption) (by decide)) (fun _ _ => ?_)
      | refine yf_seq ?_ (fun _ _ _ => ?_)
      | exact yf_call (by assumption) (yf_jb_Model_ways_43) (by decide)
      | exact yf_call (by assumption) (yf_fm_Model_number) (by decide)
      | exact yf_call (by assumption) (ih ..) (by decide)
      | refine yf_letV (fun _ => ?_)
theorem yf_fm_Model_ways {fu : Nat} {u : xk_St} : yf_F [4, 6, 10, 11] [0] [] [] u (fm_Model_ways fu u) := by
  have hu : yf_fr [4, 6, 10, 11] [0] [] [] u u := yf_refl
  unfold fm_Model_ways
  repeat' with_reducible first
    | exact yf_none
    | exact yf_some (by assumption)
    | refine yf_ite ?_ ?_
    | refine yf_letS (yf_I (by assumption) (by decide)) (fun _ _ => ?_)
    | refine yf_seq ?_ (fun _ _ _ => ?_)
    | exact yf_call (by assumption) (yf_fm_Model_number) (by decide)
    | exact yf_call (by assumption) (yf_jb_Model_ways_15) (by decide)
    | refine yf_letV (fun _ => ?_)
theorem yf_fm_Model_blockTypeHere {fu : Nat} {u : xk_St} : yf_F [4, 6] [] [] [] u (fm_Model_blockTypeHere fu u) := by
  have hu : yf_fr [4, 6] [] [] [] u u := yf_refl
  unfold fm_Model_blockTypeHere
  repeat' with_reducible first
    | exact yf_none
    | exact yf_some (by assumption)
    | refine yf_ite ?_ ?_
    | refine yf_letS (yf_I (by assumption) (by decide)) (fun _ _ => ?_)
    | refine yf_seq ?_ (fun _ _ _ => ?_)
    | exact yf_call (by assumption) (yf_fm_Model_ahead) (by decide)
    | exact yf_call (by assumption) (yf_fm_Model_isTypeByte) (by decide)
    | exact yf_call (by assumption) (yf_fm_Model_signed) (by decide)
    | exact yf_call (by assumption) (yf_fm_Model_fail) (by decide)
    | exact yf_call (by assumption) (yf_fm_Model_valueType) (by decide)
    | refine yf_letV (fun _ => ?_)
theorem yf_jb_Model_instruction_142 {fu : Nat} {u : xk_St} : yf_F [4, 6, 8, 9, 10, 11] [0, 1] [] [] u (jb_Model_instruction_142 fu u) := by
  have hu : yf_fr [4, 6, 8, 9, 10, 11] [0, 1] [] [] u u := yf_refl
  unfold jb_Model_instruction_142
  repeat' with_reducible first
    | exact yf_none
    | exact yf_some (by assumption)
    | refine yf_ite ?_ ?_
    | refine yf_letS (yf_J (by assumption) (by decide)) (fun _ _ => ?_)
    | refine yf_seq ?_ (fun _ _ _ => ?_)
    | exact yf_call (by assumption) (yf_fm_Model_number) (by decide)
    | refine yf_letV (fun _ => ?_)
theorem yf_jb_Model_instruction_195 {fu : Nat} {u : xk_St} : yf_F [4, 6, 8, 9, 10, 11] [0, 1] [] [] u (jb_Model_instruction_195 fu u) := by
  have hu : yf_fr [4, 6, 8, 9, 10, 11] [0, 1] [] [] u u := yf_refl
  unfold jb_Model_instruction_195
  repeat' with_reducible first
    | exact yf_none
    | exact yf_some (by assumption)
    | refine yf_ite ?_ ?_
    | refine yf_seq ?_ (fun _ _ _ => ?_)
    | exact yf_call (by assumption) (yf_fm_Model_pair) (by decide)
theorem yf_jb_Model_instruction_220 {fu : Nat} {u : xk_St} : yf_F [4, 6, 8, 9, 10, 11] [0, 1] [] [] u (jb_Model_instruction_220 fu u) := by
  have hu : yf_fr [4, 6, 8, 9, 10, 11] [0, 1] [] [] u u := yf_refl
  unfold jb_Model_instruction_220
  repeat' with_reducible first
    | exact yf_none
    | exact yf_some (by assumption)
    | refine yf_ite ?_ ?_
    | refine yf_seq ?_ (fun _ _ _ => ?_)
    | exact yf_call (by assumption) (yf_fm_Model_needs) (by decide)
theorem yf_jb_Model_instruction_264 {fu : Nat} {s0 : Int32} {u : xk_St} : yf_F [4, 6, 8, 9, 10, 11] [0, 1] [] [] u (jb_Model_instruction_264 fu s0 u) := by
  have hu : yf_fr [4, 6, 8, 9, 10, 11] [0, 1] [] [] u u := yf_refl
  unfold jb_Model_instruction_264
  repeat' with_reducible first
    | exact yf_none
    | exact yf_some (by assumption)
    | refine yf_ite ?_ ?_
    | refine yf_letS (yf_J (by assumption) (by decide)) (fun _ _ => ?_)
    | refine yf_seq ?_ (fun _ _ _ => ?_)
    | exact yf_call (by assumption) (yf_fm_Model_signed) (by decide)
    | refine yf_letV (fun _ => ?_)
theorem yf_jb_Model_instruction_246 {fu : Nat} {u : xk_St} : yf_F [4, 6, 8, 9, 10, 11] [0, 1] [] [] u (jb_Model_instruction_246 fu u) := by
  have hu : yf_fr [4, 6, 8, 9, 10, 11] [0, 1] [] [] u u := yf_refl
  unfold jb_Model_instruction_246
  repeat' with_reducible first
    | exact yf_none
    | exact yf_some (by assumption)
    | refine yf_ite ?_ ?_
    | exact yf_call (by assumption) (yf_jb_Model_instruction_264) (by decide)
theorem yf_fm_Model_instruction {fu : Nat} {u : xk_St} : yf_F [4, 6, 8, 9, 10, 11] [0, 1] [] [] u (fm_Model_instruction fu u) := by
  have hu : yf_fr [4, 6, 8, 9, 10, 11] [0, 1] [] [] u u := yf_refl
  unfold fm_Model_instruction
  repeat' with_reducible first
    | exact yf_none
    | exact yf_some (by assumption)
    | refine yf_ite ?_ ?_
    | refine yf_letS (yf_I (by assumption) (by decide)) (fun _ _ => ?_)
    | refine yf_letS (yf_J (by assumption) (by decide)) (fun _ _ => ?_)
    | refine yf_seq ?_ (fun _ _ _ => ?_)
    | exact yf_call (by assumption) (yf_fm_Model_one) (by decide)
    | exact yf_call (by assumption) (yf_fm_Model_isRefused) (by decide)
    | exact yf_call (by assumption) (yf_fm_Model_in) (by decide)
    | exact yf_call (by assumption) (yf_jb_Model_instruction_142) (by decide)
    | exact yf_call (by assumption) (yf_fm_Model_ways) (by decide)
    | exact yf_call (by assumption) (yf_jb_Model_instruction_195) (by decide)
    | exact yf_call (by assumption) (yf_jb_Model_instruction_220) (by decide)
    | exact yf_call (by assumption) (yf_jb_Model_instruction_246) (by decide)
    | exact yf_call (by assumption) (yf_fm_Model_target) (by decide)
    | exact yf_call (by assumption) (yf_fm_Model_object) (by decide)
    | exact yf_call (by assumption) (yf_fm_Model_isPlain) (by decide)
    | exact yf_call (by assumption) (yf_fm_Model_fail) (by decide)
    | exact yf_call (by assumption) (yf_fm_Model_blockTypeHere) (by decide)
    | refine yf_letV (fun _ => ?_)
