theorem yf_jb_Model_bodyForm_215 {fu : Nat} {b1 : Int32} {b4 : Int32} {u : xk_St} : yf_F [4, 5, 6, 8, 9, 10, 11] [0, 1] [3] [] u (jb_Model_bodyForm_215 fu b1 b4 u) := by
  have hu : yf_fr [4, 5, 6, 8, 9, 10, 11] [0, 1] [3] [] u u := yf_refl
  unfold jb_Model_bodyForm_215
  repeat' with_reducible first
    | exact yf_none
    | exact yf_some (by assumption)
    | refine yf_ite ?_ ?_
    | refine yf_letS (yf_I (by assumption) (by decide)) (fun _ _ => ?_)
    | refine yf_seq ?_ (fun _ _ _ => ?_)
    | exact yf_call (by assumption) (yf_fm_Model_fail) (by decide)
    | refine yf_letV (fun _ => ?_)
theorem yf_jb_Model_bodyForm_207 {fu : Nat} {k102 : Int32 → Int32 → Int32 → xk_St → Option (Unit × xk_St)} {b1 : Int32} {b4 : Int32} {b5 : Int32} {s0 : Int32} {s1 : Int32} {u : xk_St} (hk102 : ∀ c0 c1 c2 v, yf_F [4, 5, 6, 8, 9, 10, 11] [0, 1] [3] [] v (k102 c0 c1 c2 v)) : yf_F [4, 5, 6, 8, 9, 10, 11] [0, 1] [3] [] u (jb_Model_bodyForm_207 fu k102 b1 b4 b5 s0 s1 u) := by
  have hu : yf_fr [4, 5, 6, 8, 9, 10, 11] [0, 1] [3] [] u u := yf_refl
  unfold jb_Model_bodyForm_207
  repeat' with_reducible first
    | exact yf_none
    | exact yf_some (by assumption)
    | refine yf_ite ?_ ?_
    | refine yf_letS (yf_A (by assumption) (by decide)) (fun _ _ => ?_)
    | exact yf_call (by assumption) (hk102 ..) (by decide)
    | refine yf_letV (fun _ => ?_)
theorem yf_jb_Model_bodyForm_158 {fu : Nat} {k102 : Int32 → Int32 → Int32 → xk_St → Option (Unit × xk_St)} {b1 : Int32} {b4 : Int32} {b5 : Int32} {u : xk_St} (hk102 : ∀ c0 c1 c2 v, yf_F [4, 5, 6, 8, 9, 10, 11] [0, 1] [3] [] v (k102 c0 c1 c2 v)) : yf_F [4, 5, 6, 8, 9, 10, 11] [0, 1] [3] [] u (jb_Model_bodyForm_158 fu k102 b1 b4 b5 u) := by
  have hu : yf_fr [4, 5, 6, 8, 9, 10, 11] [0, 1] [3] [] u u := yf_refl
  unfold jb_Model_bodyForm_158
  repeat' with_reducible first
    | exact yf_none
    | exact yf_some (by assumption)
    | refine yf_ite ?_ ?_
    | refine yf_letS (yf_A (by assumption) (by decide)) (fun _ _ => ?_)
    | exact yf_call (by assumption) (hk102 ..) (by decide)
    | refine yf_letV (fun _ => ?_)
theorem yf_jb_Model_bodyForm_102 {fu : Nat} : ∀ {n : Nat} {b1 : Int32} {b4 : Int32} {b5 : Int32} {u : xk_St}, yf_F [4, 5, 6, 8, 9, 10, 11] [0, 1] [3] [] u (jb_Model_bodyForm_102 fu n b1 b4 b5 u) := by
  intro n
  induction n with
  | zero => intros; exact yf_none
  | succ n ih =>
    intro b1 b4 b5 u
    have hu : yf_fr [4, 5, 6, 8, 9, 10, 11] [0, 1] [3] [] u u := yf_refl
    unfold jb_Model_bodyForm_102
    refine yf_let ?_
    refine yf_ite (yf_call hu yf_jb_Model_bodyForm_215 (by decide)) (yf_ite (yf_seq (yf_call hu yf_fm_Model_instruction (by decide)) fun _ w hw => yf_ite (yf_call hw (ih (b5 := b5 + -1)) (by decide)) (yf_ite (yf_ite yf_none (yf_ite (yf_seq (yf_call hw yf_fm_Model_fail (by decide)) fun _ z hz => yf_call hz (yf_jb_Model_bodyForm_158 fun _ _ _ _ => ih) (by decide)) (yf_call hw (yf_jb_Model_bodyForm_158 fun _ _ _ _ => ih) (by decide)))) (yf_seq (yf_call hw yf_fm_Model_in (by decide)) fun _ z hz => yf_ite (yf_call hz ih (by decide)) (yf_ite (yf_call hz (yf_jb_Model_bodyForm_207 fun _ _ _ _ => ih) (by decide)) (yf_call hz (yf_jb_Model_bodyForm_207 fun _ _ _ _ => ih) (by decide)))))) (yf_call hu yf_jb_Model_bodyForm_215 (by decide)))
theorem yf_jb_Model_bodyForm_92 {fu : Nat} {b1 : Int32} {b4 : Int32} {u : xk_St} : yf_F [4, 5, 6, 8, 9, 10, 11] [0, 1] [3] [] u (jb_Model_bodyForm_92 fu b1 b4 u) := by
  have hu : yf_fr [4, 5, 6, 8, 9, 10, 11] [0, 1] [3] [] u u := yf_refl
  unfold jb_Model_bodyForm_92
  repeat' with_reducible first
    | exact yf_none
    | exact yf_some (by assumption)
    | refine yf_ite ?_ ?_
    | refine yf_letS (yf_A (by assumption) (by decide)) (fun _ _ => ?_)
    | exact yf_call (by assumption) (yf_jb_Model_bodyForm_102) (by decide)
    | refine yf_letV (fun _ => ?_)
theorem yf_jb_Model_bodyForm_59 {fu : Nat} : ∀ {n : Nat} {b1 : Int32} {b4 : Int32} {b5 : Int64} {u : xk_St}, yf_F [4, 5, 6, 8, 9, 10, 11] [0, 1] [3] [] u (jb_Model_bodyForm_59 fu n b1 b4 b5 u) := by
  intro n
  induction n with
  | zero => intros; exact yf_none
  | succ n ih =>
    intro b1 b4 b5 u
    have hu : yf_fr [4, 5, 6, 8, 9, 10, 11] [0, 1] [3] [] u u := yf_refl
    unfold jb_Model_bodyForm_59
    refine yf_let ?_
    repeat' with_reducible first
      | exact yf_none
      | exact yf_some (by assumption)
      | refine yf_ite ?_ ?_
      | refine yf_seq ?_ (fun _ _ _ => ?_)
      | exact yf_call (by assumption) (yf_jb_Model_bodyForm_92) (by decide)
      | exact yf_call (by assumption) (yf_fm_Model_number) (by decide)
      | exact yf_call (by assumption) (yf_fm_Model_valueType) (by decide)
      | exact yf_call (by assumption) (ih ..) (by decide)
      | refine yf_letV (fun _ => ?_)
theorem yf_jb_Model_bodyForm_30 {fu : Nat} {b1 : Int32} {b2 : Int64} {u : xk_St} : yf_F [4, 5, 6, 8, 9, 10, 11] [0, 1] [3] [] u (jb_Model_bodyForm_30 fu b1 b2 u) := by
  have hu : yf_fr [4, 5, 6, 8, 9, 10, 11] [0, 1] [3] [] u u := yf_refl
  unfold jb_Model_bodyForm_30
  repeat' with_reducible first
    | exact yf_none
    | exact yf_some (by assumption)
    | refine yf_ite ?_ ?_
    | refine yf_letS (yf_I (by assumption) (by decide)) (fun _ _ => ?_)
    | refine yf_seq ?_ (fun _ _ _ => ?_)
    | exact yf_call (by assumption) (yf_fm_Model_number) (by decide)
    | exact yf_call (by assumption) (yf_jb_Model_bodyForm_59) (by decide)
    | refine yf_letV (fun _ => ?_)
theorem yf_fm_Model_bodyForm {fu : Nat} {u : xk_St} : yf_F [4, 5, 6, 8, 9, 10, 11] [0, 1] [3] [] u (fm_Model_bodyForm fu u) := by
  have hu : yf_fr [4, 5, 6, 8, 9, 10, 11] [0, 1] [3] [] u u := yf_refl
  unfold fm_Model_bodyForm
  repeat' with_reducible first
    | exact yf_none
    | exact yf_some (by assumption)
    | refine yf_ite ?_ ?_
    | refine yf_seq ?_ (fun _ _ _ => ?_)
    | exact yf_call (by assumption) (yf_fm_Model_number) (by decide)
    | exact yf_call (by assumption) (yf_jb_Model_bodyForm_30) (by decide)
    | exact yf_call (by assumption) (yf_fm_Model_fail) (by decide)
    | refine yf_letV (fun _ => ?_)
theorem yf_jb_Model_section_204 {fu : Nat} {k20 : Int32 → Int64 → Int64 → xk_St → Option (Unit × xk_St)} {b1 : Int32} {b2 : Int64} {b4 : Int64} {u : xk_St} (hk20 : ∀ c0 c1 c2 v, yf_F [4, 5, 6, 8, 9, 10, 11] [0, 1] [3] [] v (k20 c0 c1 c2 v)) : yf_F [4, 5, 6, 8, 9, 10, 11] [0, 1] [3] [] u (jb_Model_section_204 fu k20 b1 b2 b4 u) := by
  have hu : yf_fr [4, 5, 6, 8, 9, 10, 11] [0, 1] [3] [] u u := yf_refl
  unfold jb_Model_section_204
  repeat' with_reducible first
    | exact yf_none
    | exact yf_some (by assumption)
    | refine yf_ite ?_ ?_
    | exact yf_call (by assumption) (hk20 ..) (by decide)
    | refine yf_letV (fun _ => ?_)
theorem yf_jb_Model_section_196 {fu : Nat} {k20 : Int32 → Int64 → Int64 → xk_St → Option (Unit × xk_St)} {b1 : Int32} {b2 : Int64} {b4 : Int64} {u : xk_St} (hk20 : ∀ c0 c1 c2 v, yf_F [4, 5, 6, 8, 9, 10, 11] [0, 1] [3] [] v (k20 c0 c1 c2 v)) : yf_F [4, 5, 6, 8, 9, 10, 11] [0, 1] [3] [] u (jb_Model_section_196 fu k20 b1 b2 b4 u) := by
  have hu : yf_fr [4, 5, 6, 8, 9, 10, 11] [0, 1] [3] [] u u := yf_refl
  unfold jb_Model_section_196
  repeat' with_reducible first
    | exact yf_none
    | exact yf_some (by assumption)
    | refine yf_ite ?_ ?_
    | refine yf_seq ?_ (fun _ _ _ => ?_)
    | exact yf_call (by assumption) (yf_fm_Model_place) (by decide)
    | exact yf_call (by assumption) (yf_fm_Model_bytesForm) (by decide)
    | exact yf_call (by assumption) (yf_jb_Model_section_204 (by intros; first | apply hk20)) (by decide)
    | exact yf_call (by assumption) (hk20 ..) (by decide)
theorem yf_jb_Model_section_186 {fu : Nat} {k20 : Int32 → Int64 → Int64 → xk_St → Option (Unit × xk_St)} {b1 : Int32} {b2 : Int64} {b4 : Int64} {u : xk_St} (hk20 : ∀ c0 c1 c2 v, yf_F [4, 5, 6, 8, 9, 10, 11] [0, 1] [3] [] v (k20 c0 c1 c2 v)) : yf_F [4, 5, 6, 8, 9, 10, 11] [0, 1] [3] [] u (jb_Model_section_186 fu k20 b1 b2 b4 u) := by
  have hu : yf_fr [4, 5, 6, 8, 9, 10, 11] [0, 1] [3] [] u u := yf_refl
  unfold jb_Model_section_186
  repeat' with_reducible first
    | exact yf_none
    | exact yf_some (by assumption)
    | refine yf_ite ?_ ?_
    | exact yf_call (by assumption) (yf_jb_Model_section_204 (by intros; first | apply hk20)) (by decide)
    | exact yf_call (by assumption) (hk20 ..) (by decide)
theorem yf_jb_Model_section_158 {fu : Nat} {k20 : Int32 → Int64 → Int64 → xk_St → Option (Unit × xk_St)} (hk20 : ∀ c0 c1 c2 v, yf_F [4, 5, 6, 8, 9, 10, 11] [0, 1] [3] [] v (k20 c0 c1 c2 v)) : ∀ {n : Nat} {b1 : Int32} {b2 : Int64} {b4 : Int64} {b6 : Int64} {u : xk_St}, yf_F [4, 5, 6, 8, 9, 10, 11] [0, 1] [3] [] u (jb_Model_section_158 fu k20 n b1 b2 b4 b6 u) := by
  intro n
  induction n with
  | zero => intros; exact yf_none
  | succ n ih =>
    intro b1 b2 b4 b6 u
    have hu : yf_fr [4, 5, 6, 8, 9, 10, 11] [0, 1] [3] [] u u := yf_refl
    unfold jb_Model_section_158
    refine yf_let ?_
    repeat' with_reducible first
      | exact yf_none
      | exact yf_some (by assumption)
      | refine yf_ite ?_ ?_
      | refine yf_seq ?_ (fun _ _ _ => ?_)
      | exact yf_call (by assumption) (yf_jb_Model_section_186 (by intros; first | apply hk20 | apply ih)) (by decide)
      | exact yf_call (by assumption) (yf_fm_Model_number) (by decide)
      | exact yf_call (by assumption) (hk20 ..) (by decide)
      | exact yf_call (by assumption) (ih ..) (by decide)
      | refine yf_letV (fun _ => ?_)
theorem yf_jb_Model_section_20 {fu : Nat} : ∀ {n : Nat} {b1 : Int32} {b2 : Int64} {b4 : Int64} {u : xk_St}, yf_F [4, 5, 6, 8, 9, 10, 11] [0, 1] [3] [] u (jb_Model_section_20 fu n b1 b2 b4 u) := by
  intro n
  induction n with
  | zero => intros; exact yf_none
  | succ n ih =>
    intro b1 b2 b4 u
    have hu : yf_fr [4, 5, 6, 8, 9, 10, 11] [0, 1] [3] [] u u := yf_refl
    unfold jb_Model_section_20
    refine yf_let ?_
    repeat' with_reducible first
      | exact yf_none
      | exact yf_some (by assumption)
      | refine yf_ite ?_ ?_
      | refine yf_seq ?_ (fun _ _ _ => ?_)
      | exact yf_call (by assumption) (yf_fm_Model_typeForm) (by decide)
      | exact yf_call (by assumption) (yf_jb_Model_section_204 (by intros; first | apply ih)) (by decide)
      | exact yf_call (by assumption) (yf_jb_Model_section_196 (by intros; first | apply ih)) (by decide)
      | exact yf_call (by assumption) (yf_fm_Model_number) (by decide)
      | exact yf_call (by assumption) (yf_fm_Model_needs) (by decide)
      | exact yf_call (by assumption) (yf_fm_Model_limits) (by decide)
      | exact yf_call (by assumption) (yf_fm_Model_valueType) (by decide)
      | exact yf_call (by assumption) (yf_fm_Model_flag) (by decide)
      | exact yf_call (by assumption) (yf_fm_Model_constant) (by decide)
      | exact yf_call (by assumption) (yf_fm_Model_exportForm) (by decide)
      | exact yf_call (by assumption) (yf_fm_Model_place) (by decide)
      | exact yf_call (by assumption) (yf_jb_Model_section_158 (by intros; first | apply ih)) (by decide)
      | exact yf_call (by assumption) (yf_fm_Model_bodyForm) (by decide)
      | exact yf_call (by assumption) (ih ..) (by decide)
      | refine yf_letV (fun _ => ?_)
theorem yf_fm_Model_section {fu : Nat} {x0 : Int32} {u : xk_St} : yf_F [4, 5, 6, 8, 9, 10, 11] [0, 1] [3] [] u (fm_Model_section fu x0 u) := by
  have hu : yf_fr [4, 5, 6, 8, 9, 10, 11] [0, 1] [3] [] u u := yf_refl
  unfold fm_Model_section
  repeat' with_reducible first
    | exact yf_none
    | exact yf_some (by assumption)
    | refine yf_ite ?_ ?_
    | refine yf_seq ?_ (fun _ _ _ => ?_)
    | exact yf_call (by assumption) (yf_fm_Model_number) (by decide)
    | exact yf_call (by assumption) (yf_jb_Model_section_20) (by decide)
theorem yf_fm_Model_magic {x0 : Int32} {u : xk_St} : yf_F [] [] [] [] u (fm_Model_magic x0 u) := by
  have hu : yf_fr [] [] [] [] u u := yf_refl
  unfold fm_Model_magic
  repeat' with_reducible first
    | exact yf_none
    | exact yf_some (by assumption)
    | refine yf_ite ?_ ?_
theorem yf_jb_Model_walk_211 {fu : Nat} {k63 : Int32 → xk_St → Option (Unit × xk_St)} {b1 : Int32} {u : xk_St} (hk63 : ∀ c0 v, yf_F [4, 5, 6, 8, 9, 10, 11] [0, 1] [2, 3] [] v (k63 c0 v)) : yf_F [4, 5, 6, 8, 9, 10, 11] [0, 1] [2, 3] [] u (jb_Model_walk_211 fu k63 b1 u) := by
  have hu : yf_fr [4, 5, 6, 8, 9, 10, 11] [0, 1] [2, 3] [] u u := yf_refl
  unfold jb_Model_walk_211
  repeat' with_reducible first
    | exact yf_none
    | exact yf_some (by assumption)
    | refine yf_ite ?_ ?_
    | exact yf_call (by assumption) (hk63 ..) (by decide)
theorem yf_jb_Model_walk_197 {fu : Nat} {k63 : Int32 → xk_St → Option (Unit × xk_St)} {b1 : Int32} {b5 : Int32} {u : xk_St} (hk63 : ∀ c0 v, yf_F [4, 5, 6, 8, 9, 10, 11] [0, 1] [2, 3] [] v (k63 c0 v)) : yf_F [4, 5, 6, 8, 9, 10, 11] [0, 1] [2, 3] [] u (jb_Model_walk_197 fu k63 b1 b5 u) := by
  have hu : yf_fr [4, 5, 6, 8, 9, 10, 11] [0, 1] [2, 3] [] u u := yf_refl
  unfold jb_Model_walk_197
  repeat' with_reducible first
    | exact yf_none
    | exact yf_some (by assumption)
    | refine yf_ite ?_ ?_
    | refine yf_seq ?_ (fun _ _ _ => ?_)
    | exact yf_call (by assumption) (yf_jb_Model_walk_211 (by intros; first | apply hk63)) (by decide)
    | exact yf_call (by assumption) (yf_fm_Model_fail) (by decide)
    | exact yf_call (by assumption) (hk63 ..) (by decide)
theorem yf_jb_Model_walk_144 {fu : Nat} {k63 : Int32 → xk_St → Option (Unit × xk_St)} {b1 : Int32} {b2 : Int32} {b3 : Int64} {u : xk_St} (hk63 : ∀ c0 v, yf_F [4, 5, 6, 8, 9, 10, 11] [0, 1] [2, 3] [] v (k63 c0 v)) : yf_F [4, 5, 6, 8, 9, 10, 11] [0, 1] [2, 3] [] u (jb_Model_walk_144 fu k63 b1 b2 b3 u) := by
  have hu : yf_fr [4, 5, 6, 8, 9, 10, 11] [0, 1] [2, 3] [] u u := yf_refl
  unfold jb_Model_walk_144
  repeat' with_reducible first
    | exact yf_none
    | exact yf_some (by assumption)
    | refine yf_ite ?_ ?_
    | refine yf_letS (yf_I (by assumption) (by decide)) (fun _ _ => ?_)
    | refine yf_letS (yf_A (by assumption) (by decide)) (fun _ _ => ?_)
    | refine yf_seq ?_ (fun _ _ _ => ?_)
    | exact yf_call (by assumption) (yf_jb_Model_walk_197 (by intros; first | apply hk63)) (by decide)
    | exact yf_call (by assumption) (yf_fm_Model_section) (by decide)
    | exact yf_call (by assumption) (hk63 ..) (by decide)
    | refine yf_letV (fun _ => ?_)
theorem yf_jb_Model_walk_119 {fu : Nat} {k63 : Int32 → xk_St → Option (Unit × xk_St)} {b1 : Int32} {b2 : Int32} {u : xk_St} (hk63 : ∀ c0 v, yf_F [4, 5, 6, 8, 9, 10, 11] [0, 1] [2, 3] [] v (k63 c0 v)) : yf_F [4, 5, 6, 8, 9, 10, 11] [0, 1] [2, 3] [] u (jb_Model_walk_119 fu k63 b1 b2 u) := by
  have hu : yf_fr [4, 5, 6, 8, 9, 10, 11] [0, 1] [2, 3] [] u u := yf_refl
  unfold jb_Model_walk_119
  repeat' with_reducible first
    | exact yf_none
    | exact yf_some (by assumption)
    | refine yf_ite ?_ ?_
    | refine yf_seq ?_ (fun _ _ _ => ?_)
    | exact yf_call (by assumption) (yf_fm_Model_number) (by decide)
    | exact yf_call (by assumption) (yf_jb_Model_walk_144 (by intros; first | apply hk63)) (by decide)
    | exact yf_call (by assumption) (yf_fm_Model_fail) (by decide)
    | exact yf_call (by assumption) (hk63 ..) (by decide)
theorem yf_jb_Model_walk_114 {fu : Nat} {k63 : Int32 → xk_St → Option (Unit × xk_St)} {b1 : Int32} {b2 : Int32} {u : xk_St} (hk63 : ∀ c0 v, yf_F [4, 5, 6, 8, 9, 10, 11] [0, 1] [2, 3] [] v (k63 c0 v)) : yf_F [4, 5, 6, 8, 9, 10, 11] [0, 1] [2, 3] [] u (jb_Model_walk_114 fu k63 b1 b2 u) := by
  have hu : yf_fr [4, 5, 6, 8, 9, 10, 11] [0, 1] [2, 3] [] u u := yf_refl
  unfold jb_Model_walk_114
  repeat' with_reducible first
    | exact yf_none
    | exact yf_some (by assumption)
    | refine yf_ite ?_ ?_
    | refine yf_seq ?_ (fun _ _ _ => ?_)
    | exact yf_call (by assumption) (yf_fm_Model_fail) (by decide)
    | exact yf_call (by assumption) (yf_jb_Model_walk_119 (by intros; first | apply hk63)) (by decide)
    | exact yf_call (by assumption) (hk63 ..) (by decide)
theorem yf_jb_Model_walk_63 {fu : Nat} : ∀ {n : Nat} {b1 : Int32} {u : xk_St}, yf_F [4, 5, 6, 8, 9, 10, 11] [0, 1] [2, 3] [] u (jb_Model_walk_63 fu n b1 u) := by
  intro n
  induction n with
  | zero => intros; exact yf_none
  | succ n ih =>
    intro b1 u
    have hu : yf_fr [4, 5, 6, 8, 9, 10, 11] [0, 1] [2, 3] [] u u := yf_refl
    unfold jb_Model_walk_63
    refine yf_let ?_
    repeat' with_reducible first
      | exact yf_none
      | exact yf_some (by assumption)
      | refine yf_ite ?_ ?_
      | refine yf_letS (yf_I (by assumption) (by decide)) (fun _ _ => ?_)
      | refine yf_seq ?_ (fun _ _ _ => ?_)
      | exact yf_call (by assumption) (yf_fm_Model_one) (by decide)
      | exact yf_call (by assumption) (yf_jb_Model_walk_114 (by intros; first | apply ih)) (by decide)
      | exact yf_call (by assumption) (yf_jb_Model_walk_119 (by intros; first | apply ih)) (by decide)
      | exact yf_call (by assumption) (ih ..) (by decide)
      | refine yf_letV (fun _ => ?_)
theorem yf_jb_Model_walk_41 {fu : Nat} : ∀ {n : Nat} {b1 : Int32} {u : xk_St}, yf_F [4, 5, 6, 8, 9, 10, 11] [0, 1] [2, 3] [] u (jb_Model_walk_41 fu n b1 u) := by
  intro n
  induction n with
  | zero => intros; exact yf_none
  | succ n ih =>
    intro b1 u
    have hu : yf_fr [4, 5, 6, 8, 9, 10, 11] [0, 1] [2, 3] [] u u := yf_refl
    unfold jb_Model_walk_41
    refine yf_let ?_
    repeat' with_reducible first
      | exact yf_none
      | exact yf_some (by assumption)
      | refine yf_ite ?_ ?_
      | refine yf_seq ?_ (fun _ _ _ => ?_)
      | exact yf_call (by assumption) (yf_jb_Model_walk_63) (by decide)
      | exact yf_call (by assumption) (yf_fm_Model_magic) (by decide)
      | exact yf_call (by assumption) (yf_fm_Model_needs) (by decide)
      | exact yf_call (by assumption) (ih ..) (by decide)
      | refine yf_letV (fun _ => ?_)
theorem yf_jb_Model_walk_20 {fu : Nat} : ∀ {n : Nat} {b1 : Int32} {u : xk_St}, yf_F [4, 5, 6, 8, 9, 10, 11] [0, 1] [2, 3] [] u (jb_Model_walk_20 fu n b1 u) := by
  intro n
  induction n with
  | zero => intros; exact yf_none
  | succ n ih =>
    intro b1 u
    have hu : yf_fr [4, 5, 6, 8, 9, 10, 11] [0, 1] [2, 3] [] u u := yf_refl
    unfold jb_Model_walk_20
    refine yf_let ?_
    repeat' with_reducible first
      | exact yf_none
      | exact yf_some (by assumption)
      | refine yf_ite ?_ ?_
      | refine yf_letS (yf_A (by assumption) (by decide)) (fun _ _ => ?_)
      | exact yf_call (by assumption) (yf_jb_Model_walk_41) (by decide)
      | exact yf_call (by assumption) (ih ..) (by decide)
      | refine yf_letV (fun _ => ?_)
theorem yf_fm_Model_walk {fu : Nat} {u : xk_St} : yf_F [4, 5, 6, 8, 9, 10, 11] [0, 1] [2, 3] [] u (fm_Model_walk fu u) := by
  have hu : yf_fr [4, 5, 6, 8, 9, 10, 11] [0, 1] [2, 3] [] u u := yf_refl
  unfold fm_Model_walk
  repeat' with_reducible first
    | exact yf_none
    | exact yf_some (by assumption)
    | refine yf_ite ?_ ?_
    | refine yf_letS (yf_I (by assumption) (by decide)) (fun _ _ => ?_)
    | exact yf_call (by assumption) (yf_jb_Model_walk_20) (by decide)
    | refine yf_letV (fun _ => ?_)
