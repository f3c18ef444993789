theorem yf_jb_Model_doArray_212 {fu : Nat} {b1 : Int64} {b3 : Int64} {b10 : Int32} {b11 : Int32} {u : xk_St} : yf_F [26, 29] [] [29] [3, 5] u (jb_Model_doArray_212 fu b1 b3 b10 b11 u) := by
  have hu : yf_fr [26, 29] [] [29] [3, 5] u u := yf_refl
  unfold jb_Model_doArray_212
  exact (yf_call hu yf_jb_Model_doArray_215 (by decide))
theorem yf_jb_Model_layPart_30 {b1 : Int32} {s0 : Int64} {u : xk_St} : yf_F [26] [] [29] [3] u (jb_Model_layPart_30 b1 s0 u) := by
  have hu : yf_fr [26] [] [29] [3] u u := yf_refl
  unfold jb_Model_layPart_30
  exact (yf_seq (yf_call hu yf_fm_Model_isReference (by decide)) fun _ _ h1 => (yf_seq (yf_call h1 yf_fm_Model_lay (by decide)) fun _ _ h2 => (yf_some h2)))
theorem yf_jb_Model_layPart_12 {b1 : Int32} {b2 : Int64} {b4 : Int32} {s0 : Int32} {u : xk_St} : yf_F [26] [] [29] [3] u (jb_Model_layPart_12 b1 b2 b4 s0 u) := by
  have hu : yf_fr [26] [] [29] [3] u u := yf_refl
  unfold jb_Model_layPart_12
  exact (yf_ite (yf_call hu yf_jb_Model_layPart_30 (by decide)) (yf_seq (yf_call hu yf_fm_Model_sx (by decide)) fun _ _ h1 => (yf_call h1 yf_jb_Model_layPart_30 (by decide))))
theorem yf_fm_Model_layPart {x0 : Int32} {x1 : Int64} {x2 : Int32} {u : xk_St} : yf_F [26] [] [29] [3] u (fm_Model_layPart x0 x1 x2 u) := by
  have hu : yf_fr [26] [] [29] [3] u u := yf_refl
  unfold fm_Model_layPart
  exact (yf_ite (yf_call hu yf_jb_Model_layPart_12 (by decide)) (yf_call hu yf_jb_Model_layPart_12 (by decide)))
theorem yf_jb_Model_doArray_209 {fu : Nat} {b1 : Int64} {b3 : Int64} {b10 : Int32} {b11 : Int32} {s0 : Int32} {s1 : Int64} {s2 : Int32} {u : xk_St} : yf_F [26, 29] [] [29] [3, 5] u (jb_Model_doArray_209 fu b1 b3 b10 b11 s0 s1 s2 u) := by
  have hu : yf_fr [26, 29] [] [29] [3, 5] u u := yf_refl
  unfold jb_Model_doArray_209
  exact (yf_seq (yf_call hu yf_fm_Model_layPart (by decide)) fun _ _ h1 => (yf_call h1 yf_jb_Model_doArray_212 (by decide)))
theorem yf_jb_Model_doArray_70 {fu : Nat} {b1 : Int64} {b3 : Int64} {s0 : Int64} {u : xk_St} : yf_F [26, 29] [] [29] [3, 5] u (jb_Model_doArray_70 fu b1 b3 s0 u) := by
  have hu : yf_fr [26, 29] [] [29] [3, 5] u u := yf_refl
  unfold jb_Model_doArray_70
  exact (yf_seq (yf_call hu yf_fm_Model_drop (by decide)) fun _ _ h1 => (yf_ite (yf_letS (yf_I h1 (by decide)) fun _ h2 => (yf_some h2)) (yf_ite yf_none (yf_letV fun _ => (yf_ite (yf_ite yf_none (yf_seq (yf_call h1 yf_fm_Model_tell (by decide)) fun _ _ h3 => (yf_some h3))) (yf_ite yf_none (yf_ite (yf_ite yf_none (yf_letV fun _ => (yf_ite yf_none (yf_letV fun _ => (yf_ite (yf_call h1 yf_jb_Model_doArray_212 (by decide)) (yf_ite yf_none (yf_ite (yf_call h1 yf_jb_Model_doArray_209 (by decide)) (yf_call h1 yf_jb_Model_doArray_209 (by decide))))))))) (yf_letS (yf_I h1 (by decide)) fun _ h4 => (yf_some h4)))))))))
theorem yf_jb_Model_doArray_48 {fu : Nat} {b1 : Int64} {s0 : Int64} {u : xk_St} : yf_F [26, 29] [] [29] [3, 5] u (jb_Model_doArray_48 fu b1 s0 u) := by
  have hu : yf_fr [26, 29] [] [29] [3, 5] u u := yf_refl
  unfold jb_Model_doArray_48
  exact (yf_ite (yf_call hu yf_jb_Model_doArray_70 (by decide)) (yf_seq (yf_call hu yf_fm_Model_drop (by decide)) fun _ _ h1 => (yf_call h1 yf_jb_Model_doArray_70 (by decide))))
theorem yf_jb_Model_doArray_40 {fu : Nat} {b1 : Int64} {u : xk_St} : yf_F [26, 29] [] [29] [3, 5] u (jb_Model_doArray_40 fu b1 u) := by
  have hu : yf_fr [26, 29] [] [29] [3, 5] u u := yf_refl
  unfold jb_Model_doArray_40
  exact (yf_seq (yf_call hu yf_fm_Model_drop (by decide)) fun _ _ h1 => (yf_call h1 yf_jb_Model_doArray_48 (by decide)))
theorem yf_jb_Model_doArray_21 {fu : Nat} {s0 : Int64} {u : xk_St} : yf_F [26, 29] [] [29] [3, 5] u (jb_Model_doArray_21 fu s0 u) := by
  have hu : yf_fr [26, 29] [] [29] [3, 5] u u := yf_refl
  unfold jb_Model_doArray_21
  exact (yf_ite (yf_call hu yf_jb_Model_doArray_40 (by decide)) (yf_ite (yf_call hu yf_jb_Model_doArray_40 (by decide)) (yf_call hu yf_jb_Model_doArray_48 (by decide))))
theorem yf_fm_Model_doArray {fu : Nat} {u : xk_St} : yf_F [26, 29] [] [29] [3, 5] u (fm_Model_doArray fu u) := by
  have hu : yf_fr [26, 29] [] [29] [3, 5] u u := yf_refl
  unfold fm_Model_doArray
  exact (yf_ite (yf_seq (yf_call hu yf_fm_Model_drop (by decide)) fun _ _ h1 => (yf_call h1 yf_jb_Model_doArray_21 (by decide))) (yf_call hu yf_jb_Model_doArray_21 (by decide)))
theorem yf_jb_Model_collect_309 {fu : Nat} {k188 : Int32 → Int32 → Int32 → xk_St → Option (Unit × xk_St)} {b1 : Int32} {b2 : Int32} {b3 : Int32} {u : xk_St} (hk188 : ∀ c0 c1 c2 v, yf_F [32, 33, 34] [] [37, 38, 40, 41, 42] [5] v (k188 c0 c1 c2 v)) : yf_F [32, 33, 34] [] [37, 38, 40, 41, 42] [5] u (jb_Model_collect_309 fu k188 b1 b2 b3 u) := by
  have hu : yf_fr [32, 33, 34] [] [37, 38, 40, 41, 42] [5] u u := yf_refl
  unfold jb_Model_collect_309
  exact (yf_letV fun _ => (yf_call hu (hk188 _ _ _ _) (by decide)))
theorem yf_jb_Model_collect_247 {fu : Nat} {k188 : Int32 → Int32 → Int32 → xk_St → Option (Unit × xk_St)} (hk188 : ∀ c0 c1 c2 v, yf_F [32, 33, 34] [] [37, 38, 40, 41, 42] [5] v (k188 c0 c1 c2 v)) : ∀ {n : Nat} {b1 : Int32} {b2 : Int32} {b3 : Int32} {b4 : Int32} {b5 : Int32} {b6 : Int32} {u : xk_St}, yf_F [32, 33, 34] [] [37, 38, 40, 41, 42] [5] u (jb_Model_collect_247 fu k188 n b1 b2 b3 b4 b5 b6 u) := by
  intro n
  induction n with
  | zero => intros; exact yf_none
  | succ n ih =>
    intro b1 b2 b3 b4 b5 b6 u
    have hu : yf_fr [32, 33, 34] [] [37, 38, 40, 41, 42] [5] u u := yf_refl
    unfold jb_Model_collect_247
    refine yf_let ?_
    exact (yf_ite yf_none (yf_ite (yf_ite yf_none (yf_letV fun _ => (yf_ite yf_none (yf_letS (yf_A hu (by decide)) fun _ h1 => (yf_letV fun _ => (yf_call h1 (yf_jb_Model_collect_309 hk188) (by decide))))))) (yf_ite yf_none (yf_ite yf_none (yf_letS (yf_B hu (by decide)) fun _ h2 => (yf_letV fun _ => (yf_call h2 ih (by decide))))))))
theorem yf_jb_Model_collect_188 {fu : Nat} : ∀ {n : Nat} {b1 : Int32} {b2 : Int32} {b3 : Int32} {u : xk_St}, yf_F [32, 33, 34] [] [37, 38, 40, 41, 42] [5] u (jb_Model_collect_188 fu n b1 b2 b3 u) := by
  intro n
  induction n with
  | zero => intros; exact yf_none
  | succ n ih =>
    intro b1 b2 b3 u
    have hu : yf_fr [32, 33, 34] [] [37, 38, 40, 41, 42] [5] u u := yf_refl
    unfold jb_Model_collect_188
    refine yf_let ?_
    exact (yf_ite (yf_letS (yf_I hu (by decide)) fun _ h1 => (yf_letS (yf_I h1 (by decide)) fun _ h2 => (yf_some h2))) (yf_ite yf_none (yf_letV fun _ => (yf_ite yf_none (yf_ite (yf_ite yf_none (yf_letS (yf_A hu (by decide)) fun _ h3 => (yf_call h3 (yf_jb_Model_collect_309 (fun _ _ _ _ => ih)) (by decide)))) (yf_ite yf_none (yf_letV fun _ => (yf_ite yf_none (yf_letS (yf_A hu (by decide)) fun _ h4 => (yf_call h4 (yf_jb_Model_collect_247 (fun _ _ _ _ => ih)) (by decide)))))))))))
theorem yf_fm_Model_partOf {x0 : Int32} {x1 : Int32} {u : xk_St} : yf_F [] [] [] [] u (fm_Model_partOf x0 x1 u) := by
  have hu : yf_fr [] [] [] [] u u := yf_refl
  unfold fm_Model_partOf
  exact (yf_ite yf_none (yf_ite (yf_ite yf_none (yf_some hu)) (yf_ite yf_none (yf_some hu))))
theorem yf_jb_Model_collect_173 {fu : Nat} {k100 : xk_St → Option (Unit × xk_St)} {k129 : Int32 → Int32 → xk_St → Option (Unit × xk_St)} {b1 : Int32} {b2 : Int32} {u : xk_St} (hk100 : ∀ v, yf_F [32, 33, 34] [] [37, 38, 40, 41, 42] [5] v (k100 v)) (hk129 : ∀ c0 c1 v, yf_F [32, 33, 34] [] [37, 38, 40, 41, 42] [5] v (k129 c0 c1 v)) : yf_F [32, 33, 34] [] [37, 38, 40, 41, 42] [5] u (jb_Model_collect_173 fu k100 k129 b1 b2 u) := by
  have hu : yf_fr [32, 33, 34] [] [37, 38, 40, 41, 42] [5] u u := yf_refl
  unfold jb_Model_collect_173
  exact (yf_letV fun _ => (yf_call hu (hk129 _ _ _) (by decide)))
theorem yf_fm_Model_mark {x0 : Int64} {u : xk_St} : yf_F [33] [] [40, 41] [] u (fm_Model_mark x0 u) := by
  have hu : yf_fr [33] [] [40, 41] [] u u := yf_refl
  unfold fm_Model_mark
  exact (yf_ite (yf_some hu) (yf_ite (yf_some hu) (yf_ite yf_none (yf_letV fun _ => (yf_ite yf_none (yf_ite (yf_ite yf_none (yf_letS (yf_A hu (by decide)) fun _ h1 => (yf_ite yf_none (yf_letS (yf_A h1 (by decide)) fun _ h2 => (yf_letS (yf_I h2 (by decide)) fun _ h3 => (yf_some h3)))))) (yf_some hu)))))))
theorem yf_jb_Model_collect_129 {fu : Nat} {k100 : xk_St → Option (Unit × xk_St)} (hk100 : ∀ v, yf_F [32, 33, 34] [] [37, 38, 40, 41, 42] [5] v (k100 v)) : ∀ {n : Nat} {b1 : Int32} {b2 : Int32} {u : xk_St}, yf_F [32, 33, 34] [] [37, 38, 40, 41, 42] [5] u (jb_Model_collect_129 fu k100 n b1 b2 u) := by
  intro n
  induction n with
  | zero => intros; exact yf_none
  | succ n ih =>
    intro b1 b2 u
    have hu : yf_fr [32, 33, 34] [] [37, 38, 40, 41, 42] [5] u u := yf_refl
    unfold jb_Model_collect_129
    refine yf_let ?_
    exact (yf_ite yf_none (yf_ite (yf_call hu (hk100 _) (by decide)) (yf_ite yf_none (yf_seq (yf_call hu yf_fm_Model_partOf (by decide)) fun _ _ h1 => (yf_seq (yf_call h1 yf_fm_Model_isReference (by decide)) fun _ _ h2 => (yf_ite (yf_call h2 (yf_jb_Model_collect_173 hk100 (fun _ _ _ => ih)) (by decide)) (yf_ite yf_none (yf_ite yf_none (yf_seq (yf_call h2 yf_fm_Model_mark (by decide)) fun _ _ h3 => (yf_call h3 (yf_jb_Model_collect_173 hk100 (fun _ _ _ => ih)) (by decide)))))))))))
theorem yf_jb_Model_collect_100 {fu : Nat} : ∀ {n : Nat}  {u : xk_St}, yf_F [32, 33, 34] [] [37, 38, 40, 41, 42] [5] u (jb_Model_collect_100 fu n u) := by
  intro n
  induction n with
  | zero => intros; exact yf_none
  | succ n ih =>
    intro u
    have hu : yf_fr [32, 33, 34] [] [37, 38, 40, 41, 42] [5] u u := yf_refl
    unfold jb_Model_collect_100
    refine yf_let ?_
    exact (yf_ite (yf_call hu yf_jb_Model_collect_188 (by decide)) (yf_letS (yf_I hu (by decide)) fun _ h1 => (yf_ite yf_none (yf_letV fun _ => (yf_call h1 (yf_jb_Model_collect_129 (fun _ => ih)) (by decide))))))
theorem yf_jb_Model_collect_94 {fu : Nat} {k67 : Int32 → xk_St → Option (Unit × xk_St)} {b1 : Int32} {u : xk_St} (hk67 : ∀ c0 v, yf_F [32, 33, 34] [] [37, 38, 40, 41, 42] [5] v (k67 c0 v)) : yf_F [32, 33, 34] [] [37, 38, 40, 41, 42] [5] u (jb_Model_collect_94 fu k67 b1 u) := by
  have hu : yf_fr [32, 33, 34] [] [37, 38, 40, 41, 42] [5] u u := yf_refl
  unfold jb_Model_collect_94
  exact (yf_letV fun _ => (yf_call hu (hk67 _ _) (by decide)))
theorem yf_jb_Model_collect_67 {fu : Nat} : ∀ {n : Nat} {b1 : Int32} {u : xk_St}, yf_F [32, 33, 34] [] [37, 38, 40, 41, 42] [5] u (jb_Model_collect_67 fu n b1 u) := by
  intro n
  induction n with
  | zero => intros; exact yf_none
  | succ n ih =>
    intro b1 u
    have hu : yf_fr [32, 33, 34] [] [37, 38, 40, 41, 42] [5] u u := yf_refl
    unfold jb_Model_collect_67
    refine yf_let ?_
    exact (yf_ite (yf_call hu yf_jb_Model_collect_100 (by decide)) (yf_ite yf_none (yf_ite (yf_call hu (yf_jb_Model_collect_94 (fun _ _ => ih)) (by decide)) (yf_ite yf_none (yf_seq (yf_call hu yf_fm_Model_mark (by decide)) fun _ _ h1 => (yf_call h1 (yf_jb_Model_collect_94 (fun _ _ => ih)) (by decide)))))))
theorem yf_jb_Model_collect_59 {fu : Nat} {k29 : Int32 → xk_St → Option (Unit × xk_St)} {b1 : Int32} {u : xk_St} (hk29 : ∀ c0 v, yf_F [32, 33, 34] [] [37, 38, 40, 41, 42] [5] v (k29 c0 v)) : yf_F [32, 33, 34] [] [37, 38, 40, 41, 42] [5] u (jb_Model_collect_59 fu k29 b1 u) := by
  have hu : yf_fr [32, 33, 34] [] [37, 38, 40, 41, 42] [5] u u := yf_refl
  unfold jb_Model_collect_59
  exact (yf_letV fun _ => (yf_call hu (hk29 _ _) (by decide)))
theorem yf_jb_Model_collect_29 {fu : Nat} : ∀ {n : Nat} {b1 : Int32} {u : xk_St}, yf_F [32, 33, 34] [] [37, 38, 40, 41, 42] [5] u (jb_Model_collect_29 fu n b1 u) := by
  intro n
  induction n with
  | zero => intros; exact yf_none
  | succ n ih =>
    intro b1 u
    have hu : yf_fr [32, 33, 34] [] [37, 38, 40, 41, 42] [5] u u := yf_refl
    unfold jb_Model_collect_29
    refine yf_let ?_
    exact (yf_ite (yf_call hu yf_jb_Model_collect_67 (by decide)) (yf_ite yf_none (yf_seq (yf_call hu yf_fm_Model_isReference (by decide)) fun _ _ h1 => (yf_ite (yf_call h1 (yf_jb_Model_collect_59 (fun _ _ => ih)) (by decide)) (yf_ite yf_none (yf_seq (yf_call h1 yf_fm_Model_mark (by decide)) fun _ _ h2 => (yf_call h2 (yf_jb_Model_collect_59 (fun _ _ => ih)) (by decide))))))))
theorem yf_jb_Model_collect_7 {fu : Nat} : ∀ {n : Nat} {b1 : Int32} {u : xk_St}, yf_F [32, 33, 34] [] [37, 38, 40, 41, 42] [5] u (jb_Model_collect_7 fu n b1 u) := by
  intro n
  induction n with
  | zero => intros; exact yf_none
  | succ n ih =>
    intro b1 u
    have hu : yf_fr [32, 33, 34] [] [37, 38, 40, 41, 42] [5] u u := yf_refl
    unfold jb_Model_collect_7
    refine yf_let ?_
    exact (yf_ite (yf_call hu yf_jb_Model_collect_29 (by decide)) (yf_ite yf_none (yf_letS (yf_A hu (by decide)) fun _ h1 => (yf_letV fun _ => (yf_call h1 ih (by decide))))))
theorem yf_fm_Model_collect {fu : Nat} {u : xk_St} : yf_F [32, 33, 34] [] [37, 38, 40, 41, 42] [5] u (fm_Model_collect fu u) := by
  have hu : yf_fr [32, 33, 34] [] [37, 38, 40, 41, 42] [5] u u := yf_refl
  unfold fm_Model_collect
  exact (yf_letS (yf_I hu (by decide)) fun _ h1 => (yf_call h1 yf_jb_Model_collect_7 (by decide)))
theorem yf_jb_Model_made_113 {fu : Nat} : ∀ {n : Nat} {b2 : Int64} {b4 : Int32} {b5 : Int32} {u : xk_St}, yf_F [29, 32, 33, 34] [] [37, 38, 39, 40, 41, 42] [5] u (jb_Model_made_113 fu n b2 b4 b5 u) := by
  intro n
  induction n with
  | zero => intros; exact yf_none
  | succ n ih =>
    intro b2 b4 b5 u
    have hu : yf_fr [29, 32, 33, 34] [] [37, 38, 39, 40, 41, 42] [5] u u := yf_refl
    unfold jb_Model_made_113
    refine yf_let ?_
    exact (yf_ite (yf_letS (yf_I hu (by decide)) fun _ h1 => (yf_ite yf_none (yf_letS (yf_A h1 (by decide)) fun _ h2 => (yf_letS (yf_I h2 (by decide)) fun _ h3 => (yf_some h3))))) (yf_ite yf_none (yf_letS (yf_B hu (by decide)) fun _ h4 => (yf_letV fun _ => (yf_call h4 ih (by decide))))))
theorem yf_jb_Model_made_63 {fu : Nat} : ∀ {n : Nat} {b1 : Int32} {b2 : Int64} {b4 : Int32} {u : xk_St}, yf_F [29, 32, 33, 34] [] [37, 38, 39, 40, 41, 42] [5] u (jb_Model_made_63 fu n b1 b2 b4 u) := by
  intro n
  induction n with
  | zero => intros; exact yf_none
  | succ n ih =>
    intro b1 b2 b4 u
    have hu : yf_fr [29, 32, 33, 34] [] [37, 38, 39, 40, 41, 42] [5] u u := yf_refl
    unfold jb_Model_made_63
    refine yf_let ?_
    exact (yf_ite yf_none (yf_ite (yf_ite yf_none (yf_letS (yf_A hu (by decide)) fun _ h1 => (yf_ite yf_none (yf_letS (yf_A h1 (by decide)) fun _ h2 => (yf_ite yf_none (yf_letS (yf_A h2 (by decide)) fun _ h3 => (yf_call h3 yf_jb_Model_made_113 (by decide)))))))) (yf_letV fun _ => (yf_call hu ih (by decide)))))
theorem yf_jb_Model_made_28 {fu : Nat} {b1 : Int32} {b2 : Int64} {u : xk_St} : yf_F [29, 32, 33, 34] [] [37, 38, 39, 40, 41, 42] [5] u (jb_Model_made_28 fu b1 b2 u) := by
  have hu : yf_fr [29, 32, 33, 34] [] [37, 38, 39, 40, 41, 42] [5] u u := yf_refl
  unfold jb_Model_made_28
  exact (yf_ite (yf_letS (yf_I hu (by decide)) fun _ h1 => (yf_some h1)) (yf_ite (yf_call hu yf_jb_Model_made_63 (by decide)) (yf_letS (yf_I hu (by decide)) fun _ h2 => (yf_some h2))))
theorem yf_jb_Model_made_24 {fu : Nat} {b1 : Int32} {b2 : Int64} {u : xk_St} : yf_F [29, 32, 33, 34] [] [37, 38, 39, 40, 41, 42] [5] u (jb_Model_made_24 fu b1 b2 u) := by
  have hu : yf_fr [29, 32, 33, 34] [] [37, 38, 39, 40, 41, 42] [5] u u := yf_refl
  unfold jb_Model_made_24
  exact (yf_seq (yf_call hu yf_fm_Model_collect (by decide)) fun _ _ h1 => (yf_call h1 yf_jb_Model_made_28 (by decide)))
theorem yf_fm_Model_made {fu : Nat} {x0 : Int32} {x1 : Int64} {u : xk_St} : yf_F [29, 32, 33, 34] [] [37, 38, 39, 40, 41, 42] [5] u (fm_Model_made fu x0 x1 u) := by
  have hu : yf_fr [29, 32, 33, 34] [] [37, 38, 39, 40, 41, 42] [5] u u := yf_refl
  unfold fm_Model_made
  exact (yf_ite (yf_call hu yf_jb_Model_made_24 (by decide)) (yf_ite (yf_call hu yf_jb_Model_made_28 (by decide)) (yf_call hu yf_jb_Model_made_24 (by decide))))
theorem yf_jb_Model_newArray_204 {fu : Nat} {b5 : Int64} {u : xk_St} : yf_F [26, 29, 32, 33, 34] [] [29, 37, 38, 39, 40, 41, 42] [3, 5] u (jb_Model_newArray_204 fu b5 u) := by
  have hu : yf_fr [26, 29, 32, 33, 34] [] [29, 37, 38, 39, 40, 41, 42] [3, 5] u u := yf_refl
  unfold jb_Model_newArray_204
  exact (yf_seq (yf_call hu yf_fm_Model_lay (by decide)) fun _ _ h1 => (yf_some h1))
theorem yf_jb_Model_newArray_174 {fu : Nat} : ∀ {n : Nat} {b2 : Int32} {b3 : Int64} {b5 : Int64} {b7 : Int32} {b8 : Int64} {b10 : Int32} {u : xk_St}, yf_F [26, 29, 32, 33, 34] [] [29, 37, 38, 39, 40, 41, 42] [3, 5] u (jb_Model_newArray_174 fu n b2 b3 b5 b7 b8 b10 u) := by
  intro n
  induction n with
  | zero => intros; exact yf_none
  | succ n ih =>
    intro b2 b3 b5 b7 b8 b10 u
    have hu : yf_fr [26, 29, 32, 33, 34] [] [29, 37, 38, 39, 40, 41, 42] [3, 5] u u := yf_refl
    unfold jb_Model_newArray_174
    refine yf_let ?_
    exact (yf_ite (yf_call hu yf_jb_Model_newArray_204 (by decide)) (yf_seq (yf_call hu yf_fm_Model_packed (by decide)) fun _ _ h1 => (yf_ite yf_none (yf_letS (yf_B h1 (by decide)) fun _ h2 => (yf_letV fun _ => (yf_call h2 ih (by decide)))))))
theorem yf_jb_Model_newArray_156 {fu : Nat} {b2 : Int32} {b3 : Int64} {b5 : Int64} {b7 : Int32} {u : xk_St} : yf_F [26, 29, 32, 33, 34] [] [29, 37, 38, 39, 40, 41, 42] [3, 5] u (jb_Model_newArray_156 fu b2 b3 b5 b7 u) := by
  have hu : yf_fr [26, 29, 32, 33, 34] [] [29, 37, 38, 39, 40, 41, 42] [3, 5] u u := yf_refl
  unfold jb_Model_newArray_156
  exact (yf_ite (yf_seq (yf_call hu yf_fm_Model_drop (by decide)) fun _ _ h1 => (yf_call h1 yf_jb_Model_newArray_174 (by decide))) (yf_call hu yf_jb_Model_newArray_204 (by decide)))
theorem yf_jb_Model_newArray_107 {fu : Nat} : ∀ {n : Nat} {b2 : Int32} {b3 : Int64} {b5 : Int64} {b7 : Int32} {b8 : Int32} {u : xk_St}, yf_F [26, 29, 32, 33, 34] [] [29, 37, 38, 39, 40, 41, 42] [3, 5] u (jb_Model_newArray_107 fu n b2 b3 b5 b7 b8 u) := by
  intro n
  induction n with
  | zero => intros; exact yf_none
  | succ n ih =>
    intro b2 b3 b5 b7 b8 u
    have hu : yf_fr [26, 29, 32, 33, 34] [] [29, 37, 38, 39, 40, 41, 42] [3, 5] u u := yf_refl
    unfold jb_Model_newArray_107
    refine yf_let ?_
    exact (yf_ite (yf_call hu yf_jb_Model_newArray_156 (by decide)) (yf_ite (yf_ite yf_none (yf_seq (yf_call hu yf_fm_Model_packed (by decide)) fun _ _ h1 => (yf_ite yf_none (yf_letS (yf_B h1 (by decide)) fun _ h2 => (yf_letV fun _ => (yf_call h2 ih (by decide))))))) (yf_call hu yf_jb_Model_newArray_156 (by decide))))
theorem yf_jb_Model_newArray_100 {fu : Nat} {b2 : Int32} {b3 : Int64} {b5 : Int64} {b7 : Int32} {s0 : Int32} {s1 : Int32} {u : xk_St} : yf_F [26, 29, 32, 33, 34] [] [29, 37, 38, 39, 40, 41, 42] [3, 5] u (jb_Model_newArray_100 fu b2 b3 b5 b7 s0 s1 u) := by
  have hu : yf_fr [26, 29, 32, 33, 34] [] [29, 37, 38, 39, 40, 41, 42] [3, 5] u u := yf_refl
  unfold jb_Model_newArray_100
  exact (yf_letS (yf_I hu (by decide)) fun _ h1 => (yf_call h1 yf_jb_Model_newArray_107 (by decide)))
theorem yf_jb_Model_newArray_47 {fu : Nat} {b1 : Int32} {b2 : Int32} {s0 : Int64} {u : xk_St} : yf_F [26, 29, 32, 33, 34] [] [29, 37, 38, 39, 40, 41, 42] [3, 5] u (jb_Model_newArray_47 fu b1 b2 s0 u) := by
  have hu : yf_fr [26, 29, 32, 33, 34] [] [29, 37, 38, 39, 40, 41, 42] [3, 5] u u := yf_refl
  unfold jb_Model_newArray_47
  exact (yf_seq (yf_call hu yf_fm_Model_made (by decide)) fun _ _ h1 => (yf_ite (yf_ite yf_none (yf_ite yf_none (yf_letV fun _ => (yf_ite (yf_call h1 yf_jb_Model_newArray_100 (by decide)) (yf_call h1 yf_jb_Model_newArray_100 (by decide)))))) (yf_some h1)))
theorem yf_fm_Model_newArray {fu : Nat} {u : xk_St} : yf_F [26, 29, 32, 33, 34] [] [29, 37, 38, 39, 40, 41, 42] [3, 5] u (fm_Model_newArray fu u) := by
  have hu : yf_fr [26, 29, 32, 33, 34] [] [29, 37, 38, 39, 40, 41, 42] [3, 5] u u := yf_refl
  unfold fm_Model_newArray
  exact (yf_letV fun _ => (yf_ite yf_none (yf_letV fun _ => (yf_ite (yf_call hu yf_jb_Model_newArray_47 (by decide)) (yf_ite yf_none (yf_call hu yf_jb_Model_newArray_47 (by decide)))))))
theorem yf_jb_Model_doField_124 {s0 : Int32} {s1 : Int64} {s2 : Int32} {u : xk_St} : yf_F [26, 29] [] [29] [3, 5] u (jb_Model_doField_124 s0 s1 s2 u) := by
  have hu : yf_fr [26, 29] [] [29] [3, 5] u u := yf_refl
  unfold jb_Model_doField_124
  exact (yf_seq (yf_call hu yf_fm_Model_layPart (by decide)) fun _ _ h1 => (yf_some h1))
theorem yf_jb_Model_doField_36 {b1 : Int32} {s0 : Int64} {u : xk_St} : yf_F [26, 29] [] [29] [3, 5] u (jb_Model_doField_36 b1 s0 u) := by
  have hu : yf_fr [26, 29] [] [29] [3, 5] u u := yf_refl
  unfold jb_Model_doField_36
  exact (yf_seq (yf_call hu yf_fm_Model_drop (by decide)) fun _ _ h1 => (yf_ite (yf_letS (yf_I h1 (by decide)) fun _ h2 => (yf_some h2)) (yf_ite yf_none (yf_ite yf_none (yf_letV fun _ => (yf_ite (yf_seq (yf_call h1 yf_fm_Model_packed (by decide)) fun _ _ h3 => (yf_ite yf_none (yf_letS (yf_B h3 (by decide)) fun _ h4 => (yf_some h4)))) (yf_ite yf_none (yf_ite (yf_call h1 yf_jb_Model_doField_124 (by decide)) (yf_call h1 yf_jb_Model_doField_124 (by decide))))))))))
theorem yf_fm_Model_doField {u : xk_St} : yf_F [26, 29] [] [29] [3, 5] u (fm_Model_doField u) := by
  have hu : yf_fr [26, 29] [] [29] [3, 5] u u := yf_refl
  unfold fm_Model_doField
  exact (yf_ite yf_none (yf_letV fun _ => (yf_ite (yf_seq (yf_call hu yf_fm_Model_drop (by decide)) fun _ _ h1 => (yf_call h1 yf_jb_Model_doField_36 (by decide))) (yf_call hu yf_jb_Model_doField_36 (by decide)))))
theorem yf_jb_Model_newStructure_113 {fu : Nat} {b3 : Int64} {u : xk_St} : yf_F [26, 29, 32, 33, 34] [] [29, 37, 38, 39, 40, 41, 42] [3, 5] u (jb_Model_newStructure_113 fu b3 u) := by
  have hu : yf_fr [26, 29, 32, 33, 34] [] [29, 37, 38, 39, 40, 41, 42] [3, 5] u u := yf_refl
  unfold jb_Model_newStructure_113
  exact (yf_seq (yf_call hu yf_fm_Model_lay (by decide)) fun _ _ h1 => (yf_some h1))
theorem yf_jb_Model_newStructure_64 {fu : Nat} : ∀ {n : Nat} {b1 : Int32} {b2 : Int32} {b3 : Int64} {b5 : Int32} {b6 : Int32} {u : xk_St}, yf_F [26, 29, 32, 33, 34] [] [29, 37, 38, 39, 40, 41, 42] [3, 5] u (jb_Model_newStructure_64 fu n b1 b2 b3 b5 b6 u) := by
  intro n
  induction n with
  | zero => intros; exact yf_none
  | succ n ih =>
    intro b1 b2 b3 b5 b6 u
    have hu : yf_fr [26, 29, 32, 33, 34] [] [29, 37, 38, 39, 40, 41, 42] [3, 5] u u := yf_refl
    unfold jb_Model_newStructure_64
    refine yf_let ?_
    exact (yf_ite (yf_call hu yf_jb_Model_newStructure_113 (by decide)) (yf_ite yf_none (yf_ite yf_none (yf_seq (yf_call hu yf_fm_Model_packed (by decide)) fun _ _ h1 => (yf_ite yf_none (yf_letS (yf_B h1 (by decide)) fun _ h2 => (yf_letV fun _ => (yf_call h2 ih (by decide)))))))))
theorem yf_fm_Model_newStructure {fu : Nat} {u : xk_St} : yf_F [26, 29, 32, 33, 34] [] [29, 37, 38, 39, 40, 41, 42] [3, 5] u (fm_Model_newStructure fu u) := by
  have hu : yf_fr [26, 29, 32, 33, 34] [] [29, 37, 38, 39, 40, 41, 42] [3, 5] u u := yf_refl
  unfold fm_Model_newStructure
  exact (yf_letV fun _ => (yf_ite yf_none (yf_letV fun _ => (yf_seq (yf_call hu yf_fm_Model_made (by decide)) fun _ _ h1 => (yf_ite (yf_ite (yf_letS (yf_I h1 (by decide)) fun _ h2 => (yf_ite yf_none (yf_ite yf_none (yf_letV fun _ => (yf_call h2 yf_jb_Model_newStructure_64 (by decide)))))) (yf_call h1 yf_jb_Model_newStructure_113 (by decide))) (yf_some h1))))))
theorem yf_fm_Model_doObjects {fu : Nat} {u : xk_St} : yf_F [26, 29, 32, 33, 34] [] [29, 37, 38, 39, 40, 41, 42] [3, 5] u (fm_Model_doObjects fu u) := by
  have hu : yf_fr [26, 29, 32, 33, 34] [] [29, 37, 38, 39, 40, 41, 42] [3, 5] u u := yf_refl
  unfold fm_Model_doObjects
  exact (yf_ite (yf_ite (yf_ite (yf_ite (yf_ite (yf_ite (yf_seq (yf_call hu yf_fm_Model_drop (by decide)) fun _ _ h1 => (yf_seq (yf_call h1 yf_fm_Model_lay (by decide)) fun _ _ h2 => (yf_some h2))) (yf_seq (yf_call hu yf_fm_Model_drop (by decide)) fun _ _ h3 => (yf_ite (yf_call h3 yf_jb_Model_doObjects_128 (by decide)) (yf_call h3 yf_jb_Model_doObjects_128 (by decide))))) (yf_seq (yf_call hu yf_fm_Model_doKind (by decide)) fun _ _ h4 => (yf_some h4))) (yf_seq (yf_call hu yf_fm_Model_doArray (by decide)) fun _ _ h5 => (yf_some h5))) (yf_seq (yf_call hu yf_fm_Model_newArray (by decide)) fun _ _ h6 => (yf_some h6))) (yf_seq (yf_call hu yf_fm_Model_doField (by decide)) fun _ _ h7 => (yf_some h7))) (yf_seq (yf_call hu yf_fm_Model_newStructure (by decide)) fun _ _ h8 => (yf_some h8)))
theorem yf_jb_Model_doReferences_90 {fu : Nat} {s0 : Int64} {u : xk_St} : yf_F [4, 26, 27, 28, 29] [2] [29] [3] u (jb_Model_doReferences_90 fu s0 u) := by
  have hu : yf_fr [4, 26, 27, 28, 29] [2] [29] [3] u u := yf_refl
  unfold jb_Model_doReferences_90
  exact (yf_seq (yf_call hu yf_fm_Model_tell (by decide)) fun _ _ h1 => (yf_some h1))
theorem yf_jb_Model_comeDown_10 {fu : Nat} : ∀ {n : Nat} {b1 : Int32} {b2 : Int32} {b3 : Int32} {b4 : Int32} {u : xk_St}, yf_F [26] [] [29] [3] u (jb_Model_comeDown_10 fu n b1 b2 b3 b4 u) := by
  intro n
  induction n with
  | zero => intros; exact yf_none
  | succ n ih =>
    intro b1 b2 b3 b4 u
    have hu : yf_fr [26] [] [29] [3] u u := yf_refl
    unfold jb_Model_comeDown_10
    refine yf_let ?_
    exact (yf_ite (yf_letS (yf_I hu (by decide)) fun _ h1 => (yf_some h1)) (yf_ite yf_none (yf_ite yf_none (yf_letS (yf_B hu (by decide)) fun _ h2 => (yf_ite yf_none (yf_ite yf_none (yf_letS (yf_A h2 (by decide)) fun _ h3 => (yf_letV fun _ => (yf_call h3 ih (by decide))))))))))
theorem yf_fm_Model_comeDown {fu : Nat} {x0 : Int32} {x1 : Int32} {u : xk_St} : yf_F [26] [] [29] [3] u (fm_Model_comeDown fu x0 x1 u) := by
  have hu : yf_fr [26] [] [29] [3] u u := yf_refl
  unfold fm_Model_comeDown
  exact (yf_letV fun _ => (yf_call hu yf_jb_Model_comeDown_10 (by decide)))
theorem yf_fm_Model_leave {fu : Nat} {u : xk_St} : yf_F [4, 26, 27, 28] [] [29] [3] u (fm_Model_leave fu u) := by
  have hu : yf_fr [4, 26, 27, 28] [] [29] [3] u u := yf_refl
  unfold fm_Model_leave
  exact (yf_letS (yf_I hu (by decide)) fun _ h1 => (yf_ite yf_none (yf_ite yf_none (yf_ite yf_none (yf_seq (yf_call h1 yf_fm_Model_comeDown (by decide)) fun _ _ h2 => (yf_ite yf_none (yf_letS (yf_I h2 (by decide)) fun _ h3 => (yf_ite yf_none (yf_letS (yf_I h3 (by decide)) fun _ h4 => (yf_some h4))))))))))
theorem yf_jb_Model_goOut_97 {fu : Nat} {b2 : Int32} {s0 : Int32} {u : xk_St} : yf_F [4, 26, 27, 28, 29] [2] [29] [3] u (jb_Model_goOut_97 fu b2 s0 u) := by
  have hu : yf_fr [4, 26, 27, 28, 29] [2] [29] [3] u u := yf_refl
  unfold jb_Model_goOut_97
  exact (yf_letS (yf_I hu (by decide)) fun _ h1 => (yf_ite yf_none (yf_letS (yf_I h1 (by decide)) fun _ h2 => (yf_some h2))))
theorem yf_jb_Model_goOut_64 {fu : Nat} {b2 : Int32} {u : xk_St} : yf_F [4, 26, 27, 28, 29] [2] [29] [3] u (jb_Model_goOut_64 fu b2 u) := by
  have hu : yf_fr [4, 26, 27, 28, 29] [2] [29] [3] u u := yf_refl
  unfold jb_Model_goOut_64
  exact (yf_ite yf_none (yf_ite yf_none (yf_seq (yf_call hu yf_fm_Model_comeDown (by decide)) fun _ _ h1 => (yf_ite yf_none (yf_ite (yf_call h1 yf_jb_Model_goOut_97 (by decide)) (yf_call h1 yf_jb_Model_goOut_97 (by decide)))))))
theorem yf_fm_Model_goOut {fu : Nat} {x0 : Int32} {u : xk_St} : yf_F [4, 26, 27, 28, 29] [2] [29] [3] u (fm_Model_goOut fu x0 u) := by
  have hu : yf_fr [4, 26, 27, 28, 29] [2] [29] [3] u u := yf_refl
  unfold fm_Model_goOut
  exact (yf_letV fun _ => (yf_ite yf_none (yf_ite (yf_seq (yf_call hu yf_fm_Model_leave (by decide)) fun _ _ h1 => (yf_some h1)) (yf_ite yf_none (yf_ite (yf_call hu yf_jb_Model_goOut_64 (by decide)) (yf_ite (yf_letS (yf_I hu (by decide)) fun _ h2 => (yf_some h2)) (yf_letS (yf_J hu (by decide)) fun _ h3 => (yf_call h3 yf_jb_Model_goOut_64 (by decide)))))))))
theorem yf_jb_Model_doReferences_182 {fu : Nat} {b1 : Int64} {u : xk_St} : yf_F [4, 26, 27, 28, 29] [2] [29] [3] u (jb_Model_doReferences_182 fu b1 u) := by
  have hu : yf_fr [4, 26, 27, 28, 29] [2] [29] [3] u u := yf_refl
  unfold jb_Model_doReferences_182
  exact (yf_ite (yf_letS (yf_I hu (by decide)) fun _ h1 => (yf_some h1)) (yf_seq (yf_call hu yf_fm_Model_goOut (by decide)) fun _ _ h2 => (yf_some h2)))
theorem yf_jb_Model_doReferences_126 {fu : Nat} {s0 : Int64} {u : xk_St} : yf_F [4, 26, 27, 28, 29] [2] [29] [3] u (jb_Model_doReferences_126 fu s0 u) := by
  have hu : yf_fr [4, 26, 27, 28, 29] [2] [29] [3] u u := yf_refl
  unfold jb_Model_doReferences_126
  exact (yf_seq (yf_call hu yf_fm_Model_tell (by decide)) fun _ _ h1 => (yf_some h1))
theorem yf_jb_Model_doReferences_145 {fu : Nat} {s0 : Int32} {u : xk_St} : yf_F [4, 26, 27, 28, 29] [2] [29] [3] u (jb_Model_doReferences_145 fu s0 u) := by
  have hu : yf_fr [4, 26, 27, 28, 29] [2] [29] [3] u u := yf_refl
  unfold jb_Model_doReferences_145
  exact (yf_letS (yf_I hu (by decide)) fun _ h1 => (yf_some h1))
theorem yf_fm_Model_doReferences {fu : Nat} {u : xk_St} : yf_F [4, 26, 27, 28, 29] [2] [29] [3] u (fm_Model_doReferences fu u) := by
  have hu : yf_fr [4, 26, 27, 28, 29] [2] [29] [3] u u := yf_refl
  unfold fm_Model_doReferences
  exact (yf_ite (yf_seq (yf_call hu yf_fm_Model_lay (by decide)) fun _ _ h1 => (yf_some h1)) (yf_ite yf_none (yf_letV fun _ => (yf_letV fun _ => (yf_ite (yf_letS (yf_I hu (by decide)) fun _ h2 => (yf_ite (yf_call h2 yf_jb_Model_doReferences_90 (by decide)) (yf_call h2 yf_jb_Model_doReferences_90 (by decide)))) (yf_ite (yf_call hu yf_jb_Model_doReferences_182 (by decide)) (yf_ite (yf_letS (yf_I hu (by decide)) fun _ h3 => (yf_ite yf_none (yf_ite (yf_call h3 yf_jb_Model_doReferences_126 (by decide)) (yf_call h3 yf_jb_Model_doReferences_126 (by decide))))) (yf_ite (yf_ite (yf_call hu yf_jb_Model_doReferences_145 (by decide)) (yf_call hu yf_jb_Model_doReferences_145 (by decide))) (yf_ite (yf_ite (yf_letS (yf_I hu (by decide)) fun _ h4 => (yf_seq (yf_call h4 yf_fm_Model_goOut (by decide)) fun _ _ h5 => (yf_some h5))) (yf_some hu)) (yf_call hu yf_jb_Model_doReferences_182 (by decide)))))))))))
theorem yf_jb_Model_doNumbers_53 {fu : Nat} {s0 : Int64} {u : xk_St} : yf_F [26, 29] [] [29] [3] u (jb_Model_doNumbers_53 fu s0 u) := by
  have hu : yf_fr [26, 29] [] [29] [3] u u := yf_refl
  unfold jb_Model_doNumbers_53
  exact (yf_seq (yf_call hu yf_fm_Model_tell (by decide)) fun _ _ h1 => (yf_some h1))
theorem yf_jb_Model_doNumbers_41 {fu : Nat} {b1 : Int64} {u : xk_St} : yf_F [26, 29] [] [29] [3] u (jb_Model_doNumbers_41 fu b1 u) := by
  have hu : yf_fr [26, 29] [] [29] [3] u u := yf_refl
  unfold jb_Model_doNumbers_41
  exact (yf_ite (yf_call hu yf_jb_Model_doNumbers_53 (by decide)) (yf_call hu yf_jb_Model_doNumbers_53 (by decide)))
theorem yf_jb_Model_doNumbers_322 {fu : Nat} {s0 : Int64} {u : xk_St} : yf_F [26, 29] [] [29] [3] u (jb_Model_doNumbers_322 fu s0 u) := by
  have hu : yf_fr [26, 29] [] [29] [3] u u := yf_refl
  unfold jb_Model_doNumbers_322
  exact (yf_seq (yf_call hu yf_fm_Model_tell (by decide)) fun _ _ h1 => (yf_some h1))
theorem yf_jb_Model_doNumbers_319 {fu : Nat} {s0 : Int32} {s1 : Int64} {u : xk_St} : yf_F [26, 29] [] [29] [3] u (jb_Model_doNumbers_319 fu s0 s1 u) := by
  have hu : yf_fr [26, 29] [] [29] [3] u u := yf_refl
  unfold jb_Model_doNumbers_319
  exact (yf_seq (yf_call hu yf_fm_Model_sx (by decide)) fun _ _ h1 => (yf_call h1 yf_jb_Model_doNumbers_322 (by decide)))
theorem yf_jb_Model_doNumbers_287 {fu : Nat} {s0 : Int64} {u : xk_St} : yf_F [26, 29] [] [29] [3] u (jb_Model_doNumbers_287 fu s0 u) := by
  have hu : yf_fr [26, 29] [] [29] [3] u u := yf_refl
  unfold jb_Model_doNumbers_287
  exact (yf_call hu yf_jb_Model_doNumbers_319 (by decide))
theorem yf_jb_Model_doNumbers_312 {fu : Nat} {s0 : Int64} {u : xk_St} : yf_F [26, 29] [] [29] [3] u (jb_Model_doNumbers_312 fu s0 u) := by
  have hu : yf_fr [26, 29] [] [29] [3] u u := yf_refl
  unfold jb_Model_doNumbers_312
  exact (yf_call hu yf_jb_Model_doNumbers_319 (by decide))
theorem yf_jb_Model_divided_63 {b1 : Int32} {b2 : Int64} {b4 : Int64} {b7 : Int32} {u : xk_St} : yf_F [29] [] [] [] u (jb_Model_divided_63 b1 b2 b4 b7 u) := by
  have hu : yf_fr [29] [] [] [] u u := yf_refl
  unfold jb_Model_divided_63
  exact (yf_ite (yf_ite (yf_ite yf_none (yf_some hu)) (yf_ite yf_none (yf_some hu))) (yf_some hu))
theorem yf_jb_Model_divided_47 {b1 : Int32} {b2 : Int64} {b4 : Int64} {s0 : Int32} {u : xk_St} : yf_F [29] [] [] [] u (jb_Model_divided_47 b1 b2 b4 s0 u) := by
  have hu : yf_fr [29] [] [] [] u u := yf_refl
  unfold jb_Model_divided_47
  exact (yf_ite (yf_ite (yf_call hu yf_jb_Model_divided_63 (by decide)) (yf_letS (yf_I hu (by decide)) fun _ h1 => (yf_call h1 yf_jb_Model_divided_63 (by decide)))) (yf_call hu yf_jb_Model_divided_63 (by decide)))
theorem yf_jb_Model_divided_46 {b1 : Int32} {b2 : Int64} {b4 : Int64} {u : xk_St} : yf_F [29] [] [] [] u (jb_Model_divided_46 b1 b2 b4 u) := by
  have hu : yf_fr [29] [] [] [] u u := yf_refl
  unfold jb_Model_divided_46
  exact (yf_call hu yf_jb_Model_divided_47 (by decide))
theorem yf_fm_Long_divideUnsigned__m {x0 : Int64} {x1 : Int64} {u : xk_St} : yf_F [] [] [] [] u (fm_Long_divideUnsigned__m x0 x1 u) := by
  have hu : yf_fr [] [] [] [] u u := yf_refl
  unfold fm_Long_divideUnsigned__m
  exact (yf_ite (yf_some hu) (yf_ite yf_none (yf_letV fun _ => (yf_letV fun _ => (yf_some hu)))))
theorem yf_fm_Long_remainderUnsigned__m {x0 : Int64} {x1 : Int64} {u : xk_St} : yf_F [] [] [] [] u (fm_Long_remainderUnsigned__m x0 x1 u) := by
  have hu : yf_fr [] [] [] [] u u := yf_refl
  unfold fm_Long_remainderUnsigned__m
  exact (yf_ite (yf_some hu) (yf_ite yf_none (yf_letV fun _ => (yf_letV fun _ => (yf_some hu)))))
theorem yf_jb_Model_divided_124 {b1 : Int32} {b7 : Int64} {s0 : Int64} {u : xk_St} : yf_F [29] [] [] [] u (jb_Model_divided_124 b1 b7 s0 u) := by
  have hu : yf_fr [29] [] [] [] u u := yf_refl
  unfold jb_Model_divided_124
  exact (yf_ite (yf_seq (yf_call hu yf_fm_Long_divideUnsigned__m (by decide)) fun _ _ h1 => (yf_some h1)) (yf_seq (yf_call hu yf_fm_Long_remainderUnsigned__m (by decide)) fun _ _ h2 => (yf_some h2)))
theorem yf_jb_Model_divided_104 {b1 : Int32} {b4 : Int64} {b6 : Int32} {s0 : Int64} {u : xk_St} : yf_F [29] [] [] [] u (jb_Model_divided_104 b1 b4 b6 s0 u) := by
  have hu : yf_fr [29] [] [] [] u u := yf_refl
  unfold jb_Model_divided_104
  exact (yf_ite (yf_call hu yf_jb_Model_divided_124 (by decide)) (yf_call hu yf_jb_Model_divided_124 (by decide)))
theorem yf_fm_Model_divided {x0 : Int32} {x1 : Int64} {x2 : Int64} {x3 : Int32} {u : xk_St} : yf_F [29] [] [] [] u (fm_Model_divided x0 x1 x2 x3 u) := by
  have hu : yf_fr [29] [] [] [] u u := yf_refl
  unfold fm_Model_divided
  exact (yf_ite (yf_letS (yf_I hu (by decide)) fun _ h1 => (yf_some h1)) (yf_ite yf_none (yf_ite (yf_ite (yf_ite (yf_call hu yf_jb_Model_divided_47 (by decide)) (yf_call hu yf_jb_Model_divided_46 (by decide))) (yf_call hu yf_jb_Model_divided_46 (by decide))) (yf_ite (yf_call hu yf_jb_Model_divided_104 (by decide)) (yf_call hu yf_jb_Model_divided_104 (by decide))))))
theorem yf_jb_Model_reckoned_71 {b1 : Int32} {b2 : Int64} {b4 : Int64} {b6 : Int32} {u : xk_St} : yf_F [29] [] [] [] u (jb_Model_reckoned_71 b1 b2 b4 b6 u) := by
  have hu : yf_fr [29] [] [] [] u u := yf_refl
  unfold jb_Model_reckoned_71
  exact (yf_seq (yf_call hu yf_fm_Model_divided (by decide)) fun _ _ h1 => (yf_some h1))
theorem yf_jb_Model_moved_25 {b0 : Int32} {b1 : Int64} {b5 : Int32} {b6 : Int32} {s0 : Int64} {u : xk_St} : yf_F [] [] [] [] u (jb_Model_moved_25 b0 b1 b5 b6 s0 u) := by
  have hu : yf_fr [] [] [] [] u u := yf_refl
  unfold jb_Model_moved_25
  exact (yf_letV fun _ => (yf_ite (yf_some hu) (yf_ite (yf_some hu) (yf_ite (yf_some hu) (yf_ite (yf_ite (yf_some hu) (yf_some hu)) (yf_ite (yf_some hu) (yf_some hu)))))))
theorem yf_fm_Model_moved {x0 : Int32} {x1 : Int64} {x2 : Int64} {x3 : Int32} {u : xk_St} : yf_F [] [] [] [] u (fm_Model_moved x0 x1 x2 x3 u) := by
  have hu : yf_fr [] [] [] [] u u := yf_refl
  unfold fm_Model_moved
  exact (yf_letV fun _ => (yf_ite (yf_call hu yf_jb_Model_moved_25 (by decide)) (yf_call hu yf_jb_Model_moved_25 (by decide))))
theorem yf_fm_Model_reckoned {x0 : Int32} {x1 : Int64} {x2 : Int64} {x3 : Int32} {u : xk_St} : yf_F [29] [] [] [] u (fm_Model_reckoned x0 x1 x2 x3 u) := by
  have hu : yf_fr [29] [] [] [] u u := yf_refl
  unfold fm_Model_reckoned
  exact (yf_ite (yf_some hu) (yf_ite (yf_some hu) (yf_ite (yf_some hu) (yf_ite (yf_call hu yf_jb_Model_reckoned_71 (by decide)) (yf_ite (yf_call hu yf_jb_Model_reckoned_71 (by decide)) (yf_ite (yf_call hu yf_jb_Model_reckoned_71 (by decide)) (yf_ite (yf_call hu yf_jb_Model_reckoned_71 (by decide)) (yf_ite (yf_some hu) (yf_ite (yf_some hu) (yf_ite (yf_some hu) (yf_seq (yf_call hu yf_fm_Model_moved (by decide)) fun _ _ h1 => (yf_some h1))))))))))))
theorem yf_jb_Model_doNumbers_223 {fu : Nat} {s0 : Int64} {u : xk_St} : yf_F [26, 29] [] [29] [3] u (jb_Model_doNumbers_223 fu s0 u) := by
  have hu : yf_fr [26, 29] [] [29] [3] u u := yf_refl
  unfold jb_Model_doNumbers_223
  exact (yf_seq (yf_call hu yf_fm_Model_tell (by decide)) fun _ _ h1 => (yf_some h1))
theorem yf_jb_Model_doNumbers_202 {fu : Nat} {b3 : Int32} {s0 : Int64} {u : xk_St} : yf_F [26, 29] [] [29] [3] u (jb_Model_doNumbers_202 fu b3 s0 u) := by
  have hu : yf_fr [26, 29] [] [29] [3] u u := yf_refl
  unfold jb_Model_doNumbers_202
  exact (yf_ite (yf_seq (yf_call hu yf_fm_Model_sx (by decide)) fun _ _ h1 => (yf_call h1 yf_jb_Model_doNumbers_223 (by decide))) (yf_call hu yf_jb_Model_doNumbers_223 (by decide)))
theorem yf_jb_Model_counted_66 {fu : Nat} : ∀ {n : Nat} {b0 : Int32} {b1 : Int64} {b3 : Int32} {b4 : Int32} {u : xk_St}, yf_F [] [] [] [] u (jb_Model_counted_66 fu n b0 b1 b3 b4 u) := by
  intro n
  induction n with
  | zero => intros; exact yf_none
  | succ n ih =>
    intro b0 b1 b3 b4 u
    have hu : yf_fr [] [] [] [] u u := yf_refl
    unfold jb_Model_counted_66
    refine yf_let ?_
    exact (yf_ite (yf_ite (yf_some hu) (yf_ite (yf_letV fun _ => (yf_call hu ih (by decide))) (yf_some hu))) (yf_some hu))
theorem yf_jb_Model_counted_35 {fu : Nat} : ∀ {n : Nat} {b0 : Int32} {b1 : Int64} {b3 : Int32} {b4 : Int32} {u : xk_St}, yf_F [] [] [] [] u (jb_Model_counted_35 fu n b0 b1 b3 b4 u) := by
  intro n
  induction n with
  | zero => intros; exact yf_none
  | succ n ih =>
    intro b0 b1 b3 b4 u
    have hu : yf_fr [] [] [] [] u u := yf_refl
    unfold jb_Model_counted_35
    refine yf_let ?_
    exact (yf_ite (yf_ite (yf_call hu yf_jb_Model_counted_66 (by decide)) (yf_ite (yf_letV fun _ => (yf_call hu ih (by decide))) (yf_call hu yf_jb_Model_counted_66 (by decide)))) (yf_call hu yf_jb_Model_counted_66 (by decide)))
theorem yf_jb_Model_counted_6 {fu : Nat} : ∀ {n : Nat} {b0 : Int32} {b1 : Int64} {b3 : Int32} {b4 : Int32} {b5 : Int32} {u : xk_St}, yf_F [] [] [] [] u (jb_Model_counted_6 fu n b0 b1 b3 b4 b5 u) := by
  intro n
  induction n with
  | zero => intros; exact yf_none
  | succ n ih =>
    intro b0 b1 b3 b4 b5 u
    have hu : yf_fr [] [] [] [] u u := yf_refl
    unfold jb_Model_counted_6
    refine yf_let ?_
    exact (yf_ite (yf_call hu yf_jb_Model_counted_35 (by decide)) (yf_ite (yf_letV fun _ => (yf_letV fun _ => (yf_call hu ih (by decide)))) (yf_call hu yf_jb_Model_counted_35 (by decide))))
theorem yf_fm_Model_counted {fu : Nat} {x0 : Int32} {x1 : Int64} {x2 : Int32} {u : xk_St} : yf_F [] [] [] [] u (fm_Model_counted fu x0 x1 x2 u) := by
  have hu : yf_fr [] [] [] [] u u := yf_refl
  unfold fm_Model_counted
  exact (yf_call hu yf_jb_Model_counted_6 (by decide))
theorem yf_jb_Model_doNumbers_172 {fu : Nat} {b1 : Int64} {b3 : Int32} {s0 : Int32} {u : xk_St} : yf_F [26, 29] [] [29] [3] u (jb_Model_doNumbers_172 fu b1 b3 s0 u) := by
  have hu : yf_fr [26, 29] [] [29] [3] u u := yf_refl
  unfold jb_Model_doNumbers_172
  exact (yf_ite (yf_seq (yf_call hu yf_fm_Model_drop (by decide)) fun _ _ h1 => (yf_seq (yf_call h1 yf_fm_Model_reckoned (by decide)) fun _ _ h2 => (yf_call h2 yf_jb_Model_doNumbers_202 (by decide)))) (yf_seq (yf_call hu yf_fm_Model_counted (by decide)) fun _ _ h3 => (yf_call h3 yf_jb_Model_doNumbers_202 (by decide))))
theorem yf_jb_Model_doNumbers_145 {fu : Nat} {b1 : Int64} {s0 : Int32} {u : xk_St} : yf_F [26, 29] [] [29] [3] u (jb_Model_doNumbers_145 fu b1 s0 u) := by
  have hu : yf_fr [26, 29] [] [29] [3] u u := yf_refl
  unfold jb_Model_doNumbers_145
  exact (yf_ite (yf_call hu yf_jb_Model_doNumbers_172 (by decide)) (yf_call hu yf_jb_Model_doNumbers_172 (by decide)))
theorem yf_fm_Model_isBelow {x0 : Int64} {x1 : Int64} {u : xk_St} : yf_F [] [] [] [] u (fm_Model_isBelow x0 x1 u) := by
  have hu : yf_fr [] [] [] [] u u := yf_refl
  unfold fm_Model_isBelow
  exact (yf_ite (yf_some hu) (yf_some hu))
