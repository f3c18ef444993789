theorem yf_fm_Model_compares {x0 : Int32} {x1 : Int64} {x2 : Int64} {u : xk_St} : yf_F [] [] [] [] u (fm_Model_compares x0 x1 x2 u) := by
  have hu : yf_fr [] [] [] [] u u := yf_refl
  unfold fm_Model_compares
  exact (yf_ite (yf_ite (yf_some hu) (yf_some hu)) (yf_ite (yf_ite (yf_some hu) (yf_some hu)) (yf_ite (yf_ite (yf_some hu) (yf_some hu)) (yf_ite (yf_seq (yf_call hu yf_fm_Model_isBelow (by decide)) fun _ _ h1 => (yf_ite (yf_some h1) yf_none)) (yf_ite (yf_ite (yf_some hu) (yf_some hu)) (yf_ite (yf_seq (yf_call hu yf_fm_Model_isBelow (by decide)) fun _ _ h2 => (yf_ite (yf_some h2) yf_none)) (yf_ite (yf_ite (yf_some hu) (yf_some hu)) (yf_ite (yf_seq (yf_call hu yf_fm_Model_isBelow (by decide)) fun _ _ h3 => (yf_ite (yf_some h3) (yf_some h3))) (yf_ite (yf_ite (yf_some hu) (yf_some hu)) (yf_seq (yf_call hu yf_fm_Model_isBelow (by decide)) fun _ _ h4 => (yf_ite (yf_some h4) (yf_some h4))))))))))))
theorem yf_jb_Model_doNumbers_113 {fu : Nat} {s0 : Int64} {u : xk_St} : yf_F [26, 29] [] [29] [3] u (jb_Model_doNumbers_113 fu s0 u) := by
  have hu : yf_fr [26, 29] [] [29] [3] u u := yf_refl
  unfold jb_Model_doNumbers_113
  exact (yf_seq (yf_call hu yf_fm_Model_tell (by decide)) fun _ _ h1 => (yf_some h1))
theorem yf_jb_Model_doNumbers_100 {fu : Nat} {b1 : Int64} {b3 : Int64} {s0 : Int32} {u : xk_St} : yf_F [26, 29] [] [29] [3] u (jb_Model_doNumbers_100 fu b1 b3 s0 u) := by
  have hu : yf_fr [26, 29] [] [29] [3] u u := yf_refl
  unfold jb_Model_doNumbers_100
  exact (yf_seq (yf_call hu yf_fm_Model_compares (by decide)) fun _ _ h1 => (yf_ite (yf_call h1 yf_jb_Model_doNumbers_113 (by decide)) (yf_call h1 yf_jb_Model_doNumbers_113 (by decide))))
theorem yf_fm_Model_doNumbers {fu : Nat} {u : xk_St} : yf_F [26, 29] [] [29] [3] u (fm_Model_doNumbers fu u) := by
  have hu : yf_fr [26, 29] [] [29] [3] u u := yf_refl
  unfold fm_Model_doNumbers
  exact (yf_ite (yf_seq (yf_call hu yf_fm_Model_drop (by decide)) fun _ _ h1 => (yf_ite (yf_call h1 yf_jb_Model_doNumbers_41 (by decide)) (yf_ite (yf_call h1 yf_jb_Model_doNumbers_41 (by decide)) (yf_ite (yf_ite (yf_ite (yf_seq (yf_call h1 yf_fm_Model_tell (by decide)) fun _ _ h2 => (yf_some h2)) (yf_ite (yf_call h1 yf_jb_Model_doNumbers_322 (by decide)) (yf_ite (yf_call h1 yf_jb_Model_doNumbers_287 (by decide)) (yf_ite (yf_call h1 yf_jb_Model_doNumbers_287 (by decide)) (yf_ite (yf_call h1 yf_jb_Model_doNumbers_312 (by decide)) (yf_ite (yf_call h1 yf_jb_Model_doNumbers_312 (by decide)) (yf_call h1 yf_jb_Model_doNumbers_319 (by decide)))))))) (yf_ite (yf_call h1 yf_jb_Model_doNumbers_145 (by decide)) (yf_call h1 yf_jb_Model_doNumbers_145 (by decide)))) (yf_seq (yf_call h1 yf_fm_Model_drop (by decide)) fun _ _ h3 => (yf_ite (yf_call h3 yf_jb_Model_doNumbers_100 (by decide)) (yf_call h3 yf_jb_Model_doNumbers_100 (by decide)))))))) (yf_seq (yf_call hu yf_fm_Model_tell (by decide)) fun _ _ h4 => (yf_some h4)))
theorem yf_jb_Model_doMemory_74 {fu : Nat} {b1 : Int64} {b3 : Int32} {s0 : Int64} {u : xk_St} : yf_F [16, 26, 29] [] [27, 29] [3] u (jb_Model_doMemory_74 fu b1 b3 s0 u) := by
  have hu : yf_fr [16, 26, 29] [] [27, 29] [3] u u := yf_refl
  unfold jb_Model_doMemory_74
  exact (yf_seq (yf_call hu yf_fm_Model_tell (by decide)) fun _ _ h1 => (yf_ite (yf_letS (yf_I h1 (by decide)) fun _ h2 => (yf_some h2)) (yf_letS (yf_I h1 (by decide)) fun _ h3 => (yf_some h3))))
theorem yf_jb_Model_doMemory_57 {fu : Nat} {b1 : Int64} {s0 : Int32} {u : xk_St} : yf_F [16, 26, 29] [] [27, 29] [3] u (jb_Model_doMemory_57 fu b1 s0 u) := by
  have hu : yf_fr [16, 26, 29] [] [27, 29] [3] u u := yf_refl
  unfold jb_Model_doMemory_57
  exact (yf_ite (yf_call hu yf_jb_Model_doMemory_74 (by decide)) (yf_call hu yf_jb_Model_doMemory_74 (by decide)))
theorem yf_fm_Model_widthOf {x0 : Int32} {u : xk_St} : yf_F [] [] [] [] u (fm_Model_widthOf x0 u) := by
  have hu : yf_fr [] [] [] [] u u := yf_refl
  unfold fm_Model_widthOf
  exact (yf_ite (yf_some hu) (yf_ite (yf_some hu) (yf_ite (yf_some hu) (yf_ite (yf_some hu) (yf_ite (yf_some hu) (yf_ite (yf_some hu) (yf_ite (yf_some hu) (yf_ite (yf_some hu) (yf_ite (yf_some hu) (yf_ite (yf_some hu) (yf_ite (yf_some hu) (yf_ite (yf_some hu) (yf_ite (yf_some hu) (yf_ite (yf_some hu) (yf_ite (yf_some hu) (yf_ite (yf_some hu) (yf_ite (yf_some hu) (yf_ite (yf_some hu) (yf_ite (yf_some hu) (yf_ite (yf_some hu) (yf_ite (yf_some hu) (yf_ite (yf_some hu) (yf_ite (yf_some hu) (yf_some hu))))))))))))))))))))))))
theorem yf_jb_Model_doMemory_298 {fu : Nat} {s0 : Int64} {u : xk_St} : yf_F [16, 26, 29] [] [27, 29] [3] u (jb_Model_doMemory_298 fu s0 u) := by
  have hu : yf_fr [16, 26, 29] [] [27, 29] [3] u u := yf_refl
  unfold jb_Model_doMemory_298
  exact (yf_seq (yf_call hu yf_fm_Model_tell (by decide)) fun _ _ h1 => (yf_some h1))
theorem yf_jb_Model_doMemory_277 {fu : Nat} {b1 : Int64} {b5 : Int32} {s0 : Int32} {u : xk_St} : yf_F [16, 26, 29] [] [27, 29] [3] u (jb_Model_doMemory_277 fu b1 b5 s0 u) := by
  have hu : yf_fr [16, 26, 29] [] [27, 29] [3] u u := yf_refl
  unfold jb_Model_doMemory_277
  exact (yf_ite (yf_call hu yf_jb_Model_doMemory_298 (by decide)) (yf_seq (yf_call hu yf_fm_Model_sx (by decide)) fun _ _ h1 => (yf_call h1 yf_jb_Model_doMemory_298 (by decide))))
theorem yf_jb_Model_doMemory_272 {fu : Nat} {b1 : Int64} {b5 : Int32} {u : xk_St} : yf_F [16, 26, 29] [] [27, 29] [3] u (jb_Model_doMemory_272 fu b1 b5 u) := by
  have hu : yf_fr [16, 26, 29] [] [27, 29] [3] u u := yf_refl
  unfold jb_Model_doMemory_272
  exact (yf_call hu yf_jb_Model_doMemory_277 (by decide))
theorem yf_jb_Model_doMemory_276 {fu : Nat} {b1 : Int64} {b5 : Int32} {u : xk_St} : yf_F [16, 26, 29] [] [27, 29] [3] u (jb_Model_doMemory_276 fu b1 b5 u) := by
  have hu : yf_fr [16, 26, 29] [] [27, 29] [3] u u := yf_refl
  unfold jb_Model_doMemory_276
  exact (yf_call hu yf_jb_Model_doMemory_277 (by decide))
theorem yf_jb_Model_doMemory_213 {fu : Nat} : ∀ {n : Nat} {b1 : Int64} {b3 : Int64} {b5 : Int32} {b6 : Int32} {u : xk_St}, yf_F [16, 26, 29] [] [27, 29] [3] u (jb_Model_doMemory_213 fu n b1 b3 b5 b6 u) := by
  intro n
  induction n with
  | zero => intros; exact yf_none
  | succ n ih =>
    intro b1 b3 b5 b6 u
    have hu : yf_fr [16, 26, 29] [] [27, 29] [3] u u := yf_refl
    unfold jb_Model_doMemory_213
    refine yf_let ?_
    exact (yf_ite (yf_ite (yf_call hu yf_jb_Model_doMemory_272 (by decide)) (yf_ite (yf_call hu yf_jb_Model_doMemory_276 (by decide)) (yf_ite yf_none (yf_ite (yf_call hu yf_jb_Model_doMemory_272 (by decide)) (yf_call hu yf_jb_Model_doMemory_276 (by decide)))))) (yf_ite yf_none (yf_letV fun _ => (yf_letV fun _ => (yf_call hu ih (by decide))))))
theorem yf_jb_Model_doMemory_174 {fu : Nat} : ∀ {n : Nat} {b1 : Int64} {b3 : Int64} {b5 : Int32} {b6 : Int32} {u : xk_St}, yf_F [16, 26, 29] [] [27, 29] [3] u (jb_Model_doMemory_174 fu n b1 b3 b5 b6 u) := by
  intro n
  induction n with
  | zero => intros; exact yf_none
  | succ n ih =>
    intro b1 b3 b5 b6 u
    have hu : yf_fr [16, 26, 29] [] [27, 29] [3] u u := yf_refl
    unfold jb_Model_doMemory_174
    refine yf_let ?_
    exact (yf_ite (yf_some hu) (yf_ite yf_none (yf_letS (yf_A hu (by decide)) fun _ h1 => (yf_letV fun _ => (yf_call h1 ih (by decide))))))
theorem yf_jb_Model_doMemory_114 {fu : Nat} {s0 : Int64} {u : xk_St} : yf_F [16, 26, 29] [] [27, 29] [3] u (jb_Model_doMemory_114 fu s0 u) := by
  have hu : yf_fr [16, 26, 29] [] [27, 29] [3] u u := yf_refl
  unfold jb_Model_doMemory_114
  exact (yf_seq (yf_call hu yf_fm_Model_drop (by decide)) fun _ _ h1 => (yf_letV fun _ => (yf_seq (yf_call h1 yf_fm_Model_widthOf (by decide)) fun _ _ h2 => (yf_ite (yf_ite (yf_letV fun _ => (yf_call h2 yf_jb_Model_doMemory_213 (by decide))) (yf_call h2 yf_jb_Model_doMemory_174 (by decide))) (yf_letS (yf_I h2 (by decide)) fun _ h3 => (yf_some h3))))))
theorem yf_fm_Model_doMemory {fu : Nat} {u : xk_St} : yf_F [16, 26, 29] [] [27, 29] [3] u (fm_Model_doMemory fu u) := by
  have hu : yf_fr [16, 26, 29] [] [27, 29] [3] u u := yf_refl
  unfold fm_Model_doMemory
  exact (yf_ite (yf_seq (yf_call hu yf_fm_Model_tell (by decide)) fun _ _ h1 => (yf_some h1)) (yf_ite (yf_seq (yf_call hu yf_fm_Model_drop (by decide)) fun _ _ h2 => (yf_letV fun _ => (yf_ite (yf_call h2 yf_jb_Model_doMemory_57 (by decide)) (yf_call h2 yf_jb_Model_doMemory_57 (by decide))))) (yf_ite (yf_call hu yf_jb_Model_doMemory_114 (by decide)) (yf_seq (yf_call hu yf_fm_Model_drop (by decide)) fun _ _ h3 => (yf_call h3 yf_jb_Model_doMemory_114 (by decide))))))
theorem yf_jb_Model_doNames_116 {u : xk_St} : yf_F [26] [] [29] [2, 3] u (jb_Model_doNames_116 u) := by
  have hu : yf_fr [26] [] [29] [2, 3] u u := yf_refl
  unfold jb_Model_doNames_116
  exact (yf_ite (yf_letS (yf_I hu (by decide)) fun _ h1 => (yf_some h1)) (yf_some hu))
theorem yf_fm_Model_doNames {u : xk_St} : yf_F [26] [] [29] [2, 3] u (fm_Model_doNames u) := by
  have hu : yf_fr [26] [] [29] [2, 3] u u := yf_refl
  unfold fm_Model_doNames
  exact (yf_letV fun _ => (yf_ite (yf_ite yf_none (yf_letV fun _ => (yf_ite (yf_ite yf_none (yf_ite yf_none (yf_seq (yf_call hu yf_fm_Model_lay (by decide)) fun _ _ h1 => (yf_call h1 yf_jb_Model_doNames_116 (by decide))))) (yf_ite yf_none (yf_ite yf_none (yf_letS (yf_B hu (by decide)) fun _ h2 => (yf_call h2 yf_jb_Model_doNames_116 (by decide)))))))) (yf_ite (yf_ite yf_none (yf_ite yf_none (yf_seq (yf_call hu yf_fm_Model_isReference (by decide)) fun _ _ h3 => (yf_seq (yf_call h3 yf_fm_Model_lay (by decide)) fun _ _ h4 => (yf_some h4))))) (yf_seq (yf_call hu yf_fm_Model_drop (by decide)) fun _ _ h5 => (yf_ite yf_none (yf_letS (yf_B h5 (by decide)) fun _ h6 => (yf_some h6)))))))
theorem yf_fm_Model_countOf {x0 : Int64} {x1 : Int32} {u : xk_St} : yf_F [] [] [] [] u (fm_Model_countOf x0 x1 u) := by
  have hu : yf_fr [] [] [] [] u u := yf_refl
  unfold fm_Model_countOf
  exact (yf_ite (yf_ite (yf_ite yf_none (yf_some hu)) (yf_ite yf_none (yf_some hu))) (yf_ite (yf_some hu) (yf_ite (yf_some hu) (yf_some hu))))
theorem yf_jb_Model_doBlock_122 {b1 : Int32} {u : xk_St} : yf_F [4, 26, 28] [] [33, 34, 35, 36] [] u (jb_Model_doBlock_122 b1 u) := by
  have hu : yf_fr [4, 26, 28] [] [33, 34, 35, 36] [] u u := yf_refl
  unfold jb_Model_doBlock_122
  exact (yf_ite (yf_ite yf_none (yf_letS (yf_I hu (by decide)) fun _ h1 => (yf_some h1))) (yf_some hu))
theorem yf_jb_Model_doBlock_53 {b1 : Int32} {u : xk_St} : yf_F [4, 26, 28] [] [33, 34, 35, 36] [] u (jb_Model_doBlock_53 b1 u) := by
  have hu : yf_fr [4, 26, 28] [] [33, 34, 35, 36] [] u u := yf_refl
  unfold jb_Model_doBlock_53
  exact (yf_seq (yf_call hu yf_fm_Model_countOf (by decide)) fun _ _ h1 => (yf_letV fun _ => (yf_ite (yf_seq (yf_call h1 yf_fm_Model_countOf (by decide)) fun _ _ h2 => (yf_seq (yf_call h2 yf_fm_Model_beginWay (by decide)) fun _ _ h3 => (yf_call h3 yf_jb_Model_doBlock_122 (by decide)))) (yf_ite yf_none (yf_seq (yf_call h1 yf_fm_Model_countOf (by decide)) fun _ _ h4 => (yf_seq (yf_call h4 yf_fm_Model_beginWay (by decide)) fun _ _ h5 => (yf_call h5 yf_jb_Model_doBlock_122 (by decide))))))))
theorem yf_jb_Model_doBlock_22 {s0 : Int32} {u : xk_St} : yf_F [4, 26, 28] [] [33, 34, 35, 36] [] u (jb_Model_doBlock_22 s0 u) := by
  have hu : yf_fr [4, 26, 28] [] [33, 34, 35, 36] [] u u := yf_refl
  unfold jb_Model_doBlock_22
  exact (yf_ite (yf_ite yf_none (yf_ite (yf_ite yf_none (yf_letS (yf_I hu (by decide)) fun _ h1 => (yf_some h1))) (yf_call hu yf_jb_Model_doBlock_53 (by decide)))) (yf_call hu yf_jb_Model_doBlock_53 (by decide)))
theorem yf_jb_Model_doBlock_17 {u : xk_St} : yf_F [4, 26, 28] [] [33, 34, 35, 36] [] u (jb_Model_doBlock_17 u) := by
  have hu : yf_fr [4, 26, 28] [] [33, 34, 35, 36] [] u u := yf_refl
  unfold jb_Model_doBlock_17
  exact (yf_call hu yf_jb_Model_doBlock_22 (by decide))
theorem yf_fm_Model_doBlock {u : xk_St} : yf_F [4, 26, 28] [] [33, 34, 35, 36] [] u (fm_Model_doBlock u) := by
  have hu : yf_fr [4, 26, 28] [] [33, 34, 35, 36] [] u u := yf_refl
  unfold fm_Model_doBlock
  exact (yf_ite (yf_seq (yf_call hu yf_fm_Model_drop (by decide)) fun _ _ h1 => (yf_ite (yf_call h1 yf_jb_Model_doBlock_22 (by decide)) (yf_call h1 yf_jb_Model_doBlock_17 (by decide)))) (yf_call hu yf_jb_Model_doBlock_17 (by decide)))
theorem yf_jb_Model_doWays_140 {fu : Nat} {u : xk_St} : yf_F [4, 6, 26, 27, 28, 29] [0, 2] [29, 30, 31, 32, 33, 34, 35, 36] [3] u (jb_Model_doWays_140 fu u) := by
  have hu : yf_fr [4, 6, 26, 27, 28, 29] [0, 2] [29, 30, 31, 32, 33, 34, 35, 36] [3] u u := yf_refl
  unfold jb_Model_doWays_140
  exact (yf_seq (yf_call hu yf_fm_Model_doBlock (by decide)) fun _ _ h1 => (yf_some h1))
theorem yf_jb_Model_doWays_296 {fu : Nat} {u : xk_St} : yf_F [4, 6, 26, 27, 28, 29] [0, 2] [29, 30, 31, 32, 33, 34, 35, 36] [3] u (jb_Model_doWays_296 fu u) := by
  have hu : yf_fr [4, 6, 26, 27, 28, 29] [0, 2] [29, 30, 31, 32, 33, 34, 35, 36] [3] u u := yf_refl
  unfold jb_Model_doWays_296
  exact (yf_seq (yf_call hu yf_fm_Model_goOut (by decide)) fun _ _ h1 => (yf_some h1))
theorem yf_jb_Model_doWays_265 {fu : Nat} : ∀ {n : Nat} {b1 : Int64} {b3 : Int64} {u : xk_St}, yf_F [4, 6, 26, 27, 28, 29] [0, 2] [29, 30, 31, 32, 33, 34, 35, 36] [3] u (jb_Model_doWays_265 fu n b1 b3 u) := by
  intro n
  induction n with
  | zero => intros; exact yf_none
  | succ n ih =>
    intro b1 b3 u
    have hu : yf_fr [4, 6, 26, 27, 28, 29] [0, 2] [29, 30, 31, 32, 33, 34, 35, 36] [3] u u := yf_refl
    unfold jb_Model_doWays_265
    refine yf_let ?_
    exact (yf_ite (yf_call hu yf_jb_Model_doWays_296 (by decide)) (yf_ite (yf_call hu yf_jb_Model_doWays_296 (by decide)) (yf_seq (yf_call hu yf_fm_Model_number (by decide)) fun _ _ h1 => (yf_letS (yf_J h1 (by decide)) fun _ h2 => (yf_letV fun _ => (yf_call h2 ih (by decide)))))))
theorem yf_jb_Model_callByTable_85 {fu : Nat} {b3 : Int32} {s0 : Int32} {u : xk_St} : yf_F [4, 26, 27, 28, 29] [2] [29, 30, 31, 32, 33, 34, 35, 36] [3] u (jb_Model_callByTable_85 fu b3 s0 u) := by
  have hu : yf_fr [4, 26, 27, 28, 29] [2] [29, 30, 31, 32, 33, 34, 35, 36] [3] u u := yf_refl
  unfold jb_Model_callByTable_85
  exact (yf_letS (yf_I hu (by decide)) fun _ h1 => (yf_ite (yf_seq (yf_call h1 yf_fm_Model_enter (by decide)) fun _ _ h2 => (yf_some h2)) (yf_some h1)))
theorem yf_jb_Model_callByTable_30 {fu : Nat} {b1 : Int64} {s0 : Int32} {u : xk_St} : yf_F [4, 26, 27, 28, 29] [2] [29, 30, 31, 32, 33, 34, 35, 36] [3] u (jb_Model_callByTable_30 fu b1 s0 u) := by
  have hu : yf_fr [4, 26, 27, 28, 29] [2] [29, 30, 31, 32, 33, 34, 35, 36] [3] u u := yf_refl
  unfold jb_Model_callByTable_30
  exact (yf_ite (yf_ite (yf_ite yf_none (yf_ite yf_none (yf_ite yf_none (yf_ite (yf_call hu yf_jb_Model_callByTable_85 (by decide)) (yf_call hu yf_jb_Model_callByTable_85 (by decide)))))) (yf_call hu yf_jb_Model_callByTable_85 (by decide))) (yf_call hu yf_jb_Model_callByTable_85 (by decide)))
theorem yf_fm_Model_callByTable {fu : Nat} {u : xk_St} : yf_F [4, 26, 27, 28, 29] [2] [29, 30, 31, 32, 33, 34, 35, 36] [3] u (fm_Model_callByTable fu u) := by
  have hu : yf_fr [4, 26, 27, 28, 29] [2] [29, 30, 31, 32, 33, 34, 35, 36] [3] u u := yf_refl
  unfold fm_Model_callByTable
  exact (yf_seq (yf_call hu yf_fm_Model_drop (by decide)) fun _ _ h1 => (yf_letV fun _ => (yf_ite (yf_call h1 yf_jb_Model_callByTable_30 (by decide)) (yf_ite yf_none (yf_call h1 yf_jb_Model_callByTable_30 (by decide))))))
theorem yf_jb_Model_doWays_360 {fu : Nat} {s0 : Int32} {u : xk_St} : yf_F [4, 6, 26, 27, 28, 29] [0, 2] [29, 30, 31, 32, 33, 34, 35, 36] [3] u (jb_Model_doWays_360 fu s0 u) := by
  have hu : yf_fr [4, 6, 26, 27, 28, 29] [0, 2] [29, 30, 31, 32, 33, 34, 35, 36] [3] u u := yf_refl
  unfold jb_Model_doWays_360
  exact (yf_seq (yf_call hu yf_fm_Model_drop (by decide)) fun _ _ h1 => (yf_ite (yf_ite yf_none (yf_letS (yf_B h1 (by decide)) fun _ h2 => (yf_some h2))) (yf_some h1)))
theorem yf_fm_Model_doWays {fu : Nat} {u : xk_St} : yf_F [4, 6, 26, 27, 28, 29] [0, 2] [29, 30, 31, 32, 33, 34, 35, 36] [3] u (fm_Model_doWays fu u) := by
  have hu : yf_fr [4, 6, 26, 27, 28, 29] [0, 2] [29, 30, 31, 32, 33, 34, 35, 36] [3] u u := yf_refl
  unfold fm_Model_doWays
  exact (yf_letV fun _ => (yf_ite (yf_letS (yf_I hu (by decide)) fun _ h1 => (yf_some h1)) (yf_ite (yf_some hu) (yf_ite (yf_call hu yf_jb_Model_doWays_140 (by decide)) (yf_ite (yf_call hu yf_jb_Model_doWays_140 (by decide)) (yf_ite (yf_call hu yf_jb_Model_doWays_140 (by decide)) (yf_ite (yf_letS (yf_I hu (by decide)) fun _ h2 => (yf_ite yf_none (yf_letS (yf_I h2 (by decide)) fun _ h3 => (yf_some h3)))) (yf_ite (yf_some hu) (yf_ite (yf_some hu) (yf_ite (yf_some hu) (yf_ite (yf_some hu) (yf_ite (yf_some hu) (yf_ite (yf_ite yf_none (yf_ite (yf_seq (yf_call hu yf_fm_Model_leave (by decide)) fun _ _ h4 => (yf_some h4)) (yf_letS (yf_I hu (by decide)) fun _ h5 => (yf_some h5)))) (yf_ite (yf_seq (yf_call hu yf_fm_Model_goOut (by decide)) fun _ _ h6 => (yf_some h6)) (yf_ite (yf_seq (yf_call hu yf_fm_Model_drop (by decide)) fun _ _ h7 => (yf_ite (yf_some h7) (yf_seq (yf_call h7 yf_fm_Model_goOut (by decide)) fun _ _ h8 => (yf_some h8)))) (yf_ite (yf_seq (yf_call hu yf_fm_Model_drop (by decide)) fun _ _ h9 => (yf_letV fun _ => (yf_letS (yf_I h9 (by decide)) fun _ h10 => (yf_call h10 yf_jb_Model_doWays_265 (by decide))))) (yf_ite (yf_seq (yf_call hu yf_fm_Model_leave (by decide)) fun _ _ h11 => (yf_some h11)) (yf_ite (yf_seq (yf_call hu yf_fm_Model_enter (by decide)) fun _ _ h12 => (yf_some h12)) (yf_ite (yf_seq (yf_call hu yf_fm_Model_callByTable (by decide)) fun _ _ h13 => (yf_some h13)) (yf_ite (yf_some hu) (yf_ite (yf_some hu) (yf_ite (yf_some hu) (yf_ite (yf_some hu) (yf_ite (yf_some hu) (yf_ite (yf_some hu) (yf_ite (yf_some hu) (yf_ite (yf_some hu) (yf_ite (yf_seq (yf_call hu yf_fm_Model_drop (by decide)) fun _ _ h14 => (yf_some h14)) (yf_ite (yf_seq (yf_call hu yf_fm_Model_drop (by decide)) fun _ _ h15 => (yf_ite (yf_call h15 yf_jb_Model_doWays_360 (by decide)) (yf_call h15 yf_jb_Model_doWays_360 (by decide)))) (yf_some hu))))))))))))))))))))))))))))))
theorem yf_jb_Model_run_34 {fu : Nat} : ∀ {n : Nat}  {u : xk_St}, yf_F [4, 5, 6, 8, 9, 10, 11, 16, 23, 26, 27, 28, 29, 30, 31, 32, 33, 34] [0, 1, 2] [27, 29, 30, 31, 32, 33, 34, 35, 36, 37, 38, 39, 40, 41, 42] [2, 3, 4, 5] u (jb_Model_run_34 fu n u) := by
  intro n
  induction n with
  | zero => intros; exact yf_none
  | succ n ih =>
    intro u
    have hu : yf_fr [4, 5, 6, 8, 9, 10, 11, 16, 23, 26, 27, 28, 29, 30, 31, 32, 33, 34] [0, 1, 2] [27, 29, 30, 31, 32, 33, 34, 35, 36, 37, 38, 39, 40, 41, 42] [2, 3, 4, 5] u u := yf_refl
    unfold jb_Model_run_34
    refine yf_let ?_
    exact (yf_ite (yf_call hu yf_jb_Model_run_149 (by decide)) (yf_ite (yf_letS (yf_I hu (by decide)) fun _ h1 => (yf_seq (yf_call h1 yf_fm_Model_instruction (by decide)) fun _ _ h2 => (yf_ite (yf_ite (yf_ite (yf_ite (yf_ite (yf_seq (yf_call h2 yf_fm_Model_doObjects (by decide)) fun _ _ h3 => (yf_call h3 ih (by decide))) (yf_seq (yf_call h2 yf_fm_Model_doReferences (by decide)) fun _ _ h4 => (yf_call h4 ih (by decide)))) (yf_seq (yf_call h2 yf_fm_Model_doNumbers (by decide)) fun _ _ h5 => (yf_call h5 ih (by decide)))) (yf_seq (yf_call h2 yf_fm_Model_doMemory (by decide)) fun _ _ h6 => (yf_call h6 ih (by decide)))) (yf_seq (yf_call h2 yf_fm_Model_doNames (by decide)) fun _ _ h7 => (yf_call h7 ih (by decide)))) (yf_seq (yf_call h2 yf_fm_Model_doWays (by decide)) fun _ _ h8 => (yf_call h8 ih (by decide)))))) (yf_call hu yf_jb_Model_run_149 (by decide))))
theorem yf_fm_Model_run {fu : Nat} {x0 : Int32} {x1 : Int64} {u : xk_St} : yf_F [4, 5, 6, 8, 9, 10, 11, 16, 23, 26, 27, 28, 29, 30, 31, 32, 33, 34] [0, 1, 2] [27, 29, 30, 31, 32, 33, 34, 35, 36, 37, 38, 39, 40, 41, 42] [2, 3, 4, 5] u (fm_Model_run fu x0 x1 u) := by
  have hu : yf_fr [4, 5, 6, 8, 9, 10, 11, 16, 23, 26, 27, 28, 29, 30, 31, 32, 33, 34] [0, 1, 2] [27, 29, 30, 31, 32, 33, 34, 35, 36, 37, 38, 39, 40, 41, 42] [2, 3, 4, 5] u u := yf_refl
  unfold fm_Model_run
  exact (yf_letS (yf_J hu (by decide)) fun _ h1 => (yf_letS (yf_I h1 (by decide)) fun _ h2 => (yf_letS (yf_I h2 (by decide)) fun _ h3 => (yf_letS (yf_I h3 (by decide)) fun _ h4 => (yf_letS (yf_I h4 (by decide)) fun _ h5 => (yf_seq (yf_call h5 yf_fm_Model_enter (by decide)) fun _ _ h6 => (yf_call h6 yf_jb_Model_run_34 (by decide))))))))
