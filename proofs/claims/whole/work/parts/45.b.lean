theorem yf_jb_Machine_doNumeric_33 {fu : Nat} {s0 : Int32} {u : xk_St} : yf_F [27, 28] [] [37] [10] u (jb_Machine_doNumeric_33 fu s0 u) := by
  have hu : yf_fr [27, 28] [] [37] [10] u u := yf_refl
  unfold jb_Machine_doNumeric_33
  exact (yf_seq (yf_call hu yf_fm_Values_pushTruth__h61 (by decide)) fun _ _ h1 => (yf_some h1))
theorem yf_jb_Machine_doNumeric_12 {fu : Nat} {u : xk_St} : yf_F [27, 28] [] [37] [10] u (jb_Machine_doNumeric_12 fu u) := by
  have hu : yf_fr [27, 28] [] [37] [10] u u := yf_refl
  unfold jb_Machine_doNumeric_12
  exact (yf_seq (yf_call hu yf_fm_Values_pop__h61 (by decide)) fun _ _ h1 => (yf_ite (yf_call h1 yf_jb_Machine_doNumeric_33 (by decide)) (yf_call h1 yf_jb_Machine_doNumeric_33 (by decide))))
theorem yf_jb_Machine_convert_105 {s0 : Int64} {u : xk_St} : yf_F [28] [] [37] [10] u (jb_Machine_convert_105 s0 u) := by
  have hu : yf_fr [28] [] [37] [10] u u := yf_refl
  unfold jb_Machine_convert_105
  exact (yf_seq (yf_call hu yf_fm_Values_push__h61 (by decide)) fun _ _ h1 => (yf_some h1))
theorem yf_jb_Machine_convert_72 {b2 : Int64} {u : xk_St} : yf_F [28] [] [37] [10] u (jb_Machine_convert_72 b2 u) := by
  have hu : yf_fr [28] [] [37] [10] u u := yf_refl
  unfold jb_Machine_convert_72
  exact (yf_call hu yf_jb_Machine_convert_105 (by decide))
theorem yf_jb_Machine_convert_90 {b2 : Int64} {u : xk_St} : yf_F [28] [] [37] [10] u (jb_Machine_convert_90 b2 u) := by
  have hu : yf_fr [28] [] [37] [10] u u := yf_refl
  unfold jb_Machine_convert_90
  exact (yf_seq (yf_call hu yf_fm_Numbers_signed (by decide)) fun _ _ h1 => (yf_call h1 yf_jb_Machine_convert_105 (by decide)))
theorem yf_fm_Machine_convert {x0 : Int32} {u : xk_St} : yf_F [28] [] [37] [10] u (fm_Machine_convert x0 u) := by
  have hu : yf_fr [28] [] [37] [10] u u := yf_refl
  unfold fm_Machine_convert
  exact (yf_seq (yf_call hu yf_fm_Values_pop__h61 (by decide)) fun _ _ h1 => (yf_ite (yf_call h1 yf_jb_Machine_convert_72 (by decide)) (yf_ite (yf_call h1 yf_jb_Machine_convert_105 (by decide)) (yf_ite (yf_call h1 yf_jb_Machine_convert_105 (by decide)) (yf_ite (yf_call h1 yf_jb_Machine_convert_90 (by decide)) (yf_ite (yf_call h1 yf_jb_Machine_convert_90 (by decide)) (yf_ite (yf_call h1 yf_jb_Machine_convert_72 (by decide)) (yf_seq (yf_call h1 yf_fm_Numbers_signed (by decide)) fun _ _ h2 => (yf_call h2 yf_jb_Machine_convert_105 (by decide))))))))))
theorem yf_fm_Numbers_trapOf {x0 : Int32} {x1 : Int64} {x2 : Int64} {x3 : Int64} {u : xk_St} : yf_F [] [] [] [] u (fm_Numbers_trapOf x0 x1 x2 x3 u) := by
  have hu : yf_fr [] [] [] [] u u := yf_refl
  unfold fm_Numbers_trapOf
  exact (yf_ite (yf_some hu) (yf_ite (yf_ite (yf_some hu) (yf_ite (yf_ite (yf_ite (yf_some hu) (yf_some hu)) (yf_some hu)) (yf_some hu))) (yf_some hu)))
theorem yf_fm_Numbers_isBelow {x0 : Int64} {x1 : Int64} {u : xk_St} : yf_F [] [] [] [] u (fm_Numbers_isBelow x0 x1 u) := by
  have hu : yf_fr [] [] [] [] u u := yf_refl
  unfold fm_Numbers_isBelow
  exact (yf_ite (yf_some hu) (yf_some hu))
theorem yf_fm_Numbers_quotient {x0 : Int64} {x1 : Int64} {u : xk_St} : yf_F [] [] [] [] u (fm_Numbers_quotient x0 x1 u) := by
  have hu : yf_fr [] [] [] [] u u := yf_refl
  unfold fm_Numbers_quotient
  exact (yf_ite (yf_ite yf_none (yf_letV fun _ => (yf_seq (yf_call hu yf_fm_Numbers_isBelow (by decide)) fun _ _ h1 => (yf_ite (yf_some h1) (yf_some h1))))) (yf_seq (yf_call hu yf_fm_Numbers_isBelow (by decide)) fun _ _ h2 => (yf_ite (yf_some h2) (yf_some h2))))
theorem yf_fm_Numbers_answer64 {x0 : Int32} {x1 : Int64} {x2 : Int64} {u : xk_St} : yf_F [] [] [] [] u (fm_Numbers_answer64 x0 x1 x2 u) := by
  have hu : yf_fr [] [] [] [] u u := yf_refl
  unfold fm_Numbers_answer64
  exact (yf_ite (yf_some hu) (yf_ite (yf_some hu) (yf_ite (yf_some hu) (yf_ite (yf_ite yf_none (yf_some hu)) (yf_ite (yf_seq (yf_call hu yf_fm_Numbers_quotient (by decide)) fun _ _ h1 => (yf_some h1)) (yf_ite (yf_ite yf_none (yf_some hu)) (yf_ite (yf_seq (yf_call hu yf_fm_Numbers_quotient (by decide)) fun _ _ h2 => (yf_some h2)) (yf_ite (yf_some hu) (yf_ite (yf_some hu) (yf_ite (yf_some hu) (yf_ite (yf_some hu) (yf_ite (yf_some hu) (yf_ite (yf_some hu) (yf_ite (yf_some hu) (yf_some hu)))))))))))))))
theorem yf_fm_Machine_compute64 {x0 : Int32} {u : xk_St} : yf_F [27, 28] [] [37] [10] u (fm_Machine_compute64 x0 u) := by
  have hu : yf_fr [27, 28] [] [37] [10] u u := yf_refl
  unfold fm_Machine_compute64
  exact (yf_seq (yf_call hu yf_fm_Values_pop__h61 (by decide)) fun _ _ h1 => (yf_seq (yf_call h1 yf_fm_Values_pop__h61 (by decide)) fun _ _ h2 => (yf_seq (yf_call h2 yf_fm_Numbers_trapOf (by decide)) fun _ _ h3 => (yf_letS (yf_I h3 (by decide)) fun _ h4 => (yf_ite (yf_seq (yf_call h4 yf_fm_Numbers_answer64 (by decide)) fun _ _ h5 => (yf_seq (yf_call h5 yf_fm_Values_push__h61 (by decide)) fun _ _ h6 => (yf_some h6))) (yf_some h4))))))
theorem yf_fm_Long_bitCount__h {x0 : Int64} {u : xk_St} : yf_F [] [] [] [] u (fm_Long_bitCount__h x0 u) := by
  have hu : yf_fr [] [] [] [] u u := yf_refl
  unfold fm_Long_bitCount__h
  exact (yf_letV fun _ => (yf_letV fun _ => (yf_letV fun _ => (yf_letV fun _ => (yf_letV fun _ => (yf_letV fun _ => (yf_some hu)))))))
theorem yf_jb_Numbers_leading_5 {fu : Nat} : ∀ {n : Nat} {b2 : Int64} {b4 : Int32} {u : xk_St}, yf_F [] [] [] [] u (jb_Numbers_leading_5 fu n b2 b4 u) := by
  intro n
  induction n with
  | zero => intros; exact yf_none
  | succ n ih =>
    intro b2 b4 u
    have hu : yf_fr [] [] [] [] u u := yf_refl
    unfold jb_Numbers_leading_5
    refine yf_let ?_
    exact (yf_ite (yf_seq (yf_call hu yf_fm_Long_bitCount__h (by decide)) fun _ _ h1 => (yf_some h1)) (yf_letV fun _ => (yf_letV fun _ => (yf_call hu ih (by decide)))))
theorem yf_fm_Numbers_leading {fu : Nat} {x0 : Int64} {u : xk_St} : yf_F [] [] [] [] u (fm_Numbers_leading fu x0 u) := by
  have hu : yf_fr [] [] [] [] u u := yf_refl
  unfold fm_Numbers_leading
  exact (yf_call hu yf_jb_Numbers_leading_5 (by decide))
theorem yf_fm_Numbers_counted64 {fu : Nat} {x0 : Int32} {x1 : Int64} {u : xk_St} : yf_F [] [] [] [] u (fm_Numbers_counted64 fu x0 x1 u) := by
  have hu : yf_fr [] [] [] [] u u := yf_refl
  unfold fm_Numbers_counted64
  exact (yf_ite (yf_seq (yf_call hu yf_fm_Numbers_leading (by decide)) fun _ _ h1 => (yf_some h1)) (yf_ite (yf_seq (yf_call hu yf_fm_Long_bitCount__h (by decide)) fun _ _ h2 => (yf_some h2)) (yf_seq (yf_call hu yf_fm_Long_bitCount__h (by decide)) fun _ _ h3 => (yf_some h3))))
theorem yf_fm_Numbers_answer32 {x0 : Int32} {x1 : Int32} {x2 : Int32} {u : xk_St} : yf_F [] [] [] [] u (fm_Numbers_answer32 x0 x1 x2 u) := by
  have hu : yf_fr [] [] [] [] u u := yf_refl
  unfold fm_Numbers_answer32
  exact (yf_ite (yf_some hu) (yf_ite (yf_some hu) (yf_ite (yf_some hu) (yf_ite (yf_ite yf_none (yf_some hu)) (yf_ite (yf_ite yf_none (yf_some hu)) (yf_ite (yf_ite yf_none (yf_some hu)) (yf_ite (yf_ite yf_none (yf_some hu)) (yf_ite (yf_some hu) (yf_ite (yf_some hu) (yf_ite (yf_some hu) (yf_ite (yf_some hu) (yf_ite (yf_some hu) (yf_ite (yf_some hu) (yf_ite (yf_some hu) (yf_some hu)))))))))))))))
theorem yf_fm_Machine_compute32 {x0 : Int32} {u : xk_St} : yf_F [27, 28] [] [37] [10] u (fm_Machine_compute32 x0 u) := by
  have hu : yf_fr [27, 28] [] [37] [10] u u := yf_refl
  unfold fm_Machine_compute32
  exact (yf_seq (yf_call hu yf_fm_Values_pop__h61 (by decide)) fun _ _ h1 => (yf_letV fun _ => (yf_seq (yf_call h1 yf_fm_Values_pop__h61 (by decide)) fun _ _ h2 => (yf_letV fun _ => (yf_seq (yf_call h2 yf_fm_Numbers_trapOf (by decide)) fun _ _ h3 => (yf_letS (yf_I h3 (by decide)) fun _ h4 => (yf_ite (yf_seq (yf_call h4 yf_fm_Numbers_answer32 (by decide)) fun _ _ h5 => (yf_seq (yf_call h5 yf_fm_Values_push__h61 (by decide)) fun _ _ h6 => (yf_some h6))) (yf_some h4))))))))
theorem yf_fm_Integer_bitCount__h {x0 : Int32} {u : xk_St} : yf_F [] [] [] [] u (fm_Integer_bitCount__h x0 u) := by
  have hu : yf_fr [] [] [] [] u u := yf_refl
  unfold fm_Integer_bitCount__h
  exact (yf_letV fun _ => (yf_letV fun _ => (yf_letV fun _ => (yf_letV fun _ => (yf_letV fun _ => (yf_some hu))))))
theorem yf_fm_Numbers_counted32 {fu : Nat} {x0 : Int32} {x1 : Int32} {u : xk_St} : yf_F [] [] [] [] u (fm_Numbers_counted32 fu x0 x1 u) := by
  have hu : yf_fr [] [] [] [] u u := yf_refl
  unfold fm_Numbers_counted32
  exact (yf_ite (yf_seq (yf_call hu yf_fm_Numbers_leading (by decide)) fun _ _ h1 => (yf_some h1)) (yf_ite (yf_seq (yf_call hu yf_fm_Integer_bitCount__h (by decide)) fun _ _ h2 => (yf_some h2)) (yf_seq (yf_call hu yf_fm_Integer_bitCount__h (by decide)) fun _ _ h3 => (yf_some h3))))
theorem yf_fm_Numbers_holds {x0 : Int32} {x1 : Int64} {x2 : Int64} {u : xk_St} : yf_F [] [] [] [] u (fm_Numbers_holds x0 x1 x2 u) := by
  have hu : yf_fr [] [] [] [] u u := yf_refl
  unfold fm_Numbers_holds
  exact (yf_ite (yf_ite (yf_some hu) (yf_some hu)) (yf_ite (yf_ite (yf_some hu) (yf_some hu)) (yf_ite (yf_ite (yf_some hu) (yf_some hu)) (yf_ite (yf_seq (yf_call hu yf_fm_Numbers_isBelow (by decide)) fun _ _ h1 => (yf_ite (yf_some h1) yf_none)) (yf_ite (yf_ite (yf_some hu) (yf_some hu)) (yf_ite (yf_seq (yf_call hu yf_fm_Numbers_isBelow (by decide)) fun _ _ h2 => (yf_ite (yf_some h2) yf_none)) (yf_ite (yf_ite (yf_some hu) (yf_some hu)) (yf_ite (yf_seq (yf_call hu yf_fm_Numbers_isBelow (by decide)) fun _ _ h3 => (yf_ite (yf_some h3) (yf_some h3))) (yf_ite (yf_ite (yf_some hu) (yf_some hu)) (yf_seq (yf_call hu yf_fm_Numbers_isBelow (by decide)) fun _ _ h4 => (yf_ite (yf_some h4) (yf_some h4))))))))))))
theorem yf_jb_Machine_doNumeric_74 {fu : Nat} {b2 : Int64} {s0 : Int32} {u : xk_St} : yf_F [27, 28] [] [37] [10] u (jb_Machine_doNumeric_74 fu b2 s0 u) := by
  have hu : yf_fr [27, 28] [] [37] [10] u u := yf_refl
  unfold jb_Machine_doNumeric_74
  exact (yf_seq (yf_call hu yf_fm_Values_pop__h61 (by decide)) fun _ _ h1 => (yf_seq (yf_call h1 yf_fm_Numbers_holds (by decide)) fun _ _ h2 => (yf_seq (yf_call h2 yf_fm_Values_pushTruth__h61 (by decide)) fun _ _ h3 => (yf_some h3))))
theorem yf_fm_Machine_doNumeric {fu : Nat} {x0 : Int32} {u : xk_St} : yf_F [27, 28] [] [37] [10] u (fm_Machine_doNumeric fu x0 u) := by
  have hu : yf_fr [27, 28] [] [37] [10] u u := yf_refl
  unfold fm_Machine_doNumeric
  exact (yf_ite (yf_call hu yf_jb_Machine_doNumeric_12 (by decide)) (yf_ite (yf_call hu yf_jb_Machine_doNumeric_12 (by decide)) (yf_ite (yf_ite (yf_ite (yf_ite (yf_ite (yf_seq (yf_call hu yf_fm_Machine_convert (by decide)) fun _ _ h1 => (yf_some h1)) (yf_seq (yf_call hu yf_fm_Machine_compute64 (by decide)) fun _ _ h2 => (yf_some h2))) (yf_seq (yf_call hu yf_fm_Values_pop__h61 (by decide)) fun _ _ h3 => (yf_seq (yf_call h3 yf_fm_Numbers_counted64 (by decide)) fun _ _ h4 => (yf_seq (yf_call h4 yf_fm_Values_push__h61 (by decide)) fun _ _ h5 => (yf_some h5))))) (yf_seq (yf_call hu yf_fm_Machine_compute32 (by decide)) fun _ _ h6 => (yf_some h6))) (yf_seq (yf_call hu yf_fm_Values_pop__h61 (by decide)) fun _ _ h7 => (yf_seq (yf_call h7 yf_fm_Numbers_counted32 (by decide)) fun _ _ h8 => (yf_seq (yf_call h8 yf_fm_Values_push__h61 (by decide)) fun _ _ h9 => (yf_some h9))))) (yf_seq (yf_call hu yf_fm_Values_pop__h61 (by decide)) fun _ _ h10 => (yf_ite (yf_call h10 yf_jb_Machine_doNumeric_74 (by decide)) (yf_call h10 yf_jb_Machine_doNumeric_74 (by decide)))))))
theorem yf_fm_Memory_grow {x0 : Int64} {u : xk_St} : yf_F [33] [] [] [] u (fm_Memory_grow x0 u) := by
  have hu : yf_fr [33] [] [] [] u u := yf_refl
  unfold fm_Memory_grow
  exact (yf_ite (yf_letV fun _ => (yf_letS (yf_I hu (by decide)) fun _ h1 => (yf_some h1))) (yf_some hu))
theorem yf_fm_Memory_holds {x0 : Int64} {x1 : Int64} {u : xk_St} : yf_F [] [] [] [] u (fm_Memory_holds x0 x1 u) := by
  have hu : yf_fr [] [] [] [] u u := yf_refl
  unfold fm_Memory_holds
  exact (yf_ite (yf_some hu) (yf_some hu))
theorem yf_jb_Memory_taken_5 {fu : Nat} : ∀ {n : Nat} {b1 : Int32} {b2 : Int32} {b3 : Int64} {b5 : Int32} {u : xk_St}, yf_F [] [] [] [] u (jb_Memory_taken_5 fu n b1 b2 b3 b5 u) := by
  intro n
  induction n with
  | zero => intros; exact yf_none
  | succ n ih =>
    intro b1 b2 b3 b5 u
    have hu : yf_fr [] [] [] [] u u := yf_refl
    unfold jb_Memory_taken_5
    refine yf_let ?_
    exact (yf_ite (yf_some hu) (yf_ite yf_none (yf_letV fun _ => (yf_letV fun _ => (yf_call hu ih (by decide))))))
theorem yf_fm_Memory_taken {fu : Nat} {x0 : Int32} {x1 : Int32} {u : xk_St} : yf_F [] [] [] [] u (fm_Memory_taken fu x0 x1 u) := by
  have hu : yf_fr [] [] [] [] u u := yf_refl
  unfold fm_Memory_taken
  exact (yf_call hu yf_jb_Memory_taken_5 (by decide))
theorem yf_jb_Machine_doMemory_191 {fu : Nat} {s0 : Int64} {u : xk_St} : yf_F [27, 28, 33] [] [37, 46] [10] u (jb_Machine_doMemory_191 fu s0 u) := by
  have hu : yf_fr [27, 28, 33] [] [37, 46] [10] u u := yf_refl
  unfold jb_Machine_doMemory_191
  exact (yf_seq (yf_call hu yf_fm_Values_push__h61 (by decide)) fun _ _ h1 => (yf_some h1))
theorem yf_jb_Memory_put_3 {fu : Nat} : ∀ {n : Nat} {b1 : Int32} {b2 : Int32} {b3 : Int64} {b5 : Int32} {u : xk_St}, yf_F [] [] [46] [] u (jb_Memory_put_3 fu n b1 b2 b3 b5 u) := by
  intro n
  induction n with
  | zero => intros; exact yf_none
  | succ n ih =>
    intro b1 b2 b3 b5 u
    have hu : yf_fr [] [] [46] [] u u := yf_refl
    unfold jb_Memory_put_3
    refine yf_let ?_
    exact (yf_ite (yf_some hu) (yf_ite yf_none (yf_letS (yf_A hu (by decide)) fun _ h1 => (yf_letV fun _ => (yf_call h1 ih (by decide))))))
theorem yf_fm_Memory_put {fu : Nat} {x0 : Int32} {x1 : Int32} {x2 : Int64} {u : xk_St} : yf_F [] [] [46] [] u (fm_Memory_put fu x0 x1 x2 u) := by
  have hu : yf_fr [] [] [46] [] u u := yf_refl
  unfold fm_Memory_put
  exact (yf_call hu yf_jb_Memory_put_3 (by decide))
theorem yf_jb_Machine_doMemory_90 {fu : Nat} {b1 : Int32} {b2 : Int64} {b4 : Int32} {b5 : Int32} {s0 : Int64} {u : xk_St} : yf_F [27, 28, 33] [] [37, 46] [10] u (jb_Machine_doMemory_90 fu b1 b2 b4 b5 s0 u) := by
  have hu : yf_fr [27, 28, 33] [] [37, 46] [10] u u := yf_refl
  unfold jb_Machine_doMemory_90
  exact (yf_seq (yf_call hu yf_fm_Values_pop__h61 (by decide)) fun _ _ h1 => (yf_letV fun _ => (yf_seq (yf_call h1 yf_fm_Memory_holds (by decide)) fun _ _ h2 => (yf_ite (yf_letS (yf_I h2 (by decide)) fun _ h3 => (yf_some h3)) (yf_ite (yf_seq (yf_call h2 yf_fm_Memory_taken (by decide)) fun _ _ h4 => (yf_ite (yf_seq (yf_call h4 yf_fm_Numbers_signed (by decide)) fun _ _ h5 => (yf_call h5 yf_jb_Machine_doMemory_191 (by decide))) (yf_call h4 yf_jb_Machine_doMemory_191 (by decide)))) (yf_seq (yf_call h2 yf_fm_Memory_put (by decide)) fun _ _ h6 => (yf_some h6)))))))
theorem yf_jb_Machine_doMemory_66 {fu : Nat} {b1 : Int32} {b2 : Int64} {s0 : Int32} {u : xk_St} : yf_F [27, 28, 33] [] [37, 46] [10] u (jb_Machine_doMemory_66 fu b1 b2 s0 u) := by
  have hu : yf_fr [27, 28, 33] [] [37, 46] [10] u u := yf_refl
  unfold jb_Machine_doMemory_66
  exact (yf_seq (yf_call hu yf_fm_Memory_width (by decide)) fun _ _ h1 => (yf_ite (yf_call h1 yf_jb_Machine_doMemory_90 (by decide)) (yf_seq (yf_call h1 yf_fm_Values_pop__h61 (by decide)) fun _ _ h2 => (yf_call h2 yf_jb_Machine_doMemory_90 (by decide)))))
theorem yf_fm_Machine_doMemory {fu : Nat} {x0 : Int32} {x1 : Int64} {u : xk_St} : yf_F [27, 28, 33] [] [37, 46] [10] u (fm_Machine_doMemory fu x0 x1 u) := by
  have hu : yf_fr [27, 28, 33] [] [37, 46] [10] u u := yf_refl
  unfold fm_Machine_doMemory
  exact (yf_ite (yf_seq (yf_call hu yf_fm_Values_push__h61 (by decide)) fun _ _ h1 => (yf_some h1)) (yf_ite (yf_seq (yf_call hu yf_fm_Values_pop__h61 (by decide)) fun _ _ h2 => (yf_seq (yf_call h2 yf_fm_Memory_grow (by decide)) fun _ _ h3 => (yf_seq (yf_call h3 yf_fm_Values_push__h61 (by decide)) fun _ _ h4 => (yf_some h4)))) (yf_ite (yf_call hu yf_jb_Machine_doMemory_66 (by decide)) (yf_call hu yf_jb_Machine_doMemory_66 (by decide)))))
theorem yf_fm_Mod_tablePlaces {u : xk_St} : yf_F [] [] [] [] u (fm_Mod_tablePlaces u) := by
  have hu : yf_fr [] [] [] [] u u := yf_refl
  unfold fm_Mod_tablePlaces
  exact (yf_ite (yf_some hu) (yf_ite yf_none (yf_some hu)))
theorem yf_fm_Machine_enterByTable {x0 : Int32} {u : xk_St} : yf_F [23, 24, 25, 26, 27, 28] [] [48, 49, 50] [] u (fm_Machine_enterByTable x0 u) := by
  have hu : yf_fr [23, 24, 25, 26, 27, 28] [] [48, 49, 50] [] u u := yf_refl
  unfold fm_Machine_enterByTable
  exact (yf_seq (yf_call hu yf_fm_Values_pop__h61 (by decide)) fun _ _ h1 => (yf_letV fun _ => (yf_seq (yf_call h1 yf_fm_Mod_tablePlaces (by decide)) fun _ _ h2 => (yf_ite (yf_ite yf_none (yf_letV fun _ => (yf_ite (yf_letS (yf_I h2 (by decide)) fun _ h3 => (yf_some h3)) (yf_ite yf_none (yf_ite yf_none (yf_ite yf_none (yf_ite (yf_seq (yf_call h2 yf_fm_Machine_enter (by decide)) fun _ _ h4 => (yf_some h4)) (yf_letS (yf_I h2 (by decide)) fun _ h5 => (yf_some h5))))))))) (yf_letS (yf_I h2 (by decide)) fun _ h6 => (yf_some h6))))))
theorem yf_fm_Values_copy__h64_61 {x1 : Int32} {x2 : Int32} {u : xk_St} : yf_F [] [] [38] [11] u (fm_Values_copy__h64_61 x1 x2 u) := by
  have hu : yf_fr [] [] [38] [11] u u := yf_refl
  unfold fm_Values_copy__h64_61
  exact (yf_ite yf_none (yf_ite yf_none (yf_letS (yf_B hu (by decide)) fun _ h1 => (yf_ite yf_none (yf_ite yf_none (yf_letS (yf_A h1 (by decide)) fun _ h2 => (yf_some h2)))))))
theorem yf_jb_Machine_doSimple_267 {b2 : Int32} {u : xk_St} : yf_F [23, 24, 25, 26, 27, 28] [] [37, 38, 48, 49, 50] [10, 11] u (jb_Machine_doSimple_267 b2 u) := by
  have hu : yf_fr [23, 24, 25, 26, 27, 28] [] [37, 38, 48, 49, 50] [10, 11] u u := yf_refl
  unfold jb_Machine_doSimple_267
  exact (yf_seq (yf_call hu yf_fm_Values_copy__h64_61 (by decide)) fun _ _ h1 => (yf_letS (yf_I h1 (by decide)) fun _ h2 => (yf_some h2)))
theorem yf_jb_Machine_doSimple_163 {u : xk_St} : yf_F [23, 24, 25, 26, 27, 28] [] [37, 38, 48, 49, 50] [10, 11] u (jb_Machine_doSimple_163 u) := by
  have hu : yf_fr [23, 24, 25, 26, 27, 28] [] [37, 38, 48, 49, 50] [10, 11] u u := yf_refl
  unfold jb_Machine_doSimple_163
  exact (yf_some hu)
theorem yf_fm_Values_pushFrom__h61_61 {x1 : Int32} {u : xk_St} : yf_F [28] [] [37] [10] u (fm_Values_pushFrom__h61_61 x1 u) := by
  have hu : yf_fr [28] [] [37] [10] u u := yf_refl
  unfold fm_Values_pushFrom__h61_61
  exact (yf_seq (yf_call hu yf_fm_Values_copy__h61_61 (by decide)) fun _ _ h1 => (yf_letS (yf_I h1 (by decide)) fun _ h2 => (yf_some h2)))
theorem yf_jb_Machine_doSimple_245 {s0 : Int32} {s1 : Int32} {u : xk_St} : yf_F [23, 24, 25, 26, 27, 28] [] [37, 38, 48, 49, 50] [10, 11] u (jb_Machine_doSimple_245 s0 s1 u) := by
  have hu : yf_fr [23, 24, 25, 26, 27, 28] [] [37, 38, 48, 49, 50] [10, 11] u u := yf_refl
  unfold jb_Machine_doSimple_245
  exact (yf_letS (yf_I hu (by decide)) fun _ h1 => (yf_some h1))
theorem yf_jb_Machine_doSimple_193 {b1 : Int32} {b2 : Int32} {u : xk_St} : yf_F [23, 24, 25, 26, 27, 28] [] [37, 38, 48, 49, 50] [10, 11] u (jb_Machine_doSimple_193 b1 b2 u) := by
  have hu : yf_fr [23, 24, 25, 26, 27, 28] [] [37, 38, 48, 49, 50] [10, 11] u u := yf_refl
  unfold jb_Machine_doSimple_193
  exact (yf_ite yf_none (yf_seq (yf_call hu yf_fm_Values_copy__h61_61 (by decide)) fun _ _ h1 => (yf_ite (yf_call h1 yf_jb_Machine_doSimple_245 (by decide)) (yf_call h1 yf_jb_Machine_doSimple_245 (by decide)))))
theorem yf_fm_Values_copy__h61_64 {x1 : Int32} {x2 : Int32} {u : xk_St} : yf_F [] [] [37] [10] u (fm_Values_copy__h61_64 x1 x2 u) := by
  have hu : yf_fr [] [] [37] [10] u u := yf_refl
  unfold fm_Values_copy__h61_64
  exact (yf_ite yf_none (yf_ite yf_none (yf_letS (yf_B hu (by decide)) fun _ h1 => (yf_ite yf_none (yf_ite yf_none (yf_letS (yf_A h1 (by decide)) fun _ h2 => (yf_some h2)))))))
theorem yf_fm_Values_pushFrom__h61_64 {x1 : Int32} {u : xk_St} : yf_F [28] [] [37] [10] u (fm_Values_pushFrom__h61_64 x1 u) := by
  have hu : yf_fr [28] [] [37] [10] u u := yf_refl
  unfold fm_Values_pushFrom__h61_64
  exact (yf_seq (yf_call hu yf_fm_Values_copy__h61_64 (by decide)) fun _ _ h1 => (yf_letS (yf_I h1 (by decide)) fun _ h2 => (yf_some h2)))
theorem yf_fm_Machine_doSimple {x0 : Int32} {x1 : Int32} {u : xk_St} : yf_F [23, 24, 25, 26, 27, 28] [] [37, 38, 48, 49, 50] [10, 11] u (fm_Machine_doSimple x0 x1 u) := by
  have hu : yf_fr [23, 24, 25, 26, 27, 28] [] [37, 38, 48, 49, 50] [10, 11] u u := yf_refl
  unfold fm_Machine_doSimple
  exact (yf_ite (yf_seq (yf_call hu yf_fm_Machine_enter (by decide)) fun _ _ h1 => (yf_some h1)) (yf_ite (yf_seq (yf_call hu yf_fm_Machine_enterByTable (by decide)) fun _ _ h2 => (yf_some h2)) (yf_ite (yf_call hu yf_jb_Machine_doSimple_267 (by decide)) (yf_ite (yf_call hu yf_jb_Machine_doSimple_267 (by decide)) (yf_ite (yf_call hu yf_jb_Machine_doSimple_267 (by decide)) (yf_ite (yf_call hu yf_jb_Machine_doSimple_267 (by decide)) (yf_ite (yf_call hu yf_jb_Machine_doSimple_267 (by decide)) (yf_ite (yf_call hu yf_jb_Machine_doSimple_267 (by decide)) (yf_ite (yf_call hu yf_jb_Machine_doSimple_267 (by decide)) (yf_ite (yf_call hu yf_jb_Machine_doSimple_267 (by decide)) (yf_ite (yf_seq (yf_call hu yf_fm_Values_pop__h61 (by decide)) fun _ _ h3 => (yf_some h3)) (yf_ite (yf_seq (yf_call hu yf_fm_Values_pop__h61 (by decide)) fun _ _ h4 => (yf_seq (yf_call h4 yf_fm_Values_pop__h61 (by decide)) fun _ _ h5 => (yf_ite (yf_seq (yf_call h5 yf_fm_Values_pop__h61 (by decide)) fun _ _ h6 => (yf_seq (yf_call h6 yf_fm_Values_push__h61 (by decide)) fun _ _ h7 => (yf_call h7 yf_jb_Machine_doSimple_163 (by decide)))) (yf_call h5 yf_jb_Machine_doSimple_163 (by decide))))) (yf_ite (yf_call hu yf_jb_Machine_doSimple_267 (by decide)) (yf_ite (yf_call hu yf_jb_Machine_doSimple_267 (by decide)) (yf_ite (yf_call hu yf_jb_Machine_doSimple_267 (by decide)) (yf_ite (yf_call hu yf_jb_Machine_doSimple_267 (by decide)) (yf_ite (yf_ite yf_none (yf_seq (yf_call hu yf_fm_Values_pushFrom__h61_61 (by decide)) fun _ _ h8 => (yf_some h8))) (yf_ite (yf_call hu yf_jb_Machine_doSimple_193 (by decide)) (yf_ite (yf_call hu yf_jb_Machine_doSimple_193 (by decide)) (yf_ite (yf_seq (yf_call hu yf_fm_Values_pushFrom__h61_64 (by decide)) fun _ _ h9 => (yf_some h9)) (yf_call hu yf_jb_Machine_doSimple_267 (by decide))))))))))))))))))))))
theorem yf_jb_Machine_doControl_155 {fu : Nat} {u : xk_St} : yf_F [23, 24, 25, 26, 27, 28] [] [37] [10] u (jb_Machine_doControl_155 fu u) := by
  have hu : yf_fr [23, 24, 25, 26, 27, 28] [] [37] [10] u u := yf_refl
  unfold jb_Machine_doControl_155
  exact (yf_seq (yf_call hu yf_fm_Machine_leave (by decide)) fun _ _ h1 => (yf_some h1))
theorem yf_jb_Arrays_fill_AJIIJ__h62_10 {fu : Nat} : ∀ {n : Nat} {b2 : Int32} {b3 : Int64} {b5 : Int32} {u : xk_St}, yf_F [] [] [] [10] u (jb_Arrays_fill_AJIIJ__h62_10 fu n b2 b3 b5 u) := by
  intro n
  induction n with
  | zero => intros; exact yf_none
  | succ n ih =>
    intro b2 b3 b5 u
    have hu : yf_fr [] [] [] [10] u u := yf_refl
    unfold jb_Arrays_fill_AJIIJ__h62_10
    refine yf_let ?_
    exact (yf_ite (yf_some hu) (yf_ite yf_none (yf_letS (yf_B hu (by decide)) fun _ h1 => (yf_letV fun _ => (yf_call h1 ih (by decide))))))
theorem yf_fm_Arrays_fill_AJIIJ__h62 {fu : Nat} {x1 : Int32} {x2 : Int32} {x3 : Int64} {u : xk_St} : yf_F [] [] [] [10] u (fm_Arrays_fill_AJIIJ__h62 fu x1 x2 x3 u) := by
  have hu : yf_fr [] [] [] [10] u u := yf_refl
  unfold fm_Arrays_fill_AJIIJ__h62
  exact (yf_seq (yf_call hu yf_fm_Arrays_rangeCheck__h (by decide)) fun _ _ h1 => (yf_call h1 yf_jb_Arrays_fill_AJIIJ__h62_10 (by decide)))
theorem yf_jb_Values_pushZeros__h61_20 {fu : Nat} : ∀ {n : Nat} {b1 : Int32} {b2 : Int32} {u : xk_St}, yf_F [28] [] [37] [10] u (jb_Values_pushZeros__h61_20 fu n b1 b2 u) := by
  intro n
  induction n with
  | zero => intros; exact yf_none
  | succ n ih =>
    intro b1 b2 u
    have hu : yf_fr [28] [] [37] [10] u u := yf_refl
    unfold jb_Values_pushZeros__h61_20
    refine yf_let ?_
    exact (yf_ite (yf_letS (yf_I hu (by decide)) fun _ h1 => (yf_some h1)) (yf_ite yf_none (yf_letS (yf_A hu (by decide)) fun _ h2 => (yf_letV fun _ => (yf_call h2 ih (by decide))))))
theorem yf_fm_Values_pushZeros__h61 {fu : Nat} {x0 : Int32} {u : xk_St} : yf_F [28] [] [37] [10] u (fm_Values_pushZeros__h61 fu x0 u) := by
  have hu : yf_fr [28] [] [37] [10] u u := yf_refl
  unfold fm_Values_pushZeros__h61
  exact (yf_seq (yf_call hu yf_fm_Arrays_fill_AJIIJ__h62 (by decide)) fun _ _ h1 => (yf_call h1 yf_jb_Values_pushZeros__h61_20 (by decide)))
theorem yf_fm_Machine_doControl {fu : Nat} {x0 : Int32} {x1 : Int32} {u : xk_St} : yf_F [23, 24, 25, 26, 27, 28] [] [37] [10] u (fm_Machine_doControl fu x0 x1 u) := by
  have hu : yf_fr [23, 24, 25, 26, 27, 28] [] [37] [10] u u := yf_refl
  unfold fm_Machine_doControl
  exact (yf_ite (yf_letS (yf_I hu (by decide)) fun _ h1 => (yf_some h1)) (yf_ite (yf_some hu) (yf_ite (yf_some hu) (yf_ite (yf_some hu) (yf_ite (yf_seq (yf_call hu yf_fm_Values_pop__h61 (by decide)) fun _ _ h2 => (yf_ite (yf_ite yf_none (yf_letS (yf_I h2 (by decide)) fun _ h3 => (yf_some h3))) (yf_some h2))) (yf_ite (yf_ite yf_none (yf_letS (yf_I hu (by decide)) fun _ h4 => (yf_some h4))) (yf_ite (yf_some hu) (yf_ite (yf_call hu yf_jb_Machine_doControl_155 (by decide)) (yf_ite (yf_ite yf_none (yf_seq (yf_call hu yf_fm_Values_pushZeros__h61 (by decide)) fun _ _ h5 => (yf_some h5))) (yf_ite (yf_some hu) (yf_ite (yf_some hu) (yf_ite (yf_some hu) (yf_ite (yf_ite yf_none (yf_seq (yf_call hu yf_fm_Machine_branch (by decide)) fun _ _ h6 => (yf_some h6))) (yf_ite (yf_seq (yf_call hu yf_fm_Values_pop__h61 (by decide)) fun _ _ h7 => (yf_ite (yf_some h7) (yf_ite yf_none (yf_seq (yf_call h7 yf_fm_Machine_branch (by decide)) fun _ _ h8 => (yf_some h8))))) (yf_ite (yf_seq (yf_call hu yf_fm_Values_pop__h61 (by decide)) fun _ _ h9 => (yf_ite yf_none (yf_letV fun _ => (yf_ite yf_none (yf_ite yf_none (yf_seq (yf_call h9 yf_fm_Machine_branch (by decide)) fun _ _ h10 => (yf_some h10))))))) (yf_ite (yf_call hu yf_jb_Machine_doControl_155 (by decide)) (yf_some hu)))))))))))))))))
theorem yf_fm_Machine_step {fu : Nat} {x0 : Int32} {x1 : Int32} {u : xk_St} : yf_F [23, 24, 25, 26, 27, 28, 30, 31, 32, 33] [] [37, 38, 39, 40, 41, 42, 43, 44, 45, 46, 48, 49, 50] [10, 11, 12] u (fm_Machine_step fu x0 x1 u) := by
  have hu : yf_fr [23, 24, 25, 26, 27, 28, 30, 31, 32, 33] [] [37, 38, 39, 40, 41, 42, 43, 44, 45, 46, 48, 49, 50] [10, 11, 12] u u := yf_refl
  unfold fm_Machine_step
  exact (yf_ite (yf_ite (yf_ite (yf_ite (yf_ite (yf_ite (yf_ite (yf_ite (yf_ite yf_none (yf_seq (yf_call hu yf_fm_Machine_doKind (by decide)) fun _ _ h1 => (yf_some h1))) (yf_ite yf_none (yf_ite yf_none (yf_seq (yf_call hu yf_fm_Machine_doArray (by decide)) fun _ _ h2 => (yf_some h2))))) (yf_ite yf_none (yf_ite yf_none (yf_seq (yf_call hu yf_fm_Machine_doStructure (by decide)) fun _ _ h3 => (yf_some h3))))) (yf_seq (yf_call hu yf_fm_Machine_doReference (by decide)) fun _ _ h4 => (yf_some h4))) (yf_seq (yf_call hu yf_fm_Machine_doNumeric (by decide)) fun _ _ h5 => (yf_some h5))) (yf_ite yf_none (yf_seq (yf_call hu yf_fm_Values_push__h61 (by decide)) fun _ _ h6 => (yf_some h6)))) (yf_ite yf_none (yf_seq (yf_call hu yf_fm_Machine_doMemory (by decide)) fun _ _ h7 => (yf_some h7)))) (yf_ite yf_none (yf_seq (yf_call hu yf_fm_Machine_doSimple (by decide)) fun _ _ h8 => (yf_some h8)))) (yf_seq (yf_call hu yf_fm_Machine_doControl (by decide)) fun _ _ h9 => (yf_some h9)))
theorem yf_jb_Machine_run_29 {fu : Nat} : ∀ {n : Nat} {b3 : Int64} {u : xk_St}, yf_F [23, 24, 25, 26, 27, 28, 30, 31, 32, 33] [] [37, 38, 39, 40, 41, 42, 43, 44, 45, 46, 48, 49, 50] [10, 11, 12] u (jb_Machine_run_29 fu n b3 u) := by
  intro n
  induction n with
  | zero => intros; exact yf_none
  | succ n ih =>
    intro b3 u
    have hu : yf_fr [23, 24, 25, 26, 27, 28, 30, 31, 32, 33] [] [37, 38, 39, 40, 41, 42, 43, 44, 45, 46, 48, 49, 50] [10, 11, 12] u u := yf_refl
    unfold jb_Machine_run_29
    refine yf_let ?_
    exact (yf_ite (yf_some hu) (yf_ite (yf_ite (yf_some hu) (yf_letV fun _ => (yf_letS (yf_I hu (by decide)) fun _ h1 => (yf_ite yf_none (yf_seq (yf_call h1 yf_fm_Machine_step (by decide)) fun _ _ h2 => (yf_letV fun _ => (yf_call h2 ih (by decide)))))))) (yf_some hu)))
theorem yf_fm_Machine_run {fu : Nat} {x0 : Int32} {x1 : Int32} {u : xk_St} : yf_F [23, 24, 25, 26, 27, 28, 30, 31, 32, 33] [] [37, 38, 39, 40, 41, 42, 43, 44, 45, 46, 48, 49, 50] [10, 11, 12] u (fm_Machine_run fu x0 x1 u) := by
  have hu : yf_fr [23, 24, 25, 26, 27, 28, 30, 31, 32, 33] [] [37, 38, 39, 40, 41, 42, 43, 44, 45, 46, 48, 49, 50] [10, 11, 12] u u := yf_refl
  unfold fm_Machine_run
  exact (yf_letS (yf_I hu (by decide)) fun _ h1 => (yf_letS (yf_I h1 (by decide)) fun _ h2 => (yf_letS (yf_I h2 (by decide)) fun _ h3 => (yf_seq (yf_call h3 yf_fm_Machine_enter (by decide)) fun _ _ h4 => (yf_letV fun _ => (yf_call h4 yf_jb_Machine_run_29 (by decide)))))))
theorem yf_jb_Model_enter_35 {fu : Nat} {s0 : Int32} {u : xk_St} : yf_F [4, 26, 27, 28, 29] [2] [29, 30, 31, 32, 33, 34, 35, 36] [3] u (jb_Model_enter_35 fu s0 u) := by
  have hu : yf_fr [4, 26, 27, 28, 29] [2] [29, 30, 31, 32, 33, 34, 35, 36] [3] u u := yf_refl
  unfold jb_Model_enter_35
  exact (yf_letS (yf_I hu (by decide)) fun _ h1 => (yf_ite (yf_letS (yf_J h1 (by decide)) fun _ h2 => (yf_some h2)) (yf_letS (yf_J h1 (by decide)) fun _ h3 => (yf_some h3))))
theorem yf_jb_Model_enter_18 {fu : Nat} {u : xk_St} : yf_F [4, 26, 27, 28, 29] [2] [29, 30, 31, 32, 33, 34, 35, 36] [3] u (jb_Model_enter_18 fu u) := by
  have hu : yf_fr [4, 26, 27, 28, 29] [2] [29, 30, 31, 32, 33, 34, 35, 36] [3] u u := yf_refl
  unfold jb_Model_enter_18
  exact (yf_ite (yf_call hu yf_jb_Model_enter_35 (by decide)) (yf_call hu yf_jb_Model_enter_35 (by decide)))
theorem yf_fm_Model_beginWay {x0 : Int32} {x1 : Int32} {x2 : Int32} {x3 : Int32} {u : xk_St} : yf_F [28] [] [33, 34, 35, 36] [] u (fm_Model_beginWay x0 x1 x2 x3 u) := by
  have hu : yf_fr [28] [] [33, 34, 35, 36] [] u u := yf_refl
  unfold fm_Model_beginWay
  exact (yf_ite yf_none (yf_letS (yf_A hu (by decide)) fun _ h1 => (yf_ite yf_none (yf_letS (yf_A h1 (by decide)) fun _ h2 => (yf_ite yf_none (yf_letS (yf_A h2 (by decide)) fun _ h3 => (yf_ite yf_none (yf_letS (yf_A h3 (by decide)) fun _ h4 => (yf_letS (yf_I h4 (by decide)) fun _ h5 => (yf_some h5))))))))))
theorem yf_fm_Model_isReference {x0 : Int32} {u : xk_St} : yf_F [] [] [] [] u (fm_Model_isReference x0 u) := by
  have hu : yf_fr [] [] [] [] u u := yf_refl
  unfold fm_Model_isReference
  exact (yf_ite (yf_some hu) (yf_some hu))
theorem yf_fm_Model_lay {x0 : Int64} {x1 : Int32} {u : xk_St} : yf_F [26] [] [29] [3] u (fm_Model_lay x0 x1 u) := by
  have hu : yf_fr [26] [] [29] [3] u u := yf_refl
  unfold fm_Model_lay
  exact (yf_ite yf_none (yf_letS (yf_B hu (by decide)) fun _ h1 => (yf_ite yf_none (yf_letS (yf_A h1 (by decide)) fun _ h2 => (yf_letS (yf_I h2 (by decide)) fun _ h3 => (yf_some h3))))))
theorem yf_jb_Model_enter_140 {fu : Nat} : ∀ {n : Nat} {b1 : Int32} {b3 : Int32} {b4 : Int32} {u : xk_St}, yf_F [4, 26, 27, 28, 29] [2] [29, 30, 31, 32, 33, 34, 35, 36] [3] u (jb_Model_enter_140 fu n b1 b3 b4 u) := by
  intro n
  induction n with
  | zero => intros; exact yf_none
  | succ n ih =>
    intro b1 b3 b4 u
    have hu : yf_fr [4, 26, 27, 28, 29] [2] [29, 30, 31, 32, 33, 34, 35, 36] [3] u u := yf_refl
    unfold jb_Model_enter_140
    refine yf_let ?_
    exact (yf_ite yf_none (yf_ite (yf_ite yf_none (yf_seq (yf_call hu yf_fm_Model_beginWay (by decide)) fun _ _ h1 => (yf_ite yf_none (yf_letS (yf_I h1 (by decide)) fun _ h2 => (yf_some h2))))) (yf_ite yf_none (yf_seq (yf_call hu yf_fm_Model_isReference (by decide)) fun _ _ h3 => (yf_seq (yf_call h3 yf_fm_Model_lay (by decide)) fun _ _ h4 => (yf_letV fun _ => (yf_call h4 ih (by decide))))))))
theorem yf_fm_Model_enter {fu : Nat} {x0 : Int32} {x1 : Int32} {u : xk_St} : yf_F [4, 26, 27, 28, 29] [2] [29, 30, 31, 32, 33, 34, 35, 36] [3] u (fm_Model_enter fu x0 x1 u) := by
  have hu : yf_fr [4, 26, 27, 28, 29] [2] [29, 30, 31, 32, 33, 34, 35, 36] [3] u u := yf_refl
  unfold fm_Model_enter
  exact (yf_ite (yf_call hu yf_jb_Model_enter_18 (by decide)) (yf_ite (yf_call hu yf_jb_Model_enter_18 (by decide)) (yf_letS (yf_J hu (by decide)) fun _ h1 => (yf_ite yf_none (yf_letV fun _ => (yf_ite yf_none (yf_letS (yf_A h1 (by decide)) fun _ h2 => (yf_ite yf_none (yf_ite yf_none (yf_letS (yf_A h2 (by decide)) fun _ h3 => (yf_ite yf_none (yf_letS (yf_A h3 (by decide)) fun _ h4 => (yf_letS (yf_I h4 (by decide)) fun _ h5 => (yf_ite yf_none (yf_letV fun _ => (yf_call h5 yf_jb_Model_enter_140 (by decide)))))))))))))))))
theorem yf_jb_Model_run_232 {fu : Nat} {k180 : Int32 → xk_St → Option (Unit × xk_St)} {b4 : Int32} {s0 : Int64} {s1 : Int32} {u : xk_St} (hk180 : ∀ c0 v, yf_F [4, 5, 6, 8, 9, 10, 11, 16, 23, 26, 27, 28, 29, 30, 31, 32, 33, 34] [0, 1, 2] [27, 29, 30, 31, 32, 33, 34, 35, 36, 37, 38, 39, 40, 41, 42] [2, 3, 4, 5] v (k180 c0 v)) : yf_F [4, 5, 6, 8, 9, 10, 11, 16, 23, 26, 27, 28, 29, 30, 31, 32, 33, 34] [0, 1, 2] [27, 29, 30, 31, 32, 33, 34, 35, 36, 37, 38, 39, 40, 41, 42] [2, 3, 4, 5] u (jb_Model_run_232 fu k180 b4 s0 s1 u) := by
  have hu : yf_fr [4, 5, 6, 8, 9, 10, 11, 16, 23, 26, 27, 28, 29, 30, 31, 32, 33, 34] [0, 1, 2] [27, 29, 30, 31, 32, 33, 34, 35, 36, 37, 38, 39, 40, 41, 42] [2, 3, 4, 5] u u := yf_refl
  unfold jb_Model_run_232
  exact (yf_ite yf_none (yf_letS (yf_B hu (by decide)) fun _ h1 => (yf_letV fun _ => (yf_call h1 (hk180 _ _) (by decide)))))
theorem yf_jb_Model_run_180 {fu : Nat} : ∀ {n : Nat} {b4 : Int32} {u : xk_St}, yf_F [4, 5, 6, 8, 9, 10, 11, 16, 23, 26, 27, 28, 29, 30, 31, 32, 33, 34] [0, 1, 2] [27, 29, 30, 31, 32, 33, 34, 35, 36, 37, 38, 39, 40, 41, 42] [2, 3, 4, 5] u (jb_Model_run_180 fu n b4 u) := by
  intro n
  induction n with
  | zero => intros; exact yf_none
  | succ n ih =>
    intro b4 u
    have hu : yf_fr [4, 5, 6, 8, 9, 10, 11, 16, 23, 26, 27, 28, 29, 30, 31, 32, 33, 34] [0, 1, 2] [27, 29, 30, 31, 32, 33, 34, 35, 36, 37, 38, 39, 40, 41, 42] [2, 3, 4, 5] u u := yf_refl
    unfold jb_Model_run_180
    refine yf_let ?_
    exact (yf_ite (yf_letS (yf_I hu (by decide)) fun _ h1 => (yf_letS (yf_I h1 (by decide)) fun _ h2 => (yf_some h2))) (yf_ite yf_none (yf_ite (yf_ite yf_none (yf_call hu (yf_jb_Model_run_232 (fun _ _ => ih)) (by decide))) (yf_ite yf_none (yf_ite (yf_call hu (yf_jb_Model_run_232 (fun _ _ => ih)) (by decide)) (yf_call hu (yf_jb_Model_run_232 (fun _ _ => ih)) (by decide)))))))
theorem yf_jb_Model_run_174 {fu : Nat} {s0 : Int32} {u : xk_St} : yf_F [4, 5, 6, 8, 9, 10, 11, 16, 23, 26, 27, 28, 29, 30, 31, 32, 33, 34] [0, 1, 2] [27, 29, 30, 31, 32, 33, 34, 35, 36, 37, 38, 39, 40, 41, 42] [2, 3, 4, 5] u (jb_Model_run_174 fu s0 u) := by
  have hu : yf_fr [4, 5, 6, 8, 9, 10, 11, 16, 23, 26, 27, 28, 29, 30, 31, 32, 33, 34] [0, 1, 2] [27, 29, 30, 31, 32, 33, 34, 35, 36, 37, 38, 39, 40, 41, 42] [2, 3, 4, 5] u u := yf_refl
  unfold jb_Model_run_174
  exact (yf_letS (yf_I hu (by decide)) fun _ h1 => (yf_call h1 yf_jb_Model_run_180 (by decide)))
theorem yf_jb_Model_run_149 {fu : Nat} {u : xk_St} : yf_F [4, 5, 6, 8, 9, 10, 11, 16, 23, 26, 27, 28, 29, 30, 31, 32, 33, 34] [0, 1, 2] [27, 29, 30, 31, 32, 33, 34, 35, 36, 37, 38, 39, 40, 41, 42] [2, 3, 4, 5] u (jb_Model_run_149 fu u) := by
  have hu : yf_fr [4, 5, 6, 8, 9, 10, 11, 16, 23, 26, 27, 28, 29, 30, 31, 32, 33, 34] [0, 1, 2] [27, 29, 30, 31, 32, 33, 34, 35, 36, 37, 38, 39, 40, 41, 42] [2, 3, 4, 5] u u := yf_refl
  unfold jb_Model_run_149
  exact (yf_letS (yf_I hu (by decide)) fun _ h1 => (yf_ite (yf_call h1 yf_jb_Model_run_174 (by decide)) (yf_call h1 yf_jb_Model_run_174 (by decide))))
theorem yf_fm_Model_drop {u : xk_St} : yf_F [26] [] [] [] u (fm_Model_drop u) := by
  have hu : yf_fr [26] [] [] [] u u := yf_refl
  unfold fm_Model_drop
  exact (yf_letS (yf_I hu (by decide)) fun _ h1 => (yf_ite yf_none (yf_some h1)))
theorem yf_fm_Model_tell {x0 : Int64} {u : xk_St} : yf_F [26] [] [29] [3] u (fm_Model_tell x0 u) := by
  have hu : yf_fr [26] [] [29] [3] u u := yf_refl
  unfold fm_Model_tell
  exact (yf_seq (yf_call hu yf_fm_Model_lay (by decide)) fun _ _ h1 => (yf_some h1))
theorem yf_jb_Model_doObjects_155 {fu : Nat} {s0 : Int64} {u : xk_St} : yf_F [26, 29, 32, 33, 34] [] [29, 37, 38, 39, 40, 41, 42] [3, 5] u (jb_Model_doObjects_155 fu s0 u) := by
  have hu : yf_fr [26, 29, 32, 33, 34] [] [29, 37, 38, 39, 40, 41, 42] [3, 5] u u := yf_refl
  unfold jb_Model_doObjects_155
  exact (yf_seq (yf_call hu yf_fm_Model_tell (by decide)) fun _ _ h1 => (yf_some h1))
theorem yf_jb_Model_doObjects_128 {fu : Nat} {b1 : Int64} {s0 : Int32} {u : xk_St} : yf_F [26, 29, 32, 33, 34] [] [29, 37, 38, 39, 40, 41, 42] [3, 5] u (jb_Model_doObjects_128 fu b1 s0 u) := by
  have hu : yf_fr [26, 29, 32, 33, 34] [] [29, 37, 38, 39, 40, 41, 42] [3, 5] u u := yf_refl
  unfold jb_Model_doObjects_128
  exact (yf_letS (yf_I hu (by decide)) fun _ h1 => (yf_ite (yf_seq (yf_call h1 yf_fm_Model_sx (by decide)) fun _ _ h2 => (yf_call h2 yf_jb_Model_doObjects_155 (by decide))) (yf_call h1 yf_jb_Model_doObjects_155 (by decide))))
theorem yf_jb_Model_isOf_37 {u : xk_St} : yf_F [] [] [] [] u (jb_Model_isOf_37 u) := by
  have hu : yf_fr [] [] [] [] u u := yf_refl
  unfold jb_Model_isOf_37
  exact (yf_some hu)
theorem yf_jb_Model_isOf_21 {b1 : Int64} {b3 : Int32} {s0 : Int32} {u : xk_St} : yf_F [] [] [] [] u (jb_Model_isOf_21 b1 b3 s0 u) := by
  have hu : yf_fr [] [] [] [] u u := yf_refl
  unfold jb_Model_isOf_21
  exact (yf_ite (yf_ite (yf_ite yf_none (yf_ite yf_none (yf_ite yf_none (yf_ite yf_none (yf_ite (yf_some hu) (yf_some hu)))))) (yf_some hu)) (yf_ite (yf_call hu yf_jb_Model_isOf_37 (by decide)) (yf_ite (yf_some hu) (yf_call hu yf_jb_Model_isOf_37 (by decide)))))
theorem yf_fm_Model_isOf {x0 : Int64} {x1 : Int32} {u : xk_St} : yf_F [] [] [] [] u (fm_Model_isOf x0 x1 u) := by
  have hu : yf_fr [] [] [] [] u u := yf_refl
  unfold fm_Model_isOf
  exact (yf_ite (yf_some hu) (yf_ite (yf_call hu yf_jb_Model_isOf_21 (by decide)) (yf_call hu yf_jb_Model_isOf_21 (by decide))))
theorem yf_jb_Model_doKind_91 {s0 : Int64} {u : xk_St} : yf_F [26, 29] [] [29] [3] u (jb_Model_doKind_91 s0 u) := by
  have hu : yf_fr [26, 29] [] [29] [3] u u := yf_refl
  unfold jb_Model_doKind_91
  exact (yf_seq (yf_call hu yf_fm_Model_tell (by decide)) fun _ _ h1 => (yf_some h1))
theorem yf_jb_Model_doKind_46 {s0 : Int32} {u : xk_St} : yf_F [26, 29] [] [29] [3] u (jb_Model_doKind_46 s0 u) := by
  have hu : yf_fr [26, 29] [] [29] [3] u u := yf_refl
  unfold jb_Model_doKind_46
  exact (yf_ite (yf_letS (yf_I hu (by decide)) fun _ h1 => (yf_ite (yf_call h1 yf_jb_Model_doKind_91 (by decide)) (yf_call h1 yf_jb_Model_doKind_91 (by decide)))) (yf_ite (yf_letS (yf_I hu (by decide)) fun _ h2 => (yf_some h2)) (yf_letS (yf_I hu (by decide)) fun _ h3 => (yf_some h3))))
theorem yf_jb_Model_doKind_41 {u : xk_St} : yf_F [26, 29] [] [29] [3] u (jb_Model_doKind_41 u) := by
  have hu : yf_fr [26, 29] [] [29] [3] u u := yf_refl
  unfold jb_Model_doKind_41
  exact (yf_call hu yf_jb_Model_doKind_46 (by decide))
theorem yf_jb_Model_doKind_45 {u : xk_St} : yf_F [26, 29] [] [29] [3] u (jb_Model_doKind_45 u) := by
  have hu : yf_fr [26, 29] [] [29] [3] u u := yf_refl
  unfold jb_Model_doKind_45
  exact (yf_call hu yf_jb_Model_doKind_46 (by decide))
theorem yf_fm_Model_doKind {u : xk_St} : yf_F [26, 29] [] [29] [3] u (fm_Model_doKind u) := by
  have hu : yf_fr [26, 29] [] [29] [3] u u := yf_refl
  unfold fm_Model_doKind
  exact (yf_ite yf_none (yf_letV fun _ => (yf_seq (yf_call hu yf_fm_Model_isOf (by decide)) fun _ _ h1 => (yf_ite (yf_ite (yf_ite yf_none (yf_ite (yf_call h1 yf_jb_Model_doKind_41 (by decide)) (yf_call h1 yf_jb_Model_doKind_45 (by decide)))) (yf_call h1 yf_jb_Model_doKind_45 (by decide))) (yf_call h1 yf_jb_Model_doKind_41 (by decide))))))
theorem yf_fm_Model_packed {x0 : Int32} {x1 : Int64} {u : xk_St} : yf_F [] [] [] [] u (fm_Model_packed x0 x1 u) := by
  have hu : yf_fr [] [] [] [] u u := yf_refl
  unfold fm_Model_packed
  exact (yf_ite (yf_some hu) (yf_ite (yf_some hu) (yf_some hu)))
theorem yf_jb_Model_doArray_215 {fu : Nat} : ∀ {n : Nat} {b1 : Int64} {b3 : Int64} {b10 : Int32} {b11 : Int32} {b12 : Int32} {u : xk_St}, yf_F [26, 29] [] [29] [3, 5] u (jb_Model_doArray_215 fu n b1 b3 b10 b11 b12 u) := by
  intro n
  induction n with
  | zero => intros; exact yf_none
  | succ n ih =>
    intro b1 b3 b10 b11 b12 u
    have hu : yf_fr [26, 29] [] [29] [3, 5] u u := yf_refl
    unfold jb_Model_doArray_215
    refine yf_let ?_
    exact (yf_ite (yf_some hu) (yf_ite (yf_some hu) (yf_seq (yf_call hu yf_fm_Model_packed (by decide)) fun _ _ h1 => (yf_ite yf_none (yf_letS (yf_B h1 (by decide)) fun _ h2 => (yf_letV fun _ => (yf_call h2 ih (by decide))))))))
