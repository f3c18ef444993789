theorem yf_fm_Machine_spendTurn {u : xk_St} : yf_F [23, 27] [] [] [] u (fm_Machine_spendTurn u) := by
  have hu : yf_fr [23, 27] [] [] [] u u := yf_refl
  unfold fm_Machine_spendTurn
  exact (yf_ite (yf_letS (yf_I hu (by decide)) fun _ h1 => (yf_some h1)) (yf_letS (yf_I hu (by decide)) fun _ h2 => (yf_some h2)))
theorem yf_fm_Machine_enter {x0 : Int32} {u : xk_St} : yf_F [23, 24, 25, 26, 27] [] [48, 49, 50] [] u (fm_Machine_enter x0 u) := by
  have hu : yf_fr [23, 24, 25, 26, 27] [] [48, 49, 50] [] u u := yf_refl
  unfold fm_Machine_enter
  exact (yf_seq (yf_call hu yf_fm_Machine_spendTurn (by decide)) fun _ _ h1 => (yf_ite (yf_some h1) (yf_ite (yf_letS (yf_I h1 (by decide)) fun _ h2 => (yf_some h2)) (yf_ite yf_none (yf_letS (yf_A h1 (by decide)) fun _ h3 => (yf_ite yf_none (yf_ite yf_none (yf_ite yf_none (yf_letS (yf_A h3 (by decide)) fun _ h4 => (yf_ite yf_none (yf_letS (yf_A h4 (by decide)) fun _ h5 => (yf_ite yf_none (yf_ite yf_none (yf_letS (yf_I h5 (by decide)) fun _ h6 => (yf_ite yf_none (yf_letS (yf_I h6 (by decide)) fun _ h7 => (yf_letS (yf_I h7 (by decide)) fun _ h8 => (yf_some h8))))))))))))))))))
theorem yf_fm_Values_pushReference__h61 {x0 : Int64} {u : xk_St} : yf_F [28] [] [37] [10] u (fm_Values_pushReference__h61 x0 u) := by
  have hu : yf_fr [28] [] [37] [10] u u := yf_refl
  unfold fm_Values_pushReference__h61
  exact (yf_ite yf_none (yf_letS (yf_B hu (by decide)) fun _ h1 => (yf_ite yf_none (yf_letS (yf_A h1 (by decide)) fun _ h2 => (yf_letS (yf_I h2 (by decide)) fun _ h3 => (yf_some h3))))))
theorem yf_fm_Values_push__h61 {x0 : Int64} {u : xk_St} : yf_F [28] [] [37] [10] u (fm_Values_push__h61 x0 u) := by
  have hu : yf_fr [28] [] [37] [10] u u := yf_refl
  unfold fm_Values_push__h61
  exact (yf_ite yf_none (yf_letS (yf_B hu (by decide)) fun _ h1 => (yf_ite yf_none (yf_letS (yf_A h1 (by decide)) fun _ h2 => (yf_letS (yf_I h2 (by decide)) fun _ h3 => (yf_some h3))))))
theorem yf_jb_Values_pushTruth__h61_10 {s0 : Int64} {u : xk_St} : yf_F [28] [] [37] [10] u (jb_Values_pushTruth__h61_10 s0 u) := by
  have hu : yf_fr [28] [] [37] [10] u u := yf_refl
  unfold jb_Values_pushTruth__h61_10
  exact (yf_seq (yf_call hu yf_fm_Values_push__h61 (by decide)) fun _ _ h1 => (yf_some h1))
theorem yf_fm_Values_pushTruth__h61 {x0 : Int32} {u : xk_St} : yf_F [28] [] [37] [10] u (fm_Values_pushTruth__h61 x0 u) := by
  have hu : yf_fr [28] [] [37] [10] u u := yf_refl
  unfold fm_Values_pushTruth__h61
  exact (yf_ite (yf_call hu yf_jb_Values_pushTruth__h61_10 (by decide)) (yf_call hu yf_jb_Values_pushTruth__h61_10 (by decide)))
theorem yf_jb_Machine_doKind_139 {b1 : Int32} {s0 : Int32} {u : xk_St} : yf_F [27, 28] [] [37] [10] u (jb_Machine_doKind_139 b1 s0 u) := by
  have hu : yf_fr [27, 28] [] [37] [10] u u := yf_refl
  unfold jb_Machine_doKind_139
  exact (yf_ite (yf_ite (yf_letS (yf_I hu (by decide)) fun _ h1 => (yf_some h1)) (yf_some hu)) (yf_letS (yf_I hu (by decide)) fun _ h2 => (yf_seq (yf_call h2 yf_fm_Values_pushTruth__h61 (by decide)) fun _ _ h3 => (yf_some h3))))
theorem yf_fm_Machine_isOf {x0 : Int32} {x1 : Int32} {u : xk_St} : yf_F [] [] [] [] u (fm_Machine_isOf x0 x1 u) := by
  have hu : yf_fr [] [] [] [] u u := yf_refl
  unfold fm_Machine_isOf
  exact (yf_ite (yf_some hu) (yf_ite (yf_ite (yf_some hu) (yf_some hu)) (yf_ite (yf_some hu) (yf_ite yf_none (yf_ite yf_none (yf_ite (yf_some hu) (yf_some hu)))))))
theorem yf_jb_Machine_doKind_108 {s0 : Int64} {u : xk_St} : yf_F [27, 28] [] [37] [10] u (jb_Machine_doKind_108 s0 u) := by
  have hu : yf_fr [27, 28] [] [37] [10] u u := yf_refl
  unfold jb_Machine_doKind_108
  exact (yf_seq (yf_call hu yf_fm_Values_push__h61 (by decide)) fun _ _ h1 => (yf_some h1))
theorem yf_jb_Machine_doKind_83 {b1 : Int32} {b3 : Int32} {u : xk_St} : yf_F [27, 28] [] [37] [10] u (jb_Machine_doKind_83 b1 b3 u) := by
  have hu : yf_fr [27, 28] [] [37] [10] u u := yf_refl
  unfold jb_Machine_doKind_83
  exact (yf_ite (yf_call hu yf_jb_Machine_doKind_108 (by decide)) (yf_call hu yf_jb_Machine_doKind_108 (by decide)))
theorem yf_fm_Machine_doKind {x0 : Int32} {x1 : Int32} {u : xk_St} : yf_F [27, 28] [] [37] [10] u (fm_Machine_doKind x0 x1 u) := by
  have hu : yf_fr [27, 28] [] [37] [10] u u := yf_refl
  unfold fm_Machine_doKind
  exact (yf_ite yf_none (yf_letV fun _ => (yf_ite (yf_letS (yf_I hu (by decide)) fun _ h1 => (yf_seq (yf_call h1 yf_fm_Values_pushReference__h61 (by decide)) fun _ _ h2 => (yf_some h2))) (yf_ite (yf_ite (yf_ite (yf_call hu yf_jb_Machine_doKind_139 (by decide)) (yf_call hu yf_jb_Machine_doKind_139 (by decide))) (yf_seq (yf_call hu yf_fm_Machine_isOf (by decide)) fun _ _ h3 => (yf_call h3 yf_jb_Machine_doKind_139 (by decide)))) (yf_letS (yf_I hu (by decide)) fun _ h4 => (yf_ite (yf_letS (yf_I h4 (by decide)) fun _ h5 => (yf_call h5 yf_jb_Machine_doKind_83 (by decide))) (yf_call h4 yf_jb_Machine_doKind_83 (by decide))))))))
theorem yf_fm_Values_push__h68 {x0 : Int64} {u : xk_St} : yf_F [32] [] [39] [12] u (fm_Values_push__h68 x0 u) := by
  have hu : yf_fr [32] [] [39] [12] u u := yf_refl
  unfold fm_Values_push__h68
  exact (yf_ite yf_none (yf_letS (yf_B hu (by decide)) fun _ h1 => (yf_ite yf_none (yf_letS (yf_A h1 (by decide)) fun _ h2 => (yf_letS (yf_I h2 (by decide)) fun _ h3 => (yf_some h3))))))
theorem yf_jb_Arrays_fill_AJIIJ__h69_10 {fu : Nat} : ∀ {n : Nat} {b2 : Int32} {b3 : Int64} {b5 : Int32} {u : xk_St}, yf_F [] [] [] [12] u (jb_Arrays_fill_AJIIJ__h69_10 fu n b2 b3 b5 u) := by
  intro n
  induction n with
  | zero => intros; exact yf_none
  | succ n ih =>
    intro b2 b3 b5 u
    have hu : yf_fr [] [] [] [12] u u := yf_refl
    unfold jb_Arrays_fill_AJIIJ__h69_10
    refine yf_let ?_
    exact (yf_ite (yf_some hu) (yf_ite yf_none (yf_letS (yf_B hu (by decide)) fun _ h1 => (yf_letV fun _ => (yf_call h1 ih (by decide))))))
theorem yf_fm_Arrays_fill_AJIIJ__h69 {fu : Nat} {x1 : Int32} {x2 : Int32} {x3 : Int64} {u : xk_St} : yf_F [] [] [] [12] u (fm_Arrays_fill_AJIIJ__h69 fu x1 x2 x3 u) := by
  have hu : yf_fr [] [] [] [12] u u := yf_refl
  unfold fm_Arrays_fill_AJIIJ__h69
  exact (yf_seq (yf_call hu yf_fm_Arrays_rangeCheck__h (by decide)) fun _ _ h1 => (yf_call h1 yf_jb_Arrays_fill_AJIIJ__h69_10 (by decide)))
theorem yf_jb_Values_pushZeros__h68_20 {fu : Nat} : ∀ {n : Nat} {b1 : Int32} {b2 : Int32} {u : xk_St}, yf_F [32] [] [39] [12] u (jb_Values_pushZeros__h68_20 fu n b1 b2 u) := by
  intro n
  induction n with
  | zero => intros; exact yf_none
  | succ n ih =>
    intro b1 b2 u
    have hu : yf_fr [32] [] [39] [12] u u := yf_refl
    unfold jb_Values_pushZeros__h68_20
    refine yf_let ?_
    exact (yf_ite (yf_letS (yf_I hu (by decide)) fun _ h1 => (yf_some h1)) (yf_ite yf_none (yf_letS (yf_A hu (by decide)) fun _ h2 => (yf_letV fun _ => (yf_call h2 ih (by decide))))))
theorem yf_fm_Values_pushZeros__h68 {fu : Nat} {x0 : Int32} {u : xk_St} : yf_F [32] [] [39] [12] u (fm_Values_pushZeros__h68 fu x0 u) := by
  have hu : yf_fr [32] [] [39] [12] u u := yf_refl
  unfold fm_Values_pushZeros__h68
  exact (yf_seq (yf_call hu yf_fm_Arrays_fill_AJIIJ__h69 (by decide)) fun _ _ h1 => (yf_call h1 yf_jb_Values_pushZeros__h68_20 (by decide)))
theorem yf_jb_Heap_make_41 {fu : Nat} {b1 : Int32} {b2 : Int64} {u : xk_St} : yf_F [30, 31, 32] [] [39, 40, 41, 42, 43, 44, 45] [12] u (jb_Heap_make_41 fu b1 b2 u) := by
  have hu : yf_fr [30, 31, 32] [] [39, 40, 41, 42, 43, 44, 45] [12] u u := yf_refl
  unfold jb_Heap_make_41
  exact (yf_letS (yf_I hu (by decide)) fun _ h1 => (yf_ite yf_none (yf_letV fun _ => (yf_ite yf_none (yf_letS (yf_A h1 (by decide)) fun _ h2 => (yf_ite yf_none (yf_letS (yf_A h2 (by decide)) fun _ h3 => (yf_ite yf_none (yf_letS (yf_A h3 (by decide)) fun _ h4 => (yf_seq (yf_call h4 yf_fm_Values_push__h68 (by decide)) fun _ _ h5 => (yf_seq (yf_call h5 yf_fm_Values_pushZeros__h68 (by decide)) fun _ _ h6 => (yf_some h6))))))))))))
theorem yf_jb_Heap_find_88 {fu : Nat} {k3 : Int32 → Int32 → xk_St → Option (Unit × xk_St)} {b3 : Int32} {b4 : Int32} {u : xk_St} (hk3 : ∀ c0 c1 v, yf_F [31] [] [43, 45] [] v (k3 c0 c1 v)) : yf_F [31] [] [43, 45] [] u (jb_Heap_find_88 fu k3 b3 b4 u) := by
  have hu : yf_fr [31] [] [43, 45] [] u u := yf_refl
  unfold jb_Heap_find_88
  exact (yf_letV fun _ => (yf_call hu (hk3 _ _ _) (by decide)))
theorem yf_jb_Heap_find_3 {fu : Nat} : ∀ {n : Nat} {b3 : Int32} {b4 : Int32} {u : xk_St}, yf_F [31] [] [43, 45] [] u (jb_Heap_find_3 fu n b3 b4 u) := by
  intro n
  induction n with
  | zero => intros; exact yf_none
  | succ n ih =>
    intro b3 b4 u
    have hu : yf_fr [31] [] [43, 45] [] u u := yf_refl
    unfold jb_Heap_find_3
    refine yf_let ?_
    exact (yf_ite (yf_some hu) (yf_ite yf_none (yf_ite (yf_call hu (yf_jb_Heap_find_88 (fun _ _ _ => ih)) (by decide)) (yf_ite yf_none (yf_ite (yf_call hu (yf_jb_Heap_find_88 (fun _ _ _ => ih)) (by decide)) (yf_ite yf_none (yf_ite yf_none (yf_ite (yf_ite yf_none (yf_ite yf_none (yf_letS (yf_A hu (by decide)) fun _ h1 => (yf_ite yf_none (yf_ite yf_none (yf_letS (yf_A h1 (by decide)) fun _ h2 => (yf_letS (yf_I h2 (by decide)) fun _ h3 => (yf_call h3 (yf_jb_Heap_find_88 (fun _ _ _ => ih)) (by decide))))))))) (yf_call hu (yf_jb_Heap_find_88 (fun _ _ _ => ih)) (by decide))))))))))
theorem yf_fm_Heap_find {fu : Nat} {x1 : Int32} {x2 : Int32} {u : xk_St} : yf_F [31] [] [43, 45] [] u (fm_Heap_find fu x1 x2 u) := by
  have hu : yf_fr [31] [] [43, 45] [] u u := yf_refl
  unfold fm_Heap_find
  exact (yf_call hu yf_jb_Heap_find_3 (by decide))
theorem yf_jb_Heap_find__h67_64_88 {fu : Nat} {k3 : Int32 → Int32 → xk_St → Option (Unit × xk_St)} {b3 : Int32} {b4 : Int32} {u : xk_St} (hk3 : ∀ c0 c1 v, yf_F [31] [] [43, 45] [] v (k3 c0 c1 v)) : yf_F [31] [] [43, 45] [] u (jb_Heap_find__h67_64_88 fu k3 b3 b4 u) := by
  have hu : yf_fr [31] [] [43, 45] [] u u := yf_refl
  unfold jb_Heap_find__h67_64_88
  exact (yf_letV fun _ => (yf_call hu (hk3 _ _ _) (by decide)))
theorem yf_jb_Heap_find__h67_64_3 {fu : Nat} : ∀ {n : Nat} {b3 : Int32} {b4 : Int32} {u : xk_St}, yf_F [31] [] [43, 45] [] u (jb_Heap_find__h67_64_3 fu n b3 b4 u) := by
  intro n
  induction n with
  | zero => intros; exact yf_none
  | succ n ih =>
    intro b3 b4 u
    have hu : yf_fr [31] [] [43, 45] [] u u := yf_refl
    unfold jb_Heap_find__h67_64_3
    refine yf_let ?_
    exact (yf_ite (yf_some hu) (yf_ite yf_none (yf_ite (yf_call hu (yf_jb_Heap_find__h67_64_88 (fun _ _ _ => ih)) (by decide)) (yf_ite yf_none (yf_ite (yf_call hu (yf_jb_Heap_find__h67_64_88 (fun _ _ _ => ih)) (by decide)) (yf_ite yf_none (yf_ite yf_none (yf_ite (yf_ite yf_none (yf_ite yf_none (yf_letS (yf_A hu (by decide)) fun _ h1 => (yf_ite yf_none (yf_ite yf_none (yf_letS (yf_A h1 (by decide)) fun _ h2 => (yf_letS (yf_I h2 (by decide)) fun _ h3 => (yf_call h3 (yf_jb_Heap_find__h67_64_88 (fun _ _ _ => ih)) (by decide))))))))) (yf_call hu (yf_jb_Heap_find__h67_64_88 (fun _ _ _ => ih)) (by decide))))))))))
theorem yf_fm_Heap_find__h67_64 {fu : Nat} {x1 : Int32} {x2 : Int32} {u : xk_St} : yf_F [31] [] [43, 45] [] u (fm_Heap_find__h67_64 fu x1 x2 u) := by
  have hu : yf_fr [31] [] [43, 45] [] u u := yf_refl
  unfold fm_Heap_find__h67_64
  exact (yf_call hu yf_jb_Heap_find__h67_64_3 (by decide))
theorem yf_jb_Heap_moveTogether_129 {fu : Nat} {k4 : Int32 → Int32 → xk_St → Option (Unit × xk_St)} {b1 : Int32} {b2 : Int32} {b4 : Int32} {u : xk_St} (hk4 : ∀ c0 c1 v, yf_F [30, 32] [] [39, 42, 43, 44] [12] v (k4 c0 c1 v)) : yf_F [30, 32] [] [39, 42, 43, 44] [12] u (jb_Heap_moveTogether_129 fu k4 b1 b2 b4 u) := by
  have hu : yf_fr [30, 32] [] [39, 42, 43, 44] [12] u u := yf_refl
  unfold jb_Heap_moveTogether_129
  exact (yf_letV fun _ => (yf_call hu (hk4 _ _ _) (by decide)))
theorem yf_jb_Heap_moveTogether_4 {fu : Nat} : ∀ {n : Nat} {b1 : Int32} {b2 : Int32} {u : xk_St}, yf_F [30, 32] [] [39, 42, 43, 44] [12] u (jb_Heap_moveTogether_4 fu n b1 b2 u) := by
  intro n
  induction n with
  | zero => intros; exact yf_none
  | succ n ih =>
    intro b1 b2 u
    have hu : yf_fr [30, 32] [] [39, 42, 43, 44] [12] u u := yf_refl
    unfold jb_Heap_moveTogether_4
    refine yf_let ?_
    exact (yf_ite (yf_letS (yf_I hu (by decide)) fun _ h1 => (yf_some h1)) (yf_ite yf_none (yf_letV fun _ => (yf_ite yf_none (yf_letV fun _ => (yf_ite yf_none (yf_ite (yf_ite yf_none (yf_letS (yf_A hu (by decide)) fun _ h2 => (yf_letS (yf_I h2 (by decide)) fun _ h3 => (yf_call h3 (yf_jb_Heap_moveTogether_129 (fun _ _ _ => ih)) (by decide))))) (yf_ite yf_none (yf_letS (yf_A hu (by decide)) fun _ h4 => (yf_ite yf_none (yf_letS (yf_A h4 (by decide)) fun _ h5 => (yf_ite yf_none (yf_letS (yf_BB h5 (by decide)) fun _ h6 => (yf_ite yf_none (yf_if (yf_letS (yf_AA h6 (by decide)) fun _ h7 => (yf_letV fun _ => (yf_call h7 (yf_jb_Heap_moveTogether_129 (fun _ _ _ => ih)) (by decide)))))))))))))))))))
theorem yf_fm_Heap_moveTogether {fu : Nat} {u : xk_St} : yf_F [30, 32] [] [39, 42, 43, 44] [12] u (fm_Heap_moveTogether fu u) := by
  have hu : yf_fr [30, 32] [] [39, 42, 43, 44] [12] u u := yf_refl
  unfold fm_Heap_moveTogether
  exact (yf_call hu yf_jb_Heap_moveTogether_4 (by decide))
theorem yf_jb_Heap_collect_84 {fu : Nat} {u : xk_St} : yf_F [30, 31, 32] [] [39, 42, 43, 44, 45] [12] u (jb_Heap_collect_84 fu u) := by
  have hu : yf_fr [30, 31, 32] [] [39, 42, 43, 44, 45] [12] u u := yf_refl
  unfold jb_Heap_collect_84
  exact (yf_seq (yf_call hu yf_fm_Heap_moveTogether (by decide)) fun _ _ h1 => (yf_some h1))
theorem yf_fm_Heap_cellOf {x0 : Int32} {x1 : Int32} {u : xk_St} : yf_F [] [] [] [] u (fm_Heap_cellOf x0 x1 u) := by
  have hu : yf_fr [] [] [] [] u u := yf_refl
  unfold fm_Heap_cellOf
  exact (yf_ite yf_none (yf_some hu))
theorem yf_jb_Heap_find__h67_68_88 {fu : Nat} {k3 : Int32 → Int32 → xk_St → Option (Unit × xk_St)} {b3 : Int32} {b4 : Int32} {u : xk_St} (hk3 : ∀ c0 c1 v, yf_F [31] [] [43, 45] [] v (k3 c0 c1 v)) : yf_F [31] [] [43, 45] [] u (jb_Heap_find__h67_68_88 fu k3 b3 b4 u) := by
  have hu : yf_fr [31] [] [43, 45] [] u u := yf_refl
  unfold jb_Heap_find__h67_68_88
  exact (yf_letV fun _ => (yf_call hu (hk3 _ _ _) (by decide)))
theorem yf_jb_Heap_find__h67_68_3 {fu : Nat} : ∀ {n : Nat} {b3 : Int32} {b4 : Int32} {u : xk_St}, yf_F [31] [] [43, 45] [] u (jb_Heap_find__h67_68_3 fu n b3 b4 u) := by
  intro n
  induction n with
  | zero => intros; exact yf_none
  | succ n ih =>
    intro b3 b4 u
    have hu : yf_fr [31] [] [43, 45] [] u u := yf_refl
    unfold jb_Heap_find__h67_68_3
    refine yf_let ?_
    exact (yf_ite (yf_some hu) (yf_ite yf_none (yf_ite (yf_call hu (yf_jb_Heap_find__h67_68_88 (fun _ _ _ => ih)) (by decide)) (yf_ite yf_none (yf_ite (yf_call hu (yf_jb_Heap_find__h67_68_88 (fun _ _ _ => ih)) (by decide)) (yf_ite yf_none (yf_ite yf_none (yf_ite (yf_ite yf_none (yf_ite yf_none (yf_letS (yf_A hu (by decide)) fun _ h1 => (yf_ite yf_none (yf_ite yf_none (yf_letS (yf_A h1 (by decide)) fun _ h2 => (yf_letS (yf_I h2 (by decide)) fun _ h3 => (yf_call h3 (yf_jb_Heap_find__h67_68_88 (fun _ _ _ => ih)) (by decide))))))))) (yf_call hu (yf_jb_Heap_find__h67_68_88 (fun _ _ _ => ih)) (by decide))))))))))
theorem yf_fm_Heap_find__h67_68 {fu : Nat} {x1 : Int32} {x2 : Int32} {u : xk_St} : yf_F [31] [] [43, 45] [] u (fm_Heap_find__h67_68 fu x1 x2 u) := by
  have hu : yf_fr [31] [] [43, 45] [] u u := yf_refl
  unfold fm_Heap_find__h67_68
  exact (yf_call hu yf_jb_Heap_find__h67_68_3 (by decide))
theorem yf_jb_Heap_collect_27 {fu : Nat} : ∀ {n : Nat} {b3 : Int32} {u : xk_St}, yf_F [30, 31, 32] [] [39, 42, 43, 44, 45] [12] u (jb_Heap_collect_27 fu n b3 u) := by
  intro n
  induction n with
  | zero => intros; exact yf_none
  | succ n ih =>
    intro b3 u
    have hu : yf_fr [30, 31, 32] [] [39, 42, 43, 44, 45] [12] u u := yf_refl
    unfold jb_Heap_collect_27
    refine yf_let ?_
    exact (yf_ite (yf_call hu yf_jb_Heap_collect_84 (by decide)) (yf_ite (yf_call hu yf_jb_Heap_collect_84 (by decide)) (yf_ite yf_none (yf_letV fun _ => (yf_seq (yf_call hu yf_fm_Heap_cellOf (by decide)) fun _ _ h1 => (yf_ite yf_none (yf_seq (yf_call h1 yf_fm_Heap_cellOf (by decide)) fun _ _ h2 => (yf_seq (yf_call h2 yf_fm_Heap_find__h67_68 (by decide)) fun _ _ h3 => (yf_letV fun _ => (yf_call h3 ih (by decide)))))))))))
theorem yf_fm_Heap_collect {fu : Nat} {u : xk_St} : yf_F [30, 31, 32] [] [39, 42, 43, 44, 45] [12] u (fm_Heap_collect fu u) := by
  have hu : yf_fr [30, 31, 32] [] [39, 42, 43, 44, 45] [12] u u := yf_refl
  unfold fm_Heap_collect
  exact (yf_letS (yf_I hu (by decide)) fun _ h1 => (yf_seq (yf_call h1 yf_fm_Heap_find (by decide)) fun _ _ h2 => (yf_seq (yf_call h2 yf_fm_Heap_find__h67_64 (by decide)) fun _ _ h3 => (yf_call h3 yf_jb_Heap_collect_27 (by decide)))))
theorem yf_fm_Heap_make {fu : Nat} {x0 : Int32} {x1 : Int64} {u : xk_St} : yf_F [30, 31, 32] [] [39, 40, 41, 42, 43, 44, 45] [12] u (fm_Heap_make fu x0 x1 u) := by
  have hu : yf_fr [30, 31, 32] [] [39, 40, 41, 42, 43, 44, 45] [12] u u := yf_refl
  unfold fm_Heap_make
  exact (yf_ite (yf_call hu yf_jb_Heap_make_41 (by decide)) (yf_seq (yf_call hu yf_fm_Heap_collect (by decide)) fun _ _ h1 => (yf_ite (yf_call h1 yf_jb_Heap_make_41 (by decide)) (yf_some h1))))
theorem yf_jb_Machine_makeArray_139 {fu : Nat} {b5 : Int32} {u : xk_St} : yf_F [27, 28, 30, 31, 32] [] [37, 39, 40, 41, 42, 43, 44, 45] [10, 12] u (jb_Machine_makeArray_139 fu b5 u) := by
  have hu : yf_fr [27, 28, 30, 31, 32] [] [37, 39, 40, 41, 42, 43, 44, 45] [10, 12] u u := yf_refl
  unfold jb_Machine_makeArray_139
  exact (yf_seq (yf_call hu yf_fm_Values_pushReference__h61 (by decide)) fun _ _ h1 => (yf_some h1))
theorem yf_fm_Values_copy__h68_61 {x1 : Int32} {x2 : Int32} {u : xk_St} : yf_F [] [] [39] [12] u (fm_Values_copy__h68_61 x1 x2 u) := by
  have hu : yf_fr [] [] [39] [12] u u := yf_refl
  unfold fm_Values_copy__h68_61
  exact (yf_ite yf_none (yf_ite yf_none (yf_letS (yf_B hu (by decide)) fun _ h1 => (yf_ite yf_none (yf_ite yf_none (yf_letS (yf_A h1 (by decide)) fun _ h2 => (yf_some h2)))))))
theorem yf_fm_Machine_setCell {x0 : Int32} {x1 : Int32} {x2 : Int32} {u : xk_St} : yf_F [] [] [39] [12] u (fm_Machine_setCell x0 x1 x2 u) := by
  have hu : yf_fr [] [] [39] [12] u u := yf_refl
  unfold fm_Machine_setCell
  exact (yf_seq (yf_call hu yf_fm_Values_copy__h68_61 (by decide)) fun _ _ h1 => (yf_ite (yf_ite yf_none (yf_ite yf_none (yf_letS (yf_B h1 (by decide)) fun _ h2 => (yf_some h2)))) (yf_ite (yf_ite yf_none (yf_ite yf_none (yf_letS (yf_B h1 (by decide)) fun _ h3 => (yf_some h3)))) (yf_some h1))))
theorem yf_jb_Machine_makeArray_94 {fu : Nat} : ∀ {n : Nat} {b1 : Int32} {b3 : Int64} {b5 : Int32} {b6 : Int32} {u : xk_St}, yf_F [27, 28, 30, 31, 32] [] [37, 39, 40, 41, 42, 43, 44, 45] [10, 12] u (jb_Machine_makeArray_94 fu n b1 b3 b5 b6 u) := by
  intro n
  induction n with
  | zero => intros; exact yf_none
  | succ n ih =>
    intro b1 b3 b5 b6 u
    have hu : yf_fr [27, 28, 30, 31, 32] [] [37, 39, 40, 41, 42, 43, 44, 45] [10, 12] u u := yf_refl
    unfold jb_Machine_makeArray_94
    refine yf_let ?_
    exact (yf_ite (yf_call hu yf_jb_Machine_makeArray_139 (by decide)) (yf_seq (yf_call hu yf_fm_Heap_cellOf (by decide)) fun _ _ h1 => (yf_seq (yf_call h1 yf_fm_Types_member (by decide)) fun _ _ h2 => (yf_seq (yf_call h2 yf_fm_Machine_setCell (by decide)) fun _ _ h3 => (yf_letV fun _ => (yf_call h3 ih (by decide)))))))
theorem yf_fm_Machine_makeArray {fu : Nat} {x0 : Int32} {x1 : Int32} {u : xk_St} : yf_F [27, 28, 30, 31, 32] [] [37, 39, 40, 41, 42, 43, 44, 45] [10, 12] u (fm_Machine_makeArray fu x0 x1 u) := by
  have hu : yf_fr [27, 28, 30, 31, 32] [] [37, 39, 40, 41, 42, 43, 44, 45] [10, 12] u u := yf_refl
  unfold fm_Machine_makeArray
  exact (yf_ite yf_none (yf_letV fun _ => (yf_ite yf_none (yf_seq (yf_call hu yf_fm_Heap_make (by decide)) fun _ _ h1 => (yf_ite (yf_letS (yf_I h1 (by decide)) fun _ h2 => (yf_some h2)) (yf_letS (yf_I h1 (by decide)) fun _ h3 => (yf_ite (yf_call h3 yf_jb_Machine_makeArray_139 (by decide)) (yf_letS (yf_I h3 (by decide)) fun _ h4 => (yf_call h4 yf_jb_Machine_makeArray_94 (by decide))))))))))
theorem yf_jb_Machine_doArray_73 {fu : Nat} {s0 : Int32} {s1 : Int32} {u : xk_St} : yf_F [27, 28, 30, 31, 32] [] [37, 39, 40, 41, 42, 43, 44, 45] [10, 12] u (jb_Machine_doArray_73 fu s0 s1 u) := by
  have hu : yf_fr [27, 28, 30, 31, 32] [] [37, 39, 40, 41, 42, 43, 44, 45] [10, 12] u u := yf_refl
  unfold jb_Machine_doArray_73
  exact (yf_seq (yf_call hu yf_fm_Machine_makeArray (by decide)) fun _ _ h1 => (yf_some h1))
theorem yf_jb_Machine_doArray_60 {fu : Nat} {b1 : Int32} {b2 : Int32} {u : xk_St} : yf_F [27, 28, 30, 31, 32] [] [37, 39, 40, 41, 42, 43, 44, 45] [10, 12] u (jb_Machine_doArray_60 fu b1 b2 u) := by
  have hu : yf_fr [27, 28, 30, 31, 32] [] [37, 39, 40, 41, 42, 43, 44, 45] [10, 12] u u := yf_refl
  unfold jb_Machine_doArray_60
  exact (yf_ite (yf_call hu yf_jb_Machine_doArray_73 (by decide)) (yf_call hu yf_jb_Machine_doArray_73 (by decide)))
theorem yf_jb_Machine_makeArrayOf_54 {fu : Nat} : ∀ {n : Nat} {b1 : Int32} {b2 : Int32} {b3 : Int32} {b4 : Int32} {u : xk_St}, yf_F [27, 28, 30, 31, 32] [] [37, 39, 40, 41, 42, 43, 44, 45] [10, 12] u (jb_Machine_makeArrayOf_54 fu n b1 b2 b3 b4 u) := by
  intro n
  induction n with
  | zero => intros; exact yf_none
  | succ n ih =>
    intro b1 b2 b3 b4 u
    have hu : yf_fr [27, 28, 30, 31, 32] [] [37, 39, 40, 41, 42, 43, 44, 45] [10, 12] u u := yf_refl
    unfold jb_Machine_makeArrayOf_54
    refine yf_let ?_
    exact (yf_ite (yf_seq (yf_call hu yf_fm_Values_pushReference__h61 (by decide)) fun _ _ h1 => (yf_some h1)) (yf_seq (yf_call hu yf_fm_Heap_cellOf (by decide)) fun _ _ h2 => (yf_seq (yf_call h2 yf_fm_Types_member (by decide)) fun _ _ h3 => (yf_seq (yf_call h3 yf_fm_Machine_setCell (by decide)) fun _ _ h4 => (yf_letV fun _ => (yf_call h4 ih (by decide)))))))
theorem yf_fm_Machine_makeArrayOf {fu : Nat} {x0 : Int32} {x1 : Int32} {u : xk_St} : yf_F [27, 28, 30, 31, 32] [] [37, 39, 40, 41, 42, 43, 44, 45] [10, 12] u (fm_Machine_makeArrayOf fu x0 x1 u) := by
  have hu : yf_fr [27, 28, 30, 31, 32] [] [37, 39, 40, 41, 42, 43, 44, 45] [10, 12] u u := yf_refl
  unfold fm_Machine_makeArrayOf
  exact (yf_ite yf_none (yf_seq (yf_call hu yf_fm_Heap_make (by decide)) fun _ _ h1 => (yf_ite (yf_letS (yf_I h1 (by decide)) fun _ h2 => (yf_some h2)) (yf_letS (yf_I h1 (by decide)) fun _ h3 => (yf_call h3 yf_jb_Machine_makeArrayOf_54 (by decide))))))
theorem yf_jb_Machine_hasElements_64 {u : xk_St} : yf_F [27] [] [] [] u (jb_Machine_hasElements_64 u) := by
  have hu : yf_fr [27] [] [] [] u u := yf_refl
  unfold jb_Machine_hasElements_64
  exact (yf_ite (yf_some hu) (yf_some hu))
theorem yf_fm_Machine_hasElements {x0 : Int32} {x1 : Int64} {u : xk_St} : yf_F [27] [] [] [] u (fm_Machine_hasElements x0 x1 u) := by
  have hu : yf_fr [27] [] [] [] u u := yf_refl
  unfold fm_Machine_hasElements
  exact (yf_ite yf_none (yf_letV fun _ => (yf_ite (yf_letS (yf_I hu (by decide)) fun _ h1 => (yf_call h1 yf_jb_Machine_hasElements_64 (by decide))) (yf_ite yf_none (yf_ite yf_none (yf_ite (yf_call hu yf_jb_Machine_hasElements_64 (by decide)) (yf_letS (yf_I hu (by decide)) fun _ h2 => (yf_call h2 yf_jb_Machine_hasElements_64 (by decide)))))))))
theorem yf_fm_Values_copy__h61_68 {x1 : Int32} {x2 : Int32} {u : xk_St} : yf_F [] [] [37] [10] u (fm_Values_copy__h61_68 x1 x2 u) := by
  have hu : yf_fr [] [] [37] [10] u u := yf_refl
  unfold fm_Values_copy__h61_68
  exact (yf_ite yf_none (yf_ite yf_none (yf_letS (yf_B hu (by decide)) fun _ h1 => (yf_ite yf_none (yf_ite yf_none (yf_letS (yf_A h1 (by decide)) fun _ h2 => (yf_some h2)))))))
theorem yf_fm_Values_pushFrom__h61_68 {x1 : Int32} {u : xk_St} : yf_F [28] [] [37] [10] u (fm_Values_pushFrom__h61_68 x1 u) := by
  have hu : yf_fr [28] [] [37] [10] u u := yf_refl
  unfold fm_Values_pushFrom__h61_68
  exact (yf_seq (yf_call hu yf_fm_Values_copy__h61_68 (by decide)) fun _ _ h1 => (yf_letS (yf_I h1 (by decide)) fun _ h2 => (yf_some h2)))
theorem yf_fm_Values_pop__h61 {u : xk_St} : yf_F [28] [] [] [] u (fm_Values_pop__h61 u) := by
  have hu : yf_fr [28] [] [] [] u u := yf_refl
  unfold fm_Values_pop__h61
  exact (yf_letS (yf_I hu (by decide)) fun _ h1 => (yf_ite yf_none (yf_some h1)))
theorem yf_fm_Numbers_signed {x0 : Int64} {x1 : Int32} {u : xk_St} : yf_F [] [] [] [] u (fm_Numbers_signed x0 x1 u) := by
  have hu : yf_fr [] [] [] [] u u := yf_refl
  unfold fm_Numbers_signed
  exact (yf_some hu)
theorem yf_jb_Machine_pushCell_42 {s0 : Int32} {s1 : Int64} {u : xk_St} : yf_F [28] [] [37] [10] u (jb_Machine_pushCell_42 s0 s1 u) := by
  have hu : yf_fr [28] [] [37] [10] u u := yf_refl
  unfold jb_Machine_pushCell_42
  exact (yf_seq (yf_call hu yf_fm_Numbers_signed (by decide)) fun _ _ h1 => (yf_seq (yf_call h1 yf_fm_Values_push__h61 (by decide)) fun _ _ h2 => (yf_some h2)))
theorem yf_fm_Machine_pushCell {x0 : Int32} {x1 : Int32} {x2 : Int32} {u : xk_St} : yf_F [28] [] [37] [10] u (fm_Machine_pushCell x0 x1 x2 u) := by
  have hu : yf_fr [28] [] [37] [10] u u := yf_refl
  unfold fm_Machine_pushCell
  exact (yf_seq (yf_call hu yf_fm_Values_pushFrom__h61_68 (by decide)) fun _ _ h1 => (yf_ite (yf_some h1) (yf_seq (yf_call h1 yf_fm_Values_pop__h61 (by decide)) fun _ _ h2 => (yf_ite (yf_call h2 yf_jb_Machine_pushCell_42 (by decide)) (yf_call h2 yf_jb_Machine_pushCell_42 (by decide))))))
theorem yf_fm_Machine_pushElement {x0 : Int32} {x1 : Int32} {u : xk_St} : yf_F [27, 28] [] [37] [10] u (fm_Machine_pushElement x0 x1 u) := by
  have hu : yf_fr [27, 28] [] [37] [10] u u := yf_refl
  unfold fm_Machine_pushElement
  exact (yf_letV fun _ => (yf_seq (yf_call hu yf_fm_Machine_hasElements (by decide)) fun _ _ h1 => (yf_ite (yf_some h1) (yf_ite yf_none (yf_ite yf_none (yf_seq (yf_call h1 yf_fm_Heap_cellOf (by decide)) fun _ _ h2 => (yf_letS (yf_I h2 (by decide)) fun _ h3 => (yf_seq (yf_call h3 yf_fm_Types_member (by decide)) fun _ _ h4 => (yf_seq (yf_call h4 yf_fm_Machine_pushCell (by decide)) fun _ _ h5 => (yf_some h5))))))))))
theorem yf_jb_Machine_doArray_202 {fu : Nat} {s0 : Int32} {s1 : Int32} {u : xk_St} : yf_F [27, 28, 30, 31, 32] [] [37, 39, 40, 41, 42, 43, 44, 45] [10, 12] u (jb_Machine_doArray_202 fu s0 s1 u) := by
  have hu : yf_fr [27, 28, 30, 31, 32] [] [37, 39, 40, 41, 42, 43, 44, 45] [10, 12] u u := yf_refl
  unfold jb_Machine_doArray_202
  exact (yf_seq (yf_call hu yf_fm_Machine_pushElement (by decide)) fun _ _ h1 => (yf_some h1))
theorem yf_jb_Machine_doArray_189 {fu : Nat} {b1 : Int32} {b2 : Int32} {u : xk_St} : yf_F [27, 28, 30, 31, 32] [] [37, 39, 40, 41, 42, 43, 44, 45] [10, 12] u (jb_Machine_doArray_189 fu b1 b2 u) := by
  have hu : yf_fr [27, 28, 30, 31, 32] [] [37, 39, 40, 41, 42, 43, 44, 45] [10, 12] u u := yf_refl
  unfold jb_Machine_doArray_189
  exact (yf_ite (yf_call hu yf_jb_Machine_doArray_202 (by decide)) (yf_call hu yf_jb_Machine_doArray_202 (by decide)))
theorem yf_jb_Machine_setElements_43 {fu : Nat} : ∀ {n : Nat} {b1 : Int32} {b2 : Int32} {b3 : Int64} {b5 : Int32} {b6 : Int32} {u : xk_St}, yf_F [27, 28] [] [39] [12] u (jb_Machine_setElements_43 fu n b1 b2 b3 b5 b6 u) := by
  intro n
  induction n with
  | zero => intros; exact yf_none
  | succ n ih =>
    intro b1 b2 b3 b5 b6 u
    have hu : yf_fr [27, 28] [] [39] [12] u u := yf_refl
    unfold jb_Machine_setElements_43
    refine yf_let ?_
    exact (yf_ite (yf_letS (yf_I hu (by decide)) fun _ h1 => (yf_some h1)) (yf_seq (yf_call hu yf_fm_Types_member (by decide)) fun _ _ h2 => (yf_seq (yf_call h2 yf_fm_Machine_setCell (by decide)) fun _ _ h3 => (yf_letV fun _ => (yf_call h3 ih (by decide))))))
theorem yf_fm_Machine_setElements {fu : Nat} {x0 : Int32} {x1 : Int32} {x2 : Int64} {u : xk_St} : yf_F [27, 28] [] [39] [12] u (fm_Machine_setElements fu x0 x1 x2 u) := by
  have hu : yf_fr [27, 28] [] [39] [12] u u := yf_refl
  unfold fm_Machine_setElements
  exact (yf_seq (yf_call hu yf_fm_Machine_hasElements (by decide)) fun _ _ h1 => (yf_ite (yf_letS (yf_I h1 (by decide)) fun _ h2 => (yf_some h2)) (yf_ite yf_none (yf_ite yf_none (yf_seq (yf_call h1 yf_fm_Heap_cellOf (by decide)) fun _ _ h3 => (yf_call h3 yf_jb_Machine_setElements_43 (by decide)))))))
theorem yf_jb_Machine_doArray_130 {fu : Nat} {u : xk_St} : yf_F [27, 28, 30, 31, 32] [] [37, 39, 40, 41, 42, 43, 44, 45] [10, 12] u (jb_Machine_doArray_130 fu u) := by
  have hu : yf_fr [27, 28, 30, 31, 32] [] [37, 39, 40, 41, 42, 43, 44, 45] [10, 12] u u := yf_refl
  unfold jb_Machine_doArray_130
  exact (yf_some hu)
theorem yf_fm_Machine_doArray {fu : Nat} {x0 : Int32} {x1 : Int32} {x2 : Int32} {u : xk_St} : yf_F [27, 28, 30, 31, 32] [] [37, 39, 40, 41, 42, 43, 44, 45] [10, 12] u (fm_Machine_doArray fu x0 x1 x2 u) := by
  have hu : yf_fr [27, 28, 30, 31, 32] [] [37, 39, 40, 41, 42, 43, 44, 45] [10, 12] u u := yf_refl
  unfold fm_Machine_doArray
  exact (yf_ite (yf_call hu yf_jb_Machine_doArray_60 (by decide)) (yf_ite (yf_call hu yf_jb_Machine_doArray_60 (by decide)) (yf_ite (yf_seq (yf_call hu yf_fm_Machine_makeArrayOf (by decide)) fun _ _ h1 => (yf_some h1)) (yf_ite (yf_call hu yf_jb_Machine_doArray_189 (by decide)) (yf_ite (yf_call hu yf_jb_Machine_doArray_189 (by decide)) (yf_ite (yf_call hu yf_jb_Machine_doArray_189 (by decide)) (yf_ite (yf_call hu yf_jb_Machine_doArray_189 (by decide)) (yf_ite (yf_call hu yf_jb_Machine_doArray_189 (by decide)) (yf_ite (yf_seq (yf_call hu yf_fm_Machine_setElements (by decide)) fun _ _ h2 => (yf_some h2)) (yf_ite (yf_seq (yf_call hu yf_fm_Values_pop__h61 (by decide)) fun _ _ h3 => (yf_letV fun _ => (yf_ite (yf_letS (yf_I h3 (by decide)) fun _ h4 => (yf_call h4 yf_jb_Machine_doArray_130 (by decide))) (yf_ite yf_none (yf_seq (yf_call h3 yf_fm_Values_push__h61 (by decide)) fun _ _ h5 => (yf_call h5 yf_jb_Machine_doArray_130 (by decide))))))) (yf_ite (yf_ite yf_none (yf_seq (yf_call hu yf_fm_Machine_setElements (by decide)) fun _ _ h6 => (yf_some h6))) (yf_call hu yf_jb_Machine_doArray_189 (by decide)))))))))))))
theorem yf_jb_Machine_doStructure_151 {fu : Nat} {s0 : Int32} {s1 : Int32} {s2 : Int32} {u : xk_St} : yf_F [27, 28, 30, 31, 32] [] [37, 39, 40, 41, 42, 43, 44, 45] [10, 12] u (jb_Machine_doStructure_151 fu s0 s1 s2 u) := by
  have hu : yf_fr [27, 28, 30, 31, 32] [] [37, 39, 40, 41, 42, 43, 44, 45] [10, 12] u u := yf_refl
  unfold jb_Machine_doStructure_151
  exact (yf_seq (yf_call hu yf_fm_Machine_pushCell (by decide)) fun _ _ h1 => (yf_some h1))
theorem yf_jb_Machine_doStructure_122 {fu : Nat} {b1 : Int32} {b4 : Int32} {b6 : Int32} {b7 : Int32} {u : xk_St} : yf_F [27, 28, 30, 31, 32] [] [37, 39, 40, 41, 42, 43, 44, 45] [10, 12] u (jb_Machine_doStructure_122 fu b1 b4 b6 b7 u) := by
  have hu : yf_fr [27, 28, 30, 31, 32] [] [37, 39, 40, 41, 42, 43, 44, 45] [10, 12] u u := yf_refl
  unfold jb_Machine_doStructure_122
  exact (yf_letS (yf_I hu (by decide)) fun _ h1 => (yf_ite (yf_some h1) (yf_ite (yf_call h1 yf_jb_Machine_doStructure_151 (by decide)) (yf_call h1 yf_jb_Machine_doStructure_151 (by decide)))))
theorem yf_jb_Machine_doStructure_55 {fu : Nat} {b1 : Int32} {b2 : Int32} {b3 : Int32} {s0 : Int32} {u : xk_St} : yf_F [27, 28, 30, 31, 32] [] [37, 39, 40, 41, 42, 43, 44, 45] [10, 12] u (jb_Machine_doStructure_55 fu b1 b2 b3 s0 u) := by
  have hu : yf_fr [27, 28, 30, 31, 32] [] [37, 39, 40, 41, 42, 43, 44, 45] [10, 12] u u := yf_refl
  unfold jb_Machine_doStructure_55
  exact (yf_ite yf_none (yf_letV fun _ => (yf_ite (yf_letS (yf_I hu (by decide)) fun _ h1 => (yf_some h1)) (yf_seq (yf_call hu yf_fm_Heap_cellOf (by decide)) fun _ _ h2 => (yf_seq (yf_call h2 yf_fm_Types_member (by decide)) fun _ _ h3 => (yf_ite (yf_seq (yf_call h3 yf_fm_Machine_setCell (by decide)) fun _ _ h4 => (yf_call h4 yf_jb_Machine_doStructure_122 (by decide))) (yf_call h3 yf_jb_Machine_doStructure_122 (by decide))))))))
theorem yf_jb_Machine_makeStructure_107 {fu : Nat} {b4 : Int32} {u : xk_St} : yf_F [27, 28, 30, 31, 32] [] [37, 39, 40, 41, 42, 43, 44, 45] [10, 12] u (jb_Machine_makeStructure_107 fu b4 u) := by
  have hu : yf_fr [27, 28, 30, 31, 32] [] [37, 39, 40, 41, 42, 43, 44, 45] [10, 12] u u := yf_refl
  unfold jb_Machine_makeStructure_107
  exact (yf_seq (yf_call hu yf_fm_Values_pushReference__h61 (by decide)) fun _ _ h1 => (yf_some h1))
theorem yf_jb_Machine_makeStructure_60 {fu : Nat} : ∀ {n : Nat} {b1 : Int32} {b2 : Int32} {b4 : Int32} {b5 : Int32} {u : xk_St}, yf_F [27, 28, 30, 31, 32] [] [37, 39, 40, 41, 42, 43, 44, 45] [10, 12] u (jb_Machine_makeStructure_60 fu n b1 b2 b4 b5 u) := by
  intro n
  induction n with
  | zero => intros; exact yf_none
  | succ n ih =>
    intro b1 b2 b4 b5 u
    have hu : yf_fr [27, 28, 30, 31, 32] [] [37, 39, 40, 41, 42, 43, 44, 45] [10, 12] u u := yf_refl
    unfold jb_Machine_makeStructure_60
    refine yf_let ?_
    exact (yf_ite (yf_call hu yf_jb_Machine_makeStructure_107 (by decide)) (yf_seq (yf_call hu yf_fm_Heap_cellOf (by decide)) fun _ _ h1 => (yf_seq (yf_call h1 yf_fm_Types_member (by decide)) fun _ _ h2 => (yf_seq (yf_call h2 yf_fm_Machine_setCell (by decide)) fun _ _ h3 => (yf_letV fun _ => (yf_call h3 ih (by decide)))))))
theorem yf_fm_Machine_makeStructure {fu : Nat} {x0 : Int32} {x1 : Int32} {x2 : Int32} {u : xk_St} : yf_F [27, 28, 30, 31, 32] [] [37, 39, 40, 41, 42, 43, 44, 45] [10, 12] u (fm_Machine_makeStructure fu x0 x1 x2 u) := by
  have hu : yf_fr [27, 28, 30, 31, 32] [] [37, 39, 40, 41, 42, 43, 44, 45] [10, 12] u u := yf_refl
  unfold fm_Machine_makeStructure
  exact (yf_ite yf_none (yf_seq (yf_call hu yf_fm_Heap_make (by decide)) fun _ _ h1 => (yf_ite (yf_letS (yf_I h1 (by decide)) fun _ h2 => (yf_some h2)) (yf_ite (yf_call h1 yf_jb_Machine_makeStructure_107 (by decide)) (yf_letS (yf_I h1 (by decide)) fun _ h3 => (yf_call h3 yf_jb_Machine_makeStructure_60 (by decide)))))))
theorem yf_jb_Machine_doStructure_25 {fu : Nat} {s0 : Int32} {s1 : Int32} {s2 : Int32} {u : xk_St} : yf_F [27, 28, 30, 31, 32] [] [37, 39, 40, 41, 42, 43, 44, 45] [10, 12] u (jb_Machine_doStructure_25 fu s0 s1 s2 u) := by
  have hu : yf_fr [27, 28, 30, 31, 32] [] [37, 39, 40, 41, 42, 43, 44, 45] [10, 12] u u := yf_refl
  unfold jb_Machine_doStructure_25
  exact (yf_seq (yf_call hu yf_fm_Machine_makeStructure (by decide)) fun _ _ h1 => (yf_some h1))
theorem yf_fm_Machine_doStructure {fu : Nat} {x0 : Int32} {x1 : Int32} {x2 : Int32} {u : xk_St} : yf_F [27, 28, 30, 31, 32] [] [37, 39, 40, 41, 42, 43, 44, 45] [10, 12] u (fm_Machine_doStructure fu x0 x1 x2 u) := by
  have hu : yf_fr [27, 28, 30, 31, 32] [] [37, 39, 40, 41, 42, 43, 44, 45] [10, 12] u u := yf_refl
  unfold fm_Machine_doStructure
  exact (yf_ite (yf_ite (yf_call hu yf_jb_Machine_doStructure_55 (by decide)) (yf_call hu yf_jb_Machine_doStructure_55 (by decide))) (yf_ite yf_none (yf_ite (yf_call hu yf_jb_Machine_doStructure_25 (by decide)) (yf_call hu yf_jb_Machine_doStructure_25 (by decide)))))
theorem yf_jb_Machine_doReference_72 {fu : Nat} {s0 : Int32} {u : xk_St} : yf_F [23, 24, 25, 26, 27, 28] [] [37] [10] u (jb_Machine_doReference_72 fu s0 u) := by
  have hu : yf_fr [23, 24, 25, 26, 27, 28] [] [37] [10] u u := yf_refl
  unfold jb_Machine_doReference_72
  exact (yf_seq (yf_call hu yf_fm_Values_pushTruth__h61 (by decide)) fun _ _ h1 => (yf_some h1))
theorem yf_jb_Values_slide__h61_40 {fu : Nat} {b1 : Int32} {b2 : Int32} {u : xk_St} : yf_F [28] [] [37] [10] u (jb_Values_slide__h61_40 fu b1 b2 u) := by
  have hu : yf_fr [28] [] [37] [10] u u := yf_refl
  unfold jb_Values_slide__h61_40
  exact (yf_letS (yf_I hu (by decide)) fun _ h1 => (yf_some h1))
theorem yf_fm_Values_copy__h61_61 {x1 : Int32} {x2 : Int32} {u : xk_St} : yf_F [] [] [37] [10] u (fm_Values_copy__h61_61 x1 x2 u) := by
  have hu : yf_fr [] [] [37] [10] u u := yf_refl
  unfold fm_Values_copy__h61_61
  exact (yf_ite yf_none (yf_ite yf_none (yf_letS (yf_B hu (by decide)) fun _ h1 => (yf_ite yf_none (yf_ite yf_none (yf_letS (yf_A h1 (by decide)) fun _ h2 => (yf_some h2)))))))
theorem yf_jb_Values_slide__h61_10 {fu : Nat} : ∀ {n : Nat} {b1 : Int32} {b2 : Int32} {b3 : Int32} {b4 : Int32} {u : xk_St}, yf_F [28] [] [37] [10] u (jb_Values_slide__h61_10 fu n b1 b2 b3 b4 u) := by
  intro n
  induction n with
  | zero => intros; exact yf_none
  | succ n ih =>
    intro b1 b2 b3 b4 u
    have hu : yf_fr [28] [] [37] [10] u u := yf_refl
    unfold jb_Values_slide__h61_10
    refine yf_let ?_
    exact (yf_ite (yf_call hu yf_jb_Values_slide__h61_40 (by decide)) (yf_ite (yf_call hu yf_jb_Values_slide__h61_40 (by decide)) (yf_seq (yf_call hu yf_fm_Values_copy__h61_61 (by decide)) fun _ _ h1 => (yf_letV fun _ => (yf_call h1 ih (by decide))))))
theorem yf_fm_Values_slide__h61 {fu : Nat} {x0 : Int32} {x1 : Int32} {u : xk_St} : yf_F [28] [] [37] [10] u (fm_Values_slide__h61 fu x0 x1 u) := by
  have hu : yf_fr [28] [] [37] [10] u u := yf_refl
  unfold fm_Values_slide__h61
  exact (yf_letV fun _ => (yf_call hu yf_jb_Values_slide__h61_10 (by decide)))
theorem yf_fm_Machine_leave {fu : Nat} {u : xk_St} : yf_F [24, 25, 26, 28] [] [37] [10] u (fm_Machine_leave fu u) := by
  have hu : yf_fr [24, 25, 26, 28] [] [37] [10] u u := yf_refl
  unfold fm_Machine_leave
  exact (yf_letS (yf_I hu (by decide)) fun _ h1 => (yf_ite yf_none (yf_ite yf_none (yf_ite yf_none (yf_ite yf_none (yf_seq (yf_call h1 yf_fm_Values_slide__h61 (by decide)) fun _ _ h2 => (yf_ite yf_none (yf_letS (yf_I h2 (by decide)) fun _ h3 => (yf_ite (yf_some h3) (yf_ite yf_none (yf_ite yf_none (yf_ite yf_none (yf_letS (yf_I h3 (by decide)) fun _ h4 => (yf_some h4))))))))))))))
theorem yf_fm_Code_endOf {x0 : Int32} {u : xk_St} : yf_F [] [] [] [] u (fm_Code_endOf x0 u) := by
  have hu : yf_fr [] [] [] [] u u := yf_refl
  unfold fm_Code_endOf
  exact (yf_ite yf_none (yf_letV fun _ => (yf_ite yf_none (yf_ite (yf_ite yf_none (yf_some hu)) (yf_some hu)))))
theorem yf_jb_Machine_branch_34 {fu : Nat} {b1 : Int32} {b2 : Int32} {u : xk_St} : yf_F [23, 24, 25, 26, 27, 28] [] [37] [10] u (jb_Machine_branch_34 fu b1 b2 u) := by
  have hu : yf_fr [23, 24, 25, 26, 27, 28] [] [37] [10] u u := yf_refl
  unfold jb_Machine_branch_34
  exact (yf_ite yf_none (yf_ite yf_none (yf_seq (yf_call hu yf_fm_Values_slide__h61 (by decide)) fun _ _ h1 => (yf_ite (yf_letS (yf_I h1 (by decide)) fun _ h2 => (yf_some h2)) (yf_seq (yf_call h1 yf_fm_Code_endOf (by decide)) fun _ _ h3 => (yf_letS (yf_I h3 (by decide)) fun _ h4 => (yf_some h4)))))))
theorem yf_fm_Machine_branch {fu : Nat} {x0 : Int32} {u : xk_St} : yf_F [23, 24, 25, 26, 27, 28] [] [37] [10] u (fm_Machine_branch fu x0 u) := by
  have hu : yf_fr [23, 24, 25, 26, 27, 28] [] [37] [10] u u := yf_refl
  unfold fm_Machine_branch
  exact (yf_ite yf_none (yf_letV fun _ => (yf_ite (yf_seq (yf_call hu yf_fm_Machine_leave (by decide)) fun _ _ h1 => (yf_some h1)) (yf_ite (yf_seq (yf_call hu yf_fm_Machine_spendTurn (by decide)) fun _ _ h2 => (yf_ite (yf_some h2) (yf_call h2 yf_jb_Machine_branch_34 (by decide)))) (yf_call hu yf_jb_Machine_branch_34 (by decide))))))
theorem yf_jb_Machine_doReference_188 {fu : Nat} {b2 : Int32} {u : xk_St} : yf_F [23, 24, 25, 26, 27, 28] [] [37] [10] u (jb_Machine_doReference_188 fu b2 u) := by
  have hu : yf_fr [23, 24, 25, 26, 27, 28] [] [37] [10] u u := yf_refl
  unfold jb_Machine_doReference_188
  exact (yf_ite yf_none (yf_ite (yf_seq (yf_call hu yf_fm_Values_pop__h61 (by decide)) fun _ _ h1 => (yf_some h1)) (yf_ite yf_none (yf_seq (yf_call hu yf_fm_Machine_branch (by decide)) fun _ _ h2 => (yf_some h2)))))
theorem yf_jb_Machine_doReference_105 {fu : Nat} {s0 : Int32} {u : xk_St} : yf_F [23, 24, 25, 26, 27, 28] [] [37] [10] u (jb_Machine_doReference_105 fu s0 u) := by
  have hu : yf_fr [23, 24, 25, 26, 27, 28] [] [37] [10] u u := yf_refl
  unfold jb_Machine_doReference_105
  exact (yf_seq (yf_call hu yf_fm_Values_pushTruth__h61 (by decide)) fun _ _ h1 => (yf_some h1))
theorem yf_fm_Machine_doReference {fu : Nat} {x0 : Int32} {x1 : Int32} {u : xk_St} : yf_F [23, 24, 25, 26, 27, 28] [] [37] [10] u (fm_Machine_doReference fu x0 x1 u) := by
  have hu : yf_fr [23, 24, 25, 26, 27, 28] [] [37] [10] u u := yf_refl
  unfold fm_Machine_doReference
  exact (yf_ite (yf_seq (yf_call hu yf_fm_Values_pushReference__h61 (by decide)) fun _ _ h1 => (yf_some h1)) (yf_ite (yf_seq (yf_call hu yf_fm_Values_pop__h61 (by decide)) fun _ _ h2 => (yf_ite (yf_call h2 yf_jb_Machine_doReference_72 (by decide)) (yf_call h2 yf_jb_Machine_doReference_72 (by decide)))) (yf_ite (yf_call hu yf_jb_Machine_doReference_188 (by decide)) (yf_ite (yf_seq (yf_call hu yf_fm_Values_pop__h61 (by decide)) fun _ _ h3 => (yf_seq (yf_call h3 yf_fm_Values_pop__h61 (by decide)) fun _ _ h4 => (yf_ite (yf_call h4 yf_jb_Machine_doReference_105 (by decide)) (yf_call h4 yf_jb_Machine_doReference_105 (by decide))))) (yf_ite (yf_ite yf_none (yf_ite (yf_letS (yf_I hu (by decide)) fun _ h5 => (yf_some h5)) (yf_some hu))) (yf_ite (yf_ite yf_none (yf_ite (yf_seq (yf_call hu yf_fm_Values_pop__h61 (by decide)) fun _ _ h6 => (yf_ite yf_none (yf_seq (yf_call h6 yf_fm_Machine_branch (by decide)) fun _ _ h7 => (yf_some h7)))) (yf_some hu))) (yf_call hu yf_jb_Machine_doReference_188 (by decide))))))))
