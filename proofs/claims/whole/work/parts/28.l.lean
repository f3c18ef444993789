section
variable {α β γ δ σ τ : Type} {u v w u0 : xk_St} {g : Nat → Nat} {T : List (Nat × List Nat × List Nat)} {n fu : Nat} {Q Q' : List sFr}
theorem ob_if {P : Prop} {s : Option σ} {k : σ → Option τ} : xs_if P (s.bind k) = s.bind fun a => xs_if P (k a) := by
  by_cases z : P
  · rw [xs_ifp z]; congr 1; funext a; rw [xs_ifp z]
  · rw [xs_ifn z]
    cases s with
    | none => rfl
    | some a => exact (xs_ifn z).symm
theorem sq_sgS {a : Nat} {ws cs : List Nat} : sq_sg T (a :: ws) cs Q = (sq_take (yl_f T) a Q).bind fun Q1 => sq_sg T ws cs Q1 := by
  unfold sq_sg
  show ((sq_take (yl_f T) a Q).bind (sq_takes (yl_f T) ws)).bind _ = _
  rw [Option.bind_assoc]
theorem sq_sgE : sq_sg T [] [] Q = some Q := rfl
theorem sq_sgP {b : Nat} : sq_sg T [] [b] Q = sq_push b Q := sq_p1
theorem xs_try3 {o : Option ((α ⊕ Nat) × xk_St)} {f : α → xk_St → Option ((β ⊕ Nat) × xk_St)} {k : β → xk_St → Option ((γ ⊕ Nat) × xk_St)} : xs_try (xs_try o f) k = xs_try o fun a v => xs_try (f a v) k := by
  cases o with
  | none => rfl
  | some x =>
    obtain ⟨y, v⟩ := x
    cases y <;> rfl
theorem HC_fin' {o : Option ((β ⊕ Nat) × xk_St)} {s : Option σ} {I : σ → β → xk_St → Prop} {f : β → xk_St → Option ((γ ⊕ Nat) × xk_St)} {J : σ → Option ((γ ⊕ Nat) × xk_St) → Prop} (h : HC o s (HJ I)) (hm : ∀ a b v, I a b v → J a (f b v)) : HC (xs_try o f) s J := by
  rcases h with ⟨a, rfl, b, v, rfl, hI⟩ | ⟨rfl, v, rfl⟩
  · exact Or.inl ⟨a, rfl, hm a b v hI⟩
  · exact Or.inr ⟨rfl, v, rfl⟩
/-- arrays -/
noncomputable def sq_arrc (T : List (Nat × List Nat × List Nat)) (o m k : Nat) (c : Nat × List Nat × List Nat) (d : Nat) (Q : List sFr) : Option (List sFr) :=
  if o = 6 then sq_sg T [1, upk d] [20 + 2 * m] Q
  else if o = 7 then xs_if (ydf d) (sq_sg T [1] [20 + 2 * m] Q)
  else if o = 8 then xs_if (k ≤ 64) (sq_sg T (List.replicate k (upk d)) [20 + 2 * m] Q)
  else if o ≤ 13 then xs_if ((d = 3 ∨ d = 4) ↔ 11 < o) (sq_sg T [1, 21 + 2 * m] [upk d] Q)
  else xs_if (c.2.2[0]? = some 1) (if o = 16 then sq_sg T [1, upk d, 1, 21 + 2 * m] [] Q else sq_sg T [upk d, 1, 21 + 2 * m] [] Q)
noncomputable def sq_array (T : List (Nat × List Nat × List Nat)) (o m k : Nat) (Q : List sFr) : Option (List sFr) := T[m]?.bind fun c => xs_if (c.1 = 94) (c.2.1[0]?.bind fun d => sq_arrc T o m k c d Q)
noncomputable def sq_len (T : List (Nat × List Nat × List Nat)) (Q : List sFr) : Option (List sFr) := (sq_popR Q).bind fun x => xs_if (x.1 = 0 ∨ x.1 = 816 ∨ (20 ≤ x.1 ∧ yv_k T 94 ((x.1 - 20) / 2))) (sq_push 1 x.2)
theorem sl_all : ∀ x, x < 150 → 16 ≤ x → ((nI (yu x) - 16) >>> ((1 : Int32) &&& 31)) = nI (yv_t ((x - 16) / 2)) := by decide +kernel
theorem hk_len (h : sK T u0 Q u) : HC (fm_Checker_checkLength u) (sq_len T Q) (sKJ T u0) := by
  unfold fm_Checker_checkLength sq_len
  refine HC_try (hk_popR h) fun x b v _ hx => ?_
  obtain ⟨rfl, h1, h2, h3⟩ := hx
  have he := h1.1
  have go : HC (jb_Checker_checkLength_38 1 v) (sq_push 1 x.2) (sKJ T u0) := by
    unfold jb_Checker_checkLength_38
    rw [hh_needI (Or.inr rfl), if_neg (show ¬ (1 : Int32) = 0 by decide)]
    exact HC_end (hk_push (c := 1) h1 yvs_1)
  have no : HC (jb_Checker_checkLength_38 0 v) none (sKJ T u0) := by
    unfold jb_Checker_checkLength_38
    rw [hh_needI (Or.inl rfl), if_pos rfl]
    exact HC_no
  unfold jb_Checker_checkLength_33 jb_Checker_checkLength_37 fm_Types_target
  have t20 : ((nI 20 - 16) >>> ((1 : Int32) &&& 31)) = (2 : Int32) := by decide +kernel
  by_cases z0 : x.1 = 0
  · rw [if_pos z0, ys_seq, t20, if_pos rfl, xs_ifp (Or.inl z0)]
    exact go
  · rw [if_neg z0]
    rcases h2 with y | y | ⟨y1, y2⟩
    · rw [y, show yu 816 = 20 from rfl, ys_seq, t20, if_pos rfl, xs_ifp (Or.inr (Or.inl rfl))]
      exact go
    · omega
    · rw [sl_all x.1 y2.1 y1, ys_seq]
      have h64 := he.1.2.1
      obtain ⟨y2, y3⟩ := y2
      by_cases z1 : x.1 < 20
      · rw [xs_ifn (by omega), show yv_t ((x.1 - 16) / 2) = (x.1 - 16) / 2 by unfold yv_t; rw [if_pos (by omega)]]
        rw [if_neg (fun y => by have := (nI_eq (b := 2) (by omega) (by omega)).mp y; omega), if_pos (show nI ((x.1 - 16) / 2) < (3 : Int32) from nI_lt (b := 3) (by omega) (by omega))]
        exact no
      · rw [show yv_t ((x.1 - 16) / 2) = (x.1 - 20) / 2 + 3 by unfold yv_t; rw [if_neg (by omega)]; omega]
        rw [if_neg (fun y => by have := (nI_eq (b := 2) (by omega) (by omega)).mp y; omega), if_neg (show ¬ nI ((x.1 - 20) / 2 + 3) < (3 : Int32) from fun y => by have := (nI_ltI (b := 3) (by omega) (by omega)).mp y; omega), nI_sub3]
        obtain ⟨i1, i2⟩ := hk_is (K := 94) (m := (x.1 - 20) / 2) he (Or.inl rfl)
        rw [yn_cs (by omega)] at i1 i2
        by_cases z : yv_k T 94 ((x.1 - 20) / 2)
        · rw [show fm_Types_is (nI ((x.1 - 20) / 2)) 94 v = some (1, v) from i1 z, ys_seq, if_neg (show ¬ (1 : Int32) = 0 by decide), xs_ifp (Or.inr (Or.inr ⟨by omega, z⟩))]
          exact go
        · rw [show fm_Types_is (nI ((x.1 - 20) / 2)) 94 v = some (0, v) from i2 z, ys_seq, if_pos rfl, xs_ifn (by rintro (y | y | y); exact z0 y; omega; exact z y.2)]
          exact no
theorem lN_le64 {k : Nat} (hk : k < 2 ^ 32) : (64 : Int64) < lN k ↔ 64 < k := pk_lLT (a := 64) (by omega) (by omega)
/-- elements that are taken, one type for all -/
theorem hk_same {k d : Nat} (h : sK T u0 Q u) (hw : yvw T.length (upk d)) (hd : d < 150) (hk : k ≤ 64) (hfu : 200 ≤ fu) : HC (jb_Checker_checkNewArray_25 fu fu (nI (yv_h d)) (lN k) 0 u) (sq_takes (yl_f T) (List.replicate k (upk d)) Q) (sKJ T u0) := by
  have loop : ∀ (j i n : Nat) (Q : List sFr) (u : xk_St), i + j = k → j < n → sK T u0 Q u → HC (jb_Checker_checkNewArray_25 fu n (nI (yv_h d)) (lN k) (nI i) u) (sq_takes (yl_f T) (List.replicate j (upk d)) Q) (sKJ T u0) := by
    intro j
    induction j with
    | zero =>
      intro i n Q u hi hn h
      obtain ⟨n, rfl⟩ : ∃ m, n = m + 1 := ⟨n - 1, by omega⟩
      obtain rfl : i = k := by omega
      unfold jb_Checker_checkNewArray_25
      simp only [xs_let]
      rw [nI_toL (by omega), if_pos (Int64.le_refl _)]
      exact HC_ok ⟨(), u, rfl, h⟩
    | succ j ih =>
      intro i n Q u hi hn h
      obtain ⟨n, rfl⟩ : ∃ m, n = m + 1 := ⟨n - 1, by omega⟩
      unfold jb_Checker_checkNewArray_25
      simp only [xs_let]
      rw [nI_toL (by omega), if_neg (fun y => by have := (pk_lLE (by omega) (by omega)).mp y; omega), hk_unp hd, ys_seq]
      show HC _ ((sq_take (yl_f T) (upk d) Q).bind (sq_takes (yl_f T) (List.replicate j (upk d)))) _
      refine HC_try (hk_take h hw) fun Q1 _ v _ h1 => ?_
      rw [nI_1]
      exact ih (i + 1) n Q1 v (by omega) (by omega) h1
  exact loop k 0 fu Q u (by omega) (by omega) h
theorem hk_array {o m k : Nat} (hfu : 200 ≤ fu) (h : sK T u0 Q u) (ho : 6 ≤ o) (ho2 : o ≤ 16) (ho3 : ¬ o = 15) (ho4 : ¬ o = 9 ∧ ¬ o = 10) (hk : k < 2 ^ 32) : HC (fm_Checker_checkArray fu (nI o) (nI (yn_c m)) (lN k) u) (sq_array T o m k Q) (sKJ T u0) := by
  have he := h.1
  have h64 := he.1.2.1
  have c15 : nI o = (15 : Int32) ↔ o = 15 := nI_eq (b := 15) (by omega) (by omega)
  have c16 : nI o = (16 : Int32) ↔ o = 16 := nI_eq (b := 16) (by omega) (by omega)
  have c6 : nI o = (6 : Int32) ↔ o = 6 := nI_eq (b := 6) (by omega) (by omega)
  have c8 : nI o = (8 : Int32) ↔ o = 8 := nI_eq (b := 8) (by omega) (by omega)
  have l8 : (8 : Int32) < nI o ↔ 8 < o := nI_ltI (a := 8) (by omega) (by omega)
  have l14 : nI o < (14 : Int32) ↔ o < 14 := nI_ltI (b := 14) (by omega) (by omega)
  have l13 : (13 : Int32) < nI o ↔ 13 < o := nI_ltI (a := 13) (by omega) (by omega)
  have l11 : nI o ≤ (11 : Int32) ↔ o ≤ 11 := nI_leI (b := 11) (by omega) (by omega)
  unfold fm_Checker_checkArray sq_array
  rw [if_neg (fun y => ho3 (c15.mp y))]
  obtain ⟨i1, i2⟩ := hk_is (K := 94) (m := m) he (Or.inl rfl)
  by_cases z : yv_k T 94 m
  · obtain ⟨c, hc, hc5⟩ := z
    rw [show fm_Types_is (nI (yn_c m)) 94 u = some (1, u) from i1 ⟨c, hc, hc5⟩, hc]
    have hm := yl_lt hc
    obtain ⟨y1, y2, y3, y4⟩ := yvw_m hm h64
    obtain ⟨n1, n2, n3, -⟩ := yCe_n he hc
    have hg := (he.1.2.2 m c hc).2
    have h6 : ¬ c.1 = 96 := by omega
    have hl1 := hg.2.2.2.2 hc5
    obtain ⟨g1, g2⟩ := hg.2.2.2.1 h6
    obtain ⟨d, hd⟩ := yl_get (l := c.2.1) (k := 0) (by omega)
    obtain ⟨x, hx⟩ := yl_get (l := c.2.2) (k := 0) (by omega)
    obtain ⟨w1, w2, w3⟩ := upk_v he hc hd
    show HC _ (xs_if (c.1 = 94) (c.2.1[0]?.bind fun d => sq_arrc T o m k c d Q)) _
    rw [ys_seq, hh_needI (Or.inr rfl), if_neg (show ¬ (1 : Int32) = 0 by decide), xs_ifp hc5, yn_cs (by omega), show fm_Types_member (nI m) 0 u = some (nI (yv_h d), u) from yCe_m (i := 0) he hc hd, ys_seq, hd]
    show HC _ (sq_arrc T o m k c d Q) _
    unfold sq_arrc
    have hfin : ∀ {v : xk_St} {Q : List sFr}, sK T u0 Q v → HC (xs_seq (fm_Types_reference (3 + nI m) 0 v) fun a27 u28 => xs_try (fm_Checker_push a27 u28) fun _ u29 => some (.inl (), u29)) (sq_push (20 + 2 * m) Q) (sKJ T u0) := fun h => by
      rw [yu_m0 n3, ys_seq]
      exact HC_end (hk_push h y3)
    by_cases z8 : 8 < o
    · rw [if_pos (l8.mpr z8), if_neg (show ¬ o = 6 by omega), if_neg (show ¬ o = 7 by omega), if_neg (show ¬ o = 8 by omega)]
      have h99 : ∀ {v : xk_St} {Q : List sFr}, sK T u0 Q v → HC (jb_Checker_checkArray_99 fu (nI o) (nI m) (nI (yv_h d)) v) (if o ≤ 13 then xs_if ((d = 3 ∨ d = 4) ↔ 11 < o) (sq_sg T [1, 21 + 2 * m] [upk d] Q) else sq_sg T [1, 21 + 2 * m] [] Q) (sKJ T u0) := fun {v Q} h => by
        unfold jb_Checker_checkArray_99
        by_cases z13 : o ≤ 13
        · rw [if_pos z13, sq_sgS, ob_if]
          refine HC_try (hk_take (x := 1) h yvw_1) fun Q1 _ v _ h1 => ?_
          rw [yu_m1 n3, ys_seq, sq_sgS, ob_if]
          refine HC_try (hk_take h1 y2) fun Q2 _ v _ h2 => ?_
          rw [if_neg (fun y => by have := l13.mp y; omega), hk_packed w3, ys_seq, sq_sgP]
          unfold jb_Checker_checkArray_137
          have go : HC (jb_Checker_checkArray_145 fu (nI (yv_h d)) 1 v) (sq_push (upk d) Q2) (sKJ T u0) := by
            unfold jb_Checker_checkArray_145
            rw [hh_needI (Or.inr rfl), if_neg (show ¬ (1 : Int32) = 0 by decide), hk_unp w3, ys_seq]
            exact HC_end (hk_push h2 w2)
          have no : HC (jb_Checker_checkArray_145 fu (nI (yv_h d)) 0 v) none (sKJ T u0) := by
            unfold jb_Checker_checkArray_145
            rw [hh_needI (Or.inl rfl), if_pos rfl]
            exact HC_no
          by_cases z6 : o ≤ 11
          · rw [if_pos (l11.mpr z6)]
            by_cases z7 : d = 3 ∨ d = 4
            · rw [if_pos z7, if_neg (show ¬ (1 : Int32) = 0 by decide), xs_ifn (by omega)]; exact no
            · rw [if_neg z7, if_pos rfl, xs_ifp (by omega)]; exact go
          · rw [if_neg (fun y => z6 (l11.mp y))]
            by_cases z7 : d = 3 ∨ d = 4
            · rw [if_pos z7, if_pos rfl, xs_ifp (by omega)]; exact go
            · rw [if_neg z7, if_neg (show ¬ (0 : Int32) = 1 by decide), xs_ifn (by omega)]; exact no
        · rw [if_neg z13, sq_sgS]
          refine HC_try (hk_take (x := 1) h yvw_1) fun Q1 _ v _ h1 => ?_
          rw [yu_m1 n3, ys_seq, sq_sgS]
          refine HC_try (hk_take h1 y2) fun Q2 b v _ hv => ?_
          rw [if_pos (l13.mpr (by omega))]
          exact HC_ok ⟨(), v, rfl, hv⟩
      have h72 : ∀ {v : xk_St} {Q : List sFr}, sK T u0 Q v → HC (jb_Checker_checkArray_72 fu (nI o) (nI m) (nI (yv_h d)) v) (if o ≤ 13 then xs_if ((d = 3 ∨ d = 4) ↔ 11 < o) (sq_sg T [1, 21 + 2 * m] [upk d] Q) else xs_if (c.2.2[0]? = some 1) (sq_sg T [upk d, 1, 21 + 2 * m] [] Q)) (sKJ T u0) := fun {v Q} h => by
        unfold jb_Checker_checkArray_72
        by_cases z13 : o ≤ 13
        · rw [if_pos (l14.mpr (by omega)), if_pos z13]
          have := h99 h
          rw [if_pos z13] at this
          exact this
        · rw [if_neg (fun y => by have := l14.mp y; omega), if_neg z13, show fm_Types_canBeSet (nI m) 0 v = some (if x = 1 then 1 else 0, v) from yc_set (i := 0) h.1 hc h6 hx, ys_seq, hx]
          by_cases zx : x = 1
          · rw [if_pos zx, hh_needI (Or.inr rfl), if_neg (show ¬ (1 : Int32) = 0 by decide), xs_ifp (by rw [zx]), hk_unp w3, ys_seq, sq_sgS]
            refine HC_try (hk_take h w1) fun Q1 _ v _ h1 => ?_
            have := h99 h1
            rw [if_neg z13] at this
            exact this
          · rw [if_neg zx, hh_needI (Or.inl rfl), if_pos rfl, xs_ifn (fun y => zx (Option.some.inj y))]
            exact HC_no
      by_cases z16 : o = 16
      · rw [if_pos (c16.mpr z16), if_neg (show ¬ o ≤ 13 by omega), if_pos z16, sq_sgS, ob_if]
        refine HC_try (hk_take (x := 1) h yvw_1) fun Q1 _ v _ h1 => ?_
        have := h72 h1
        rw [if_neg (show ¬ o ≤ 13 by omega)] at this
        exact this
      · rw [if_neg (fun y => z16 (c16.mp y)), if_neg z16]
        exact h72 h
    · rw [if_neg (fun y => z8 (l8.mp y))]
      unfold fm_Checker_checkNewArray
      by_cases z6 : o = 6
      · rw [if_neg (fun y => by have := c8.mp y; omega), if_pos z6, sq_sgS, xs_try3]
        refine HC_try (hk_take (x := 1) h yvw_1) fun Q1 _ v _ h1 => ?_
        rw [if_pos (c6.mpr z6), hk_unp w3, ys_seq, sq_sgS, xs_try3]
        refine HC_try (hk_take h1 w1) fun Q2 _ v _ h2 => ?_
        rw [ys_tryl, sq_sgP]
        exact hfin h2
      · rw [if_neg z6]
        by_cases z7 : o = 7
        · rw [if_neg (fun y => by have := c8.mp y; omega), if_pos z7, sq_sgS, ob_if, xs_try3]
          refine HC_try (hk_take (x := 1) h yvw_1) fun Q1 _ v _ h1 => ?_
          obtain ⟨b1, b2⟩ := hk_dflt (u := v) (d := d) w3
          rw [if_neg (fun y => z6 (c6.mp y)), sq_sgP]
          by_cases zd : ydf d
          · rw [b1 zd, ys_seq, hh_needI (Or.inr rfl), if_neg (show ¬ (1 : Int32) = 0 by decide), ys_tryl, xs_ifp zd]
            exact hfin h1
          · rw [b2 zd, ys_seq, hh_needI (Or.inl rfl), if_pos rfl, ys_tryr, xs_ifn zd]
            exact HC_no
        · have z8' : o = 8 := by omega
          rw [if_pos (c8.mpr z8'), if_neg z7, if_pos z8']
          have hl := lN_le64 hk
          unfold jb_Checker_checkNewArray_19
          by_cases zk : 64 < k
          · rw [if_pos (hl.mpr zk), hh_needI (Or.inl rfl), if_pos rfl, ys_tryr, xs_ifn (by omega)]
            exact HC_no
          · rw [if_neg (fun y => zk (hl.mp y)), hh_needI (Or.inr rfl), if_neg (show ¬ (1 : Int32) = 0 by decide), xs_ifp (by omega)]
            unfold sq_sg
            refine HC_try (hk_same h w1 w3 (by omega) hfu) fun Q1 _ v _ h1 => ?_
            rw [sq_p1]
            exact hfin h1
  · rw [show fm_Types_is (nI (yn_c m)) 94 u = some (0, u) from i2 z, ys_seq, hh_needI (Or.inl rfl), if_pos rfl]
    have : (T[m]?.bind fun c => xs_if (c.1 = 94) (c.2.1[0]?.bind fun d => sq_arrc T o m k c d Q)) = none := by
      cases hc : T[m]? with
      | none => rfl
      | some c => exact xs_ifn fun y => z ⟨c, hc, y⟩
    rw [this]
    exact HC_no
end
