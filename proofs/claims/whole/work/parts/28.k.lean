section
variable {α β γ δ σ τ : Type} {u v w u0 : xk_St} {g : Nat → Nat} {T : List (Nat × List Nat × List Nat)} {n fu : Nat} {Q Q' : List sFr}
/-- a part's type as a value -/
def upk (d : Nat) : Nat := if d = 3 ∨ d = 4 then 1 else d
/-- a type that has a default -/
def ydf (d : Nat) : Prop := d < 16 ∨ d % 2 = 1
theorem hk_pk : ∀ d, d < 150 → (nI (yv_h d) = (3 : Int32) ↔ d = 3) ∧ (nI (yv_h d) = (4 : Int32) ↔ d = 4) := by decide +kernel
theorem hk_packed {d : Nat} (hd : d < 150) : fm_Types_isPacked (nI (yv_h d)) u = some (if d = 3 ∨ d = 4 then 1 else 0, u) := by
  obtain ⟨a1, a2⟩ := hk_pk d hd
  unfold fm_Types_isPacked jb_Types_isPacked_10
  by_cases z : d = 3
  · rw [if_pos (a1.mpr z), if_pos (Or.inl z)]
  · rw [if_neg (fun y => z (a1.mp y))]
    by_cases z2 : d = 4
    · rw [if_pos (a2.mpr z2), if_pos (Or.inr z2)]
    · rw [if_neg (fun y => z2 (a2.mp y)), if_neg (by omega)]
theorem hk_unp {d : Nat} (hd : d < 150) : fm_Types_unpacked (nI (yv_h d)) u = some (nI (yu (upk d)), u) := by
  unfold fm_Types_unpacked upk
  rw [hk_packed hd, ys_seq]
  by_cases z : d = 3 ∨ d = 4
  · rw [if_pos z, if_neg (by decide), if_pos z]
    rfl
  · rw [if_neg z, if_pos rfl, if_neg z, yu_h hd]
theorem hk_dfA : ∀ d, d < 150 → (nI (yv_h d) < (16 : Int32) ↔ d < 16) ∧ (16 ≤ d → (nI (yv_h d) &&& 1 = (1 : Int32) ↔ d % 2 = 1)) := by decide +kernel
theorem hk_dflt {d : Nat} (hd : d < 150) : (ydf d → fm_Types_hasDefault (nI (yv_h d)) u = some (1, u)) ∧ (¬ ydf d → fm_Types_hasDefault (nI (yv_h d)) u = some (0, u)) := by
  obtain ⟨a1, a2⟩ := hk_dfA d hd
  unfold fm_Types_hasDefault jb_Types_hasDefault_14 fm_Types_orNull fm_Types_isReference ydf
  by_cases z : d < 16
  · rw [if_pos (a1.mpr z), ys_seq, if_pos rfl]
    exact ⟨fun _ => rfl, fun h => absurd (Or.inl z) h⟩
  · rw [if_neg (fun y => z (a1.mp y)), ys_seq, if_neg (by decide), if_neg (fun y => z (a1.mp y)), ys_seq, if_neg (by decide)]
    by_cases z2 : d % 2 = 1
    · rw [if_pos ((a2 (by omega)).mpr z2), ys_seq, if_neg (by decide)]
      exact ⟨fun _ => rfl, fun h => absurd (Or.inr z2) h⟩
    · rw [if_neg (fun y => z2 ((a2 (by omega)).mp y)), ys_seq, if_pos rfl]
      exact ⟨fun h => by rcases h with h | h <;> omega, fun _ => rfl⟩
theorem upk_v {t i d : Nat} {c : Nat × List Nat × List Nat} (he : yCe T u) (hc : T[t]? = some c) (hd : c.2.1[i]? = some d) : yvw T.length (upk d) ∧ yvs T.length (upk d) ∧ d < 150 := by
  obtain ⟨h1, h2, h3, h4⟩ := yCe_mv he hc hd
  unfold upk
  by_cases z : d = 3 ∨ d = 4
  · rw [if_pos z]; exact ⟨yvw_1, yvs_1, h3⟩
  · rw [if_neg z]
    exact ⟨h1, yvs_of h1 (by omega), h3⟩
theorem yc_set {t i d : Nat} {c : Nat × List Nat × List Nat} (he : yCe T u) (hc : T[t]? = some c) (h6 : ¬ c.1 = 96) (hd : c.2.2[i]? = some d) : fm_Types_canBeSet (nI t) (nI i) u = some (if d = 1 then 1 else 0, u) := by
  have hg := (he.1.2.2 t c hc).2
  have hv := he.2.1.2 t c hc
  obtain ⟨g1, g2⟩ := hg.2.2.2.1 h6
  have := yl_lt hd
  unfold fm_Types_canBeSet
  rw [yCe_o he hc hd (by have := hv.1; omega), ys_seq]
  have := g2 i d hd
  have e : nI (yv_h d) = (1 : Int32) ↔ d = 1 := by
    unfold yv_h
    rw [if_pos (by omega)]
    exact nI_eq (b := 1) (by omega) (by omega)
  by_cases z : d = 1
  · rw [if_pos (e.mpr z), if_pos z]
  · rw [if_neg (fun y => z (e.mp y)), if_neg z]
/-- structures: o 0 to 5, type m, field f -/
noncomputable def sq_strc (T : List (Nat × List Nat × List Nat)) (o m f : Nat) (c : Nat × List Nat × List Nat) (Q : List sFr) : Option (List sFr) :=
  if o = 0 then sq_sg T (c.2.1.map upk).reverse [20 + 2 * m] Q
  else if o = 1 then xs_if (∀ (i : Nat) d, c.2.1[i]? = some d → ydf d) (sq_push (20 + 2 * m) Q)
  else c.2.1[f]?.bind fun d => if o = 5 then xs_if (c.2.2[f]? = some 1) (sq_sg T [upk d, 21 + 2 * m] [] Q) else xs_if ((d = 3 ∨ d = 4) ↔ 2 < o) (sq_sg T [21 + 2 * m] [upk d] Q)
noncomputable def sq_struct (T : List (Nat × List Nat × List Nat)) (o m f : Nat) (Q : List sFr) : Option (List sFr) := T[m]?.bind fun c => xs_if (c.1 = 95) (sq_strc T o m f c Q)
theorem sq_sg2 {a b : Nat} : sq_sg T [a, b] [] Q = (sq_take (yl_f T) a Q).bind fun Q1 => sq_take (yl_f T) b Q1 := by
  unfold sq_sg
  show ((sq_take (yl_f T) a Q).bind (sq_takes (yl_f T) [b])).bind _ = _
  rw [Option.bind_assoc]
  congr 1
  funext Q1
  rw [sq_t1]
  cases sq_take (yl_f T) b Q1 <;> rfl
theorem HC_bind0 {o : Option ((Unit ⊕ Nat) × xk_St)} {s : Option σ} {J : List sFr → Option ((Unit ⊕ Nat) × xk_St) → Prop} (h : HC o (s.bind fun _ => (none : Option (List sFr))) J) : HC o none J := by
  have : (s.bind fun _ => (none : Option (List sFr))) = none := by cases s <;> rfl
  rw [this] at h; exact h
theorem lN_ge {a b : Nat} (ha : a < 2 ^ 31) (hb : b < 2 ^ 32) : (nI a).toInt64 ≤ lN b ↔ a ≤ b := by
  rw [nI_toL ha]; exact pk_lLE (by omega) (by omega)
theorem hk_struct {o m f : Nat} (hfu : 200 ≤ fu) (h : sK T u0 Q u) (ho : o < 6) (hf : f < 2 ^ 32) : HC (fm_Checker_checkStructure fu (nI o) (nI (yn_c m)) (lN f) u) (sq_struct T o m f Q) (sKJ T u0) := by
  have he := h.1
  have h64 := he.1.2.1
  unfold fm_Checker_checkStructure sq_struct
  simp only [xs_let]
  obtain ⟨i1, i2⟩ := hk_is (K := 95) (m := m) he (Or.inr (Or.inl rfl))
  by_cases z : yv_k T 95 m
  · obtain ⟨c, hc, hc5⟩ := z
    rw [show fm_Types_is (nI (yn_c m)) 95 u = some (1, u) from i1 ⟨c, hc, hc5⟩, hc]
    have hm := yl_lt hc
    obtain ⟨y1, y2, y3, y4⟩ := yvw_m hm h64
    obtain ⟨n1, n2, n3, -⟩ := yCe_n he hc
    show HC _ (xs_if (c.1 = 95) _) _
    rw [ys_seq, hh_needI (Or.inr rfl), if_neg (show ¬ (1 : Int32) = 0 by decide), xs_ifp hc5, yn_cs (by omega), hh_ix (by omega), nI_clamp (by omega), n1]
    have c1 : (1 : Int32) < nI o ↔ 1 < o := nI_ltI (a := 1) (by omega) (by omega)
    have c5 : nI o = (5 : Int32) ↔ o = 5 := nI_eq (b := 5) (by omega) (by omega)
    have c0 : nI o = (0 : Int32) ↔ o = 0 := nI_eq (b := 0) (by omega) (by omega)
    have c2 : nI o ≤ (2 : Int32) ↔ o ≤ 2 := nI_leI (b := 2) (by omega) (by omega)
    have h6 : ¬ c.1 = 96 := by omega
    unfold sq_strc
    by_cases z1 : 1 < o
    · rw [if_pos (c1.mpr z1), if_neg (show ¬ o = 0 by omega), if_neg (show ¬ o = 1 by omega)]
      have hlt := lN_ge (a := c.2.1.length) (b := f) (by omega) hf
      unfold jb_Checker_checkStructure_120
      by_cases z2 : c.2.1.length ≤ f
      · rw [if_pos (hlt.mpr z2), hh_needI (Or.inl rfl), if_pos rfl, List.getElem?_eq_none z2]
        exact HC_no
      · rw [if_neg (fun y => z2 (hlt.mp y)), hh_needI (Or.inr rfl), if_neg (show ¬ (1 : Int32) = 0 by decide)]
        obtain ⟨d, hd⟩ := yl_get (l := c.2.1) (k := f) (by omega)
        obtain ⟨w1, w2, w3⟩ := upk_v he hc hd
        have hfi : (lN f).toInt32 = nI f := by rw [← nI_toL (n := f) (by omega)]; exact Int32.toInt32_toInt64 _
        rw [hfi, yCe_m he hc hd, ys_seq, hd]
        show HC _ (if o = 5 then xs_if (c.2.2[f]? = some 1) (sq_sg T [upk d, 21 + 2 * m] [] Q) else xs_if ((d = 3 ∨ d = 4) ↔ 2 < o) (sq_sg T [21 + 2 * m] [upk d] Q)) _
        by_cases z5 : o = 5
        · have hg := (he.1.2.2 m c hc).2
          obtain ⟨g1, g2⟩ := hg.2.2.2.1 h6
          obtain ⟨x, hx⟩ := yl_get (l := c.2.2) (k := f) (by omega)
          rw [if_pos (c5.mpr z5), if_pos z5, yc_set he hc h6 hx, ys_seq, hx]
          by_cases zx : x = 1
          · rw [if_pos zx, hh_needI (Or.inr rfl), if_neg (show ¬ (1 : Int32) = 0 by decide), xs_ifp (by rw [zx]), hk_unp w3, ys_seq, sq_sg2]
            refine HC_try (hk_take h w1) fun Q1 _ v _ h1 => ?_
            rw [yu_m1 n3, ys_seq]
            exact HC_end (hk_take h1 y2)
          · rw [if_neg zx, hh_needI (Or.inl rfl), if_pos rfl, xs_ifn (fun y => zx (Option.some.inj y))]
            exact HC_no
        · rw [if_neg (fun y => z5 (c5.mp y)), if_neg z5, hk_packed w3, ys_seq]
          unfold jb_Checker_checkStructure_191
          have go : HC (jb_Checker_checkStructure_199 fu (nI m) (nI (yv_h d)) 1 u) (sq_sg T [21 + 2 * m] [upk d] Q) (sKJ T u0) := by
            unfold jb_Checker_checkStructure_199
            rw [hh_needI (Or.inr rfl), if_neg (show ¬ (1 : Int32) = 0 by decide), yu_m1 n3, ys_seq, sq_sg1]
            refine HC_try (hk_take h y2) fun Q1 _ v _ h1 => ?_
            rw [hk_unp w3, ys_seq]
            exact HC_end (hk_push h1 w2)
          have no : HC (jb_Checker_checkStructure_199 fu (nI m) (nI (yv_h d)) 0 u) none (sKJ T u0) := by
            unfold jb_Checker_checkStructure_199
            rw [hh_needI (Or.inl rfl), if_pos rfl]
            exact HC_no
          by_cases z6 : o ≤ 2
          · rw [if_pos (c2.mpr z6)]
            by_cases z7 : d = 3 ∨ d = 4
            · rw [if_pos z7, if_neg (show ¬ (1 : Int32) = 0 by decide), xs_ifn (by omega)]; exact no
            · rw [if_neg z7, if_pos rfl, xs_ifp (by omega)]; exact go
          · rw [if_neg (fun y => z6 (c2.mp y))]
            by_cases z7 : d = 3 ∨ d = 4
            · rw [if_pos z7, if_pos rfl, xs_ifp (by omega)]; exact go
            · rw [if_neg z7, if_neg (show ¬ (0 : Int32) = 1 by decide), xs_ifn (by omega)]; exact no
    · rw [if_neg (fun y => z1 (c1.mp y)), Int32.sub_eq_add_neg]
      have hfin : ∀ {v : xk_St} {Q : List sFr}, sK T u0 Q v → HC (xs_seq (fm_Types_reference (3 + nI m) 0 v) fun a27 u28 => xs_try (fm_Checker_push a27 u28) fun _ u29 => some (.inl (), u29)) (sq_push (20 + 2 * m) Q) (sKJ T u0) := fun h => by
        rw [yu_m0 n3, ys_seq]
        exact HC_end (hk_push h y3)
      by_cases z0 : o = 0
      · rw [if_pos z0]
        unfold sq_sg
        have hmap : ∀ {k : Nat} {x : Nat}, (c.2.1.map upk)[k]? = some x → ∃ d, c.2.1[k]? = some d ∧ x = upk d := fun {k x} hx => by
          rw [List.getElem?_map] at hx
          cases hd : c.2.1[k]? with
          | none => rw [hd] at hx; cases hx
          | some d => rw [hd] at hx; cases hx; exact ⟨d, rfl, rfl⟩
        have h1 := hc_takesL (u := u) (T := T) (L := c.2.1.map upk) (F := fun n b v => jb_Checker_checkStructure_35 fu n (nI o) (nI m) b v) (E := fun v => xs_seq (fm_Types_reference (3 + nI m) 0 v) fun a27 u28 => xs_try (fm_Checker_push a27 u28) fun _ u29 => some (.inl (), u29)) (fun i x hx => by
          obtain ⟨d, hd, rfl⟩ := hmap hx
          exact (upk_v he hc hd).1) he (fun n v _ => ?_) (fun n k x v hv hx => ?_) c.2.1.length fu Q u (by rw [List.length_map]; exact Nat.le_refl _) (by omega) yf_refl h.2.1 h.2.2.1
        · rw [List.take_of_length_le (by rw [List.length_map]; exact Nat.le_refl _)] at h1
          refine HC_bind h1 fun Q1 e1 hJ => ?_
          obtain ⟨w, f1, f2, f3, f4⟩ := hJ
          have f1 : jb_Checker_checkStructure_35 fu fu (nI o) (nI m) (nI c.2.1.length + (-1)) u = _ := f1
          rw [f1, sq_p1]
          exact hfin (sK_n h f2 f3)
        · show jb_Checker_checkStructure_35 fu (n + 1) (nI o) (nI m) (nI 0 + (-1)) v = _
          unfold jb_Checker_checkStructure_35
          simp only [xs_let]
          rw [if_pos nI_neg1]
        · obtain ⟨d, hd, rfl⟩ := hmap hx
          have hkl := yl_lt hd
          show jb_Checker_checkStructure_35 fu (n + 1) (nI o) (nI m) (nI k) v = _
          conv => lhs; unfold jb_Checker_checkStructure_35
          simp only [xs_let]
          rw [if_neg (nI_pos (by omega)), if_pos (c0.mpr z0)]
          unfold jb_Checker_checkStructure_60 jb_Checker_checkStructure_65 jb_Checker_checkStructure_89
          rw [hh_needI (Or.inr rfl), if_neg (show ¬ (1 : Int32) = 0 by decide), if_pos (c0.mpr z0), yCe_m (yCe_fr he hv (by decide)) hc hd, ys_seq, hk_unp (upk_v he hc hd).2.2, ys_seq]
          rfl
      · obtain rfl : o = 1 := by omega
        rw [if_neg z0, if_pos rfl]
        have loop : ∀ k n, k ≤ c.2.1.length → k < n → HC (jb_Checker_checkStructure_35 fu n (nI 1) (nI m) (nI k + (-1)) u) (xs_if (∀ (i : Nat) d, i < k → c.2.1[i]? = some d → ydf d) (sq_push (20 + 2 * m) Q)) (sKJ T u0) := by
          intro k
          induction k with
          | zero =>
            intro n _ hn
            obtain ⟨n, rfl⟩ : ∃ m, n = m + 1 := ⟨n - 1, by omega⟩
            unfold jb_Checker_checkStructure_35
            simp only [xs_let]
            rw [if_pos nI_neg1, xs_ifp (fun i d hi => by omega)]
            exact hfin h
          | succ k ih =>
            intro n hk hn
            obtain ⟨n, rfl⟩ : ∃ m, n = m + 1 := ⟨n - 1, by omega⟩
            obtain ⟨d, hd⟩ := yl_get (l := c.2.1) (k := k) (by omega)
            rw [nI_m1]
            unfold jb_Checker_checkStructure_35
            simp only [xs_let]
            rw [if_neg (nI_pos (by omega)), if_neg (show ¬ nI 1 = (0 : Int32) by decide), yCe_m he hc hd, ys_seq]
            obtain ⟨b1, b2⟩ := hk_dflt (u := u) (d := d) (upk_v he hc hd).2.2
            unfold jb_Checker_checkStructure_60 jb_Checker_checkStructure_65 jb_Checker_checkStructure_89
            by_cases zd : ydf d
            · rw [b1 zd, ys_seq, if_neg (show ¬ (1 : Int32) = 0 by decide), hh_needI (Or.inr rfl), if_neg (show ¬ (1 : Int32) = 0 by decide), if_neg (show ¬ nI 1 = (0 : Int32) by decide)]
              have := ih n (by omega) (by omega)
              refine HC_s ?_ this
              congr 1
              refine propext ⟨fun a i x hi hx => a i x (by omega) hx, fun a i x hi hx => ?_⟩
              by_cases zi : i = k
              · subst zi; rw [hd] at hx; cases hx; exact zd
              · exact a i x (by omega) hx
            · rw [b2 zd, ys_seq, if_pos rfl, hh_needI (Or.inl rfl), if_pos rfl, xs_ifn (fun a => zd (a k d (by omega) hd))]
              exact HC_no
        have := loop c.2.1.length fu (Nat.le_refl _) (by omega)
        refine HC_s ?_ this
        congr 1
        exact propext ⟨fun a i x _ hx => a i x hx, fun a i x hx => a i x (yl_lt hx) hx⟩
  · rw [show fm_Types_is (nI (yn_c m)) 95 u = some (0, u) from i2 z, ys_seq, hh_needI (Or.inl rfl), if_pos rfl]
    have : (T[m]?.bind fun c => xs_if (c.1 = 95) (sq_strc T o m f c Q)) = none := by
      cases hc : T[m]? with
      | none => rfl
      | some c => exact xs_ifn fun y => z ⟨c, hc, y⟩
    rw [this]
    exact HC_no
end
