section
variable {α β γ δ σ τ : Type} {B : Nat → Int32} {u v w u' v' u0 v0 u1 v1 uh um : xk_St} {T : List (Nat × List Nat × List Nat)} {F : List Nat} {G : List (Nat × Nat × Nat × Int64)} {n fu p q k j d b g m i t tc mc D f tn s l : Nat} {H H' : rH} {l7 : List ((Nat × Nat) × Nat × Nat)} {c : Nat × List Nat × List Nat} {b1 b3 b4 b5 : Int32}
/-- a name, by the class -/
theorem hs_same (hs : s + l ≤ 8192) : ∀ (j i nn : Nat), i + j = l → j < nn → (jb_House_sameName_2 fu nn (nI s) (nI l) (nI i) u = some (1, u) ∧ ∀ x, i ≤ x → x < l → u.2.2.1 1 (s + x) = u.2.2.1 0 x) ∨ (jb_House_sameName_2 fu nn (nI s) (nI l) (nI i) u = some (0, u) ∧ ∃ x, i ≤ x ∧ x < l ∧ ¬ u.2.2.1 1 (s + x) = u.2.2.1 0 x) := by
  intro j
  induction j with
  | zero =>
    intro i nn hij hn
    obtain ⟨nn, rfl⟩ : ∃ f, nn = f + 1 := ⟨nn - 1, by omega⟩
    refine Or.inl ⟨?_, fun x h1 h2 => by omega⟩
    unfold jb_House_sameName_2
    rw [xl_eq, if_pos (nI_le (by omega) (by omega))]
  | succ j ih =>
    intro i nn hij hn
    obtain ⟨nn, rfl⟩ : ∃ f, nn = f + 1 := ⟨nn - 1, by omega⟩
    have e : jb_House_sameName_2 fu (nn + 1) (nI s) (nI l) (nI i) u = if u.2.2.1 1 (s + i) = u.2.2.1 0 i then jb_House_sameName_2 fu nn (nI s) (nI l) (nI (i + 1)) u else some (0, u) := by
      conv => lhs; unfold jb_House_sameName_2
      rw [xl_eq, if_neg (fun t => by have := (nI_leI (by omega) (by omega)).mp t; omega), nI_add, ix8192 (by omega), ix8192 (by omega), show (nI (s + i)).toNatClampNeg = s + i from nI_clamp (by omega), show (nI i).toNatClampNeg = i from nI_clamp (by omega), xl_eq, nI_1]
    rw [e]
    by_cases q : u.2.2.1 1 (s + i) = u.2.2.1 0 i
    · rw [if_pos q]
      rcases ih (i + 1) nn (by omega) (by omega) with ⟨a, b⟩ | ⟨a, x, b1, b2, b3⟩
      · refine Or.inl ⟨a, fun x h1 h2 => ?_⟩
        by_cases qx : x = i
        · rw [qx]; exact q
        · exact b x (by omega) h2
      · exact Or.inr ⟨a, x, by omega, b2, b3⟩
    · rw [if_neg q]
      exact Or.inr ⟨rfl, i, Nat.le_refl _, by omega, q⟩
/-- a name, by the reference -/
theorem ms_0 {k4 : Int32 → Int32 → Int32 → xk_St → Option (Int32 × xk_St)} : jb_Model_exportNamed_36 fu k4 (n + 1) b1 b3 0 b5 v = jb_Model_exportNamed_84 fu k4 b1 b3 0 v := by
  conv => lhs; unfold jb_Model_exportNamed_36
  rw [xl_eq]
  by_cases q : b1 ≤ b5
  · rw [if_pos q]
  · rw [if_neg q, if_pos rfl]
theorem ms_same {k4 : Int32 → Int32 → Int32 → xk_St → Option (Int32 × xk_St)} (hs : s + l ≤ 8192) (hk : k < 64) (h16 : v.2.2.1 16 k = nI s) : ∀ (j i nn : Nat), i + j = l → j < nn → (jb_Model_exportNamed_36 fu k4 nn (nI l) (nI k) 1 (nI i) v = jb_Model_exportNamed_84 fu k4 (nI l) (nI k) 1 v ∧ ∀ x, i ≤ x → x < l → v.2.2.1 1 (s + x) = v.2.2.1 0 x) ∨ (jb_Model_exportNamed_36 fu k4 nn (nI l) (nI k) 1 (nI i) v = jb_Model_exportNamed_84 fu k4 (nI l) (nI k) 0 v ∧ ∃ x, i ≤ x ∧ x < l ∧ ¬ v.2.2.1 1 (s + x) = v.2.2.1 0 x) := by
  intro j
  induction j with
  | zero =>
    intro i nn hij hn
    obtain ⟨nn, rfl⟩ : ∃ f, nn = f + 1 := ⟨nn - 1, by omega⟩
    refine Or.inl ⟨?_, fun x h1 h2 => by omega⟩
    conv => lhs; unfold jb_Model_exportNamed_36
    rw [xl_eq, if_pos (nI_le (by omega) (by omega))]
  | succ j ih =>
    intro i nn hij hn
    obtain ⟨nn, rfl⟩ : ∃ f, nn = f + 1 + 1 := ⟨nn - 2, by omega⟩
    have e : jb_Model_exportNamed_36 fu k4 (nn + 1 + 1) (nI l) (nI k) 1 (nI i) v = if v.2.2.1 1 (s + i) = v.2.2.1 0 i then jb_Model_exportNamed_36 fu k4 (nn + 1) (nI l) (nI k) 1 (nI (i + 1)) v else jb_Model_exportNamed_84 fu k4 (nI l) (nI k) 0 v := by
      conv => lhs; unfold jb_Model_exportNamed_36
      unfold jb_Model_exportNamed_76
      rw [xl_eq, if_neg (show ¬ nI l ≤ nI i from fun t => by have := (nI_leI (by omega) (by omega)).mp t; omega), if_neg (show ¬ (1 : Int32) = 0 by decide), ix64 hk, show (nI k).toNatClampNeg = k from nI_clamp (by omega), h16, nI_add, ix8192 (by omega), ix8192 (by omega), show (nI (s + i)).toNatClampNeg = s + i from nI_clamp (by omega), show (nI i).toNatClampNeg = i from nI_clamp (by omega), xl_eq, xl_eq, nI_1, ms_0]
    rw [e]
    by_cases q : v.2.2.1 1 (s + i) = v.2.2.1 0 i
    · rw [if_pos q]
      rcases ih (i + 1) (nn + 1) (by omega) (by omega) with ⟨a, b⟩ | ⟨a, x, b1, b2, b3⟩
      · refine Or.inl ⟨a, fun x h1 h2 => ?_⟩
        by_cases qx : x = i
        · rw [qx]; exact q
        · exact b x (by omega) h2
      · exact Or.inr ⟨a, x, by omega, b2, b3⟩
    · rw [if_neg q]
      exact Or.inr ⟨rfl, i, Nat.le_refl _, by omega, q⟩
/-- an export is looked for by both -/
theorem nm_both (hl : l ≤ 8192) (hfu : 8200 < fu) (hE : rEx F G l7 u v) (h0 : u.2.2.1 0 = v.2.2.1 0) (h1 : u.2.2.1 1 = v.2.2.1 1) : ∀ (j i nn mm : Nat), i + j = l7.length → j < nn → j + 1 < mm → (jb_House_functionNamed_10 fu nn (nI l) (nI i) u = some (-1, u) ∧ jb_Model_exportNamed_4 fu mm (nI l) (-1) (nI i) v = some (-1, v)) ∨ ∃ k a, l7[k]? = some a ∧ jb_House_functionNamed_10 fu nn (nI l) (nI i) u = some (if a.2.1 = 0 then nI a.2.2 else -1, u) ∧ jb_Model_exportNamed_4 fu mm (nI l) (-1) (nI i) v = some (nI k, v) := by
  obtain ⟨⟨e1, e2⟩, ⟨e3, e4, e5⟩, e6, e7⟩ := hE
  intro j
  induction j with
  | zero =>
    intro i nn mm hij hn hm
    obtain ⟨nn, rfl⟩ : ∃ f, nn = f + 1 := ⟨nn - 1, by omega⟩
    obtain ⟨mm, rfl⟩ : ∃ f, mm = f + 1 := ⟨mm - 1, by omega⟩
    refine Or.inl ⟨?_, ?_⟩
    · unfold jb_House_functionNamed_10
      rw [xl_eq, e1, if_pos (nI_le (by omega) (by omega))]
    · unfold jb_Model_exportNamed_4
      rw [xl_eq, e3, if_pos (nI_le (by omega) (by omega))]
  | succ j ih =>
    intro i nn mm hij hn hm
    obtain ⟨nn, rfl⟩ : ∃ f, nn = f + 1 := ⟨nn - 1, by omega⟩
    obtain ⟨mm, rfl⟩ : ∃ f, mm = f + 1 + 1 := ⟨mm - 2, by omega⟩
    obtain ⟨f0, hf0⟩ : ∃ f, fu = f + 1 := ⟨fu - 1, by omega⟩
    obtain ⟨a, ha⟩ : ∃ a, l7[i]? = some a := ⟨_, List.getElem?_eq_getElem (by omega)⟩
    obtain ⟨x1, x2, x3, x4⟩ := e2 i a (by omega) ha
    obtain ⟨y1, y2, y3⟩ := e4 i a (by omega) ha
    obtain ⟨z1, z2, z3, z4⟩ := e7 i a ha
    have cH : jb_House_functionNamed_10 fu (nn + 1) (nI l) (nI i) u = if nI a.1.2 = nI l then xs_seq (jb_House_sameName_2 fu fu (nI a.1.1) (nI l) 0 u) (fun a2 u3 => if a2 = (0 : Int32) then jb_House_functionNamed_10 fu nn (nI l) (nI (i + 1)) u3 else if (u3.2.2.1 24 i) = (0 : Int32) then some ((u3.2.2.2 7 i).toInt32, u3) else some (-1, u3)) else jb_House_functionNamed_10 fu nn (nI l) (nI (i + 1)) u := by
      conv => lhs; unfold jb_House_functionNamed_10
      unfold jb_House_functionNamed_63 fm_House_sameName
      rw [xl_eq, e1, if_neg (fun t => by have := (nI_leI (by omega) (by omega)).mp t; omega), ix65 (by omega), ix65 (by omega), show (nI i).toNatClampNeg = i from nI_clamp (by omega), x2, x1, xl_eq, nI_1]
      by_cases q : nI a.1.2 = nI l
      · rw [if_pos q, if_pos q]
        refine congrArg (xs_seq _) (funext fun a2 => funext fun u3 => ?_)
        rw [xl_eq]
        have i65 : ∀ {α : Type} {o : Option (α × xk_St)}, (if nI i < 0 ∨ 65 ≤ i then none else o) = o := fun {α o} => if_neg (nI_inc (by omega) (by decide))
        rw [i65, i65]
      · rw [if_neg q, if_neg q]
    have cM : jb_Model_exportNamed_4 fu (mm + 1 + 1) (nI l) (-1) (nI i) v = if nI a.1.2 = nI l then jb_Model_exportNamed_36 fu (jb_Model_exportNamed_4 fu (mm + 1)) fu (nI l) (nI i) 1 0 v else jb_Model_exportNamed_36 fu (jb_Model_exportNamed_4 fu (mm + 1)) fu (nI l) (nI i) 0 0 v := by
      conv => lhs; unfold jb_Model_exportNamed_4
      unfold jb_Model_exportNamed_31
      rw [xl_eq, e3, if_neg (show ¬ nI l7.length ≤ nI i from fun t => by have := (nI_leI (by omega) (by omega)).mp t; omega), if_neg (show ¬ (0 : Int32) ≤ -1 by decide), ix64 (by omega), show (nI i).toNatClampNeg = i from nI_clamp (by omega), y2]
    have k84 : jb_Model_exportNamed_84 fu (jb_Model_exportNamed_4 fu (mm + 1)) (nI l) (nI i) 0 v = jb_Model_exportNamed_4 fu (mm + 1) (nI l) (-1) (nI (i + 1)) v := by
      unfold jb_Model_exportNamed_84 jb_Model_exportNamed_94
      rw [if_pos rfl, xl_eq, nI_1]
    have k84' : jb_Model_exportNamed_84 fu (jb_Model_exportNamed_4 fu (mm + 1)) (nI l) (nI i) 1 v = some (nI i, v) := by
      unfold jb_Model_exportNamed_84 jb_Model_exportNamed_94
      rw [if_neg (show ¬ (1 : Int32) = 0 by decide), xl_eq, nI_1]
      unfold jb_Model_exportNamed_4
      rw [xl_eq, e3]
      by_cases q : nI l7.length ≤ nI (i + 1)
      · rw [if_pos q]
      · rw [if_neg q, if_pos (show (0 : Int32) ≤ nI i from nI_le (a := 0) (by omega) (by omega))]
    rw [cH, cM]
    by_cases q : nI a.1.2 = nI l
    · rw [if_pos q, if_pos q]
      have hal : a.1.2 = l := (nI_eq (by omega) (by omega)).mp q
      have hh := hs_same (fu := fu) (u := u) (s := a.1.1) (l := l) (by omega) l 0 fu (by omega) (by omega)
      have hm' := ms_same (fu := fu) (v := v) (k4 := jb_Model_exportNamed_4 fu (mm + 1)) (s := a.1.1) (l := l) (k := i) (by omega) (by omega) y1 l 0 fu (by omega) (by omega)
      rw [show nI 0 = (0 : Int32) from rfl] at hh hm'
      rcases hh with ⟨a1, a2⟩ | ⟨a1, x, a2, a3, a4⟩
      · rcases hm' with ⟨b1, b2⟩ | ⟨b1, x, b2, b3, b4⟩
        · rw [a1, ys_seq, if_neg (show ¬ (1 : Int32) = 0 by decide), x3, x4, yn_cs (by omega), sb_nLi (by omega), b1, k84']
          refine Or.inr ⟨i, a, ha, ?_, rfl⟩
          by_cases q0 : a.2.1 = 0
          · rw [if_pos (show nI a.2.1 = 0 by rw [q0]; rfl), if_pos q0]
          · rw [if_neg (show ¬ nI a.2.1 = (0 : Int32) from fun t => q0 ((nI_eq (b := 0) (by omega) (by decide)).mp t)), if_neg q0]
        · exact absurd (by rw [← h0, ← h1]; exact a2 x b2 b3) b4
      · rcases hm' with ⟨b1, b2⟩ | ⟨b1, x, b2, b3, b4⟩
        · exact absurd (by rw [h0, h1]; exact b2 x a2 a3) a4
        · rw [a1, ys_seq, if_pos rfl, b1, k84]
          exact ih (i + 1) nn (mm + 1) (by omega) (by omega) (by omega)
    · rw [if_neg q, if_neg q]
      have e0 : jb_Model_exportNamed_36 fu (jb_Model_exportNamed_4 fu (mm + 1)) fu (nI l) (nI i) 0 0 v = jb_Model_exportNamed_84 fu (jb_Model_exportNamed_4 fu (mm + 1)) (nI l) (nI i) 0 v := by
        have := ms_0 (fu := fu) (n := f0) (k4 := jb_Model_exportNamed_4 fu (mm + 1)) (b1 := nI l) (b3 := nI i) (b5 := 0) (v := v)
        rw [← hf0] at this
        exact this
      rw [e0, k84]
      exact ih (i + 1) nn (mm + 1) (by omega) (by omega) (by omega)
/-- whether arguments can be given, by both -/
theorem tk_h (he : yCe T u) (hc : T[t]? = some c) : ∀ (j i nn : Nat), i + j = c.2.1.length → j < nn → (jb_House_takes_20 fu nn (nI t) (nI c.2.1.length) (nI i) u = some (1, u) ∧ ∀ x d, i ≤ x → c.2.1[x]? = some d → d < 16) ∨ (jb_House_takes_20 fu nn (nI t) (nI c.2.1.length) (nI i) u = some (0, u) ∧ ∃ x d, i ≤ x ∧ c.2.1[x]? = some d ∧ 16 ≤ d) := by
  have hl16 := (yCe_n he hc).2.1
  intro j
  induction j with
  | zero =>
    intro i nn hij hn
    obtain ⟨nn, rfl⟩ : ∃ f, nn = f + 1 := ⟨nn - 1, by omega⟩
    refine Or.inl ⟨?_, fun x d h1 h2 => by have := yl_lt h2; omega⟩
    unfold jb_House_takes_20
    rw [xl_eq, if_pos (nI_le (by omega) (by omega))]
  | succ j ih =>
    intro i nn hij hn
    obtain ⟨nn, rfl⟩ : ∃ f, nn = f + 1 := ⟨nn - 1, by omega⟩
    obtain ⟨d, hd⟩ : ∃ d, c.2.1[i]? = some d := ⟨_, List.getElem?_eq_getElem (by omega)⟩
    have hdv := yCe_mv he hc hd
    have e : jb_House_takes_20 fu (nn + 1) (nI t) (nI c.2.1.length) (nI i) u = if d < 16 then jb_House_takes_20 fu nn (nI t) (nI c.2.1.length) (nI (i + 1)) u else some (0, u) := by
      conv => lhs; unfold jb_House_takes_20
      rw [xl_eq, if_neg (fun t => by have := (nI_leI (by omega) (by omega)).mp t; omega), yCe_m he hc hd, ys_seq, hh_isRef hdv.2.2.1, ys_seq, xl_eq, nI_1]
      by_cases q : d < 16
      · rw [if_pos q, if_pos rfl, if_pos q]
      · rw [if_neg q, if_neg (by decide), if_neg q]
    rw [e]
    by_cases q : d < 16
    · rw [if_pos q]
      rcases ih (i + 1) nn (by omega) (by omega) with ⟨a, b⟩ | ⟨a, x, d2, b1, b2, b3⟩
      · refine Or.inl ⟨a, fun x d2 h1 h2 => ?_⟩
        by_cases qx : x = i
        · rw [qx, hd] at h2; cases h2; exact q
        · exact b x d2 (by omega) h2
      · exact Or.inr ⟨a, x, d2, by omega, b2, b3⟩
    · rw [if_neg q]
      exact Or.inr ⟨rfl, i, d, Nat.le_refl _, hd, by omega⟩
theorem tk_m0 (hE : yTM T v) (hc : T[t]? = some c) : ∀ (j i nn : Nat), i + j = c.2.1.length → j < nn → jb_Model_call_113 fu nn b1 b3 b4 (nI t) 0 (nI i) v = some (-3, v) := by
  have ht := yl_lt hc
  have h64 : T.length ≤ 64 := hE.2.1.1
  obtain ⟨⟨-, h5, -⟩, -, e⟩ := hE.2.2.1 t c ht hc
  have hl16 := e.1
  intro j
  induction j with
  | zero =>
    intro i nn hij hn
    obtain ⟨nn, rfl⟩ : ∃ f, nn = f + 1 := ⟨nn - 1, by omega⟩
    unfold jb_Model_call_113
    rw [xl_eq, ix64 (by omega), show (nI t).toNatClampNeg = t from nI_clamp (by omega), h5, if_pos (nI_le (by omega) (by omega)), if_pos rfl]
  | succ j ih =>
    intro i nn hij hn
    obtain ⟨nn, rfl⟩ : ∃ f, nn = f + 1 := ⟨nn - 1, by omega⟩
    rw [← ih (i + 1) nn (by omega) (by omega)]
    conv => lhs; unfold jb_Model_call_113
    unfold jb_Model_call_153 jb_Model_call_154
    rw [xl_eq, ix64 (by omega), show (nI t).toNatClampNeg = t from nI_clamp (by omega), h5, if_neg (show ¬ nI c.2.1.length ≤ nI i from fun t => by have := (nI_leI (by omega) (by omega)).mp t; omega), if_pos rfl, xl_eq, nI_1]
theorem tk_m (hE : yTM T v) (hc : T[t]? = some c) (h96 : c.1 = 96) : ∀ (j i nn : Nat), i + j = c.2.1.length → j < nn → (jb_Model_call_113 fu nn b1 b3 b4 (nI t) 1 (nI i) v = jb_Model_call_173 fu fu b1 b3 b4 (nI t) 0 v ∧ ∀ x d, i ≤ x → c.2.1[x]? = some d → d < 16) ∨ (jb_Model_call_113 fu nn b1 b3 b4 (nI t) 1 (nI i) v = some (-3, v) ∧ ∃ x d, i ≤ x ∧ c.2.1[x]? = some d ∧ 16 ≤ d) := by
  have ht := yl_lt hc
  have h64 : T.length ≤ 64 := hE.2.1.1
  obtain ⟨⟨-, h5, -⟩, -, e⟩ := hE.2.2.1 t c ht hc
  have hl16 := e.1
  intro j
  induction j with
  | zero =>
    intro i nn hij hn
    obtain ⟨nn, rfl⟩ : ∃ f, nn = f + 1 := ⟨nn - 1, by omega⟩
    refine Or.inl ⟨?_, fun x d h1 h2 => by have := yl_lt h2; omega⟩
    unfold jb_Model_call_113
    rw [xl_eq, ix64 (by omega), show (nI t).toNatClampNeg = t from nI_clamp (by omega), h5, if_pos (nI_le (by omega) (by omega)), if_neg (show ¬ (1 : Int32) = 0 by decide)]
  | succ j ih =>
    intro i nn hij hn
    obtain ⟨nn, rfl⟩ : ∃ f, nn = f + 1 := ⟨nn - 1, by omega⟩
    obtain ⟨d, hd⟩ : ∃ d, c.2.1[i]? = some d := ⟨_, List.getElem?_eq_getElem (by omega)⟩
    have hdv := yTM_par hE hc h96 hd
    obtain ⟨h7, -, -⟩ := yTM_p hE hc hd
    have e : jb_Model_call_113 fu (nn + 1) b1 b3 b4 (nI t) 1 (nI i) v = if d < 16 then jb_Model_call_113 fu nn b1 b3 b4 (nI t) 1 (nI (i + 1)) v else jb_Model_call_113 fu nn b1 b3 b4 (nI t) 0 (nI (i + 1)) v := by
      conv => lhs; unfold jb_Model_call_113
      unfold jb_Model_call_153 jb_Model_call_154
      rw [xl_eq, ix64 (by omega), show (nI t).toNatClampNeg = t from nI_clamp (by omega), h5, if_neg (show ¬ nI c.2.1.length ≤ nI i from fun t => by have := (nI_leI (by omega) (by omega)).mp t; omega), if_neg (show ¬ (1 : Int32) = 0 by decide), nI_32, if_neg (nI_in (N := 2048) (by omega) (by decide)), show (nI (32 * t + i)).toNatClampNeg = 32 * t + i from nI_clamp (by omega), h7, mm_isRef hdv.1.1, ys_seq, xl_eq, xl_eq, nI_1]
      by_cases q : d < 16
      · rw [if_pos q, if_pos rfl, if_pos q]
      · rw [if_neg q, if_neg (by decide), if_neg q]
    rw [e]
    by_cases q : d < 16
    · rw [if_pos q]
      rcases ih (i + 1) nn (by omega) (by omega) with ⟨a, b⟩ | ⟨a, x, d2, b1, b2, b3⟩
      · refine Or.inl ⟨a, fun x d2 h1 h2 => ?_⟩
        by_cases qx : x = i
        · rw [qx, hd] at h2; cases h2; exact q
        · exact b x d2 (by omega) h2
      · exact Or.inr ⟨a, x, d2, by omega, b2, b3⟩
    · rw [if_neg q]
      exact Or.inr ⟨tk_m0 hE hc j (i + 1) nn (by omega) (by omega), i, d, Nat.le_refl _, hd, by omega⟩
/-- arguments are laid by both -/
theorem la_both (he : yCe T u0) (hE : yTM T v0) (hc : T[t]? = some c) (h96 : c.1 = 96) (hall : ∀ x d, 0 ≤ x → c.2.1[x]? = some d → d < 16) (hB : ∀ i, i < c.2.1.length → u0.2.2.2 0 i = v0.2.2.2 0 i) : ∀ (j i nn mm : Nat) (u v : xk_St), i + j = c.2.1.length → j < nn → j < mm → yf_fr [28] [] [37] [10] u0 u → yf_fr [26] [] [29] [3] v0 v → RS T H (c.2.1.take i) u v → ∃ u' v', jb_House_layArguments_2 fu nn (nI t) (nI c.2.1.length) (nI i) u = some ((), u') ∧ jb_Model_call_173 fu mm b1 (nI c.2.1.length) b4 (nI t) (nI i) v = (xs_let (xs_I v' 29 (0 : Int32)) fun u11 => if b4 < 0 ∨ 64 ≤ b4.toNatClampNeg then none else xs_seq (fm_Model_run fu (u11.2.2.1 19 b4.toNatClampNeg) (b1.toInt64) u11) fun _ u12 => some ((u12.1 29), u12)) ∧ yf_fr [28] [] [37] [10] u0 u' ∧ yf_fr [26] [] [29] [3] v0 v' ∧ RS T H c.2.1 u' v' := by
  have hl16 := (yCe_n he hc).2.1
  have ht64 := (yCe_n he hc).2.2.1
  intro j
  induction j with
  | zero =>
    intro i nn mm u v hij hn hm hfu hfv hRS
    obtain ⟨nn, rfl⟩ : ∃ f, nn = f + 1 := ⟨nn - 1, by omega⟩
    obtain ⟨mm, rfl⟩ : ∃ f, mm = f + 1 := ⟨mm - 1, by omega⟩
    refine ⟨u, v, ?_, ?_, hfu, hfv, by rw [List.take_of_length_le (by omega)] at hRS; exact hRS⟩
    · unfold jb_House_layArguments_2
      rw [xl_eq, if_pos (nI_le (by omega) (by omega))]
    · unfold jb_Model_call_173
      rw [xl_eq, if_pos (nI_le (by omega) (by omega))]
  | succ j ih =>
    intro i nn mm u v hij hn hm hfu hfv hRS
    obtain ⟨nn, rfl⟩ : ∃ f, nn = f + 1 := ⟨nn - 1, by omega⟩
    obtain ⟨mm, rfl⟩ : ∃ f, mm = f + 1 := ⟨mm - 1, by omega⟩
    obtain ⟨d, hd⟩ : ∃ d, c.2.1[i]? = some d := ⟨_, List.getElem?_eq_getElem (by omega)⟩
    have hdv := yCe_mv he hc hd
    have hd16 := hall i d (by omega) hd
    have hd12 : d = 1 ∨ d = 2 := by
      rcases hdv.2.2.2 with x | x | x | ⟨x, -⟩
      · exact Or.inl x
      · exact Or.inr x
      · omega
      · exact absurd h96 x
    have hlen : (c.2.1.take i).length = i := by rw [List.length_take]; omega
    have htk : c.2.1.take (i + 1) = c.2.1.take i ++ [d] := by rw [List.take_add_one, hd]; rfl
    have h28 : u.1 28 = nI i := by rw [hRS.1, hlen]
    have h26 : v.1 26 = nI i := by rw [hRS.2.1, hlen]
    have hb0 : u.2.2.2 0 i = v.2.2.2 0 i := by rw [hfu.2.2.2 0 (by decide), hfv.2.2.2 0 (by decide)]; exact hB i (by omega)
    have hmem : fm_Types_member (nI t) (nI i) u = some (nI (yv_h d), u) := yCe_m (yCe_fr he hfu (by decide)) hc hd
    have hyv : yv_h d = d := if_pos (by omega)
    obtain ⟨h7, -, -⟩ := yTM_p (yTM_fr hE hfv (by decide)) hc hd
    let val : Int64 := if d = 1 then (v.2.2.2 0 i).toInt32.toInt64 else v.2.2.2 0 i
    have hrv : rv T H d val 0 val := by
      rcases hd12 with rfl | rfl
      · exact rv_i
      · exact rv_n2
    have hRS' : RS T H (c.2.1.take (i + 1)) (uP u i val 0) (vP v i val 0) := by
      have := RS_push hRS (by rw [hlen]; omega) hrv
      rw [hlen, if_neg (show ¬ 16 ≤ d by omega)] at this
      rw [htk]; exact this
    obtain ⟨u', v', r1, r2, r3⟩ := ih (i + 1) nn mm (uP u i val 0) (vP v i val 0) (by omega) (by omega) (by omega) (yf_trans hfu uP_f) (yf_trans hfv vP_f) hRS'
    refine ⟨u', v', ?_, ?_, r3⟩
    · rw [← r1]
      conv => lhs; unfold jb_House_layArguments_2
      unfold jb_House_layArguments_28 jb_House_layArguments_59
      have i16 : ∀ {α : Type} {o : Option (α × xk_St)}, (if nI i < 0 ∨ 16 ≤ (nI i).toNatClampNeg then none else o) = o := fun {α o} => if_neg (nI_in (N := 16) (by omega) (by decide))
      rw [xl_eq, if_neg (show ¬ nI c.2.1.length ≤ nI i from fun t => by have := (nI_leI (by omega) (by omega)).mp t; omega), hmem, ys_seq, hyv, i16, i16, show (nI i).toNatClampNeg = i from nI_clamp (by omega), hp_push h28 (by omega), hp_push h28 (by omega), ys_seq, ys_seq, xl_eq, xl_eq, nI_1, hb0, if_neg (show ¬ (1 : Int32) = 0 by decide), if_pos (show (0 : Int32) = 0 from rfl)]
      rcases hd12 with rfl | rfl
      · rw [if_pos (show nI 1 = (1 : Int32) from rfl)]; rfl
      · rw [if_neg (show ¬ nI 2 = (1 : Int32) by decide)]; rfl
    · rw [← r2]
      conv => lhs; unfold jb_Model_call_173
      unfold jb_Model_call_216
      have i16 : ∀ {α : Type} {o : Option (α × xk_St)}, (if nI i < 0 ∨ 16 ≤ (nI i).toNatClampNeg then none else o) = o := fun {α o} => if_neg (nI_in (N := 16) (by omega) (by decide))
      rw [xl_eq, if_neg (show ¬ nI c.2.1.length ≤ nI i from fun t => by have := (nI_leI (by omega) (by omega)).mp t; omega), nI_32, if_neg (nI_in (N := 2048) (by omega) (by decide)), show (nI (32 * t + i)).toNatClampNeg = 32 * t + i from nI_clamp (by omega), h7, i16, i16, show (nI i).toNatClampNeg = i from nI_clamp (by omega), mp_lay h26 (by omega) (Or.inl rfl), mp_lay h26 (by omega) (Or.inl rfl), ys_seq, ys_seq, xl_eq, xl_eq, nI_1]
      rcases hd12 with rfl | rfl
      · rw [if_pos (show nI 1 = (1 : Int32) from rfl)]; rfl
      · rw [if_neg (show ¬ nI 2 = (1 : Int32) by decide)]; rfl
end
