section
variable {α β γ δ σ τ : Type} {B : Nat → Int32} {u v w u' v' u0 v0 u1 v1 uh um : xk_St} {T : List (Nat × List Nat × List Nat)} {F : List Nat} {G : List (Nat × Nat × Nat × Int64)} {n fu p q k j d b g m i t sz ix tc D len : Nat} {H H' : rH}
/-- a byte with its sign -/
def by8 (x : Int32) : Prop := x.toInt8.toInt32 = x
theorem by8_n {x : Int32} (h : by8 x) : vp_nar .byte x = x := by rw [vp_nar_byte]; exact h
theorem by8_f {x : Int32} (h : by8 x) : fits .byte (.int x) = true := by
  have e : x.toInt = x.toInt8.toInt := by
    have := congrArg Int32.toInt h
    rw [Int8.toInt_toInt32] at this
    exact this.symm
  have h1 := Int8.le_toInt x.toInt8
  have h2 := Int8.toInt_lt x.toInt8
  have a1 : (-128 : Int32) ≤ x := Int32.le_iff_toInt_le.mpr (by
    rw [e]
    show (-128 : Int) ≤ _
    omega)
  have a2 : x ≤ (127 : Int32) := Int32.le_iff_toInt_le.mpr (by
    rw [e]
    show _ ≤ (127 : Int)
    omega)
  show (decide (-128 ≤ x) && decide (x ≤ 127)) = true
  rw [Bool.and_eq_true, decide_eq_true_eq, decide_eq_true_eq]
  exact ⟨a1, a2⟩
/-- sections lie within the module -/
theorem secs_le : ∀ {d last p : Nat} {ss : List (Nat × Nat × Nat)} {z : Nat}, yp_secs D B len d last p = .inl (ss, z) → ∀ x, x ∈ ss → x.2.2 ≤ len := by
  intro d
  induction d with
  | zero => intro last p ss z h; cases h
  | succ d ih =>
    intro last p ss z h x hx
    unfold yp_secs at h
    by_cases c : len ≤ p
    · rw [if_pos c] at h; cases h; cases hx
    · rw [if_neg c] at h
      obtain ⟨b, q, -, h⟩ := yp_thenI h
      split at h
      · obtain ⟨n, r, hn, h⟩ := yp_thenI h
        have hb := yp_Nb hn
        split at h
        · rename_i hnr
          obtain ⟨-, e, -, h⟩ := yp_thenI h
          split at h
          · rename_i he
            obtain ⟨l, z', hl, h⟩ := yp_thenI h
            cases h
            rcases List.mem_cons.mp hx with q | q
            · rw [q]
              show e ≤ len
              omega
            · exact ih hl x q
          · cases h
        · cases h
      · cases h
theorem yS_in : ∀ {ss : List (Nat × Nat × Nat)} {S : Nat → Option (Nat × Nat)} {j : Nat} {x : Nat × Nat}, yS_ext S ss j = some x → S j = some x ∨ ∃ y, y ∈ ss ∧ y.2 = x := by
  intro ss
  induction ss with
  | nil => intro S j x h; exact Or.inl h
  | cons y r ih =>
    intro S j x h
    rcases ih h with h | ⟨y', h1, h2⟩
    · have h : (if j = y.1 then some (y.2.1, y.2.2) else S j) = some x := h
      by_cases q : j = y.1
      · rw [if_pos q] at h; cases h
        exact Or.inr ⟨y, List.mem_cons_self, rfl⟩
      · rw [if_neg q] at h; exact Or.inl h
    · exact Or.inr ⟨y', List.mem_cons_of_mem _ h1, h2⟩
theorem mod_le {ss : List (Nat × Nat × Nat)} {z : Nat} (h : yp_mod D B len = .inl (ss, z)) : ∀ j x, yS_ext yS_0 ss j = some x → x.2 ≤ len := by
  obtain ⟨-, q, -, h⟩ := yp_thenI h
  intro j x hx
  rcases yS_in hx with t | ⟨y, y1, y2⟩
  · cases t
  · rw [← y2]; exact secs_le h y y1
/-- what both sides hold at any rest -/
def rB (uh um : xk_St) : Prop := (uh.2.2.1 0 = um.2.2.1 0 ∧ uh.2.2.1 1 = um.2.2.1 1 ∧ (∀ i, by8 (uh.2.2.1 0 i)) ∧ ∀ i, by8 (uh.2.2.1 1 i)) ∧ (∃ n, n ≤ 8192 ∧ uh.1 0 = nI n ∧ um.1 1 = nI n) ∧ (∃ g, g ≤ 16 ∧ uh.1 1 = nI g ∧ um.1 2 = nI g ∧ ∀ i, i < g → uh.2.2.2 0 i = um.2.2.2 0 i) ∧ (∃ r, r ≤ 16 ∧ uh.1 2 = nI r ∧ um.1 31 = nI r ∧ ∀ i, i < r → uh.2.2.2 1 i = um.2.2.2 4 i) ∧ uh.1 3 = um.1 30 ∧ uh.1 28 = 0 ∧ um.1 26 = 0 ∧ hFr uh ∧ hMz uh
/-- the bytes of a module that is loaded -/
def ldB (uh : xk_St) (n : Nat) : Nat → Int32 := va_cpy (uh.2.2.1 0) (uh.2.2.1 1) 0 0 n
theorem ldB_8 (h : rB uh um) : ∀ i, by8 (ldB uh n i) := fun i => by
  show by8 (if 0 ≤ i ∧ i < 0 + n then uh.2.2.1 0 (0 + (i - 0)) else uh.2.2.1 1 i)
  by_cases c : 0 ≤ i ∧ i < 0 + n
  · rw [if_pos c]; exact h.1.2.2.1 _
  · rw [if_neg c]; exact h.1.2.2.2 _
/-- what the reference does once the bytes are taken over -/
noncomputable def mLd (fu : Nat) (v : xk_St) : Option (Int32 × xk_St) := xs_seq (fm_Model_walk fu (xs_I (xs_I (xs_I (xs_I v 1 0) 25 0) 31 0) 30 0)) fun _ u7 => if (u7.1 6) = (0 : Int32) then ((xs_seq (fm_Model_takeDown fu u7) fun _ u8 => if (u8.1 7) = (0 : Int32) then ((xs_seq (fm_Model_instance fu u8) fun _ u9 => some ((u9.1 29), u9))) else (some ((-2 : Int32), u8)))) else (some ((u7.1 6), u7))
theorem ml_cp (hb : ∀ i, by8 (v0.2.2.1 0 i)) (hn : n ≤ 8192) : ∀ (j i nn : Nat) (v : xk_St), i + j = n → j < nn → v.1 3 = nI n → v.2.2.1 0 = v0.2.2.1 0 → ∃ v', jb_Model_load_15 fu nn (nI i) v = mLd fu v' ∧ yf_fr [] [] [1] [] v v' ∧ v'.2.2.1 1 = fun k => if i ≤ k ∧ k < n then v0.2.2.1 0 k else v.2.2.1 1 k := by
  intro j
  induction j with
  | zero =>
    intro i nn v hij hnn h3 h0
    obtain ⟨nn, rfl⟩ : ∃ f, nn = f + 1 := ⟨nn - 1, by omega⟩
    refine ⟨v, ?_, yf_refl, funext fun k => by rw [if_neg (by omega)]⟩
    unfold jb_Model_load_15 mLd
    simp only [xs_let]
    rw [h3, if_pos (nI_le (by omega) (by omega))]
  | succ j ih =>
    intro i nn v hij hnn h3 h0
    obtain ⟨nn, rfl⟩ : ∃ f, nn = f + 1 := ⟨nn - 1, by omega⟩
    obtain ⟨v', r1, r2, r3⟩ := ih (i + 1) nn (xs_A v 1 i (v0.2.2.1 0 i)) (by omega) (by omega) h3 h0
    refine ⟨v', ?_, yf_trans (yf_A yf_refl (by decide)) r2, ?_⟩
    · rw [← r1]
      conv => lhs; unfold jb_Model_load_15
      simp only [xs_let]
      rw [h3, if_neg (fun t => by have := (nI_leI (by omega) (by omega)).mp t; omega), ix8192 (by omega), ix8192 (by omega), show (nI i).toNatClampNeg = i from nI_clamp (by omega), h0, by8_n (hb i), nI_1]
    · rw [r3]
      funext k
      show (if i + 1 ≤ k ∧ k < n then _ else upd (v.2.2.1 1) i (v0.2.2.1 0 i) k) = _
      by_cases q : k = i
      · subst q
        rw [if_neg (by omega), ya_t, if_pos (by omega)]
      · rw [ya_j q]
        by_cases c : i + 1 ≤ k ∧ k < n
        · rw [if_pos c, if_pos (by omega)]
        · rw [if_neg c, if_neg (by omega)]
/-- both have taken the bytes -/
theorem ld_take (hfu : 70000 < fu) (h : rB uh um) : ∃ n uc um1, n ≤ 8192 ∧ fm_House_load fu uh = (xs_cat (jb_Reader_readModule_23 fu fu (nI n) 0 (xs_I (xs_I (xs_AA uc 1 (ldB uh n)) 17 0) 18 (nI n))) (fun k9 u10 => if k9 = 0 then (some ((-1 : Int32), u10)) else if k9 = 1 then (some ((-3 : Int32), u10)) else none) fun _ u8 => xs_cat (fm_Checker_checkParts fu u8) (fun k13 u14 => if k13 = 0 then (some ((-2 : Int32), u14)) else none) fun _ u12 => jb_House_load_70 fu fu (0 : Int32) u12) ∧ yf_fr [0, 2, 3, 4, 5, 6, 7, 8, 9, 10, 11, 12, 13, 14, 15, 16, 28, 29, 30, 32, 33, 34] [] [44, 46] [] uh uc ∧ (uc.1 0 = 0 ∧ uc.1 2 = 0 ∧ uc.1 3 = 0 ∧ uc.1 4 = 0) ∧ (uc.1 5 = 0 ∧ uc.1 6 = -1 ∧ uc.1 7 = 0 ∧ uc.1 8 = 0 ∧ uc.1 9 = 0 ∧ uc.1 10 = 0 ∧ uc.1 11 = 0 ∧ uc.1 12 = 0 ∧ uc.1 13 = 0 ∧ uc.1 14 = 0 ∧ uc.1 15 = 0 ∧ uc.1 16 = 0) ∧ (uc.1 28 = 0 ∧ uc.1 29 = 0 ∧ uc.1 32 = 0 ∧ uc.1 33 = 0 ∧ uc.1 34 = 0) ∧ (∀ i, i < 65536 → uc.2.2.1 46 i = 0) ∧ uc.1 30 = nI 2000 ∧ (∃ q : Nat → Nat, (∀ i, i < 2000 → uc.2.2.1 44 i = nI (q i) ∧ 0 < q i ∧ q i ≤ 2000) ∧ ∀ i j, i < 2000 → j < 2000 → q i = q j → i = j) ∧ (∀ i, i < 2001 → uc.2.2.1 43 i = 0) ∧ fm_Model_load fu um = mLd fu um1 ∧ yf_fr [0, 3] [] [1] [] um um1 ∧ um1.1 0 = 0 ∧ um1.1 3 = nI n ∧ um1.2.2.1 1 = ldB uh n := by
  obtain ⟨⟨b1, b2, b3, b4⟩, ⟨n, n1, n2, n3⟩, b5, b6, b7, b8, b9, bF, bM⟩ := h
  have hF1 : hFr (xs_I (xs_I (xs_I (xs_I uh 0 0) 2 0) 3 0) 4 0) := bF
  have hM1 : hMz (xs_I (xs_I (xs_I (xs_I uh 0 0) 2 0) 3 0) 4 0) := bM
  obtain ⟨ub, uc, c1, c2, c3, c4, c5, c6, c7, c8, c9⟩ := hl_clear (fu := fu) hfu hF1 hM1
  have hf : yf_fr [0, 2, 3, 4, 5, 6, 7, 8, 9, 10, 11, 12, 13, 14, 15, 16, 28, 29, 30, 32, 33, 34] [] [44, 46] [] uh uc := yf_trans (yf_I (yf_I (yf_I (yf_I yf_refl (by decide)) (by decide)) (by decide)) (by decide)) (yf_mono c3 (by decide))
  obtain ⟨v', d1, d2, d3⟩ := ml_cp (fu := fu) (v0 := um) (n := n) (by rw [← b1]; exact b3) n1 n 0 fu (xs_I (xs_I um 0 0) 3 (nI n)) (by omega) (by omega) rfl rfl
  refine ⟨n, uc, v', n1, ?_, hf, ⟨?_, ?_, ?_, ?_⟩, c4, c5, c6, c7, c8, c9, ?_, ?_, ?_, ?_, ?_⟩
  · unfold fm_House_load
    simp only [xs_let]
    rw [c1, ys_seq, c2, ys_seq, n2]
    have er : fm_Reader_readModule fu (nI n) uc = jb_Reader_readModule_23 fu fu (nI n) 0 (xs_I (xs_I (xs_AA uc 1 (ldB uh n)) 17 0) 18 (nI n)) := by
      unfold fm_Reader_readModule
      have z0 : (0 : Int32).toNatClampNeg = 0 := by decide
      have zn : (nI n).toNatClampNeg = n := nI_clamp (by omega)
      rw [z0, zn, if_neg (by
        rintro (q | q | q | q | q)
        · exact absurd q (by decide)
        · exact absurd q (by decide)
        · exact nI_inc (k := n) (N := 100000) (by omega) (by decide) (Or.inl q)
        · omega
        · omega)]
      have e0 : uc.2.2.1 0 = uh.2.2.1 0 := hf.2.2.1 0 (by decide)
      have e1 : uc.2.2.1 1 = uh.2.2.1 1 := hf.2.2.1 1 (by decide)
      rw [xs_ifp (fun i _ => by rw [e0]; exact by8_f (b3 _))]
      simp only [xs_let]
      rw [e0, e1]; rfl
    rw [er]
  · rw [c3.1 0 (by decide)]; rfl
  · rw [c3.1 2 (by decide)]; rfl
  · rw [c3.1 3 (by decide)]; rfl
  · rw [c3.1 4 (by decide)]; rfl
  · unfold fm_Model_load
    simp only [xs_let]
    have w1 : (xs_I um 0 0).1 1 = nI n := n3
    rw [w1]
    exact d1
  · exact yf_trans (yf_I (yf_I yf_refl (by decide)) (by decide)) (yf_mono d2 (by decide))
  · rw [d2.1 0 (by simp)]; rfl
  · rw [d2.1 3 (by simp)]; rfl
  · rw [d3]
    funext k
    show (if 0 ≤ k ∧ k < n then um.2.2.1 0 k else um.2.2.1 1 k) = (if 0 ≤ k ∧ k < 0 + n then uh.2.2.1 0 (0 + (k - 0)) else uh.2.2.1 1 k)
    rw [b1, b2, Nat.zero_add, Nat.zero_add, Nat.sub_zero]
end
