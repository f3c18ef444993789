section
variable {α β γ δ σ τ : Type} {u v w u' v' u0 v0 u1 v1 : xk_St} {T : List (Nat × List Nat × List Nat)} {F : List Nat} {G : List (Nat × Nat × Nat × Int64)} {n fu p q k j d b g m i t sz ix : Nat} {H H' : rH} {c : Nat × List Nat × List Nat} {e : Nat × Nat × Nat × Nat} {ms pl : List Nat} {W : List Nat}
theorem hz_fill (hb : b ≤ 2000) : ∀ (j i n : Nat) (u : xk_St), i + j = b → j < n → ∃ u', jb_Arrays_fill_AJIIJ__h69_10 fu n (nI b) 0 (nI i) u = some ((), u') ∧ yf_fr [] [] [] [12] u u' ∧ (∀ x, i ≤ x → x < b → u'.2.2.2 12 x = 0) ∧ ∀ x, x < i ∨ b ≤ x → u'.2.2.2 12 x = u.2.2.2 12 x := by
  intro j
  induction j with
  | zero =>
    intro i n u hij hn
    obtain ⟨n, rfl⟩ : ∃ f, n = f + 1 := ⟨n - 1, by omega⟩
    refine ⟨u, ?_, yf_refl, fun x h1 h2 => by omega, fun x _ => rfl⟩
    unfold jb_Arrays_fill_AJIIJ__h69_10
    simp only [xs_let]
    rw [if_pos (nI_le (by omega) (by omega))]
  | succ j ih =>
    intro i n u hij hn
    obtain ⟨n, rfl⟩ : ∃ f, n = f + 1 := ⟨n - 1, by omega⟩
    obtain ⟨u', r1, r2, r3, r4⟩ := ih (i + 1) n (xs_B u 12 i 0) (by omega) (by omega)
    refine ⟨u', ?_, yf_trans (yf_B yf_refl (by decide)) r2, fun x h1 h2 => ?_, fun x hx => ?_⟩
    · rw [← r1]
      conv => lhs; unfold jb_Arrays_fill_AJIIJ__h69_10
      simp only [xs_let]
      rw [if_neg (fun t => by have := (nI_leI (by omega) (by omega)).mp t; omega), ix2000 (by omega), show (nI i).toNatClampNeg = i from nI_clamp (by omega), nI_1]
    · by_cases q : x = i
      · rw [r4 x (by omega)]
        show vp_updL (u.2.2.2 12) i 0 x = 0
        rw [q, yb_t]
      · exact r3 x (by omega) h2
    · rw [r4 x (by omega)]
      show vp_updL (u.2.2.2 12) i 0 x = _
      rw [yb_j (by omega)]
theorem hz_20 (hb : p + sz ≤ 2000) : ∀ (j i n : Nat) (u : xk_St), i + j = sz → j < n → u.1 32 = nI p → ∃ u', jb_Values_pushZeros__h68_20 fu n (nI sz) (nI i) u = some ((), xs_I u' 32 (nI (p + sz))) ∧ yf_fr [] [] [39] [] u u' ∧ (∀ x, p + i ≤ x → x < p + sz → u'.2.2.1 39 x = 0) ∧ ∀ x, x < p + i ∨ p + sz ≤ x → u'.2.2.1 39 x = u.2.2.1 39 x := by
  intro j
  induction j with
  | zero =>
    intro i n u hij hn h32
    obtain ⟨n, rfl⟩ : ∃ f, n = f + 1 := ⟨n - 1, by omega⟩
    refine ⟨u, ?_, yf_refl, fun x h1 h2 => by omega, fun x _ => rfl⟩
    unfold jb_Values_pushZeros__h68_20
    simp only [xs_let]
    rw [if_pos (nI_le (by omega) (by omega)), h32, nI_add]
  | succ j ih =>
    intro i n u hij hn h32
    obtain ⟨n, rfl⟩ : ∃ f, n = f + 1 := ⟨n - 1, by omega⟩
    obtain ⟨u', r1, r2, r3, r4⟩ := ih (i + 1) n (xs_A u 39 (p + i) 0) (by omega) (by omega) h32
    refine ⟨u', ?_, yf_trans (yf_A yf_refl (by decide)) r2, fun x h1 h2 => ?_, fun x hx => ?_⟩
    · rw [← r1]
      conv => lhs; unfold jb_Values_pushZeros__h68_20
      simp only [xs_let]
      rw [if_neg (fun t => by have := (nI_leI (by omega) (by omega)).mp t; omega), h32, nI_add, ix2000 (by omega), show (nI (p + i)).toNatClampNeg = p + i from nI_clamp (by omega), nI_1, bo_01 (Or.inl rfl)]
    · by_cases q : x = p + i
      · rw [r4 x (by omega)]
        show upd (u.2.2.1 39) (p + i) 0 x = 0
        rw [q, ya_t]
      · exact r3 x (by omega) h2
    · rw [r4 x (by omega)]
      show upd (u.2.2.1 39) (p + i) 0 x = _
      rw [ya_j (by omega)]
/-- the class makes an object behind the others -/
theorem hm_41 {a : Int32} (hfu : 2100 < fu) (h32 : u.1 32 = nI p) (h30 : u.1 30 = nI (m + 1)) (h44 : u.2.2.1 44 m = nI g) (hm : m < 2000) (hg : 0 < g ∧ g ≤ 2000) (hb : p + 1 + sz ≤ 2000) : ∃ u', jb_Heap_make_41 fu a (lN sz) u = some (nI g, u') ∧ yf_fr [30, 32] [] [39, 40, 41, 42] [12] u u' ∧ u'.1 30 = nI m ∧ u'.1 32 = nI (p + 1 + sz) ∧ (∀ x, u'.2.2.1 40 x = if x = g then a else u.2.2.1 40 x) ∧ (∀ x, u'.2.2.1 41 x = if x = g then nI sz else u.2.2.1 41 x) ∧ (∀ x, u'.2.2.1 42 x = if x = g then nI p else u.2.2.1 42 x) ∧ (∀ x, x < p → u'.2.2.2 12 x = u.2.2.2 12 x ∧ u'.2.2.1 39 x = u.2.2.1 39 x) ∧ (u'.2.2.2 12 p = lN g ∧ u'.2.2.1 39 p = 0) ∧ ∀ x, p + 1 ≤ x → x < p + 1 + sz → u'.2.2.2 12 x = 0 ∧ u'.2.2.1 39 x = 0 := by
  have hsz : (lN sz).toInt32 = nI sz := sb_nLi (by omega)
  let ua : xk_St := xs_A (xs_A (xs_A (xs_I u 30 (nI m)) 40 g a) 41 g (nI sz)) 42 g (nI p)
  let ub : xk_St := xs_I (xs_A (xs_B ua 12 p (lN g)) 39 p 0) 32 (nI (p + 1))
  obtain ⟨uc, c1, c2, c3, c4⟩ := hz_fill (fu := fu) (b := p + 1 + sz) hb sz (p + 1) fu ub (by omega) (by omega)
  obtain ⟨ud, d1, d2, d3, d4⟩ := hz_20 (fu := fu) (p := p + 1) (sz := sz) hb sz 0 fu uc (by omega) (by omega) (c2.1 32 (by simp))
  have hc12 : ∀ x, ub.2.2.2 12 x = vp_updL (u.2.2.2 12) p (lN g) x := fun _ => rfl
  have hc39 : ∀ x, ub.2.2.1 39 x = upd (u.2.2.1 39) p 0 x := fun _ => rfl
  have e12 : ∀ x, (xs_I ud 32 (nI (p + 1 + sz))).2.2.2 12 x = uc.2.2.2 12 x := fun x => by
    show ud.2.2.2 12 x = _
    rw [d2.2.2.2 12 (by simp)]
  have e39 : ∀ x, uc.2.2.1 39 x = ub.2.2.1 39 x := fun x => by rw [c2.2.2.1 39 (by simp)]
  have hub : yf_fr [30, 32] [] [39, 40, 41, 42] [12] u ub := yf_I (yf_A (yf_B (yf_A (yf_A (yf_A (yf_I yf_refl (by decide)) (by decide)) (by decide)) (by decide)) (by decide)) (by decide)) (by decide)
  refine ⟨xs_I ud 32 (nI (p + 1 + sz)), ?_, yf_I (yf_trans hub (yf_trans (yf_mono c2 (by decide)) (yf_mono d2 (by decide)))) (by decide), ?_, rfl, fun x => ?_, fun x => ?_, fun x => ?_, fun x hx => ⟨?_, ?_⟩, ⟨?_, ?_⟩, fun x h1 h2 => ⟨?_, ?_⟩⟩
  · unfold jb_Heap_make_41
    simp only [xs_let]
    have w30 : (xs_I u 30 (nI (m + 1) - 1)).1 30 = nI m := nI_pred m
    have w44 : (xs_I u 30 (nI m)).2.2.1 44 m = nI g := h44
    rw [h30, w30, nI_pred, ix2000 hm, show (nI m).toNatClampNeg = m from nI_clamp (by omega), w44, ix2001 (by omega), ix2001 (by omega), ix2001 (by omega), show (nI g).toNatClampNeg = g from nI_clamp (by omega), hsz]
    have w32 : ∀ x y, (xs_A (xs_A (xs_I u 30 (nI m)) 40 g x) 41 g y).1 32 = nI p := fun _ _ => h32
    rw [w32]
    have ep : fm_Values_push__h68 (nI g).toInt64 ua = some ((), ub) := by
      unfold fm_Values_push__h68
      simp only [xs_let]
      have w32 : ua.1 32 = nI p := h32
      have w32' : ∀ y, (xs_B ua 12 p y).1 32 = nI p := fun _ => h32
      have w32'' : ∀ y z, (xs_A (xs_B ua 12 p y) 39 p z).1 32 = nI p := fun _ _ => h32
      rw [w32, ix2000 (by omega), show (nI p).toNatClampNeg = p from nI_clamp (by omega), w32', ix2000 (by omega), show (nI p).toNatClampNeg = p from nI_clamp (by omega), w32'', nI_1, bo_01 (Or.inl rfl), nI_toL (by omega)]
    have ep' : fm_Values_push__h68 (nI g).toInt64 (xs_A (xs_A (xs_A (xs_I u 30 (nI m)) 40 g a) 41 g (nI sz)) 42 g (nI p)) = some ((), ub) := ep
    rw [ep', ys_seq]
    unfold fm_Values_pushZeros__h68 fm_Arrays_fill_AJIIJ__h69 fm_Arrays_rangeCheck__h
    have w32 : ub.1 32 = nI (p + 1) := rfl
    rw [w32, nI_add, if_pos (nI_le (by omega) (by omega)), if_pos (show (0 : Int32) ≤ nI (p + 1) from nI_le (a := 0) (by omega) (by omega)), if_pos (show nI (p + 1 + sz) ≤ (2000 : Int32) from nI_le (b := 2000) (by omega) (by omega)), ys_seq, c1, ys_seq]
    have d1' : jb_Values_pushZeros__h68_20 fu fu (nI sz) 0 uc = _ := d1
    rw [d1', ys_seq]
  · show ud.1 30 = nI m
    rw [d2.1 30 (by simp), c2.1 30 (by simp)]; rfl
  · show ud.2.2.1 40 x = _
    rw [d2.2.2.1 40 (by decide), c2.2.2.1 40 (by simp)]; rfl
  · show ud.2.2.1 41 x = _
    rw [d2.2.2.1 41 (by decide), c2.2.2.1 41 (by simp)]; rfl
  · show ud.2.2.1 42 x = _
    rw [d2.2.2.1 42 (by decide), c2.2.2.1 42 (by simp)]; rfl
  · rw [e12, c4 x (by omega), hc12, yb_j (by omega)]
  · show ud.2.2.1 39 x = _
    rw [d4 x (by omega), e39, hc39, ya_j (by omega)]
  · rw [e12, c4 p (by omega), hc12, yb_t]
  · show ud.2.2.1 39 p = _
    rw [d4 p (by omega), e39, hc39, ya_t]
  · rw [e12, c3 x h1 h2]
  · show ud.2.2.1 39 x = _
    rw [d3 x (by omega) (by omega)]
/-- the reference: cells of a new object -/
theorem mm_113 (hb : p + 1 + sz ≤ 2000) (hl : b ≤ 2000) (hix : ix ≤ 2000) : ∀ (j i n : Nat) (v : xk_St), i + j = sz → j < n → v.1 32 = nI p → v.1 34 = nI b → ∃ v', jb_Model_made_113 fu n (lN sz) (nI ix) (nI i) v = some (lN (2 * ix + 2), xs_I (xs_A (xs_I v' 32 (nI (p + (1 + sz)))) 42 b (nI ix)) 34 (nI (b + 1))) ∧ yf_fr [] [] [] [5] v v' ∧ (∀ x, p + 1 + i ≤ x → x < p + 1 + sz → v'.2.2.2 5 x = 0) ∧ ∀ x, x < p + 1 + i ∨ p + 1 + sz ≤ x → v'.2.2.2 5 x = v.2.2.2 5 x := by
  intro j
  induction j with
  | zero =>
    intro i n v hij hn h32 h34
    obtain ⟨n, rfl⟩ : ∃ f, n = f + 1 := ⟨n - 1, by omega⟩
    refine ⟨v, ?_, yf_refl, fun x h1 h2 => by omega, fun x _ => rfl⟩
    unfold jb_Model_made_113
    simp only [xs_let]
    have w34 : ∀ y, (xs_I v 32 y).1 34 = nI b := fun _ => h34
    have w34' : ∀ y z, (xs_A (xs_I v 32 y) 42 b z).1 34 = nI b := fun _ _ => h34
    rw [nI_toL (by omega), if_pos ((lN_le2 (by omega) (by omega)).mpr (by omega)), h32, sb_nLi (by omega), show (1 : Int32) + nI sz = nI (1 + sz) from nI_add 1 _, nI_add, w34, ix2001 (by omega), show (nI b).toNatClampNeg = b from nI_clamp (by omega), w34', nI_1]
    have e : (2 : Int64) * (nI ix).toInt64 + 2 = lN (2 * ix + 2) := by
      rw [nI_toL (by omega)]
      apply Int64.toInt_inj.mp
      rw [Int64.toInt_add, Int64.toInt_mul, pk_lT (by omega), pk_lT (by omega)]
      have e1 : (2 : Int64).toInt = 2 := by decide
      rw [e1, b64 (x := 2 * (ix : Int)) (by omega) (by omega), b64 (by omega) (by omega)]
      omega
    rw [e]
  | succ j ih =>
    intro i n v hij hn h32 h34
    obtain ⟨n, rfl⟩ : ∃ f, n = f + 1 := ⟨n - 1, by omega⟩
    obtain ⟨v', r1, r2, r3, r4⟩ := ih (i + 1) n (xs_B v 5 (p + 1 + i) 0) (by omega) (by omega) h32 h34
    refine ⟨v', ?_, yf_trans (yf_B yf_refl (by decide)) r2, fun x h1 h2 => ?_, fun x hx => ?_⟩
    · rw [← r1]
      conv => lhs; unfold jb_Model_made_113
      simp only [xs_let]
      rw [nI_toL (by omega), if_neg (fun t => by have := (lN_le2 (by omega) (by omega)).mp t; omega), h32, nI_1, nI_add, ix2001 (by omega), show (nI (p + 1 + i)).toNatClampNeg = p + 1 + i from nI_clamp (by omega), nI_1]
    · by_cases q : x = p + 1 + i
      · rw [r4 x (by omega)]
        show vp_updL (v.2.2.2 5) (p + 1 + i) 0 x = 0
        rw [q, yb_t]
      · exact r3 x (by omega) h2
    · rw [r4 x (by omega)]
      show vp_updL (v.2.2.2 5) (p + 1 + i) 0 x = _
      rw [yb_j (by omega)]
/-- the reference looks for a free number -/
theorem mm_63 {b2 : Int64} {b1 : Int32} (h32 : v.1 32 = nI p) : ∀ (j i n : Nat), i + j ≤ 2000 → j < n → v.2.2.1 38 (i + j) = -1 → ∃ ix, ix ≤ 2000 ∧ v.2.2.1 38 ix = -1 ∧ jb_Model_made_63 fu n b1 b2 (nI i) v = jb_Model_made_113 fu fu b2 (nI ix) 0 (xs_A (xs_A (xs_A v 37 ix (nI (p + 1))) 38 ix b2.toInt32) 39 ix b1) := by
  intro j
  induction j with
  | zero =>
    intro i n hij hn h38
    obtain ⟨n, rfl⟩ : ∃ f, n = f + 1 := ⟨n - 1, by omega⟩
    rw [Nat.add_zero] at h38
    refine ⟨i, by omega, h38, ?_⟩
    conv => lhs; unfold jb_Model_made_63
    simp only [xs_let]
    rw [ix2001 (by omega), show (nI i).toNatClampNeg = i from nI_clamp (by omega), if_pos h38, if_neg (nI_inc (by omega) (by decide)), if_neg (nI_inc (by omega) (by decide)), if_neg (nI_inc (by omega) (by decide)), h32, nI_1]
  | succ j ih =>
    intro i n hij hn h38
    obtain ⟨n, rfl⟩ : ∃ f, n = f + 1 := ⟨n - 1, by omega⟩
    by_cases q : v.2.2.1 38 i = -1
    · refine ⟨i, by omega, q, ?_⟩
      conv => lhs; unfold jb_Model_made_63
      simp only [xs_let]
      rw [ix2001 (by omega), show (nI i).toNatClampNeg = i from nI_clamp (by omega), if_pos q, if_neg (nI_inc (by omega) (by decide)), if_neg (nI_inc (by omega) (by decide)), if_neg (nI_inc (by omega) (by decide)), h32, nI_1]
    · obtain ⟨ix, r1, r2, r3⟩ := ih (i + 1) n (by omega) (by omega) (by rw [show i + 1 + j = i + (j + 1) by omega]; exact h38)
      refine ⟨ix, r1, r2, ?_⟩
      rw [← r3]
      conv => lhs; unfold jb_Model_made_63
      simp only [xs_let]
      rw [ix2001 (by omega), show (nI i).toNatClampNeg = i from nI_clamp (by omega), if_neg q, nI_1]
end
