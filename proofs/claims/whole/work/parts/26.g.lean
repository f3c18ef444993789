section
variable {α β γ δ : Type} {B : Nat → Int32} {u v w : xk_St} {L lim p q fu D e : Nat} {S : Nat → Option (Nat × Nat)}
theorem yX_inj {it : Nat → Nat → (α × Nat) ⊕ Nat} {s : Option (Nat × Nat)} {l l' : List α} (h : yX B it s l) (h' : yX B it s l') : l = l' := by
  cases s with
  | none => exact Eq.trans h (Eq.symm h')
  | some x =>
    have h1 := h.2.2
    rw [h'.2.2] at h1
    exact ((Prod.mk.inj (Sum.inl.inj h1)).1).symm
theorem yDu0 (h : yDall D B S v) (hf : yf_fr [17, 18] [] [] [] v w) (h00 : yi_few w) : yDall D B S w := by
  obtain ⟨h1, h3, h4, h5, h6, h7, h8, h9, h10, h11, h0, hE⟩ := h
  have hm : yi_mono v w := yi_mono_of h0 hf (by decide)
  have ha : yk_add v w := yk_add_of h0 hm hf (by decide)
  exact ⟨yD1K h1 hf (by decide), yD3K h3 hf (by decide), yD4K h4 hf (by decide), yD5K h5 hf (by decide), yD6K h6 hf (by decide), yD7K h7 hf (by decide), yD8K h8 hf (by decide), yD9K h9 hm hf (by decide), yD10K h10 ha hf (by decide), yD11K h11 hf (by decide), h00, yE_fr (S := S) hE hf (by decide) (by decide)⟩
theorem yDu1 (h : yDall D B S v) (hf : yf_fr [7, 17] [] [2, 3, 4, 6] [] v w) (h00 : yi_few w) (hn : yD1 B (some (p, e)) w) : yDall D B (yS_up S 1 p e) w := by
  obtain ⟨h1, h3, h4, h5, h6, h7, h8, h9, h10, h11, h0, hE⟩ := h
  have hm : yi_mono v w := yi_mono_of h0 hf (by decide)
  have ha : yk_add v w := yk_add_of h0 hm hf (by decide)
  exact ⟨hn, yD3K h3 hf (by decide), yD4K h4 hf (by decide), yD5K h5 hf (by decide), yD6K h6 hf (by decide), yD7K h7 hf (by decide), yD8K h8 hf (by decide), yD9K h9 hm hf (by decide), yD10K h10 ha hf (by decide), yD11K h11 hf (by decide), h00, yE_fr (S := S) hE hf (by decide) (by decide)⟩
theorem yDu3 (h : yDall D B S v) (hf : yf_fr [10, 17] [] [12] [] v w) (h00 : yi_few w) (hn : yD3 B (some (p, e)) w) : yDall D B (yS_up S 3 p e) w := by
  obtain ⟨h1, h3, h4, h5, h6, h7, h8, h9, h10, h11, h0, hE⟩ := h
  have hm : yi_mono v w := yi_mono_of h0 hf (by decide)
  have ha : yk_add v w := yk_add_of h0 hm hf (by decide)
  exact ⟨yD1K h1 hf (by decide), hn, yD4K h4 hf (by decide), yD5K h5 hf (by decide), yD6K h6 hf (by decide), yD7K h7 hf (by decide), yD8K h8 hf (by decide), yD9K h9 hm hf (by decide), yD10K h10 ha hf (by decide), yD11K h11 hf (by decide), h00, yE_fr (S := S) hE hf (by decide) (by decide)⟩
theorem yDu4 (h : yDall D B S v) (hf : yf_fr [11, 17] [] [16, 17] [] v w) (h00 : yi_few w) (hn : yD4 B (some (p, e)) w) : yDall D B (yS_up S 4 p e) w := by
  obtain ⟨h1, h3, h4, h5, h6, h7, h8, h9, h10, h11, h0, hE⟩ := h
  have hm : yi_mono v w := yi_mono_of h0 hf (by decide)
  have ha : yk_add v w := yk_add_of h0 hm hf (by decide)
  exact ⟨yD1K h1 hf (by decide), yD3K h3 hf (by decide), hn, yD5K h5 hf (by decide), yD6K h6 hf (by decide), yD7K h7 hf (by decide), yD8K h8 hf (by decide), yD9K h9 hm hf (by decide), yD10K h10 ha hf (by decide), yD11K h11 hf (by decide), h00, yE_fr (S := S) hE hf (by decide) (by decide)⟩
theorem yDu5 (h : yDall D B S v) (hf : yf_fr [12, 17] [] [19, 20] [] v w) (h00 : yi_few w) (hn : yD5 B (some (p, e)) w) : yDall D B (yS_up S 5 p e) w := by
  obtain ⟨h1, h3, h4, h5, h6, h7, h8, h9, h10, h11, h0, hE⟩ := h
  have hm : yi_mono v w := yi_mono_of h0 hf (by decide)
  have ha : yk_add v w := yk_add_of h0 hm hf (by decide)
  exact ⟨yD1K h1 hf (by decide), yD3K h3 hf (by decide), yD4K h4 hf (by decide), hn, yD6K h6 hf (by decide), yD7K h7 hf (by decide), yD8K h8 hf (by decide), yD9K h9 hm hf (by decide), yD10K h10 ha hf (by decide), yD11K h11 hf (by decide), h00, yE_fr (S := S) hE hf (by decide) (by decide)⟩
theorem yDu6 (h : yDall D B S v) (hf : yf_fr [13, 17] [] [21, 22, 23] [6] v w) (h00 : yi_few w) (hn : yD6 B (some (p, e)) w) : yDall D B (yS_up S 6 p e) w := by
  obtain ⟨h1, h3, h4, h5, h6, h7, h8, h9, h10, h11, h0, hE⟩ := h
  have hm : yi_mono v w := yi_mono_of h0 hf (by decide)
  have ha : yk_add v w := yk_add_of h0 hm hf (by decide)
  exact ⟨yD1K h1 hf (by decide), yD3K h3 hf (by decide), yD4K h4 hf (by decide), yD5K h5 hf (by decide), hn, yD7K h7 hf (by decide), yD8K h8 hf (by decide), yD9K h9 hm hf (by decide), yD10K h10 ha hf (by decide), yD11K h11 hf (by decide), h00, yE_fr (S := S) hE hf (by decide) (by decide)⟩
theorem yDu7 (h : yDall D B S v) (hf : yf_fr [14, 17] [] [24, 25, 26] [7] v w) (h00 : yi_few w) (hn : yD7 B (some (p, e)) w) : yDall D B (yS_up S 7 p e) w := by
  obtain ⟨h1, h3, h4, h5, h6, h7, h8, h9, h10, h11, h0, hE⟩ := h
  have hm : yi_mono v w := yi_mono_of h0 hf (by decide)
  have ha : yk_add v w := yk_add_of h0 hm hf (by decide)
  exact ⟨yD1K h1 hf (by decide), yD3K h3 hf (by decide), yD4K h4 hf (by decide), yD5K h5 hf (by decide), yD6K h6 hf (by decide), hn, yD8K h8 hf (by decide), yD9K h9 hm hf (by decide), yD10K h10 ha hf (by decide), yD11K h11 hf (by decide), h00, yE_fr (S := S) hE hf (by decide) (by decide)⟩
theorem yDu8 (h : yDall D B S v) (hf : yf_fr [6, 17] [] [] [] v w) (h00 : yi_few w) (hn : yD8 B (some (p, e)) w) : yDall D B (yS_up S 8 p e) w := by
  obtain ⟨h1, h3, h4, h5, h6, h7, h8, h9, h10, h11, h0, hE⟩ := h
  have hm : yi_mono v w := yi_mono_of h0 hf (by decide)
  have ha : yk_add v w := yk_add_of h0 hm hf (by decide)
  exact ⟨yD1K h1 hf (by decide), yD3K h3 hf (by decide), yD4K h4 hf (by decide), yD5K h5 hf (by decide), yD6K h6 hf (by decide), yD7K h7 hf (by decide), hn, yD9K h9 hm hf (by decide), yD10K h10 ha hf (by decide), yD11K h11 hf (by decide), h00, yE_fr (S := S) hE hf (by decide) (by decide)⟩
theorem yDu9 (h : yDall D B S v) (hf : yf_fr [9, 15, 17] [] [11, 28, 29] [8] v w) (hm : yi_mono v w) (h00 : yi_few w) (h10n : S 10 = none) (hn : yD9 B (some (p, e)) w) : yDall D B (yS_up S 9 p e) w := by
  obtain ⟨h1, h3, h4, h5, h6, h7, h8, h9, h10, h11, h0, hE⟩ := h
  have ha : yk_add v w := yk_add_of h0 hm hf (by decide)
  exact ⟨yD1K h1 hf (by decide), yD3K h3 hf (by decide), yD4K h4 hf (by decide), yD5K h5 hf (by decide), yD6K h6 hf (by decide), yD7K h7 hf (by decide), yD8K h8 hf (by decide), hn, yD10K h10 ha hf (by decide), yD11K h11 hf (by decide), h00, ⟨fun _ => (hf.1 8 (by decide)).trans (hE.1 h10n), fun z => absurd h10n z, fun z => absurd h10n z⟩⟩
theorem yDu10 (h : yDall D B S v) (hf : yf_fr [5, 8, 9, 17, 18] [] [7, 8, 9, 11, 13] [2] v w) (ha : yk_add v w) (h00 : yi_few w) (hW : ∀ N0, yW N0 v → yW N0 w) (h10n : S 10 = none) (hV : ∃ n, yV n w ∧ ∀ l, yX B (yp_body D B) (some (p, e)) l → l.length = n) (hn : yD10 D B (some (p, e)) w) : yDall D B (yS_up S 10 p e) w := by
  obtain ⟨h1, h3, h4, h5, h6, h7, h8, h9, h10, h11, h0, hE⟩ := h
  have hm : yi_mono v w := by
    obtain ⟨x, y, a1, a2, a3, a4, a5⟩ := ha
    exact a5.2
  have hEn : ∃ N0, yW N0 w ∧ ∀ l, yX B (yp_el B) (S 9) l → ∀ (k s : Nat) c, k < 64 → l[k]? = some c → w.2.2.1 28 k = nI s → s ≤ 8192 → s + c.2.length ≤ N0 := by
    obtain ⟨ns, sz, p', a, b, d, d4, d5, d6⟩ := h0
    have h80 := hE.1 h10n
    have hsz : sz = 0 := (nI_eq (b := 0) (by omega) (by decide)).mp (b.symm.trans h80)
    subst hsz
    refine ⟨ns, hW ns ⟨0, ns, fun _ => ns, h80, a, by omega, by omega, Nat.le_refl _, fun _ _ _ => Nat.le_refl _, Nat.le_refl _, fun k hk => by omega⟩, fun l hl k s c hk hc hs hs2 => ?_⟩
    obtain ⟨l', x1, x2, x3⟩ := h9
    obtain rfl : l = l' := yX_inj hl x1
    obtain ⟨s', m, e1, e2, e3, e4, e5, e6, e7⟩ := x3 k c hk hc
    rw [hf.2.2.1 28 (by decide)] at hs
    obtain rfl : m = ns := (nI_eq (by omega) (by omega)).mp (e5.symm.trans a)
    obtain rfl : s = s' := (nI_eq (by omega) (by omega)).mp (hs.symm.trans e1)
    exact e6
  exact ⟨yD1K h1 hf (by decide), yD3K h3 hf (by decide), yD4K h4 hf (by decide), yD5K h5 hf (by decide), yD6K h6 hf (by decide), yD7K h7 hf (by decide), yD8K h8 hf (by decide), yD9K h9 hm hf (by decide), hn, yD11K h11 hf (by decide), h00, ⟨(fun z => by simp [yS_up] at z), fun _ => hEn, fun _ => hV⟩⟩
theorem yDu11 (h : yDall D B S v) (hf : yf_fr [16, 17] [] [31, 32] [9] v w) (h00 : yi_few w) (hn : yD11 B (some (p, e)) w) : yDall D B (yS_up S 11 p e) w := by
  obtain ⟨h1, h3, h4, h5, h6, h7, h8, h9, h10, h11, h0, hE⟩ := h
  have hm : yi_mono v w := yi_mono_of h0 hf (by decide)
  have ha : yk_add v w := yk_add_of h0 hm hf (by decide)
  exact ⟨yD1K h1 hf (by decide), yD3K h3 hf (by decide), yD4K h4 hf (by decide), yD5K h5 hf (by decide), yD6K h6 hf (by decide), yD7K h7 hf (by decide), yD8K h8 hf (by decide), yD9K h9 hm hf (by decide), yD10K h10 ha hf (by decide), hn, h00, yE_fr (S := S) hE hf (by decide) (by decide)⟩
theorem yC_le {o : Option ((β ⊕ Nat) × xk_St)} {s : (α × Nat) ⊕ Nat} {J : α → Nat → Option ((β ⊕ Nat) × xk_St) → Prop} (hp : p ≤ q) (h : yC q o s J) : yC p o s J := by
  rcases h with ⟨a, r, e1, e2, e3⟩ | h
  · exact Or.inl ⟨a, r, e1, Nat.le_trans hp e2, e3⟩
  · exact Or.inr h
/-- the end of a section -/
theorem hh_secE {len d last id r k : Nat} {k62 : Int32 → Int32 → Int32 → xk_St → Option ((Unit ⊕ Nat) × xk_St)} (hl : last ≤ 11) (hid : id ≤ 11) (hlen : len ≤ 8192) (he : e ≤ len) (hv : yh_st B e q v)
    (hD : q = e → yDall D B (yS_up S id r e) v)
    (ih : q = e → ∀ w, yh_st B len q w → yDall D B (yS_up S id r e) w → yC q (k62 (nI len) (nI (max last id)) (nI (k + 1)) w) (yp_secs D B len d (max last id) q) (yJ B len fun ss _ z => yDall D B (yS_ext (yS_up S id r e) ss) z)) :
    yC q (jb_Reader_readModule_281 fu k62 (nI len) (nI last) (nI k) (nI id) v) (if q = e then yp_then (yp_secs D B len d (max last id) q) fun l z => .inl ((id, r, q) :: l, z) else .inr 0) (yJ B len fun ss _ z => yDall D B (yS_ext S ss) z) := by
  unfold jb_Reader_readModule_281
  simp only [xs_let]
  have hv8 := hv.2.2.2
  rw [hv.2.1, hv.2.2.1]
  by_cases hq : q = e
  · rw [if_pos hq, if_pos (by rw [hq]), nI_1]
    have hmx : (if nI last < nI id then nI id else nI last) = nI (max last id) := by
      by_cases z : last < id
      · rw [if_pos (nI_lt z (by omega)), Nat.max_eq_right (by omega)]
      · rw [if_neg (fun y => z ((nI_ltI (by omega) (by omega)).mp y)), Nat.max_eq_left (by omega)]
    rw [hmx]
    have hw : yh_st B len q (xs_I v 18 (nI len)) := ⟨hv.1, hv.2.1, rfl, by omega, hlen⟩
    have h1 := hD hq
    have h2 : yi_few (xs_I v 18 (nI len)) := h1.2.2.2.2.2.2.2.2.2.2.1
    refine yC_then (ih hq _ hw (yDu0 h1 (yf_I yf_refl (by decide)) h2)) fun l z e1 e2 hj => ?_
    subst hq
    exact yC_ok (Nat.le_refl _) hj
  · rw [if_neg hq, if_neg (fun y => hq ((nI_eq (by omega) (by omega)).mp y))]
    exact yC_no
theorem yp_mapthen {m : (α × Nat) ⊕ Nat} {g : Unit → Nat → (β × Nat) ⊕ Nat} : yp_then (yp_map (fun _ => ()) m) g = yp_then m fun _ q => g () q := by
  cases m <;> rfl
/-- the sections, read by the class -/
theorem hh_secs {len : Nat} (hD : 8193 ≤ D) (hDf : D < fu) (hfu : 20 ≤ fu) (hn : len + 2 ≤ fu) (hlen : len ≤ 8192) : ∀ (d last p n k : Nat) (S : Nat → Option (Nat × Nat)) (u : xk_St), len - p < d → d < n → k ≤ p → last ≤ 11 → yh_st B len p u → yDall D B S u → (∀ j, last < j → S j = none) →
    yC p (jb_Reader_readModule_62 fu n (nI len) (nI last) (nI k) u) (yp_secs D B len d last p) (yJ B len fun ss _ z => yDall D B (yS_ext S ss) z) := by
  intro d
  induction d with
  | zero => intro last p n k S u h; omega
  | succ d ih =>
    intro last p n k S u h1 h2 hk hla h hA hS
    obtain ⟨n, rfl⟩ : ∃ m, n = m + 1 := ⟨n - 1, by omega⟩
    have hp : p ≤ len := h.2.2.2.1
    unfold jb_Reader_readModule_62 yp_secs
    simp only [xs_let]
    rw [h.2.1]
    by_cases hpl : len ≤ p
    · rw [if_pos hpl]
      have : (if nI len ≤ nI p then some (.inl (), u) else xs_try (fm_Reader_readByte u) fun a4 u5 => if a4 = (0 : Int32) then (jb_Reader_readModule_116 fu (jb_Reader_readModule_62 fu n) (nI len) (nI last) (nI k) a4 u5) else (if a4 ≤ nI last then (some (.inr 0, u5)) else (if a4 = (2 : Int32) then (some (.inr 0, u5)) else (if a4 ≤ (11 : Int32) then (jb_Reader_readModule_116 fu (jb_Reader_readModule_62 fu n) (nI len) (nI last) (nI k) a4 u5) else (some (.inr 0, u5)))))) = (some (.inl (), u) : Option ((Unit ⊕ Nat) × xk_St)) := if_pos (nI_le hpl (by omega))
      rw [this]
      have h4 : (if (8192 : Int32) ≤ nI k then some (.inl (), u) else some (.inl (), u)) = (some (.inl (), u) : Option ((Unit ⊕ Nat) × xk_St)) := by split <;> rfl
      rw [h4]
      exact yC_ok (Nat.le_refl _) ⟨(), u, rfl, h, hA⟩
    · rw [if_neg hpl, if_neg (show ¬ (8192 : Int32) ≤ nI k from nI_ge (b := 8192) (by omega) (by omega)), if_neg (show ¬ nI len ≤ nI p from nI_ge (by omega) (by omega))]
      refine yC_try (yC_of' h (hh_byte h)) fun a q b w e1 e2 hw e3 => ?_
      obtain ⟨rfl, q', rfl⟩ := e3
      obtain ⟨⟨id, hid, rfl⟩, hq, -⟩ := yp_bb e1
      rw [nI_clamp (by omega)]
      have hid0 : nI id = (0 : Int32) ↔ id = 0 := nI_eq (b := 0) (by omega) (by decide)
      have hid2 : nI id = (2 : Int32) ↔ id = 2 := nI_eq (b := 2) (by omega) (by decide)
      have hid11 : nI id ≤ (11 : Int32) ↔ id ≤ 11 := nI_leI (b := 11) (by omega) (by decide)
      have hidl : nI id ≤ nI last ↔ id ≤ last := nI_leI (by omega) (by omega)
      by_cases hok : id = 0 ∨ (last < id ∧ ¬ id = 2 ∧ id ≤ 11)
      · rw [if_pos hok]
        have hsame : (if nI id = (0 : Int32) then (jb_Reader_readModule_116 fu (jb_Reader_readModule_62 fu n) (nI len) (nI last) (nI k) (nI id) (xs_I u 17 (nI q'))) else (if nI id ≤ nI last then (some (.inr 0, xs_I u 17 (nI q'))) else (if nI id = (2 : Int32) then (some (.inr 0, xs_I u 17 (nI q'))) else (if nI id ≤ (11 : Int32) then (jb_Reader_readModule_116 fu (jb_Reader_readModule_62 fu n) (nI len) (nI last) (nI k) (nI id) (xs_I u 17 (nI q'))) else (some (.inr 0, xs_I u 17 (nI q'))))))) = jb_Reader_readModule_116 fu (jb_Reader_readModule_62 fu n) (nI len) (nI last) (nI k) (nI id) (xs_I u 17 (nI q')) := by
          by_cases z : id = 0
          · rw [if_pos (hid0.mpr z)]
          · rw [if_neg (fun y => z (hid0.mp y)), if_neg (fun y => by have := hidl.mp y; omega), if_neg (fun y => by have := hid2.mp y; omega), if_pos (hid11.mpr (by omega))]
        rw [hsame]
        unfold jb_Reader_readModule_116
        have e0 : (yp_then (yp_N B len q) fun n r => if n ≤ len - r then yp_then (yp_cont D B id (r + n) r) fun _ e => if e = r + n then yp_then (yp_secs D B len d (max last id) e) fun l z => (.inl ((id, r, e) :: l, z) : (List (Nat × Nat × Nat) × Nat) ⊕ Nat) else .inr 0 else .inr 0) = yp_then (yp_then (yp_N B len q) fun n r => if n ≤ len - r then .inl (n, r) else .inr 0) fun n r => yp_then (yp_cont D B id (r + n) r) fun _ e => if e = r + n then yp_then (yp_secs D B len d (max last id) e) fun l z => .inl ((id, r, e) :: l, z) else .inr 0 := by
          rw [yp_then_then]
          congr 1
          funext n q
          rw [yp_then_ite, yp_then_l, yp_then_r]
        rw [e0]
        refine yC_try (yC_of hw (hh_size hfu (Nat.le_refl _) hlen hw)) fun m r b z f1 f2 hz f3 => ?_
        obtain ⟨rfl, r', rfl⟩ := f3
        obtain ⟨m0, r0, d1, d2⟩ := yp_thenI f1
        obtain ⟨-, hr1, hr2⟩ := yp_Nb d1
        have hmq : m ≤ len - r ∧ r0 = r := by
          by_cases z : m0 ≤ len - r0
          · rw [if_pos z] at d2; cases d2; exact ⟨z, rfl⟩
          · rw [if_neg z] at d2; cases d2
        obtain ⟨hm, rfl⟩ := hmq
        simp only [xs_let]
        rw [hz.2.1, nI_add]
        have hx : yh_st B (r0 + m) r0 (xs_I (xs_I (xs_I u 17 (nI q')) 17 (nI r')) 18 (nI (r0 + m))) := ⟨hz.1, hz.2.1, rfl, by omega, by omega⟩
        have hxf : yf_fr [17, 18] [] [] [] u (xs_I (xs_I (xs_I u 17 (nI q')) 17 (nI r')) 18 (nI (r0 + m))) := yf_I (yf_I (yf_I yf_refl (by decide)) (by decide)) (by decide)
        have hx0 : yi_few (xs_I (xs_I (xs_I u 17 (nI q')) 17 (nI r')) 18 (nI (r0 + m))) := by
          obtain ⟨ns, sz, p', a, b, c, d4, d5, d6⟩ := hA.2.2.2.2.2.2.2.2.2.2.1
          have hp' : p' = p := (nI_eq (by omega) (by omega)).mp (c.symm.trans h.2.1)
          exact ⟨ns, sz, r0, a, b, hx.2.1, by omega, by omega, by omega⟩
        have hxA := yDu0 hA hxf hx0
        generalize xs_I (xs_I (xs_I u 17 (nI q')) 17 (nI r')) 18 (nI (r0 + m)) = x at hx hxf hx0 hxA
        have hfin : ∀ (v : xk_St) (q : Nat), yh_st B (r0 + m) q v → r0 ≤ q → (q = r0 + m → yDall D B (yS_up S id r0 (r0 + m)) v) → yC q (jb_Reader_readModule_281 fu (jb_Reader_readModule_62 fu n) (nI len) (nI last) (nI k) (nI id) v) (if q = r0 + m then yp_then (yp_secs D B len d (max last id) q) fun l z => .inl ((id, r0, q) :: l, z) else .inr 0) (yJ B len fun ss _ z => yDall D B (yS_ext S ss) z) := fun v q hv hq hA => hh_secE hla (by omega) hlen (by omega) hv hA (fun y w hw hA => ih (max last id) q n (k + 1) _ w (by omega) (by omega) (by omega) (by omega) hw hA (fun j hj => by show (if j = id then some (r0, r0 + m) else S j) = none; rw [if_neg (by omega)]; exact hS j (by omega)))
        have hn2 : r0 + m + 2 ≤ fu := by omega
        unfold yp_cont
        by_cases c0 : id = 0
        · subst c0
          rw [if_pos rfl, if_pos (show nI 0 = (0 : Int32) from rfl), yp_then_l]
          have hy : yh_st B (r0 + m) (r0 + m) (xs_I x 17 (x.1 18)) := ⟨hx.1, by rw [hx.2.2.1]; rfl, hx.2.2.1, Nat.le_refl _, by omega⟩
          refine yC_le (by omega) (hfin _ _ hy (by omega) fun _ => ?_)
          have hf := yDu0 hxA (w := xs_I x 17 (x.1 18)) (yf_I yf_refl (by decide)) (yi_few_of hx0 hx hy (by omega) (yf_I (I := [17]) (J := []) (A := []) (B := []) yf_refl (by decide)) (by decide))
          exact hf
        by_cases c1 : id = 1
        · subst c1
          rw [if_neg (show ¬ (1 : Nat) = 0 by decide), if_pos (show (1 : Nat) = 1 from rfl), if_neg (show ¬ nI 1 = (0 : Int32) by decide), if_pos (show nI 1 = (1 : Int32) from rfl), yp_mapthen]
          refine yC_try (hh_s1 hfu hn2 hx) fun l q b v g1 g2 hv g3 => ?_
          exact hfin v q hv g2 fun y => yDu1 hxA g3.1 (yi_few_of hx0 hx hv g2 g3.1 (by decide)) ⟨l, ⟨by omega, by omega, by rw [y] at g1; exact g1⟩, g3.2.1, g3.2.2⟩
        by_cases c3 : id = 3
        · subst c3
          rw [if_neg (show ¬ (3 : Nat) = 0 by decide), if_neg (show ¬ (3 : Nat) = 1 by decide), if_pos (show (3 : Nat) = 3 from rfl), if_neg (show ¬ nI 3 = (0 : Int32) by decide), if_neg (show ¬ nI 3 = (1 : Int32) by decide), if_neg (show ¬ nI 3 = (2 : Int32) by decide), if_pos (show nI 3 = (3 : Int32) from rfl), yp_mapthen]
          refine yC_try (hh_s3 hfu hn2 hx) fun l q b v g1 g2 hv g3 => ?_
          exact hfin v q hv g2 fun y => yDu3 hxA g3.1 (yi_few_of hx0 hx hv g2 g3.1 (by decide)) ⟨l, ⟨by omega, by omega, by rw [y] at g1; exact g1⟩, g3.2.1, g3.2.2⟩
        by_cases c4 : id = 4
        · subst c4
          rw [if_neg (show ¬ (4 : Nat) = 0 by decide), if_neg (show ¬ (4 : Nat) = 1 by decide), if_neg (show ¬ (4 : Nat) = 3 by decide), if_pos (show (4 : Nat) = 4 from rfl), if_neg (show ¬ nI 4 = (0 : Int32) by decide), if_neg (show ¬ nI 4 = (1 : Int32) by decide), if_neg (show ¬ nI 4 = (2 : Int32) by decide), if_neg (show ¬ nI 4 = (3 : Int32) by decide), if_pos (show nI 4 = (4 : Int32) from rfl), yp_mapthen]
          refine yC_try (hh_s4 hfu hn2 hx) fun l q b v g1 g2 hv g3 => ?_
          exact hfin v q hv g2 fun y => yDu4 hxA g3.1 (yi_few_of hx0 hx hv g2 g3.1 (by decide)) ⟨l, ⟨by omega, by omega, by rw [y] at g1; exact g1⟩, g3.2.1, g3.2.2⟩
        by_cases c5 : id = 5
        · subst c5
          rw [if_neg (show ¬ (5 : Nat) = 0 by decide), if_neg (show ¬ (5 : Nat) = 1 by decide), if_neg (show ¬ (5 : Nat) = 3 by decide), if_neg (show ¬ (5 : Nat) = 4 by decide), if_pos (show (5 : Nat) = 5 from rfl), if_neg (show ¬ nI 5 = (0 : Int32) by decide), if_neg (show ¬ nI 5 = (1 : Int32) by decide), if_neg (show ¬ nI 5 = (2 : Int32) by decide), if_neg (show ¬ nI 5 = (3 : Int32) by decide), if_neg (show ¬ nI 5 = (4 : Int32) by decide), if_pos (show nI 5 = (5 : Int32) from rfl), yp_mapthen]
          refine yC_try (hh_s5 hfu hn2 hx) fun l q b v g1 g2 hv g3 => ?_
          exact hfin v q hv g2 fun y => yDu5 hxA g3.1 (yi_few_of hx0 hx hv g2 g3.1 (by decide)) ⟨l, ⟨by omega, by omega, by rw [y] at g1; exact g1⟩, g3.2.1, g3.2.2⟩
        by_cases c6 : id = 6
        · subst c6
          rw [if_neg (show ¬ (6 : Nat) = 0 by decide), if_neg (show ¬ (6 : Nat) = 1 by decide), if_neg (show ¬ (6 : Nat) = 3 by decide), if_neg (show ¬ (6 : Nat) = 4 by decide), if_neg (show ¬ (6 : Nat) = 5 by decide), if_pos (show (6 : Nat) = 6 from rfl), if_neg (show ¬ nI 6 = (0 : Int32) by decide), if_neg (show ¬ nI 6 = (1 : Int32) by decide), if_neg (show ¬ nI 6 = (2 : Int32) by decide), if_neg (show ¬ nI 6 = (3 : Int32) by decide), if_neg (show ¬ nI 6 = (4 : Int32) by decide), if_neg (show ¬ nI 6 = (5 : Int32) by decide), if_pos (show nI 6 = (6 : Int32) from rfl), yp_mapthen]
          refine yC_try (hh_s6 hfu hn2 hx) fun l q b v g1 g2 hv g3 => ?_
          exact hfin v q hv g2 fun y => yDu6 hxA g3.1 (yi_few_of hx0 hx hv g2 g3.1 (by decide)) ⟨l, ⟨by omega, by omega, by rw [y] at g1; exact g1⟩, g3.2.1, g3.2.2⟩
        by_cases c7 : id = 7
        · subst c7
          rw [if_neg (show ¬ (7 : Nat) = 0 by decide), if_neg (show ¬ (7 : Nat) = 1 by decide), if_neg (show ¬ (7 : Nat) = 3 by decide), if_neg (show ¬ (7 : Nat) = 4 by decide), if_neg (show ¬ (7 : Nat) = 5 by decide), if_neg (show ¬ (7 : Nat) = 6 by decide), if_pos (show (7 : Nat) = 7 from rfl), if_neg (show ¬ nI 7 = (0 : Int32) by decide), if_neg (show ¬ nI 7 = (1 : Int32) by decide), if_neg (show ¬ nI 7 = (2 : Int32) by decide), if_neg (show ¬ nI 7 = (3 : Int32) by decide), if_neg (show ¬ nI 7 = (4 : Int32) by decide), if_neg (show ¬ nI 7 = (5 : Int32) by decide), if_neg (show ¬ nI 7 = (6 : Int32) by decide), if_pos (show nI 7 = (7 : Int32) from rfl), yp_mapthen]
          refine yC_try (hh_s7 hfu hn2 hx) fun l q b v g1 g2 hv g3 => ?_
          exact hfin v q hv g2 fun y => yDu7 hxA g3.1 (yi_few_of hx0 hx hv g2 g3.1 (by decide)) ⟨l, ⟨by omega, by omega, by rw [y] at g1; exact g1⟩, g3.2.1, g3.2.2⟩
        by_cases c8 : id = 8
        · subst c8
          rw [if_neg (show ¬ (8 : Nat) = 0 by decide), if_neg (show ¬ (8 : Nat) = 1 by decide), if_neg (show ¬ (8 : Nat) = 3 by decide), if_neg (show ¬ (8 : Nat) = 4 by decide), if_neg (show ¬ (8 : Nat) = 5 by decide), if_neg (show ¬ (8 : Nat) = 6 by decide), if_neg (show ¬ (8 : Nat) = 7 by decide), if_pos (show (8 : Nat) = 8 from rfl), if_neg (show ¬ nI 8 = (0 : Int32) by decide), if_neg (show ¬ nI 8 = (1 : Int32) by decide), if_neg (show ¬ nI 8 = (2 : Int32) by decide), if_neg (show ¬ nI 8 = (3 : Int32) by decide), if_neg (show ¬ nI 8 = (4 : Int32) by decide), if_neg (show ¬ nI 8 = (5 : Int32) by decide), if_neg (show ¬ nI 8 = (6 : Int32) by decide), if_neg (show ¬ nI 8 = (7 : Int32) by decide), if_pos (show nI 8 = (8 : Int32) from rfl), yp_mapthen]
          refine yC_try (yC_of hx (hh_N hfu hx)) fun a q b v g1 g2 hv g3 => ?_
          obtain ⟨rfl, s, rfl⟩ := g3
          have hy : yh_st B (r0 + m) q (xs_I (xs_I x 17 (nI s)) 6 (nI (yn_c a))) := hv
          have hf : yf_fr [6, 17] [] [] [] x (xs_I (xs_I x 17 (nI s)) 6 (nI (yn_c a))) := yf_I (yf_I yf_refl (by decide)) (by decide)
          exact hfin _ q hy g2 fun y => yDu8 hxA hf (yi_few_of hx0 hx hy g2 hf (by decide)) ⟨some a, ⟨by omega, by omega, a, rfl, by rw [← y]; rw [y]; rw [y] at g1; exact g1⟩, rfl⟩
        by_cases c9 : id = 9
        · subst c9
          rw [if_neg (show ¬ (9 : Nat) = 0 by decide), if_neg (show ¬ (9 : Nat) = 1 by decide), if_neg (show ¬ (9 : Nat) = 3 by decide), if_neg (show ¬ (9 : Nat) = 4 by decide), if_neg (show ¬ (9 : Nat) = 5 by decide), if_neg (show ¬ (9 : Nat) = 6 by decide), if_neg (show ¬ (9 : Nat) = 7 by decide), if_neg (show ¬ (9 : Nat) = 8 by decide), if_pos (show (9 : Nat) = 9 from rfl), if_neg (show ¬ nI 9 = (0 : Int32) by decide), if_neg (show ¬ nI 9 = (1 : Int32) by decide), if_neg (show ¬ nI 9 = (2 : Int32) by decide), if_neg (show ¬ nI 9 = (3 : Int32) by decide), if_neg (show ¬ nI 9 = (4 : Int32) by decide), if_neg (show ¬ nI 9 = (5 : Int32) by decide), if_neg (show ¬ nI 9 = (6 : Int32) by decide), if_neg (show ¬ nI 9 = (7 : Int32) by decide), if_neg (show ¬ nI 9 = (8 : Int32) by decide), if_pos (show nI 9 = (9 : Int32) from rfl), yp_mapthen]
          refine yC_try (hh_s9 hfu hn2 hx0 hx) fun l q b v g1 g2 hv g3 => ?_
          exact hfin v q hv g2 fun y => yDu9 hxA g3.1.1 g3.1.2 g3.2.1 (hS 10 (by omega)) ⟨l, ⟨by omega, by omega, by rw [y] at g1; exact g1⟩, g3.2.2.1, g3.2.2.2⟩
        by_cases c10 : id = 10
        · subst c10
          rw [if_neg (show ¬ (10 : Nat) = 0 by decide), if_neg (show ¬ (10 : Nat) = 1 by decide), if_neg (show ¬ (10 : Nat) = 3 by decide), if_neg (show ¬ (10 : Nat) = 4 by decide), if_neg (show ¬ (10 : Nat) = 5 by decide), if_neg (show ¬ (10 : Nat) = 6 by decide), if_neg (show ¬ (10 : Nat) = 7 by decide), if_neg (show ¬ (10 : Nat) = 8 by decide), if_neg (show ¬ (10 : Nat) = 9 by decide), if_pos (show (10 : Nat) = 10 from rfl), if_neg (show ¬ nI 10 = (0 : Int32) by decide), if_neg (show ¬ nI 10 = (1 : Int32) by decide), if_neg (show ¬ nI 10 = (2 : Int32) by decide), if_neg (show ¬ nI 10 = (3 : Int32) by decide), if_neg (show ¬ nI 10 = (4 : Int32) by decide), if_neg (show ¬ nI 10 = (5 : Int32) by decide), if_neg (show ¬ nI 10 = (6 : Int32) by decide), if_neg (show ¬ nI 10 = (7 : Int32) by decide), if_neg (show ¬ nI 10 = (8 : Int32) by decide), if_neg (show ¬ nI 10 = (9 : Int32) by decide), if_pos (show nI 10 = (10 : Int32) from rfl), yp_mapthen]
          refine yC_try (hh_s10 hD hDf hfu hn2 hx0 hx) fun l q b v g1 g2 hv g3 => ?_
          exact hfin v q hv g2 fun y => yDu10 hxA g3.1.1 g3.1.2.1 g3.2.1.1 g3.1.2.2 (hS 10 (by omega)) ⟨l.length, g3.2.1.2, fun l' hl' => by rw [yX_inj hl' (show yX B (yp_body D B) (some (r0, r0 + m)) l from ⟨by omega, by omega, by rw [y] at g1; exact g1⟩)]⟩ ⟨l, ⟨by omega, by omega, by rw [y] at g1; exact g1⟩, g3.2.2.1, g3.2.2.2⟩
        have c11 : id = 11 := by omega
        subst c11
        rw [if_neg (show ¬ (11 : Nat) = 0 by decide), if_neg (show ¬ (11 : Nat) = 1 by decide), if_neg (show ¬ (11 : Nat) = 3 by decide), if_neg (show ¬ (11 : Nat) = 4 by decide), if_neg (show ¬ (11 : Nat) = 5 by decide), if_neg (show ¬ (11 : Nat) = 6 by decide), if_neg (show ¬ (11 : Nat) = 7 by decide), if_neg (show ¬ (11 : Nat) = 8 by decide), if_neg (show ¬ (11 : Nat) = 9 by decide), if_neg (show ¬ (11 : Nat) = 10 by decide), if_neg (show ¬ nI 11 = (0 : Int32) by decide), if_neg (show ¬ nI 11 = (1 : Int32) by decide), if_neg (show ¬ nI 11 = (2 : Int32) by decide), if_neg (show ¬ nI 11 = (3 : Int32) by decide), if_neg (show ¬ nI 11 = (4 : Int32) by decide), if_neg (show ¬ nI 11 = (5 : Int32) by decide), if_neg (show ¬ nI 11 = (6 : Int32) by decide), if_neg (show ¬ nI 11 = (7 : Int32) by decide), if_neg (show ¬ nI 11 = (8 : Int32) by decide), if_neg (show ¬ nI 11 = (9 : Int32) by decide), if_neg (show ¬ nI 11 = (10 : Int32) by decide), yp_mapthen]
        unfold jb_Reader_readModule_277
        refine yC_try (hh_s11 hfu hn2 hx) fun l q b v g1 g2 hv g3 => ?_
        exact hfin v q hv g2 fun y => yDu11 hxA g3.1 (yi_few_of hx0 hx hv g2 g3.1 (by decide)) ⟨l, ⟨by omega, by omega, by rw [y] at g1; exact g1⟩, g3.2.1, g3.2.2⟩
      · rw [if_neg hok]
        have hsame : (if nI id = (0 : Int32) then (jb_Reader_readModule_116 fu (jb_Reader_readModule_62 fu n) (nI len) (nI last) (nI k) (nI id) (xs_I u 17 (nI q'))) else (if nI id ≤ nI last then (some (.inr 0, xs_I u 17 (nI q'))) else (if nI id = (2 : Int32) then (some (.inr 0, xs_I u 17 (nI q'))) else (if nI id ≤ (11 : Int32) then (jb_Reader_readModule_116 fu (jb_Reader_readModule_62 fu n) (nI len) (nI last) (nI k) (nI id) (xs_I u 17 (nI q'))) else (some (.inr 0, xs_I u 17 (nI q'))))))) = some (.inr 0, xs_I u 17 (nI q')) := by
          rw [if_neg (fun y => hok (Or.inl (hid0.mp y)))]
          by_cases z1 : id ≤ last
          · rw [if_pos (hidl.mpr z1)]
          · rw [if_neg (fun y => z1 (hidl.mp y))]
            by_cases z2 : id = 2
            · rw [if_pos (hid2.mpr z2)]
            · rw [if_neg (fun y => z2 (hid2.mp y)), if_neg (fun y => hok (Or.inr ⟨by omega, z2, hid11.mp y⟩))]
        rw [hsame]
        exact yC_no
end
