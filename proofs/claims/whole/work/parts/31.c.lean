section
variable {α β γ δ σ τ : Type} {B : Nat → Int32} {u v w x u0 : xk_St} {T : List (Nat × List Nat × List Nat)} {F : List Nat} {G : List (Nat × Nat × Nat × Int64)} {L : List Nat} {n fu tc mc lim p q len f D k : Nat} {h z : Nat → Nat} {S : Nat → Option (Nat × Nat)} {l4 l5 : List (Nat × Option Nat)} {l6 : List (Nat × Nat × Nat × Int64)} {l7 : List ((Nat × Nat) × Nat × Nat)} {n8 : Option Nat} {l9 : List (Int64 × List Nat)} {l10 : List sBo} {l11 : List (Int64 × Nat × Nat)}
theorem ys_catl {r : α} {g : Nat → xk_St → Option β} {f : α → xk_St → Option β} : xs_cat (some (.inl r, u)) g f = f r u := rfl
theorem ys_catr {k : Nat} {g : Nat → xk_St → Option β} {f : α → xk_St → Option β} : xs_cat (some (.inr k, u)) g f = g k u := rfl
/-- all bodies, by the class -/
theorem hc_all (hfu : 20000 ≤ fu) (he : yCe T u) (hEn : sEn T F tc mc G u) (hw : sWh h u) (hl : l10.length = F.length) (hR : ∀ (k : Nat) a, l10[k]? = some a → sRd D B u k (z k) a) (hz : ∀ i j, i < j → j < l10.length → z i < z j) : ∀ (m k n : Nat) (v : xk_St), k + m = l10.length → m < n → sIv T F tc mc G z h l10 u k v →
    ((∀ (j : Nat) a, k ≤ j → l10[j]? = some a → yv_bd T F tc mc G z j a) ∧ ∃ w n', jb_House_load_70 fu n (nI k) v = jb_House_load_70 fu (n' + 1) (nI l10.length) w ∧ sIv T F tc mc G z h l10 u l10.length w) ∨ ((¬ ∀ (j : Nat) a, k ≤ j → l10[j]? = some a → yv_bd T F tc mc G z j a) ∧ ∃ w, jb_House_load_70 fu n (nI k) v = some (-2, w)) := by
  intro m
  induction m with
  | zero =>
    intro k n v hk hn hv
    obtain ⟨n, rfl⟩ : ∃ m, n = m + 1 := ⟨n - 1, by omega⟩
    obtain rfl : k = l10.length := by omega
    exact Or.inl ⟨fun j a hj ha => by have := yl_lt ha; omega, v, n, rfl, hv⟩
  | succ m ih =>
    intro k n v hk hn hv
    obtain ⟨n, rfl⟩ : ∃ m, n = m + 1 := ⟨n - 1, by omega⟩
    obtain ⟨a, ha⟩ := yl_get (l := l10) (k := k) (by omega)
    have hF64 := hEn.2.1
    have v10 : v.1 10 = nI F.length := (hv.1.1 10 (by decide)).trans hEn.1
    have hstep : jb_House_load_70 fu (n + 1) (nI k) v = xs_cat (fm_Checker_checkBody fu (nI k) v) (fun k24 u25 => if k24 = 0 then (some ((-2 : Int32), u25)) else none) fun _ u23 => jb_House_load_70 fu n (nI (k + 1)) u23 := by
      conv => lhs; unfold jb_House_load_70
      simp only [xs_let]
      rw [v10, if_neg (nI_ge (by omega) (by omega))]
      simp only [nI_1]
    rw [hstep]
    rcases hc_next (fu := fu) hfu he hEn hw hl hR hz ha hv with ⟨b1, w, b2, b3⟩ | ⟨b1, w, b2⟩
    · rw [b2, ys_catl]
      rcases ih (k + 1) n w (by omega) (by omega) b3 with ⟨c1, c2⟩ | ⟨c1, c2⟩
      · refine Or.inl ⟨fun j b hj hb => ?_, c2⟩
        by_cases zj : j = k
        · subst zj; rw [ha] at hb; cases hb; exact b1
        · exact c1 j b (by omega) hb
      · exact Or.inr ⟨fun y => c1 fun j b hj hb => y j b (by omega) hb, c2⟩
    · rw [b2, ys_catr, if_pos rfl]
      exact Or.inr ⟨fun y => b1 (y k a (Nat.le_refl _) ha), w, rfl⟩
/-- where a body's entries begin -/
def hZ (u : xk_St) (k : Nat) : Nat := (u.2.2.1 13 k).toNatClampNeg
theorem yp_bodyL {a : sBo} (hb : yp_body D B lim p = .inl (a, q)) : (∃ r2 q lim, yp_code B lim D [false] r2 = .inl (a.2.2, q)) ∧ ∀ (i : Nat) x, a.2.1[i]? = some x → 0 < x.2 ∧ x.2 ≤ 149 ∧ (x.2 = 1 ∨ x.2 = 2 ∨ 16 ≤ x.2) := by
  obtain ⟨m, q0, r1, r2, h1, b1, h2, h4, h5, -⟩ := yp_bodyI hb
  refine ⟨⟨r2, _, _, h5⟩, fun i x hx => ?_⟩
  obtain ⟨p', q', e⟩ := yp_rep_mem h4 hx
  obtain ⟨n', r, k1, e⟩ := yp_thenI e
  obtain ⟨c', r', k2, e⟩ := yp_thenI e
  cases e
  have := yp_Vb k2
  exact ⟨this.1, this.2, yp_Vc k2⟩
/-- the module as the class has it before the bodies are checked -/
theorem hc_pre (hM : yMod D B S T F l4 l5 l6 l7 n8 l9 l10 l11) (hD : yDall D B S u0) (hV : yVp B T F l4 l5 l6 l7 n8 l9 l10.length l11) (hf : yf_fr [] [] [5] [] u0 u) (h5 : ∀ k, k < T.length → u.2.2.1 5 k = nI (yl_f T k)) :
    ∃ h, yCe T u ∧ sEn T F l4.length l5.length l6 u ∧ sWh h u ∧ (∀ (k : Nat) a, l10[k]? = some a → sRd D B u k (hZ u k) a) ∧ (∀ i j, i < j → j < l10.length → hZ u i < hZ u j) ∧ ∀ (k s : Nat) c, l9[k]? = some c → u.2.2.1 28 k = nI s → s ≤ 8192 → s + c.2.length ≤ h 0 := by
  obtain ⟨m1, m3, m4, m5, m6, m7, m8, m9, m10, m11⟩ := hM
  obtain ⟨⟨x1, a1, b1, c1⟩, ⟨x3, a3, b3, c3⟩, ⟨x4, a4, b4, c4⟩, ⟨x5, a5, b5, c5⟩, ⟨x6, a6, b6, c6⟩, ⟨x7, a7, b7, c7⟩, ⟨x8, a8, b8⟩, ⟨x9, a9, b9, c9⟩, ⟨x10, a10, b10, c10⟩, ⟨x11, a11, b11, c11⟩, -, e1, e2, e3⟩ := hD
  obtain rfl := yX_inj m1 a1
  obtain rfl := yX_inj m3 a3
  obtain rfl := yX_inj m4 a4
  obtain rfl := yX_inj m5 a5
  obtain rfl := yX_inj m6 a6
  obtain rfl := yX_inj m9 a9
  obtain rfl := yX_inj m10 a10
  obtain ⟨v1, v2, v4, v5, v6, v7, v8, v9, v10, v11⟩ := hV
  have fI : ∀ k, u.1 k = u0.1 k := fun k => hf.1 k (by simp)
  have fA : ∀ k, ¬ k = 5 → u.2.2.1 k = u0.2.2.1 k := fun k hk => hf.2.2.1 k (by simp [hk])
  have fB : ∀ k, u.2.2.2 k = u0.2.2.2 k := fun k => hf.2.2.2 k (by simp)
  have hTh : yTh T u := by
    refine ⟨(fI 7).trans b1, v1.1, fun k c hc => ⟨?_, yX_all (fun _ _ _ _ _ h => yp_tf_g h) m1 k c hc⟩⟩
    have := c1 k c (by have := yl_lt hc; have := v1.1; omega) hc
    unfold yk_ty at this ⊢
    rw [fA 2 (by decide), fA 3 (by decide), fA 4 (by decide), fA 6 (by decide)]
    exact this
  have hbody : ∀ (k : Nat) a, l10[k]? = some a → sRd D B u k (hZ u k) a := fun k a ha => by
    obtain ⟨q1, q2⟩ := yX_all (Q := fun a : sBo => (∃ r2 q lim, yp_code B lim D [false] r2 = .inl (a.2.2, q)) ∧ ∀ (i : Nat) x, a.2.1[i]? = some x → 0 < x.2 ∧ x.2 ≤ 149 ∧ (x.2 = 1 ∨ x.2 = 2 ∨ 16 ≤ x.2)) (fun lim p a q _ h => yp_bodyL h) m10 k a ha
    obtain ⟨sz, d1, d2, d3, d4, m, d5, d6, d7⟩ := c10 k a (by have := yl_lt ha; have := v2.1; omega) ha
    have hzk : hZ u k = sz := by
      unfold hZ
      rw [fA 13 (by decide), d1, nI_clamp (by omega)]
    rw [hzk]
    refine ⟨by rw [fA 13 (by decide)]; exact d1, by rw [fA 7 (by decide)]; exact d2, fun i x hx => ?_, ?_, ⟨m, (fI 8).trans d5, d6, d7⟩, q1, q2⟩
    · rw [fA 7 (by decide), fA 8 (by decide), fB 2]
      exact d3 i x hx
    · refine yk_bodyF (fun j _ => ⟨by rw [fA 7 (by decide)], by rw [fA 8 (by decide)], by rw [fB 2]⟩) (fA 9 (by decide)) (fA 11 (by decide)) (fI 9) d4
  have hz : ∀ i j, i < j → j < l10.length → hZ u i < hZ u j := fun i j hij hj => by
    have hS : ¬ S 10 = none := fun y => by
      rw [y] at m10
      have : l10 = [] := m10
      rw [this] at hj; simp at hj
    obtain ⟨n, ⟨sz, b, s1, s2, s3, s4, s5⟩, hn⟩ := e3 hS
    have hn := hn l10 m10
    have h64 := v2.1
    have hi := s3 i (by omega) (by omega)
    have hj' := s3 j (by omega) (by omega)
    have l1 := s4 i (by omega)
    have l2 := s4 j (by omega)
    unfold hZ
    rw [fA 13 (by decide), hi, hj', nI_clamp (by omega), nI_clamp (by omega)]
    exact s5 i j hij (by omega)
  have hEn : sEn T F l4.length l5.length l6 u := by
    refine ⟨(fI 10).trans b3, v2.1, fun k t ht => ⟨?_, v2.2 k t ht⟩, ⟨(fI 11).trans b4, v4.1⟩, ⟨(fI 12).trans b5, v5.1⟩, (fI 13).trans b6, v6.1, fun k a ha => ?_⟩
    · obtain ⟨c, hc, -⟩ := v2.2 k t ht
      have := yl_lt hc
      have h64 := v1.1
      rw [fA 12 (by decide), c3 k t (by have := yl_lt ht; have := v2.1; omega) ht, yn_cs (by omega)]
    · obtain ⟨⟨g1, g2, g3⟩, g4⟩ := yp_gloG m6 k a ha
      obtain ⟨w1, w2, w3⟩ := yv_inS g1 g2 g3 (v6.2 k a ha).1
      obtain ⟨h1, h2, h3, h4⟩ := c6 k a (by have := yl_lt ha; have := v6.1; omega) ha
      rw [fA 21 (by decide), fA 22 (by decide), yu_h g2]
      exact ⟨h1, h2, g4, w1, w2⟩
  have hel : ∀ (k s : Nat) c, l9[k]? = some c → u.2.2.1 28 k = nI s → s ≤ 8192 → s + c.2.length ≤ 8192 := fun k s c hc hs hs2 => by
    obtain ⟨s', m, d1, d2, d3, d4, d5, d6, d7⟩ := c9 k c (by have := yl_lt hc; have := v9.1; omega) hc
    rw [fA 28 (by decide)] at hs
    have : s' = s := (nI_eq (by omega) (by omega)).mp (d1.symm.trans hs)
    omega
  by_cases hS : S 10 = none
  · refine ⟨fun _ => 8192, ⟨hTh, v1, h5⟩, hEn, ⟨fun _ _ _ => Nat.le_refl _, 0, (fI 8).trans (e1 hS), by decide, fun k hk => by omega⟩, hbody, hz, fun k s c hc hs hs2 => hel k s c hc hs hs2⟩
  · obtain ⟨N0, hW, hE⟩ := e2 hS
    obtain ⟨h, ⟨w0, sz, w1, w2, w3⟩, hN0⟩ := yW_h hW
    refine ⟨h, ⟨hTh, v1, h5⟩, hEn, ⟨w0, sz, (fI 8).trans w1, w2, fun k hk h14 => ?_⟩, hbody, hz, fun k s c hc hs hs2 => ?_⟩
    · rw [fA 7 (by decide)] at h14
      rw [fA 8 (by decide), fB 2]
      exact w3 k hk h14
    · have := hE l9 m9 k s c (by have := yl_lt hc; have := v9.1; omega) hc (by rw [← fA 28 (by decide)]; exact hs) hs2
      omega
end
