section
variable {α β γ δ : Type} {B : Nat → Int32} {u v w : xk_St} {L lim p q fu D len : Nat} {e : Int32} {T : List (Nat × List Nat × List Nat)} {g : Nat → Nat}
theorem zC_g {I : α → β → xk_St → Prop} {o : Option (β × xk_St)} {s : (α × Nat) ⊕ Nat} {a : α} (h : zC B lim p o s (zJ B lim I)) (e : s = .inl (a, q)) : ∃ b v, o = some (b, v) ∧ ym_st B lim q v ∧ v.1 6 = 0 ∧ I a b v := by
  rcases h with ⟨a', q', e1, e2, e3⟩ | ⟨k, e1, _⟩
  · rw [e] at e1
    cases e1
    exact e3
  · rw [e] at e1; cases e1
/-- the reference reads again what can be read -/
theorem mk_R {c : α → β} {o : Option (β × xk_St)} {s : (α × Nat) ⊕ Nat} {a : α} (h : ym_R B u lim p o (yp_map c s)) (e : s = .inl (a, q)) : o = some (c a, xs_I u 4 (nI q)) := by
  rcases ym_mapped h with ⟨b, q', e1, e2, e3, e4⟩ | ⟨k, r, v, q', e1, e2, e3, e4⟩
  · rw [e] at e1
    cases e1
    exact e4
  · rw [e] at e1; cases e1
theorem mk_N {n : Nat} (hfu : 20 ≤ fu) (h : ym_st B lim p u) (h6 : u.1 6 = 0) (e : yp_N B lim p = .inl (n, q)) : fm_Model_number fu u = some (lN n, xs_I u 4 (nI q)) := mk_R (mm_N hfu h h6) e
theorem mk_V {n : Nat} (hfu : 20 ≤ fu) (h : ym_st B lim p u) (h6 : u.1 6 = 0) (e : yp_V B lim p = .inl (n, q)) : fm_Model_valueType fu u = some (nI n, xs_I u 4 (nI q)) := mk_R (mm_V hfu h h6) e
theorem mk_F {n : Nat} (hfu : 20 ≤ fu) (h : ym_st B lim p u) (h6 : u.1 6 = 0) (e : yp_F B lim p = .inl (n, q)) : fm_Model_fieldType fu u = some (nI n, xs_I u 4 (nI q)) := mk_R (mm_F hfu h h6) e
theorem mk_flag {n : Nat} (h : ym_st B lim p u) (h6 : u.1 6 = 0) (e : yp_flag B lim p = .inl (n, q)) : fm_Model_flag u = some (nI n, xs_I u 4 (nI q)) := mk_R (mm_flag h h6) e
theorem mk_one {b : Int32} (h : ym_st B lim p u) (h6 : u.1 6 = 0) (e : yp_byte B lim p = .inl (b, q)) : fm_Model_one u = some (b, xs_I u 4 (nI q)) := mk_R (c := fun x => x) (by rw [yp_map_id]; exact mm_one h h6) e
theorem mk_want {x : Int32} {a : Unit} (h : ym_st B lim p u) (h6 : u.1 6 = 0) (e : yp_want x B lim p = .inl (a, q)) : fm_Model_needs x u = some ((), xs_I u 4 (nI q)) := mk_R (c := fun x => x) (by rw [yp_map_id]; exact mm_want h h6) e
/-- a loop of the reference that takes items down, until one is wrong -/
theorem mt_loop {l : List α} {it : Nat → (α × Nat) ⊕ Nat} (P : Nat → α → Prop) (I : Nat → xk_St → Prop) (R : xk_St → Prop) (F : Nat → Nat → xk_St → Option (β × xk_St)) (E : xk_St → Option (β × xk_St))
    (hE : ∀ n v, F (n + 1) l.length v = E v) (hW : ∀ n k v, k ≤ l.length → v.1 7 = 1 → F (n + 1) k v = E v)
    (hs : ∀ n (k : Nat) a p q v, l[k]? = some a → it p = .inl (a, q) → ym_st B len p v → v.1 6 = 0 → v.1 7 = 0 → I k v → ∃ v', F (n + 1) k v = F n (k + 1) v' ∧ v'.1 6 = 0 ∧ ((P k a ∧ v'.1 7 = 0 ∧ ym_st B len q v' ∧ I (k + 1) v') ∨ (¬ P k a ∧ v'.1 7 = 1 ∧ R v'))) :
    ∀ (d k p e n : Nat) (v : xk_St), k + d = l.length → d + 1 < n → yp_rep it d p = .inl (l.drop k, e) → (0 < d → ym_st B len p v) → v.1 6 = 0 → v.1 7 = 0 → I k v →
      ∃ v', F n k v = E v' ∧ v'.1 6 = 0 ∧ (((∀ (j : Nat) a, k ≤ j → l[j]? = some a → P j a) ∧ v'.1 7 = 0 ∧ I l.length v' ∧ (ym_st B len p v → ym_st B len e v')) ∨ ((∃ (j : Nat) (a : α), l[j]? = some a ∧ ¬ P j a) ∧ v'.1 7 = 1 ∧ R v')) := by
  intro d
  induction d with
  | zero =>
    intro k p e n v h1 h2 h3 h4 h6 h7 hI
    obtain ⟨n, rfl⟩ : ∃ m, n = m + 1 := ⟨n - 1, by omega⟩
    obtain rfl : k = l.length := by omega
    have hep : e = p := by
      unfold yp_rep at h3
      exact (congrArg Prod.snd (Sum.inl.inj h3)).symm
    exact ⟨v, hE n v, h6, Or.inl ⟨fun j a hj ha => absurd (yl_lt ha) (by omega), h7, hI, fun z => by rw [hep]; exact z⟩⟩
  | succ d ih =>
    intro k p e n v h1 h2 h3 h4 h6 h7 hI
    obtain ⟨n, rfl⟩ : ∃ m, n = m + 1 := ⟨n - 1, by omega⟩
    obtain ⟨a, ha⟩ := yl_get (l := l) (k := k) (by omega)
    unfold yp_rep at h3
    obtain ⟨a', q, e1, e2⟩ := yp_thenI h3
    obtain ⟨l', r, e3, e4⟩ := yp_thenI e2
    have hdr : l.drop k = a :: l.drop (k + 1) := by
      rw [List.drop_eq_getElem_cons (by omega)]
      congr 1
      have := List.getElem?_eq_getElem (l := l) (i := k) (by omega)
      rw [ha] at this
      exact (Option.some.inj this).symm
    rw [hdr] at e4
    cases e4
    obtain ⟨v', g1, g2, g3⟩ := hs n k a p q v ha e1 (h4 (by omega)) h6 h7 hI
    rw [g1]
    rcases g3 with ⟨c1, c2, c3, c4⟩ | ⟨c1, c2, c3⟩
    · obtain ⟨w, d1, d2, d3⟩ := ih (k + 1) q e n v' (by omega) (by omega) e3 (fun _ => c3) g2 c2 c4
      refine ⟨w, d1, d2, d3.imp (fun z => ⟨fun j b hj hb => ?_, z.2.1, z.2.2.1, fun _ => z.2.2.2 c3⟩) id⟩
      by_cases y : j = k
      · subst y
        rw [ha] at hb
        cases hb
        exact c1
      · exact z.1 j b (by omega) hb
    · obtain ⟨m, rfl⟩ : ∃ m, n = m + 1 := ⟨n - 1, by omega⟩
      exact ⟨v', hW m (k + 1) v' (by omega) c2, g2, Or.inr ⟨⟨k, a, ha, c1⟩, c2, c3⟩⟩
theorem yr_r : ∀ x, x < 150 → (nI x < 16 ↔ x < 16) := by decide +kernel
theorem yr_t : ∀ x, x < 150 → 16 ≤ x → (nI x - 16) / 2 = nI ((x - 16) / 2) := by decide +kernel
theorem yr_a : ∀ x, x < 150 → (nI x &&& 1) = nI (x % 2) := by decide +kernel
theorem yr_b : ∀ x, x < 20 → 16 ≤ x → nI ((x - 16) / 2) < 2 := by decide +kernel
theorem yr_s : ∀ x, x < 150 → 20 ≤ x → nI ((x - 16) / 2) - 2 = nI ((x - 20) / 2) := by decide +kernel
theorem mm_isRef {x : Nat} (hx : x < 150) : fm_Model_isReference (nI x) u = some (if x < 16 then 0 else 1, u) := by
  unfold fm_Model_isReference
  by_cases h : x < 16
  · rw [if_pos ((yr_r x hx).mpr h), if_pos h]
  · rw [if_neg (fun z => h ((yr_r x hx).mp z)), if_neg h]
theorem mm_tgt {x : Nat} (hx : x < 150) (h16 : 16 ≤ x) : fm_Model_targetOf (nI x) u = some (nI ((x - 16) / 2), u) := by
  unfold fm_Model_targetOf
  rw [if_neg (by decide), yr_t x hx h16]
/-- the kinds of the first n types, as the reference has them -/
def yKm (T : List (Nat × List Nat × List Nat)) (n : Nat) (u : xk_St) : Prop := ∀ (k : Nat) c, k < n → T[k]? = some c → u.2.2.1 4 k = nI (96 - c.1) ∧ yg_ty c
/-- whether a type is there -/
theorem mm_there {x n : Nat} (hx : x < 150) (hn : n ≤ 64) (hnT : n ≤ T.length) (hK : yKm T n u) : (yv_in T n x → fm_Model_isThere (nI x) (nI n) u = some (1, u)) ∧ (¬ yv_in T n x → fm_Model_isThere (nI x) (nI n) u = some (0, u)) := by
  unfold fm_Model_isThere jb_Model_isThere_19
  rw [mm_isRef hx, ys_seq]
  by_cases h16 : x < 16
  · rw [if_pos h16, if_pos rfl]
    exact ⟨fun _ => rfl, fun h => absurd (Or.inl (by omega)) h⟩
  · rw [if_neg h16, if_neg (show ¬ (1 : Int32) = 0 by decide), mm_tgt hx (by omega), ys_seq]
    unfold fm_Model_isObjectType jb_Model_isObjectType_23
    by_cases h20 : x < 20
    · rw [if_pos (yr_b x h20 (by omega)), ys_seq, if_neg (show ¬ (1 : Int32) = 0 by decide)]
      exact ⟨fun _ => rfl, fun h => absurd (Or.inl (by omega)) h⟩
    · rw [if_neg (show ¬ nI ((x - 16) / 2) < 2 from fun z => by have := (nI_ltI (b := 2) (by omega) (by decide)).mp z; omega), yr_s x hx (by omega)]
      by_cases hl : n ≤ (x - 20) / 2
      · rw [if_pos (nI_le hl (by omega)), ys_seq, if_pos rfl]
        exact ⟨fun h => by rcases h with h | h <;> omega, fun _ => rfl⟩
      · rw [if_neg (nI_ge (by omega) (by omega)), if_neg (nI_in (N := 64) (by omega) (by decide)), nI_clamp (by omega)]
        obtain ⟨c, hc⟩ := yl_get (l := T) (k := (x - 20) / 2) (by omega)
        obtain ⟨t1, tg⟩ := hK _ c (by omega) hc
        rw [t1]
        have h0 : nI (96 - c.1) = (0 : Int32) ↔ c.1 = 96 := by
          have := tg.1
          exact (nI_eq (b := 0) (by omega) (by decide)).trans ⟨fun z => by omega, fun z => by omega⟩
        by_cases h96 : c.1 = 96
        · rw [if_pos (h0.mpr h96), ys_seq, if_pos rfl]
          refine ⟨fun h => ?_, fun _ => rfl⟩
          rcases h with h | ⟨-, c', h1, h2⟩
          · omega
          · rw [hc] at h1; cases h1; exact absurd h96 h2
        · rw [if_neg (fun z => h96 (h0.mp z)), ys_seq, if_neg (show ¬ (1 : Int32) = 0 by decide)]
          exact ⟨fun _ => rfl, fun h => absurd (Or.inr ⟨by omega, c, hc, h96⟩) h⟩
/-- parts of two types that are held against each other, by the reference -/
theorem mm_pa {x y k j : Nat} (hx : x < 150) (hy : y < 150) (hxa : x < 20 ∨ (x - 20) / 2 < j + 1) (hya : y < 20 ∨ (y - 20) / 2 < k + 1) (hk : k < 64) (hj : j < 64) (hL : ∀ i, i < k → u.2.2.1 8 i = nI (g i)) (hL' : ∀ i, i < j → u.2.2.1 8 i = nI (g i)) (hg : ∀ i, g i ≤ i) :
    (yk_nr g j x = yk_nr g k y → fm_Model_isPartAlike (nI x) (nI j) (nI y) (nI k) u = some (1, u)) ∧ (¬ yk_nr g j x = yk_nr g k y → fm_Model_isPartAlike (nI x) (nI j) (nI y) (nI k) u = some (0, u)) := by
  have hi : nI x = nI y ↔ x = y := nI_eq (by omega) (by omega)
  have hno : x < 20 ∨ y < 20 → (yk_nr g j x = yk_nr g k y → jb_Model_isPartAlike_14 (nI x) (nI y) u = some (1, u)) ∧ (¬ yk_nr g j x = yk_nr g k y → jb_Model_isPartAlike_14 (nI x) (nI y) u = some (0, u)) := fun h => by
    unfold jb_Model_isPartAlike_14
    rw [yk_nrA h]
    exact ⟨fun z => if_pos (hi.mpr z), fun z => if_neg fun z2 => z (hi.mp z2)⟩
  unfold fm_Model_isPartAlike
  rw [mm_isRef hx, ys_seq]
  by_cases x16 : x < 16
  · rw [if_pos x16, if_pos rfl]; exact hno (Or.inl (by omega))
  rw [if_neg x16, if_neg (show ¬ (1 : Int32) = 0 by decide), mm_isRef hy, ys_seq]
  by_cases y16 : y < 16
  · rw [if_pos y16, if_pos rfl]; exact hno (Or.inr (by omega))
  rw [if_neg y16, if_neg (show ¬ (1 : Int32) = 0 by decide)]
  simp only [xs_let, mm_tgt hx (show 16 ≤ x by omega), mm_tgt hy (show 16 ≤ y by omega), ys_seq]
  rw [yr_a x hx, yr_a y hy]
  have hmm : nI (x % 2) = nI (y % 2) ↔ x % 2 = y % 2 := nI_eq (by omega) (by omega)
  unfold jb_Model_isPartAlike_62
  by_cases x20 : x < 20
  · have hneg : nI ((x - 16) / 2) - 2 < 0 := by
      have : ∀ x, x < 20 → 16 ≤ x → nI ((x - 16) / 2) - 2 < 0 := by decide +kernel
      exact this x x20 (by omega)
    rw [if_pos hneg, yk_nrA (Or.inl x20)]
    have hab : nI ((x - 16) / 2) - 2 = nI ((y - 16) / 2) - 2 ↔ (x - 16) / 2 = (y - 16) / 2 := by
      constructor
      · intro z
        have := congrArg (fun t => t + 2) z
        simp only [Int32.sub_add_cancel] at this
        exact (nI_eq (by omega) (by omega)).mp this
      · intro z; rw [z]
    by_cases hm : x % 2 = y % 2
    · rw [if_pos (hmm.mpr hm)]
      by_cases hq : (x - 16) / 2 = (y - 16) / 2
      · rw [if_pos (hab.mpr hq)]
        exact ⟨fun _ => rfl, fun h => absurd (by omega) h⟩
      · rw [if_neg (fun z => hq (hab.mp z))]
        exact ⟨fun h => absurd (by rw [h]) hq, fun _ => rfl⟩
    · rw [if_neg (fun z => hm (hmm.mp z))]
      exact ⟨fun h => absurd (by rw [h]) hm, fun _ => rfl⟩
  · rw [yr_s x hx (by omega), if_neg (show ¬ nI ((x - 20) / 2) < 0 from nI_pos (by omega))]
    by_cases y20 : y < 20
    · have hneg : ¬ (0 : Int32) ≤ nI ((y - 16) / 2) - 2 := by
        have : ∀ y, y < 20 → 16 ≤ y → ¬ (0 : Int32) ≤ nI ((y - 16) / 2) - 2 := by decide +kernel
        exact this y y20 (by omega)
      have hne : ¬ nI ((x - 20) / 2) = nI ((y - 16) / 2) - 2 := fun z => by
        rw [← z] at hneg
        exact hneg (nI_le (a := 0) (Nat.zero_le _) (by omega))
      rw [if_neg hneg, if_neg hne, yk_nrA (Or.inr y20)]
      refine ⟨fun h => absurd h (by omega), fun _ => ?_⟩
      split <;> rfl
    · rw [yr_s y hy (by omega), if_pos (show (0 : Int32) ≤ nI ((y - 20) / 2) from nI_le (a := 0) (Nat.zero_le _) (by omega))]
      unfold jb_Model_isPartAlike_88 jb_Model_isPartAlike_118
      have ha := hg ((x - 20) / 2)
      have hb := hg ((y - 20) / 2)
      rw [yk_nrI (g := g) x20 y20 (by omega) (by omega)]
      by_cases hm : x % 2 = y % 2
      · rw [if_pos (hmm.mpr hm)]
        have ea : nI ((x - 20) / 2) = nI j ↔ (x - 20) / 2 = j := nI_eq (by omega) (by omega)
        have eb : nI ((y - 20) / 2) = nI k ↔ (y - 20) / 2 = k := nI_eq (by omega) (by omega)
        have la : nI j ≤ nI ((x - 20) / 2) ↔ j ≤ (x - 20) / 2 := nI_leI (by omega) (by omega)
        have lb : nI k ≤ nI ((y - 20) / 2) ↔ k ≤ (y - 20) / 2 := nI_leI (by omega) (by omega)
        by_cases za : (x - 20) / 2 = j
        · rw [if_pos (ea.mpr za), if_pos (la.mpr (by omega))]
          by_cases zb : (y - 20) / 2 = k
          · rw [if_pos (eb.mpr zb)]
            exact ⟨fun _ => rfl, fun h => absurd ⟨hm, Or.inl ⟨za, zb⟩⟩ h⟩
          · rw [if_neg (fun z => zb (eb.mp z))]
            exact ⟨fun h => by omega, fun _ => rfl⟩
        · rw [if_neg (fun z => za (ea.mp z)), if_neg (fun z => by have := la.mp z; omega)]
          by_cases zb : (y - 20) / 2 = k
          · rw [if_pos (lb.mpr (by omega))]
            exact ⟨fun h => by omega, fun _ => rfl⟩
          · rw [if_neg (fun z => by have := lb.mp z; omega), if_neg (nI_in (N := 64) (by omega) (by decide)), if_neg (nI_in (N := 64) (by omega) (by decide)), nI_clamp (by omega), nI_clamp (by omega), hL' _ (by omega), hL _ (by omega)]
            have ec : nI (g ((x - 20) / 2)) = nI (g ((y - 20) / 2)) ↔ g ((x - 20) / 2) = g ((y - 20) / 2) := nI_eq (by omega) (by omega)
            by_cases zc : g ((x - 20) / 2) = g ((y - 20) / 2)
            · rw [if_pos (ec.mpr zc)]
              exact ⟨fun _ => rfl, fun h => absurd ⟨hm, Or.inr ⟨za, zb, zc⟩⟩ h⟩
            · rw [if_neg (fun z => zc (ec.mp z))]
              exact ⟨fun h => by omega, fun _ => rfl⟩
      · rw [if_neg (fun z => hm (hmm.mp z))]
        exact ⟨fun h => absurd h.1 hm, fun _ => rfl⟩
end
