section
variable {α β γ δ : Type} {B : Nat → Int32} {u v w : xk_St} {L lim p q fu D len : Nat} {e : Int32} {T : List (Nat × List Nat × List Nat)} {g : Nat → Nat}
theorem yk_nrA {x y k j : Nat} (h : x < 20 ∨ y < 20) : (yk_nr g k x = yk_nr g j y ↔ x = y) := by
  have h1 : ∀ k x, x < 20 → yk_nr g k x = x := fun k x h => if_pos h
  have h2 : ∀ k x, ¬ x < 20 → 20 ≤ yk_nr g k x := fun k x h => by
    unfold yk_nr
    rw [if_neg h]
    split <;> omega
  by_cases a : x < 20
  · rw [h1 k x a]
    by_cases b : y < 20
    · rw [h1 j y b]
    · have := h2 j y b
      omega
  · have := h2 k x a
    rw [h1 j y (by omega)]
    omega
theorem yk_nrI {x y k j : Nat} (hx : ¬ x < 20) (hy : ¬ y < 20) (ha : g ((x - 20) / 2) < 64) (hb : g ((y - 20) / 2) < 64) : (yk_nr g k x = yk_nr g j y ↔ x % 2 = y % 2 ∧ (((x - 20) / 2 = k ∧ (y - 20) / 2 = j) ∨ (¬ (x - 20) / 2 = k ∧ ¬ (y - 20) / 2 = j ∧ g ((x - 20) / 2) = g ((y - 20) / 2)))) := by
  unfold yk_nr
  rw [if_neg hx, if_neg hy]
  split <;> split <;> omega
theorem hh_orNull {x : Nat} (hx : x < 150) (h16 : 16 ≤ x) : fm_Types_orNull (nI (yv_h x)) u = some (nI (x % 2), u) := by
  unfold fm_Types_orNull
  rw [hh_isRef hx, ys_seq, if_neg (show ¬ x < 16 by omega), if_neg (show ¬ (1 : Int32) = 0 by decide), yq_a x hx]
  have : x % 2 = 0 ∨ x % 2 = 1 := by omega
  rcases this with h | h <;> rw [h] <;> rfl
/-- parts of two types that are held against each other -/
theorem hh_aw {x y k j : Nat} (hx : x < 150) (hy : y < 150) (hxa : x < 20 ∨ (x - 20) / 2 < k + 1) (hya : y < 20 ∨ (y - 20) / 2 < j + 1) (hk : k < 64) (hj : j < 64) (hL : ∀ i, i < k → u.2.2.1 5 i = nI (g i)) (hL' : ∀ i, i < j → u.2.2.1 5 i = nI (g i)) (hg : ∀ i, g i ≤ i) :
    (yk_nr g k x = yk_nr g j y → fm_Types_alikeWithin (nI (yv_h x)) (nI k) (nI (yv_h y)) (nI j) u = some (1, u)) ∧ (¬ yk_nr g k x = yk_nr g j y → fm_Types_alikeWithin (nI (yv_h x)) (nI k) (nI (yv_h y)) (nI j) u = some (0, u)) := by
  have hno : x < 20 ∨ y < 20 → (yk_nr g k x = yk_nr g j y → jb_Types_alikeWithin_30 (nI (yv_h x)) (nI (yv_h y)) u = some (1, u)) ∧ (¬ yk_nr g k x = yk_nr g j y → jb_Types_alikeWithin_30 (nI (yv_h x)) (nI (yv_h y)) u = some (0, u)) := fun h => by
    unfold jb_Types_alikeWithin_30
    rw [yk_nrA h]
    exact ⟨fun z => if_pos ((yq_i x hx y hy).mpr z), fun z => if_neg fun z2 => z ((yq_i x hx y hy).mp z2)⟩
  unfold fm_Types_alikeWithin
  rw [hh_isRef hx, ys_seq]
  by_cases x16 : x < 16
  · rw [if_pos x16, if_pos rfl]; exact hno (Or.inl (by omega))
  rw [if_neg x16, if_neg (show ¬ (1 : Int32) = 0 by decide), hh_isRef hy, ys_seq]
  by_cases y16 : y < 16
  · rw [if_pos y16, if_pos rfl]; exact hno (Or.inr (by omega))
  rw [if_neg y16, if_neg (show ¬ (1 : Int32) = 0 by decide)]
  unfold fm_Types_target
  simp only [ys_seq, xs_let]
  by_cases x20 : x < 20
  · rw [yq_t1 x x20 (by omega), if_pos (yq_b x x20 (by omega)).1]; exact hno (Or.inl x20)
  rw [yq_t2 x hx (by omega), if_neg (show ¬ nI ((x - 20) / 2 + 3) < 3 from fun z => by have := (nI_ltI (b := 3) (by omega) (by decide)).mp z; omega)]
  by_cases y20 : y < 20
  · rw [yq_t1 y y20 (by omega), if_neg (yi_nle.mpr (yq_b y y20 (by omega)).1)]; exact hno (Or.inr y20)
  rw [yq_t2 y hy (by omega), if_pos (show (3 : Int32) ≤ nI ((y - 20) / 2 + 3) from nI_le (a := 3) (by omega) (by omega)), nI_sub3, nI_sub3, hh_orNull hx (by omega), ys_seq, hh_orNull hy (by omega), ys_seq]
  have ha := hg ((x - 20) / 2)
  have hb := hg ((y - 20) / 2)
  rw [yk_nrI (g := g) x20 y20 (by omega) (by omega)]
  by_cases hm : x % 2 = y % 2
  · rw [if_pos (show nI (x % 2) = nI (y % 2) by rw [hm])]
    unfold jb_Types_alikeWithin_79 jb_Types_alikeWithin_91 jb_Types_alikeWithin_119
    have ea : nI ((x - 20) / 2) = nI k ↔ (x - 20) / 2 = k := nI_eq (by omega) (by omega)
    have eb : nI ((y - 20) / 2) = nI j ↔ (y - 20) / 2 = j := nI_eq (by omega) (by omega)
    by_cases za : (x - 20) / 2 = k
    · rw [if_pos (ea.mpr za)]
      by_cases zb : (y - 20) / 2 = j
      · rw [if_pos (eb.mpr zb), if_pos rfl, if_pos (ea.mpr za)]
        exact ⟨fun _ => rfl, fun h => absurd ⟨hm, Or.inl ⟨za, zb⟩⟩ h⟩
      · rw [if_neg (fun z => zb (eb.mp z)), if_neg (by decide)]
        exact ⟨fun h => by omega, fun _ => rfl⟩
    · rw [if_neg (fun z => za (ea.mp z))]
      by_cases zb : (y - 20) / 2 = j
      · rw [if_pos (eb.mpr zb), if_neg (by decide)]
        exact ⟨fun h => by omega, fun _ => rfl⟩
      · rw [if_neg (fun z => zb (eb.mp z)), if_pos rfl, if_neg (fun z => za (ea.mp z)), if_neg (nI_in (N := 65) (by omega) (by decide)), if_neg (nI_in (N := 65) (by omega) (by decide)), nI_clamp (by omega), nI_clamp (by omega), hL _ (by omega), hL' _ (by omega)]
        have ec : nI (g ((x - 20) / 2)) = nI (g ((y - 20) / 2)) ↔ g ((x - 20) / 2) = g ((y - 20) / 2) := nI_eq (by omega) (by omega)
        by_cases zc : g ((x - 20) / 2) = g ((y - 20) / 2)
        · rw [if_pos (ec.mpr zc)]
          exact ⟨fun _ => rfl, fun h => absurd ⟨hm, Or.inr ⟨za, zb, zc⟩⟩ h⟩
        · rw [if_neg (fun z => zc (ec.mp z))]
          exact ⟨fun h => by omega, fun _ => rfl⟩
  · rw [if_neg (fun z => hm ((nI_eq (by omega) (by omega)).mp z))]
    exact ⟨fun h => absurd h.1 hm, fun _ => rfl⟩
theorem yl_map2 {f h : Nat → Nat} {a b : List Nat} : (a.map f = b.map h ↔ a.length = b.length ∧ ∀ (i x y : Nat), a[i]? = some x → b[i]? = some y → f x = h y) := by
  constructor
  · intro e
    have hl : a.length = b.length := by rw [← List.length_map (f := f), e, List.length_map]
    refine ⟨hl, fun i x y hx hy => ?_⟩
    have h1 : (a.map f)[i]? = some (f x) := by rw [List.getElem?_map, hx]; rfl
    rw [e, List.getElem?_map, hy] at h1
    exact (Option.some.inj h1).symm
  · intro ⟨hl, hh⟩
    apply List.ext_getElem?
    intro i
    rw [List.getElem?_map, List.getElem?_map]
    by_cases hi : i < a.length
    · obtain ⟨x, hx⟩ := yl_get hi
      obtain ⟨y, hy⟩ := yl_get (l := b) (k := i) (by omega)
      rw [hx, hy]
      show some (f x) = some (h y)
      rw [hh i x y hx hy]
    · rw [List.getElem?_eq_none (by omega), List.getElem?_eq_none (by omega)]
      rfl
/-- two types that are held against each other -/
theorem hh_alike {k j : Nat} {c d : Nat × List Nat × List Nat} (hfu : 100 ≤ fu) (hT : yTh T u) (hV : yV1 T) (hc : T[k]? = some c) (hd : T[j]? = some d) (hL : ∀ i, i < k → u.2.2.1 5 i = nI (g i)) (hL' : ∀ i, i < j → u.2.2.1 5 i = nI (g i)) (hg : ∀ i, g i ≤ i) :
    (yk_key T g k = yk_key T g j → fm_Types_alike fu (nI k) (nI j) u = some (1, u)) ∧ (¬ yk_key T g k = yk_key T g j → fm_Types_alike fu (nI k) (nI j) u = some (0, u)) := by
  have hk := yl_lt hc
  have hj := yl_lt hd
  have h64 := hT.2.1
  obtain ⟨tc, gc⟩ := hT.2.2 k c hc
  obtain ⟨td, gd⟩ := hT.2.2 j d hd
  have ac := yk_ah_of (T := T) (k := k) (fun z hz => (hT.2.2 k z hz).2) (hV.2 k) c hc
  have ad := yk_ah_of (T := T) (k := j) (fun z hz => (hT.2.2 j z hz).2) (hV.2 j) d hd
  obtain ⟨vc1, vc2, -, -⟩ := hV.2 k c hc
  obtain ⟨vd1, vd2, -, -⟩ := hV.2 j d hd
  have c3 : u.2.2.1 3 k = nI c.2.1.length := by rw [tc.2.1, yn_cs (by omega)]
  have d3 : u.2.2.1 3 j = nI d.2.1.length := by rw [td.2.1, yn_cs (by omega)]
  have l2c : c.2.2.length ≤ 16 := by
    by_cases z : c.1 = 96
    · exact vc2 z
    · have := (gc.2.2.2.1 z).1
      omega
  have l2d : d.2.2.length ≤ 16 := by
    by_cases z : d.1 = 96
    · exact vd2 z
    · have := (gd.2.2.2.1 z).1
      omega
  have c4 : u.2.2.1 4 k = nI (if c.1 = 96 then c.2.2.length else 0) := by
    rw [tc.2.2.1]
    split
    · rw [yn_cs (by omega)]
    · rfl
  have d4 : u.2.2.1 4 j = nI (if d.1 = 96 then d.2.2.length else 0) := by
    rw [td.2.2.1]
    split
    · rw [yn_cs (by omega)]
    · rfl
  have key : yk_key T g k = yk_key T g j ↔ c.1 = d.1 ∧ c.2.1.map (yk_nr g k) = d.2.1.map (yk_nr g j) ∧ c.2.2.map (yk_nr g k) = d.2.2.map (yk_nr g j) := by
    unfold yk_key
    rw [hc, hd]
    show (c.1, c.2.1.map (yk_nr g k), c.2.2.map (yk_nr g k)) = (d.1, d.2.1.map (yk_nr g j), d.2.2.map (yk_nr g j)) ↔ _
    simp only [Prod.mk.injEq]
  rw [key, yl_map2, yl_map2]
  have b2c : ∀ (i x : Nat), c.2.2[i]? = some x → x < 150 := fun i x hx => by
    by_cases z : c.1 = 96
    · have := gc.2.2.1 z i x hx; omega
    · have := (gc.2.2.2.1 z).2 i x hx; omega
  have b2d : ∀ (i x : Nat), d.2.2[i]? = some x → x < 150 := fun i x hx => by
    by_cases z : d.1 = 96
    · have := gd.2.2.1 z i x hx; omega
    · have := (gd.2.2.2.1 z).2 i x hx; omega
  unfold fm_Types_alike
  have hk64 : k ≤ 64 := by omega
  have hj64 : j ≤ 64 := by omega
  simp only [xs_let, hh_ix hk64, hh_ix hj64, hh_ix' hk64, hh_ix' hj64, nI_clamp (show k < 2 ^ 31 by omega), nI_clamp (show j < 2 ^ 31 by omega)]
  rw [tc.1, td.1]
  have e1 : nI c.1 = nI d.1 ↔ c.1 = d.1 := nI_eq (by have := gc.1; omega) (by have := gd.1; omega)
  by_cases z1 : c.1 = d.1
  · rw [if_pos (e1.mpr z1), c3, d3]
    have e2 : nI c.2.1.length = nI d.2.1.length ↔ c.2.1.length = d.2.1.length := nI_eq (by omega) (by omega)
    by_cases z2 : c.2.1.length = d.2.1.length
    · rw [if_pos (e2.mpr z2), c4, d4]
      have e3 : nI (if c.1 = 96 then c.2.2.length else 0) = nI (if d.1 = 96 then d.2.2.length else 0) ↔ c.2.2.length = d.2.2.length := by
        rw [← z1]
        by_cases z : c.1 = 96
        · rw [if_pos z, if_pos z]; exact nI_eq (by omega) (by omega)
        · rw [if_neg z, if_neg z]
          have := (gc.2.2.2.1 z).1
          have := (gd.2.2.2.1 (by rw [← z1]; exact z)).1
          exact ⟨fun _ => by omega, fun _ => rfl⟩
      by_cases z3 : c.2.2.length = d.2.2.length
      · rw [if_pos (e3.mpr z3)]
        have hside : (if nI c.1 = (96 : Int32) then jb_Types_alike_84 fu (nI k) (nI j) (34 * nI k) (34 * nI j) (nI (if c.1 = 96 then c.2.2.length else 0)) u else jb_Types_alike_84 fu (nI k) (nI j) (34 * nI k) (34 * nI j) (nI c.2.1.length) u) = jb_Types_alike_89 fu fu (nI k) (nI j) (34 * nI k) (34 * nI j) (nI c.2.2.length) 0 u := by
          unfold jb_Types_alike_84
          by_cases z : c.1 = 96
          · rw [if_pos (by rw [z]; rfl), if_pos z]
          · rw [if_neg (yg_96 gc z), (gc.2.2.2.1 z).1]
        rw [hside]
        -- the second row
        have s2 := yb_all (N := c.2.2.length) (fun i => ∀ (x y : Nat), c.2.2[i]? = some x → d.2.2[i]? = some y → yk_nr g k x = yk_nr g j y) (fun n i => jb_Types_alike_140 fu n (nI k) (nI j) (34 * nI k) (34 * nI j) (nI c.2.2.length) (nI (17 + i)) u) (some (1, u)) (some (0, u)) (fun n => ?_) (fun n i hi => ?_) c.2.2.length 0 fu (by omega) (by omega)
        · have s1 := yb_all (N := c.2.1.length) (fun i => ∀ (x y : Nat), c.2.1[i]? = some x → d.2.1[i]? = some y → yk_nr g k x = yk_nr g j y) (fun n i => jb_Types_alike_89 fu n (nI k) (nI j) (34 * nI k) (34 * nI j) (nI c.2.2.length) (nI i) u) (jb_Types_alike_140 fu fu (nI k) (nI j) (34 * nI k) (34 * nI j) (nI c.2.2.length) 17 u) (some (0, u)) (fun n => ?_) (fun n i hi => ?_) c.2.1.length 0 fu (by omega) (by omega)
          · have s1a : (∀ i, 0 ≤ i → i < c.2.1.length → ∀ (x y : Nat), c.2.1[i]? = some x → d.2.1[i]? = some y → yk_nr g k x = yk_nr g j y) → jb_Types_alike_89 fu fu (nI k) (nI j) (34 * nI k) (34 * nI j) (nI c.2.2.length) 0 u = jb_Types_alike_140 fu fu (nI k) (nI j) (34 * nI k) (34 * nI j) (nI c.2.2.length) 17 u := s1.1
            have s2a : (∀ i, 0 ≤ i → i < c.2.2.length → ∀ (x y : Nat), c.2.2[i]? = some x → d.2.2[i]? = some y → yk_nr g k x = yk_nr g j y) → jb_Types_alike_140 fu fu (nI k) (nI j) (34 * nI k) (34 * nI j) (nI c.2.2.length) 17 u = some (1, u) := s2.1
            have s2b : (∃ i, 0 ≤ i ∧ i < c.2.2.length ∧ ¬ ∀ (x y : Nat), c.2.2[i]? = some x → d.2.2[i]? = some y → yk_nr g k x = yk_nr g j y) → jb_Types_alike_140 fu fu (nI k) (nI j) (34 * nI k) (34 * nI j) (nI c.2.2.length) 17 u = some (0, u) := s2.2
            refine ⟨fun h => ?_, fun h => ?_⟩
            · rw [s1a fun i _ _ => h.2.1.2 i, s2a fun i _ _ => h.2.2.2 i]
            · by_cases q1 : ∀ i, 0 ≤ i → i < c.2.1.length → ∀ (x y : Nat), c.2.1[i]? = some x → d.2.1[i]? = some y → yk_nr g k x = yk_nr g j y
              · rw [s1a q1]
                refine s2b (Classical.byContradiction fun hno => h ⟨z1, ⟨z2, fun i x y hx hy => q1 i (Nat.zero_le _) (yl_lt hx) x y hx hy⟩, z3, fun i x y hx hy => Classical.byContradiction fun hn => hno ⟨i, Nat.zero_le _, yl_lt hx, fun z => hn (z x y hx hy)⟩⟩)
              · exact s1.2 (Classical.byContradiction fun hno => q1 fun i _ hi => Classical.byContradiction fun hn => hno ⟨i, Nat.zero_le _, hi, hn⟩)
          · show jb_Types_alike_89 fu (n + 1) (nI k) (nI j) (34 * nI k) (34 * nI j) (nI c.2.2.length) (nI c.2.1.length) u = _
            unfold jb_Types_alike_89
            simp only [xs_let]
            rw [if_neg (nI_in (N := 65) (by omega) (by decide)), nI_clamp (by omega), c3, if_pos (Int32.le_refl _)]
          · obtain ⟨x, hx⟩ := yl_get (l := c.2.1) (k := i) hi
            obtain ⟨y, hy⟩ := yl_get (l := d.2.1) (k := i) (by omega)
            have bx := gc.2.1 i x hx
            have by' := gd.2.1 i y hy
            obtain ⟨w1, w2⟩ := hh_aw (u := u) (x := x) (y := y) (k := k) (j := j) (by omega) (by omega) (ac.1 i x hx) (ad.1 i y hy) (by omega) (by omega) hL hL' hg
            have hstep : jb_Types_alike_89 fu (n + 1) (nI k) (nI j) (34 * nI k) (34 * nI j) (nI c.2.2.length) (nI i) u = xs_seq (fm_Types_alikeWithin (nI (yv_h x)) (nI k) (nI (yv_h y)) (nI j) u) fun a u4 => if a = 0 then some (0, u4) else jb_Types_alike_89 fu n (nI k) (nI j) (34 * nI k) (34 * nI j) (nI c.2.2.length) (nI (i + 1)) u4 := by
              conv => lhs; unfold jb_Types_alike_89
              simp only [xs_let]
              rw [if_neg (nI_in (N := 65) (by omega) (by decide)), nI_clamp (by omega), c3, if_neg (nI_ge (by omega) (by omega)), nI_34, nI_34, if_neg (nI_in (N := 2210) (by omega) (by decide)), if_neg (nI_in (N := 2210) (by omega) (by decide)), nI_clamp (by omega), nI_clamp (by omega), tc.2.2.2.1 i x (by omega) hx, td.2.2.2.1 i y (by omega) hy, nI_1]
            refine ⟨fun h => ?_, fun h => ?_⟩
            · refine hstep.trans ?_
              rw [w1 (h x y hx hy), ys_seq, if_neg (by decide)]
            · refine hstep.trans ?_
              rw [w2 (fun z => h fun x' y' hx' hy' => by rw [hx] at hx'; rw [hy] at hy'; cases hx'; cases hy'; exact z), ys_seq, if_pos rfl]
        · show jb_Types_alike_140 fu (n + 1) (nI k) (nI j) (34 * nI k) (34 * nI j) (nI c.2.2.length) (nI (17 + c.2.2.length)) u = _
          unfold jb_Types_alike_140
          simp only [xs_let]
          rw [show (17 : Int32) = nI 17 from rfl, nI_add, if_pos (Int32.le_refl _)]
        · obtain ⟨x, hx⟩ := yl_get (l := c.2.2) (k := i) hi
          obtain ⟨y, hy⟩ := yl_get (l := d.2.2) (k := i) (by omega)
          obtain ⟨w1, w2⟩ := hh_aw (u := u) (x := x) (y := y) (k := k) (j := j) (b2c i x hx) (b2d i y hy) (ac.2 i x hx) (ad.2 i y hy) (by omega) (by omega) hL hL' hg
          have hstep : jb_Types_alike_140 fu (n + 1) (nI k) (nI j) (34 * nI k) (34 * nI j) (nI c.2.2.length) (nI (17 + i)) u = xs_seq (fm_Types_alikeWithin (nI (yv_h x)) (nI k) (nI (yv_h y)) (nI j) u) fun a u4 => if a = 0 then some (0, u4) else jb_Types_alike_140 fu n (nI k) (nI j) (34 * nI k) (34 * nI j) (nI c.2.2.length) (nI (17 + (i + 1))) u4 := by
            conv => lhs; unfold jb_Types_alike_140
            simp only [xs_let]
            rw [show (17 : Int32) = nI 17 from rfl, nI_add, if_neg (nI_ge (by omega) (by omega)), nI_34, nI_34, if_neg (nI_in (N := 2210) (by omega) (by decide)), if_neg (nI_in (N := 2210) (by omega) (by decide)), nI_clamp (by omega), nI_clamp (by omega), ← Nat.add_assoc, ← Nat.add_assoc, tc.2.2.2.2 i x (by omega) hx, td.2.2.2.2 i y (by omega) hy, nI_1, Nat.add_assoc 17 i 1]
          refine ⟨fun h => ?_, fun h => ?_⟩
          · refine hstep.trans ?_
            rw [w1 (h x y hx hy), ys_seq, if_neg (by decide)]
          · refine hstep.trans ?_
            rw [w2 (fun z => h fun x' y' hx' hy' => by rw [hx] at hx'; rw [hy] at hy'; cases hx'; cases hy'; exact z), ys_seq, if_pos rfl]
      · rw [if_neg (fun z => z3 (e3.mp z))]
        exact ⟨fun h => absurd h.2.2.1 z3, fun _ => rfl⟩
    · rw [if_neg (fun z => z2 (e2.mp z))]
      exact ⟨fun h => absurd h.2.1.1 z2, fun _ => rfl⟩
  · rw [if_neg (fun z => z1 (e1.mp z))]
    exact ⟨fun h => absurd h.1 z1, fun _ => rfl⟩
end
