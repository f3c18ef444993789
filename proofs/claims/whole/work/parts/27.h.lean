section
variable {α β γ δ : Type} {B : Nat → Int32} {u v w : xk_St} {L lim p q fu D len : Nat} {e : Int32} {T : List (Nat × List Nat × List Nat)} {g : Nat → Nat}
/-- type k as the reference has it -/
def yTy (c : Nat × List Nat × List Nat) (k : Nat) (v : xk_St) : Prop := v.2.2.1 4 k = nI (96 - c.1) ∧ v.2.2.1 5 k = nI c.2.1.length ∧ v.2.2.1 6 k = nI (if c.1 = 96 then c.2.2.length else 0) ∧ (∀ i, i < 16 → v.2.2.1 7 (32 * k + i) = nI (c.2.1.getD i 0)) ∧ ∀ i, i < 16 → v.2.2.1 7 (32 * k + 16 + i) = nI (c.2.2.getD i 0)
theorem nI_32 {t i : Nat} : (32 : Int32) * nI t + nI i = nI (32 * t + i) := by
  rw [← nI_add, show nI (32 * t) = 32 * nI t from by show Int32.ofNat _ = Int32.ofNat 32 * Int32.ofNat t; rw [Int32.ofNat_mul]]
theorem yl_gd {l : List Nat} {i : Nat} : (∃ x, l[i]? = some x ∧ l.getD i 0 = x) ∨ (l[i]? = none ∧ l.getD i 0 = 0) := by
  cases h : l[i]? with
  | none => exact Or.inr ⟨rfl, by rw [List.getD_eq_getElem?_getD, h]; rfl⟩
  | some x => exact Or.inl ⟨x, rfl, by rw [List.getD_eq_getElem?_getD, h]; rfl⟩
theorem yl_gds {l : List Nat} {i x : Nat} (h : l[i]? = some x) : l.getD i 0 = x := by rw [List.getD_eq_getElem?_getD, h]; rfl
theorem yl_map3 {f h : Nat → Nat} {a b : List Nat} (ha : a.length ≤ 16) (hf : f 0 = 0) (hh : h 0 = 0) : (a.map f = b.map h ↔ a.length = b.length ∧ ∀ i, i < 16 → f (a.getD i 0) = h (b.getD i 0)) := by
  rw [yl_map2]
  constructor
  · intro ⟨hl, h1⟩
    refine ⟨hl, fun i hi => ?_⟩
    by_cases z : i < a.length
    · obtain ⟨x, hx⟩ := yl_get z
      obtain ⟨y, hy⟩ := yl_get (l := b) (k := i) (by omega)
      rw [yl_gds hx, yl_gds hy]
      exact h1 i x y hx hy
    · rw [List.getD_eq_getElem?_getD, List.getD_eq_getElem?_getD, List.getElem?_eq_none (by omega), List.getElem?_eq_none (by omega)]
      exact hf.trans hh.symm
  · intro ⟨hl, h1⟩
    refine ⟨hl, fun i x y hx hy => ?_⟩
    have := h1 i (by have := yl_lt hx; omega)
    rw [yl_gds hx, yl_gds hy] at this
    exact this
/-- two types that are held against each other, by the reference -/
theorem mm_alike {k j : Nat} {c d : Nat × List Nat × List Nat} (hfu : 100 ≤ fu) (hc : T[k]? = some c) (hd : T[j]? = some d) (hk : k < 64) (hj : j < 64) (tc : yTy c k u) (td : yTy d j u) (gc : yg_ty c) (gd : yg_ty d) (vc : yv_ty T k c) (vd : yv_ty T j d) (hL : ∀ i, i < k → u.2.2.1 8 i = nI (g i)) (hL' : ∀ i, i < j → u.2.2.1 8 i = nI (g i)) (hg : ∀ i, g i ≤ i) :
    (yk_key T g j = yk_key T g k → fm_Model_areAlike fu (nI j) (nI k) u = some (1, u)) ∧ (¬ yk_key T g j = yk_key T g k → fm_Model_areAlike fu (nI j) (nI k) u = some (0, u)) := by
  have ac := yk_ah_of (T := T) (k := k) (fun z hz => by rw [hc] at hz; cases hz; exact gc) (fun z hz => by rw [hc] at hz; cases hz; exact vc) c hc
  have ad := yk_ah_of (T := T) (k := j) (fun z hz => by rw [hd] at hz; cases hz; exact gd) (fun z hz => by rw [hd] at hz; cases hz; exact vd) d hd
  have l2 : ∀ (c : Nat × List Nat × List Nat) k, yg_ty c → yv_ty T k c → c.2.2.length ≤ 16 := fun c k gc vc => by
    by_cases z : c.1 = 96
    · exact vc.2.1 z
    · have := (gc.2.2.2.1 z).1
      have := vc.1
      omega
  have l2c := l2 c k gc vc
  have l2d := l2 d j gd vd
  have l1c := vc.1
  have l1d := vd.1
  have n0 : ∀ k, yk_nr g k 0 = 0 := fun k => if_pos (by decide)
  have key : yk_key T g j = yk_key T g k ↔ d.1 = c.1 ∧ (d.2.1.length = c.2.1.length ∧ ∀ i, i < 16 → yk_nr g j (d.2.1.getD i 0) = yk_nr g k (c.2.1.getD i 0)) ∧ (d.2.2.length = c.2.2.length ∧ ∀ i, i < 16 → yk_nr g j (d.2.2.getD i 0) = yk_nr g k (c.2.2.getD i 0)) := by
    unfold yk_key
    rw [hc, hd]
    show (d.1, d.2.1.map (yk_nr g j), d.2.2.map (yk_nr g j)) = (c.1, c.2.1.map (yk_nr g k), c.2.2.map (yk_nr g k)) ↔ _
    simp only [Prod.mk.injEq]
    rw [yl_map3 l1d (n0 j) (n0 k), yl_map3 l2d (n0 j) (n0 k)]
  have b1 : ∀ (c : Nat × List Nat × List Nat) (i : Nat), yg_ty c → c.2.1.getD i 0 < 150 := fun c i gc => by
    rcases yl_gd (l := c.2.1) (i := i) with ⟨x, h1, h2⟩ | ⟨h1, h2⟩
    · have := gc.2.1 i x h1; omega
    · omega
  have b2 : ∀ (c : Nat × List Nat × List Nat) (i : Nat), yg_ty c → c.2.2.getD i 0 < 150 := fun c i gc => by
    rcases yl_gd (l := c.2.2) (i := i) with ⟨x, h1, h2⟩ | ⟨h1, h2⟩
    · by_cases z : c.1 = 96
      · have := gc.2.2.1 z i x h1; omega
      · have := (gc.2.2.2.1 z).2 i x h1; omega
    · omega
  have a1 : ∀ (l : List Nat) n, (∀ (i x : Nat), l[i]? = some x → x < 20 ∨ (x - 20) / 2 < n) → ∀ i, l.getD i 0 < 20 ∨ (l.getD i 0 - 20) / 2 < n := fun l n h i => by
    rcases yl_gd (l := l) (i := i) with ⟨x, h1, h2⟩ | ⟨h1, h2⟩
    · rw [h2]; exact h i x h1
    · rw [h2]; exact Or.inl (by decide)
  -- part i of a type
  let pt : Nat × List Nat × List Nat → Nat → Nat := fun c i => if i < 16 then c.2.1.getD i 0 else c.2.2.getD (i - 16) 0
  have hpt : ∀ (c : Nat × List Nat × List Nat) k, yTy c k u → ∀ i, i < 32 → u.2.2.1 7 (32 * k + i) = nI (pt c i) := fun c k tc i hi => by
    show _ = nI (if i < 16 then c.2.1.getD i 0 else c.2.2.getD (i - 16) 0)
    by_cases z : i < 16
    · rw [if_pos z]; exact tc.2.2.2.1 i z
    · rw [if_neg z, ← tc.2.2.2.2 (i - 16) (by omega), show 32 * k + i = 32 * k + 16 + (i - 16) by omega]
  have hpb : ∀ (c : Nat × List Nat × List Nat) i, yg_ty c → pt c i < 150 := fun c i gc => by
    show (if i < 16 then c.2.1.getD i 0 else c.2.2.getD (i - 16) 0) < 150
    split
    · exact b1 c i gc
    · exact b2 c (i - 16) gc
  have hpa : ∀ (c : Nat × List Nat × List Nat) n, ((∀ (i : Nat) x, c.2.1[i]? = some x → x < 20 ∨ (x - 20) / 2 < n) ∧ (∀ (i : Nat) x, c.2.2[i]? = some x → x < 20 ∨ (x - 20) / 2 < n)) → ∀ i, pt c i < 20 ∨ (pt c i - 20) / 2 < n := fun c n h i => by
    show (if i < 16 then c.2.1.getD i 0 else c.2.2.getD (i - 16) 0) < 20 ∨ ((if i < 16 then c.2.1.getD i 0 else c.2.2.getD (i - 16) 0) - 20) / 2 < n
    split
    · exact a1 _ n h.1 i
    · exact a1 _ n h.2 (i - 16)
  have hall : (∀ i, i < 32 → yk_nr g j (pt d i) = yk_nr g k (pt c i)) ↔ (∀ i, i < 16 → yk_nr g j (d.2.1.getD i 0) = yk_nr g k (c.2.1.getD i 0)) ∧ ∀ i, i < 16 → yk_nr g j (d.2.2.getD i 0) = yk_nr g k (c.2.2.getD i 0) := by
    constructor
    · intro h
      refine ⟨fun i hi => ?_, fun i hi => ?_⟩
      · have := h i (by omega)
        simp only [pt, if_pos hi] at this
        exact this
      · have := h (16 + i) (by omega)
        simp only [pt, if_neg (show ¬ 16 + i < 16 by omega), Nat.add_sub_cancel_left] at this
        exact this
    · intro ⟨h1, h2⟩ i hi
      show yk_nr g j (if i < 16 then d.2.1.getD i 0 else d.2.2.getD (i - 16) 0) = yk_nr g k (if i < 16 then c.2.1.getD i 0 else c.2.2.getD (i - 16) 0)
      by_cases z : i < 16
      · rw [if_pos z, if_pos z]; exact h1 i z
      · rw [if_neg z, if_neg z]; exact h2 (i - 16) (by omega)
  have loop := yb_all (N := 32) (fun i => yk_nr g j (pt d i) = yk_nr g k (pt c i)) (fun n i => jb_Model_areAlike_54 fu (n + 1) (nI j) (nI k) 1 (nI i) u) (some (1, u)) (some (0, u)) (fun n => ?_) (fun n i hi => ?_) 32 0 (fu - 1) (by omega) (by omega)
  · have hf1 : fu - 1 + 1 = fu := by omega
    rw [hf1] at loop
    have lp : (∀ i, 0 ≤ i → i < 32 → yk_nr g j (pt d i) = yk_nr g k (pt c i)) → jb_Model_areAlike_54 fu fu (nI j) (nI k) 1 0 u = some (1, u) := loop.1
    have ln : (∃ i, 0 ≤ i ∧ i < 32 ∧ ¬ yk_nr g j (pt d i) = yk_nr g k (pt c i)) → jb_Model_areAlike_54 fu fu (nI j) (nI k) 1 0 u = some (0, u) := loop.2
    have l0 : jb_Model_areAlike_54 fu fu (nI j) (nI k) 0 0 u = some (0, u) := by
      obtain ⟨f, hf⟩ : ∃ m, fu = m + 1 := ⟨fu - 1, by omega⟩
      conv => lhs; rw [hf]
      unfold jb_Model_areAlike_54
      simp only [xs_let, if_true, true_or, ite_self]
    unfold fm_Model_areAlike jb_Model_areAlike_49 jb_Model_areAlike_50
    rw [l0]
    have ij : ∀ (o : Option (Int32 × xk_St)), (if nI j < 0 ∨ 64 ≤ (nI j).toNatClampNeg then none else o) = o := fun o => if_neg (nI_in (N := 64) (by omega) (by decide))
    have ik : ∀ (o : Option (Int32 × xk_St)), (if nI k < 0 ∨ 64 ≤ (nI k).toNatClampNeg then none else o) = o := fun o => if_neg (nI_in (N := 64) (by omega) (by decide))
    simp only [ij, ik]
    rw [nI_clamp (by omega), nI_clamp (by omega), tc.1, td.1, tc.2.1, td.2.1, tc.2.2.1, td.2.2.1, key]
    have k1 := gc.1
    have k2 := gd.1
    have e1 : nI (96 - d.1) = nI (96 - c.1) ↔ d.1 = c.1 := (nI_eq (by omega) (by omega)).trans ⟨fun z => by omega, fun z => by rw [z]⟩
    have e2 : nI d.2.1.length = nI c.2.1.length ↔ d.2.1.length = c.2.1.length := nI_eq (by omega) (by omega)
    by_cases z1 : d.1 = c.1
    · rw [if_pos (e1.mpr z1)]
      by_cases z2 : d.2.1.length = c.2.1.length
      · rw [if_pos (e2.mpr z2)]
        have e3 : nI (if d.1 = 96 then d.2.2.length else 0) = nI (if c.1 = 96 then c.2.2.length else 0) ↔ d.2.2.length = c.2.2.length := by
          rw [z1]
          by_cases z : c.1 = 96
          · rw [if_pos z, if_pos z]; exact nI_eq (by omega) (by omega)
          · rw [if_neg z, if_neg z]
            have := (gc.2.2.2.1 z).1
            have := (gd.2.2.2.1 (by rw [z1]; exact z)).1
            exact ⟨fun _ => by omega, fun _ => rfl⟩
        by_cases z3 : d.2.2.length = c.2.2.length
        · rw [if_pos (e3.mpr z3)]
          refine ⟨fun h => lp fun i _ hi => hall.mpr ⟨h.2.1.2, h.2.2.2⟩ i hi, fun h => ln (Classical.byContradiction fun hno => h ?_)⟩
          have := hall.mp fun i hi => Classical.byContradiction fun hn => hno ⟨i, Nat.zero_le _, hi, hn⟩
          exact ⟨z1, ⟨z2, this.1⟩, z3, this.2⟩
        · rw [if_neg (fun z => z3 (e3.mp z))]
          exact ⟨fun h => absurd h.2.2.1 z3, fun _ => rfl⟩
      · rw [if_neg (fun z => z2 (e2.mp z))]
        exact ⟨fun h => absurd h.2.1.1 z2, fun _ => rfl⟩
    · rw [if_neg (fun z => z1 (e1.mp z))]
      exact ⟨fun h => absurd h.1 z1, fun _ => rfl⟩
  · show jb_Model_areAlike_54 fu (n + 1 + 1) (nI j) (nI k) 1 (nI 32) u = _
    unfold jb_Model_areAlike_54
    simp only [xs_let, if_true, or_true]
    rw [if_pos (by decide)]
  · obtain ⟨w1, w2⟩ := mm_pa (u := u) (x := pt d i) (y := pt c i) (k := k) (j := j) (hpb d i gd) (hpb c i gc) (hpa d (j + 1) ad i) (hpa c (k + 1) ac i) hk hj hL hL' hg
    have hstep : jb_Model_areAlike_54 fu (n + 1 + 1) (nI j) (nI k) 1 (nI i) u = xs_seq (fm_Model_isPartAlike (nI (pt d i)) (nI j) (nI (pt c i)) (nI k) u) fun a1 u2 => jb_Model_areAlike_54 fu (n + 1) (nI j) (nI k) a1 (nI (i + 1)) u2 := by
      conv => lhs; unfold jb_Model_areAlike_54
      simp only [xs_let]
      rw [if_neg (show ¬ (32 : Int32) ≤ nI i from nI_ge (b := 32) (by omega) (by decide)), if_neg (by decide), nI_32, nI_32, if_neg (nI_in (N := 2048) (by omega) (by decide)), if_neg (nI_in (N := 2048) (by omega) (by decide)), nI_clamp (by omega), nI_clamp (by omega), hpt d j td i hi, hpt c k tc i hi, nI_1]
    refine ⟨fun h => ?_, fun h => ?_⟩
    · refine hstep.trans ?_
      rw [w1 h, ys_seq]
    · refine hstep.trans ?_
      rw [w2 h, ys_seq]
      unfold jb_Model_areAlike_54
      simp only [xs_let, if_true, true_or, ite_self]
end
