section
variable {α β γ δ : Type} {B : Nat → Int32} {u v w : xk_St} {L lim p q fu D len : Nat} {e : Int32} {T : List (Nat × List Nat × List Nat)} {S : Nat → Option (Nat × Nat)} {g : Nat → Nat}
theorem yv_limH {m : Nat} {a : Nat × Option Nat} (hm : m < 2 ^ 30) (ha : a.1 < 2 ^ 32) (hy : ∀ y, a.2 = some y → y < 2 ^ 32) : ((a.1 ≤ m ∧ ∀ y, a.2 = some y → a.1 ≤ y) ↔ ¬ nI m < nI (yn_c a.1) ∧ ¬ nI (yl_2 a.2) < nI (yn_c a.1)) := by
  have hyc := yn_cb a.1
  have h1 : nI m < nI (yn_c a.1) ↔ m < a.1 := by
    rw [nI_ltI (by omega) (by omega)]
    unfold yn_c; split <;> omega
  rw [h1]
  cases h2 : a.2 with
  | none =>
    have : ¬ nI (yl_2 none) < nI (yn_c a.1) := fun z => by
      have z : nI 2147483647 < nI (yn_c a.1) := z
      have := (nI_ltI (by decide) (by omega)).mp z
      omega
    exact ⟨fun h => ⟨by omega, this⟩, fun h => ⟨by omega, fun y hy => by cases hy⟩⟩
  | some y =>
    have hyb := hy y h2
    have hyc2 := yn_cb y
    have e : nI (yl_2 (some y)) < nI (yn_c a.1) ↔ yn_c y < yn_c a.1 := nI_ltI (a := yn_c y) (by omega) (by omega)
    rw [e]
    constructor
    · intro ⟨h3, h4⟩
      have := h4 y rfl
      refine ⟨by omega, ?_⟩
      unfold yn_c; split <;> split <;> omega
    · intro ⟨h3, h4⟩
      refine ⟨by omega, fun z hz => ?_⟩
      cases hz
      unfold yn_c at h4
      split at h4 <;> split at h4 <;> omega
/-- the class's check of the table's limits -/
theorem hh_limT {l : List (Nat × Option Nat)} (hl : l.length < 2 ^ 31) (h11 : u.1 11 = nI l.length) (hr : yi_rows (fun v k (a : Nat × Option Nat) => v.2.2.1 16 k = nI (yn_c a.1) ∧ v.2.2.1 17 k = nI (yl_2 a.2)) l u) (hb : ∀ (k : Nat) a, l[k]? = some a → a.1 < 2 ^ 32 ∧ ∀ y, a.2 = some y → y < 2 ^ 32) :
    (yv_lim 64 l → fm_Checker_checkLimits 64 u = some (.inl (), u)) ∧ (¬ yv_lim 64 l → fm_Checker_checkLimits 64 u = some (.inr 0, u)) := by
  have n1 : fm_Checker_need 1 u = some (.inl (), u) := if_neg (by decide)
  have n0 : fm_Checker_need 0 u = some (.inr 0, u) := if_pos rfl
  unfold fm_Checker_checkLimits jb_Checker_checkLimits_13 jb_Checker_checkLimits_48 jb_Checker_checkLimits_52 jb_Checker_checkLimits_53
  rw [h11, n0, n1, ys_tryl, ys_tryr, n0, n1, ys_tryl, ys_tryr]
  have c1 : (1 : Int32) < nI l.length ↔ 1 < l.length := nI_ltI (a := 1) (by decide) hl
  by_cases k1 : 1 < l.length
  · rw [if_pos (c1.mpr k1)]
    exact ⟨fun h => by have := h.1; omega, fun _ => rfl⟩
  · rw [if_neg (fun z => k1 (c1.mp z)), h11]
    have c0 : nI l.length = (0 : Int32) ↔ l.length = 0 := nI_eq (b := 0) hl (by decide)
    by_cases k0 : l.length = 0
    · rw [if_pos (c0.mpr k0)]
      refine ⟨fun _ => rfl, fun h => absurd ⟨by omega, fun a ha => ?_⟩ h⟩
      have := yl_lt ha
      omega
    · rw [if_neg (fun z => k0 (c0.mp z)), if_neg (show ¬ ((0 : Int32) < 0 ∨ 65 ≤ (0 : Int32).toNatClampNeg) by decide), if_neg (show ¬ ((0 : Int32) < 0 ∨ 65 ≤ (0 : Int32).toNatClampNeg) by decide), if_neg (show ¬ ((0 : Int32) < 0 ∨ 65 ≤ (0 : Int32).toNatClampNeg) by decide)]
      obtain ⟨a, ha⟩ := yl_get (l := l) (k := 0) (by omega)
      obtain ⟨r1, r2⟩ := hr 0 a (by decide) ha
      have r1' : u.2.2.1 16 (0 : Int32).toNatClampNeg = nI (yn_c a.1) := r1
      have r2' : u.2.2.1 17 (0 : Int32).toNatClampNeg = nI (yl_2 a.2) := r2
      rw [r1', r2']
      have hi : yv_lim 64 l ↔ ¬ (64 : Int32) < nI (yn_c a.1) ∧ ¬ nI (yl_2 a.2) < nI (yn_c a.1) := by
        rw [show (64 : Int32) = nI 64 from rfl, ← yv_limH (by decide) (hb 0 a ha).1 (hb 0 a ha).2]
        exact ⟨fun h => h.2 a ha, fun h => ⟨by omega, fun b hb => by rw [ha] at hb; cases hb; exact h⟩⟩
      rw [hi]
      by_cases z1 : (64 : Int32) < nI (yn_c a.1)
      · rw [if_pos z1]; exact ⟨fun h => absurd z1 h.1, fun _ => rfl⟩
      · rw [if_neg z1]
        by_cases z2 : nI (yl_2 a.2) < nI (yn_c a.1)
        · rw [if_pos z2]; exact ⟨fun h => absurd z2 h.2, fun _ => rfl⟩
        · rw [if_neg z2]; exact ⟨fun _ => rfl, fun h => absurd ⟨z1, z2⟩ h⟩
/-- the class's check of the memory's limits -/
theorem hh_limM2 {l : List (Nat × Option Nat)} (hl : l.length < 2 ^ 31) (h11 : u.1 12 = nI l.length) (hr : yi_rows (fun v k (a : Nat × Option Nat) => v.2.2.1 19 k = nI (yn_c a.1) ∧ v.2.2.1 20 k = nI (yl_2 a.2)) l u) (hb : ∀ (k : Nat) a, l[k]? = some a → a.1 < 2 ^ 32 ∧ ∀ y, a.2 = some y → y < 2 ^ 32) :
    (yv_lim 16 l → fm_Checker_checkLimits__h55_29 16 u = some (.inl (), u)) ∧ (¬ yv_lim 16 l → fm_Checker_checkLimits__h55_29 16 u = some (.inr 0, u)) := by
  have n1 : fm_Checker_need 1 u = some (.inl (), u) := if_neg (by decide)
  have n0 : fm_Checker_need 0 u = some (.inr 0, u) := if_pos rfl
  unfold fm_Checker_checkLimits__h55_29 jb_Checker_checkLimits__h55_29_13 jb_Checker_checkLimits__h55_29_48 jb_Checker_checkLimits__h55_29_52 jb_Checker_checkLimits__h55_29_53
  rw [h11, n0, n1, ys_tryl, ys_tryr, n0, n1, ys_tryl, ys_tryr]
  have c1 : (1 : Int32) < nI l.length ↔ 1 < l.length := nI_ltI (a := 1) (by decide) hl
  by_cases k1 : 1 < l.length
  · rw [if_pos (c1.mpr k1)]
    exact ⟨fun h => by have := h.1; omega, fun _ => rfl⟩
  · rw [if_neg (fun z => k1 (c1.mp z)), h11]
    have c0 : nI l.length = (0 : Int32) ↔ l.length = 0 := nI_eq (b := 0) hl (by decide)
    by_cases k0 : l.length = 0
    · rw [if_pos (c0.mpr k0)]
      refine ⟨fun _ => rfl, fun h => absurd ⟨by omega, fun a ha => ?_⟩ h⟩
      have := yl_lt ha
      omega
    · rw [if_neg (fun z => k0 (c0.mp z)), if_neg (show ¬ ((0 : Int32) < 0 ∨ 65 ≤ (0 : Int32).toNatClampNeg) by decide), if_neg (show ¬ ((0 : Int32) < 0 ∨ 65 ≤ (0 : Int32).toNatClampNeg) by decide), if_neg (show ¬ ((0 : Int32) < 0 ∨ 65 ≤ (0 : Int32).toNatClampNeg) by decide)]
      obtain ⟨a, ha⟩ := yl_get (l := l) (k := 0) (by omega)
      obtain ⟨r1, r2⟩ := hr 0 a (by decide) ha
      have r1' : u.2.2.1 19 (0 : Int32).toNatClampNeg = nI (yn_c a.1) := r1
      have r2' : u.2.2.1 20 (0 : Int32).toNatClampNeg = nI (yl_2 a.2) := r2
      rw [r1', r2']
      have hi : yv_lim 16 l ↔ ¬ (16 : Int32) < nI (yn_c a.1) ∧ ¬ nI (yl_2 a.2) < nI (yn_c a.1) := by
        rw [show (16 : Int32) = nI 16 from rfl, ← yv_limH (by decide) (hb 0 a ha).1 (hb 0 a ha).2]
        exact ⟨fun h => h.2 a ha, fun h => ⟨by omega, fun b hb => by rw [ha] at hb; cases hb; exact h⟩⟩
      rw [hi]
      by_cases z1 : (16 : Int32) < nI (yn_c a.1)
      · rw [if_pos z1]; exact ⟨fun h => absurd z1 h.1, fun _ => rfl⟩
      · rw [if_neg z1]
        by_cases z2 : nI (yl_2 a.2) < nI (yn_c a.1)
        · rw [if_pos z2]; exact ⟨fun h => absurd z2 h.2, fun _ => rfl⟩
        · rw [if_neg z2]; exact ⟨fun _ => rfl, fun h => absurd ⟨z1, z2⟩ h⟩
/-- the class's check of elements and data -/
theorem hh_segments {l : List (Int64 × List Nat)} {nf nt nm nd : Nat} (hfu : 8200 ≤ fu) (hl64 : l.length ≤ 64) (h15 : u.1 15 = nI l.length) (h16 : u.1 16 = nI nd) (h10 : u.1 10 = nI nf) (h11 : u.1 11 = nI nt) (h12 : u.1 12 = nI nm) (hn : nf ≤ 64 ∧ nt ≤ 1 ∧ nm ≤ 1 ∧ nd ≤ 64) (hE : yi_rows yi_el l u) :
    ((yv_el nf nt l ∧ (nd = 0 ∨ nm = 1)) → fm_Checker_checkSegments fu u = some (.inl (), u)) ∧ (¬ (yv_el nf nt l ∧ (nd = 0 ∨ nm = 1)) → fm_Checker_checkSegments fu u = some (.inr 0, u)) := by
  have n1 : fm_Checker_need 1 u = some (.inl (), u) := if_neg (by decide)
  have n0 : fm_Checker_need 0 u = some (.inr 0, u) := if_pos rfl
  have loop := yb_all (N := l.length) (fun k => ∀ a, l[k]? = some a → ∀ (i : Nat) x, a.2[i]? = some x → x < nf) (fun n k => jb_Checker_checkSegments_72 fu n (nI k) u) (some (.inl (), u)) (some (.inr 0, u)) (fun n => ?_) (fun n k hk => ?_) l.length 0 fu (by omega) (by omega)
  · have lp : (∀ k, 0 ≤ k → k < l.length → ∀ a, l[k]? = some a → ∀ (i : Nat) x, a.2[i]? = some x → x < nf) → jb_Checker_checkSegments_72 fu fu 0 u = some (.inl (), u) := loop.1
    have ln : (∃ k, 0 ≤ k ∧ k < l.length ∧ ¬ ∀ a, l[k]? = some a → ∀ (i : Nat) x, a.2[i]? = some x → x < nf) → jb_Checker_checkSegments_72 fu fu 0 u = some (.inr 0, u) := loop.2
    unfold fm_Checker_checkSegments jb_Checker_checkSegments_27 jb_Checker_checkSegments_32 jb_Checker_checkSegments_62 jb_Checker_checkSegments_67
    rw [h15, h11, n0, n1, ys_tryl, ys_tryr, h16, h12, n0, n1, ys_tryl, ys_tryr]
    have c1 : nI l.length = (0 : Int32) ↔ l.length = 0 := nI_eq (b := 0) (by omega) (by decide)
    have c2 : nI nt = (1 : Int32) ↔ nt = 1 := nI_eq (b := 1) (by omega) (by decide)
    have c3 : nI nd = (0 : Int32) ↔ nd = 0 := nI_eq (b := 0) (by omega) (by decide)
    have c4 : nI nm = (1 : Int32) ↔ nm = 1 := nI_eq (b := 1) (by omega) (by decide)
    have inner : (l.length = 0 ∨ nt = 1) → ((yv_el nf nt l ∧ (nd = 0 ∨ nm = 1)) → (if nI nd = (0 : Int32) then jb_Checker_checkSegments_72 fu fu 0 u else if nI nm = (1 : Int32) then jb_Checker_checkSegments_72 fu fu 0 u else some (.inr 0, u)) = some (.inl (), u)) ∧ (¬ (yv_el nf nt l ∧ (nd = 0 ∨ nm = 1)) → (if nI nd = (0 : Int32) then jb_Checker_checkSegments_72 fu fu 0 u else if nI nm = (1 : Int32) then jb_Checker_checkSegments_72 fu fu 0 u else some (.inr 0, u)) = some (.inr 0, u)) := fun hok => by
      have last : (nd = 0 ∨ nm = 1) → ((yv_el nf nt l ∧ (nd = 0 ∨ nm = 1)) → jb_Checker_checkSegments_72 fu fu 0 u = some (.inl (), u)) ∧ (¬ (yv_el nf nt l ∧ (nd = 0 ∨ nm = 1)) → jb_Checker_checkSegments_72 fu fu 0 u = some (.inr 0, u)) := fun hd =>
        ⟨fun h => lp fun k _ _ a ha => h.1.2.2 k a ha, fun h => ln (Classical.byContradiction fun hno => h ⟨⟨hl64, hok, fun k a ha => Classical.byContradiction fun hn => hno ⟨k, Nat.zero_le _, yl_lt ha, fun z => hn (z a ha)⟩⟩, hd⟩)⟩
      by_cases z3 : nd = 0
      · rw [if_pos (c3.mpr z3)]; exact last (Or.inl z3)
      · rw [if_neg (fun z => z3 (c3.mp z))]
        by_cases z4 : nm = 1
        · rw [if_pos (c4.mpr z4)]; exact last (Or.inr z4)
        · rw [if_neg (fun z => z4 (c4.mp z))]
          exact ⟨fun h => by have := h.2; omega, fun _ => rfl⟩
    by_cases z1 : l.length = 0
    · rw [if_pos (c1.mpr z1)]; exact inner (Or.inl z1)
    · rw [if_neg (fun z => z1 (c1.mp z))]
      by_cases z2 : nt = 1
      · rw [if_pos (c2.mpr z2)]; exact inner (Or.inr z2)
      · rw [if_neg (fun z => z2 (c2.mp z))]
        exact ⟨fun h => by have := h.1.2.1; omega, fun _ => rfl⟩
  · show jb_Checker_checkSegments_72 fu (n + 1) (nI l.length) u = _
    unfold jb_Checker_checkSegments_72
    simp only [xs_let]
    rw [h15, if_pos (Int32.le_refl _)]
  · obtain ⟨a, ha⟩ := yl_get (l := l) (k := k) hk
    obtain ⟨s, m, e1, e2, e3, e4, e5, e6, e7⟩ := hE k a (by omega) ha
    have hstp : jb_Checker_checkSegments_72 fu (n + 1) (nI k) u = jb_Checker_checkSegments_101 fu (jb_Checker_checkSegments_72 fu n) fu (nI k) (nI s) (nI s) u := by
      conv => lhs; unfold jb_Checker_checkSegments_72
      simp only [xs_let]
      rw [h15, if_neg (nI_ge (by omega) (by omega)), hh_ix (by omega), nI_clamp (by omega), e1]
    have inn := yb_all (N := a.2.length) (fun i => ∀ x, a.2[i]? = some x → x < nf) (fun m i => jb_Checker_checkSegments_101 fu (jb_Checker_checkSegments_72 fu n) m (nI k) (nI s) (nI (s + i)) u) (jb_Checker_checkSegments_72 fu n (nI (k + 1)) u) (some (.inr 0, u)) (fun m => ?_) (fun m i hi => ?_) a.2.length 0 fu (by omega) (by omega)
    · have hP : (∀ b, l[k]? = some b → ∀ (i : Nat) x, b.2[i]? = some x → x < nf) ↔ ∀ (i : Nat) x, a.2[i]? = some x → x < nf := ⟨fun h => h a ha, fun h b hb => by rw [ha] at hb; cases hb; exact h⟩
      show ((∀ b, l[k]? = some b → ∀ (i : Nat) x, b.2[i]? = some x → x < nf) → jb_Checker_checkSegments_72 fu (n + 1) (nI k) u = _) ∧ (¬ (∀ b, l[k]? = some b → ∀ (i : Nat) x, b.2[i]? = some x → x < nf) → jb_Checker_checkSegments_72 fu (n + 1) (nI k) u = _)
      rw [hP, hstp]
      exact ⟨fun h => inn.1 fun i _ _ x hx => h i x hx, fun h => inn.2 (Classical.byContradiction fun hno => h fun i x hx => Classical.byContradiction fun hn => hno ⟨i, Nat.zero_le _, yl_lt hx, fun z => hn (z x hx)⟩)⟩
    · show jb_Checker_checkSegments_101 fu (jb_Checker_checkSegments_72 fu n) (m + 1) (nI k) (nI s) (nI (s + a.2.length)) u = _
      unfold jb_Checker_checkSegments_101
      simp only [xs_let]
      rw [hh_ix (by omega), nI_clamp (by omega), e2, nI_add, if_pos (Int32.le_refl _), nI_1]
    · obtain ⟨x, hx⟩ := yl_get (l := a.2) (k := i) hi
      have hcx := yn_cb x
      have hstp2 : jb_Checker_checkSegments_101 fu (jb_Checker_checkSegments_72 fu n) (m + 1) (nI k) (nI s) (nI (s + i)) u = if nf ≤ x then some (.inr 0, u) else jb_Checker_checkSegments_101 fu (jb_Checker_checkSegments_72 fu n) m (nI k) (nI s) (nI (s + (i + 1))) u := by
        conv => lhs; unfold jb_Checker_checkSegments_101
        unfold jb_Checker_checkSegments_146
        simp only [xs_let]
        rw [hh_ix (by omega), nI_clamp (by omega), e2, nI_add, if_neg (nI_ge (by omega) (by omega)), if_neg (nI_in (N := 8192) (by omega) (by decide)), nI_clamp (by omega), e4 i x hx, h10, n0, n1, ys_tryl, ys_tryr, nI_1, ← Nat.add_assoc]
        have hc : nI nf ≤ nI (yn_c x) ↔ nf ≤ x := by
          rw [nI_leI (by omega) (by omega)]
          unfold yn_c; split <;> omega
        by_cases z : nf ≤ x
        · rw [if_pos (hc.mpr z), if_pos z]
        · rw [if_neg (fun y => z (hc.mp y)), if_neg z]
      have hP : (∀ y, a.2[i]? = some y → y < nf) ↔ x < nf := ⟨fun h => h x hx, fun h y hy => by rw [hx] at hy; cases hy; exact h⟩
      refine ⟨fun h => hstp2.trans (if_neg (by have := hP.mp h; omega)), fun h => hstp2.trans (if_pos (Classical.byContradiction fun hn => h (hP.mpr (by omega))))⟩
end
