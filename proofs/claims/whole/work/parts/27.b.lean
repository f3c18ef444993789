section
variable {α β γ δ : Type} {B : Nat → Int32} {u v w : xk_St} {L lim p q fu D len : Nat} {e : Int32} {T : List (Nat × List Nat × List Nat)}
/-- the first number from k on that has it, of d -/
def yl_scan (P : Nat → Bool) : Nat → Nat → Nat
  | 0, k => k
  | d + 1, k => if P k then k else yl_scan P d (k + 1)
theorem yl_scan_s {P : Nat → Bool} {d k : Nat} : yl_scan P (d + 1) k = if P k then k else yl_scan P d (k + 1) := by conv => lhs; unfold yl_scan
theorem yl_scan_0 {P : Nat → Bool} {k : Nat} : yl_scan P 0 k = k := by unfold yl_scan; rfl
theorem yl_scanS (P : Nat → Bool) : ∀ (d k : Nat), k ≤ yl_scan P d k ∧ yl_scan P d k ≤ k + d ∧ (yl_scan P d k < k + d → P (yl_scan P d k) = true) ∧ ∀ j, k ≤ j → j < yl_scan P d k → P j = false := by
  intro d
  induction d with
  | zero => intro k; exact ⟨Nat.le_refl _, Nat.le_refl _, fun h => absurd h (Nat.lt_irrefl _), fun j h1 h2 => absurd h1 (by show ¬ _; exact Nat.not_le.mpr h2)⟩
  | succ d ih =>
    intro k
    unfold yl_scan
    by_cases h : P k = true
    · rw [if_pos h]
      exact ⟨Nat.le_refl _, by omega, fun _ => h, fun j h1 h2 => by omega⟩
    · rw [if_neg h]
      obtain ⟨a, b, c, d'⟩ := ih (k + 1)
      refine ⟨by omega, by omega, fun h2 => c (by omega), fun j h1 h2 => ?_⟩
      by_cases hj : j = k
      · rw [hj]; exact Bool.eq_false_iff.mpr h
      · exact d' j (by omega) h2
theorem yl_scanE {P Q : Nat → Bool} : ∀ (d k : Nat), (∀ j, k ≤ j → j < k + d → P j = Q j) → yl_scan P d k = yl_scan Q d k := by
  intro d
  induction d with
  | zero => intro k _; rfl
  | succ d ih =>
    intro k h
    unfold yl_scan
    rw [h k (Nat.le_refl _) (by omega), ih (k + 1) (fun j h1 h2 => h j (by omega) (by omega))]
/-- a part of type k, a number of a type within told by itself, or by the first one that is the same -/
def yk_nr (g : Nat → Nat) (k x : Nat) : Nat := if x < 20 then x else if (x - 20) / 2 = k then 1000 + x % 2 else 20 + 2 * g ((x - 20) / 2) + x % 2
def yk_key (T : List (Nat × List Nat × List Nat)) (g : Nat → Nat) (k : Nat) : Nat × List Nat × List Nat := match T[k]? with
  | none => (0, [], [])
  | some c => (c.1, c.2.1.map (yk_nr g k), c.2.2.map (yk_nr g k))
def yl_g (T : List (Nat × List Nat × List Nat)) : Nat → Nat → Nat
  | 0 => fun _ => 0
  | n + 1 => fun j => if j = n then yl_scan (fun j => decide (yk_key T (yl_g T n) j = yk_key T (yl_g T n) n)) n 0 else yl_g T n j
/-- the first type that is the same -/
def yl_f (T : List (Nat × List Nat × List Nat)) (j : Nat) : Nat := yl_g T (j + 1) j
theorem yl_gf : ∀ (n j : Nat), j < n → yl_g T n j = yl_f T j := by
  intro n
  induction n with
  | zero => intro j h; omega
  | succ n ih =>
    intro j h
    by_cases hj : j = n
    · subst hj; rfl
    · have : yl_g T (n + 1) j = yl_g T n j := if_neg hj
      rw [this]
      exact ih j (by omega)
/-- a type that may stand in another one; n: how many types stand before -/
def yv_in (T : List (Nat × List Nat × List Nat)) (n x : Nat) : Prop := x < 20 ∨ ((x - 20) / 2 < n ∧ ∃ c, T[(x - 20) / 2]? = some c ∧ ¬ c.1 = 96)
def yv_ty (T : List (Nat × List Nat × List Nat)) (k : Nat) (c : Nat × List Nat × List Nat) : Prop := c.2.1.length ≤ 16 ∧ (c.1 = 96 → c.2.2.length ≤ 16) ∧ (∀ (i : Nat) x, c.2.1[i]? = some x → yv_in T (k + 1) x) ∧ (c.1 = 96 → ∀ (i : Nat) x, c.2.2[i]? = some x → yv_in T (k + 1) x)
/-- what can be read as a type at all -/
def yg_ty (c : Nat × List Nat × List Nat) : Prop := (c.1 = 96 ∨ c.1 = 95 ∨ c.1 = 94) ∧ (∀ (i : Nat) x, c.2.1[i]? = some x → 0 < x ∧ x ≤ 149 ∧ (x = 1 ∨ x = 2 ∨ 16 ≤ x ∨ (¬ c.1 = 96 ∧ (x = 3 ∨ x = 4)))) ∧ (c.1 = 96 → ∀ (i : Nat) x, c.2.2[i]? = some x → 0 < x ∧ x ≤ 149 ∧ (x = 1 ∨ x = 2 ∨ 16 ≤ x)) ∧ (¬ c.1 = 96 → c.2.2.length = c.2.1.length ∧ ∀ (i : Nat) x, c.2.2[i]? = some x → x ≤ 1) ∧ (c.1 = 94 → c.2.1.length = 1)
/-- the types are as they must be -/
def yV1 (T : List (Nat × List Nat × List Nat)) : Prop := T.length ≤ 64 ∧ ∀ (k : Nat) c, T[k]? = some c → yv_ty T k c
theorem yk_nrE {g h : Nat → Nat} {k x : Nat} (hx : x < 20 ∨ (x - 20) / 2 < k + 1) (hgh : ∀ j, j < k → g j = h j) : yk_nr g k x = yk_nr h k x := by
  unfold yk_nr
  by_cases h1 : x < 20
  · rw [if_pos h1, if_pos h1]
  · rw [if_neg h1, if_neg h1]
    by_cases h2 : (x - 20) / 2 = k
    · rw [if_pos h2, if_pos h2]
    · rw [if_neg h2, if_neg h2, hgh _ (by omega)]
theorem yl_mapE {f g : α → β} {l : List α} (h : ∀ (i : Nat) x, l[i]? = some x → f x = g x) : l.map f = l.map g := by
  apply List.map_congr_left
  intro x hx
  obtain ⟨i, hi⟩ := List.getElem?_of_mem hx
  exact h i x hi
/-- the parts of type k are known to lie ahead of it -/
def yk_ah (T : List (Nat × List Nat × List Nat)) (k : Nat) : Prop := ∀ c, T[k]? = some c → (∀ (i : Nat) x, c.2.1[i]? = some x → x < 20 ∨ (x - 20) / 2 < k + 1) ∧ (∀ (i : Nat) x, c.2.2[i]? = some x → x < 20 ∨ (x - 20) / 2 < k + 1)
theorem yk_ah_of {k : Nat} (hg : ∀ c, T[k]? = some c → yg_ty c) (hv : ∀ c, T[k]? = some c → yv_ty T k c) : yk_ah T k := by
  intro c hc
  obtain ⟨v1, v2, v3, v4⟩ := hv c hc
  obtain ⟨g1, g2, g3, g4, g5⟩ := hg c hc
  refine ⟨fun i x hx => (v3 i x hx).imp id fun z => z.1, fun i x hx => ?_⟩
  by_cases h : c.1 = 96
  · exact (v4 h i x hx).imp id fun z => z.1
  · have := (g4 h).2 i x hx
    exact Or.inl (by omega)
theorem yk_keyE {g h : Nat → Nat} {k : Nat} (ha : yk_ah T k) (hgh : ∀ j, j < k → g j = h j) : yk_key T g k = yk_key T h k := by
  unfold yk_key
  cases hc : T[k]? with
  | none => rfl
  | some c =>
    obtain ⟨h1, h2⟩ := ha c hc
    show (c.1, c.2.1.map (yk_nr g k), c.2.2.map (yk_nr g k)) = (c.1, c.2.1.map (yk_nr h k), c.2.2.map (yk_nr h k))
    rw [yl_mapE fun i x hx => yk_nrE (h1 i x hx) hgh, yl_mapE fun i x hx => yk_nrE (h2 i x hx) hgh]
theorem yl_fs {k : Nat} (ha : ∀ j, j ≤ k → yk_ah T j) : yl_f T k = yl_scan (fun j => decide (yk_key T (yl_f T) j = yk_key T (yl_f T) k)) k 0 := by
  have h1 : yl_f T k = yl_scan (fun j => decide (yk_key T (yl_g T k) j = yk_key T (yl_g T k) k)) k 0 := if_pos rfl
  rw [h1]
  apply yl_scanE
  intro j _ hj
  have e1 : yk_key T (yl_g T k) j = yk_key T (yl_f T) j := yk_keyE (ha j (by omega)) fun i hi => yl_gf k i (by omega)
  have e2 : yk_key T (yl_g T k) k = yk_key T (yl_f T) k := yk_keyE (ha k (by omega)) fun i hi => yl_gf k i (by omega)
  rw [e1, e2]
theorem yl_fP {k : Nat} (ha : ∀ j, j ≤ k → yk_ah T j) : yl_f T k ≤ k ∧ yk_key T (yl_f T) (yl_f T k) = yk_key T (yl_f T) k ∧ ∀ j, j < yl_f T k → ¬ yk_key T (yl_f T) j = yk_key T (yl_f T) k := by
  have h := yl_scanS (fun j => decide (yk_key T (yl_f T) j = yk_key T (yl_f T) k)) k 0
  rw [← yl_fs ha, Nat.zero_add] at h
  obtain ⟨-, h2, h3, h4⟩ := h
  refine ⟨h2, ?_, fun j hj => of_decide_eq_false (h4 j (Nat.zero_le _) hj)⟩
  by_cases hk : yl_f T k < k
  · exact of_decide_eq_true (h3 hk)
  · rw [show yl_f T k = k by omega]
/-- the first one that is the same is the first one of its own -/
theorem yl_ff {k j : Nat} (ha : ∀ j, j ≤ k → yk_ah T j) (hj : j ≤ k) (he : yk_key T (yl_f T) j = yk_key T (yl_f T) k) (hm : ∀ i, i < j → ¬ yk_key T (yl_f T) i = yk_key T (yl_f T) k) : yl_f T j = j := by
  obtain ⟨h1, h2, h3⟩ := yl_fP (k := j) (fun i hi => ha i (by omega))
  by_cases h : yl_f T j < j
  · exact absurd (h2.trans he) (hm _ h)
  · omega
end
