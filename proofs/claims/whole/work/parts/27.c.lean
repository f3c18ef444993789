section
variable {α β γ δ : Type} {B : Nat → Int32} {u v w : xk_St} {L lim p q fu D len : Nat} {e : Int32} {T : List (Nat × List Nat × List Nat)}
theorem nI_subb {a b : Nat} : nI (a + b) - nI b = nI a := by
  rw [← nI_add, Int32.add_sub_cancel]
theorem nI_sub3 {a : Nat} : nI (a + 3) - 3 = nI a := nI_subb (b := 3)
theorem nI_sub2 {a : Nat} : nI (a + 2) - 2 = nI a := nI_subb (b := 2)
theorem yq_r : ∀ x, x < 150 → (nI (yv_h x) < 16 ↔ x < 16) := by decide +kernel
theorem yq_t1 : ∀ x, x < 20 → 16 ≤ x → ((nI (yv_h x) - 16) >>> ((1 : Int32) &&& 31)) = nI ((x - 16) / 2) := by decide +kernel
theorem yq_t2 : ∀ x, x < 150 → 20 ≤ x → ((nI (yv_h x) - 16) >>> ((1 : Int32) &&& 31)) = nI ((x - 20) / 2 + 3) := by decide +kernel
theorem yq_a : ∀ x, x < 150 → (nI (yv_h x) &&& 1) = nI (x % 2) := by decide +kernel
theorem yq_b : ∀ x, x < 20 → 16 ≤ x → nI ((x - 16) / 2) < 3 ∧ ∀ k, k < 65 → ¬ nI k < nI ((x - 16) / 2) - 3 := by decide +kernel
theorem yq_i : ∀ x, x < 150 → ∀ y, y < 150 → (nI (yv_h x) = nI (yv_h y) ↔ x = y) := by
  intro x hx y hy
  rw [nI_eq (by unfold yv_h; split <;> omega) (by unfold yv_h; split <;> omega)]
  unfold yv_h
  split <;> split <;> omega
/-- the class's types are these -/
def yTh (T : List (Nat × List Nat × List Nat)) (u : xk_St) : Prop := u.1 7 = nI T.length ∧ T.length ≤ 64 ∧ ∀ (k : Nat) c, T[k]? = some c → yk_ty u k c ∧ yg_ty c
theorem yg_96 {c : Nat × List Nat × List Nat} (h : yg_ty c) (h2 : ¬ c.1 = 96) : ¬ nI c.1 = (96 : Int32) := fun z => h2 ((nI_eq (b := 96) (by have := h.1; omega) (by decide)).mp z)
theorem hh_isRef {x : Nat} (hx : x < 150) : fm_Types_isReference (nI (yv_h x)) u = some (if x < 16 then 0 else 1, u) := by
  unfold fm_Types_isReference
  by_cases h : x < 16
  · rw [if_pos ((yq_r x hx).mpr h), if_pos h]
  · rw [if_neg (fun z => h ((yq_r x hx).mp z)), if_neg h]
theorem yl_get {l : List α} {k : Nat} (h : k < l.length) : ∃ c, l[k]? = some c := ⟨_, List.getElem?_eq_getElem h⟩
theorem yl_lt {l : List α} {k : Nat} {c : α} (h : l[k]? = some c) : k < l.length := by
  rcases Nat.lt_or_ge k l.length with z | z
  · exact z
  · rw [List.getElem?_eq_none z] at h; cases h
/-- whether a type is known -/
theorem hh_knows {x : Nat} (hx : x < 150) (hT : yTh T u) : (yv_in T T.length x → fm_Types_knows (nI (yv_h x)) u = some (1, u)) ∧ (¬ yv_in T T.length x → fm_Types_knows (nI (yv_h x)) u = some (0, u)) := by
  unfold fm_Types_knows jb_Types_knows_18
  rw [hh_isRef hx, ys_seq]
  by_cases h16 : x < 16
  · rw [if_pos h16, if_pos rfl]
    exact ⟨fun _ => rfl, fun h => absurd (Or.inl (by omega)) h⟩
  · rw [if_neg h16, if_neg (show ¬ (1 : Int32) = 0 by decide)]
    unfold fm_Types_target fm_Types_knowsTarget jb_Types_knowsTarget_28
    rw [ys_seq]
    by_cases h20 : x < 20
    · rw [yq_t1 x h20 (by omega), if_pos (yq_b x h20 (by omega)).1, ys_seq, if_neg (show ¬ (1 : Int32) = 0 by decide)]
      exact ⟨fun _ => rfl, fun h => absurd (Or.inl (by omega)) h⟩
    · rw [yq_t2 x hx (by omega), if_neg (show ¬ nI ((x - 20) / 2 + 3) < 3 from fun z => by have := (nI_ltI (b := 3) (by omega) (by decide)).mp z; omega), nI_sub3, hT.1]
      have h64 := hT.2.1
      by_cases hl : T.length ≤ (x - 20) / 2
      · rw [if_pos (nI_le hl (by omega)), ys_seq, if_pos rfl]
        exact ⟨fun h => by rcases h with h | h <;> omega, fun _ => rfl⟩
      · rw [if_neg (nI_ge (by omega) (by omega)), if_neg (nI_in (N := 65) (by omega) (by decide)), nI_clamp (by omega)]
        obtain ⟨c, hc⟩ := yl_get (l := T) (k := (x - 20) / 2) (by omega)
        obtain ⟨⟨t1, -⟩, tg⟩ := hT.2.2 _ c hc
        rw [t1]
        by_cases h96 : c.1 = 96
        · rw [h96, if_pos (show nI 96 = (96 : Int32) from rfl), ys_seq, if_pos rfl]
          refine ⟨fun h => ?_, fun _ => rfl⟩
          rcases h with h | ⟨-, c', h1, h2⟩
          · omega
          · rw [hc] at h1; cases h1; exact absurd h96 h2
        · rw [if_neg (yg_96 tg h96), ys_seq, if_neg (show ¬ (1 : Int32) = 0 by decide)]
          exact ⟨fun _ => rfl, fun h => absurd (Or.inr ⟨by omega, c, hc, h96⟩) h⟩
/-- a check: it goes on where P holds -/
theorem yb_all {N : Nat} (P : Nat → Prop) (F : Nat → Nat → Option β) (E R : Option β) (hE : ∀ n, F (n + 1) N = E) (hs : ∀ n k, k < N → (P k → F (n + 1) k = F n (k + 1)) ∧ (¬ P k → F (n + 1) k = R)) :
    ∀ (d k n : Nat), k + d = N → d < n → ((∀ j, k ≤ j → j < N → P j) → F n k = E) ∧ ((∃ j, k ≤ j ∧ j < N ∧ ¬ P j) → F n k = R) := by
  intro d
  induction d with
  | zero =>
    intro k n h1 h2
    obtain ⟨n, rfl⟩ : ∃ m, n = m + 1 := ⟨n - 1, by omega⟩
    obtain rfl : k = N := by omega
    exact ⟨fun _ => hE n, fun ⟨j, a, b, _⟩ => by omega⟩
  | succ d ih =>
    intro k n h1 h2
    obtain ⟨n, rfl⟩ : ∃ m, n = m + 1 := ⟨n - 1, by omega⟩
    obtain ⟨a1, a2⟩ := hs n k (by omega)
    obtain ⟨b1, b2⟩ := ih (k + 1) n (by omega) (by omega)
    refine ⟨fun h => ?_, fun h => ?_⟩
    · rw [a1 (h k (Nat.le_refl _) (by omega))]
      exact b1 fun j h3 h4 => h j (by omega) h4
    · by_cases hP : P k
      · rw [a1 hP]
        obtain ⟨j, c1, c2, c3⟩ := h
        refine b2 ⟨j, ?_, c2, c3⟩
        by_cases z : j = k
        · rw [z] at c3; exact absurd hP c3
        · omega
      · exact a2 hP
theorem hh_within {x k : Nat} (hx : x < 150) (hk : k < T.length) (hT : yTh T u) : (yv_in T (k + 1) x → fm_Checker_needWithin (nI (yv_h x)) (nI k) u = some (.inl (), u)) ∧ (¬ yv_in T (k + 1) x → fm_Checker_needWithin (nI (yv_h x)) (nI k) u = some (.inr 0, u)) := by
  unfold fm_Checker_needWithin jb_Checker_needWithin_28 jb_Checker_needWithin_33
  have h64 := hT.2.1
  obtain ⟨k1, k2⟩ := hh_knows hx hT
  have n1 : fm_Checker_need 1 u = some (.inl (), u) := if_neg (by decide)
  have n0 : fm_Checker_need 0 u = some (.inr 0, u) := if_pos rfl
  by_cases h : yv_in T T.length x
  · rw [k1 h, ys_seq, n1, ys_tryl, hh_isRef hx, ys_seq]
    by_cases h16 : x < 16
    · rw [if_pos h16, if_pos rfl, n1, ys_tryl]
      exact ⟨fun _ => rfl, fun h => absurd (Or.inl (by omega)) h⟩
    · rw [if_neg h16, if_neg (show ¬ (1 : Int32) = 0 by decide)]
      unfold fm_Types_target
      rw [ys_seq]
      by_cases h20 : x < 20
      · rw [yq_t1 x h20 (by omega), if_neg ((yq_b x h20 (by omega)).2 k (by omega)), n1, ys_tryl]
        exact ⟨fun _ => rfl, fun h => absurd (Or.inl (by omega)) h⟩
      · rw [yq_t2 x hx (by omega), nI_sub3]
        by_cases hl : k < (x - 20) / 2
        · rw [if_pos (nI_lt hl (by omega)), n0, ys_tryr]
          exact ⟨fun h => by rcases h with h | h <;> omega, fun _ => rfl⟩
        · rw [if_neg (fun z => hl ((nI_ltI (by omega) (by omega)).mp z)), n1, ys_tryl]
          refine ⟨fun _ => rfl, fun h2 => absurd ?_ h2⟩
          rcases h with h | h
          · omega
          · exact Or.inr ⟨by omega, h.2⟩
  · rw [k2 h, ys_seq, n0, ys_tryr]
    refine ⟨fun h2 => absurd ?_ h, fun _ => rfl⟩
    rcases h2 with h2 | h2
    · exact Or.inl h2
    · exact Or.inr ⟨by omega, h2.2⟩
end
