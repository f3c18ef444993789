section
variable {α β γ δ : Type} {B : Nat → Int32} {u v : xk_St} {lim p q fu : Nat} {e : Int32}
/-- an unsigned number as a number -/
def yp_N (B : Nat → Int32) (lim p : Nat) : (Nat × Nat) ⊕ Nat := yp_map (fun v : Int64 => v.toInt.toNat) (yp_U B lim p)
theorem yp_Ug_n : ∀ (d k p m : Nat) (v : Int64) (q : Nat), k + d = 5 → m < 2 ^ (7 * k) → yp_Ug B lim d k p (lN m) = .inl (v, q) → (∃ n, n < 2 ^ 32 ∧ v = lN n) ∧ p < q ∧ q ≤ lim := by
  intro d
  induction d with
  | zero => intro k p m v q _ _ h; cases h
  | succ d ih =>
    intro k p m v q h1 hm h
    unfold yp_Ug at h
    obtain ⟨j, hj, ej, ew, hm2⟩ := yw_lN (B := B) (p := p) (by omega) hm
    by_cases hc : lim ≤ p
    · rw [if_pos hc] at h; cases h
    rw [if_neg hc] at h
    by_cases h8 : (128 : Int32) ≤ yb_b B p
    · rw [if_pos h8, ew] at h
      obtain ⟨a, b, c⟩ := ih (k + 1) (p + 1) _ v q (by omega) hm2 h
      exact ⟨a, by omega, c⟩
    · rw [if_neg h8] at h
      by_cases h9 : yw_w B p k (lN m) ≤ 4294967295
      · rw [if_pos h9] at h
        cases h
        have h35 : (2 : Nat) ^ (7 * (k + 1)) ≤ 2 ^ 35 := Nat.pow_le_pow_right (by decide) (by omega)
        have h63 : m + j * 2 ^ (7 * k) < 2 ^ 63 := by
          have : (2 : Nat) ^ 35 < 2 ^ 63 := by decide
          omega
        rw [ew] at h9 ⊢
        have := (pk_lLE (b := 4294967295) h63 (by decide)).mp h9
        exact ⟨⟨_, by omega, rfl⟩, by omega, by omega⟩
      · rw [if_neg h9] at h; cases h
theorem yp_Un {x : Int64} {q : Nat} (h : yp_U B lim p = .inl (x, q)) : (∃ n, n < 2 ^ 32 ∧ x = lN n) ∧ p < q ∧ q ≤ lim := yp_Ug_n 5 0 p 0 x q rfl (by decide) h
theorem yp_UN : yp_U B lim p = yp_map lN (yp_N B lim p) := by
  unfold yp_N
  generalize h : yp_U B lim p = s
  rcases s with ⟨x, q⟩ | k
  · obtain ⟨⟨n, hn, rfl⟩, -⟩ := yp_Un h
    rw [yp_map_l, yp_map_l, pk_lT (by omega)]
    rfl
  · rfl
theorem yp_Nb {n q : Nat} (h : yp_N B lim p = .inl (n, q)) : n < 2 ^ 32 ∧ p < q ∧ q ≤ lim := by
  unfold yp_N at h
  generalize h2 : yp_U B lim p = s at h
  rcases s with ⟨x, q'⟩ | k
  · obtain ⟨⟨m, hm, rfl⟩, h3⟩ := yp_Un h2
    rw [yp_map_l, pk_lT (by omega)] at h
    cases h
    exact ⟨hm, h3⟩
  · cases h
/-- cut to an int -/
def yn_c (n : Nat) : Nat := if n < 2147483648 then n else 2147483647
theorem yn_cb (n : Nat) : yn_c n < 2 ^ 31 := by
  unfold yn_c
  split <;> omega
theorem yn_cl {n k : Nat} (hk : k < 2147483647) : nI (yn_c n) ≤ nI k ↔ n ≤ k := by
  rw [nI_leI (yn_cb n) (by omega)]
  unfold yn_c
  split <;> omega
theorem yn_cs {n : Nat} (h : n < 2147483648) : yn_c n = n := if_pos h
theorem hh_N (hfu : 20 ≤ fu) (h : yh_st B lim p u) : yh_R u lim p (fm_Reader_readNumber fu u) (yp_map (fun n => nI (yn_c n)) (yp_N B lim p)) := by
  have h0 := hh_U hfu h
  rw [yp_UN] at h0
  unfold fm_Reader_readNumber
  have : yp_map (fun n => nI (yn_c n)) (yp_N B lim p) = yp_then (yp_N B lim p) fun n q => .inl (nI (yn_c n), q) := rfl
  rw [this]
  refine yh_tryM h0 fun n q hn h1 h2 => ?_
  obtain ⟨hb, -, -⟩ := yp_Nb hn
  have e1 : (if (2147483647 : Int64) < lN n then (2147483647 : Int64) else lN n).toInt32 = nI (yn_c n) := by
    have e2 : (2147483647 : Int64) < lN n ↔ 2147483647 < n := pk_lLT (a := 2147483647) (by decide) (by omega)
    unfold yn_c
    by_cases hc : n < 2147483648
    · rw [if_neg (fun z => by have := e2.mp z; omega), if_pos hc, lN_i]
    · rw [if_pos (e2.mpr (by omega)), if_neg hc]; rfl
  rw [e1]
  exact yh_ok (Nat.le_refl _) h2
theorem mm_N (hfu : 20 ≤ fu) (h : ym_st B lim p u) (h6 : u.1 6 = 0) : ym_R B u lim p (fm_Model_number fu u) (yp_map lN (yp_N B lim p)) := by
  rw [← yp_UN]
  exact mm_U hfu h h6
/-- the class has read what s says: J tells of the rest -/
def yC (p : Nat) (o : Option ((β ⊕ Nat) × xk_St)) (s : (α × Nat) ⊕ Nat) (J : α → Nat → Option ((β ⊕ Nat) × xk_St) → Prop) : Prop :=
  (∃ a q, s = .inl (a, q) ∧ p ≤ q ∧ J a q o) ∨ ∃ k v, s = .inr k ∧ o = some (.inr k, v)
def yJ (B : Nat → Int32) (lim : Nat) (I : α → β → xk_St → Prop) (a : α) (q : Nat) (o : Option ((β ⊕ Nat) × xk_St)) : Prop := ∃ b v, o = some (.inl b, v) ∧ yh_st B lim q v ∧ I a b v
/-- the reference -/
def zC (B : Nat → Int32) (lim p : Nat) (o : Option (β × xk_St)) (s : (α × Nat) ⊕ Nat) (J : α → Nat → Option (β × xk_St) → Prop) : Prop :=
  (∃ a q, s = .inl (a, q) ∧ p ≤ q ∧ J a q o) ∨ ∃ k, s = .inr k ∧ ym_X B lim (ym_c k) o
def zJ (B : Nat → Int32) (lim : Nat) (I : α → β → xk_St → Prop) (a : α) (q : Nat) (o : Option (β × xk_St)) : Prop := ∃ b v, o = some (b, v) ∧ ym_st B lim q v ∧ v.1 6 = 0 ∧ I a b v
theorem yC_of {c : α → β} {o : Option ((β ⊕ Nat) × xk_St)} {s : (α × Nat) ⊕ Nat} (h : yh_st B lim p u) (hr : yh_R u lim p o (yp_map c s)) : yC p o s (yJ B lim fun a b v => b = c a ∧ ∃ q, v = xs_I u 17 (nI q)) := by
  rcases yh_mapped hr with ⟨a, q, e1, e2, e3, e4⟩ | ⟨k, q, e1, e2, e3⟩
  · exact Or.inl ⟨a, q, e1, e2, _, _, e4, yh_mv h e3, rfl, q, rfl⟩
  · exact Or.inr ⟨k, _, e1, e3⟩
theorem yC_of' {o : Option ((α ⊕ Nat) × xk_St)} {s : (α × Nat) ⊕ Nat} (h : yh_st B lim p u) (hr : yh_R u lim p o s) : yC p o s (yJ B lim fun a b v => b = a ∧ ∃ q, v = xs_I u 17 (nI q)) := yC_of (c := fun a => a) h (by rw [yp_map_id]; exact hr)
theorem yC_try {o : Option ((β ⊕ Nat) × xk_St)} {s : (α × Nat) ⊕ Nat} {I : α → β → xk_St → Prop} {f : β → xk_St → Option ((δ ⊕ Nat) × xk_St)} {g : α → Nat → (γ × Nat) ⊕ Nat} {J : γ → Nat → Option ((δ ⊕ Nat) × xk_St) → Prop} (h : yC p o s (yJ B lim I)) (h2 : ∀ a q b v, s = .inl (a, q) → p ≤ q → yh_st B lim q v → I a b v → yC q (f b v) (g a q) J) : yC p (xs_try o f) (yp_then s g) J := by
  rcases h with ⟨a, q, rfl, e2, b, v, rfl, e4, e5⟩ | ⟨k, v, rfl, rfl⟩
  · rcases h2 a q b v rfl e2 e4 e5 with ⟨a', q', f1, f2, f3⟩ | h3
    · exact Or.inl ⟨a', q', f1, Nat.le_trans e2 f2, f3⟩
    · exact Or.inr h3
  · exact Or.inr ⟨k, v, rfl, rfl⟩
theorem yC_ok {a : α} {o : Option ((β ⊕ Nat) × xk_St)} {J : α → Nat → Option ((β ⊕ Nat) × xk_St) → Prop} (hp : p ≤ q) (h : J a q o) : yC p o (.inl (a, q)) J := Or.inl ⟨a, q, rfl, hp, h⟩
theorem yC_no {k : Nat} {J : α → Nat → Option ((β ⊕ Nat) × xk_St) → Prop} : yC p (some (.inr k, v)) (.inr k) J := Or.inr ⟨k, v, rfl, rfl⟩
theorem yC_ite {c : Prop} [Decidable c] {o o' : Option ((β ⊕ Nat) × xk_St)} {s t : (α × Nat) ⊕ Nat} {J : α → Nat → Option ((β ⊕ Nat) × xk_St) → Prop} (h1 : c → yC p o s J) (h2 : ¬ c → yC p o' t J) : yC p (if c then o else o') (if c then s else t) J := by
  by_cases h : c
  · rw [if_pos h, if_pos h]; exact h1 h
  · rw [if_neg h, if_neg h]; exact h2 h
theorem yC_mono {o : Option ((β ⊕ Nat) × xk_St)} {s : (α × Nat) ⊕ Nat} {J J' : α → Nat → Option ((β ⊕ Nat) × xk_St) → Prop} (h : yC p o s J) (hm : ∀ a q, s = .inl (a, q) → p ≤ q → J a q o → J' a q o) : yC p o s J' := by
  rcases h with ⟨a, q, e1, e2, e3⟩ | h
  · exact Or.inl ⟨a, q, e1, e2, hm a q e1 e2 e3⟩
  · exact Or.inr h
/-- what was read goes on to something else -/
theorem yC_then {o : Option ((β ⊕ Nat) × xk_St)} {s : (α × Nat) ⊕ Nat} {J : α → Nat → Option ((β ⊕ Nat) × xk_St) → Prop} {g : α → Nat → (γ × Nat) ⊕ Nat} {J' : γ → Nat → Option ((β ⊕ Nat) × xk_St) → Prop} (h : yC p o s J) (h2 : ∀ a q, s = .inl (a, q) → p ≤ q → J a q o → yC q o (g a q) J') : yC p o (yp_then s g) J' := by
  rcases h with ⟨a, q, rfl, e2, e3⟩ | ⟨k, v, rfl, rfl⟩
  · rcases h2 a q rfl e2 e3 with ⟨a', q', f1, f2, f3⟩ | h3
    · exact Or.inl ⟨a', q', f1, Nat.le_trans e2 f2, f3⟩
    · exact Or.inr h3
  · exact Or.inr ⟨k, v, rfl, rfl⟩
theorem zC_of {c : α → β} {o : Option (β × xk_St)} {s : (α × Nat) ⊕ Nat} (h : ym_st B lim p u) (h6 : u.1 6 = 0) (hr : ym_R B u lim p o (yp_map c s)) : zC B lim p o s (zJ B lim fun a b v => b = c a ∧ ∃ q, v = xs_I u 4 (nI q)) := by
  rcases ym_mapped hr with ⟨a, q, e1, e2, e3, e4⟩ | ⟨k, r, v, q, e1, e2, e3, e4⟩
  · exact Or.inl ⟨a, q, e1, e2, _, _, e4, ym_mv h e3, h6, rfl, q, rfl⟩
  · exact Or.inr ⟨k, e1, r, v, q, e2, e3, e4⟩
theorem zC_of' {o : Option (α × xk_St)} {s : (α × Nat) ⊕ Nat} (h : ym_st B lim p u) (h6 : u.1 6 = 0) (hr : ym_R B u lim p o s) : zC B lim p o s (zJ B lim fun a b v => b = a ∧ ∃ q, v = xs_I u 4 (nI q)) := zC_of (c := fun a => a) h h6 (by rw [yp_map_id]; exact hr)
theorem zC_seq {lim2 : Nat} {o : Option (β × xk_St)} {s : (α × Nat) ⊕ Nat} {I : α → β → xk_St → Prop} {f : β → xk_St → Option (δ × xk_St)} {g : α → Nat → (γ × Nat) ⊕ Nat} {J : γ → Nat → Option (δ × xk_St) → Prop} (h : zC B lim p o s (zJ B lim I)) (h2 : ∀ a q b v, s = .inl (a, q) → p ≤ q → ym_st B lim q v → v.1 6 = 0 → I a b v → zC B lim2 q (f b v) (g a q) J) (h3 : ∀ k r v q, ym_st B lim q v → v.1 6 = ym_c k → ym_X B lim2 (ym_c k) (f r v)) : zC B lim2 p (xs_seq o f) (yp_then s g) J := by
  rcases h with ⟨a, q, rfl, e2, b, v, rfl, e4, e5, e6⟩ | ⟨k, rfl, r, v, q, rfl, e2, e3⟩
  · rcases h2 a q b v rfl e2 e4 e5 e6 with ⟨a', q', f1, f2, f3⟩ | h3
    · exact Or.inl ⟨a', q', f1, Nat.le_trans e2 f2, f3⟩
    · exact Or.inr h3
  · exact Or.inr ⟨k, rfl, h3 k r v q e2 e3⟩
theorem zC_ok {a : α} {o : Option (β × xk_St)} {J : α → Nat → Option (β × xk_St) → Prop} (hp : p ≤ q) (h : J a q o) : zC B lim p o (.inl (a, q)) J := Or.inl ⟨a, q, rfl, hp, h⟩
theorem zC_no {k : Nat} {o : Option (β × xk_St)} {J : α → Nat → Option (β × xk_St) → Prop} (h : ym_X B lim (ym_c k) o) : zC B lim p o (.inr k) J := Or.inr ⟨k, rfl, h⟩
theorem zC_ite {c : Prop} [Decidable c] {o o' : Option (β × xk_St)} {s t : (α × Nat) ⊕ Nat} {J : α → Nat → Option (β × xk_St) → Prop} (h1 : c → zC B lim p o s J) (h2 : ¬ c → zC B lim p o' t J) : zC B lim p (if c then o else o') (if c then s else t) J := by
  by_cases h : c
  · rw [if_pos h, if_pos h]; exact h1 h
  · rw [if_neg h, if_neg h]; exact h2 h
theorem zC_mono {o : Option (β × xk_St)} {s : (α × Nat) ⊕ Nat} {J J' : α → Nat → Option (β × xk_St) → Prop} (h : zC B lim p o s J) (hm : ∀ a q, s = .inl (a, q) → p ≤ q → J a q o → J' a q o) : zC B lim p o s J' := by
  rcases h with ⟨a, q, e1, e2, e3⟩ | h
  · exact Or.inl ⟨a, q, e1, e2, hm a q e1 e2 e3⟩
  · exact Or.inr h
theorem zC_then {o : Option (β × xk_St)} {s : (α × Nat) ⊕ Nat} {J : α → Nat → Option (β × xk_St) → Prop} {g : α → Nat → (γ × Nat) ⊕ Nat} {J' : γ → Nat → Option (β × xk_St) → Prop} (h : zC B lim p o s J) (h2 : ∀ a q, s = .inl (a, q) → p ≤ q → J a q o → zC B lim q o (g a q) J') : zC B lim p o (yp_then s g) J' := by
  rcases h with ⟨a, q, rfl, e2, e3⟩ | ⟨k, rfl, h3⟩
  · rcases h2 a q rfl e2 e3 with ⟨a', q', f1, f2, f3⟩ | h3
    · exact Or.inl ⟨a', q', f1, Nat.le_trans e2 f2, f3⟩
    · exact Or.inr h3
  · exact Or.inr ⟨k, rfl, h3⟩
/-- so many of them, one behind the other -/
def yp_rep (it : Nat → (α × Nat) ⊕ Nat) : Nat → Nat → (List α × Nat) ⊕ Nat
  | 0, p => .inl ([], p)
  | n + 1, p => yp_then (it p) fun a q => yp_then (yp_rep it n q) fun l r => .inl (a :: l, r)
/-- each takes a byte at least -/
def yp_eats (lim : Nat) (it : Nat → (α × Nat) ⊕ Nat) : Prop := ∀ p a q, it p = .inl (a, q) → p < q ∧ q ≤ lim
theorem yp_repl {it : Nat → (α × Nat) ⊕ Nat} : ∀ {n p : Nat} {l : List α} {q : Nat}, yp_rep it n p = .inl (l, q) → l.length = n := by
  intro n
  induction n with
  | zero => intro p l q h; cases h; rfl
  | succ n ih =>
    intro p l q h
    unfold yp_rep at h
    generalize h1 : it p = s at h
    rcases s with ⟨a, q1⟩ | k
    · simp only [yp_then] at h
      generalize h2 : yp_rep it n q1 = t at h
      rcases t with ⟨l', q2⟩ | k
      · cases h
        rw [List.length_cons, ih h2]
      · cases h
    · cases h
/-- a loop of the class that reads -/
theorem yC_rep {it : Nat → (α × Nat) ⊕ Nat} (hit : yp_eats lim it) (I : List α → xk_St → Prop) (N : Nat) (F : Nat → Nat → xk_St → Option ((β ⊕ Nat) × xk_St)) (E : xk_St → Option ((β ⊕ Nat) × xk_St))
    (hE : ∀ n k v, N ≤ k → k ≤ 8192 → F (n + 1) k v = E v)
    (hi : ∀ n l p v, l.length < N → l.length ≤ 8192 → yh_st B lim p v → I l v → yC p (F (n + 1) l.length v) (it p) fun a q o => ∃ v', o = F n (l.length + 1) v' ∧ yh_st B lim q v' ∧ I (l ++ [a]) v') :
    ∀ (d : Nat) (l : List α) (p n : Nat) (v : xk_St), lim - p < d → d < n → l.length ≤ p → l.length ≤ N → yh_st B lim p v → I l v →
      yC p (F n l.length v) (yp_rep it (N - l.length) p) fun l' q o => ∃ v', o = E v' ∧ yh_st B lim q v' ∧ I (l ++ l') v' := by
  intro d
  induction d with
  | zero => intro l p n v h; omega
  | succ d ih =>
    intro l p n v h1 h2 h3 h3' h4 h5
    obtain ⟨n, rfl⟩ : ∃ m, n = m + 1 := ⟨n - 1, by omega⟩
    have hp : p ≤ lim ∧ lim ≤ 8192 := h4.2.2.2
    by_cases hN : N ≤ l.length
    · rw [hE n l.length v hN (by omega), Nat.sub_eq_zero_of_le hN]
      exact yC_ok (Nat.le_refl _) ⟨v, rfl, h4, by rw [List.append_nil]; exact h5⟩
    · obtain ⟨m, hm⟩ : ∃ m, N - l.length = m + 1 := ⟨N - l.length - 1, by omega⟩
      rw [hm]
      unfold yp_rep
      refine yC_then (hi n l p v (by omega) (by omega) h4 h5) fun a q e1 e2 hj => ?_
      obtain ⟨v', e3, e4, e5⟩ := hj
      obtain ⟨g1, g2⟩ := hit p a q e1
      have hl : (l ++ [a]).length = l.length + 1 := by simp
      have := ih (l ++ [a]) q n v' (by omega) (by omega) (by omega) (by omega) e4 e5
      rw [hl, show N - (l.length + 1) = m by omega, ← e3] at this
      refine yC_then this fun l' q' f1 f2 hj => ?_
      obtain ⟨v'', f3, f4, f5⟩ := hj
      rw [List.append_assoc] at f5
      exact yC_ok (Nat.le_refl _) ⟨v'', f3, f4, f5⟩
/-- a loop of the reference that reads -/
theorem zC_rep {lim2 : Nat} {it : Nat → (α × Nat) ⊕ Nat} (hit : yp_eats lim it) (I : List α → xk_St → Prop) (N : Nat) (F : Nat → Nat → xk_St → Option (β × xk_St)) (E : xk_St → Option (β × xk_St))
    (hE : ∀ n k v, N ≤ k → k ≤ 8192 → F (n + 1) k v = E v)
    (hi : ∀ n l p v, l.length < N → l.length ≤ 8192 → ym_st B lim p v → v.1 6 = 0 → I l v → zC B lim2 p (F (n + 2) l.length v) (it p) fun a q o => ∃ v', o = F (n + 1) (l.length + 1) v' ∧ ym_st B lim q v' ∧ v'.1 6 = 0 ∧ I (l ++ [a]) v') :
    ∀ (d : Nat) (l : List α) (p n : Nat) (v : xk_St), lim - p < d → d + 1 < n → l.length ≤ p → l.length ≤ N → ym_st B lim p v → v.1 6 = 0 → I l v →
      zC B lim2 p (F n l.length v) (yp_rep it (N - l.length) p) fun l' q o => ∃ v', o = E v' ∧ ym_st B lim q v' ∧ v'.1 6 = 0 ∧ I (l ++ l') v' := by
  intro d
  induction d with
  | zero => intro l p n v h; omega
  | succ d ih =>
    intro l p n v h1 h2 h3 h3' h4 h6 h5
    obtain ⟨n, rfl⟩ : ∃ m, n = m + 2 := ⟨n - 2, by omega⟩
    have hp : p ≤ lim ∧ lim ≤ 8192 := h4.2.2.2
    by_cases hN : N ≤ l.length
    · rw [hE (n + 1) l.length v hN (by omega), Nat.sub_eq_zero_of_le hN]
      exact zC_ok (Nat.le_refl _) ⟨v, rfl, h4, h6, by rw [List.append_nil]; exact h5⟩
    · obtain ⟨m, hm⟩ : ∃ m, N - l.length = m + 1 := ⟨N - l.length - 1, by omega⟩
      rw [hm]
      unfold yp_rep
      refine zC_then (hi n l p v (by omega) (by omega) h4 h6 h5) fun a q e1 e2 hj => ?_
      obtain ⟨v', e3, e4, e6, e5⟩ := hj
      obtain ⟨g1, g2⟩ := hit p a q e1
      have hl : (l ++ [a]).length = l.length + 1 := by simp
      have := ih (l ++ [a]) q (n + 1) v' (by omega) (by omega) (by omega) (by omega) e4 e6 e5
      rw [hl, show N - (l.length + 1) = m by omega, ← e3] at this
      refine zC_then this fun l' q' f1 f2 hj => ?_
      obtain ⟨v'', f3, f4, f6, f5⟩ := hj
      rw [List.append_assoc] at f5
      exact zC_ok (Nat.le_refl _) ⟨v'', f3, f4, f6, f5⟩
end
