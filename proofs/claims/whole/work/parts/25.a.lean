/-- total: it comes to an end, with Q -/
def yt_T {α : Type} (o : Option (α × xk_St)) (Q : α → xk_St → Prop) : Prop := ∃ r v, o = some (r, v) ∧ Q r v
section
variable {α β : Type} {Q : α → xk_St → Prop}
theorem yt_some {r : α} {v : xk_St} (h : Q r v) : yt_T (some (r, v)) Q := ⟨r, v, rfl, h⟩
theorem yt_ite {c : Prop} [Decidable c] {a b : Option (α × xk_St)} (h1 : c → yt_T a Q) (h2 : ¬ c → yt_T b Q) : yt_T (if c then a else b) Q := by
  by_cases h : c
  · rw [if_pos h]; exact h1 h
  · rw [if_neg h]; exact h2 h
theorem yt_pos {c : Prop} [Decidable c] {a b : Option (α × xk_St)} (hc : c) (h1 : yt_T a Q) : yt_T (if c then a else b) Q := by
  rw [if_pos hc]; exact h1
theorem yt_neg {c : Prop} [Decidable c] {a b : Option (α × xk_St)} (hc : ¬ c) (h1 : yt_T b Q) : yt_T (if c then a else b) Q := by
  rw [if_neg hc]; exact h1
theorem yt_let {a : β} {f : β → Option (α × xk_St)} (h : yt_T (f a) Q) : yt_T (xs_let a f) Q := h
theorem yt_seq {P : β → xk_St → Prop} {o : Option (β × xk_St)} {f : β → xk_St → Option (α × xk_St)} (h1 : yt_T o P) (h2 : ∀ r v, P r v → yt_T (f r v) Q) : yt_T (xs_seq o f) Q := by
  obtain ⟨r, v, rfl, hp⟩ := h1
  exact h2 r v hp
theorem yt_try {Q : (α ⊕ Nat) → xk_St → Prop} {P : (β ⊕ Nat) → xk_St → Prop} {o : Option ((β ⊕ Nat) × xk_St)} {f : β → xk_St → Option ((α ⊕ Nat) × xk_St)} (h1 : yt_T o P) (h2 : ∀ r v, P (.inl r) v → yt_T (f r v) Q) (h3 : ∀ k v, P (.inr k) v → Q (.inr k) v) : yt_T (xs_try o f) Q := by
  obtain ⟨r, v, rfl, hp⟩ := h1
  cases r with
  | inl r => exact h2 r v hp
  | inr k => exact ⟨.inr k, v, rfl, h3 k v hp⟩
theorem yt_mono {P : α → xk_St → Prop} {o : Option (α × xk_St)} (h : yt_T o P) (hm : ∀ r v, P r v → Q r v) : yt_T o Q := by
  obtain ⟨r, v, e, hp⟩ := h
  exact ⟨r, v, e, hm r v hp⟩
theorem yt_fr {I J A B : List Nat} {u : xk_St} {o : Option (α × xk_St)} (h : yt_T o Q) (hf : yf_F I J A B u o) : yt_T o (fun r v => Q r v ∧ yf_fr I J A B u v) := by
  obtain ⟨r, v, e, hp⟩ := h
  exact ⟨r, v, e, hp, hf r v e⟩
end
theorem ys_up {α : Type} {f : Nat → α} {k : Nat} {x y : α} : va_up (va_up f k x) k y = va_up f k y := by
  funext j
  unfold va_up
  split <;> rfl
theorem ys_self {α : Type} {f : Nat → α} {k : Nat} : va_up f k (f k) = f := by
  funext j
  unfold va_up
  split
  · next h => rw [h]
  · rfl
theorem ys_II {u : xk_St} {k : Nat} {x y : Int32} : xs_I (xs_I u k x) k y = xs_I u k y := by
  unfold xs_I
  rw [ys_up]
theorem ys_Is {u : xk_St} {k : Nat} {x : Int32} (h : u.1 k = x) : xs_I u k x = u := by
  subst h
  unfold xs_I
  rw [ys_self]
theorem ys_Ig {u : xk_St} {k : Nat} {x : Int32} : (xs_I u k x).1 k = x := if_pos rfl
theorem ys_In {u : xk_St} {k j : Nat} {x : Int32} (h : ¬ j = k) : (xs_I u k x).1 j = u.1 j := if_neg h
theorem ys_IA {u : xk_St} {k : Nat} {x : Int32} : (xs_I u k x).2 = u.2 := rfl
/-- a byte -/
def yb_b (B : Nat → Int32) (p : Nat) : Int32 := B p &&& 255
theorem yb_n (B : Nat → Int32) (p : Nat) : ∃ j : Nat, j < 256 ∧ yb_b B p = nI j := by
  obtain ⟨j, hj, e⟩ := pk_andE (B p) (m := 255) 8 rfl
  exact ⟨j, hj, e⟩
/-- the reader stands at p of the bytes B, its end is lim -/
def yh_st (B : Nat → Int32) (lim p : Nat) (u : xk_St) : Prop := u.2.2.1 1 = B ∧ u.1 17 = nI p ∧ u.1 18 = nI lim ∧ p ≤ lim ∧ lim ≤ 8192
def ym_st (B : Nat → Int32) (lim p : Nat) (u : xk_St) : Prop := u.2.2.1 1 = B ∧ u.1 4 = nI p ∧ u.1 5 = nI lim ∧ p ≤ lim ∧ lim ≤ 8192
theorem yh_mv {B : Nat → Int32} {lim p q : Nat} {u : xk_St} (h : yh_st B lim p u) (hq : q ≤ lim) : yh_st B lim q (xs_I u 17 (nI q)) := ⟨h.1, ys_Ig, h.2.2.1, hq, h.2.2.2.2⟩
theorem ym_mv {B : Nat → Int32} {lim p q : Nat} {u : xk_St} (h : ym_st B lim p u) (hq : q ≤ lim) : ym_st B lim q (xs_I u 4 (nI q)) := ⟨h.1, ys_Ig, h.2.2.1, hq, h.2.2.2.2⟩
/-- what is read: a value and the place behind it, or 0 malformed, 1 refused -/
def yp_then {α β : Type} (m : (α × Nat) ⊕ Nat) (g : α → Nat → (β × Nat) ⊕ Nat) : (β × Nat) ⊕ Nat := match m with
  | .inl (a, q) => g a q
  | .inr k => .inr k
def yp_map {α β : Type} (c : α → β) (m : (α × Nat) ⊕ Nat) : (β × Nat) ⊕ Nat := yp_then m fun a q => .inl (c a, q)
/-- the class has read what s says, from u on -/
def yh_R {α : Type} (u : xk_St) (lim p : Nat) (o : Option ((α ⊕ Nat) × xk_St)) (s : (α × Nat) ⊕ Nat) : Prop :=
  (∃ a q, s = .inl (a, q) ∧ p ≤ q ∧ q ≤ lim ∧ o = some (.inl a, xs_I u 17 (nI q))) ∨ ∃ k q, s = .inr k ∧ q ≤ lim ∧ o = some (.inr k, xs_I u 17 (nI q))
def ym_c (k : Nat) : Int32 := if k = 0 then -1 else -3
theorem ym_c0 {k : Nat} : ¬ ym_c k = 0 := by
  unfold ym_c
  split <;> decide
/-- the reference has read what s says, from u on -/
def ym_R {α : Type} (B : Nat → Int32) (u : xk_St) (lim p : Nat) (o : Option (α × xk_St)) (s : (α × Nat) ⊕ Nat) : Prop :=
  (∃ a q, s = .inl (a, q) ∧ p ≤ q ∧ q ≤ lim ∧ o = some (a, xs_I u 4 (nI q))) ∨ ∃ k r v q, s = .inr k ∧ o = some (r, v) ∧ ym_st B lim q v ∧ v.1 6 = ym_c k
/-- it goes on with a fault that it has found before -/
def ym_X {α : Type} (B : Nat → Int32) (lim : Nat) (e : Int32) (o : Option (α × xk_St)) : Prop := ∃ r v q, o = some (r, v) ∧ ym_st B lim q v ∧ v.1 6 = e
section
variable {α β : Type} {B : Nat → Int32} {u : xk_St} {lim p : Nat}
theorem yh_ok {a : α} {q : Nat} (hq : p ≤ q) (hl : q ≤ lim) : yh_R u lim p (some (.inl a, xs_I u 17 (nI q))) (.inl (a, q)) := Or.inl ⟨a, q, rfl, hq, hl, rfl⟩
theorem yh_no {k q : Nat} (hl : q ≤ lim) : yh_R (α := α) u lim p (some (.inr k, xs_I u 17 (nI q))) (.inr k) := Or.inr ⟨k, q, rfl, hl, rfl⟩
theorem yh_ok' {a : α} {q : Nat} (h : u.1 17 = nI q) (hq : p ≤ q) (hl : q ≤ lim) : yh_R u lim p (some (.inl a, u)) (.inl (a, q)) := Or.inl ⟨a, q, rfl, hq, hl, by rw [ys_Is h]⟩
theorem yh_no' {k q : Nat} (h : u.1 17 = nI q) (hl : q ≤ lim) : yh_R (α := α) u lim p (some (.inr k, u)) (.inr k) := Or.inr ⟨k, q, rfl, hl, by rw [ys_Is h]⟩
theorem yh_ite {c : Prop} [Decidable c] {a b : Option ((α ⊕ Nat) × xk_St)} {s t : (α × Nat) ⊕ Nat} (h1 : c → yh_R u lim p a s) (h2 : ¬ c → yh_R u lim p b t) : yh_R u lim p (if c then a else b) (if c then s else t) := by
  by_cases h : c
  · rw [if_pos h, if_pos h]; exact h1 h
  · rw [if_neg h, if_neg h]; exact h2 h
theorem yh_base {x : Int32} {o : Option ((α ⊕ Nat) × xk_St)} {s : (α × Nat) ⊕ Nat} (h : yh_R (xs_I u 17 x) lim p o s) : yh_R u lim p o s := by
  rcases h with ⟨a, q, e1, e2, e3, e4⟩ | ⟨k, q, e1, e2, e3⟩
  · exact Or.inl ⟨a, q, e1, e2, e3, by rw [e4, ys_II]⟩
  · exact Or.inr ⟨k, q, e1, e2, by rw [e3, ys_II]⟩
theorem yh_le {q : Nat} {o : Option ((α ⊕ Nat) × xk_St)} {s : (α × Nat) ⊕ Nat} (hq : p ≤ q) (h : yh_R u lim q o s) : yh_R u lim p o s := by
  rcases h with ⟨a, q, e1, e2, e3, e4⟩ | h
  · exact Or.inl ⟨a, q, e1, Nat.le_trans hq e2, e3, e4⟩
  · exact Or.inr h
theorem yh_try {o : Option ((β ⊕ Nat) × xk_St)} {m : (β × Nat) ⊕ Nat} {f : β → xk_St → Option ((α ⊕ Nat) × xk_St)} {g : β → Nat → (α × Nat) ⊕ Nat} (h : yh_R u lim p o m) (h2 : ∀ a q, m = .inl (a, q) → p ≤ q → q ≤ lim → yh_R u lim q (f a (xs_I u 17 (nI q))) (g a q)) : yh_R u lim p (xs_try o f) (yp_then m g) := by
  rcases h with ⟨a, q, rfl, e2, e3, rfl⟩ | ⟨k, q, rfl, e2, rfl⟩
  · exact yh_le e2 (h2 a q rfl e2 e3)
  · exact Or.inr ⟨k, q, rfl, e2, rfl⟩
theorem ym_ok {a : α} {q : Nat} (hq : p ≤ q) (hl : q ≤ lim) : ym_R B u lim p (some (a, xs_I u 4 (nI q))) (.inl (a, q)) := Or.inl ⟨a, q, rfl, hq, hl, rfl⟩
theorem ym_ok' {a : α} {q : Nat} (h : u.1 4 = nI q) (hq : p ≤ q) (hl : q ≤ lim) : ym_R B u lim p (some (a, u)) (.inl (a, q)) := Or.inl ⟨a, q, rfl, hq, hl, by rw [ys_Is h]⟩
theorem ym_ite {c : Prop} [Decidable c] {a b : Option (α × xk_St)} {s t : (α × Nat) ⊕ Nat} (h1 : c → ym_R B u lim p a s) (h2 : ¬ c → ym_R B u lim p b t) : ym_R B u lim p (if c then a else b) (if c then s else t) := by
  by_cases h : c
  · rw [if_pos h, if_pos h]; exact h1 h
  · rw [if_neg h, if_neg h]; exact h2 h
theorem ym_base {x : Int32} {o : Option (α × xk_St)} {s : (α × Nat) ⊕ Nat} (h : ym_R B (xs_I u 4 x) lim p o s) : ym_R B u lim p o s := by
  rcases h with ⟨a, q, e1, e2, e3, e4⟩ | h
  · exact Or.inl ⟨a, q, e1, e2, e3, by rw [e4, ys_II]⟩
  · exact Or.inr h
theorem ym_le {q : Nat} {o : Option (α × xk_St)} {s : (α × Nat) ⊕ Nat} (hq : p ≤ q) (h : ym_R B u lim q o s) : ym_R B u lim p o s := by
  rcases h with ⟨a, q, e1, e2, e3, e4⟩ | h
  · exact Or.inl ⟨a, q, e1, Nat.le_trans hq e2, e3, e4⟩
  · exact Or.inr h
theorem ym_seq {o : Option (β × xk_St)} {m : (β × Nat) ⊕ Nat} {f : β → xk_St → Option (α × xk_St)} {g : β → Nat → (α × Nat) ⊕ Nat} (h : ym_R B u lim p o m) (h2 : ∀ a q, m = .inl (a, q) → p ≤ q → q ≤ lim → ym_R B u lim q (f a (xs_I u 4 (nI q))) (g a q)) (h3 : ∀ k r v q, ym_st B lim q v → v.1 6 = ym_c k → ym_X B lim (ym_c k) (f r v)) : ym_R B u lim p (xs_seq o f) (yp_then m g) := by
  rcases h with ⟨a, q, rfl, e2, e3, rfl⟩ | ⟨k, r, v, q, rfl, rfl, e2, e3⟩
  · exact ym_le e2 (h2 a q rfl e2 e3)
  · obtain ⟨r', v', q', e4, e5, e6⟩ := h3 k r v q e2 e3
    exact Or.inr ⟨k, r', v', q', rfl, e4, e5, e6⟩
theorem yx_some {e : Int32} {r : α} {v : xk_St} {q : Nat} (h : ym_st B lim q v) (h6 : v.1 6 = e) : ym_X B lim e (some (r, v)) := ⟨r, v, q, rfl, h, h6⟩
theorem yx_ite {e : Int32} {c : Prop} [Decidable c] {a b : Option (α × xk_St)} (h1 : c → ym_X B lim e a) (h2 : ¬ c → ym_X B lim e b) : ym_X B lim e (if c then a else b) := by
  by_cases h : c
  · rw [if_pos h]; exact h1 h
  · rw [if_neg h]; exact h2 h
theorem yx_seq {e : Int32} {o : Option (β × xk_St)} {f : β → xk_St → Option (α × xk_St)} (h : ym_X B lim e o) (h2 : ∀ r v q, ym_st B lim q v → v.1 6 = e → ym_X B lim e (f r v)) : ym_X B lim e (xs_seq o f) := by
  obtain ⟨r, v, q, rfl, e1, e2⟩ := h
  exact h2 r v q e1 e2
theorem yx_let {e : Int32} {a : β} {f : β → Option (α × xk_St)} (h : ym_X B lim e (f a)) : ym_X B lim e (xs_let a f) := h
/-- a fault is found here -/
theorem ym_no {k : Nat} {o : Option (α × xk_St)} (h : ym_X B lim (ym_c k) o) : ym_R B u lim p o (.inr k) := by
  obtain ⟨r, v, q, e1, e2, e3⟩ := h
  exact Or.inr ⟨k, r, v, q, rfl, e1, e2, e3⟩
end
theorem ym_I6 {B : Nat → Int32} {lim p : Nat} {u : xk_St} {x : Int32} (h : ym_st B lim p u) : ym_st B lim p (xs_I u 6 x) := h
theorem ym_J {B : Nat → Int32} {lim p k : Nat} {u : xk_St} {x : Int64} (h : ym_st B lim p u) : ym_st B lim p (xs_J u k x) := h
theorem mm_fail0 {x : Int32} {u : xk_St} (h : u.1 6 = 0) : fm_Model_fail x u = some ((), xs_I u 6 x) := by
  unfold fm_Model_fail
  rw [if_pos h]; rfl
theorem mm_fail1 {x : Int32} {u : xk_St} (h : ¬ u.1 6 = 0) : fm_Model_fail x u = some ((), u) := by
  unfold fm_Model_fail
  rw [if_neg h]
  show some ((), xs_I u 6 (u.1 6)) = _
  rw [ys_Is rfl]
/-- fail, with a fault before -/
theorem mx_fail {B : Nat → Int32} {lim q : Nat} {e x : Int32} {v : xk_St} (he : ¬ e = 0) (h : ym_st B lim q v) (h6 : v.1 6 = e) : ym_X B lim e (fm_Model_fail x v) := by
  rw [mm_fail1 (by rw [h6]; exact he)]
  exact yx_some h h6
/-- fail, with none before -/
theorem mm_fail {B : Nat → Int32} {lim q : Nat} {x : Int32} {v : xk_St} (h : ym_st B lim q v) (h6 : v.1 6 = 0) : ym_X B lim x (fm_Model_fail x v) := by
  rw [mm_fail0 h6]
  exact yx_some (ym_I6 h) ys_Ig
/-- the class reads a byte -/
def yp_byte (B : Nat → Int32) (lim p : Nat) : (Int32 × Nat) ⊕ Nat := if lim ≤ p then .inr 0 else .inl (yb_b B p, p + 1)
theorem hh_byte {B : Nat → Int32} {lim p : Nat} {u : xk_St} (h : yh_st B lim p u) : yh_R u lim p (fm_Reader_readByte u) (yp_byte B lim p) := by
  obtain ⟨h1, h2, h3, h4, h5⟩ := h
  unfold fm_Reader_readByte yp_byte
  by_cases hc : lim ≤ p
  · rw [if_pos hc, h2, h3, if_neg (nI_nlt hc (by omega))]
    exact yh_no' h2 h4
  · rw [if_neg hc, h2, h3, if_pos (nI_lt (by omega) (by omega))]
    simp only [xs_let]
    rw [ys_Ig, nI_1, nI_pred, if_neg (nI_in (N := 8192) (by omega) (by decide)), nI_clamp (by omega), ys_IA, h1]
    exact yh_ok (by omega) (by omega)
/-- and looks at one -/
def yp_peek (B : Nat → Int32) (lim p : Nat) : (Int32 × Nat) ⊕ Nat := if lim ≤ p then .inr 0 else .inl (yb_b B p, p)
theorem hh_peek {B : Nat → Int32} {lim p : Nat} {u : xk_St} (h : yh_st B lim p u) : yh_R u lim p (fm_Reader_peekByte u) (yp_peek B lim p) := by
  obtain ⟨h1, h2, h3, h4, h5⟩ := h
  unfold fm_Reader_peekByte yp_peek
  by_cases hc : lim ≤ p
  · rw [if_pos hc, h2, h3, if_neg (nI_nlt hc (by omega))]
    exact yh_no' h2 h4
  · rw [if_neg hc, h2, h3, if_pos (nI_lt (by omega) (by omega)), if_neg (nI_in (N := 8192) (by omega) (by decide)), nI_clamp (by omega), h1]
    exact yh_ok' h2 (Nat.le_refl _) (by omega)
/-- the reference reads a byte -/
theorem mm_one {B : Nat → Int32} {lim p : Nat} {u : xk_St} (h : ym_st B lim p u) (h6 : u.1 6 = 0) : ym_R B u lim p (fm_Model_one u) (yp_byte B lim p) := by
  have h0 := h
  obtain ⟨h1, h2, h3, h4, h5⟩ := h
  unfold fm_Model_one yp_byte
  rw [if_pos h6]
  by_cases hc : lim ≤ p
  · rw [if_pos hc, h2, h3, if_neg (nI_nlt hc (by omega))]
    refine ym_no ?_
    unfold jb_Model_one_18
    exact yx_seq (mm_fail h0 h6) (fun r v q e1 e2 => yx_some e1 e2)
  · rw [if_neg hc, h2, h3, if_pos (nI_lt (by omega) (by omega))]
    simp only [xs_let]
    rw [ys_Ig, nI_1, nI_pred, if_neg (nI_in (N := 8192) (by omega) (by decide)), nI_clamp (by omega), ys_IA, h1]
    exact ym_ok (by omega) (by omega)
theorem mm_one_eq {B : Nat → Int32} {lim p : Nat} {u : xk_St} (h : ym_st B lim p u) (h6 : u.1 6 = 0) : fm_Model_one u = if lim ≤ p then some (0, xs_I u 6 (-1)) else some (yb_b B p, xs_I u 4 (nI (p + 1))) := by
  obtain ⟨h1, h2, h3, h4, h5⟩ := h
  unfold fm_Model_one
  rw [if_pos h6]
  by_cases hc : lim ≤ p
  · rw [if_pos hc, h2, h3, if_neg (nI_nlt hc (by omega))]
    unfold jb_Model_one_18
    rw [mm_fail0 h6]
    rfl
  · rw [if_neg hc, h2, h3, if_pos (nI_lt (by omega) (by omega))]
    simp only [xs_let]
    rw [ys_Ig, nI_1, nI_pred, if_neg (nI_in (N := 8192) (by omega) (by decide)), nI_clamp (by omega), ys_IA, h1]
    rfl
theorem mx_one_eq {v : xk_St} (h6 : ¬ v.1 6 = 0) : fm_Model_one v = some (0, v) := by
  unfold fm_Model_one
  rw [if_neg h6]
  unfold jb_Model_one_18
  rw [mm_fail1 h6]
  rfl
theorem mx_one {B : Nat → Int32} {lim q : Nat} {e : Int32} {v : xk_St} (he : ¬ e = 0) (h : ym_st B lim q v) (h6 : v.1 6 = e) : ym_X B lim e (fm_Model_one v) := by
  unfold fm_Model_one
  rw [if_neg (by rw [h6]; exact he)]
  unfold jb_Model_one_18
  exact yx_seq (mx_fail he h h6) (fun r v q e1 e2 => yx_some e1 e2)
theorem mm_ahead {B : Nat → Int32} {lim p : Nat} {u : xk_St} (h : ym_st B lim p u) : fm_Model_ahead u = some (if lim ≤ p then -1 else yb_b B p, u) := by
  obtain ⟨h1, h2, h3, h4, h5⟩ := h
  unfold fm_Model_ahead
  by_cases hc : lim ≤ p
  · rw [if_pos hc, h2, h3, if_pos (nI_le hc (by omega))]
  · rw [if_neg hc, h2, h3, if_neg (nI_ge (by omega) (by omega)), if_neg (nI_in (N := 8192) (by omega) (by decide)), nI_clamp (by omega), h1]
    rfl
