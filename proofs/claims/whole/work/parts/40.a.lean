section
variable {α β γ δ σ τ : Type} {u v w u' v' u0 v0 : xk_St} {T : List (Nat × List Nat × List Nat)} {F : List Nat} {n fu p q k j d b g m i : Nat} {H H' : rH} {c : Nat} {e : Nat × Nat × Nat × Nat} {ms : List Nat}
/-- a list without a number twice is no longer than its bound -/
theorem nd_len : ∀ {n : Nat} {l : List Nat}, l.Nodup → (∀ x, x ∈ l → x < n) → l.length ≤ n := by
  intro n
  induction n with
  | zero =>
    intro l _ h
    cases l with
    | nil => exact Nat.le_refl _
    | cons x r => exact absurd (h x List.mem_cons_self) (Nat.not_lt_zero _)
  | succ n ih =>
    intro l hn h
    by_cases c : n ∈ l
    · have h1 := ih (l := l.erase n) (hn.erase n) (fun x hx => by
        have h2 := h x (List.mem_of_mem_erase hx)
        have h3 : ¬ x = n := fun q => by
          subst q
          exact absurd hx (List.Nodup.not_mem_erase hn)
        omega)
      have h2 := List.length_erase_of_mem c
      omega
    · exact Nat.le_succ_of_le (ih hn fun x hx => by
        have h2 := h x hx
        have h3 : ¬ x = n := fun q => c (q ▸ hx)
        omega)
/-- a number that a short list has not -/
theorem ph_free : ∀ {n : Nat} {l : List Nat}, l.length < n → ∃ i, i < n ∧ i ∉ l := by
  intro n
  induction n with
  | zero => intro l h; omega
  | succ n ih =>
    intro l h
    by_cases c : n ∈ l
    · have h2 := List.length_erase_of_mem c
      have h3 : 0 < l.length := List.length_pos_of_mem c
      obtain ⟨i, i1, i2⟩ := ih (l := l.erase n) (by omega)
      refine ⟨i, by omega, fun hi => i2 ?_⟩
      exact (List.mem_erase_of_ne (show i ≠ n by omega)).mpr hi
    · exact ⟨n, by omega, c⟩
/-- what can be come to -/
def Rc (S : Nat → Prop) (E : Nat → Nat → Prop) (k : Nat) : Prop := ∀ M : Nat → Prop, (∀ k, S k → M k) → (∀ k k', M k → E k k' → M k') → M k
theorem Rc_S {S : Nat → Prop} {E : Nat → Nat → Prop} (h : S k) : Rc S E k := fun _ h1 _ => h1 k h
theorem Rc_E {S : Nat → Prop} {E : Nat → Nat → Prop} {k' : Nat} (h : Rc S E k) (he : E k k') : Rc S E k' := fun M h1 h2 => h2 k k' (h M h1 h2) he
/-- the object that a value names, by the class and by the reference -/
def tg (H : rH) (xh : Int64) (fh : Int32) (k : Nat) : Prop := fh = 1 ∧ ∃ e, H[k]? = some e ∧ xh = lN e.1
def tm (H : rH) (c : Nat) (xm : Int64) (k : Nat) : Prop := 16 ≤ c ∧ ∃ e, H[k]? = some e ∧ xm = lN (2 * e.2.1 + 2)
theorem tg_tm {xh xm : Int64} {fh : Int32} (hz : RHz T H u v) (h : rv T H c xh fh xm) : tg H xh fh k ↔ tm H c xm k := by
  rcases h with ⟨a, b, f, -⟩ | ⟨a, b, f⟩ | ⟨h16, h150, hr⟩
  · exact iff_of_false (fun t => by have := t.1; rw [f] at this; exact absurd this (by decide)) (fun t => by have := t.1; omega)
  · exact iff_of_false (fun t => by have := t.1; rw [f] at this; exact absurd this (by decide)) (fun t => by have := t.1; omega)
  rcases hr with ⟨r1, r2, -, -⟩ | ⟨r1, -, n, r2, r3, r4⟩ | ⟨r1, k0, e0, r2, r3, r4, -⟩
  · refine iff_of_false (fun t => ?_) (fun t => ?_)
    · obtain ⟨-, e, he, hx⟩ := t
      obtain ⟨⟨b1, b2, b3⟩, -⟩ := hz.2.1 k e he
      have := lN_inj (a := 0) (b := e.1) (by omega) (by omega) (r1.symm.trans hx)
      omega
    · obtain ⟨-, e, he, hx⟩ := t
      obtain ⟨⟨b1, b2, b3⟩, -⟩ := hz.2.1 k e he
      have := lN_inj (a := 0) (b := 2 * e.2.1 + 2) (by omega) (by omega) (r2.symm.trans hx)
      omega
  · refine iff_of_false (fun t => ?_) (fun t => ?_)
    · obtain ⟨-, e, he, hx⟩ := t
      obtain ⟨⟨b1, b2, b3⟩, -⟩ := hz.2.1 k e he
      have := congrArg Int64.toInt (r3.symm.trans hx)
      rw [ri_T r2, pk_lT (by omega)] at this
      omega
    · obtain ⟨-, e, he, hx⟩ := t
      obtain ⟨⟨b1, b2, b3⟩, -⟩ := hz.2.1 k e he
      have := lN_inj (a := 2 * n + 1) (b := 2 * e.2.1 + 2) (by omega) (by omega) (r4.symm.trans hx)
      omega
  · obtain ⟨⟨b1, b2, b3⟩, -⟩ := hz.2.1 k0 e0 r2
    constructor
    · rintro ⟨-, e, he, hx⟩
      obtain ⟨⟨c1, c2, c3⟩, -⟩ := hz.2.1 k e he
      have q := lN_inj (a := e0.1) (b := e.1) (by omega) (by omega) (r3.symm.trans hx)
      have q2 := hz.2.2.1 k0 k e0 e r2 he (Or.inl q)
      subst q2
      rw [r2] at he; cases he
      exact ⟨h16, e0, r2, r4⟩
    · rintro ⟨-, e, he, hx⟩
      obtain ⟨⟨c1, c2, c3⟩, -⟩ := hz.2.1 k e he
      have q := lN_inj (a := 2 * e0.2.1 + 2) (b := 2 * e.2.1 + 2) (by omega) (by omega) (r4.symm.trans hx)
      have q2 := hz.2.2.1 k0 k e0 e r2 he (Or.inr (by omega))
      subst q2
      rw [r2] at he; cases he
      exact ⟨r1, e0, r2, r3⟩
/-- a slot as the class looks at it -/
theorem sl_h {xh xm : Int64} {fh : Int32} (hz : RHz T H u v) (h : rv T H c xh fh xm) : (fh = 0 ∧ ∀ k, ¬ tg H xh fh k) ∨ (¬ fh = 0 ∧ xh ≤ 0 ∧ ∀ k, ¬ tg H xh fh k) ∨ ∃ (k : Nat) (e : Nat × Nat × Nat × Nat), fh = 1 ∧ ¬ xh ≤ 0 ∧ H[k]? = some e ∧ xh = lN e.1 ∧ ∀ k', tg H xh fh k' → k' = k := by
  have hf := rv_f h
  by_cases f0 : fh = 0
  · exact Or.inl ⟨f0, fun k t => by have := t.1; rw [f0] at this; exact absurd this (by decide)⟩
  · have f1 : fh = 1 := by rcases hf with q | q; exact absurd q f0; exact q
    have ht := fun k => tg_tm (k := k) hz h
    rcases h with ⟨a, b, f, -⟩ | ⟨a, b, f⟩ | ⟨h16, h150, hr⟩
    · exact absurd f f0
    · exact absurd f f0
    rcases hr with ⟨r1, r2, -, -⟩ | ⟨-, -, n, r2, r3, r4⟩ | ⟨-, k0, e0, r2, r3, r4, -⟩
    · refine Or.inr (Or.inl ⟨f0, by rw [r1]; decide, fun k t => ?_⟩)
      obtain ⟨-, e, he, hx⟩ := t
      obtain ⟨⟨b1, b2, b3⟩, -⟩ := hz.2.1 k e he
      have := lN_inj (a := 0) (b := e.1) (by omega) (by omega) (r1.symm.trans hx)
      omega
    · refine Or.inr (Or.inl ⟨f0, ?_, fun k t => ?_⟩)
      · rw [r3, Int64.le_iff_toInt_le, ri_T r2]
        show (n : Int) - 2147483648 ≤ 0
        omega
      · obtain ⟨-, e, he, hx⟩ := t
        obtain ⟨⟨b1, b2, b3⟩, -⟩ := hz.2.1 k e he
        have := congrArg Int64.toInt (r3.symm.trans hx)
        rw [ri_T r2, pk_lT (by omega)] at this
        omega
    · obtain ⟨⟨b1, b2, b3⟩, -⟩ := hz.2.1 k0 e0 r2
      refine Or.inr (Or.inr ⟨k0, e0, f1, ?_, r2, r3, fun k' t => ?_⟩)
      · rw [r3, Int64.le_iff_toInt_le, pk_lT (by omega)]
        show ¬ (e0.1 : Int) ≤ 0
        omega
      · obtain ⟨-, e, he, hx⟩ := t
        obtain ⟨⟨c1, c2, c3⟩, -⟩ := hz.2.1 k' e he
        have q := lN_inj (a := e0.1) (b := e.1) (by omega) (by omega) (r3.symm.trans hx)
        exact (hz.2.2.1 k0 k' e0 e r2 he (Or.inl q)).symm
/-- what the class has found so far -/
def MkH (H : rH) (ms : List Nat) (u : xk_St) : Prop := u.1 31 = nI ms.length ∧ ms.Nodup ∧ (∀ (i : Nat) k, ms[i]? = some k → ∃ e, H[k]? = some e ∧ u.2.2.1 45 i = nI e.1) ∧ (∀ (k : Nat) e, H[k]? = some e → u.2.2.1 43 e.1 = if k ∈ ms then 1 else 0) ∧ ∀ i, i < 2001 → (u.2.2.1 43 i = 0 ∨ ∃ (k : Nat) (e : Nat × Nat × Nat × Nat), H[k]? = some e ∧ e.1 = i)
theorem MkH_len (h : MkH H ms u) : ms.length ≤ H.length := nd_len h.2.1 fun x hx => by
  obtain ⟨i, hi⟩ := List.getElem?_of_mem hx
  obtain ⟨e, he, -⟩ := h.2.2.1 i x hi
  exact yl_lt he
def uM (u : xk_St) (l : Nat) (a : Nat) : xk_St := xs_I (xs_A (xs_A u 43 a 1) 45 l (nI a)) 31 (nI (l + 1))
theorem uM_f {l a : Nat} : yf_fr [31] [] [43, 45] [] u (uM u l a) := yf_I (yf_A (yf_A yf_refl (by decide)) (by decide)) (by decide)
theorem MkH_add (hz : RHz T H u0 v0) (h : MkH H ms u) (he : H[k]? = some e) (hn : k ∉ ms) : MkH H (ms ++ [k]) (uM u ms.length e.1) := by
  obtain ⟨h1, h2, h3, h4, h5⟩ := h
  have hl : (ms ++ [k]).length = ms.length + 1 := by rw [List.length_append, List.length_singleton]
  refine ⟨by rw [hl]; rfl, ?_, fun i k' hk => ?_, fun k' e' he' => ?_, fun i hi => ?_⟩
  · rw [List.nodup_append]
    refine ⟨h2, by simp, fun a ha b hb => ?_⟩
    rw [List.mem_singleton] at hb
    intro q
    exact hn (by rw [← hb, ← q]; exact ha)
  · show ∃ e', H[k']? = some e' ∧ upd (u.2.2.1 45) ms.length (nI e.1) i = nI e'.1
    have hi := yl_lt hk
    by_cases q : i = ms.length
    · rw [q, List.getElem?_append_right (Nat.le_refl _), Nat.sub_self] at hk
      cases hk
      exact ⟨e, he, by rw [q, ya_t]⟩
    · rw [List.getElem?_append_left (by omega)] at hk
      obtain ⟨e', a1, a2⟩ := h3 i k' hk
      exact ⟨e', a1, by rw [ya_j q]; exact a2⟩
  · show upd (u.2.2.1 43) e.1 1 e'.1 = _
    by_cases q : e'.1 = e.1
    · have := hz.2.2.1 k' k e' e he' he (Or.inl q)
      rw [q, ya_t, if_pos (by rw [this]; simp)]
    · rw [ya_j q, h4 k' e' he']
      have hkk : ¬ k' = k := fun t => by
        subst t
        rw [he] at he'; cases he'
        exact q rfl
      by_cases c : k' ∈ ms
      · rw [if_pos c, if_pos (by simp [c])]
      · rw [if_neg c, if_neg (by simp [c, hkk])]
  · show upd (u.2.2.1 43) e.1 1 i = 0 ∨ _
    by_cases q : i = e.1
    · exact Or.inr ⟨k, e, he, q.symm⟩
    · rw [ya_j q]; exact h5 i hi
end
