section
variable {α β γ δ σ τ : Type} {B : Nat → Int32} {u v w x u0 : xk_St} {g : Nat → Nat} {T : List (Nat × List Nat × List Nat)} {F : List Nat} {G : List (Nat × Nat × Nat × Int64)} {L : List Nat} {n fu tc mc lim p q len : Nat} {Q Q' : List sFr} {s : Option (List sFr)}
/-- the same block with another stack or mark -/
def sSm (f f' : sFr) : Prop := f'.1 = f.1 ∧ f'.2.1 = f.2.1 ∧ f'.2.2.1 = f.2.2.1
/-- what an instruction does to the open blocks -/
theorem sq_stepS {e p : Nat} {i : sIn} {f : sFr} {r : List sFr} (h : sq_step T F tc mc G L e p i (f :: r) = some Q') :
    (i.1 = 2 ∨ i.1 = 3 ∨ i.1 = 4 → ∃ f' st, Q' = ((e, p), i.1, i.2.1, false, st) :: f' :: r ∧ sSm f f') ∧ (i.1 = 5 → ∃ st, Q' = (f.1, 5, f.2.2.1, false, st) :: r) ∧ (i.1 = 11 → (Q' = [] ∧ r = []) ∨ ∃ a a' r1, r = a :: r1 ∧ Q' = a' :: r1 ∧ sSm a a') ∧ (¬ (i.1 = 2 ∨ i.1 = 3 ∨ i.1 = 4 ∨ i.1 = 5 ∨ i.1 = 11) → ∃ f', Q' = f' :: r ∧ sSm f f') := by
  have hne : ¬ f :: r = [] := fun y => by cases y
  have htp : ∀ {Q1 : List sFr}, sTp (f :: r) Q1 → ∃ f', Q1 = f' :: r ∧ sSm f f' := fun ht => by
    obtain ⟨a, b, c, e1, e2, e3⟩ := ht
    cases e1
    exact ⟨b, e2, e3⟩
  refine ⟨fun hi => ?_, fun hi => ?_, fun hi => ?_, fun hi => htp (sTp_step hne hi h)⟩
  · unfold sq_step at h
    rw [if_neg (by omega), if_neg (by omega)] at h
    by_cases z : i.1 = 2 ∨ i.1 = 3
    · rw [if_pos z] at h
      obtain ⟨-, Q1, -, t, e1⟩ := sq_blockS hne h
      obtain ⟨f', e2, e3⟩ := htp t
      exact ⟨f', _, by rw [e1, e2], e3⟩
    · rw [if_neg z, if_pos (by omega)] at h
      obtain ⟨Q0, h0, h⟩ := Option.bind_eq_some_iff.mp h
      have t0 := sTp_take h0
      obtain ⟨-, Q1, -, t, e1⟩ := sq_blockS (sTp_ne t0) h
      obtain ⟨f', e2, e3⟩ := htp (sTp_t t0 t)
      exact ⟨f', _, by rw [e1, e2, show i.1 = 4 by omega], e3⟩
  · unfold sq_step at h
    rw [if_neg (by omega), if_neg (by omega), if_neg (by omega), if_neg (by omega), if_pos hi] at h
    exact ⟨_, sq_elseS h⟩
  · unfold sq_step at h
    rw [if_neg (by omega), if_neg (by omega), if_neg (by omega), if_neg (by omega), if_neg (by omega), if_pos hi] at h
    rcases (sq_endS h).2 with ⟨h1, h2⟩ | ⟨h1, -, h3⟩
    · exact Or.inl ⟨h2, h1⟩
    · obtain ⟨a, a', r1, e1, e2, e3⟩ := h3
      exact Or.inr ⟨a, a', r1, e1, e2, e3⟩
/-- places, one below the other -/
def sPl : List Nat → Nat → Prop
  | [], _ => True
  | a :: r, p => a < p ∧ sPl r a
theorem sPl_m : ∀ {l : List Nat} {p q : Nat}, sPl l p → p ≤ q → sPl l q := by
  intro l p q h hq
  cases l with
  | nil => exact trivial
  | cons a r => exact ⟨by have := h.1; omega, h.2⟩
theorem sPl_lt : ∀ {l : List Nat} {p : Nat}, sPl l p → ∀ a, a ∈ l → a < p := by
  intro l
  induction l with
  | nil => intro p _ a ha; cases ha
  | cons b r ih =>
    intro p h a ha
    rcases List.mem_cons.mp ha with y | y
    · rw [y]; exact h.1
    · have := ih h.2 a y
      have := h.1
      omega
abbrev sPs (Q : List sFr) : List Nat := Q.map fun f => f.1.2
/-- the blocks open before p, as the reference's notes have them -/
def mI (Q : List sFr) (p : Nat) (v : xk_St) : Prop := sPl (sPs Q) p ∧ ∀ f, f ∈ Q → f.2.1 = 4 → v.2.2.1 21 f.1.2 = 0
theorem mI_step {e p q : Nat} {i : sIn} (hQ : ¬ Q = []) (h : sq_step T F tc mc G L e p i Q = some Q') (hI : mI Q p x) (hN : mN i p Q x w) (h7 : w.1 7 = 0) (hq : p < q) (h5 : i.1 = 5 → ∀ f r, Q = f :: r → f.2.1 = 4) : mI Q' q w ∧ (∀ k, k < p → (¬ k ∈ sPs Q → w.2.2.1 20 k = x.2.2.1 20 k) ∧ ((∀ f, f ∈ Q → f.1.2 = k → ¬ f.2.1 = 4) → w.2.2.1 21 k = x.2.2.1 21 k)) ∧ (∀ f r, Q = f :: r → (i.1 = 11 → w.2.2.1 20 f.1.2 = x.1 4 ∧ ¬ f.1.2 ∈ sPs Q' ∧ (f.2.1 = 4 → w.2.2.1 21 f.1.2 = 0)) ∧ (i.1 = 5 → w.2.2.1 21 f.1.2 = x.1 4 ∧ ∀ g, g ∈ Q' → g.1.2 = f.1.2 → ¬ g.2.1 = 4)) := by
  cases Q with
  | nil => exact absurd rfl hQ
  | cons f r =>
    obtain ⟨s1, s2, s3, s4⟩ := sq_stepS h
    obtain ⟨n1, n2⟩ := hN h7 f r rfl
    obtain ⟨⟨p1, p2⟩, i2⟩ := hI
    have p1 : f.1.2 < p := p1
    have p2 : sPl (sPs r) f.1.2 := p2
    have hin : ∀ a, a ∈ sPs r → a < f.1.2 := sPl_lt p2
    by_cases zb : i.1 = 2 ∨ i.1 = 3 ∨ i.1 = 4
    · rw [if_pos zb] at n1 n2
      obtain ⟨f', st, e1, e2⟩ := s1 zb
      refine ⟨⟨?_, fun a ha h4 => ?_⟩, fun k hk => ?_, fun f0 r0 _ => ⟨fun y => by omega, fun y => by omega⟩⟩
      · rw [e1]
        refine ⟨hq, ?_⟩
        show f'.1.2 < p ∧ sPl (sPs r) f'.1.2
        rw [e2.1]; exact ⟨p1, p2⟩
      · rw [e1] at ha
        rw [n2]
        rcases List.mem_cons.mp ha with y | ha
        · rw [y]; exact ya_t
        · rcases List.mem_cons.mp ha with y | ha
          · rw [y, ya_j (show ¬ f'.1.2 = p by rw [e2.1]; omega), e2.1]
            exact i2 f List.mem_cons_self (by rw [y] at h4; rw [← e2.2.1]; exact h4)
          · have hm : a.1.2 < f.1.2 := hin _ (List.mem_map_of_mem ha)
            rw [ya_j (by omega)]
            exact i2 a (List.mem_cons_of_mem _ ha) h4
      · rw [n1, n2, ya_j (by omega), ya_j (by omega)]
        exact ⟨fun _ => rfl, fun _ => rfl⟩
    · rw [if_neg zb] at n1 n2
      by_cases z11 : i.1 = 11
      · rw [if_pos z11] at n1
        rw [if_neg (show ¬ i.1 = 5 by omega)] at n2
        have hps : ∃ pp, sPs Q' = sPs r ∧ pp = f.1.2 := by
          refine ⟨_, ?_, rfl⟩
          rcases s3 z11 with ⟨a, b⟩ | ⟨a, a', r1, a1, a2, a3⟩
          · rw [a, b]
          · rw [a1, a2]
            show a'.1.2 :: sPs r1 = a.1.2 :: sPs r1
            rw [a3.1]
        obtain ⟨_, hps, -⟩ := hps
        refine ⟨⟨?_, fun a ha h4 => ?_⟩, fun k hk => ?_, fun f0 r0 e0 => ⟨fun _ => ?_, fun y => by omega⟩⟩
        · rw [hps]; exact sPl_m p2 (by omega)
        · rw [n2]
          rcases s3 z11 with ⟨a1, b⟩ | ⟨b, b', r1, a1, a2, a3⟩
          · rw [a1] at ha; cases ha
          · rw [a2] at ha
            rcases List.mem_cons.mp ha with y | ha
            · rw [y, a3.1]
              exact i2 b (List.mem_cons_of_mem _ (by rw [a1]; exact List.mem_cons_self)) (by rw [y] at h4; rw [← a3.2.1]; exact h4)
            · exact i2 a (List.mem_cons_of_mem _ (by rw [a1]; exact List.mem_cons_of_mem _ ha)) h4
        · rw [n1, n2]
          exact ⟨fun hn => ya_j (fun y => hn (by rw [y]; exact List.mem_cons_self)), fun _ => rfl⟩
        · cases e0
          refine ⟨by rw [n1, ya_t], fun y => ?_, fun h4 => ?_⟩
          · rw [hps] at y
            have := hin _ y
            omega
          · rw [n2]; exact i2 f List.mem_cons_self h4
      · rw [if_neg z11] at n1
        by_cases z5 : i.1 = 5
        · rw [if_pos z5] at n2
          obtain ⟨st, e1⟩ := s2 z5
          refine ⟨⟨?_, fun a ha h4 => ?_⟩, fun k hk => ?_, fun f0 r0 e0 => ⟨fun y => absurd y z11, fun _ => ?_⟩⟩
          · rw [e1]
            exact ⟨by show f.1.2 < q; omega, p2⟩
          · rw [e1] at ha
            rcases List.mem_cons.mp ha with y | ha
            · rw [y] at h4
              exact absurd (show (5 : Nat) = 4 from h4) (by decide)
            · have hm : a.1.2 < f.1.2 := hin _ (List.mem_map_of_mem ha)
              rw [n2, ya_j (by omega)]
              exact i2 a (List.mem_cons_of_mem _ ha) h4
          · rw [n1, n2]
            exact ⟨fun _ => rfl, fun hn => ya_j (fun y => hn f List.mem_cons_self y.symm (h5 z5 f r rfl))⟩
          · cases e0
            refine ⟨by rw [n2, ya_t], fun a ha h4 => ?_⟩
            rw [e1] at ha
            rcases List.mem_cons.mp ha with y | ha
            · rw [y]; exact (by decide : ¬ (5 : Nat) = 4)
            · have hm : a.1.2 < f.1.2 := hin _ (List.mem_map_of_mem ha)
              omega
        · rw [if_neg z5] at n2
          obtain ⟨f', e1, e2⟩ := s4 (by omega)
          refine ⟨⟨?_, fun a ha h4 => ?_⟩, fun k hk => ?_, fun f0 r0 e0 => ⟨fun y => absurd y z11, fun y => absurd y z5⟩⟩
          · rw [e1]
            show f'.1.2 < q ∧ sPl (sPs r) f'.1.2
            rw [e2.1]; exact ⟨by omega, p2⟩
          · rw [e1] at ha
            rw [n2]
            rcases List.mem_cons.mp ha with y | ha
            · rw [y, e2.1]
              exact i2 f List.mem_cons_self (by rw [y] at h4; rw [← e2.2.1]; exact h4)
            · exact i2 a (List.mem_cons_of_mem _ ha) h4
          · rw [n1, n2]
            exact ⟨fun _ => rfl, fun _ => rfl⟩
/-- blocks of the reading and of the check -/
def sM : List Bool → List sFr → Prop
  | [], [] => True
  | b :: st, f :: r => (b = true → f.2.1 = 4) ∧ sM st r
  | _, _ => False
theorem sM_len : ∀ {st : List Bool} {Q : List sFr}, sM st Q → (st = [] ↔ Q = []) := by
  intro st Q h
  cases st with
  | nil =>
    cases Q with
    | nil => exact ⟨fun _ => rfl, fun _ => rfl⟩
    | cons f r => exact h.elim
  | cons b st =>
    cases Q with
    | nil => exact h.elim
    | cons f r => exact ⟨(fun y => by cases y), fun y => by cases y⟩
theorem sM_step {e p : Nat} {i : sIn} {b : Bool} {st st' : List Bool} (hQ : ¬ Q = []) (h : sq_step T F tc mc G L e p i Q = some Q') (hn : yn_next i.1 b st = some st') (hl : sM (b :: st) Q) : sM st' Q' ∧ (i.1 = 5 → ∀ f r, Q = f :: r → f.2.1 = 4) := by
  cases Q with
  | nil => exact absurd rfl hQ
  | cons f r =>
    obtain ⟨s1, s2, s3, s4⟩ := sq_stepS h
    obtain ⟨hb, hl⟩ := hl
    have hsm : ∀ {a a' : sFr} {b : Bool}, sSm a a' → (b = true → a.2.1 = 4) → (b = true → a'.2.1 = 4) := fun h1 h2 y => h1.2.1.trans (h2 y)
    unfold yn_next at hn
    by_cases z11 : i.1 = 11
    · rw [if_pos z11] at hn
      cases hn
      refine ⟨?_, fun y => by omega⟩
      rcases s3 z11 with ⟨a, c⟩ | ⟨a, a', r1, a1, a2, a3⟩
      · rw [c] at hl; rw [a]; exact hl
      · rw [a1] at hl
        rw [a2]
        cases st with
        | nil => exact hl.elim
        | cons c st => exact ⟨hsm a3 hl.1, hl.2⟩
    · rw [if_neg z11] at hn
      by_cases z5 : i.1 = 5
      · rw [if_pos z5] at hn
        obtain ⟨st1, e1⟩ := s2 z5
        cases b with
        | false => cases hn
        | true =>
          cases hn
          refine ⟨?_, fun _ f' r' y => by cases y; exact hb rfl⟩
          rw [e1]
          exact ⟨(fun y => by cases y), hl⟩
      · rw [if_neg z5] at hn
        refine ⟨?_, fun y => absurd y z5⟩
        by_cases zb : i.1 = 2 ∨ i.1 = 3 ∨ i.1 = 4
        · obtain ⟨f', st1, e1, e2⟩ := s1 zb
          rw [e1]
          by_cases z2 : i.1 = 2 ∨ i.1 = 3
          · rw [if_pos z2] at hn; cases hn
            exact ⟨(fun y => by cases y), hsm e2 hb, hl⟩
          · rw [if_neg z2, if_pos (by omega)] at hn; cases hn
            exact ⟨fun _ => by show i.1 = 4; omega, hsm e2 hb, hl⟩
        · rw [if_neg (by omega), if_neg (by omega)] at hn
          cases hn
          obtain ⟨f', e1, e2⟩ := s4 (by omega)
          rw [e1]
          exact ⟨hsm e2 hb, hl⟩
end
