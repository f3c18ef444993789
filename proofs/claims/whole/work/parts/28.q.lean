section
variable {α β γ δ σ τ : Type} {u v w u0 u1 : xk_St} {g : Nat → Nat} {T : List (Nat × List Nat × List Nat)} {F : List Nat} {G : List (Nat × Nat × Nat × Int64)} {L : List Nat} {n fu tc mc : Nat} {Q Q' Q1 : List sFr}
/-- only the innermost block has changed, and it is the same block -/
def sTp (Q Q' : List sFr) : Prop := ∃ f f' r, Q = f :: r ∧ Q' = f' :: r ∧ f'.1 = f.1 ∧ f'.2.1 = f.2.1 ∧ f'.2.2.1 = f.2.2.1
theorem sTp_r (hQ : ¬ Q = []) : sTp Q Q := by
  cases Q with
  | nil => exact absurd rfl hQ
  | cons f r => exact ⟨f, f, r, rfl, rfl, rfl, rfl, rfl⟩
theorem sTp_t (h : sTp Q Q1) (h2 : sTp Q1 Q') : sTp Q Q' := by
  obtain ⟨f, f', r, rfl, rfl, a, b, c⟩ := h
  obtain ⟨f2, f3, r2, e, rfl, a2, b2, c2⟩ := h2
  cases e
  exact ⟨f, f3, r, rfl, rfl, a2.trans a, b2.trans b, c2.trans c⟩
theorem sTp_ne (h : sTp Q Q') : ¬ Q' = [] := by
  obtain ⟨f, f', r, rfl, rfl, -⟩ := h
  exact fun z => by cases z
theorem sTp_pop {x : Nat × List sFr} (h : sq_pop Q = some x) : sTp Q x.2 := by
  rcases sq_popS (Q := Q) (c := x.1) (Q' := x.2) h with ⟨-, -, -, f, r, s, rfl, -, h2⟩ | ⟨-, h2, f, r, rfl, -⟩
  · rw [h2]; exact ⟨f, sf_s f s, r, rfl, rfl, rfl, rfl, rfl⟩
  · rw [h2]; exact ⟨f, f, r, rfl, rfl, rfl, rfl, rfl⟩
theorem sTp_popR {x : Nat × List sFr} (h : sq_popR Q = some x) : sTp Q x.2 := by
  unfold sq_popR at h
  obtain ⟨y, h1, h2⟩ := Option.bind_eq_some_iff.mp h
  obtain ⟨-, h2⟩ := xp_if h2
  cases h2
  exact sTp_pop h1
theorem sTp_take {x : Nat} (h : sq_take g x Q = some Q') : sTp Q Q' := by
  unfold sq_take at h
  obtain ⟨y, h1, h2⟩ := Option.bind_eq_some_iff.mp h
  obtain ⟨-, h2⟩ := xp_if h2
  cases h2
  exact sTp_pop h1
theorem sTp_takes (hQ : ¬ Q = []) {ws : List Nat} (h : sq_takes g ws Q = some Q') : sTp Q Q' := by
  cases Q with
  | nil => exact absurd rfl hQ
  | cons f r =>
    obtain ⟨s, rfl⟩ := sq_takesT h
    exact ⟨f, sf_s f s, r, rfl, rfl, rfl, rfl, rfl⟩
theorem sTp_push {c : Nat} (h : sq_push c Q = some Q') : sTp Q Q' := by
  cases Q with
  | nil => cases h
  | cons f r =>
    rw [sq_push_c] at h
    split at h
    · cases h
    · cases h
      exact ⟨f, _, r, rfl, rfl, rfl, rfl, rfl⟩
theorem sTp_pushes : ∀ {cs : List Nat} {Q Q' : List sFr}, ¬ Q = [] → sq_pushes cs Q = some Q' → sTp Q Q' := by
  intro cs
  induction cs with
  | nil => intro Q Q' hQ h; cases h; exact sTp_r hQ
  | cons c cs ih =>
    intro Q Q' hQ h
    obtain ⟨Q1, h1, h2⟩ := Option.bind_eq_some_iff.mp h
    exact sTp_t (sTp_push h1) (ih (sTp_ne (sTp_push h1)) h2)
theorem sTp_sg {ws cs : List Nat} (hQ : ¬ Q = []) (h : sq_sg T ws cs Q = some Q') : sTp Q Q' := by
  obtain ⟨Q1, h1, h2⟩ := Option.bind_eq_some_iff.mp h
  exact sTp_t (sTp_takes hQ h1) (sTp_pushes (sTp_ne (sTp_takes hQ h1)) h2)
theorem sTp_lose (hQ : ¬ Q = []) : sTp Q (sq_lose Q) := by
  cases Q with
  | nil => exact absurd rfl hQ
  | cons f r => exact ⟨f, _, r, rfl, rfl, rfl, rfl, rfl⟩
/-- pushes from nothing: the stack is what was pushed -/
theorem sq_pushesS : ∀ {cs : List Nat} {f : sFr} {r Q' : List sFr}, sq_pushes cs (f :: r) = some Q' → Q' = sf_s f (cs.reverse ++ f.2.2.2.2) :: r := by
  intro cs
  induction cs with
  | nil => intro f r Q' h; cases h; rfl
  | cons c cs ih =>
    intro f r Q' h
    obtain ⟨Q1, h1, h2⟩ := Option.bind_eq_some_iff.mp h
    rw [sq_push_c] at h1
    split at h1
    · cases h1
    · cases h1
      rw [ih h2, List.reverse_cons, List.append_assoc]
      rfl
theorem sTp_step {e p : Nat} {i : sIn} (hQ : ¬ Q = []) (hn : ¬ (i.1 = 2 ∨ i.1 = 3 ∨ i.1 = 4 ∨ i.1 = 5 ∨ i.1 = 11)) (h : sq_step T F tc mc G L e p i Q = some Q') : sTp Q Q' := by
  unfold sq_step at h
  have hvar : ∀ {w t : Nat} {Q' : List sFr}, sq_var T w t Q = some Q' → sTp Q Q' := fun h => sTp_sg hQ h
  have hway : ∀ {Q1 Q' : List sFr} {d : Nat} {k : sFr → Option (List sFr)}, ¬ Q1 = [] → Q1[d]?.bind k = some Q' → ∃ f, k f = some Q' := fun _ h => by
    obtain ⟨f, _, h2⟩ := Option.bind_eq_some_iff.mp h
    exact ⟨f, h2⟩
  have hlo : ∀ {Q1 : List sFr} {ws : List Nat} {Q' : List sFr}, ¬ Q1 = [] → ((sq_takes (yl_f T) ws Q1).bind fun Q2 => some (sq_lose Q2)) = some Q' → sTp Q1 Q' := fun hq h => by
    obtain ⟨Q2, h1, h2⟩ := Option.bind_eq_some_iff.mp h
    cases h2
    exact sTp_t (sTp_takes hq h1) (sTp_lose (sTp_ne (sTp_takes hq h1)))
  by_cases z0 : i.1 = 0
  · rw [if_pos z0] at h; cases h; exact sTp_lose hQ
  rw [if_neg z0] at h
  by_cases z1 : i.1 = 1
  · rw [if_pos z1] at h; cases h; exact sTp_r hQ
  rw [if_neg z1, if_neg (show ¬ (i.1 = 2 ∨ i.1 = 3) by omega), if_neg (show ¬ i.1 = 4 by omega), if_neg (show ¬ i.1 = 5 by omega), if_neg (show ¬ i.1 = 11 by omega)] at h
  by_cases z12 : i.1 = 12
  · rw [if_pos z12] at h
    obtain ⟨f, h⟩ := hway hQ h
    exact hlo hQ h
  rw [if_neg z12] at h
  by_cases z13 : i.1 = 13
  · rw [if_pos z13] at h
    obtain ⟨Q1, h1, h⟩ := Option.bind_eq_some_iff.mp h
    have t1 := sTp_take h1
    obtain ⟨f, h⟩ := hway (sTp_ne t1) h
    exact sTp_t t1 (sTp_sg (sTp_ne t1) h)
  rw [if_neg z13] at h
  by_cases z14 : i.1 = 14
  · rw [if_pos z14] at h
    obtain ⟨Q1, h1, h⟩ := Option.bind_eq_some_iff.mp h
    have t1 := sTp_take h1
    obtain ⟨f, h⟩ := hway (sTp_ne t1) h
    obtain ⟨x, h2, h⟩ := Option.bind_eq_some_iff.mp h
    cases h
    exact sTp_t t1 (sTp_lose (sTp_ne t1))
  rw [if_neg z14] at h
  by_cases z15 : i.1 = 15
  · rw [if_pos z15] at h
    obtain ⟨f, h⟩ := hway hQ h
    exact hlo hQ h
  rw [if_neg z15] at h
  by_cases z16 : i.1 = 16
  · rw [if_pos z16] at h
    obtain ⟨t, -, h⟩ := Option.bind_eq_some_iff.mp h
    obtain ⟨c, -, h⟩ := Option.bind_eq_some_iff.mp h
    exact sTp_sg hQ h
  rw [if_neg z16] at h
  by_cases z17 : i.1 = 17
  · rw [if_pos z17] at h
    obtain ⟨t, -, h⟩ := Option.bind_eq_some_iff.mp h
    exact sTp_sg hQ (xp_if h).2
  rw [if_neg z17] at h
  by_cases z26 : i.1 = 26
  · rw [if_pos z26] at h
    obtain ⟨x, h1, h⟩ := Option.bind_eq_some_iff.mp h
    cases h
    exact sTp_pop h1
  rw [if_neg z26] at h
  by_cases z27 : i.1 = 27
  · rw [if_pos z27] at h
    obtain ⟨Q1, h1, h⟩ := Option.bind_eq_some_iff.mp h
    obtain ⟨x, h2, h⟩ := Option.bind_eq_some_iff.mp h
    obtain ⟨y, h3, h⟩ := Option.bind_eq_some_iff.mp h
    exact sTp_t (sTp_t (sTp_t (sTp_take h1) (sTp_pop h2)) (sTp_pop h3)) (sTp_push (xp_if h).2)
  rw [if_neg z27] at h
  by_cases z35 : i.1 < 35
  · rw [if_pos z35] at h
    obtain ⟨t, -, h⟩ := Option.bind_eq_some_iff.mp h
    exact hvar h
  rw [if_neg z35] at h
  by_cases z40 : i.1 < 40
  · rw [if_pos z40] at h
    obtain ⟨t, -, h⟩ := Option.bind_eq_some_iff.mp h
    exact hvar (xp_if h).2
  rw [if_neg z40] at h
  by_cases z65 : i.1 < 65
  · rw [if_pos z65] at h
    have h := (xp_if h).2
    split at h
    · have h := (xp_if h).2
      split at h
      · exact sTp_sg hQ h
      · exact sTp_sg hQ h
    · exact sTp_sg hQ h
  rw [if_neg z65] at h
  by_cases z67 : i.1 < 67
  · rw [if_pos z67] at h; exact sTp_push h
  rw [if_neg z67] at h
  by_cases z208 : i.1 < 208
  · rw [if_pos z208] at h; exact sTp_sg hQ h
  rw [if_neg z208] at h
  by_cases y208 : i.1 = 208
  · rw [if_pos y208] at h; exact sTp_push (xp_if h).2
  rw [if_neg y208] at h
  by_cases y209 : i.1 = 209
  · rw [if_pos y209] at h
    obtain ⟨x, h1, h⟩ := Option.bind_eq_some_iff.mp h
    exact sTp_t (sTp_popR h1) (sTp_push h)
  rw [if_neg y209] at h
  by_cases y211 : i.1 = 211
  · rw [if_pos y211] at h; exact sTp_sg hQ h
  rw [if_neg y211] at h
  by_cases y212 : i.1 = 212
  · rw [if_pos y212] at h
    obtain ⟨x, h1, h⟩ := Option.bind_eq_some_iff.mp h
    exact sTp_t (sTp_popR h1) (sTp_push h)
  rw [if_neg y212] at h
  by_cases y213 : i.1 = 213
  · rw [if_pos y213] at h
    obtain ⟨x, h1, h⟩ := Option.bind_eq_some_iff.mp h
    have t1 := sTp_popR h1
    obtain ⟨f, h⟩ := hway (sTp_ne t1) h
    obtain ⟨Q2, h2, h⟩ := Option.bind_eq_some_iff.mp h
    exact sTp_t (sTp_t t1 (sTp_sg (sTp_ne t1) h2)) (sTp_push h)
  rw [if_neg y213] at h
  by_cases y214 : i.1 = 214
  · rw [if_pos y214] at h
    obtain ⟨x, h1, h⟩ := Option.bind_eq_some_iff.mp h
    have t1 := sTp_popR h1
    obtain ⟨f, h⟩ := hway (sTp_ne t1) h
    obtain ⟨w, -, h⟩ := Option.bind_eq_some_iff.mp h
    exact sTp_t t1 (sTp_sg (sTp_ne t1) (xp_if h).2)
  rw [if_neg y214] at h
  by_cases y262 : i.1 < 262
  · rw [if_pos y262] at h
    obtain ⟨c, -, h⟩ := Option.bind_eq_some_iff.mp h
    have h := (xp_if h).2
    unfold sq_strc at h
    split at h
    · exact sTp_sg hQ h
    · split at h
      · exact sTp_push (xp_if h).2
      · obtain ⟨d, -, h⟩ := Option.bind_eq_some_iff.mp h
        split at h
        · exact sTp_sg hQ (xp_if h).2
        · exact sTp_sg hQ (xp_if h).2
  rw [if_neg y262] at h
  by_cases y271 : i.1 = 271
  · rw [if_pos y271] at h
    obtain ⟨x, h1, h⟩ := Option.bind_eq_some_iff.mp h
    exact sTp_t (sTp_popR h1) (sTp_push (xp_if h).2)
  rw [if_neg y271] at h
  by_cases y276 : i.1 < 276
  · rw [if_pos y276] at h
    obtain ⟨c, -, h⟩ := Option.bind_eq_some_iff.mp h
    obtain ⟨d, -, h⟩ := Option.bind_eq_some_iff.mp (xp_if h).2
    unfold sq_arrc at h
    split at h
    · exact sTp_sg hQ h
    · split at h
      · exact sTp_sg hQ (xp_if h).2
      · split at h
        · exact sTp_sg hQ (xp_if h).2
        · split at h
          · exact sTp_sg hQ (xp_if h).2
          · have h := (xp_if h).2
            split at h
            · exact sTp_sg hQ h
            · exact sTp_sg hQ h
  rw [if_neg y276] at h
  unfold sq_kind at h
  split at h
  · exact sTp_sg hQ h
  · split at h
    · exact sTp_sg hQ h
    · exact sTp_sg hQ (xp_if h).2
/-- a block that begins: what is below it, what lies in it -/
theorem sq_blockS {e p o : Nat} {t : Option Nat ⊕ Int64} (hQ : ¬ Q = []) (h : sq_block T e p o t Q = some Q') : sb_ok T t ∧ ∃ Q1, sq_takes (yl_f T) (sb_par T t).reverse Q = some Q1 ∧ sTp Q Q1 ∧ Q' = ((e, p), o, t, false, (sb_par T t).reverse) :: Q1 := by
  obtain ⟨h1, h⟩ := xp_if h
  obtain ⟨Q1, h2, h⟩ := Option.bind_eq_some_iff.mp h
  obtain ⟨Q2, h3, h⟩ := Option.bind_eq_some_iff.mp h
  unfold sq_open at h3
  split at h3
  · cases h3
  · cases h3
    refine ⟨h1, Q1, h2, sTp_takes hQ h2, ?_⟩
    rw [sq_pushesS h]
    simp [sf_s]
theorem sq_overS {f : sFr} {r : List sFr} (h : sq_over T (f :: r) = some Q') : Q' = sf_s f [] :: r := by
  obtain ⟨Q1, h1, h⟩ := Option.bind_eq_some_iff.mp h
  obtain ⟨h2, h⟩ := xp_if h
  cases h
  obtain ⟨s, rfl⟩ := sq_takesT h1
  have := sq_tops h2
  have : s = [] := this
  rw [this]
theorem sq_elseS {f : sFr} {r : List sFr} (h : sq_else T (f :: r) = some Q') : Q' = (f.1, 5, f.2.2.1, false, (sb_par T f.2.2.1).reverse) :: r := by
  obtain ⟨Q1, h1, h⟩ := Option.bind_eq_some_iff.mp h
  rw [sq_overS h1] at h
  have h : sq_pushes (sb_par T f.2.2.1) ((f.1, 5, f.2.2.1, false, []) :: r) = some Q' := h
  rw [sq_pushesS h]
  simp [sf_s]
theorem sq_endS {f : sFr} {r : List sFr} (h : sq_end T (f :: r) = some Q') : (f.2.1 = 4 → sb_same T f.2.2.1) ∧ ((r = [] ∧ Q' = []) ∨ (¬ r = [] ∧ sq_pushes (sb_res T f.2.2.1) r = some Q' ∧ sTp r Q')) := by
  obtain ⟨Q1, h1, h⟩ := Option.bind_eq_some_iff.mp h
  rw [sq_overS h1] at h
  obtain ⟨h2, h⟩ := xp_if h
  refine ⟨h2, ?_⟩
  cases r with
  | nil => cases h; exact Or.inl ⟨rfl, rfl⟩
  | cons x r =>
    have h : sq_pushes (sb_res T f.2.2.1) (x :: r) = some Q' := h
    have hne : ¬ x :: r = [] := fun z => by cases z
    exact Or.inr ⟨hne, h, sTp_pushes hne h⟩
end
