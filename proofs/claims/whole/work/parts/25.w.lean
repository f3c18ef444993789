section
variable {α β γ δ : Type} {B : Nat → Int32} {u v w : xk_St} {L lim p q fu : Nat} {e : Int32}
/-- blocks that stand open: where each began, and where its 0x05 lies -/
def yo_i (x : Nat × Option Nat) : Nat := x.2.getD x.1
def yo_up (ol : List (Nat × Option Nat)) : Int32 := match ol with
  | [] => -1
  | x :: _ => nI (yo_i x)
/-- the class's notes of them; A7 the instructions, A9 the mates -/
def yo_ok (f g : Nat → Int32) : Nat → List (Nat × Option Nat) → Prop
  | _, [] => True
  | d, x :: r => x.1 ≤ yo_i x ∧ yo_i x < d ∧ g (yo_i x) = yo_up r ∧ (f x.1 = 6 ↔ r = []) ∧ (∀ k, x.2 = some k → x.1 < k ∧ f k = 5 ∧ g x.1 = nI k ∧ ¬ r = []) ∧ yo_ok f g x.1 r
theorem yo_mono {f g f' g' : Nat → Int32} : ∀ {ol : List (Nat × Option Nat)} {d d' : Nat}, d ≤ d' → (∀ i, i < d → f' i = f i ∧ g' i = g i) → yo_ok f g d ol → yo_ok f' g' d' ol := by
  intro ol
  induction ol with
  | nil => intro d d' _ _ _; exact trivial
  | cons x r ih =>
    intro d d' hd hs h
    obtain ⟨h1, h2, h3, h4, h5, h6⟩ := h
    refine ⟨h1, by omega, (hs _ h2).2.trans h3, ?_, fun k hk => ?_, ih (Nat.le_refl _) (fun i hi => hs i (by omega)) h6⟩
    · rw [(hs x.1 (by omega)).1]; exact h4
    · obtain ⟨g1, g2, g3, g4⟩ := h5 k hk
      have hk' : yo_i x = k := by unfold yo_i; rw [hk]; rfl
      exact ⟨g1, (hs k (by omega)).1.trans g2, (hs x.1 (by omega)).2.trans g3, g4⟩
/-- the blocks behind an instruction -/
def yo_step (ol : List (Nat × Option Nat)) (k op : Nat) : List (Nat × Option Nat) :=
  if op = 11 then ol.tail else if op = 5 then (match ol with
    | [] => []
    | x :: r => (x.1, some k) :: r) else if op = 2 ∨ op = 3 ∨ op = 4 then (k, none) :: ol else ol
/-- where an 0x05 may come -/
def yo_st (f : Nat → Int32) (ol : List (Nat × Option Nat)) : List Bool := ol.map fun x => x.2.isNone && decide (f x.1 = 4)
theorem hh_turned {sz b : Nat} (hs : u.1 8 = nI (sz + 1)) (hz : sz < 8192) (hb : b < 8192) : fm_Code_turned (nI b) u = some (nI sz, xs_A (xs_A u 9 sz (u.2.2.1 9 b)) 9 b (nI sz)) := by
  unfold fm_Code_turned
  have h1 : ∀ i y, (xs_A u 9 i y).1 8 = nI (sz + 1) := fun _ _ => hs
  have h2 : ∀ i y j z, (xs_A (xs_A u 9 i y) 9 j z).1 8 = nI (sz + 1) := fun _ _ _ _ => hs
  simp only [xs_let, hs, h1, h2]
  rw [nI_pred, if_neg (nI_in (N := 8192) hb (by decide)), if_neg (nI_in (N := 8192) hz (by decide)), if_neg (nI_in (N := 8192) hb (by decide)), nI_clamp (by omega), nI_clamp (by omega)]
theorem hh_closed {sz b : Nat} (hs : u.1 8 = nI (sz + 1)) (hb : b < 8192) : fm_Code_closed (nI b) u = some (u.2.2.1 9 b, xs_A u 9 b (nI sz)) := by
  unfold fm_Code_closed
  simp only [xs_let, hs]
  rw [nI_pred, if_neg (nI_in (N := 8192) hb (by decide)), if_neg (nI_in (N := 8192) hb (by decide)), nI_clamp (by omega)]
/-- an 0x05 -/
theorem hh_43e {op sz ns b : Nat} (ho : op < 287) (h8 : u.1 8 = nI sz) (hz : sz < 8192) (hb : b < 8192) :
    jb_Reader_readInstruction_43 fu (nI b) (nI op) 101 u = if u.2.2.1 7 b = 4 then some (.inl (nI sz), xs_A (xs_A (yd_add u sz (nI op) 0 0) 9 sz (u.2.2.1 9 b)) 9 b (nI sz)) else some (.inr 0, u) := by
  unfold jb_Reader_readInstruction_43
  rw [if_neg (by decide), if_neg (by decide), if_neg (by decide), if_pos rfl, if_neg (nI_in (N := 8192) hb (by decide)), nI_clamp (by omega), hh_add h8 hz ho, ys_seq, hh_turned rfl hz hb, ys_seq]
  rfl
/-- an 0x0b -/
theorem hh_43n {op sz b : Nat} (h8 : u.1 8 = nI sz) (hz : sz < 8192) (hb : b < 8192) :
    jb_Reader_readInstruction_43 fu (nI b) (nI op) 110 u = some (.inl (u.2.2.1 9 b), xs_A (yd_add u sz (if u.2.2.1 7 b = 6 then 7 else 11) 0 0) 9 b (nI sz)) := by
  have h7 : fm_Code_add 7 0 0 u = some ((), yd_add u sz 7 0 0) := hh_add (op := 7) h8 hz (by decide)
  have h11 : fm_Code_add 11 0 0 u = some ((), yd_add u sz 11 0 0) := hh_add (op := 11) h8 hz (by decide)
  unfold jb_Reader_readInstruction_43 jb_Reader_readInstruction_365
  rw [if_neg (by decide), if_neg (by decide), if_neg (by decide), if_neg (by decide), if_neg (by decide), if_neg (by decide), if_pos rfl, if_neg (nI_in (N := 8192) hb (by decide)), nI_clamp (by omega), h7, h11, ys_seq, ys_seq, hh_closed (sz := sz) rfl hb, hh_closed (sz := sz) rfl hb, ys_seq, ys_seq]
  by_cases hc : u.2.2.1 7 b = 6
  · rw [if_pos hc, if_pos hc]; rfl
  · rw [if_neg hc, if_neg hc]; rfl
end
