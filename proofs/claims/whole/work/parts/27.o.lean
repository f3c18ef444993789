section
variable {α β γ δ : Type} {B : Nat → Int32} {u v w : xk_St} {L lim p q fu D len : Nat} {e : Int32} {T : List (Nat × List Nat × List Nat)} {S : Nat → Option (Nat × Nat)} {g : Nat → Nat}
/-- whether a value of type t can stand where w is asked for (816: a reference of unknown type) -/
def yfit (g : Nat → Nat) (t w : Nat) : Prop := t = 0 ∨ t = w ∨ (16 ≤ t ∧ 16 ≤ w ∧ t % 2 ≤ w % 2 ∧ (t = 816 ∨ (t - 16) / 2 = (w - 16) / 2 ∨ (w - 16) / 2 = 0 ∨ (20 ≤ t ∧ 20 ≤ w ∧ g ((t - 20) / 2) = g ((w - 20) / 2))))
/-- types that may lie on the stack; that may be asked for -/
def yvw (n t : Nat) : Prop := t < 150 ∧ (t < 20 ∨ (t - 20) / 2 < n)
def yvt (n t : Nat) : Prop := t = 816 ∨ yvw n t
/-- the class's code of a type -/
def yu (t : Nat) : Nat := if t = 816 then 20 else yv_h t
theorem yu_h {t : Nat} (h : t < 150) : yu t = yv_h t := if_neg (by omega)
theorem mm_fits {t x : Nat} (h64 : T.length ≤ 64) (ht : yvt T.length t) (hx : yvw T.length x) (hA : ∀ i, i < T.length → u.2.2.1 8 i = nI (g i)) (hg : ∀ i, g i ≤ i) : (yfit g t x → fm_Model_fits (nI t) (nI x) u = some (1, u)) ∧ (¬ yfit g t x → fm_Model_fits (nI t) (nI x) u = some (0, u)) := by
  have ht8 : t ≤ 816 := by
    rcases ht with z | z
    · omega
    · have := z.1; omega
  have hx1 := hx.1
  unfold fm_Model_fits jb_Model_fits_96
  have e0 : nI t = (0 : Int32) ↔ t = 0 := nI_eq (b := 0) (by omega) (by decide)
  have ex : nI t = nI x ↔ t = x := nI_eq (by omega) (by omega)
  by_cases z0 : t = 0
  · rw [if_pos (e0.mpr z0)]
    exact ⟨fun _ => rfl, fun h => absurd (Or.inl z0) h⟩
  rw [if_neg (fun z => z0 (e0.mp z))]
  by_cases zx : t = x
  · rw [if_pos (ex.mpr zx)]
    exact ⟨fun _ => rfl, fun h => absurd (Or.inr (Or.inl zx)) h⟩
  rw [if_neg (fun z => zx (ex.mp z))]
  have hir : fm_Model_isReference (nI t) u = some (if t < 16 then 0 else 1, u) := by
    rcases ht with z | z
    · subst z; rfl
    · exact mm_isRef z.1
  rw [hir, ys_seq]
  by_cases t16 : t < 16
  · rw [if_pos t16, if_pos rfl]
    exact ⟨fun h => by unfold yfit at h; omega, fun _ => rfl⟩
  rw [if_neg t16, if_neg (show ¬ (1 : Int32) = 0 by decide), mm_isRef hx1, ys_seq]
  by_cases x16 : x < 16
  · rw [if_pos x16, if_pos rfl]
    exact ⟨fun h => by unfold yfit at h; omega, fun _ => rfl⟩
  rw [if_neg x16, if_neg (show ¬ (1 : Int32) = 0 by decide)]
  have ha : (nI t &&& 1) = nI (t % 2) := by
    rcases ht with z | z
    · subst z; rfl
    · exact yr_a t z.1
  rw [ha, yr_a x hx1]
  have hle : nI (t % 2) ≤ nI (x % 2) ↔ t % 2 ≤ x % 2 := nI_leI (by omega) (by omega)
  by_cases hm : t % 2 ≤ x % 2
  · rw [if_pos (hle.mpr hm)]
    have hta : fm_Model_targetOf (nI t) u = some (nI ((t - 16) / 2), u) := by
      rcases ht with z | z
      · subst z; rfl
      · exact mm_tgt z.1 (by omega)
    rw [hta, ys_seq, mm_tgt hx1 (by omega), ys_seq]
    have e400 : nI ((t - 16) / 2) = (400 : Int32) ↔ t = 816 := by
      refine (nI_eq (b := 400) (by omega) (by decide)).trans ⟨fun z => ?_, fun z => by rw [z]⟩
      rcases ht with y | y
      · exact y
      · have := y.1; omega
    by_cases z8 : t = 816
    · rw [if_pos (e400.mpr z8)]
      exact ⟨fun _ => rfl, fun h => absurd (Or.inr (Or.inr ⟨by omega, by omega, hm, Or.inl z8⟩)) h⟩
    rw [if_neg (fun z => z8 (e400.mp z))]
    have tv : yvw T.length t := ht.resolve_left z8
    have t150 := tv.1
    have eab : nI ((t - 16) / 2) = nI ((x - 16) / 2) ↔ (t - 16) / 2 = (x - 16) / 2 := nI_eq (by omega) (by omega)
    by_cases z9 : (t - 16) / 2 = (x - 16) / 2
    · rw [if_pos (eab.mpr z9)]
      exact ⟨fun _ => rfl, fun h => absurd (Or.inr (Or.inr ⟨by omega, by omega, hm, Or.inr (Or.inl z9)⟩)) h⟩
    rw [if_neg (fun z => z9 (eab.mp z))]
    have eb0 : nI ((x - 16) / 2) = (0 : Int32) ↔ (x - 16) / 2 = 0 := nI_eq (b := 0) (by omega) (by decide)
    by_cases z10 : (x - 16) / 2 = 0
    · rw [if_pos (eb0.mpr z10)]
      exact ⟨fun _ => rfl, fun h => absurd (Or.inr (Or.inr ⟨by omega, by omega, hm, Or.inr (Or.inr (Or.inl z10))⟩)) h⟩
    rw [if_neg (fun z => z10 (eb0.mp z))]
    have lt2 : ∀ a : Nat, a < 1000 → (nI a < (2 : Int32) ↔ a < 2) := fun a h => nI_ltI (b := 2) (by omega) (by decide)
    by_cases t20 : t < 20
    · rw [if_pos ((lt2 _ (by omega)).mpr (by omega))]
      exact ⟨fun h => by unfold yfit at h; omega, fun _ => rfl⟩
    rw [if_neg (fun z => by have := (lt2 _ (by omega)).mp z; omega)]
    by_cases x20 : x < 20
    · rw [if_pos ((lt2 _ (by omega)).mpr (by omega))]
      exact ⟨fun h => by unfold yfit at h; omega, fun _ => rfl⟩
    rw [if_neg (fun z => by have := (lt2 _ (by omega)).mp z; omega), yr_s t t150 (by omega), yr_s x hx1 (by omega)]
    have tn : (t - 20) / 2 < T.length := tv.2.resolve_left t20
    have xn : (x - 20) / 2 < T.length := hx.2.resolve_left x20
    rw [ie64 (by omega), ie64 (by omega), nI_clamp (by omega), nI_clamp (by omega), hA _ tn, hA _ xn]
    have g1 := hg ((t - 20) / 2)
    have g2 := hg ((x - 20) / 2)
    have eg : nI (g ((t - 20) / 2)) = nI (g ((x - 20) / 2)) ↔ g ((t - 20) / 2) = g ((x - 20) / 2) := nI_eq (by omega) (by omega)
    by_cases zg : g ((t - 20) / 2) = g ((x - 20) / 2)
    · rw [if_pos (eg.mpr zg)]
      exact ⟨fun _ => rfl, fun h => absurd (Or.inr (Or.inr ⟨by omega, by omega, hm, Or.inr (Or.inr (Or.inr ⟨by omega, by omega, zg⟩))⟩)) h⟩
    · rw [if_neg (fun z => zg (eg.mp z))]
      exact ⟨fun h => by unfold yfit at h; omega, fun _ => rfl⟩
  · rw [if_neg (fun z => hm (hle.mp z))]
    exact ⟨fun h => by unfold yfit at h; omega, fun _ => rfl⟩
theorem yu_t1 : ∀ x, x < 20 → 16 ≤ x → ((nI (yu x) - 16) >>> ((1 : Int32) &&& 31)) = nI ((x - 16) / 2) := by decide +kernel
/-- the same, by the class -/
theorem hh_fits {t x : Nat} (h64 : T.length ≤ 64) (ht : yvt T.length t) (hx : yvw T.length x) (hA : ∀ i, i < T.length → u.2.2.1 5 i = nI (g i)) (hg : ∀ i, g i ≤ i) : (yfit g t x → fm_Types_fits (nI (yu t)) (nI (yu x)) u = some (1, u)) ∧ (¬ yfit g t x → fm_Types_fits (nI (yu t)) (nI (yu x)) u = some (0, u)) := by
  have hx1 := hx.1
  rw [yu_h hx1]
  have yut : yu t < 1000 := by
    unfold yu yv_h
    rcases ht with z | z
    · rw [if_pos z]; decide
    · have := z.1
      split <;> (try split) <;> omega
  have yux : yv_h x < 1000 := by unfold yv_h; split <;> omega
  have hyx : yv_h x = if x < 20 then x else x + 2 := rfl
  have hyt : (t = 816 ∧ yu t = 20) ∨ (t < 150 ∧ yu t = if t < 20 then t else t + 2) := by
    rcases ht with z | z
    · exact Or.inl ⟨z, if_pos z⟩
    · exact Or.inr ⟨z.1, if_neg (by have := z.1; omega)⟩
  have inj : nI (yu t) = nI (yv_h x) ↔ t = x := by
    refine (nI_eq (by omega) (by omega)).trans ?_
    rcases hyt with ⟨h1, h2⟩ | ⟨h1, h2⟩ <;> rw [h2, hyx]
    · split <;> omega
    · split <;> split <;> omega
  have e0 : nI (yu t) = (0 : Int32) ↔ t = 0 := by
    refine (nI_eq (b := 0) (by omega) (by decide)).trans ?_
    rcases hyt with ⟨h1, h2⟩ | ⟨h1, h2⟩ <;> rw [h2]
    · omega
    · split <;> omega
  unfold fm_Types_fits
  by_cases zx : t = x
  · rw [if_pos (inj.mpr zx)]
    exact ⟨fun _ => rfl, fun h => absurd (Or.inr (Or.inl zx)) h⟩
  rw [if_neg (fun z => zx (inj.mp z))]
  by_cases z0 : t = 0
  · rw [if_pos (e0.mpr z0)]
    exact ⟨fun _ => rfl, fun h => absurd (Or.inl z0) h⟩
  rw [if_neg (fun z => z0 (e0.mp z))]
  have l16 : nI (yu t) < (16 : Int32) ↔ t < 16 := by
    refine (nI_ltI (b := 16) (by omega) (by decide)).trans ?_
    rcases hyt with ⟨h1, h2⟩ | ⟨h1, h2⟩ <;> rw [h2]
    · omega
    · split <;> omega
  by_cases t16 : t < 16
  · rw [if_pos (l16.mpr t16)]
    exact ⟨fun h => by unfold yfit at h; omega, fun _ => rfl⟩
  rw [if_neg (fun z => t16 (l16.mp z))]
  by_cases x16 : x < 16
  · rw [if_pos ((yq_r x hx1).mpr x16)]
    exact ⟨fun h => by unfold yfit at h; omega, fun _ => rfl⟩
  rw [if_neg (fun z => x16 ((yq_r x hx1).mp z))]
  have ha : (nI (yu t) &&& 1) = nI (t % 2) := by
    rcases ht with z | z
    · subst z; rfl
    · rw [yu_h z.1]; exact yq_a t z.1
  rw [ha, yq_a x hx1]
  have hle : nI (t % 2) ≤ nI (x % 2) ↔ t % 2 ≤ x % 2 := nI_leI (by omega) (by omega)
  by_cases hm : t % 2 ≤ x % 2
  · rw [if_pos (hle.mpr hm)]
    simp only [xs_let]
    -- the targets
    obtain ⟨a, ha1, ha2⟩ : ∃ a : Nat, ((nI (yu t) - 16) >>> ((1 : Int32) &&& 31)) = nI a ∧ a = if t = 816 then 2 else if t < 20 then (t - 16) / 2 else (t - 20) / 2 + 3 := by
      rcases ht with z | z
      · subst z; exact ⟨2, rfl, rfl⟩
      · have := z.1
        rw [yu_h z.1]
        refine ⟨_, ?_, rfl⟩
        rw [if_neg (by omega)]
        by_cases z2 : t < 20
        · rw [if_pos z2]; exact yq_t1 t z2 (by omega)
        · rw [if_neg z2]; exact yq_t2 t z.1 (by omega)
    obtain ⟨b, hb1, hb2⟩ : ∃ b : Nat, ((nI (yv_h x) - 16) >>> ((1 : Int32) &&& 31)) = nI b ∧ b = if x < 20 then (x - 16) / 2 else (x - 20) / 2 + 3 := by
      refine ⟨_, ?_, rfl⟩
      by_cases z2 : x < 20
      · rw [if_pos z2]; exact yq_t1 x z2 (by omega)
      · rw [if_neg z2]; exact yq_t2 x hx1 (by omega)
    rw [ha1, hb1]
    have t8 : t ≤ 816 := by
      rcases ht with z | z
      · omega
      · have := z.1; omega
    have ab : a < 500 ∧ b < 500 := by
      refine ⟨?_, ?_⟩
      · rw [ha2]; split <;> (try split) <;> omega
      · rw [hb2]; split <;> omega
    have eab : nI a = nI b ↔ a = b := nI_eq (by omega) (by omega)
    have eb0 : nI b = (0 : Int32) ↔ b = 0 := nI_eq (b := 0) (by omega) (by decide)
    have ea2 : nI a = (2 : Int32) ↔ a = 2 := nI_eq (b := 2) (by omega) (by decide)
    have la3 : nI a < (3 : Int32) ↔ a < 3 := nI_ltI (b := 3) (by omega) (by decide)
    have lb3 : nI b < (3 : Int32) ↔ b < 3 := nI_ltI (b := 3) (by omega) (by decide)
    have key : yfit g t x ↔ a = b ∨ b = 0 ∨ a = 2 ∨ (3 ≤ a ∧ 3 ≤ b ∧ g (a - 3) = g (b - 3)) := by
      unfold yfit
      rcases ht with z | z
      · subst z
        rw [if_pos rfl] at ha2
        exact ⟨fun _ => Or.inr (Or.inr (Or.inl ha2)), fun _ => Or.inr (Or.inr ⟨by omega, by omega, hm, Or.inl rfl⟩)⟩
      · have t150 := z.1
        rw [if_neg (by omega)] at ha2
        by_cases t20 : t < 20
        · rw [if_pos t20] at ha2
          by_cases x20 : x < 20
          · rw [if_pos x20] at hb2; omega
          · rw [if_neg x20] at hb2; omega
        · rw [if_neg t20] at ha2
          by_cases x20 : x < 20
          · rw [if_pos x20] at hb2; omega
          · rw [if_neg x20] at hb2
            rw [show a - 3 = (t - 20) / 2 by omega, show b - 3 = (x - 20) / 2 by omega]
            omega
    rw [key]
    by_cases k1 : a = b
    · rw [if_pos (eab.mpr k1)]
      exact ⟨fun _ => rfl, fun h => absurd (Or.inl k1) h⟩
    rw [if_neg (fun z => k1 (eab.mp z))]
    by_cases k2 : b = 0
    · rw [if_pos (eb0.mpr k2)]
      exact ⟨fun _ => rfl, fun h => absurd (Or.inr (Or.inl k2)) h⟩
    rw [if_neg (fun z => k2 (eb0.mp z))]
    by_cases k3 : a = 2
    · rw [if_pos (ea2.mpr k3)]
      exact ⟨fun _ => rfl, fun h => absurd (Or.inr (Or.inr (Or.inl k3))) h⟩
    rw [if_neg (fun z => k3 (ea2.mp z))]
    by_cases k4 : a < 3
    · rw [if_pos (la3.mpr k4)]
      exact ⟨fun h => by omega, fun _ => rfl⟩
    rw [if_neg (fun z => k4 (la3.mp z))]
    by_cases k5 : b < 3
    · rw [if_pos (lb3.mpr k5)]
      exact ⟨fun h => by omega, fun _ => rfl⟩
    rw [if_neg (fun z => k5 (lb3.mp z))]
    have an : a - 3 < T.length := by
      rcases ht with z | z
      · subst z; rw [if_pos rfl] at ha2; omega
      · have t150 := z.1
        rw [if_neg (by omega)] at ha2
        by_cases t20 : t < 20
        · rw [if_pos t20] at ha2; omega
        · rw [if_neg t20] at ha2
          have := z.2
          omega
    have bn : b - 3 < T.length := by
      by_cases x20 : x < 20
      · rw [if_pos x20] at hb2; omega
      · rw [if_neg x20] at hb2
        have := hx.2
        omega
    have sa : nI a - 3 = nI (a - 3) := by
      have := nI_sub3 (a := a - 3)
      rw [show a - 3 + 3 = a by omega] at this
      exact this
    have sb : nI b - 3 = nI (b - 3) := by
      have := nI_sub3 (a := b - 3)
      rw [show b - 3 + 3 = b by omega] at this
      exact this
    rw [sa, sb, hh_ix (by omega), hh_ix (by omega), nI_clamp (by omega), nI_clamp (by omega), hA _ an, hA _ bn]
    have g1 := hg (a - 3)
    have g2 := hg (b - 3)
    have eg : nI (g (a - 3)) = nI (g (b - 3)) ↔ g (a - 3) = g (b - 3) := nI_eq (by omega) (by omega)
    by_cases k6 : g (a - 3) = g (b - 3)
    · rw [if_pos (eg.mpr k6)]
      exact ⟨fun _ => rfl, fun h => absurd (Or.inr (Or.inr (Or.inr ⟨by omega, by omega, k6⟩))) h⟩
    · rw [if_neg (fun z => k6 (eg.mp z))]
      exact ⟨fun h => by omega, fun _ => rfl⟩
  · rw [if_neg (fun z => hm (hle.mp z))]
    exact ⟨fun h => by unfold yfit at h; omega, fun _ => rfl⟩
end
