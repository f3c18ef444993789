section
variable {α β γ δ σ τ : Type} {B : Nat → Int32} {u v w z u0 u1 : xk_St} {lim p q : Nat} {T : List (Nat × List Nat × List Nat)} {F : List Nat} {G : List (Nat × Nat × Nat × Int64)} {L : List Nat} {n fu tc mc : Nat} {Q Q' Q1 : List sFr} {h : Nat → Nat}
/-- the instructions of a body, one behind the other, by the document -/
noncomputable def sq_run (T : List (Nat × List Nat × List Nat)) (F : List Nat) (tc mc : Nat) (G : List (Nat × Nat × Nat × Int64)) (L : List Nat) : Nat → List (Nat × sIn) → List sFr → Option (List sFr)
  | _, [], Q => some Q
  | e, x :: r, Q => (sq_step T F tc mc G L e x.1 x.2 Q).bind fun Q' => sq_run T F tc mc G L (e + 1) r Q'
def sbr (x : Int32) : Prop := x = 12 ∨ x = 13 ∨ x = 213 ∨ x = 214
/-- only entries from k to k', and their numbers, have changed -/
def sG (h : Nat → Nat) (k k' : Nat) (u v : xk_St) : Prop := yf_fr [19, 20, 21] [] [9, 10, 11, 33, 34, 35] [2] u v ∧ (∀ j, j < k ∨ k' ≤ j → v.2.2.1 9 j = u.2.2.1 9 j ∧ v.2.2.1 10 j = u.2.2.1 10 j ∧ v.2.2.2 2 j = u.2.2.2 2 j) ∧ (∀ j, ¬ sbr (u.2.2.1 7 j) → v.2.2.1 9 j = u.2.2.1 9 j) ∧ ∀ i, i < h k ∨ h k' ≤ i → v.2.2.1 11 i = u.2.2.1 11 i
theorem sG_r {k k' : Nat} : sG h k k' u u := ⟨yf_refl, fun _ _ => ⟨rfl, rfl, rfl⟩, fun _ _ => rfl, fun _ _ => rfl⟩
theorem sG_t {k k' k2 : Nat} (hm : ∀ i j, i ≤ j → h i ≤ h j) (h1 : k ≤ k') (h2 : k' ≤ k2) (a : sG h k k' u v) (b : sG h k' k2 v w) : sG h k k2 u w := by
  have e7 : v.2.2.1 7 = u.2.2.1 7 := a.1.2.2.1 7 (by decide)
  refine ⟨yf_trans a.1 b.1, fun j hj => ?_, fun j hj => ?_, fun i hi => ?_⟩
  · obtain ⟨a1, a2, a3⟩ := a.2.1 j (by omega)
    obtain ⟨b1, b2, b3⟩ := b.2.1 j (by omega)
    exact ⟨b1.trans a1, b2.trans a2, b3.trans a3⟩
  · exact (b.2.2.1 j (by rw [e7]; exact hj)).trans (a.2.2.1 j hj)
  · have m1 := hm k k' h1
    have m2 := hm k' k2 h2
    exact (b.2.2.2 i (by omega)).trans (a.2.2.2 i (by omega))
/-- what an instruction's entry has for the run -/
def sRF (T : List (Nat × List Nat × List Nat)) (i : sIn) (k : Nat) (Q Q' : List sFr) (v : xk_St) : Prop := (i.1 = 12 ∨ i.1 = 13 ∨ i.1 = 213 ∨ i.1 = 214 → ∃ f, Q[yx_n i.2.1]? = some f ∧ v.2.2.1 9 k = nI f.1.1) ∧ (i.1 = 14 → ∃ s, v.2.2.1 8 k = nI s ∧ s + i.2.2.2.2.length < 8192 ∧ v.2.2.2 2 k = lN i.2.2.2.2.length ∧ ∀ (j : Nat) c, (i.2.2.2.2 ++ [yx_n i.2.1])[j]? = some c → ∃ f, Q[c]? = some f ∧ v.2.2.1 11 (s + j) = nI f.1.1) ∧ (i.1 = 2 ∨ i.1 = 3 ∨ i.1 = 4 → ∀ f r, Q' = f :: r → v.2.2.1 10 k = nI (sq_h r) ∧ v.2.2.2 2 k = lN (sb_lab T f).length) ∧ (¬ (i.1 = 2 ∨ i.1 = 3 ∨ i.1 = 4) → v.2.2.2 2 k = ye_2 (xt_S i.1) i.2)
/-- where the numbers of the entries lie, as they were read -/
def sWh (h : Nat → Nat) (u : xk_St) : Prop := (∀ i j, i ≤ j → h i ≤ h j) ∧ ∃ sz, u.1 8 = nI sz ∧ sz ≤ 8192 ∧ ∀ k, k < sz → u.2.2.1 7 k = 14 → ∃ s c, u.2.2.1 8 k = nI s ∧ u.2.2.2 2 k = lN c ∧ h k ≤ s ∧ s + c + 1 ≤ h (k + 1) ∧ s + c < 8192
theorem yW_h {N0 : Nat} (hw : yW N0 u) : ∃ h, sWh h u ∧ N0 ≤ h 0 := by
  obtain ⟨sz, ns, h, a1, a2, a3, a4, a5, a6, a7, a8⟩ := hw
  refine ⟨h, ⟨a6, sz, a1, a3, fun k hk h14 => ?_⟩, a5⟩
  obtain ⟨s, c, c1, c2, c3, c4⟩ := a8 k hk h14
  have := a6 (k + 1) sz (by omega)
  exact ⟨s, c, c1, c2, c3, c4, by omega⟩
/-- an entry that waits for its check is as it was read -/
theorem sG_ent {k k0 : Nat} {i : sIn} {ol : List (Nat × Option Nat)} (hw : sWh h u) (hg : sG h k0 k u v) (hol : sOl u ol Q) (hQ : ¬ Q = []) (hi : yg_ins i) (hm : ∃ m, u.1 8 = nI m ∧ k < m ∧ m ≤ 8192) (hent : yk_ent u ol k i) : yk_ent v ol k i := by
  obtain ⟨a1, a2, ⟨ns, m, a3, a4, a5, a6⟩, a7, a8⟩ := hent
  obtain ⟨b1, b2, b3⟩ := hg.2.1 k (Or.inr (Nat.le_refl _))
  have e7 : v.2.2.1 7 = u.2.2.1 7 := hg.1.2.2.1 7 (by decide)
  have e8 : v.2.2.1 8 = u.2.2.1 8 := hg.1.2.2.1 8 (by decide)
  have e9 : v.1 9 = u.1 9 := hg.1.1 9 (by decide)
  have h9 : ∀ x r, ol = x :: r → v.2.2.1 9 (yo_i x) = u.2.2.1 9 (yo_i x) ∧ v.2.2.1 9 x.1 = u.2.2.1 9 x.1 := fun x r hx => by
    subst hx
    cases Q with
    | nil => exact absurd rfl hQ
    | cons f q =>
      obtain ⟨h1, h2, h3, h4, h5, h6⟩ := hol
      have hop : ∀ o, o ∈ [0, 2, 3, 4, 5] → ¬ (nI (sh_op o) = 12 ∨ nI (sh_op o) = 13 ∨ nI (sh_op o) = 213 ∨ nI (sh_op o) = 214) := by decide +kernel
      have c1 : v.2.2.1 9 x.1 = u.2.2.1 9 x.1 := hg.2.2.1 _ (by rw [h1, h4]; exact hop _ h5)
      refine ⟨?_, c1⟩
      cases hx2 : x.2 with
      | none => rw [show yo_i x = x.1 by unfold yo_i; rw [hx2]; rfl]; exact c1
      | some e =>
        rw [hx2] at h2
        rw [show yo_i x = e by unfold yo_i; rw [hx2]; rfl]
        refine hg.2.2.1 _ (by rw [h2.2.2.2]; unfold sbr; decide)
  refine ⟨by rw [e7]; exact a1, by rw [b3]; exact a2, ⟨ns, m, by rw [e8]; exact a3, by rw [e9]; exact a4, a5, fun h14 => ?_⟩, fun h11 x r hx => by rw [(h9 x r hx).1]; exact a7 h11 x r hx, fun h5 x r hx => by rw [(h9 x r hx).2]; exact a8 h5 x r hx⟩
  obtain ⟨c1, c2⟩ := a6 h14
  refine ⟨c1, fun j c hc => ?_⟩
  obtain ⟨m', d1, d2, d3⟩ := hm
  obtain ⟨sz, w1, w2, w3⟩ := hw.2
  have hsz : sz = m' := (nI_eq (by omega) (by omega)).mp (w1.symm.trans d1)
  have h7 : u.2.2.1 7 k = 14 := by rw [a1, h14]; rfl
  obtain ⟨s, c', q1, q2, q3, q4, q5⟩ := w3 k (by omega) h7
  have hs : s = ns := by
    rw [h14, show xt_S 14 = 114 from rfl, ye1_114] at a3
    exact (nI_eq (by omega) (by omega)).mp (q1.symm.trans a3)
  rw [hg.2.2.2 (ns + j) (Or.inr (by omega))]
  exact c2 j c hc
/-- a step of the check, for the entries -/
theorem sG_step {k : Nat} {i : sIn} {ol : List (Nat × Option Nat)} (hw : sWh h u) (e7 : v.2.2.1 7 = u.2.2.1 7) (e8 : v.2.2.1 8 = u.2.2.1 8) (hm : ∃ m, u.1 8 = nI m ∧ k < m ∧ m ≤ 8192) (hent : yk_ent v ol k i) (hi : yg_ins i) (hb2 : v.2.2.2 2 k = u.2.2.2 2 k) (hp : sPo i k Q v w) (hH : sH T Q' w) (hs : i.1 = 2 ∨ i.1 = 3 ∨ i.1 = 4 → ∀ f r, Q' = f :: r → f.1.1 = k) : sG h k (k + 1) v w ∧ sRF T i k Q Q' w := by
  obtain ⟨a1, a2, ⟨ns, m, a3, a4, a5, a6⟩, a7, a8⟩ := hent
  obtain ⟨p1, p2, p3, p4, p5, p6, p7⟩ := hp
  have f7 : w.2.2.1 7 = v.2.2.1 7 := p1.2.2.1 7 (by decide)
  have f8 : w.2.2.1 8 = v.2.2.1 8 := p1.2.2.1 8 (by decide)
  obtain ⟨m', d1, d2, d3⟩ := hm
  obtain ⟨sz, w1, w2, w3⟩ := hw.2
  have hsz : sz = m' := (nI_eq (by omega) (by omega)).mp (w1.symm.trans d1)
  have h14 : i.1 = 14 → ∃ s, v.2.2.1 8 k = nI s ∧ h k ≤ s ∧ s + i.2.2.2.2.length + 1 ≤ h (k + 1) ∧ s + i.2.2.2.2.length < 8192 := fun z => by
    have h7 : u.2.2.1 7 k = 14 := by rw [← e7, a1, z]; rfl
    obtain ⟨s, c', q1, q2, q3, q4, q5⟩ := w3 k (by omega) h7
    have hc : c' = i.2.2.2.2.length := by
      rw [z, show xt_S 14 = 114 from rfl, ye2_114, hb2, q2] at a2
      have hl : i.2.2.2.2.length ≤ 8192 := by have := (a6 z).1; omega
      exact (pk_lEQ (by omega) (by omega)).mp a2
    rw [hc] at q4 q5
    exact ⟨s, by rw [e8]; exact q1, q3, q4, q5⟩
  refine ⟨⟨p1, fun j hj => p2 j (by omega), fun j hj => ?_, fun x hx => ?_⟩, ⟨p5, fun z => ?_, fun z f r hQ => ?_, fun z => ?_⟩⟩
  · by_cases zj : j = k
    · subst zj
      by_cases zb : i.1 = 12 ∨ i.1 = 13 ∨ i.1 = 213 ∨ i.1 = 214
      · refine absurd ?_ hj
        rw [a1, if_neg (by omega)]
        rcases zb with y | y | y | y <;> rw [y]
        · exact Or.inl rfl
        · exact Or.inr (Or.inl rfl)
        · exact Or.inr (Or.inr (Or.inl rfl))
        · exact Or.inr (Or.inr (Or.inr rfl))
      · rw [p4 zb]
    · exact (p2 j zj).1
  · by_cases z : i.1 = 14
    · obtain ⟨s, s1, s2, s3, s4⟩ := h14 z
      exact (p7 z s s1 (by omega)).2 x (by omega)
    · rw [p3 z]
  · obtain ⟨s, s1, s2, s3, s4⟩ := h14 z
    refine ⟨s, by rw [f8]; exact s1, s4, ?_, (p7 z s s1 (by omega)).1⟩
    rw [(p6 (by omega)).2, a2, z]
    exact ye2_114
  · subst hQ
    have hk := hs z f r rfl
    obtain ⟨-, -, -, -, -, -, ⟨hA, -⟩, -⟩ := hH
    obtain ⟨-, -, q3, q4, -⟩ := hA
    rw [hk] at q3 q4
    exact ⟨q3, q4⟩
  · rw [(p6 z).2]; exact a2
end
