section
variable {α β γ δ σ τ : Type} {B : Nat → Int32} {u v w x u0 : xk_St} {T : List (Nat × List Nat × List Nat)} {F : List Nat} {G : List (Nat × Nat × Nat × Int64)} {L : List Nat} {n fu tc mc lim p q len f D k : Nat} {Q Q' Q1 : List sFr} {h z : Nat → Nat} {l10 : List sBo} {a : sBo}
/-- the state before instruction j of a body whose entries begin at sz -/
def sSt (T : List (Nat × List Nat × List Nat)) (F : List Nat) (tc mc : Nat) (G : List (Nat × Nat × Nat × Int64)) (L : List Nat) (sz t : Nat) (a : sBo) (j : Nat) (Q : List sFr) : Prop := sq_run T F tc mc G L (sz + 1 + a.2.1.length) (a.2.2.take j) (sq_0 sz t) = some Q
abbrev sEn' (sz : Nat) (a : sBo) (j : Nat) : Nat := sz + 1 + a.2.1.length + j
/-- an instruction's entry, as the class runs it -/
def hIn (T : List (Nat × List Nat × List Nat)) (k : Nat) (i : sIn) (Q Qn : List sFr) (w : xk_St) : Prop := w.2.2.1 7 k = nI (if i.1 = 11 then (if Q.tail = [] then 7 else 11) else i.1) ∧ (∃ ns, w.2.2.1 8 k = ye_1 (xt_S i.1) i.2 ns) ∧ (∀ (d : Nat) f0, Q[d]? = some f0 → w.2.2.1 7 f0.1.1 = nI (sh_op f0.2.1) ∧ f0.2.1 ∈ [0, 2, 3, 4, 5] ∧ (f0.2.1 = 0 ↔ d + 1 = Q.length)) ∧ (i.1 = 11 → ∀ f0 r, Q = f0 :: r → (f0.2.1 = 5 → ∃ e5, e5 < 8192 ∧ w.2.2.1 9 f0.1.1 = nI e5 ∧ w.2.2.1 7 e5 = 5 ∧ w.2.2.1 9 e5 = nI k) ∧ (¬ f0.2.1 = 5 → w.2.2.1 9 f0.1.1 = nI k)) ∧ (i.1 = 5 → ∀ f0 r, Q = f0 :: r → w.2.2.1 9 f0.1.1 = nI k) ∧ sRF T i k Q Qn w
/-- body f as the class runs it -/
def hCo (T : List (Nat × List Nat × List Nat)) (F : List Nat) (tc mc : Nat) (G : List (Nat × Nat × Nat × Int64)) (sz f t : Nat) (c : Nat × List Nat × List Nat) (L : List Nat) (a : sBo) (w : xk_St) : Prop :=
  F[f]? = some t ∧ T[t]? = some c ∧ c.1 = 96 ∧ sq_body T F tc mc G sz t c a = some L ∧ w.2.2.1 13 f = nI sz ∧ sEnd sz a ≤ 8192 ∧ w.2.2.1 7 sz = 6 ∧ (∀ (i : Nat) x, a.2.1[i]? = some x → w.2.2.1 7 (sz + 1 + i) = 8 ∧ w.2.2.1 8 (sz + 1 + i) = nI (yn_c x.1) ∧ 0 < x.2) ∧ w.2.2.1 14 f = nI L.length ∧ (L.length ≤ 200 ∧ ∀ (i : Nat) d, L[i]? = some d → yvw T.length d ∧ yvs T.length d) ∧ ∀ (j : Nat) x Q Qn, a.2.2[j]? = some x → sSt T F tc mc G L sz t a j Q → sq_step T F tc mc G L (sEn' sz a j) x.1 x.2 Q = some Qn → hIn T (sEn' sz a j) x.2 Q Qn w
theorem sOl_all : ∀ {ol : List (Nat × Option Nat)} {Q : List sFr}, sOl u ol Q → ∀ (d : Nat) f0, Q[d]? = some f0 → u.2.2.1 7 f0.1.1 = nI (sh_op f0.2.1) ∧ f0.2.1 ∈ [0, 2, 3, 4, 5] ∧ (f0.2.1 = 0 ↔ d + 1 = Q.length) := by
  intro ol
  induction ol with
  | nil =>
    intro Q h d f0 hd
    cases Q with
    | nil => simp at hd
    | cons f q => exact absurd h id
  | cons x r ih =>
    intro Q h d f0 hd
    cases Q with
    | nil => simp at hd
    | cons f q =>
      obtain ⟨h1, h2, h3, h4, h5, h6⟩ := h
      have lc : (f :: q).length = q.length + 1 := List.length_cons
      cases d with
      | zero =>
        cases hd
        refine ⟨h4, h5, ?_⟩
        rw [← h3, lc, ← List.length_eq_zero_iff]
        omega
      | succ d =>
        obtain ⟨a, b, c⟩ := ih h6 d f0 hd
        refine ⟨a, b, c.trans ?_⟩
        rw [lc]; omega
theorem sh_br : ∀ o, o ∈ [0, 2, 3, 4, 5] → ¬ sbr (nI (sh_op o)) := by
  intro o ho
  unfold sbr
  have : ∀ o, o ∈ [0, 2, 3, 4, 5] → ¬ (nI (sh_op o) = 12 ∨ nI (sh_op o) = 13 ∨ nI (sh_op o) = 213 ∨ nI (sh_op o) = 214) := by decide +kernel
  exact this o ho
theorem hs_code (hR : ∀ (k : Nat) a, l10[k]? = some a → sRd D B u k (z k) a) (hz : ∀ i j, i < j → j < l10.length → z i < z j) (hv : sIv T F tc mc G z h l10 u l10.length w) (ha : l10[f]? = some a) : ∃ t c L, hCo T F tc mc G (z f) f t c L a w := by
  have hfl := yl_lt ha
  obtain ⟨i1, i2, i3, i4, i5, i6, i7⟩ := hv
  obtain ⟨r1, r2, r3, r4, ⟨m, r5, r6, r7⟩, ⟨p2, q, lim, r8⟩, r9⟩ := id (hR f a ha)
  obtain ⟨t, c, L, g1, g2, g3, g4, g5, g6, g7, g8, g9, g10⟩ := i7 f a hfl ha
  have w7 : w.2.2.1 7 = u.2.2.1 7 := i1.2.2.1 7 (by decide)
  have h6 : ∀ k, k < l10.length → u.2.2.1 7 (z k) = 6 := fun k hk => by
    obtain ⟨b, hb⟩ := yl_get (l := l10) hk
    exact (hR k b hb).2.1
  have w8 : ∀ j, ¬ u.2.2.1 7 j = 6 → w.2.2.1 8 j = u.2.2.1 8 j := fun j hj => i2 j fun k hk y => hj (by rw [y]; exact h6 k hk)
  refine ⟨t, c, L, g1, g2, g3, g4, by rw [i1.2.2.1 13 (by decide)]; exact r1, by show z f + 1 + a.2.1.length + a.2.2.length ≤ 8192; omega, by rw [w7]; exact r2, fun i x hx => ?_, g5, g9, fun j x Q Qn hx hQ hs => ?_⟩
  · obtain ⟨s1, s2, s3⟩ := r3 i x hx
    rw [w7, w8 _ (by rw [s1]; decide)]
    exact ⟨s1, s2, (r9 i x hx).1⟩
  · have hst : yo_st (u.2.2.1 7) [(z f, none)] = [false] := by
      show [(true && decide (u.2.2.1 7 (z f) = 4))] = [false]
      rw [r2]; rfl
    have hol0 : sOl u [(z f, none)] (sq_0 (z f) t) := by
      refine ⟨rfl, by show ¬ (0 : Nat) = 5; decide, ⟨fun _ => rfl, fun _ => rfl⟩, ?_, by show (0 : Nat) ∈ [0, 2, 3, 4, 5]; decide, trivial⟩
      show u.2.2.1 7 (z f) = nI (sh_op 0)
      rw [r2]; rfl
    have hc := r8
    rw [← hst] at hc
    obtain ⟨olj, o1, o2⟩ := sOl_run (T := T) (F := F) (tc := tc) (mc := mc) (G := G) (L := L) hol0 r4 hc (by omega) j x Q hx hQ
    have hgi := yp_codeG r8 j x hx
    have hop := yk_op hgi o2
    obtain ⟨a1, a2, ⟨ns, m', a3, a4, a5, a6⟩, a7, a8⟩ := id o2
    have hlen : olj.tail = [] ↔ Q.tail = [] := by
      have := sOl_len o1
      rw [← List.length_eq_zero_iff, ← List.length_eq_zero_iff, List.length_tail, List.length_tail, this]
    refine ⟨?_, ⟨ns, by rw [w8 _ hop.1]; exact a3⟩, fun d f0 hd => ?_, fun h11 f0 r hq => ?_, fun h5 f0 r hq => ?_, g10 j x Q Qn hx hQ hs⟩
    · rw [w7, a1]
      congr 1
      by_cases z11 : x.2.1 = 11
      · rw [if_pos z11, if_pos z11]
        by_cases zt : Q.tail = []
        · rw [if_pos (hlen.mpr zt), if_pos zt]
        · rw [if_neg (fun y => zt (hlen.mp y)), if_neg zt]
      · rw [if_neg z11, if_neg z11]
    · rw [w7]
      exact sOl_all o1 d f0 hd
    · subst hq
      cases olj with
      | nil => exact absurd o1 id
      | cons y ro =>
        obtain ⟨h1, h2, h3, h4, h5, h6'⟩ := o1
        have e9 : w.2.2.1 9 f0.1.1 = u.2.2.1 9 f0.1.1 := i3 _ (by rw [h4]; exact sh_br _ h5)
        have hk := a7 h11 y ro rfl
        refine ⟨fun hf5 => ?_, fun hf5 => ?_⟩
        · cases hy : y.2 with
          | none => rw [hy] at h2; exact absurd hf5 h2
          | some e5 =>
            rw [hy] at h2
            obtain ⟨-, b2, b3, b4⟩ := h2
            have hyo : yo_i y = e5 := by unfold yo_i; rw [hy]; rfl
            refine ⟨e5, b3, by rw [e9, ← h1]; exact b2, by rw [w7]; exact b4, ?_⟩
            rw [i3 e5 (by rw [b4]; unfold sbr; decide), ← hyo]
            exact hk
        · cases hy : y.2 with
          | none =>
            have hyo : yo_i y = y.1 := by unfold yo_i; rw [hy]; rfl
            rw [e9, ← h1, ← hyo]
            exact hk
          | some e5 => rw [hy] at h2; exact absurd h2.1 hf5
    · subst hq
      cases olj with
      | nil => exact absurd o1 id
      | cons y ro =>
        obtain ⟨h1, h2, h3, h4, h5', h6'⟩ := o1
        rw [i3 _ (by rw [h4]; exact sh_br _ h5'), ← h1]
        exact a8 h5 y ro rfl
end
