section
variable {α β γ δ σ τ : Type} {u v w : xk_St} {g : Nat → Nat} {T : List (Nat × List Nat × List Nat)} {n fu : Nat} {Q Q' : List sFr}
theorem sb_lt {x : Int64} (h0 : 0 ≤ x) (h : sb_n x < 64) : ¬ (64 : Int64) < x := by
  intro z
  have h1 : (64 : Int) < x.toInt := Int64.lt_iff_toInt_lt.mp z
  unfold sb_n at h
  omega
/-- a function's type among the types -/
theorem sb_fn {x : Int64} (hg : ∀ (k : Nat) c, T[k]? = some c → yg_ty c) (hV : yV1 T) (h : 0 ≤ x ∧ yv_fn T (sb_n x)) : ∃ c, T[sb_n x]? = some c ∧ c.1 = 96 ∧ sb_n x < 64 ∧ c.2.1.length ≤ 16 ∧ c.2.2.length ≤ 16 ∧ yb_h (.inr x) = 1024 + sb_n x ∧ (∀ (i : Nat) d, c.2.1[i]? = some d → yvw T.length d ∧ yvs T.length d ∧ 0 < d) ∧ (∀ (i : Nat) d, c.2.2[i]? = some d → yvw T.length d ∧ yvs T.length d ∧ 0 < d) := by
  obtain ⟨h0, c, hc, h96⟩ := h
  have hl := yl_lt hc
  have h64 := hV.1
  obtain ⟨v1, v2, v3, v4⟩ := hV.2 _ c hc
  obtain ⟨g1, g2, g3, -⟩ := hg _ c hc
  have key : ∀ d, 0 < d → d ≤ 149 → (d = 1 ∨ d = 2 ∨ 16 ≤ d) → yv_in T (sb_n x + 1) d → yvw T.length d ∧ yvs T.length d ∧ 0 < d := fun d d0 d1 d2 d3 => by
    have hw : yvw T.length d := ⟨by omega, d3.imp id fun z => by have := z.1; omega⟩
    refine ⟨hw, ?_, d0⟩
    rcases d2 with z | z | z
    · exact Or.inr (Or.inl (by omega))
    · exact Or.inr (Or.inl (by omega))
    · exact Or.inr (Or.inr ⟨z, hw⟩)
  refine ⟨c, hc, h96, by omega, v1, v2 h96, ?_, fun i d hd => ?_, fun i d hd => ?_⟩
  · show 1024 + yc_64 x = _
    unfold yc_64
    rw [if_neg (sb_lt h0 (by omega))]; rfl
  · obtain ⟨a1, a2, a3⟩ := g2 i d hd
    refine key d a1 a2 ?_ (v3 i d hd)
    omega
  · obtain ⟨a1, a2, a3⟩ := g3 h96 i d hd
    exact key d a1 a2 a3 (v4 h96 i d hd)
theorem yCe_g (he : yCe T u) (k : Nat) (c : Nat × List Nat × List Nat) (hc : T[k]? = some c) : yg_ty c := (he.1.2.2 k c hc).2
theorem sb_parV {t : Option Nat ⊕ Int64} (hg : ∀ (k : Nat) c, T[k]? = some c → yg_ty c) (hV : yV1 T) (h : sb_ok T t) : (sb_par T t).length ≤ 16 ∧ ∀ (i : Nat) d, (sb_par T t)[i]? = some d → yvw T.length d ∧ yvs T.length d ∧ 0 < d := by
  cases t with
  | inl o => exact ⟨Nat.zero_le _, fun i d hd => by simp [sb_par] at hd⟩
  | inr x =>
    obtain ⟨c, hc, -, -, l1, l2, -, k1, k2⟩ := sb_fn hg hV h
    have e : sb_par T (.inr x) = c.2.1 := by
      show (match T[sb_n x]? with
        | none => []
        | some c => c.2.1) = _
      rw [hc]
    rw [e]; exact ⟨l1, k1⟩
theorem yv_inS {c : Nat} (h0 : 0 < c) (hb : c < 150) (h3 : c = 1 ∨ c = 2 ∨ 16 ≤ c) (h : yv_in T T.length c) : yvw T.length c ∧ yvs T.length c ∧ 0 < c := by
  have hw := yv_inw hb h
  refine ⟨hw, ?_, h0⟩
  rcases h3 with z | z | z
  · exact Or.inr (Or.inl (by omega))
  · exact Or.inr (Or.inl (by omega))
  · exact Or.inr (Or.inr ⟨z, hw⟩)
theorem sb_resV {t : Option Nat ⊕ Int64} (hg : ∀ (k : Nat) c, T[k]? = some c → yg_ty c) (hV : yV1 T) (h : sb_ok T t) (hr : sb_rd t) : (sb_res T t).length ≤ 16 ∧ ∀ (i : Nat) d, (sb_res T t)[i]? = some d → yvw T.length d ∧ yvs T.length d ∧ 0 < d := by
  cases t with
  | inl o =>
    cases o with
    | none => exact ⟨Nat.zero_le _, fun i d hd => by simp [sb_res] at hd⟩
    | some c =>
      refine ⟨by show [c].length ≤ 16; simp, fun i d hd => ?_⟩
      have hd : [c][i]? = some d := hd
      cases i with
      | zero => cases hd; exact yv_inS hr.1 hr.2.1 hr.2.2 h
      | succ i => simp at hd
  | inr x =>
    obtain ⟨c, hc, -, -, l1, l2, -, k1, k2⟩ := sb_fn hg hV h
    have e : sb_res T (.inr x) = c.2.2 := by
      show (match T[sb_n x]? with
        | none => []
        | some c => c.2.2) = _
      rw [hc]
    rw [e]; exact ⟨l2, k2⟩
theorem ix8192 {k : Nat} {o : Option (α × xk_St)} (hk : k < 8192) : (if nI k < 0 ∨ 8192 ≤ (nI k).toNatClampNeg then none else o) = o := if_neg (nI_in (N := 8192) hk (by decide))
/-- the class's block e has type t -/
def sBt (T : List (Nat × List Nat × List Nat)) (e : Nat) (t : Option Nat ⊕ Int64) (u : xk_St) : Prop := u.2.2.1 8 e = nI (yb_h t) ∧ e < 8192 ∧ sb_ok T t ∧ sb_rd t
theorem yb_lh {t : Option Nat} (h : sb_rd (.inl t)) : yb_h (.inl t) < 1024 ∧ (yb_h (.inl t) = 0 ↔ t = none) := by
  cases t with
  | none => exact ⟨by decide, fun _ => rfl, fun _ => rfl⟩
  | some c =>
    have h1 := h.1
    have h2 := h.2.1
    have e : yb_h (.inl (some c)) = yv_h c := rfl
    rw [e]
    unfold yv_h
    refine ⟨by split <;> omega, fun z => ?_, fun z => by cases z⟩
    split at z <;> omega
theorem nI_1024 {a : Nat} : nI (1024 + a) - 1024 = nI a := by
  rw [Nat.add_comm]; exact nI_subb (b := 1024)
theorem hb_pc {e : Nat} {t : Option Nat ⊕ Int64} (he : yCe T u) (hb : sBt T e t u) : fm_Checker_parameterCount (nI e) u = some (nI (sb_par T t).length, u) := by
  obtain ⟨b1, b2, b3, b4⟩ := hb
  unfold fm_Checker_parameterCount
  rw [ix8192 b2, nI_clamp (by omega), b1]
  simp only [xs_let]
  cases t with
  | inl o =>
    have := yb_lh b4
    rw [if_neg (show ¬ (1024 : Int32) ≤ nI (yb_h (.inl o)) from nI_ge (b := 1024) this.1 (by decide))]
    rfl
  | inr x =>
    obtain ⟨c, hc, h96, h64, l1, l2, hy, -, -⟩ := sb_fn (yCe_g he) he.2.1 b3
    have e0 : sb_par T (.inr x) = c.2.1 := by
      show (match T[sb_n x]? with
        | none => []
        | some c => c.2.1) = _
      rw [hc]
    rw [hy, if_pos (show (1024 : Int32) ≤ nI (1024 + sb_n x) from nI_le (a := 1024) (by omega) (by omega)), nI_1024, hh_ix (by omega), nI_clamp (by omega), (he.1.2.2 _ c hc).1.2.1, yn_cs (by omega), e0]
theorem hb_rc {e : Nat} {t : Option Nat ⊕ Int64} (he : yCe T u) (hb : sBt T e t u) : fm_Checker_resultCount (nI e) u = some (nI (sb_res T t).length, u) := by
  obtain ⟨b1, b2, b3, b4⟩ := hb
  unfold fm_Checker_resultCount
  rw [ix8192 b2, nI_clamp (by omega), b1]
  simp only [xs_let]
  cases t with
  | inl o =>
    have := yb_lh b4
    have hz : nI (yb_h (.inl o)) = (0 : Int32) ↔ o = none := (nI_eq (b := 0) (by omega) (by decide)).trans this.2
    rw [if_neg (show ¬ (1024 : Int32) ≤ nI (yb_h (.inl o)) from nI_ge (b := 1024) this.1 (by decide))]
    cases o with
    | none => rw [if_pos (hz.mpr rfl)]; rfl
    | some c => rw [if_neg (fun z => by have := hz.mp z; cases this)]; rfl
  | inr x =>
    obtain ⟨c, hc, h96, h64, l1, l2, hy, -, -⟩ := sb_fn (yCe_g he) he.2.1 b3
    have e0 : sb_res T (.inr x) = c.2.2 := by
      show (match T[sb_n x]? with
        | none => []
        | some c => c.2.2) = _
      rw [hc]
    rw [hy, if_pos (show (1024 : Int32) ≤ nI (1024 + sb_n x) from nI_le (a := 1024) (by omega) (by omega)), nI_1024, hh_ix (by omega), nI_clamp (by omega), (he.1.2.2 _ c hc).1.2.2.1, if_pos h96, yn_cs (by omega), e0]
theorem hb_par {e k d : Nat} {t : Option Nat ⊕ Int64} (he : yCe T u) (hb : sBt T e t u) (hk : (sb_par T t)[k]? = some d) : fm_Checker_parameterOf (nI e) (nI k) u = some (nI (yu d), u) := by
  obtain ⟨b1, b2, b3, b4⟩ := hb
  unfold fm_Checker_parameterOf
  rw [ix8192 b2, nI_clamp (by omega), b1]
  cases t with
  | inl o => simp [sb_par] at hk
  | inr x =>
    obtain ⟨c, hc, h96, h64, l1, l2, hy, k1, -⟩ := sb_fn (yCe_g he) he.2.1 b3
    have e0 : sb_par T (.inr x) = c.2.1 := by
      show (match T[sb_n x]? with
        | none => []
        | some c => c.2.1) = _
      rw [hc]
    rw [e0] at hk
    have hkl := yl_lt hk
    have hd := (k1 k d hk).1.1
    rw [hy, nI_1024, hh_member (by omega) (by omega) (he.1.2.2 _ c hc).1 hk, ys_seq, yu_h hd]
theorem hb_res {e k d : Nat} {t : Option Nat ⊕ Int64} (he : yCe T u) (hb : sBt T e t u) (hk : (sb_res T t)[k]? = some d) : fm_Checker_resultOf (nI e) (nI k) u = some (nI (yu d), u) := by
  obtain ⟨b1, b2, b3, b4⟩ := hb
  unfold fm_Checker_resultOf
  rw [ix8192 b2, nI_clamp (by omega), b1]
  simp only [xs_let]
  cases t with
  | inl o =>
    have := yb_lh b4
    rw [if_neg (show ¬ (1024 : Int32) ≤ nI (yb_h (.inl o)) from nI_ge (b := 1024) this.1 (by decide))]
    cases o with
    | none => simp [sb_res] at hk
    | some c =>
      have hk : [c][k]? = some d := hk
      cases k with
      | zero => cases hk; rw [yu_h b4.2.1]; rfl
      | succ k => simp at hk
  | inr x =>
    obtain ⟨c, hc, h96, h64, l1, l2, hy, -, k2⟩ := sb_fn (yCe_g he) he.2.1 b3
    have e0 : sb_res T (.inr x) = c.2.2 := by
      show (match T[sb_n x]? with
        | none => []
        | some c => c.2.2) = _
      rw [hc]
    rw [e0] at hk
    have hkl := yl_lt hk
    have hd := (k2 k d hk).1.1
    rw [hy, if_pos (show (1024 : Int32) ≤ nI (1024 + sb_n x) from nI_le (a := 1024) (by omega) (by omega)), nI_1024, hh_outcome (by omega) (by omega) (he.1.2.2 _ c hc).1 hk, ys_seq, yu_h hd]
theorem hb_way {k d : Nat} {f : sFr} (he : yCe T u) (hb : sBt T f.1.1 f.2.2.1 u) (h7 : u.2.2.1 7 f.1.1 = nI (sh_op f.2.1)) (ho : f.2.1 < 10) (hk : (sb_lab T f)[k]? = some d) : fm_Checker_wayType (nI f.1.1) (nI k) u = some (nI (yu d), u) := by
  have hb' := hb
  obtain ⟨b1, b2, b3, b4⟩ := hb
  have h3 : nI (sh_op f.2.1) = (3 : Int32) ↔ f.2.1 = 3 := by
    refine (nI_eq (b := 3) (by unfold sh_op; split <;> (try split) <;> omega) (by decide)).trans ?_
    unfold sh_op; split <;> (try split) <;> omega
  unfold fm_Checker_wayType
  simp only [xs_let]
  rw [ix8192 b2, ix8192 b2, nI_clamp (by omega), h7, b1]
  cases ht : f.2.2.1 with
  | inl o =>
    rw [ht] at b4 hb'
    have := yb_lh b4
    rw [if_neg (show ¬ (1024 : Int32) ≤ nI (yb_h (.inl o)) from nI_ge (b := 1024) this.1 (by decide))]
    unfold sb_lab at hk
    rw [ht] at hk
    by_cases z : f.2.1 = 3
    · rw [if_pos z] at hk; simp [sb_par] at hk
    · rw [if_neg z] at hk
      cases o with
      | none => simp [sb_res] at hk
      | some c =>
        have hk : [c][k]? = some d := hk
        cases k with
        | zero => cases hk; rw [yu_h b4.2.1]; rfl
        | succ k => simp at hk
  | inr x =>
    rw [ht] at b3
    obtain ⟨c, hc, h96, h64, l1, l2, hy, k1, k2⟩ := sb_fn (yCe_g he) he.2.1 b3
    rw [hy, if_pos (show (1024 : Int32) ≤ nI (1024 + sb_n x) from nI_le (a := 1024) (by omega) (by omega)), nI_1024]
    unfold sb_lab at hk
    rw [ht] at hk
    have e0 : sb_par T (.inr x) = c.2.1 := by
      show (match T[sb_n x]? with
        | none => []
        | some c => c.2.1) = _
      rw [hc]
    have e1 : sb_res T (.inr x) = c.2.2 := by
      show (match T[sb_n x]? with
        | none => []
        | some c => c.2.2) = _
      rw [hc]
    by_cases z : f.2.1 = 3
    · rw [if_pos z, e0] at hk
      have hkl := yl_lt hk
      rw [if_pos (h3.mpr z), hh_member (by omega) (by omega) (he.1.2.2 _ c hc).1 hk, ys_seq, yu_h (k1 k d hk).1.1]
    · rw [if_neg z, e1] at hk
      have hkl := yl_lt hk
      rw [if_neg (fun y => z (h3.mp y)), hh_outcome (by omega) (by omega) (he.1.2.2 _ c hc).1 hk, ys_seq, yu_h (k2 k d hk).1.1]
/-- types are taken off, the last one first -/
theorem hc_takesL {L : List Nat} {F : Nat → Int32 → xk_St → Option ((β ⊕ Nat) × xk_St)} {E : xk_St → Option ((β ⊕ Nat) × xk_St)} (hL : ∀ (i : Nat) d, L[i]? = some d → yvw T.length d) (he : yCe T u)
    (hE : ∀ n v, yf_fr [19] [] [33] [] u v → F (n + 1) (nI 0 + (-1)) v = E v)
    (hs : ∀ n k d v, yf_fr [19] [] [33] [] u v → L[k]? = some d → F (n + 1) (nI k) v = xs_try (fm_Checker_pop_I (nI (yu d)) v) fun _ w => F n (nI k + (-1)) w) :
    ∀ (k n : Nat) (Q : List sFr) (v : xk_St), k ≤ L.length → k < n → yf_fr [19] [] [33] [] u v → sH T Q v → ¬ Q = [] → HC (F n (nI k + (-1)) v) (sq_takes (yl_f T) (L.take k).reverse Q) fun Q' o => ∃ w, o = E w ∧ sH T Q' w ∧ yf_fr [19] [] [33] [] u w ∧ ¬ Q' = [] := by
  intro k
  induction k with
  | zero =>
    intro n Q v _ hn hf h hQ
    obtain ⟨n, rfl⟩ : ∃ m, n = m + 1 := ⟨n - 1, by omega⟩
    rw [hE n v hf]
    exact HC_ok ⟨v, rfl, h, hf, hQ⟩
  | succ k ih =>
    intro n Q v hk hn hf h hQ
    obtain ⟨n, rfl⟩ : ∃ m, n = m + 1 := ⟨n - 1, by omega⟩
    obtain ⟨d, hd⟩ := yl_get (l := L) (k := k) (by omega)
    have htk : (L.take (k + 1)).reverse = d :: (L.take k).reverse := by
      rw [List.take_succ, hd, List.reverse_append]; rfl
    rw [htk, nI_m1, hs n k d v hf hd]
    show HC _ ((sq_take (yl_f T) d Q).bind (sq_takes (yl_f T) (L.take k).reverse)) _
    refine HC_try (hc_take (yCe_fr he hf (by decide)) h hQ (hL k d hd)) fun Q' b w e1 hI => ?_
    refine ih n Q' w (by omega) (by omega) (yf_trans hf hI.2) hI.1 ?_
    intro hz
    rw [hz] at hI
    have h1 := hI.1.1
    have h2 := h.1
    rw [hI.2.1 21 (by decide), h2] at h1
    have h3 := (nI_eq (by have := h.2.1; omega) (by decide)).mp (show nI Q.length = nI 0 from h1)
    exact hQ (List.length_eq_zero_iff.mp h3)
/-- types are laid on, the first one first -/
theorem hc_pushesL {L : List Nat} {F : Nat → Int32 → xk_St → Option ((β ⊕ Nat) × xk_St)} {E : xk_St → Option ((β ⊕ Nat) × xk_St)} (hL : ∀ (i : Nat) d, L[i]? = some d → yvs T.length d)
    (hE : ∀ n v, yf_fr [19] [] [33] [] u v → F (n + 1) (nI L.length) v = E v)
    (hs : ∀ n k d v, yf_fr [19] [] [33] [] u v → L[k]? = some d → F (n + 1) (nI k) v = xs_try (fm_Checker_push (nI (yu d)) v) fun _ w => F n (nI (k + 1)) w) :
    ∀ (m k n : Nat) (Q : List sFr) (v : xk_St), k + m = L.length → m < n → yf_fr [19] [] [33] [] u v → sH T Q v → ¬ Q = [] → HC (F n (nI k) v) (sq_pushes (L.drop k) Q) fun Q' o => ∃ w, o = E w ∧ sH T Q' w ∧ yf_fr [19] [] [33] [] u w ∧ ¬ Q' = [] := by
  intro m
  induction m with
  | zero =>
    intro k n Q v hk hn hf h hQ
    obtain ⟨n, rfl⟩ : ∃ m, n = m + 1 := ⟨n - 1, by omega⟩
    obtain rfl : k = L.length := by omega
    rw [hE n v hf, List.drop_length]
    exact HC_ok ⟨v, rfl, h, hf, hQ⟩
  | succ m ih =>
    intro k n Q v hk hn hf h hQ
    obtain ⟨n, rfl⟩ : ∃ m, n = m + 1 := ⟨n - 1, by omega⟩
    obtain ⟨d, hd⟩ := yl_get (l := L) (k := k) (by omega)
    have hdr : L.drop k = d :: L.drop (k + 1) := by
      rw [List.drop_eq_getElem_cons (by omega)]
      congr 1
      have := List.getElem?_eq_getElem (l := L) (i := k) (by omega)
      rw [hd] at this
      exact (Option.some.inj this).symm
    rw [hdr, hs n k d v hf hd]
    show HC _ ((sq_push d Q).bind (sq_pushes (L.drop (k + 1)))) _
    refine HC_try (hc_push h hQ (hL k d hd)) fun Q' b w e1 hI => ?_
    refine ih (k + 1) n Q' w (by omega) (by omega) (yf_trans hf hI.2) hI.1 ?_
    intro hz
    rw [hz] at hI
    have h1 := hI.1.1
    have h2 := h.1
    rw [hI.2.1 21 (by decide), h2] at h1
    have h3 := (nI_eq (by have := h.2.1; omega) (by decide)).mp (show nI Q.length = nI 0 from h1)
    exact hQ (List.length_eq_zero_iff.mp h3)
end
