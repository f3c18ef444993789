section
variable {α β γ δ σ τ : Type} {B : Nat → Int32} {u v w u' v' u0 v0 : xk_St} {T : List (Nat × List Nat × List Nat)} {F : List Nat} {G : List (Nat × Nat × Nat × Int64)} {L W0 : List Nat} {n fu tc mc lim p q len f D k tn tn' j d b g m i : Nat} {z : Nat → Nat} {LL : Nat → List Nat} {AA : Nat → sBo} {tt : Nat → Nat} {H H' : rH} {fs r rr : List rFr} {x x' : rFr} {c : Nat × List Nat × List Nat} {e : Nat × Nat × Nat × Nat}
theorem hS_app : ∀ {a b : rH}, hS (a ++ b) = hS a + hS b := by
  intro a
  induction a with
  | nil => intro b; show hS b = 0 + hS b; omega
  | cons x r ih => intro b; show 1 + x.2.2.2 + hS (r ++ b) = 1 + x.2.2.2 + hS r + hS b; rw [ih]; omega
theorem hS_at (h : H[k]? = some e) : hS (H.take (k + 1)) = hS (H.take k) + 1 + e.2.2.2 := by
  rw [List.take_succ, h, hS_app]
  show hS (H.take k) + (1 + e.2.2.2 + 0) = _
  omega
theorem hS_le {k' : Nat} (h : k ≤ k') : hS (H.take k) ≤ hS (H.take k') := by
  have e : H.take k' = H.take k ++ (H.take k').drop k := by
    have := List.take_append_drop k (H.take k')
    rw [List.take_take, Nat.min_eq_left h] at this
    exact this.symm
  rw [e, hS_app]; omega
theorem hS_all : hS (H.take k) ≤ hS H := by
  have e := List.take_append_drop k H
  have : hS (H.take k ++ H.drop k) = hS (H.take k) + hS (H.drop k) := hS_app
  rw [e] at this; omega
theorem hS_top (h : H[k]? = some e) : hS (H.take k) + 1 + e.2.2.2 ≤ hS H := by
  rw [← hS_at h]; exact hS_all
/-- cells of two objects lie apart -/
theorem hS_apart {k' : Nat} {e' : Nat × Nat × Nat × Nat} (h : H[k]? = some e) (h' : H[k']? = some e') (hn : ¬ k = k') : hS (H.take k) + 1 + e.2.2.2 ≤ hS (H.take k') ∨ hS (H.take k') + 1 + e'.2.2.2 ≤ hS (H.take k) := by
  by_cases c : k < k'
  · exact Or.inl (by rw [← hS_at h]; exact hS_le c)
  · exact Or.inr (by rw [← hS_at h']; exact hS_le (by omega))
/-- the heaps but for what the parts hold -/
def RHz (T : List (Nat × List Nat × List Nat)) (H : rH) (u v : xk_St) : Prop := (u.1 32 = nI (hS H) ∧ v.1 32 = nI (hS H) ∧ hS H ≤ 2000 ∧ v.1 34 = nI H.length) ∧ (∀ (k : Nat) e, H[k]? = some e → (0 < e.1 ∧ e.1 ≤ 2000 ∧ e.2.1 ≤ 2000) ∧ (u.2.2.1 40 e.1 = nI (yl_f T e.2.2.1) ∧ u.2.2.1 41 e.1 = nI e.2.2.2 ∧ u.2.2.1 42 e.1 = nI (hS (H.take k)) ∧ u.2.2.2 12 (hS (H.take k)) = lN e.1 ∧ u.2.2.1 39 (hS (H.take k)) = 0) ∧ (v.2.2.1 37 e.2.1 = nI (hS (H.take k) + 1) ∧ v.2.2.1 38 e.2.1 = nI e.2.2.2 ∧ v.2.2.1 39 e.2.1 = nI e.2.2.1 ∧ v.2.2.1 42 k = nI e.2.1) ∧ ∃ c, T[e.2.2.1]? = some c ∧ (c.1 = 94 ∨ (c.1 = 95 ∧ e.2.2.2 = c.2.1.length))) ∧ (∀ (k k' : Nat) (e e' : Nat × Nat × Nat × Nat), H[k]? = some e → H[k']? = some e' → e.1 = e'.1 ∨ e.2.1 = e'.2.1 → k = k') ∧ (∃ m, u.1 30 = nI m ∧ m + H.length = 2000 ∧ ∃ q : Nat → Nat, (∀ i, i < m → u.2.2.1 44 i = nI (q i) ∧ 0 < q i ∧ q i ≤ 2000 ∧ ∀ (k : Nat) e, H[k]? = some e → ¬ e.1 = q i) ∧ ∀ i j, i < m → j < m → q i = q j → i = j) ∧ (∀ i, i < 2001 → (∃ (k : Nat) (e : Nat × Nat × Nat × Nat), H[k]? = some e ∧ e.2.1 = i) ∨ v.2.2.1 38 i = -1) ∧ ∀ i, i < 2001 → u.2.2.1 43 i = 0
/-- what the parts hold, where P says -/
def RHt (T : List (Nat × List Nat × List Nat)) (H : rH) (P : Nat → Nat → Prop) (u v : xk_St) : Prop := ∀ (k : Nat) e c i d, H[k]? = some e → T[e.2.2.1]? = some c → P k i → i < e.2.2.2 → pT c i = some d → rv T H (upk d) (u.2.2.2 12 (hS (H.take k) + 1 + i)) (u.2.2.1 39 (hS (H.take k) + 1 + i)) (v.2.2.2 5 (hS (H.take k) + 1 + i))
theorem RHp_iff : RHp T H u v ↔ RHz T H u v ∧ RHt T H (fun _ _ => True) u v := by
  constructor
  · rintro ⟨h1, h2, h3, h4, h5, h6⟩
    refine ⟨⟨h1, fun k e he => ?_, h3, h4, h5, h6⟩, fun k e c i d he hc _ hi hd => ?_⟩
    · obtain ⟨a1, a2, a3, c, a4, a5, -⟩ := h2 k e he
      exact ⟨a1, a2, a3, c, a4, a5⟩
    · obtain ⟨a1, a2, a3, c', a4, a5, a6⟩ := h2 k e he
      rw [hc] at a4; cases a4
      exact a6 i d hi hd
  · rintro ⟨⟨h1, h2, h3, h4, h5, h6⟩, ht⟩
    refine ⟨h1, fun k e he => ?_, h3, h4, h5, h6⟩
    obtain ⟨a1, a2, a3, c, a4, a5⟩ := h2 k e he
    exact ⟨a1, a2, a3, c, a4, a5, fun i d hi hd => ht k e c i d he a4 trivial hi hd⟩
/-- one cell is written -/
def uC (u : xk_St) (c : Nat) (x : Int64) (f : Int32) : xk_St := xs_A (xs_B u 12 c x) 39 c f
theorem uC_f {cc : Nat} {a : Int64} {f : Int32} : yf_fr [] [] [39] [12] u (uC u cc a f) := yf_A (yf_B yf_refl (by decide)) (by decide)
theorem RHz_set {a bb : Int64} {ff : Int32} (h : RHz T H u v) (he : H[k]? = some e) (hi : i < e.2.2.2) : RHz T H (uC u (hS (H.take k) + 1 + i) a ff) (xs_B v 5 (hS (H.take k) + 1 + i) bb) := by
  obtain ⟨h1, h2, h3, h4, h5, h6⟩ := h
  refine ⟨h1, fun k' e' he' => ?_, h3, h4, h5, h6⟩
  obtain ⟨a1, ⟨b1, b2, b3, b4, b5⟩, a3, a4⟩ := h2 k' e' he'
  refine ⟨a1, ⟨b1, b2, b3, ?_, ?_⟩, a3, a4⟩
  · show vp_updL (u.2.2.2 12) (hS (H.take k) + 1 + i) a (hS (H.take k')) = lN e'.1
    rw [yb_j]
    · exact b4
    · intro q
      by_cases c : k = k'
      · subst c; omega
      · have := hS_apart he he' c
        omega
  · show upd (u.2.2.1 39) (hS (H.take k) + 1 + i) ff (hS (H.take k')) = 0
    rw [ya_j]
    · exact b5
    · intro q
      by_cases c : k = k'
      · subst c; omega
      · have := hS_apart he he' c
        omega
theorem RHt_set {a bb : Int64} {ff : Int32} {P P' : Nat → Nat → Prop} (h : RHt T H P u v) (he : H[k]? = some e) (hi : i < e.2.2.2) (hr : ∀ c d, T[e.2.2.1]? = some c → pT c i = some d → rv T H (upk d) a ff bb) (hP : ∀ k' i', P' k' i' → P k' i' ∨ (k' = k ∧ i' = i)) : RHt T H P' (uC u (hS (H.take k) + 1 + i) a ff) (xs_B v 5 (hS (H.take k) + 1 + i) bb) := by
  intro k' e' c i' d he' hc hP' hi' hd
  show rv T H (upk d) (vp_updL (u.2.2.2 12) (hS (H.take k) + 1 + i) a (hS (H.take k') + 1 + i')) (upd (u.2.2.1 39) (hS (H.take k) + 1 + i) ff (hS (H.take k') + 1 + i')) (vp_updL (v.2.2.2 5) (hS (H.take k) + 1 + i) bb (hS (H.take k') + 1 + i'))
  by_cases q : k' = k ∧ i' = i
  · obtain ⟨rfl, rfl⟩ := q
    rw [he] at he'; cases he'
    rw [yb_t, ya_t, yb_t]
    exact hr c d hc hd
  · have hne : ¬ hS (H.take k') + 1 + i' = hS (H.take k) + 1 + i := by
      by_cases c : k = k'
      · subst c
        intro t
        exact q ⟨rfl, by omega⟩
      · have := hS_apart he he' c
        omega
    rw [yb_j hne, ya_j hne, yb_j hne]
    refine h k' e' c i' d he' hc ?_ hi' hd
    rcases hP k' i' hP' with t | t
    · exact t
    · exact absurd t q
theorem RHp_set {a bb : Int64} {ff : Int32} (h : RHp T H u v) (he : H[k]? = some e) (hi : i < e.2.2.2) (hr : ∀ c d, T[e.2.2.1]? = some c → pT c i = some d → rv T H (upk d) a ff bb) : RHp T H (uC u (hS (H.take k) + 1 + i) a ff) (xs_B v 5 (hS (H.take k) + 1 + i) bb) := by
  obtain ⟨h1, h2⟩ := RHp_iff.mp h
  exact RHp_iff.mpr ⟨RHz_set h1 he hi, RHt_set h2 he hi hr fun _ _ _ => Or.inl trivial⟩
theorem rv_upk {a b : Nat} {xh xm : Int64} {fh : Int32} (h : rv T H (upk a) xh fh xm) (ha : 0 < a) (hab : a = b ∨ (yfit (yl_f T) a b ∧ b < 150)) : rv T H (upk b) xh fh xm := by
  rcases hab with rfl | ⟨hf, hb⟩
  · exact h
  · rcases hf with q | q | ⟨q1, q2, q3, q4⟩
    · omega
    · rw [← q]; exact h
    · have e1 : upk a = a := if_neg (by omega)
      have e2 : upk b = b := if_neg (by omega)
      rw [e1] at h
      rw [e2]
      exact rv_fit h (Or.inr (Or.inr ⟨q1, q2, q3, q4⟩)) hb
/-- an object by a reference of type m that is not empty -/
theorem rv_obj {m : Nat} {xh xm : Int64} {fh : Int32} (h : rv T H (21 + 2 * m) xh fh xm) (h0 : ¬ xh = 0) : ∃ (k : Nat) (e : Nat × Nat × Nat × Nat), H[k]? = some e ∧ xh = lN e.1 ∧ xm = lN (2 * e.2.1 + 2) ∧ yl_f T e.2.2.1 = yl_f T m := by
  rcases h with ⟨a, -⟩ | ⟨a, -⟩ | ⟨-, h150, hr⟩
  · omega
  · omega
  rcases hr with ⟨r1, -⟩ | ⟨r1, r2, -⟩ | ⟨r1, k, e, r2, r3, r4, r5⟩
  · exact absurd r1 h0
  · omega
  · refine ⟨k, e, r2, r3, r4, ?_⟩
    rcases r5 with q | ⟨-, q⟩
    · omega
    · rw [show (21 + 2 * m - 20) / 2 = m by omega] at q; exact q
/-- how both sides find it -/
theorem rh_obj (hH : RHz T H u v) (he : H[k]? = some e) : (lN e.1).toInt32 = nI e.1 ∧ ¬ (lN e.1).toInt32 = 0 ∧ ¬ lN (2 * e.2.1 + 2) = 0 ∧ (lN (2 * e.2.1 + 2) / 2).toInt32 - 1 = nI e.2.1 := by
  obtain ⟨⟨b1, b2, b3⟩, -⟩ := hH.2.1 k e he
  have hi : (lN e.1).toInt32 = nI e.1 := sb_nLi (by omega)
  refine ⟨hi, fun q => ?_, fun q => ?_, ?_⟩
  · rw [hi] at q
    have := (nI_eq (b := 0) (by omega) (by decide)).mp q
    omega
  · have := lN_inj (a := 2 * e.2.1 + 2) (b := 0) (by omega) (by omega) q
    omega
  · rw [show 2 * e.2.1 + 2 = 2 * (e.2.1 + 1) by omega, lN_div2 (by omega), sb_nLi (by omega)]
    exact nI_pred _
/-- types of the parts by the object's own type and by that of the instruction -/
theorem rh_part (hTM : yTM T v) (hH : RHz T H u v) (he : H[k]? = some e) (hm : yl_f T e.2.2.1 = yl_f T m) (hc : T[m]? = some c) : (c.1 = 94 ∨ (c.1 = 95 ∧ e.2.2.2 = c.2.1.length)) ∧ ∀ c0 (i d0 d : Nat), T[e.2.2.1]? = some c0 → pT c0 i = some d0 → pT c i = some d → 0 < d0 ∧ 0 < d ∧ (d0 = d ∨ (yfit (yl_f T) d0 d ∧ d < 150)) ∧ (d = d0 ∨ (yfit (yl_f T) d d0 ∧ d0 < 150)) := by
  obtain ⟨-, -, -, c0, h1, h2⟩ := hH.2.1 k e he
  obtain ⟨s1, ⟨s2, s3⟩, -⟩ := ty_same hTM hm h1 hc
  obtain ⟨t1, ⟨t2, t3⟩, -⟩ := ty_same hTM hm.symm hc h1
  refine ⟨?_, fun c1 i d0 d hc1 hd0 hd => ?_⟩
  · rcases h2 with q | ⟨q1, q2⟩
    · exact Or.inl (s1 ▸ q)
    · exact Or.inr ⟨s1 ▸ q1, by rw [q2, s2]⟩
  · rw [h1] at hc1; cases hc1
    have g0 := yTM_g hTM _ _ h1
    have g1 := yTM_g hTM _ _ hc
    unfold pT at hd0 hd
    rw [← s1] at hd
    by_cases q : c0.1 = 94
    · rw [if_pos q] at hd0 hd
      exact ⟨(g0.2.1 0 d0 hd0).1, (g1.2.1 0 d hd).1, s3 0 d0 d hd0 hd, t3 0 d d0 hd hd0⟩
    · rw [if_neg q] at hd0 hd
      exact ⟨(g0.2.1 i d0 hd0).1, (g1.2.1 i d hd).1, s3 i d0 d hd0 hd, t3 i d d0 hd hd0⟩
/-- a part as an instruction of type m sees it -/
theorem rh_get (hTM : yTM T v) (hH : RHp T H u v) (he : H[k]? = some e) (hm : yl_f T e.2.2.1 = yl_f T m) (hc : T[m]? = some c) (hi : i < e.2.2.2) (hd : pT c i = some d) : rv T H (upk d) (u.2.2.2 12 (hS (H.take k) + 1 + i)) (u.2.2.1 39 (hS (H.take k) + 1 + i)) (v.2.2.2 5 (hS (H.take k) + 1 + i)) := by
  obtain ⟨hz, ht⟩ := RHp_iff.mp hH
  obtain ⟨h1, h2⟩ := rh_part hTM hz he hm hc
  obtain ⟨-, -, -, c0, k1, k2⟩ := hz.2.1 k e he
  have hd0 : ∃ d0, pT c0 i = some d0 := by
    obtain ⟨s1, ⟨s2, s3⟩, -⟩ := ty_same hTM hm k1 hc
    unfold pT at hd ⊢
    rw [← s1] at hd
    by_cases q : c0.1 = 94
    · rw [if_pos q] at hd ⊢
      have := yl_lt hd
      exact ⟨_, List.getElem?_eq_getElem (by omega)⟩
    · rw [if_neg q] at hd ⊢
      have := yl_lt hd
      exact ⟨_, List.getElem?_eq_getElem (by omega)⟩
  obtain ⟨d0, hd0⟩ := hd0
  obtain ⟨p1, p2, p3, p4⟩ := h2 c0 i d0 d k1 hd0 hd
  exact rv_upk (ht k e c0 i d0 he k1 trivial hi hd0) p1 p3
/-- the other way: a value that fits the instruction fits the object -/
theorem rh_put {a bb : Int64} {ff : Int32} (hTM : yTM T v) (hz : RHz T H u v) (he : H[k]? = some e) (hm : yl_f T e.2.2.1 = yl_f T m) (hc : T[m]? = some c) (hd : pT c i = some d) (hr : rv T H (upk d) a ff bb) : ∀ c0 d0, T[e.2.2.1]? = some c0 → pT c0 i = some d0 → rv T H (upk d0) a ff bb := fun c0 d0 k1 hd0 => by
  obtain ⟨h1, h2⟩ := rh_part hTM hz he hm hc
  obtain ⟨p1, p2, p3, p4⟩ := h2 c0 i d0 d k1 hd0 hd
  exact rv_upk hr p2 p4
end
