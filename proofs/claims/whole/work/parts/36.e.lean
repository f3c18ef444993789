section
variable {α β γ δ σ τ : Type} {B : Nat → Int32} {u v w u' v' u0 v0 : xk_St} {T : List (Nat × List Nat × List Nat)} {F : List Nat} {G : List (Nat × Nat × Nat × Int64)} {L W0 : List Nat} {n fu tc mc lim p q len f D k tn tn' j d b g m : Nat} {z : Nat → Nat} {LL : Nat → List Nat} {AA : Nat → sBo} {tt : Nat → Nat} {H H' : rH} {fs r rr : List rFr} {x x' : rFr} {c : Nat × List Nat × List Nat} {y : Nat × sIn} {Q Qn Q1 : List sFr} {P : List rFr → Nat → Prop} {R : List Nat}
theorem lN_inj {a b : Nat} (ha : a < 2 ^ 63) (hb : b < 2 ^ 63) (h : lN a = lN b) : a = b := by
  have := congrArg Int64.toInt h
  rw [pk_lT ha, pk_lT hb] at this
  omega
theorem ri_T {n : Nat} (h : n < 2 ^ 31) : (ri n).toInt = (n : Int) - 2147483648 := by
  unfold ri
  rw [Int64.toInt_ofInt]
  refine Int.bmod_eq_of_le_mul_two ?_ ?_
  · have : ((2 ^ 64 : Nat) : Int) = 18446744073709551616 := rfl
    rw [this]; omega
  · have : ((2 ^ 64 : Nat) : Int) = 18446744073709551616 := rfl
    rw [this]; omega
/-- a reference on both sides: empty, small, or an object -/
def rK (H : rH) (xh xm : Int64) : Prop := (xh = 0 ∧ xm = 0) ∨ (∃ n, n < 2 ^ 31 ∧ xh = ri n ∧ xm = lN (2 * n + 1)) ∨ ∃ (k : Nat) (e : Nat × Nat × Nat × Nat), H[k]? = some e ∧ xh = lN e.1 ∧ xm = lN (2 * e.2.1 + 2)
theorem rv_K {d : Nat} {xh xm : Int64} {fh : Int32} (h : rv T H d xh fh xm) (hd : 16 ≤ d) : rK H xh xm := by
  rcases h with ⟨a, -⟩ | ⟨a, -⟩ | ⟨-, -, h⟩
  · omega
  · omega
  · rcases h with ⟨a, b, -⟩ | ⟨-, -, n, a, b, e⟩ | ⟨-, k, e, a, b, e2, -⟩
    · exact Or.inl ⟨a, b⟩
    · exact Or.inr (Or.inl ⟨n, a, b, e⟩)
    · exact Or.inr (Or.inr ⟨k, e, a, b, e2⟩)
theorem rK_b (hH : RHp T H u v) {k : Nat} {e : Nat × Nat × Nat × Nat} (he : H[k]? = some e) : 0 < e.1 ∧ e.1 ≤ 2000 ∧ e.2.1 ≤ 2000 := (hH.2.1 k e he).1
theorem rK_eq (hH : RHp T H u v) {xh xm xh' xm' : Int64} (h : rK H xh xm) (h' : rK H xh' xm') : xh = xh' ↔ xm = xm' := by
  have t0 : (0 : Int64).toInt = 0 := rfl
  have tr : ∀ {n}, n < 2 ^ 31 → (ri n).toInt = (n : Int) - 2147483648 := fun h => ri_T h
  have tl : ∀ {n}, n < 2 ^ 63 → (lN n).toInt = (n : Int) := fun h => pk_lT h
  have ne : ∀ {a b : Int64}, ¬ a.toInt = b.toInt → ¬ a = b := fun h e => h (by rw [e])
  rcases h with ⟨a, b⟩ | ⟨n, hn, a, b⟩ | ⟨k, e, he, a, b⟩
  · rcases h' with ⟨a', b'⟩ | ⟨n', hn', a', b'⟩ | ⟨k', e', he', a', b'⟩
    · rw [a, b, a', b']
    · rw [a, b, a', b']
      refine iff_of_false (ne ?_) (ne ?_)
      · rw [t0, tr hn']; omega
      · rw [t0, tl (by omega)]; omega
    · have := rK_b hH he'
      rw [a, b, a', b']
      refine iff_of_false (ne ?_) (ne ?_)
      · rw [t0, tl (by omega)]; omega
      · rw [t0, tl (by omega)]; omega
  · rcases h' with ⟨a', b'⟩ | ⟨n', hn', a', b'⟩ | ⟨k', e', he', a', b'⟩
    · rw [a, b, a', b']
      refine iff_of_false (ne ?_) (ne ?_)
      · rw [t0, tr hn]; omega
      · rw [t0, tl (by omega)]; omega
    · rw [a, b, a', b']
      refine ⟨fun q => ?_, fun q => ?_⟩
      · have := congrArg Int64.toInt q
        rw [tr hn, tr hn'] at this
        rw [show n = n' by omega]
      · have := lN_inj (by omega) (by omega) q
        rw [show n = n' by omega]
    · have := rK_b hH he'
      rw [a, b, a', b']
      refine iff_of_false (ne ?_) (ne ?_)
      · rw [tr hn, tl (by omega)]; omega
      · rw [tl (by omega), tl (by omega)]; omega
  · have hb := rK_b hH he
    rcases h' with ⟨a', b'⟩ | ⟨n', hn', a', b'⟩ | ⟨k', e', he', a', b'⟩
    · rw [a, b, a', b']
      refine iff_of_false (ne ?_) (ne ?_)
      · rw [t0, tl (by omega)]; omega
      · rw [t0, tl (by omega)]; omega
    · rw [a, b, a', b']
      refine iff_of_false (ne ?_) (ne ?_)
      · rw [tr hn', tl (by omega)]; omega
      · rw [tl (by omega), tl (by omega)]; omega
    · have hb' := rK_b hH he'
      rw [a, b, a', b']
      refine ⟨fun q => ?_, fun q => ?_⟩
      · have q1 := lN_inj (by omega) (by omega) q
        have := hH.2.2.1 k k' e e' he he' (Or.inl q1)
        subst this
        rw [he] at he'; cases he'; rfl
      · have q1 := lN_inj (by omega) (by omega) q
        have := hH.2.2.1 k k' e e' he he' (Or.inr (by omega))
        subst this
        rw [he] at he'; cases he'; rfl
theorem rK_0 (hH : RHp T H u v) {xh xm : Int64} (h : rK H xh xm) : xh = 0 ↔ xm = 0 := rK_eq hH h (Or.inl ⟨rfl, rfl⟩)
/-- a reference that is not empty -/
theorem rv_nn {d : Nat} {xh xm : Int64} {fh : Int32} (h : rv T H d xh fh xm) (hd : 16 ≤ d) (h0 : ¬ xm = 0) : rv T H (d - d % 2) xh fh xm := by
  rcases h with ⟨a, -⟩ | ⟨a, -⟩ | ⟨-, h150, h⟩
  · omega
  · omega
  · refine Or.inr (Or.inr ⟨by omega, by omega, ?_⟩)
    rcases h with ⟨a, b, -⟩ | ⟨a, b, n, e⟩ | ⟨a, k, e, a2, b, e2, q⟩
    · exact absurd b h0
    · exact Or.inr (Or.inl ⟨a, by omega, n, e⟩)
    · refine Or.inr (Or.inr ⟨a, k, e, a2, b, e2, ?_⟩)
      rcases q with q | ⟨q1, q2⟩
      · exact Or.inl (by omega)
      · exact Or.inr ⟨by omega, by rw [q2, show (d - 20) / 2 = (d - d % 2 - 20) / 2 by omega]⟩
theorem hp_truth (h28 : u.1 28 = nI n) (hn : n < 18000) : fm_Values_pushTruth__h61 1 u = some ((), uP u n 1 0) ∧ fm_Values_pushTruth__h61 0 u = some ((), uP u n 0 0) := by
  unfold fm_Values_pushTruth__h61 jb_Values_pushTruth__h61_10
  rw [if_neg (by decide), if_pos rfl, hp_push h28 hn, hp_push h28 hn]
  exact ⟨rfl, rfl⟩
/-- truth on both sides -/
theorem RO_truth {W : List Nat} {b : Int32} (h : RS T H W u v) (hl : W.length < 18000) (h7 : u.1 27 = 0) (h9 : v.1 29 = 0) (hb : b = 0 ∨ b = 1) : RO T H (W ++ [1]) u v (fm_Values_pushTruth__h61 b u) (fm_Model_tell b.toInt64 v) := by
  have e : fm_Values_pushTruth__h61 b u = fm_Values_push__h61 b.toInt64 u := by
    rcases hb with rfl | rfl
    · rw [(hp_truth h.1 hl).2, hp_push h.1 hl]; rfl
    · rw [(hp_truth h.1 hl).1, hp_push h.1 hl]; rfl
  rw [e]
  exact RO_push h hl h7 h9 rv_i (by decide)
/-- a reference lies on top -/
theorem rf_popR {f0 : sFr} {q : List sFr} {yy : Nat × List sFr} (h : RS T H (W0 ++ sq_f (f0 :: q)) u v) (hd : f0.2.2.2.1 = false) (hp : sq_popR (f0 :: q) = some yy) : ∃ s, yy.2 = sf_s f0 s :: q ∧ f0.2.2.2.2 = yy.1 :: s ∧ 16 ≤ yy.1 ∧ yy.1 < 150 ∧ W0 ++ sq_f (f0 :: q) = (W0 ++ sq_f (sf_s f0 s :: q)) ++ [yy.1] := by
  obtain ⟨y1, k1, k2⟩ := Option.bind_eq_some_iff.mp (show (sq_pop (f0 :: q)).bind (fun x => xs_if (x.1 = 0 ∨ 16 ≤ x.1) (some x)) = some yy from hp)
  obtain ⟨k3, k4⟩ := xp_if k2
  cases k4
  cases hst : f0.2.2.2.2 with
  | nil => rw [sq_pop_0 hst, hd] at k1; cases k1
  | cons c s =>
    rw [sq_pop_c hst] at k1
    cases k1
    have e : W0 ++ sq_f (f0 :: q) = (W0 ++ sq_f (sf_s f0 s :: q)) ++ [c] := by
      show W0 ++ (sq_f q ++ f0.2.2.2.2.reverse) = (W0 ++ (sq_f q ++ s.reverse)) ++ [c]
      rw [hst, List.reverse_cons]
      simp only [List.append_assoc]
    rw [e] at h
    have := rv_c (RS_pop h).2.1
    have k3 : c = 0 ∨ 16 ≤ c := k3
    exact ⟨s, rfl, rfl, by show 16 ≤ c; omega, by show c < 150; omega, e⟩
end
