section
variable {α β γ δ σ τ : Type} {B : Nat → Int32} {u v w u' v' u0 v0 : xk_St} {T : List (Nat × List Nat × List Nat)} {F : List Nat} {G : List (Nat × Nat × Nat × Int64)} {L W0 : List Nat} {n fu tc mc lim p q len f D k tn tn' j d b g m : Nat} {z : Nat → Nat} {LL : Nat → List Nat} {AA : Nat → sBo} {tt : Nat → Nat} {H H' : rH} {fs r rr : List rFr} {x x' : rFr} {c : Nat × List Nat × List Nat} {y : Nat × sIn} {Q Qn Q1 : List sFr} {P : List rFr → Nat → Prop} {R : List Nat}
/-- 0x05 -/
theorem ri_5 (h : rFt D B len T F tc mc G z LL AA tt H x r tn y Qn u v w) (hi : y.2.1 = 5) (hP : rPs P x r tn) : RZ D B len T F tc mc G z LL AA tt P R (fm_Machine_step fu (u.2.2.1 7 (kF z AA x)) (nI (kF z AA x)) (uF z AA x u)) (mr_st fu w) := by
  have h7 : u.2.2.1 7 (kF z AA x) = nI 5 := by rw [h.2.1.2.2.1.1, if_neg (by omega), hi]
  have h8 : w.1 8 = nI 5 := by rw [h.2.2.2.1.2.2.2.1, if_pos (by omega), hi]
  have hk : kF z AA x < 8192 := h.2.1.2.2.2.2.2.2.2.1
  obtain ⟨f0, q, hQ, hd⟩ := rf_Q h
  obtain ⟨z1, z2, z3, z4, z5⟩ := rf_0 h
  have hf0 : x.2.2[0]? = some f0 := by rw [hQ]; rfl
  have h0 := h.1
  obtain ⟨h1, h2, h3, h4, h5, h6, hh7, hh8, h9⟩ := h0
  have hF1 := RF_fv z5 (by decide) h3
  obtain ⟨a1, a2, a3, a4, a5, a6, a7⟩ := hF1.1
  have hQ100 : x.2.2.length ≤ 100 := a6.2.2.2.2.1
  have hl : (x :: r).length = r.length + 1 := List.length_cons
  have h60 := h6.2.2.1
  have hV := fV_le hF1.2
  have hlx : x.2.2.length = q.length + 1 := by rw [hQ, List.length_cons]
  -- the block is an 0x04
  obtain ⟨cc, b1, b2, b3, b4, b5, b6⟩ := rx_body h.1
  have hf4 : f0.2.1 = 4 := (b4 x.2.1 y x.2.2 h.2.1.1 (h9 x r rfl).2.2.2).2 hi f0 q hQ
  have hs := h.2.1.2.1
  unfold sq_step at hs
  rw [if_neg (by omega), if_neg (by omega), if_neg (by omega), if_neg (by omega), if_pos hi, hQ] at hs
  obtain ⟨Q1, ho, -⟩ := Option.bind_eq_some_iff.mp (show (sq_over T (f0 :: q)).bind _ = some Qn from hs)
  have hov := RS_over (rf_RS' h hQ) ho hd (rx_lab h.1 hf0).2
  have hin := h.2.1.2.2.1
  have hne : ¬ x.2.2.drop (0 + 1) = [] := by
    have := (hin.2.2.1 0 f0 hf0).2.2
    rw [hQ]
    intro e
    have e : q = [] := e
    rw [hlx, e] at this
    have := this.mpr rfl
    omega
  obtain ⟨je, ye, f', Qe, g1, g2, g3, g4, g5, g6, g7, g8, g9, g10, g11, g12, g13, g14⟩ := rx_end h.1 hf0
  have hpu : sq_pushes (sb_res T f0.2.2.1) (x.2.2.drop (0 + 1)) = some Qe := by
    rcases g10 with ⟨t, -⟩ | ⟨-, t⟩
    · exact absurd t hne
    · exact t
  have h9k : u.2.2.1 9 f0.1.1 = nI (kF z AA x) := hin.2.2.2.2.1 hi f0 q hQ
  have hje : sEn' (z x.1) (AA x.1) je < 8192 := g11
  have he9 : u.2.2.1 9 (kF z AA x) = nI (sEn' (z x.1) (AA x.1) je) := by
    by_cases t : f'.2.1 = 5
    · obtain ⟨e5, t1, t2, t3, t4⟩ := g12.1 t
      rw [t2] at h9k
      have : e5 = kF z AA x := (nI_eq (by omega) (by omega)).mp h9k
      rw [← this]; exact t4
    · exfalso
      have t2 := g12.2 t
      rw [t2] at h9k
      have t3 : sEn' (z x.1) (AA x.1) je = kF z AA x := (nI_eq (by omega) (by omega)).mp h9k
      have t4 : je = x.2.1 := by
        have t3 : z x.1 + 1 + (AA x.1).2.1.length + je = z x.1 + 1 + (AA x.1).2.1.length + x.2.1 := t3
        omega
      subst t4
      rw [h.2.1.1] at g2
      cases g2
      omega
  have hop : ¬ f0.1.2 = 0 := by
    rcases rx_open h.1 hf0 with ⟨-, -, t, -⟩ | ⟨k0, x0, st, -, -, -, -, -, -, t, -⟩
    · omega
    · exact t
  have w28 : w.1 28 = nI (fV r + q.length + 1) := by rw [h.2.2.1.1 28 (by decide), h6.2.2.2, show fV (x :: r) = fV r + x.2.2.length from rfl, hlx]; rfl
  have h33 : w.2.2.1 33 (fV r + q.length) = nI (pq (AA x.1) (je + 1)) := by
    have t := (a5 0 f0 hf0).2.2.2 (by omega)
    rw [if_neg (by omega), show fV r + (x.2.2.length - 1 - 0) = fV r + q.length by omega] at t
    rw [t, h.2.2.1.2.2.1 20 (by decide)]
    exact (g14 hop).1
  have e0 : mr_st fu w = some ((), xs_I (xs_I w 28 (nI (fV r + q.length))) 4 (nI (pq (AA x.1) (je + 1)))) := by
    unfold mr_st fm_Model_doWays
    simp only [xs_let]
    rw [h8]
    show (if w.1 28 - 1 < 0 ∨ 6200 ≤ (w.1 28 - 1).toNatClampNeg then none else some ((), xs_I (xs_I w 28 (w.1 28 - 1)) 4 (w.2.2.1 33 (w.1 28 - 1).toNatClampNeg))) = _
    rw [w28, nI_pred, if_neg (nI_in (N := 6200) (by omega) (by decide)), show (nI (fV r + q.length)).toNatClampNeg = fV r + q.length from nI_clamp (by omega), h33]
  have e1 : fm_Machine_step fu (nI 5) (nI (kF z AA x)) (uF z AA x u) = some ((), xs_I (uF z AA x u) 26 (nI (sEn' (z x.1) (AA x.1) (je + 1)))) := by
    have : fm_Machine_step fu (nI 5) (nI (kF z AA x)) (uF z AA x u) = xs_seq (if nI (kF z AA x) < 0 ∨ 8192 ≤ (nI (kF z AA x)).toNatClampNeg then none else some ((), xs_I (uF z AA x u) 26 ((uF z AA x u).2.2.1 9 (nI (kF z AA x)).toNatClampNeg + 1))) fun _ u9 => some ((), u9) := rfl
    rw [this, ix8192 hk, nI_clamp (by omega), xs_id]
    have : (uF z AA x u).2.2.1 9 (kF z AA x) = nI (sEn' (z x.1) (AA x.1) je) := he9
    rw [this, nI_1]
    rfl
  rw [h7, e0, e1]
  have hU2 : yf_fr [23, 26, 27, 28] [] [37] [10] u (xs_I (uF z AA x u) 26 (nI (sEn' (z x.1) (AA x.1) (je + 1)))) := yf_I (yf_mono z4 (by decide)) (by decide)
  have hV2 : yf_fr [4, 6, 8, 9, 10, 11, 23, 26, 28, 29] [0, 1, 2] [29] [3] v (xs_I (xs_I w 28 (nI (fV r + q.length))) 4 (nI (pq (AA x.1) (je + 1)))) := yf_I (yf_I (yf_mono z5 (by decide)) (by decide)) (by decide)
  refine ⟨_, _, rfl, rfl, Or.inl ⟨H, _, tn, rx_goend (d := 0) (je := je) h.1 hf0 hU2 hV2 (yl_lt g2) g8 hne hpu ?_ ?_ ⟨hh7.1, ?_⟩ ⟨z1, z2, z3⟩ ⟨rfl, rfl⟩, hP.2.1 _ _ (by omega)⟩⟩
  · rw [hQ]
    show RS T H (fW LL r ++ (LL x.1 ++ (sq_f q ++ sb_res T f0.2.2.1))) _ _
    rw [← List.append_assoc]
    exact RS_fv (RS_fu hov (yf_I (I := [26]) (J := []) (A := []) (B := []) yf_refl (by decide)) (by decide)) (yf_I (I := [28, 4]) (J := []) (A := []) (B := []) (yf_I yf_refl (by decide)) (by decide)) (by decide)
  · show nI (fV r + q.length) = nI (fV r + (x.2.2.length - 1 - 0))
    rw [hlx]; congr 2
  · show w.2.1 2 = lN tn
    rw [h.2.2.1.2.1 2 (by decide)]; exact hh7.2.1
end
