section
variable {α β γ δ σ τ : Type} {B : Nat → Int32} {u v w u' v' u0 v0 : xk_St} {T : List (Nat × List Nat × List Nat)} {F : List Nat} {G : List (Nat × Nat × Nat × Int64)} {L W0 : List Nat} {n fu tc mc lim p q len f D k tn tn' j d b g m i : Nat} {z : Nat → Nat} {LL : Nat → List Nat} {AA : Nat → sBo} {tt : Nat → Nat} {H H' : rH} {fs r rr : List rFr} {x x' : rFr} {c : Nat × List Nat × List Nat} {e : Nat × Nat × Nat × Nat} {y : Nat × sIn} {Q Qn Q1 : List sFr} {P : List rFr → Nat → Prop} {R : List Nat}
theorem ae_ix (y : Int64) : ∃ ix, ix < 2 ^ 32 ∧ y &&& 4294967295 = lN ix ∧ y.toInt32 = nI ix := by
  refine ⟨y.toUInt64.toNat % 2 ^ 32, Nat.mod_lt _ (by decide), lN_mask y, ?_⟩
  apply Int32.toBitVec_inj.mp
  apply BitVec.eq_of_toNat_eq
  rw [Int64.toBitVec_toInt32, BitVec.signExtend_eq_setWidth_of_le _ (by decide), BitVec.toNat_setWidth]
  show y.toBitVec.toNat % 2 ^ 32 = (y.toBitVec.toNat % 2 ^ 32) % 2 ^ 32
  omega
theorem lN_le2 {a b : Nat} (ha : a < 2 ^ 62) (hb : b < 2 ^ 62) : lN a ≤ lN b ↔ a ≤ b := by
  rw [Int64.le_iff_toInt_le, pk_lT (by omega), pk_lT (by omega)]
  omega
theorem lN_add2 {a b : Nat} (ha : a < 2 ^ 62) (hb : b < 2 ^ 62) : lN a + lN b = lN (a + b) := by
  apply Int64.toInt_inj.mp
  rw [Int64.toInt_add, pk_lT (by omega), pk_lT (by omega), pk_lT (by omega), b64 (by omega) (by omega)]
  omega
theorem hp_has {s cnt ix : Nat} (hz : RHz T H u v) (h7 : u.1 27 = 0) (hs : s + 1 < 18000) (hix : u.2.2.2 10 (s + 1) &&& 4294967295 = lN ix) (h1 : ix < 2 ^ 32) (h2 : cnt < 2 ^ 32) : (u.2.2.2 10 s = 0 → fm_Machine_hasElements (nI s) (lN cnt) u = some (0, xs_I u 27 8)) ∧ ∀ (k : Nat) e, H[k]? = some e → u.2.2.2 10 s = lN e.1 → fm_Machine_hasElements (nI s) (lN cnt) u = if ix + cnt ≤ e.2.2.2 then some (1, u) else some (0, xs_I u 27 10) := by
  unfold fm_Machine_hasElements jb_Machine_hasElements_64
  simp only [xs_let]
  rw [ix18 (by omega), show (nI s).toNatClampNeg = s from nI_clamp (by omega)]
  refine ⟨fun h0 => ?_, fun k e he h0 => ?_⟩
  · rw [if_pos (by rw [h0]; decide), if_neg (show ¬ (xs_I u 27 8).1 27 = 0 from show ¬ (8 : Int32) = 0 by decide)]
  · obtain ⟨i1, i2, i3, i4⟩ := rh_obj hz he
    obtain ⟨⟨d1, d2, d3⟩, ⟨o1, o2, o3, o4, o5⟩, -⟩ := hz.2.1 k e he
    have hsz : e.2.2.2 ≤ 2000 := by
      have := hS_top he
      have := hz.1.2.2.1
      omega
    rw [h0, i1, if_neg (show ¬ nI e.1 = 0 from fun q => i2 (i1.trans q)), nI_1, ix18 (by omega), ix2001 (by omega), show (nI (s + 1)).toNatClampNeg = s + 1 from nI_clamp (by omega), show (nI e.1).toNatClampNeg = e.1 from nI_clamp (by omega), hix, o2, lN_add2 (by omega) (by omega), nI_toL (by omega), if_pos h7, if_neg (show ¬ (xs_I u 27 10).1 27 = 0 from show ¬ (10 : Int32) = 0 by decide)]
    by_cases q : ix + cnt ≤ e.2.2.2
    · rw [if_pos q, if_pos ((lN_le2 (by omega) (by omega)).mpr q)]
    · rw [if_neg q, if_neg (fun t => q ((lN_le2 (by omega) (by omega)).mp t))]
/-- the reference at an array, with its index and the count -/
theorem mp_70 {cnt ix : Nat} {b3 : Int64} (hz : RHz T H u v) (h26 : v.1 26 = nI (n + 1)) (hn : n < 18000) (h1 : ix < 2 ^ 32) (h2 : cnt < 2 ^ 32) (h9 : ¬ v.1 9 = 15) (hm : (v.2.1 0).toInt32 = nI m) (hm64 : m < 64) : (v.2.2.2 3 n = 0 → jb_Model_doArray_70 fu (lN cnt) b3 (lN ix) v = some ((), xs_I (xs_I v 26 (nI n)) 29 8)) ∧ ∀ (k : Nat) e, H[k]? = some e → v.2.2.2 3 n = lN (2 * e.2.1 + 2) → jb_Model_doArray_70 fu (lN cnt) b3 (lN ix) v = if ix + cnt ≤ e.2.2.2 then (if (14 : Int32) ≤ v.1 9 then jb_Model_doArray_212 fu (lN cnt) b3 (v.2.2.1 7 (32 * m)) (nI (hS (H.take k) + 1) + nI ix) (xs_I v 26 (nI n)) else (if (nI (hS (H.take k) + 1) + nI ix) < 0 ∨ 2001 ≤ (nI (hS (H.take k) + 1) + nI ix).toNatClampNeg then none else if v.1 9 = 12 then jb_Model_doArray_209 fu (lN cnt) b3 (v.2.2.1 7 (32 * m)) (nI (hS (H.take k) + 1) + nI ix) 1 (v.2.2.2 5 (nI (hS (H.take k) + 1) + nI ix).toNatClampNeg) (v.2.2.1 7 (32 * m)) (xs_I v 26 (nI n)) else jb_Model_doArray_209 fu (lN cnt) b3 (v.2.2.1 7 (32 * m)) (nI (hS (H.take k) + 1) + nI ix) 0 (v.2.2.2 5 (nI (hS (H.take k) + 1) + nI ix).toNatClampNeg) (v.2.2.1 7 (32 * m)) (xs_I v 26 (nI n)))) else some ((), xs_I (xs_I v 26 (nI n)) 29 10) := by
  unfold jb_Model_doArray_70
  rw [mp_drop h26 hn, ys_seq]
  simp only [xs_let]
  refine ⟨fun h0 => ?_, fun k e he h0 => ?_⟩
  · rw [if_pos h0]
  · obtain ⟨i1, i2, i3, i4⟩ := rh_obj hz he
    obtain ⟨⟨d1, d2, d3⟩, -, ⟨q1, q2, q3, q4⟩, -⟩ := hz.2.1 k e he
    have hsz : e.2.2.2 ≤ 2000 := by
      have := hS_top he
      have := hz.1.2.2.1
      omega
    have w9 : (xs_I v 26 (nI n)).1 9 = v.1 9 := rfl
    have w0 : (xs_I v 26 (nI n)).2.1 0 = v.2.1 0 := rfl
    have wa : ∀ k j, (xs_I v 26 (nI n)).2.2.1 k j = v.2.2.1 k j := fun _ _ => rfl
    have wb : ∀ k j, (xs_I v 26 (nI n)).2.2.2 k j = v.2.2.2 k j := fun _ _ => rfl
    rw [h0, if_neg i3, if_neg (show ¬ (2 : Int64) = 0 by decide), i4, w9, if_neg h9, ix2001 (by omega), ix2001 (by omega), show (nI e.2.1).toNatClampNeg = e.2.1 from nI_clamp (by omega), w0, hm, nI_320, if_neg (nI_in (N := 2048) (by omega) (by decide)), show (nI (32 * m)).toNatClampNeg = 32 * m from nI_clamp (by omega), wa, wa, wa, wb, q1, q2, lN_add2 (by omega) (by omega), nI_toL (by omega)]
    by_cases q : ix + cnt ≤ e.2.2.2
    · rw [if_pos q, if_pos ((lN_le2 (by omega) (by omega)).mpr q), sb_nLi (d := ix) (by omega)]
    · rw [if_neg q, if_neg (fun t => q ((lN_le2 (by omega) (by omega)).mp t))]
end
