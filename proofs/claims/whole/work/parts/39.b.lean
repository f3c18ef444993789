section
variable {α β γ δ σ τ : Type} {B : Nat → Int32} {u v w u' v' u0 v0 : xk_St} {T : List (Nat × List Nat × List Nat)} {F : List Nat} {G : List (Nat × Nat × Nat × Int64)} {L W0 : List Nat} {n fu tc mc lim p q len f D k tn tn' j d b g m : Nat} {z : Nat → Nat} {LL : Nat → List Nat} {AA : Nat → sBo} {tt : Nat → Nat} {H H' : rH} {fs r rr : List rFr} {x x' : rFr} {c : Nat × List Nat × List Nat} {y : Nat × sIn} {Q Qn Q1 : List sFr} {P : List rFr → Nat → Prop} {R : List Nat}
theorem hs_obj {o : Nat} (ho : 256 ≤ o) (ho2 : o < 287) (hk : k < 8192) : fm_Machine_step fu (nI o) (nI k) u = if 276 ≤ o then fm_Machine_doKind (nI (o - 256)) (u.2.2.1 8 k) u else if 262 ≤ o then fm_Machine_doArray fu (nI (o - 256)) (u.2.2.1 8 k) ((u.2.2.2 2 k).toInt32) u else fm_Machine_doStructure fu (nI (o - 256)) (u.2.2.1 8 k) ((u.2.2.2 2 k).toInt32) u := by
  unfold fm_Machine_step
  rw [if_pos (show (16 : Int32) ≤ nI o from nI_le (a := 16) (by omega) (by omega)), if_pos (show (40 : Int32) ≤ nI o from nI_le (a := 40) (by omega) (by omega)), if_pos (show (64 : Int32) < nI o from (nI_ltI (a := 64) (by omega) (by omega)).mpr (by omega)), if_pos (show (66 : Int32) < nI o from (nI_ltI (a := 66) (by omega) (by omega)).mpr (by omega)), if_pos (show (208 : Int32) ≤ nI o from nI_le (a := 208) (by omega) (by omega)), if_pos (show (256 : Int32) ≤ nI o from nI_le (a := 256) (by omega) (by omega)), show nI o - 256 = nI (o - 256) from pk_sub (b := 256) ho, ix8192 hk, ix8192 hk, ix8192 hk, ix8192 hk, ix8192 hk, xs_id, xs_id, xs_id, show (nI k).toNatClampNeg = k from nI_clamp (by omega)]
  by_cases c1 : 262 ≤ o
  · rw [if_pos (show (262 : Int32) ≤ nI o from nI_le (a := 262) (by omega) (by omega))]
    by_cases c2 : 276 ≤ o
    · rw [if_pos (show (276 : Int32) ≤ nI o from nI_le (a := 276) (by omega) (by omega)), if_pos c2]
    · rw [if_neg (show ¬ (276 : Int32) ≤ nI o from fun q => by have := (nI_leI (a := 276) (by omega) (by omega)).mp q; omega), if_neg c2, if_pos c1]
  · rw [if_neg (show ¬ (262 : Int32) ≤ nI o from fun q => by have := (nI_leI (a := 262) (by omega) (by omega)).mp q; omega), if_neg (by omega), if_neg c1]
theorem mr_obj {o : Nat} (h8 : w.1 8 = nI 251) : mr_st fu w = fm_Model_doObjects fu w := by
  unfold mr_st
  rw [h8, if_pos (by decide), if_pos (by decide), if_pos (by decide), if_pos (by decide), if_pos (by decide)]
/-- an instruction on objects -/
theorem rf_obj (h : rFt D B len T F tc mc G z LL AA tt H x r tn y Qn u v w) (hi : 256 ≤ y.2.1) : y.2.1 < 287 ∧ kF z AA x < 8192 ∧ u.2.2.1 7 (kF z AA x) = nI y.2.1 ∧ w.1 9 = nI (y.2.1 - 256) ∧ mr_st fu w = fm_Model_doObjects fu w ∧ (if y.2.1 < 262 then sq_struct T (y.2.1 - 256) (yx_n y.2.2.1) (sb_n y.2.2.2.1) x.2.2 else if y.2.1 = 271 then sq_len T x.2.2 else if y.2.1 < 276 then sq_array T (y.2.1 - 256) (yx_n y.2.2.1) (sb_n y.2.2.2.1) x.2.2 else sq_kind T (y.2.1 - 256) (yx_n y.2.2.1) x.2.2) = some Qn := by
  have hg := h.2.1.2.2.2.2.2.2.1
  have h7 : u.2.2.1 7 (kF z AA x) = nI y.2.1 := by rw [h.2.1.2.2.1.1, if_neg (by omega)]
  have h8 : w.1 8 = nI 251 := by rw [h.2.2.2.1.2.2.2.1, if_neg (by omega)]
  have h9 : w.1 9 = nI (y.2.1 - 256) := by rw [h.2.2.2.1.2.2.2.2, if_neg (by omega)]
  refine ⟨hg.1, h.2.1.2.2.2.2.2.2.2.1, h7, h9, mr_obj (o := 0) h8, ?_⟩
  have hs := h.2.1.2.1
  unfold sq_step at hs
  rw [if_neg (by omega), if_neg (by omega), if_neg (by omega), if_neg (by omega), if_neg (by omega), if_neg (by omega), if_neg (by omega), if_neg (by omega), if_neg (by omega), if_neg (by omega), if_neg (by omega), if_neg (by omega), if_neg (by omega), if_neg (by omega), if_neg (by omega), if_neg (by omega), if_neg (by omega), if_neg (by omega), if_neg (by omega), if_neg (by omega), if_neg (by omega), if_neg (by omega), if_neg (by omega), if_neg (by omega), if_neg (by omega)] at hs
  exact hs
/-- a reference and what both sides say of its kind -/
theorem rk_isOf {d t : Nat} {xh xm : Int64} {fh : Int32} (hH : RHp T H u v) (hCe : yCe T u) (hTM : yTM T v) (ht : t < 2 ∨ (2 ≤ t ∧ t - 2 < T.length)) (hr : rv T H d xh fh xm) (hd : 16 ≤ d) : ∃ b, (b = 0 ∨ b = 1) ∧ (¬ xh = 0 → fm_Machine_isOf xh.toInt32 (nI (yv_t t)) u = some (b, u)) ∧ (xh = 0 → b = 0) ∧ fm_Model_isOf xm (nI t) v = some (b, v) ∧ (xh = 0 ↔ xh.toInt32 = 0) ∧ (b = 1 → rv T H (16 + 2 * t) xh fh xm) := by
  have hT64 := hTM.2.1.1
  have hKr := rv_K hr hd
  rcases hr with ⟨a, -⟩ | ⟨a, -⟩ | ⟨-, h150, hr⟩
  · omega
  · omega
  rcases hr with ⟨r1, r2, -, -⟩ | ⟨r1, -, n, r2, r3, r4⟩ | ⟨r1, k, e, r2, r3, r4, -⟩
  · -- empty
    refine ⟨0, Or.inl rfl, fun t => absurd r1 t, fun _ => rfl, ?_, ?_, fun t => by cases t⟩
    · unfold fm_Model_isOf
      rw [r2, if_pos rfl]
    · rw [r1]; exact iff_of_true rfl (by decide)
  · -- small
    have hne : ¬ xh.toInt32 = 0 := fun q => by
      have := congrArg Int32.toInt q
      rw [r3, ri_i r2] at this
      have : (n : Int) - 2147483648 = 0 := this
      omega
    have hneg : ¬ (0 : Int32) ≤ xh.toInt32 := fun q => by
      have := Int32.le_iff_toInt_le.mp q
      rw [r3, ri_i r2] at this
      have : (0 : Int) ≤ (n : Int) - 2147483648 := this
      omega
    have hle0 : xh.toInt32 ≤ 0 := Int32.le_iff_toInt_le.mpr (by
      rw [r3, ri_i r2]
      show (n : Int) - 2147483648 ≤ 0
      omega)
    have hx0 : ¬ xm = 0 := fun q => by
      have := lN_inj (a := 2 * n + 1) (b := 0) (by omega) (by omega) (r4.symm.trans q)
      omega
    have hodd : xm &&& 1 = 1 := by
      rw [r4, lN_odd (by omega), show (2 * n + 1) % 2 = 1 by omega]; rfl
    refine ⟨if t < 2 then 1 else 0, ?_, fun _ => ?_, fun q => absurd (by rw [q]; decide) hne, ?_, iff_of_false (fun q => hne (by rw [q]; decide)) hne, fun hb => ?_⟩
    · by_cases c : t < 2
      · rw [if_pos c]; exact Or.inr rfl
      · rw [if_neg c]; exact Or.inl rfl
    · unfold fm_Machine_isOf
      by_cases c0 : t = 0
      · rw [if_pos (show nI (yv_t t) = 0 by rw [c0]; rfl), if_pos (show t < 2 by omega)]
      · by_cases c1 : t = 1
        · rw [if_neg (show ¬ nI (yv_t t) = 0 by rw [c1]; decide), if_pos (show nI (yv_t t) = 1 by rw [c1]; decide), if_neg hneg, if_pos (show t < 2 by omega)]
        · have e1 : yv_t t = t + 1 := if_neg (by omega)
          rw [e1, if_neg (show ¬ t < 2 by omega), if_neg (fun q => by have := (nI_eq (b := 0) (by omega) (by decide)).mp q; omega), if_neg (fun q => by have := (nI_eq (b := 1) (by omega) (by decide)).mp q; omega), if_pos hle0]
    · unfold fm_Model_isOf jb_Model_isOf_21 jb_Model_isOf_37
      rw [if_neg hx0, if_pos hodd]
      by_cases c : t < 2
      · rw [if_neg (fun q => by have := (nI_leI (a := 2) (by decide) (by omega)).mp q; omega), if_pos c]
        by_cases c0 : t = 0
        · rw [if_pos (show nI t = 0 by rw [c0]; rfl)]
        · rw [if_neg (show ¬ nI t = 0 from fun q => c0 ((nI_eq (b := 0) (by omega) (by decide)).mp q)), if_neg (by decide)]
      · rw [if_pos (show (2 : Int32) ≤ nI t from nI_le (a := 2) (by omega) (by omega)), if_neg (show ¬ (1 : Int32) = 0 by decide), if_neg c]
    · have c : t < 2 := by
        refine Nat.lt_of_not_le fun q => ?_
        rw [if_neg (by omega)] at hb; cases hb
      exact Or.inr (Or.inr ⟨by omega, by omega, Or.inr (Or.inl ⟨r1, by omega, n, r2, r3, r4⟩)⟩)
  · -- an object
    obtain ⟨⟨b1, b2, b3⟩, ⟨o1, o2, o3, o4, o5⟩, ⟨p1, p2, p3, p4⟩, c, hc, -, -⟩ := hH.2.1 k e r2
    have hel := yl_lt hc
    have hi : xh.toInt32 = nI e.1 := by rw [r3]; exact sb_nLi (by omega)
    have hne : ¬ xh.toInt32 = 0 := fun q => by
      rw [hi] at q
      have := (nI_eq (b := 0) (by omega) (by decide)).mp q
      omega
    have hnn : (0 : Int32) ≤ nI e.1 := nI_le (a := 0) (by omega) (by omega)
    have hgt : ¬ nI e.1 ≤ 0 := fun q => by have := (nI_leI (b := 0) (by omega) (by decide)).mp q; omega
    have hx0 : ¬ xm = 0 := fun q => by
      have := lN_inj (a := 2 * e.2.1 + 2) (b := 0) (by omega) (by omega) (r4.symm.trans q)
      omega
    have heven : ¬ xm &&& 1 = 1 := by
      rw [r4, lN_odd (by omega), show (2 * e.2.1 + 2) % 2 = 0 by omega]; decide
    have hq : (xm / 2).toInt32 - 1 = nI e.2.1 := by
      rw [r4, show 2 * e.2.1 + 2 = 2 * (e.2.1 + 1) by omega, lN_div2 (by omega), sb_nLi (by omega)]
      exact nI_pred _
    refine ⟨if t = 0 ∨ (2 ≤ t ∧ yl_f T e.2.2.1 = yl_f T (t - 2)) then 1 else 0, ?_, fun _ => ?_, fun q => absurd (by rw [q]; decide) hne, ?_, iff_of_false (fun q => hne (by rw [q]; decide)) hne, fun hb => ?_⟩
    · by_cases cc : t = 0 ∨ (2 ≤ t ∧ yl_f T e.2.2.1 = yl_f T (t - 2))
      · rw [if_pos cc]; exact Or.inr rfl
      · rw [if_neg cc]; exact Or.inl rfl
    · unfold fm_Machine_isOf
      rw [hi]
      by_cases c0 : t = 0
      · rw [if_pos (show nI (yv_t t) = 0 by rw [c0]; rfl), if_pos (Or.inl c0)]
      · by_cases c1 : t = 1
        · rw [if_neg (show ¬ nI (yv_t t) = 0 by rw [c1]; decide), if_pos (show nI (yv_t t) = 1 by rw [c1]; decide), if_pos hnn, if_neg (fun q => by omega)]
        · have e1 : yv_t t = t + 1 := if_neg (by omega)
          have e2 : nI (t + 1) - 3 = nI (t - 2) := by
            rw [show (3 : Int32) = nI 3 from rfl, pk_sub (by omega), show t + 1 - 3 = t - 2 by omega]
          have hle := yl_fle (yTM_ah hTM)
          have l1 := hle e.2.2.1
          have l2 := hle (t - 2)
          rw [e1, if_neg (fun q => by have := (nI_eq (b := 0) (by omega) (by decide)).mp q; omega), if_neg (fun q => by have := (nI_eq (b := 1) (by omega) (by decide)).mp q; omega), if_neg hgt, if_neg (nI_in (N := 2001) (by omega) (by decide)), e2, if_neg (nI_in (N := 65) (by omega) (by decide)), show (nI e.1).toNatClampNeg = e.1 from nI_clamp (by omega), show (nI (t - 2)).toNatClampNeg = t - 2 from nI_clamp (by omega), o1, hCe.2.2 (t - 2) (by omega)]
          by_cases cc : yl_f T e.2.2.1 = yl_f T (t - 2)
          · rw [if_pos (by rw [cc]), if_pos (Or.inr ⟨by omega, cc⟩)]
          · rw [if_neg (fun q => cc ((nI_eq (by omega) (by omega)).mp q)), if_neg (fun q => by rcases q with q | q; exact c0 q; exact cc q.2)]
    · unfold fm_Model_isOf jb_Model_isOf_21 jb_Model_isOf_37
      rw [if_neg hx0, if_neg heven]
      by_cases c : t < 2
      · rw [if_neg (fun q => by have := (nI_leI (a := 2) (by decide) (by omega)).mp q; omega)]
        by_cases c0 : t = 0
        · rw [if_pos (show nI t = 0 by rw [c0]; rfl), if_pos (Or.inl c0)]
        · rw [if_neg (show ¬ nI t = 0 from fun q => c0 ((nI_eq (b := 0) (by omega) (by decide)).mp q)), if_pos rfl, if_neg (fun q => by omega)]
      · have e2 : nI t - 2 = nI (t - 2) := pk_sub (b := 2) (by omega)
        have hle := yl_fle (yTM_ah hTM)
        have l1 := hle e.2.2.1
        have l2 := hle (t - 2)
        rw [if_pos (show (2 : Int32) ≤ nI t from nI_le (a := 2) (by omega) (by omega)), if_pos (show (0 : Int32) = 0 from rfl), if_neg (show ¬ (2 : Int64) = 0 by decide), hq, if_neg (nI_in (N := 2001) (by omega) (by decide)), show (nI e.2.1).toNatClampNeg = e.2.1 from nI_clamp (by omega), p3, if_neg (nI_in (N := 64) (by omega) (by decide)), e2, if_neg (nI_in (N := 64) (by omega) (by decide)), show (nI e.2.2.1).toNatClampNeg = e.2.2.1 from nI_clamp (by omega), show (nI (t - 2)).toNatClampNeg = t - 2 from nI_clamp (by omega), hTM.2.2.2 e.2.2.1 hel, hTM.2.2.2 (t - 2) (by omega)]
        by_cases cc : yl_f T e.2.2.1 = yl_f T (t - 2)
        · rw [if_pos (by rw [cc]), if_pos (Or.inr ⟨by omega, cc⟩)]
        · rw [if_neg (fun q => cc ((nI_eq (by omega) (by omega)).mp q)), if_neg (fun q => by rcases q with q | q; omega; exact cc q.2)]
    · by_cases cc : t = 0 ∨ (2 ≤ t ∧ yl_f T e.2.2.1 = yl_f T (t - 2))
      · refine Or.inr (Or.inr ⟨by omega, by omega, Or.inr (Or.inr ⟨r1, k, e, r2, r3, r4, ?_⟩)⟩)
        rcases cc with cc | cc
        · exact Or.inl (by omega)
        · refine Or.inr ⟨by omega, ?_⟩
          rw [cc.2, show (16 + 2 * t - 20) / 2 = t - 2 by omega]
      · rw [if_neg cc] at hb; cases hb
end
