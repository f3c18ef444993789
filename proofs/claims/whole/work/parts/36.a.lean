section
variable {α β γ δ σ τ : Type} {B : Nat → Int32} {u v w u' v' u0 v0 : xk_St} {T : List (Nat × List Nat × List Nat)} {F : List Nat} {G : List (Nat × Nat × Nat × Int64)} {L W0 : List Nat} {n fu tc mc lim p q len f D k tn tn' j d b g m : Nat} {z : Nat → Nat} {LL : Nat → List Nat} {AA : Nat → sBo} {tt : Nat → Nat} {H H' : rH} {fs r rr : List rFr} {x x' : rFr} {c : Nat × List Nat × List Nat} {y : Nat × sIn} {Q Qn Q1 : List sFr} {P : List rFr → Nat → Prop} {R : List Nat}
theorem sq_pushS {f : sFr} {r Q' : List sFr} {c : Nat} (h : sq_push c (f :: r) = some Q') : Q' = sf_s f (c :: f.2.2.2.2) :: r := by
  have h : (if sq_h (f :: r) = 100 then none else some (sf_s f (c :: f.2.2.2.2) :: r)) = some Q' := h
  by_cases t : sq_h (f :: r) = 100
  · rw [if_pos t] at h; cases h
  · rw [if_neg t] at h; cases h; rfl
/-- room on the stacks behind an instruction -/
theorem rf_len (h : rFt D B len T F tc mc G z LL AA tt H x r tn y Qn u v w) : ((fW LL r ++ LL x.1) ++ sq_f Qn).length ≤ 18000 := by
  have hN := fN_le h.1.1 h.1.2.2.1.2
  have h6 := h.1.2.2.2.2.2.1.2.2.1
  have hl : (x :: r).length = r.length + 1 := List.length_cons
  have hQ := h.2.1.2.2.2.2.2.2.2.2.1
  obtain ⟨⟨c, hc⟩, -⟩ := h.1.1.2.2.2.2.2.2.2 x.1 h.1.2.2.1.1.2.2.2.2.2.1.1
  have hL := hc.2.2.2.2.2.2.2.2.2.1.1
  rw [List.length_append, List.length_append, fW_len, sq_fl]
  omega
/-- an instruction with a signature -/
theorem ri_sg {ws cs : List Nat} {ou ov : Option (Unit × xk_St)} (h : rFt D B len T F tc mc G z LL AA tt H x r tn y Qn u v w) (hP : rPs P x r tn) (hs : sq_sg T ws cs x.2.2 = some Qn) (hw : ∀ w, w ∈ ws → w < 150) (ho : ∀ W, (W ++ cs).length ≤ 18000 → RS T H (W ++ ws.reverse) (uF z AA x u) w → RO T H (W ++ cs) (uF z AA x u) w ou ov) : RZ D B len T F tc mc G z LL AA tt P R ou ov := by
  obtain ⟨f0, q, hQ, hd⟩ := rf_Q h
  obtain ⟨z1, z2, z3, z4, z5⟩ := rf_0 h
  have hl := rf_len h
  rw [hQ] at hs
  have ht := sTq_sg hs hd
  obtain ⟨X, s', r1, r2, r3⟩ := RS_sg (rf_RS' h hQ) hs hd hw
  refine rz_simple h.1 h.2.1 (by rw [hQ]; exact ht) h.2.2.1 h.2.2.2.2.1 z3 (hP.2.1 _ _ (Nat.lt_succ_self _)) ?_
  have e : fW LL ((x.1, x.2.1 + 1, Qn) :: r) = ((fW LL r ++ LL x.1) ++ X) ++ cs := by
    show fW LL r ++ (LL x.1 ++ sq_f Qn) = _
    rw [r2]; simp only [List.append_assoc]
  rw [e]
  refine ho _ ?_ r1
  rw [r2, ← List.append_assoc] at hl
  exact hl
/-- an entry of the class that is handled by the simple ones -/
theorem hs_simple {o : Nat} (ho : 16 ≤ o) (ho2 : o < 40) (hk : k < 8192) : fm_Machine_step fu (nI o) (nI k) u = fm_Machine_doSimple (nI o) (u.2.2.1 8 k) u := by
  unfold fm_Machine_step
  rw [if_pos (show (16 : Int32) ≤ nI o from nI_le (a := 16) (by omega) (by omega)), if_neg (show ¬ (40 : Int32) ≤ nI o from fun y => by have := (nI_leI (a := 40) (by omega) (by omega)).mp y; omega), ix8192 hk, xs_id, show (nI k).toNatClampNeg = k from nI_clamp (by omega)]
/-- 0x1a -/
theorem ri_26 (h : rFt D B len T F tc mc G z LL AA tt H x r tn y Qn u v w) (hi : y.2.1 = 26) (hP : rPs P x r tn) : RZ D B len T F tc mc G z LL AA tt P R (fm_Machine_step fu (u.2.2.1 7 (kF z AA x)) (nI (kF z AA x)) (uF z AA x u)) (mr_st fu w) := by
  have h7 : u.2.2.1 7 (kF z AA x) = nI 26 := by rw [h.2.1.2.2.1.1, if_neg (by omega), hi]
  have h8 : w.1 8 = nI 26 := by rw [h.2.2.2.1.2.2.2.1, if_pos (by omega), hi]
  have hk : kF z AA x < 8192 := h.2.1.2.2.2.2.2.2.2.1
  obtain ⟨f0, q, hQ, hd⟩ := rf_Q h
  obtain ⟨z1, z2, z3, z4, z5⟩ := rf_0 h
  have hs := h.2.1.2.1
  unfold sq_step at hs
  rw [if_neg (by omega), if_neg (by omega), if_neg (by omega), if_neg (by omega), if_neg (by omega), if_neg (by omega), if_neg (by omega), if_neg (by omega), if_neg (by omega), if_neg (by omega), if_neg (by omega), if_neg (by omega), if_pos hi, hQ] at hs
  obtain ⟨yy, k1, k2⟩ := Option.bind_eq_some_iff.mp hs
  cases k2
  have hRS := rf_RS' h hQ
  cases hst : f0.2.2.2.2 with
  | nil => rw [sq_pop_0 hst, hd] at k1; cases k1
  | cons c s =>
    rw [sq_pop_c hst] at k1
    cases k1
    have e : (fW LL r ++ LL x.1) ++ sq_f (f0 :: q) = ((fW LL r ++ LL x.1) ++ sq_f (sf_s f0 s :: q)) ++ [c] := by
      show (fW LL r ++ LL x.1) ++ (sq_f q ++ f0.2.2.2.2.reverse) = ((fW LL r ++ LL x.1) ++ (sq_f q ++ s.reverse)) ++ [c]
      rw [hst, List.reverse_cons]
      simp only [List.append_assoc]
    rw [e] at hRS
    have h18 := hRS.2.2.1
    rw [List.length_append, List.length_singleton] at h18
    obtain ⟨a1, a2, a3⟩ := RS_pop hRS
    have e1 := hp_pop (n := ((fW LL r ++ LL x.1) ++ sq_f (sf_s f0 s :: q)).length) (by rw [hRS.1, List.length_append, List.length_singleton]) (by omega)
    have e2 := mp_drop (n := ((fW LL r ++ LL x.1) ++ sq_f (sf_s f0 s :: q)).length) (by rw [hRS.2.1, List.length_append, List.length_singleton]) (by omega)
    have e3 : mr_st fu w = some ((), xs_I w 26 (nI ((fW LL r ++ LL x.1) ++ sq_f (sf_s f0 s :: q)).length)) := by
      unfold mr_st fm_Model_doWays
      simp only [xs_let]
      rw [h8]
      show (xs_seq (fm_Model_drop w) fun a24 u25 => some ((()), u25)) = _
      rw [e2]; rfl
    rw [h7, hs_simple (by omega) (by omega) hk, e3]
    have e4 : ∀ a, fm_Machine_doSimple (nI 26) a (uF z AA x u) = some ((), xs_I (uF z AA x u) 28 (nI ((fW LL r ++ LL x.1) ++ sq_f (sf_s f0 s :: q)).length)) := fun a => by
      have : fm_Machine_doSimple (nI 26) a (uF z AA x u) = xs_seq (fm_Values_pop__h61 (uF z AA x u)) fun a5 u6 => some ((()), u6) := rfl
      rw [this, e1]; rfl
    rw [e4]
    refine rz_simple h.1 h.2.1 ⟨f0, sf_s f0 s, q, hQ, rfl, ⟨rfl, rfl, rfl⟩, hd⟩ h.2.2.1 h.2.2.2.2.1 z3 (hP.2.1 _ _ (Nat.lt_succ_self _)) ⟨_, _, rfl, rfl, yf_I yf_refl (by decide), yf_I yf_refl (by decide), Or.inl ⟨z1, z2, ?_⟩⟩
    have : fW LL ((x.1, x.2.1 + 1, sf_s f0 s :: q) :: r) = (fW LL r ++ LL x.1) ++ sq_f (sf_s f0 s :: q) := by
      show fW LL r ++ (LL x.1 ++ sq_f (sf_s f0 s :: q)) = _
      rw [List.append_assoc]
    rw [this]; exact a1
/-- 0x1b -/
theorem ri_27 (h : rFt D B len T F tc mc G z LL AA tt H x r tn y Qn u v w) (hi : y.2.1 = 27) (hP : rPs P x r tn) : RZ D B len T F tc mc G z LL AA tt P R (fm_Machine_step fu (u.2.2.1 7 (kF z AA x)) (nI (kF z AA x)) (uF z AA x u)) (mr_st fu w) := by
  have h7 : u.2.2.1 7 (kF z AA x) = nI 27 := by rw [h.2.1.2.2.1.1, if_neg (by omega), hi]
  have h8 : w.1 8 = nI 27 := by rw [h.2.2.2.1.2.2.2.1, if_pos (by omega), hi]
  have hk : kF z AA x < 8192 := h.2.1.2.2.2.2.2.2.2.1
  obtain ⟨f0, q, hQ, hd⟩ := rf_Q h
  obtain ⟨z1, z2, z3, z4, z5⟩ := rf_0 h
  have hs := h.2.1.2.1
  unfold sq_step at hs
  rw [if_neg (by omega), if_neg (by omega), if_neg (by omega), if_neg (by omega), if_neg (by omega), if_neg (by omega), if_neg (by omega), if_neg (by omega), if_neg (by omega), if_neg (by omega), if_neg (by omega), if_neg (by omega), if_neg (by omega), if_pos hi, hQ] at hs
  obtain ⟨Q0, ht0, hs⟩ := Option.bind_eq_some_iff.mp hs
  obtain ⟨y1, k1, hs⟩ := Option.bind_eq_some_iff.mp hs
  obtain ⟨y2, k2, hs⟩ := Option.bind_eq_some_iff.mp hs
  obtain ⟨⟨c1, c2, c3⟩, hs⟩ := xp_if hs
  obtain ⟨s, yv, a3, p1, p2, p3, p4⟩ := rf_cond (rf_RS' h hQ) ht0 hd
  rw [a3] at k1 p4 p1 p2
  have hst : ∃ t1 t2 s2, s = t1 :: t2 :: s2 ∧ y1.1 = t1 ∧ y2.1 = t2 ∧ y2.2 = sf_s f0 s2 :: q := by
    cases s with
    | nil =>
      rw [sq_pop_0 (show (sf_s f0 []).2.2.2.2 = [] from rfl), show (sf_s f0 []).2.2.2.1 = f0.2.2.2.1 from rfl, hd] at k1; cases k1
    | cons t1 s =>
      rw [sq_pop_c (show (sf_s f0 (t1 :: s)).2.2.2.2 = t1 :: s from rfl)] at k1
      cases k1
      cases s with
      | nil =>
        have k2 : sq_pop (sf_s f0 [] :: q) = some y2 := k2
        rw [sq_pop_0 (show (sf_s f0 []).2.2.2.2 = [] from rfl), show (sf_s f0 []).2.2.2.1 = f0.2.2.2.1 from rfl, hd] at k2; cases k2
      | cons t2 s =>
        have k2 : sq_pop (sf_s f0 (t2 :: s) :: q) = some y2 := k2
        rw [sq_pop_c (show (sf_s f0 (t2 :: s)).2.2.2.2 = t2 :: s from rfl)] at k2
        cases k2
        exact ⟨t1, t2, s, rfl, rfl, rfl, rfl⟩
  obtain ⟨t1, t2, s2, rfl, n1, n2, n3⟩ := hst
  rw [n1, n2] at c3 hs
  rw [n1] at c1
  rw [n2] at c2
  rw [n3] at hs
  have e : (fW LL r ++ LL x.1) ++ sq_f (sf_s f0 (t1 :: t2 :: s2) :: q) = (((fW LL r ++ LL x.1) ++ sq_f (sf_s f0 s2 :: q)) ++ [t2]) ++ [t1] := by
    show (fW LL r ++ LL x.1) ++ (sq_f q ++ (t1 :: t2 :: s2).reverse) = (((fW LL r ++ LL x.1) ++ (sq_f q ++ s2.reverse)) ++ [t2]) ++ [t1]
    rw [List.reverse_cons, List.reverse_cons]
    simp only [List.append_assoc]
  rw [e] at p4 p1 p2
  generalize hW : (fW LL r ++ LL x.1) ++ sq_f (sf_s f0 s2 :: q) = W at *
  have ty : ∀ {t : Nat} {X : List Nat} {u v : xk_St}, RS T H (X ++ [t]) u v → t < 3 → t = 1 ∨ t = 2 := fun {t X u v} hh ht => by
    have := rv_c (RS_pop hh).2.1
    omega
  have ty1 := ty p4 c1
  have rp1 := (RS_pop p4).1
  have ty2 := ty rp1 c2
  have h12 : t1 = t2 := by omega
  subst h12
  rw [if_neg (by omega)] at hs
  have hsv := sq_pushS hs
  obtain ⟨ya, b1, b2, b3, b4, b5⟩ := RS_n p4 ty1
  obtain ⟨yb, d1, d2, d3, d4, d5⟩ := RS_n b4 ty1
  have l1 : (W ++ [t1]).length = W.length + 1 := by rw [List.length_append, List.length_singleton]
  have hRf : fW LL ((x.1, x.2.1 + 1, Qn) :: r) = W ++ [t1] := by
    show fW LL r ++ (LL x.1 ++ sq_f Qn) = _
    rw [hsv, ← hW]
    show fW LL r ++ (LL x.1 ++ (sq_f q ++ (t1 :: s2).reverse)) = ((fW LL r ++ LL x.1) ++ (sq_f q ++ s2.reverse)) ++ [t1]
    rw [List.reverse_cons]
    simp only [List.append_assoc]
  have hTq : sTq x.2.2 Qn := by
    rw [hQ, hsv]
    exact ⟨f0, _, q, rfl, rfl, ⟨rfl, rfl, rfl⟩, hd⟩
  rw [h7, hs_simple (by omega) (by omega) hk]
  refine rz_simple h.1 h.2.1 hTq h.2.2.1 h.2.2.2.2.1 z3 (hP.2.1 _ _ (Nat.lt_succ_self _)) ?_
  rw [hRf]
  have e4 : ∀ a, fm_Machine_doSimple (nI 27) a (uF z AA x u) = xs_seq (fm_Values_pop__h61 (uF z AA x u)) fun a7 u8 => xs_seq (fm_Values_pop__h61 u8) fun a9 u10 => if a7 = (0 : Int64) then ((xs_seq (fm_Values_pop__h61 u10) fun a11 u12 => xs_seq (fm_Values_push__h61 a9 u12) fun _ u13 => jb_Machine_doSimple_163 u13)) else (jb_Machine_doSimple_163 u10) := fun a => rfl
  have e5 : mr_st fu w = xs_seq (fm_Model_drop w) fun a26 u27 => if a26 = (0 : Int64) then (jb_Model_doWays_360 fu (0 : Int32) u27) else (jb_Model_doWays_360 fu (1 : Int32) u27) := by
    unfold mr_st fm_Model_doWays
    simp only [xs_let]
    rw [h8]; rfl
  rw [e4, e5, p1, p2, ys_seq, ys_seq, b1, ys_seq]
  have c360 : ∀ s0, jb_Model_doWays_360 fu s0 (xs_I w 26 (nI ((W ++ [t1]) ++ [t1]).length)) = if s0 = (0 : Int32) then some ((), xs_B (xs_I (xs_I w 26 (nI ((W ++ [t1]) ++ [t1]).length)) 26 (nI (W ++ [t1]).length)) 3 W.length ya) else some ((), xs_I (xs_I w 26 (nI ((W ++ [t1]) ++ [t1]).length)) 26 (nI (W ++ [t1]).length)) := fun s0 => by
    unfold jb_Model_doWays_360
    rw [b2, ys_seq]
    have : (xs_I (xs_I w 26 (nI ((W ++ [t1]) ++ [t1]).length)) 26 (nI (W ++ [t1]).length)).1 26 = nI (W.length + 1) := by rw [← l1]; rfl
    rw [this, nI_pred, ix19 (by omega), show (nI W.length).toNatClampNeg = W.length from nI_clamp (by omega)]
    rfl
  by_cases cy : yv = 0
  · rw [if_pos cy, if_pos cy, d1, ys_seq, hp_push d4.1 (by omega), ys_seq, c360 0, if_pos rfl]
    have hrv : rv T H t1 ya 0 ya := by
      rcases ty1 with t | t
      · rw [t]; exact rv_n1 (b3 t)
      · rw [t]; exact rv_n2
    have hp := RS_push d4 (by omega) hrv
    refine ⟨_, _, rfl, rfl, yf_mono (yf_trans (yf_I (I := [27, 28]) (J := []) (A := [37]) (B := [10]) (yf_I (yf_I yf_refl (by decide)) (by decide)) (by decide)) (yf_mono uP_f (by decide))) (by decide), yf_B (yf_I (yf_I yf_refl (by decide)) (by decide)) (by decide), Or.inl ⟨z1, z2, ?_⟩⟩
    obtain ⟨g1, g2, g3, g4⟩ := hp
    refine ⟨g1, ?_, g3, fun i cc hc => ?_⟩
    · show nI (W ++ [t1]).length = nI (W ++ [t1]).length
      rfl
    · have g5 := g4 i cc hc
      refine ⟨g5.1, ?_⟩
      show w.2.2.1 29 i = _
      by_cases zi : i = W.length
      · subst zi
        rw [List.getElem?_append_right (Nat.le_refl _), Nat.sub_self] at hc
        cases hc
        exact ((b4.2.2.2) W.length t1 (by rw [List.getElem?_append_right (Nat.le_refl _), Nat.sub_self]; rfl)).2
      · rw [List.getElem?_append_left (by have := yl_lt hc; omega)] at hc
        exact ((b4.2.2.2) i cc (by rw [List.getElem?_append_left (yl_lt hc)]; exact hc)).2
  · rw [if_neg cy, if_neg cy, c360 1, if_neg (by decide)]
    exact ⟨_, _, rfl, rfl, yf_I (yf_I yf_refl (by decide)) (by decide), yf_I (yf_I yf_refl (by decide)) (by decide), Or.inl ⟨z1, z2, b4⟩⟩
/-- 0x41 and 0x42 -/
theorem ri_65 (h : rFt D B len T F tc mc G z LL AA tt H x r tn y Qn u v w) (hi : y.2.1 = 65 ∨ y.2.1 = 66) (hP : rPs P x r tn) (hx : y.2.1 = 65 → ((yb_m y.2.2.1).toInt32.toInt64 = yb_m y.2.2.1)) (h2 : u.2.2.2 2 (kF z AA x) = yb_m y.2.2.1) : RZ D B len T F tc mc G z LL AA tt P R (fm_Machine_step fu (u.2.2.1 7 (kF z AA x)) (nI (kF z AA x)) (uF z AA x u)) (mr_st fu w) := by
  have h7 : u.2.2.1 7 (kF z AA x) = nI y.2.1 := by rw [h.2.1.2.2.1.1, if_neg (by omega)]
  have h8 : w.1 8 = nI y.2.1 := by rw [h.2.2.2.1.2.2.2.1, if_pos (by omega)]
  have hk : kF z AA x < 8192 := h.2.1.2.2.2.2.2.2.2.1
  obtain ⟨z1, z2, z3, z4, z5⟩ := rf_0 h
  have hs := h.2.1.2.1
  unfold sq_step at hs
  rw [if_neg (by omega), if_neg (by omega), if_neg (by omega), if_neg (by omega), if_neg (by omega), if_neg (by omega), if_neg (by omega), if_neg (by omega), if_neg (by omega), if_neg (by omega), if_neg (by omega), if_neg (by omega), if_neg (by omega), if_neg (by omega), if_neg (by omega), if_neg (by omega), if_neg (by omega), if_pos (by omega)] at hs
  have hs' : sq_sg T [] [y.2.1 - 64] x.2.2 = some Qn := by
    show (sq_push (y.2.1 - 64) x.2.2).bind (sq_pushes []) = some Qn
    rw [hs]; rfl
  refine ri_sg h hP hs' (fun w hw => by cases hw) fun W hW hRS => ?_
  have e0 : mr_st fu w = fm_Model_tell (yb_m y.2.2.1) w := by
    have : mr_st fu w = xs_seq (fm_Model_tell (w.2.1 0) w) fun _ u22 => some ((()), u22) := by
      unfold mr_st fm_Model_doNumbers
      rw [h8]
      rcases hi with t | t <;> rw [t] <;> rfl
    rw [this, xs_id, h.2.2.2.1.1]
  have e1 : fm_Machine_step fu (nI y.2.1) (nI (kF z AA x)) (uF z AA x u) = fm_Values_push__h61 (yb_m y.2.2.1) (uF z AA x u) := by
    have : fm_Machine_step fu (nI y.2.1) (nI (kF z AA x)) (uF z AA x u) = (if nI (kF z AA x) < 0 ∨ 8192 ≤ (nI (kF z AA x)).toNatClampNeg then none else xs_seq (fm_Values_push__h61 ((uF z AA x u).2.2.2 2 (nI (kF z AA x)).toNatClampNeg) (uF z AA x u)) fun _ u6 => some ((()), u6)) := by
      rcases hi with t | t <;> rw [t] <;> rfl
    rw [this, ix8192 hk, xs_id, show (nI (kF z AA x)).toNatClampNeg = kF z AA x from nI_clamp (by omega)]
    have : (uF z AA x u).2.2.2 2 (kF z AA x) = yb_m y.2.2.1 := h2
    rw [this]
  rw [h7, e0, e1]
  rw [List.reverse_nil, List.append_nil] at hRS
  rw [List.length_append, List.length_singleton] at hW
  refine RO_push hRS (by omega) z1 z2 ?_ (by omega)
  rcases hi with t | t
  · rw [show y.2.1 - 64 = 1 by omega]; exact rv_n1 (hx t)
  · rw [show y.2.1 - 64 = 2 by omega]; exact rv_n2
end
