section
variable {α β γ δ σ τ : Type} {B : Nat → Int32} {u v w u' v' u0 v0 : xk_St} {T : List (Nat × List Nat × List Nat)} {F : List Nat} {G : List (Nat × Nat × Nat × Int64)} {L W0 : List Nat} {n fu tc mc lim p q len f D k tn tn' j d b g m i : Nat} {z : Nat → Nat} {LL : Nat → List Nat} {AA : Nat → sBo} {tt : Nat → Nat} {H H' : rH} {fs r rr : List rFr} {x x' : rFr} {c : Nat × List Nat × List Nat} {e : Nat × Nat × Nat × Nat} {y : Nat × sIn} {Q Qn Q1 : List sFr} {P : List rFr → Nat → Prop} {R : List Nat}
theorem vu_vu {g : Nat → α} {k : Nat} {a b : α} : va_up (va_up g k a) k b = va_up g k b := funext fun j => by
  show (if j = k then b else if j = k then a else g j) = if j = k then b else g j
  by_cases q : j = k
  · rw [if_pos q, if_pos q]
  · rw [if_neg q, if_neg q, if_neg q]
theorem ub_ub {g : Nat → Int64} {i : Nat} {a b : Int64} : vp_updL (vp_updL g i a) i b = vp_updL g i b := funext fun j => by
  by_cases q : j = i
  · rw [q, yb_t, yb_t]
  · rw [yb_j q, yb_j q, yb_j q]
theorem ua_ua {g : Nat → Int32} {i : Nat} {a b : Int32} : upd (upd g i a) i b = upd g i b := funext fun j => by
  by_cases q : j = i
  · rw [q, ya_t, ya_t]
  · rw [ya_j q, ya_j q, ya_j q]
theorem uC_B {cc : Nat} {a b : Int64} {f : Int32} : xs_B (uC u cc a f) 12 cc b = uC u cc b f := by
  show (u.1, u.2.1, va_up u.2.2.1 39 (upd (u.2.2.1 39) cc f), va_up (va_up u.2.2.2 12 (vp_updL (u.2.2.2 12) cc a)) 12 (vp_updL (vp_updL (u.2.2.2 12) cc a) cc b)) = (u.1, u.2.1, va_up u.2.2.1 39 (upd (u.2.2.1 39) cc f), va_up u.2.2.2 12 (vp_updL (u.2.2.2 12) cc b))
  rw [vu_vu, ub_ub]
theorem uP_uP {a b : Int64} {f f' m : Int32} : uP (xs_I (uP u n a f) 28 m) n b f' = uP u n b f' := by
  show (va_up (va_up (va_up u.1 28 (nI (n + 1))) 28 m) 28 (nI (n + 1)), u.2.1, va_up (va_up u.2.2.1 37 (upd (u.2.2.1 37) n f)) 37 (upd (upd (u.2.2.1 37) n f) n f'), va_up (va_up u.2.2.2 10 (vp_updL (u.2.2.2 10) n a)) 10 (vp_updL (vp_updL (u.2.2.2 10) n a) n b)) = (va_up u.1 28 (nI (n + 1)), u.2.1, va_up u.2.2.1 37 (upd (u.2.2.1 37) n f'), va_up u.2.2.2 10 (vp_updL (u.2.2.2 10) n b))
  rw [vu_vu, vu_vu, vu_vu, ua_ua, vu_vu, ub_ub]
/-- a value cut to what a part of type d keeps -/
def mk_c (d : Nat) (x : Int64) : Int64 := if d = 3 then x &&& 255 else if d = 4 then x &&& 65535 else x
theorem an_fit {x : Int64} {n : Nat} (hn : n = 8 ∨ n = 16) {y : Int64} (hy : y.toBitVec.toNat = 2 ^ n - 1) : (x &&& y).toInt32.toInt64 = x &&& y := by
  have hb : (x &&& y).toBitVec.toNat = x.toBitVec.toNat % 2 ^ n := by
    rw [Int64.toBitVec_and, BitVec.toNat_and, hy, Nat.and_two_pow_sub_one_eq_mod]
  have hlt : x.toBitVec.toNat % 2 ^ n < 65536 := by
    rcases hn with rfl | rfl
    · have := Nat.mod_lt x.toBitVec.toNat (show 2 ^ 8 > 0 by decide); omega
    · exact Nat.mod_lt x.toBitVec.toNat (show 2 ^ 16 > 0 by decide)
  have hi : (x &&& y).toInt = ((x.toBitVec.toNat % 2 ^ n : Nat) : Int) := by
    show (x &&& y).toBitVec.toInt = _
    rw [BitVec.toInt_eq_toNat_cond, hb, if_pos (by omega)]
  exact fits32 _ (by rw [hi]; omega) (by rw [hi]; omega)
theorem rv_mk {xh xm : Int64} {fh : Int32} (h : rv T H (upk d) xh fh xm) : rv T H (upk d) (mk_c d xh) fh (mk_c d xm) := by
  unfold mk_c
  by_cases q3 : d = 3
  · have e : upk d = 1 := if_pos (Or.inl q3)
    rw [e] at h ⊢
    obtain ⟨h1, h2, h3⟩ := rv_1 h
    rw [if_pos q3, if_pos q3, h1, h2]
    exact rv_n1 (an_fit (n := 8) (Or.inl rfl) (by decide))
  · by_cases q4 : d = 4
    · have e : upk d = 1 := if_pos (Or.inr q4)
      rw [e] at h ⊢
      obtain ⟨h1, h2, h3⟩ := rv_1 h
      rw [if_neg q3, if_neg q3, if_pos q4, if_pos q4, h1, h2]
      exact rv_n1 (an_fit (n := 16) (Or.inr rfl) (by decide))
    · rw [if_neg q3, if_neg q4, if_neg q3, if_neg q4]; exact h
theorem mp_packed {x : Int64} (hd : d < 150) : fm_Model_packed (nI d) x v = some (mk_c d x, v) := by
  unfold fm_Model_packed mk_c
  by_cases q3 : d = 3
  · rw [if_pos q3, if_pos (by rw [q3]; rfl)]
  · rw [if_neg (show ¬ nI d = (3 : Int32) from fun q => q3 ((nI_eq (b := 3) (by omega) (by decide)).mp q)), if_neg q3]
    by_cases q4 : d = 4
    · rw [if_pos q4, if_pos (by rw [q4]; rfl)]
    · rw [if_neg (show ¬ nI d = (4 : Int32) from fun q => q4 ((nI_eq (b := 4) (by omega) (by decide)).mp q)), if_neg q4]
theorem ix2000 {α : Type} {k : Nat} {o : Option (α × xk_St)} (hk : k < 2000) : (if nI k < 0 ∨ 2000 ≤ (nI k).toNatClampNeg then none else o) = o := if_neg (nI_in (N := 2000) hk (by decide))
theorem ix2001 {α : Type} {k : Nat} {o : Option (α × xk_St)} (hk : k < 2001) : (if nI k < 0 ∨ 2001 ≤ (nI k).toNatClampNeg then none else o) = o := if_neg (nI_in (N := 2001) hk (by decide))
theorem hp_setCell {cc s : Nat} (hd : d < 150) (hc : cc < 2000) (hs : s < 18000) (hb : u.2.2.1 37 s = 0 ∨ u.2.2.1 37 s = 1) : fm_Machine_setCell (nI cc) (nI (yv_h d)) (nI s) u = some ((), uC u cc (mk_c d (u.2.2.2 10 s)) (u.2.2.1 37 s)) := by
  obtain ⟨a1, a2⟩ := hk_pk d hd
  have ec : fm_Values_copy__h68_61 (nI s) (nI cc) u = some ((), uC u cc (u.2.2.2 10 s) (u.2.2.1 37 s)) := by
    unfold fm_Values_copy__h68_61
    simp only [xs_let]
    rw [ix18 hs, ix2000 hc, ix18 hs, ix2000 hc, show (nI s).toNatClampNeg = s from nI_clamp (by omega), show (nI cc).toNatClampNeg = cc from nI_clamp (by omega)]
    have : (xs_B u 12 cc (u.2.2.2 10 s)).2.2.1 37 s = u.2.2.1 37 s := rfl
    rw [this, bo_01 hb]; rfl
  unfold fm_Machine_setCell mk_c
  rw [ec, ys_seq]
  simp only [xs_let]
  have e12 : (uC u cc (u.2.2.2 10 s) (u.2.2.1 37 s)).2.2.2 12 cc = u.2.2.2 10 s := by
    show vp_updL (u.2.2.2 12) cc (u.2.2.2 10 s) cc = _
    rw [yb_t]
  rw [ix2000 hc, ix2000 hc, ix2000 hc, ix2000 hc, show (nI cc).toNatClampNeg = cc from nI_clamp (by omega), e12, uC_B, uC_B]
  by_cases q3 : d = 3
  · rw [if_pos (a1.mpr q3), if_pos q3]
  · rw [if_neg (fun y => q3 (a1.mp y)), if_neg q3]
    by_cases q4 : d = 4
    · rw [if_pos (a2.mpr q4), if_pos q4]
    · rw [if_neg (fun y => q4 (a2.mp y)), if_neg q4]
theorem hp_pushH {s : Nat} (h28 : u.1 28 = nI n) (hn : n < 18000) (hs : s < 2000) (hb : u.2.2.1 39 s = 0 ∨ u.2.2.1 39 s = 1) : fm_Values_pushFrom__h61_68 (nI s) u = some ((), uP u n (u.2.2.2 12 s) (u.2.2.1 39 s)) := by
  unfold fm_Values_pushFrom__h61_68 fm_Values_copy__h61_68
  simp only [xs_let]
  rw [h28, ix2000 hs, ix18 hn, ix2000 hs, ix18 hn, show (nI s).toNatClampNeg = s from nI_clamp (by omega), show (nI n).toNatClampNeg = n from nI_clamp (by omega)]
  have : (xs_B u 10 n (u.2.2.2 12 s)).2.2.1 39 s = u.2.2.1 39 s := rfl
  rw [this, bo_01 hb, ys_seq]
  have : (xs_A (xs_B u 10 n (u.2.2.2 12 s)) 37 n (u.2.2.1 39 s)).1 28 = nI n := h28
  rw [this, nI_1]
  rfl
/-- a part told with its sign, or as it is -/
def sg_c (s : Int32) (d : Nat) (x : Int64) : Int64 := if s = 0 then x else if d = 3 then (x <<< (((64 : Int32) - 8).toInt64 &&& 63)) >>> (((64 : Int32) - 8).toInt64 &&& 63) else (x <<< (((64 : Int32) - 16).toInt64 &&& 63)) >>> (((64 : Int32) - 16).toInt64 &&& 63)
theorem hp_pushCell {cc : Nat} {s : Int32} (hd : d < 150) (h28 : u.1 28 = nI n) (hn : n < 18000) (hc : cc < 2000) (hb : u.2.2.1 39 cc = 0 ∨ u.2.2.1 39 cc = 1) : fm_Machine_pushCell (nI cc) (nI (yv_h d)) s u = some ((), uP u n (sg_c s d (u.2.2.2 12 cc)) (if s = 0 then u.2.2.1 39 cc else 0)) := by
  obtain ⟨a1, a2⟩ := hk_pk d hd
  unfold fm_Machine_pushCell sg_c jb_Machine_pushCell_42 fm_Numbers_signed
  rw [hp_pushH h28 hn hc hb, ys_seq]
  by_cases q0 : s = 0
  · rw [if_pos q0, if_pos q0, if_pos q0]
  · rw [if_neg q0, if_neg q0, if_neg q0, hp_pop (n := n) rfl hn, ys_seq, ys_seq, ys_seq, hp_push (n := n) rfl hn, ys_seq, hp_push (n := n) rfl hn, ys_seq, uP_uP, uP_uP]
    have e : (uP u n (u.2.2.2 12 cc) (u.2.2.1 39 cc)).2.2.2 10 n = u.2.2.2 12 cc := by
      show vp_updL (u.2.2.2 10) n (u.2.2.2 12 cc) n = _
      rw [yb_t]
    rw [e]
    by_cases q3 : d = 3
    · rw [if_pos (a1.mpr q3), if_pos q3]
    · rw [if_neg (fun y => q3 (a1.mp y)), if_neg q3]
theorem mp_layPart {s : Int32} {x : Int64} (hd : d < 150) (h26 : v.1 26 = nI n) (hn : n < 18000) : fm_Model_layPart (nI d) x s v = some ((), vP v n (sg_c s d x) (if 16 ≤ d then 1 else 0)) := by
  unfold fm_Model_layPart jb_Model_layPart_12 jb_Model_layPart_30 sg_c fm_Model_sx
  have hR : (if d < 16 then (0 : Int32) else 1) = if 16 ≤ d then 1 else 0 := by
    by_cases q : d < 16
    · rw [if_pos q, if_neg (by omega)]
    · rw [if_neg q, if_pos (by omega)]
  have hb : (if 16 ≤ d then (1 : Int32) else 0) = 0 ∨ (if 16 ≤ d then (1 : Int32) else 0) = 1 := by
    by_cases q : 16 ≤ d
    · rw [if_pos q]; exact Or.inr rfl
    · rw [if_neg q]; exact Or.inl rfl
  by_cases q3 : d = 3
  · rw [if_pos (show nI d = 3 by rw [q3]; rfl), if_pos q3]
    by_cases q0 : s = 0
    · rw [if_pos q0, if_pos q0, mm_isRef hd, ys_seq, hR, mp_lay h26 hn hb, ys_seq]
    · rw [if_neg q0, if_neg q0, ys_seq, mm_isRef hd, ys_seq, hR, mp_lay h26 hn hb, ys_seq]
  · rw [if_neg (show ¬ nI d = 3 from fun q => q3 ((nI_eq (b := 3) (by omega) (by decide)).mp q)), if_neg q3]
    by_cases q0 : s = 0
    · rw [if_pos q0, if_pos q0, mm_isRef hd, ys_seq, hR, mp_lay h26 hn hb, ys_seq]
    · rw [if_neg q0, if_neg q0, ys_seq, mm_isRef hd, ys_seq, hR, mp_lay h26 hn hb, ys_seq]
/-- a part comes onto the stacks -/
theorem RO_part {cc : Nat} {s : Int32} {W : List Nat} (h : RS T H W u v) (hl : W.length < 18000) (hd : d < 150) (h7 : u.1 27 = 0) (h9 : v.1 29 = 0) (hc : cc < 2000) (hs : s = 0 ∨ (s = 1 ∧ (d = 3 ∨ d = 4))) (hr : rv T H (upk d) (u.2.2.2 12 cc) (u.2.2.1 39 cc) (v.2.2.2 5 cc)) : RO T H (W ++ [upk d]) u v (fm_Machine_pushCell (nI cc) (nI (yv_h d)) s u) (fm_Model_layPart (nI d) (v.2.2.2 5 cc) s v) := by
  rw [hp_pushCell hd h.1 hl hc (rv_f hr), mp_layPart hd h.2.1 hl]
  have hk : (if 16 ≤ d then (1 : Int32) else 0) = if 16 ≤ upk d then 1 else 0 := by
    unfold upk
    by_cases q : d = 3 ∨ d = 4
    · rw [if_pos q, if_neg (by omega), if_neg (by decide)]
    · rw [if_neg q]
  rw [hk]
  refine ⟨_, _, rfl, rfl, yf_mono uP_f (by decide), yf_mono vP_f (by decide), Or.inl ⟨h7, h9, RS_push h hl ?_⟩⟩
  rcases hs with q0 | ⟨q1, qd⟩
  · unfold sg_c
    rw [if_pos q0, if_pos q0, if_pos q0]; exact hr
  · have e : upk d = 1 := if_pos qd
    rw [e] at hr ⊢
    obtain ⟨h1, h2, h3⟩ := rv_1 hr
    unfold sg_c
    have hs0 : ¬ s = 0 := by rw [q1]; decide
    rw [h1, if_neg hs0, if_neg hs0]
    by_cases q3 : d = 3
    · rw [if_pos q3]
      exact rv_n1 (sx_n (n := 8) _ (Or.inl rfl))
    · rw [if_neg q3]
      exact rv_n1 (sx_n (n := 16) _ (Or.inr rfl))
theorem hp_cell {i : Nat} (hH : RHz T H u v) (he : H[k]? = some e) : fm_Heap_cellOf (nI e.1) (nI i) u = some (nI (hS (H.take k) + 1 + i), u) := by
  obtain ⟨⟨b1, b2, b3⟩, ⟨o1, o2, o3, o4, o5⟩, -⟩ := hH.2.1 k e he
  unfold fm_Heap_cellOf
  rw [ix2001 (by omega), show (nI e.1).toNatClampNeg = e.1 from nI_clamp (by omega), o3, nI_1, nI_add]
end
