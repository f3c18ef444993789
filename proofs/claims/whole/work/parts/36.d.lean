section
variable {α β γ δ σ τ : Type} {B : Nat → Int32} {u v w u' v' u0 v0 : xk_St} {T : List (Nat × List Nat × List Nat)} {F : List Nat} {G : List (Nat × Nat × Nat × Int64)} {L W0 : List Nat} {n fu tc mc lim p q len f D k tn tn' j d b g m : Nat} {z : Nat → Nat} {LL : Nat → List Nat} {AA : Nat → sBo} {tt : Nat → Nat} {H H' : rH} {fs r rr : List rFr} {x x' : rFr} {c : Nat × List Nat × List Nat} {y : Nat × sIn} {Q Qn Q1 : List sFr} {P : List rFr → Nat → Prop} {R : List Nat}
/-- an instruction that works on the stack, globals, memory and objects -/
def RP (T : List (Nat × List Nat × List Nat)) (F : List Nat) (tc : Nat) (G : List (Nat × Nat × Nat × Int64)) (W' : List Nat) (u v : xk_St) (ou ov : Option (Unit × xk_St)) : Prop := ∃ u' v', ou = some ((), u') ∧ ov = some ((), v') ∧ yf_fr [27, 28, 30, 31, 32, 33] [] [37, 38, 39, 40, 41, 42, 43, 44, 45, 46] [10, 11, 12] u u' ∧ yf_fr [16, 26, 29, 32, 33, 34] [0, 1] [27, 29, 37, 38, 39, 40, 41, 42] [2, 3, 5] v v' ∧ ((u'.1 27 = 0 ∧ v'.1 29 = 0 ∧ ∃ H', RS T H' W' u' v' ∧ RD T F tc H' G u' v') ∨ ∃ t H', 0 < t ∧ t < 20 ∧ u'.1 27 = nI t ∧ v'.1 29 = nI t ∧ RD T F tc H' G u' v')
theorem rz_data {ou ov : Option (Unit × xk_St)} (h : rFt D B len T F tc mc G z LL AA tt H x r tn y Qn u v w) (ht : sTq x.2.2 Qn) (hP : rPs P x r tn) (ho : RP T F tc G (fW LL ((x.1, x.2.1 + 1, Qn) :: r)) (uF z AA x u) w ou ov) : RZ D B len T F tc mc G z LL AA tt P R ou ov := by
  obtain ⟨z1, z2, z3, z4, z5⟩ := rf_0 h
  obtain ⟨u', v', o1, o2, o3, o4, o5⟩ := ho
  have hU : yf_fr [26, 27, 28, 30, 31, 32, 33] [] [37, 38, 39, 40, 41, 42, 43, 44, 45, 46] [10, 11, 12] u u' := yf_trans (yf_I yf_refl (by decide)) (yf_mono o3 (by decide))
  have hV : yf_fr [4, 6, 8, 9, 10, 11, 16, 23, 26, 29, 32, 33, 34] [0, 1] [27, 29, 37, 38, 39, 40, 41, 42] [2, 3, 5] v v' := yf_trans (yf_mono h.2.2.1 (by decide)) (yf_mono o4 (by decide))
  have h7 := h.1.2.2.2.2.2.2.1
  refine ⟨u', v', o1, o2, ?_⟩
  rcases o5 with ⟨a1, a2, H', a3, a4⟩ | ⟨t, H', t0, t1, t2, t3, t4⟩
  · exact Or.inl ⟨H', _, tn, rx_next h.1 h.2.1 ht h.2.2.1 h.2.2.2.2.1 h.2.2.2.2.2.1 o3 (by decide) o4 (by decide) a3 a4 a1 a2, hP.2.1 _ _ (Nat.lt_succ_self _)⟩
  · refine Or.inr (Or.inl ⟨H', tn, t, t0, t1, t2, t3, rSt_fv (rSt_fu h.1.1 hU (by decide)) hV (by decide), t4, ?_, ?_, h7.2.2⟩)
    · rw [hU.1 23 (by decide)]; exact h7.1
    · rw [hV.2.1 2 (by decide)]; exact h7.2.1
theorem ri_sgP {ws cs : List Nat} {ou ov : Option (Unit × xk_St)} (h : rFt D B len T F tc mc G z LL AA tt H x r tn y Qn u v w) (hP : rPs P x r tn) (hs : sq_sg T ws cs x.2.2 = some Qn) (hw : ∀ w, w ∈ ws → w < 150) (ho : ∀ X, (((fW LL r ++ LL x.1) ++ X) ++ cs).length ≤ 18000 → RS T H (((fW LL r ++ LL x.1) ++ X) ++ ws.reverse) (uF z AA x u) w → RD T F tc H G (uF z AA x u) w → RP T F tc G (((fW LL r ++ LL x.1) ++ X) ++ cs) (uF z AA x u) w ou ov) : RZ D B len T F tc mc G z LL AA tt P R ou ov := by
  obtain ⟨f0, q, hQ, hd⟩ := rf_Q h
  obtain ⟨z1, z2, z3, z4, z5⟩ := rf_0 h
  have hl := rf_len h
  rw [hQ] at hs
  have ht := sTq_sg hs hd
  obtain ⟨X, s', r1, r2, r3⟩ := RS_sg (rf_RS' h hQ) hs hd hw
  refine rz_data h (by rw [hQ]; exact ht) hP ?_
  have e : fW LL ((x.1, x.2.1 + 1, Qn) :: r) = ((fW LL r ++ LL x.1) ++ X) ++ cs := by
    show fW LL r ++ (LL x.1 ++ sq_f Qn) = _
    rw [r2]; simp only [List.append_assoc]
  rw [e]
  refine ho _ ?_ r1 (RD_fv (RD_fu h.1.2.2.2.2.1 z4 (by decide)) z5 (by decide))
  rw [r2, ← List.append_assoc] at hl
  exact hl
/-- 0x23 and 0x24 -/
theorem ri_35 (h : rFt D B len T F tc mc G z LL AA tt H x r tn y Qn u v w) (hi : y.2.1 = 35 ∨ y.2.1 = 36) (hP : rPs P x r tn) : RZ D B len T F tc mc G z LL AA tt P R (fm_Machine_step fu (u.2.2.1 7 (kF z AA x)) (nI (kF z AA x)) (uF z AA x u)) (mr_st fu w) := by
  obtain ⟨m, m1, m2, h7, h8, e8, hj, hk, es, er⟩ := rf_name (fu := fu) h ⟨by omega, by omega⟩
  obtain ⟨z1, z2, z3, z4, z5⟩ := rf_0 h
  have hs := h.2.1.2.1
  unfold sq_step at hs
  rw [if_neg (by omega), if_neg (by omega), if_neg (by omega), if_neg (by omega), if_neg (by omega), if_neg (by omega), if_neg (by omega), if_neg (by omega), if_neg (by omega), if_neg (by omega), if_neg (by omega), if_neg (by omega), if_neg (by omega), if_neg (by omega), if_neg (by omega), if_pos (by omega), m2, yx_lN (by omega)] at hs
  obtain ⟨a, hG, hs⟩ := Option.bind_eq_some_iff.mp hs
  obtain ⟨hmut, hs⟩ := xp_if hs
  have hml := yl_lt hG
  have hG64 := h.1.1.2.1.2.2.2.2.2.2.1
  have hga := h.1.1.2.2.2.1.2.2.2.2.2.2.2 m a hG
  have ht150 : a.1 < 150 := hga.2.2.2.1.1
  have hyn : yn_c m = m := yn_cs (by omega)
  rw [h7, es, er, hyn]
  have jm : (w.2.1 0).toInt32 = nI m := by rw [hj]; exact sb_nLi (by omega)
  have i64 : ∀ {α : Type} {k : Nat} {o : Option (α × xk_St)}, k < 64 → (if nI k < 0 ∨ 64 ≤ (nI k).toNatClampNeg then none else o) = o := fun hk => if_neg (nI_in (N := 64) hk (by decide))
  have cm : (nI m).toNatClampNeg = m := nI_clamp (by omega)
  rcases hi with o | o
  · -- get
    rw [o] at hs h8 ⊢
    have hs : sq_sg T [] [a.1] x.2.2 = some Qn := hs
    have hrg := h.1.2.2.2.2.1.2.1.2 m a hG
    refine ri_sgX h hP hs (fun w hw => by cases hw) fun X hX hRS => ?_
    rw [List.reverse_nil, List.append_nil] at hRS
    generalize hW : (fW LL r ++ LL x.1) ++ X = W at *
    have hW18 : W.length < 18000 := by rw [List.length_append, List.length_singleton] at hX; omega
    have w2 : w.2.2.2 2 m = v.2.2.2 2 m := by rw [h.2.2.1.2.2.2 2 (by decide)]
    have e1 : fm_Machine_doSimple (nI 35) (nI m) (uF z AA x u) = some ((), uP (uF z AA x u) W.length (u.2.2.2 11 m) (u.2.2.1 38 m)) := by
      have : fm_Machine_doSimple (nI 35) (nI m) (uF z AA x u) = xs_seq (fm_Values_pushFrom__h61_64 (nI m) (uF z AA x u)) fun _ u17 => some ((()), u17) := rfl
      rw [this, xs_id]
      exact hp_pushG hRS.1 hW18 (by omega) (rv_f hrg)
    have e2 : fm_Model_doNames w = some ((), vP w W.length (v.2.2.2 2 m) (if 16 ≤ a.1 then 1 else 0)) := by
      unfold fm_Model_doNames
      simp only [xs_let]
      rw [h8, jm, if_neg (by decide), if_pos (by decide), i64 (by omega), i64 (by omega), cm, h.2.2.1.2.2.1 14 (by decide), hga.1, mm_isRef ht150, ys_seq, w2, show (if a.1 < 16 then (0 : Int32) else 1) = if 16 ≤ a.1 then 1 else 0 by by_cases q : a.1 < 16; rw [if_pos q, if_neg (by omega)]; rw [if_neg q, if_pos (by omega)], mp_lay hRS.2.1 hW18 (by by_cases q : 16 ≤ a.1; rw [if_pos q]; exact Or.inr rfl; rw [if_neg q]; exact Or.inl rfl), ys_seq]
    rw [e1, e2]
    exact ⟨_, _, rfl, rfl, yf_mono uP_f (by decide), yf_mono vP_f (by decide), Or.inl ⟨z1, z2, RS_push hRS hW18 hrg⟩⟩
  · -- set
    rw [o] at hs h8 ⊢
    have hs : sq_sg T [a.1] [] x.2.2 = some Qn := hs
    refine ri_sgP h hP hs (fun w hw => by rw [List.mem_singleton.mp hw]; exact ht150) fun X hX hRS hRD => ?_
    rw [show [a.1].reverse = [a.1] from rfl] at hRS
    generalize hW : (fW LL r ++ LL x.1) ++ X = W at *
    have hlen : (W ++ [a.1]).length = W.length + 1 := by rw [List.length_append, List.length_singleton]
    have hW18 : W.length < 18000 := by have := hRS.2.2.1; omega
    obtain ⟨b1, b2, b3⟩ := RS_pop hRS
    have u28 : (uF z AA x u).1 28 = nI (W.length + 1) := by rw [hRS.1, hlen]
    have w26 : w.1 26 = nI (W.length + 1) := by rw [hRS.2.1, hlen]
    have e1 : fm_Machine_doSimple (nI 36) (nI m) (uF z AA x u) = some ((), xs_I (xs_A (xs_B (uF z AA x u) 11 m ((uF z AA x u).2.2.2 10 W.length)) 38 m ((uF z AA x u).2.2.1 37 W.length)) 28 (nI W.length)) := by
      have : fm_Machine_doSimple (nI 36) (nI m) (uF z AA x u) = jb_Machine_doSimple_267 (nI m) (uF z AA x u) := rfl
      rw [this]
      unfold jb_Machine_doSimple_267 fm_Values_copy__h64_61
      simp only [xs_let]
      rw [u28, nI_pred, ix18 hW18, i64 (by omega), ix18 hW18, i64 (by omega), cm, show (nI W.length).toNatClampNeg = W.length from nI_clamp (by omega)]
      have c1 : (xs_B (uF z AA x u) 11 m ((uF z AA x u).2.2.2 10 W.length)).2.2.1 37 W.length = (uF z AA x u).2.2.1 37 W.length := rfl
      rw [c1, bo_01 (rv_f b2), ys_seq]
      have c2 : (xs_A (xs_B (uF z AA x u) 11 m ((uF z AA x u).2.2.2 10 W.length)) 38 m ((uF z AA x u).2.2.1 37 W.length)).1 28 = nI (W.length + 1) := u28
      rw [c2, nI_pred]
    have e2 : fm_Model_doNames w = some ((), xs_B (xs_I w 26 (nI W.length)) 2 m (w.2.2.2 3 W.length)) := by
      unfold fm_Model_doNames
      simp only [xs_let]
      rw [h8, jm, if_neg (by decide), if_neg (by decide), mp_drop w26 (by omega), ys_seq, i64 (by omega), cm]
    rw [e1, e2, List.append_nil]
    refine ⟨_, _, rfl, rfl, yf_I (yf_A (yf_B yf_refl (by decide)) (by decide)) (by decide), yf_B (yf_I yf_refl (by decide)) (by decide), Or.inl ⟨z1, z2, H, ?_, ?_⟩⟩
    · exact RS_fv (RS_fu b1 (u' := xs_I (xs_A (xs_B (uF z AA x u) 11 m ((uF z AA x u).2.2.2 10 W.length)) 38 m ((uF z AA x u).2.2.1 37 W.length)) 28 (nI W.length)) (I := []) (J := []) (A := [38]) (C := [11]) ⟨fun k hk => rfl, fun k hk => rfl, fun k hk => by
        show (if k = 38 then _ else u.2.2.1 k) = u.2.2.1 k
        rw [if_neg (by simpa using hk)], fun k hk => by
        show (if k = 11 then _ else u.2.2.2 k) = u.2.2.2 k
        rw [if_neg (by simpa using hk)]⟩ (by decide)) (yf_B (I := []) (J := []) (A := []) (B := [2]) yf_refl (by decide)) (by decide)
    · obtain ⟨d1, d2, d3, d4⟩ := hRD
      refine ⟨RHp_fv (RHp_fu d1 (yf_I (I := [28]) (J := []) (A := [38]) (B := [11]) (yf_A (yf_B yf_refl (by decide)) (by decide)) (by decide)) (by decide)) (yf_B (I := [26]) (J := []) (A := []) (B := [2]) (yf_I yf_refl (by decide)) (by decide)) (by decide), ⟨d2.1, fun k a' hk => ?_⟩, d3, d4⟩
      show rv T H a'.1 (vp_updL ((uF z AA x u).2.2.2 11) m ((uF z AA x u).2.2.2 10 W.length) k) (upd ((uF z AA x u).2.2.1 38) m ((uF z AA x u).2.2.1 37 W.length) k) (vp_updL (w.2.2.2 2) m (w.2.2.2 3 W.length) k)
      by_cases q : k = m
      · subst q
        rw [hG] at hk; cases hk
        rw [yb_t, ya_t, yb_t]; exact b2
      · rw [yb_j q, ya_j q, yb_j q]; exact d2.2 k a' hk
end
