section
variable {α β γ δ σ τ : Type} {B : Nat → Int32} {u v w u' v' u0 v0 : xk_St} {T : List (Nat × List Nat × List Nat)} {F : List Nat} {G : List (Nat × Nat × Nat × Int64)} {L W0 : List Nat} {n fu tc mc lim p q len f D k tn tn' j d b g m : Nat} {z : Nat → Nat} {LL : Nat → List Nat} {AA : Nat → sBo} {tt : Nat → Nat} {H H' : rH} {fs r rr : List rFr} {x x' : rFr} {c : Nat × List Nat × List Nat} {y : Nat × sIn} {Q Qn Q1 : List sFr} {P : List rFr → Nat → Prop} {R : List Nat}
theorem tb8 (a : Int64) : a.toInt32.toInt8.toBitVec = (a.toBitVec.setWidth 32).setWidth 8 := by
  rw [Int32.toBitVec_toInt8, BitVec.signExtend_eq_setWidth_of_le _ (by decide), tb32]
theorem by_sh {s : Nat} (a : Int64) (hs : s ≤ 56) : ((a.toUInt64 >>> ((nI s).toInt64.toUInt64 &&& Int64.toUInt64 63)).toInt64).toInt32.toInt8 = (a >>> ((nI s).toInt64 &&& 63)).toInt32.toInt8 := by
  apply Int8.toBitVec_inj.mp
  rw [tb8, tb8, sl_ushr a (by omega), sl_shr a (by omega)]
  apply BitVec.eq_of_getLsbD_eq
  intro i hi
  have h1 : s + i < 64 := by omega
  have h2 : i < 32 := by omega
  have h3 : ¬ 64 ≤ i := by omega
  simp only [BitVec.getLsbD_setWidth, BitVec.getLsbD_ushiftRight, BitVec.getLsbD_sshiftRight]
  simp [hi, h1, h2, h3]
/-- both put a number into the memory -/
theorem rm_put {a wd : Nat} {b3 xx : Int64} (ha : a + wd ≤ 65536) (hw : wd ≤ 8) (hb3 : b3.toInt32 = nI a) : ∀ (d j n m : Nat) (u v : xk_St), j + d = wd → d < n → d < m → (∀ i, i < 65536 → u.2.2.1 46 i = v.2.2.1 27 i) → ∃ u' v', jb_Memory_put_3 fu n (nI a) (nI wd) xx (nI j) u = some ((), u') ∧ jb_Model_doMemory_174 fu m xx b3 (nI wd) (nI j) v = some ((), v') ∧ yf_fr [] [] [46] [] u u' ∧ yf_fr [] [] [27] [] v v' ∧ (∀ i, i < 65536 → u'.2.2.1 46 i = v'.2.2.1 27 i) ∧ ∀ i, i < a + j ∨ a + wd ≤ i → u'.2.2.1 46 i = u.2.2.1 46 i := by
  intro d
  induction d with
  | zero =>
    intro j n m u v hj hn hm hM
    obtain ⟨n, rfl⟩ : ∃ q, n = q + 1 := ⟨n - 1, by omega⟩
    obtain ⟨m, rfl⟩ : ∃ q, m = q + 1 := ⟨m - 1, by omega⟩
    have : j = wd := by omega
    subst this
    refine ⟨u, v, ?_, ?_, yf_refl, yf_refl, hM, fun i _ => rfl⟩
    · unfold jb_Memory_put_3
      rw [xl_eq, if_pos (Int32.le_refl _)]
    · unfold jb_Model_doMemory_174
      rw [xl_eq, if_pos (Int32.le_refl _)]
  | succ d ih =>
    intro j n m u v hj hn hm hM
    obtain ⟨n, rfl⟩ : ∃ q, n = q + 1 := ⟨n - 1, by omega⟩
    obtain ⟨m, rfl⟩ : ∃ q, m = q + 1 := ⟨m - 1, by omega⟩
    have hsh := by_sh (s := 8 * j) xx (by omega)
    obtain ⟨u', v', k1, k2, k3, k4, k5, k6⟩ := ih (j + 1) n m (xs_A u 46 (a + j) (vp_nar .byte ((((xx.toUInt64 >>> ((nI (8 * j)).toInt64.toUInt64 &&& Int64.toUInt64 63)).toInt64).toInt32).toInt8.toInt32))) (xs_A v 27 (a + j) (vp_nar .byte ((xx >>> ((nI (8 * j)).toInt64 &&& 63)).toInt32.toInt8.toInt32))) (by omega) (by omega) (by omega) (fun i hi => by
      show upd (u.2.2.1 46) (a + j) _ i = upd (v.2.2.1 27) (a + j) _ i
      by_cases c : i = a + j
      · rw [c, ya_t, ya_t, hsh]
      · rw [ya_j c, ya_j c]; exact hM i hi)
    refine ⟨u', v', ?_, ?_, yf_trans (yf_A yf_refl (by decide)) k3, yf_trans (yf_A yf_refl (by decide)) k4, k5, fun i hi => ?_⟩
    · unfold jb_Memory_put_3
      rw [xl_eq, if_neg (fun t => by have := (nI_leI (by omega) (by omega)).mp t; omega), nI_add, ix64k (by omega), show (nI (a + j)).toNatClampNeg = a + j from nI_clamp (by omega), n8_mul j (by omega), xl_eq, xl_eq, nI_1]
      exact k1
    · unfold jb_Model_doMemory_174
      rw [xl_eq, if_neg (fun t => by have := (nI_leI (by omega) (by omega)).mp t; omega), hb3, nI_add, ix64k (by omega), show (nI (a + j)).toNatClampNeg = a + j from nI_clamp (by omega), n8_mul j (by omega), xl_eq, xl_eq, nI_1]
      exact k2
    · rw [k6 i (by omega)]
      show upd (u.2.2.1 46) (a + j) _ i = _
      rw [ya_j (by omega)]
theorem hs_mem {o : Nat} (ho : 40 ≤ o) (ho2 : o ≤ 64) (hk : k < 8192) : fm_Machine_step fu (nI o) (nI k) u = fm_Machine_doMemory fu (nI o) (u.2.2.2 2 k) u := by
  unfold fm_Machine_step
  rw [if_pos (show (16 : Int32) ≤ nI o from nI_le (a := 16) (by omega) (by omega)), if_pos (show (40 : Int32) ≤ nI o from nI_le (a := 40) (by omega) (by omega)), if_neg (show ¬ (64 : Int32) < nI o from fun q => by have := (nI_ltI (a := 64) (by omega) (by omega)).mp q; omega), ix8192 hk, xs_id, show (nI k).toNatClampNeg = k from nI_clamp (by omega)]
theorem mr_mem {o : Nat} (h8 : w.1 8 = nI o) (ho : 40 ≤ o) (ho2 : o ≤ 64) : mr_st fu w = fm_Model_doMemory fu w := by
  unfold mr_st
  rw [h8, if_pos (show (32 : Int32) ≤ nI o from nI_le (a := 32) (by omega) (by omega)), if_pos (show (40 : Int32) ≤ nI o from nI_le (a := 40) (by omega) (by omega)), if_neg (fun y => by have := (nI_leI (a := 65) (by omega) (by omega)).mp y; omega)]
theorem rf_mem (h : rFt D B len T F tc mc G z LL AA tt H x r tn y Qn u v w) (hi : 40 ≤ y.2.1 ∧ y.2.1 ≤ 64) : sq_mem T mc y.2.1 (yx_n y.2.2.1) x.2.2 = some Qn ∧ w.1 8 = nI y.2.1 ∧ fm_Machine_step fu (u.2.2.1 7 (kF z AA x)) (nI (kF z AA x)) (uF z AA x u) = fm_Machine_doMemory fu (nI y.2.1) (u.2.2.2 2 (kF z AA x)) (uF z AA x u) ∧ mr_st fu w = fm_Model_doMemory fu w := by
  have h7 : u.2.2.1 7 (kF z AA x) = nI y.2.1 := by rw [h.2.1.2.2.1.1, if_neg (by omega)]
  have h8 : w.1 8 = nI y.2.1 := by rw [h.2.2.2.1.2.2.2.1, if_pos (by omega)]
  have hk : kF z AA x < 8192 := h.2.1.2.2.2.2.2.2.2.1
  have hs := h.2.1.2.1
  unfold sq_step at hs
  rw [if_neg (by omega), if_neg (by omega), if_neg (by omega), if_neg (by omega), if_neg (by omega), if_neg (by omega), if_neg (by omega), if_neg (by omega), if_neg (by omega), if_neg (by omega), if_neg (by omega), if_neg (by omega), if_neg (by omega), if_neg (by omega), if_neg (by omega), if_neg (by omega), if_pos (by omega)] at hs
  refine ⟨hs, h8, ?_, mr_mem h8 (by omega) (by omega)⟩
  rw [h7, hs_mem (by omega) (by omega) hk]
  rfl
theorem p4096 : ∀ p, p < 17 → (4096 : Int64) * (nI p).toInt64 = lN (4096 * p) := by decide +kernel
/-- 0x3f and 0x40 -/
theorem ri_63 (h : rFt D B len T F tc mc G z LL AA tt H x r tn y Qn u v w) (hi : y.2.1 = 63 ∨ y.2.1 = 64) (hP : rPs P x r tn) : RZ D B len T F tc mc G z LL AA tt P R (fm_Machine_step fu (u.2.2.1 7 (kF z AA x)) (nI (kF z AA x)) (uF z AA x u)) (mr_st fu w) := by
  obtain ⟨hs, h8, es, er⟩ := rf_mem (fu := fu) h (by omega)
  obtain ⟨z1, z2, z3, z4, z5⟩ := rf_0 h
  obtain ⟨-, hs⟩ := xp_if hs
  rw [if_neg (by omega)] at hs
  rw [es, er]
  obtain ⟨hMb, pg, mx, m1, m2, m3, m4, m5, m6, m7⟩ := h.1.2.2.2.2.1.2.2.1
  have w16 : w.1 16 = nI pg := by rw [h.2.2.1.1 16 (by decide)]; exact m2
  have w17 : w.1 17 = nI mx := by rw [h.2.2.1.1 17 (by decide)]; exact m4
  rcases hi with o | o
  · rw [o] at hs h8 ⊢
    have hs : sq_sg T [] [1] x.2.2 = some Qn := hs
    refine ri_sgX h hP hs (fun w hw => by cases hw) fun X hX hRS => ?_
    rw [List.reverse_nil, List.append_nil] at hRS
    generalize hW : (fW LL r ++ LL x.1) ++ X = W at *
    have hW18 : W.length < 18000 := by rw [List.length_append, List.length_singleton] at hX; omega
    have e1 : fm_Machine_doMemory fu (nI 63) (u.2.2.2 2 (kF z AA x)) (uF z AA x u) = fm_Values_push__h61 (nI pg).toInt64 (uF z AA x u) := by
      unfold fm_Machine_doMemory
      rw [if_pos (by decide), xs_id]
      have : (uF z AA x u).1 33 = nI pg := m1
      rw [this]
    have e2 : fm_Model_doMemory fu w = fm_Model_tell (nI pg).toInt64 w := by
      unfold fm_Model_doMemory
      rw [h8, if_pos (by decide), w16, xs_id]
    rw [e1, e2]
    exact RO_push hRS hW18 z1 z2 rv_i (by decide)
  · rw [o] at hs h8 ⊢
    have hs : sq_sg T [1] [1] x.2.2 = some Qn := hs
    refine ri_sgP h hP hs (fun w hw => by rw [List.mem_singleton.mp hw]; decide) fun X hX hRS hRD => ?_
    generalize hW : (fW LL r ++ LL x.1) ++ X = W at *
    have hRS : RS T H (W ++ [1]) (uF z AA x u) w := hRS
    obtain ⟨a, a1, a2, a3, a4, a5⟩ := RS_n hRS (Or.inl rfl)
    obtain ⟨m, hm, ey⟩ := lN_maskE a
    have e1 : fm_Machine_doMemory fu (nI 64) (u.2.2.2 2 (kF z AA x)) (uF z AA x u) = if pg + m ≤ mx then fm_Values_push__h61 (nI pg).toInt64 (xs_I (xs_I (uF z AA x u) 28 (nI W.length)) 33 (nI (pg + m))) else fm_Values_push__h61 (-1 : Int32).toInt64 (xs_I (uF z AA x u) 28 (nI W.length)) := by
      unfold fm_Machine_doMemory
      rw [if_neg (by decide), if_pos (by decide), a1, ys_seq, ey]
      unfold fm_Memory_grow
      have c1 : (xs_I (uF z AA x u) 28 (nI W.length)).1 33 = nI pg := m1
      have c2 : (xs_I (uF z AA x u) 28 (nI W.length)).1 34 = nI mx := m3
      rw [c1, c2, nI_toL (by omega), nI_toL (by omega), lN_add]
      by_cases q : pg + m ≤ mx
      · rw [if_pos ((pk_lLE (by omega) (by omega)).mpr q), if_pos q, xl_eq, xl_eq, ys_seq, xs_id, nI_toL (by omega), sb_nLi (by omega), nI_add]
      · rw [if_neg (fun t => q ((pk_lLE (by omega) (by omega)).mp t)), if_neg q, ys_seq, xs_id]
    have e2 : fm_Model_doMemory fu w = if pg + m ≤ mx then xs_seq (fm_Model_tell (nI pg).toInt64 (xs_I w 26 (nI W.length))) fun _ u20 => some ((), xs_I u20 16 (u20.1 16 + nI m)) else xs_seq (fm_Model_tell (-1 : Int32).toInt64 (xs_I w 26 (nI W.length))) fun _ u20 => some ((), xs_I u20 16 (u20.1 16 + 0)) := by
      unfold fm_Model_doMemory
      rw [h8, if_neg (by decide), if_pos (by decide), a2, ys_seq, xl_eq, ey]
      have c1 : (xs_I w 26 (nI W.length)).1 16 = nI pg := w16
      have c2 : (xs_I w 26 (nI W.length)).1 17 = nI mx := w17
      rw [c1, c2, pk_sub m5, nI_toL (by omega)]
      unfold jb_Model_doMemory_57
      by_cases q : pg + m ≤ mx
      · rw [if_neg (fun t => by have := (pk_lLT (by omega) (by omega)).mp t; omega), if_pos q, if_neg (by decide), c1]
        unfold jb_Model_doMemory_74
        congr 1
        funext _ u20
        rw [if_neg (by decide), xl_eq, sb_nLi (by omega)]
      · rw [if_pos ((pk_lLT (by omega) (by omega)).mpr (by omega)), if_neg q, if_pos rfl]
        unfold jb_Model_doMemory_74
        rw [show (-1 : Int64) = (-1 : Int32).toInt64 by decide]
        congr 1
    rw [e1, e2]
    have hRDr : RHp T H (uF z AA x u) w ∧ RG T H G (uF z AA x u) w ∧ RT F tc (uF z AA x u) w := ⟨hRD.1, hRD.2.1, hRD.2.2.2⟩
    by_cases q : pg + m ≤ mx
    · rw [if_pos q, if_pos q, mp_tell (n := W.length) rfl a5, ys_seq, hp_push (n := W.length) rfl a5]
      have hp := RS_push a4 a5 (rv_i (T := T) (H := H) (y := nI pg))
      rw [if_neg (by decide)] at hp
      have c16 : (vP (xs_I w 26 (nI W.length)) W.length (nI pg).toInt64 0).1 16 + nI m = nI (pg + m) := by
        have : (vP (xs_I w 26 (nI W.length)) W.length (nI pg).toInt64 0).1 16 = nI pg := w16
        rw [this, nI_add]
      rw [c16]
      refine ⟨_, _, rfl, rfl, ?_, ?_, Or.inl ⟨z1, z2, H, ?_, ?_⟩⟩
      · exact yf_trans (yf_I (yf_I yf_refl (by decide)) (by decide)) (yf_mono uP_f (by decide))
      · exact yf_I (yf_trans (yf_I yf_refl (by decide)) (yf_mono vP_f (by decide))) (by decide)
      · refine RS_fv (RS_fu hp (u' := uP (xs_I (xs_I (uF z AA x u) 28 (nI W.length)) 33 (nI (pg + m))) W.length (nI pg).toInt64 0) (I := [33]) (J := []) (A := []) (C := []) ⟨fun k hk => ?_, fun _ _ => rfl, fun _ _ => rfl, fun _ _ => rfl⟩ (by decide)) (yf_I (I := [16]) (J := []) (A := []) (B := []) yf_refl (by decide)) (by decide)
        show (if k = 28 then _ else if k = 33 then _ else _) = (if k = 28 then _ else _)
        by_cases c : k = 28
        · rw [if_pos c, if_pos c]
        · rw [if_neg c, if_neg c, if_neg (by simpa using hk)]
          show (if k = 28 then _ else (uF z AA x u).1 k) = (if k = 28 then _ else (uF z AA x u).1 k)
          rw [if_neg c]
      · refine ⟨RHp_fv (RHp_fu hRD.1 ((yf_trans (yf_I (I := [28, 33]) (J := []) (A := [37]) (B := [10]) (yf_I yf_refl (by decide)) (by decide)) (yf_mono uP_f (by decide)))) (by decide)) (yf_I (I := [16, 26]) (J := []) (A := [29]) (B := [3]) (yf_trans (yf_I yf_refl (by decide)) (yf_mono vP_f (by decide))) (by decide)) (by decide), hRD.2.1, ⟨hRD.2.2.1.1, pg + m, mx, rfl, rfl, m3, w17, q, m6, fun i h1 h2 => m7 i (by omega) h2⟩, hRD.2.2.2⟩
    · rw [if_neg q, if_neg q, mp_tell (n := W.length) rfl a5, ys_seq, hp_push (n := W.length) rfl a5]
      have hp := RS_push a4 a5 (rv_i (T := T) (H := H) (y := (-1 : Int32)))
      rw [if_neg (by decide)] at hp
      have c16 : (vP (xs_I w 26 (nI W.length)) W.length (-1 : Int32).toInt64 0).1 16 + 0 = nI pg := by
        have : (vP (xs_I w 26 (nI W.length)) W.length (-1 : Int32).toInt64 0).1 16 = nI pg := w16
        rw [this, Int32.add_zero]
      rw [c16]
      refine ⟨_, _, rfl, rfl, ?_, ?_, Or.inl ⟨z1, z2, H, ?_, ?_⟩⟩
      · exact yf_trans (yf_I yf_refl (by decide)) (yf_mono uP_f (by decide))
      · exact yf_I (yf_trans (yf_I yf_refl (by decide)) (yf_mono vP_f (by decide))) (by decide)
      · exact RS_fv hp (yf_I (I := [16]) (J := []) (A := []) (B := []) yf_refl (by decide)) (by decide)
      · refine ⟨RHp_fv (RHp_fu hRD.1 ((yf_trans (yf_I (I := [28]) (J := []) (A := [37]) (B := [10]) yf_refl (by decide)) (yf_mono uP_f (by decide)))) (by decide)) (yf_I (I := [16, 26]) (J := []) (A := [29]) (B := [3]) (yf_trans (yf_I yf_refl (by decide)) (yf_mono vP_f (by decide))) (by decide)) (by decide), hRD.2.1, ⟨hRD.2.2.1.1, pg, mx, m1, rfl, m3, w17, m5, m6, m7⟩, hRD.2.2.2⟩
end
