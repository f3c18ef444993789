
theorem va_D.nd {A : Nat → Prop} {ws : va_W} (h : va_D A ws) : (ws.map (fun q => q.1)).Nodup := by
  unfold List.Nodup
  rw [List.pairwise_iff_getElem]
  intro i j hi hj hij heq
  have hj' : j < ws.length := by simpa using hj
  have hi' : i < ws.length := by omega
  simp only [List.getElem_map] at heq
  have := h.1 i j _ _ (List.getElem?_eq_getElem hi') (List.getElem?_eq_getElem hj') heq
  omega
theorem va_D.all {A : Nat → Prop} {ws : va_W} (h : va_D A ws) : ∀ q ∈ ws.map (fun q => q.1), A q := by
  intro q hq
  obtain ⟨x, hx, rfl⟩ := List.mem_map.mp hq
  obtain ⟨k, hk⟩ := List.getElem?_of_mem hx
  exact h.2 k x hk
theorem va_D.dj {A : Nat → Prop} {a b : va_W} (h : va_D A (a ++ b)) : (∀ q ∈ b.map (fun q => q.1), q ∉ a.map (fun q => q.1)) ∧ ∀ q ∈ a.map (fun q => q.1), q ∉ b.map (fun q => q.1) := by
  have key : ∀ q, q ∈ a.map (fun q => q.1) → q ∈ b.map (fun q => q.1) → False := by
    intro q ha hb
    obtain ⟨x, hx, e1⟩ := List.mem_map.mp ha
    obtain ⟨y, hy, e2⟩ := List.mem_map.mp hb
    obtain ⟨i, hi⟩ := List.getElem?_of_mem hx
    obtain ⟨j, hj⟩ := List.getElem?_of_mem hy
    have hil := (List.getElem?_eq_some_iff.mp hi).1
    have h1 : (a ++ b)[i]? = some x := by rw [List.getElem?_append_left hil]; exact hi
    have h2 : (a ++ b)[a.length + j]? = some y := by rw [List.getElem?_append_right (by omega), Nat.add_sub_cancel_left]; exact hj
    have := h.1 i (a.length + j) x y h1 h2 (e1.trans e2.symm)
    omega
  exact ⟨fun q hb ha => key q ha hb, fun q ha hb => key q ha hb⟩
theorem xl_lt {L j : Nat} (hL : L ≤ 2048) (hj : j ≤ 512) (h : ¬ Int32.ofNat L - 4 < nI (4 * j)) : 4 * j + 4 ≤ L := by
  have e1 : (nI L - nI 4).toInt = (L : Int) - 4 := pk_sub_toInt (by omega) (by omega)
  have e2 : (nI (4 * j)).toInt = ((4 * j : Nat) : Int) := nI_toInt (by omega)
  have h1 : ¬ (nI L - nI 4) < nI (4 * j) := h
  rw [Int32.lt_iff_toInt_lt, e1, e2] at h1
  omega
section XLL
variable {p : Program} {l : Launch} {e : Env} {s : State} {m : MethodId} {below : List Frame} {meth : Method} {c : Code} {b L : Nat} {xs : Nat → Int32} {D : va_G} {ca : Nat → ClassId} {ad am : Nat → Nat}
set_option maxHeartbeats 4000000 in
set_option maxRecDepth 100000 in
/-- the law's loop -/
theorem xl_loop (hL : L ≤ 2048) (hx : p.tables.exec = Jvm.exec) (hb : c.code = code) (hr : meth.sig.returnType = ret) (hlocks : meth.locks = false) (hX : va_X b L xs s s.heap) (hbl : b < s.heap.size)
    (C : xl_C D kx_cl (kx_ty ca) "ModuleHouseLaw" code 8 p s m #[Value.ref b] c) (htr : l.stackTraces = false) (hkh : xk_ok (kw_h ad ca) (kd_h ad)) (hkm : xk_ok (kw_m am ca) (kd_m am)) (hah : ∀ q ∈ kd_h ad, s.heap.size ≤ q) (ham : ∀ q ∈ kd_m am, s.heap.size ≤ q) (hdm : ∀ q ∈ kd_m am, q ∉ kd_h ad) (hdh : ∀ q ∈ kd_h ad, q ∉ kd_m am)
    (fu : Nat) (Rel : Nat → xk_St → xk_St → Prop) (hst : ∀ (j : Nat) (uh um : xk_St), 4 * j + 4 ≤ L → Rel j uh um → xl_ok fu (Rel (j + 1)) (xs (4 * j)) (xs (4 * j + 1)) (xs (4 * j + 2)) (xs (4 * j + 3)) uh um) :
    ∀ (n j : Nat), j ≤ 512 → L < 4 * j + 4 * n + 4 → ∀ (uh um : xk_St), Rel j uh um → ∀ (H : Heap) (locs : List Loc) (ls : Array Slot), va_P D kx_cl (kw_h ad ca uh) H → va_P D kx_cl (kw_m am ca um) H → va_S (fun q => s.heap.size ≤ q) s.heap H locs → lv_has ls 8 [(4, .int (nI (4 * j))), (3, .ref (ad 83)), (2, .ref (am 0)), (1, .ref (ad 0)), (0, .ref b)] →
      W p l e room_1 s m #[Value.ref b] below meth c H locs (134 + j) (388493 + 6 * j) (lw_Z below #[Value.ref b] s) (F0 m 23 ls []) := by
  have hbA : ¬ s.heap.size ≤ b := Nat.not_le.mpr hbl
  intro n
  induction n with
  | zero =>
    intro j hj hn uh um hR H locs ls hPh hPm hS hl
    refine lv_iload hx hb dd_law_23 (lv_at hl 0 rfl) ?_
    refine lv_aload_n hx hb dd_law_25 rfl (lv_at hl 4 rfl) ?_
    refine va_slen hx hb hX hbl hbA hS dd_law_26 ?_
    refine lv_iconst (v := 4) hx hb dd_law_27 (by decide) ?_
    refine lv_isub hx hb dd_law_28 ?_
    refine lv_icmp_gt (tgt := 569) hx hb dd_law_29 (by decide) (fun hc => ?_) (fun hc => absurd (xl_lt hL hj hc) (by omega))
    refine lv_iconst (v := 1) hx hb dd_law_569 (by decide) ?_
    refine va_forget hS.2.2 ?_
    refine W.widen (by have h9 := xl_rc; show _ ≤ room_1.cells; omega) (by have h9 := xl_rs; show _ ≤ room_1.slots; omega) ?_
    exact lw_ret hx hb hr hlocks dd_law_570
  | succ n ih =>
    intro j hj hn uh um hR H locs ls hPh hPm hS hl
    refine lv_iload hx hb dd_law_23 (lv_at hl 0 rfl) ?_
    refine lv_aload_n hx hb dd_law_25 rfl (lv_at hl 4 rfl) ?_
    refine va_slen hx hb hX hbl hbA hS dd_law_26 ?_
    refine lv_iconst (v := 4) hx hb dd_law_27 (by decide) ?_
    refine lv_isub hx hb dd_law_28 ?_
    refine lv_icmp_gt (tgt := 569) hx hb dd_law_29 (by decide) (fun hc => ?_) (fun hc => ?_)
    · refine lv_iconst (v := 1) hx hb dd_law_569 (by decide) ?_
      refine va_forget hS.2.2 ?_
      refine W.widen (by have h9 := xl_rc; show _ ≤ room_1.cells; omega) (by have h9 := xl_rs; show _ ≤ room_1.slots; omega) ?_
      exact lw_ret hx hb hr hlocks dd_law_570
    · have h4 := xl_lt hL hj hc
      have hok := hst j uh um h4 hR
      have hv0 : vp_in (nI (4 * j)) L := vp_in_nI (by omega) (by omega)
      have hv1 : vp_in (nI (4 * j) + 1) L := by show vp_in (nI (4 * j) + nI 1) L; rw [nI_add]; exact vp_in_nI (by omega) (by omega)
      have hv2 : vp_in (nI (4 * j) + 2) L := by show vp_in (nI (4 * j) + nI 2) L; rw [nI_add]; exact vp_in_nI (by omega) (by omega)
      have hv3 : vp_in (nI (4 * j) + 3) L := by show vp_in (nI (4 * j) + nI 3) L; rw [nI_add]; exact vp_in_nI (by omega) (by omega)
      have ea0 : xs (4 * j) = xs (nI (4 * j)).toNatClampNeg := by rw [nI_clamp (by omega)]
      have ea1 : xs (4 * j + 1) = xs (nI (4 * j) + 1).toNatClampNeg := by rw [show nI (4 * j) + 1 = nI (4 * j + 1) from nI_add _ 1, nI_clamp (by omega)]
      have ea2 : xs (4 * j + 2) = xs (nI (4 * j) + 2).toNatClampNeg := by rw [show nI (4 * j) + 2 = nI (4 * j + 2) from nI_add _ 2, nI_clamp (by omega)]
      have ea3 : xs (4 * j + 3) = xs (nI (4 * j) + 3).toNatClampNeg := by rw [show nI (4 * j) + 3 = nI (4 * j + 3) from nI_add _ 3, nI_clamp (by omega)]
      have kend : ∀ (vh vm : xk_St), Rel (j + 1) vh vm → ∀ (H : Heap) (locs : List Loc) (ls : Array Slot), lv_has ls 8 [(4, .int (nI (4 * j))), (3, .ref (ad 83)), (2, .ref (am 0)), (1, .ref (ad 0)), (0, .ref b)] → va_P D kx_cl (kw_h ad ca vh) H → va_P D kx_cl (kw_m am ca vm) H → va_S (fun q => s.heap.size ≤ q) s.heap H locs → W p l e room_1 s m #[Value.ref b] below meth c H locs (134 + j + 1) (388493 + 6 * j + 6) (lw_Z below #[Value.ref b] s) (F0 m 563 ls []) := by
        intro vh vm hR2 H locs ls hl hPh hPm hS
        refine lv_iinc (v := nI (4 * (j + 1))) (lv' := [(4, .int (nI (4 * (j + 1)))), (3, .ref (ad 83)), (2, .ref (am 0)), (1, .ref (ad 0)), (0, .ref b)]) hx hb dd_law_563 hl (k := 0) rfl (by show nI (4 * j) + nI 4 = _; rw [nI_add]; congr 1) (by decide) rfl (fun ls hl => ?_)
        refine lv_goto (tgt := 23) hx hb dd_law_566 (by decide) ?_
        refine W.widen (k := 134 + (j + 1)) (n := 388493 + 6 * (j + 1)) (by omega) (by omega) ?_
        exact ih (j + 1) (by omega) (by omega) vh vm hR2 H locs ls hPh hPm hS hl
      generalize nI (4 * j) = x4 at *
      generalize xs (4 * j) = a0 at *
      generalize xs (4 * j + 1) = a1 at *
      generalize xs (4 * j + 2) = a2 at *
      generalize xs (4 * j + 3) = a3 at *
      refine lv_aload_n hx hb dd_law_32 rfl (lv_at hl 4 rfl) ?_
      refine lv_iload hx hb dd_law_33 (lv_at hl 0 rfl) ?_
      refine va_sld hx hb hX hbl hbA hS hv0 dd_law_35 ?_
      refine xr_nami ea0 ?_
      refine lv_bipush (v := 7) hx hb dd_law_36 (by decide) ?_
      refine lv_iand hx hb dd_law_38 ?_
      obtain ⟨q0, hq0, eq0⟩ := pk_andE a0 (m := 7) 3 rfl
      obtain ⟨o0, o1, o2, o3, o4, o5, o6, o7⟩ := hok
      by_cases hc0 : a0 &&& 7 = 0
      · refine lv_tableIn (off := 45) (tgt := 84) hx hb dd_law_39 (by rw [hc0]; decide) (by rw [hc0]; decide) (by rw [hc0]; rfl) (by decide) ?_
        exact xl_case0 (fu := fu) hx hb hX hbl hbA C htr hkh hkm hah ham hdm hdh hj hv0 hv1 hv2 hv3 ea0 ea1 ea2 ea3 hPh hPm hS hl kend o0 hc0
      by_cases hc1 : a0 &&& 7 = 1
      · refine lv_tableIn (off := 145) (tgt := 184) hx hb dd_law_39 (by rw [hc1]; decide) (by rw [hc1]; decide) (by rw [hc1]; rfl) (by decide) ?_
        exact xl_case1 (fu := fu) hx hb hX hbl hbA C htr hkh hkm hah ham hdm hdh hj hv0 hv1 hv2 hv3 ea0 ea1 ea2 ea3 hPh hPm hS hl kend o1 hc1
      by_cases hc2 : a0 &&& 7 = 2
      · refine lv_tableIn (off := 158) (tgt := 197) hx hb dd_law_39 (by rw [hc2]; decide) (by rw [hc2]; decide) (by rw [hc2]; rfl) (by decide) ?_
        exact xl_case2 (fu := fu) hx hb hX hbl hbA C htr hkh hkm hah ham hdm hdh hj hv0 hv1 hv2 hv3 ea0 ea1 ea2 ea3 hPh hPm hS hl kend o2 hc2
      by_cases hc3 : a0 &&& 7 = 3
      · refine lv_tableIn (off := 246) (tgt := 285) hx hb dd_law_39 (by rw [hc3]; decide) (by rw [hc3]; decide) (by rw [hc3]; rfl) (by decide) ?_
        exact xl_case3 (fu := fu) hx hb hX hbl hbA C htr hkh hkm hah ham hdm hdh hj hv0 hv1 hv2 hv3 ea0 ea1 ea2 ea3 hPh hPm hS hl kend o3 hc3
      by_cases hc4 : a0 &&& 7 = 4
      · refine lv_tableIn (off := 302) (tgt := 341) hx hb dd_law_39 (by rw [hc4]; decide) (by rw [hc4]; decide) (by rw [hc4]; rfl) (by decide) ?_
        exact xl_case4 (fu := fu) hx hb hX hbl hbA C htr hkh hkm hah ham hdm hdh hj hv0 hv1 hv2 hv3 ea0 ea1 ea2 ea3 hPh hPm hS hl kend o4 hc4
      by_cases hc5 : a0 &&& 7 = 5
      · refine lv_tableIn (off := 357) (tgt := 396) hx hb dd_law_39 (by rw [hc5]; decide) (by rw [hc5]; decide) (by rw [hc5]; rfl) (by decide) ?_
        exact xl_case5 (fu := fu) hx hb hX hbl hbA C htr hkh hkm hah ham hdm hdh hj hv0 hv1 hv2 hv3 ea0 ea1 ea2 ea3 hPh hPm hS hl kend o5 hc5
      by_cases hc6 : a0 &&& 7 = 6
      · refine lv_tableIn (off := 412) (tgt := 451) hx hb dd_law_39 (by rw [hc6]; decide) (by rw [hc6]; decide) (by rw [hc6]; rfl) (by decide) ?_
        exact xl_case6 (fu := fu) hx hb hX hbl hbA C htr hkh hkm hah ham hdm hdh hj hv0 hv1 hv2 hv3 ea0 ea1 ea2 ea3 hPh hPm hS hl kend o6 hc6
      by_cases hc7 : a0 &&& 7 = 7
      · refine lv_tableIn (off := 468) (tgt := 507) hx hb dd_law_39 (by rw [hc7]; decide) (by rw [hc7]; decide) (by rw [hc7]; rfl) (by decide) ?_
        exact xl_case7 (fu := fu) hx hb hX hbl hbA C htr hkh hkm hah ham hdm hdh hj hv0 hv1 hv2 hv3 ea0 ea1 ea2 ea3 hPh hPm hS hl kend o7 hc7
      exfalso
      rcases (show q0 = 0 ∨ q0 = 1 ∨ q0 = 2 ∨ q0 = 3 ∨ q0 = 4 ∨ q0 = 5 ∨ q0 = 6 ∨ q0 = 7 by omega) with rfl | rfl | rfl | rfl | rfl | rfl | rfl | rfl
      · exact hc0 eq0
      · exact hc1 eq0
      · exact hc2 eq0
      · exact hc3 eq0
      · exact hc4 eq0
      · exact hc5 eq0
      · exact hc6 eq0
      · exact hc7 eq0
end XLL
