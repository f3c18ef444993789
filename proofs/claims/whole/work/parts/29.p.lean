section
variable {α β γ δ σ τ : Type} {u v w u0 : xk_St} {g : Nat → Nat} {T : List (Nat × List Nat × List Nat)} {F : List Nat} {G : List (Nat × Nat × Nat × Int64)} {L : List Nat} {n fu tc mc : Nat} {Q Q' : List sFr} {s : Option (List sFr)}
/-- behind an instruction that opens, turns or closes a block -/
def mO3 (T : List (Nat × List Nat × List Nat)) (u0 : xk_St) (s : Option (List sFr)) (w : xk_St) : Prop := yf_fr [7, 21, 22] [] [20, 21, 22, 23, 24, 25, 26] [1] u0 w ∧ ((∃ Q, s = some Q ∧ w.1 7 = 0 ∧ mS T Q w) ∨ (s = none ∧ w.1 7 = 1))
theorem mO3_O2 (h : mO2 T u0 s w) : mO3 T u0 s w := ⟨yf_mono h.1 (by decide), h.2.imp (fun ⟨Q, a, b, c, _⟩ => ⟨Q, a, b, c⟩) id⟩
theorem mK_0 (hE : yTM T v) (h : mR T s v) : mK T v s v := ⟨hE, h, yf_refl⟩
theorem ml_30 {p o : Nat} {e : Nat} {t : Option Nat ⊕ Int64} (hfu : 200 ≤ fu) (h : mK T u0 s v) (h8 : u0.1 8 = nI o) (hj : u0.2.1 0 = yb_m t) (h23 : u0.1 23 = nI p) (hp : p < 8192) (ho : o < 10) (hk : sb_ok T t) (hr : sb_rd t) : MC (jb_Model_checkBlock_30 fu v) fun _ w => mO3 T u0 (s.bind fun Q => (sq_takes (yl_f T) (sb_par T t).reverse Q).bind fun Q1 => (sq_open e p o t Q1).bind (sq_pushes (sb_par T t))) w ∧ w.2.2.1 20 = upd (u0.2.2.1 20) p 0 ∧ w.2.2.1 21 = upd (u0.2.2.1 21) p 0 := by
  unfold jb_Model_checkBlock_30
  rw [(mK_8 h).2.2, hj]
  refine MC_seq (ml_takeAll (b := false) hfu h hk hr) fun _ x hx => ?_
  rw [(mK_8 hx).1, (mK_8 hx).2.2, h8, hj]
  have x23 : x.1 23 = nI p := (hx.2.2.1 23 (by decide)).trans h23
  refine MC_seq (mr_open (e := e) hx.2.1 x23 hp ho hk hr) fun _ y hy => ?_
  have hyE := yTM_fr hx.1 hy.2 (by decide)
  have hyK := mK_0 hyE hy.1
  have yj : y.2.1 0 = yb_m t := by rw [hy.2.2.1 0 (by decide), (mK_8 hx).2.2, hj]
  rw [yj]
  refine MC_seq (ml_bring (b := false) hfu hyK hk hr) fun _ z hz => ?_
  have z23 : z.1 23 = nI p := by rw [hz.2.2.1 23 (by decide), hy.2.1 23 (by decide), x23]
  simp only [xs_let]
  have e1 : (xs_A z 20 p 0).1 23 = nI p := z23
  rw [z23, if_neg (nI_in (N := 8192) hp (by decide)), nI_clamp (by omega), e1, if_neg (nI_in (N := 8192) hp (by decide)), nI_clamp (by omega)]
  have fz : yf_fr [7, 21, 22] [] [20, 21, 22, 23, 24, 25, 26] [1] u0 z := yf_trans (yf_trans (yf_mono hx.2.2 (by decide)) (yf_mono hy.2 (by decide))) (yf_mono hz.2.2 (by decide))
  have z20 : z.2.2.1 20 = u0.2.2.1 20 := by rw [hz.2.2.2.2.1 20 (by decide), hy.2.2.2.1 20 (by decide), hx.2.2.2.2.1 20 (by decide)]
  have z21 : z.2.2.1 21 = u0.2.2.1 21 := by rw [hz.2.2.2.2.1 21 (by decide), hy.2.2.2.1 21 (by decide), hx.2.2.2.2.1 21 (by decide)]
  refine MC_ok ⟨⟨yf_A (yf_A fz (by decide)) (by decide), ?_⟩, ?_, ?_⟩
  · have es : (s.bind fun Q => (sq_takes (yl_f T) (sb_par T t).reverse Q).bind fun Q1 => (sq_open e p o t Q1).bind (sq_pushes (sb_par T t))) = ((s.bind (sq_takes (yl_f T) (sb_pr T false t).reverse)).bind (sq_open e p o t)).bind (sq_pushes (sb_pr T false t)) := by
      cases s with
      | none => rfl
      | some Q0 =>
        show ((sq_takes (yl_f T) (sb_par T t).reverse Q0).bind fun Q1 => (sq_open e p o t Q1).bind (sq_pushes (sb_par T t))) = ((sq_takes (yl_f T) (sb_par T t).reverse Q0).bind (sq_open e p o t)).bind (sq_pushes (sb_par T t))
        rw [Option.bind_assoc]
    rw [es]
    obtain ⟨-, ⟨Qz, hS, hQ, hs⟩, -⟩ := hz
    have hS2 : mS T Qz (xs_A (xs_A z 20 p 0) 21 p 0) := mS_fr hS (yf_A (I := []) (J := []) (A := [20, 21]) (B := []) (yf_A yf_refl (by decide)) (by decide)) (by decide)
    rcases hs with ⟨a, b⟩ | ⟨a, b⟩
    · exact Or.inl ⟨Qz, a, b, hS2⟩
    · exact Or.inr ⟨a, b⟩
  · show upd (z.2.2.1 20) p 0 = _
    rw [z20]
  · show upd (z.2.2.1 21) p 0 = _
    rw [z21]
/-- 0x02, 0x03, 0x04, by the reference -/
theorem ml_block {p o e : Nat} {t : Option Nat ⊕ Int64} (hfu : 200 ≤ fu) (h : mK T u0 (some Q) v) (h8 : u0.1 8 = nI o) (hj : u0.2.1 0 = yb_m t) (h23 : u0.1 23 = nI p) (hp : p < 8192) (ho : o = 2 ∨ o = 3 ∨ o = 4) (hr : sb_rd t) : MC (fm_Model_checkBlock fu v) fun _ w => mO3 T u0 (if o = 4 then (sq_take (yl_f T) 1 Q).bind fun Q1 => sq_block T e p 4 t Q1 else sq_block T e p o t Q) w ∧ (w.1 7 = 0 → w.2.2.1 20 = upd (u0.2.2.1 20) p 0 ∧ w.2.2.1 21 = upd (u0.2.2.1 21) p 0) := by
  unfold fm_Model_checkBlock
  rw [(mK_8 h).2.2, hj]
  obtain ⟨m1, m2⟩ := mb_ok (T := T) (v := v) (t := t) h.1 hr
  have c4 : nI o = (4 : Int32) ↔ o = 4 := nI_eq (b := 4) (by omega) (by decide)
  by_cases z : sb_ok T t
  · rw [m1 z, ys_seq, if_neg (show ¬ (1 : Int32) = 0 by decide), (mK_8 h).1, h8]
    by_cases z4 : o = 4
    · rw [if_pos (c4.mpr z4), if_pos z4]
      refine MC_seq (ml_take (x := 1) h yvw_1) fun _ x hx => ?_
      refine MC_mono (ml_30 (e := e) (o := o) hfu hx h8 hj h23 hp (by omega) z hr) fun _ w hw => ⟨?_, fun _ => hw.2⟩
      have es : ((sq_take (yl_f T) 1 Q).bind fun Q1 => sq_block T e p 4 t Q1) = (((some Q).bind (sq_take (yl_f T) 1)).bind fun Q => (sq_takes (yl_f T) (sb_par T t).reverse Q).bind fun Q1 => (sq_open e p o t Q1).bind (sq_pushes (sb_par T t))) := by
        show _ = ((sq_take (yl_f T) 1 Q).bind fun Q => (sq_takes (yl_f T) (sb_par T t).reverse Q).bind fun Q1 => (sq_open e p o t Q1).bind (sq_pushes (sb_par T t)))
        congr 1
        funext Q1
        unfold sq_block
        rw [xs_ifp z, z4]
      rw [es]
      exact hw.1
    · rw [if_neg (fun y => z4 (c4.mp y)), if_neg z4]
      refine MC_mono (ml_30 (e := e) (o := o) hfu h h8 hj h23 hp (by omega) z hr) fun _ w hw => ⟨?_, fun _ => hw.2⟩
      unfold sq_block
      rw [xs_ifp z]
      exact hw.1
  · rw [m2 z, ys_seq, if_pos rfl]
    have e1 : (if o = 4 then (sq_take (yl_f T) 1 Q).bind fun Q1 => sq_block T e p 4 t Q1 else sq_block T e p o t Q) = none := by
      split
      · cases sq_take (yl_f T) 1 Q with
        | none => rfl
        | some Q1 => exact xs_ifn z
      · exact xs_ifn z
    rw [e1]
    exact MC_ok ⟨mO3_O2 (mO2_O (mO_K (ml_no h))), fun y => absurd y (by show ¬ (1 : Int32) = 0; decide)⟩
end
