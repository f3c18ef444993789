section
variable {α β γ δ σ τ : Type} {u v w u0 : xk_St} {g : Nat → Nat} {T : List (Nat × List Nat × List Nat)} {F : List Nat} {G : List (Nat × Nat × Nat × Int64)} {L : List Nat} {n fu tc mc : Nat} {Q Q' : List sFr} {s : Option (List sFr)}
/-- behind an instruction that may also mark the rest of a block -/
def mO2 (T : List (Nat × List Nat × List Nat)) (u0 : xk_St) (s : Option (List sFr)) (w : xk_St) : Prop := yf_fr [7, 21] [] [22, 26] [] u0 w ∧ ((∃ Q, s = some Q ∧ w.1 7 = 0 ∧ mS T Q w ∧ ¬ Q = []) ∨ (s = none ∧ w.1 7 = 1))
theorem mO2_O (h : mO T u0 s w) : mO2 T u0 s w := ⟨yf_mono h.1 (by decide), h.2⟩
theorem mO2_R (hf : yf_fr [7, 21] [] [22, 26] [] u0 w) (h : mR T s w) : mO2 T u0 s w := by
  obtain ⟨Q, hS, hQ, hs⟩ := h
  refine ⟨hf, ?_⟩
  rcases hs with ⟨e, h7⟩ | ⟨e, h7⟩
  · exact Or.inl ⟨Q, e, h7, hS, hQ⟩
  · exact Or.inr ⟨e, h7⟩
theorem ml_lose (h : mK T u0 s v) : MC (fm_Model_unreachable v) fun _ w => mO2 T u0 (s.bind fun Q => some (sq_lose Q)) w := MC_mono (mr_lose h.2.1) fun _ _ hp => mO2_R (yf_trans (yf_mono h.2.2 (by decide)) (yf_mono hp.2 (by decide))) hp.1
/-- 0x0c and 0x0d, by the reference -/
theorem ml_174 {o d : Nat} (hfu : 200 ≤ fu) (h : mK T u0 s v) (h8 : u0.1 8 = nI o) (ho : o = 12 ∨ o = 13) (hj : u0.2.1 0 = lN d) (hd : d < 2 ^ 32) : MC (jb_Model_checkWays_174 fu v) fun _ w => mO2 T u0 (if o = 12 then s.bind (sq_br T d) else s.bind fun Q1 => Q1[d]?.bind fun f => sq_sg T (sb_lab T f).reverse (sb_lab T f) Q1) w := by
  unfold jb_Model_checkWays_174
  rw [(mK_8 h).2.2, hj]
  have c12 : nI o = (12 : Int32) ↔ o = 12 := nI_eq (b := 12) (by omega) (by decide)
  rcases ml_out h hd with ⟨j, f, e1, hF, hf⟩ | ⟨e1, hf⟩
  · have h6 := hF.2.2.2.2.2
    rw [e1, ys_seq, if_pos (show (0 : Int32) ≤ nI j from nI_le (a := 0) (by omega) (by omega))]
    refine MC_seq (ml_takeEnd hfu h hF) fun _ x hx => ?_
    rw [(mK_8 hx).1, h8]
    by_cases z : o = 12
    · rw [if_pos (c12.mpr z), if_pos z]
      refine MC_seq (ml_lose hx) fun _ y hy => MC_ok ?_
      have e : s.bind (sq_br T d) = (s.bind (sq_takes (yl_f T) (sb_lab T f).reverse)).bind fun Q => some (sq_lose Q) := by
        cases s with
        | none => rfl
        | some Q0 =>
          show sq_br T d Q0 = (sq_takes (yl_f T) (sb_lab T f).reverse Q0).bind fun Q => some (sq_lose Q)
          unfold sq_br
          rw [hf Q0 rfl]; rfl
      rw [e]; exact hy
    · rw [if_neg (fun y => z (c12.mp y)), if_neg z]
      refine MC_seq (ml_bringEnd hfu hx (mF_K h hx hF)) fun _ y hy => MC_ok ?_
      have e : (s.bind fun Q1 => Q1[d]?.bind fun f => sq_sg T (sb_lab T f).reverse (sb_lab T f) Q1) = (s.bind (sq_takes (yl_f T) (sb_lab T f).reverse)).bind (sq_pushes (sb_lab T f)) := by
        cases s with
        | none => rfl
        | some Q0 =>
          show (Q0[d]?.bind fun f => sq_sg T (sb_lab T f).reverse (sb_lab T f) Q0) = _
          rw [hf Q0 rfl]; rfl
      rw [e]; exact mO2_O (mO_K hy)
  · rw [e1, ys_seq, if_neg (show ¬ (0 : Int32) ≤ -1 by decide)]
    have hno := mO2_O (mO_K (ml_no h))
    have e : (if o = 12 then s.bind (sq_br T d) else s.bind fun Q1 => Q1[d]?.bind fun f => sq_sg T (sb_lab T f).reverse (sb_lab T f) Q1) = none := by
      cases s with
      | none => split <;> rfl
      | some Q0 =>
        split
        · show sq_br T d Q0 = none
          unfold sq_br
          rw [hf Q0 rfl]; rfl
        · show (Q0[d]?.bind fun f => sq_sg T (sb_lab T f).reverse (sb_lab T f) Q0) = none
          rw [hf Q0 rfl]; rfl
    rw [e]
    exact MC_ok hno
theorem ml_12 {d : Nat} (hfu : 200 ≤ fu) (h : mK T u0 (some Q) v) (h8 : u0.1 8 = nI 12) (hj : u0.2.1 0 = lN d) (hd : d < 2 ^ 32) : MC (jb_Model_checkWays_160 fu v) fun _ w => mO2 T u0 (sq_br T d Q) w := by
  unfold jb_Model_checkWays_160
  rw [(mK_8 h).1, h8, if_neg (show ¬ nI 12 = (13 : Int32) by decide)]
  have := ml_174 hfu h h8 (Or.inl rfl) hj hd
  rw [if_pos rfl] at this
  exact this
theorem ml_13 {d : Nat} (hfu : 200 ≤ fu) (h : mK T u0 (some Q) v) (h8 : u0.1 8 = nI 13) (hj : u0.2.1 0 = lN d) (hd : d < 2 ^ 32) : MC (jb_Model_checkWays_160 fu v) fun _ w => mO2 T u0 (sq_brif T d Q) w := by
  unfold jb_Model_checkWays_160
  rw [(mK_8 h).1, h8, if_pos (show nI 13 = (13 : Int32) from rfl)]
  refine MC_seq (ml_take (x := 1) h yvw_1) fun _ x hx => ?_
  have := ml_174 hfu hx h8 (Or.inr rfl) hj hd
  rw [if_neg (show ¬ (13 : Nat) = 12 by decide)] at this
  exact this
/-- 0x0f -/
theorem ml_15 (hfu : 200 ≤ fu) (h : mK T u0 (some Q) v) : MC (xs_seq (fm_Model_takeEnd fu (0 : Int32) v) fun _ u13 => xs_seq (fm_Model_unreachable u13) fun _ u14 => some ((), u14)) fun _ w => mO2 T u0 (sq_ret T Q) w := by
  obtain ⟨hE, ⟨Q0, hS, hQ, hs⟩, hf⟩ := id h
  have hQ0 : Q = Q0 := by
    rcases hs with ⟨e, -⟩ | ⟨e, -⟩
    · cases e; rfl
    · cases e
  subst hQ0
  have hpos : 0 < Q.length := List.length_pos_iff.mpr hQ
  obtain ⟨f, hff⟩ := yl_get (l := Q) (k := Q.length - 1) (by omega)
  have hF := mS_get hS hff
  rw [show Q.length - 1 - (Q.length - 1) = 0 by omega] at hF
  refine MC_seq (ml_takeEnd (j := 0) hfu h hF) fun _ x hx => ?_
  refine MC_seq (ml_lose hx) fun _ y hy => MC_ok ?_
  have e : sq_ret T Q = ((some Q).bind (sq_takes (yl_f T) (sb_lab T f).reverse)).bind fun Q => some (sq_lose Q) := by
    unfold sq_ret
    rw [hff]; rfl
  rw [e]; exact hy
end
