section
variable {α β γ δ σ τ : Type} {u v w u0 : xk_St} {g : Nat → Nat} {T : List (Nat × List Nat × List Nat)} {n fu : Nat} {Q Q' : List sFr} {s : Option (List sFr)}
/-- whatever is pushed when it is wrong, it stays wrong -/
theorem ml_pushN {x : Int32} (h : mK T u0 none v) : MC (fm_Model_push x v) fun _ w => mO T u0 none w := by
  obtain ⟨hE, ⟨Qj, hS, hQ, hs⟩, hf⟩ := h
  have x1 : v.1 7 = 1 := by
    rcases hs with ⟨y, -⟩ | ⟨-, y⟩
    · cases y
    · exact y
  unfold fm_Model_push
  simp only [xs_let]
  have hh := hS.2.2.2.1
  rw [hS.2.2.1]
  by_cases zz : nI (sq_h Qj) = (100 : Int32)
  · rw [if_pos zz]
    exact MC_ok ⟨yf_I hf (by decide), Or.inr ⟨rfl, rfl⟩⟩
  · rw [if_neg zz, ix101 (by omega)]
    exact MC_ok ⟨yf_I (yf_A hf (by decide)) (by decide), Or.inr ⟨rfl, x1⟩⟩
/-- kinds, by the reference -/
theorem ml_kind {o t : Nat} (h : mK T u0 (some Q) v) (h7 : v.1 7 = 0) (h9 : u0.1 9 = nI o) (hj : o < 24 → u0.2.1 0 = lN t ∧ t ≤ 66) (ho : 20 ≤ o) (ho2 : o < 31) (hr : o < 24 ∨ 28 ≤ o) : MC (fm_Model_checkObjects fu v) fun _ w => mO T u0 (sq_kind T o t Q) w := by
  have w19 : yvw T.length 19 := ⟨by decide, Or.inl (by decide)⟩
  have s18 : yvs T.length 18 := Or.inr (Or.inr ⟨by decide, by decide, Or.inl (by decide)⟩)
  have c6 : (6 : Int32) ≤ nI o := nI_le (a := 6) (by omega) (by omega)
  have c9 : (9 : Int32) ≤ nI o := nI_le (a := 9) (by omega) (by omega)
  have c17 : (17 : Int32) ≤ nI o := nI_le (a := 17) (by omega) (by omega)
  have c15 : ¬ nI o = (15 : Int32) := fun y => by have := (nI_eq (b := 15) (by omega) (by decide)).mp y; omega
  have c24 : (24 : Int32) ≤ nI o ↔ 24 ≤ o := nI_leI (a := 24) (by omega) (by omega)
  have c22 : (22 : Int32) ≤ nI o ↔ 22 ≤ o := nI_leI (a := 22) (by omega) (by omega)
  have c28 : nI o = (28 : Int32) ↔ o = 28 := nI_eq (b := 28) (by omega) (by decide)
  have c23 : nI o = (23 : Int32) ↔ o = 23 := nI_eq (b := 23) (by omega) (by decide)
  unfold fm_Model_checkObjects sq_kind
  rw [(mK_8 h).2.1, h9, if_pos c6, if_pos c9, if_neg c15, if_pos c17]
  by_cases z1 : 24 ≤ o
  · rw [if_pos (c24.mpr z1)]
    by_cases z2 : o = 28
    · rw [if_pos (c28.mpr z2), if_pos z2]
      refine MC_seq (ml_take (x := 1) h yvw_1) fun _ w hw => ?_
      rw [show fm_Model_reference (1 : Int32) 0 w = _ from mm_rf0 (t := 1), ys_seq]
      refine MC_seq (ml_push (c := 18) hw s18) fun _ x hx => MC_ok ?_
      rw [sq_sg1]
      exact mO_K hx
    · rw [if_neg (fun y => z2 (c28.mp y)), if_neg z2, if_pos (show 28 < o by omega)]
      rw [show fm_Model_reference (1 : Int32) 1 v = _ from mm_rf1 (t := 1), ys_seq]
      refine MC_seq (ml_take (x := 19) h w19) fun _ w hw => ?_
      refine MC_seq (ml_push (c := 1) hw yvs_1) fun _ x hx => MC_ok ?_
      rw [sq_sg1]
      exact mO_K hx
  · obtain ⟨j1, j2⟩ := hj (by omega)
    rw [if_neg (fun y => z1 (c24.mp y)), if_neg (show ¬ o = 28 by omega), if_neg (show ¬ 28 < o by omega), (mK_8 h).2.2, j1, sb_nLi (by omega)]
    obtain ⟨m1, m2⟩ := mm_objT (t := t) h.1 j2
    have go : ∀ x : Int32, (x = 0 ∨ x = 1) → (x = 0 ↔ yv_in T T.length (16 + 2 * t)) → MC (jb_Model_checkObjects_156 fu x v) fun _ w => mO T u0 (xs_if (yv_in T T.length (16 + 2 * t)) (sq_sg T [17] [if o < 22 then 1 else if o = 23 then 16 + 2 * t + 1 else 16 + 2 * t] Q)) w := fun x hx h0 => by
      have hk := ml_flag (P := yv_in T T.length (16 + 2 * t)) (x := x) h hx ⟨fun y => ⟨h7, h0.mp y⟩, fun y => h0.mpr y.2⟩
      unfold jb_Model_checkObjects_156 jb_Model_checkObjects_197 jb_Model_checkObjects_200
      simp only [xs_let]
      rw [if_pos hx]
      refine MC_seq (ml_popR hk) fun b w hb => ?_
      obtain ⟨c, rfl, hc, hkv⟩ := hb
      have hR := ml_R hkv
      have es : ∀ y, xs_if (yv_in T T.length (16 + 2 * t)) (sq_sg T [17] [y] Q) = (((xs_if (yv_in T T.length (16 + 2 * t)) (some Q)).bind sq_popR).bind fun x => some x.2).bind (sq_push y) := fun y => by
        by_cases z : yv_in T T.length (16 + 2 * t)
        · rw [xs_ifp z, xs_ifp z, sq_sg1, sq_t17]; rfl
        · rw [xs_ifn z, xs_ifn z]; rfl
      have fin : ∀ y, (yv_in T T.length (16 + 2 * t) → yvs T.length y) → MC (xs_seq (fm_Model_push (nI y) w) fun _ u16 => some ((), u16)) fun _ x => mO T u0 (xs_if (yv_in T T.length (16 + 2 * t)) (sq_sg T [17] [y] Q)) x := fun y hy => by
        rw [es y]
        by_cases z : yv_in T T.length (16 + 2 * t)
        · exact MC_seq (ml_push hR (hy z)) fun _ x hx => MC_ok (mO_K hx)
        · rw [xs_ifn z] at hR ⊢
          exact MC_seq (ml_pushN hR) fun _ x hx => MC_ok hx
      rw [(mKv_8 hkv).2.1, h9, (mKv_8 hkv).2.2, j1, sb_nLi (by omega)]
      by_cases z3 : 22 ≤ o
      · rw [if_pos (c22.mpr z3), if_neg (show ¬ o < 22 by omega)]
        by_cases z4 : o = 23
        · rw [if_pos (c23.mpr z4), if_pos z4, mm_rf1, ys_seq]
          exact fin _ (fun y => (yvw_t j2 y).2.2.2)
        · rw [if_neg (fun y => z4 (c23.mp y)), if_neg z4, mm_rf0, ys_seq]
          exact fin _ (fun y => (yvw_t j2 y).2.2.1)
      · rw [if_neg (fun y => z3 (c22.mp y)), if_pos (show o < 22 by omega)]
        exact fin 1 (fun _ => yvs_1)
    by_cases z : yv_in T T.length (16 + 2 * t)
    · rw [m1 z, ys_seq, if_neg (show ¬ (1 : Int32) = 0 by decide)]
      exact go 0 (Or.inl rfl) ⟨fun _ => z, fun _ => rfl⟩
    · rw [m2 z, ys_seq, if_pos rfl]
      exact go 1 (Or.inr rfl) ⟨fun y => absurd y (by decide), fun y => absurd y z⟩
end
