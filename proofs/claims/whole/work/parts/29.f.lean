section
variable {α β γ δ σ τ : Type} {u v w u0 : xk_St} {g : Nat → Nat} {T : List (Nat × List Nat × List Nat)} {F : List Nat} {G : List (Nat × Nat × Nat × Int64)} {L : List Nat} {n fu tc mc : Nat} {Q Q' : List sFr} {s : Option (List sFr)}
theorem sb_nLi {d : Nat} (h : d < 2 ^ 31) : (lN d).toInt32 = nI d := by rw [← nI_toL h]; exact Int32.toInt32_toInt64 _
/-- 0x1b, by the reference -/
theorem ml_choice (h : mK T u0 (some Q) v) : MC (fm_Model_checkChoice v) fun _ w => mK T u0 (sq_choice T Q) w := by
  unfold fm_Model_checkChoice jb_Model_checkChoice_46 jb_Model_checkChoice_50
  refine MC_seq (ml_take (x := 1) h yvw_1) fun _ v1 h1 => ?_
  refine MC_seq (ml_pop h1) fun b v2 hb => ?_
  obtain ⟨x, rfl, hx, k2⟩ := hb
  refine MC_seq (ml_pop (mKv_K k2)) fun b v3 hb => ?_
  obtain ⟨y, rfl, hy, k3⟩ := hb
  have hxb := yvs_b hx
  have hyb := yvs_b hy
  have hx3 : x < 3 ∨ 16 ≤ x := by rcases hx with z | z | z <;> omega
  have hy3 : y < 3 ∨ 16 ≤ y := by rcases hy with z | z | z <;> omega
  have lx : (2 : Int32) < nI x ↔ 2 < x := nI_ltI (a := 2) (by omega) (by omega)
  have ly : (2 : Int32) < nI y ↔ 2 < y := nI_ltI (a := 2) (by omega) (by omega)
  have exy : nI x = nI y ↔ x = y := nI_eq (by omega) (by omega)
  have ex0 : nI x = (0 : Int32) ↔ x = 0 := nI_eq (b := 0) (by omega) (by decide)
  have ey0 : nI y = (0 : Int32) ↔ y = 0 := nI_eq (b := 0) (by omega) (by decide)
  -- the state behind, with its condition
  obtain ⟨E3, ⟨Q3, S3, N3, R3⟩, f3⟩ := k3
  have hfin : ∀ t : Int32, (t = 0 ∨ t = 1) → (t = 0 ↔ v3.1 7 = 0 ∧ (x < 3 ∧ y < 3 ∧ (x = y ∨ x = 0 ∨ y = 0))) → MC (jb_Model_checkChoice_51 (nI x) (nI y) t v3) fun _ w => mK T u0 (sq_choice T Q) w := fun t ht h0 => by
    have hk : mK T u0 ((((((some Q).bind (sq_take (yl_f T) 1)).bind sq_pop).bind fun z => some z.2).bind sq_pop).bind fun z => some z.2) v3 := mKv_K ⟨E3, ⟨Q3, S3, N3, R3⟩, f3⟩
    have hk2 := ml_flag hk ht h0
    unfold jb_Model_checkChoice_51 jb_Model_checkChoice_64
    simp only [xs_let]
    rw [if_pos ht]
    have hz : yvs T.length (if x = 0 then y else x) := by split <;> assumption
    have hsel : ∀ w : xk_St, (if nI x = (0 : Int32) then xs_seq (fm_Model_push (nI y) w) fun _ u7 => some ((), u7) else xs_seq (fm_Model_push (nI x) w) fun _ u7 => some ((), u7)) = xs_seq (fm_Model_push (nI (if x = 0 then y else x)) w) fun _ u7 => some ((), u7) := fun w => by
      by_cases z : x = 0
      · rw [if_pos (ex0.mpr z), if_pos z]
      · rw [if_neg (fun y => z (ex0.mp y)), if_neg z]
    rw [hsel]
    refine MC_seq (ml_push hk2 hz) fun _ w hw => MC_ok ?_
    have hsp : sq_choice T Q = (xs_if (x < 3 ∧ y < 3 ∧ (x = y ∨ x = 0 ∨ y = 0)) ((((((some Q).bind (sq_take (yl_f T) 1)).bind sq_pop).bind fun z => some z.2).bind sq_pop).bind fun z => some z.2)).bind (sq_push (if x = 0 then y else x)) := by
      unfold sq_choice
      cases e1 : sq_take (yl_f T) 1 Q with
      | none =>
        have : ((((((some Q).bind (sq_take (yl_f T) 1)).bind sq_pop).bind fun z => some z.2).bind sq_pop).bind fun z => some z.2) = none := by
          show (((((sq_take (yl_f T) 1 Q).bind sq_pop).bind fun z => some z.2).bind sq_pop).bind fun z => some z.2) = none
          rw [e1]; rfl
        rw [this]
        by_cases z : x < 3 ∧ y < 3 ∧ (x = y ∨ x = 0 ∨ y = 0)
        · rw [xs_ifp z]; rfl
        · rw [xs_ifn z]; rfl
      | some Q1 =>
        have t1 : ((((((some Q).bind (sq_take (yl_f T) 1)).bind sq_pop).bind fun z => some z.2).bind sq_pop).bind fun z => some z.2) = ((((sq_pop Q1).bind fun z => some z.2).bind sq_pop).bind fun z => some z.2) := by
          show (((((sq_take (yl_f T) 1 Q).bind sq_pop).bind fun z => some z.2).bind sq_pop).bind fun z => some z.2) = _
          rw [e1]; rfl
        rw [t1]
        have k2' : mRv T (sq_pop Q1) x v2 := by
          have := k2.2.1
          have e : ((some Q).bind (sq_take (yl_f T) 1)).bind sq_pop = sq_pop Q1 := by
            show (sq_take (yl_f T) 1 Q).bind sq_pop = _
            rw [e1]; rfl
          rw [e] at this
          exact this
        show ((sq_pop Q1).bind fun x => (sq_pop x.2).bind fun y => xs_if (x.1 < 3 ∧ y.1 < 3 ∧ (x.1 = y.1 ∨ x.1 = 0 ∨ y.1 = 0)) (sq_push (if x.1 = 0 then y.1 else x.1) y.2)) = _
        cases e2 : sq_pop Q1 with
        | none =>
          show none = (xs_if _ none).bind _
          by_cases z : x < 3 ∧ y < 3 ∧ (x = y ∨ x = 0 ∨ y = 0)
          · rw [xs_ifp z]; rfl
          · rw [xs_ifn z]; rfl
        | some z1 =>
          have hx1 : z1.1 = x := by
            obtain ⟨q, -, -, hr⟩ := k2'
            rw [e2] at hr
            rcases hr with ⟨hr, -⟩ | ⟨hr, -⟩
            · cases hr; rfl
            · cases hr
          have R3' : (sq_pop z1.2 = some (y, Q3) ∧ v3.1 7 = 0) ∨ (sq_pop z1.2 = none ∧ v3.1 7 = 1) := by
            have e : ((((some Q).bind (sq_take (yl_f T) 1)).bind sq_pop).bind fun z => some z.2).bind sq_pop = sq_pop z1.2 := by
              show (((sq_take (yl_f T) 1 Q).bind sq_pop).bind fun z => some z.2).bind sq_pop = _
              rw [e1]
              show ((sq_pop Q1).bind fun z => some z.2).bind sq_pop = _
              rw [e2]; rfl
            rw [e] at R3
            exact R3
          show ((sq_pop z1.2).bind fun y => xs_if (z1.1 < 3 ∧ y.1 < 3 ∧ (z1.1 = y.1 ∨ z1.1 = 0 ∨ y.1 = 0)) (sq_push (if z1.1 = 0 then y.1 else z1.1) y.2)) = (xs_if _ ((sq_pop z1.2).bind fun z => some z.2)).bind _
          rcases R3' with ⟨e3, -⟩ | ⟨e3, -⟩
          · rw [e3]
            show xs_if (z1.1 < 3 ∧ y < 3 ∧ (z1.1 = y ∨ z1.1 = 0 ∨ y = 0)) (sq_push (if z1.1 = 0 then y else z1.1) Q3) = (xs_if _ (some Q3)).bind _
            rw [hx1]
            by_cases z : x < 3 ∧ y < 3 ∧ (x = y ∨ x = 0 ∨ y = 0)
            · rw [xs_ifp z, xs_ifp z]; rfl
            · rw [xs_ifn z, xs_ifn z]; rfl
          · rw [e3]
            show none = (xs_if _ none).bind _
            by_cases z : x < 3 ∧ y < 3 ∧ (x = y ∨ x = 0 ∨ y = 0)
            · rw [xs_ifp z]; rfl
            · rw [xs_ifn z]; rfl
    rw [hsp]
    exact hw
  have go1 : ∀ hP : ¬ (v3.1 7 = 0 ∧ (x < 3 ∧ y < 3 ∧ (x = y ∨ x = 0 ∨ y = 0))), MC (jb_Model_checkChoice_51 (nI x) (nI y) 1 v3) fun _ w => mK T u0 (sq_choice T Q) w := fun hP => hfin 1 (Or.inr rfl) ⟨fun y => absurd y (by decide), fun y => absurd y hP⟩
  have go0 : ∀ hP : v3.1 7 = 0 ∧ (x < 3 ∧ y < 3 ∧ (x = y ∨ x = 0 ∨ y = 0)), MC (jb_Model_checkChoice_51 (nI x) (nI y) 0 v3) fun _ w => mK T u0 (sq_choice T Q) w := fun hP => hfin 0 (Or.inl rfl) ⟨fun _ => hP, fun _ => rfl⟩
  by_cases z7 : v3.1 7 = 0
  · rw [if_pos z7]
    by_cases zx : 2 < x
    · rw [if_pos (lx.mpr zx)]; exact go1 (by omega)
    · rw [if_neg (fun y => zx (lx.mp y))]
      by_cases zy : 2 < y
      · rw [if_pos (ly.mpr zy)]; exact go1 (by omega)
      · rw [if_neg (fun t => zy (ly.mp t))]
        by_cases z1 : x = y
        · rw [if_pos (exy.mpr z1)]; exact go0 ⟨z7, by omega⟩
        · rw [if_neg (fun t => z1 (exy.mp t))]
          by_cases z2 : x = 0
          · rw [if_pos (ex0.mpr z2)]; exact go0 ⟨z7, by omega⟩
          · rw [if_neg (fun t => z2 (ex0.mp t))]
            by_cases z3 : y = 0
            · rw [if_pos (ey0.mpr z3)]; exact go0 ⟨z7, by omega⟩
            · rw [if_neg (fun t => z3 (ey0.mp t))]; exact go1 (by omega)
  · rw [if_neg z7]; exact go1 (fun t => z7 t.1)
end
