section
variable {α β γ δ σ τ : Type} {u v w u0 : xk_St} {g : Nat → Nat} {T : List (Nat × List Nat × List Nat)} {F : List Nat} {G : List (Nat × Nat × Nat × Int64)} {L : List Nat} {n fu tc mc : Nat} {Q Q' : List sFr} {s : Option (List sFr)}
theorem sv_b {way t : Nat} : s.bind (sq_var T way t) = s.bind (sq_sg T (if way = 0 then [] else [t]) (if way = 1 then [] else [t])) := by
  cases s with
  | none => rfl
  | some Q => rfl
/-- a variable, by the reference -/
theorem ml_107 {o t : Nat} (h : mK T u0 s v) (h8 : v.1 8 = nI o) (ho : 32 ≤ o) (ho2 : o ≤ 36) (hw : yvw T.length t) (hs : yvs T.length t) : MC (jb_Model_checkNames_107 (nI t) v) fun _ w => mK T u0 (s.bind (sq_var T (if o < 35 then o - 32 else o - 35) t)) w := by
  have c32 : nI o = (32 : Int32) ↔ o = 32 := nI_eq (b := 32) (by omega) (by decide)
  have c33 : nI o = (33 : Int32) ↔ o = 33 := nI_eq (b := 33) (by omega) (by decide)
  have c34 : nI o = (34 : Int32) ↔ o = 34 := nI_eq (b := 34) (by omega) (by decide)
  have c35 : nI o = (35 : Int32) ↔ o = 35 := nI_eq (b := 35) (by omega) (by decide)
  have c36 : nI o = (36 : Int32) ↔ o = 36 := nI_eq (b := 36) (by omega) (by decide)
  have h139 : ∀ {s : Option (List sFr)} {w : xk_St}, mK T u0 s w → w.1 8 = nI o → MC (jb_Model_checkNames_139 (nI t) w) fun _ x => mK T u0 (s.bind (sq_sg T [] (if o = 33 ∨ o = 36 then [] else [t]))) x := fun {s w} hk e8 => by
    unfold jb_Model_checkNames_139 jb_Model_checkNames_166
    have go : MC (xs_seq (fm_Model_push (nI t) w) fun _ u2 => some ((), u2)) fun _ x => mK T u0 (s.bind (sq_sg T [] [t])) x := by
      refine MC_seq (ml_push hk hs) fun _ x hx => MC_ok ?_
      rw [sg_p, sg_e]; exact hx
    rw [e8]
    by_cases z : o = 33 ∨ o = 36
    · rw [if_pos z, if_neg (fun y => by have := c32.mp y; omega), if_neg (fun y => by have := c34.mp y; omega), if_neg (fun y => by have := c35.mp y; omega), sg_e]
      exact MC_ok hk
    · rw [if_neg z]
      by_cases z2 : o = 32
      · rw [if_pos (c32.mpr z2)]; exact go
      · rw [if_neg (fun y => z2 (c32.mp y))]
        by_cases z3 : o = 34
        · rw [if_pos (c34.mpr z3)]; exact go
        · rw [if_neg (fun y => z3 (c34.mp y)), if_pos (c35.mpr (by omega))]; exact go
  have h134 : MC (jb_Model_checkNames_134 (nI t) v) fun _ x => mK T u0 (s.bind (sq_sg T [t] (if o = 33 ∨ o = 36 then [] else [t]))) x := by
    unfold jb_Model_checkNames_134
    refine MC_seq (mr_take8x h hw) fun _ w hw => ?_
    rw [sg_t]
    exact h139 hw.1 (hw.2.trans h8)
  have e : s.bind (sq_var T (if o < 35 then o - 32 else o - 35) t) = s.bind (sq_sg T (if o = 32 ∨ o = 35 then [] else [t]) (if o = 33 ∨ o = 36 then [] else [t])) := by
    rw [sv_b]
    congr 2
    · by_cases z : o < 35
      · rw [if_pos z]
        by_cases z2 : o = 32
        · rw [if_pos (by omega), if_pos (Or.inl z2)]
        · rw [if_neg (by omega), if_neg (by omega)]
      · rw [if_neg z]
        by_cases z2 : o = 35
        · rw [if_pos (by omega), if_pos (Or.inr z2)]
        · rw [if_neg (by omega), if_neg (by omega)]
    · by_cases z : o < 35
      · rw [if_pos z]
        by_cases z2 : o = 33
        · rw [if_pos (by omega), if_pos (Or.inl z2)]
        · rw [if_neg (by omega), if_neg (by omega)]
      · rw [if_neg z]
        by_cases z2 : o = 36
        · rw [if_pos (by omega), if_pos (Or.inr z2)]
        · rw [if_neg (by omega), if_neg (by omega)]
  rw [e]
  unfold jb_Model_checkNames_107
  rw [h8]
  by_cases z : o = 32 ∨ o = 35
  · rw [if_pos z, if_neg (fun y => by have := c33.mp y; omega), if_neg (fun y => by have := c34.mp y; omega), if_neg (fun y => by have := c36.mp y; omega)]
    exact h139 h h8
  · rw [if_neg z]
    by_cases z2 : o = 33
    · rw [if_pos (c33.mpr z2)]; exact h134
    · rw [if_neg (fun y => z2 (c33.mp y))]
      by_cases z3 : o = 34
      · rw [if_pos (c34.mpr z3)]; exact h134
      · rw [if_neg (fun y => z3 (c34.mp y)), if_pos (c36.mpr (by omega))]; exact h134
theorem ml_names {o f k : Nat} (h : mK T u0 (some Q) v) (h7 : v.1 7 = 0) (hE : mEn T F tc mc G v) (hL : mLo T L f v) (h8 : v.1 8 = nI o) (ho : 32 ≤ o) (ho2 : o ≤ 36) (hj : v.2.1 0 = lN k) (hk : k < 2 ^ 32) : MC (fm_Model_checkNames (nI f) v) fun _ w => mK T u0 (if o < 35 then L[k]?.bind fun t => sq_var T (o - 32) t Q else G[k]?.bind fun a => xs_if (o = 35 ∨ a.2.1 = 1) (sq_var T (o - 35) a.1 Q)) w := by
  have c35 : (35 : Int32) ≤ nI o ↔ 35 ≤ o := nI_leI (a := 35) (by omega) (by omega)
  have c36 : nI o = (36 : Int32) ↔ o = 36 := nI_eq (b := 36) (by omega) (by decide)
  obtain ⟨-, -, -, -, -, g1, g2, g3⟩ := hE
  obtain ⟨l1, l2, l3, l4⟩ := hL
  unfold fm_Model_checkNames
  rw [h8, hj]
  by_cases z : o < 35
  · rw [if_neg (fun y => by have := c35.mp y; omega), if_pos z, if_neg (nI_in (N := 64) l3 (by decide)), nI_clamp (by omega), l1]
    unfold jb_Model_checkNames_26
    rw [nI_toL (by omega), hj, h8]
    have hlt : lN k < lN L.length ↔ k < L.length := pk_lLT (by omega) (by omega)
    by_cases zk : k < L.length
    · rw [if_pos (hlt.mpr zk), if_neg (fun y => by have := c35.mp y; omega), sb_nLi (by omega)]
      obtain ⟨c, hc⟩ := yl_get (l := L) zk
      obtain ⟨c1, c2, c3⟩ := l4 k c hc
      rw [show (200 : Int32) * nI f + nI k = nI (200 * f + k) by rw [← nI_add, show nI (200 * f) = 200 * nI f from by show Int32.ofNat _ = Int32.ofNat 200 * Int32.ofNat f; rw [Int32.ofNat_mul]], if_neg (nI_in (N := 12800) (by omega) (by decide)), nI_clamp (by omega), c1, hc]
      unfold jb_Model_checkNames_75
      rw [h8, if_neg (fun y => by have := c36.mp y; omega)]
      have := ml_107 h h8 ho ho2 c2 c3
      rw [if_pos z] at this
      exact this
    · rw [if_neg (fun y => zk (hlt.mp y)), List.getElem?_eq_none (by omega)]
      exact MC_ok (ml_no h)
  · rw [if_pos (c35.mpr (by omega)), if_neg z, g1]
    unfold jb_Model_checkNames_26
    rw [nI_toL (by omega), hj, h8]
    have hlt : lN k < lN G.length ↔ k < G.length := pk_lLT (by omega) (by omega)
    by_cases zk : k < G.length
    · rw [if_pos (hlt.mpr zk), if_pos (c35.mpr (by omega)), sb_nLi (by omega)]
      obtain ⟨a, ha⟩ := yl_get (l := G) zk
      obtain ⟨c1, c2, c3, c4, c5⟩ := g3 k a ha
      rw [if_neg (nI_in (N := 64) (by omega) (by decide)), nI_clamp (by omega), c1, ha]
      unfold jb_Model_checkNames_75
      rw [h8, hj, sb_nLi (by omega)]
      show MC _ fun _ w => mK T u0 (xs_if (o = 35 ∨ a.2.1 = 1) (sq_var T (o - 35) a.1 Q)) w
      by_cases z6 : o = 36
      · rw [if_pos (c36.mpr z6), if_neg (nI_in (N := 64) (by omega) (by decide)), nI_clamp (by omega), c2]
        have cm : nI a.2.1 = (0 : Int32) ↔ a.2.1 = 0 := nI_eq (b := 0) (by omega) (by decide)
        have go : ∀ x : Int32, (x = 0 ∨ x = 1) → (x = 0 ↔ a.2.1 = 1) → MC (jb_Model_checkNames_104 (nI a.1) x v) fun _ w => mK T u0 (xs_if (o = 35 ∨ a.2.1 = 1) (sq_var T (o - 35) a.1 Q)) w := fun x hx h0 => by
          unfold jb_Model_checkNames_104
          simp only [xs_let]
          rw [if_pos hx]
          have hk2 := ml_flag (P := o = 35 ∨ a.2.1 = 1) (x := x) h hx ⟨fun y => ⟨h7, Or.inr (h0.mp y)⟩, fun y => by rcases y.2 with t | t; omega; exact h0.mpr t⟩
          have := ml_107 hk2 (show (xs_I v 7 x).1 8 = nI o from h8) ho ho2 c4 c5
          rw [if_neg z] at this
          refine MC_mono this fun _ w hw => ?_
          have e : xs_if (o = 35 ∨ a.2.1 = 1) (sq_var T (o - 35) a.1 Q) = (xs_if (o = 35 ∨ a.2.1 = 1) (some Q)).bind (sq_var T (o - 35) a.1) := by
            by_cases zp : o = 35 ∨ a.2.1 = 1
            · rw [xs_ifp zp, xs_ifp zp]; rfl
            · rw [xs_ifn zp, xs_ifn zp]; rfl
          rw [e]; exact hw
        by_cases zm : a.2.1 = 0
        · rw [if_pos (cm.mpr zm)]
          exact go 1 (Or.inr rfl) ⟨fun y => absurd y (by decide), fun y => by omega⟩
        · rw [if_neg (fun y => zm (cm.mp y))]
          exact go 0 (Or.inl rfl) ⟨fun _ => by omega, fun _ => rfl⟩
      · rw [if_neg (fun y => z6 (c36.mp y)), xs_ifp (Or.inl (by omega))]
        have := ml_107 h h8 ho ho2 c4 c5
        rw [if_neg z] at this
        exact this
    · rw [if_neg (fun y => zk (hlt.mp y)), List.getElem?_eq_none (by omega)]
      exact MC_ok (ml_no h)
end
