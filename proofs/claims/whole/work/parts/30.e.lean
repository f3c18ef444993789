section
variable {α β γ δ σ τ : Type} {B : Nat → Int32} {u v w x u0 : xk_St} {g : Nat → Nat} {T : List (Nat × List Nat × List Nat)} {F : List Nat} {G : List (Nat × Nat × Nat × Int64)} {L : List Nat} {n fu tc mc lim : Nat} {Q Q' : List sFr} {s : Option (List sFr)}
theorem mO3_O (h : mO T u0 s w) : mO3 T u0 s w := mO3_O2 (mO2_O h)
/-- what an instruction's check notes for the run -/
def mN (i : sIn) (p : Nat) (Q : List sFr) (x w : xk_St) : Prop := w.1 7 = 0 → ∀ f r, Q = f :: r → w.2.2.1 20 = (if i.1 = 2 ∨ i.1 = 3 ∨ i.1 = 4 then upd (x.2.2.1 20) p 0 else if i.1 = 11 then upd (x.2.2.1 20) f.1.2 (x.1 4) else x.2.2.1 20) ∧ w.2.2.1 21 = (if i.1 = 2 ∨ i.1 = 3 ∨ i.1 = 4 then upd (x.2.2.1 21) p 0 else if i.1 = 5 then upd (x.2.2.1 21) f.1.2 (x.1 4) else x.2.2.1 21)
theorem mN_O2 {i : sIn} {p : Nat} (h : mO2 T x s w) (hi : ¬ (i.1 = 2 ∨ i.1 = 3 ∨ i.1 = 4)) (h5 : ¬ i.1 = 5) (h11 : ¬ i.1 = 11) : mO3 T x s w ∧ mN i p Q x w := by
  refine ⟨mO3_O2 h, fun _ f r _ => ?_⟩
  rw [if_neg hi, if_neg h11, if_neg hi, if_neg h5, h.1.2.2.1 20 (by decide), h.1.2.2.1 21 (by decide)]
  exact ⟨rfl, rfl⟩
theorem mN_O {i : sIn} {p : Nat} (h : mO T x s w) (hi : 16 ≤ i.1) : mO3 T x s w ∧ mN i p Q x w := mN_O2 (mO2_O h) (by omega) (by omega) (by omega)
theorem mN_K {i : sIn} {p : Nat} (h : mK T x s w) (hi : 16 ≤ i.1) : mO3 T x s w ∧ mN i p Q x w := mN_O (mO_K h) hi
noncomputable def md_st (fu : Nat) (b1 : Int32) (u9 : xk_St) : Option (Unit × xk_St) :=
  if (32 : Int32) ≤ (u9.1 8) then (if (40 : Int32) ≤ (u9.1 8) then (if (65 : Int32) ≤ (u9.1 8) then (if (208 : Int32) ≤ (u9.1 8) then (if (251 : Int32) ≤ (u9.1 8) then fm_Model_checkObjects fu u9 else fm_Model_checkReferences fu u9) else fm_Model_checkNumbers u9) else fm_Model_checkMemory u9) else fm_Model_checkNames b1 u9) else fm_Model_checkWays fu u9
theorem MC_1 {o : Option (Unit × xk_St)} {P : Unit → xk_St → Prop} (h : MC o P) : MC (xs_seq o fun _ u => some ((), u)) P := MC_seq h fun _ _ hp => MC_ok hp
/-- an instruction below 0x20, by the reference -/
theorem mi_ways {p e f : Nat} {i : sIn} (hfu : 200 ≤ fu) (hfl : lim + 3 ≤ fu) (hE : yTM T x) (hS : mS T Q x) (hQ : ¬ Q = []) (h7 : x.1 7 = 0) (hEn : mEn T F tc mc G x) (hi : yg_ins i) (hy : yi_ins i x) (h23 : x.1 23 = nI p) (hp : p < 8192) (hB : x.2.2.1 1 = B) (hx5 : x.1 5 = nI lim) (hlim : lim ≤ 8192) (hx6 : x.1 6 = 0) (h14 : i.1 = 14 → i.2.2.2.1 ≤ lim ∧ ∃ q1, yp_rep (yp_N B lim) i.2.2.2.2.length i.2.2.2.1 = .inl (i.2.2.2.2, q1)) (h32 : i.1 < 32) :
    MC (md_st fu (nI f) x) fun _ w => mO3 T x (sq_step T F tc mc G L e p i Q) w ∧ mN i p Q x w := by
  obtain ⟨y1, y2, y3, y4, y5⟩ := hy
  obtain ⟨op, t, b, np, l⟩ := i
  have h32 : op < 32 := h32
  have y4 : x.1 8 = nI (if op < 256 then op else 251) := y4
  rw [if_pos (show op < 256 by omega)] at y4
  obtain ⟨g1, g2, g3, g98, g114, g116, g117, g119⟩ := hi
  have g2 : ¬ xt_S op = 45 := g2
  have g3 : ¬ xt_S op = 33 := g3
  have g98 : xt_S op = 98 → sb_rd t := g98
  have g114 : xt_S op = 114 → ∃ m, m < 2 ^ 32 ∧ t = .inr (lN m) := g114
  have g117 : xt_S op = 117 → ∃ m, m < 2 ^ 32 ∧ t = .inr (lN m) ∧ b = 0 := g117
  have g119 : xt_S op = 119 → ∃ m x, m < 2 ^ 32 ∧ x < 2 ^ 32 ∧ t = .inr (lN m) ∧ b = lN x := g119
  have y1 : x.2.1 0 = yb_m t := y1
  have y2 : x.2.1 1 = b := y2
  have y3 : op = 14 → x.1 10 = nI np ∧ x.1 11 = nI l.length := y3
  have hK : mK T x (some Q) x := mK_0 hE ⟨Q, hS, hQ, Or.inl ⟨rfl, h7⟩⟩
  obtain ⟨fq, rq, rfl⟩ : ∃ f r, Q = f :: r := by
    cases Q with
    | nil => exact absurd rfl hQ
    | cons f r => exact ⟨f, r, rfl⟩
  have e0 : md_st fu (nI f) x = fm_Model_checkWays fu x := by
    unfold md_st
    rw [y4, if_neg (show ¬ (32 : Int32) ≤ nI op from nI_ge (b := 32) h32 (by decide))]
  rw [e0]
  have hops : ∀ o, o < 32 → (¬ xt_S o = 33 ∧ ¬ xt_S o = 45) → o ∈ [0, 1, 2, 3, 4, 5, 11, 12, 13, 14, 15, 16, 17, 26, 27] := by decide +kernel
  have hop := hops op h32 ⟨g3, g2⟩
  simp only [List.mem_cons, List.not_mem_nil, or_false] at hop
  unfold fm_Model_checkWays
  simp only [xs_let]
  rw [y4]
  rcases hop with rfl | rfl | rfl | rfl | rfl | rfl | rfl | rfl | rfl | rfl | rfl | rfl | rfl | rfl | rfl
  · -- 00
    show MC (xs_seq (fm_Model_unreachable x) fun _ u2 => some ((), u2)) _
    exact MC_1 (MC_mono (ml_lose hK) fun _ w hw => mN_O2 hw (by simp) (by simp) (by simp))
  · -- 01
    show MC (some ((), x)) _
    exact MC_ok (mN_O2 (mO2_O (mO_K hK)) (by simp) (by simp) (by simp))
  · show MC (xs_seq (fm_Model_checkBlock fu x) fun _ u2 => some ((), u2)) _
    refine MC_1 (MC_mono (ml_block (e := e) (o := 2) hfu hK y4 y1 h23 hp (by simp) (g98 (by decide +kernel))) fun _ w hw => ⟨hw.1, fun w7 f r _ => ?_⟩)
    obtain ⟨q1, q2⟩ := hw.2 w7
    rw [if_pos (by simp), if_pos (by simp)]
    exact ⟨q1, q2⟩
  · show MC (xs_seq (fm_Model_checkBlock fu x) fun _ u2 => some ((), u2)) _
    refine MC_1 (MC_mono (ml_block (e := e) (o := 3) hfu hK y4 y1 h23 hp (by simp) (g98 (by decide +kernel))) fun _ w hw => ⟨hw.1, fun w7 f r _ => ?_⟩)
    obtain ⟨q1, q2⟩ := hw.2 w7
    rw [if_pos (by simp), if_pos (by simp)]
    exact ⟨q1, q2⟩
  · show MC (xs_seq (fm_Model_checkBlock fu x) fun _ u2 => some ((), u2)) _
    refine MC_1 (MC_mono (ml_block (e := e) (o := 4) hfu hK y4 y1 h23 hp (by simp) (g98 (by decide +kernel))) fun _ w hw => ⟨hw.1, fun w7 f r _ => ?_⟩)
    obtain ⟨q1, q2⟩ := hw.2 w7
    rw [if_pos (by simp), if_pos (by simp)]
    exact ⟨q1, q2⟩
  · show MC (xs_seq (fm_Model_checkElse fu x) fun _ u2 => some ((), u2)) _
    refine MC_1 (MC_mono (ml_else hfu hK) fun _ w hw => ⟨hw.1, fun w7 f r hq => ?_⟩)
    cases hq
    rw [if_neg (by simp), if_neg (by simp), if_neg (by simp), if_pos (by simp)]
    exact ⟨hw.2.1, hw.2.2 w7⟩
  · show MC (xs_seq (fm_Model_checkEnd fu x) fun _ u2 => some ((), u2)) _
    refine MC_1 (MC_mono (ml_end hfu hK) fun _ w hw => ⟨hw.1, fun w7 f r hq => ?_⟩)
    cases hq
    rw [if_neg (by simp), if_pos (by simp), if_neg (by simp), if_neg (by simp)]
    exact ⟨hw.2.2 w7, hw.2.1⟩
  · obtain ⟨m, m1, m2, m3⟩ := g117 (by decide +kernel)
    show MC (jb_Model_checkWays_160 fu x) _
    have := ml_12 (d := m) hfu hK y4 (by rw [y1, m2]; rfl) m1
    have es : sq_step T F tc mc G L e p (12, t, b, np, l) (fq :: rq) = sq_br T m (fq :: rq) := by
      show sq_br T (yx_n t) (fq :: rq) = _
      rw [m2, yx_lN (by omega)]
    rw [es]
    exact MC_mono this fun _ w hw => mN_O2 hw (by simp) (by simp) (by simp)
  · obtain ⟨m, m1, m2, m3⟩ := g117 (by decide +kernel)
    show MC (jb_Model_checkWays_160 fu x) _
    have := ml_13 (d := m) hfu hK y4 (by rw [y1, m2]; rfl) m1
    have es : sq_step T F tc mc G L e p (13, t, b, np, l) (fq :: rq) = sq_brif T m (fq :: rq) := by
      show sq_brif T (yx_n t) (fq :: rq) = _
      rw [m2, yx_lN (by omega)]
    rw [es]
    exact MC_mono this fun _ w hw => mN_O2 hw (by simp) (by simp) (by simp)
  · obtain ⟨m, m1, m2⟩ := g114 (by decide +kernel)
    obtain ⟨k1, q1, k2⟩ := h14 rfl
    have k2 : yp_rep (yp_N B lim) l.length np = .inl (l, q1) := k2
    obtain ⟨y10, y11⟩ := y3 rfl
    show MC (xs_seq (fm_Model_checkTable fu x) fun _ u2 => some ((), u2)) _
    have := ml_table (last := m) hfu hfl hK hB hx5 hlim hx6 (by rw [y1, m2]; rfl) m1 y10 y11 k1 k2
    have es : sq_step T F tc mc G L e p (14, t, b, np, l) (fq :: rq) = sq_table T l m (fq :: rq) := by
      show sq_table T l (yx_n t) (fq :: rq) = _
      rw [m2, yx_lN (by omega)]
    rw [es]
    exact MC_1 (MC_mono this fun _ w hw => mN_O2 hw (by simp) (by simp) (by simp))
  · show MC (xs_seq (fm_Model_takeEnd fu (0 : Int32) x) fun _ u13 => xs_seq (fm_Model_unreachable u13) fun _ u14 => some ((), u14)) _
    exact MC_mono (ml_15 hfu hK) fun _ w hw => mN_O2 hw (by simp) (by simp) (by simp)
  · obtain ⟨m, m1, m2, m3⟩ := g117 (by decide +kernel)
    show MC (xs_seq (fm_Model_checkCall fu x) fun _ u2 => some ((), u2)) _
    have := ml_call (o := 16) (k := m) hfu hK h7 hEn y4 (Or.inl rfl) (by rw [y1, m2]; rfl) m1
    rw [if_pos rfl] at this
    have es : sq_step T F tc mc G L e p (16, t, b, np, l) (fq :: rq) = F[m]?.bind fun t => T[t]?.bind fun c => sq_sg T c.2.1.reverse c.2.2 (fq :: rq) := by
      show (F[yx_n t]?.bind fun t => T[t]?.bind fun c => sq_sg T c.2.1.reverse c.2.2 (fq :: rq)) = _
      rw [m2, yx_lN (by omega)]
    rw [es]
    exact MC_1 (MC_mono this fun _ w hw => mN_K hw (by simp))
  · obtain ⟨m, m', m1, m2, m3, m4⟩ := g119 (by decide +kernel)
    show MC (xs_seq (fm_Model_checkCall fu x) fun _ u2 => some ((), u2)) _
    have := ml_call (o := 17) (k := m) hfu hK h7 hEn y4 (Or.inr rfl) (by rw [y1, m3]; rfl) m1
    rw [if_neg (show ¬ (17 : Nat) = 16 by decide)] at this
    have es : sq_step T F tc mc G L e p (17, t, b, np, l) (fq :: rq) = T[m]?.bind fun c => xs_if (c.1 = 96 ∧ tc = 1 ∧ x.2.1 1 = 0) (sq_sg T (1 :: c.2.1.reverse) c.2.2 (fq :: rq)) := by
      show (T[yx_n t]?.bind fun c => xs_if (c.1 = 96 ∧ tc = 1 ∧ b = 0) (sq_sg T (1 :: c.2.1.reverse) c.2.2 (fq :: rq))) = _
      rw [m3, yx_lN (by omega), y2]
    rw [es]
    exact MC_1 (MC_mono this fun _ w hw => mN_K hw (by simp))
  · show MC (xs_seq (fm_Model_pop x) fun _ u2 => some ((), u2)) _
    refine MC_seq (mr_pop hK.2.1) fun c w hw => MC_ok ?_
    obtain ⟨d, -, -, hv, hf⟩ := hw
    refine mN_O (i := (26, t, b, np, l)) (mO_K ⟨yTM_fr hE hf (by decide), ?_, yf_mono hf (by decide)⟩) (by simp)
    exact mRv_R hv
  · show MC (xs_seq (fm_Model_checkChoice x) fun _ u2 => some ((), u2)) _
    exact MC_1 (MC_mono (ml_choice hK) fun _ w hw => mN_K hw (by simp))
end
