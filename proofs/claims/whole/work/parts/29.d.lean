section
variable {α β γ δ σ τ : Type} {u v w u0 : xk_St} {g : Nat → Nat} {T : List (Nat × List Nat × List Nat)} {F : List Nat} {G : List (Nat × Nat × Nat × Int64)} {L : List Nat} {n fu tc mc : Nat} {Q Q' : List sFr} {s : Option (List sFr)}
theorem sg_t {a : Nat} {ws cs : List Nat} : s.bind (sq_sg T (a :: ws) cs) = (s.bind (sq_take (yl_f T) a)).bind (sq_sg T ws cs) := by
  cases s with
  | none => rfl
  | some Q => show sq_sg T (a :: ws) cs Q = _; rw [sq_sgS]; rfl
theorem sg_p {c : Nat} {cs : List Nat} : s.bind (sq_sg T [] (c :: cs)) = (s.bind (sq_push c)).bind (sq_sg T [] cs) := by
  cases s with
  | none => rfl
  | some Q => rfl
theorem sg_e : s.bind (sq_sg T [] []) = s := by cases s <;> rfl
theorem mm_inn {o a b : Nat} (ho : o < 2 ^ 31) (ha : a < 2 ^ 31) (hb : b < 2 ^ 31) : fm_Model_in (lN o) (lN a) (lN b) v = some (if a ≤ o ∧ o ≤ b then 1 else 0, v) := by
  unfold fm_Model_in
  have c1 : lN o < lN a ↔ o < a := pk_lLT (by omega) (by omega)
  have c2 : lN b < lN o ↔ b < o := pk_lLT (by omega) (by omega)
  by_cases z1 : o < a
  · rw [if_pos (c1.mpr z1), if_neg (show ¬ (a ≤ o ∧ o ≤ b) by omega)]
  · rw [if_neg (fun y => z1 (c1.mp y))]
    by_cases z2 : b < o
    · rw [if_pos (c2.mpr z2), if_neg (show ¬ (a ≤ o ∧ o ≤ b) by omega)]
    · rw [if_neg (fun y => z2 (c2.mp y)), if_pos (show a ≤ o ∧ o ≤ b by omega)]
def nb1 (o : Nat) : Nat := if (80 ≤ o ∧ o ≤ 90) ∨ (121 ≤ o ∧ o ≤ 138) ∨ o = 167 ∨ (194 ≤ o ∧ o ≤ 196) then 1 else 0
def nb2 (o : Nat) : Nat := if (70 ≤ o ∧ o ≤ 79) ∨ (81 ≤ o ∧ o ≤ 90) ∨ (106 ≤ o ∧ o ≤ 120) ∨ (124 ≤ o ∧ o ≤ 138) then 1 else 0
def nb3 (o : Nat) : Nat := if (121 ≤ o ∧ o ≤ 138) ∨ o = 172 ∨ o = 173 ∨ (194 ≤ o ∧ o ≤ 196) then 1 else 0
theorem nb_all : ∀ o, o < 208 → (66 < o ∧ ¬ xt_S o = 45 ∧ ¬ xt_S o = 33) → sn_k o = (1 + nb2 o, 1 + nb1 o, 1 + nb3 o) := by decide +kernel
theorem ml_237 {b1 b2 b3 : Nat} (h : mK T u0 s v) (h1 : b1 ≤ 1) (h2 : b2 ≤ 1) (h3 : b3 ≤ 1) : MC (jb_Model_checkNumbers_237 (nI b1) (nI b2) (nI b3) v) fun _ w => mK T u0 (s.bind (sq_sg T (List.replicate (1 + b2) (1 + b1)) [1 + b3])) w := by
  have z01 : ∀ b, b ≤ 1 → (nI b = (0 : Int32) ↔ b = 0) := fun b hb => nI_eq (b := 0) (by omega) (by decide)
  have hw : yvw T.length (1 + b1) := ⟨by omega, Or.inl (by omega)⟩
  have hs : yvs T.length (1 + b3) := Or.inr (Or.inl (by omega))
  have e278 : ∀ {s : Option (List sFr)} {v : xk_St}, mK T u0 s v → MC (jb_Model_checkNumbers_268 (nI b3) v) fun _ w => mK T u0 (s.bind (sq_sg T [] [1 + b3])) w := fun {s v} h => by
    have : jb_Model_checkNumbers_268 (nI b3) v = jb_Model_checkNumbers_278 (nI (1 + b3)) v := by
      unfold jb_Model_checkNumbers_268
      by_cases z : b3 = 0
      · rw [if_pos ((z01 b3 h3).mpr z), z]; rfl
      · rw [if_neg (fun y => z ((z01 b3 h3).mp y)), show b3 = 1 by omega]; rfl
    rw [this]
    unfold jb_Model_checkNumbers_278
    refine MC_seq (ml_push h hs) fun _ w hw => MC_ok ?_
    rw [sg_p, sg_e]; exact hw
  have e265 : ∀ {s : Option (List sFr)} {v : xk_St}, mK T u0 s v → MC (jb_Model_checkNumbers_265 (nI b3) (nI (1 + b1)) v) fun _ w => mK T u0 (s.bind (sq_sg T [1 + b1] [1 + b3])) w := fun {s v} h => by
    unfold jb_Model_checkNumbers_265
    refine MC_seq (ml_take h hw) fun _ w hw => ?_
    rw [sg_t]; exact e278 hw
  have : jb_Model_checkNumbers_237 (nI b1) (nI b2) (nI b3) v = jb_Model_checkNumbers_248 (nI b1) (nI b2) (nI b3) (nI (1 + b1)) v := by
    unfold jb_Model_checkNumbers_237
    by_cases z : b1 = 0
    · rw [if_pos ((z01 b1 h1).mpr z), z]; rfl
    · rw [if_neg (fun y => z ((z01 b1 h1).mp y)), show b1 = 1 by omega]; rfl
  rw [this]
  unfold jb_Model_checkNumbers_248
  refine MC_seq (ml_take h hw) fun _ w hww => ?_
  by_cases z : b2 = 0
  · rw [if_pos ((z01 b2 h2).mpr z), z, show List.replicate (1 + 0) (1 + b1) = [1 + b1] from rfl, sg_t]
    exact e278 hww
  · rw [if_neg (fun y => z ((z01 b2 h2).mp y)), show b2 = 1 by omega, show List.replicate (1 + 1) (1 + b1) = [1 + b1, 1 + b1] from rfl, sg_t]
    by_cases zz : b1 = 0
    · rw [if_pos ((z01 b1 h1).mpr zz)]
      have := e265 hww
      rw [zz] at this ⊢; exact this
    · rw [if_neg (fun y => zz ((z01 b1 h1).mp y))]
      have := e265 hww
      have z1 : b1 = 1 := by omega
      rw [z1] at this ⊢; exact this
theorem mm_nb3 {o : Nat} {b1 b2 : Int32} (ho : o < 256) (h8 : v.1 8 = nI o) : jb_Model_checkNumbers_177 b1 b2 v = jb_Model_checkNumbers_237 b1 b2 (nI (nb3 o)) v := by
  unfold jb_Model_checkNumbers_177 jb_Model_checkNumbers_232 nb3
  have c172 : nI o = (172 : Int32) ↔ o = 172 := nI_eq (b := 172) (by omega) (by decide)
  have c173 : nI o = (173 : Int32) ↔ o = 173 := nI_eq (b := 173) (by omega) (by decide)
  rw [h8, nI_toL (by omega), show fm_Model_in (lN o) (121 : Int64) (138 : Int64) v = _ from mm_inn (a := 121) (b := 138) (by omega) (by decide) (by decide), ys_seq]
  by_cases z1 : 121 ≤ o ∧ o ≤ 138
  · rw [if_pos z1, if_neg (show ¬ (1 : Int32) = 0 by decide), if_pos (Or.inl z1)]; rfl
  · rw [if_neg z1, if_pos rfl, h8]
    by_cases z2 : o = 172
    · rw [if_pos (c172.mpr z2), if_pos (Or.inr (Or.inl z2))]; rfl
    · rw [if_neg (fun y => z2 (c172.mp y))]
      by_cases z3 : o = 173
      · rw [if_pos (c173.mpr z3), if_pos (Or.inr (Or.inr (Or.inl z3)))]; rfl
      · rw [if_neg (fun y => z3 (c173.mp y)), nI_toL (by omega), show fm_Model_in (lN o) (194 : Int64) (196 : Int64) v = _ from mm_inn (a := 194) (b := 196) (by omega) (by decide) (by decide), ys_seq]
        by_cases z4 : 194 ≤ o ∧ o ≤ 196
        · rw [if_pos z4, if_neg (show ¬ (1 : Int32) = 0 by decide), if_pos (Or.inr (Or.inr (Or.inr z4)))]; rfl
        · rw [if_neg z4, if_pos rfl, if_neg (show ¬ ((121 ≤ o ∧ o ≤ 138) ∨ o = 172 ∨ o = 173 ∨ (194 ≤ o ∧ o ≤ 196)) by omega)]; rfl
theorem mm_nb2 {o : Nat} {b1 : Int32} (ho : o < 256) (h8 : v.1 8 = nI o) : jb_Model_checkNumbers_103 b1 v = jb_Model_checkNumbers_177 b1 (nI (nb2 o)) v := by
  unfold jb_Model_checkNumbers_103 jb_Model_checkNumbers_172 nb2
  rw [h8, nI_toL (by omega), show fm_Model_in (lN o) (70 : Int64) (79 : Int64) v = _ from mm_inn (a := 70) (b := 79) (by omega) (by decide) (by decide), ys_seq]
  by_cases z1 : 70 ≤ o ∧ o ≤ 79
  · rw [if_pos z1, if_neg (show ¬ (1 : Int32) = 0 by decide), if_pos (Or.inl z1)]; rfl
  · rw [if_neg z1, if_pos rfl, h8, nI_toL (by omega), show fm_Model_in (lN o) (81 : Int64) (90 : Int64) v = _ from mm_inn (a := 81) (b := 90) (by omega) (by decide) (by decide), ys_seq]
    by_cases z2 : 81 ≤ o ∧ o ≤ 90
    · rw [if_pos z2, if_neg (show ¬ (1 : Int32) = 0 by decide), if_pos (Or.inr (Or.inl z2))]; rfl
    · rw [if_neg z2, if_pos rfl, h8, nI_toL (by omega), show fm_Model_in (lN o) (106 : Int64) (120 : Int64) v = _ from mm_inn (a := 106) (b := 120) (by omega) (by decide) (by decide), ys_seq]
      by_cases z3 : 106 ≤ o ∧ o ≤ 120
      · rw [if_pos z3, if_neg (show ¬ (1 : Int32) = 0 by decide), if_pos (Or.inr (Or.inr (Or.inl z3)))]; rfl
      · rw [if_neg z3, if_pos rfl, h8, nI_toL (by omega), show fm_Model_in (lN o) (124 : Int64) (138 : Int64) v = _ from mm_inn (a := 124) (b := 138) (by omega) (by decide) (by decide), ys_seq]
        by_cases z4 : 124 ≤ o ∧ o ≤ 138
        · rw [if_pos z4, if_neg (show ¬ (1 : Int32) = 0 by decide), if_pos (Or.inr (Or.inr (Or.inr z4)))]; rfl
        · rw [if_neg z4, if_pos rfl, if_neg (show ¬ ((70 ≤ o ∧ o ≤ 79) ∨ (81 ≤ o ∧ o ≤ 90) ∨ (106 ≤ o ∧ o ≤ 120) ∨ (124 ≤ o ∧ o ≤ 138)) by omega)]; rfl
/-- numbers, by the reference -/
theorem ml_num {o : Nat} (h : mK T u0 s v) (h8 : v.1 8 = nI o) (ho : o < 208) (ho2 : 66 < o) (hr : ¬ xt_S o = 45 ∧ ¬ xt_S o = 33) : MC (fm_Model_checkNumbers v) fun _ w => mK T u0 (s.bind (sq_num T o)) w := by
  have e : fm_Model_checkNumbers v = jb_Model_checkNumbers_103 (nI (nb1 o)) v := by
    unfold fm_Model_checkNumbers jb_Model_checkNumbers_98 nb1
    have c65 : ¬ nI o = (65 : Int32) := fun y => by have := (nI_eq (b := 65) (by omega) (by decide)).mp y; omega
    have c66 : ¬ nI o = (66 : Int32) := fun y => by have := (nI_eq (b := 66) (by omega) (by decide)).mp y; omega
    have c167 : nI o = (167 : Int32) ↔ o = 167 := nI_eq (b := 167) (by omega) (by decide)
    rw [h8, if_neg c65, if_neg c66, nI_toL (by omega), show fm_Model_in (lN o) (80 : Int64) (90 : Int64) v = _ from mm_inn (a := 80) (b := 90) (by omega) (by decide) (by decide), ys_seq]
    by_cases z1 : 80 ≤ o ∧ o ≤ 90
    · rw [if_pos z1, if_neg (show ¬ (1 : Int32) = 0 by decide), if_pos (Or.inl z1)]; rfl
    · rw [if_neg z1, if_pos rfl, h8, nI_toL (by omega), show fm_Model_in (lN o) (121 : Int64) (138 : Int64) v = _ from mm_inn (a := 121) (b := 138) (by omega) (by decide) (by decide), ys_seq]
      by_cases z2 : 121 ≤ o ∧ o ≤ 138
      · rw [if_pos z2, if_neg (show ¬ (1 : Int32) = 0 by decide), if_pos (Or.inr (Or.inl z2))]; rfl
      · rw [if_neg z2, if_pos rfl, h8]
        by_cases z3 : o = 167
        · rw [if_pos (c167.mpr z3), if_pos (Or.inr (Or.inr (Or.inl z3)))]; rfl
        · rw [if_neg (fun y => z3 (c167.mp y)), nI_toL (by omega), show fm_Model_in (lN o) (194 : Int64) (196 : Int64) v = _ from mm_inn (a := 194) (b := 196) (by omega) (by decide) (by decide), ys_seq]
          by_cases z4 : 194 ≤ o ∧ o ≤ 196
          · rw [if_pos z4, if_neg (show ¬ (1 : Int32) = 0 by decide), if_pos (Or.inr (Or.inr (Or.inr z4)))]; rfl
          · rw [if_neg z4, if_pos rfl, if_neg (show ¬ ((80 ≤ o ∧ o ≤ 90) ∨ (121 ≤ o ∧ o ≤ 138) ∨ o = 167 ∨ (194 ≤ o ∧ o ≤ 196)) by omega)]; rfl
  rw [e, mm_nb2 (by omega) h8, mm_nb3 (by omega) h8]
  have b1 : nb1 o ≤ 1 := by unfold nb1; split <;> omega
  have b2 : nb2 o ≤ 1 := by unfold nb2; split <;> omega
  have b3 : nb3 o ≤ 1 := by unfold nb3; split <;> omega
  refine MC_mono (ml_237 h b1 b2 b3) fun _ w hw => ?_
  have : s.bind (sq_num T o) = s.bind (sq_sg T (List.replicate (1 + nb2 o) (1 + nb1 o)) [1 + nb3 o]) := by
    congr 1
    funext Q
    unfold sq_num
    rw [nb_all o ho ⟨ho2, hr⟩]
  rw [this]
  exact hw
theorem ml_con {o : Nat} (h : mK T u0 s v) (h8 : v.1 8 = nI o) (ho : o = 65 ∨ o = 66) : MC (fm_Model_checkNumbers v) fun _ w => mK T u0 (s.bind (sq_push (o - 64))) w := by
  unfold fm_Model_checkNumbers jb_Model_checkNumbers_18 jb_Model_checkNumbers_33
  rw [h8]
  rcases ho with rfl | rfl
  · rw [if_pos (show nI 65 = (65 : Int32) from rfl), if_pos (show nI 65 = (65 : Int32) from rfl)]
    exact MC_seq (ml_push (c := 1) h yvs_1) fun _ w hw => MC_ok hw
  · rw [if_neg (show ¬ nI 66 = (65 : Int32) by decide), if_pos (show nI 66 = (66 : Int32) from rfl), if_neg (show ¬ nI 66 = (65 : Int32) by decide)]
    exact MC_seq (ml_push (c := 2) h yvs_2) fun _ w hw => MC_ok hw
end
