section
variable {α β γ δ σ τ : Type} {u v w u0 : xk_St} {g : Nat → Nat} {T : List (Nat × List Nat × List Nat)} {F : List Nat} {G : List (Nat × Nat × Nat × Int64)} {L : List Nat} {n fu tc mc : Nat} {Q Q' : List sFr} {s : Option (List sFr)}
/-- the rest of the module, as the reference has it -/
def mEn (T : List (Nat × List Nat × List Nat)) (F : List Nat) (tc mc : Nat) (G : List (Nat × Nat × Nat × Int64)) (v : xk_St) : Prop := v.1 13 = nI F.length ∧ F.length ≤ 64 ∧ (∀ (k : Nat) t, F[k]? = some t → v.2.2.1 9 k = nI t ∧ yv_fn T t) ∧ (v.1 14 = nI tc ∧ tc ≤ 1) ∧ (v.1 15 = nI mc ∧ mc ≤ 1) ∧ v.1 18 = nI G.length ∧ G.length ≤ 64 ∧ ∀ (k : Nat) a, G[k]? = some a → v.2.2.1 14 k = nI a.1 ∧ v.2.2.1 15 k = nI a.2.1 ∧ a.2.1 ≤ 1 ∧ yvw T.length a.1 ∧ yvs T.length a.1
def mLo (T : List (Nat × List Nat × List Nat)) (L : List Nat) (f : Nat) (v : xk_St) : Prop := v.2.2.1 12 f = nI L.length ∧ L.length ≤ 200 ∧ f < 64 ∧ ∀ (k : Nat) c, L[k]? = some c → v.2.2.1 13 (200 * f + k) = nI c ∧ yvw T.length c ∧ yvs T.length c
theorem mm_width {o : Nat} (h1 : 40 ≤ o) (h2 : o ≤ 62) : fm_Model_widthOf (nI o) v = some (nI (sm_w o), v) := by
  have : o = 40 ∨ o = 41 ∨ o = 42 ∨ o = 43 ∨ o = 44 ∨ o = 45 ∨ o = 46 ∨ o = 47 ∨ o = 48 ∨ o = 49 ∨ o = 50 ∨ o = 51 ∨ o = 52 ∨ o = 53 ∨ o = 54 ∨ o = 55 ∨ o = 56 ∨ o = 57 ∨ o = 58 ∨ o = 59 ∨ o = 60 ∨ o = 61 ∨ o = 62 := by omega
  rcases this with rfl | rfl | rfl | rfl | rfl | rfl | rfl | rfl | rfl | rfl | rfl | rfl | rfl | rfl | rfl | rfl | rfl | rfl | rfl | rfl | rfl | rfl | rfl <;> rfl
theorem mm_long {o : Nat} (h1 : 40 ≤ o) (h2 : o ≤ 62) : fm_Model_isLong (nI o) v = some (if sm_t o = 2 then 1 else 0, v) := by
  have : o = 40 ∨ o = 41 ∨ o = 42 ∨ o = 43 ∨ o = 44 ∨ o = 45 ∨ o = 46 ∨ o = 47 ∨ o = 48 ∨ o = 49 ∨ o = 50 ∨ o = 51 ∨ o = 52 ∨ o = 53 ∨ o = 54 ∨ o = 55 ∨ o = 56 ∨ o = 57 ∨ o = 58 ∨ o = 59 ∨ o = 60 ∨ o = 61 ∨ o = 62 := by omega
  rcases this with rfl | rfl | rfl | rfl | rfl | rfl | rfl | rfl | rfl | rfl | rfl | rfl | rfl | rfl | rfl | rfl | rfl | rfl | rfl | rfl | rfl | rfl | rfl <;> rfl
theorem sm_sh : ∀ a, a < 4 → ((1 : Int32) <<< ((((lN a) &&& (3 : Int64)).toInt32) &&& 31)) = nI (2 ^ a) := by decide +kernel
theorem sm_wb {o : Nat} : sm_w o ≤ 8 := by
  unfold sm_w
  repeat' split
  all_goals omega
theorem mr_take8x {x : Nat} (h : mK T u0 s v) (hx : yvw T.length x) : MC (fm_Model_take (nI x) v) fun _ w => mK T u0 (s.bind (sq_take (yl_f T) x)) w ∧ w.1 8 = v.1 8 := MC_mono (mr_take h.1 h.2.1 hx) fun _ _ hp => ⟨mK_n h hp.1 (yf_mono hp.2 (by decide)), hp.2.1 8 (by decide)⟩
theorem mr_take8 (h : mK T u0 s v) : MC (fm_Model_take (1 : Int32) v) fun _ w => mK T u0 (s.bind (sq_take (yl_f T) 1)) w ∧ w.1 8 = v.1 8 := mr_take8x (x := 1) h yvw_1
/-- memory, by the reference -/
theorem ml_mem {o a : Nat} (h : mK T u0 (some Q) v) (h7 : v.1 7 = 0) (h8 : v.1 8 = nI o) (ho : 40 ≤ o) (ho2 : o ≤ 64) (hj : o < 63 → v.2.1 0 = lN a ∧ a < 2 ^ 32) (h15 : v.1 15 = nI mc) (hmc : mc ≤ 1) : MC (fm_Model_checkMemory v) fun _ w => mK T u0 (sq_mem T mc o a Q) w := by
  have c62 : nI o ≤ (62 : Int32) ↔ o ≤ 62 := nI_leI (b := 62) (by omega) (by omega)
  have c53 : nI o ≤ (53 : Int32) ↔ o ≤ 53 := nI_leI (b := 53) (by omega) (by omega)
  have c54 : (54 : Int32) ≤ nI o ↔ 54 ≤ o := nI_leI (a := 54) (by omega) (by omega)
  have c64 : nI o = (64 : Int32) ↔ o = 64 := nI_eq (b := 64) (by omega) (by omega)
  have hty : yvw T.length (sm_t o) ∧ yvs T.length (sm_t o) := by
    rcases @sm_t2 o with z | z
    · rw [z]; exact ⟨yvw_1, yvs_1⟩
    · rw [z]; exact ⟨yvw_2, yvs_2⟩
  have h123 : ∀ {s : Option (List sFr)} {w : xk_St}, mK T u0 s w → w.1 8 = nI o → MC (jb_Model_checkMemory_123 (nI (sm_t o)) w) fun _ x => mK T u0 (if o < 54 then s.bind (sq_sg T [1] [sm_t o]) else s.bind (sq_sg T [1] [])) x := fun {s w} hw e8 => by
    unfold jb_Model_checkMemory_123
    refine MC_seq (mr_take8 hw) fun _ x hx => ?_
    obtain ⟨hx, hx8⟩ := hx
    rw [hx8, e8]
    by_cases z : o < 54
    · rw [if_neg (fun y => by have := c54.mp y; omega), if_pos z, sg_t, sg_p, sg_e]
      exact MC_seq (ml_push hx hty.2) fun _ y hy => MC_ok hy
    · rw [if_pos (c54.mpr (by omega)), if_neg z, sg_t, sg_e]
      exact MC_ok hx
  have h90 : ∀ {x : Int32} {P : Prop}, o ≤ 62 → mK T u0 (xs_if P (some Q)) (xs_I v 7 x) → (x = 0 ∨ x = 1) → ∀ y : Int32, xs_I (xs_I v 7 y) 7 x = xs_I v 7 x → MC (jb_Model_checkMemory_90 x (xs_I v 7 y)) fun _ w => mK T u0 (xs_if P (if o < 54 then sq_sg T [1] [sm_t o] Q else sq_sg T [sm_t o, 1] [] Q)) w := fun {x P} hle hk hx y hxy => by
    unfold jb_Model_checkMemory_90
    simp only [xs_let]
    rw [if_pos hx, hxy]
    have e8 : (xs_I v 7 x).1 8 = nI o := h8
    rw [e8, mm_long ho hle, ys_seq]
    have h108 : MC (jb_Model_checkMemory_108 (nI (sm_t o)) (xs_I v 7 x)) fun _ w => mK T u0 (xs_if P (if o < 54 then sq_sg T [1] [sm_t o] Q else sq_sg T [sm_t o, 1] [] Q)) w := by
      unfold jb_Model_checkMemory_108
      rw [e8]
      by_cases z : o < 54
      · rw [if_pos (c53.mpr (by omega)), if_pos z]
        refine MC_mono (h123 hk e8) fun _ w hw => ?_
        rw [if_pos z] at hw
        have : xs_if P (sq_sg T [1] [sm_t o] Q) = (xs_if P (some Q)).bind (sq_sg T [1] [sm_t o]) := by
          by_cases zp : P
          · rw [xs_ifp zp, xs_ifp zp]; rfl
          · rw [xs_ifn zp, xs_ifn zp]; rfl
        rw [this]; exact hw
      · rw [if_neg (fun y => by have := c53.mp y; omega), if_neg z]
        refine MC_seq (mr_take8x hk hty.1) fun _ w hw => ?_
        refine MC_mono (h123 hw.1 (hw.2.trans e8)) fun _ w hw => ?_
        rw [if_neg z, ← sg_t] at hw
        have : xs_if P (sq_sg T [sm_t o, 1] [] Q) = (xs_if P (some Q)).bind (sq_sg T [sm_t o, 1] []) := by
          by_cases zp : P
          · rw [xs_ifp zp, xs_ifp zp]; rfl
          · rw [xs_ifn zp, xs_ifn zp]; rfl
        rw [this]; exact hw
    rcases @sm_t2 o with z | z
    · rw [if_neg (show ¬ sm_t o = 2 by omega), if_pos rfl]
      rw [z] at h108 ⊢; exact h108
    · rw [if_pos z, if_neg (show ¬ (1 : Int32) = 0 by decide)]
      rw [z] at h108 ⊢; exact h108
  have h13 : ∀ x : Int32, (x = 0 ∨ x = 1) → (x = 0 ↔ mc = 1) → MC (jb_Model_checkMemory_13 x v) fun _ w => mK T u0 (sq_mem T mc o a Q) w := fun x hx h0 => by
    have hk := ml_flag (P := mc = 1) (x := x) h hx ⟨fun y => ⟨h7, h0.mp y⟩, fun y => h0.mpr y.2⟩
    unfold jb_Model_checkMemory_13 sq_mem
    simp only [xs_let]
    rw [if_pos hx]
    have e8 : (xs_I v 7 x).1 8 = nI o := h8
    have e7 : (xs_I v 7 x).1 7 = x := rfl
    rw [e8]
    by_cases z : o < 63
    · obtain ⟨j1, j2⟩ := hj z
      rw [if_pos (c62.mpr (by omega)), e7, if_pos z]
      unfold jb_Model_checkMemory_85
      have no : ∀ P : Prop, ¬ (mc = 1 ∧ P) → MC (jb_Model_checkMemory_90 1 (xs_I v 7 x)) fun _ w => mK T u0 (xs_if (mc = 1) (xs_if P (if o < 54 then sq_sg T [1] [sm_t o] Q else sq_sg T [sm_t o, 1] [] Q))) w := fun P hP => by
        have hk2 := ml_flag (P := False) (x := 1) h (Or.inr rfl) ⟨fun y => absurd y (by decide), fun y => y.2.elim⟩
        refine MC_mono (h90 (by omega) hk2 (Or.inr rfl) x ys_II) fun _ w hw => ?_
        have e : xs_if (mc = 1) (xs_if P (if o < 54 then sq_sg T [1] [sm_t o] Q else sq_sg T [sm_t o, 1] [] Q)) = none := by
          by_cases zm : mc = 1
          · rw [xs_ifp zm, xs_ifn (fun y => hP ⟨zm, y⟩)]
          · rw [xs_ifn zm]
        rw [e]
        rw [xs_ifn id] at hw
        exact hw
      by_cases zx : x = 0
      · have hm := h0.mp zx
        rw [if_pos zx]
        have e0 : (xs_I v 7 x).2.1 0 = lN a := j1
        have c3 : (3 : Int64) < lN a ↔ 3 < a := pk_lLT (a := 3) (by omega) (by omega)
        rw [e0]
        by_cases z3 : 3 < a
        · rw [if_pos (c3.mpr z3)]
          exact no _ (by omega)
        · rw [if_neg (fun y => z3 (c3.mp y)), mm_width ho (by omega), ys_seq, sm_sh a (by omega)]
          have hb := @sm_wb o
          have hp : 2 ^ a ≤ 8 := by
            have : a = 0 ∨ a = 1 ∨ a = 2 ∨ a = 3 := by omega
            rcases this with y | y | y | y <;> rw [y] <;> decide
          have cw : nI (2 ^ a) ≤ nI (sm_w o) ↔ 2 ^ a ≤ sm_w o := nI_leI (by omega) (by omega)
          by_cases zw : 2 ^ a ≤ sm_w o
          · rw [if_pos (cw.mpr zw), xs_ifp hm, xs_ifp ⟨by omega, zw⟩]
            have hk2 := ml_flag (P := True) (x := 0) h (Or.inl rfl) ⟨fun _ => ⟨h7, trivial⟩, fun _ => rfl⟩
            refine MC_mono (h90 (by omega) hk2 (Or.inl rfl) x ys_II) fun _ w hw => ?_
            rw [xs_ifp trivial] at hw
            exact hw
          · rw [if_neg (fun y => zw (cw.mp y))]
            exact no _ (fun y => zw y.2.2)
      · rw [if_neg zx]
        exact no _ (fun y => zx (h0.mpr y.1))
    · rw [if_neg (fun y => by have := c62.mp y; omega), if_neg z]
      have h39 : ∀ {s : Option (List sFr)} {w : xk_St}, mK T u0 s w → MC (jb_Model_checkMemory_39 w) fun _ x => mK T u0 (s.bind (sq_sg T [] [1])) x := fun {s w} hw => by
        unfold jb_Model_checkMemory_39
        refine MC_seq (ml_push (c := 1) hw yvs_1) fun _ x hx => MC_ok ?_
        rw [sg_p, sg_e]; exact hx
      have hsp : ∀ ws, xs_if (mc = 1) (sq_sg T ws [1] Q) = (xs_if (mc = 1) (some Q)).bind (sq_sg T ws [1]) := fun ws => by
        by_cases zp : mc = 1
        · rw [xs_ifp zp, xs_ifp zp]; rfl
        · rw [xs_ifn zp, xs_ifn zp]; rfl
      rw [hsp]
      by_cases z4 : o = 64
      · rw [if_pos (c64.mpr z4), if_pos z4, sg_t]
        exact MC_seq (ml_take (x := 1) hk yvw_1) fun _ w hw => h39 hw
      · rw [if_neg (fun y => z4 (c64.mp y)), if_neg z4]
        exact h39 hk
  unfold fm_Model_checkMemory
  rw [h15]
  have cm : nI mc = (0 : Int32) ↔ mc = 0 := nI_eq (b := 0) (by omega) (by decide)
  by_cases z : mc = 0
  · rw [if_pos (cm.mpr z)]
    exact h13 1 (Or.inr rfl) ⟨fun y => absurd y (by decide), fun y => by omega⟩
  · rw [if_neg (fun y => z (cm.mp y))]
    exact h13 0 (Or.inl rfl) ⟨fun _ => by omega, fun _ => rfl⟩
end
