section
variable {α β γ δ σ τ : Type} {u v w u0 : xk_St} {g : Nat → Nat} {T : List (Nat × List Nat × List Nat)} {F : List Nat} {G : List (Nat × Nat × Nat × Int64)} {L : List Nat} {n fu tc mc : Nat} {Q Q' : List sFr} {s : Option (List sFr)}
theorem yfit17 {t : Nat} : yfit g t 17 ↔ t = 0 ∨ 16 ≤ t := by
  unfold yfit
  constructor
  · intro h; omega
  · intro h
    rcases h with h | h
    · exact Or.inl h
    · exact Or.inr (Or.inr ⟨h, by decide, by omega, Or.inr (Or.inr (Or.inl (by decide)))⟩)
theorem sq_t17 : sq_take g 17 Q = (sq_popR Q).bind fun x => some x.2 := by
  unfold sq_take sq_popR
  rw [Option.bind_assoc]
  congr 1
  funext x
  by_cases z : x.1 = 0 ∨ 16 ≤ x.1
  · rw [xs_ifp (yfit17.mpr z), xs_ifp z]; rfl
  · rw [xs_ifn (fun y => z (yfit17.mp y)), xs_ifn z]; rfl
/-- whether a target is there, by the reference -/
theorem mm_objT {t : Nat} (hE : yTM T v) (ht : t ≤ 66) : (yv_in T T.length (16 + 2 * t) → fm_Model_isObjectType (nI t) (v.1 12) v = some (1, v)) ∧ (¬ yv_in T T.length (16 + 2 * t) → fm_Model_isObjectType (nI t) (v.1 12) v = some (0, v)) := by
  have h64 := hE.2.1.1
  unfold fm_Model_isObjectType jb_Model_isObjectType_23
  rw [hE.1]
  by_cases z : t < 2
  · rw [if_pos (show nI t < (2 : Int32) from nI_lt (b := 2) z (by decide))]
    exact ⟨fun _ => rfl, fun h => absurd (Or.inl (by omega)) h⟩
  · rw [if_neg (show ¬ nI t < (2 : Int32) from fun y => by have := (nI_ltI (b := 2) (by omega) (by decide)).mp y; omega)]
    have e1 : nI t - 2 = nI (t - 2) := by
      have := nI_sub2 (a := t - 2)
      rw [show t - 2 + 2 = t by omega] at this
      exact this
    rw [e1]
    unfold yv_in
    rw [show (16 + 2 * t - 20) / 2 = t - 2 by omega]
    by_cases z2 : T.length ≤ t - 2
    · rw [if_pos (nI_le z2 (by omega))]
      exact ⟨fun h => by rcases h with h | h <;> omega, fun _ => rfl⟩
    · rw [if_neg (nI_ge (by omega) (by omega)), if_neg (nI_in (N := 64) (by omega) (by decide)), nI_clamp (by omega)]
      obtain ⟨c, hc⟩ := yl_get (l := T) (k := t - 2) (by omega)
      obtain ⟨t1, tg⟩ := yTM_K hE _ c (by omega) hc
      rw [t1]
      have h0 : nI (96 - c.1) = (0 : Int32) ↔ c.1 = 96 := by
        have := tg.1
        exact (nI_eq (b := 0) (by omega) (by decide)).trans ⟨fun z => by omega, fun z => by omega⟩
      by_cases h96 : c.1 = 96
      · rw [if_pos (h0.mpr h96)]
        refine ⟨fun h => ?_, fun _ => rfl⟩
        rcases h with h | ⟨-, c', h1, h2⟩
        · omega
        · rw [hc] at h1; cases h1; exact absurd h96 h2
      · rw [if_neg (fun z => h96 (h0.mp z))]
        exact ⟨fun _ => rfl, fun h => absurd (Or.inr ⟨by omega, c, hc, h96⟩) h⟩
theorem mm_rf1 {t : Nat} : fm_Model_reference (nI t) 1 v = some (nI (16 + 2 * t + 1), v) := by
  unfold fm_Model_reference
  rw [if_neg (show ¬ (1 : Int32) = 0 by decide)]
  congr 2
  rw [show (16 : Int32) = nI 16 from rfl, show (2 : Int32) * nI t = nI (2 * t) from by show Int32.ofNat 2 * Int32.ofNat t = Int32.ofNat _; rw [Int32.ofNat_mul], nI_add, nI_1]
theorem mm_rf0 {t : Nat} : fm_Model_reference (nI t) 0 v = some (nI (16 + 2 * t), v) := by
  unfold fm_Model_reference
  rw [if_pos rfl]
  congr 2
  rw [show (16 : Int32) = nI 16 from rfl, show (2 : Int32) * nI t = nI (2 * t) from by show Int32.ofNat 2 * Int32.ofNat t = Int32.ofNat _; rw [Int32.ofNat_mul], nI_add, Int32.add_zero]
theorem nn_all : ∀ x, x < 150 → nI x &&& (-2) = nI (x - x % 2) := by decide +kernel
theorem mm_nn {c : Nat} (hc : yvs n c) : fm_Model_notNull (nI c) v = some (nI (sq_nn c), v) := by
  have hb := yvs_b hc
  have c0 : nI c = (0 : Int32) ↔ c = 0 := nI_eq (b := 0) (by omega) (by decide)
  unfold fm_Model_notNull sq_nn
  by_cases z : c = 0
  · rw [if_pos (c0.mpr z), if_pos z, show fm_Model_reference (400 : Int32) 0 v = _ from mm_rf0 (t := 400), ys_seq]
  · rw [if_neg (fun y => z (c0.mp y)), if_neg z]
    rcases hb with y | y
    · rw [nn_all c y]
    · rw [y]; exact congrArg (fun t => some (t, v)) (by decide +kernel)
theorem yvs_nn' {c : Nat} (hc : yvs n c) : yvs n (sq_nn c) := by
  unfold sq_nn
  by_cases z : c = 0
  · rw [if_pos z]; exact Or.inl rfl
  · rw [if_neg z]
    rcases hc with rfl | y | ⟨z1, z2, z3⟩
    · exact Or.inl (by decide)
    · exact Or.inr (Or.inl (by omega))
    · exact Or.inr (Or.inr ⟨by omega, by omega, by omega⟩)
/-- behind an instruction: right and at s, or wrong -/
def mO (T : List (Nat × List Nat × List Nat)) (u0 : xk_St) (s : Option (List sFr)) (w : xk_St) : Prop := yf_fr [7, 21] [] [22] [] u0 w ∧ ((∃ Q, s = some Q ∧ w.1 7 = 0 ∧ mS T Q w ∧ ¬ Q = []) ∨ (s = none ∧ w.1 7 = 1))
theorem mO_K (h : mK T u0 s w) : mO T u0 s w := by
  obtain ⟨-, ⟨Q, hS, hQ, hs⟩, hf⟩ := h
  refine ⟨hf, ?_⟩
  rcases hs with ⟨e, h7⟩ | ⟨e, h7⟩
  · exact Or.inl ⟨Q, e, h7, hS, hQ⟩
  · exact Or.inr ⟨e, h7⟩
/-- 0xd0 .. 0xd4, by the reference -/
theorem ml_208 {t : Nat} (h : mK T u0 (some Q) v) (h7 : v.1 7 = 0) (h8 : v.1 8 = nI 208) (hj : v.2.1 0 = lN t) (ht : t ≤ 66) : MC (fm_Model_checkReferences fu v) fun _ w => mO T u0 (sq_null T t Q) w := by
  unfold fm_Model_checkReferences sq_null
  rw [h8, if_pos (show nI 208 = (208 : Int32) from rfl), hj, sb_nLi (by omega)]
  obtain ⟨m1, m2⟩ := mm_objT (t := t) h.1 ht
  have go : ∀ x : Int32, (x = 0 ∨ x = 1) → (x = 0 ↔ yv_in T T.length (16 + 2 * t)) → MC (jb_Model_checkReferences_32 fu x v) fun _ w => mO T u0 (xs_if (yv_in T T.length (16 + 2 * t)) (sq_push (16 + 2 * t + 1) Q)) w := fun x hx h0 => by
    have hk := ml_flag (P := yv_in T T.length (16 + 2 * t)) (x := x) h hx ⟨fun y => ⟨h7, h0.mp y⟩, fun y => h0.mpr y.2⟩
    unfold jb_Model_checkReferences_32
    simp only [xs_let]
    have xj : (xs_I v 7 x).2.1 0 = lN t := hj
    rw [if_pos hx, xj, sb_nLi (by omega), mm_rf1, ys_seq]
    by_cases z : yv_in T T.length (16 + 2 * t)
    · refine MC_seq (ml_push hk (yvw_t ht z).2.2.2) fun _ w hw => MC_ok ?_
      rw [xs_ifp z] at hw ⊢
      exact mO_K hw
    · -- the flag is set; the code may be of no type
      rw [xs_ifn z] at hk ⊢
      obtain ⟨hE, ⟨Qj, hS, hQ, hs⟩, hf⟩ := hk
      have hp : MC (fm_Model_push (nI (16 + 2 * t + 1)) (xs_I v 7 x)) fun _ w => w.1 7 = 1 ∧ yf_fr [7, 21] [] [22] [] (xs_I v 7 x) w := by
        have x1 : (xs_I v 7 x).1 7 = 1 := by
          rcases hs with ⟨y, -⟩ | ⟨-, y⟩
          · cases y
          · exact y
        unfold fm_Model_push
        simp only [xs_let]
        have hh := hS.2.2.2.1
        rw [hS.2.2.1]
        by_cases zz : nI (sq_h Qj) = (100 : Int32)
        · rw [if_pos zz]
          exact MC_ok ⟨rfl, yf_I yf_refl (by decide)⟩
        · rw [if_neg zz, ix101 (by omega)]
          exact MC_ok ⟨x1, yf_I (yf_A yf_refl (by decide)) (by decide)⟩
      obtain ⟨r, w, e1, e2, e3⟩ := hp
      rw [e1, ys_seq]
      exact MC_ok ⟨yf_trans hf e3, Or.inr ⟨rfl, e2⟩⟩
  by_cases z : yv_in T T.length (16 + 2 * t)
  · rw [m1 z, ys_seq, if_neg (show ¬ (1 : Int32) = 0 by decide)]
    exact go 0 (Or.inl rfl) ⟨fun _ => z, fun _ => rfl⟩
  · rw [m2 z, ys_seq, if_pos rfl]
    exact go 1 (Or.inr rfl) ⟨fun y => absurd y (by decide), fun y => absurd y z⟩
theorem ml_R {sv : Option (Nat × List sFr)} {c : Nat} (h : mKv T u0 sv c v) : mK T u0 (sv.bind fun x => some x.2) v := mKv_K h
theorem ml_209 (h : mK T u0 (some Q) v) (h8 : v.1 8 = nI 209) : MC (fm_Model_checkReferences fu v) fun _ w => mO T u0 (sq_isnull Q) w := by
  unfold fm_Model_checkReferences sq_isnull
  rw [h8, if_neg (show ¬ nI 209 = (208 : Int32) by decide)]
  have h1 := ml_popR h
  have hf8 : ∀ b w, fm_Model_takeReference v = some (b, w) → yf_fr [7, 21] [] [22] [] v w → w.1 8 = nI 209 := fun b w _ hf => (hf.1 8 (by decide)).trans h8
  refine MC_seq (P := fun b w => ∃ c, b = nI c ∧ yvs T.length c ∧ mKv T u0 ((some Q).bind sq_popR) c w ∧ w.1 8 = nI 209) (MC_mono h1 fun b w ⟨c, e1, e2, e3⟩ => ⟨c, e1, e2, e3, ?_⟩) fun b w hb => ?_
  · rw [e3.2.2.1 8 (by decide), ← h.2.2.1 8 (by decide)]; exact h8
  · obtain ⟨c, rfl, hc, hk, w8⟩ := hb
    rw [w8, if_pos (show nI 209 = (209 : Int32) from rfl)]
    unfold jb_Model_checkReferences_74 jb_Model_checkReferences_89
    rw [w8, if_neg (show ¬ nI 209 = (211 : Int32) by decide)]
    refine MC_seq (ml_push (c := 1) (ml_R hk) yvs_1) fun _ x hx => MC_ok ?_
    have e : ((sq_popR Q).bind fun x => sq_push 1 x.2) = (((some Q).bind sq_popR).bind fun x => some x.2).bind (sq_push 1) := by
      show _ = ((sq_popR Q).bind fun x => some x.2).bind (sq_push 1)
      rw [Option.bind_assoc]; rfl
    rw [e]
    exact mO_K hx
end
