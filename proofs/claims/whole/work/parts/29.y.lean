section
variable {α β γ δ σ τ : Type} {u v w u0 : xk_St} {g : Nat → Nat} {T : List (Nat × List Nat × List Nat)} {n fu : Nat} {Q Q' : List sFr} {s : Option (List sFr)}
theorem mm_unp {d : Nat} (hd : d < 150) : fm_Model_unpacked (nI d) v = some (nI (upk d), v) := by
  unfold fm_Model_unpacked jb_Model_unpacked_10 upk
  have c3 : nI d = (3 : Int32) ↔ d = 3 := nI_eq (b := 3) (by omega) (by decide)
  have c4 : nI d = (4 : Int32) ↔ d = 4 := nI_eq (b := 4) (by omega) (by decide)
  by_cases z3 : d = 3
  · rw [if_pos (c3.mpr z3), if_pos (Or.inl z3)]; rfl
  · rw [if_neg (fun y => z3 (c3.mp y))]
    by_cases z4 : d = 4
    · rw [if_pos (c4.mpr z4), if_pos (Or.inr z4)]; rfl
    · rw [if_neg (fun y => z4 (c4.mp y)), if_neg (by omega)]
theorem mm_dfA : ∀ d, d < 150 → (nI d &&& 1 = (1 : Int32) ↔ d % 2 = 1) := by decide +kernel
theorem mm_dflt {d : Nat} (hd : d < 150) : (ydf d → fm_Model_hasDefault (nI d) v = some (1, v)) ∧ (¬ ydf d → fm_Model_hasDefault (nI d) v = some (0, v)) := by
  unfold fm_Model_hasDefault jb_Model_hasDefault_14 ydf
  rw [mm_isR d (Or.inl hd), ys_seq]
  by_cases z : d < 16
  · rw [if_pos z, if_pos rfl]
    exact ⟨fun _ => rfl, fun h => absurd (Or.inl z) h⟩
  · rw [if_neg z, if_neg (show ¬ (1 : Int32) = 0 by decide)]
    by_cases z2 : d % 2 = 1
    · rw [if_pos ((mm_dfA d hd).mpr z2)]
      exact ⟨fun _ => rfl, fun h => absurd (Or.inr z2) h⟩
    · rw [if_neg (fun y => z2 ((mm_dfA d hd).mp y))]
      exact ⟨fun h => by rcases h with h | h <;> omega, fun _ => rfl⟩
theorem upk_m {t i d : Nat} {c : Nat × List Nat × List Nat} (hE : yTM T v) (hc : T[t]? = some c) (hd : c.2.1[i]? = some d) : yvw T.length (upk d) ∧ yvs T.length (upk d) ∧ d < 150 := by
  have hv := hE.2.1.2 t c hc
  have hg := yTM_g hE t c hc
  obtain ⟨g1, g2, g3⟩ := hg.2.1 i d hd
  have hin := hv.2.2.1 i d hd
  have ht := yl_lt hc
  have h1 : yvw T.length d := ⟨by omega, by rcases hin with z | z; exact Or.inl z; exact Or.inr (by omega)⟩
  unfold upk
  by_cases z : d = 3 ∨ d = 4
  · rw [if_pos z]; exact ⟨yvw_1, yvs_1, by omega⟩
  · rw [if_neg z]
    exact ⟨h1, yvs_of h1 (by omega), by omega⟩
theorem mm_oT {K m : Nat} (hE : yTM T v) (hj : v.2.1 0 = lN m) (hm : m < 2 ^ 32) (hK : K = 1 ∨ K = 2) : (∃ c, T[m]? = some c ∧ c.1 = 96 - K ∧ fm_Model_objectType (nI K) v = some (nI m, v)) ∨ ((∀ c, T[m]? = some c → ¬ c.1 = 96 - K) ∧ fm_Model_objectType (nI K) v = some (-1, xs_I v 7 1)) := by
  have h64 := hE.2.1.1
  unfold fm_Model_objectType
  simp only [xs_let]
  rw [hE.1, nI_toL (by omega), hj]
  have cle : lN T.length ≤ lN m ↔ T.length ≤ m := pk_lLE (by omega) (by omega)
  by_cases z : T.length ≤ m
  · rw [if_pos (cle.mpr z)]
    exact Or.inr ⟨fun c hc => by have := yl_lt hc; omega, rfl⟩
  · rw [if_neg (fun y => z (cle.mp y)), sb_nLi (by omega), if_neg (nI_in (N := 64) (by omega) (by decide)), nI_clamp (by omega)]
    obtain ⟨c, hc⟩ := yl_get (l := T) (k := m) (by omega)
    obtain ⟨k1, k2⟩ := yTM_K hE m c (by omega) hc
    rw [k1]
    have hc1 := k2.1
    have ceq : nI (96 - c.1) = nI K ↔ c.1 = 96 - K := (nI_eq (by omega) (by omega)).trans ⟨fun y => by omega, fun y => by omega⟩
    by_cases z2 : c.1 = 96 - K
    · rw [if_pos (ceq.mpr z2)]
      exact Or.inl ⟨c, hc, z2, rfl⟩
    · rw [if_neg (fun y => z2 (ceq.mp y))]
      exact Or.inr ⟨fun c' h' => by rw [hc] at h'; cases h'; exact z2, rfl⟩
theorem mm_rm0 {m : Nat} : fm_Model_reference ((2 : Int32) + nI m) 0 v = some (nI (20 + 2 * m), v) := by
  rw [show (2 : Int32) + nI m = nI (2 + m) from nI_add 2 m, mm_rf0]
  congr 3; omega
theorem mm_rm1 {m : Nat} : fm_Model_reference ((2 : Int32) + nI m) 1 v = some (nI (21 + 2 * m), v) := by
  rw [show (2 : Int32) + nI m = nI (2 + m) from nI_add 2 m, mm_rf1]
  congr 3; omega
def bI (b : Bool) : Int32 := if b then 1 else 0
theorem bI_0 {b : Bool} : bI b = 0 ↔ b = false := by cases b <;> decide
/-- a part is got or set -/
theorem ml_part {m d q : Nat} {st ar cs : Bool} (h : mK T u0 s v) (hm : m < T.length) (hd : d < 150) (hw : yvw T.length (upk d)) (hs : yvs T.length (upk d)) (hq : q < 100) : MC (fm_Model_checkPart (nI m) (nI d) (bI st) (nI q) (bI cs) (bI ar) v) fun _ w => mK T u0 ((xs_if (if st then cs = true else ((d = 3 ∨ d = 4) ↔ 0 < q)) s).bind (sq_sg T ((if st then [upk d] else []) ++ ((if ar then [1] else []) ++ [21 + 2 * m])) (if st then [] else [upk d]))) w := by
  have h64 := h.1.2.1.1
  obtain ⟨y1, y2, y3, y4⟩ := yvw_m hm h64
  have e82 : ∀ {s v}, mK T u0 s v → MC (jb_Model_checkPart_82 (nI m) (nI d) (bI st) v) fun _ w => mK T u0 (s.bind (sq_sg T [21 + 2 * m] (if st then [] else [upk d]))) w := fun {s v} h => by
    unfold jb_Model_checkPart_82
    rw [mm_rm1, ys_seq]
    refine MC_seq (ml_take h y2) fun _ x hx => ?_
    rw [sg_t]
    cases st with
    | true =>
      rw [if_neg (show ¬ bI true = 0 by decide), if_pos rfl, sg_e]
      exact MC_ok hx
    | false =>
      rw [if_pos (show bI false = 0 from rfl), if_neg (by decide), sg_p, sg_e, mm_unp hd, ys_seq]
      exact MC_seq (ml_push hx hs) fun _ y hy => MC_ok hy
  have e72 : ∀ {s v}, mK T u0 s v → MC (jb_Model_checkPart_72 (nI m) (nI d) (bI st) (bI ar) v) fun _ w => mK T u0 (s.bind (sq_sg T ((if ar then [1] else []) ++ [21 + 2 * m]) (if st then [] else [upk d]))) w := fun {s v} h => by
    unfold jb_Model_checkPart_72
    cases ar with
    | true =>
      rw [if_neg (show ¬ bI true = 0 by decide), if_pos rfl]
      refine MC_seq (ml_take (x := 1) h yvw_1) fun _ x hx => ?_
      rw [show [1] ++ [21 + 2 * m] = 1 :: [21 + 2 * m] from rfl, sg_t]
      exact e82 hx
    | false =>
      rw [if_pos (show bI false = 0 from rfl), if_neg (by decide)]
      exact e82 h
  have e57 : ∀ (x : Int32), (x = 0 ∨ x = 1) → (x = 0 ↔ v.1 7 = 0 ∧ (if st then cs = true else ((d = 3 ∨ d = 4) ↔ 0 < q))) → MC (jb_Model_checkPart_57 (nI m) (nI d) (bI st) (bI ar) x v) fun _ w => mK T u0 ((xs_if (if st then cs = true else ((d = 3 ∨ d = 4) ↔ 0 < q)) s).bind (sq_sg T ((if st then [upk d] else []) ++ ((if ar then [1] else []) ++ [21 + 2 * m])) (if st then [] else [upk d]))) w := fun x hx h0 => by
    have hf := ml_flag h hx h0
    unfold jb_Model_checkPart_57
    simp only [xs_let]
    rw [if_pos hx]
    cases st with
    | true =>
      rw [if_neg (show ¬ bI true = 0 by decide), mm_unp hd, ys_seq]
      refine MC_seq (ml_take hf hw) fun _ y hy => ?_
      show MC _ fun _ w => mK T u0 ((xs_if (cs = true) s).bind (sq_sg T (upk d :: ((if ar then [1] else []) ++ [21 + 2 * m])) [])) w
      rw [sg_t]
      exact e72 hy
    | false =>
      rw [if_pos (show bI false = 0 from rfl)]
      exact e72 hf
  have e15 : ∀ (x : Int32), (x = 1 ↔ d = 3 ∨ d = 4) → (x = 0 ↔ ¬ (d = 3 ∨ d = 4)) → MC (jb_Model_checkPart_15 (nI m) (nI d) (bI st) (nI q) (bI cs) (bI ar) x v) fun _ w => mK T u0 ((xs_if (if st then cs = true else ((d = 3 ∨ d = 4) ↔ 0 < q)) s).bind (sq_sg T ((if st then [upk d] else []) ++ ((if ar then [1] else []) ++ [21 + 2 * m])) (if st then [] else [upk d]))) w := fun x hx1 hx0 => by
    unfold jb_Model_checkPart_15 jb_Model_checkPart_49 jb_Model_checkPart_52 jb_Model_checkPart_56
    have yes : v.1 7 = 0 → (if st then cs = true else ((d = 3 ∨ d = 4) ↔ 0 < q)) → _ := fun a b => e57 0 (Or.inl rfl) ⟨fun _ => ⟨a, b⟩, fun _ => rfl⟩
    have no : ¬ (v.1 7 = 0 ∧ (if st then cs = true else ((d = 3 ∨ d = 4) ↔ 0 < q))) → _ := fun a => e57 1 (Or.inr rfl) ⟨fun y => absurd y (by decide), fun y => absurd y a⟩
    by_cases z7 : v.1 7 = 0
    · rw [if_pos z7]
      cases st with
      | true =>
        rw [if_neg (show ¬ bI true = 0 by decide)]
        cases cs with
        | true => rw [if_neg (show ¬ bI true = 0 by decide)]; exact yes z7 rfl
        | false => rw [if_pos (show bI false = 0 from rfl)]; exact no fun y => absurd (show false = true from y.2) (by decide)
      | false =>
        rw [if_pos (show bI false = 0 from rfl)]
        have cq : nI q ≤ (0 : Int32) ↔ q ≤ 0 := nI_leI (b := 0) (by omega) (by decide)
        have hp : (if false = true then cs = true else ((d = 3 ∨ d = 4) ↔ 0 < q)) ↔ ((d = 3 ∨ d = 4) ↔ 0 < q) := by rw [if_neg (by decide)]
        by_cases zq : q ≤ 0
        · rw [if_pos (cq.mpr zq)]
          by_cases zd : d = 3 ∨ d = 4
          · rw [if_neg (fun y => (hx0.mp y) zd)]
            exact no fun y => by have := (hp.mp y.2).mp zd; omega
          · rw [if_pos (hx0.mpr zd)]
            exact yes z7 (hp.mpr ⟨fun y => absurd y zd, fun y => by omega⟩)
        · rw [if_neg (fun y => zq (cq.mp y))]
          by_cases zd : d = 3 ∨ d = 4
          · rw [if_pos (hx1.mpr zd)]
            exact yes z7 (hp.mpr ⟨fun _ => by omega, fun _ => zd⟩)
          · rw [if_neg (fun y => zd (hx1.mp y))]
            exact no fun y => zd ((hp.mp y.2).mpr (by omega))
    · rw [if_neg z7]
      exact no fun y => z7 y.1
  unfold fm_Model_checkPart jb_Model_checkPart_10
  have c3 : nI d = (3 : Int32) ↔ d = 3 := nI_eq (b := 3) (by omega) (by decide)
  have c4 : nI d = (4 : Int32) ↔ d = 4 := nI_eq (b := 4) (by omega) (by decide)
  by_cases z3 : d = 3
  · rw [if_pos (c3.mpr z3)]
    exact e15 1 ⟨fun _ => Or.inl z3, fun _ => rfl⟩ ⟨fun y => absurd y (by decide), fun y => absurd (Or.inl z3) y⟩
  · rw [if_neg (fun y => z3 (c3.mp y))]
    by_cases z4 : d = 4
    · rw [if_pos (c4.mpr z4)]
      exact e15 1 ⟨fun _ => Or.inr z4, fun _ => rfl⟩ ⟨fun y => absurd y (by decide), fun y => absurd (Or.inr z4) y⟩
    · rw [if_neg (fun y => z4 (c4.mp y))]
      exact e15 0 ⟨fun y => absurd y (by decide), fun y => by omega⟩ ⟨fun _ => by omega, fun _ => rfl⟩
end
