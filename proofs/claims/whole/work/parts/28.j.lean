section
variable {α β γ δ σ τ : Type} {u v w u0 : xk_St} {g : Nat → Nat} {T : List (Nat × List Nat × List Nat)} {n fu : Nat} {Q Q' : List sFr}
/-- type n is of kind K -/
def yv_k (T : List (Nat × List Nat × List Nat)) (K n : Nat) : Prop := ∃ c, T[n]? = some c ∧ c.1 = K
theorem hk_is {K m : Nat} (he : yCe T u) (hK : K = 94 ∨ K = 95 ∨ K = 96) : (yv_k T K m → fm_Types_is (nI (yn_c m)) (nI K) u = some (1, u)) ∧ (¬ yv_k T K m → fm_Types_is (nI (yn_c m)) (nI K) u = some (0, u)) := by
  have h64 := he.1.2.1
  have hb := yn_cb m
  unfold fm_Types_is
  rw [he.1.1]
  by_cases z : T.length ≤ m
  · have : T.length ≤ yn_c m := by unfold yn_c; split <;> omega
    rw [if_pos (nI_le this hb)]
    exact ⟨fun ⟨c, h1, _⟩ => by have := yl_lt h1; omega, fun _ => rfl⟩
  · rw [yn_cs (by omega), if_neg (nI_ge (by omega) (by omega)), hh_ix (by omega), nI_clamp (by omega)]
    obtain ⟨c, hc⟩ := yl_get (l := T) (k := m) (by omega)
    obtain ⟨ty, tg⟩ := he.1.2.2 m c hc
    rw [ty.1]
    have hc1 := tg.1
    by_cases z2 : c.1 = K
    · rw [if_pos (by rw [z2])]
      exact ⟨fun _ => rfl, fun h => absurd ⟨c, hc, z2⟩ h⟩
    · rw [if_neg (fun y => z2 ((nI_eq (by omega) (by omega)).mp y))]
      exact ⟨fun ⟨c', h1, h2⟩ => by rw [hc] at h1; cases h1; exact absurd h2 z2, fun _ => rfl⟩
/-- a target that is known -/
theorem hk_knT {t : Nat} (he : yCe T u) (ht : t ≤ 66) : (yv_in T T.length (16 + 2 * t) → fm_Types_knowsTarget (nI (yv_t t)) u = some (1, u)) ∧ (¬ yv_in T T.length (16 + 2 * t) → fm_Types_knowsTarget (nI (yv_t t)) u = some (0, u)) := by
  have h64 := he.1.2.1
  unfold fm_Types_knowsTarget jb_Types_knowsTarget_28 yv_in yv_t
  by_cases z : t < 2
  · rw [if_pos z, if_pos (show nI t < (3 : Int32) from nI_lt (b := 3) (by omega) (by omega))]
    exact ⟨fun _ => rfl, fun h => absurd (Or.inl (by omega)) h⟩
  · rw [if_neg z, if_neg (show ¬ nI (t + 1) < (3 : Int32) from fun y => by have := (nI_ltI (b := 3) (by omega) (by omega)).mp y; omega)]
    have e1 : nI (t + 1) - 3 = nI (t - 2) := by
      have := nI_sub3 (a := t - 2)
      rw [show t - 2 + 3 = t + 1 by omega] at this
      exact this
    rw [e1, he.1.1, show (16 + 2 * t - 20) / 2 = t - 2 by omega]
    by_cases z2 : T.length ≤ t - 2
    · rw [if_pos (nI_le z2 (by omega))]
      exact ⟨fun h => by rcases h with h | h <;> omega, fun _ => rfl⟩
    · rw [if_neg (nI_ge (by omega) (by omega)), hh_ix (by omega), nI_clamp (by omega)]
      obtain ⟨c, hc⟩ := yl_get (l := T) (k := t - 2) (by omega)
      obtain ⟨ty, tg⟩ := he.1.2.2 _ c hc
      rw [ty.1]
      by_cases z3 : c.1 = 96
      · rw [if_pos (by rw [z3]; rfl)]
        refine ⟨fun h => ?_, fun _ => rfl⟩
        rcases h with h | ⟨-, c', h1, h2⟩
        · omega
        · rw [hc] at h1; cases h1; exact absurd z3 h2
      · rw [if_neg (yg_96 tg z3)]
        exact ⟨fun _ => rfl, fun h => absurd (Or.inr ⟨by omega, c, hc, z3⟩) h⟩
theorem yu_r0 {t : Nat} (ht : t ≤ 66) : fm_Types_reference (nI (yv_t t)) 0 u = some (nI (yu (16 + 2 * t)), u) := by
  rw [hh_ref0, yu_h (by omega), yv_ht]
theorem yu_r1 {t : Nat} (ht : t ≤ 66) : fm_Types_reference (nI (yv_t t)) 1 u = some (nI (yu (16 + 2 * t + 1)), u) := by
  rw [hh_refn, yu_h (by omega), yv_ht]
  congr 3
  unfold yv_h
  split <;> split <;> omega
theorem yvw_t {t : Nat} (ht : t ≤ 66) (h : yv_in T T.length (16 + 2 * t)) : yvw T.length (16 + 2 * t) ∧ yvw T.length (16 + 2 * t + 1) ∧ yvs T.length (16 + 2 * t) ∧ yvs T.length (16 + 2 * t + 1) := by
  have h1 : yvw T.length (16 + 2 * t) := ⟨by omega, h.imp id fun z => z.1⟩
  have h2 : yvw T.length (16 + 2 * t + 1) := ⟨by omega, by rcases h with h | h <;> omega⟩
  exact ⟨h1, h2, Or.inr (Or.inr ⟨by omega, h1⟩), Or.inr (Or.inr ⟨by omega, h2⟩)⟩
/-- type m itself as a reference -/
theorem yu_m0 {m : Nat} (hm : m < 64) : fm_Types_reference (3 + nI m) 0 u = some (nI (yu (20 + 2 * m)), u) := by
  rw [show (3 : Int32) + nI m = nI (yv_t (2 + m)) by unfold yv_t; rw [if_neg (by omega), show (3 : Int32) = nI 3 from rfl, nI_add]; congr 1; omega, yu_r0 (by omega)]
  congr 4; omega
theorem yu_m1 {m : Nat} (hm : m < 64) : fm_Types_reference (3 + nI m) 1 u = some (nI (yu (21 + 2 * m)), u) := by
  rw [show (3 : Int32) + nI m = nI (yv_t (2 + m)) by unfold yv_t; rw [if_neg (by omega), show (3 : Int32) = nI 3 from rfl, nI_add]; congr 1; omega, yu_r1 (by omega)]
  congr 4; omega
theorem yvw_m {m : Nat} (hm : m < T.length) (h64 : T.length ≤ 64) : yvw T.length (20 + 2 * m) ∧ yvw T.length (21 + 2 * m) ∧ yvs T.length (20 + 2 * m) ∧ yvs T.length (21 + 2 * m) := by
  have h1 : yvw T.length (20 + 2 * m) := ⟨by omega, by omega⟩
  have h2 : yvw T.length (21 + 2 * m) := ⟨by omega, by omega⟩
  exact ⟨h1, h2, Or.inr (Or.inr ⟨by omega, h1⟩), Or.inr (Or.inr ⟨by omega, h2⟩)⟩
/-- without null -/
theorem sq_nn_all : ∀ x, x < 150 → 16 ≤ x → nI (yu x) &&& (-2) = nI (yu (sq_nn x)) := by decide +kernel
theorem hk_nn {x : Nat} (hx : yvs n x) (h0 : x = 0 ∨ 16 ≤ x) : fm_Types_notNull (nI (if x = 0 then 20 else yu x)) u = some (nI (yu (sq_nn x)), u) := by
  unfold fm_Types_notNull
  rcases hx with rfl | z | ⟨z1, z2⟩
  · exact congrArg (fun y => some (y, u)) (by decide +kernel)
  · obtain rfl : x = 0 := by omega
    exact congrArg (fun y => some (y, u)) (by decide +kernel)
  · rw [if_neg (by omega), sq_nn_all x z2.1 z1]
theorem yvs_nn {x : Nat} (hx : yvs n x) (h0 : x = 0 ∨ 16 ≤ x) : yvs n (sq_nn x) := by
  unfold sq_nn
  by_cases z : x = 0
  · rw [if_pos z]; exact Or.inl rfl
  · rw [if_neg z]
    rcases hx with rfl | y | ⟨z1, z2, z3⟩
    · exact Or.inl (by decide)
    · omega
    · exact Or.inr (Or.inr ⟨by omega, by omega, by omega⟩)
/-- 0xd0 .. 0xd4 -/
noncomputable def sq_null (T : List (Nat × List Nat × List Nat)) (t : Nat) (Q : List sFr) : Option (List sFr) := xs_if (yv_in T T.length (16 + 2 * t)) (sq_push (16 + 2 * t + 1) Q)
noncomputable def sq_isnull (Q : List sFr) : Option (List sFr) := (sq_popR Q).bind fun x => sq_push 1 x.2
noncomputable def sq_asnn (Q : List sFr) : Option (List sFr) := (sq_popR Q).bind fun x => sq_push (sq_nn x.1) x.2
theorem hk_208 {k t : Nat} (h : sK T u0 Q u) (hk : k < 8192) (h8 : u.2.2.1 8 k = nI (yv_t t)) (ht : t ≤ 66) : HC (fm_Checker_checkReference fu (nI 208) (nI k) u) (sq_null T t Q) (sKJ T u0) := by
  unfold fm_Checker_checkReference sq_null
  rw [if_pos (show nI 208 = (208 : Int32) from rfl), ix8192 hk, nI_clamp (by omega), h8]
  obtain ⟨a1, a2⟩ := hk_knT (t := t) h.1 ht
  by_cases z : yv_in T T.length (16 + 2 * t)
  · rw [a1 z, xs_ifp z, ys_seq, hh_needI (Or.inr rfl), if_neg (show ¬ (1 : Int32) = 0 by decide), if_neg (show ¬ (nI k < 0 ∨ 8192 ≤ k) from fun y => y.elim (nI_pos (by omega)) (by omega)), h8, yu_r1 ht, ys_seq]
    exact HC_end (hk_push h (yvw_t ht z).2.2.2)
  · rw [a2 z, xs_ifn z, ys_seq, hh_needI (Or.inl rfl), if_pos rfl]
    exact HC_no
theorem hk_209 {k : Nat} (h : sK T u0 Q u) : HC (fm_Checker_checkReference fu (nI 209) (nI k) u) (sq_isnull Q) (sKJ T u0) := by
  unfold fm_Checker_checkReference sq_isnull
  rw [if_neg (show ¬ nI 209 = (208 : Int32) by decide), if_pos (show nI 209 = (209 : Int32) from rfl)]
  refine HC_try (hk_popR h) fun x b v _ hx => ?_
  exact HC_end (hk_push (c := 1) hx.2.1 yvs_1)
theorem hk_211 {k : Nat} (hfu : 200 ≤ fu) (h : sK T u0 Q u) : HC (fm_Checker_checkReference fu (nI 211) (nI k) u) (sq_sg T [17, 17] [1] Q) (sKJ T u0) := by
  unfold fm_Checker_checkReference
  rw [if_neg (show ¬ nI 211 = (208 : Int32) by decide), if_neg (show ¬ nI 211 = (209 : Int32) by decide), if_neg (show ¬ nI 211 = (210 : Int32) by decide), if_pos (show nI 211 = (211 : Int32) from rfl)]
  exact HC_end (hk_compute (k := 2) (a := 17) (b := 1) hfu h (Or.inr rfl) ⟨by decide, Or.inl (by decide)⟩ yvs_1)
theorem hk_212 {k : Nat} (h : sK T u0 Q u) : HC (fm_Checker_checkReference fu (nI 212) (nI k) u) (sq_asnn Q) (sKJ T u0) := by
  unfold fm_Checker_checkReference sq_asnn
  rw [if_neg (show ¬ nI 212 = (208 : Int32) by decide), if_neg (show ¬ nI 212 = (209 : Int32) by decide), if_neg (show ¬ nI 212 = (210 : Int32) by decide), if_neg (show ¬ nI 212 = (211 : Int32) by decide), if_pos (show nI 212 = (212 : Int32) from rfl)]
  refine HC_try (hk_popR h) fun x b v _ hx => ?_
  obtain ⟨rfl, h1, h2, h3⟩ := hx
  rw [hk_nn h2 h3, ys_seq]
  exact HC_end (hk_push h1 (yvs_nn h2 h3))
/-- kinds -/
noncomputable def sq_kind (T : List (Nat × List Nat × List Nat)) (o t : Nat) (Q : List sFr) : Option (List sFr) :=
  if o = 28 then sq_sg T [1] [18] Q else if 28 < o then sq_sg T [19] [1] Q else xs_if (yv_in T T.length (16 + 2 * t)) (sq_sg T [17] [if o < 22 then 1 else if o = 23 then 16 + 2 * t + 1 else 16 + 2 * t] Q)
theorem sq_sg1 {a b : Nat} : sq_sg T [a] [b] Q = (sq_take (yl_f T) a Q).bind fun Q1 => sq_push b Q1 := by
  unfold sq_sg
  rw [sq_t1]
  congr 1
  funext Q1
  exact sq_p1
theorem hk_kind {o t : Nat} {x : Int32} (h : sK T u0 Q u) (ho : o < 31) (ht : o < 24 → x = nI (yv_t t) ∧ t ≤ 66) (hr : o < 24 ∨ 28 ≤ o) : HC (fm_Checker_checkKind (nI o) x u) (sq_kind T o t Q) (sKJ T u0) := by
  have c28 : nI o = (28 : Int32) ↔ o = 28 := nI_eq (b := 28) (by omega) (by omega)
  have l28 : nI o ≤ (28 : Int32) ↔ o ≤ 28 := nI_leI (b := 28) (by omega) (by omega)
  have l22 : (22 : Int32) ≤ nI o ↔ 22 ≤ o := nI_leI (a := 22) (by omega) (by omega)
  have c23 : nI o = (23 : Int32) ↔ o = 23 := nI_eq (b := 23) (by omega) (by omega)
  have w17 : yvw T.length 17 := ⟨by decide, Or.inl (by decide)⟩
  have w19 : yvw T.length 19 := ⟨by decide, Or.inl (by decide)⟩
  have s18 : yvs T.length 18 := Or.inr (Or.inr ⟨by decide, by decide, Or.inl (by decide)⟩)
  unfold fm_Checker_checkKind sq_kind
  by_cases z1 : o = 28
  · rw [if_pos (c28.mpr z1), if_pos z1, sq_sg1]
    refine HC_try (hk_take (x := 1) h yvw_1) fun Q1 _ v _ h1 => ?_
    rw [show fm_Types_notNull 19 v = some (nI (yu 18), v) from congrArg (fun y => some (y, v)) (by decide +kernel), ys_seq]
    exact HC_end (hk_push h1 s18)
  · rw [if_neg (fun y => z1 (c28.mp y)), if_neg z1]
    by_cases z2 : o ≤ 28
    · rw [if_pos (l28.mpr z2), if_neg (show ¬ 28 < o by omega)]
      obtain ⟨rfl, htt⟩ := ht (by omega)
      clear ht
      have ht := htt
      obtain ⟨a1, a2⟩ := hk_knT (t := t) h.1 ht
      by_cases z : yv_in T T.length (16 + 2 * t)
      · rw [a1 z, xs_ifp z, ys_seq, hh_needI (Or.inr rfl), if_neg (show ¬ (1 : Int32) = 0 by decide), sq_sg1]
        refine HC_try (hk_take (x := 17) h w17) fun Q1 _ v _ h1 => ?_
        obtain ⟨y1, y2, y3, y4⟩ := yvw_t ht z
        unfold jb_Checker_checkKind_83 jb_Checker_checkKind_86
        by_cases z3 : 22 ≤ o
        · rw [if_pos (l22.mpr z3), if_neg (show ¬ o < 22 by omega)]
          by_cases z4 : o = 23
          · rw [if_pos (c23.mpr z4), if_pos z4, yu_r1 ht, ys_seq]
            exact HC_end (hk_push h1 y4)
          · rw [if_neg (fun y => z4 (c23.mp y)), if_neg z4, yu_r0 ht, ys_seq]
            exact HC_end (hk_push h1 y3)
        · rw [if_neg (fun y => z3 (l22.mp y)), if_pos (show o < 22 by omega)]
          exact HC_end (hk_push (c := 1) h1 yvs_1)
      · rw [a2 z, xs_ifn z, ys_seq, hh_needI (Or.inl rfl), if_pos rfl]
        exact HC_no
    · rw [if_neg (fun y => z2 (l28.mp y)), if_pos (show 28 < o by omega), sq_sg1]
      refine HC_try (hk_take (x := 19) h w19) fun Q1 _ v _ h1 => ?_
      exact HC_end (hk_push (c := 1) h1 yvs_1)
end
