section
variable {α β γ δ σ τ : Type} {u v w u0 : xk_St} {g : Nat → Nat} {T : List (Nat × List Nat × List Nat)} {n fu : Nat} {Q Q' : List sFr}
/-- the instructions on numbers: how many are taken, of which type, what comes -/
def sn_k (o : Nat) : Nat × Nat × Nat := if o ≤ 79 then (if o = 69 then (1, 1, 1) else (2, 1, 1)) else if o ≤ 90 then (if o = 80 then (1, 2, 1) else (2, 2, 1)) else if o ≤ 120 then (if o ≤ 105 then (1, 1, 1) else (2, 1, 1)) else if o ≤ 138 then (if o ≤ 123 then (1, 2, 2) else (2, 2, 2)) else if o = 167 then (1, 2, 1) else if o ≤ 173 then (1, 1, 2) else if o ≤ 193 then (1, 1, 1) else (1, 2, 2)
noncomputable def sq_num (T : List (Nat × List Nat × List Nat)) (o : Nat) (Q : List sFr) : Option (List sFr) := sq_sg T (List.replicate (sn_k o).1 (sn_k o).2.1) [(sn_k o).2.2] Q
theorem nI_ltk {k o : Nat} (hk : k < 2 ^ 31) (ho : o < 2 ^ 31) : nI k < nI o ↔ k < o := nI_ltI hk ho
theorem hk_num {o : Nat} (hfu : 200 ≤ fu) (h : sK T u0 Q u) (ho : o < 208) : HC (fm_Checker_checkNumeric fu (nI o) u) (sq_num T o Q) (sKJ T u0) := by
  have c79 : ((79 : Int32) < nI o) = (79 < o) := propext (nI_ltk (k := 79) (by omega) (by omega))
  have c90 : ((90 : Int32) < nI o) = (90 < o) := propext (nI_ltk (k := 90) (by omega) (by omega))
  have c120 : ((120 : Int32) < nI o) = (120 < o) := propext (nI_ltk (k := 120) (by omega) (by omega))
  have c138 : ((138 : Int32) < nI o) = (138 < o) := propext (nI_ltk (k := 138) (by omega) (by omega))
  have c173 : ((173 : Int32) < nI o) = (173 < o) := propext (nI_ltk (k := 173) (by omega) (by omega))
  have c193 : ((193 : Int32) < nI o) = (193 < o) := propext (nI_ltk (k := 193) (by omega) (by omega))
  have c123 : ((123 : Int32) < nI o) = (123 < o) := propext (nI_ltk (k := 123) (by omega) (by omega))
  have c105 : ((105 : Int32) < nI o) = (105 < o) := propext (nI_ltk (k := 105) (by omega) (by omega))
  have c167 : (nI o = (167 : Int32)) = (o = 167) := propext (nI_eq (b := 167) (by omega) (by omega))
  have c80 : (nI o = (80 : Int32)) = (o = 80) := propext (nI_eq (b := 80) (by omega) (by omega))
  have c69 : (nI o = (69 : Int32)) = (o = 69) := propext (nI_eq (b := 69) (by omega) (by omega))
  have a111 := hk_compute (k := 1) (a := 1) (b := 1) hfu h (Or.inl rfl) yvw_1 yvs_1
  have a211 := hk_compute (k := 2) (a := 1) (b := 1) hfu h (Or.inr rfl) yvw_1 yvs_1
  have a121 := hk_compute (k := 1) (a := 2) (b := 1) hfu h (Or.inl rfl) yvw_2 yvs_1
  have a221 := hk_compute (k := 2) (a := 2) (b := 1) hfu h (Or.inr rfl) yvw_2 yvs_1
  have a122 := hk_compute (k := 1) (a := 2) (b := 2) hfu h (Or.inl rfl) yvw_2 yvs_2
  have a222 := hk_compute (k := 2) (a := 2) (b := 2) hfu h (Or.inr rfl) yvw_2 yvs_2
  have a112 := hk_compute (k := 1) (a := 1) (b := 2) hfu h (Or.inl rfl) yvw_1 yvs_2
  unfold fm_Checker_checkNumeric jb_Checker_checkNumeric_97 jb_Checker_checkNumeric_70 jb_Checker_checkNumeric_44 jb_Checker_checkNumeric_18 sq_num
  simp only [c79, c90, c120, c138, c173, c193, c123, c105, c167, c80, c69]
  by_cases z1 : 79 < o
  · rw [if_pos z1]
    by_cases z2 : 90 < o
    · rw [if_pos z2]
      by_cases z3 : 120 < o
      · rw [if_pos z3]
        by_cases z4 : 138 < o
        · rw [if_pos z4]
          by_cases z5 : o = 167
          · rw [if_pos z5, show sn_k o = (1, 2, 1) by rw [z5]; decide]
            exact HC_end a121
          · rw [if_neg z5]
            by_cases z6 : 173 < o
            · rw [if_pos z6]
              by_cases z7 : 193 < o
              · rw [if_pos z7, show sn_k o = (1, 2, 2) by unfold sn_k; rw [if_neg (by omega), if_neg (by omega), if_neg (by omega), if_neg (by omega), if_neg z5, if_neg (by omega), if_neg (by omega)]]
                exact HC_end a122
              · rw [if_neg z7, show sn_k o = (1, 1, 1) by unfold sn_k; rw [if_neg (by omega), if_neg (by omega), if_neg (by omega), if_neg (by omega), if_neg z5, if_neg (by omega), if_pos (by omega)]]
                exact HC_end a111
            · rw [if_neg z6, show sn_k o = (1, 1, 2) by unfold sn_k; rw [if_neg (by omega), if_neg (by omega), if_neg (by omega), if_neg (by omega), if_neg z5, if_pos (by omega)]]
              exact HC_end a112
        · rw [if_neg z4]
          by_cases z5 : 123 < o
          · rw [if_pos z5, show sn_k o = (2, 2, 2) by unfold sn_k; rw [if_neg (by omega), if_neg (by omega), if_neg (by omega), if_pos (by omega), if_neg (by omega)]]
            exact HC_end a222
          · rw [if_neg z5, show sn_k o = (1, 2, 2) by unfold sn_k; rw [if_neg (by omega), if_neg (by omega), if_neg (by omega), if_pos (by omega), if_pos (by omega)]]
            exact HC_end a122
      · rw [if_neg z3]
        by_cases z5 : 105 < o
        · rw [if_pos z5, show sn_k o = (2, 1, 1) by unfold sn_k; rw [if_neg (by omega), if_neg (by omega), if_pos (by omega), if_neg (by omega)]]
          exact HC_end a211
        · rw [if_neg z5, show sn_k o = (1, 1, 1) by unfold sn_k; rw [if_neg (by omega), if_neg (by omega), if_pos (by omega), if_pos (by omega)]]
          exact HC_end a111
    · rw [if_neg z2]
      by_cases z5 : o = 80
      · rw [if_pos z5, show sn_k o = (1, 2, 1) by rw [z5]; decide]
        exact HC_end a121
      · rw [if_neg z5, show sn_k o = (2, 2, 1) by unfold sn_k; rw [if_neg (by omega), if_pos (by omega), if_neg z5]]
        exact HC_end a221
  · rw [if_neg z1]
    by_cases z5 : o = 69
    · rw [if_pos z5, show sn_k o = (1, 1, 1) by rw [z5]; decide]
      exact HC_end a111
    · rw [if_neg z5, show sn_k o = (2, 1, 1) by unfold sn_k; rw [if_pos (by omega), if_neg z5]]
      exact HC_end a211
/-- the instructions on memory -/
def sm_w (o : Nat) : Nat := if o = 41 ∨ o = 55 then 8 else if o = 40 ∨ o = 52 ∨ o = 53 ∨ o = 54 ∨ o = 62 then 4 else if o = 46 ∨ o = 47 ∨ o = 50 ∨ o = 51 ∨ o = 59 ∨ o = 61 then 2 else 1
def sm_t (o : Nat) : Nat := if o = 41 ∨ (48 ≤ o ∧ o ≤ 53) ∨ o = 55 ∨ 60 ≤ o then 2 else 1
noncomputable def sq_mem (T : List (Nat × List Nat × List Nat)) (mc o a : Nat) (Q : List sFr) : Option (List sFr) :=
  xs_if (mc = 1) (if o < 63 then xs_if (a ≤ 3 ∧ 2 ^ a ≤ sm_w o) (if o < 54 then sq_sg T [1] [sm_t o] Q else sq_sg T [sm_t o, 1] [] Q) else sq_sg T (if o = 64 then [1] else []) [1] Q)
theorem sm_all : ∀ o, o < 63 → 40 ≤ o → ¬ xt_S o = 45 → ∀ a, a < 4 → (xt_W (nI o - 40).toNatClampNeg < ((1 : Int32) <<< (nI a &&& 31)) ↔ ¬ 2 ^ a ≤ sm_w o) := by decide +kernel
theorem sm_wide : ∀ o, o < 63 → 40 ≤ o → fm_Memory_isWide (nI o) u = some (if sm_t o = 2 then 1 else 0, u) := by
  have h : ∀ o, o < 63 → 40 ≤ o → ((nI o = (41 : Int32) ↔ o = 41) ∧ (nI o < (48 : Int32) ↔ o < 48) ∧ (nI o ≤ (53 : Int32) ↔ o ≤ 53) ∧ (nI o = (55 : Int32) ↔ o = 55) ∧ (nI o < (60 : Int32) ↔ o < 60)) := by decide +kernel
  intro o h1 h2
  obtain ⟨a1, a2, a3, a4, a5⟩ := h o h1 h2
  unfold fm_Memory_isWide jb_Memory_isWide_18 jb_Memory_isWide_30 sm_t
  simp only [a1, a2, a3, a4, a5]
  by_cases z1 : o = 41
  · rw [if_pos z1, if_pos (Or.inl z1), if_pos rfl]
  · rw [if_neg z1]
    by_cases z2 : o < 48
    · rw [if_pos z2, if_neg (show ¬ o = 55 by omega), if_pos (show o < 60 by omega), if_neg (show ¬ (o = 41 ∨ (48 ≤ o ∧ o ≤ 53) ∨ o = 55 ∨ 60 ≤ o) by omega), if_neg (by decide)]
    · rw [if_neg z2]
      by_cases z3 : o ≤ 53
      · rw [if_pos z3, if_pos (show (o = 41 ∨ (48 ≤ o ∧ o ≤ 53) ∨ o = 55 ∨ 60 ≤ o) by omega), if_pos rfl]
      · rw [if_neg z3]
        by_cases z4 : o = 55
        · rw [if_pos z4, if_pos (show (o = 41 ∨ (48 ≤ o ∧ o ≤ 53) ∨ o = 55 ∨ 60 ≤ o) by omega), if_pos rfl]
        · rw [if_neg z4]
          by_cases z5 : o < 60
          · rw [if_pos z5, if_neg (show ¬ (o = 41 ∨ (48 ≤ o ∧ o ≤ 53) ∨ o = 55 ∨ 60 ≤ o) by omega), if_neg (by decide)]
          · rw [if_neg z5, if_pos (show (o = 41 ∨ (48 ≤ o ∧ o ≤ 53) ∨ o = 55 ∨ 60 ≤ o) by omega), if_pos rfl]
theorem sm_t2 {o : Nat} : sm_t o = 1 ∨ sm_t o = 2 := by unfold sm_t; split <;> simp
theorem hk_mem {o a mc : Nat} (h : sK T u0 Q u) (ho : 40 ≤ o) (ho2 : o ≤ 64) (hr : ¬ xt_S o = 45) (h12 : u.1 12 = nI mc) (hmc : mc < 2 ^ 31) : HC (fm_Checker_checkMemory (nI o) (nI (yn_c a)) u) (sq_mem T mc o a Q) (sKJ T u0) := by
  have c12 : u.1 12 = 1 ↔ mc = 1 := by rw [h12]; exact nI_eq (b := 1) hmc (by decide)
  have hab := yn_cb a
  unfold fm_Checker_checkMemory sq_mem jb_Checker_checkMemory_19
  have hty : yvw T.length (sm_t o) ∧ yvs T.length (sm_t o) := by
    rcases @sm_t2 o with z | z
    · rw [z]; exact ⟨yvw_1, yvs_1⟩
    · rw [z]; exact ⟨yvw_2, yvs_2⟩
  have h80 : HC (jb_Checker_checkMemory_80 (nI o) (nI (yu (sm_t o))) u) (if o < 54 then sq_sg T [1] [sm_t o] Q else sq_sg T [sm_t o, 1] [] Q) (sKJ T u0) := by
    unfold jb_Checker_checkMemory_80 sq_sg
    have c54 : (nI o < (54 : Int32)) ↔ o < 54 := nI_ltI (b := 54) (by omega) (by omega)
    by_cases z : o < 54
    · rw [if_pos (c54.mpr z), if_pos z, sq_t1]
      refine HC_try (hk_take (x := 1) h yvw_1) fun Q1 _ v _ h1 => ?_
      rw [sq_p1]
      exact HC_end (hk_push h1 hty.2)
    · rw [if_neg (fun y => z (c54.mp y)), if_neg z]
      show HC _ (((sq_take (yl_f T) (sm_t o) Q).bind (sq_takes (yl_f T) [1])).bind _) _
      rw [Option.bind_assoc]
      refine HC_try (hk_take h hty.1) fun Q1 _ v _ h1 => ?_
      rw [sq_t1, show (sq_take (yl_f T) 1 Q1).bind (sq_pushes []) = sq_take (yl_f T) 1 Q1 by cases sq_take (yl_f T) 1 Q1 <;> rfl]
      exact HC_end (hk_take (x := 1) h1 yvw_1)
  have h65 : o < 63 → ∀ P : Prop, [Decidable P] → HC (jb_Checker_checkMemory_65 (nI o) (if P then 1 else 0) u) (xs_if P (if o < 54 then sq_sg T [1] [sm_t o] Q else sq_sg T [sm_t o, 1] [] Q)) (sKJ T u0) := fun hlt P _ => by
    unfold jb_Checker_checkMemory_65
    refine HC_need (P := P) (fun z => if_pos z) (fun z => if_neg z) fun z => ?_
    rw [sm_wide o hlt ho, ys_seq]
    rcases @sm_t2 o with y | y
    · rw [if_neg (show ¬ sm_t o = 2 by rw [y]; decide), if_pos rfl]
      have := h80; rw [y] at this ⊢; exact this
    · rw [if_pos y, if_neg (by decide)]
      have := h80; rw [y] at this ⊢; exact this
  have hm : ∀ x : Int32, (mc = 1 → x = 1) → (¬ mc = 1 → x = 0) → HC (xs_try (fm_Checker_need x u) fun _ u1 => if nI o < (63 : Int32) then (if (3 : Int32) < nI (yn_c a) then (jb_Checker_checkMemory_64 (nI o) u1) else ((xs_seq (fm_Memory_width (nI o) u1) fun a9 u10 => if a9 < ((1 : Int32) <<< (nI (yn_c a) &&& 31)) then (jb_Checker_checkMemory_64 (nI o) u10) else (jb_Checker_checkMemory_65 (nI o) (1 : Int32) u10)))) else (if nI o = (64 : Int32) then ((xs_try (fm_Checker_pop_I (1 : Int32) u1) fun _ u12 => jb_Checker_checkMemory_39 u12)) else (jb_Checker_checkMemory_39 u1))) (xs_if (mc = 1) (if o < 63 then xs_if (a ≤ 3 ∧ 2 ^ a ≤ sm_w o) (if o < 54 then sq_sg T [1] [sm_t o] Q else sq_sg T [sm_t o, 1] [] Q) else sq_sg T (if o = 64 then [1] else []) [1] Q)) (sKJ T u0) := fun x e1 e0 => by
    refine HC_need e1 e0 fun _ => ?_
    have c63 : (nI o < (63 : Int32)) ↔ o < 63 := nI_ltI (b := 63) (by omega) (by omega)
    by_cases z : o < 63
    · rw [if_pos (c63.mpr z), if_pos z]
      unfold jb_Checker_checkMemory_64
      have c3 : (3 : Int32) < nI (yn_c a) ↔ 3 < a := by
        rw [show (3 : Int32) = nI 3 from rfl, ← Int32.not_le, yn_cl (by omega)]; omega
      by_cases z3 : 3 < a
      · rw [if_pos (c3.mpr z3), xs_ifn (by omega)]
        have := h65 z False
        rw [if_neg id, xs_ifn id] at this
        exact this
      · rw [if_neg (fun y => z3 (c3.mp y))]
        have hw : fm_Memory_width (nI o) u = some (xt_W (nI o - 40).toNatClampNeg, u) := by
          unfold fm_Memory_width
          rw [if_neg ?_]
          have : nI o - 40 = nI (o - 40) := by
            have := nI_subb (a := o - 40) (b := 40)
            rw [show o - 40 + 40 = o by omega] at this
            exact this
          rw [this]
          exact nI_in (N := 23) (by omega) (by decide)
        rw [hw, ys_seq, yn_cs (by omega)]
        have hall := sm_all o z ho hr a (by omega)
        by_cases zw : 2 ^ a ≤ sm_w o
        · rw [if_neg (fun y => hall.mp y zw), xs_ifp ⟨by omega, zw⟩]
          have := h65 z True
          rw [if_pos trivial, xs_ifp trivial] at this
          exact this
        · rw [if_pos (hall.mpr zw), xs_ifn (fun y => zw y.2)]
          have := h65 z False
          rw [if_neg id, xs_ifn id] at this
          exact this
    · rw [if_neg (fun y => z (c63.mp y)), if_neg z]
      have c64 : nI o = (64 : Int32) ↔ o = 64 := nI_eq (b := 64) (by omega) (by omega)
      have h39 : ∀ {v : xk_St} {Q : List sFr}, sK T u0 Q v → HC (jb_Checker_checkMemory_39 v) (sq_pushes [1] Q) (sKJ T u0) := fun h => by
        unfold jb_Checker_checkMemory_39
        rw [sq_p1]
        exact HC_end (hk_push (c := 1) h yvs_1)
      unfold sq_sg
      by_cases z4 : o = 64
      · rw [if_pos (c64.mpr z4), if_pos z4, sq_t1]
        exact HC_try (hk_take (x := 1) h yvw_1) fun Q1 _ v _ h1 => h39 h1
      · rw [if_neg (fun y => z4 (c64.mp y)), if_neg z4]
        exact h39 h
  by_cases z : mc = 1
  · rw [if_pos (c12.mpr z)]
    exact hm 1 (fun _ => rfl) (fun y => absurd z y)
  · rw [if_neg (fun y => z (c12.mp y))]
    exact hm 0 (fun y => absurd y z) (fun _ => rfl)
/-- 0x1b -/
noncomputable def sq_choice (T : List (Nat × List Nat × List Nat)) (Q : List sFr) : Option (List sFr) := (sq_take (yl_f T) 1 Q).bind fun Q1 => (sq_pop Q1).bind fun x => (sq_pop x.2).bind fun y => xs_if (x.1 < 3 ∧ y.1 < 3 ∧ (x.1 = y.1 ∨ x.1 = 0 ∨ y.1 = 0)) (sq_push (if x.1 = 0 then y.1 else x.1) y.2)
theorem sc_all : ∀ a, a < 3 → ∀ b, b < 3 → (nI (yu a) = nI (yu b) ↔ a = b) ∧ (nI (yu a) = 0 ↔ a = 0) ∧ ((a = b ∨ a = 0 ∨ b = 0) → (if nI (yu b) < nI (yu a) then nI (yu a) else nI (yu b)) = nI (yu (if a = 0 then b else a))) := by decide +kernel
theorem hk_isR {x : Nat} (hx : yvs n x) (hn : n ≤ 64) : fm_Types_isReference (nI (yu x)) u = some (if x < 3 then 0 else 1, u) := by
  unfold fm_Types_isReference
  have hb : yu x < 2 ^ 31 ∧ (yu x < 16 ↔ x < 3) := by
    rcases hx with rfl | z | ⟨z1, z2, z3⟩
    · decide
    · rw [yu_h (by omega)]; unfold yv_h; rw [if_pos (by omega)]; omega
    · rw [yu_h (by omega)]; unfold yv_h; split <;> omega
  by_cases z : x < 3
  · rw [if_pos (show nI (yu x) < (16 : Int32) from (nI_ltI (b := 16) hb.1 (by decide)).mpr (hb.2.mpr z)), if_pos z]
  · rw [if_neg (show ¬ nI (yu x) < (16 : Int32) from fun y => z (hb.2.mp ((nI_ltI (b := 16) hb.1 (by decide)).mp y))), if_neg z]
theorem hk_choice (h : sK T u0 Q u) : HC (fm_Checker_checkChoice u) (sq_choice T Q) (sKJ T u0) := by
  unfold fm_Checker_checkChoice sq_choice
  have h64 := h.1.1.2.1
  refine HC_try (hk_take (x := 1) h yvw_1) fun Q1 _ v _ h1 => ?_
  refine HC_try (hk_pop h1) fun x b2 v _ hx => ?_
  obtain ⟨rfl, h2, hx⟩ := hx
  refine HC_try (hk_pop h2) fun y b4 v _ hy => ?_
  obtain ⟨rfl, h3, hy⟩ := hy
  rw [hk_isR hy h64, ys_seq]
  unfold jb_Checker_checkChoice_33
  have h34 : ∀ {s : Int32}, HC (jb_Checker_checkChoice_34 (nI (yu x.1)) (nI (yu y.1)) 0 v) none (sKJ T u0) := by
    intro s
    unfold jb_Checker_checkChoice_34
    exact Or.inr ⟨rfl, v, rfl⟩
  by_cases zy : y.1 < 3
  · rw [if_pos zy, if_pos rfl, hk_isR hx h64, ys_seq]
    by_cases zx : x.1 < 3
    · rw [if_pos zx, if_pos rfl]
      obtain ⟨a1, a2, a3⟩ := sc_all x.1 zx y.1 zy
      obtain ⟨b1, b2, -⟩ := sc_all y.1 zy x.1 zx
      unfold jb_Checker_checkChoice_34 jb_Checker_checkChoice_50 jb_Checker_checkChoice_55
      rw [hh_needI (Or.inr rfl), if_neg (show ¬ (1 : Int32) = 0 by decide)]
      have hz : yvs T.length (if x.1 = 0 then y.1 else x.1) := by split <;> assumption
      have hgo : x.1 = y.1 ∨ x.1 = 0 ∨ y.1 = 0 → HC (xs_try (fm_Checker_need 1 v) fun _ u9 => xs_try (fm_Checker_push (if nI (yu y.1) < nI (yu x.1) then nI (yu x.1) else nI (yu y.1)) u9) fun _ u10 => some (.inl (), u10)) (sq_push (if x.1 = 0 then y.1 else x.1) y.2) (sKJ T u0) := fun z => by
        rw [hh_needI (Or.inr rfl), if_neg (show ¬ (1 : Int32) = 0 by decide), a3 z]
        exact HC_end (hk_push h3 hz)
      by_cases z1 : y.1 = x.1
      · rw [if_pos (b1.mpr z1), xs_ifp ⟨zx, zy, Or.inl z1.symm⟩]
        exact hgo (Or.inl z1.symm)
      · rw [if_neg (fun y => z1 (b1.mp y))]
        by_cases z2 : y.1 = 0
        · rw [if_pos (b2.mpr z2), xs_ifp ⟨zx, zy, Or.inr (Or.inr z2)⟩]
          exact hgo (Or.inr (Or.inr z2))
        · rw [if_neg (fun y => z2 (b2.mp y))]
          by_cases z3 : x.1 = 0
          · rw [if_pos (a2.mpr z3), xs_ifp ⟨zx, zy, Or.inr (Or.inl z3)⟩]
            exact hgo (Or.inr (Or.inl z3))
          · rw [if_neg (fun y => z3 (a2.mp y)), xs_ifn (by omega), hh_needI (Or.inl rfl), if_pos rfl]
            exact HC_no
    · rw [if_neg zx, if_neg (by decide), xs_ifn (fun y => zx y.1)]
      exact h34 (s := 0)
  · rw [if_neg zy, if_neg (by decide), xs_ifn (fun y => zy y.2.1)]
    exact h34 (s := 0)
end
