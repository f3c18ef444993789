section
variable {α β γ δ σ τ : Type} {u v w u0 u1 : xk_St} {g : Nat → Nat} {T : List (Nat × List Nat × List Nat)} {F : List Nat} {G : List (Nat × Nat × Nat × Int64)} {L : List Nat} {n fu tc mc : Nat} {Q Q' : List sFr}
abbrev sIn : Type := Nat × (Option Nat ⊕ Int64) × Int64 × Nat × List Nat
/-- an instruction as it can be read -/
def yg_ins (i : sIn) : Prop := i.1 < 287 ∧ ¬ xt_S i.1 = 45 ∧ ¬ xt_S i.1 = 33 ∧ (xt_S i.1 = 98 → sb_rd i.2.1) ∧ (xt_S i.1 = 114 → ∃ m, m < 2 ^ 32 ∧ i.2.1 = .inr (lN m)) ∧ (xt_S i.1 = 116 → ∃ t, t ≤ 66 ∧ i.2.1 = .inr (lN t)) ∧ (xt_S i.1 = 117 → ∃ m, m < 2 ^ 32 ∧ i.2.1 = .inr (lN m) ∧ i.2.2.1 = 0) ∧ (xt_S i.1 = 119 → ∃ m x, m < 2 ^ 32 ∧ x < 2 ^ 32 ∧ i.2.1 = .inr (lN m) ∧ i.2.2.1 = lN x)
/-- one instruction, by the document: where it stands, what is open and lies there -/
noncomputable def sq_step (T : List (Nat × List Nat × List Nat)) (F : List Nat) (tc mc : Nat) (G : List (Nat × Nat × Nat × Int64)) (L : List Nat) (e p : Nat) (i : sIn) (Q : List sFr) : Option (List sFr) :=
  if i.1 = 0 then some (sq_lose Q)
  else if i.1 = 1 then some Q
  else if i.1 = 2 ∨ i.1 = 3 then sq_block T e p i.1 i.2.1 Q
  else if i.1 = 4 then (sq_take (yl_f T) 1 Q).bind fun Q1 => sq_block T e p 4 i.2.1 Q1
  else if i.1 = 5 then sq_else T Q
  else if i.1 = 11 then sq_end T Q
  else if i.1 = 12 then sq_br T (yx_n i.2.1) Q
  else if i.1 = 13 then sq_brif T (yx_n i.2.1) Q
  else if i.1 = 14 then sq_table T i.2.2.2.2 (yx_n i.2.1) Q
  else if i.1 = 15 then sq_ret T Q
  else if i.1 = 16 then F[yx_n i.2.1]?.bind fun t => T[t]?.bind fun c => sq_sg T c.2.1.reverse c.2.2 Q
  else if i.1 = 17 then T[yx_n i.2.1]?.bind fun c => xs_if (c.1 = 96 ∧ tc = 1 ∧ i.2.2.1 = 0) (sq_sg T (1 :: c.2.1.reverse) c.2.2 Q)
  else if i.1 = 26 then (sq_pop Q).bind fun x => some x.2
  else if i.1 = 27 then sq_choice T Q
  else if i.1 < 35 then L[yx_n i.2.1]?.bind fun t => sq_var T (i.1 - 32) t Q
  else if i.1 < 40 then G[yx_n i.2.1]?.bind fun a => xs_if (i.1 = 35 ∨ a.2.1 = 1) (sq_var T (i.1 - 35) a.1 Q)
  else if i.1 < 65 then sq_mem T mc i.1 (yx_n i.2.1) Q
  else if i.1 < 67 then sq_push (i.1 - 64) Q
  else if i.1 < 208 then sq_num T i.1 Q
  else if i.1 = 208 then sq_null T (yx_n i.2.1) Q
  else if i.1 = 209 then sq_isnull Q
  else if i.1 = 211 then sq_sg T [17, 17] [1] Q
  else if i.1 = 212 then sq_asnn Q
  else if i.1 = 213 then sq_brn T (yx_n i.2.1) Q
  else if i.1 = 214 then sq_brnn T (yx_n i.2.1) Q
  else if i.1 < 262 then sq_struct T (i.1 - 256) (yx_n i.2.1) (sb_n i.2.2.1) Q
  else if i.1 = 271 then sq_len T Q
  else if i.1 < 276 then sq_array T (i.1 - 256) (yx_n i.2.1) (sb_n i.2.2.1) Q
  else sq_kind T (i.1 - 256) (yx_n i.2.1) Q
/-- the rest of the module, as the class has it -/
def sEn (T : List (Nat × List Nat × List Nat)) (F : List Nat) (tc mc : Nat) (G : List (Nat × Nat × Nat × Int64)) (u : xk_St) : Prop := u.1 10 = nI F.length ∧ F.length ≤ 64 ∧ (∀ (k : Nat) t, F[k]? = some t → u.2.2.1 12 k = nI t ∧ yv_fn T t) ∧ (u.1 11 = nI tc ∧ tc ≤ 1) ∧ (u.1 12 = nI mc ∧ mc ≤ 1) ∧ u.1 13 = nI G.length ∧ G.length ≤ 64 ∧ ∀ (k : Nat) a, G[k]? = some a → u.2.2.1 21 k = nI (yu a.1) ∧ u.2.2.1 22 k = nI a.2.1 ∧ a.2.1 ≤ 1 ∧ yvw T.length a.1 ∧ yvs T.length a.1
theorem sEn_fr {I J A C : List Nat} (h : sEn T F tc mc G v) (hf : yf_fr I J A C v w) (hd : (yf_no [10, 11, 12, 13] I && yf_no [12, 21, 22] A) = true) : sEn T F tc mc G w := by
  have hd := Bool.and_eq_true_iff.mp hd
  unfold sEn
  rw [hf.1 10 (yf_nok hd.1 (by simp)), hf.1 11 (yf_nok hd.1 (by simp)), hf.1 12 (yf_nok hd.1 (by simp)), hf.1 13 (yf_nok hd.1 (by simp)), hf.2.2.1 12 (yf_nok hd.2 (by simp)), hf.2.2.1 21 (yf_nok hd.2 (by simp)), hf.2.2.1 22 (yf_nok hd.2 (by simp))]
  exact h
/-- the locals -/
def sLo (T : List (Nat × List Nat × List Nat)) (L : List Nat) (u : xk_St) : Prop := u.1 22 = nI L.length ∧ L.length ≤ 200 ∧ ∀ (k : Nat) c, L[k]? = some c → u.2.2.1 36 k = nI (yu c) ∧ yvw T.length c ∧ yvs T.length c
theorem sLo_fr {I J A C : List Nat} (h : sLo T L v) (hf : yf_fr I J A C v w) (hd : (yf_no [22] I && yf_no [36] A) = true) : sLo T L w := by
  have hd := Bool.and_eq_true_iff.mp hd
  unfold sLo
  rw [hf.1 22 (yf_nok hd.1 (by simp)), hf.2.2.1 36 (yf_nok hd.2 (by simp))]
  exact h
/-- what an instruction's check leaves in the class -/
def sPo (i : sIn) (k : Nat) (Q : List sFr) (u v : xk_St) : Prop :=
  yf_fr [19, 20, 21] [] [9, 10, 11, 33, 34, 35] [2] u v ∧ (∀ j, ¬ j = k → v.2.2.1 9 j = u.2.2.1 9 j ∧ v.2.2.1 10 j = u.2.2.1 10 j ∧ v.2.2.2 2 j = u.2.2.2 2 j) ∧ (¬ i.1 = 14 → v.2.2.1 11 = u.2.2.1 11) ∧ (¬ (i.1 = 12 ∨ i.1 = 13 ∨ i.1 = 213 ∨ i.1 = 214) → v.2.2.1 9 = u.2.2.1 9) ∧ (i.1 = 12 ∨ i.1 = 13 ∨ i.1 = 213 ∨ i.1 = 214 → ∃ f, Q[yx_n i.2.1]? = some f ∧ v.2.2.1 9 k = nI f.1.1) ∧ (¬ (i.1 = 2 ∨ i.1 = 3 ∨ i.1 = 4) → v.2.2.1 10 = u.2.2.1 10 ∧ v.2.2.2 2 = u.2.2.2 2) ∧ (i.1 = 14 → ∀ s, u.2.2.1 8 k = nI s → s < 8192 → (∀ (j : Nat) c, (i.2.2.2.2 ++ [yx_n i.2.1])[j]? = some c → ∃ f, Q[c]? = some f ∧ v.2.2.1 11 (s + j) = nI f.1.1) ∧ ∀ j, j < s ∨ s + i.2.2.2.2.length < j → v.2.2.1 11 j = u.2.2.1 11 j)
abbrev sPJ (T : List (Nat × List Nat × List Nat)) (i : sIn) (k : Nat) (Q : List sFr) (u : xk_St) : List sFr → Option ((Unit ⊕ Nat) × xk_St) → Prop := HJ fun Q' _ v => sH T Q' v ∧ sPo i k Q u v
/-- only the stack and its marks -/
theorem sPo_of {i : sIn} {k : Nat} (hf : yf_fr [19, 20, 21] [] [33, 35] [] u v) (h14 : ¬ i.1 = 14) (hb : ¬ (i.1 = 12 ∨ i.1 = 13 ∨ i.1 = 213 ∨ i.1 = 214)) : sPo i k Q u v := by
  have e9 := hf.2.2.1 9 (by decide)
  have e10 := hf.2.2.1 10 (by decide)
  have e2 := hf.2.2.2 2 (by decide)
  exact ⟨yf_mono hf (by decide), fun j _ => by rw [e9, e10, e2]; exact ⟨rfl, rfl, rfl⟩, fun _ => hf.2.2.1 11 (by decide), fun _ => e9, fun h => absurd h hb, fun _ => ⟨e10, e2⟩, fun h => absurd h h14⟩
theorem sPo_K {i : sIn} {k : Nat} {o : Option ((Unit ⊕ Nat) × xk_St)} {s : Option (List sFr)} (h : HC o s (sKJ T u)) (h14 : ¬ i.1 = 14) (hb : ¬ (i.1 = 12 ∨ i.1 = 13 ∨ i.1 = 213 ∨ i.1 = 214)) : HC (xs_try o fun _ v => some (.inl (), v)) s (sPJ T i k Q u) := HC_fin h fun _ _ _ _ h => ⟨h.2.1, sPo_of (yf_mono h.2.2.2 (by decide)) h14 hb⟩
theorem sPo_B {i : sIn} {k : Nat} {o : Option ((Unit ⊕ Nat) × xk_St)} {s : Option (List sFr)} (h : HC o s (sBJ T k (yx_n i.2.1) Q u)) (hb : i.1 = 12 ∨ i.1 = 13 ∨ i.1 = 213 ∨ i.1 = 214) : HC (xs_try o fun _ v => some (.inl (), v)) s (sPJ T i k Q u) := by
  refine HC_fin h fun Q' _ v _ h => ⟨h.1, ?_⟩
  obtain ⟨h1, h2, h3, f, h4, h5⟩ := h
  have e10 := h3.2.2.1 10 (by decide)
  have e2 := h3.2.2.2 2 (by decide)
  refine ⟨yf_mono h3 (by decide), fun j hj => ?_, fun _ => h3.2.2.1 11 (by decide), fun h => absurd hb h, fun _ => ⟨f, h4, by rw [h5, ya_t]⟩, fun _ => ⟨e10, e2⟩, fun h => by omega⟩
  rw [e10, e2, h5, ya_j hj]
  exact ⟨rfl, rfl, rfl⟩
/-- where an instruction's check goes -/
theorem hi_ctl {k o : Nat} (hk : k < 8192) (h7 : u.2.2.1 7 k = nI o) (ho : o < 16) : fm_Checker_checkInstruction fu (nI k) u = xs_try (fm_Checker_checkControl fu (nI o) (nI k) u) fun _ v => some (.inl (), v) := by
  unfold fm_Checker_checkInstruction
  simp only [xs_let]
  rw [ix8192 hk, nI_clamp (by omega), h7, if_neg (show ¬ (16 : Int32) ≤ nI o from nI_ge (b := 16) ho (by decide))]
theorem hi_16 {o c : Nat} (h : c ≤ o) (ho : o < 287) : nI c ≤ nI o := nI_le h (by omega)
theorem hi_sim {k o : Nat} (hk : k < 8192) (h7 : u.2.2.1 7 k = nI o) (ho : 16 ≤ o) (ho2 : o < 40) : fm_Checker_checkInstruction fu (nI k) u = xs_try (fm_Checker_checkSimple fu (nI o) (u.2.2.1 8 k) (nI k) u) fun _ v => some (.inl (), v) := by
  unfold fm_Checker_checkInstruction
  simp only [xs_let]
  rw [ix8192 hk, nI_clamp (by omega), h7, if_pos (show (16 : Int32) ≤ nI o from hi_16 ho (by omega)), if_neg (show ¬ (40 : Int32) ≤ nI o from nI_ge (b := 40) ho2 (by decide)), if_neg (show ¬ (nI k < 0 ∨ 8192 ≤ k) from fun y => y.elim (nI_pos (by omega)) (by omega))]
theorem hi_mem {k o : Nat} (hk : k < 8192) (h7 : u.2.2.1 7 k = nI o) (ho : 40 ≤ o) (ho2 : o ≤ 64) : fm_Checker_checkInstruction fu (nI k) u = xs_try (fm_Checker_checkMemory (nI o) (u.2.2.1 8 k) u) fun _ v => some (.inl (), v) := by
  unfold fm_Checker_checkInstruction
  simp only [xs_let]
  rw [ix8192 hk, nI_clamp (by omega), h7, if_pos (show (16 : Int32) ≤ nI o from hi_16 (c := 16) (by omega) (by omega)), if_pos (show (40 : Int32) ≤ nI o from hi_16 (c := 40) (by omega) (by omega)), if_neg (show ¬ (64 : Int32) < nI o from fun y => by have := (nI_ltI (a := 64) (by omega) (by omega)).mp y; omega), if_neg (show ¬ (nI k < 0 ∨ 8192 ≤ k) from fun y => y.elim (nI_pos (by omega)) (by omega))]
theorem hi_con {k o : Nat} (hk : k < 8192) (h7 : u.2.2.1 7 k = nI o) (ho : o = 65 ∨ o = 66) : fm_Checker_checkInstruction fu (nI k) u = xs_try (fm_Checker_push (nI (yu (o - 64))) u) fun _ v => some (.inl (), v) := by
  unfold fm_Checker_checkInstruction jb_Checker_checkInstruction_90
  simp only [xs_let]
  rw [ix8192 hk, nI_clamp (by omega), h7]
  rcases ho with rfl | rfl
  · rw [if_pos (show (16 : Int32) ≤ nI 65 by decide), if_pos (show (40 : Int32) ≤ nI 65 by decide), if_pos (show (64 : Int32) < nI 65 by decide), if_neg (show ¬ (66 : Int32) < nI 65 by decide), if_pos (show nI 65 = (65 : Int32) from rfl)]
    rfl
  · rw [if_pos (show (16 : Int32) ≤ nI 66 by decide), if_pos (show (40 : Int32) ≤ nI 66 by decide), if_pos (show (64 : Int32) < nI 66 by decide), if_neg (show ¬ (66 : Int32) < nI 66 by decide), if_neg (show ¬ nI 66 = (65 : Int32) by decide)]
    rfl
theorem hi_rest {k o : Nat} (hk : k < 8192) (h7 : u.2.2.1 7 k = nI o) (ho : 66 < o) (ho2 : o < 287) : fm_Checker_checkInstruction fu (nI k) u = if o < 208 then (xs_try (fm_Checker_checkNumeric fu (nI o) u) fun _ v => some (.inl (), v)) else if o < 256 then (xs_try (fm_Checker_checkReference fu (nI o) (nI k) u) fun _ v => some (.inl (), v)) else if o < 262 then (xs_try (fm_Checker_checkStructure fu (nI (o - 256)) (u.2.2.1 8 k) (u.2.2.2 2 k) u) fun _ v => some (.inl (), v)) else if o < 276 then (xs_try (fm_Checker_checkArray fu (nI (o - 256)) (u.2.2.1 8 k) (u.2.2.2 2 k) u) fun _ v => some (.inl (), v)) else (xs_try (fm_Checker_checkKind (nI (o - 256)) (u.2.2.1 8 k) u) fun _ v => some (.inl (), v)) := by
  unfold fm_Checker_checkInstruction
  simp only [xs_let]
  have hkk : ¬ (nI k < 0 ∨ 8192 ≤ k) := fun y => y.elim (nI_pos (by omega)) (by omega)
  have l208 : (208 : Int32) ≤ nI o ↔ 208 ≤ o := nI_leI (a := 208) (by omega) (by omega)
  have l256 : (256 : Int32) ≤ nI o ↔ 256 ≤ o := nI_leI (a := 256) (by omega) (by omega)
  have l262 : (262 : Int32) ≤ nI o ↔ 262 ≤ o := nI_leI (a := 262) (by omega) (by omega)
  have l276 : (276 : Int32) ≤ nI o ↔ 276 ≤ o := nI_leI (a := 276) (by omega) (by omega)
  rw [ix8192 hk, nI_clamp (by omega), h7, if_pos (show (16 : Int32) ≤ nI o from hi_16 (c := 16) (by omega) (by omega)), if_pos (show (40 : Int32) ≤ nI o from hi_16 (c := 40) (by omega) (by omega)), if_pos (show (64 : Int32) < nI o from nI_lt (a := 64) (by omega) (by omega)), if_pos (show (66 : Int32) < nI o from nI_lt (a := 66) (by omega) (by omega))]
  have hs : 256 ≤ o → nI o - 256 = nI (o - 256) := fun z => by
    have := nI_subb (a := o - 256) (b := 256)
    rw [show o - 256 + 256 = o by omega] at this
    exact this
  by_cases z1 : 208 ≤ o
  · rw [if_pos (l208.mpr z1), if_neg (show ¬ o < 208 by omega)]
    by_cases z2 : 256 ≤ o
    · rw [if_pos (l256.mpr z2), if_neg (show ¬ o < 256 by omega), hs z2]
      by_cases z3 : 262 ≤ o
      · rw [if_pos (l262.mpr z3), if_neg (show ¬ o < 262 by omega)]
        by_cases z4 : 276 ≤ o
        · rw [if_pos (l276.mpr z4), if_neg (show ¬ o < 276 by omega), if_neg hkk]
        · rw [if_neg (fun y => z4 (l276.mp y)), if_pos (show o < 276 by omega), if_neg hkk, if_neg hkk]
      · rw [if_neg (fun y => z3 (l262.mp y)), if_pos (show o < 262 by omega), if_neg hkk, if_neg hkk]
    · rw [if_neg (fun y => z2 (l256.mp y)), if_pos (show o < 256 by omega)]
  · rw [if_neg (fun y => z1 (l208.mp y)), if_pos (show o < 208 by omega)]
end
