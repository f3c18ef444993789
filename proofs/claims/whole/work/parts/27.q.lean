section
variable {α β γ δ : Type} {B : Nat → Int32} {u v w : xk_St} {L lim p q fu D len : Nat} {e : Int32} {T : List (Nat × List Nat × List Nat)} {S : Nat → Option (Nat × Nat)} {g : Nat → Nat}
/-- two names are the same -/
def ye_same (B : Nat → Int32) (a b : (Nat × Nat) × Nat × Nat) : Prop := a.1.2 = b.1.2 ∧ ∀ i, i < a.1.2 → B (a.1.1 + i) = B (b.1.1 + i)
def ye_bound (nf nt nm ng k : Nat) : Nat := if k = 0 then nf else if k = 1 then nt else if k = 2 then nm else ng
/-- export k as it must be -/
def yv_exp (B : Nat → Int32) (l : List ((Nat × Nat) × Nat × Nat)) (nf nt nm ng k : Nat) (a : (Nat × Nat) × Nat × Nat) : Prop := a.2.2 < ye_bound nf nt nm ng a.2.1 ∧ ∀ (j : Nat) b, j < k → l[j]? = some b → ¬ ye_same B a b
theorem yp_exp_b {a : (Nat × Nat) × Nat × Nat} (h : yp_exp B lim p = .inl (a, q)) : a.1.1 + a.1.2 ≤ lim ∧ a.2.1 ≤ 3 ∧ a.2.2 < 2 ^ 32 := by
  obtain ⟨b, r, h1, h⟩ := yp_thenI h
  obtain ⟨k, r2, h2, h⟩ := yp_thenI h
  obtain ⟨n, r0, h0, h1⟩ := yp_thenI h1
  have hk := yp_bb h2
  obtain ⟨⟨j, hj, rfl⟩, -, -⟩ := hk
  by_cases z : nI j ≤ 3
  · rw [if_pos z] at h
    obtain ⟨m, r3, h3, h⟩ := yp_thenI h
    have := yp_Nb h3
    have := yp_Nb h0
    cases h
    by_cases z2 : n ≤ lim - r0
    · rw [if_pos z2] at h1
      cases h1
      have z3 : j ≤ 3 := (nI_leI (b := 3) (by omega) (by decide)).mp z
      refine ⟨by show r0 + n ≤ lim; omega, ?_, by show m < 2 ^ 32; omega⟩
      show (nI j).toNatClampNeg ≤ 3
      rw [nI_clamp (by omega)]; exact z3
    · rw [if_neg z2] at h1; cases h1
  · rw [if_neg z] at h; cases h
/-- the class holds two names against each other -/
theorem hh_sameName {k j : Nat} {a b : (Nat × Nat) × Nat × Nat} (hfu : 8200 ≤ fu) (hk : k < 64) (hj : j < 64) (ha : yi_exp u k a) (hb : yi_exp u j b) (hab : a.1.1 + a.1.2 ≤ 8192) (hbb : b.1.1 + b.1.2 ≤ 8192) (hB : u.2.2.1 1 = B) (he : a.1.2 = b.1.2) :
    (ye_same B a b → fm_Checker_sameName fu (nI k) (nI j) u = some (1, u)) ∧ (¬ ye_same B a b → fm_Checker_sameName fu (nI k) (nI j) u = some (0, u)) := by
  unfold fm_Checker_sameName
  simp only [xs_let]
  rw [hh_ix (by omega), hh_ix (by omega), nI_clamp (by omega), nI_clamp (by omega), ha.1, hb.1]
  have := yb_all (N := a.1.2) (fun i => B (a.1.1 + i) = B (b.1.1 + i)) (fun n i => jb_Checker_sameName_30 fu n (nI k) (nI a.1.1) (nI b.1.1) (nI i) u) (some (1, u)) (some (0, u)) (fun n => ?_) (fun n i hi => ?_) a.1.2 0 fu (by omega) (by omega)
  · refine ⟨fun h => this.1 fun i _ hi => h.2 i hi, fun h => this.2 (Classical.byContradiction fun hno => h ⟨he, fun i hi => Classical.byContradiction fun hn => hno ⟨i, Nat.zero_le _, hi, hn⟩⟩)⟩
  · show jb_Checker_sameName_30 fu (n + 1) (nI k) (nI a.1.1) (nI b.1.1) (nI a.1.2) u = _
    unfold jb_Checker_sameName_30
    simp only [xs_let]
    rw [hh_ix (by omega), nI_clamp (by omega), ha.2.1, if_pos (Int32.le_refl _)]
  · have hstep : jb_Checker_sameName_30 fu (n + 1) (nI k) (nI a.1.1) (nI b.1.1) (nI i) u = if B (a.1.1 + i) = B (b.1.1 + i) then jb_Checker_sameName_30 fu n (nI k) (nI a.1.1) (nI b.1.1) (nI (i + 1)) u else some (0, u) := by
      conv => lhs; unfold jb_Checker_sameName_30
      simp only [xs_let]
      rw [hh_ix (by omega), nI_clamp (by omega), ha.2.1, if_neg (nI_ge (by omega) (by omega)), nI_add, nI_add, if_neg (nI_in (N := 8192) (by omega) (by decide)), if_neg (nI_in (N := 8192) (by omega) (by decide)), nI_clamp (by omega), nI_clamp (by omega), hB, nI_1]
    exact ⟨fun h => hstep.trans (if_pos h), fun h => hstep.trans (if_neg h)⟩
/-- the class's check of exports -/
theorem hh_exports {l : List ((Nat × Nat) × Nat × Nat)} {nf nt nm ng : Nat} (hfu : 8200 ≤ fu) (hl64 : l.length ≤ 64) (h14 : u.1 14 = nI l.length) (hE : yi_rows yi_exp l u) (hb : ∀ (k : Nat) a, l[k]? = some a → a.1.1 + a.1.2 ≤ 8192 ∧ a.2.1 ≤ 3 ∧ a.2.2 < 2 ^ 32) (hB : u.2.2.1 1 = B) (h10 : u.1 10 = nI nf) (h11 : u.1 11 = nI nt) (h12 : u.1 12 = nI nm) (h13 : u.1 13 = nI ng) (hn : nf ≤ 64 ∧ nt ≤ 64 ∧ nm ≤ 64 ∧ ng ≤ 64) :
    ((∀ (k : Nat) a, l[k]? = some a → yv_exp B l nf nt nm ng k a) → fm_Checker_checkExports fu u = some (.inl (), u)) ∧ (¬ (∀ (k : Nat) a, l[k]? = some a → yv_exp B l nf nt nm ng k a) → fm_Checker_checkExports fu u = some (.inr 0, u)) := by
  have n1 : fm_Checker_need 1 u = some (.inl (), u) := if_neg (by decide)
  have n0 : fm_Checker_need 0 u = some (.inr 0, u) := if_pos rfl
  have := yb_all (N := l.length) (fun k => ∀ a, l[k]? = some a → yv_exp B l nf nt nm ng k a) (fun n k => jb_Checker_checkExports_10 fu n (nI k) u) (some (.inl (), u)) (some (.inr 0, u)) (fun n => ?_) (fun n k hk => ?_) l.length 0 fu (by omega) (by omega)
  · refine ⟨fun h => this.1 fun k _ _ c hc => h k c hc, fun h => this.2 (Classical.byContradiction fun hno => h fun k c hc => Classical.byContradiction fun hn => hno ⟨k, Nat.zero_le _, yl_lt hc, fun z => hn (z c hc)⟩)⟩
  · show jb_Checker_checkExports_10 fu (n + 1) (nI l.length) u = _
    unfold jb_Checker_checkExports_10
    simp only [xs_let]
    rw [h14, if_pos (Int32.le_refl _)]
  · obtain ⟨a, ha⟩ := yl_get (l := l) (k := k) hk
    have ea := hE k a (by omega) ha
    obtain ⟨b1, b2, b3⟩ := hb k a ha
    -- the bound
    have hstep : jb_Checker_checkExports_10 fu (n + 1) (nI k) u = jb_Checker_checkExports_101 fu (jb_Checker_checkExports_10 fu n) (nI k) (nI (ye_bound nf nt nm ng a.2.1)) u := by
      conv => lhs; unfold jb_Checker_checkExports_10
      simp only [xs_let]
      rw [h14, if_neg (nI_ge (by omega) (by omega)), hh_ix (by omega), nI_clamp (by omega), ea.2.2.1, h10, h11, h12, h13]
      have : a.2.1 = 0 ∨ a.2.1 = 1 ∨ a.2.1 = 2 ∨ a.2.1 = 3 := by omega
      rcases this with z | z | z | z <;> rw [z] <;> rfl
    have hbd : ye_bound nf nt nm ng a.2.1 ≤ 64 := by unfold ye_bound; split <;> (try split) <;> (try split) <;> omega
    have hcmp : (nI (ye_bound nf nt nm ng a.2.1)).toInt64 ≤ lN (yn_c a.2.2) ↔ ye_bound nf nt nm ng a.2.1 ≤ a.2.2 := by
      rw [nI_toL (by omega), pk_lLE (by omega) (by have := yn_cb a.2.2; omega)]
      unfold yn_c; split <;> omega
    -- the names before
    have hnames := yb_all (N := k) (fun j => ∀ b, l[j]? = some b → ¬ ye_same B a b) (fun m j => jb_Checker_checkExports_125 fu (jb_Checker_checkExports_10 fu n) m (nI k) (nI j) u) (jb_Checker_checkExports_10 fu n (nI (k + 1)) u) (some (.inr 0, u)) (fun m => ?_) (fun m j hj => ?_) k 0 fu (by omega) (by omega)
    · show ((∀ b, l[k]? = some b → yv_exp B l nf nt nm ng k b) → jb_Checker_checkExports_10 fu (n + 1) (nI k) u = jb_Checker_checkExports_10 fu n (nI (k + 1)) u) ∧ (¬ (∀ b, l[k]? = some b → yv_exp B l nf nt nm ng k b) → jb_Checker_checkExports_10 fu (n + 1) (nI k) u = some (.inr 0, u))
      rw [hstep]
      unfold jb_Checker_checkExports_101 jb_Checker_checkExports_119
      rw [hh_ix (by omega), nI_clamp (by omega), ea.2.2.2, n0, n1, ys_tryl, ys_tryr]
      have hP : (∀ b, l[k]? = some b → yv_exp B l nf nt nm ng k b) ↔ yv_exp B l nf nt nm ng k a := ⟨fun h => h a ha, fun h b hb => by rw [ha] at hb; cases hb; exact h⟩
      rw [hP]
      have hn1 : (∀ j, 0 ≤ j → j < k → ∀ b, l[j]? = some b → ¬ ye_same B a b) → jb_Checker_checkExports_125 fu (jb_Checker_checkExports_10 fu n) fu (nI k) 0 u = jb_Checker_checkExports_10 fu n (nI (k + 1)) u := hnames.1
      have hn2 : (∃ j, 0 ≤ j ∧ j < k ∧ ¬ ∀ b, l[j]? = some b → ¬ ye_same B a b) → jb_Checker_checkExports_125 fu (jb_Checker_checkExports_10 fu n) fu (nI k) 0 u = some (.inr 0, u) := hnames.2
      by_cases z : ye_bound nf nt nm ng a.2.1 ≤ a.2.2
      · rw [if_pos (hcmp.mpr z)]
        exact ⟨fun h => by have := h.1; omega, fun _ => rfl⟩
      · rw [if_neg (fun y => z (hcmp.mp y))]
        refine ⟨fun h => hn1 fun j _ hj b hb => h.2 j b hj hb, fun h => hn2 (Classical.byContradiction fun hno => h ⟨by omega, fun j b hj hb => ?_⟩)⟩
        exact fun hs => hno ⟨j, Nat.zero_le _, hj, fun y => y b hb hs⟩
    · show jb_Checker_checkExports_125 fu (jb_Checker_checkExports_10 fu n) (m + 1) (nI k) (nI k) u = _
      unfold jb_Checker_checkExports_125
      simp only [xs_let]
      rw [if_pos (Int32.le_refl _), nI_1]
    · obtain ⟨b, hbj⟩ := yl_get (l := l) (k := j) (by omega)
      have eb := hE j b (by omega) hbj
      have hbb := hb j b hbj
      have hP : (∀ c, l[j]? = some c → ¬ ye_same B a c) ↔ ¬ ye_same B a b := ⟨fun h => h b hbj, fun h c hc => by rw [hbj] at hc; cases hc; exact h⟩
      have e162 : jb_Checker_checkExports_162 fu (jb_Checker_checkExports_10 fu n) (jb_Checker_checkExports_125 fu (jb_Checker_checkExports_10 fu n) m) (nI k) (nI j) 1 u = jb_Checker_checkExports_125 fu (jb_Checker_checkExports_10 fu n) m (nI k) (nI (j + 1)) u := by
        unfold jb_Checker_checkExports_162
        simp only [xs_let]
        rw [n1, ys_tryl, nI_1]
      have e162' : jb_Checker_checkExports_162 fu (jb_Checker_checkExports_10 fu n) (jb_Checker_checkExports_125 fu (jb_Checker_checkExports_10 fu n) m) (nI k) (nI j) 0 u = some (.inr 0, u) := by
        unfold jb_Checker_checkExports_162
        rw [n0, ys_tryr]
      have hstp : jb_Checker_checkExports_125 fu (jb_Checker_checkExports_10 fu n) (m + 1) (nI k) (nI j) u = if a.1.2 = b.1.2 then (xs_seq (fm_Checker_sameName fu (nI k) (nI j) u) fun a6 u7 => if a6 = (0 : Int32) then (jb_Checker_checkExports_162 fu (jb_Checker_checkExports_10 fu n) (jb_Checker_checkExports_125 fu (jb_Checker_checkExports_10 fu n) m) (nI k) (nI j) 1 u7) else (jb_Checker_checkExports_162 fu (jb_Checker_checkExports_10 fu n) (jb_Checker_checkExports_125 fu (jb_Checker_checkExports_10 fu n) m) (nI k) (nI j) 0 u7)) else jb_Checker_checkExports_162 fu (jb_Checker_checkExports_10 fu n) (jb_Checker_checkExports_125 fu (jb_Checker_checkExports_10 fu n) m) (nI k) (nI j) 1 u := by
        conv => lhs; unfold jb_Checker_checkExports_125
        unfold jb_Checker_checkExports_157
        simp only [xs_let]
        rw [if_neg (nI_ge (by omega) (by omega)), hh_ix (by omega), hh_ix (by omega), nI_clamp (by omega), nI_clamp (by omega), ea.2.1, eb.2.1]
        have : nI a.1.2 = nI b.1.2 ↔ a.1.2 = b.1.2 := nI_eq (by omega) (by omega)
        by_cases z : a.1.2 = b.1.2
        · rw [if_pos z, if_pos (this.mpr z)]
        · rw [if_neg z, if_neg (fun y => z (this.mp y))]
      show ((∀ c, l[j]? = some c → ¬ ye_same B a c) → jb_Checker_checkExports_125 fu (jb_Checker_checkExports_10 fu n) (m + 1) (nI k) (nI j) u = _) ∧ (¬ (∀ c, l[j]? = some c → ¬ ye_same B a c) → jb_Checker_checkExports_125 fu (jb_Checker_checkExports_10 fu n) (m + 1) (nI k) (nI j) u = _)
      rw [hP, hstp]
      by_cases z : a.1.2 = b.1.2
      · rw [if_pos z]
        obtain ⟨s1, s2⟩ := hh_sameName (fu := fu) hfu (by omega) (by omega) ea eb b1 hbb.1 hB z
        by_cases hs : ye_same B a b
        · rw [s1 hs, ys_seq, if_neg (show ¬ (1 : Int32) = 0 by decide), e162']
          exact ⟨fun h => absurd hs h, fun _ => rfl⟩
        · rw [s2 hs, ys_seq, if_pos rfl, e162]
          exact ⟨fun _ => rfl, fun h => absurd hs h⟩
      · rw [if_neg z, e162]
        exact ⟨fun _ => rfl, fun h => absurd (fun hs => z hs.1) h⟩
/-- names as the reference notes them -/
def yn_m (l : List ((Nat × Nat) × Nat × Nat)) (n : Nat) (v : xk_St) : Prop := ∀ (j : Nat) b, j < n → l[j]? = some b → v.2.2.1 16 j = nI b.1.1 ∧ v.2.2.1 17 j = nI b.1.2 ∧ b.1.1 + b.1.2 ≤ 8192
/-- whether a name is there before, by the reference -/
theorem mm_again {l : List ((Nat × Nat) × Nat × Nat)} {k : Nat} {a : (Nat × Nat) × Nat × Nat} (hfu : 8200 ≤ fu) (hk : k < 64) (hN : yn_m l (k + 1) u) (ha : l[k]? = some a) (hB : u.2.2.1 1 = B) :
    ((∀ (j : Nat) b, j < k → l[j]? = some b → ¬ ye_same B a b) → fm_Model_isNameAgain fu (nI k) u = some (0, u)) ∧ (¬ (∀ (j : Nat) b, j < k → l[j]? = some b → ¬ ye_same B a b) → fm_Model_isNameAgain fu (nI k) u = some (1, u)) := by
  obtain ⟨a1, a2, a3⟩ := hN k a (by omega) ha
  have hkl := yl_lt ha
  unfold fm_Model_isNameAgain
  have := yb_all (N := k) (fun j => ∀ b, l[j]? = some b → ¬ ye_same B a b) (fun m j => jb_Model_isNameAgain_4 fu (m + 1) (nI k) 0 (nI j) u) (some (0, u)) (some (1, u)) (fun m => ?_) (fun m j hj => ?_) k 0 (fu - 1) (by omega) (by omega)
  · rw [show fu - 1 + 1 = fu by omega] at this
    have t1 : (∀ j, 0 ≤ j → j < k → ∀ b, l[j]? = some b → ¬ ye_same B a b) → jb_Model_isNameAgain_4 fu fu (nI k) 0 0 u = some (0, u) := this.1
    have t2 : (∃ j, 0 ≤ j ∧ j < k ∧ ¬ ∀ b, l[j]? = some b → ¬ ye_same B a b) → jb_Model_isNameAgain_4 fu fu (nI k) 0 0 u = some (1, u) := this.2
    exact ⟨fun h => t1 fun j _ hj b hb => h j b hj hb, fun h => t2 (Classical.byContradiction fun hno => h fun j b hj hb hs => hno ⟨j, Nat.zero_le _, hj, fun y => y b hb hs⟩)⟩
  · show jb_Model_isNameAgain_4 fu (m + 1 + 1) (nI k) 0 (nI k) u = _
    unfold jb_Model_isNameAgain_4
    simp only [xs_let, if_true, true_or]
    rw [if_pos (Int32.le_refl _)]
  · obtain ⟨b, hbj⟩ := yl_get (l := l) (k := j) (by omega)
    obtain ⟨b1, b2, b3⟩ := hN j b (by omega) hbj
    have hP : (∀ c, l[j]? = some c → ¬ ye_same B a c) ↔ ¬ ye_same B a b := ⟨fun h => h b hbj, fun h c hc => by rw [hbj] at hc; cases hc; exact h⟩
    -- again is set: it ends
    have hend : ∀ j, jb_Model_isNameAgain_4 fu (m + 1) (nI k) 1 (nI j) u = some (1, u) := fun j => by
      unfold jb_Model_isNameAgain_4
      simp only [xs_let, if_true, or_true]
      rw [if_neg (show ¬ (1 : Int32) = 0 by decide)]
      split <;> rfl
    have h37_0 : jb_Model_isNameAgain_37 fu (jb_Model_isNameAgain_4 fu (m + 1)) fu (nI k) 0 (nI j) 0 u = jb_Model_isNameAgain_4 fu (m + 1) (nI k) 0 (nI (j + 1)) u := by
      obtain ⟨f, hf⟩ : ∃ n, fu = n + 1 := ⟨fu - 1, by omega⟩
      conv => lhs; arg 3; rw [hf]
      unfold jb_Model_isNameAgain_37 jb_Model_isNameAgain_95
      simp only [xs_let, if_true]
      rw [ie64 (by omega), nI_1]
      split <;> rfl
    have h37 := yb_all (N := a.1.2) (fun i => B (b.1.1 + i) = B (a.1.1 + i)) (fun n i => jb_Model_isNameAgain_37 fu (jb_Model_isNameAgain_4 fu (m + 1)) (n + 1) (nI k) 1 (nI j) (nI i) u) (jb_Model_isNameAgain_4 fu (m + 1) (nI k) 1 (nI (j + 1)) u) (jb_Model_isNameAgain_4 fu (m + 1) (nI k) 0 (nI (j + 1)) u)
    have hstp : jb_Model_isNameAgain_4 fu (m + 1 + 1) (nI k) 0 (nI j) u = if a.1.2 = b.1.2 then jb_Model_isNameAgain_37 fu (jb_Model_isNameAgain_4 fu (m + 1)) fu (nI k) 1 (nI j) 0 u else jb_Model_isNameAgain_37 fu (jb_Model_isNameAgain_4 fu (m + 1)) fu (nI k) 0 (nI j) 0 u := by
      conv => lhs; unfold jb_Model_isNameAgain_4
      unfold jb_Model_isNameAgain_33
      simp only [xs_let, if_true]
      rw [if_neg (nI_ge (by omega) (by omega)), ie64 (by omega), ie64 (by omega), nI_clamp (by omega), nI_clamp (by omega), a2, b2]
      have : nI b.1.2 = nI a.1.2 ↔ a.1.2 = b.1.2 := (nI_eq (by omega) (by omega)).trans eq_comm
      by_cases z : a.1.2 = b.1.2
      · rw [if_pos z, if_pos (this.mpr z)]
      · rw [if_neg z, if_neg (fun y => z (this.mp y))]
    show ((∀ c, l[j]? = some c → ¬ ye_same B a c) → jb_Model_isNameAgain_4 fu (m + 1 + 1) (nI k) 0 (nI j) u = jb_Model_isNameAgain_4 fu (m + 1) (nI k) 0 (nI (j + 1)) u) ∧ (¬ (∀ c, l[j]? = some c → ¬ ye_same B a c) → jb_Model_isNameAgain_4 fu (m + 1 + 1) (nI k) 0 (nI j) u = some (1, u))
    rw [hP, hstp]
    by_cases z : a.1.2 = b.1.2
    · rw [if_pos z]
      have h37' := h37 (fun n => ?_) (fun n i hi => ?_) a.1.2 0 (fu - 1) (by omega) (by omega)
      · rw [show fu - 1 + 1 = fu by omega] at h37'
        have t1 : (∀ i, 0 ≤ i → i < a.1.2 → B (b.1.1 + i) = B (a.1.1 + i)) → jb_Model_isNameAgain_37 fu (jb_Model_isNameAgain_4 fu (m + 1)) fu (nI k) 1 (nI j) 0 u = jb_Model_isNameAgain_4 fu (m + 1) (nI k) 1 (nI (j + 1)) u := h37'.1
        have t2 : (∃ i, 0 ≤ i ∧ i < a.1.2 ∧ ¬ B (b.1.1 + i) = B (a.1.1 + i)) → jb_Model_isNameAgain_37 fu (jb_Model_isNameAgain_4 fu (m + 1)) fu (nI k) 1 (nI j) 0 u = jb_Model_isNameAgain_4 fu (m + 1) (nI k) 0 (nI (j + 1)) u := h37'.2
        by_cases hs : ye_same B a b
        · rw [t1 fun i _ hi => (hs.2 i hi).symm, hend]
          exact ⟨fun h => absurd hs h, fun _ => rfl⟩
        · rw [t2 (Classical.byContradiction fun hno => hs ⟨z, fun i hi => Classical.byContradiction fun hn => hno ⟨i, Nat.zero_le _, hi, fun y => hn y.symm⟩⟩)]
          exact ⟨fun _ => rfl, fun h => absurd hs h⟩
      · show jb_Model_isNameAgain_37 fu (jb_Model_isNameAgain_4 fu (m + 1)) (n + 1 + 1) (nI k) 1 (nI j) (nI a.1.2) u = _
        unfold jb_Model_isNameAgain_37 jb_Model_isNameAgain_95
        simp only [xs_let]
        rw [ie64 (by omega), nI_clamp (by omega), a2, if_pos (Int32.le_refl _), nI_1]
      · have hs1 : jb_Model_isNameAgain_37 fu (jb_Model_isNameAgain_4 fu (m + 1)) (n + 1 + 1) (nI k) 1 (nI j) (nI i) u = if B (b.1.1 + i) = B (a.1.1 + i) then jb_Model_isNameAgain_37 fu (jb_Model_isNameAgain_4 fu (m + 1)) (n + 1) (nI k) 1 (nI j) (nI (i + 1)) u else jb_Model_isNameAgain_37 fu (jb_Model_isNameAgain_4 fu (m + 1)) (n + 1) (nI k) 0 (nI j) (nI (i + 1)) u := by
          conv => lhs; unfold jb_Model_isNameAgain_37
          unfold jb_Model_isNameAgain_88
          simp only [xs_let]
          rw [ie64 (by omega), nI_clamp (by omega), a2, if_neg (nI_ge (by omega) (by omega)), if_neg (show ¬ (1 : Int32) = 0 by decide), ie64 (by omega), nI_clamp (by omega), b1, nI_add, if_neg (nI_in (N := 8192) (by omega) (by decide)), if_neg (show ¬ (nI k < 0 ∨ 64 ≤ k) from fun y => y.elim (nI_pos (by omega)) (by omega)), a1, nI_add, if_neg (nI_in (N := 8192) (by omega) (by decide)), nI_clamp (by omega), nI_clamp (by omega), hB, nI_1]
        refine ⟨fun h => hs1.trans (if_pos h), fun h => (hs1.trans (if_neg h)).trans ?_⟩
        unfold jb_Model_isNameAgain_37 jb_Model_isNameAgain_95
        simp only [xs_let, if_true]
        rw [ie64 (by omega), nI_1]
        split <;> rfl
    · rw [if_neg z, h37_0]
      exact ⟨fun _ => rfl, fun h => absurd (fun hs => z hs.1) h⟩
end
