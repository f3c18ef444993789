section
variable {α β γ δ σ τ : Type} {u v w u0 u1 : xk_St} {g : Nat → Nat} {T : List (Nat × List Nat × List Nat)} {F : List Nat} {G : List (Nat × Nat × Nat × Int64)} {L : List Nat} {n fu tc mc : Nat} {Q Q' : List sFr}
theorem ye1_98 {i : (Option Nat ⊕ Int64) × Int64 × Nat × List Nat} {ns : Nat} : ye_1 98 i ns = nI (yb_h i.1) := by unfold ye_1; rw [if_pos rfl]
theorem ye1_114 {i : (Option Nat ⊕ Int64) × Int64 × Nat × List Nat} {ns : Nat} : ye_1 114 i ns = nI ns := by unfold ye_1; rw [if_neg (by decide), if_pos rfl]
theorem ye1_116 {i : (Option Nat ⊕ Int64) × Int64 × Nat × List Nat} {ns : Nat} : ye_1 116 i ns = nI (yv_t (yx_n i.1)) := by unfold ye_1; rw [if_neg (by decide), if_neg (by decide), if_pos rfl]
theorem ye1_117 {i : (Option Nat ⊕ Int64) × Int64 × Nat × List Nat} {ns : Nat} : ye_1 117 i ns = nI (yn_c (yx_n i.1)) := by unfold ye_1; rw [if_neg (by decide), if_neg (by decide), if_neg (by decide), if_pos (Or.inl rfl)]
theorem ye1_119 {i : (Option Nat ⊕ Int64) × Int64 × Nat × List Nat} {ns : Nat} : ye_1 119 i ns = nI (yn_c (yx_n i.1)) := by unfold ye_1; rw [if_neg (by decide), if_neg (by decide), if_neg (by decide), if_pos (Or.inr rfl)]
theorem ye2_114 {i : (Option Nat ⊕ Int64) × Int64 × Nat × List Nat} : ye_2 114 i = lN i.2.2.2.length := by unfold ye_2; rw [if_neg (by decide), if_pos rfl]
theorem ye2_117 {i : (Option Nat ⊕ Int64) × Int64 × Nat × List Nat} : ye_2 117 i = 0 := by unfold ye_2; rw [if_neg (by decide), if_neg (by decide), if_neg (by decide)]
theorem ye2_119 {i : (Option Nat ⊕ Int64) × Int64 × Nat × List Nat} : ye_2 119 i = i.2.1 := by unfold ye_2; rw [if_neg (by decide), if_neg (by decide), if_pos rfl]
theorem sPo_H {i : sIn} {k : Nat} {o : Option ((Unit ⊕ Nat) × xk_St)} {s : Option (List sFr)} {I : List sFr → Unit → xk_St → Prop} (h : HC o s (HJ I)) (hm : ∀ Q' v, s = some Q' → I Q' () v → sH T Q' v ∧ sPo i k Q u v) : HC (xs_try o fun _ v => some (.inl (), v)) s (sPJ T i k Q u) := HC_fin h fun a _ v e hI => hm a v e hI
theorem sPo_O {i : sIn} {k : Nat} (h : sOfr k u v) (hb : i.1 = 2 ∨ i.1 = 3 ∨ i.1 = 4) : sPo i k Q u v := by
  refine ⟨yf_mono h.1 (by decide), fun j hj => ⟨by rw [h.1.2.2.1 9 (by decide)], (h.2 j hj).1, (h.2 j hj).2⟩, fun _ => h.1.2.2.1 11 (by decide), fun _ => h.1.2.2.1 9 (by decide), fun h => by omega, fun h => absurd hb h, fun h => by omega⟩
/-- the instructions that lead to and fro, by the class -/
theorem hi_control {k p : Nat} {i : sIn} {ol : List (Nat × Option Nat)} (hfu : 8400 ≤ fu) (he : yCe T u) (h : sH T Q u) (hQ : ¬ Q = []) (hk : k < 8192) (hi : yg_ins i) (hent : yk_ent u ol k i) (hne : ∀ f, f ∈ Q → ¬ f.1.1 = k) (h16 : i.1 < 16)
    (hm5 : i.1 = 5 → ∀ f r, Q = f :: r → f.2.1 = 4) (hm : i.1 = 11 → ∀ f r, Q = f :: r → f.2.1 = 4 ∨ f.2.1 = 5 → ∃ m, u.2.2.1 9 f.1.1 = nI m ∧ m < 8192 ∧ u.2.2.1 7 m = nI (if f.2.1 = 4 then 11 else 5)) :
    HC (fm_Checker_checkInstruction fu (nI k) u) (sq_step T F tc mc G L k p i Q) (sPJ T i k Q u) := by
  obtain ⟨a1, a2, ⟨ns, m, a3, a4, a5, a6⟩, a7, a8⟩ := hent
  obtain ⟨op, t, x, np, l⟩ := i
  have h16 : op < 16 := h16
  obtain ⟨g1, g2, g3, g98, g114, g116, g117, g119⟩ := hi
  have g2 : ¬ xt_S op = 45 := g2
  have g3 : ¬ xt_S op = 33 := g3
  have hops : ∀ o, o < 16 → ¬ xt_S o = 33 → o = 0 ∨ o = 1 ∨ o = 2 ∨ o = 3 ∨ o = 4 ∨ o = 5 ∨ o = 11 ∨ o = 12 ∨ o = 13 ∨ o = 14 ∨ o = 15 := by decide +kernel
  have hK := sK_0 he h hQ
  have hkk : ¬ (nI k < 0 ∨ 8192 ≤ k) := fun y => y.elim (nI_pos (by omega)) (by omega)
  have ctl : ∀ {o : Nat} {I : List sFr → Unit → xk_St → Prop} {s : Option (List sFr)} {op' : Nat}, u.2.2.1 7 k = nI o → o < 16 → HC (fm_Checker_checkControl fu (nI o) (nI k) u) s (HJ I) → (∀ Q' v, s = some Q' → I Q' () v → sH T Q' v ∧ sPo (op', t, x, np, l) k Q u v) → HC (fm_Checker_checkInstruction fu (nI k) u) s (sPJ T (op', t, x, np, l) k Q u) := fun {o I s op'} e1 e2 e3 e4 => by
    rw [hi_ctl hk e1 e2]
    exact sPo_H e3 e4
  rcases hops op h16 g3 with rfl | rfl | rfl | rfl | rfl | rfl | rfl | rfl | rfl | rfl | rfl
  · -- 0x00
    refine ctl (o := 0) (I := fun Q' _ v => sH T Q' v ∧ yf_fr [19] [] [35] [] u v) a1 (by decide) ?_ fun Q' v _ hI => ⟨hI.1, sPo_of (yf_mono hI.2 (by decide)) (by simp) (by simp)⟩
    obtain ⟨w, f1, f2, f3⟩ := hc_lose h hQ
    unfold fm_Checker_checkControl sq_step
    rw [if_pos (show nI 0 = (0 : Int32) from rfl), f1, ys_seq, if_pos rfl]
    exact HC_ok ⟨(), w, rfl, f2, f3⟩
  · -- 0x01
    refine ctl (o := 1) (I := fun Q' _ v => sH T Q' v ∧ v = u) a1 (by decide) ?_ fun Q' v _ hI => ⟨hI.1, by rw [hI.2]; exact sPo_of yf_refl (by simp) (by simp)⟩
    unfold fm_Checker_checkControl sq_step
    rw [if_neg (show ¬ nI 1 = (0 : Int32) by decide), if_pos (show nI 1 = (1 : Int32) from rfl), if_neg (show ¬ (1, t, x, np, l).1 = 0 from by show ¬ 1 = 0; decide), if_pos rfl]
    exact HC_ok ⟨(), u, rfl, h, rfl⟩
  · -- 0x02
    refine ctl (o := 2) (I := fun Q' _ v => sH T Q' v ∧ sOfr k u v) a1 (by decide) ?_ fun Q' v _ hI => ⟨hI.1, sPo_O hI.2 (Or.inl rfl)⟩
    have e8 : u.2.2.1 8 k = nI (yb_h t) := by rw [a3]; exact ye1_98
    unfold fm_Checker_checkControl sq_step jb_Checker_checkControl_113
    rw [if_neg (show ¬ nI 2 = (0 : Int32) by decide), if_neg (show ¬ nI 2 = (1 : Int32) by decide), if_pos (show nI 2 = (2 : Int32) from rfl), if_neg (show ¬ (2, t, x, np, l).1 = 0 from by show ¬ 2 = 0; decide), if_neg (show ¬ (2, t, x, np, l).1 = 1 from by show ¬ 2 = 1; decide), if_pos (Or.inl rfl)]
    exact HC_fin (hc_block (o := 2) (by omega) he e8 hk (g98 rfl) a1 (by decide) hne h hQ) fun _ _ _ _ hI => hI
  · -- 0x03
    refine ctl (o := 3) (I := fun Q' _ v => sH T Q' v ∧ sOfr k u v) a1 (by decide) ?_ fun Q' v _ hI => ⟨hI.1, sPo_O hI.2 (Or.inr (Or.inl rfl))⟩
    have e8 : u.2.2.1 8 k = nI (yb_h t) := by rw [a3]; exact ye1_98
    unfold fm_Checker_checkControl sq_step jb_Checker_checkControl_113
    rw [if_neg (show ¬ nI 3 = (0 : Int32) by decide), if_neg (show ¬ nI 3 = (1 : Int32) by decide), if_neg (show ¬ nI 3 = (2 : Int32) by decide), if_pos (show nI 3 = (3 : Int32) from rfl), if_neg (show ¬ (3, t, x, np, l).1 = 0 from by show ¬ 3 = 0; decide), if_neg (show ¬ (3, t, x, np, l).1 = 1 from by show ¬ 3 = 1; decide), if_pos (Or.inr rfl)]
    exact HC_fin (hc_block (o := 3) (by omega) he e8 hk (g98 rfl) a1 (by decide) hne h hQ) fun _ _ _ _ hI => hI
  · -- 0x04
    refine ctl (o := 4) (I := fun Q' _ v => sH T Q' v ∧ sOfr k u v) a1 (by decide) ?_ fun Q' v _ hI => ⟨hI.1, sPo_O hI.2 (Or.inr (Or.inr rfl))⟩
    have e8 : u.2.2.1 8 k = nI (yb_h t) := by rw [a3]; exact ye1_98
    unfold fm_Checker_checkControl sq_step
    rw [if_neg (show ¬ nI 4 = (0 : Int32) by decide), if_neg (show ¬ nI 4 = (1 : Int32) by decide), if_neg (show ¬ nI 4 = (2 : Int32) by decide), if_neg (show ¬ nI 4 = (3 : Int32) by decide), if_pos (show nI 4 = (4 : Int32) from rfl), if_neg (show ¬ (4, t, x, np, l).1 = 0 from by show ¬ 4 = 0; decide), if_neg (show ¬ (4, t, x, np, l).1 = 1 from by show ¬ 4 = 1; decide), if_neg (show ¬ ((4, t, x, np, l).1 = 2 ∨ (4, t, x, np, l).1 = 3) from by show ¬ (4 = 2 ∨ 4 = 3); decide), if_pos rfl]
    refine HC_try (hk_take (x := 1) hK yvw_1) fun Q1 _ v e0 h1 => ?_
    have hfr := h1.2.2.2
    refine HC_fin (hc_block (p := p) (o := 4) (by omega) h1.1 (by rw [hfr.2.2.1 8 (by decide)]; exact e8) hk (g98 rfl) (by rw [hfr.2.2.1 7 (by decide)]; exact a1) (by decide) (fun f hf => ?_) h1.2.1 h1.2.2.1) fun _ _ _ _ hI => ⟨hI.1, sOfr_t (sOfr_s hfr) hI.2⟩
    obtain ⟨f', m1, m2⟩ := sq_mem_of_map (x := (0, 0)) (sq_takeE e0) hf
    rw [← m2]
    exact hne f' m1
  · -- 0x05
    refine ctl (o := 5) (I := fun Q' _ v => sH T Q' v ∧ sLfr u v) a1 (by decide) ?_ fun Q' v _ hI => ⟨hI.1, sPo_of hI.2 (by simp) (by simp)⟩
    unfold fm_Checker_checkControl sq_step
    rw [if_neg (show ¬ nI 5 = (0 : Int32) by decide), if_neg (show ¬ nI 5 = (1 : Int32) by decide), if_neg (show ¬ nI 5 = (2 : Int32) by decide), if_neg (show ¬ nI 5 = (3 : Int32) by decide), if_neg (show ¬ nI 5 = (4 : Int32) by decide), if_pos (show nI 5 = (5 : Int32) from rfl), if_neg (show ¬ (5, t, x, np, l).1 = 0 from by show ¬ 5 = 0; decide), if_neg (show ¬ (5, t, x, np, l).1 = 1 from by show ¬ 5 = 1; decide), if_neg (show ¬ ((5, t, x, np, l).1 = 2 ∨ (5, t, x, np, l).1 = 3) from by show ¬ (5 = 2 ∨ 5 = 3); decide), if_neg (show ¬ (5, t, x, np, l).1 = 4 from by show ¬ 5 = 4; decide), if_pos rfl]
    cases Q with
    | nil => exact absurd rfl hQ
    | cons f r => exact HC_fin (hc_else (by omega) he h (hm5 rfl f r rfl)) fun _ _ _ _ hI => hI
  · -- 0x0b
    have hcl : ∀ o, o = 7 ∨ o = 11 → fm_Checker_checkControl fu (nI o) (nI k) u = xs_try (fm_Checker_close fu u) fun _ v => some (.inl (), v) := fun o ho => by
      unfold fm_Checker_checkControl jb_Checker_checkControl_141
      rcases ho with rfl | rfl
      · rw [if_neg (show ¬ nI 7 = (0 : Int32) by decide), if_neg (show ¬ nI 7 = (1 : Int32) by decide), if_neg (show ¬ nI 7 = (2 : Int32) by decide), if_neg (show ¬ nI 7 = (3 : Int32) by decide), if_neg (show ¬ nI 7 = (4 : Int32) by decide), if_neg (show ¬ nI 7 = (5 : Int32) by decide), if_neg (show ¬ nI 7 = (6 : Int32) by decide), if_pos (show nI 7 = (7 : Int32) from rfl)]
      · rw [if_neg (show ¬ nI 11 = (0 : Int32) by decide), if_neg (show ¬ nI 11 = (1 : Int32) by decide), if_neg (show ¬ nI 11 = (2 : Int32) by decide), if_neg (show ¬ nI 11 = (3 : Int32) by decide), if_neg (show ¬ nI 11 = (4 : Int32) by decide), if_neg (show ¬ nI 11 = (5 : Int32) by decide), if_neg (show ¬ nI 11 = (6 : Int32) by decide), if_neg (show ¬ nI 11 = (7 : Int32) by decide), if_neg (show ¬ nI 11 = (8 : Int32) by decide), if_neg (show ¬ nI 11 = (9 : Int32) by decide), if_neg (show ¬ nI 11 = (10 : Int32) by decide), if_pos (show nI 11 = (11 : Int32) from rfl)]
    have ho : (if ol.tail = [] then 7 else 11) = 7 ∨ (if ol.tail = [] then 7 else 11) = 11 := by split <;> simp
    have a1 : u.2.2.1 7 k = nI (if ol.tail = [] then 7 else 11) := a1
    refine ctl (o := if ol.tail = [] then 7 else 11) (I := fun Q' _ v => sH T Q' v ∧ sLfr u v) a1 (by omega) ?_ fun Q' v _ hI => ⟨hI.1, sPo_of hI.2 (by simp) (by simp)⟩
    rw [hcl _ ho]
    unfold sq_step
    rw [if_neg (show ¬ (11, t, x, np, l).1 = 0 from by show ¬ 11 = 0; decide), if_neg (show ¬ (11, t, x, np, l).1 = 1 from by show ¬ 11 = 1; decide), if_neg (show ¬ ((11, t, x, np, l).1 = 2 ∨ (11, t, x, np, l).1 = 3) from by show ¬ (11 = 2 ∨ 11 = 3); decide), if_neg (show ¬ (11, t, x, np, l).1 = 4 from by show ¬ 11 = 4; decide), if_neg (show ¬ (11, t, x, np, l).1 = 5 from by show ¬ 11 = 5; decide), if_pos rfl]
    cases Q with
    | nil => exact absurd rfl hQ
    | cons f r =>
      by_cases z : f.2.1 = 4 ∨ f.2.1 = 5
      · obtain ⟨m, m1, m2, m3⟩ := hm rfl f r rfl z
        exact HC_fin (hc_end (by omega) he h fun _ => ⟨m1, m2, m3⟩) fun _ _ _ _ hI => hI
      · exact HC_fin (hc_end (m := 0) (by omega) he h fun y => absurd y z) fun _ _ _ _ hI => hI
  · -- 0x0c
    have e8 : u.2.2.1 8 k = nI (yn_c (yx_n t)) := by rw [a3]; exact ye1_117
    rw [hi_ctl (o := 12) hk a1 (by decide)]
    refine sPo_B (i := (12, t, x, np, l)) ?_ (Or.inl rfl)
    unfold fm_Checker_checkControl
    rw [if_neg (show ¬ nI 12 = (0 : Int32) by decide), if_neg (show ¬ nI 12 = (1 : Int32) by decide), if_neg (show ¬ nI 12 = (2 : Int32) by decide), if_neg (show ¬ nI 12 = (3 : Int32) by decide), if_neg (show ¬ nI 12 = (4 : Int32) by decide), if_neg (show ¬ nI 12 = (5 : Int32) by decide), if_neg (show ¬ nI 12 = (6 : Int32) by decide), if_neg (show ¬ nI 12 = (7 : Int32) by decide), if_neg (show ¬ nI 12 = (8 : Int32) by decide), if_neg (show ¬ nI 12 = (9 : Int32) by decide), if_neg (show ¬ nI 12 = (10 : Int32) by decide), if_neg (show ¬ nI 12 = (11 : Int32) by decide), if_pos (show nI 12 = (12 : Int32) from rfl)]
    exact hk_br (by omega) hK hk e8
  · -- 0x0d
    have e8 : u.2.2.1 8 k = nI (yn_c (yx_n t)) := by rw [a3]; exact ye1_117
    rw [hi_ctl (o := 13) hk a1 (by decide)]
    refine sPo_B (i := (13, t, x, np, l)) ?_ (Or.inr (Or.inl rfl))
    unfold fm_Checker_checkControl
    rw [if_neg (show ¬ nI 13 = (0 : Int32) by decide), if_neg (show ¬ nI 13 = (1 : Int32) by decide), if_neg (show ¬ nI 13 = (2 : Int32) by decide), if_neg (show ¬ nI 13 = (3 : Int32) by decide), if_neg (show ¬ nI 13 = (4 : Int32) by decide), if_neg (show ¬ nI 13 = (5 : Int32) by decide), if_neg (show ¬ nI 13 = (6 : Int32) by decide), if_neg (show ¬ nI 13 = (7 : Int32) by decide), if_neg (show ¬ nI 13 = (8 : Int32) by decide), if_neg (show ¬ nI 13 = (9 : Int32) by decide), if_neg (show ¬ nI 13 = (10 : Int32) by decide), if_neg (show ¬ nI 13 = (11 : Int32) by decide), if_neg (show ¬ nI 13 = (12 : Int32) by decide), if_pos (show nI 13 = (13 : Int32) from rfl)]
    exact hk_brif (by omega) hK hk e8
  · -- 0x0e
    have e8 : u.2.2.1 8 k = nI ns := by rw [a3]; exact ye1_114
    have e2 : u.2.2.2 2 k = lN l.length := by rw [a2]; exact ye2_114
    obtain ⟨b1, b2⟩ := a6 rfl
    have b1 : ns + l.length + 1 ≤ m := b1
    rw [hi_ctl (o := 14) hk a1 (by decide)]
    refine sPo_H (T := T) (I := fun Q' _ v => sH T Q' v ∧ yf_fr [19] [] [11, 33, 35] [] u v ∧ (∀ i, i < ns ∨ ns + l.length < i → v.2.2.1 11 i = u.2.2.1 11 i) ∧ ∃ Q1, sq_take (yl_f T) 1 Q = some Q1 ∧ ∀ (i : Nat) c, (l ++ [yx_n t])[i]? = some c → ∃ f, Q1[c]? = some f ∧ v.2.2.1 11 (ns + i) = nI f.1.1) ?_ fun Q' v _ hI => ⟨hI.1, ?_⟩
    · unfold fm_Checker_checkControl
      rw [if_neg (show ¬ nI 14 = (0 : Int32) by decide), if_neg (show ¬ nI 14 = (1 : Int32) by decide), if_neg (show ¬ nI 14 = (2 : Int32) by decide), if_neg (show ¬ nI 14 = (3 : Int32) by decide), if_neg (show ¬ nI 14 = (4 : Int32) by decide), if_neg (show ¬ nI 14 = (5 : Int32) by decide), if_neg (show ¬ nI 14 = (6 : Int32) by decide), if_neg (show ¬ nI 14 = (7 : Int32) by decide), if_neg (show ¬ nI 14 = (8 : Int32) by decide), if_neg (show ¬ nI 14 = (9 : Int32) by decide), if_neg (show ¬ nI 14 = (10 : Int32) by decide), if_neg (show ¬ nI 14 = (11 : Int32) by decide), if_neg (show ¬ nI 14 = (12 : Int32) by decide), if_neg (show ¬ nI 14 = (13 : Int32) by decide), if_pos (show nI 14 = (14 : Int32) from rfl), ix8192 hk, ix8192 hk, nI_clamp (by omega), e8, e2]
      rw [show (lN l.length).toInt32 = nI l.length by rw [← nI_toL (n := l.length) (by omega)]; exact Int32.toInt32_toInt64 _]
      exact HC_fin (hc_table hfu he h hQ (by omega) b2) fun _ _ _ _ hI => hI
    · obtain ⟨-, h2, h3, Q1, h4, h5⟩ := hI
      have e9 := h2.2.2.1 9 (by decide)
      have e10 := h2.2.2.1 10 (by decide)
      have e22 := h2.2.2.2 2 (by decide)
      refine ⟨yf_mono h2 (by decide), fun j _ => by rw [e9, e10, e22]; exact ⟨rfl, rfl, rfl⟩, fun y => absurd rfl y, fun _ => e9, fun y => absurd y (by simp), fun _ => ⟨e10, e22⟩, fun _ s hs hs2 => ?_⟩
      obtain rfl : s = ns := (nI_eq (by omega) (by omega)).mp (hs.symm.trans e8)
      refine ⟨fun j c hc => ?_, h3⟩
      obtain ⟨f, f1, f2⟩ := h5 j c hc
      obtain ⟨f', q1, q2⟩ := sq_tk (ws := []) (sq_takeE h4) f1
      exact ⟨f', q1, by rw [q2]; exact f2⟩
  · -- 0x0f
    rw [hi_ctl (o := 15) hk a1 (by decide)]
    refine sPo_H (T := T) (I := fun Q' _ v => sH T Q' v ∧ ¬ Q' = [] ∧ yf_fr [19] [] [33, 35] [] u v) ?_ fun Q' v _ hI => ⟨hI.1, sPo_of (yf_mono hI.2.2 (by decide)) (by simp) (by simp)⟩
    unfold fm_Checker_checkControl
    rw [if_neg (show ¬ nI 15 = (0 : Int32) by decide), if_neg (show ¬ nI 15 = (1 : Int32) by decide), if_neg (show ¬ nI 15 = (2 : Int32) by decide), if_neg (show ¬ nI 15 = (3 : Int32) by decide), if_neg (show ¬ nI 15 = (4 : Int32) by decide), if_neg (show ¬ nI 15 = (5 : Int32) by decide), if_neg (show ¬ nI 15 = (6 : Int32) by decide), if_neg (show ¬ nI 15 = (7 : Int32) by decide), if_neg (show ¬ nI 15 = (8 : Int32) by decide), if_neg (show ¬ nI 15 = (9 : Int32) by decide), if_neg (show ¬ nI 15 = (10 : Int32) by decide), if_neg (show ¬ nI 15 = (11 : Int32) by decide), if_neg (show ¬ nI 15 = (12 : Int32) by decide), if_neg (show ¬ nI 15 = (13 : Int32) by decide), if_neg (show ¬ nI 15 = (14 : Int32) by decide), if_pos (show nI 15 = (15 : Int32) from rfl)]
    exact hk_ret (by omega) hK
end
