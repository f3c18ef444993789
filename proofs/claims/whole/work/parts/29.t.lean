section
variable {α β γ δ σ τ : Type} {u v w u0 : xk_St} {g : Nat → Nat} {T : List (Nat × List Nat × List Nat)} {n fu : Nat}
theorem mm_tgO {x : Nat} (hx : x < 150) (h16 : 16 ≤ x) : fm_Model_targetOf (nI x) v = some (nI ((x - 16) / 2), v) := by
  unfold fm_Model_targetOf
  rw [if_neg (show ¬ (2 : Int32) = 0 by decide), (mm_tg x hx h16).1]
theorem mm_same {a b : Nat} (hE : yTM T v) (ha : yvw T.length a ∧ 0 < a) (hb : yvw T.length b ∧ 0 < b) : (yfit (yl_f T) a b ∧ yfit (yl_f T) b a → fm_Model_isSame (nI a) (nI b) v = some (1, v)) ∧ (¬ (yfit (yl_f T) a b ∧ yfit (yl_f T) b a) → fm_Model_isSame (nI a) (nI b) v = some (0, v)) := by
  have h64 := hE.2.1.1
  obtain ⟨⟨a1, a2⟩, a3⟩ := ha
  obtain ⟨⟨b1, b2⟩, b3⟩ := hb
  rw [yfit_both (g := yl_f T) ⟨a3, a1⟩ ⟨b3, b1⟩]
  have ceq : nI a = nI b ↔ a = b := nI_eq (by omega) (by omega)
  have h14 : ∀ (P : Prop), (P ↔ a = b) → (P → jb_Model_isSame_14 (nI a) (nI b) v = some (1, v)) ∧ (¬ P → jb_Model_isSame_14 (nI a) (nI b) v = some (0, v)) := fun P hP => by
    unfold jb_Model_isSame_14
    by_cases z : a = b
    · rw [if_pos (ceq.mpr z)]
      exact ⟨fun _ => rfl, fun h => absurd (hP.mpr z) h⟩
    · rw [if_neg (fun y => z (ceq.mp y))]
      exact ⟨fun h => absurd (hP.mp h) z, fun _ => rfl⟩
  unfold fm_Model_isSame jb_Model_isSame_82
  rw [mm_isR a (Or.inl a1), ys_seq]
  by_cases z1 : a < 16
  · rw [if_pos z1, if_pos rfl]
    exact h14 _ ⟨fun h => by rcases h with h | h; exact h; omega, Or.inl⟩
  · rw [if_neg z1, if_neg (show ¬ (1 : Int32) = 0 by decide), mm_isR b (Or.inl b1), ys_seq]
    by_cases z2 : b < 16
    · rw [if_pos z2, if_pos rfl]
      exact h14 _ ⟨fun h => by rcases h with h | h; exact h; omega, Or.inl⟩
    · rw [if_neg z2, if_neg (show ¬ (1 : Int32) = 0 by decide), mm_tgO a1 (by omega), ys_seq, mm_tgO b1 (by omega), ys_seq, (mm_tg a a1 (by omega)).2, (mm_tg b b1 (by omega)).2]
      have cm : nI (a % 2) = nI (b % 2) ↔ a % 2 = b % 2 := nI_eq (by omega) (by omega)
      by_cases z3 : a % 2 = b % 2
      · rw [if_pos (cm.mpr z3)]
        have ct : nI ((a - 16) / 2) = nI ((b - 16) / 2) ↔ (a - 16) / 2 = (b - 16) / 2 := nI_eq (by omega) (by omega)
        by_cases z4 : (a - 16) / 2 = (b - 16) / 2
        · rw [if_pos (ct.mpr z4)]
          exact ⟨fun _ => rfl, fun h => absurd (Or.inl (by omega)) h⟩
        · rw [if_neg (fun y => z4 (ct.mp y))]
          have l2 : ∀ x, 16 ≤ x → x < 150 → (nI ((x - 16) / 2) < (2 : Int32) ↔ x < 20) := fun x h1 h2 => (nI_ltI (b := 2) (by omega) (by decide)).trans ⟨fun y => by omega, fun y => by omega⟩
          by_cases z5 : a < 20
          · rw [if_pos ((l2 a (by omega) a1).mpr z5)]
            exact ⟨fun h => by exfalso; rcases h with h | h; rw [h] at z4; exact z4 rfl; omega, fun _ => rfl⟩
          · rw [if_neg (fun y => z5 ((l2 a (by omega) a1).mp y))]
            by_cases z6 : b < 20
            · rw [if_pos ((l2 b (by omega) b1).mpr z6)]
              exact ⟨fun h => by exfalso; rcases h with h | h; rw [h] at z4; exact z4 rfl; omega, fun _ => rfl⟩
            · rw [if_neg (fun y => z6 ((l2 b (by omega) b1).mp y))]
              have hs : ∀ x, 20 ≤ x → nI ((x - 16) / 2) - 2 = nI ((x - 20) / 2) := fun x h1 => by
                have := nI_sub2 (a := (x - 20) / 2)
                rw [show (x - 20) / 2 + 2 = (x - 16) / 2 by omega] at this
                exact this
              have hta : (a - 20) / 2 < T.length := by omega
              have htb : (b - 20) / 2 < T.length := by omega
              rw [hs a (by omega), hs b (by omega), if_neg (nI_in (N := 64) (by omega) (by decide)), if_neg (nI_in (N := 64) (by omega) (by decide)), nI_clamp (by omega), nI_clamp (by omega), hE.2.2.2 _ hta, hE.2.2.2 _ htb]
              have la := yl_fle (yTM_ah hE) ((a - 20) / 2)
              have lb := yl_fle (yTM_ah hE) ((b - 20) / 2)
              have cg : nI (yl_f T ((a - 20) / 2)) = nI (yl_f T ((b - 20) / 2)) ↔ yl_f T ((a - 20) / 2) = yl_f T ((b - 20) / 2) := nI_eq (by omega) (by omega)
              by_cases z7 : yl_f T ((a - 20) / 2) = yl_f T ((b - 20) / 2)
              · rw [if_pos (cg.mpr z7)]
                exact ⟨fun _ => rfl, fun h => absurd (Or.inr ⟨by omega, by omega, z3, by omega, by omega, z7⟩) h⟩
              · rw [if_neg (fun y => z7 (cg.mp y))]
                exact ⟨fun h => by exfalso; rcases h with h | h; rw [h] at z4; exact z4 rfl; exact z7 h.2.2.2.2.2, fun _ => rfl⟩
      · rw [if_neg (fun y => z3 (cm.mp y))]
        exact ⟨fun h => by exfalso; rcases h with h | h; rw [h] at z3; exact z3 rfl; exact z3 h.2.2.1, fun _ => rfl⟩
end
