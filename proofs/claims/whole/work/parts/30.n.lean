section
variable {α β γ δ σ τ : Type} {B : Nat → Int32} {u v w x u0 : xk_St} {T : List (Nat × List Nat × List Nat)} {F : List Nat} {n fu lim p q len f D k : Nat} {z : Nat → Nat} {S : Nat → Option (Nat × Nat)} {l4 l5 : List (Nat × Option Nat)} {l6 : List (Nat × Nat × Nat × Int64)} {l7 : List ((Nat × Nat) × Nat × Nat)} {n8 : Option Nat} {l9 : List (Int64 × List Nat)} {l10 : List sBo} {l11 : List (Int64 × Nat × Nat)}
/-- a global's type and whether it can be set -/
theorem yp_gloG (hX : yX B (yp_glo B) (S 6) l6) (k : Nat) (a : Nat × Nat × Nat × Int64) (ha : l6[k]? = some a) : (0 < a.1 ∧ a.1 < 150 ∧ (a.1 = 1 ∨ a.1 = 2 ∨ 16 ≤ a.1)) ∧ a.2.1 ≤ 1 := by
  refine yX_all (Q := fun a : Nat × Nat × Nat × Int64 => (0 < a.1 ∧ a.1 < 150 ∧ (a.1 = 1 ∨ a.1 = 2 ∨ 16 ≤ a.1)) ∧ a.2.1 ≤ 1) (fun lim p a q _ h => ?_) hX k a ha
  obtain ⟨c, q1, h1, h⟩ := yp_thenI h
  obtain ⟨f, q2, h2, h⟩ := yp_thenI h
  obtain ⟨b, q3, h3, h⟩ := yp_thenI h
  cases h
  have := yp_Vb h1
  exact ⟨⟨this.1, by show c < 150; omega, yp_Vc h1⟩, (yp_fb h2).1⟩
theorem mEn_of (hX : yX B (yp_glo B) (S 6) l6) (hV : yVq B T F l4 l5 l6 l7 n8 l9) (h : yEM T F l4 l5 l6 l7 n8 v) : mEn T F l4.length l5.length l6 v := by
  obtain ⟨a1, a2, a3, a4, a5, a6, a7⟩ := h
  obtain ⟨v1, v2, v3, v4, v5, v6, v7, v8⟩ := hV
  refine ⟨a2.1, v2.1, fun k t hk => ⟨a2.2 k t hk, v2.2 k t hk⟩, ⟨a3.1, v3.1⟩, ⟨a4.1, v4.1⟩, a5.1, v5.1, fun k a ha => ?_⟩
  obtain ⟨b1, b2, b3⟩ := a5.2 k a ha
  obtain ⟨⟨g1, g2, g3⟩, g4⟩ := yp_gloG hX k a ha
  obtain ⟨w1, w2, w3⟩ := yv_inS g1 g2 g3 (v5.2 k a ha).1
  exact ⟨b1, b2, g4, w1, w2⟩
/-- all is as it must be -/
def yVz (B : Nat → Int32) (T : List (Nat × List Nat × List Nat)) (F : List Nat) (l4 l5 : List (Nat × Option Nat)) (l6 : List (Nat × Nat × Nat × Int64)) (l7 : List ((Nat × Nat) × Nat × Nat)) (n8 : Option Nat) (l9 : List (Int64 × List Nat)) (l10 : List sBo) (l11 : List (Int64 × Nat × Nat)) (z : Nat → Nat) : Prop :=
  yVq B T F l4 l5 l6 l7 n8 l9 ∧ (l10.length = F.length ∧ ∀ (j : Nat) a, l10[j]? = some a → yv_bd T F l4.length l5.length l6 z j a) ∧ (l11.length ≤ 64 ∧ (l11.length = 0 ∨ l5.length = 1))
theorem yVz_p : yVz B T F l4 l5 l6 l7 n8 l9 l10 l11 z ↔ yVp B T F l4 l5 l6 l7 n8 l9 l10.length l11 ∧ ∀ (j : Nat) a, l10[j]? = some a → yv_bd T F l4.length l5.length l6 z j a := by
  unfold yVz yVq yVp
  constructor
  · rintro ⟨⟨a1, a2, a3, a4, a5, a6, a7, a8⟩, ⟨b1, b2⟩, c⟩
    exact ⟨⟨a1, a2, a3, a4, a5, a6, a7, a8, b1, c⟩, b2⟩
  · rintro ⟨⟨a1, a2, a3, a4, a5, a6, a7, a8, b1, c⟩, b2⟩
    exact ⟨⟨a1, a2, a3, a4, a5, a6, a7, a8⟩, ⟨b1, b2⟩, c⟩
abbrev yTDf (u v : xk_St) : Prop := yf_fr [4, 5, 6, 7, 8, 9, 10, 11, 12, 13, 14, 15, 16, 17, 18, 19, 20, 21, 22, 23, 24] [0, 1] [4, 5, 6, 7, 8, 9, 10, 11, 12, 13, 14, 15, 16, 17, 18, 19, 20, 21, 22, 23, 24, 25, 26] [1, 2] u v
theorem yEM_fr {I J A C : List Nat} (h : yEM T F l4 l5 l6 l7 n8 v) (hf : yf_fr I J A C v w) (hd : (yf_no [12, 13, 14, 15, 16, 17, 18, 19, 20, 24] I && yf_no [4, 5, 6, 7, 8, 9, 14, 15, 16, 17, 18, 19] A && yf_no [2] C) = true) : yEM T F l4 l5 l6 l7 n8 w := by
  have hd' := Bool.and_eq_true_iff.mp hd
  have hd1 := Bool.and_eq_true_iff.mp hd'.1
  have hI := fun k hk => hf.1 k (yf_nok hd1.1 hk)
  have hA := fun k hk => hf.2.2.1 k (yf_nok hd1.2 hk)
  obtain ⟨a1, a2, a3, a4, a5, a6, a7⟩ := h
  refine ⟨?_, ?_, ?_, ?_, ?_, ?_, ?_⟩
  · obtain ⟨h1, h2, h3, h4⟩ := a1
    refine ⟨(hI 12 (by simp)).trans h1, h2, fun j d hj hd2 => ?_, fun i hi => ?_⟩
    · have := h3 j d hj hd2
      exact ⟨yTyS this.1 (hA 4 (by simp)) (hA 5 (by simp)) (hA 6 (by simp)) (hA 7 (by simp)), this.2⟩
    · rw [hA 8 (by simp)]; exact h4 i hi
  · rw [hI 13 (by simp), hA 9 (by simp)]; exact a2
  · rw [hI 14 (by simp), hI 24 (by simp)]; exact a3
  · rw [hI 15 (by simp), hI 16 (by simp), hI 17 (by simp)]; exact a4
  · rw [hI 18 (by simp), hA 14 (by simp), hA 15 (by simp), hf.2.2.2 2 (yf_nok hd'.2 (by simp))]; exact a5
  · rw [hI 19 (by simp), hA 18 (by simp), hA 19 (by simp)]
    refine ⟨a6.1, ?_, a6.2.2⟩
    have := a6.2.1
    unfold yn_m at this ⊢
    simp only [hA 16 (by simp), hA 17 (by simp)]
    exact this
  · rw [hI 20 (by simp)]; exact a7
/-- the module is taken down, by the reference -/
theorem mm_td (hfu : 8400 ≤ fu) (hM : yMod D B S T F l4 l5 l6 l7 n8 l9 l10 l11) (hB : yB B len S u) :
    (yVz B T F l4 l5 l6 l7 n8 l9 l10 l11 z → ∃ v, fm_Model_takeDown fu u = some ((), v) ∧ v.1 7 = 0 ∧ yB B len S v ∧ yEM T F l4 l5 l6 l7 n8 v ∧ (∀ (j : Nat) a, l10[j]? = some a → mBd D B T F l4.length l5.length l6 z j a v) ∧ yTDf u v) ∧ (¬ yVz B T F l4 l5 l6 l7 n8 l9 l10 l11 z → ∃ v, fm_Model_takeDown fu u = some ((), v) ∧ v.1 7 = 1 ∧ yTDf u v) := by
  obtain ⟨A1, A2⟩ := mm_tdA (fu := fu) (by omega) hM hB
  obtain ⟨m1, m3, m4, m5, m6, m7, m8, m9, m10, m11⟩ := hM
  by_cases zq : yVq B T F l4 l5 l6 l7 n8 l9
  · obtain ⟨v, e1, v7, vB, vE, vf⟩ := A1 zq
    have hEn := mEn_of m6 zq vE
    obtain ⟨w, w1, w2, w3, w4⟩ := mc_row (fu := fu) (z := z) hfu m10 vB vE.1 hEn v7
    have hl5 := zq.2.2.2.1.1
    have hvw : yTDf u w := yf_trans (yf_mono vf (by decide)) (yf_mono w2 (by decide))
    rw [e1]
    unfold jb_Model_takeDown_177 jb_Model_takeDown_188
    rw [if_pos v7, w1, ys_seq]
    rcases w4 with ⟨c1, c2, c3⟩ | ⟨c1, c2⟩
    · rw [if_pos c2]
      have wB := yB_fr vB w2 (by decide) w3
      have wE := yEM_fr vE w2 (by decide)
      obtain ⟨y, y1, y2, y3⟩ := mm_data (fu := fu) (nm := l5.length) (by omega) m11 wB c2 wE.2.2.2.1.1 hl5
      rw [y1, ys_seq]
      rcases y3 with ⟨d1, d2⟩ | ⟨d1, d2⟩
      · refine ⟨fun _ => ⟨y, rfl, d2, yB_fr wB y2 (by decide) ((y2.1 6 (by decide)).trans w3), yEM_fr wE y2 (by decide), fun j a ha => ?_, yf_trans hvw (yf_mono y2 (by decide))⟩, fun h => absurd ⟨zq, c1, d1⟩ h⟩
        refine mBd_k (c3 j a ha) (y2.1 3 (by decide)) ?_ ?_ ?_ (fun i _ _ => ?_) fun i _ _ => ⟨?_, ?_⟩
        · rw [y2.2.2.1 10 (by decide)]
        · rw [y2.2.2.1 11 (by decide)]
        · rw [y2.2.2.1 12 (by decide)]
        · rw [y2.2.2.1 13 (by decide)]
        · rw [y2.2.2.1 20 (by decide)]
        · rw [y2.2.2.1 21 (by decide)]
      · exact ⟨fun h => absurd h.2.2 d1, fun _ => ⟨y, rfl, d2, yf_trans hvw (yf_mono y2 (by decide))⟩⟩
    · rw [if_neg (show ¬ w.1 7 = 0 by rw [c2]; decide)]
      exact ⟨fun h => absurd h.2.1 c1, fun _ => ⟨w, rfl, c2, hvw⟩⟩
  · obtain ⟨v, e1, v7, vf⟩ := A2 zq
    rw [e1]
    exact ⟨fun h => absurd h.1 zq, fun _ => ⟨v, rfl, v7, yf_mono vf (by decide)⟩⟩
end
