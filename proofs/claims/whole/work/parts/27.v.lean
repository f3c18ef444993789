section
variable {α β γ δ : Type} {B : Nat → Int32} {u v w : xk_St} {L lim p q fu D len : Nat} {e : Int32} {S : Nat → Option (Nat × Nat)} {g : Nat → Nat}
variable {T : List (Nat × List Nat × List Nat)} {F : List Nat} {l4 l5 : List (Nat × Option Nat)} {l6 : List (Nat × Nat × Nat × Int64)} {l7 : List ((Nat × Nat) × Nat × Nat)} {n8 : Option Nat} {l9 : List (Int64 × List Nat)} {l10 : List (Nat × List (Nat × Nat) × List (Nat × Nat × (Option Nat ⊕ Int64) × Int64 × Nat × List Nat))} {l11 : List (Int64 × Nat × Nat)}
/-- the parts as the reference has them -/
def yEM (T : List (Nat × List Nat × List Nat)) (F : List Nat) (l4 l5 : List (Nat × Option Nat)) (l6 : List (Nat × Nat × Nat × Int64)) (l7 : List ((Nat × Nat) × Nat × Nat)) (n8 : Option Nat) (v : xk_St) : Prop :=
  yTM T v ∧ (v.1 13 = nI F.length ∧ ∀ (k : Nat) t, F[k]? = some t → v.2.2.1 9 k = nI t) ∧ (v.1 14 = nI l4.length ∧ v.1 24 = nI (yc_least l4)) ∧ (v.1 15 = nI l5.length ∧ v.1 16 = nI (yc_least l5) ∧ v.1 17 = nI (yc_most l5)) ∧ (v.1 18 = nI l6.length ∧ ∀ (k : Nat) a, l6[k]? = some a → v.2.2.1 14 k = nI a.1 ∧ v.2.2.1 15 k = nI a.2.1 ∧ v.2.2.2 2 k = if a.1 < 16 then a.2.2.2 else 0) ∧ (v.1 19 = nI l7.length ∧ yn_m l7 l7.length v ∧ ∀ (k : Nat) a, l7[k]? = some a → v.2.2.1 18 k = nI a.2.1 ∧ v.2.2.1 19 k = nI a.2.2) ∧ v.1 20 = yst_m n8
/-- all is as it must be, but for the bodies and data -/
def yVq (B : Nat → Int32) (T : List (Nat × List Nat × List Nat)) (F : List Nat) (l4 l5 : List (Nat × Option Nat)) (l6 : List (Nat × Nat × Nat × Int64)) (l7 : List ((Nat × Nat) × Nat × Nat)) (n8 : Option Nat) (l9 : List (Int64 × List Nat)) : Prop :=
  yV1 T ∧ (F.length ≤ 64 ∧ ∀ (k : Nat) t, F[k]? = some t → yv_fn T t) ∧ yv_lim 64 l4 ∧ yv_lim 16 l5 ∧ (l6.length ≤ 64 ∧ ∀ (k : Nat) a, l6[k]? = some a → yv_glo T a) ∧ (l7.length ≤ 64 ∧ ∀ (k : Nat) a, l7[k]? = some a → yv_exp B l7 F.length l4.length l5.length l6.length k a) ∧ yv_first T F n8 ∧ yv_el F.length l4.length l9
def yTDfr (u v : xk_St) : Prop := yf_fr [4, 5, 6, 7, 12, 13, 14, 15, 16, 17, 18, 19, 20, 24] [0, 1] [4, 5, 6, 7, 8, 9, 14, 15, 16, 17, 18, 19] [2] u v
theorem mx_133t (h7 : u.1 7 = 1) : jb_Model_takeDown_133 fu u = some ((), u) := by
  have h0 : ¬ u.1 7 = 0 := by rw [h7]; decide
  unfold jb_Model_takeDown_133 jb_Model_takeDown_144 jb_Model_takeDown_155 jb_Model_takeDown_166 jb_Model_takeDown_177 jb_Model_takeDown_188
  simp only [if_neg h0]
theorem mx_144t (h7 : u.1 7 = 1) : jb_Model_takeDown_144 fu u = some ((), u) := by
  have h0 : ¬ u.1 7 = 0 := by rw [h7]; decide
  unfold jb_Model_takeDown_144 jb_Model_takeDown_155 jb_Model_takeDown_166 jb_Model_takeDown_177 jb_Model_takeDown_188
  simp only [if_neg h0]
theorem mx_155t (h7 : u.1 7 = 1) : jb_Model_takeDown_155 fu u = some ((), u) := by
  have h0 : ¬ u.1 7 = 0 := by rw [h7]; decide
  unfold jb_Model_takeDown_155 jb_Model_takeDown_166 jb_Model_takeDown_177 jb_Model_takeDown_188
  simp only [if_neg h0]
theorem mx_166t (h7 : u.1 7 = 1) : jb_Model_takeDown_166 fu u = some ((), u) := by
  have h0 : ¬ u.1 7 = 0 := by rw [h7]; decide
  unfold jb_Model_takeDown_166 jb_Model_takeDown_177 jb_Model_takeDown_188
  simp only [if_neg h0]
theorem mx_177t (h7 : u.1 7 = 1) : jb_Model_takeDown_177 fu u = some ((), u) := by
  have h0 : ¬ u.1 7 = 0 := by rw [h7]; decide
  unfold jb_Model_takeDown_177 jb_Model_takeDown_188
  simp only [if_neg h0]
theorem mx_188t (h7 : u.1 7 = 1) : jb_Model_takeDown_188 fu u = some ((), u) := by
  have h0 : ¬ u.1 7 = 0 := by rw [h7]; decide
  unfold jb_Model_takeDown_188
  simp only [if_neg h0]
/-- the reference takes the module down, as far as the bodies -/
theorem mm_tdA (hfu : 8200 ≤ fu) (hM : yMod D B S T F l4 l5 l6 l7 n8 l9 l10 l11) (hB : yB B len S u) :
    (yVq B T F l4 l5 l6 l7 n8 l9 → ∃ v, fm_Model_takeDown fu u = jb_Model_takeDown_177 fu v ∧ v.1 7 = 0 ∧ yB B len S v ∧ yEM T F l4 l5 l6 l7 n8 v ∧ yTDfr u v) ∧ (¬ yVq B T F l4 l5 l6 l7 n8 l9 → ∃ v, fm_Model_takeDown fu u = some ((), v) ∧ v.1 7 = 1 ∧ yTDfr u v) := by
  obtain ⟨m1, m3, m4, m5, m6, m7, m8, m9, m10, m11⟩ := hM
  have bad : ∀ {w : xk_St} {o : Option (Unit × xk_St)}, ¬ yVq B T F l4 l5 l6 l7 n8 l9 → fm_Model_takeDown fu u = some ((), w) → w.1 7 = 1 → yTDfr u w → (yVq B T F l4 l5 l6 l7 n8 l9 → ∃ v, fm_Model_takeDown fu u = jb_Model_takeDown_177 fu v ∧ v.1 7 = 0 ∧ yB B len S v ∧ yEM T F l4 l5 l6 l7 n8 v ∧ yTDfr u v) ∧ (¬ yVq B T F l4 l5 l6 l7 n8 l9 → ∃ v, fm_Model_takeDown fu u = some ((), v) ∧ v.1 7 = 1 ∧ yTDfr u v) := fun h1 h2 h3 h4 => ⟨fun z => absurd z h1, fun _ => ⟨_, h2, h3, h4⟩⟩
  -- types
  obtain ⟨v1, e1, s1, f1, c1⟩ := mm_td1 (fu := fu) (by omega) m1 hB
  have g1 : yTDfr u v1 := yf_mono f1 (by decide)
  have B1 : yB B len S v1 := yB_fr hB f1 (by decide) s1
  rcases c1 with ⟨V1, w1, t12, tm, tl⟩ | ⟨V1, w1⟩
  · have TM1 : yTM T v1 := ⟨t12, V1, tm, tl⟩
    -- functions
    obtain ⟨v2, e2, s2, f2, c2⟩ := mm_td2 (fu := fu) (T := T) (by omega) m3 B1 w1 V1.1 t12 (yTM_K TM1)
    have g2 : yTDfr u v2 := yf_trans g1 (yf_mono f2 (by decide))
    have B2 : yB B len S v2 := yB_fr B1 f2 (by decide) s2
    rcases c2 with ⟨V2, w2, n13, a9⟩ | ⟨V2, w2⟩
    · have TM2 : yTM T v2 := yTM_fr TM1 f2 (by decide)
      -- table
      obtain ⟨v3, e3, s3, f3, c3⟩ := mm_tab (fu := fu) (by omega) m4 B2 w2
      have g3 : yTDfr u v3 := yf_trans g2 (yf_mono f3 (by decide))
      have B3 : yB B len S v3 := yB_fr B2 f3 (by decide) s3
      have E3 : fm_Model_takeDown fu u = xs_seq (jb_Model_tableAndMemory_133 fu v3) fun _ u14 => jb_Model_takeDown_133 fu u14 := by
        rw [e1, e2]
        unfold jb_Model_takeDown_122
        rw [if_pos w2, e3]
      rcases c3 with ⟨V3, w3, n14, n24⟩ | ⟨V3, w3⟩
      · obtain ⟨v4, e4, s4, f4, c4⟩ := mm_mem (fu := fu) (by omega) m5 B3 w3
        have g4 : yTDfr u v4 := yf_trans g3 (yf_mono f4 (by decide))
        have B4 : yB B len S v4 := yB_fr B3 f4 (by decide) s4
        rw [e4, ys_seq] at E3
        rcases c4 with ⟨V4, w4, n15, n16, n17⟩ | ⟨V4, w4⟩
        · have TM4 : yTM T v4 := yTM_fr TM2 (yf_trans (yf_mono (I := [4, 5, 6, 7, 14, 15, 16, 17, 24]) (J := [0, 1]) (A := []) (B := []) f3 (by decide)) (yf_mono f4 (by decide))) (by decide)
          obtain ⟨v5, e5, s5, f5, c5⟩ := mm_globals (fu := fu) (T := T) (by omega) m6 B4 w4 TM4
          have g5 : yTDfr u v5 := yf_trans g4 (yf_mono f5 (by decide))
          have B5 : yB B len S v5 := yB_fr B4 f5 (by decide) s5
          have E5 : fm_Model_takeDown fu u = jb_Model_takeDown_144 fu v5 := by
            rw [E3]
            unfold jb_Model_takeDown_133
            rw [if_pos w4, e5, ys_seq]
          rcases c5 with ⟨V5, w5, n18, a14⟩ | ⟨V5, w5⟩
          · have TM5 : yTM T v5 := yTM_fr TM4 f5 (by decide)
            have k13 : v5.1 13 = nI F.length := by rw [f5.1 13 (by decide), f4.1 13 (by decide), f3.1 13 (by decide)]; exact n13
            have k14 : v5.1 14 = nI l4.length := by rw [f5.1 14 (by decide), f4.1 14 (by decide)]; exact n14
            have k15 : v5.1 15 = nI l5.length := by rw [f5.1 15 (by decide)]; exact n15
            obtain ⟨v6, e6, s6, f6, c6⟩ := mm_exports (fu := fu) (nf := F.length) (nt := l4.length) (nm := l5.length) (ng := l6.length) hfu m7 B5 w5 k13 k14 k15 n18 ⟨V2.1, V3.1, V4.1, V5.1⟩
            have g6 : yTDfr u v6 := yf_trans g5 (yf_mono f6 (by decide))
            have B6 : yB B len S v6 := yB_fr B5 f6 (by decide) s6
            have E6 : fm_Model_takeDown fu u = jb_Model_takeDown_155 fu v6 := by
              rw [E5]
              unfold jb_Model_takeDown_144
              rw [if_pos w5, e6, ys_seq]
            rcases c6 with ⟨V6, w6, n19, nm, a18⟩ | ⟨V6, w6⟩
            · have TM6 : yTM T v6 := yTM_fr TM5 f6 (by decide)
              have j13 : v6.1 13 = nI F.length := (f6.1 13 (by decide)).trans k13
              have a9' : ∀ (k : Nat) t, F[k]? = some t → v6.2.2.1 9 k = nI t := fun k t ht => by
                rw [f6.2.2.1 9 (by decide), f5.2.2.1 9 (by decide), f4.2.2.1 9 (by decide), f3.2.2.1 9 (by decide)]
                exact a9 k t ht
              obtain ⟨v7, e7, s7, f7, c7⟩ := mm_first (fu := fu) (T := T) (F := F) (by omega) m8 B6 w6 TM6 j13 V2.1 (fun k t ht => ⟨a9' k t ht, V2.2 k t ht⟩)
              have g7 : yTDfr u v7 := yf_trans g6 (yf_mono f7 (by decide))
              have B7 : yB B len S v7 := yB_fr B6 f7 (by decide) s7
              have E7 : fm_Model_takeDown fu u = jb_Model_takeDown_166 fu v7 := by
                rw [E6]
                unfold jb_Model_takeDown_155
                rw [if_pos w6, e7, ys_seq]
              rcases c7 with ⟨V7, w7, n20⟩ | ⟨V7, w7⟩
              · have i13 : v7.1 13 = nI F.length := (f7.1 13 (by decide)).trans j13
                have i14 : v7.1 14 = nI l4.length := by rw [f7.1 14 (by decide), f6.1 14 (by decide)]; exact k14
                obtain ⟨v8, e8, s8, f8, c8⟩ := mm_elements (fu := fu) (nf := F.length) (nt := l4.length) hfu m9 B7 w7 i13 i14 V2.1 V3.1
                have g8 : yTDfr u v8 := yf_trans g7 (yf_mono f8 (by decide))
                have B8 : yB B len S v8 := yB_fr B7 f8 (by decide) s8
                have E8 : fm_Model_takeDown fu u = jb_Model_takeDown_177 fu v8 := by
                  rw [E7]
                  unfold jb_Model_takeDown_166
                  rw [if_pos w7, e8, ys_seq]
                rcases c8 with ⟨V8, w8⟩ | ⟨V8, w8⟩
                · refine ⟨fun _ => ⟨v8, E8, w8, B8, ?_, g8⟩, fun h => absurd ⟨V1, V2, V3, V4, V5, V6, V7, V8⟩ h⟩
                  have ff : yf_fr [4, 5, 6, 7, 20] [0] [] [] v6 v8 := yf_trans (yf_mono f7 (by decide)) (yf_mono f8 (by decide))
                  refine ⟨yTM_fr TM6 ff (by decide), ⟨(f8.1 13 (by decide)).trans i13, fun k t ht => ?_⟩, ⟨(f8.1 14 (by decide)).trans i14, ?_⟩, ⟨?_, ?_, ?_⟩, ⟨?_, fun k a ha => ?_⟩, ⟨?_, fun j b hj hb => ?_, fun k a ha => ?_⟩, (f8.1 20 (by decide)).trans n20⟩
                  · rw [ff.2.2.1 9 (by decide)]; exact a9' k t ht
                  · rw [ff.1 24 (by decide), f6.1 24 (by decide), f5.1 24 (by decide), f4.1 24 (by decide)]; exact n24
                  · rw [ff.1 15 (by decide), f6.1 15 (by decide)]; exact k15
                  · rw [ff.1 16 (by decide), f6.1 16 (by decide), f5.1 16 (by decide)]; exact n16
                  · rw [ff.1 17 (by decide), f6.1 17 (by decide), f5.1 17 (by decide)]; exact n17
                  · rw [ff.1 18 (by decide), f6.1 18 (by decide)]; exact n18
                  · rw [ff.2.2.1 14 (by decide), f6.2.2.1 14 (by decide), ff.2.2.1 15 (by decide), f6.2.2.1 15 (by decide), ff.2.2.2 2 (by decide), f6.2.2.2 2 (by decide)]; exact a14 k a ha
                  · rw [ff.1 19 (by decide)]; exact n19
                  · rw [ff.2.2.1 16 (by decide), ff.2.2.1 17 (by decide)]; exact nm j b hj hb
                  · rw [ff.2.2.1 18 (by decide), ff.2.2.1 19 (by decide)]; exact a18 k a ha
                · exact bad (o := none) (fun h => V8 h.2.2.2.2.2.2.2) (E8.trans (mx_177t w8)) w8 g8
              · exact bad (o := none) (fun h => V7 h.2.2.2.2.2.2.1) (E7.trans (mx_166t w7)) w7 g7
            · exact bad (o := none) (fun h => V6 h.2.2.2.2.2.1) (E6.trans (mx_155t w6)) w6 g6
          · exact bad (o := none) (fun h => V5 h.2.2.2.2.1) (E5.trans (mx_144t w5)) w5 g5
        · exact bad (o := none) (fun h => V4 h.2.2.2.1) (E3.trans (mx_133t w4)) w4 g4
      · refine bad (w := v3) (o := none) (fun h => V3 h.2.2.1) ?_ w3 g3
        rw [E3, mx_133 w3, ys_seq, mx_133t w3]
    · exact bad (o := none) (fun h => V2 h.2.1) ((e1.trans e2).trans (mx_122 w2)) w2 g2
  · obtain ⟨w, d1, d2, d3⟩ := mx_51 (fu := fu) (by omega) m3 B1 w1
    exact bad (o := none) (fun h => V1 h.1) (e1.trans d1) d2 (yf_trans g1 (yf_mono d3 (by decide)))
end
