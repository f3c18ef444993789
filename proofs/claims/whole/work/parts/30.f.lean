section
variable {α β γ δ σ τ : Type} {B : Nat → Int32} {u v w x u0 : xk_St} {g : Nat → Nat} {T : List (Nat × List Nat × List Nat)} {F : List Nat} {G : List (Nat × Nat × Nat × Int64)} {L : List Nat} {n fu tc mc lim : Nat} {Q Q' : List sFr} {s : Option (List sFr)}
/-- an instruction from 0x20 on, by the reference -/
theorem mi_rest {p e f : Nat} {i : sIn} (hfu : 200 ≤ fu) (hE : yTM T x) (hS : mS T Q x) (hQ : ¬ Q = []) (h7 : x.1 7 = 0) (hEn : mEn T F tc mc G x) (hLo : mLo T L f x) (hi : yg_ins i) (hy : yi_ins i x) (h32 : 32 ≤ i.1) :
    MC (md_st fu (nI f) x) fun _ w => mO3 T x (sq_step T F tc mc G L e p i Q) w ∧ mN i p Q x w := by
  obtain ⟨y1, y2, y3, y4, y5⟩ := hy
  obtain ⟨g1, g2, g3, g98, g114, g116, g117, g119⟩ := hi
  have hK : mK T x (some Q) x := mK_0 hE ⟨Q, hS, hQ, Or.inl ⟨rfl, h7⟩⟩
  have h16 : 16 ≤ i.1 := by omega
  have n117 : xt_S i.1 = 117 → x.2.1 0 = lN (yx_n i.2.1) ∧ yx_n i.2.1 < 2 ^ 32 := fun hs => by
    obtain ⟨m, m1, m2, m3⟩ := g117 hs
    rw [y1, m2, yx_lN (by omega)]
    exact ⟨rfl, m1⟩
  have n119 : xt_S i.1 = 119 → x.2.1 0 = lN (yx_n i.2.1) ∧ yx_n i.2.1 < 2 ^ 32 ∧ x.2.1 1 = lN (sb_n i.2.2.1) ∧ sb_n i.2.2.1 < 2 ^ 32 := fun hs => by
    obtain ⟨m, m', m1, m2, m3, m4⟩ := g119 hs
    rw [y1, m3, yx_lN (by omega), y2, m4, sb_nL m2]
    exact ⟨rfl, m1, rfl, m2⟩
  have n116 : xt_S i.1 = 116 → x.2.1 0 = lN (yx_n i.2.1) ∧ yx_n i.2.1 ≤ 66 := fun hs => by
    obtain ⟨m, m1, m2⟩ := g116 hs
    rw [y1, m2, yx_lN (by omega)]
    exact ⟨rfl, m1⟩
  by_cases z40 : i.1 < 40
  · rw [if_pos (show i.1 < 256 by omega)] at y4
    have hops : ∀ o, o < 40 → (32 ≤ o ∧ ¬ xt_S o = 33 ∧ ¬ xt_S o = 45) → o ≤ 36 ∧ xt_S o = 117 := by decide +kernel
    obtain ⟨h36, hs⟩ := hops i.1 z40 ⟨h32, g3, g2⟩
    obtain ⟨j1, j2⟩ := n117 hs
    have e0 : md_st fu (nI f) x = fm_Model_checkNames (nI f) x := by
      unfold md_st
      rw [y4, if_pos (show (32 : Int32) ≤ nI i.1 from nI_le (a := 32) (by omega) (by omega)), if_neg (show ¬ (40 : Int32) ≤ nI i.1 from nI_ge (b := 40) z40 (by decide))]
    have es : sq_step T F tc mc G L e p i Q = (if i.1 < 35 then L[yx_n i.2.1]?.bind fun t => sq_var T (i.1 - 32) t Q else G[yx_n i.2.1]?.bind fun a => xs_if (i.1 = 35 ∨ a.2.1 = 1) (sq_var T (i.1 - 35) a.1 Q)) := by
      unfold sq_step
      rw [if_neg (by omega), if_neg (by omega), if_neg (by omega), if_neg (by omega), if_neg (by omega), if_neg (by omega), if_neg (by omega), if_neg (by omega), if_neg (by omega), if_neg (by omega), if_neg (by omega), if_neg (by omega), if_neg (by omega), if_neg (by omega)]
      by_cases z35 : i.1 < 35
      · rw [if_pos z35, if_pos z35]
      · rw [if_neg z35, if_neg z35, if_pos z40]
    rw [e0, es]
    exact MC_mono (ml_names hK h7 hEn hLo y4 h32 h36 j1 j2) fun _ w hw => mN_K hw h16
  · rw [sq_stepR (by omega)]
    by_cases z256 : i.1 < 256
    · rw [if_pos z256] at y4
      have c32 : (32 : Int32) ≤ nI i.1 := nI_le (a := 32) (by omega) (by omega)
      have c40 : (40 : Int32) ≤ nI i.1 := nI_le (a := 40) (by omega) (by omega)
      have c65 : (65 : Int32) ≤ nI i.1 ↔ 65 ≤ i.1 := nI_leI (a := 65) (by omega) (by omega)
      have c208 : (208 : Int32) ≤ nI i.1 ↔ 208 ≤ i.1 := nI_leI (a := 208) (by omega) (by omega)
      have c251 : (251 : Int32) ≤ nI i.1 ↔ 251 ≤ i.1 := nI_leI (a := 251) (by omega) (by omega)
      unfold md_st
      rw [y4, if_pos c32, if_pos c40]
      by_cases z65 : i.1 < 65
      · rw [if_neg (fun y => by have := c65.mp y; omega), if_pos z65]
        have hj : i.1 < 63 → x.2.1 0 = lN (yx_n i.2.1) ∧ yx_n i.2.1 < 2 ^ 32 := fun hh => by
          have hs : xt_S i.1 = 119 := (by decide +kernel : ∀ o, o < 63 → 40 ≤ o → ¬ xt_S o = 45 → xt_S o = 119) i.1 hh (by omega) g2
          obtain ⟨a1, a2, -⟩ := n119 hs
          exact ⟨a1, a2⟩
        exact MC_mono (ml_mem hK h7 y4 (by omega) (by omega) hj hEn.2.2.2.2.1.1 hEn.2.2.2.2.1.2) fun _ w hw => mN_K hw h16
      · rw [if_pos (c65.mpr (by omega)), if_neg z65]
        by_cases z67 : i.1 < 67
        · rw [if_neg (fun y => by have := c208.mp y; omega), if_pos z67]
          exact MC_mono (ml_con hK y4 (by omega)) fun _ w hw => mN_K hw h16
        · rw [if_neg z67]
          by_cases z208 : i.1 < 208
          · rw [if_neg (fun y => by have := c208.mp y; omega), if_pos z208]
            exact MC_mono (ml_num hK y4 z208 (by omega) ⟨g2, g3⟩) fun _ w hw => mN_K hw h16
          · rw [if_pos (c208.mpr (by omega)), if_neg z208]
            have hops : ∀ o, o < 256 → (208 ≤ o ∧ ¬ xt_S o = 33 ∧ ¬ xt_S o = 45) → o ∈ [208, 209, 211, 212, 213, 214] := by decide +kernel
            have hop := hops i.1 z256 ⟨by omega, g3, g2⟩
            simp only [List.mem_cons, List.not_mem_nil, or_false] at hop
            rw [if_neg (fun y => by have := c251.mp y; omega)]
            rcases hop with h' | h' | h' | h' | h' | h'
            · obtain ⟨j1, j2⟩ := n116 (by rw [h']; decide +kernel)
              rw [if_pos h']
              exact MC_mono (ml_208 hK h7 (by rw [y4, h']) j1 j2) fun _ w hw => mN_O hw h16
            · rw [if_neg (by omega), if_pos h']
              exact MC_mono (ml_209 hK (by rw [y4, h'])) fun _ w hw => mN_O hw h16
            · rw [if_neg (by omega), if_neg (by omega), if_pos h']
              exact MC_mono (ml_211 hK (by rw [y4, h'])) fun _ w hw => mN_O hw h16
            · rw [if_neg (by omega), if_neg (by omega), if_neg (by omega), if_pos h']
              exact MC_mono (ml_212 hK (by rw [y4, h'])) fun _ w hw => mN_O hw h16
            · obtain ⟨j1, j2⟩ := n117 (by rw [h']; decide +kernel)
              rw [if_neg (by omega), if_neg (by omega), if_neg (by omega), if_neg (by omega), if_pos h']
              exact MC_mono (ml_213 hfu hK (by rw [y4, h']) j1 j2) fun _ w hw => mN_O hw h16
            · obtain ⟨j1, j2⟩ := n117 (by rw [h']; decide +kernel)
              rw [if_neg (by omega), if_neg (by omega), if_neg (by omega), if_neg (by omega), if_neg (by omega), if_pos h']
              exact MC_mono (ml_214 hfu hK (by rw [y4, h']) j1 j2) fun _ w hw => mN_O hw h16
    · rw [if_neg z256] at y4 y5
      have e0 : md_st fu (nI f) x = fm_Model_checkObjects fu x := by
        unfold md_st
        rw [y4]
        rfl
      rw [e0, if_neg (by omega), if_neg (by omega), if_neg (by omega), if_neg (by omega), if_neg (by omega), if_neg (by omega), if_neg (by omega), if_neg (by omega), if_neg (by omega)]
      by_cases z262 : i.1 < 262
      · rw [if_pos z262]
        have hs : (xt_S i.1 = 117 ∧ i.1 < 258) ∨ (xt_S i.1 = 119) := (by decide +kernel : ∀ o, o < 262 → 256 ≤ o → (xt_S o = 117 ∧ o < 258) ∨ xt_S o = 119) i.1 z262 (by omega)
        have hj : x.2.1 0 = lN (yx_n i.2.1) ∧ yx_n i.2.1 < 2 ^ 32 := by
          rcases hs with hs | hs
          · exact n117 hs.1
          · exact ⟨(n119 hs).1, (n119 hs).2.1⟩
        have hj1 : 2 ≤ i.1 - 256 → x.2.1 1 = lN (sb_n i.2.2.1) ∧ sb_n i.2.2.1 < 2 ^ 32 := fun hh => by
          rcases hs with hs | hs
          · omega
          · exact (n119 hs).2.2
        exact MC_mono (ml_struct hfu hK y5 (by omega) hj.1 hj.2 hj1) fun _ w hw => mN_O hw h16
      · rw [if_neg z262]
        by_cases z271 : i.1 = 271
        · rw [if_pos z271]
          exact MC_mono (ml_len hK (by rw [y5, z271])) fun _ w hw => mN_O hw h16
        · rw [if_neg z271]
          by_cases z276 : i.1 < 276
          · rw [if_pos z276]
            have hs : ((xt_S i.1 = 117 ∧ ¬ i.1 = 264) ∨ xt_S i.1 = 119) ∧ i.1 ≤ 272 ∧ ¬ i.1 = 265 ∧ ¬ i.1 = 266 := (by decide +kernel : ∀ o, o < 276 → (262 ≤ o ∧ ¬ o = 271 ∧ ¬ xt_S o = 45) → (((xt_S o = 117 ∧ ¬ o = 264) ∨ xt_S o = 119) ∧ o ≤ 272 ∧ ¬ o = 265 ∧ ¬ o = 266)) i.1 z276 ⟨by omega, z271, g2⟩
            have hj : x.2.1 0 = lN (yx_n i.2.1) ∧ yx_n i.2.1 < 2 ^ 32 := by
              rcases hs.1 with hs | hs
              · exact n117 hs.1
              · exact ⟨(n119 hs).1, (n119 hs).2.1⟩
            have hj1 : i.1 - 256 = 8 → x.2.1 1 = lN (sb_n i.2.2.1) ∧ sb_n i.2.2.1 < 2 ^ 32 := fun hh => by
              rcases hs.1 with hs | hs
              · omega
              · exact (n119 hs).2.2
            exact MC_mono (ml_array hfu hK y5 (by omega) (by omega) (by omega) (by omega) hj.1 hj.2 hj1) fun _ w hw => mN_O hw h16
          · rw [if_neg z276]
            have hs : (i.1 < 280 → xt_S i.1 = 116) ∧ (i.1 < 280 ∨ 284 ≤ i.1) := (by decide +kernel : ∀ o, o < 287 → 276 ≤ o → ¬ xt_S o = 45 → ((o < 280 → xt_S o = 116) ∧ (o < 280 ∨ 284 ≤ o))) i.1 g1 (by omega) g2
            exact MC_mono (ml_kind hK h7 y5 (fun hh => n116 (hs.1 (by omega))) (by omega) (by omega) (by omega)) fun _ w hw => mN_O hw h16
/-- one instruction, by the reference -/
theorem mi_step {p e f : Nat} {i : sIn} (hfu : 200 ≤ fu) (hfl : lim + 3 ≤ fu) (hE : yTM T x) (hS : mS T Q x) (hQ : ¬ Q = []) (h7 : x.1 7 = 0) (hEn : mEn T F tc mc G x) (hLo : mLo T L f x) (hi : yg_ins i) (hy : yi_ins i x) (h23 : x.1 23 = nI p) (hp : p < 8192) (hB : x.2.2.1 1 = B) (hx5 : x.1 5 = nI lim) (hlim : lim ≤ 8192) (hx6 : x.1 6 = 0) (h14 : i.1 = 14 → i.2.2.2.1 ≤ lim ∧ ∃ q1, yp_rep (yp_N B lim) i.2.2.2.2.length i.2.2.2.1 = .inl (i.2.2.2.2, q1)) :
    MC (md_st fu (nI f) x) fun _ w => mO3 T x (sq_step T F tc mc G L e p i Q) w ∧ mN i p Q x w := by
  by_cases z : i.1 < 32
  · exact mi_ways hfu hfl hE hS hQ h7 hEn hi hy h23 hp hB hx5 hlim hx6 h14 z
  · exact mi_rest hfu hE hS hQ h7 hEn hLo hi hy (by omega)
end
