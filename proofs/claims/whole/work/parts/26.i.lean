section
variable {α β γ δ : Type} {B : Nat → Int32} {u v w : xk_St} {L lim p q fu D len : Nat} {e : Int32}
theorem zC_map {o : Option (β × xk_St)} {s : (α × Nat) ⊕ Nat} {c : α → γ} (h : zC B lim p o s (zJ B lim fun _ _ _ => True)) : zC B lim p o (yp_map c s) (zJ B lim fun _ _ _ => True) := by
  unfold yp_map
  refine zC_then h fun a q e1 e2 hj => zC_ok (Nat.le_refl _) ?_
  exact hj
theorem mm_s8 (hfu : 20 ≤ fu) (h : ym_st B lim p u) (h6 : u.1 6 = 0) : zC B lim p (fm_Model_section fu 8 u) (yp_N B lim p) (zJ B lim fun _ _ _ => True) := by
  unfold fm_Model_section
  rw [if_pos rfl, yp_self (s := yp_N B lim p)]
  refine zC_seq (zC_of h h6 (mm_N hfu h h6)) (fun N q b v e1 _ h h6 hb => ?_) fun k r v q h h6 => ?_
  · exact zC_ok (Nat.le_refl _) ⟨(), v, rfl, h, h6, trivial⟩
  · exact yx_some h h6
/-- a section's content, walked by the reference -/
theorem mm_cont {id : Nat} (hD : 8193 ≤ D) (hfu : 20 ≤ fu) (hn : lim + 3 ≤ fu) (hp3 : 3 ≤ p) (h0 : ¬ id = 0) (h2 : ¬ id = 2) (h11 : id ≤ 11) (h : ym_st B lim p u) (h6 : u.1 6 = 0) : zC B lim p (fm_Model_section fu (nI id) u) (yp_cont D B id lim p) (zJ B lim fun _ _ _ => True) := by
  unfold yp_cont
  rw [if_neg h0]
  by_cases c1 : id = 1
  · subst c1; rw [if_pos rfl]; exact zC_map (mm_s1 hfu hn hp3 h h6)
  rw [if_neg c1]
  by_cases c3 : id = 3
  · subst c3; rw [if_pos rfl]; exact zC_map (mm_s3 hfu hn hp3 h h6)
  rw [if_neg c3]
  by_cases c4 : id = 4
  · subst c4; rw [if_pos rfl]; exact zC_map (mm_s4 hfu hn hp3 h h6)
  rw [if_neg c4]
  by_cases c5 : id = 5
  · subst c5; rw [if_pos rfl]; exact zC_map (mm_s5 hfu hn hp3 h h6)
  rw [if_neg c5]
  by_cases c6 : id = 6
  · subst c6; rw [if_pos rfl]; exact zC_map (mm_s6 hfu hn hp3 h h6)
  rw [if_neg c6]
  by_cases c7 : id = 7
  · subst c7; rw [if_pos rfl]; exact zC_map (mm_s7 hfu hn hp3 h h6)
  rw [if_neg c7]
  by_cases c8 : id = 8
  · subst c8; rw [if_pos rfl]; exact zC_map (mm_s8 hfu h h6)
  rw [if_neg c8]
  by_cases c9 : id = 9
  · subst c9; rw [if_pos rfl]; exact zC_map (mm_s9 hfu hn hp3 h h6)
  rw [if_neg c9]
  by_cases c10 : id = 10
  · subst c10; rw [if_pos rfl]; exact zC_map (mm_s10 hD hfu hn hp3 h h6)
  rw [if_neg c10]
  have c11 : id = 11 := by omega
  subst c11
  exact zC_map (mm_s11 hfu hn hp3 h h6)
/-- a fault that is found before the end -/
def wC (o : Option (β × xk_St)) (s : (α × Nat) ⊕ Nat) (J : α → Nat → xk_St → Prop) : Prop :=
  (∃ a q r v, s = .inl (a, q) ∧ o = some (r, v) ∧ v.1 6 = 0 ∧ J a q v) ∨ ∃ k r v, s = .inr k ∧ o = some (r, v) ∧ v.1 6 = ym_c k
/-- where the sections lie, as the reference notes it -/
def ySm (S : Nat → Option (Nat × Nat)) (v : xk_St) : Prop := ∀ j, 0 < j → j < 12 → v.2.2.1 2 j = match S j with
  | none => -1
  | some x => nI x.1
theorem mx_63 {n : Nat} {b : Int32} (h6 : ¬ v.1 6 = 0) : jb_Model_walk_63 fu (n + 1) b v = some ((), v) := by
  unfold jb_Model_walk_63
  simp only [xs_let]
  rw [if_neg h6]
theorem mx_144 {k63 : Int32 → xk_St → Option (Unit × xk_St)} {b1 b2 : Int32} {b3 : Int64} (h6 : ¬ v.1 6 = 0) : jb_Model_walk_144 fu k63 b1 b2 b3 v = some ((), v) := by
  unfold jb_Model_walk_144
  rw [if_neg h6]
theorem mx_119i {k63 : Int32 → xk_St → Option (Unit × xk_St)} {b1 b2 : Int32} {a8 x : Int64} (h6 : ¬ v.1 6 = 0) : (if a8 ≤ x then (jb_Model_walk_144 fu k63 b1 b2 a8 v) else ((xs_seq (fm_Model_fail (-1 : Int32) v) fun _ u16 => jb_Model_walk_144 fu k63 b1 b2 a8 u16))) = some ((), v) := by
  rw [mm_fail1 h6, ys_seq, mx_144 h6]
  split <;> rfl
theorem mx_119 {k63 : Int32 → xk_St → Option (Unit × xk_St)} {b1 b2 : Int32} (hfu : 20 ≤ fu) (h6 : ¬ v.1 6 = 0) : jb_Model_walk_119 fu k63 b1 b2 v = some ((), v) := by
  unfold jb_Model_walk_119
  rw [mx_num hfu h6, ys_seq, mx_119i h6]
/-- the sections, walked by the reference -/
theorem mm_secs (hD : 8193 ≤ D) (hfu : 20 ≤ fu) (hn : len + 3 ≤ fu) (hlen : len ≤ 8192) : ∀ (d last p n lim0 : Nat) (S : Nat → Option (Nat × Nat)) (v : xk_St), len - p < d → d < n → 8 ≤ p → p ≤ len → last ≤ 11 → ym_st B lim0 p v → v.1 6 = 0 → v.1 3 = nI len → ySm S v →
    wC (jb_Model_walk_63 fu (n + 1) (nI last) v) (yp_secs D B len d last p) fun ss _ w => w.1 3 = nI len ∧ w.2.2.1 1 = B ∧ ySm (yS_ext S ss) w := by
  intro d
  induction d with
  | zero => intro last p n lim0 S v h; omega
  | succ d ih =>
    intro last p n lim0 S v h1 h2 hp8 hpl hla h h6 h3 hS
    obtain ⟨n, rfl⟩ : ∃ m, n = m + 1 := ⟨n - 1, by omega⟩
    have hl0 := h.2.2.2
    unfold jb_Model_walk_63 yp_secs
    simp only [xs_let]
    rw [if_pos h6, h3, h.2.1]
    by_cases hle : len ≤ p
    · rw [if_pos hle, if_pos (nI_le hle (by omega))]
      exact Or.inl ⟨[], p, (), v, rfl, rfl, h6, h3, h.1, hS⟩
    · rw [if_neg hle, if_neg (show ¬ nI len ≤ nI p from nI_ge (by omega) (by omega))]
      have hu : ym_st B len p (xs_I v 5 (nI len)) := ⟨h.1, h.2.1, rfl, hpl, hlen⟩
      have hby : yp_byte B len p = .inl (yb_b B p, p + 1) := if_neg hle
      rw [mm_one_eq hu h6, if_neg hle, ys_seq, hby, yp_then_l]
      obtain ⟨id, hid, hb⟩ := yb_n B p
      rw [hb, nI_clamp (by omega)]
      have hw : ym_st B len (p + 1) (xs_I (xs_I v 5 (nI len)) 4 (nI (p + 1))) := ym_mv hu (by omega)
      have hw6 : (xs_I (xs_I v 5 (nI len)) 4 (nI (p + 1))).1 6 = 0 := h6
      have hw3 : (xs_I (xs_I v 5 (nI len)) 4 (nI (p + 1))).1 3 = nI len := h3
      have hwS : ySm S (xs_I (xs_I v 5 (nI len)) 4 (nI (p + 1))) := hS
      generalize xs_I (xs_I v 5 (nI len)) 4 (nI (p + 1)) = x at hw hw6 hw3 hwS
      have hid0 : nI id ≤ (0 : Int32) ↔ id ≤ 0 := nI_leI (b := 0) (by omega) (by decide)
      have hid2 : nI id = (2 : Int32) ↔ id = 2 := nI_eq (b := 2) (by omega) (by decide)
      have hid11 : (11 : Int32) < nI id ↔ 11 < id := nI_ltI (a := 11) (by decide) (by omega)
      have hidl : nI last < nI id ↔ last < id := nI_ltI (by omega) (by omega)
      by_cases hok : id = 0 ∨ (last < id ∧ ¬ id = 2 ∧ id ≤ 11)
      · rw [if_pos hok, if_neg (fun y => by have := hid2.mp y; omega), if_neg (fun y => by have := hid11.mp y; omega)]
        have hsame : (if nI id ≤ (0 : Int32) then (jb_Model_walk_119 fu (jb_Model_walk_63 fu (n + 1)) (nI last) (nI id) x) else (if nI last < nI id then (jb_Model_walk_119 fu (jb_Model_walk_63 fu (n + 1)) (nI last) (nI id) x) else (jb_Model_walk_114 fu (jb_Model_walk_63 fu (n + 1)) (nI last) (nI id) x))) = jb_Model_walk_119 fu (jb_Model_walk_63 fu (n + 1)) (nI last) (nI id) x := by
          by_cases z : id = 0
          · rw [if_pos (hid0.mpr (by omega))]
          · rw [if_neg (fun y => z (by have := hid0.mp y; omega)), if_pos (hidl.mpr (by omega))]
        rw [hsame]
        unfold jb_Model_walk_119
        rcases zC_of hw hw6 (mm_N hfu hw hw6) with ⟨m, r, e1, e2, b, y, e3, hy, hy6, rfl, q', e4⟩ | ⟨k, e1, a, y, q', e2, e3, e4⟩
        · rw [e3, ys_seq, e1, yp_then_l]
          obtain ⟨hm32, hr1, hr2⟩ := yp_Nb e1
          have hy3 : y.1 3 = nI len := by rw [e4]; exact hw3
          have hyS : ySm S y := by rw [e4]; exact hwS
          clear e4
          rw [hy3, hy.2.1]
          by_cases hm : m ≤ len - r
          · rw [if_pos hm, if_pos ((yn_sz hm32 (by omega) hlen).mpr hm)]
            unfold jb_Model_walk_144
            simp only [xs_let]
            rw [if_pos hy6, hy.2.1, lN_i, nI_add]
            by_cases c0 : id = 0
            · subst c0
              rw [if_pos (show nI 0 = (0 : Int32) from rfl)]
              unfold jb_Model_walk_197 jb_Model_walk_211 yp_cont
              rw [if_pos ys_Ig, if_pos rfl, yp_then_l, if_pos rfl]
              rcases ih (max last 0) (r + m) n (r + m) (yS_up S 0 r (r + m)) (xs_I (xs_I y 5 (nI (r + m))) 4 (nI (r + m))) (by omega) (by omega) (by omega) (by omega) (by omega) ⟨hy.1, rfl, rfl, Nat.le_refl _, by omega⟩ hy6 hy3 (fun j hj hj2 => (by
                have := hyS j hj hj2
                show y.2.2.1 2 j = match (if j = 0 then some (r, r + m) else S j) with
                  | none => -1
                  | some x => nI x.1
                rw [if_neg (by omega)]
                exact this)) with ⟨ss, q, b, z, f1, f2, f3, f4⟩ | ⟨k, b, z, f1, f2, f3⟩
              · rw [show max last 0 = last from Nat.max_eq_left (Nat.zero_le _)] at f1 f2
                rw [show max last 0 = last from Nat.max_eq_left (Nat.zero_le _), f1, yp_then_l]
                exact Or.inl ⟨_, q, b, z, rfl, f2, f3, f4⟩
              · rw [show max last 0 = last from Nat.max_eq_left (Nat.zero_le _)] at f1 f2
                rw [show max last 0 = last from Nat.max_eq_left (Nat.zero_le _), f1, yp_then_r]
                exact Or.inr ⟨k, b, z, rfl, f2, f3⟩
            · rw [if_neg (show ¬ nI id = (0 : Int32) from fun z => c0 ((nI_eq (b := 0) (by omega) (by decide)).mp z)), if_neg (nI_in (N := 12) (by omega) (by decide)), nI_clamp (by omega)]
              have hmx : max last id = id := Nat.max_eq_right (by omega)
              rw [hmx]
              have hx : ym_st B (r + m) r (xs_A (xs_I y 5 (nI (r + m))) 2 id ((xs_I y 5 (nI (r + m))).1 4)) := ⟨hy.1, hy.2.1, rfl, by omega, by omega⟩
              have hx3 : (xs_A (xs_I y 5 (nI (r + m))) 2 id ((xs_I y 5 (nI (r + m))).1 4)).1 3 = nI len := hy3
              have hx6 : (xs_A (xs_I y 5 (nI (r + m))) 2 id ((xs_I y 5 (nI (r + m))).1 4)).1 6 = 0 := hy6
              have hxS : ySm (yS_up S id r (r + m)) (xs_A (xs_I y 5 (nI (r + m))) 2 id ((xs_I y 5 (nI (r + m))).1 4)) := fun j hj hj2 => by
                have := hyS j hj hj2
                show upd (y.2.2.1 2) id (y.1 4) j = match (if j = id then some (r, r + m) else S j) with
                  | none => -1
                  | some x => nI x.1
                by_cases hji : j = id
                · rw [if_pos hji, hji, ya_t]; exact hy.2.1
                · rw [if_neg hji, ya_j hji]; exact this
              generalize xs_A (xs_I y 5 (nI (r + m))) 2 id ((xs_I y 5 (nI (r + m))).1 4) = z at hx hx3 hx6 hxS
              have hfr := yf_fm_Model_section (fu := fu) (x0 := nI id) (u := z)
              rcases mm_cont (id := id) (D := D) hD hfu (by omega) (by omega) c0 (by omega) (by omega) hx hx6 with ⟨a, s, f1, f2, b, t, f3, f4, f5, -⟩ | ⟨k, f1, b, t, s, f2, f3, f4⟩
              · have hf := hfr _ _ f3
                rw [f3, ys_seq, f1, yp_then_l]
                have ht3 : t.1 3 = nI len := (hf.1 3 (by decide)).trans hx3
                have htS : ySm (yS_up S id r (r + m)) t := fun j hj hj2 => by rw [hf.2.2.1 2 (by decide)]; exact hxS j hj hj2
                unfold jb_Model_walk_197 jb_Model_walk_211
                have hs8 := f4.2.2.2
                rw [f4.2.1]
                by_cases hs : s = r + m
                · subst hs
                  rw [if_pos rfl, if_pos rfl]
                  rcases ih id (r + m) n (r + m) (yS_up S id r (r + m)) t (by omega) (by omega) (by omega) (by omega) (by omega) f4 f5 ht3 htS with ⟨ss, q, b, z, g1, g2, g3, g4⟩ | ⟨k, b, z, g1, g2, g3⟩
                  · rw [g1, yp_then_l]
                    exact Or.inl ⟨_, q, b, z, rfl, g2, g3, g4⟩
                  · rw [g1, yp_then_r]
                    exact Or.inr ⟨k, b, z, rfl, g2, g3⟩
                · rw [if_neg hs, if_neg (fun y => hs ((nI_eq (by omega) (by omega)).mp y)), mm_fail0 f5, ys_seq, mx_63 (show ¬ (-1 : Int32) = 0 by decide)]
                  exact Or.inr ⟨0, _, _, rfl, rfl, rfl⟩
              · rw [f2, ys_seq, f1, yp_then_r]
                have ht6 : ¬ t.1 6 = 0 := by rw [f4]; exact ym_c0
                unfold jb_Model_walk_197 jb_Model_walk_211
                rw [mm_fail1 ht6, ys_seq, mx_63 ht6]
                exact Or.inr ⟨k, (), t, rfl, by split <;> rfl, f4⟩
          · rw [if_neg hm, if_neg (fun z => hm ((yn_sz hm32 (by omega) hlen).mp z)), mm_fail0 hy6, ys_seq, mx_144 (show ¬ (-1 : Int32) = 0 by decide)]
            exact Or.inr ⟨0, _, _, rfl, rfl, rfl⟩
        · have hy6 : ¬ y.1 6 = 0 := by rw [e4]; exact ym_c0
          rw [e2, ys_seq, e1, yp_then_r, mx_119i hy6]
          exact Or.inr ⟨k, _, _, rfl, rfl, e4⟩
      · rw [if_neg hok]
        have hbad : jb_Model_walk_114 fu (jb_Model_walk_63 fu (n + 1)) (nI last) (nI id) x = some ((), xs_I x 6 (-1)) := by
          unfold jb_Model_walk_114
          rw [mm_fail0 hw6, ys_seq, mx_119 hfu (show ¬ (-1 : Int32) = 0 by decide)]
        rw [hbad]
        have hsame : (if nI id = (2 : Int32) then some ((), xs_I x 6 (-1)) else (if (11 : Int32) < nI id then some ((), xs_I x 6 (-1)) else (if nI id ≤ (0 : Int32) then (jb_Model_walk_119 fu (jb_Model_walk_63 fu (n + 1)) (nI last) (nI id) x) else (if nI last < nI id then (jb_Model_walk_119 fu (jb_Model_walk_63 fu (n + 1)) (nI last) (nI id) x) else some ((), xs_I x 6 (-1)))))) = some ((), xs_I x 6 (-1)) := by
          by_cases z2 : id = 2
          · rw [if_pos (hid2.mpr z2)]
          · rw [if_neg (fun y => z2 (hid2.mp y))]
            by_cases z11 : 11 < id
            · rw [if_pos (hid11.mpr z11)]
            · rw [if_neg (fun y => z11 (hid11.mp y)), if_neg (fun y => hok (Or.inl (by have := hid0.mp y; omega))), if_neg (fun y => hok (Or.inr ⟨hidl.mp y, z2, by omega⟩))]
        rw [hsame]
        exact Or.inr ⟨0, _, _, rfl, rfl, rfl⟩
end
