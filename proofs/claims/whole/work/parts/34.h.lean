section
variable {α β γ δ σ τ : Type} {B : Nat → Int32} {u v w u' v' u0 v0 : xk_St} {T : List (Nat × List Nat × List Nat)} {F : List Nat} {G : List (Nat × Nat × Nat × Int64)} {L : List Nat} {n fu tc mc lim p q len f D k tn tn' j d : Nat} {Q Q' Q1 Qn : List sFr} {z : Nat → Nat} {LL : Nat → List Nat} {AA : Nat → sBo} {tt : Nat → Nat} {a : sBo} {H H' : rH} {fs r : List rFr} {x x' : rFr} {y : Nat × sIn} {ft : sFr} {c : Nat × List Nat × List Nat}
/-- what lies in a block as it begins -/
theorem sq_stepB {e p : Nat} {i : sIn} {f1 : sFr} {q : List sFr} (hQ : ¬ Q = []) (hi : i.1 = 2 ∨ i.1 = 3 ∨ i.1 = 4) (h : sq_step T F tc mc G L e p i Q = some (f1 :: q)) : f1.2.2.2.2 = (sb_par T i.2.1).reverse ∧ sb_ok T i.2.1 ∧ ∃ Q0, (i.1 = 4 → sq_take (yl_f T) 1 Q = some Q0) ∧ (¬ i.1 = 4 → Q0 = Q) ∧ sq_takes (yl_f T) (sb_par T i.2.1).reverse Q0 = some q := by
  unfold sq_step at h
  rw [if_neg (by omega), if_neg (by omega)] at h
  by_cases z1 : i.1 = 2 ∨ i.1 = 3
  · rw [if_pos z1] at h
    obtain ⟨h0, Q1, h1, -, h2⟩ := sq_blockS hQ h
    injection h2 with a b
    exact ⟨by rw [a], h0, Q, fun y => by omega, fun _ => rfl, by rw [b]; exact h1⟩
  · rw [if_neg z1, if_pos (by omega)] at h
    obtain ⟨Q0, k1, h⟩ := Option.bind_eq_some_iff.mp h
    obtain ⟨h0, Q1, h1, -, h2⟩ := sq_blockS (sTp_ne (sTp_take k1)) h
    injection h2 with a b
    exact ⟨by rw [a], h0, Q0, fun _ => k1, fun y => absurd (by omega) y, by rw [b]; exact h1⟩
theorem sh_in : ∀ o, o ∈ [0, 2, 3, 4, 5] → (nI (sh_op o) = 6 ↔ o = 0) ∧ (nI (sh_op o) = 3 ↔ o = 3) ∧ ∀ i, i < 5 → (nI (sh_op o) = nI i → sh_op o = i) := by decide +kernel
/-- an open block that is not the outermost, for the class -/
theorem rx_blk (h : RX D B len T F tc mc G z LL AA tt H (x :: r) tn u v) (hd : x.2.2[d]? = some ft) (h0 : ¬ ft.2.1 = 0) : ∃ k0 x0, k0 < x.2.1 ∧ (AA x.1).2.2[k0]? = some x0 ∧ ft.1 = (sEn' (z x.1) (AA x.1) k0, x0.1) ∧ ft.2.2.1 = x0.2.2.1 ∧ ¬ ft.1.2 = 0 ∧ sEn' (z x.1) (AA x.1) k0 < 8192 ∧ sh_op ft.2.1 = x0.2.1 ∧ sSt T F tc mc G (LL x.1) (z x.1) (tt x.1) (AA x.1) (k0 + 1) (((sEn' (z x.1) (AA x.1) k0, x0.1), x0.2.1, x0.2.2.1, false, (sb_par T ft.2.2.1).reverse) :: x.2.2.drop (d + 1)) ∧ u.2.2.1 10 ft.1.1 = nI (sq_h (x.2.2.drop (d + 1))) ∧ u.2.2.2 2 ft.1.1 = lN (sb_lab T ft).length ∧ u.2.2.1 7 ft.1.1 = nI (sh_op ft.2.1) ∧ ft.2.1 ∈ [0, 2, 3, 4, 5] := by
  obtain ⟨y, Qn, hy⟩ := rx_at h
  obtain ⟨cc, hc, hrun, hj, hat, hpos, -⟩ := rx_body h
  obtain ⟨i1, i2, i3⟩ := hy.2.2.1.2.2.1 d ft hd
  rcases rx_open h hd with ⟨-, -, a3, -⟩ | ⟨k0, x0, st, a1, a2, a3, a4, a5, a6, a7, a8⟩
  · exact absurd a3 h0
  · have hk : sEn' (z x.1) (AA x.1) k0 < 8192 := by
      have hlt := yl_lt a2
      have h8192 := hc.2.2.2.2.2.1
      have hend : sEnd (z x.1) (AA x.1) = z x.1 + 1 + (AA x.1).2.1.length + (AA x.1).2.2.length := rfl
      show z x.1 + 1 + (AA x.1).2.1.length + k0 < 8192
      omega
    obtain ⟨Qi, Q1, d1, d2, d3⟩ := sq_run_pre hrun k0 x0 a2
    have hQ1 : Q1 = ((sEn' (z x.1) (AA x.1) k0, x0.1), x0.2.1, x0.2.2.1, false, st) :: x.2.2.drop (d + 1) := by
      have : sq_run T F tc mc G (LL x.1) (z x.1 + 1 + (AA x.1).2.1.length) ((AA x.1).2.2.take (k0 + 1)) (sq_0 (z x.1) (tt x.1)) = some Q1 := by
        rw [sq_run_next a2, d1]; exact d2
      exact Option.some.inj (this.symm.trans a8)
    have hst := (sq_stepB (hat k0 x0 Qi a2 d1).1 a3 (by rw [← hQ1]; exact d2)).1
    have hst : st = (sb_par T x0.2.2.1).reverse := hst
    have hin := hc.2.2.2.2.2.2.2.2.2.2 k0 x0 Qi Q1 a2 d1 d2
    have h7 : u.2.2.1 7 (sEn' (z x.1) (AA x.1) k0) = nI x0.2.1 := by
      rw [hin.1, if_neg (by omega)]
    have hsh : sh_op ft.2.1 = x0.2.1 := by
      have e : nI (sh_op ft.2.1) = nI x0.2.1 := by rw [← i1, a4]; exact h7
      exact (sh_in _ i2).2.2 _ (by omega) e
    obtain ⟨b1, b2⟩ := hin.2.2.2.2.2.2.2.1 a3 _ _ hQ1
    have hlab : sb_lab T ((sEn' (z x.1) (AA x.1) k0, x0.1), x0.2.1, x0.2.2.1, false, st) = sb_lab T ft := by
      unfold sb_lab
      show (if x0.2.1 = 3 then sb_par T x0.2.2.1 else sb_res T x0.2.2.1) = _
      rw [a5]
      unfold sh_op at hsh
      rw [if_neg h0] at hsh
      by_cases z5 : ft.2.1 = 5
      · rw [if_pos z5] at hsh
        rw [if_neg (by omega), if_neg (by omega)]
      · rw [if_neg z5] at hsh
        rw [hsh]
    rw [hlab] at b2
    refine ⟨k0, x0, a1, a2, a4, a5, a7, hk, hsh, ?_, ?_, ?_, i1, i2⟩
    · rw [a5, ← hst]; exact a8
    · rw [a4]; exact b1
    · rw [a4]; exact b2
/-- the ways of what is left open -/
theorem rW_drop {wb hb : Nat} {f1 : sFr} (h : rW T z AA f Q wb hb v) (hd : Q[d]? = some ft) (hs : sSm ft f1) : rW T z AA f (f1 :: Q.drop (d + 1)) wb hb v := by
  have hlt := yl_lt hd
  have hl : (f1 :: Q.drop (d + 1)).length = Q.length - d := by rw [List.length_cons, List.length_drop]; omega
  intro e g he
  rw [hl]
  cases e with
  | zero =>
    cases he
    obtain ⟨a1, a2, a3, a4⟩ := h d ft hd
    have hlab : sb_lab T f1 = sb_lab T ft := by unfold sb_lab; rw [hs.2.1, hs.2.2]
    rw [show Q.length - d - 1 - 0 = Q.length - 1 - d by omega, hlab, hs.2.1, hs.1]
    exact ⟨a1, a2, a3, a4⟩
  | succ e =>
    have he : (Q.drop (d + 1))[e]? = some g := he
    rw [List.getElem?_drop] at he
    obtain ⟨a1, a2, a3, a4⟩ := h (d + 1 + e) g he
    rw [show Q.length - d - 1 - (e + 1) = Q.length - 1 - (d + 1 + e) by omega]
    refine ⟨a1, ?_, a3, a4⟩
    rw [a2]
    congr 2
    show sq_h (Q.drop (d + 1 + e + 1)) = sq_h ((Q.drop (d + 1)).drop (e + 1))
    rw [List.drop_drop]
    congr 2
theorem rW_tail {wb hb : Nat} (h : rW T z AA f Q wb hb v) (hd : d ≤ Q.length) : rW T z AA f (Q.drop d) wb hb v := by
  intro e g he
  rw [List.getElem?_drop] at he
  have hlt := yl_lt he
  obtain ⟨a1, a2, a3, a4⟩ := h (d + e) g he
  rw [List.length_drop, show Q.length - d - 1 - e = Q.length - 1 - (d + e) by omega]
  refine ⟨a1, ?_, a3, a4⟩
  rw [a2, List.drop_drop]
  congr 2
end
