section
variable {α β γ δ σ τ : Type} {u v w x u0 u' v' : xk_St} {T : List (Nat × List Nat × List Nat)} {W W' : List Nat} {n fu k c c' : Nat}
/-- the objects of both heaps, as they lie: number by the class, by the reference, type, size -/
abbrev rH : Type := List (Nat × Nat × Nat × Nat)
variable {H H' : rH}
/-- a small number as the class has it -/
def ri (n : Nat) : Int64 := Int64.ofInt ((n : Int) - 2147483648)
/-- a value of type c: the class's, with its mark, and the reference's -/
def rv (T : List (Nat × List Nat × List Nat)) (H : rH) (c : Nat) (xh : Int64) (fh : Int32) (xm : Int64) : Prop :=
  (c = 1 ∧ xh = xm ∧ fh = 0 ∧ xm.toInt32.toInt64 = xm) ∨ (c = 2 ∧ xh = xm ∧ fh = 0) ∨ (16 ≤ c ∧ c < 150 ∧ ((xh = 0 ∧ xm = 0 ∧ c % 2 = 1 ∧ (fh = 0 ∨ fh = 1)) ∨ (fh = 1 ∧ c < 20 ∧ ∃ n, n < 2 ^ 31 ∧ xh = ri n ∧ xm = lN (2 * n + 1)) ∨ (fh = 1 ∧ ∃ (k : Nat) (e : Nat × Nat × Nat × Nat), H[k]? = some e ∧ xh = lN e.1 ∧ xm = lN (2 * e.2.1 + 2) ∧ (c < 18 ∨ (20 ≤ c ∧ yl_f T e.2.2.1 = yl_f T ((c - 20) / 2))))))
theorem rv_1 {x : Int64} {f : Int32} {y : Int64} (h : rv T H 1 x f y) : x = y ∧ f = 0 ∧ y.toInt32.toInt64 = y := by
  rcases h with ⟨-, a, b, c⟩ | ⟨a, -⟩ | ⟨a, -⟩
  · exact ⟨a, b, c⟩
  · cases a
  · omega
theorem rv_2 {x : Int64} {f : Int32} {y : Int64} (h : rv T H 2 x f y) : x = y ∧ f = 0 := by
  rcases h with ⟨a, -⟩ | ⟨-, a, b⟩ | ⟨a, -⟩
  · cases a
  · exact ⟨a, b⟩
  · omega
theorem rv_n1 {y : Int64} (h : y.toInt32.toInt64 = y) : rv T H 1 y 0 y := Or.inl ⟨rfl, rfl, rfl, h⟩
theorem rv_n2 {y : Int64} : rv T H 2 y 0 y := Or.inr (Or.inl ⟨rfl, rfl, rfl⟩)
theorem rv_i {y : Int32} : rv T H 1 y.toInt64 0 y.toInt64 := rv_n1 (by rw [Int32.toInt32_toInt64])
theorem rv_f {x : Int64} {f : Int32} {y : Int64} (h : rv T H c x f y) : f = 0 ∨ f = 1 := by
  rcases h with ⟨-, -, b, -⟩ | ⟨-, -, b⟩ | ⟨-, -, ⟨-, -, -, b⟩ | ⟨b, -⟩ | ⟨b, -⟩⟩
  · exact Or.inl b
  · exact Or.inl b
  · exact b
  · exact Or.inr b
  · exact Or.inr b
theorem rv_c {x : Int64} {f : Int32} {y : Int64} (h : rv T H c x f y) : c = 1 ∨ c = 2 ∨ (16 ≤ c ∧ c < 150) := by
  rcases h with ⟨a, -⟩ | ⟨a, -⟩ | ⟨a, b, -⟩
  · exact Or.inl a
  · exact Or.inr (Or.inl a)
  · exact Or.inr (Or.inr ⟨a, b⟩)
/-- a value of a type is one of every wider type -/
theorem rv_fit {x : Int64} {f : Int32} {y : Int64} (h : rv T H c x f y) (hf : yfit (yl_f T) c c') (hc : c' < 150) : rv T H c' x f y := by
  have h0 := rv_c h
  by_cases z : c = c'
  · rw [← z]; exact h
  · have hf : 16 ≤ c ∧ 16 ≤ c' ∧ c % 2 ≤ c' % 2 ∧ (c = 816 ∨ (c - 16) / 2 = (c' - 16) / 2 ∨ (c' - 16) / 2 = 0 ∨ (20 ≤ c ∧ 20 ≤ c' ∧ yl_f T ((c - 20) / 2) = yl_f T ((c' - 20) / 2))) := by
      rcases hf with y | y | y
      · omega
      · exact absurd y z
      · exact y
    obtain ⟨f1, f2, f3, f4⟩ := hf
    rcases h with ⟨a, -⟩ | ⟨a, -⟩ | ⟨-, -, h⟩
    · omega
    · omega
    · refine Or.inr (Or.inr ⟨f2, hc, ?_⟩)
      rcases h with ⟨a, b, d, e⟩ | ⟨a, b, n, d, e⟩ | ⟨a, k, e, e1, e2, e3, e4⟩
      · exact Or.inl ⟨a, b, by omega, e⟩
      · exact Or.inr (Or.inl ⟨a, by omega, n, d, e⟩)
      · refine Or.inr (Or.inr ⟨a, k, e, e1, e2, e3, ?_⟩)
        rcases f4 with y | y | y | ⟨y1, y2, y3⟩
        · omega
        · rcases e4 with t | ⟨t1, t2⟩
          · exact Or.inl (by omega)
          · exact Or.inr ⟨by omega, by rw [t2, show (c - 20) / 2 = (c' - 20) / 2 by omega]⟩
        · exact Or.inl (by omega)
        · rcases e4 with t | ⟨t1, t2⟩
          · omega
          · exact Or.inr ⟨y2, t2.trans y3⟩
/-- the stacks, with the types of what lies there -/
def RS (T : List (Nat × List Nat × List Nat)) (H : rH) (W : List Nat) (u v : xk_St) : Prop := u.1 28 = nI W.length ∧ v.1 26 = nI W.length ∧ W.length ≤ 18000 ∧ ∀ (i : Nat) c, W[i]? = some c → rv T H c (u.2.2.2 10 i) (u.2.2.1 37 i) (v.2.2.2 3 i) ∧ v.2.2.1 29 i = (if 16 ≤ c then 1 else 0)
theorem RS_fu {I J A C : List Nat} (h : RS T H W u v) (hf : yf_fr I J A C u u') (hd : (yf_no [28] I && yf_no [37] A && yf_no [10] C) = true) : RS T H W u' v := by
  have hd' := Bool.and_eq_true_iff.mp hd
  have hd1 := Bool.and_eq_true_iff.mp hd'.1
  unfold RS
  rw [hf.1 28 (yf_nok hd1.1 (by simp)), hf.2.2.1 37 (yf_nok hd1.2 (by simp)), hf.2.2.2 10 (yf_nok hd'.2 (by simp))]
  exact h
theorem RS_fv {I J A C : List Nat} (h : RS T H W u v) (hf : yf_fr I J A C v v') (hd : (yf_no [26] I && yf_no [29] A && yf_no [3] C) = true) : RS T H W u v' := by
  have hd' := Bool.and_eq_true_iff.mp hd
  have hd1 := Bool.and_eq_true_iff.mp hd'.1
  unfold RS
  rw [hf.1 26 (yf_nok hd1.1 (by simp)), hf.2.2.1 29 (yf_nok hd1.2 (by simp)), hf.2.2.2 3 (yf_nok hd'.2 (by simp))]
  exact h
/-- a value on top, on each side -/
def uP (u : xk_St) (n : Nat) (x : Int64) (f : Int32) : xk_St := xs_I (xs_A (xs_B u 10 n x) 37 n f) 28 (nI (n + 1))
def vP (v : xk_St) (n : Nat) (x : Int64) (f : Int32) : xk_St := xs_I (xs_A (xs_B v 3 n x) 29 n f) 26 (nI (n + 1))
theorem uP_f {x : Int64} {f : Int32} : yf_fr [28] [] [37] [10] u (uP u n x f) := yf_I (yf_A (yf_B yf_refl (by decide)) (by decide)) (by decide)
theorem vP_f {x : Int64} {f : Int32} : yf_fr [26] [] [29] [3] v (vP v n x f) := yf_I (yf_A (yf_B yf_refl (by decide)) (by decide)) (by decide)
theorem RS_push {x : Int64} {f : Int32} {y : Int64} (h : RS T H W u v) (hl : W.length < 18000) (hr : rv T H c x f y) : RS T H (W ++ [c]) (uP u W.length x f) (vP v W.length y (if 16 ≤ c then 1 else 0)) := by
  obtain ⟨h1, h2, h3, h4⟩ := h
  have hlen : (W ++ [c]).length = W.length + 1 := by rw [List.length_append, List.length_singleton]
  refine ⟨by rw [hlen]; rfl, by rw [hlen]; rfl, by omega, fun i d hd => ?_⟩
  have hi := yl_lt hd
  by_cases z : i = W.length
  · subst z
    rw [List.getElem?_append_right (Nat.le_refl _), Nat.sub_self] at hd
    cases hd
    refine ⟨?_, ?_⟩
    · show rv T H c (vp_updL (u.2.2.2 10) W.length x W.length) (upd (u.2.2.1 37) W.length f W.length) (vp_updL (v.2.2.2 3) W.length y W.length)
      rw [yb_t, ya_t, yb_t]
      exact hr
    · show upd (v.2.2.1 29) W.length _ W.length = _
      rw [ya_t]
  · rw [List.getElem?_append_left (by omega)] at hd
    obtain ⟨a, b⟩ := h4 i d hd
    refine ⟨?_, ?_⟩
    · show rv T H d (vp_updL (u.2.2.2 10) W.length x i) (upd (u.2.2.1 37) W.length f i) (vp_updL (v.2.2.2 3) W.length y i)
      rw [yb_j z, ya_j z, yb_j z]
      exact a
    · show upd (v.2.2.1 29) W.length _ i = _
      rw [ya_j z]
      exact b
theorem RS_pop (h : RS T H (W ++ [c]) u v) : RS T H W (xs_I u 28 (nI W.length)) (xs_I v 26 (nI W.length)) ∧ rv T H c (u.2.2.2 10 W.length) (u.2.2.1 37 W.length) (v.2.2.2 3 W.length) ∧ v.2.2.1 29 W.length = (if 16 ≤ c then 1 else 0) := by
  obtain ⟨h1, h2, h3, h4⟩ := h
  have hlen : (W ++ [c]).length = W.length + 1 := by rw [List.length_append, List.length_singleton]
  refine ⟨⟨rfl, rfl, by omega, fun i d hd => ?_⟩, ?_⟩
  · exact h4 i d (by rw [List.getElem?_append_left (yl_lt hd)]; exact hd)
  · exact h4 W.length c (by rw [List.getElem?_append_right (Nat.le_refl _), Nat.sub_self]; rfl)
theorem ix18 {k : Nat} {o : Option (α × xk_St)} (hk : k < 18000) : (if nI k < 0 ∨ 18000 ≤ (nI k).toNatClampNeg then none else o) = o := if_neg (nI_in (N := 18000) hk (by decide))
theorem ix19 {k : Nat} {o : Option (α × xk_St)} (hk : k < 19000) : (if nI k < 0 ∨ 19000 ≤ (nI k).toNatClampNeg then none else o) = o := if_neg (nI_in (N := 19000) hk (by decide))
theorem hp_pop (h : u.1 28 = nI (n + 1)) (hn : n < 18000) : fm_Values_pop__h61 u = some (u.2.2.2 10 n, xs_I u 28 (nI n)) := by
  unfold fm_Values_pop__h61
  simp only [xs_let]
  rw [h, nI_pred]
  have e : (xs_I u 28 (nI n)).1 28 = nI n := rfl
  rw [e, ix18 hn, nI_clamp (by omega)]
  rfl
theorem mp_drop (h : v.1 26 = nI (n + 1)) (hn : n < 18000) : fm_Model_drop v = some (v.2.2.2 3 n, xs_I v 26 (nI n)) := by
  unfold fm_Model_drop
  simp only [xs_let]
  rw [h, nI_pred]
  have e : (xs_I v 26 (nI n)).1 26 = nI n := rfl
  rw [e, ix19 (by omega), nI_clamp (by omega)]
  rfl
theorem bo_0 : vp_nar .boolean (0 : Int32) = 0 := by decide
theorem bo_1 : vp_nar .boolean (1 : Int32) = 1 := by decide
theorem hp_push {x : Int64} (h : u.1 28 = nI n) (hn : n < 18000) : fm_Values_push__h61 x u = some ((), uP u n x 0) := by
  unfold fm_Values_push__h61
  simp only [xs_let]
  rw [h, ix18 hn, nI_clamp (by omega)]
  have e : (xs_B u 10 n x).1 28 = nI n := h
  rw [e, ix18 hn, nI_clamp (by omega), bo_0]
  have e2 : (xs_A (xs_B u 10 n x) 37 n 0).1 28 = nI n := h
  rw [e2, nI_1]
  rfl
theorem hp_pushR {x : Int64} (h : u.1 28 = nI n) (hn : n < 18000) : fm_Values_pushReference__h61 x u = some ((), uP u n x 1) := by
  unfold fm_Values_pushReference__h61
  simp only [xs_let]
  rw [h, ix18 hn, nI_clamp (by omega)]
  have e : (xs_B u 10 n x).1 28 = nI n := h
  rw [e, ix18 hn, nI_clamp (by omega), bo_1]
  have e2 : (xs_A (xs_B u 10 n x) 37 n 1).1 28 = nI n := h
  rw [e2, nI_1]
  rfl
theorem mp_lay {x : Int64} {b : Int32} (h : v.1 26 = nI n) (hn : n < 18000) (hb : b = 0 ∨ b = 1) : fm_Model_lay x b v = some ((), vP v n x b) := by
  unfold fm_Model_lay
  simp only [xs_let]
  rw [h, ix19 (by omega), nI_clamp (by omega)]
  have e : (xs_B v 3 n x).1 26 = nI n := h
  have eb : vp_nar .boolean b = b := by rcases hb with rfl | rfl <;> decide
  rw [e, ix19 (by omega), nI_clamp (by omega), eb]
  have e2 : (xs_A (xs_B v 3 n x) 29 n b).1 26 = nI n := h
  rw [e2, nI_1]
  rfl
theorem mp_tell {x : Int64} (h : v.1 26 = nI n) (hn : n < 18000) : fm_Model_tell x v = some ((), vP v n x 0) := by
  unfold fm_Model_tell
  rw [mp_lay h hn (Or.inl rfl), ys_seq]
end
