section
variable {α β γ δ σ τ : Type} {B : Nat → Int32} {u v w x u' v' : xk_St} {T : List (Nat × List Nat × List Nat)} {F : List Nat} {G : List (Nat × Nat × Nat × Int64)} {L : List Nat} {n fu tc mc lim p q len f D k : Nat} {Q Q' Q1 : List sFr} {z : Nat → Nat} {LL : Nat → List Nat} {AA : Nat → sBo} {tt : Nat → Nat} {a : sBo} {H : rH}
/-- a call that is under way: function, instruction, open blocks with what lies in them -/
abbrev rFr : Type := Nat × Nat × List sFr
variable {fs r : List rFr} {y : rFr}
def fN (LL : Nat → List Nat) : List rFr → Nat
  | [] => 0
  | x :: r => fN LL r + (LL x.1).length + sq_h x.2.2
/-- types of all that lies on the stack, lowest first -/
def fW (LL : Nat → List Nat) : List rFr → List Nat
  | [] => []
  | x :: r => fW LL r ++ (LL x.1 ++ sq_f x.2.2)
def fV : List rFr → Nat
  | [] => 0
  | x :: r => fV r + x.2.2.length
theorem fW_len : ∀ {fs : List rFr}, (fW LL fs).length = fN LL fs := by
  intro fs
  induction fs with
  | nil => rfl
  | cons x r ih =>
    show (fW LL r ++ (LL x.1 ++ sq_f x.2.2)).length = fN LL r + (LL x.1).length + sq_h x.2.2
    rw [List.length_append, List.length_append, ih, sq_fl]; omega
/-- where instruction j of a body lies -/
def pq (a : sBo) (j : Nat) : Nat := match a.2.2[j]? with
  | some y => y.1
  | none => a.1
theorem pq_yq {j : Nat} : yq a.2.2 a.1 j = pq a (j + 1) := rfl
theorem pq_at {j : Nat} {y : Nat × sIn} (h : a.2.2[j]? = some y) : pq a j = y.1 := by
  unfold pq
  rw [h]
/-- each instruction can be read at its place -/
theorem yp_codeA : ∀ {l : List (Nat × sIn)} {d p q : Nat} {st : List Bool}, yp_code B lim d st p = .inl (l, q) → ∀ (j : Nat) y, l[j]? = some y → yp_ins B lim y.1 = .inl (y.2, match l[j + 1]? with
    | some y' => y'.1
    | none => q) := by
  intro l
  induction l with
  | nil => intro d p q st _ j y hy; simp at hy
  | cons x l ih =>
    intro d p q st hc j y hy
    obtain ⟨d', b, st0, st', q1, -, -, e3, e4, -, e6⟩ := yp_codeI hc
    cases j with
    | zero =>
      cases hy
      have := yp_codeH e6
      have e : yp_ins B lim x.1 = .inl (x.2, q1) := by rw [e3]; exact e4
      exact e.trans (congrArg (fun q => Sum.inl (x.2, q)) this.symm)
    | succ j => exact ih e6 j y hy
theorem yp_codeP : ∀ {l : List (Nat × sIn)} {d p q : Nat} {st : List Bool}, yp_code B lim d st p = .inl (l, q) → ∀ (j : Nat) y, l[j]? = some y → p ≤ y.1 := by
  intro l
  induction l with
  | nil => intro d p q st _ j y hy; simp at hy
  | cons x l ih =>
    intro d p q st hc j y hy
    obtain ⟨d', b, st0, st', q1, -, -, e3, e4, -, e6⟩ := yp_codeI hc
    have hq := yp_ins_eats _ _ _ e4
    cases j with
    | zero => cases hy; omega
    | succ j =>
      have := ih e6 j y hy
      omega
/-- the ways of one call, as the reference has them: hb is where its operands begin -/
def rW (T : List (Nat × List Nat × List Nat)) (z : Nat → Nat) (AA : Nat → sBo) (f : Nat) (Q : List sFr) (wb hb : Nat) (v : xk_St) : Prop := ∀ (d : Nat) f0, Q[d]? = some f0 → v.2.2.1 34 (wb + (Q.length - 1 - d)) = nI (sb_lab T f0).length ∧ v.2.2.1 35 (wb + (Q.length - 1 - d)) = nI (hb + sq_h (Q.drop (d + 1))) ∧ v.2.2.1 36 (wb + (Q.length - 1 - d)) = (if f0.2.1 = 3 then 1 else 0) ∧ (¬ f0.2.1 = 0 → v.2.2.1 33 (wb + (Q.length - 1 - d)) = if f0.2.1 = 3 then nI (pq (AA f) (f0.1.1 - (z f + 1 + (AA f).2.1.length) + 1)) else v.2.2.1 20 f0.1.2)
/-- a call's state is sound -/
def rGd (T : List (Nat × List Nat × List Nat)) (F : List Nat) (x : rFr) : Prop := x.1 < F.length ∧ ¬ x.2.2 = [] ∧ (∀ (d : Nat) f0, x.2.2[d]? = some f0 → f0.2.2.2.1 = false) ∧ sQb T x.2.2
/-- calls under way, on both sides -/
def RF (T : List (Nat × List Nat × List Nat)) (F : List Nat) (z : Nat → Nat) (LL : Nat → List Nat) (AA : Nat → sBo) (u v : xk_St) : List rFr → Prop
  | [] => True
  | x :: r => (u.2.2.1 48 r.length = nI x.1 ∧ u.2.2.1 49 r.length = nI (fN LL r) ∧ v.2.2.1 31 r.length = nI (fN LL r) ∧ v.2.2.1 32 r.length = nI (fV r) ∧ rW T z AA x.1 x.2.2 (fV r) (fN LL r + (LL x.1).length) v ∧ rGd T F x ∧ ∀ y r', r = y :: r' → u.2.2.1 50 r.length = nI (sEn' (z y.1) (AA y.1) y.2.1) ∧ v.2.2.1 30 r.length = nI (pq (AA y.1) y.2.1)) ∧ RF T F z LL AA u v r
/-- one type wider than the other, one for one -/
def yWd (T : List (Nat × List Nat × List Nat)) (l l' : List Nat) : Prop := l'.length = l.length ∧ ∀ (i : Nat) a b, l[i]? = some a → l'[i]? = some b → (a = b ∨ yfit (yl_f T) a b ∧ b < 150)
/-- each caller goes on where the results of its callee fit -/
def rCh (T : List (Nat × List Nat × List Nat)) (F : List Nat) (tc mc : Nat) (G : List (Nat × Nat × Nat × Int64)) (z : Nat → Nat) (LL : Nat → List Nat) (AA : Nat → sBo) (tt : Nat → Nat) : List rFr → Prop
  | [] => True
  | [_] => True
  | x :: y :: r => (∃ c ps Qn, T[tt x.1]? = some c ∧ yWd T c.2.2 ps ∧ sq_pushes ps y.2.2 = some Qn ∧ sSt T F tc mc G (LL y.1) (z y.1) (tt y.1) (AA y.1) y.2.1 Qn) ∧ rCh T F tc mc G z LL AA tt (y :: r)
/-- what stays of a module while it runs: by class and reference -/
def rSt (D : Nat) (B : Nat → Int32) (len : Nat) (T : List (Nat × List Nat × List Nat)) (F : List Nat) (tc mc : Nat) (G : List (Nat × Nat × Nat × Int64)) (z : Nat → Nat) (LL : Nat → List Nat) (AA : Nat → sBo) (tt : Nat → Nat) (u v : xk_St) : Prop :=
  yCe T u ∧ sEn T F tc mc G u ∧ yTM T v ∧ mEn T F tc mc G v ∧ v.2.2.1 1 = B ∧ v.1 3 = nI len ∧ len ≤ 8192 ∧ ∀ f, f < F.length → (∃ c, hCo T F tc mc G (z f) f (tt f) c (LL f) (AA f) u) ∧ mLo T (LL f) f v ∧ ∃ r2, yp_code B (AA f).1 D [false] r2 = .inl ((AA f).2.2, (AA f).1) ∧ 0 < r2 ∧ r2 ≤ (AA f).1 ∧ (AA f).1 ≤ len ∧ v.2.2.1 10 f = nI r2 ∧ (∀ (j : Nat) x f0 r, (AA f).2.2[j]? = some x → sSt T F tc mc G (LL f) (z f) (tt f) (AA f) j (f0 :: r) → ¬ f0.1.2 = 0 → (x.2.1 = 11 → v.2.2.1 20 f0.1.2 = nI (pq (AA f) (j + 1)) ∧ (f0.2.1 = 4 → v.2.2.1 21 f0.1.2 = 0)) ∧ (x.2.1 = 5 → v.2.2.1 21 f0.1.2 = nI (pq (AA f) (j + 1)))) ∧ ∀ (j : Nat) Qj, j ≤ (AA f).2.2.length → sSt T F tc mc G (LL f) (z f) (tt f) (AA f) j Qj → sQb T Qj
theorem rSt_fu {I J A C : List Nat} (h : rSt D B len T F tc mc G z LL AA tt u v) (hf : yf_fr I J A C u u') (hd : (yf_no [7, 10, 11, 12, 13] I && yf_no [2, 3, 4, 5, 6, 7, 8, 9, 10, 11, 12, 13, 14, 21, 22] A && yf_no [2] C) = true) : rSt D B len T F tc mc G z LL AA tt u' v := by
  have hd' := Bool.and_eq_true_iff.mp hd
  have hd1 := Bool.and_eq_true_iff.mp hd'.1
  have hI := fun k hk => hf.1 k (yf_nok hd1.1 hk)
  have hA := fun k hk => hf.2.2.1 k (yf_nok hd1.2 hk)
  have hB := fun k hk => hf.2.2.2 k (yf_nok hd'.2 hk)
  obtain ⟨h1, h2, h3, h4, h5, h6, h7, h8⟩ := h
  refine ⟨?_, ?_, h3, h4, h5, h6, h7, fun f hf => ?_⟩
  · obtain ⟨⟨a1, a2, a3⟩, b, c⟩ := h1
    refine ⟨⟨(hI 7 (by simp)).trans a1, a2, fun k c hc => ?_⟩, b, fun i hi => by rw [hA 5 (by simp)]; exact c i hi⟩
    have := a3 k c hc
    unfold yk_ty at this ⊢
    rw [hA 2 (by simp), hA 3 (by simp), hA 4 (by simp), hA 6 (by simp)]
    exact this
  · unfold sEn at h2 ⊢
    rw [hI 10 (by simp), hI 11 (by simp), hI 12 (by simp), hI 13 (by simp), hA 12 (by simp), hA 21 (by simp), hA 22 (by simp)]
    exact h2
  · obtain ⟨⟨c, hc⟩, hr⟩ := h8 f hf
    refine ⟨⟨c, ?_⟩, hr⟩
    unfold hCo hIn sRF at hc ⊢
    rw [hA 7 (by simp), hA 8 (by simp), hA 9 (by simp), hA 10 (by simp), hA 11 (by simp), hA 13 (by simp), hA 14 (by simp), hB 2 (by simp)]
    exact hc
theorem rSt_fv {I J A C : List Nat} (h : rSt D B len T F tc mc G z LL AA tt u v) (hf : yf_fr I J A C v v') (hd : (yf_no [3, 12, 13, 14, 15, 18] I && yf_no [1, 4, 5, 6, 7, 8, 9, 10, 12, 13, 14, 15, 20, 21] A) = true) : rSt D B len T F tc mc G z LL AA tt u v' := by
  have hd1 := Bool.and_eq_true_iff.mp hd
  have hI := fun k hk => hf.1 k (yf_nok hd1.1 hk)
  have hA := fun k hk => hf.2.2.1 k (yf_nok hd1.2 hk)
  obtain ⟨h1, h2, h3, h4, h5, h6, h7, h8⟩ := h
  refine ⟨h1, h2, ?_, ?_, by rw [hA 1 (by simp)]; exact h5, (hI 3 (by simp)).trans h6, h7, fun f hf => ?_⟩
  · obtain ⟨a1, a2, a3, a4⟩ := h3
    refine ⟨(hI 12 (by simp)).trans a1, a2, fun j d hj hd2 => ?_, fun i hi => ?_⟩
    · have := a3 j d hj hd2
      exact ⟨yTyS this.1 (hA 4 (by simp)) (hA 5 (by simp)) (hA 6 (by simp)) (hA 7 (by simp)), this.2⟩
    · rw [hA 8 (by simp)]; exact a4 i hi
  · unfold mEn at h4 ⊢
    rw [hI 13 (by simp), hI 14 (by simp), hI 15 (by simp), hI 18 (by simp), hA 9 (by simp), hA 14 (by simp), hA 15 (by simp)]
    exact h4
  · obtain ⟨hc, hm, r2, b1, b2, b3, b4, b5, b6, b7⟩ := h8 f hf
    refine ⟨hc, ?_, r2, b1, b2, b3, b4, by rw [hA 10 (by simp)]; exact b5, ?_, b7⟩
    · unfold mLo at hm ⊢
      rw [hA 12 (by simp), hA 13 (by simp)]
      exact hm
    · rw [hA 20 (by simp), hA 21 (by simp)]
      exact b6
end
