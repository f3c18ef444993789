section
variable {α β γ δ σ τ : Type} {B : Nat → Int32} {u v w x u' v' : xk_St} {T : List (Nat × List Nat × List Nat)} {F : List Nat} {G : List (Nat × Nat × Nat × Int64)} {L : List Nat} {n fu tc mc lim p q len f D k tn : Nat} {Q Q' Q1 Qn : List sFr} {z : Nat → Nat} {LL : Nat → List Nat} {AA : Nat → sBo} {tt : Nat → Nat} {a : sBo} {H : rH} {fs r : List rFr} {y : rFr}
/-- room that objects take -/
def hS : rH → Nat
  | [] => 0
  | e :: r => 1 + e.2.2.2 + hS r
/-- type of part i of an object of type c -/
def pT (c : Nat × List Nat × List Nat) (i : Nat) : Option Nat := if c.1 = 94 then c.2.1[0]? else c.2.1[i]?
/-- one object on both sides, at p -/
def rO (T : List (Nat × List Nat × List Nat)) (H : rH) (k p : Nat) (e : Nat × Nat × Nat × Nat) (u v : xk_St) : Prop := (0 < e.1 ∧ e.1 ≤ 2000 ∧ e.2.1 ≤ 2000) ∧ (u.2.2.1 40 e.1 = nI (yl_f T e.2.2.1) ∧ u.2.2.1 41 e.1 = nI e.2.2.2 ∧ u.2.2.1 42 e.1 = nI p ∧ u.2.2.2 12 p = lN e.1 ∧ u.2.2.1 39 p = 0) ∧ (v.2.2.1 37 e.2.1 = nI (p + 1) ∧ v.2.2.1 38 e.2.1 = nI e.2.2.2 ∧ v.2.2.1 39 e.2.1 = nI e.2.2.1 ∧ v.2.2.1 42 k = nI e.2.1) ∧ ∃ c, T[e.2.2.1]? = some c ∧ (c.1 = 94 ∨ (c.1 = 95 ∧ e.2.2.2 = c.2.1.length)) ∧ ∀ i d, i < e.2.2.2 → pT c i = some d → rv T H (upk d) (u.2.2.2 12 (p + 1 + i)) (u.2.2.1 39 (p + 1 + i)) (v.2.2.2 5 (p + 1 + i))
/-- the heaps -/
def RHp (T : List (Nat × List Nat × List Nat)) (H : rH) (u v : xk_St) : Prop := (u.1 32 = nI (hS H) ∧ v.1 32 = nI (hS H) ∧ hS H ≤ 2000 ∧ v.1 34 = nI H.length) ∧ (∀ (k : Nat) e, H[k]? = some e → rO T H k (hS (H.take k)) e u v) ∧ (∀ (k k' : Nat) (e e' : Nat × Nat × Nat × Nat), H[k]? = some e → H[k']? = some e' → e.1 = e'.1 ∨ e.2.1 = e'.2.1 → k = k') ∧ (∃ m, u.1 30 = nI m ∧ m + H.length = 2000 ∧ ∃ q : Nat → Nat, (∀ i, i < m → u.2.2.1 44 i = nI (q i) ∧ 0 < q i ∧ q i ≤ 2000 ∧ ∀ (k : Nat) e, H[k]? = some e → ¬ e.1 = q i) ∧ ∀ i j, i < m → j < m → q i = q j → i = j) ∧ (∀ i, i < 2001 → (∃ (k : Nat) (e : Nat × Nat × Nat × Nat), H[k]? = some e ∧ e.2.1 = i) ∨ v.2.2.1 38 i = -1) ∧ ∀ i, i < 2001 → u.2.2.1 43 i = 0
/-- globals, memory, table -/
def RG (T : List (Nat × List Nat × List Nat)) (H : rH) (G : List (Nat × Nat × Nat × Int64)) (u v : xk_St) : Prop := u.1 29 = nI G.length ∧ ∀ (k : Nat) a, G[k]? = some a → rv T H a.1 (u.2.2.2 11 k) (u.2.2.1 38 k) (v.2.2.2 2 k)
def RM (u v : xk_St) : Prop := (∀ i, i < 65536 → u.2.2.1 46 i = v.2.2.1 27 i) ∧ ∃ p m, u.1 33 = nI p ∧ v.1 16 = nI p ∧ u.1 34 = nI m ∧ v.1 17 = nI m ∧ p ≤ m ∧ m ≤ 16 ∧ ∀ i, 4096 * p ≤ i → i < 65536 → u.2.2.1 46 i = 0
def RT (F : List Nat) (tc : Nat) (u v : xk_St) : Prop := (∀ i, i < 64 → u.2.2.1 47 i = v.2.2.1 28 i ∧ (u.2.2.1 47 i = -1 ∨ ∃ f, f < F.length ∧ u.2.2.1 47 i = nI f)) ∧ ∃ n, n ≤ 64 ∧ v.1 24 = nI n ∧ (tc = 0 → n = 0) ∧ (tc = 1 → u.2.2.1 16 0 = nI n)
/-- what a run works on beside its stack -/
def RD (T : List (Nat × List Nat × List Nat)) (F : List Nat) (tc : Nat) (H : rH) (G : List (Nat × Nat × Nat × Int64)) (u v : xk_St) : Prop := RHp T H u v ∧ RG T H G u v ∧ RM u v ∧ RT F tc u v
theorem RHp_fu {I J A C : List Nat} (h : RHp T H u v) (hf : yf_fr I J A C u u') (hd : (yf_no [30, 32] I && yf_no [39, 40, 41, 42, 43, 44] A && yf_no [12] C) = true) : RHp T H u' v := by
  have hd' := Bool.and_eq_true_iff.mp hd
  have hd1 := Bool.and_eq_true_iff.mp hd'.1
  have hA := fun k hk => hf.2.2.1 k (yf_nok hd1.2 hk)
  unfold RHp rO at h ⊢
  rw [hf.1 30 (yf_nok hd1.1 (by simp)), hf.1 32 (yf_nok hd1.1 (by simp)), hA 39 (by simp), hA 40 (by simp), hA 41 (by simp), hA 42 (by simp), hA 43 (by simp), hA 44 (by simp), hf.2.2.2 12 (yf_nok hd'.2 (by simp))]
  exact h
theorem RHp_fv {I J A C : List Nat} (h : RHp T H u v) (hf : yf_fr I J A C v v') (hd : (yf_no [32, 34] I && yf_no [37, 38, 39, 42] A && yf_no [5] C) = true) : RHp T H u v' := by
  have hd' := Bool.and_eq_true_iff.mp hd
  have hd1 := Bool.and_eq_true_iff.mp hd'.1
  have hA := fun k hk => hf.2.2.1 k (yf_nok hd1.2 hk)
  unfold RHp rO at h ⊢
  rw [hf.1 32 (yf_nok hd1.1 (by simp)), hf.1 34 (yf_nok hd1.1 (by simp)), hA 37 (by simp), hA 38 (by simp), hA 39 (by simp), hA 42 (by simp), hf.2.2.2 5 (yf_nok hd'.2 (by simp))]
  exact h
theorem RD_fu {I J A C : List Nat} (h : RD T F tc H G u v) (hf : yf_fr I J A C u u') (hd : (yf_no [29, 30, 32, 33, 34] I && yf_no [16, 38, 39, 40, 41, 42, 43, 44, 46, 47] A && yf_no [11, 12] C) = true) : RD T F tc H G u' v := by
  have hd' := Bool.and_eq_true_iff.mp hd
  have hd1 := Bool.and_eq_true_iff.mp hd'.1
  have hI := fun k hk => hf.1 k (yf_nok hd1.1 hk)
  have hA := fun k hk => hf.2.2.1 k (yf_nok hd1.2 hk)
  have hB := fun k hk => hf.2.2.2 k (yf_nok hd'.2 hk)
  unfold RD RHp rO RG RM RT at h ⊢
  rw [hI 29 (by simp), hI 30 (by simp), hI 32 (by simp), hI 33 (by simp), hI 34 (by simp), hA 16 (by simp), hA 38 (by simp), hA 39 (by simp), hA 40 (by simp), hA 41 (by simp), hA 42 (by simp), hA 43 (by simp), hA 44 (by simp), hA 46 (by simp), hA 47 (by simp), hB 11 (by simp), hB 12 (by simp)]
  exact h
theorem RD_fv {I J A C : List Nat} (h : RD T F tc H G u v) (hf : yf_fr I J A C v v') (hd : (yf_no [16, 17, 24, 32, 34] I && yf_no [27, 28, 37, 38, 39, 42] A && yf_no [2, 5] C) = true) : RD T F tc H G u v' := by
  have hd' := Bool.and_eq_true_iff.mp hd
  have hd1 := Bool.and_eq_true_iff.mp hd'.1
  have hI := fun k hk => hf.1 k (yf_nok hd1.1 hk)
  have hA := fun k hk => hf.2.2.1 k (yf_nok hd1.2 hk)
  have hB := fun k hk => hf.2.2.2 k (yf_nok hd'.2 hk)
  unfold RD RHp rO RG RM RT at h ⊢
  rw [hI 16 (by simp), hI 17 (by simp), hI 24 (by simp), hI 32 (by simp), hI 34 (by simp), hA 27 (by simp), hA 28 (by simp), hA 37 (by simp), hA 38 (by simp), hA 39 (by simp), hA 42 (by simp), hB 2 (by simp), hB 5 (by simp)]
  exact h
theorem rW_fr {I J A C : List Nat} {wb hb : Nat} (h : rW T z AA f Q wb hb v) (hf : yf_fr I J A C v v') (hd : yf_no [20, 33, 34, 35, 36] A = true) : rW T z AA f Q wb hb v' := by
  have hA := fun k hk => hf.2.2.1 k (yf_nok hd hk)
  unfold rW at h ⊢
  rw [hA 20 (by simp), hA 33 (by simp), hA 34 (by simp), hA 35 (by simp), hA 36 (by simp)]
  exact h
theorem RF_fu {I J A C : List Nat} (hf : yf_fr I J A C u u') (hd : yf_no [48, 49, 50] A = true) : ∀ {fs : List rFr}, RF T F z LL AA u v fs → RF T F z LL AA u' v fs := by
  have hA := fun k hk => hf.2.2.1 k (yf_nok hd hk)
  intro fs
  induction fs with
  | nil => intro _; exact trivial
  | cons x r ih =>
    intro h
    refine ⟨?_, ih h.2⟩
    rw [hA 48 (by simp), hA 49 (by simp), hA 50 (by simp)]
    exact h.1
theorem RF_fv {I J A C : List Nat} (hf : yf_fr I J A C v v') (hd : yf_no [20, 30, 31, 32, 33, 34, 35, 36] A = true) : ∀ {fs : List rFr}, RF T F z LL AA u v fs → RF T F z LL AA u v' fs := by
  have hA := fun k hk => hf.2.2.1 k (yf_nok hd hk)
  have hd2 : yf_no [20, 33, 34, 35, 36] A = true := List.all_eq_true.mpr fun k hk => List.all_eq_true.mp hd k (by simp at hk ⊢; omega)
  intro fs
  induction fs with
  | nil => intro _; exact trivial
  | cons x r ih =>
    intro h
    refine ⟨?_, ih h.2⟩
    obtain ⟨a1, a2, a3, a4, a5, a6, a7⟩ := h.1
    rw [hA 30 (by simp), hA 31 (by simp), hA 32 (by simp)]
    exact ⟨a1, a2, a3, a4, rW_fr a5 hf hd2, a6, a7⟩
/-- where the innermost call stands -/
def rTp (T : List (Nat × List Nat × List Nat)) (F : List Nat) (tc mc : Nat) (G : List (Nat × Nat × Nat × Int64)) (z : Nat → Nat) (LL : Nat → List Nat) (AA : Nat → sBo) (tt : Nat → Nat) (fs : List rFr) (u v : xk_St) : Prop := ∀ x r, fs = x :: r → u.1 26 = nI (sEn' (z x.1) (AA x.1) x.2.1) ∧ u.1 25 = nI (fN LL r + (LL x.1).length) ∧ v.1 4 = nI (pq (AA x.1) x.2.1) ∧ sSt T F tc mc G (LL x.1) (z x.1) (tt x.1) (AA x.1) x.2.1 x.2.2
/-- both machines, between two instructions -/
def RX (D : Nat) (B : Nat → Int32) (len : Nat) (T : List (Nat × List Nat × List Nat)) (F : List Nat) (tc mc : Nat) (G : List (Nat × Nat × Nat × Int64)) (z : Nat → Nat) (LL : Nat → List Nat) (AA : Nat → sBo) (tt : Nat → Nat) (H : rH) (fs : List rFr) (tn : Nat) (u v : xk_St) : Prop :=
  rSt D B len T F tc mc G z LL AA tt u v ∧ RS T H (fW LL fs) u v ∧ RF T F z LL AA u v fs ∧ rCh T F tc mc G z LL AA tt fs ∧ RD T F tc H G u v ∧ (u.1 24 = nI fs.length ∧ v.1 27 = nI fs.length ∧ fs.length ≤ 60 ∧ v.1 28 = nI (fV fs)) ∧ (u.1 23 = nI tn ∧ v.2.1 2 = lN tn ∧ tn < 2 ^ 31) ∧ (u.1 27 = 0 ∧ v.1 29 = 0 ∧ v.1 6 = 0 ∧ v.1 5 = nI len) ∧ rTp T F tc mc G z LL AA tt fs u v
/-- an instruction that works on the stack alone, on both sides: ended, or the same trap -/
def RO (T : List (Nat × List Nat × List Nat)) (H : rH) (W' : List Nat) (u v : xk_St) (ou ov : Option (Unit × xk_St)) : Prop := ∃ u' v', ou = some ((), u') ∧ ov = some ((), v') ∧ yf_fr [27, 28] [] [37] [10] u u' ∧ yf_fr [26, 29] [] [29] [3] v v' ∧ ((u'.1 27 = 0 ∧ v'.1 29 = 0 ∧ RS T H W' u' v') ∨ ∃ t, 0 < t ∧ t < 20 ∧ u'.1 27 = nI t ∧ v'.1 29 = nI t)
/-- the same blocks, one for one -/
theorem rW_tp {wb hb : Nat} {f0 f1 : sFr} {q : List sFr} (h : rW T z AA f (f0 :: q) wb hb v) (hs : sSm f0 f1) : rW T z AA f (f1 :: q) wb hb v := by
  intro d g hd
  cases d with
  | zero =>
    cases hd
    obtain ⟨a1, a2, a3, a4⟩ := h 0 f0 rfl
    have hl : sb_lab T f1 = sb_lab T f0 := by unfold sb_lab; rw [hs.2.1, hs.2.2]
    rw [hl, hs.2.1, hs.1]
    exact ⟨a1, a2, a3, a4⟩
  | succ d => exact h (d + 1) g hd
end
