section
variable {α β γ δ σ τ : Type} {B : Nat → Int32} {u v w u' v' u0 v0 : xk_St} {T : List (Nat × List Nat × List Nat)} {F : List Nat} {G : List (Nat × Nat × Nat × Int64)} {L : List Nat} {n fu tc mc lim p q len f D k tn tn' j d b g : Nat} {H H' : rH}
/-- the declared locals -/
def lD (ls : List (Nat × Nat)) : List Nat := ls.flatMap fun p => List.replicate p.1 p.2
theorem sq_dclL : ∀ {ls : List (Nat × Nat)} {L0 L : List Nat}, sq_dcl T ls L0 = some L → L = L0 ++ lD ls ∧ ∀ c, c ∈ lD ls → ydf c := by
  intro ls
  induction ls with
  | nil =>
    intro L0 L h
    cases h
    exact ⟨(List.append_nil _).symm, fun c hc => by cases hc⟩
  | cons p ls ih =>
    intro L0 L h
    obtain ⟨h1, h2⟩ := xp_if h
    obtain ⟨a1, a2⟩ := ih h2
    have e : lD (p :: ls) = List.replicate p.1 p.2 ++ lD ls := by unfold lD; rw [List.flatMap_cons]
    refine ⟨by rw [e, a1, List.append_assoc], fun c hc => ?_⟩
    rw [e] at hc
    rcases List.mem_append.mp hc with y | y
    · rw [List.eq_of_mem_replicate y]; exact h1.2.1
    · exact a2 c y
/-- a value that a local begins with -/
theorem rv_zero {c : Nat} (h : ydf c) (hc : c = 1 ∨ c = 2 ∨ (16 ≤ c ∧ c < 150)) : rv T H c 0 0 0 := by
  rcases hc with rfl | rfl | hc
  · exact rv_n1 (by decide)
  · exact rv_n2
  · refine Or.inr (Or.inr ⟨hc.1, hc.2, Or.inl ⟨rfl, rfl, ?_, Or.inl rfl⟩⟩)
    unfold ydf at h
    omega
/-- the reference lays the locals -/
theorem mp_140 {t : Nat} (hL : mLo T L g v) (hfr : yf_fr [26] [] [29] [3] v v) : ∀ (d k n : Nat) (x : xk_St), k + d = L.length → d < n → yf_fr [26] [] [29] [3] v x → x.1 26 = nI (b + k) → b + L.length ≤ 18000 → ∃ v', jb_Model_enter_140 fu n (nI g) (nI t) (nI k) x = (if nI t < 0 ∨ 64 ≤ (nI t).toNatClampNeg then none else xs_seq (fm_Model_beginWay (0 : Int32) (v'.2.2.1 6 (nI t).toNatClampNeg) (v'.1 26) (0 : Int32) v') fun _ u11 => if nI g < 0 ∨ 64 ≤ (nI g).toNatClampNeg then none else some ((), xs_I u11 4 (u11.2.2.1 10 (nI g).toNatClampNeg))) ∧ yf_fr [26] [] [29] [3] v v' ∧ v'.1 26 = nI (b + L.length) ∧ (∀ (i : Nat) c, k ≤ i → L[i]? = some c → v'.2.2.2 3 (b + i) = 0 ∧ v'.2.2.1 29 (b + i) = (if 16 ≤ c then 1 else 0)) ∧ ∀ i, i < b + k → v'.2.2.2 3 i = x.2.2.2 3 i ∧ v'.2.2.1 29 i = x.2.2.1 29 i := by
  intro d
  induction d with
  | zero =>
    intro k n x hk hn hf h26 hb
    obtain ⟨n, rfl⟩ : ∃ m, n = m + 1 := ⟨n - 1, by omega⟩
    have e12 : x.2.2.1 12 g = nI L.length := by rw [hf.2.2.1 12 (by decide)]; exact hL.1
    have hg := hL.2.2.1
    refine ⟨x, ?_, hf, by rw [h26, show k = L.length by omega], fun i c hi hc => by have := yl_lt hc; omega, fun i _ => ⟨rfl, rfl⟩⟩
    conv => lhs; unfold jb_Model_enter_140
    simp only [xs_let]
    have eg : (nI g).toNatClampNeg = g := nI_clamp (by omega)
    rw [if_neg (nI_in (N := 64) hg (by decide)), eg, e12, if_pos (nI_le (by omega) (by have := hL.2.1; omega))]
  | succ d ih =>
    intro k n x hk hn hf h26 hb
    obtain ⟨n, rfl⟩ : ∃ m, n = m + 1 := ⟨n - 1, by omega⟩
    have e12 : x.2.2.1 12 g = nI L.length := by rw [hf.2.2.1 12 (by decide)]; exact hL.1
    have hg := hL.2.2.1
    have hL200 := hL.2.1
    obtain ⟨c, hc⟩ := yl_get (l := L) (k := k) (by omega)
    obtain ⟨l1, l2, l3⟩ := hL.2.2.2 k c hc
    have e13 : x.2.2.1 13 (200 * g + k) = nI c := by rw [hf.2.2.1 13 (by decide)]; exact l1
    have hr01 : (if c < 16 then (0 : Int32) else 1) = 0 ∨ (if c < 16 then (0 : Int32) else 1) = 1 := by split <;> simp
    have hstep : jb_Model_enter_140 fu (n + 1) (nI g) (nI t) (nI k) x = jb_Model_enter_140 fu n (nI g) (nI t) (nI (k + 1)) (vP x (b + k) 0 (if c < 16 then 0 else 1)) := by
      conv => lhs; unfold jb_Model_enter_140
      simp only [xs_let]
      have eg : (nI g).toNatClampNeg = g := nI_clamp (by omega)
      rw [if_neg (nI_in (N := 64) hg (by decide)), eg, e12, if_neg (nI_ge (by omega) (by omega)), nI_200, if_neg (nI_in (N := 12800) (by omega) (by decide)), nI_clamp (by omega), e13, mm_isR c (Or.inl l2.1), ys_seq, mp_lay h26 (by omega) hr01, ys_seq, nI_1]
    obtain ⟨v', w1, w2, w3, w4, w5⟩ := ih (k + 1) n (vP x (b + k) 0 (if c < 16 then 0 else 1)) (by omega) (by omega) (yf_trans hf vP_f) rfl hb
    refine ⟨v', hstep.trans w1, w2, w3, fun i e hi he => ?_, fun i hi => ?_⟩
    · by_cases zi : i = k
      · subst zi
        rw [hc] at he; cases he
        rw [(w5 (b + i) (by omega)).1, (w5 (b + i) (by omega)).2]
        show vp_updL (x.2.2.2 3) (b + i) 0 (b + i) = 0 ∧ upd (x.2.2.1 29) (b + i) (if c < 16 then 0 else 1) (b + i) = _
        rw [yb_t, ya_t]
        refine ⟨rfl, ?_⟩
        by_cases z : c < 16
        · rw [if_pos z, if_neg (by omega)]
        · rw [if_neg z, if_pos (by omega)]
      · exact w4 i e (by omega) he
    · rw [(w5 i (by omega)).1, (w5 i (by omega)).2]
      show vp_updL (x.2.2.2 3) (b + k) 0 i = _ ∧ upd (x.2.2.1 29) (b + k) _ i = _
      rw [yb_j (by omega), ya_j (by omega)]
      exact ⟨rfl, rfl⟩
end
