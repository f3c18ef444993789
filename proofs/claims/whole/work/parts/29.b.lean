section
variable {α β γ δ σ τ : Type} {u v w u0 : xk_St} {g : Nat → Nat} {T : List (Nat × List Nat × List Nat)} {n fu : Nat} {Q Q' : List sFr} {s : Option (List sFr)}
/-- since u0 only the stack and the flag have changed -/
def mK (T : List (Nat × List Nat × List Nat)) (u0 : xk_St) (s : Option (List sFr)) (v : xk_St) : Prop := yTM T v ∧ mR T s v ∧ yf_fr [7, 21] [] [22] [] u0 v
theorem mK_n {s' : Option (List sFr)} (h : mK T u0 s v) (h2 : mR T s' w) (hf : yf_fr [7, 21] [] [22] [] v w) : mK T u0 s' w := ⟨yTM_fr h.1 hf (by decide), h2, yf_trans h.2.2 hf⟩
theorem ml_take {x : Nat} (h : mK T u0 s v) (hx : yvw T.length x) : MC (fm_Model_take (nI x) v) fun _ w => mK T u0 (s.bind (sq_take (yl_f T) x)) w := MC_mono (mr_take h.1 h.2.1 hx) fun _ _ hp => mK_n h hp.1 (yf_mono hp.2 (by decide))
theorem ml_push {c : Nat} (h : mK T u0 s v) (hc : yvs T.length c) : MC (fm_Model_push (nI c) v) fun _ w => mK T u0 (s.bind (sq_push c)) w := MC_mono (mr_push h.2.1 hc) fun _ _ hp => mK_n h hp.1 hp.2
/-- the flag is set by a condition -/
theorem ml_flag {P : Prop} {x : Int32} (h : mK T u0 s v) (hx : x = 0 ∨ x = 1) (h0 : x = 0 ↔ v.1 7 = 0 ∧ P) : mK T u0 (xs_if P s) (xs_I v 7 x) := by
  obtain ⟨hE, ⟨Q, hS, hQ, hs⟩, hf⟩ := h
  have hf2 : yf_fr [7, 21] [] [22] [] v (xs_I v 7 x) := yf_I yf_refl (by decide)
  refine ⟨yTM_fr hE hf2 (by decide), ⟨Q, mS_fr hS (yf_I (I := [7]) (J := []) (A := []) (B := []) yf_refl (by decide)) (by decide), hQ, ?_⟩, yf_trans hf hf2⟩
  rcases hx with rfl | rfl
  · obtain ⟨a, b⟩ := h0.mp rfl
    rcases hs with ⟨rfl, -⟩ | ⟨-, h7⟩
    · exact Or.inl ⟨xs_ifp b, rfl⟩
    · rw [h7] at a; exact absurd a (by decide)
  · refine Or.inr ⟨?_, rfl⟩
    rcases hs with ⟨rfl, h7⟩ | ⟨rfl, -⟩
    · exact xs_ifn fun b => absurd (h0.mpr ⟨h7, b⟩) (by decide)
    · by_cases z : P
      · rw [xs_ifp z]
      · rw [xs_ifn z]
theorem ml_7 (h : mK T u0 s v) : v.1 7 = 0 ∨ v.1 7 = 1 := by
  obtain ⟨-, ⟨Q, -, -, hs⟩, -⟩ := h
  rcases hs with ⟨-, h7⟩ | ⟨-, h7⟩
  · exact Or.inl h7
  · exact Or.inr h7
theorem ml_no (h : mK T u0 s v) : mK T u0 none (xs_I v 7 1) := by
  have := ml_flag (P := False) (x := 1) h (Or.inr rfl) ⟨fun y => absurd y (by decide), fun y => y.2.elim⟩
  rw [xs_ifn id] at this
  exact this
/-- parts of a type, by the reference -/
theorem yTM_p {t i d : Nat} {c : Nat × List Nat × List Nat} (hE : yTM T v) (hc : T[t]? = some c) (hd : c.2.1[i]? = some d) : v.2.2.1 7 (32 * t + i) = nI d ∧ i < 16 ∧ t < 64 := by
  have ht := yl_lt hc
  have hl := yl_lt hd
  obtain ⟨a, b, e⟩ := hE.2.2.1 t c ht hc
  have h64 := hE.2.1.1
  refine ⟨?_, by have := e.1; omega, by omega⟩
  rw [a.2.2.2.1 i (by have := e.1; omega), List.getD_eq_getElem?_getD, hd]; rfl
theorem yTM_r {t i d : Nat} {c : Nat × List Nat × List Nat} (hE : yTM T v) (hc : T[t]? = some c) (hd : c.2.2[i]? = some d) (hi : i < 16) : v.2.2.1 7 (32 * t + 16 + i) = nI d ∧ t < 64 := by
  have ht := yl_lt hc
  obtain ⟨a, b, e⟩ := hE.2.2.1 t c ht hc
  have h64 := hE.2.1.1
  refine ⟨?_, by omega⟩
  rw [a.2.2.2.2 i hi, List.getD_eq_getElem?_getD, hd]; rfl
theorem yTM_g (hE : yTM T v) : ∀ (k : Nat) c, T[k]? = some c → yg_ty c := fun k c hc => (hE.2.2.1 k c (yl_lt hc) hc).2.1
/-- a block's parameters (b 0) or results (b 1) -/
def sb_pr (T : List (Nat × List Nat × List Nat)) (b : Bool) (t : Option Nat ⊕ Int64) : List Nat := if b then sb_res T t else sb_par T t
theorem sb_prV {b : Bool} {t : Option Nat ⊕ Int64} (hE : yTM T v) (h : sb_ok T t) (hr : sb_rd t) : (sb_pr T b t).length ≤ 16 ∧ ∀ (i : Nat) d, (sb_pr T b t)[i]? = some d → yvw T.length d ∧ yvs T.length d ∧ 0 < d := by
  cases b with
  | false => exact sb_parV (yTM_g hE) hE.2.1 h
  | true => exact sb_resV (yTM_g hE) hE.2.1 h hr
theorem lN_neg2 : ∀ c, c < 150 → ¬ (0 : Int64) ≤ -2 - lN c ∧ ¬ (-1 : Int64) ≤ -2 - lN c ∧ ((-2 : Int64) - (-2 - lN c)).toInt32 = nI c := by decide +kernel
theorem mb_count {b : Bool} {t : Option Nat ⊕ Int64} (hE : yTM T v) (h : sb_ok T t) (hr : sb_rd t) : fm_Model_countOf (yb_m t) (if b then 1 else 0) v = some (nI (sb_pr T b t).length, v) := by
  have h64 := hE.2.1.1
  unfold fm_Model_countOf
  rcases t with (_ | c) | x
  · show (if (0 : Int64) ≤ -1 then _ else _) = _
    rw [if_neg (by decide)]
    cases b
    · rw [if_pos (show (if false = true then (1 : Int32) else 0) = 0 from rfl)]; rfl
    · rw [if_neg (show ¬ (if true = true then (1 : Int32) else 0) = 0 by decide)]; rfl
  · obtain ⟨r1, r2, r3⟩ := hr
    obtain ⟨n1, n2, -⟩ := lN_neg2 c r2
    show (if (0 : Int64) ≤ -2 - lN c then _ else _) = _
    rw [if_neg n1]
    cases b
    · rw [if_pos (show (if false = true then (1 : Int32) else 0) = 0 from rfl)]; rfl
    · rw [if_neg (show ¬ (if true = true then (1 : Int32) else 0) = 0 by decide)]
      show (if (-1 : Int64) ≤ -2 - lN c then _ else _) = _
      rw [if_neg n2]; rfl
  · obtain ⟨c, hc, h6, hlt, -⟩ := sb_fn (yTM_g hE) hE.2.1 h
    have hx0 : 0 ≤ x := h.1
    show (if (0 : Int64) ≤ x then _ else _) = _
    rw [if_pos hx0]
    have hx : x.toInt32 = nI (sb_n x) := by
      obtain ⟨k, hk, rfl⟩ := pk_lOf (x := x) (by
        intro y
        exact absurd hx0 (Int64.not_le.mpr y))
      have e : sb_n (lN k) = k := yx_lN hk
      rw [e] at hlt ⊢
      rw [← nI_toL (n := k) (by omega)]
      exact Int32.toInt32_toInt64 _
    obtain ⟨a, -, e⟩ := hE.2.2.1 _ c (yl_lt hc) hc
    rw [show yb_m (.inr x) = x from rfl, hx]
    cases b
    · rw [if_pos (show (if false = true then (1 : Int32) else 0) = 0 from rfl), if_neg (nI_in (N := 64) hlt (by decide)), nI_clamp (by omega), a.2.1]
      show _ = some (nI (sb_par T (.inr x)).length, v)
      have : sb_par T (.inr x) = c.2.1 := by
        show (match T[sb_n x]? with
          | none => []
          | some c => c.2.1) = _
        rw [hc]
      rw [this]
    · rw [if_neg (show ¬ (if true = true then (1 : Int32) else 0) = 0 by decide), if_neg (nI_in (N := 64) hlt (by decide)), nI_clamp (by omega), a.2.2.1, if_pos h6]
      show _ = some (nI (sb_res T (.inr x)).length, v)
      have : sb_res T (.inr x) = c.2.2 := by
        show (match T[sb_n x]? with
          | none => []
          | some c => c.2.2) = _
        rw [hc]
      rw [this]
theorem mb_type {b : Bool} {t : Option Nat ⊕ Int64} {i d : Nat} (hE : yTM T v) (h : sb_ok T t) (hr : sb_rd t) (hd : (sb_pr T b t)[i]? = some d) : fm_Model_typeOf (yb_m t) (if b then 1 else 0) (nI i) v = some (nI d, v) := by
  have h64 := hE.2.1.1
  unfold fm_Model_typeOf
  rcases t with (_ | c) | x
  · cases b <;> simp [sb_pr, sb_par, sb_res] at hd
  · obtain ⟨r1, r2, r3⟩ := hr
    obtain ⟨n1, n2, n3⟩ := lN_neg2 c r2
    cases b
    · simp [sb_pr, sb_par] at hd
    · have hd : [c][i]? = some d := hd
      have hi := yl_lt hd
      obtain rfl : i = 0 := by simp at hi; omega
      have hcd : c = d := Option.some.inj hd
      subst hcd
      show (if (0 : Int64) ≤ -2 - lN c then _ else _) = _
      rw [if_neg n1]
      show some (((-2 : Int64) - (-2 - lN c)).toInt32, v) = _
      rw [n3]
  · obtain ⟨c, hc, h6, hlt, l1, l2, -⟩ := sb_fn (yTM_g hE) hE.2.1 h
    have hx0 : 0 ≤ x := h.1
    show (if (0 : Int64) ≤ x then _ else _) = _
    rw [if_pos hx0]
    have hx : x.toInt32 = nI (sb_n x) := by
      obtain ⟨k, hk, rfl⟩ := pk_lOf (x := x) (by
        intro y
        exact absurd hx0 (Int64.not_le.mpr y))
      have e : sb_n (lN k) = k := yx_lN hk
      rw [e] at hlt ⊢
      rw [← nI_toL (n := k) (by omega)]
      exact Int32.toInt32_toInt64 _
    rw [show yb_m (.inr x) = x from rfl, hx]
    cases b
    · have hd : (match T[sb_n x]? with
        | none => []
        | some c => c.2.1)[i]? = some d := hd
      rw [hc] at hd
      obtain ⟨p1, p2, p3⟩ := yTM_p hE hc hd
      rw [if_pos (show (if false = true then (1 : Int32) else 0) = 0 from rfl), Int32.add_zero, nI_32, if_neg (nI_in (N := 2048) (by omega) (by decide)), nI_clamp (by omega), p1]
    · have hd : (match T[sb_n x]? with
        | none => []
        | some c => c.2.2)[i]? = some d := hd
      rw [hc] at hd
      have hi := yl_lt hd
      obtain ⟨p1, p3⟩ := yTM_r hE hc hd (by have : c.2.2.length ≤ 16 := l2; have hi : i < c.2.2.length := hi; omega)
      have hi : i < c.2.2.length := hi
      have l2 : c.2.2.length ≤ 16 := l2
      rw [if_neg (show ¬ (if true = true then (1 : Int32) else 0) = 0 by decide), show (32 : Int32) * nI (sb_n x) + 16 = nI (32 * sb_n x + 16) from nI_32 (i := 16), nI_add, if_neg (nI_in (N := 2048) (by omega) (by decide)), nI_clamp (by omega), p1]
/-- all that a block takes -/
theorem ml_takeAll {b : Bool} {t : Option Nat ⊕ Int64} (hfu : 200 ≤ fu) (h : mK T u0 s v) (hk : sb_ok T t) (hr : sb_rd t) : MC (fm_Model_takeAll fu (yb_m t) (if b then 1 else 0) v) fun _ w => mK T u0 (s.bind (sq_takes (yl_f T) (sb_pr T b t).reverse)) w := by
  unfold fm_Model_takeAll
  simp only [xs_let]
  rw [mb_count h.1 hk hr, ys_seq, Int32.sub_eq_add_neg]
  obtain ⟨hl, hv⟩ := sb_prV (b := b) h.1 hk hr
  have loop : ∀ (k n : Nat) (s : Option (List sFr)) (v : xk_St), k ≤ (sb_pr T b t).length → k < n → mK T u0 s v → MC (jb_Model_takeAll_10 fu n (yb_m t) (if b then 1 else 0) (nI k + (-1)) v) fun _ w => mK T u0 (s.bind (sq_takes (yl_f T) ((sb_pr T b t).take k).reverse)) w := by
    intro k
    induction k with
    | zero =>
      intro n s v _ hn h
      obtain ⟨n, rfl⟩ : ∃ m, n = m + 1 := ⟨n - 1, by omega⟩
      unfold jb_Model_takeAll_10
      simp only [xs_let]
      rw [if_pos nI_neg1]
      refine MC_ok ?_
      rw [List.take_zero]
      have : s.bind (sq_takes (yl_f T) [].reverse) = s := by cases s <;> rfl
      rw [this]
      exact h
    | succ k ih =>
      intro n s v hk2 hn h
      obtain ⟨n, rfl⟩ : ∃ m, n = m + 1 := ⟨n - 1, by omega⟩
      obtain ⟨d, hd⟩ := yl_get (l := sb_pr T b t) (k := k) (by omega)
      rw [nI_m1]
      unfold jb_Model_takeAll_10
      simp only [xs_let]
      rw [if_neg (nI_pos (by omega)), mb_type h.1 hk hr hd, ys_seq]
      refine MC_seq (ml_take h (hv k d hd).1) fun _ w hw => ?_
      have hst : ((sb_pr T b t).take (k + 1)).reverse = d :: ((sb_pr T b t).take k).reverse := by
        rw [List.take_add_one, hd]
        simp
      have : (s.bind (sq_take (yl_f T) d)).bind (sq_takes (yl_f T) ((sb_pr T b t).take k).reverse) = s.bind (sq_takes (yl_f T) ((sb_pr T b t).take (k + 1)).reverse) := by
        rw [hst, Option.bind_assoc]
        rfl
      rw [← this]
      exact ih n _ w (by omega) (by omega) hw
  have := loop (sb_pr T b t).length fu s v (Nat.le_refl _) (by omega) h
  rw [List.take_length] at this
  exact this
/-- all that a block brings -/
theorem ml_bring {b : Bool} {t : Option Nat ⊕ Int64} (hfu : 200 ≤ fu) (h : mK T u0 s v) (hk : sb_ok T t) (hr : sb_rd t) : MC (fm_Model_bring fu (yb_m t) (if b then 1 else 0) v) fun _ w => mK T u0 (s.bind (sq_pushes (sb_pr T b t))) w := by
  unfold fm_Model_bring
  obtain ⟨hl, hv⟩ := sb_prV (b := b) h.1 hk hr
  have loop : ∀ (m k n : Nat) (s : Option (List sFr)) (v : xk_St), k + m = (sb_pr T b t).length → m < n → mK T u0 s v → MC (jb_Model_bring_3 fu n (yb_m t) (if b then 1 else 0) (nI k) v) fun _ w => mK T u0 (s.bind (sq_pushes ((sb_pr T b t).drop k))) w := by
    intro m
    induction m with
    | zero =>
      intro k n s v hkm hn h
      obtain ⟨n, rfl⟩ : ∃ m, n = m + 1 := ⟨n - 1, by omega⟩
      obtain rfl : k = (sb_pr T b t).length := by omega
      unfold jb_Model_bring_3
      simp only [xs_let]
      rw [mb_count h.1 hk hr, ys_seq, if_pos (Int32.le_refl _), List.drop_length]
      refine MC_ok ?_
      have : s.bind (sq_pushes []) = s := by cases s <;> rfl
      rw [this]
      exact h
    | succ m ih =>
      intro k n s v hkm hn h
      obtain ⟨n, rfl⟩ : ∃ m, n = m + 1 := ⟨n - 1, by omega⟩
      obtain ⟨d, hd⟩ := yl_get (l := sb_pr T b t) (k := k) (by omega)
      unfold jb_Model_bring_3
      simp only [xs_let]
      rw [mb_count h.1 hk hr, ys_seq, if_neg (nI_ge (by omega) (by omega)), mb_type h.1 hk hr hd, ys_seq]
      refine MC_seq (ml_push h (hv k d hd).2.1) fun _ w hw => ?_
      have hst : (sb_pr T b t).drop k = d :: (sb_pr T b t).drop (k + 1) := by
        rw [List.drop_eq_getElem_cons (by omega)]
        congr 1
        have := List.getElem?_eq_getElem (l := sb_pr T b t) (i := k) (by omega)
        rw [hd] at this
        exact (Option.some.inj this).symm
      have : (s.bind (sq_push d)).bind (sq_pushes ((sb_pr T b t).drop (k + 1))) = s.bind (sq_pushes ((sb_pr T b t).drop k)) := by
        rw [hst, Option.bind_assoc]
        rfl
      rw [← this, nI_1]
      exact ih (k + 1) n _ w (by omega) (by omega) hw
  have := loop (sb_pr T b t).length 0 fu s v (by omega) (by omega) h
  rw [List.drop_zero] at this
  exact this
end
