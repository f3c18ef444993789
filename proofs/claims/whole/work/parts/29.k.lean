section
variable {α β γ δ σ τ : Type} {u v w u0 : xk_St} {g : Nat → Nat} {T : List (Nat × List Nat × List Nat)} {F : List Nat} {G : List (Nat × Nat × Nat × Int64)} {L : List Nat} {n fu tc mc : Nat} {Q Q' : List sFr} {s : Option (List sFr)}
theorem mk_s (h : mK T u0 s v) : (∃ Q, s = some Q ∧ v.1 7 = 0) ∨ (s = none ∧ v.1 7 = 1) := by
  obtain ⟨-, ⟨Q, -, -, hs⟩, -⟩ := h
  rcases hs with ⟨e, h7⟩ | ⟨e, h7⟩
  · exact Or.inl ⟨Q, e, h7⟩
  · exact Or.inr ⟨e, h7⟩
/-- while it is right, the first values of a row are taken; when it is wrong, it stays so -/
theorem ml_229 {b : Bool} {t : Option Nat ⊕ Int64} {m : Nat} {E : xk_St → Option (Unit × xk_St)} (hk : sb_ok T t) (hr : sb_rd t) (hm : m ≤ (sb_pr T b t).length) (hE : ∀ v, E v = jb_Model_checkReferences_260 fu (yb_m t) (if b then 1 else 0) (nI (sb_pr T b t).length) v) : ∀ (k n : Nat) (s : Option (List sFr)) (v : xk_St), k ≤ m → k < n → mK T u0 s v → ∃ w, jb_Model_checkReferences_229 fu n (yb_m t) (if b then 1 else 0) (nI (sb_pr T b t).length) (nI k + (-1)) v = E w ∧ mK T u0 (s.bind (sq_takes (yl_f T) ((sb_pr T b t).take k).reverse)) w := by
  intro k
  induction k with
  | zero =>
    intro n s v _ hn h
    obtain ⟨n, rfl⟩ : ∃ m, n = m + 1 := ⟨n - 1, by omega⟩
    refine ⟨v, ?_, ?_⟩
    · unfold jb_Model_checkReferences_229
      simp only [xs_let]
      rw [if_pos nI_neg1, hE]
    · rw [List.take_zero]
      have : s.bind (sq_takes (yl_f T) [].reverse) = s := by cases s <;> rfl
      rw [this]
      exact h
  | succ k ih =>
    intro n s v hk2 hn h
    obtain ⟨n, rfl⟩ : ∃ m, n = m + 1 := ⟨n - 1, by omega⟩
    obtain ⟨d, hd⟩ := yl_get (l := sb_pr T b t) (k := k) (by omega)
    obtain ⟨hl, hv⟩ := sb_prV (b := b) h.1 hk hr
    rw [nI_m1]
    unfold jb_Model_checkReferences_229
    simp only [xs_let]
    rw [if_neg (nI_pos (by omega))]
    have hst : ((sb_pr T b t).take (k + 1)).reverse = d :: ((sb_pr T b t).take k).reverse := by
      rw [List.take_add_one, hd]
      simp
    rcases mk_s h with ⟨Q0, rfl, h7⟩ | ⟨rfl, h7⟩
    · rw [if_pos h7, mb_type h.1 hk hr hd, ys_seq]
      obtain ⟨r, w, e1, hw⟩ := ml_take h (hv k d hd).1
      rw [e1, ys_seq]
      obtain ⟨x, x1, x2⟩ := ih n _ w (by omega) (by omega) hw
      refine ⟨x, x1, ?_⟩
      rw [hst]
      exact x2
    · rw [if_neg (by rw [h7]; decide)]
      exact ⟨v, (hE v).symm, h⟩
theorem ml_263 {b : Bool} {t : Option Nat ⊕ Int64} {m : Nat} (hk : sb_ok T t) (hr : sb_rd t) (hm : m + 1 = (sb_pr T b t).length) : ∀ (j k n : Nat) (s : Option (List sFr)) (v : xk_St), k + j = m → j < n → mK T u0 s v → MC (jb_Model_checkReferences_263 fu n (yb_m t) (if b then 1 else 0) (nI (sb_pr T b t).length) (nI k) v) fun _ w => mK T u0 (s.bind (sq_pushes (((sb_pr T b t).take m).drop k))) w := by
  intro j
  induction j with
  | zero =>
    intro k n s v hkm hn h
    obtain ⟨n, rfl⟩ : ∃ m, n = m + 1 := ⟨n - 1, by omega⟩
    obtain rfl : k = m := by omega
    unfold jb_Model_checkReferences_263
    simp only [xs_let]
    rw [← hm, nI_pred, if_pos (Int32.le_refl _), List.drop_eq_nil_of_le (by rw [List.length_take]; omega)]
    have : s.bind (sq_pushes []) = s := by cases s <;> rfl
    rw [this]
    exact MC_ok h
  | succ j ih =>
    intro k n s v hkm hn h
    obtain ⟨n, rfl⟩ : ∃ m, n = m + 1 := ⟨n - 1, by omega⟩
    obtain ⟨d, hd⟩ := yl_get (l := sb_pr T b t) (k := k) (by omega)
    obtain ⟨hl, hv⟩ := sb_prV (b := b) h.1 hk hr
    have hd' : ((sb_pr T b t).take m)[k]? = some d := by rw [List.getElem?_take, if_pos (by omega)]; exact hd
    have hst : ((sb_pr T b t).take m).drop k = d :: ((sb_pr T b t).take m).drop (k + 1) := by
      have hlk : k < ((sb_pr T b t).take m).length := yl_lt hd'
      rw [List.drop_eq_getElem_cons hlk]
      congr 1
      have := List.getElem?_eq_getElem (l := (sb_pr T b t).take m) (i := k) hlk
      rw [hd'] at this
      exact (Option.some.inj this).symm
    unfold jb_Model_checkReferences_263
    simp only [xs_let]
    have hc : nI (sb_pr T b t).length - 1 = nI m := by rw [← hm, nI_pred]
    rw [hc, if_neg (nI_ge (by omega) (by omega))]
    rcases mk_s h with ⟨Q0, rfl, h7⟩ | ⟨rfl, h7⟩
    · rw [if_pos h7, mb_type h.1 hk hr hd, ys_seq]
      refine MC_seq (ml_push h (hv k d hd).2.1) fun _ w hw => ?_
      rw [nI_1]
      refine MC_mono (ih (k + 1) n _ w (by omega) (by omega) hw) fun _ x hx => ?_
      rw [hst]
      exact hx
    · rw [if_neg (by rw [h7]; decide)]
      exact MC_ok h
end
