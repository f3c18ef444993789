section
variable {α β γ δ : Type} {B : Nat → Int32} {u v w : xk_St} {L lim p q fu D len : Nat} {e : Int32} {T : List (Nat × List Nat × List Nat)} {g : Nat → Nat}
theorem nI_m1 {d : Nat} : nI (d + 1) + (-1) = nI d := by
  have h := nI_subb (a := d) (b := 1)
  rw [Int32.sub_eq_add_neg] at h
  exact h
theorem ym_I7 {x : Int32} (h : ym_st B len p u) : ym_st B len p (xs_I u 7 x) := h
theorem nI_neg1 : nI 0 + (-1) < (0 : Int32) := by decide
theorem ie64 {k : Nat} {o : Option (α × xk_St)} (hk : k < 64) : (if nI k < 0 ∨ 64 ≤ (nI k).toNatClampNeg then none else o) = o := if_neg (nI_in (N := 64) hk (by decide))
theorem yTyS {c : Nat × List Nat × List Nat} {k : Nat} (h : yTy c k v) (h4 : w.2.2.1 4 = v.2.2.1 4) (h5 : w.2.2.1 5 = v.2.2.1 5) (h6 : w.2.2.1 6 = v.2.2.1 6) (h7 : w.2.2.1 7 = v.2.2.1 7) : yTy c k w := by
  unfold yTy
  rw [h4, h5, h6, h7]
  exact h
/-- the first of the types that are the same is looked for, by the reference -/
theorem mm_241 {k : Nat} {c : Nat × List Nat × List Nat} (hfu : 100 ≤ fu) (hk : k < 64) (hc : T[k]? = some c) (hty : ∀ (j : Nat) d, j ≤ k → T[j]? = some d → yTy d j u ∧ yg_ty d ∧ yv_ty T j d) (hL : ∀ i, i < k → u.2.2.1 8 i = nI (yl_f T i)) (h7 : u.1 7 = 0) :
    ∃ w, jb_Model_typeAt_241 fu (nI k) u = some ((), w) ∧ yf_fr [] [] [8] [] u w ∧ (∀ i, ¬ i = k → w.2.2.1 8 i = u.2.2.1 8 i) ∧ w.2.2.1 8 k = nI (yl_f T k) := by
  have hkT := yl_lt hc
  have hah : ∀ j, j ≤ k → yk_ah T j := fun j hj => yk_ah_of (fun d hd => (hty j d hj hd).2.1) (fun d hd => (hty j d hj hd).2.2)
  have hg : ∀ i, i ≤ k → yl_f T i ≤ i := fun i hi => (yl_fP (k := i) (fun j hj => hah j (by omega))).1
  obtain ⟨f1, f2, f3⟩ := yl_fP (k := k) hah
  -- a function that is bounded everywhere
  obtain ⟨G, hGd⟩ : ∃ G : Nat → Nat, ∀ i, G i = if i ≤ k then yl_f T i else 0 := ⟨_, fun _ => rfl⟩
  have hG : ∀ i, G i ≤ i := fun i => by
    rw [hGd]
    split
    · exact hg i (by assumption)
    · omega
  have hGk : ∀ j, j ≤ k → yk_key T G j = yk_key T (yl_f T) j := fun j hj => yk_keyE (hah j hj) fun i hi => by rw [hGd, if_pos (by omega)]
  obtain ⟨P, hPd⟩ : ∃ P : Nat → Bool, P = fun i => decide (yk_key T (yl_f T) i = yk_key T (yl_f T) k) := ⟨_, rfl⟩
  have hP : ∀ i, P i = true ↔ yk_key T (yl_f T) i = yk_key T (yl_f T) k := fun i => by rw [hPd]; exact decide_eq_true_iff
  obtain ⟨H, hHd⟩ : ∃ H : Nat → Nat, ∀ d, H d = if yl_scan P (k - d) d < k then yl_f T (yl_scan P (k - d) d) else k := ⟨_, fun _ => rfl⟩
  have hH0 : H 0 = yl_f T k := by
    have e0 : yl_scan P k 0 = yl_f T k := by rw [hPd]; exact (yl_fs hah).symm
    rw [hHd, Nat.sub_zero, e0]
    by_cases z : yl_f T k < k
    · rw [if_pos z]
      exact yl_ff (k := k) hah (by omega) f2 f3
    · rw [if_neg z]; omega
  have loop : ∀ (d n : Nat) (w : xk_St), d ≤ k → d < n → yf_fr [] [] [8] [] u w → (∀ i, ¬ i = k → w.2.2.1 8 i = u.2.2.1 8 i) → w.2.2.1 8 k = nI (H d) → ∃ w', jb_Model_typeAt_252 fu n (nI k) (nI d + (-1)) w = some ((), w') ∧ yf_fr [] [] [8] [] u w' ∧ (∀ i, ¬ i = k → w'.2.2.1 8 i = u.2.2.1 8 i) ∧ w'.2.2.1 8 k = nI (H 0) := by
    intro d
    induction d with
    | zero =>
      intro n w h1 h2 hf ho hH
      obtain ⟨n, rfl⟩ : ∃ m, n = m + 1 := ⟨n - 1, by omega⟩
      unfold jb_Model_typeAt_252
      simp only [xs_let]
      rw [if_pos nI_neg1]
      exact ⟨w, rfl, hf, ho, hH⟩
    | succ d ih =>
      intro n w h1 h2 hf ho hH
      obtain ⟨n, rfl⟩ : ∃ m, n = m + 1 := ⟨n - 1, by omega⟩
      obtain ⟨dd, hd⟩ := yl_get (l := T) (k := d) (by omega)
      have tw : ∀ (j : Nat) d, j ≤ k → T[j]? = some d → yTy d j w := fun j d hj hd => yTyS (hty j d hj hd).1 (hf.2.2.1 4 (by decide)) (hf.2.2.1 5 (by decide)) (hf.2.2.1 6 (by decide)) (hf.2.2.1 7 (by decide))
      obtain ⟨a1, a2⟩ := mm_alike (u := w) (fu := fu) (g := G) hfu hc hd hk (by omega) (tw k c (Nat.le_refl _) hc) (tw d dd (by omega) hd) (hty k c (Nat.le_refl _) hc).2.1 (hty d dd (by omega) hd).2.1 (hty k c (Nat.le_refl _) hc).2.2 (hty d dd (by omega) hd).2.2 (fun i hi => by
        rw [ho i (by omega), hL i hi, hGd, if_pos (by omega)]) (fun i hi => by
        rw [ho i (by omega), hL i (by omega), hGd, if_pos (by omega)]) hG
      rw [hGk d (by omega), hGk k (Nat.le_refl _)] at a1 a2
      have hw7 : w.1 7 = 0 := by rw [hf.1 7 (by decide)]; exact h7
      have hd0 : ¬ nI d < 0 := nI_pos (by omega)
      rw [nI_m1]
      unfold jb_Model_typeAt_252 jb_Model_typeAt_284
      simp only [xs_let]
      rw [if_neg hd0, if_pos hw7]
      have hs : yl_scan P (k - d) d = if P d then d else yl_scan P (k - (d + 1)) (d + 1) := by
        rw [show k - d = k - (d + 1) + 1 by omega, yl_scan_s]
      by_cases he : yk_key T (yl_f T) d = yk_key T (yl_f T) k
      · rw [a1 he, ys_seq, if_neg (show ¬ (1 : Int32) = 0 by decide), ie64 (by omega), ie64 hk, nI_clamp (by omega), nI_clamp (by omega)]
        refine ih n _ (by omega) (by omega) (yf_A hf (by decide)) (fun i hi => ?_) ?_
        · show upd (w.2.2.1 8) k (w.2.2.1 8 d) i = _
          rw [ya_j hi]; exact ho i hi
        · show upd (w.2.2.1 8) k (w.2.2.1 8 d) k = _
          rw [ya_t, ho d (by omega), hL d (by omega)]
          rw [hHd, hs, if_pos ((hP d).mpr he), if_pos (by omega)]
      · rw [a2 he, ys_seq, if_pos rfl]
        refine ih n _ (by omega) (by omega) hf ho ?_
        rw [hH, hHd, hHd, hs, if_neg (fun z => he ((hP d).mp z))]
  unfold jb_Model_typeAt_241
  simp only [xs_let]
  rw [ie64 hk, nI_clamp (by omega), Int32.sub_eq_add_neg]
  have hk0 : H k = k := by
    rw [hHd, Nat.sub_self, yl_scan_0, if_neg (Nat.lt_irrefl _)]
  obtain ⟨w, e1, e2, e3, e4⟩ := loop k fu (xs_A u 8 k (nI k)) (Nat.le_refl _) (by omega) (yf_A yf_refl (by decide)) (fun i hi => by
    show upd (u.2.2.1 8) k (nI k) i = _
    rw [ya_j hi]) (by
    show upd (u.2.2.1 8) k (nI k) k = _
    rw [ya_t, hk0])
  exact ⟨w, e1, e2, e3, by rw [e4, hH0]⟩
theorem mx_241 {k : Nat} (hfu : 100 ≤ fu) (hk : k < 64) (h7 : u.1 7 = 1) : ∃ w, jb_Model_typeAt_241 fu (nI k) u = some ((), w) ∧ yf_fr [] [] [8] [] u w := by
  unfold jb_Model_typeAt_241
  simp only [xs_let]
  rw [ie64 hk, nI_clamp (by omega)]
  obtain ⟨f, rfl⟩ : ∃ m, fu = m + 1 := ⟨fu - 1, by omega⟩
  unfold jb_Model_typeAt_252
  simp only [xs_let]
  refine ⟨xs_A u 8 k (nI k), ?_, yf_A yf_refl (by decide)⟩
  rw [if_neg (show ¬ (xs_A u 8 k (nI k)).1 7 = 0 from by rw [show (xs_A u 8 k (nI k)).1 7 = u.1 7 from rfl, h7]; decide)]
  split <;> rfl
/-- a row of value types is taken down -/
theorem mm_partRow {k o n e : Nat} {l : List Nat} (hfu : 100 ≤ fu) (ho : o = 0 ∨ o = 16) (hk : k < 64) (hkT : k + 1 ≤ T.length) (hK : yKm T (k + 1) u) (h : ym_st B len p u) (h6 : u.1 6 = 0) (h7 : u.1 7 = 0) (e1 : yp_N B len p = .inl (n, q)) (e2 : yp_rep (yp_V B len) n q = .inl (l, e)) (hz : ∀ i, i < 16 → u.2.2.1 7 (32 * k + o + i) = 0) :
    ∃ r v, fm_Model_partRow fu (nI k) (nI o) u = some (r, v) ∧ v.1 6 = 0 ∧ yf_fr [4, 7] [] [7] [] u v ∧ (∀ i, (i < 32 * k + o ∨ 32 * k + o + 16 ≤ i) → v.2.2.1 7 i = u.2.2.1 7 i) ∧ (((l.length ≤ 16 ∧ ∀ (i : Nat) x, l[i]? = some x → yv_in T (k + 1) x) ∧ r = nI l.length ∧ v.1 7 = 0 ∧ ym_st B len e v ∧ ∀ i, i < 16 → v.2.2.1 7 (32 * k + o + i) = nI (l.getD i 0)) ∨ (¬ (l.length ≤ 16 ∧ ∀ (i : Nat) x, l[i]? = some x → yv_in T (k + 1) x) ∧ v.1 7 = 1)) := by
  have hlen := yp_repl e2
  obtain ⟨hn32, -, -⟩ := yp_Nb e1
  unfold fm_Model_partRow jb_Model_partRow_21
  rw [mk_N (by omega) h h6 e1, ys_seq, if_pos (show (xs_I u 4 (nI q)).1 7 = 0 from h7)]
  have hq := (yp_Nb e1).2
  have hw : ym_st B len q (xs_I u 4 (nI q)) := ym_mv h (by omega)
  by_cases h16 : n ≤ 16
  · rw [if_pos (show lN n ≤ 16 from (pk_lLE (b := 16) (by omega) (by decide)).mpr h16)]
    unfold jb_Model_partRow_26
    simp only [xs_let, if_true, true_or]
    have hoff : ∀ j, (32 : Int32) * nI k + nI o + nI j = nI (32 * k + o + j) := fun j => by rw [nI_32, nI_add]
    have := mt_loop (B := B) (len := len) (l := l) (it := yp_V B len) (fun _ x => yv_in T (k + 1) x) (fun j v => yf_fr [4, 7] [] [7] [] u v ∧ (∀ i, (i < 32 * k + o ∨ 32 * k + o + 16 ≤ i) → v.2.2.1 7 i = u.2.2.1 7 i) ∧ ∀ i, i < 16 → v.2.2.1 7 (32 * k + o + i) = nI (if i < j then l.getD i 0 else 0)) (fun v => yf_fr [4, 7] [] [7] [] u v ∧ (∀ i, (i < 32 * k + o ∨ 32 * k + o + 16 ≤ i) → v.2.2.1 7 i = u.2.2.1 7 i)) (fun m j v => jb_Model_partRow_32 fu m (nI k) (nI o) (lN n) (nI j) v) (fun v => some ((lN n).toInt32, v)) (fun m v => ?_) (fun m j v hj hv => ?_) (fun m j x p q v hl hp hv v6 v7 hI => ?_) n 0 q e fu (xs_I (xs_I u 4 (nI q)) 7 0) (by omega) (by omega) (by rw [List.drop_zero]; exact e2) (fun _ => hw) h6 rfl ⟨yf_I (yf_I yf_refl (by decide)) (by decide), fun _ _ => rfl, fun i hi => by
      rw [if_neg (by omega)]
      exact hz i hi⟩
    · obtain ⟨v, g1, g2, g3⟩ := this
      have g1' : jb_Model_partRow_32 fu fu (nI k) (nI o) (lN n) 0 (xs_I (xs_I u 4 (nI q)) 7 0) = some ((lN n).toInt32, v) := g1
      rw [g1']
      rcases g3 with ⟨c1, c2, c3, c3'⟩ | ⟨⟨j, x, c1, c1'⟩, c2, c3⟩
      · refine ⟨_, v, rfl, g2, c3.1, c3.2.1, Or.inl ⟨⟨by omega, fun i x hx => c1 i x (Nat.zero_le _) hx⟩, by rw [lN_i, hlen], c2, ?_, fun i hi => ?_⟩⟩
        · exact c3'  (ym_I7 hw)
        · rw [c3.2.2 i hi]
          by_cases z : i < l.length
          · rw [if_pos z]
          · rw [if_neg z, List.getD_eq_getElem?_getD, List.getElem?_eq_none (by omega)]; rfl
      · exact ⟨_, v, rfl, g2, c3.1, c3.2, Or.inr ⟨fun z => c1' (z.2 j x c1), c2⟩⟩
    · show jb_Model_partRow_32 fu (m + 1) (nI k) (nI o) (lN n) (nI l.length) v = _
      unfold jb_Model_partRow_32
      simp only [xs_let]
      rw [nI_toL (by omega), hlen, if_pos (Int64.le_refl _)]
    · show jb_Model_partRow_32 fu (m + 1) (nI k) (nI o) (lN n) (nI j) v = _
      unfold jb_Model_partRow_32
      simp only [xs_let]
      rw [if_neg (show ¬ v.1 7 = 0 by rw [hv]; decide)]
      split <;> rfl
    · have hjl := yl_lt hl
      obtain ⟨i1, i2, i3⟩ := hI
      have hxb := yp_Vb hp
      have hxe := yp_V_eats hp
      have hK2 : yKm T (k + 1) (xs_I v 4 (nI q)) := fun a b ha hb => by
        have := hK a b ha hb
        refine ⟨?_, this.2⟩
        show v.2.2.1 4 a = _
        rw [i1.2.2.1 4 (by decide)]
        exact this.1
      obtain ⟨t1, t2⟩ := mm_there (x := x) (n := k + 1) (u := xs_I v 4 (nI q)) (by omega) (by omega) hkT hK2
      have hstep : jb_Model_partRow_32 fu (m + 1) (nI k) (nI o) (lN n) (nI j) v = xs_seq (fm_Model_isThere (nI x) (nI (k + 1)) (xs_I v 4 (nI q))) fun a6 u7 => if a6 = 0 then jb_Model_partRow_71 fu (jb_Model_partRow_32 fu m) (nI k) (nI o) (lN n) (nI j) (nI x) 1 u7 else jb_Model_partRow_71 fu (jb_Model_partRow_32 fu m) (nI k) (nI o) (lN n) (nI j) (nI x) 0 u7 := by
        conv => lhs; unfold jb_Model_partRow_32
        simp only [xs_let]
        rw [nI_toL (by omega), if_neg (fun z => by have := (pk_lLE (by omega) (by omega)).mp z; omega), if_pos v7, mk_V (by omega) hv v6 hp, ys_seq, nI_1]
      show ∃ v', jb_Model_partRow_32 fu (m + 1) (nI k) (nI o) (lN n) (nI j) v = _ ∧ _
      rw [hstep]
      have h71 : ∀ s : Int32, (s = 0 ∨ s = 1) → jb_Model_partRow_71 fu (jb_Model_partRow_32 fu m) (nI k) (nI o) (lN n) (nI j) (nI x) s (xs_I v 4 (nI q)) = jb_Model_partRow_32 fu m (nI k) (nI o) (lN n) (nI (j + 1)) (xs_A (xs_I (xs_I v 4 (nI q)) 7 s) 7 (32 * k + o + j) (nI x)) := fun s hs => by
        unfold jb_Model_partRow_71
        simp only [xs_let]
        rw [if_pos hs, hoff, if_neg (nI_in (N := 2048) (by omega) (by decide)), nI_clamp (by omega), nI_1]
      have hfr : ∀ s : Int32, yf_fr [4, 7] [] [7] [] u (xs_A (xs_I (xs_I v 4 (nI q)) 7 s) 7 (32 * k + o + j) (nI x)) ∧ (∀ i, (i < 32 * k + o ∨ 32 * k + o + 16 ≤ i) → (xs_A (xs_I (xs_I v 4 (nI q)) 7 s) 7 (32 * k + o + j) (nI x)).2.2.1 7 i = u.2.2.1 7 i) := fun s => by
        refine ⟨yf_A (yf_I (yf_I i1 (by decide)) (by decide)) (by decide), fun i hi => ?_⟩
        show upd (v.2.2.1 7) (32 * k + o + j) (nI x) i = _
        rw [ya_j (by omega)]
        exact i2 i hi
      by_cases ht : yv_in T (k + 1) x
      · rw [t1 ht, ys_seq, if_neg (show ¬ (1 : Int32) = 0 by decide), h71 0 (Or.inl rfl)]
        refine ⟨_, rfl, v6, Or.inl ⟨ht, rfl, ⟨hv.1, rfl, hv.2.2.1, hxe.2, hv.2.2.2.2⟩, (hfr 0).1, (hfr 0).2, fun i hi => ?_⟩⟩
        show upd (v.2.2.1 7) (32 * k + o + j) (nI x) (32 * k + o + i) = _
        by_cases z : i = j
        · rw [z, ya_t, if_pos (by omega), yl_gds hl]
        · rw [ya_j (by omega), i3 i hi]
          by_cases z2 : i < j
          · rw [if_pos z2, if_pos (by omega)]
          · rw [if_neg z2, if_neg (by omega)]
      · rw [t2 ht, ys_seq, if_pos rfl, h71 1 (Or.inr rfl)]
        exact ⟨_, rfl, v6, Or.inr ⟨ht, rfl, hfr 1⟩⟩
  · rw [if_neg (show ¬ lN n ≤ 16 from fun z => h16 ((pk_lLE (b := 16) (by omega) (by decide)).mp z))]
    unfold jb_Model_partRow_26
    simp only [xs_let, if_true, or_true]
    obtain ⟨f, hf⟩ : ∃ m, fu = m + 1 := ⟨fu - 1, by omega⟩
    have hx : jb_Model_partRow_32 fu fu (nI k) (nI o) (lN n) 0 (xs_I (xs_I u 4 (nI q)) 7 1) = some ((lN n).toInt32, xs_I (xs_I u 4 (nI q)) 7 1) := by
      conv => lhs; rw [hf]
      unfold jb_Model_partRow_32
      simp only [xs_let]
      rw [if_neg (show ¬ (xs_I (xs_I u 4 (nI q)) 7 1).1 7 = 0 by rw [ys_Ig]; decide)]
      split <;> rfl
    rw [hx]
    exact ⟨_, _, rfl, h6, yf_I (yf_I yf_refl (by decide)) (by decide), fun _ _ => rfl, Or.inr ⟨fun z => by have := z.1; omega, rfl⟩⟩
end
