section
variable {α β γ δ : Type} {B : Nat → Int32} {u v w : xk_St} {L lim p q fu : Nat} {e : Int32}
theorem yp_code_ge : ∀ {d : Nat} {st : List Bool} {p : Nat} {l : List (Nat × Nat × (Option Nat ⊕ Int64) × Int64 × Nat × List Nat)} {q : Nat}, p ≤ lim → yp_code B lim d st p = .inl (l, q) → p ≤ q ∧ q ≤ lim := by
  intro d
  induction d with
  | zero => intro st p l q _ h; rw [yp_code_0] at h; cases h
  | succ d ih =>
    intro st p l q hp h
    cases st with
    | nil => rw [yp_code_n] at h; cases h; exact ⟨Nat.le_refl _, hp⟩
    | cons s st =>
      rw [yp_code_s] at h
      obtain ⟨i, r, h1, h⟩ := yp_thenI h
      have := yp_ins_eats _ _ _ h1
      generalize yn_next i.1 s st = o at h
      cases o with
      | none => cases h
      | some st' =>
        obtain ⟨l', r', h2, h⟩ := yp_thenI h
        have := ih (by omega) h2
        cases h
        omega
theorem yp_body_eats {D : Nat} : yp_eats L (yp_body D B L) := by
  intro p a q h
  obtain ⟨n, r, h1, h⟩ := yp_thenI h
  have := yp_Nb h1
  split at h
  · obtain ⟨g, r2, h2, h⟩ := yp_thenI h
    obtain ⟨ls, r3, h3, h⟩ := yp_thenI h
    obtain ⟨is, r4, h4, h⟩ := yp_thenI h
    have := yp_Nb h2
    have := yp_rep_eats yp_loc_eats h3
    have := yp_code_ge (by omega) h4
    split at h
    · cases h; omega
    · cases h
  · cases h
theorem mm_s10 {D : Nat} (hD : 8193 ≤ D) (hfu : 20 ≤ fu) (hn : lim + 3 ≤ fu) (hp3 : 3 ≤ p) (h : ym_st B lim p u) (h6 : u.1 6 = 0) : zC B lim p (fm_Model_section fu 10 u) (yp_then (yp_N B lim p) fun n q => yp_rep (yp_body D B lim) n q) (zJ B lim fun _ _ _ => True) := by
  refine mm_sec (by decide) yp_body_eats (fun v K => xs_seq (fm_Model_bodyForm fu v) fun _ w => K w) ?_ ?_ hfu hn hp3 h h6
  · intro n N k v hk h6
    conv => lhs; unfold jb_Model_section_20
    simp only [xs_let]
    rw [if_neg hk, if_pos h6, if_neg (by decide), if_neg (by decide), if_neg (by decide), if_neg (by decide), if_neg (by decide), if_neg (by decide), if_neg (by decide), if_neg (by decide), if_neg (by decide), if_pos trivial, ← lN_1]
    rfl
  · intro p v K hp hv h6 hK
    rw [yp_self (s := yp_body D B lim p)]
    refine zC_seq (mm_body hD hfu hn hp hv h6) (fun a q b v _ _ h h6 _ => ?_) fun k r v q h h6 => hK _ _ _ ym_c0 h h6
    exact zC_ok (Nat.le_refl _) ⟨v, rfl, h, h6⟩
/-- elements: the place, and the functions -/
def yp_el (B : Nat → Int32) (lim p : Nat) : ((Int64 × List Nat) × Nat) ⊕ Nat := yp_then (yp_place B lim p) fun x q => yp_then (yp_N B lim q) fun n q => yp_then (yp_rep (yp_N B lim) n q) fun l q => .inl ((x, l), q)
theorem yp_el_eats : yp_eats lim (yp_el B lim) := by
  intro p a q h
  obtain ⟨x, r, h1, h⟩ := yp_thenI h
  obtain ⟨n, r2, h2, h⟩ := yp_thenI h
  obtain ⟨l, r3, h3, h⟩ := yp_thenI h
  have := yp_place_eats h1
  have := yp_Nb h2
  have := yp_rep_eats yp_N_eats' h3
  cases h; omega
theorem mx_s158 {n : Nat} {x : Int32} {y z t : Int64} {K : Int32 → Int64 → Int64 → xk_St → Option (Unit × xk_St)} (hK : ∀ w q, ym_st B lim q w → w.1 6 = e → ym_X B lim e (K x y (z + 1) w)) (he : ¬ e = 0) (h : ym_st B lim q v) (h6 : v.1 6 = e) : ym_X B lim e (jb_Model_section_158 fu K (n + 1) x y z t v) := by
  unfold jb_Model_section_158 jb_Model_section_186 jb_Model_section_204
  refine yx_let (yx_ite (fun _ => hK v q h h6) fun _ => ?_)
  rw [if_neg (by rw [h6]; exact he)]
  exact hK v q h h6
theorem mm_s158 {N k : Nat} {id : Int32} {m : Nat} (hm : m < 2 ^ 32) {K : Int32 → Int64 → Int64 → xk_St → Option (Unit × xk_St)} (hK : ∀ e w q, ¬ e = 0 → ym_st B lim q w → w.1 6 = e → ym_X B lim e (K id (lN N) (lN (k + 1)) w)) (hfu : 20 ≤ fu) (hn : lim + 3 ≤ fu) (h : ym_st B lim p u) (h6 : u.1 6 = 0) :
    zC B lim p (jb_Model_section_158 fu K fu id (lN N) (lN k) (lN m) u) (yp_rep (yp_N B lim) m p) fun _ q o => ∃ w, o = K id (lN N) (lN (k + 1)) w ∧ ym_st B lim q w ∧ w.1 6 = 0 := by
  have := zC_rep (B := B) (lim := lim) (lim2 := lim) (it := yp_N B lim) yp_N_eats' (fun _ _ => True) m (fun n j v => jb_Model_section_158 fu K n id (lN N) (lN k) (lN (m - j)) v) (fun v => K id (lN N) (lN (k + 1)) v) ?_ ?_ (lim - p + 1) [] p fu u (by omega) (by omega) (Nat.zero_le _) (Nat.zero_le _) h h6 trivial
  · refine zC_mono this fun l q e1 e2 hj => ?_
    obtain ⟨v, e3, e4, e5, -⟩ := hj
    exact ⟨v, e3, e4, e5⟩
  · intro n j v hj _
    show jb_Model_section_158 fu K (n + 1) id (lN N) (lN k) (lN (m - j)) v = _
    unfold jb_Model_section_158 jb_Model_section_186 jb_Model_section_204
    simp only [xs_let]
    rw [if_pos ((lN_le0 hm).mpr hj), lN_1]
  · intro n l p v hl hl2 hv h6 _
    show zC B lim p (jb_Model_section_158 fu K (n + 2) id (lN N) (lN k) (lN (m - l.length)) v) _ _
    conv => arg 4; unfold jb_Model_section_158
    simp only [xs_let]
    rw [if_neg (fun z => by have := (lN_le0 hm).mp z; omega), if_pos h6, lN_m1 hl, yp_self (s := yp_N B lim p)]
    refine zC_seq (zC_of hv h6 (mm_N hfu hv h6)) (fun c q b v _ _ h h6 hb => ?_) fun j r v q h h6 => ?_
    · exact zC_ok (Nat.le_refl _) ⟨v, rfl, h, h6, trivial⟩
    · exact mx_s158 (fun w q h h6 => by rw [lN_1]; exact hK _ w q ym_c0 h h6) ym_c0 h h6
theorem mm_s9 (hfu : 20 ≤ fu) (hn : lim + 3 ≤ fu) (hp3 : 3 ≤ p) (h : ym_st B lim p u) (h6 : u.1 6 = 0) : zC B lim p (fm_Model_section fu 9 u) (yp_then (yp_N B lim p) fun n q => yp_rep (yp_el B lim) n q) (zJ B lim fun _ _ _ => True) := by
  unfold fm_Model_section
  rw [if_neg (by decide)]
  refine zC_seq (zC_of h h6 (mm_N hfu h h6)) (fun N q b v e1 _ h h6 hb => ?_) fun k r v q h h6 => ?_
  · obtain ⟨rfl, -⟩ := hb
    obtain ⟨hN, hpq, -⟩ := yp_Nb e1
    have := zC_rep (B := B) (lim := lim) (lim2 := lim) (it := yp_el B lim) yp_el_eats (fun _ _ => True) N (fun n k v => jb_Model_section_20 fu n 9 (lN N) (lN k) v) (fun v => some ((), v)) ?_ ?_ (lim - q + 1) [] q fu v (by omega) (by omega) (Nat.zero_le _) (Nat.zero_le _) h h6 trivial
    · refine zC_mono this fun l q e1 e2 hj => ?_
      obtain ⟨v, e3, e4, e5, -⟩ := hj
      exact ⟨(), v, e3, e4, e5, trivial⟩
    · intro n k v hk hk2
      show jb_Model_section_20 fu (n + 1) 9 (lN N) (lN k) v = _
      unfold jb_Model_section_20
      simp only [xs_let]
      rw [if_pos ((lN_leN hN hk2).mpr hk)]
    · intro n l p v hl hl2 hv h6 _
      show zC B lim p (jb_Model_section_20 fu (n + 2) 9 (lN N) (lN l.length) v) _ _
      conv => arg 4; unfold jb_Model_section_20
      simp only [xs_let]
      rw [if_neg (fun z => by have := (lN_leN hN hl2).mp z; omega), if_pos h6, if_neg (by decide), if_neg (by decide), if_neg (by decide), if_neg (by decide), if_neg (by decide), if_neg (by decide), if_neg (by decide), if_neg (by decide), if_pos trivial]
      unfold yp_el
      have hK : ∀ e w q, ¬ e = 0 → ym_st B lim q w → w.1 6 = e → ym_X B lim e (jb_Model_section_20 fu (n + 1) 9 (lN N) (lN (l.length + 1)) w) := fun e w q he h h6 => mx_s20 he h h6
      obtain ⟨f, hf⟩ : ∃ f, fu = f + 1 := ⟨fu - 1, by omega⟩
      have hX : ∀ (k : Nat) (r : Int64) (v : xk_St) (q : Nat), ym_st B lim q v → v.1 6 = ym_c k → ym_X B lim (ym_c k) (jb_Model_section_158 fu (jb_Model_section_20 fu (n + 1)) fu 9 (lN N) (lN l.length) r v) := fun k r v q h h6 => by
        have : ∀ g, ym_X B lim (ym_c k) (jb_Model_section_158 fu (jb_Model_section_20 fu (n + 1)) (g + 1) 9 (lN N) (lN l.length) r v) := fun g => mx_s158 (fun w q h h6 => by rw [lN_1]; exact hK _ w q ym_c0 h h6) ym_c0 h h6
        have := this f
        rw [← hf] at this
        exact this
      refine zC_seq (mm_place hfu hv h6) (fun x q b v _ _ h h6 _ => ?_) fun k r v q h h6 => yx_seq (mx_N hfu ym_c0 h h6) fun r v q h h6 => hX k r v q h h6
      refine zC_seq (zC_of h h6 (mm_N hfu h h6)) (fun m q b v e2 _ h h6 hb => ?_) fun k r v q h h6 => hX k r v q h h6
      obtain ⟨rfl, -⟩ := hb
      refine zC_then (mm_s158 (yp_Nb e2).1 hK hfu hn h h6) fun l2 q _ _ hj => ?_
      obtain ⟨w, g1, g2, g3⟩ := hj
      exact zC_ok (Nat.le_refl _) ⟨w, g1, g2, g3, trivial⟩
  · obtain ⟨n, hn'⟩ : ∃ n, fu = n + 1 := ⟨fu - 1, by omega⟩
    conv => arg 4; arg 2; rw [hn']
    exact mx_s20 ym_c0 h h6
end
