section
variable {α β γ δ σ τ : Type} {B : Nat → Int32} {u v w x u0 : xk_St} {T : List (Nat × List Nat × List Nat)} {F : List Nat} {G : List (Nat × Nat × Nat × Int64)} {L : List Nat} {n fu tc mc lim p q len f D k : Nat} {Q Q' : List sFr} {h z : Nat → Nat} {l10 : List sBo} {a : sBo}
theorem sq_run_pre : ∀ {l : List (Nat × sIn)} {e : Nat} {Q Q' : List sFr}, sq_run T F tc mc G L e l Q = some Q' → ∀ (i : Nat) x, l[i]? = some x → ∃ Qi Qn, sq_run T F tc mc G L e (l.take i) Q = some Qi ∧ sq_step T F tc mc G L (e + i) x.1 x.2 Qi = some Qn ∧ sq_run T F tc mc G L (e + i + 1) (l.drop (i + 1)) Qn = some Q' := by
  intro l
  induction l with
  | nil => intro e Q Q' _ i x hx; simp at hx
  | cons y l ih =>
    intro e Q Q' hr i x hx
    obtain ⟨Q1, h1, h2⟩ := Option.bind_eq_some_iff.mp (show (sq_step T F tc mc G L e y.1 y.2 Q).bind (fun Q' => sq_run T F tc mc G L (e + 1) l Q') = some Q' from hr)
    cases i with
    | zero => cases hx; exact ⟨Q, Q1, rfl, h1, h2⟩
    | succ i =>
      obtain ⟨Qi, Qn, a1, a2, a3⟩ := ih h2 i x hx
      refine ⟨Qi, Qn, ?_, ?_, ?_⟩
      · show (sq_step T F tc mc G L e y.1 y.2 Q).bind (fun Q' => sq_run T F tc mc G L (e + 1) (l.take i) Q') = some Qi
        rw [h1]; exact a1
      · rw [show e + (i + 1) = e + 1 + i by omega]; exact a2
      · rw [show e + (i + 1) + 1 = e + 1 + i + 1 by omega]; exact a3
theorem sq_body_run {sz t : Nat} {c : Nat × List Nat × List Nat} (hb : sq_body T F tc mc G sz t c a = some L) : sq_dcl T a.2.1 c.2.1 = some L ∧ ∃ Q', sq_run T F tc mc G L (sz + 1 + a.2.1.length) a.2.2 (sq_0 sz t) = some Q' := by
  obtain ⟨L', h1, h2⟩ := Option.bind_eq_some_iff.mp hb
  obtain ⟨Q', h3, h4⟩ := Option.bind_eq_some_iff.mp h2
  cases h4
  exact ⟨h1, Q', h3⟩
/-- body f as the class has it for the run -/
def sBf (T : List (Nat × List Nat × List Nat)) (F : List Nat) (tc mc : Nat) (G : List (Nat × Nat × Nat × Int64)) (z : Nat → Nat) (f : Nat) (a : sBo) (v : xk_St) : Prop := ∃ t c L, F[f]? = some t ∧ T[t]? = some c ∧ c.1 = 96 ∧ sq_body T F tc mc G (z f) t c a = some L ∧ v.2.2.1 14 f = nI L.length ∧ v.2.2.1 8 (z f) = nI (1024 + t) ∧ v.2.2.1 10 (z f) = 0 ∧ v.2.2.2 2 (z f) = lN c.2.2.length ∧ (L.length ≤ 200 ∧ ∀ (i : Nat) d, L[i]? = some d → yvw T.length d ∧ yvs T.length d) ∧ ∀ (j : Nat) x Qj Qn, a.2.2[j]? = some x → sq_run T F tc mc G L (z f + 1 + a.2.1.length) (a.2.2.take j) (sq_0 (z f) t) = some Qj → sq_step T F tc mc G L (z f + 1 + a.2.1.length + j) x.1 x.2 Qj = some Qn → sRF T x.2 (z f + 1 + a.2.1.length + j) Qj Qn v
theorem sRF_k {i : sIn} (hr : sRF T i k Q Q' v) (h8 : w.2.2.1 8 k = v.2.2.1 8 k) (h9 : w.2.2.1 9 k = v.2.2.1 9 k) (h10 : w.2.2.1 10 k = v.2.2.1 10 k) (h2 : w.2.2.2 2 k = v.2.2.2 2 k) (h11 : i.1 = 14 → ∀ s, v.2.2.1 8 k = nI s → v.2.2.2 2 k = lN i.2.2.2.2.length → s + i.2.2.2.2.length < 8192 → ∀ j, j ≤ i.2.2.2.2.length → w.2.2.1 11 (s + j) = v.2.2.1 11 (s + j)) : sRF T i k Q Q' w := by
  obtain ⟨r1, r2, r3, r4⟩ := hr
  refine ⟨fun hb => ?_, fun h14 => ?_, fun hb f r hq => ?_, fun hb => ?_⟩
  · obtain ⟨f, a1, a2⟩ := r1 hb
    exact ⟨f, a1, h9.trans a2⟩
  · obtain ⟨s, b1, b2, b3, b4⟩ := r2 h14
    refine ⟨s, h8.trans b1, b2, h2.trans b3, fun j c hc => ?_⟩
    have hl := yl_lt hc
    rw [List.length_append, List.length_singleton] at hl
    obtain ⟨f, c1, c2⟩ := b4 j c hc
    exact ⟨f, c1, by rw [h11 h14 s b1 b3 b2 j (by omega)]; exact c2⟩
  · obtain ⟨a1, a2⟩ := r3 hb f r hq
    exact ⟨h10.trans a1, h2.trans a2⟩
  · exact h2.trans (r4 hb)
/-- the bodies before k are checked -/
def sIv (T : List (Nat × List Nat × List Nat)) (F : List Nat) (tc mc : Nat) (G : List (Nat × Nat × Nat × Int64)) (z h : Nat → Nat) (l10 : List sBo) (u : xk_St) (k : Nat) (v : xk_St) : Prop :=
  yf_fr [19, 20, 21, 22] [] [8, 9, 10, 11, 14, 33, 34, 35, 36] [2] u v ∧ (∀ j, (∀ f, f < k → ¬ j = z f) → v.2.2.1 8 j = u.2.2.1 8 j) ∧ (∀ j, ¬ sbr (u.2.2.1 7 j) → v.2.2.1 9 j = u.2.2.1 9 j) ∧ (∀ j, (∀ f a, f < k → l10[f]? = some a → sEnd (z f) a ≤ j) → v.2.2.1 9 j = u.2.2.1 9 j ∧ v.2.2.1 10 j = u.2.2.1 10 j ∧ v.2.2.2 2 j = u.2.2.2 2 j) ∧ (∀ i, (i < h 0 ∨ ∀ f a, f < k → l10[f]? = some a → h (sEnd (z f) a) ≤ i) → v.2.2.1 11 i = u.2.2.1 11 i) ∧ (∀ j m, u.1 8 = nI m → m ≤ 8192 → j < m → u.2.2.1 7 j = 14 → v.2.2.2 2 j = u.2.2.2 2 j) ∧ ∀ f a, f < k → l10[f]? = some a → sBf T F tc mc G z f a v
theorem sIv_0 : sIv T F tc mc G z h l10 u 0 u := ⟨yf_refl, fun _ _ => rfl, fun _ _ => rfl, fun _ _ => ⟨rfl, rfl, rfl⟩, fun _ _ => rfl, fun _ _ _ _ _ _ => rfl, fun f a hf => by omega⟩
theorem sIv_w (hv : sIv T F tc mc G z h l10 u k v) (hw : sWh h u) (h6 : ∀ f, f < k → u.2.2.1 7 (z f) = 6) : sWh h v := by
  obtain ⟨i1, i2, i3, i4, i5, i6, i7⟩ := hv
  obtain ⟨w0, sz, w1, w2, w3⟩ := hw
  refine ⟨w0, sz, (i1.1 8 (by decide)).trans w1, w2, fun j hj h14 => ?_⟩
  rw [i1.2.2.1 7 (by decide)] at h14
  obtain ⟨s, c, q1, q2, q3⟩ := w3 j hj h14
  refine ⟨s, c, ?_, ?_, q3⟩
  · rw [i2 j fun f hf y => by rw [y, h6 f hf] at h14; exact absurd h14 (by decide)]
    exact q1
  · rw [i6 j sz w1 w2 hj h14]
    exact q2
/-- one more body is checked -/
theorem hc_next (hfu : 20000 ≤ fu) (he : yCe T u) (hEn : sEn T F tc mc G u) (hw : sWh h u) (hl : l10.length = F.length) (hR : ∀ (k : Nat) a, l10[k]? = some a → sRd D B u k (z k) a) (hz : ∀ i j, i < j → j < l10.length → z i < z j) (ha : l10[k]? = some a) (hv : sIv T F tc mc G z h l10 u k v) :
    (yv_bd T F tc mc G z k a ∧ ∃ w, fm_Checker_checkBody fu (nI k) v = some (.inl (), w) ∧ sIv T F tc mc G z h l10 u (k + 1) w) ∨ (¬ yv_bd T F tc mc G z k a ∧ ∃ w, fm_Checker_checkBody fu (nI k) v = some (.inr 0, w)) := by
  have hkl := yl_lt ha
  obtain ⟨t, hF⟩ := yl_get (l := F) (k := k) (by omega)
  obtain ⟨c12, c, hc, h96⟩ := hEn.2.2.1 k t hF
  have hRk := hR k a ha
  obtain ⟨r1, r2, r3, r4, ⟨m, r5, r6, r7⟩, ⟨p2, q, lim, r8⟩, r9⟩ := id hRk
  have h6 : ∀ f, f < l10.length → u.2.2.1 7 (z f) = 6 := fun f hf => by
    obtain ⟨b, hb⟩ := yl_get (l := l10) hf
    exact (hR f b hb).2.1
  have hap : ∀ f b, f < k → l10[f]? = some b → sEnd (z f) b ≤ z k := fun f b hf hb => sRd_apart (hR f b hb) (hz f k hf hkl) r2
  have hvw : sWh h v := sIv_w hv hw fun f hf => h6 f (by omega)
  obtain ⟨i1, i2, i3, i4, i5, i6, i7⟩ := id hv
  have v7 : v.2.2.1 7 = u.2.2.1 7 := i1.2.2.1 7 (by decide)
  have v8 : ∀ j, z k ≤ j → v.2.2.1 8 j = u.2.2.1 8 j := fun j hj => i2 j fun f hf y => by have := hz f k hf hkl; omega
  have v9 : ∀ j, z k ≤ j → v.2.2.1 9 j = u.2.2.1 9 j ∧ v.2.2.1 10 j = u.2.2.1 10 j ∧ v.2.2.2 2 j = u.2.2.2 2 j := fun j hj => i4 j fun f b hf hb => by have := hap f b hf hb; omega
  have hbd : yk_body v [(z k, none)] (z k + 1 + a.2.1.length) a.2.2 := by
    refine yk_bodyO (k0 := z k) (m := m) hw r5 r7 v7 (i1.1 9 (by decide)) (fun j hj => ⟨v8 j hj, (v9 j hj).1, (v9 j hj).2.2⟩) (fun i hi => i5 i (Or.inr fun f b hf hb => ?_)) (by omega) r6 (fun y hy => ?_) (fun j y hy => yp_codeG r8 j y hy) r4
    · have := hw.1 _ _ (hap f b hf hb)
      omega
    · rw [List.mem_singleton.mp hy]
      exact ⟨Nat.le_refl _, Nat.le_refl _, by show z k < _; omega⟩
  have hb := hc_body (fu := fu) (f := k) (t := t) (sz := z k) (d := D) (m := m) (c := c) (a := a) (B := B) (lim := lim) (p := p2) (q := q) hfu (yCe_fr he i1 (by decide)) (sEn_fr hEn i1 (by decide)) hvw hF hc h96 (by rw [i1.2.2.1 13 (by decide)]; exact r1) (by rw [v7]; exact r2) (fun i y hy => by
    obtain ⟨s1, s2, s3⟩ := r3 i y hy
    rw [v7, v8 _ (by omega), (v9 _ (by omega)).2.2]
    exact ⟨s1, s2, s3⟩) hbd ((i1.1 8 (by decide)).trans r5) r6 r7 r9 r8
  rcases hb with ⟨L, hL, x, w, e, hw2⟩ | ⟨hL, w, e⟩
  · refine Or.inl ⟨⟨t, c, L, hF, hc, hL⟩, w, e, ?_⟩
    obtain ⟨b1, b2, b3, b4, b5, b6, b7, b8, b9, b10, b11⟩ := hw2
    have hend : ∀ {P : Nat → sBo → Prop}, (∀ f b, f < k + 1 → l10[f]? = some b → P f b) → (∀ f b, f < k → l10[f]? = some b → P f b) ∧ P k a := fun hP => ⟨fun f b hf hb => hP f b (by omega) hb, hP k a (by omega) ha⟩
    refine ⟨yf_trans i1 (yf_mono b1 (by decide)), fun j hj => ?_, fun j hj => ?_, fun j hj => ?_, fun i hi => ?_, fun j m' hm' hm2 hjm h14 => ?_, fun f b hf hb => ?_⟩
    · rw [b3 j (hj k (by omega))]
      exact i2 j fun f hf => hj f (by omega)
    · rw [b4 j (by rw [v7]; exact hj)]
      exact i3 j hj
    · obtain ⟨c1, c2⟩ := hend hj
      obtain ⟨d1, d2, d3, d4⟩ := b2 j (Or.inr c2)
      obtain ⟨e1, e2, e3⟩ := i4 j c1
      exact ⟨d2.trans e1, d3.trans e2, d4.trans e3⟩
    · rcases hi with hi | hi
      · rw [b5 i (Or.inl (by have := hw.1 0 (z k) (Nat.zero_le _); omega))]
        exact i5 i (Or.inl hi)
      · obtain ⟨c1, c2⟩ := hend hi
        rw [b5 i (Or.inr c2)]
        exact i5 i (Or.inr c1)
    · by_cases zin : z k ≤ j ∧ j < sEnd (z k) a
      · rcases sRd_in hRk zin.1 zin.2 with y | y | ⟨i, y, ol, hj, hy, hg, hent⟩
        · rw [y, r2] at h14; exact absurd h14 (by decide)
        · rw [h14] at y; exact absurd y (by decide)
        · have hop := (yk_op hg hent).2 h14
          obtain ⟨-, Q', hrun⟩ := sq_body_run hL
          obtain ⟨Qi, Qn, g1, g2, -⟩ := sq_run_pre hrun i y hy
          obtain ⟨s, s1, s2, s3, -⟩ := (b11 i y Qi Qn hy g1 g2).2.1 hop
          have h2 := hent.2.1
          rw [hop, show xt_S 14 = 114 by decide +kernel, ye2_114] at h2
          rw [← hj] at s3
          rw [s3, h2]
      · have hout : j < z k ∨ sEnd (z k) a ≤ j := by omega
        rw [(b2 j hout).2.2.2]
        exact i6 j m' hm' hm2 hjm h14
    · by_cases zf : f = k
      · subst zf
        rw [ha] at hb; cases hb
        refine ⟨t, c, L, hF, hc, h96, hL, by rw [b6, ya_t], b7, b8, b9, b10, b11⟩
      · have hfk : f < k := by omega
        have hap' := hap f b hfk hb
        have hzf : z f < z k := hz f k hfk hkl
        obtain ⟨t', c', L', g1, g2, g3, g4, g5, g6, g7, g8, g9, g10⟩ := i7 f b hfk hb
        obtain ⟨d1, d2, d3, d4⟩ := b2 (z f) (Or.inl hzf)
        refine ⟨t', c', L', g1, g2, g3, g4, by rw [b6, ya_j zf]; exact g5, d1.trans g6, d3.trans g7, d4.trans g8, g9, fun j x Qj Qn hx hr hs => ?_⟩
        have hjl := yl_lt hx
        have hlt : z f + 1 + b.2.1.length + j < z k := by
          have : sEnd (z f) b = z f + 1 + b.2.1.length + b.2.2.length := rfl
          omega
        obtain ⟨d1, d2, d3, d4⟩ := b2 (z f + 1 + b.2.1.length + j) (Or.inl hlt)
        refine sRF_k (g10 j x Qj Qn hx hr hs) d1 d2 d3 d4 fun h14 s s1 s2 s3 i hi => ?_
        -- the numbers of an 0x0e before
        obtain ⟨sz, w1, w2, w3⟩ := hvw.2
        have hm : sz = m := (nI_eq (by omega) (by omega)).mp (w1.symm.trans ((i1.1 8 (by decide)).trans r5))
        obtain ⟨ol, hent⟩ := yk_bodyG (hR f b hb).2.2.2.1 j x hx
        have h7k : v.2.2.1 7 (z f + 1 + b.2.1.length + j) = 14 := by
          rw [v7, hent.1, h14]; rfl
        obtain ⟨s', c', q1, q2, q3, q4, q5⟩ := w3 (z f + 1 + b.2.1.length + j) (by omega) h7k
        have hss : s' = s := (nI_eq (by omega) (by omega)).mp (q1.symm.trans s1)
        have hcc : c' = x.2.2.2.2.2.length := by
          have e0 : lN c' = lN x.2.2.2.2.2.length := q2.symm.trans s2
          have h1 := (pk_lLE (a := c') (b := x.2.2.2.2.2.length) (by omega) (by omega)).mp (by rw [e0]; exact Int64.le_refl _)
          have h2 := (pk_lLE (a := x.2.2.2.2.2.length) (b := c') (by omega) (by omega)).mp (by rw [e0]; exact Int64.le_refl _)
          omega
        refine b5 _ (Or.inl ?_)
        have := hvw.1 (z f + 1 + b.2.1.length + j + 1) (z k) (by omega)
        omega
  · exact Or.inr ⟨yv_bdN hF hc hL, w, e⟩
end
