section
variable {α β γ δ σ τ : Type} {B : Nat → Int32} {u v w u' v' u0 v0 : xk_St} {T : List (Nat × List Nat × List Nat)} {F : List Nat} {G : List (Nat × Nat × Nat × Int64)} {L W0 : List Nat} {n fu tc mc lim p q len f D k tn tn' j d b g m : Nat} {z : Nat → Nat} {LL : Nat → List Nat} {AA : Nat → sBo} {tt : Nat → Nat} {H H' : rH} {fs r rr : List rFr} {x x' : rFr} {c : Nat × List Nat × List Nat} {y : Nat × sIn} {Q Qn Q1 : List sFr} {P : List rFr → Nat → Prop} {R : List Nat}
/-- two types that are the same fit one for one -/
theorem ty_nr {i j a b : Nat} (hle : ∀ k, yl_f T k ≤ k) (e : yl_f T i = yl_f T j) (hi : i < 64) (hj : j < 64) (ha : a < 150) (hb : b < 150) (h : yk_nr (yl_f T) i a = yk_nr (yl_f T) j b) : a = b ∨ yfit (yl_f T) a b ∧ b < 150 := by
  unfold yk_nr at h
  have la := hle ((a - 20) / 2)
  have lb := hle ((b - 20) / 2)
  by_cases a1 : a < 20
  · rw [if_pos a1] at h
    by_cases b1 : b < 20
    · rw [if_pos b1] at h
      exact Or.inl h
    · rw [if_neg b1] at h
      by_cases b2 : (b - 20) / 2 = j
      · rw [if_pos b2] at h; omega
      · rw [if_neg b2] at h; omega
  · rw [if_neg a1] at h
    by_cases b1 : b < 20
    · rw [if_pos b1] at h
      by_cases a2 : (a - 20) / 2 = i
      · rw [if_pos a2] at h; omega
      · rw [if_neg a2] at h; omega
    · rw [if_neg b1] at h
      refine Or.inr ⟨Or.inr (Or.inr ⟨by omega, by omega, ?_, Or.inr (Or.inr (Or.inr ⟨by omega, by omega, ?_⟩))⟩), hb⟩
      · by_cases a2 : (a - 20) / 2 = i
        · rw [if_pos a2] at h
          by_cases b2 : (b - 20) / 2 = j
          · rw [if_pos b2] at h; omega
          · rw [if_neg b2] at h; omega
        · rw [if_neg a2] at h
          by_cases b2 : (b - 20) / 2 = j
          · rw [if_pos b2] at h; omega
          · rw [if_neg b2] at h; omega
      · by_cases a2 : (a - 20) / 2 = i
        · rw [if_pos a2] at h
          by_cases b2 : (b - 20) / 2 = j
          · rw [a2, b2]; exact e
          · rw [if_neg b2] at h; omega
        · rw [if_neg a2] at h
          by_cases b2 : (b - 20) / 2 = j
          · rw [if_pos b2] at h; omega
          · rw [if_neg b2] at h; omega
theorem ty_wd {i j : Nat} {l l' : List Nat} (hle : ∀ k, yl_f T k ≤ k) (e : yl_f T i = yl_f T j) (hi : i < 64) (hj : j < 64) (ha : ∀ a, a ∈ l → a < 150) (hb : ∀ b, b ∈ l' → b < 150) (h : l.map (yk_nr (yl_f T) i) = l'.map (yk_nr (yl_f T) j)) : yWd T l l' := by
  have hl : l'.length = l.length := by
    have := congrArg List.length h
    rw [List.length_map, List.length_map] at this
    exact this.symm
  refine ⟨hl, fun k a b h1 h2 => ty_nr hle e hi hj (ha a (List.mem_of_getElem? h1)) (hb b (List.mem_of_getElem? h2)) ?_⟩
  have e1 : (l.map (yk_nr (yl_f T) i))[k]? = some (yk_nr (yl_f T) i a) := by rw [List.getElem?_map, h1]; rfl
  have e2 : (l'.map (yk_nr (yl_f T) j))[k]? = some (yk_nr (yl_f T) j b) := by rw [List.getElem?_map, h2]; rfl
  rw [h, e2] at e1
  exact (Option.some.inj e1).symm
theorem ty_same {i j : Nat} {c d : Nat × List Nat × List Nat} (hE : yTM T v) (e : yl_f T i = yl_f T j) (hc : T[i]? = some c) (hd : T[j]? = some d) : c.1 = d.1 ∧ yWd T c.2.1 d.2.1 ∧ yWd T c.2.2 d.2.2 := by
  have hah := yTM_ah hE
  have hle := yl_fle hah
  have hT64 := hE.2.1.1
  have hi := yl_lt hc
  have hj := yl_lt hd
  have k1 := (yl_fP (k := i) (fun j _ => hah j)).2.1
  have k2 := (yl_fP (k := j) (fun j _ => hah j)).2.1
  rw [e, k2] at k1
  unfold yk_key at k1
  rw [hc, hd] at k1
  have k1 : (d.1, d.2.1.map (yk_nr (yl_f T) j), d.2.2.map (yk_nr (yl_f T) j)) = (c.1, c.2.1.map (yk_nr (yl_f T) i), c.2.2.map (yk_nr (yl_f T) i)) := k1
  injection k1 with n1 k1
  injection k1 with n2 n3
  have gb : ∀ (k : Nat) c, T[k]? = some c → (∀ a, a ∈ c.2.1 → a < 150) ∧ ∀ a, a ∈ c.2.2 → a < 150 := fun k c hc => by
    have g := yTM_g hE k c hc
    refine ⟨fun a ha => ?_, fun a ha => ?_⟩
    · obtain ⟨m, hm⟩ := List.getElem?_of_mem ha
      have := g.2.1 m a hm
      omega
    · obtain ⟨m, hm⟩ := List.getElem?_of_mem ha
      by_cases t : c.1 = 96
      · have := g.2.2.1 t m a hm
        omega
      · have := (g.2.2.2.1 t).2 m a hm
        omega
  exact ⟨n1.symm, ty_wd hle e (by omega) (by omega) (gb i c hc).1 (gb j d hd).1 n2.symm, ty_wd hle e (by omega) (by omega) (gb i c hc).2 (gb j d hd).2 n3.symm⟩
/-- what a pair of steps may come to, the class running on through entries of locals -/
def RZc (fu D : Nat) (B : Nat → Int32) (len : Nat) (T : List (Nat × List Nat × List Nat)) (F : List Nat) (tc mc : Nat) (G : List (Nat × Nat × Nat × Int64)) (z : Nat → Nat) (LL : Nat → List Nat) (AA : Nat → sBo) (tt : Nat → Nat) (P : Nat → List rFr → Nat → Prop) (R : List Nat) (ou ov : Option (Unit × xk_St)) : Prop := ∃ u' v', ou = some ((), u') ∧ ov = some ((), v') ∧ ((∃ H fs tn k ul, (∀ n b, b + k < 2 ^ 63 → jb_Machine_run_29 fu (n + k) (lN (b + k)) u' = jb_Machine_run_29 fu n (lN b) ul) ∧ RX D B len T F tc mc G z LL AA tt H fs tn ul v' ∧ P k fs tn) ∨ (∃ H tn t, 0 < t ∧ t < 20 ∧ u'.1 27 = nI t ∧ v'.1 29 = nI t ∧ RL D B len T F tc mc G z LL AA tt H tn u' v') ∨ (∃ H tn, u'.1 27 = 0 ∧ v'.1 29 = 0 ∧ u'.1 24 = 0 ∧ v'.1 27 = 0 ∧ RS T H R u' v' ∧ RL D B len T F tc mc G z LL AA tt H tn u' v'))
theorem rz_c {P : Nat → List rFr → Nat → Prop} {ou ov : Option (Unit × xk_St)} (h : RZ D B len T F tc mc G z LL AA tt (P 0) R ou ov) : RZc fu D B len T F tc mc G z LL AA tt P R ou ov := by
  obtain ⟨u', v', h1, h2, h3⟩ := h
  refine ⟨u', v', h1, h2, ?_⟩
  rcases h3 with ⟨H, fs, tn, a, b⟩ | h3 | h3
  · exact Or.inl ⟨H, fs, tn, 0, u', fun n b _ => rfl, a, b⟩
  · exact Or.inr (Or.inl h3)
  · exact Or.inr (Or.inr h3)
/-- a call from a function that runs -/
theorem rz_call {P : Nat → List rFr → Nat → Prop} {f0 : sFr} {q : List sFr} {s ps : List Nat} {u1 w1 : xk_St} (hfu : 18000 < fu) (h : rFt D B len T F tc mc G z LL AA tt H x r tn y Qn u v w) (hQ : x.2.2 = f0 :: q) (hs : ∃ ds, f0.2.2.2.2 = ds ++ s) (hu : yf_fr [26, 27, 28] [] [37] [10] u u1) (hv : yf_fr [4, 6, 8, 9, 10, 11, 23, 26, 29] [0, 1] [29] [3] v w1) (hu7 : u1.1 27 = 0) (hv9 : w1.1 29 = 0) (hv6 : w1.1 6 = 0) (hu26 : u1.1 26 = nI (sEn' (z x.1) (AA x.1) (x.2.1 + 1))) (hg : g < F.length) (hc : T[tt g]? = some c) (hRS : RS T H ((fW LL r ++ LL x.1) ++ (sq_f (sf_s f0 s :: q) ++ c.2.1)) u1 w1) (hps : yWd T c.2.2 ps) (hpu : sq_pushes ps (sf_s f0 s :: q) = some Qn) (hP : ∀ tn', tn = tn' + 1 → P (AA g).2.1.length ((g, 0, sq_0 (z g) (tt g)) :: (x.1, x.2.1 + 1, sf_s f0 s :: q) :: r) tn') : RZc fu D B len T F tc mc G z LL AA tt P R (fm_Machine_enter (nI g) u1) (fm_Model_enter fu (nI g) (w.1 4) w1) := by
  have h0 := h.1
  obtain ⟨h1, h2, h3, h4, h5, h6, h7, h8, h9⟩ := h0
  have hF1 := RF_fv hv (by decide) (RF_fu hu (by decide) h3)
  obtain ⟨a1, a2, a3, a4, a5, a6, a7⟩ := hF1.1
  obtain ⟨ds, hds⟩ := hs
  have hb : sQb T (sf_s f0 s :: q) := by
    have hq := a6.2.2.2
    rw [hQ] at hq
    obtain ⟨q1, q2, q3⟩ := hq
    refine ⟨?_, q2, ?_, q3.2⟩
    · have e1 : sq_h (f0 :: q) = f0.2.2.2.2.length + sq_h q := rfl
      have e2 : sq_h (sf_s f0 s :: q) = s.length + sq_h q := rfl
      rw [hds, List.length_append] at e1
      omega
    · intro i c hc
      have hc : s[i]? = some c := hc
      refine q3.1 (ds.length + i) c ?_
      rw [hds, List.getElem?_append_right (by omega), Nat.add_sub_cancel_left]
      exact hc
  have hRE : RE D B len T F tc mc G z LL AA tt H ((x.1, x.2.1 + 1, sf_s f0 s :: q) :: r) c.2.1 tn u1 w1 := by
    refine ⟨rSt_fv (rSt_fu h1 hu (by decide)) hv (by decide), ?_, ⟨⟨a1, a2, a3, a4, ?_, ⟨a6.1, (fun t => by cases t), ?_, hb⟩, a7⟩, hF1.2⟩, ?_, RD_fv (RD_fu h5 hu (by decide)) hv (by decide), ⟨?_, ?_, h6.2.2.1, ?_⟩, ⟨?_, ?_, h7.2.2⟩, ⟨hu7, hv9, hv6, ?_⟩, fun y r' e => ?_⟩
    · have : fW LL ((x.1, x.2.1 + 1, sf_s f0 s :: q) :: r) ++ c.2.1 = (fW LL r ++ LL x.1) ++ (sq_f (sf_s f0 s :: q) ++ c.2.1) := by
        show (fW LL r ++ (LL x.1 ++ sq_f (sf_s f0 s :: q))) ++ c.2.1 = _
        simp only [List.append_assoc]
      rw [this]; exact hRS
    · show rW T z AA x.1 (sf_s f0 s :: q) (fV r) (fN LL r + (LL x.1).length) w1
      rw [hQ] at a5
      exact rW_tp a5 ⟨rfl, rfl, rfl⟩
    · intro d g hd
      have hd : (sf_s f0 s :: q)[d]? = some g := hd
      cases d with
      | zero => cases hd; exact a6.2.2.1 0 f0 (by rw [hQ]; rfl)
      | succ d => exact a6.2.2.1 (d + 1) g (by rw [hQ]; exact hd)
    · cases r with
      | nil => exact trivial
      | cons x2 r2 => exact ⟨h4.1, h4.2⟩
    · rw [hu.1 24 (by decide)]; exact h6.1
    · rw [hv.1 27 (by decide)]; exact h6.2.1
    · rw [hv.1 28 (by decide), h6.2.2.2]
      show nI (fV r + x.2.2.length) = nI (fV r + (sf_s f0 s :: q).length)
      rw [hQ, List.length_cons, List.length_cons]
    · rw [hu.1 23 (by decide)]; exact h7.1
    · rw [hv.2.1 2 (by decide)]; exact h7.2.1
    · rw [hv.1 5 (by decide)]; exact h8.2.2.2
    · cases e; exact hu26
  rcases re_enter (pm := w.1 4) hfu hRE hg hc (fun y' r' e => by
      cases e
      exact ⟨h.2.2.2.2.1, ps, Qn, hps, hpu, h.2.1.2.2.2.1⟩) with ⟨ue, ve, t, tn', e1, e2, e3, e4, e5, e6, e7⟩ | ⟨ue, ve, ul, tn', et, e1, e2, e3, e4⟩
  · exact ⟨ue, ve, e1, e2, Or.inr (Or.inl ⟨H, tn', t, e3, e4, e5, e6, e7⟩)⟩
  · exact ⟨ue, ve, e1, e2, Or.inl ⟨H, _, tn', _, ul, e3, e4, hP tn' et⟩⟩
end
