section
variable {α β γ δ : Type} {B : Nat → Int32} {u v w : xk_St} {L lim p q fu : Nat} {e : Int32}
/-- entry k of the code is instruction i; ol are the blocks open ahead of it -/
def yk_ent (v : xk_St) (ol : List (Nat × Option Nat)) (k : Nat) (i : Nat × (Option Nat ⊕ Int64) × Int64 × Nat × List Nat) : Prop :=
  v.2.2.1 7 k = nI (if i.1 = 11 then (if ol.tail = [] then 7 else 11) else i.1) ∧ v.2.2.2 2 k = ye_2 (xt_S i.1) i.2 ∧ (∃ ns m, v.2.2.1 8 k = ye_1 (xt_S i.1) i.2 ns ∧ v.1 9 = nI m ∧ m ≤ 8192 ∧ (i.1 = 14 → ns + i.2.2.2.2.length + 1 ≤ m ∧ ∀ j c, (i.2.2.2.2 ++ [yx_n i.2.1])[j]? = some c → v.2.2.1 11 (ns + j) = nI (yn_c c))) ∧ (i.1 = 11 → ∀ x r, ol = x :: r → v.2.2.1 9 (yo_i x) = nI k) ∧ (i.1 = 5 → ∀ x r, ol = x :: r → v.2.2.1 9 x.1 = nI k)
/-- what stays of the code, when more is read behind entry sz -/
def yk_FR (sz : Nat) (ol : List (Nat × Option Nat)) (u v : xk_St) : Prop :=
  (∀ j, j < sz → v.2.2.1 7 j = u.2.2.1 7 j ∧ v.2.2.1 8 j = u.2.2.1 8 j ∧ v.2.2.2 2 j = u.2.2.2 2 j ∧ ((∀ x, x ∈ ol → ¬ j = yo_i x) → v.2.2.1 9 j = u.2.2.1 9 j)) ∧ yi_mono u v ∧ yf_fr [8, 9, 17] [] [7, 8, 9, 11] [2] u v
/-- the same, without the rest of the frame -/
def yk_F2 (sz : Nat) (ol : List (Nat × Option Nat)) (u v : xk_St) : Prop :=
  (∀ j, j < sz → v.2.2.1 7 j = u.2.2.1 7 j ∧ v.2.2.1 8 j = u.2.2.1 8 j ∧ v.2.2.2 2 j = u.2.2.2 2 j ∧ ((∀ x, x ∈ ol → ¬ j = yo_i x) → v.2.2.1 9 j = u.2.2.1 9 j)) ∧ yi_mono u v
theorem yk_keepE {ol ol' : List (Nat × Option Nat)} {k sz : Nat} {i : Nat × (Option Nat ⊕ Int64) × Int64 × Nat × List Nat} (h : yk_ent v ol k i) (hk : k < sz) (hF : yk_F2 sz ol' v w) (h11 : i.1 = 11 → ∀ x r, ol = x :: r → yo_i x < sz ∧ ∀ y, y ∈ ol' → ¬ yo_i x = yo_i y) (h5 : i.1 = 5 → ∀ x r, ol = x :: r → x.1 < sz ∧ ∀ y, y ∈ ol' → ¬ x.1 = yo_i y) : yk_ent w ol k i := by
  obtain ⟨a1, a2, ⟨ns, m, a3, a4, a5, a6⟩, a7, a8⟩ := h
  obtain ⟨f1, ⟨x, y, m1, m2, m3, m4, m5⟩⟩ := hF
  have hmx : m = x := (nI_eq (by omega) (by omega)).mp (a4.symm.trans m1)
  subst hmx
  obtain ⟨g1, g2, g3, -⟩ := f1 k hk
  refine ⟨g1.trans a1, g3.trans a2, ⟨ns, y, g2.trans a3, m2, m4, fun h14 => ?_⟩, fun h z r hz => ?_, fun h z r hz => ?_⟩
  · obtain ⟨b1, b2⟩ := a6 h14
    refine ⟨by omega, fun j c hj => ?_⟩
    have hl : j < (i.2.2.2.2 ++ [yx_n i.2.1]).length := by
      rcases Nat.lt_or_ge j (i.2.2.2.2 ++ [yx_n i.2.1]).length with z | z
      · exact z
      · rw [List.getElem?_eq_none z] at hj; cases hj
    rw [List.length_append, List.length_singleton] at hl
    rw [m5 (ns + j) (by omega)]
    exact b2 j c hj
  · obtain ⟨c1, c2⟩ := h11 h z r hz
    rw [(f1 _ c1).2.2.2 c2]
    exact a7 h z r hz
  · obtain ⟨c1, c2⟩ := h5 h z r hz
    rw [(f1 _ c1).2.2.2 c2]
    exact a8 h z r hz
/-- a body's instructions, one entry each -/
def yk_body (v : xk_St) : List (Nat × Option Nat) → Nat → List (Nat × Nat × (Option Nat ⊕ Int64) × Int64 × Nat × List Nat) → Prop
  | _, _, [] => True
  | ol, k, x :: r => yk_ent v ol k x.2 ∧ yk_body v (yo_step ol k x.2.1) (k + 1) r
theorem yo_below {f g : Nat → Int32} : ∀ {ol : List (Nat × Option Nat)} {d : Nat}, yo_ok f g d ol → ∀ y, y ∈ ol → yo_i y < d := by
  intro ol
  induction ol with
  | nil => intro d _ y hy; cases hy
  | cons x r ih =>
    intro d h y hy
    obtain ⟨h1, h2, h3, h4, h5, h6⟩ := h
    rcases List.mem_cons.mp hy with rfl | hy
    · exact h2
    · have := ih h6 y hy
      omega
theorem yr_101 : ∀ j, j < 256 → (xt_S j = 101 ↔ j = 5) ∧ (xt_S j = 110 ↔ j = 11) ∧ (xt_S j = 98 ↔ j = 2 ∨ j = 3 ∨ j = 4) := by decide +kernel
theorem yr_101' : ∀ j, j < 31 → ¬ xt_S (256 + j) = 101 ∧ ¬ xt_S (256 + j) = 110 ∧ ¬ xt_S (256 + j) = 98 := by decide +kernel
/-- the rows of numbers that entries of the code have lie one behind the other, none ahead of N0 -/
def yW (N0 : Nat) (v : xk_St) : Prop := ∃ (sz ns : Nat) (h : Nat → Nat), v.1 8 = nI sz ∧ v.1 9 = nI ns ∧ sz ≤ 8192 ∧ ns ≤ 8192 ∧ N0 ≤ h 0 ∧ (∀ i j, i ≤ j → h i ≤ h j) ∧ h sz ≤ ns ∧ ∀ k, k < sz → v.2.2.1 7 k = 14 → ∃ s c, v.2.2.1 8 k = nI s ∧ v.2.2.2 2 k = lN c ∧ h k ≤ s ∧ s + c + 1 ≤ h (k + 1)
theorem yW_add {N0 sz ns ns' m : Nat} (h : yW N0 u) (h8 : u.1 8 = nI sz) (h9 : u.1 9 = nI ns) (h8' : v.1 8 = nI (sz + m)) (h9' : v.1 9 = nI ns') (hs : sz + m ≤ 8192) (hn : ns ≤ ns') (hn2 : ns' ≤ 8192) (old : ∀ j, j < sz → v.2.2.1 7 j = u.2.2.1 7 j ∧ v.2.2.1 8 j = u.2.2.1 8 j ∧ v.2.2.2 2 j = u.2.2.2 2 j) (new : ∀ j, sz ≤ j → j < sz + m → v.2.2.1 7 j = 14 → m = 1 ∧ ∃ s c, v.2.2.1 8 j = nI s ∧ v.2.2.2 2 j = lN c ∧ ns ≤ s ∧ s + c + 1 ≤ ns') : yW N0 v := by
  obtain ⟨sz0, ns0, f, a1, a2, a3, a4, a5, a6, a7, a8⟩ := h
  obtain rfl : sz0 = sz := (nI_eq (by omega) (by omega)).mp (a1.symm.trans h8)
  obtain rfl : ns0 = ns := (nI_eq (by omega) (by omega)).mp (a2.symm.trans h9)
  refine ⟨sz0 + m, ns', fun j => if j ≤ sz0 then f j else ns', h8', h9', hs, hn2, ?_, fun i j hij => ?_, ?_, fun k hk h14 => ?_⟩
  · show N0 ≤ if 0 ≤ sz0 then f 0 else ns'
    rw [if_pos (Nat.zero_le _)]; exact a5
  · show (if i ≤ sz0 then f i else ns') ≤ if j ≤ sz0 then f j else ns'
    by_cases z : j ≤ sz0
    · rw [if_pos z, if_pos (by omega)]; exact a6 i j hij
    · rw [if_neg z]
      by_cases z2 : i ≤ sz0
      · rw [if_pos z2]
        have := a6 i sz0 z2
        omega
      · rw [if_neg z2]; exact Nat.le_refl _
  · show (if sz0 + m ≤ sz0 then f (sz0 + m) else ns') ≤ ns'
    split
    · have := a6 (sz0 + m) sz0 (by omega); omega
    · exact Nat.le_refl _
  · show ∃ s c, v.2.2.1 8 k = nI s ∧ v.2.2.2 2 k = lN c ∧ (if k ≤ sz0 then f k else ns') ≤ s ∧ s + c + 1 ≤ if k + 1 ≤ sz0 then f (k + 1) else ns'
    by_cases z : k < sz0
    · obtain ⟨o1, o2, o3⟩ := old k z
      rw [o1] at h14
      rw [if_pos (by omega), if_pos (by omega), o2, o3]
      exact a8 k z h14
    · obtain ⟨rfl, s, c, c1, c2, c3, c4⟩ := new k (by omega) hk h14
      refine ⟨s, c, c1, c2, ?_, ?_⟩
      · rw [if_pos (by omega)]
        have := a6 k sz0 (by omega)
        omega
      · rw [if_neg (by omega)]; exact c4
/-- what an instruction leaves behind it -/
def yk_aft (sz : Nat) (ol : List (Nat × Option Nat)) (u : xk_St) (i : Nat × (Option Nat ⊕ Int64) × Int64 × Nat × List Nat) (st : List Bool) (b : Int32) (v : xk_St) : Prop :=
  st = yo_st (v.2.2.1 7) (yo_step ol sz i.1) ∧ b = yo_up (yo_step ol sz i.1) ∧ yo_ok (v.2.2.1 7) (v.2.2.1 9) (sz + 1) (yo_step ol sz i.1) ∧ yk_ent v ol sz i ∧ yk_FR sz ol u v ∧ v.1 8 = nI (sz + 1) ∧ yi_few v ∧ ∀ N0, yW N0 u → yW N0 v
theorem yo_stS {f g f' : Nat → Int32} : ∀ {ol : List (Nat × Option Nat)} {d : Nat}, yo_ok f g d ol → (∀ i, i < d → f' i = f i) → yo_st f' ol = yo_st f ol := by
  intro ol
  induction ol with
  | nil => intro d _ _; rfl
  | cons x r ih =>
    intro d h hf
    obtain ⟨h1, h2, h3, h4, h5, h6⟩ := h
    show (x.2.isNone && decide (f' x.1 = 4)) :: yo_st f' r = (x.2.isNone && decide (f x.1 = 4)) :: yo_st f r
    rw [ih h6 (fun i hi => hf i (by omega)), hf x.1 (by omega)]
/-- the shapes that open, close or turn no block, and those that open one -/
theorem hh_aft {s : Bool} {op sz ns : Nat} {x : Nat × Option Nat} {r : List (Nat × Option Nat)} {i : (Option Nat ⊕ Int64) × Int64 × Nat × List Nat} {b : Int32} (h5 : ¬ op = 5) (h11 : ¬ op = 11) (ho : op < 287) (h98 : xt_S op = 98 ↔ op = 2 ∨ op = 3 ∨ op = 4) (h14 : op = 14 → xt_S op = 114) (h8 : u.1 8 = nI sz) (h9 : u.1 9 = nI ns) (hok : yo_ok (u.2.2.1 7) (u.2.2.1 9) sz (x :: r)) (h : yi_ent (xt_S op) op sz ns (nI (yo_i x)) u i b v) (hst : yo_st (u.2.2.1 7) (x :: r) = s :: yo_st (u.2.2.1 7) r) :
    ∃ st', yn_next op s (yo_st (u.2.2.1 7) r) = some st' ∧ yk_aft sz (x :: r) u (op, i) st' b v := by
  obtain ⟨e1, e2, e3, e4, e5, e6, ⟨e7, e8, e9⟩, e10, pm, w3, w4, w5, w6⟩ := h
  have hlt : ∀ j, j < sz → v.2.2.1 7 j = u.2.2.1 7 j := fun j hj => by rw [e2, upd, if_neg (by omega)]
  have hlt9 : ∀ j, j < sz → v.2.2.1 9 j = u.2.2.1 9 j := fun j hj => by
    rw [e5]
    split
    · rw [upd, if_neg (by omega)]
    · rfl
  have hFR : yk_FR sz (x :: r) u v := by
    refine ⟨fun j hj => ⟨hlt j hj, ?_, ?_, fun _ => hlt9 j hj⟩, ⟨ns, _, h9, e7, by omega, by omega, e9⟩, e10⟩
    · rw [e3, upd, if_neg (by omega)]
    · rw [e4, vp_updL, if_neg (by omega)]
  have hen : yk_ent v (x :: r) sz (op, i) := by
    refine ⟨?_, ?_, ⟨ns, _, ?_, e7, by omega, fun z => ?_⟩, fun z => absurd z h11, fun z => absurd z h5⟩
    · rw [e2, upd, if_pos rfl, if_neg h11]
    · rw [e4, vp_updL, if_pos rfl]
    · rw [e3, upd, if_pos rfl]
    · have hs := h14 z
      rw [if_pos hs] at e8 ⊢
      refine ⟨?_, e8⟩
      rw [List.length_append, List.length_singleton]
      show ns + i.2.2.2.length + 1 ≤ _
      omega
  have hfew : yi_few v := ⟨_, sz + 1, pm, e7, e1, w3, w4, w5, w6⟩
  have hW : ∀ N0, yW N0 u → yW N0 v := fun N0 hw => by
    refine yW_add (m := 1) hw h8 h9 e1 e7 (by omega) (by omega) (by omega) (fun j hj => (hFR.1 j hj).imp id fun y => ⟨y.1, y.2.1⟩) fun j hj hj2 hj3 => ?_
    obtain rfl : j = sz := by omega
    have hop : op = 14 := by
      rw [e2, upd, if_pos rfl] at hj3
      exact (nI_eq (b := 14) (by omega) (by decide)).mp hj3
    have hs := h14 hop
    refine ⟨rfl, ns, i.2.2.2.length, ?_, ?_, Nat.le_refl _, ?_⟩
    · rw [e3, upd, if_pos rfl, hs]
      unfold ye_1
      rw [if_neg (by decide), if_pos rfl]
    · rw [e4, vp_updL, if_pos rfl, hs]
      unfold ye_2
      rw [if_neg (by decide), if_pos rfl]
    · rw [if_pos hs, List.length_append, List.length_singleton]
      omega
  by_cases hs : xt_S op = 98
  · have hop := h98.mp hs
    rw [if_pos hs] at e5 e6
    have hstep : yo_step (x :: r) sz op = (sz, none) :: x :: r := by
      unfold yo_step
      rw [if_neg h11, if_neg h5, if_pos hop]
    have h7 : v.2.2.1 7 sz = nI op := by rw [e2, upd, if_pos rfl]
    have hst' : yo_st (v.2.2.1 7) ((sz, none) :: x :: r) = decide (op = 4) :: s :: yo_st (u.2.2.1 7) r := by
      show (_ :: yo_st (v.2.2.1 7) (x :: r)) = _
      rw [yo_stS hok hlt, hst]
      congr 1
      show (true && decide (v.2.2.1 7 sz = 4)) = _
      rw [h7, Bool.true_and]
      have : nI op = (4 : Int32) ↔ op = 4 := nI_eq (b := 4) (by omega) (by decide)
      exact decide_eq_decide.mpr this
    refine ⟨decide (op = 4) :: s :: yo_st (u.2.2.1 7) r, ?_, ?_, ?_, ?_, hen, hFR, e1, hfew, hW⟩
    · unfold yn_next
      rw [if_neg h11, if_neg h5]
      by_cases h4 : op = 4
      · rw [if_neg (by omega), if_pos h4, decide_eq_true h4]
      · rw [if_pos (by omega), decide_eq_false h4]
    · rw [hstep, hst']
    · rw [hstep, e6]; rfl
    · rw [hstep]
      refine ⟨Nat.le_refl _, Nat.lt_succ_self _, ?_, ?_, fun k hk => (by cases hk), yo_mono (Nat.le_refl _) (fun j hj => ⟨hlt j hj, hlt9 j hj⟩) hok⟩
      · show v.2.2.1 9 sz = nI (yo_i x)
        rw [e5, upd, if_pos rfl]
      · show v.2.2.1 7 sz = 6 ↔ _
        rw [h7]
        constructor
        · intro z
          have := (nI_eq (b := 6) (show op < 2 ^ 31 by omega) (by decide)).mp z
          omega
        · intro z; cases z
  · have hop : ¬ (op = 2 ∨ op = 3 ∨ op = 4) := fun z => hs (h98.mpr z)
    rw [if_neg hs] at e5 e6
    have hstep : yo_step (x :: r) sz op = x :: r := by
      unfold yo_step
      rw [if_neg h11, if_neg h5, if_neg hop]
    refine ⟨s :: yo_st (u.2.2.1 7) r, ?_, ?_, ?_, ?_, hen, hFR, e1, hfew, hW⟩
    · unfold yn_next
      rw [if_neg h11, if_neg h5, if_neg (by omega), if_neg (by omega)]
    · rw [hstep, yo_stS hok hlt, hst]
    · rw [hstep, e6]; rfl
    · rw [hstep]
      exact yo_mono (Nat.le_succ _) (fun j hj => ⟨hlt j hj, hlt9 j hj⟩) hok
end
