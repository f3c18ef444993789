section
variable {α β γ δ : Type} {B : Nat → Int32} {u v w : xk_St} {lim p q fu : Nat} {e : Int32}
def yr_in (x a b : Int64) : Int32 := if x < a then 0 else if b < x then 0 else 1
theorem y_ite {c : Prop} [Decidable c] {a b : α} : (if c then some (a, u) else some (b, u)) = some (if c then a else b, u) := by
  split <;> rfl
theorem mm_in {x a b : Int64} : fm_Model_in x a b u = some (yr_in x a b, u) := by
  unfold fm_Model_in yr_in
  simp only [y_ite]
def yr_r89 (b s : Int32) : Int32 := if s = 0 then (if yr_in b.toInt64 139 166 = 0 then (if yr_in b.toInt64 168 171 = 0 then (if yr_in b.toInt64 174 191 = 0 then (if b = 210 then 1 else if b = 252 then 1 else if b = 253 then 1 else 0) else 1) else 1) else 1) else 1
def yr_ref (b : Int32) : Int32 := if yr_in b.toInt64 28 29 = 0 then (if yr_in b.toInt64 37 38 = 0 then (if yr_in b.toInt64 42 43 = 0 then (if yr_in b.toInt64 56 57 = 0 then (if yr_in b.toInt64 67 68 = 0 then (if yr_in b.toInt64 91 102 = 0 then yr_r89 b 0 else yr_r89 b 1) else yr_r89 b 1) else yr_r89 b 1) else yr_r89 b 1) else yr_r89 b 1) else yr_r89 b 1
theorem mm_r89 {b s : Int32} : jb_Model_isRefused_89 b s u = some (yr_r89 b s, u) := by
  unfold jb_Model_isRefused_89 jb_Model_isRefused_157 yr_r89
  simp only [mm_in, xs_seq, y_ite]
theorem mm_ref {b : Int32} : fm_Model_isRefused b u = some (yr_ref b, u) := by
  unfold fm_Model_isRefused jb_Model_isRefused_84 yr_ref
  simp only [mm_in, mm_r89, xs_seq, y_ite]
def yr_p39 (b s : Int32) : Int32 := if s = 0 then (if yr_in b.toInt64 69 90 = 0 then (if yr_in b.toInt64 103 138 = 0 then (if b = 167 then 1 else if b = 172 then 1 else if b = 173 then 1 else (if yr_in b.toInt64 192 196 = 0 then (if b = 209 then 1 else if b = 211 then 1 else if b = 212 then 1 else 0) else 1)) else 1) else 1) else 1
def yr_pl (b : Int32) : Int32 := if b < 2 then yr_p39 b 1 else if b = 5 then yr_p39 b 1 else if b = 11 then yr_p39 b 1 else if b = 15 then yr_p39 b 1 else if b = 26 then yr_p39 b 1 else if b = 27 then yr_p39 b 1 else yr_p39 b 0
theorem mm_p39 {b s : Int32} : jb_Model_isPlain_39 b s u = some (yr_p39 b s, u) := by
  unfold jb_Model_isPlain_39 jb_Model_isPlain_128 yr_p39
  simp only [mm_in, xs_seq, y_ite]
theorem mm_pl {b : Int32} : fm_Model_isPlain b u = some (yr_pl b, u) := by
  unfold fm_Model_isPlain jb_Model_isPlain_34 yr_pl
  simp only [mm_p39, y_ite]
/-- which way the reference goes at an instruction -/
def yr_cl (b : Int32) : Nat := if yr_ref b = 0 then (if yr_in b.toInt64 2 4 = 0 then (if b = 12 then 2 else (if b = 13 then 2 else (if b = 16 then 2 else (if yr_in b.toInt64 32 36 = 0 then (if b = 213 then 2 else (if b = 214 then 2 else (if b = 14 then 3 else (if b = 17 then 4 else (if yr_in b.toInt64 40 62 = 0 then (if b = 63 then 5 else (if b = 64 then 5 else (if b = 65 then (if b = 65 then 6 else 7) else (if b = 66 then (if b = 65 then 6 else 7) else (if b = 208 then 8 else (if b = 251 then 9 else (if yr_pl b = 0 then 10 else 11))))))) else 4))))) else 2)))) else 1) else 0
def yr_cl2 (b : Int32) : Nat := if b = 9 then 0 else (if b = 10 then 0 else (if yr_in b.toInt64 17 19 = 0 then (if yr_in b.toInt64 24 27 = 0 then (if yr_in b.toInt64 2 5 = 0 then (if b = 8 then 4 else (if yr_in b.toInt64 20 23 = 0 then (if b < 15 then 2 else (if b = 16 then 2 else 11)) else 8)) else 4) else 0) else 0))
/-- the way of a shape -/
def yr_cs (s : Int32) : Nat := if s = 45 then 0 else if s = 46 then 11 else if s = 98 then 1 else if s = 101 then 11 else if s = 105 then 6 else if s = 108 then 7 else if s = 110 then 11 else if s = 114 then 3 else if s = 116 then 8 else if s = 117 then 2 else if s = 119 then 4 else if s = 122 then 5 else 10
theorem yr_all : ∀ j, j < 256 → ¬ j = 251 → yr_cl (nI j) = yr_cs (xt_S j) := by decide +kernel
theorem yr_251 : yr_cl (nI 251) = 9 := by decide +kernel
theorem yr_all2 : ∀ j, j < 31 → yr_cl2 (nI j) = yr_cs (xt_S (256 + j)) := by decide +kernel
noncomputable def ym_leaf (fu : Nat) (u : xk_St) : Nat → Option (Unit × xk_St)
  | 0 => xs_seq (fm_Model_fail (-3 : Int32) u) fun _ v => some ((), v)
  | 1 => xs_seq (fm_Model_blockTypeHere fu u) fun a v => xs_let (xs_J v 0 a) fun w => some ((), w)
  | 2 => xs_seq (fm_Model_number fu u) fun a v => xs_let (xs_J v 0 a) fun w => some ((), w)
  | 3 => xs_seq (fm_Model_ways fu u) fun _ v => some ((), v)
  | 4 => xs_seq (fm_Model_pair fu u) fun _ v => some ((), v)
  | 5 => xs_seq (fm_Model_needs (0 : Int32) u) fun _ v => some ((), v)
  | 6 => xs_seq (fm_Model_signed fu 32 u) fun a v => xs_let (xs_J v 0 a) fun w => some ((), w)
  | 7 => xs_seq (fm_Model_signed fu 64 u) fun a v => xs_let (xs_J v 0 a) fun w => some ((), w)
  | 8 => xs_seq (fm_Model_target fu u) fun a v => xs_let (xs_J v 0 a.toInt64) fun w => some ((), w)
  | 9 => xs_seq (fm_Model_object fu u) fun _ v => some ((), v)
  | 10 => xs_seq (fm_Model_fail (-1 : Int32) u) fun _ v => some ((), v)
  | _ => some ((), u)
/-- the state behind the first byte of an instruction -/
def ym_i6 (b : Int32) (u : xk_St) : xk_St := xs_J (xs_J (xs_I (xs_I u 8 b) 9 0) 0 0) 1 0
theorem mm_dis : (fm_Model_instruction fu v = xs_seq (fm_Model_one v) fun a w => if (ym_i6 a w).1 6 = 0 then ym_leaf fu (ym_i6 a w) (yr_cl a) else some ((), ym_i6 a w)) := by
  unfold fm_Model_instruction
  congr 1
  funext a w
  simp only [xs_let]
  show (if (ym_i6 a w).1 6 = 0 then _ else some ((), ym_i6 a w)) = _
  congr 1
  have h8 : (ym_i6 a w).1 8 = a := rfl
  show (xs_seq (fm_Model_isRefused ((ym_i6 a w).1 8) (ym_i6 a w)) _) = _
  rw [h8, mm_ref]
  simp only [xs_seq, mm_in, mm_pl, jb_Model_instruction_246]
  unfold yr_cl
  simp only [apply_ite (ym_leaf fu (ym_i6 a w))]
  rfl
theorem mm_obj : fm_Model_object fu u = xs_seq (fm_Model_number fu u) fun a v => if v.1 6 = 0 then (if a ≤ 30 then ym_leaf fu (xs_I v 9 a.toInt32) (yr_cl2 a.toInt32) else xs_seq (fm_Model_fail (-1 : Int32) v) fun _ w => some ((), w)) else some ((), v) := by
  unfold fm_Model_object
  congr 1
  funext a v
  congr 1
  congr 1
  simp only [xs_let]
  have h9 : (xs_I v 9 a.toInt32).1 9 = a.toInt32 := rfl
  simp only [xs_seq, mm_in, h9]
  unfold yr_cl2
  simp only [apply_ite (ym_leaf fu (xs_I v 9 a.toInt32))]
  rfl
end
