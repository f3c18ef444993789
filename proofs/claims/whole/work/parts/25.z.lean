section
variable {α β γ δ : Type} {B : Nat → Int32} {u v w : xk_St} {L lim p q fu : Nat} {e : Int32}
/-- behind an 0x05 -/
theorem hh_aftE {sz ns pq r0 : Nat} {x : Nat × Option Nat} {r : List (Nat × Option Nat)} (hx : x.2 = none) (h4 : u.2.2.1 7 x.1 = 4) (h8 : u.1 8 = nI sz) (h9 : u.1 9 = nI ns) (hns : ns ≤ pq) (hsz : sz + 1 ≤ pq) (hpq : pq ≤ 8192) (hw : (xs_I u 17 (nI r0)).1 17 = nI pq) (hok : yo_ok (u.2.2.1 7) (u.2.2.1 9) sz (x :: r)) :
    yk_aft sz (x :: r) u (5, .inr 0, 0, 0, []) (false :: yo_st (u.2.2.1 7) r) (nI sz) (xs_A (xs_A (yd_add (xs_I u 17 (nI r0)) sz (nI 5) 0 0) 9 sz (u.2.2.1 9 x.1)) 9 x.1 (nI sz)) := by
  obtain ⟨k1, k2, k3, k4, k5, k6⟩ := hok
  have hi : yo_i x = x.1 := by unfold yo_i; rw [hx]; rfl
  rw [hi] at k2 k3
  have a7 : ∀ j, j < sz → (xs_A (xs_A (yd_add (xs_I u 17 (nI r0)) sz (nI 5) 0 0) 9 sz (u.2.2.1 9 x.1)) 9 x.1 (nI sz)).2.2.1 7 j = u.2.2.1 7 j := fun j hj => by
    show upd (u.2.2.1 7) sz (nI 5) j = _
    rw [upd, if_neg (by omega)]
  have a7s : (xs_A (xs_A (yd_add (xs_I u 17 (nI r0)) sz (nI 5) 0 0) 9 sz (u.2.2.1 9 x.1)) 9 x.1 (nI sz)).2.2.1 7 sz = nI 5 := by
    show upd (u.2.2.1 7) sz (nI 5) sz = _
    rw [upd, if_pos rfl]
  have a9 : ∀ j, j < sz → ¬ j = x.1 → (xs_A (xs_A (yd_add (xs_I u 17 (nI r0)) sz (nI 5) 0 0) 9 sz (u.2.2.1 9 x.1)) 9 x.1 (nI sz)).2.2.1 9 j = u.2.2.1 9 j := fun j hj hne => by
    show upd (upd (u.2.2.1 9) sz (u.2.2.1 9 x.1)) x.1 (nI sz) j = _
    rw [upd, if_neg hne, upd, if_neg (by omega)]
  have a9x : (xs_A (xs_A (yd_add (xs_I u 17 (nI r0)) sz (nI 5) 0 0) 9 sz (u.2.2.1 9 x.1)) 9 x.1 (nI sz)).2.2.1 9 x.1 = nI sz := by
    show upd (upd (u.2.2.1 9) sz (u.2.2.1 9 x.1)) x.1 (nI sz) x.1 = _
    rw [upd, if_pos rfl]
  have a9s : (xs_A (xs_A (yd_add (xs_I u 17 (nI r0)) sz (nI 5) 0 0) 9 sz (u.2.2.1 9 x.1)) 9 x.1 (nI sz)).2.2.1 9 sz = yo_up r := by
    show upd (upd (u.2.2.1 9) sz (u.2.2.1 9 x.1)) x.1 (nI sz) sz = _
    rw [upd, if_neg (by omega), upd, if_pos rfl]
    exact k3
  have hr : ¬ r = [] := fun z => by
    have := k4.mpr z
    rw [h4] at this
    exact absurd this (by decide)
  have hstep : yo_step (x :: r) sz 5 = (x.1, some sz) :: r := rfl
  refine ⟨?_, rfl, ?_, ⟨a7s, ?_, ⟨ns, ns, ?_, h9, by omega, fun z => absurd z (by decide)⟩, fun z => absurd z (by decide), fun _ y t hy => ?_⟩, ⟨fun j hj => ⟨a7 j hj, ?_, ?_, fun hne => a9 j hj ?_⟩, ⟨ns, ns, h9, h9, Nat.le_refl _, by omega, fun _ _ => rfl⟩, ?_⟩, rfl, ⟨ns, sz + 1, pq, h9, rfl, hw, by omega, by omega, by omega⟩, fun N0 hW => yW_add (m := 1) (ns' := ns) hW h8 h9 rfl h9 (by omega) (Nat.le_refl _) (by omega) (fun j hj => ⟨a7 j hj, ?_, ?_⟩) fun j hj hj2 hj3 => absurd hj3 ?_⟩
  · rw [hstep]
    show _ = (false :: yo_st _ r)
    rw [yo_stS k6 fun j hj => a7 j (by omega)]
  · rw [hstep]
    refine ⟨Nat.le_of_lt k2, Nat.lt_succ_self _, a9s, ?_, fun k hk => ?_, yo_mono (Nat.le_refl _) (fun j hj => ⟨a7 j (by omega), a9 j (by omega) (by omega)⟩) k6⟩
    · rw [a7 x.1 k2]; exact k4
    · cases hk
      exact ⟨k2, a7s, a9x, hr⟩
  · show vp_updL (u.2.2.2 2) sz 0 sz = _
    rw [vp_updL, if_pos rfl]; rfl
  · show upd (u.2.2.1 8) sz 0 sz = _
    rw [upd, if_pos rfl]; rfl
  · cases hy
    exact a9x
  · show upd (u.2.2.1 8) sz 0 j = _
    rw [upd, if_neg (by omega)]
  · show vp_updL (u.2.2.2 2) sz 0 j = _
    rw [vp_updL, if_neg (by omega)]
  · have := hne x (List.mem_cons_self ..)
    rw [hi] at this
    exact this
  · exact yf_A (yf_A (yf_I (yf_B (yf_A (yf_A (yf_I yf_refl (by decide)) (by decide)) (by decide)) (by decide)) (by decide)) (by decide)) (by decide)
  · show upd (u.2.2.1 8) sz 0 j = _
    rw [upd, if_neg (by omega)]
  · show vp_updL (u.2.2.2 2) sz 0 j = _
    rw [vp_updL, if_neg (by omega)]
  · obtain rfl : j = sz := by omega
    rw [a7s]
    decide
/-- behind an 0x0b -/
theorem hh_aftN {sz ns pq r0 : Nat} {x : Nat × Option Nat} {r : List (Nat × Option Nat)} (h8 : u.1 8 = nI sz) (h9 : u.1 9 = nI ns) (hns : ns ≤ pq) (hsz : sz + 1 ≤ pq) (hpq : pq ≤ 8192) (hw : (xs_I u 17 (nI r0)).1 17 = nI pq) (hok : yo_ok (u.2.2.1 7) (u.2.2.1 9) sz (x :: r)) :
    yk_aft sz (x :: r) u (11, .inr 0, 0, 0, []) (yo_st (u.2.2.1 7) r) (u.2.2.1 9 (yo_i x)) (xs_A (yd_add (xs_I u 17 (nI r0)) sz (if u.2.2.1 7 (yo_i x) = 6 then 7 else 11) 0 0) 9 (yo_i x) (nI sz)) := by
  obtain ⟨k1, k2, k3, k4, k5, k6⟩ := hok
  have h6 : u.2.2.1 7 (yo_i x) = 6 ↔ r = [] := by
    rcases hx : x.2 with _ | k
    · have hi : yo_i x = x.1 := by unfold yo_i; rw [hx]; rfl
      rw [hi]; exact k4
    · have hi : yo_i x = k := by unfold yo_i; rw [hx]; rfl
      obtain ⟨-, c2, -, c4⟩ := k5 k hx
      rw [hi, c2]
      exact ⟨fun z => absurd z (by decide), fun z => absurd z c4⟩
  have hv : (if u.2.2.1 7 (yo_i x) = 6 then (7 : Int32) else 11) = nI (if r = [] then 7 else 11) := by
    by_cases hr : r = []
    · rw [if_pos (h6.mpr hr), if_pos hr]; rfl
    · rw [if_neg (fun z => hr (h6.mp z)), if_neg hr]; rfl
  rw [hv]
  have a7 : ∀ j, j < sz → (xs_A (yd_add (xs_I u 17 (nI r0)) sz (nI (if r = [] then 7 else 11)) 0 0) 9 (yo_i x) (nI sz)).2.2.1 7 j = u.2.2.1 7 j := fun j hj => by
    show upd (u.2.2.1 7) sz _ j = _
    rw [upd, if_neg (by omega)]
  have a9 : ∀ j, ¬ j = yo_i x → (xs_A (yd_add (xs_I u 17 (nI r0)) sz (nI (if r = [] then 7 else 11)) 0 0) 9 (yo_i x) (nI sz)).2.2.1 9 j = u.2.2.1 9 j := fun j hne => by
    show upd (u.2.2.1 9) (yo_i x) (nI sz) j = _
    rw [upd, if_neg hne]
  have hstep : yo_step (x :: r) sz 11 = r := rfl
  refine ⟨?_, k3, ?_, ⟨?_, ?_, ⟨ns, ns, ?_, h9, by omega, fun z => absurd z (by decide)⟩, fun _ y t hy => ?_, fun z => absurd z (by decide)⟩, ⟨fun j hj => ⟨a7 j hj, ?_, ?_, fun hne => a9 j (hne x (List.mem_cons_self ..))⟩, ⟨ns, ns, h9, h9, Nat.le_refl _, by omega, fun _ _ => rfl⟩, ?_⟩, rfl, ⟨ns, sz + 1, pq, h9, rfl, hw, by omega, by omega, by omega⟩, fun N0 hW => yW_add (m := 1) (ns' := ns) hW h8 h9 rfl h9 (by omega) (Nat.le_refl _) (by omega) (fun j hj => ⟨a7 j hj, ?_, ?_⟩) fun j hj hj2 hj3 => absurd hj3 ?_⟩
  · rw [hstep, yo_stS k6 fun j hj => a7 j (by omega)]
  · rw [hstep]
    exact yo_mono (show x.1 ≤ sz + 1 by omega) (fun j hj => ⟨a7 j (by omega), a9 j (by omega)⟩) k6
  · show upd (u.2.2.1 7) sz _ sz = _
    rw [upd, if_pos rfl, if_pos rfl]
    rfl
  · show vp_updL (u.2.2.2 2) sz 0 sz = _
    rw [vp_updL, if_pos rfl]; rfl
  · show upd (u.2.2.1 8) sz 0 sz = _
    rw [upd, if_pos rfl]; rfl
  · cases hy
    show upd (u.2.2.1 9) (yo_i x) (nI sz) (yo_i x) = _
    rw [upd, if_pos rfl]
  · show upd (u.2.2.1 8) sz 0 j = _
    rw [upd, if_neg (by omega)]
  · show vp_updL (u.2.2.2 2) sz 0 j = _
    rw [vp_updL, if_neg (by omega)]
  · exact yf_A (yf_I (yf_B (yf_A (yf_A (yf_I yf_refl (by decide)) (by decide)) (by decide)) (by decide)) (by decide)) (by decide)
  · show upd (u.2.2.1 8) sz 0 j = _
    rw [upd, if_neg (by omega)]
  · show vp_updL (u.2.2.2 2) sz 0 j = _
    rw [vp_updL, if_neg (by omega)]
  · obtain rfl : j = sz := by omega
    show ¬ upd (u.2.2.1 7) j (nI (if r = [] then 7 else 11)) j = 14
    rw [upd, if_pos rfl]
    split
    · decide
    · decide
end
