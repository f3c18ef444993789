section
variable {uh um : xk_St} {fu : Nat}
/-- all zero: nothing fed, no module -/
theorem rRel_0 : rRel ((fun _ => 0), (fun _ => 0), (fun _ _ => 0), (fun _ _ => 0)) ((fun _ => 0), (fun _ => 0), (fun _ _ => 0), (fun _ _ => 0)) := by
  refine ⟨⟨⟨rfl, rfl, fun _ => ?_, fun _ => ?_⟩, ⟨0, by decide, rfl, rfl⟩, ⟨0, by decide, rfl, rfl, fun i hi => by omega⟩, ⟨0, by decide, rfl, rfl, fun i hi => by omega⟩, rfl, rfl, rfl, ⟨⟨0, rfl, by decide, fun h => absurd h (by decide)⟩, fun i _ => rfl⟩, ⟨0, rfl, by decide, fun i _ _ => rfl⟩⟩, Or.inl ⟨rfl, rfl⟩⟩
  · show by8 0
    exact (by decide : (0 : Int32).toInt8.toInt32 = 0)
  · show by8 0
    exact (by decide : (0 : Int32).toInt8.toInt32 = 0)
/-- each of the eight calls, by both -/
theorem rRel_all {a1 : Int32} {y : Int64} (hfu : 2 ^ 46 < fu) (h : rRel uh um) :
    (∃ (k : Int32) (b : Int32) (vh vm : xk_St), fm_Law_feed fu a1 y uh = some (k, vh) ∧ fm_Model_feed fu a1 y um = some (b, vm) ∧ vm.1 0 = k ∧ (k = 0 → vh.2.2.2 13 0 = b.toInt64) ∧ rRel vh vm) ∧
    (∃ (r : Int32) (vh vm : xk_St), fm_House_load fu uh = some (r, vh) ∧ fm_Model_load fu um = some (r, vm) ∧ rRel vh vm) ∧
    (∃ (k : Int32) (b : Int32) (vh vm : xk_St), fm_Law_give y uh = some (k, vh) ∧ fm_Model_give y um = some (b, vm) ∧ vm.1 0 = k ∧ (k = 0 → vh.2.2.2 13 0 = b.toInt64) ∧ rRel vh vm) ∧
    (∃ (k : Int32) (b : Int32) (vh vm : xk_St), fm_Law_call fu a1 uh = some (k, vh) ∧ fm_Model_call fu a1 um = some (b, vm) ∧ vm.1 0 = k ∧ (k = 0 → vh.2.2.2 13 0 = b.toInt64) ∧ rRel vh vm) ∧
    (∃ (k : Int32) (b : Int64) (vh vm : xk_St), fm_Law_result a1 uh = some (k, vh) ∧ fm_Model_result a1 um = some (b, vm) ∧ vm.1 0 = k ∧ (k = 0 → vh.2.2.2 13 0 = b) ∧ rRel vh vm) ∧
    (∃ (k : Int32) (b : Int64) (vh vm : xk_St), fm_Law_global a1 uh = some (k, vh) ∧ fm_Model_global a1 um = some (b, vm) ∧ vm.1 0 = k ∧ (k = 0 → vh.2.2.2 13 0 = b) ∧ rRel vh vm) ∧
    (∃ (k : Int32) (b : Int32) (vh vm : xk_St), fm_Law_at fu a1 uh = some (k, vh) ∧ fm_Model_at a1 um = some (b, vm) ∧ vm.1 0 = k ∧ (k = 0 → vh.2.2.2 13 0 = b.toInt64) ∧ rRel vh vm) ∧
    (∃ (k : Int32) (b : Int32) (vh vm : xk_St), fm_Law_look fu a1 uh = some (k, vh) ∧ fm_Model_look fu a1 um = some (b, vm) ∧ vm.1 0 = k ∧ (k = 0 → vh.2.2.2 13 0 = b.toInt64) ∧ rRel vh vm) :=
  ⟨q_feed (Nat.lt_trans (by decide) hfu) h, ld_all hfu h.1, q_give h, q_call hfu h, q_result h, q_global h, q_at (Nat.lt_trans (by decide) hfu) h, q_look (Nat.lt_trans (by decide) hfu) h⟩
end
