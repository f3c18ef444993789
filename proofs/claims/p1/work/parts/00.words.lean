theorem xm_1 {w : Jvm.Cond} (i : Nat) (h : tables_1_1[i]? = some w) : w ∈ tables_1 := by
  unfold tables_1
  exact List.mem_append_left _ (List.mem_of_getElem? h)
theorem xm_2 {w : Jvm.Cond} (i : Nat) (h : tables_1_2[i]? = some w) : w ∈ tables_1 := by
  unfold tables_1
  exact List.mem_append_right _ (List.mem_append_left _ (List.mem_of_getElem? h))
theorem xm_3 {w : Jvm.Cond} (i : Nat) (h : tables_1_3[i]? = some w) : w ∈ tables_1 := by
  unfold tables_1
  exact List.mem_append_right _ (List.mem_append_right _ (List.mem_append_left _ (List.mem_of_getElem? h)))
theorem xm_4 {w : Jvm.Cond} (i : Nat) (h : tables_1_4[i]? = some w) : w ∈ tables_1 := by
  unfold tables_1
  exact List.mem_append_right _ (List.mem_append_right _ (List.mem_append_right _ (List.mem_append_left _ (List.mem_of_getElem? h))))
theorem xm_5 {w : Jvm.Cond} (i : Nat) (h : tables_1_5[i]? = some w) : w ∈ tables_1 := by
  unfold tables_1
  exact List.mem_append_right _ (List.mem_append_right _ (List.mem_append_right _ (List.mem_append_right _ (List.mem_append_left _ (List.mem_of_getElem? h)))))
theorem xm_6 {w : Jvm.Cond} (i : Nat) (h : tables_1_6[i]? = some w) : w ∈ tables_1 := by
  unfold tables_1
  exact List.mem_append_right _ (List.mem_append_right _ (List.mem_append_right _ (List.mem_append_right _ (List.mem_append_right _ (List.mem_append_left _ (List.mem_of_getElem? h))))))
theorem xm_7 {w : Jvm.Cond} (i : Nat) (h : tables_1_7[i]? = some w) : w ∈ tables_1 := by
  unfold tables_1
  exact List.mem_append_right _ (List.mem_append_right _ (List.mem_append_right _ (List.mem_append_right _ (List.mem_append_right _ (List.mem_append_right _ (List.mem_append_left _ (List.mem_of_getElem? h)))))))
theorem xm_8 {w : Jvm.Cond} (i : Nat) (h : tables_1_8[i]? = some w) : w ∈ tables_1 := by
  unfold tables_1
  exact List.mem_append_right _ (List.mem_append_right _ (List.mem_append_right _ (List.mem_append_right _ (List.mem_append_right _ (List.mem_append_right _ (List.mem_append_right _ (List.mem_append_left _ (List.mem_of_getElem? h))))))))
theorem xm_9 {w : Jvm.Cond} (i : Nat) (h : tables_1_9[i]? = some w) : w ∈ tables_1 := by
  unfold tables_1
  exact List.mem_append_right _ (List.mem_append_right _ (List.mem_append_right _ (List.mem_append_right _ (List.mem_append_right _ (List.mem_append_right _ (List.mem_append_right _ (List.mem_append_right _ (List.mem_append_left _ (List.mem_of_getElem? h)))))))))
theorem xm_10 {w : Jvm.Cond} (i : Nat) (h : tables_1_10[i]? = some w) : w ∈ tables_1 := by
  unfold tables_1
  exact List.mem_append_right _ (List.mem_append_right _ (List.mem_append_right _ (List.mem_append_right _ (List.mem_append_right _ (List.mem_append_right _ (List.mem_append_right _ (List.mem_append_right _ (List.mem_append_right _ (List.mem_append_left _ (List.mem_of_getElem? h))))))))))
theorem xm_11 {w : Jvm.Cond} (i : Nat) (h : tables_1_11[i]? = some w) : w ∈ tables_1 := by
  unfold tables_1
  exact List.mem_append_right _ (List.mem_append_right _ (List.mem_append_right _ (List.mem_append_right _ (List.mem_append_right _ (List.mem_append_right _ (List.mem_append_right _ (List.mem_append_right _ (List.mem_append_right _ (List.mem_append_right _ (List.mem_of_getElem? h))))))))))
