def kw_h0 (ad : Nat → Nat) (ca : Nat → ClassId) (u : xk_St) : va_W := [(ad 0, .inr (0, kw_h_0 ad u)), (ad 1, .inl (ca 0, 8192, .inl (u.2.2.1 0))), (ad 2, .inl (ca 2, 16, .inr (.inl (u.2.2.2 0)))), (ad 3, .inl (ca 2, 16, .inr (.inl (u.2.2.2 1)))), (ad 4, .inr (6, kw_h_4 ad u)), (ad 5, .inl (ca 0, 8192, .inl (u.2.2.1 1))), (ad 6, .inr (9, kw_h_6 ad u)), (ad 7, .inl (ca 1, 65, .inl (u.2.2.1 2))), (ad 8, .inl (ca 1, 65, .inl (u.2.2.1 3))), (ad 9, .inl (ca 1, 65, .inl (u.2.2.1 4))), (ad 10, .inl (ca 1, 65, .inl (u.2.2.1 5))), (ad 11, .inl (ca 1, 2210, .inl (u.2.2.1 6))), (ad 12, .inr (2, kw_h_12 ad u)), (ad 13, .inl (ca 4, 8192, .inl (u.2.2.1 7))), (ad 14, .inl (ca 1, 8192, .inl (u.2.2.1 8))), (ad 15, .inl (ca 2, 8192, .inr (.inl (u.2.2.2 2)))), (ad 16, .inl (ca 1, 8192, .inl (u.2.2.1 9))), (ad 17, .inl (ca 1, 8192, .inl (u.2.2.1 10))), (ad 18, .inl (ca 1, 8192, .inl (u.2.2.1 11))), (ad 19, .inr (8, kw_h_19 ad u)), (ad 20, .inl (ca 1, 65, .inl (u.2.2.1 12))), (ad 21, .inl (ca 1, 65, .inl (u.2.2.1 13))), (ad 22, .inl (ca 1, 65, .inl (u.2.2.1 14))), (ad 23, .inl (ca 2, 65, .inr (.inl (u.2.2.2 3)))), (ad 24, .inr (8, kw_h_24 ad u)), (ad 25, .inl (ca 1, 65, .inl (u.2.2.1 15))), (ad 26, .inl (ca 1, 65, .inl (u.2.2.1 16))), (ad 27, .inl (ca 1, 65, .inl (u.2.2.1 17))), (ad 28, .inl (ca 2, 65, .inr (.inl (u.2.2.2 4)))), (ad 29, .inr (8, kw_h_29 ad u)), (ad 30, .inl (ca 1, 65, .inl (u.2.2.1 18))), (ad 31, .inl (ca 1, 65, .inl (u.2.2.1 19))), (ad 32, .inl (ca 1, 65, .inl (u.2.2.1 20))), (ad 33, .inl (ca 2, 65, .inr (.inl (u.2.2.2 5)))), (ad 34, .inr (8, kw_h_34 ad u)), (ad 35, .inl (ca 1, 65, .inl (u.2.2.1 21))), (ad 36, .inl (ca 1, 65, .inl (u.2.2.1 22))), (ad 37, .inl (ca 1, 65, .inl (u.2.2.1 23))), (ad 38, .inl (ca 2, 65, .inr (.inl (u.2.2.2 6)))), (ad 39, .inr (8, kw_h_39 ad u)), (ad 40, .inl (ca 1, 65, .inl (u.2.2.1 24))), (ad 41, .inl (ca 1, 65, .inl (u.2.2.1 25))), (ad 42, .inl (ca 1, 65, .inl (u.2.2.1 26))), (ad 43, .inl (ca 2, 65, .inr (.inl (u.2.2.2 7)))), (ad 44, .inr (8, kw_h_44 ad u)), (ad 45, .inl (ca 1, 65, .inl (u.2.2.1 27))), (ad 46, .inl (ca 1, 65, .inl (u.2.2.1 28))), (ad 47, .inl (ca 1, 65, .inl (u.2.2.1 29))), (ad 48, .inl (ca 2, 65, .inr (.inl (u.2.2.2 8)))), (ad 49, .inr (8, kw_h_49 ad u)), (ad 50, .inl (ca 1, 65, .inl (u.2.2.1 30))), (ad 51, .inl (ca 1, 65, .inl (u.2.2.1 31))), (ad 52, .inl (ca 1, 65, .inl (u.2.2.1 32))), (ad 53, .inl (ca 2, 65, .inr (.inl (u.2.2.2 9)))), (ad 54, .inr (7, kw_h_54 ad u)), (ad 55, .inr (1, kw_h_55 ad u)), (ad 56, .inl (ca 1, 100, .inl (u.2.2.1 33))), (ad 57, .inl (ca 1, 100, .inl (u.2.2.1 34))), (ad 58, .inl (ca 3, 100, .inl (u.2.2.1 35))), (ad 59, .inl (ca 1, 200, .inl (u.2.2.1 36))), (ad 60, .inr (4, kw_h_60 ad u)), (ad 61, .inr (10, kw_h_61 ad u)), (ad 62, .inl (ca 2, 18000, .inr (.inl (u.2.2.2 10)))), (ad 63, .inl (ca 3, 18000, .inl (u.2.2.1 37))), (ad 64, .inr (10, kw_h_64 ad u)), (ad 65, .inl (ca 2, 64, .inr (.inl (u.2.2.2 11)))), (ad 66, .inl (ca 3, 64, .inl (u.2.2.1 38))), (ad 67, .inr (3, kw_h_67 ad u)), (ad 68, .inr (10, kw_h_68 ad u)), (ad 69, .inl (ca 2, 2000, .inr (.inl (u.2.2.2 12)))), (ad 70, .inl (ca 3, 2000, .inl (u.2.2.1 39))), (ad 71, .inl (ca 1, 2001, .inl (u.2.2.1 40))), (ad 72, .inl (ca 1, 2001, .inl (u.2.2.1 41))), (ad 73, .inl (ca 1, 2001, .inl (u.2.2.1 42))), (ad 74, .inl (ca 3, 2001, .inl (u.2.2.1 43))), (ad 75, .inl (ca 1, 2000, .inl (u.2.2.1 44))), (ad 76, .inl (ca 1, 2000, .inl (u.2.2.1 45))), (ad 77, .inr (5, kw_h_77 ad u)), (ad 78, .inl (ca 0, 65536, .inl (u.2.2.1 46))), (ad 79, .inl (ca 1, 64, .inl (u.2.2.1 47))), (ad 80, .inl (ca 1, 60, .inl (u.2.2.1 48))), (ad 81, .inl (ca 1, 60, .inl (u.2.2.1 49))), (ad 82, .inl (ca 1, 60, .inl (u.2.2.1 50)))]
theorem xk_post {l : Launch} {y : MethodName} {ws : List Cond} {rm : Room} {Pc : Array Value → State → Prop} {Qc Qd : Array Value → State → Outcome → State → Prop} {mc ms : Nat} {free : Addr → Prop} (h : ∀ a st o t, Qc a st o t → Qd a st o t) (hM : Met l y ws rm Pc Qc mc ms free) : Met l y ws rm Pc Qd mc ms free := fun p e ha hc hk s m args below hf happ hP hK => by
  obtain ⟨n, o, h1, h2, h3, h4, h5⟩ := hM p e ha hc hk s m args below hf happ hP hK
  exact ⟨n, o, h1, h2, h3, h _ _ _ _ h4, h5⟩
theorem xl_last {D : va_G} {cl : List vw_C} {a : va_W} {x : Nat × va_E} {H : Heap} (hP : va_P D cl (a ++ [x]) H) : va_P D cl [x] H := hP.sub [a.length] (by simp)
theorem xl_lastD {A : Nat → Prop} {a : va_W} {x : Nat × va_E} (hD : va_D A (a ++ [x])) : va_D A [x] := hD.sub [a.length] (by simp [va_nd]) (by simp)
theorem xl_lastF {A0 : Nat → Prop} {a : va_W} {x : Nat × va_E} {H0 H : Heap} {locs : List Loc} (hD : va_D A0 (a ++ [x])) (hS : va_S A0 H0 H locs) (hA : ∀ q, H0.size ≤ q → A0 q) : ∀ q, va_A [x] H.size q → A0 q := va_free (wc := [x]) hD hS hA [a.length] (by simp)
theorem va_D.mk9 {A : Nat → Prop} {ws : va_W} (h : (ws.map (fun q => q.1)).Nodup) (hA : ∀ q ∈ ws, A q.1) : va_D A ws := by
  refine ⟨fun i j x y hx hy e => ?_, fun k q hq => hA q (List.mem_of_getElem? hq)⟩
  have h1 : (ws.map (fun q => q.1))[i]? = some x.1 := by rw [List.getElem?_map, hx]; rfl
  have h2 : (ws.map (fun q => q.1))[j]? = some y.1 := by rw [List.getElem?_map, hy]; rfl
  rw [← e] at h2
  exact (List.getElem?_inj (List.getElem?_eq_some_iff.mp h1).1 h).mp (h1.trans h2.symm)
theorem va_D.all9 {A : Nat → Prop} {ws : va_W} (h : va_D A ws) : ∀ q ∈ ws, A q.1 := fun q hq => h.all q.1 (List.mem_map.mpr ⟨q, hq, rfl⟩)
theorem va_P.mem9 {D : va_G} {cl : List vw_C} {ws vs : va_W} {H : Heap} (hP : va_P D cl ws H) (h : ∀ q ∈ vs, q ∈ ws) : va_P D cl vs H := fun k q hq => by
  obtain ⟨i, hi⟩ := List.getElem?_of_mem (h q (List.mem_of_getElem? hq))
  exact hP i q hi
theorem xl_join {A0 : Nat → Prop} {D : va_G} {cl : List vw_C} {a w1 : va_W} {x : Nat × va_E} {H H1 : Heap} (hP : va_P D cl (a ++ [x]) H) (hD : va_D A0 (a ++ [x])) (hk : ∀ q : Nat, q < H.size → ¬ va_A [x] H.size q → H1[q]? = H[q]?) (hF : ∀ q, va_A [x] H.size q → A0 q) (hP1 : va_P D cl w1 H1) (hD1 : va_D (va_A [x] H.size) w1) : va_P D cl (a ++ w1) H1 ∧ va_D A0 (a ++ w1) := by
  have hnd := hD.nd
  rw [List.map_append] at hnd
  have apart : ∀ q ∈ a, q.1 < H.size ∧ ¬ va_A [x] H.size q.1 := by
    intro q hq
    obtain ⟨i, hi⟩ := List.getElem?_of_mem hq
    have hil := (List.getElem?_eq_some_iff.mp hi).1
    have h1 : (a ++ [x])[i]? = some q := by rw [List.getElem?_append_left hil]; exact hi
    have hl := (hP i q h1).lt
    refine ⟨hl, fun h => ?_⟩
    rcases h with ⟨k, e, h⟩ | h
    · have hk0 : k = 0 := by
        have := (List.getElem?_eq_some_iff.mp h).1
        simp at this
        exact this
      subst hk0
      have hx : x = (q.1, e) := Option.some.inj h
      have := (List.nodup_append.mp hnd).2.2 q.1 (List.mem_map.mpr ⟨q, hq, rfl⟩) q.1 (by rw [hx]; simp)
      exact this rfl
    · omega
  refine ⟨va_P.app (fun k q hq => ?_) hP1, va_D.app (va_D.mk9 (List.nodup_append.mp hnd).1 (fun q hq => hD.all9 q (List.mem_append_left _ hq))) (hD1.weaken (fun k q _ h => hF q.1 h)) (fun i j y z hy hz e => ?_)⟩
  · have hm := List.mem_of_getElem? hq
    obtain ⟨i, hi⟩ := List.getElem?_of_mem hm
    have hil := (List.getElem?_eq_some_iff.mp hi).1
    exact (hP i q (by rw [List.getElem?_append_left hil]; exact hi)).kept (hk q.1 (apart q hm).1 (apart q hm).2)
  · exact (apart y (List.mem_of_getElem? hy)).2 (by rw [e]; exact hD1.2 j z hz)
set_option maxRecDepth 100000 in
theorem xl_app {ca : Nat → ClassId} {ad : Nat → Nat} {po : Nat} : kw_h (fun i => if i = 83 then po else ad i) ca xl_u0 = kw_h0 ad ca xl_u0 ++ [(po, .inl (ca 2, 1, .inr (.inl (fun _ => 0))))] := rfl
theorem xl_cut {D : va_G} {cl : List vw_C} {A : Nat → Prop} {H : Heap} {a b : va_W} {o : Nat × va_E} (hP : va_P D cl ((a ++ b) ++ [o]) H) (hD : va_D A ((a ++ b) ++ [o])) : va_P D cl (a ++ [o]) H ∧ va_P D cl b H ∧ va_D A (a ++ [o]) ∧ va_D A b ∧ (∀ q ∈ b.map (fun q => q.1), q ∉ (a ++ [o]).map (fun q => q.1)) ∧ ∀ q ∈ (a ++ [o]).map (fun q => q.1), q ∉ b.map (fun q => q.1) := by
  have m1 : ∀ q ∈ a ++ [o], q ∈ (a ++ b) ++ [o] := fun q h => by
    rcases List.mem_append.mp h with h | h
    · exact List.mem_append_left _ (List.mem_append_left _ h)
    · exact List.mem_append_right _ h
  have m2 : ∀ q ∈ b, q ∈ (a ++ b) ++ [o] := fun q h => List.mem_append_left _ (List.mem_append_right _ h)
  have hnd := hD.nd
  have s1 : ((a ++ [o]).map (fun q => q.1)).Sublist (((a ++ b) ++ [o]).map (fun q => q.1)) := by
    apply List.Sublist.map
    rw [List.append_assoc]
    exact List.Sublist.append_left (List.sublist_append_right b [o]) a
  have s2 : (b.map (fun q => q.1)).Sublist (((a ++ b) ++ [o]).map (fun q => q.1)) := by
    apply List.Sublist.map
    rw [List.append_assoc]
    exact (List.sublist_append_left b [o]).trans (List.sublist_append_right a (b ++ [o]))
  have key : ∀ q, q ∈ b.map (fun q => q.1) → q ∈ (a ++ [o]).map (fun q => q.1) → False := by
    intro q hb ha
    rw [List.map_append, List.map_append] at hnd
    have n1 := List.nodup_append.mp hnd
    have n2 := List.nodup_append.mp n1.1
    rw [List.map_append] at ha
    rcases List.mem_append.mp ha with h | h
    · exact n2.2.2 q h q hb rfl
    · exact n1.2.2 q (List.mem_append_right _ hb) q h rfl
  exact ⟨hP.mem9 m1, hP.mem9 m2, va_D.mk9 (hnd.sublist s1) (fun q hq => hD.all9 q (m1 q hq)), va_D.mk9 (hnd.sublist s2) (fun q hq => hD.all9 q (m2 q hq)), fun q hb ha => key q hb ha, fun q ha hb => key q hb ha⟩
