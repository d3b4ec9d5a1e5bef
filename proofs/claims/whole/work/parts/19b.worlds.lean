/-! worlds in pieces -/
theorem vP_of {D : va_G} {cl : List vw_C} {ws ws' : va_W} {H : Heap} (h : ∀ q, q ∈ ws' → q ∈ ws) (hP : va_P D cl ws H) : va_P D cl ws' H := by
  intro k q hk
  obtain ⟨i, hi⟩ := List.getElem?_of_mem (h q (List.mem_of_getElem? hk))
  exact hP i q hi
theorem vD_iff {A : Nat → Prop} {ws : va_W} : va_D A ws ↔ (ws.map (fun q => q.1)).Pairwise (fun a b => a ≠ b) ∧ ∀ q ∈ ws, A q.1 := by
  constructor
  · intro h
    refine ⟨?_, fun q hq => ?_⟩
    · rw [List.pairwise_iff_getElem]
      intro i j hi hj hij he
      rw [List.length_map] at hi hj
      rw [List.getElem_map, List.getElem_map] at he
      have := h.1 i j _ _ (List.getElem?_eq_getElem hi) (List.getElem?_eq_getElem hj) he
      omega
    · obtain ⟨i, hi⟩ := List.getElem?_of_mem hq
      exact h.2 i q hi
  · intro h
    refine ⟨fun i j p q hi hj he => ?_, fun k q hk => h.2 q (List.mem_of_getElem? hk)⟩
    obtain ⟨hi1, hi2⟩ := List.getElem?_eq_some_iff.mp hi
    obtain ⟨hj1, hj2⟩ := List.getElem?_eq_some_iff.mp hj
    have hp := List.pairwise_iff_getElem.mp h.1
    rcases Nat.lt_trichotomy i j with c | c | c
    · have := hp i j (by rw [List.length_map]; exact hi1) (by rw [List.length_map]; exact hj1) c
      rw [List.getElem_map, List.getElem_map, hi2, hj2] at this
      exact absurd he this
    · exact c
    · have := hp j i (by rw [List.length_map]; exact hj1) (by rw [List.length_map]; exact hi1) c
      rw [List.getElem_map, List.getElem_map, hi2, hj2] at this
      exact absurd he.symm this
theorem vD_perm {A : Nat → Prop} {ws ws' : va_W} (h : ws.Perm ws') (hD : va_D A ws) : va_D A ws' := by
  rw [vD_iff] at hD ⊢
  exact ⟨(h.map (fun q => q.1)).pairwise hD.1 (fun hab => Ne.symm hab), fun q hq => hD.2 q (h.mem_iff.mpr hq)⟩
theorem perm_mv (E V w : va_W) : ((E ++ V) ++ w).Perm (E ++ (w ++ V)) := by
  rw [List.append_assoc]
  exact List.Perm.append_left E List.perm_append_comm
theorem perm_mvE (E V w : va_W) : ((E ++ V) ++ w).Perm ((E ++ w) ++ V) := by
  rw [List.append_assoc, List.append_assoc]
  exact List.Perm.append_left E List.perm_append_comm
theorem mv_l {D : va_G} {cl : List vw_C} {A : Nat → Prop} {E V w : va_W} {H : Heap} (hP : va_P D cl ((E ++ V) ++ w) H) (hD : va_D A ((E ++ V) ++ w)) : va_P D cl (E ++ (w ++ V)) H ∧ va_D A (E ++ (w ++ V)) := ⟨vP_of (fun _ h => (perm_mv E V w).mem_iff.mpr h) hP, vD_perm (perm_mv E V w) hD⟩
theorem mv_e {D : va_G} {cl : List vw_C} {A : Nat → Prop} {E V w : va_W} {H : Heap} (hP : va_P D cl ((E ++ V) ++ w) H) (hD : va_D A ((E ++ V) ++ w)) : va_P D cl ((E ++ w) ++ V) H ∧ va_D A ((E ++ w) ++ V) := ⟨vP_of (fun _ h => (perm_mvE E V w).mem_iff.mpr h) hP, vD_perm (perm_mvE E V w) hD⟩
theorem last_P {D : va_G} {cl : List vw_C} {ws : va_W} {x : Nat × va_E} {H : Heap} (hP : va_P D cl (ws ++ [x]) H) : va_P D cl [x] H := vP_of (fun _ h => List.mem_append_right _ h) hP
theorem last_D {A : Nat → Prop} {ws : va_W} {x : Nat × va_E} (hD : va_D A (ws ++ [x])) : va_D A [x] := by
  rw [vD_iff] at hD ⊢
  refine ⟨by simp, fun q hq => hD.2 q (List.mem_append_right _ hq)⟩
theorem init_D {A : Nat → Prop} {ws : va_W} {x : Nat × va_E} (hD : va_D A (ws ++ [x])) : va_D A ws := by
  rw [vD_iff] at hD ⊢
  refine ⟨?_, fun q hq => hD.2 q (List.mem_append_left _ hq)⟩
  have := hD.1
  rw [List.map_append, List.pairwise_append] at this
  exact this.1
theorem free_l {A0 : Nat → Prop} {ws : va_W} {x : Nat × va_E} {H0 H : Heap} {locs : List Loc} (hD : va_D A0 (ws ++ [x])) (hS : va_S A0 H0 H locs) (hA : ∀ q, H0.size ≤ q → A0 q) : ∀ q, va_A [x] H.size q → A0 q := by
  intro q h
  rcases h with ⟨k, e, h⟩ | h
  · have h1 : (q, e) ∈ [x] := List.mem_of_getElem? h
    exact (vD_iff.mp hD).2 (q, e) (List.mem_append_right _ h1)
  · exact hA q (Nat.le_trans hS.1 h)
theorem join_l {A0 : Nat → Prop} {D : va_G} {cl : List vw_C} {ws w1 : va_W} {x : Nat × va_E} {H H1 : Heap} (hP : va_P D cl (ws ++ [x]) H) (hD : va_D A0 (ws ++ [x]))
    (hk : ∀ q : Nat, q < H.size → ¬ va_A [x] H.size q → H1[q]? = H[q]?) (hF : ∀ q, va_A [x] H.size q → A0 q) (hP1 : va_P D cl w1 H1) (hD1 : va_D (va_A [x] H.size) w1) : va_P D cl (ws ++ w1) H1 ∧ va_D A0 (ws ++ w1) := by
  have apart : ∀ (k : Nat) (q : Nat × va_E), ws[k]? = some q → q.1 < H.size ∧ ¬ va_A [x] H.size q.1 := by
    intro k q hq
    have hkl : k < ws.length := (List.getElem?_eq_some_iff.mp hq).1
    have hq2 : (ws ++ [x])[k]? = some q := by rw [List.getElem?_append_left hkl]; exact hq
    have hl := (hP k q hq2).lt
    refine ⟨hl, fun h => ?_⟩
    rcases h with ⟨k2, e, h⟩ | h
    · have h1 : (q.1, e) = x := List.mem_singleton.mp (List.mem_of_getElem? h)
      have h2 : (ws ++ [x])[ws.length]? = some x := by simp
      have := hD.1 k ws.length q x hq2 h2 (by rw [← h1])
      omega
    · omega
  refine ⟨va_P.app (fun k q hq => ?_) hP1, va_D.app (init_D hD) (hD1.weaken (fun k q _ h => hF q.1 h)) (fun i j y z hy hz hyz => ?_)⟩
  · obtain ⟨g1, g2⟩ := apart k q hq
    have hkl : k < ws.length := (List.getElem?_eq_some_iff.mp hq).1
    exact (hP k q (by rw [List.getElem?_append_left hkl]; exact hq)).kept (hk q.1 g1 g2)
  · exact (apart i y hy).2 (by rw [hyz]; exact hD1.2 j z hz)
theorem sw_4 {D : va_G} {cl : List vw_C} {A : Nat → Prop} {a b c w d : Nat × va_E} {V : va_W} {H : Heap} (hP : va_P D cl ([a, b, c, w, d] ++ V) H) (hD : va_D A ([a, b, c, w, d] ++ V)) : va_P D cl ([a, b, c, d] ++ ([w] ++ V)) H ∧ va_D A ([a, b, c, d] ++ ([w] ++ V)) := by
  have h : ([a, b, c, w, d] ++ V).Perm ([a, b, c, d] ++ ([w] ++ V)) := List.Perm.cons a (List.Perm.cons b (List.Perm.cons c (List.Perm.swap d w V)))
  exact ⟨vP_of (fun _ q => h.mem_iff.mpr q) hP, vD_perm h hD⟩
