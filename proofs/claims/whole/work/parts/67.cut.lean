/-! a node is cut -/
def Doc.rem (d : Doc) (x : Nat) : Doc := (d.n - 1, fun y => d.c (if y < x then y else y + 1), fun y => if d.l (if y < x then y else y + 1) ≤ x then d.l (if y < x then y else y + 1) else d.l (if y < x then y else y + 1) - 1)
theorem rem_c1 {d : Doc} {x y : Nat} (h : y < x) : (d.rem x).c y = d.c y := by
  show d.c (if y < x then y else y + 1) = _
  rw [if_pos h]
theorem rem_c2 {d : Doc} {x y : Nat} (h : ¬ y < x) : (d.rem x).c y = d.c (y + 1) := by
  show d.c (if y < x then y else y + 1) = _
  rw [if_neg h]
theorem rem_l1 {d : Doc} {x y : Nat} (h : y < x) (hl : d.l y ≤ y) : (d.rem x).l y = d.l y := by
  show (if d.l (if y < x then y else y + 1) ≤ x then d.l (if y < x then y else y + 1) else d.l (if y < x then y else y + 1) - 1) = _
  rw [if_pos h, if_pos (by omega)]
theorem rem_l2 {d : Doc} {x y : Nat} (h : ¬ y < x) : (d.rem x).l y = if d.l (y + 1) ≤ x then d.l (y + 1) else d.l (y + 1) - 1 := by
  show (if d.l (if y < x then y else y + 1) ≤ x then d.l (if y < x then y else y + 1) else d.l (if y < x then y else y + 1) - 1) = _
  rw [if_neg h]
theorem rem_n {d : Doc} {x : Nat} : (d.rem x).n = d.n - 1 := rfl
theorem fst_rem {d : Doc} (h : Fst d) {x : Nat} (hx : x < d.n) : Fst (d.rem x) := by
  have hn := h.1
  refine ⟨by rw [rem_n]; omega, fun y hy => ?_, fun y z hy hz hl => ?_⟩
  · rw [rem_n] at hy
    by_cases q : y < x
    · have := h.2.1 y (by omega)
      rw [rem_c1 q, rem_l1 q this.2]
      exact this
    · have := h.2.1 (y + 1) (by omega)
      rw [rem_c2 q, rem_l2 q]
      refine ⟨this.1, ?_⟩
      split <;> omega
  · rw [rem_n] at hy
    by_cases qz : z < x
    · have lz := (h.2.1 z (by omega)).2
      rw [rem_l1 qz lz]
      by_cases qy : y < x
      · have ly := (h.2.1 y (by omega)).2
        rw [rem_l1 qy ly] at hl ⊢
        exact h.2.2 y z (by omega) hz hl
      · rw [rem_l2 qy] at hl ⊢
        by_cases w : d.l (y + 1) ≤ x
        · rw [if_pos w] at hl ⊢
          exact h.2.2 (y + 1) z (by omega) (by omega) hl
        · rw [if_neg w] at hl ⊢
          omega
    · have qy : ¬ y < x := by omega
      rw [rem_l2 qz]
      rw [rem_l2 qy] at hl ⊢
      by_cases w : d.l (y + 1) ≤ x
      · rw [if_pos w] at hl ⊢
        have := h.2.2 (y + 1) (z + 1) (by omega) (by omega) (by omega)
        split <;> omega
      · rw [if_neg w] at hl ⊢
        have := h.2.2 (y + 1) (z + 1) (by omega) (by omega) (by omega)
        split <;> omega
theorem sm_mono {f : Nat → Int} (h : ∀ i, 0 ≤ f i) (lo a b : Nat) : sm f lo a ≤ sm f lo (a + b) := by
  rw [sm_split]
  have : ∀ n lo, 0 ≤ sm f lo n := fun n => by
    induction n with
    | zero => intro lo; rw [sm]; omega
    | succ n ih =>
      intro lo
      have := ih lo
      have := h (lo + n)
      rw [sm]
      omega
  have := this b (lo + a)
  omega
theorem wf_rem {d : Doc} (h : WF d) {x : Nat} (hx : x < d.n) (hc : x ≠ d.n - 1 ∨ chn d x = 1) : WF (d.rem x) := by
  have hF := h.1
  have hn := hF.1
  refine ⟨fst_rem hF hx, fun h0 => ?_⟩
  have h0' : 0 < d.n - 1 := h0
  rw [rem_n]
  have hr := h.2 (by omega)
  by_cases q : d.n - 1 - 1 < x
  · have e : x = d.n - 1 := by omega
    have ch := hc.resolve_left (fun z => z e)
    have lz := (hF.2.1 (d.n - 1 - 1) (by omega)).2
    rw [rem_l1 q lz]
    -- the last but one is a child; if it did not begin at 0 there would be another one
    by_cases z0 : d.l (d.n - 1 - 1) = 0
    · exact z0
    · exfalso
      have pa : ∀ z, z < d.n - 1 → (∀ w, z < w → w < d.n - 1 → z < d.l w) → par d z = ((d.n - 1 : Nat) : Int) := by
        intro z hz hw
        rcases par_spec d hn z with ⟨p, e1, e2, e3, e4, e5⟩ | ⟨e1, e2⟩
        · by_cases ep : p = d.n - 1
          · rw [e1, ep]
          · have := hw p e2 (by omega)
            omega
        · have := e2 (d.n - 1) (by omega) (by omega)
          omega
      have p1 := pa (d.n - 1 - 1) (by omega) (fun w a b => by omega)
      have p2 := pa (d.l (d.n - 1 - 1) - 1) (by omega) (fun w a b => by
        by_cases ew : w = d.n - 1 - 1
        · subst ew; omega
        · have := hF.2.2 (d.n - 1 - 1) w (by omega) (by omega) (by omega)
          omega)
      unfold chn at ch
      rw [e, hr, Nat.sub_zero] at ch
      have s1 := sm_split (fun c => if par d c = ((d.n - 1 : Nat) : Int) then 1 else 0) 0 (d.n - 1 - 1) 1
      rw [show d.n - 1 - 1 + 1 = d.n - 1 by omega, show sm (fun c => if par d c = ((d.n - 1 : Nat) : Int) then (1 : Int) else 0) (0 + (d.n - 1 - 1)) 1 = 1 by
        rw [sm, sm, Nat.zero_add, Nat.add_zero, if_pos p1]; rfl] at s1
      have s2 := sm_mono (f := fun c => if par d c = ((d.n - 1 : Nat) : Int) then 1 else 0) (fun i => by split <;> omega) 0 (d.l (d.n - 1 - 1) - 1 + 1) (d.n - 1 - 1 - (d.l (d.n - 1 - 1) - 1 + 1))
      rw [show d.l (d.n - 1 - 1) - 1 + 1 + (d.n - 1 - 1 - (d.l (d.n - 1 - 1) - 1 + 1)) = d.n - 1 - 1 by omega] at s2
      have s3 := (sm_01 (f := fun c => if par d c = ((d.n - 1 : Nat) : Int) then 1 else 0) 0 (fun i => by split <;> omega) (d.l (d.n - 1 - 1) - 1)).1
      rw [sm, Nat.zero_add, if_pos p2] at s2
      omega
  · rw [rem_l2 q, show d.n - 1 - 1 + 1 = d.n - 1 by omega, hr, if_pos (by omega)]
theorem p_left1 {s : St} {a y l : Nat} (h : s (a + 2) y = (y : Int) - (l : Int) + 1) (hy : y < 12) : X6_leftmost a (y : Int) s = some ((l : Int), s) := by
  unfold X6_leftmost
  simp (disch := omega) only [cLt_t, cLt_f, cEq_t, cEq_f, rdR_ok, rd_ok, wr_ok, put_eq, jn_eq, cl_some, Int.toNat_natCast, h]
  congr 2
  omega
theorem l_rem4 {a x : Nat} {d : Doc} (hF : Fst d) (hx : x < d.n) (k : St → Rs) : ∀ (n y : Nat) (s : St), x < y → y ≤ d.n → d.n < y + n → s a 0 = d.n → (∀ z, y ≤ z → z < d.n → s (a + 2) z = (z : Int) - (d.l z : Int) + 1) → ∃ s', X6_remove_4 a (x : Int) k n (y : Int) s = k s' ∧ (∀ b, b ≠ a + 2 → s' b = s b) ∧ (∀ z, z < y → s' (a + 2) z = s (a + 2) z) ∧ ∀ z, y ≤ z → z < d.n → s' (a + 2) z = (z : Int) - (d.l z : Int) + (if d.l z ≤ x then 0 else 1) := by
  have hn := hF.1
  intro n
  induction n with
  | zero => intro y s h1 h2 h3; omega
  | succ n ih =>
    intro y s h1 h2 h3 h0 hI
    rw [X6_remove_4]
    by_cases e : y = d.n
    · subst e
      refine ⟨s, ?_, fun _ _ => rfl, fun _ _ => rfl, fun z a b => by omega⟩
      simp (disch := omega) only [cLt_t, cLt_f, cEq_t, cEq_f, rdR_ok, rd_ok, wr_ok, put_eq, jn_eq, cl_some, Int.toNat_natCast, h0]
    · have v := hI y (Nat.le_refl _) (by omega)
      have ly := (hF.2.1 y (by omega)).2
      have l1 := p_left1 (a := a) v (by omega)
      by_cases q : d.l y ≤ x
      · obtain ⟨s', f1, f2, f3, f4⟩ := ih (y + 1) (up s (a + 2) y ((y : Int) - (d.l y : Int) + 1 - 1)) (by omega) (by omega) (by omega) (by rw [up_o (by omega)]; exact h0) (fun z z1 z2 => by rw [up_i (by omega)]; exact hI z (by omega) z2)
        refine ⟨s', ?_, fun b hb => by rw [f2 b hb, up_b hb], fun z hz => by rw [f3 z (by omega), up_i (by omega)], fun z z1 z2 => ?_⟩
        · simp (disch := omega) only [cLt_t, cLt_f, cEq_t, cEq_f, rdR_ok, rd_ok, wr_ok, put_eq, jn_eq, cl_some, Int.toNat_natCast, h0, l1, v]
          exact f1
        · by_cases ez : z = y
          · subst ez
            rw [f3 z (by omega), up_eq, if_pos q]
            omega
          · exact f4 z (by omega) z2
      · obtain ⟨s', f1, f2, f3, f4⟩ := ih (y + 1) s (by omega) (by omega) (by omega) h0 (fun z z1 z2 => hI z (by omega) z2)
        refine ⟨s', ?_, f2, fun z hz => f3 z (by omega), fun z z1 z2 => ?_⟩
        · simp (disch := omega) only [cLt_t, cLt_f, cEq_t, cEq_f, rdR_ok, rd_ok, wr_ok, put_eq, jn_eq, cl_some, Int.toNat_natCast, h0, l1]
          exact f1
        · by_cases ez : z = y
          · subst ez
            rw [f3 z (by omega), v, if_neg q]
          · exact f4 z (by omega) z2
theorem l_rem39 {a : Nat} {m : Nat} (hm : m ≤ 12) (k : St → Rs) : ∀ (n y : Nat) (s : St), y < m → m ≤ y + n → s a 0 = m → ∃ s', X6_remove_39 a k n (y : Int) s = k s' ∧ (∀ b, b ≠ a + 1 → b ≠ a + 2 → s' b = s b) ∧ (∀ z, z < y → s' (a + 1) z = s (a + 1) z ∧ s' (a + 2) z = s (a + 2) z) ∧ ∀ z, y ≤ z → z < m - 1 → s' (a + 1) z = s (a + 1) (z + 1) ∧ s' (a + 2) z = s (a + 2) (z + 1) := by
  intro n
  induction n with
  | zero => intro y s h1 h2; omega
  | succ n ih =>
    intro y s h1 h2 h0
    rw [X6_remove_39]
    by_cases e : y = m - 1
    · refine ⟨s, ?_, fun _ _ _ => rfl, fun _ _ => ⟨rfl, rfl⟩, fun z a b => by omega⟩
      simp (disch := omega) only [cLt_t, cLt_f, cEq_t, cEq_f, rdR_ok, rd_ok, wr_ok, put_eq, jn_eq, cl_some, Int.toNat_natCast, h0]
    · have i1 : Hid (((y : Int) + 1).toNat = y + 1) := Hid.mk (by omega)
      obtain ⟨s', f1, f2, f3, f4⟩ := ih (y + 1) (up (up s (a + 1) y (s (a + 1) (y + 1))) (a + 2) y (s (a + 2) (y + 1))) (by omega) (by omega) (by rw [up_o (by omega), up_o (by omega)]; exact h0)
      refine ⟨s', ?_, fun b b1 b2 => by rw [f2 b b1 b2, up_b b2, up_b b1], fun z hz => ?_, fun z z1 z2 => ?_⟩
      · simp (disch := omega) only [cLt_t, cLt_f, cEq_t, cEq_f, rdR_ok, rd_ok, wr_ok, put_eq, jn_eq, cl_some, Int.toNat_natCast, h0, i1.out, up_o]
        exact f1
      · rw [(f3 z (by omega)).1, (f3 z (by omega)).2]
        simp (disch := omega) only [fil_o, up_o, fil_out, fil_in, up_i, up_eq]
        exact ⟨trivial, trivial⟩
      · by_cases ez : z = y
        · subst ez
          rw [(f3 z (by omega)).1, (f3 z (by omega)).2]
          simp (disch := omega) only [fil_o, up_o, fil_out, fil_in, up_i, up_eq]
          exact ⟨trivial, trivial⟩
        · rw [(f4 z (by omega) z2).1, (f4 z (by omega) z2).2]
          simp (disch := omega) only [fil_o, up_o, fil_out, fil_in, up_i, up_eq]
          exact ⟨trivial, trivial⟩
theorem p_remove {s : St} {a x : Nat} {d : Doc} (hT : TreeAt s a d) (hF : Fst d) (hx : x < d.n) : ∃ s', X6_remove a (x : Int) s = some (0, s') ∧ (∀ b, b ≠ a → b ≠ a + 1 → b ≠ a + 2 → s' b = s b) ∧ TreeAt s' a (d.rem x) := by
  have hn := hF.1
  have hU := FU_gt
  obtain ⟨s1, a1, a2, a3, a4⟩ := l_rem4 (a := a) hF hx (fun s1 => X6_remove_39 a (fun s2 => put s2 a 0 ((s2 a 0) - 1) (fun s3 => some (0, s3))) FU (x : Int) s1) FU (x + 1) s (by omega) (by omega) (by omega) hT.1 (fun z z1 z2 => (hT.2 z z2).2)
  have h0 : s1 a 0 = d.n := by rw [a2 a (by omega)]; exact hT.1
  obtain ⟨s2, b1, b2, b3, b4⟩ := l_rem39 (a := a) hn (fun s2 => put s2 a 0 ((s2 a 0) - 1) (fun s3 => some (0, s3))) FU x s1 hx (by omega) h0
  have h0' : s2 a 0 = d.n := by rw [b2 a (by omega) (by omega)]; exact h0
  refine ⟨up s2 a 0 ((d.n : Int) - 1), ?_, fun b c1 c2 c3 => by rw [up_b c1, b2 b c2 c3, a2 b c3], ?_, fun y hy => ?_⟩
  · unfold X6_remove
    refine a1.trans (b1.trans ?_)
    rw [put_eq, h0']
  · rw [up_eq, rem_n]
    omega
  · rw [rem_n] at hy
    rw [up_o (by omega), up_o (by omega)]
    by_cases q : y < x
    · have := hT.2 y (by omega)
      rw [(b3 y q).1, (b3 y q).2, a2 (a + 1) (by omega), a3 y (by omega), rem_c1 q, rem_l1 q (hF.2.1 y (by omega)).2]
      exact this
    · have l2 := a4 (y + 1) (by omega) (by omega)
      rw [(b4 y (by omega) (by omega)).1, (b4 y (by omega) (by omega)).2, a2 (a + 1) (by omega), rem_c2 q, rem_l2 q, l2]
      refine ⟨(hT.2 (y + 1) (by omega)).1, ?_⟩
      have ly := (hF.2.1 (y + 1) (by omega)).2
      by_cases w : d.l (y + 1) ≤ x
      · rw [if_pos w, if_pos w]
        omega
      · rw [if_neg w, if_neg w]
        omega
theorem l_cuts {o x : Nat} {d : Doc} (hF : Fst d) (hx : x < d.n) (ho : o + 25 ≤ 53) (k : St → Rs) : ∀ (n y : Nat) (t : St), y ≤ d.n - 1 → d.n - 1 < y + n → t 5 o = ((d.n - 1 : Nat) : Int) → (∀ z, y ≤ z → z < d.n → t 5 (o + 1 + z) = d.c z ∧ t 5 (o + 13 + z) = d.l z) → ∃ t', X9_cuts_18 (x : Int) (o : Int) k n (y : Int) t = k t' ∧ (∀ b, b ≠ 5 → t' b = t b) ∧ (∀ z, z < y → t' 5 (o + 1 + z) = t 5 (o + 1 + z) ∧ t' 5 (o + 13 + z) = t 5 (o + 13 + z)) ∧ (∀ z, y ≤ z → z < d.n - 1 → t' 5 (o + 1 + z) = (d.rem x).c z ∧ t' 5 (o + 13 + z) = (d.rem x).l z) ∧ (∀ j, ¬(o < j ∧ j < o + 25) → t' 5 j = t 5 j) := by
  have hn := hF.1
  intro n
  induction n with
  | zero => intro y s h1 h2; omega
  | succ n ih =>
    intro y t h1 h2 h0 hI
    rw [X9_cuts_18]
    by_cases e : y = d.n - 1
    · refine ⟨t, ?_, fun _ _ => rfl, fun _ _ => ⟨rfl, rfl⟩, fun z a b => by omega, fun _ _ => rfl⟩
      simp (disch := omega) only [cLt_t, cLt_f, cEq_t, cEq_f, rdR_ok, rd_ok, wr_ok, put_eq, jn_eq, cl_some, Int.toNat_natCast, h0]
    · have i1 : Hid (((o : Int) + 1 + (y : Int)).toNat = o + 1 + y) := Hid.mk (by omega)
      have i2 : Hid (((o : Int) + 13 + (y : Int)).toNat = o + 13 + y) := Hid.mk (by omega)
      have i3 : Hid (((o : Int) + 1 + ((y : Int) + 1)).toNat = o + 1 + (y + 1)) := Hid.mk (by omega)
      have i4 : Hid (((o : Int) + 13 + ((y : Int) + 1)).toNat = o + 13 + (y + 1)) := Hid.mk (by omega)
      have go : ∀ c l : Int, (d.rem x).c y = c → ((d.rem x).l y : Int) = l → ∃ t', X9_cuts_18 (x : Int) (o : Int) k n ((y : Int) + 1) (up (up t 5 (o + 1 + y) c) 5 (o + 13 + y) l) = k t' ∧ (∀ b, b ≠ 5 → t' b = t b) ∧ (∀ z, z < y → t' 5 (o + 1 + z) = t 5 (o + 1 + z) ∧ t' 5 (o + 13 + z) = t 5 (o + 13 + z)) ∧ (∀ z, y ≤ z → z < d.n - 1 → t' 5 (o + 1 + z) = (d.rem x).c z ∧ t' 5 (o + 13 + z) = (d.rem x).l z) ∧ (∀ j, ¬(o < j ∧ j < o + 25) → t' 5 j = t 5 j) := by
        intro c l hc hl
        obtain ⟨t', f1, f2, f3, f4, f5⟩ := ih (y + 1) (up (up t 5 (o + 1 + y) c) 5 (o + 13 + y) l) (by omega) (by omega) (by rw [up_i (by omega), up_i (by omega)]; exact h0) (fun z z1 z2 => by
          rw [up_i (by omega), up_i (by omega), up_i (by omega), up_i (by omega)]
          exact hI z (by omega) z2)
        refine ⟨t', f1, fun b hb => by rw [f2 b hb, up_b hb, up_b hb], fun z hz => ?_, fun z z1 z2 => ?_, fun j hj => by rw [f5 j hj, up_i (by omega), up_i (by omega)]⟩
        · rw [(f3 z (by omega)).1, (f3 z (by omega)).2, up_i (by omega), up_i (by omega), up_i (by omega), up_i (by omega)]
          exact ⟨rfl, rfl⟩
        · by_cases ez : z = y
          · subst ez
            rw [(f3 z (by omega)).1, (f3 z (by omega)).2, up_i (by omega), up_eq, up_eq]
            exact ⟨hc.symm, hl.symm⟩
          · exact f4 z (by omega) z2
      by_cases q : y < x
      · have v := hI y (Nat.le_refl _) (by omega)
        have ly := (hF.2.1 y (by omega)).2
        obtain ⟨t', f1, f2⟩ := go (d.c y) (d.l y) (rem_c1 q) (by rw [rem_l1 q ly])
        refine ⟨t', ?_, f2⟩
        simp (disch := omega) only [cLt_t, cLt_f, cEq_t, cEq_f, rdR_ok, rd_ok, wr_ok, put_eq, jn_eq, cl_some, Int.toNat_natCast, h0, i1.out, i2.out, v.1, v.2]
        exact f1
      · have v := hI (y + 1) (by omega) (by omega)
        have ly := (hF.2.1 (y + 1) (by omega)).2
        by_cases w : d.l (y + 1) ≤ x
        · obtain ⟨t', f1, f2⟩ := go (d.c (y + 1)) (d.l (y + 1)) (rem_c2 q) (by rw [rem_l2 q, if_pos w])
          refine ⟨t', ?_, f2⟩
          simp (disch := omega) only [cLt_t, cLt_f, cEq_t, cEq_f, rdR_ok, rd_ok, wr_ok, put_eq, jn_eq, cl_some, Int.toNat_natCast, h0, i1.out, i2.out, i3.out, i4.out, v.1, v.2]
          exact f1
        · obtain ⟨t', f1, f2⟩ := go (d.c (y + 1)) ((d.l (y + 1) : Int) - 1) (rem_c2 q) (by rw [rem_l2 q, if_neg w]; omega)
          refine ⟨t', ?_, f2⟩
          simp (disch := omega) only [cLt_t, cLt_f, cEq_t, cEq_f, rdR_ok, rd_ok, wr_ok, put_eq, jn_eq, cl_some, Int.toNat_natCast, h0, i1.out, i2.out, i3.out, i4.out, v.1, v.2]
          exact f1
theorem q_cuts {t : St} {k x : Nat} {d : Doc} (hk : k < 2) (hD : DocAt (t 5) (25 * k) d) (hF : Fst d) (hx : x < d.n) : ∃ t', X9_cuts (k : Int) (x : Int) t = some (0, t') ∧ (∀ b, b ≠ 5 → t' b = t b) ∧ DocAt (t' 5) (25 * k) (d.rem x) ∧ (∀ j, ¬(25 * k ≤ j ∧ j < 25 * k + 25) → t' 5 j = t 5 j) := by
  have hn := hF.1
  have hU := FU_gt
  obtain ⟨t', f1, f2, f3, f4, f5⟩ := l_cuts (o := 25 * k) hF hx (by omega) (fun s3 => some (0, s3)) FU 0 (up t 5 (25 * k) ((d.n - 1 : Nat) : Int)) (by omega) (by omega) up_eq (fun z z1 z2 => by rw [up_i (by omega), up_i (by omega)]; exact hD.2 z z2)
  refine ⟨t', ?_, fun b hb => by rw [f2 b hb, up_b hb], ⟨by rw [f5 _ (by omega), up_eq, rem_n], fun z hz => f4 z (by omega) hz⟩, fun j hj => by rw [f5 j (by omega), up_i (by omega)]⟩
  have i1 : Hid ((25 * (k : Int)).toNat = 25 * k) := Hid.mk (by omega)
  have e1 : (d.n : Int) - 1 = ((d.n - 1 : Nat) : Int) := by omega
  rw [show ((25 * k : Nat) : Int) = 25 * (k : Int) by omega] at f1
  unfold X9_cuts
  simp (disch := omega) only [cLt_t, cLt_f, cEq_t, cEq_f, rdR_ok, rd_ok, wr_ok, put_eq, jn_eq, cl_some, Int.toNat_natCast, i1.out, hD.1, e1]
  exact f1
/-- whether a node may be cut -/
def mayC (d : Doc) (x : Nat) : Int := if x = d.n - 1 then (if chn d x = 1 then 1 else 0) else 1
theorem p_canLose {s : St} {a x : Nat} {d : Doc} (hT : TreeAt s a d) (hF : Fst d) (hx : x < d.n) : X6_canLose a (x : Int) s = some (mayC d x, s) := by
  have hn := hF.1
  have cr := chn_r d x
  unfold X6_canLose mayC
  rw [hT.1]
  by_cases e : x = d.n - 1
  · rw [if_pos e]
    simp (disch := omega) only [cLt_t, cLt_f, cEq_t, cEq_f, rdR_ok, rd_ok, wr_ok, put_eq, jn_eq, cl_some, Int.toNat_natCast, p_children hT hF hx]
    by_cases q : chn d x = 1
    · rw [if_pos q]
      simp (disch := omega) only [cLt_t, cLt_f, cEq_t, cEq_f, rdR_ok, rd_ok, wr_ok, put_eq, jn_eq, cl_some, Int.toNat_natCast]
    · rw [if_neg q]
      simp (disch := omega) only [cLt_t, cLt_f, cEq_t, cEq_f, rdR_ok, rd_ok, wr_ok, put_eq, jn_eq, cl_some, Int.toNat_natCast]
  · rw [if_neg e]
    simp (disch := omega) only [cLt_t, cLt_f, cEq_t, cEq_f, rdR_ok, rd_ok, wr_ok, put_eq, jn_eq, cl_some, Int.toNat_natCast]
theorem q_mayCut {t : St} {k x : Nat} {d : Doc} (hk : k < 2) (hD : DocAt (t 5) (25 * k) d) (hF : Fst d) (hx : x < d.n) : X9_mayCut (k : Int) (x : Int) t = some (mayC d x, t) := by
  have hn := hF.1
  have cr := chn_r d x
  unfold X9_mayCut mayC
  simp (disch := omega) only [cLt_t, cLt_f, cEq_t, cEq_f, rdR_ok, rd_ok, wr_ok, put_eq, jn_eq, cl_some, Int.toNat_natCast, q_many hk hD]
  by_cases e : x = d.n - 1
  · rw [if_pos e]
    simp (disch := omega) only [cLt_t, cLt_f, cEq_t, cEq_f, rdR_ok, rd_ok, wr_ok, put_eq, jn_eq, cl_some, Int.toNat_natCast, q_rightB hk hD hF hx]
    by_cases q : chn d x = 1
    · rw [if_pos q]
      simp (disch := omega) only [cLt_t, cLt_f, cEq_t, cEq_f, rdR_ok, rd_ok, wr_ok, put_eq, jn_eq, cl_some, Int.toNat_natCast]
    · rw [if_neg q]
      simp (disch := omega) only [cLt_t, cLt_f, cEq_t, cEq_f, rdR_ok, rd_ok, wr_ok, put_eq, jn_eq, cl_some, Int.toNat_natCast]
  · rw [if_neg e]
    simp (disch := omega) only [cLt_t, cLt_f, cEq_t, cEq_f, rdR_ok, rd_ok, wr_ok, put_eq, jn_eq, cl_some, Int.toNat_natCast]
theorem mayC_r (d : Doc) (x : Nat) : mayC d x = 0 ∨ mayC d x = 1 := by
  unfold mayC
  repeat' split
  all_goals omega
theorem mayC_1 {d : Doc} {x : Nat} (h : mayC d x = 1) : x ≠ d.n - 1 ∨ chn d x = 1 := by
  unfold mayC at h
  by_cases e : x = d.n - 1
  · rw [if_pos e] at h
    by_cases q : chn d x = 1
    · exact Or.inr q
    · rw [if_neg q] at h
      omega
  · exact Or.inl e
/-- both sides cut a node -/
theorem cor_cut {s t : St} {v : Vec} (h : Cor s t v) {k x : Nat} (hk : k < 2) (hx : x < (v.doc k).n) (hm : mayC (v.doc k) x = 1) : ∃ s' t', X6_remove (38 + 3 * k) (x : Int) s = some (0, s') ∧ X9_cuts (k : Int) (x : Int) t = some (0, t') ∧ Cor s' t' (v.setd k ((v.doc k).rem x)) ∧ s' (38 + 3 * k) 0 = (((v.doc k).n - 1 : Nat) : Int) ∧ X9_many (k : Int) t' = some ((((v.doc k).n - 1 : Nat) : Int), t') ∧ s' 5 = s 5 ∧ s' 30 = s 30 := by
  obtain ⟨hv, hC, hM⟩ := h.ok
  have hW := doc_ok hv k
  obtain ⟨s', a1, a2, a3⟩ := p_remove (doc_C hC hk) hW.1 hx
  obtain ⟨t', b1, b2, b3, b4⟩ := q_cuts hk (doc_M hM hk) hW.1 hx
  refine ⟨s', t', a1, b1, h.vec (setd_ok hv (wf_rem hW hx (mayC_1 hm)) k) (hC.setd hk a3 (fun b c1 c2 => a2 b (by omega) (by omega) (by omega))) (hM.setd hv hk b3 b4) (fun b c1 c2 c3 c4 c5 => a2 b (by omega) (by omega) (by omega)) (fun b c1 c2 c3 => b2 b c3) (fun i hi => by rw [b2 0 (by omega)]), a3.1, q_many hk b3, a2 5 (by omega) (by omega) (by omega), a2 30 (by omega) (by omega) (by omega)⟩
theorem sim_cut : ∀ s t : St, InvS SolX s t → ∀ a1 : Int, inR a1 → ∀ a2 : Int, inR a2 → Ok2 (InvS SolX) (X8_cut a1 a2 s) (X9_cut a1 a2 t) := by
  intro s t hI a1 r1 a2 r2
  obtain ⟨v, hc, hs⟩ := cor_of hI
  obtain ⟨hv, hC, hM⟩ := hc.ok
  unfold X8_cut X9_cut
  rw [p_noNode hv hC r1 r2, q_isNode hv hM r1 r2]
  by_cases h : (0 ≤ a1 ∧ a1 < 2) ∧ 0 ≤ a2 ∧ a2 < (v.doc a1.toNat).n
  · rw [if_pos h, if_pos h]
    obtain ⟨k, rfl⟩ : ∃ r : Nat, a1 = r := ⟨a1.toNat, by omega⟩
    obtain ⟨x, rfl⟩ : ∃ r : Nat, a2 = r := ⟨a2.toNat, by omega⟩
    rw [Int.toNat_natCast] at h
    have hF := (doc_ok hv k).1
    have hn := hF.1
    have hk : k < 2 := by omega
    have hx : x < (v.doc k).n := by omega
    have ml := p_canLose (doc_C hC hk) hF hx
    have mc := q_mayCut hk (doc_M hM hk) hF hx
    simp (disch := omega) only [cLt_t, cLt_f, cEq_t, cEq_f, rdR_ok, rd_ok, wr_ok, put_eq, jn_eq, cl_some, Int.toNat_natCast, p_tree hk s, gK_tree hk, ml, mc]
    rcases mayC_r (v.doc k) x with q | q
    · rw [q]
      simp (disch := omega) only [cLt_t, cLt_f, cEq_t, cEq_f, rdR_ok, rd_ok, wr_ok, put_eq, jn_eq, cl_some, Int.toNat_natCast]
      exact ok_same _ hI
    · rw [q]
      obtain ⟨n, n1, n2, n3⟩ := rec_inv hc
      by_cases w : n < 40
      · obtain ⟨s1, t1, c1, c2, c3, c4, c5⟩ := rec_sim hc n2 w
        obtain ⟨s2, t2, d1, d2, d3, d4, d5, d6, d7⟩ := cor_cut c3 hk hx q
        simp (disch := omega) only [cLt_t, cLt_f, cEq_t, cEq_f, rdR_ok, rd_ok, wr_ok, put_eq, jn_eq, cl_some, Int.toNat_natCast, n2, n3, c1, c2, d1, d2, d4, d5]
        exact ⟨_, _, _, rfl, rfl, d3.inv (Or.inl (by rw [d6]; exact c4))⟩
      · simp (disch := omega) only [cLt_t, cLt_f, cEq_t, cEq_f, rdR_ok, rd_ok, wr_ok, put_eq, jn_eq, cl_some, Int.toNat_natCast, n2, n3]
        exact ok_same _ hI
  · rw [if_neg h, if_neg h]
    simp (disch := omega) only [cLt_t, cLt_f, cEq_t, cEq_f, rdR_ok, rd_ok, wr_ok, put_eq, jn_eq, cl_some, Int.toNat_natCast]
    exact ok_same _ hI
