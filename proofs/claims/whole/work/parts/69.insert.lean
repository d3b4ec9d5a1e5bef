/-! both sides add a node -/
theorem l_ins21 {a x : Nat} {d : Doc} (hF : Fst d) {c1 c2 c3 : Int} (hx : x < d.n) (k : St → Rs) : ∀ (n y : Nat) (s : St), x ≤ y → y ≤ d.n → d.n < y + n → s a 0 = d.n → (∀ z, y ≤ z → z < d.n → s (a + 2) z = (z : Int) - (d.l z : Int) + 1) → ∃ s', X6_insert_21 a (x : Int) c1 c2 c3 k n (y : Int) s = k s' ∧ (∀ b, b ≠ a + 2 → s' b = s b) ∧ (∀ z, z < y → s' (a + 2) z = s (a + 2) z) ∧ ∀ z, y ≤ z → z < d.n → s' (a + 2) z = (z : Int) - (d.l z : Int) + (if d.l z ≤ x then 2 else 1) := by
  have hn := hF.1
  intro n
  induction n with
  | zero => intro y s h1 h2 h3; omega
  | succ n ih =>
    intro y s h1 h2 h3 h0 hI
    rw [X6_insert_21]
    by_cases e : y = d.n
    · subst e
      refine ⟨s, ?_, fun _ _ => rfl, fun _ _ => rfl, fun z a b => by omega⟩
      simp (disch := omega) only [cLt_t, cLt_f, cEq_t, cEq_f, rdR_ok, rd_ok, wr_ok, put_eq, jn_eq, cl_some, Int.toNat_natCast, h0]
    · have v := hI y (Nat.le_refl _) (by omega)
      have ly := (hF.2.1 y (by omega)).2
      have l1 := p_left1 (a := a) v (by omega)
      by_cases q : d.l y ≤ x
      · obtain ⟨s', f1, f2, f3, f4⟩ := ih (y + 1) (up s (a + 2) y ((y : Int) - (d.l y : Int) + 1 + 1)) (by omega) (by omega) (by omega) (by rw [up_o (by omega)]; exact h0) (fun z z1 z2 => by rw [up_i (by omega)]; exact hI z (by omega) z2)
        refine ⟨s', ?_, fun b hb => by rw [f2 b hb, up_b hb], fun z hz => by rw [f3 z (by omega), up_i (by omega)], fun z z1 z2 => ?_⟩
        · simp (disch := omega) only [cLt_t, cLt_f, cEq_t, cEq_f, rdR_ok, rd_ok, wr_ok, put_eq, jn_eq, cl_some, Int.toNat_natCast, h0, l1, v]
          exact f1
        · by_cases ez : z = y
          · subst ez
            rw [f3 z (by omega), up_eq, if_pos q]
            omega
          · exact f4 z (by omega) z2
      · obtain ⟨s', f1, f2, f3, f4⟩ := ih (y + 1) s (by omega) (by omega) (by omega) h0 (fun z z1 z2 => hI z (by omega) z2)
        refine ⟨s', ?_, f2, fun z hz => f3 z (by omega), fun z z1 z2 => ?_⟩
        · simp (disch := omega) only [cLt_t, cLt_f, cEq_t, cEq_f, rdR_ok, rd_ok, wr_ok, put_eq, jn_eq, cl_some, Int.toNat_natCast, h0, l1]
          exact f1
        · by_cases ez : z = y
          · subst ez
            rw [f3 z (by omega), v, if_neg q]
          · exact f4 z (by omega) z2
theorem l_ins63 {a p : Nat} {c1 c2 : Int} (k : St → Rs) : ∀ (n y : Nat) (s : St), p ≤ y → y < 12 → y < p + n → ∃ s', X6_insert_63 a c1 c2 (p : Int) k n (y : Int) s = k s' ∧ (∀ b, b ≠ a + 1 → b ≠ a + 2 → s' b = s b) ∧ (∀ z, z ≤ p ∨ y < z → s' (a + 1) z = s (a + 1) z ∧ s' (a + 2) z = s (a + 2) z) ∧ ∀ z, p ≤ z → z < y → s' (a + 1) (z + 1) = s (a + 1) z ∧ s' (a + 2) (z + 1) = s (a + 2) z := by
  intro n
  induction n with
  | zero => intro y s h1 h2 h3; omega
  | succ n ih =>
    intro y s h1 h2 h3
    rw [X6_insert_63]
    by_cases e : y = p
    · subst e
      refine ⟨s, ?_, fun _ _ _ => rfl, fun _ _ => ⟨rfl, rfl⟩, fun z a b => by omega⟩
      simp (disch := omega) only [cLt_t, cLt_f, cEq_t, cEq_f, rdR_ok, rd_ok, wr_ok, put_eq, jn_eq, cl_some, Int.toNat_natCast]
    · obtain ⟨y, rfl⟩ : ∃ w, y = w + 1 := ⟨y - 1, by omega⟩
      have i1 : ((y + 1 : Nat) : Int) - 1 = (y : Int) := by omega
      have i2 : ((y + 1 : Nat) : Int) + -1 = (y : Int) := by omega
      obtain ⟨s', f1, f2, f3, f4⟩ := ih y (up (up s (a + 1) (y + 1) (s (a + 1) y)) (a + 2) (y + 1) (s (a + 2) y)) (by omega) (by omega) (by omega)
      refine ⟨s', ?_, fun b b1 b2 => by rw [f2 b b1 b2, up_b b2, up_b b1], fun z hz => ?_, fun z z1 z2 => ?_⟩
      · simp (disch := omega) only [cLt_t, cLt_f, cEq_t, cEq_f, rdR_ok, rd_ok, wr_ok, put_eq, jn_eq, cl_some, Int.toNat_natCast, i1, i2, up_o]
        exact f1
      · rw [(f3 z (by omega)).1, (f3 z (by omega)).2]
        simp (disch := omega) only [fil_o, up_o, fil_out, fil_in, up_i, up_eq]
        exact ⟨trivial, trivial⟩
      · by_cases ez : z = y
        · subst ez
          rw [(f3 (z + 1) (by omega)).1, (f3 (z + 1) (by omega)).2]
          simp (disch := omega) only [fil_o, up_o, fil_out, fil_in, up_i, up_eq]
          exact ⟨trivial, trivial⟩
        · rw [(f4 z z1 (by omega)).1, (f4 z z1 (by omega)).2]
          simp (disch := omega) only [fil_o, up_o, fil_out, fil_in, up_i, up_eq]
          exact ⟨trivial, trivial⟩
theorem p_insert {s : St} {a x : Nat} {d : Doc} (hT : TreeAt s a d) (hF : Fst d) (hn : d.n < 12) (hx : x < d.n) {i m : Int} (hi : 0 ≤ i) (hm : 0 ≤ m) (him : i + m ≤ chn d x) (c : Int) : ∃ (f p : Nat) (s' : St), X6_insert a (x : Int) i m c s = some ((p : Int), s') ∧ EOC d x i f ∧ EOC d x (i + m) p ∧ (∀ b, b ≠ a → b ≠ a + 1 → b ≠ a + 2 → s' b = s b) ∧ TreeAt s' a (d.ins x f p c) := by
  have hU := FU_gt
  obtain ⟨f, a1, a2⟩ := p_eoc hT hF hx (m := i) (by omega) hi
  obtain ⟨p, b1, b2⟩ := p_eoc hT hF hx (m := i + m) him (by omega)
  have bf := eoc_bd hF hx a2
  have bp := eoc_bd hF hx b2
  obtain ⟨s1, c1, c2, c3, c4⟩ := l_ins21 (a := a) (c1 := c) (c2 := (f : Int)) (c3 := (p : Int)) hF hx (fun s5 => X6_insert_63 a c (f : Int) (p : Int) (fun s6 => wr s6 (a + 1) 12 (p : Int) c (fun s7 => wr s7 (a + 2) 12 (p : Int) (((p : Int) - (f : Int)) + 1) (fun s8 => put s8 a 0 ((s8 a 0) + 1) (fun s9 => some ((p : Int), s9))))) FU (s5 a 0) s5) FU x s (Nat.le_refl _) (by omega) (by omega) hT.1 (fun z z1 z2 => (hT.2 z z2).2)
  have h0 : s1 a 0 = d.n := by rw [c2 a (by omega)]; exact hT.1
  obtain ⟨s2, d1, d2, d3, d4⟩ := l_ins63 (a := a) (p := p) (c1 := c) (c2 := (f : Int)) (fun s6 => wr s6 (a + 1) 12 (p : Int) c (fun s7 => wr s7 (a + 2) 12 (p : Int) (((p : Int) - (f : Int)) + 1) (fun s8 => put s8 a 0 ((s8 a 0) + 1) (fun s9 => some ((p : Int), s9))))) FU d.n s1 (by omega) (by omega) (by omega)
  have h0' : s2 a 0 = d.n := by rw [d2 a (by omega) (by omega)]; exact h0
  refine ⟨f, p, up (up (up s2 (a + 1) p c) (a + 2) p ((p : Int) - (f : Int) + 1)) a 0 ((d.n : Int) + 1), ?_, a2, b2, fun b e1 e2 e3 => by rw [up_b e1, up_b e3, up_b e2, d2 b e2 e3, c2 b e3], ?_, fun y hy => ?_⟩
  · unfold X6_insert
    rw [a1, cl_some, b1, cl_some]
    refine c1.trans ?_
    simp only [h0]
    refine d1.trans ?_
    have z : up (up s2 (a + 1) p c) (a + 2) p ((p : Int) - (f : Int) + 1) a 0 = d.n := by
      rw [up_o (by omega), up_o (by omega)]
      exact h0'
    simp (disch := omega) only [cLt_t, cLt_f, cEq_t, cEq_f, rdR_ok, rd_ok, wr_ok, put_eq, jn_eq, cl_some, Int.toNat_natCast, z]
  · rw [up_eq, ins_n]
    omega
  · rw [ins_n] at hy
    by_cases q : y < p
    · have := hT.2 y (by omega)
      simp (disch := omega) only [fil_o, up_o, fil_out, fil_in, up_i, up_eq]
      rw [(d3 y (by omega)).1, (d3 y (by omega)).2, c2 (a + 1) (by omega), c3 y (by omega), ins_c1 q, ins_l1 q]
      exact this
    · by_cases q2 : y = p
      · subst q2
        rw [ins_cp, ins_lp]
        simp (disch := omega) only [fil_o, up_o, fil_out, fil_in, up_i, up_eq]
        exact ⟨trivial, trivial⟩
      · obtain ⟨y, rfl⟩ : ∃ w, y = w + 1 := ⟨y - 1, by omega⟩
        have ty := hT.2 y (by omega)
        simp (disch := omega) only [fil_o, up_o, fil_out, fil_in, up_i, up_eq]
        rw [(d4 y (by omega) (by omega)).1, (d4 y (by omega) (by omega)).2, c2 (a + 1) (by omega), ins_c2 (by omega), ins_l2 (by omega)]
        refine ⟨ty.1, ?_⟩
        by_cases w : x ≤ y
        · rw [c4 y w (by omega)]
          by_cases w2 : d.l y ≤ x
          · rw [if_pos w2, if_pos ⟨w, w2⟩]
            omega
          · rw [if_neg w2, if_neg (fun z => w2 z.2)]
            omega
        · rw [c3 y (by omega), ty.2, if_neg (fun z => w z.1)]
          omega
theorem l_adds {k x f p : Nat} {d : Doc} (hk : k < 2) (hF : Fst d) (hn : d.n < 12) (hx : x < d.n) (hf : Bd d x f) (hp : Bd d x p) (hfp : f ≤ p) {w1 w2 : Int} (g : St → Rs) : ∀ (n m : Nat) (t : St), m ≤ d.n → m < n → (∀ z, z < m → t 5 (25 * k + 1 + z) = d.c z ∧ t 5 (25 * k + 13 + z) = d.l z) → ∃ t', X9_adds_83 (k : Int) (x : Int) w1 w2 (25 * (k : Int)) (f : Int) (p : Int) g n ((m : Int) - 1) t = g t' ∧ (∀ b, b ≠ 5 → t' b = t b) ∧ (∀ z, z < m → z < p → t' 5 (25 * k + 1 + z) = d.c z ∧ t' 5 (25 * k + 13 + z) = d.l z) ∧ (∀ z, z < m → p ≤ z → t' 5 (25 * k + 1 + (z + 1)) = d.c z ∧ t' 5 (25 * k + 13 + (z + 1)) = ((if x ≤ z ∧ d.l z ≤ x then d.l z else d.l z + 1 : Nat) : Int)) ∧ (∀ z, m ≤ z → z < 12 → (m < z ∨ m ≤ p) → t' 5 (25 * k + 1 + z) = t 5 (25 * k + 1 + z) ∧ t' 5 (25 * k + 13 + z) = t 5 (25 * k + 13 + z)) ∧ (∀ j, ¬(25 * k < j ∧ j < 25 * k + 25) → t' 5 j = t 5 j) := by
  intro n
  induction n with
  | zero => intro m t h1 h2; omega
  | succ n ih =>
    intro m t h1 h2 hI
    rw [X9_adds_83]
    by_cases e : m = 0
    · subst e
      refine ⟨t, ?_, fun _ _ => rfl, fun z a => by omega, fun z a => by omega, fun _ _ _ _ => ⟨rfl, rfl⟩, fun _ _ => rfl⟩
      simp (disch := omega) only [cLt_t, cLt_f, cEq_t, cEq_f, rdR_ok, rd_ok, wr_ok, put_eq, jn_eq, cl_some, Int.toNat_natCast]
    · obtain ⟨y, rfl⟩ : ∃ w, m = w + 1 := ⟨m - 1, by omega⟩
      have e1 : ((y + 1 : Nat) : Int) - 1 = (y : Int) := by omega
      have e2 : (y : Int) + -1 = (y : Int) - 1 := by omega
      have v := hI y (by omega)
      have ly := (hF.2.1 y (by omega)).2
      have bx := hp.2.1
      have i1 : Hid ((25 * (k : Int) + 1 + (y : Int)).toNat = 25 * k + 1 + y) := Hid.mk (by omega)
      have i2 : Hid ((25 * (k : Int) + 13 + (y : Int)).toNat = 25 * k + 13 + y) := Hid.mk (by omega)
      have i3 : Hid ((25 * (k : Int) + 1 + ((y : Int) + 1)).toNat = 25 * k + 1 + (y + 1)) := Hid.mk (by omega)
      have i4 : Hid ((25 * (k : Int) + 13 + ((y : Int) + 1)).toNat = 25 * k + 13 + (y + 1)) := Hid.mk (by omega)
      have ib : X9_isBeneath (k : Int) (x : Int) (y : Int) t = some (if x ≤ y ∧ d.l y ≤ x then 1 else 0, t) := by
        unfold X9_isBeneath X9_leftOf
        by_cases q : d.l y ≤ x
        · by_cases q2 : x ≤ y
          · rw [if_pos ⟨q2, q⟩]
            simp (disch := omega) only [cLt_t, cLt_f, cEq_t, cEq_f, rdR_ok, rd_ok, wr_ok, put_eq, jn_eq, cl_some, Int.toNat_natCast, i2.out, v.2]
          · rw [if_neg (fun z => q2 z.1)]
            simp (disch := omega) only [cLt_t, cLt_f, cEq_t, cEq_f, rdR_ok, rd_ok, wr_ok, put_eq, jn_eq, cl_some, Int.toNat_natCast, i2.out, v.2]
        · rw [if_neg (fun z => q z.2)]
          simp (disch := omega) only [cLt_t, cLt_f, cEq_t, cEq_f, rdR_ok, rd_ok, wr_ok, put_eq, jn_eq, cl_some, Int.toNat_natCast, i2.out, v.2]
      rw [e1]
      by_cases q : y < p
      · obtain ⟨t', f1, f2, f3, f4, f6, f7⟩ := ih y (up (up t 5 (25 * k + 1 + y) (d.c y)) 5 (25 * k + 13 + y) (d.l y)) (by omega) (by omega) (fun z hz => by rw [up_i (by omega), up_i (by omega), up_i (by omega), up_i (by omega)]; exact hI z (by omega))
        refine ⟨t', ?_, fun b hb => by rw [f2 b hb, up_b hb, up_b hb], fun z z1 z2 => ?_, fun z z1 z2 => by omega, fun z z1 z2 z3 => ?_, fun j hj => by rw [f7 j hj, up_i (by omega), up_i (by omega)]⟩
        · have u : ¬(x ≤ y ∧ d.l y ≤ x) := by omega
          rw [if_neg u] at ib
          simp (disch := omega) only [cLt_t, cLt_f, cEq_t, cEq_f, rdR_ok, rd_ok, wr_ok, put_eq, jn_eq, cl_some, Int.toNat_natCast, i1.out, i2.out, v.1, v.2, ib, e2]
          exact f1
        · by_cases ez : z = y
          · subst ez
            rw [(f6 z (by omega) (by omega) (by omega)).1, (f6 z (by omega) (by omega) (by omega)).2, up_i (by omega), up_eq, up_eq]
            exact ⟨rfl, rfl⟩
          · exact f3 z (by omega) z2
        · rw [(f6 z (by omega) z2 (by omega)).1, (f6 z (by omega) z2 (by omega)).2, up_i (by omega), up_i (by omega), up_i (by omega), up_i (by omega)]
          exact ⟨rfl, rfl⟩
      · have go : ∀ l : Int, l = ((if x ≤ y ∧ d.l y ≤ x then d.l y else d.l y + 1 : Nat) : Int) → ∃ t', X9_adds_83 (k : Int) (x : Int) w1 w2 (25 * (k : Int)) (f : Int) (p : Int) g n ((y : Int) - 1) (up (up t 5 (25 * k + 1 + (y + 1)) (d.c y)) 5 (25 * k + 13 + (y + 1)) l) = g t' ∧ (∀ b, b ≠ 5 → t' b = t b) ∧ (∀ z, z < y + 1 → z < p → t' 5 (25 * k + 1 + z) = d.c z ∧ t' 5 (25 * k + 13 + z) = d.l z) ∧ (∀ z, z < y + 1 → p ≤ z → t' 5 (25 * k + 1 + (z + 1)) = d.c z ∧ t' 5 (25 * k + 13 + (z + 1)) = ((if x ≤ z ∧ d.l z ≤ x then d.l z else d.l z + 1 : Nat) : Int)) ∧ (∀ z, y + 1 ≤ z → z < 12 → (y + 1 < z ∨ y + 1 ≤ p) → t' 5 (25 * k + 1 + z) = t 5 (25 * k + 1 + z) ∧ t' 5 (25 * k + 13 + z) = t 5 (25 * k + 13 + z)) ∧ (∀ j, ¬(25 * k < j ∧ j < 25 * k + 25) → t' 5 j = t 5 j) := by
          intro l hl
          obtain ⟨t', f1, f2, f3, f4, f6, f7⟩ := ih y (up (up t 5 (25 * k + 1 + (y + 1)) (d.c y)) 5 (25 * k + 13 + (y + 1)) l) (by omega) (by omega) (fun z hz => by rw [up_i (by omega), up_i (by omega), up_i (by omega), up_i (by omega)]; exact hI z (by omega))
          refine ⟨t', f1, fun b hb => by rw [f2 b hb, up_b hb, up_b hb], fun z z1 z2 => f3 z (by omega) z2, fun z z1 z2 => ?_, fun z z1 z2 z3 => ?_, fun j hj => by rw [f7 j hj, up_i (by omega), up_i (by omega)]⟩
          · by_cases ez : z = y
            · subst ez
              rw [(f6 (z + 1) (by omega) (by omega) (by omega)).1, (f6 (z + 1) (by omega) (by omega) (by omega)).2, up_i (by omega), up_eq, up_eq]
              exact ⟨rfl, hl⟩
            · exact f4 z (by omega) z2
          · rw [(f6 z (by omega) z2 (by omega)).1, (f6 z (by omega) z2 (by omega)).2, up_i (by omega), up_i (by omega), up_i (by omega), up_i (by omega)]
            exact ⟨rfl, rfl⟩
        by_cases u : x ≤ y ∧ d.l y ≤ x
        · have lu := bd_up hF hf (by omega) u
          have b1 := hf.1
          rw [if_pos u] at ib
          obtain ⟨t', f1, f2⟩ := go (d.l y : Int) (by rw [if_pos u])
          refine ⟨t', ?_, f2⟩
          by_cases w : d.l y < p
          · simp (disch := omega) only [cLt_t, cLt_f, cEq_t, cEq_f, rdR_ok, rd_ok, wr_ok, put_eq, jn_eq, cl_some, Int.toNat_natCast, i1.out, i2.out, i3.out, i4.out, v.1, v.2, ib, e2]
            exact f1
          · have w' : d.l y = f := by omega
            simp (disch := omega) only [cLt_t, cLt_f, cEq_t, cEq_f, rdR_ok, rd_ok, wr_ok, put_eq, jn_eq, cl_some, Int.toNat_natCast, i1.out, i2.out, i3.out, i4.out, v.1, v.2, ib, e2]
            exact f1
        · have lo := bd_out hp (k := y) (by omega) u
          rw [if_neg u] at ib
          obtain ⟨t', f1, f2⟩ := go ((d.l y : Int) + 1) (by rw [if_neg u]; rfl)
          refine ⟨t', ?_, f2⟩
          simp (disch := omega) only [cLt_t, cLt_f, cEq_t, cEq_f, rdR_ok, rd_ok, wr_ok, put_eq, jn_eq, cl_some, Int.toNat_natCast, i1.out, i2.out, i3.out, i4.out, v.1, v.2, ib, e2]
          exact f1
theorem q_adds {t : St} {k x f p : Nat} {d : Doc} (hk : k < 2) (hD : DocAt (t 5) (25 * k) d) (hF : Fst d) (hn : d.n < 12) (hx : x < d.n) {i m : Int} (hi : 0 ≤ i) (hm : 0 ≤ m) (him : i + m ≤ chn d x) (ef : EOC d x i f) (ep : EOC d x (i + m) p) (hfp : f ≤ p) {c : Int} : ∃ t', X9_adds (k : Int) (x : Int) i m c t = some ((p : Int), t') ∧ (∀ b, b ≠ 5 → t' b = t b) ∧ DocAt (t' 5) (25 * k) (d.ins x f p c) ∧ ∀ j, ¬(25 * k ≤ j ∧ j < 25 * k + 25) → t' 5 j = t 5 j := by
  have hU := FU_gt
  have cr := chn_r d x
  have bf : Bd d x f := eoc_bd hF hx ef
  have bp : Bd d x p := eoc_bd hF hx ep
  have b1 := bf.2.1
  have b2 := bp.2.1
  have bl := bp.1
  have i5 : Hid ((25 * (k : Int)).toNat = 25 * k) := Hid.mk (by omega)
  have i6 : Hid ((25 * (k : Int) + 1 + (p : Int)).toNat = 25 * k + 1 + p) := Hid.mk (by omega)
  have i7 : Hid ((25 * (k : Int) + 13 + (p : Int)).toNat = 25 * k + 13 + p) := Hid.mk (by omega)
  obtain ⟨t1, f1, f2, f3, f4, f6, f7⟩ := l_adds hk hF hn hx bf bp hfp (w1 := m) (w2 := c) (fun s13 => rd s13 5 53 (25 * (k : Int)) (fun v14 => wr s13 5 53 (25 * (k : Int)) (v14 + 1) (fun s15 => wr s15 5 53 (((25 * (k : Int)) + 1) + (p : Int)) c (fun s16 => cEq m 0 (wr s16 5 53 (((25 * (k : Int)) + 13) + (p : Int)) (p : Int) (fun s18 => some ((p : Int), s18))) (wr s16 5 53 (((25 * (k : Int)) + 13) + (p : Int)) (f : Int) (fun s17 => some ((p : Int), s17))))))) FU d.n t (Nat.le_refl _) (by omega) hD.2
  have h0 : t1 5 (25 * k) = d.n := by rw [f7 _ (by omega)]; exact hD.1
  have fin : X9_adds_83 (k : Int) (x : Int) m c (25 * (k : Int)) (f : Int) (p : Int) (fun s13 => rd s13 5 53 (25 * (k : Int)) (fun v14 => wr s13 5 53 (25 * (k : Int)) (v14 + 1) (fun s15 => wr s15 5 53 (((25 * (k : Int)) + 1) + (p : Int)) c (fun s16 => cEq m 0 (wr s16 5 53 (((25 * (k : Int)) + 13) + (p : Int)) (p : Int) (fun s18 => some ((p : Int), s18))) (wr s16 5 53 (((25 * (k : Int)) + 13) + (p : Int)) (f : Int) (fun s17 => some ((p : Int), s17))))))) FU ((d.n : Int) - 1) t = some ((p : Int), up (up (up t1 5 (25 * k) ((d.n : Int) + 1)) 5 (25 * k + 1 + p) c) 5 (25 * k + 13 + p) (f : Int)) := by
    refine f1.trans ?_
    by_cases m0 : m = 0
    · have efp : f = p := by
        subst m0
        rw [Int.add_zero] at ep
        exact eoc_uniq ef ep
      subst efp
      simp (disch := omega) only [cLt_t, cLt_f, cEq_t, cEq_f, rdR_ok, rd_ok, wr_ok, put_eq, jn_eq, cl_some, Int.toNat_natCast, i5.out, i6.out, i7.out, h0]
    · simp (disch := omega) only [cLt_t, cLt_f, cEq_t, cEq_f, rdR_ok, rd_ok, wr_ok, put_eq, jn_eq, cl_some, Int.toNat_natCast, i5.out, i6.out, i7.out, h0]
  refine ⟨up (up (up t1 5 (25 * k) ((d.n : Int) + 1)) 5 (25 * k + 1 + p) c) 5 (25 * k + 13 + p) (f : Int), ?_, fun b hb => by rw [up_b hb, up_b hb, up_b hb, f2 b hb], ⟨by rw [up_i (by omega), up_i (by omega), up_eq, ins_n]; rfl, fun y hy => ?_⟩, fun j hj => by rw [up_i (by omega), up_i (by omega), up_i (by omega), f7 j (by omega)]⟩
  · unfold X9_adds
    rw [q_rightB hk hD hF hx, cl_some]
    simp only [jn_eq]
    have last : ∀ (v19 : Int), v19 = (f : Int) → cEq m 0 (rd t 5 53 (25 * (k : Int)) (fun v12 => X9_adds_83 (k : Int) (x : Int) m c (25 * (k : Int)) v19 v19 (fun s13 => rd s13 5 53 (25 * (k : Int)) (fun v14 => wr s13 5 53 (25 * (k : Int)) (v14 + 1) (fun s15 => wr s15 5 53 (25 * (k : Int) + 1 + v19) c (fun s16 => cEq m 0 (wr s16 5 53 (25 * (k : Int) + 13 + v19) v19 (fun s18 => some (v19, s18))) (wr s16 5 53 (25 * (k : Int) + 13 + v19) v19 (fun s17 => some (v19, s17))))))) FU (v12 - 1) t)) (cl (X9_childOf (k : Int) (x : Int) (i + m - 1) t) (fun v19_1 s20 => rd s20 5 53 (25 * (k : Int)) (fun v12 => X9_adds_83 (k : Int) (x : Int) m c (25 * (k : Int)) v19 (v19_1 + 1) (fun s13 => rd s13 5 53 (25 * (k : Int)) (fun v14 => wr s13 5 53 (25 * (k : Int)) (v14 + 1) (fun s15 => wr s15 5 53 (25 * (k : Int) + 1 + (v19_1 + 1)) c (fun s16 => cEq m 0 (wr s16 5 53 (25 * (k : Int) + 13 + (v19_1 + 1)) (v19_1 + 1) (fun s18 => some (v19_1 + 1, s18))) (wr s16 5 53 (25 * (k : Int) + 13 + (v19_1 + 1)) v19 (fun s17 => some (v19_1 + 1, s17))))))) FU (v12 - 1) s20))) = some ((p : Int), up (up (up t1 5 (25 * k) ((d.n : Int) + 1)) 5 (25 * k + 1 + p) c) 5 (25 * k + 13 + p) (f : Int)) := by
      intro v19 hv
      subst hv
      by_cases m0 : m = 0
      · have efp : f = p := by
          subst m0
          rw [Int.add_zero] at ep
          exact eoc_uniq ef ep
        subst efp
        rw [cEq_t (by omega) (by omega) m0, rd_ok (by omega) (by omega), i5.out, hD.1]
        exact fin
      · rw [cEq_f (by omega) (by omega) (by omega) (by omega) m0]
        obtain ⟨ch, g1, g2, g3, g4, g5⟩ := q_childOf hk hD hF hx (i := i + m - 1) (by omega) (by omega)
        have e3 : p = ch + 1 := eoc_child (i := i + m - 1) (by rw [Int.sub_add_cancel]; exact ep) (by omega) g2 g4 g5
        rw [g1, cl_some, rd_ok (by omega) (by omega), i5.out, hD.1, show (ch : Int) + 1 = (p : Int) by omega]
        exact fin
    by_cases w : i = chn d x
    · have ex : f = x := by
        have cn := eoc_cnt ef
        rw [w, chn_chb] at cn
        by_cases q : f = x
        · exact q
        · exfalso
          have hb := bf.2.2 (x - 1) (by omega) (by omega)
          have lx := (hF.2.1 (x - 1) (by omega)).2
          -- x - 1 is a child of x
          have pz : par d (x - 1) = x := by
            rcases par_spec d hF.1 (x - 1) with ⟨z, e1, e2, e3, e4, e5⟩ | ⟨e1, e2⟩
            · by_cases ez : z = x
              · rw [e1, ez]
              · have := e5 x (by omega) (by omega)
                have := bf.1
                omega
            · have := e2 x (by omega) hx
              have := bf.1
              omega
          have q2 := chb_lt (d := d) (x := x) (c := x - 1) (a := x - d.l x) (by have := bf.1; omega) pz (by have := bf.1; omega)
          have q3 := chb_mono (d := d) (x := x) (a := f - d.l x) (b := x - 1 - d.l x) (by omega)
          omega
      rw [cEq_t (x := i) (y := chn d x) (by omega) (by omega) w, cEq_f (x := 1) (y := 0) (by decide) (by decide) (by decide) (by decide) (by decide)]
      exact last (x : Int) (by rw [ex])
    · obtain ⟨ch, g1, g2, g3, g4, g5⟩ := q_childOf hk hD hF hx (i := i) (by omega) hi
      have e3 := eoc_start hF hx ef g2 g3 g4 g5
      have lc := q_leftOf hk hD (by omega) (x := ch) (by omega)
      rw [cEq_f (x := i) (y := chn d x) (by omega) (by omega) (by omega) (by omega) w, cEq_t (x := 0) (y := 0) (by decide) (by decide) rfl, g1, cl_some, lc, cl_some]
      exact last (d.l ch : Int) (by rw [e3])
  · rw [ins_n] at hy
    by_cases q : y < p
    · rw [up_i (by omega), up_i (by omega), up_i (by omega), up_i (by omega), up_i (by omega), up_i (by omega), ins_c1 q, ins_l1 q]
      exact f3 y (by omega) q
    · by_cases q2 : y = p
      · subst q2
        rw [up_i (by omega), up_eq, up_eq, ins_cp, ins_lp]
        exact ⟨rfl, rfl⟩
      · obtain ⟨y, rfl⟩ : ∃ w, y = w + 1 := ⟨y - 1, by omega⟩
        rw [up_i (by omega), up_i (by omega), up_i (by omega), up_i (by omega), up_i (by omega), up_i (by omega), ins_c2 (by omega), ins_l2 (by omega)]
        exact f4 y (by omega) (by omega)
/-- both sides add a node -/
theorem cor_add {s t : St} {v : Vec} (h : Cor s t v) {k x : Nat} (hk : k < 2) (hx : x < (v.doc k).n) (hn : (v.doc k).n < 12) {i m c : Int} (hi : 0 ≤ i) (hm : 0 ≤ m) (him : i + m ≤ chn (v.doc k) x) (hc : lab c) : ∃ (p : Nat) (s' t' : St) (d : Doc), X6_insert (38 + 3 * k) (x : Int) i m c s = some ((p : Int), s') ∧ X9_adds (k : Int) (x : Int) i m c t = some ((p : Int), t') ∧ Cor s' t' (v.setd k d) ∧ 0 < d.n ∧ s' 5 = s 5 ∧ s' 30 = s 30 := by
  obtain ⟨hv, hC, hM⟩ := h.ok
  have hW := doc_ok hv k
  have hF := hW.1
  obtain ⟨f, p, s', a1, a2, a3, a4, a5⟩ := p_insert (doc_C hC hk) hF hn hx hi hm him c
  have bf : Bd (v.doc k) x f := eoc_bd hF hx a2
  have bp : Bd (v.doc k) x p := eoc_bd hF hx a3
  have hfp : f ≤ p := by
    by_cases q : f ≤ p
    · exact q
    · have c1 := eoc_cnt a2
      have c2 := eoc_cnt a3
      have := chb_mono (d := v.doc k) (x := x) (a := p - (v.doc k).l x) (b := f - (v.doc k).l x) (by omega)
      have m0 : m = 0 := by omega
      rw [m0, Int.add_zero] at a3
      have := eoc_uniq a2 a3
      omega
  obtain ⟨t', b1, b2, b3, b4⟩ := q_adds (c := c) hk (doc_M hM hk) hF hn hx hi hm him a2 a3 hfp
  refine ⟨p, s', t', (v.doc k).ins x f p c, a1, b1, h.vec (setd_ok hv (wf_ins hW hn hx bf bp hfp hc) k) (hC.setd hk a5 (fun b c1 c2 => a4 b (by omega) (by omega) (by omega))) (hM.setd hv hk b3 b4) (fun b c1 c2 c3 c4 c5 => a4 b (by omega) (by omega) (by omega)) (fun b c1 c2 c3 => b2 b c3) (fun i hi => by rw [b2 0 (by omega)]), by rw [ins_n]; omega, a4 5 (by omega) (by omega) (by omega), a4 30 (by omega) (by omega) (by omega)⟩
theorem sim_add : ∀ s t : St, InvS SolX s t → ∀ a1 : Int, inR a1 → ∀ a2 : Int, inR a2 → ∀ a3 : Int, inR a3 → ∀ a4 : Int, inR a4 → ∀ a5 : Int, inR a5 → Ok2 (InvS SolX) (X8_add a1 a2 a3 a4 a5 s) (X9_add a1 a2 a3 a4 a5 t) := by
  intro s t hI a1 r1 a2 r2 a3 r3 a4 r4 a5 r5
  obtain ⟨v, hc, hs⟩ := cor_of hI
  obtain ⟨hv, hC, hM⟩ := hc.ok
  unfold X8_add X9_add
  rw [p_noNode hv hC r1 r2, q_isNode hv hM r1 r2]
  by_cases h : (0 ≤ a1 ∧ a1 < 2) ∧ 0 ≤ a2 ∧ a2 < (v.doc a1.toNat).n
  · rw [if_pos h, if_pos h]
    obtain ⟨k, rfl⟩ : ∃ r : Nat, a1 = r := ⟨a1.toNat, by omega⟩
    obtain ⟨x, rfl⟩ : ∃ r : Nat, a2 = r := ⟨a2.toNat, by omega⟩
    rw [Int.toNat_natCast] at h
    have hF := (doc_ok hv k).1
    have hn := hF.1
    have hk : k < 2 := by omega
    have hx : x < (v.doc k).n := by omega
    have cr := chn_r (v.doc k) x
    have pc := p_children (doc_C hC hk) hF hx
    have qc := q_rightB hk (doc_M hM hk) hF hx
    have pn := (doc_C hC hk).1
    have qn := q_many hk (doc_M hM hk)
    have kd := kdOf_r a5
    have pk : X8_kindOf a5 s = some (if lab a5 then kdOf a5 else -1, s) := p_kindOf r5 s
    have qk : X9_isMark a5 t = some (if lab a5 then 1 else 0, t) := q_isMark r5 t
    by_cases hb : lab a5
    · rw [if_pos hb] at pk qk
      by_cases g1 : a3 < 0
      · simp (disch := omega) only [cLt_t, cLt_f, cEq_t, cEq_f, rdR_ok, rd_ok, wr_ok, put_eq, jn_eq, cl_some, Int.toNat_natCast, qk]
        exact ok_same _ hI
      · by_cases g2 : a4 < 0
        · simp (disch := omega) only [cLt_t, cLt_f, cEq_t, cEq_f, rdR_ok, rd_ok, wr_ok, put_eq, jn_eq, cl_some, Int.toNat_natCast, qk]
          exact ok_same _ hI
        · by_cases g3 : chn (v.doc k) x < a3
          · simp (disch := omega) only [cLt_t, cLt_f, cEq_t, cEq_f, rdR_ok, rd_ok, wr_ok, put_eq, jn_eq, cl_some, Int.toNat_natCast, qk, p_tree hk s, gK_tree hk, pc, qc]
            exact ok_same _ hI
          · by_cases g4 : chn (v.doc k) x - a3 < a4
            · simp (disch := omega) only [cLt_t, cLt_f, cEq_t, cEq_f, rdR_ok, rd_ok, wr_ok, put_eq, jn_eq, cl_some, Int.toNat_natCast, qk, p_tree hk s, gK_tree hk, pc, qc]
              exact ok_same _ hI
            · by_cases g5 : (v.doc k).n < 12
              · obtain ⟨n, n1, n2, n3⟩ := rec_inv hc
                by_cases w : n < 40
                · obtain ⟨s1, t1, c1, c2, c3, c4, c5⟩ := rec_sim hc n2 w
                  obtain ⟨p, s2, t2, d, d1, d2, d3, d4, d5, d6⟩ := cor_add c3 hk hx g5 (i := a3) (m := a4) (c := a5) (by omega) (by omega) (by omega) hb
                  simp (disch := omega) only [cLt_t, cLt_f, cEq_t, cEq_f, rdR_ok, rd_ok, wr_ok, put_eq, jn_eq, cl_some, Int.toNat_natCast, qk, pk, p_tree hk s, gK_tree hk, pc, qc, pn, qn, n2, n3, c1, c2, d1, d2]
                  exact ⟨_, _, _, rfl, rfl, d3.inv (Or.inl (by rw [d5]; exact c4))⟩
                · simp (disch := omega) only [cLt_t, cLt_f, cEq_t, cEq_f, rdR_ok, rd_ok, wr_ok, put_eq, jn_eq, cl_some, Int.toNat_natCast, qk, pk, p_tree hk s, gK_tree hk, pc, qc, pn, qn, n2, n3]
                  exact ok_same _ hI
              · simp (disch := omega) only [cLt_t, cLt_f, cEq_t, cEq_f, rdR_ok, rd_ok, wr_ok, put_eq, jn_eq, cl_some, Int.toNat_natCast, qk, pk, p_tree hk s, gK_tree hk, pc, qc, pn, qn]
                exact ok_same _ hI
    · rw [if_neg hb] at pk qk
      by_cases g1 : a3 < 0
      · simp (disch := omega) only [cLt_t, cLt_f, cEq_t, cEq_f, rdR_ok, rd_ok, wr_ok, put_eq, jn_eq, cl_some, Int.toNat_natCast, qk]
        exact ok_same _ hI
      · by_cases g2 : a4 < 0
        · simp (disch := omega) only [cLt_t, cLt_f, cEq_t, cEq_f, rdR_ok, rd_ok, wr_ok, put_eq, jn_eq, cl_some, Int.toNat_natCast, qk]
          exact ok_same _ hI
        · by_cases g3 : chn (v.doc k) x < a3
          · simp (disch := omega) only [cLt_t, cLt_f, cEq_t, cEq_f, rdR_ok, rd_ok, wr_ok, put_eq, jn_eq, cl_some, Int.toNat_natCast, qk, p_tree hk s, gK_tree hk, pc]
            exact ok_same _ hI
          · by_cases g4 : chn (v.doc k) x - a3 < a4
            · simp (disch := omega) only [cLt_t, cLt_f, cEq_t, cEq_f, rdR_ok, rd_ok, wr_ok, put_eq, jn_eq, cl_some, Int.toNat_natCast, qk, p_tree hk s, gK_tree hk, pc]
              exact ok_same _ hI
            · simp (disch := omega) only [cLt_t, cLt_f, cEq_t, cEq_f, rdR_ok, rd_ok, wr_ok, put_eq, jn_eq, cl_some, Int.toNat_natCast, qk, pk, p_tree hk s, gK_tree hk, pc]
              exact ok_same _ hI
  · rw [if_neg h, if_neg h]
    simp (disch := omega) only [cLt_t, cLt_f, cEq_t, cEq_f, rdR_ok, rd_ok, wr_ok, put_eq, jn_eq, cl_some, Int.toNat_natCast]
    exact ok_same _ hI
