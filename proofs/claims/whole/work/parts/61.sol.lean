/-! the model lists its steps -/
def FT (t t' : St) : Prop := (∀ d, d ≠ 24 → d ≠ 0 → t' d = t d) ∧ ∀ i, i ≠ 30 → t' 0 i = t 0 i
theorem FT.rfl {s : St} : FT s s := ⟨fun _ _ _ => Eq.refl _, fun _ _ => Eq.refl _⟩
theorem FT.trans {a b c : St} (h : FT a b) (g : FT b c) : FT a c := ⟨fun x h1 h2 => (g.1 x h1 h2).trans (h.1 x h1 h2), fun i hi => (g.2 i hi).trans (h.2 i hi)⟩
theorem FT.mw {t t' : St} {A B : Doc} {K : Prc} (h : FT t t') (hW : MW t A B K) : MW t' A B K := by
  unfold MW
  rw [h.1 5 (by omega) (by omega), h.1 17 (by omega) (by omega), h.1 18 (by omega) (by omega), h.1 19 (by omega) (by omega)]
  exact hW
section LISTM
variable {v : Vec} {G O : Nat → Int}
theorem l_q11 (hv : VecOK v) (k : St → Rs) : ∀ (n x : Nat) (t : St), x ≤ v.1.n → v.1.n < x + n → MW t v.1 v.2.1 (Kv v) → (∀ a, a < v.1.n → t 22 a = G a ∧ -9 ≤ G a ∧ G a < 12) → SpM t (stD v G x) → ∃ t', X9_laysSteps_11 k n (x : Int) t = k t' ∧ FT t t' ∧ SpM t' (stD v G v.1.n) := by
  have hA12 := hv.1.1.1
  intro n
  induction n with
  | zero => intro x s h1 h2; omega
  | succ n ih =>
    intro x t h1 h2 hW hG hS
    rw [X9_laysSteps_11]
    have m0 := q_many0 hW.1
    by_cases e : x = v.1.n
    · subst e
      refine ⟨t, ?_, FT.rfl, hS⟩
      simp (disch := omega) only [cLt_t, cLt_f, cEq_t, cEq_f, rdR_ok, rd_ok, wr_ok, put_eq, jn_eq, cl_some, Int.toNat_natCast, m0]
    · have g := hG x (by omega)
      have dl := stDR_len v G x
      have d := hW.2.2.1 x (by omega)
      by_cases q : G x = -9
      · obtain ⟨t1, a1, a2, a2', a3⟩ := q_step hS (by omega) 0 (x : Int) ((Kv v).1 x)
        have ft : FT t t1 := ⟨a2, a2'⟩
        obtain ⟨t', f1, f2, f3⟩ := ih (x + 1) t1 (by omega) (by omega) (ft.mw hW) (fun a ha => by rw [a2 22 (by omega) (by omega)]; exact hG a ha) (by rw [stD, if_pos q]; exact a3)
        refine ⟨t', ?_, ft.trans f2, f3⟩
        simp (disch := omega) only [cLt_t, cLt_f, cEq_t, cEq_f, rdR_ok, rd_ok, wr_ok, put_eq, jn_eq, cl_some, Int.toNat_natCast, m0, g.1, q, d, a1]
        exact f1
      · obtain ⟨t', f1, f2, f3⟩ := ih (x + 1) t (by omega) (by omega) hW hG (by rw [stD, if_neg q, List.append_nil]; exact hS)
        refine ⟨t', ?_, f2, f3⟩
        simp (disch := omega) only [cLt_t, cLt_f, cEq_t, cEq_f, rdR_ok, rd_ok, wr_ok, put_eq, jn_eq, cl_some, Int.toNat_natCast, m0, g.1]
        exact f1
theorem l_q51 (hv : VecOK v) (k : St → Rs) : ∀ (n x : Nat) (t : St), x ≤ v.1.n → v.1.n < x + n → MW t v.1 v.2.1 (Kv v) → (∀ a, a < v.1.n → t 22 a = G a ∧ (G a = -9 ∨ (0 ≤ G a ∧ G a < v.2.1.n))) → SpM t (stD v G v.1.n ++ stR v G x) → ∃ t', X9_laysSteps_51 k n (x : Int) t = k t' ∧ FT t t' ∧ SpM t' (stD v G v.1.n ++ stR v G v.1.n) := by
  have hA := hv.1.1
  have hB := hv.2.1.1
  have hA12 := hA.1
  have hB12 := hB.1
  intro n
  induction n with
  | zero => intro x s h1 h2; omega
  | succ n ih =>
    intro x t h1 h2 hW hG hS
    rw [X9_laysSteps_51]
    have m0 := q_many0 hW.1
    by_cases e : x = v.1.n
    · subst e
      refine ⟨t, ?_, FT.rfl, hS⟩
      simp (disch := omega) only [cLt_t, cLt_f, cEq_t, cEq_f, rdR_ok, rd_ok, wr_ok, put_eq, jn_eq, cl_some, Int.toNat_natCast, m0]
    · have g := hG x (by omega)
      by_cases q : G x = -9
      · obtain ⟨t', f1, f2, f3⟩ := ih (x + 1) t (by omega) (by omega) hW hG (by rw [stR, if_neg (fun z => z.1 q), List.append_nil]; exact hS)
        refine ⟨t', ?_, f2, f3⟩
        simp (disch := omega) only [cLt_t, cLt_f, cEq_t, cEq_f, rdR_ok, rd_ok, wr_ok, put_eq, jn_eq, cl_some, Int.toNat_natCast, m0, g.1, q]
        exact f1
      · obtain ⟨y, hy⟩ : ∃ y : Nat, G x = y := ⟨(G x).toNat, by omega⟩
        have c0 := q_code0 hW.1 hA12 (x := x) (by omega)
        have c1 := q_code1 hW.2.1 hB12 (x := y) (by omega)
        have lb0 := (hA.2.1 x (by omega)).1
        have lb1 := (hB.2.1 y (by omega)).1
        have sw := hW.2.2.2.2 x y (by omega) (by omega)
        have i6 : Hid ((12 * (x : Int) + (y : Int)).toNat = 12 * x + y) := Hid.mk (by omega)
        by_cases r : v.1.c x = v.2.1.c y
        · obtain ⟨t', f1, f2, f3⟩ := ih (x + 1) t (by omega) (by omega) hW hG (by rw [stR, if_neg (fun z => z.2 (by rw [hy, Int.toNat_natCast]; exact r)), List.append_nil]; exact hS)
          refine ⟨t', ?_, f2, f3⟩
          simp (disch := omega) only [cLt_t, cLt_f, cEq_t, cEq_f, rdR_ok, rd_ok, wr_ok, put_eq, jn_eq, cl_some, Int.toNat_natCast, m0, g.1, hy, c0, c1]
          exact f1
        · have := stDR_len v G x
          have := stDR_len v G v.1.n
          obtain ⟨t1, a1, a2, a2', a3⟩ := q_step hS (by rw [List.length_append]; omega) 1 (x : Int) ((Kv v).2.2 x y)
          have ft : FT t t1 := ⟨a2, a2'⟩
          obtain ⟨t', f1, f2, f3⟩ := ih (x + 1) t1 (by omega) (by omega) (ft.mw hW) (fun a ha => by rw [a2 22 (by omega) (by omega)]; exact hG a ha) (by rw [stR, if_pos ⟨q, by rw [hy, Int.toNat_natCast]; exact r⟩, hy, Int.toNat_natCast, ← List.append_assoc]; exact a3)
          refine ⟨t', ?_, ft.trans f2, f3⟩
          simp (disch := omega) only [cLt_t, cLt_f, cEq_t, cEq_f, rdR_ok, rd_ok, wr_ok, put_eq, jn_eq, cl_some, Int.toNat_natCast, m0, g.1, hy, c0, c1, i6.out, sw, a1]
          exact f1
theorem l_q127 (hv : VecOK v) (L : List Sstp) (hL : L.length ≤ 12) (k : St → Rs) : ∀ (n m : Nat) (t : St), m ≤ v.2.1.n → v.2.1.n < m + n → MW t v.1 v.2.1 (Kv v) → (∀ b, b < v.2.1.n → t 23 b = O b ∧ -9 ≤ O b ∧ O b < 12) → SpM t (L ++ stI v O m) → ∃ t', X9_laysSteps_127 k n ((v.2.1.n : Int) - 1 - m) t = k t' ∧ FT t t' ∧ SpM t' (L ++ stI v O v.2.1.n) := by
  have hA12 := hv.1.1.1
  have hB12 := hv.2.1.1.1
  intro n
  induction n with
  | zero => intro x s h1 h2; omega
  | succ n ih =>
    intro m t h1 h2 hW hO hS
    rw [X9_laysSteps_127]
    by_cases e : m = v.2.1.n
    · subst e
      refine ⟨t, ?_, FT.rfl, hS⟩
      simp (disch := omega) only [cLt_t, cLt_f, cEq_t, cEq_f, rdR_ok, rd_ok, wr_ok, put_eq, jn_eq, cl_some, Int.toNat_natCast]
    · have e1 : (v.2.1.n : Int) - 1 - m = ((v.2.1.n - 1 - m : Nat) : Int) := by omega
      have e2 : ((v.2.1.n - 1 - m : Nat) : Int) + -1 = (v.2.1.n : Int) - 1 - ((m + 1 : Nat) : Int) := by omega
      have g := hO (v.2.1.n - 1 - m) (by omega)
      have d := hW.2.2.2.1 (v.2.1.n - 1 - m) (by omega)
      have il := stI_len v O m
      rw [e1]
      have st : stI v O (m + 1) = stI v O m ++ (if O (v.2.1.n - 1 - m) = -9 then [(2, ((v.2.1.n - 1 - m : Nat) : Int), (Kv v).2.1 (v.2.1.n - 1 - m))] else []) := rfl
      by_cases q : O (v.2.1.n - 1 - m) = -9
      · rw [if_pos q] at st
        obtain ⟨t1, a1, a2, a2', a3⟩ := q_step hS (by rw [List.length_append]; omega) 2 ((v.2.1.n - 1 - m : Nat) : Int) ((Kv v).2.1 (v.2.1.n - 1 - m))
        have ft : FT t t1 := ⟨a2, a2'⟩
        obtain ⟨t', f1, f2, f3⟩ := ih (m + 1) t1 (by omega) (by omega) (ft.mw hW) (fun a ha => by rw [a2 23 (by omega) (by omega)]; exact hO a ha) (by rw [st, ← List.append_assoc]; exact a3)
        refine ⟨t', ?_, ft.trans f2, f3⟩
        rw [← e2] at f1
        generalize v.2.1.n - 1 - m = y at *
        simp (disch := omega) only [cLt_t, cLt_f, cEq_t, cEq_f, rdR_ok, rd_ok, wr_ok, put_eq, jn_eq, cl_some, Int.toNat_natCast, g.1, q, d, a1]
        exact f1
      · rw [if_neg q] at st
        obtain ⟨t', f1, f2, f3⟩ := ih (m + 1) t (by omega) (by omega) hW hO (by rw [st, List.append_nil]; exact hS)
        refine ⟨t', ?_, f2, f3⟩
        rw [← e2] at f1
        generalize v.2.1.n - 1 - m = y at *
        simp (disch := omega) only [cLt_t, cLt_f, cEq_t, cEq_f, rdR_ok, rd_ok, wr_ok, put_eq, jn_eq, cl_some, Int.toNat_natCast, g.1]
        exact f1
end LISTM
def FX (t t' : St) : Prop := (∀ b, 1 ≤ b → b < 17 → t' b = t b) ∧ ∀ i, i ≠ 30 → t' 0 i = t 0 i
theorem FX.scr {t t' : St} (h : FX t t') : ScrM t t' := ⟨fun b h1 h2 => h.1 b h1 (by omega), fun i hi => h.2 i (by omega)⟩
/-- the model's steps, G and O being its partners and others -/
theorem q_laysSteps {v : Vec} (hv : VecOK v) (h0 : 0 < v.1.n) (h1 : 0 < v.2.1.n) {G O : Nat → Int} (hG : LX (Kv v) (Tl v.1 v.2.1) 0 v.1.n 0 v.2.1.n G) (hO : ∀ o, Oth G 0 v.1.n v.2.1.n o → ∀ b, b < v.2.1.n → o b = O b) {t : St} (hM : MSt (t 5) v) : ∃ t', X9_laysSteps t = some (0, t') ∧ FX t t' ∧ MSt (t' 5) v ∧ (∀ a, a < v.1.n → t' 22 a = G a) ∧ (∀ b, b < v.2.1.n → t' 23 b = O b) ∧ SpM t' (stps v G O) := by
  have hA12 := hv.1.1.1
  have hB12 := hv.2.1.1.1
  have hU := FU_gt
  obtain ⟨t0, a1, a2, a3, a4, a5⟩ := q_laysWay hv h0 h1 hG hM
  have o4 := hO _ a4
  have or : ∀ b, b < v.2.1.n → -9 ≤ O b ∧ O b < 12 := fun b hb => by
    rw [← o4 b hb]
    rcases a4 b hb with ⟨q, _⟩ | ⟨k, _, q1, _, q2⟩ <;> omega
  have gr : ∀ a, a < v.1.n → G a = -9 ∨ (0 ≤ G a ∧ G a < v.2.1.n) := fun a ha => by
    have := hG.1.range a (by omega) ha
    omega
  have f0 : FT t0 (up t0 0 30 0) := ⟨fun d d1 d2 => up_b d2, fun i hi => up_i hi⟩
  have w0 := f0.mw a5
  obtain ⟨t1, b1, b2, b3⟩ := l_q11 (v := v) (G := G) hv (fun s4 => X9_laysSteps_51  (fun s5 => cl (X9_many 1 s5) (fun v6 s7 => X9_laysSteps_127  (fun s8 => some (0, s8)) FU (v6 - 1) s7)) FU 0 s4) FU 0 (up t0 0 30 0) (by omega) (by omega) w0 (fun a ha => by
    rw [up_b (by omega)]
    have := gr a ha
    exact ⟨a3 a ha, by omega, by omega⟩) ⟨up_eq, fun k hk => absurd hk (Nat.not_lt_zero k)⟩
  have w1 := b2.mw w0
  obtain ⟨t2, c1, c2, c3⟩ := l_q51 (v := v) (G := G) hv (fun s5 => cl (X9_many 1 s5) (fun v6 s7 => X9_laysSteps_127  (fun s8 => some (0, s8)) FU (v6 - 1) s7)) FU 0 t1 (by omega) (by omega) w1 (fun a ha => by
    rw [b2.1 22 (by omega) (by omega), up_b (by omega)]
    exact ⟨a3 a ha, gr a ha⟩) (by rw [stR, List.append_nil]; exact b3)
  have w2 := c2.mw w1
  have dr := stDR_len v G v.1.n
  obtain ⟨t3, d1, d2, d3⟩ := l_q127 (v := v) (O := O) hv (stD v G v.1.n ++ stR v G v.1.n) (by rw [List.length_append]; omega) (fun s8 => some (0, s8)) FU 0 t2 (by omega) (by omega) w2 (fun b hb => by
    rw [c2.1 23 (by omega) (by omega), b2.1 23 (by omega) (by omega), up_b (by omega)]
    exact ⟨o4 b hb, or b hb⟩) (by rw [stI, List.append_nil]; exact c3)
  have ft := ((f0.trans b2).trans c2).trans d2
  refine ⟨t3, ?_, ⟨fun b q1 q2 => by rw [ft.1 b (by omega) (by omega), a2 b (by omega)], fun i hi => by rw [ft.2 i hi, a2 0 (by omega)]⟩, by rw [ft.1 5 (by omega) (by omega), a2 5 (by omega)]; exact hM, fun a ha => by rw [ft.1 22 (by omega) (by omega)]; exact a3 a ha, fun b hb => by rw [ft.1 23 (by omega) (by omega)]; exact o4 b hb, d3⟩
  unfold X9_laysSteps
  simp (disch := omega) only [cLt_t, cLt_f, cEq_t, cEq_f, rdR_ok, rd_ok, wr_ok, put_eq, jn_eq, cl_some, Int.toNat_natCast, a1]
  refine b1.trans (c1.trans ?_)
  simp (disch := omega) only [cLt_t, cLt_f, cEq_t, cEq_f, rdR_ok, rd_ok, wr_ok, put_eq, jn_eq, cl_some, Int.toNat_natCast, q_many1 w2.2.1]
  rw [show (v.2.1.n : Int) - 1 = (v.2.1.n : Int) - 1 - ((0 : Nat) : Int) by omega]
  exact d1
/-! what the ways hold when they are not stale -/
def SolC (s : St) (v : Vec) : Prop := (∀ i j, i < v.1.n → j < v.2.1.n → s (75 + i) j = (Kv v).2.2 i j ∧ s (63 + i) j = dF (Kv v) (Tl v.1 v.2.1) (v.1.l i) (i + 1) (v.2.1.l j) (j + 1)) ∧ LX (Kv v) (Tl v.1 v.2.1) 0 v.1.n 0 v.2.1.n (s 57) ∧ PI s v.1 v.2.1 ∧ SpC s (stps v (s 57) (s 58))
def SolX (s : St) (v : Vec) : Prop := (0 < v.1.n ∧ 0 < v.2.1.n) → SolC s v
theorem congW : CongW SolX := by
  intro s s' v e h hw
  obtain ⟨h1, h2, h3, h4⟩ := h hw
  refine ⟨fun i j hi hj => ?_, by rw [e 57 (by omega)]; exact h2, h3.congr (fun b hb => e b (by omega)), ?_⟩
  · rw [e _ (by omega), e _ (by omega)]
    exact h1 i j hi hj
  · unfold SpC
    rw [e 57 (by omega), e 58 (by omega), e 8 (by omega), e 52 (by omega), e 53 (by omega), e 54 (by omega)]
    exact h4
theorem oth_eq {s : St} {v : Vec} (hS : SolC s v) : ∀ o, Oth (s 57) 0 v.1.n v.2.1.n o → ∀ b, b < v.2.1.n → o b = s 58 b := by
  intro o ho b hb
  obtain ⟨-, hL, hP, -⟩ := hS
  rcases ho b hb with ⟨o1, o2⟩ | ⟨k, o1, o2, o3, o4⟩
  · rcases hP.2.1 b hb with q | ⟨a, q1, q2, q3⟩
    · rw [o1, q]
    · exact absurd q3 (o2 a (by omega) q1)
  · rcases hP.1 k o2 with q | ⟨b', q1, q2, q3⟩
    · omega
    · have : b' = b := by omega
      subst this
      rcases hP.2.1 b' hb with r | ⟨a, r1, r2, r3⟩
      · exact absurd r q3
      · have := hL.1.inj k a (by omega) o2 (by omega) r1 (by omega) (by omega)
        subst this
        rw [o4, r2]
/-- the four deeds of X7_refresh where the ways are stale and both documents are there -/
def sv_solve (s : St) : Rs := cl (X7_measure s) (fun _ s2 => cl (X7_pairUp s2) (fun _ s4 => cl (X7_listSteps s4) (fun _ s6 => put s6 5 1 0 (fun s7 => some (0, s7)))))
theorem sv_refresh (s : St) : X7_refresh s = cEq (s 5 1) 0 (some (0, s)) (cl (X3_isWhole s) (fun v1 s2 => cEq v1 0 (some (0, s2)) (sv_solve s2))) := by
  unfold X7_refresh sv_solve
  exact Eq.refl _
theorem p_solve {v : Vec} (hv : VecOK v) {s : St} (hC : CSt s v) : ∃ s', sv_solve s = some (0, s') ∧ (∀ b, b ≠ 5 → b ≠ 8 → b < 52 → s' b = s b) ∧ s' 5 1 = 0 ∧ SolC s' v := by
  have hA := hv.1.1
  have hB := hv.2.1.1
  have hA12 := hA.1
  have hB12 := hB.1
  obtain ⟨s1, a1, a2, a3, a4⟩ := p_measure hv hC
  obtain ⟨s2, b1, b2, b3, b4, b5⟩ := p_pairUp hA hB (Kv_ok hv) ⟨a3, a4⟩
  obtain ⟨s3, c1, c2, c3⟩ := p_listSteps hv b3.1 (fun a ha => by
    rcases b4.1 a ha with q | ⟨b, q1, q2, q3⟩
    · exact Or.inl q
    · exact Or.inr ⟨by omega, by omega⟩) (fun b hb => by
    rcases b4.2.1 b hb with q | ⟨a, q1, q2, q3⟩
    · exact Or.inl q
    · exact Or.inr ⟨by omega, by omega⟩)
  have e57 : s3 57 = s2 57 := c2 57 (by omega) (by omega)
  have e58 : s3 58 = s2 58 := c2 58 (by omega) (by omega)
  refine ⟨up s3 5 1 0, ?_, fun b q1 q2 q3 => by rw [up_b q1, c2 b q2 (by omega), b2 b q1 (by omega) (by omega) (by omega), a2 b (by omega) (by omega) (by omega)], up_eq, fun i j hi hj => ?_, ?_, ?_, ?_⟩
  · unfold sv_solve
    simp (disch := omega) only [cLt_t, cLt_f, cEq_t, cEq_f, rdR_ok, rd_ok, wr_ok, put_eq, jn_eq, cl_some, Int.toNat_natCast, a1, b1, c1]
  · rw [up_b (by omega), up_b (by omega), c2 _ (by omega) (by omega), c2 _ (by omega) (by omega)]
    exact ⟨b3.1.2.2.2.2 i j hi hj, (b3.2 i j hi hj).2⟩
  · rw [up_b (by omega), e57]
    exact b5
  · obtain ⟨p1, p2, p3⟩ := b4
    unfold PI
    rw [up_b (by omega), up_b (by omega), up_i (by omega), e57, e58, c2 5 (by omega) (by omega)]
    exact ⟨p1, p2, p3⟩
  · unfold SpC
    rw [up_b (by omega), up_b (by omega), up_b (by omega), up_b (by omega), up_b (by omega), up_b (by omega), e57, e58]
    exact c3
theorem p_refresh {v : Vec} (hv : VecOK v) {s : St} (hC : CSt s v) (hs : s 5 1 = 1 ∨ (s 5 1 = 0 ∧ SolX s v)) : ∃ s', X7_refresh s = some (0, s') ∧ (∀ b, b ≠ 5 → b ≠ 8 → b < 52 → s' b = s b) ∧ (s' 5 1 = 1 ∨ (s' 5 1 = 0 ∧ SolX s' v)) ∧ SolX s' v := by
  rw [sv_refresh]
  rcases hs with h | ⟨h, hS⟩
  · by_cases g : 0 < v.1.n ∧ 0 < v.2.1.n
    · obtain ⟨s1, a1, a2, a3, a4⟩ := p_solve hv hC
      refine ⟨s1, ?_, a2, Or.inr ⟨a3, fun _ => a4⟩, fun _ => a4⟩
      simp (disch := omega) only [cLt_t, cLt_f, cEq_t, cEq_f, rdR_ok, rd_ok, wr_ok, put_eq, jn_eq, cl_some, Int.toNat_natCast, h, p_isWhole hv hC, if_pos g, a1]
    · refine ⟨s, ?_, fun _ _ _ _ => rfl, Or.inl h, fun z => absurd z g⟩
      simp (disch := omega) only [cLt_t, cLt_f, cEq_t, cEq_f, rdR_ok, rd_ok, wr_ok, put_eq, jn_eq, cl_some, Int.toNat_natCast, h, p_isWhole hv hC, if_neg g]
  · refine ⟨s, ?_, fun _ _ _ _ => rfl, Or.inr ⟨h, hS⟩, hS⟩
    simp (disch := omega) only [cLt_t, cLt_f, cEq_t, cEq_f, rdR_ok, rd_ok, wr_ok, put_eq, jn_eq, cl_some, Int.toNat_natCast, h]
/-! the state but for the ways -/
def Cor (s t : St) (v : Vec) : Prop := RRow s t ∧ RTxt s t ∧ RFnd s t ∧ ∃ n lg, VecOK v ∧ CSt s v ∧ MSt (t 5) v ∧ LgR s t n lg ∧ ∀ k, k < 3 → PlR s t k
theorem cor_of {s t : St} (h : InvS SolX s t) : ∃ v, Cor s t v ∧ (s 5 1 = 1 ∨ (s 5 1 = 0 ∧ SolX s v)) := by
  obtain ⟨h1, h2, h3, v, n, lg, a1, a2, a3, a4, a5, a6⟩ := h
  exact ⟨v, ⟨h1, h2, h3, n, lg, a1, a2, a3, a4, a5⟩, a6⟩
theorem Cor.inv {s t : St} {v : Vec} (h : Cor s t v) (hs : s 5 1 = 1 ∨ (s 5 1 = 0 ∧ SolX s v)) : InvS SolX s t := by
  obtain ⟨h1, h2, h3, n, lg, a1, a2, a3, a4, a5⟩ := h
  exact ⟨h1, h2, h3, v, n, lg, a1, a2, a3, a4, a5, hs⟩
theorem Cor.ok {s t : St} {v : Vec} (h : Cor s t v) : VecOK v ∧ CSt s v ∧ MSt (t 5) v := by
  obtain ⟨h1, h2, h3, n, lg, a1, a2, a3, a4, a5⟩ := h
  exact ⟨a1, a2, a3⟩
theorem Cor.frame {s s' t t' : St} {v : Vec} (h : Cor s t v) (hc : ∀ b, b ≠ 5 → b ≠ 8 → b ≠ 9 → b < 44 → s' b = s b) (hm : ScrM t t') : Cor s' t' v := by
  obtain ⟨h1, h2, h3, n, lg, a1, a2, a3, a4, a5⟩ := h
  refine ⟨fun r hr => ?_, fun k hk => ?_, ?_, n, lg, a1, a2.congr (fun b hb => hc b (by omega) (by omega) (by omega) (by omega)), by rw [hm.1 5 (by omega) (by omega)]; exact a3, a4.congr (hc 30 (by omega) (by omega) (by omega) (by omega)) (hc 31 (by omega) (by omega) (by omega) (by omega)) (hm.1 6 (by omega) (by omega)) (hm.2 6 (by omega)), fun k hk => (a5 k hk).congr (hc _ (by omega) (by omega) (by omega) (by omega)) (hc _ (by omega) (by omega) (by omega) (by omega)) (hm.1 7 (by omega) (by omega)) (hm.1 8 (by omega) (by omega))⟩
  · rw [hc (10 + 2 * r) (by omega) (by omega) (by omega) (by omega), hc (10 + 2 * r + 1) (by omega) (by omega) (by omega) (by omega), hm.1 1 (by omega) (by omega), hm.1 2 (by omega) (by omega)]
    exact h1 r hr
  · rw [hc (22 + 2 * k) (by omega) (by omega) (by omega) (by omega), hc (22 + 2 * k + 1) (by omega) (by omega) (by omega) (by omega), hm.1 3 (by omega) (by omega), hm.1 4 (by omega) (by omega)]
    exact h2 k hk
  · unfold RFnd
    rw [hc 0 (by omega) (by omega) (by omega) (by omega), hc 1 (by omega) (by omega) (by omega) (by omega), hm.2 9 (by omega), hm.2 10 (by omega), hm.1 9 (by omega) (by omega)]
    exact h3
theorem FW.scr {t t' : St} (h : FW t t') : ScrM t t' := ⟨fun b h1 h2 => h b (by omega), fun i hi => by rw [h 0 (by omega)]⟩
theorem FL.scr {t t' : St} (h : FL t t') : ScrM t t' := ⟨fun b h1 h2 => h b (by omega), fun i hi => by rw [h 0 (by omega)]⟩
