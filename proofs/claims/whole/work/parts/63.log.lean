/-! a state is packed and unpacked; blocks are brought over -/
theorem lnC31 : ln LC 31 = 1189 := by decide +kernel
theorem lnM : ln LM 5 = 53 ∧ ln LM 6 = 2120 ∧ ln LM 7 = 6522 ∧ ln LM 10 = 12 ∧ ln LM 11 = 12 ∧ ln LM 14 = 60 ∧ ln LM 4 = 240 := by decide +kernel
theorem pk_all : ∀ c : Fin 128, ∀ p : Fin 16, oOr (oShl (c.val : Int) 4) (p.val : Int) = 16 * (c.val : Int) + (p.val : Int) ∧ oShr (16 * (c.val : Int) + (p.val : Int)) 4 = (c.val : Int) ∧ oAnd (16 * (c.val : Int) + (p.val : Int)) 15 = (p.val : Int) := by decide +kernel
theorem pk_ok {c p : Int} (hc : lab c) (h1 : 0 ≤ p) (h2 : p < 16) : oOr (oShl c 4) p = 16 * c + p ∧ oShr (16 * c + p) 4 = c ∧ oAnd (16 * c + p) 15 = p := by
  have := pk_all ⟨c.toNat, by omega⟩ ⟨p.toNat, by omega⟩
  simp only [show ((c.toNat : Nat) : Int) = c by omega, show ((p.toNat : Nat) : Int) = p by omega] at this
  exact this
theorem cpA_ok {s : St} {a na b nb : Nat} {sp dp n : Nat} {k : St → Rs} (h1 : sp + n ≤ na) (h2 : dp + n ≤ nb) : cpA s a na (sp : Int) b nb (dp : Int) (n : Int) k = k (cpy s a sp b dp n) := by
  unfold cpA
  rw [if_pos ⟨by omega, by omega, by omega, by omega, by omega⟩]
  simp only [Int.toNat_natCast]
theorem cpy_o {s : St} {a sp b dp n c j : Nat} (h : c ≠ b) : cpy s a sp b dp n c j = s c j := by simp [cpy, h]
theorem cpy_in {s : St} {a sp b dp n j : Nat} (h1 : dp ≤ j) (h2 : j < dp + n) : cpy s a sp b dp n b j = s a (sp + (j - dp)) := by simp [cpy, h1, h2]
theorem cpy_out {s : St} {a sp b dp n j : Nat} (h : j < dp ∨ dp + n ≤ j) : cpy s a sp b dp n b j = s b j := by
  unfold cpy
  rw [if_neg (by omega)]
theorem cpy_b {s : St} {a sp b dp n c : Nat} (h : c ≠ b) : cpy s a sp b dp n c = s c := cpy_ne h
theorem l_bring {a b sp dp N : Nat} (hab : a ≠ b) (h1 : sp + N ≤ ln LM a) (h2 : dp + N ≤ ln LM b) (hN : N ≤ 3000) (s : St) (k : St → Rs) : ∀ (m i : Nat), i ≤ N → N < i + m → X9_bring_3 a (sp : Int) b (dp : Int) (N : Int) k m (i : Int) (cpy s a sp b dp i) = k (cpy s a sp b dp N) := by
  intro m
  induction m with
  | zero => intro i h3 h4; omega
  | succ m ih =>
    intro i h3 h4
    rw [X9_bring_3]
    by_cases e : i = N
    · subst e
      simp (disch := omega) only [cLt_t, cLt_f, cEq_t, cEq_f, rdR_ok, rd_ok, wr_ok, put_eq, jn_eq, cl_some, Int.toNat_natCast]
    · have i1 : Hid (((sp : Int) + (i : Int)).toNat = sp + i) := Hid.mk (by omega)
      have i2 : Hid (((dp : Int) + (i : Int)).toNat = dp + i) := Hid.mk (by omega)
      have c : up (cpy s a sp b dp i) b (dp + i) (cpy s a sp b dp i a (sp + i)) = cpy s a sp b dp (i + 1) := by
        funext c j
        rw [cpy_o hab]
        unfold up cpy
        by_cases q : c = b ∧ j = dp + i
        · rw [if_pos q, if_pos (by omega), show sp + (j - dp) = sp + i by omega]
        · rw [if_neg q]
          by_cases q2 : c = b ∧ dp ≤ j ∧ j < dp + i
          · rw [if_pos q2, if_pos (by omega)]
          · rw [if_neg q2, if_neg (by omega)]
      simp (disch := omega) only [cLt_t, cLt_f, cEq_t, cEq_f, rdR_ok, rd_ok, wr_ok, put_eq, jn_eq, cl_some, Int.toNat_natCast, i1.out, i2.out, c]
      exact ih (i + 1) (by omega) (by omega)
theorem q_bring {a b sp dp N : Nat} (hab : a ≠ b) (h1 : sp + N ≤ ln LM a) (h2 : dp + N ≤ ln LM b) (hN : N ≤ 3000) (s : St) : X9_bring a (sp : Int) b (dp : Int) (N : Int) s = some (0, cpy s a sp b dp N) := by
  have hU := FU_gt
  have e : cpy s a sp b dp 0 = s := by
    funext c j
    unfold cpy
    rw [if_neg (by omega)]
  have := l_bring hab h1 h2 hN s (fun s1 => some (0, s1)) FU 0 (by omega) (by omega)
  rw [e] at this
  exact this
theorem l_pack {s : St} {a p : Nat} {d : Doc} (hT : TreeAt s a d) (hF : Fst d) (ha : a + 2 < 44) (ha3 : 31 < a) (hp : p + 13 ≤ 1189) (k : St → Rs) : ∀ (n x : Nat) (s1 : St), x ≤ d.n → d.n < x + n → (∀ b, b ≠ 31 → s1 b = s b) → (∀ y, y < x → s1 31 (p + 1 + y) = 16 * d.c y + ((y : Int) - (d.l y : Int) + 1)) → ∃ s', X3_packTree_9 a 31 (p : Int) k n (x : Int) s1 = k s' ∧ (∀ b, b ≠ 31 → s' b = s b) ∧ (∀ j, j < p + 1 ∨ p + 13 ≤ j → s' 31 j = s1 31 j) ∧ ∀ y, y < d.n → s' 31 (p + 1 + y) = 16 * d.c y + ((y : Int) - (d.l y : Int) + 1) := by
  have hn := hF.1
  intro n
  induction n with
  | zero => intro x s1 h1 h2; omega
  | succ n ih =>
    intro x s1 h1 h2 hf hI
    rw [X3_packTree_9, lnC31]
    have e0 : s1 a 0 = d.n := by rw [hf a (by omega)]; exact hT.1
    by_cases e : x = d.n
    · subst e
      refine ⟨s1, ?_, hf, fun _ _ => rfl, hI⟩
      simp (disch := omega) only [cLt_t, cLt_f, cEq_t, cEq_f, rdR_ok, rd_ok, wr_ok, put_eq, jn_eq, cl_some, Int.toNat_natCast, e0]
    · have t1 := hT.2 x (by omega)
      have lb := hF.2.1 x (by omega)
      have e1 : s1 (a + 1) x = d.c x := by rw [hf _ (by omega)]; exact t1.1
      have e2 : s1 (a + 2) x = (x : Int) - (d.l x : Int) + 1 := by rw [hf _ (by omega)]; exact t1.2
      have pk := (pk_ok lb.1 (p := (x : Int) - (d.l x : Int) + 1) (by omega) (by omega)).1
      have i1 : Hid (((p : Int) + 1 + (x : Int)).toNat = p + 1 + x) := Hid.mk (by omega)
      obtain ⟨s', f1, f2, f3, f4⟩ := ih (x + 1) (up s1 31 (p + 1 + x) (16 * d.c x + ((x : Int) - (d.l x : Int) + 1))) (by omega) (by omega) (fun b hb => by rw [up_b hb]; exact hf b hb) (fun y hy => by
        by_cases q : y = x
        · subst q
          rw [up_eq]
        · rw [up_i (by omega)]
          exact hI y (by omega))
      refine ⟨s', ?_, f2, fun j hj => by rw [f3 j hj, up_i (by omega)], f4⟩
      simp (disch := omega) only [cLt_t, cLt_f, cEq_t, cEq_f, rdR_ok, rd_ok, wr_ok, put_eq, jn_eq, cl_some, Int.toNat_natCast, e0, e1, e2, pk, i1.out]
      exact f1
theorem p_packTree {s : St} {a p : Nat} {d : Doc} (hT : TreeAt s a d) (hF : Fst d) (ha : a + 2 < 44) (ha3 : 31 < a) (hp : p + 13 ≤ 1189) : ∃ s', X3_packTree a 31 (p : Int) s = some (0, s') ∧ (∀ b, b ≠ 31 → s' b = s b) ∧ (∀ j, j < p ∨ p + 13 ≤ j → s' 31 j = s 31 j) ∧ PkT (s' 31) p d := by
  have hn := hF.1
  have hU := FU_gt
  have hT' : TreeAt (up s 31 p (d.n : Int)) a d := hT.congr (fun b hb => up_b (by omega))
  obtain ⟨s', f1, f2, f3, f4⟩ := l_pack hT' hF ha ha3 hp (fun s2 => some (0, s2)) FU 0 (up s 31 p (d.n : Int)) (by omega) (by omega) (fun _ _ => rfl) (fun y hy => by omega)
  refine ⟨s', ?_, fun b hb => by rw [f2 b hb, up_b hb], fun j hj => by rw [f3 j (by omega), up_i (by omega)], by rw [f3 p (by omega), up_eq], f4⟩
  unfold X3_packTree
  rw [lnC31]
  simp (disch := omega) only [cLt_t, cLt_f, cEq_t, cEq_f, rdR_ok, rd_ok, wr_ok, put_eq, jn_eq, cl_some, Int.toNat_natCast, hT.1]
  exact f1
theorem PkT.congr {B B' : Nat → Int} {p : Nat} {d : Doc} (h : PkT B p d) (hn : d.n ≤ 12) (e : ∀ j, p ≤ j → j < p + 13 → B' j = B j) : PkT B' p d := by
  refine ⟨by rw [e p (by omega) (by omega)]; exact h.1, fun x hx => ?_⟩
  rw [e (p + 1 + x) (by omega) (by omega)]
  exact h.2 x hx
theorem PkV.congr {B B' : Nat → Int} {v : Vec} (h : PkV B v) (hv : VecOK v) (e : ∀ j, j < 29 → B' j = B j) : PkV B' v :=
  ⟨fun k hk => by rw [e k (by omega)]; exact h.1 k hk, h.2.1.congr hv.1.1.1 (fun j _ _ => e j (by omega)), h.2.2.congr hv.2.1.1.1 (fun j _ _ => e j (by omega))⟩
theorem MSt.congr {A A' : Nat → Int} {v : Vec} (h : MSt A v) (hv : VecOK v) (e : ∀ j, j < 53 → A' j = A j) : MSt A' v := by
  have n0 := hv.1.1.1
  have n1 := hv.2.1.1.1
  refine ⟨⟨by rw [e 0 (by omega)]; exact h.1.1, fun x hx => ?_⟩, ⟨by rw [e 25 (by omega)]; exact h.2.1.1, fun x hx => ?_⟩, fun k hk => by rw [e _ (by omega)]; exact h.2.2 k hk⟩
  · rw [e _ (by omega), e _ (by omega)]
    exact h.1.2 x hx
  · rw [e _ (by omega), e _ (by omega)]
    exact h.2.1.2 x hx
/-- the state behind n changes is held -/
theorem p_hold {s : St} {v : Vec} (hv : VecOK v) (hC : CSt s v) {n : Nat} (hn : n ≤ 40) (h0 : s 30 0 = n) : ∃ s', X0_hold 30 s = some (0, s') ∧ (∀ b, b ≠ 31 → s' b = s b) ∧ (∀ j, j < 29 * n → s' 31 j = s 31 j) ∧ PkV (fun j => s' 31 (29 * n + j)) v := by
  have n0 := hv.1.1.1
  have n1 := hv.2.1.1.1
  have c := cpA_ok (s := s) (a := 7) (na := 3) (b := 31) (nb := 1189) (sp := 0) (dp := 29 * n) (n := 3) (k := fun s1 => cl (X3_packTree 38 31 (((n : Int) * 29) + 3) s1) (fun _ s3 => cl (X3_packTree 41 31 ((((n : Int) * 29) + 3) + 13) s3) (fun _ s5 => some (0, s5)))) (by omega) (by omega)
  have hC1 : CSt (cpy s 7 0 31 (29 * n) 3) v := hC.congr (fun b hb => cpy_b (by omega))
  obtain ⟨s1, a1, a2, a3, a4⟩ := p_packTree hC1.1 hv.1.1 (by omega) (by omega) (p := 29 * n + 3) (by omega)
  have hC2 : CSt s1 v := hC1.congr (fun b hb => a2 b (by omega))
  obtain ⟨s2, b1, b2, b3, b4⟩ := p_packTree hC2.2.1 hv.2.1.1 (by omega) (by omega) (p := 29 * n + 3 + 13) (by omega)
  refine ⟨s2, ?_, fun b hb => by rw [b2 b hb, a2 b hb, cpy_b hb], fun j hj => by rw [b3 j (by omega), a3 j (by omega), cpy_out (by omega)], fun k hk => ?_, ?_, ?_⟩
  · unfold X0_hold X3_pack
    rw [lnC31, h0]
    rw [show ((29 * n : Nat) : Int) = (n : Int) * 29 by omega] at c
    have c' : cpA s 7 3 0 (30 + 1) 1189 ((n : Int) * 29) 3 (fun s1 => cl (X3_packTree 38 31 (((n : Int) * 29) + 3) s1) (fun _ s3 => cl (X3_packTree 41 31 ((((n : Int) * 29) + 3) + 13) s3) (fun _ s5 => some (0, s5)))) = _ := c
    rw [show ((29 * n + 3 : Nat) : Int) = (n : Int) * 29 + 3 by omega] at a1
    rw [show ((29 * n + 3 + 13 : Nat) : Int) = (n : Int) * 29 + 3 + 13 by omega] at b1
    simp (disch := omega) only [cLt_t, cLt_f, cEq_t, cEq_f, rdR_ok, rd_ok, wr_ok, put_eq, jn_eq, cl_some, Int.toNat_natCast]
    rw [c']
    simp (disch := omega) only [cLt_t, cLt_f, cEq_t, cEq_f, rdR_ok, rd_ok, wr_ok, put_eq, jn_eq, cl_some, Int.toNat_natCast, a1, b1]
  · show s2 31 (29 * n + k) = _
    rw [b3 _ (by omega), a3 _ (by omega), cpy_in (by omega) (by omega), show 0 + (29 * n + k - 29 * n) = k by omega]
    exact hC.2.2 k hk
  · show PkT (fun j => s2 31 (29 * n + j)) 3 v.1
    refine ⟨?_, fun x hx => ?_⟩
    · show s2 31 (29 * n + 3) = _
      rw [b3 _ (by omega)]
      exact a4.1
    · show s2 31 (29 * n + (3 + 1 + x)) = _
      rw [b3 _ (by omega), show 29 * n + (3 + 1 + x) = 29 * n + 3 + 1 + x by omega]
      exact a4.2 x hx
  · show PkT (fun j => s2 31 (29 * n + j)) 16 v.2.1
    refine ⟨?_, fun x hx => ?_⟩
    · show s2 31 (29 * n + 16) = _
      exact b4.1
    · show s2 31 (29 * n + (16 + 1 + x)) = _
      rw [show 29 * n + (16 + 1 + x) = 29 * n + 3 + 13 + 1 + x by omega]
      exact b4.2 x hx
theorem l_unpack {a p : Nat} {d : Doc} {B : Nat → Int} (hP : PkT B p d) (hF : Fst d) (ha : a + 2 < 44) (ha3 : 31 < a) (hp : p + 13 ≤ 1189) (k : St → Rs) : ∀ (n x : Nat) (s : St), x ≤ d.n → d.n < x + n → s 31 = B → s a 0 = d.n → (∀ y, y < x → s (a + 1) y = d.c y ∧ s (a + 2) y = (y : Int) - (d.l y : Int) + 1) → ∃ s', X3_unpackTree_9 a 31 (p : Int) k n (x : Int) s = k s' ∧ (∀ b, b ≠ a + 1 → b ≠ a + 2 → s' b = s b) ∧ TreeAt s' a d := by
  have hn := hF.1
  intro n
  induction n with
  | zero => intro x s1 h1 h2; omega
  | succ n ih =>
    intro x s h1 h2 hB h0 hI
    rw [X3_unpackTree_9, lnC31]
    by_cases e : x = d.n
    · subst e
      refine ⟨s, ?_, fun _ _ _ => rfl, h0, hI⟩
      simp (disch := omega) only [cLt_t, cLt_f, cEq_t, cEq_f, rdR_ok, rd_ok, wr_ok, put_eq, jn_eq, cl_some, Int.toNat_natCast, h0]
    · have q := hP.2 x (by omega)
      have lb := hF.2.1 x (by omega)
      have pk := (pk_ok lb.1 (p := (x : Int) - (d.l x : Int) + 1) (by omega) (by omega)).2
      have i1 : Hid (((p : Int) + 1 + (x : Int)).toNat = p + 1 + x) := Hid.mk (by omega)
      have v1 : s 31 (p + 1 + x) = 16 * d.c x + ((x : Int) - (d.l x : Int) + 1) := by rw [hB]; exact q
      obtain ⟨s', f1, f2, f3⟩ := ih (x + 1) (up (up s (a + 1) x (d.c x)) (a + 2) x ((x : Int) - (d.l x : Int) + 1)) (by omega) (by omega) (by rw [up_b (by omega), up_b (by omega)]; exact hB) (by rw [up_o (by omega), up_o (by omega)]; exact h0) (fun y hy => by
        by_cases q : y = x
        · subst q
          simp (disch := omega) only [fil_o, up_o, fil_out, fil_in, up_i, up_eq]
          exact ⟨trivial, trivial⟩
        · simp (disch := omega) only [fil_o, up_o, fil_out, fil_in, up_i, up_eq]
          exact hI y (by omega))
      refine ⟨s', ?_, fun b b1 b2 => by rw [f2 b b1 b2, up_b (by omega), up_b (by omega)], f3⟩
      simp (disch := omega) only [cLt_t, cLt_f, cEq_t, cEq_f, rdR_ok, rd_ok, wr_ok, put_eq, jn_eq, cl_some, Int.toNat_natCast, h0, i1.out, v1, pk.1, pk.2, up_o]
      exact f1
theorem p_unpackTree {s : St} {a p : Nat} {d : Doc} (hP : PkT (s 31) p d) (hF : Fst d) (ha : a + 2 < 44) (ha3 : 31 < a) (hp : p + 13 ≤ 1189) : ∃ s', X3_unpackTree a 31 (p : Int) s = some (0, s') ∧ (∀ b, b ≠ a → b ≠ a + 1 → b ≠ a + 2 → s' b = s b) ∧ TreeAt s' a d := by
  have hn := hF.1
  have hU := FU_gt
  obtain ⟨s', f1, f2, f3⟩ := l_unpack hP hF ha ha3 hp (fun s3 => some (0, s3)) FU 0 (up s a 0 (d.n : Int)) (by omega) (by omega) (up_b (by omega)) up_eq (fun y hy => by omega)
  refine ⟨s', ?_, fun b b1 b2 b3 => by rw [f2 b b2 b3, up_b b1], f3⟩
  unfold X3_unpackTree
  rw [lnC31]
  simp (disch := omega) only [cLt_t, cLt_f, cEq_t, cEq_f, rdR_ok, rd_ok, wr_ok, put_eq, jn_eq, cl_some, Int.toNat_natCast, hP.1]
  exact f1
/-- the state behind n changes is given back -/
theorem p_restore {s : St} {v : Vec} (hv : VecOK v) {n : Nat} (hn : n ≤ 40) (h0 : s 30 0 = n) (hP : PkV (fun j => s 31 (29 * n + j)) v) : ∃ s', X8_restore s = some (0, s') ∧ (∀ b, b ≠ 5 → b ≠ 7 → ¬(38 ≤ b ∧ b ≤ 43) → s' b = s b) ∧ s' 5 1 = 1 ∧ CSt s' v := by
  have n0 := hv.1.1.1
  have n1 := hv.2.1.1.1
  have c := cpA_ok (s := s) (a := 31) (na := 1189) (b := 7) (nb := 3) (sp := 29 * n) (dp := 0) (n := 3) (k := fun s1 => cl (X3_unpackTree 38 31 (((n : Int) * 29) + 3) s1) (fun _ s3 => cl (X3_unpackTree 41 31 ((((n : Int) * 29) + 3) + 13) s3) (fun _ s5 => some (0, s5)))) (by omega) (by omega)
  obtain ⟨p1, p2, p3⟩ := hP
  have hp1 : PkT (cpy s 31 (29 * n) 7 0 3 31) (29 * n + 3) v.1 := by
    rw [cpy_b (by omega)]
    refine ⟨p2.1, fun x hx => ?_⟩
    have := p2.2 x hx
    simp only [] at this
    rw [show 29 * n + 3 + 1 + x = 29 * n + (3 + 1 + x) by omega]
    exact this
  obtain ⟨s1, a1, a2, a3⟩ := p_unpackTree (a := 38) hp1 hv.1.1 (by omega) (by omega) (by omega)
  have hp2 : PkT (s1 31) (29 * n + 3 + 13) v.2.1 := by
    rw [a2 31 (by omega) (by omega) (by omega), cpy_b (by omega)]
    refine ⟨p3.1, fun x hx => ?_⟩
    have := p3.2 x hx
    simp only [] at this
    rw [show 29 * n + 3 + 13 + 1 + x = 29 * n + (16 + 1 + x) by omega]
    exact this
  obtain ⟨s2, b1, b2, b3⟩ := p_unpackTree (a := 41) hp2 hv.2.1.1 (by omega) (by omega) (by omega)
  refine ⟨up s2 5 1 1, ?_, fun b q1 q2 q3 => by rw [up_b q1, b2 b (by omega) (by omega) (by omega), a2 b (by omega) (by omega) (by omega), cpy_b q2], up_eq, ?_, ?_, fun k hk => ?_⟩
  · unfold X8_restore X0_give X3_unpack
    rw [lnC31, h0]
    rw [show ((29 * n : Nat) : Int) = (n : Int) * 29 by omega] at c
    have c' : cpA s (30 + 1) 1189 ((n : Int) * 29) 7 3 0 3 (fun s1 => cl (X3_unpackTree 38 31 (((n : Int) * 29) + 3) s1) (fun _ s3 => cl (X3_unpackTree 41 31 ((((n : Int) * 29) + 3) + 13) s3) (fun _ s5 => some (0, s5)))) = _ := c
    rw [show ((29 * n + 3 : Nat) : Int) = (n : Int) * 29 + 3 by omega] at a1
    rw [show ((29 * n + 3 + 13 : Nat) : Int) = (n : Int) * 29 + 3 + 13 by omega] at b1
    simp (disch := omega) only [cLt_t, cLt_f, cEq_t, cEq_f, rdR_ok, rd_ok, wr_ok, put_eq, jn_eq, cl_some, Int.toNat_natCast]
    rw [c']
    simp (disch := omega) only [cLt_t, cLt_f, cEq_t, cEq_f, rdR_ok, rd_ok, wr_ok, put_eq, jn_eq, cl_some, Int.toNat_natCast, a1, b1]
  · exact (a3.congr (fun b hb => b2 b (by omega) (by omega) (by omega))).congr (fun b hb => up_b (by omega))
  · exact b3.congr (fun b hb => up_b (by omega))
  · rw [up_o (by omega), b2 7 (by omega) (by omega) (by omega), a2 7 (by omega) (by omega) (by omega), cpy_in (by omega) (by omega), Nat.sub_zero]
    exact p1 k hk
