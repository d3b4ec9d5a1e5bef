/-! would, fault, document -/
theorem setd_n {v : Vec} {k x : Nat} {c : Int} (hk : k < 2) : (v.setd k ((v.doc k).setc x c)).1.n = v.1.n ∧ (v.setd k ((v.doc k).setc x c)).2.1.n = v.2.1.n := by
  rcases (show k = 0 ∨ k = 1 by omega) with rfl | rfl
  · exact ⟨rfl, rfl⟩
  · exact ⟨rfl, rfl⟩
theorem sim_would : ∀ s t : St, InvS SolX s t → ∀ a1 : Int, inR a1 → ∀ a2 : Int, inR a2 → ∀ a3 : Int, inR a3 → Ok2 (InvS SolX) (X8_would a1 a2 a3 s) (X9_would a1 a2 a3 t) := by
  intro s t hI a1 r1 a2 r2 a3 r3
  obtain ⟨v, hc, hs⟩ := cor_of hI
  obtain ⟨hv, hC, hM⟩ := hc.ok
  unfold X8_would X9_would
  rw [p_noNode hv hC r1 r2, q_isNode hv hM r1 r2]
  by_cases h : (0 ≤ a1 ∧ a1 < 2) ∧ 0 ≤ a2 ∧ a2 < (v.doc a1.toNat).n
  · rw [if_pos h, if_pos h]
    obtain ⟨k, rfl⟩ : ∃ r : Nat, a1 = r := ⟨a1.toNat, by omega⟩
    obtain ⟨x, rfl⟩ : ∃ r : Nat, a2 = r := ⟨a2.toNat, by omega⟩
    rw [Int.toNat_natCast] at h
    have hF := (doc_ok hv k).1
    have hn := hF.1
    have hk : k < 2 := by omega
    have hx : x < (v.doc k).n := by omega
    simp (disch := omega) only [cLt_t, cLt_f, cEq_t, cEq_f, rdR_ok, rd_ok, wr_ok, put_eq, jn_eq, cl_some, Int.toNat_natCast]
    rw [p_kindOf r3, q_isMark r3]
    by_cases hb : lab a3
    · have kd := kdOf_r a3
      rw [if_pos hb, if_pos hb]
      simp (disch := omega) only [cLt_t, cLt_f, cEq_t, cEq_f, rdR_ok, rd_ok, wr_ok, put_eq, jn_eq, cl_some, Int.toNat_natCast]
      rw [p_isWhole hv hC, q_areBoth hv hM]
      by_cases g : 0 < v.1.n ∧ 0 < v.2.1.n
      · rw [if_pos g]
        have e1 := ((doc_C hC hk).2 x hx).1
        have e2 := ((doc_M hM hk).2 x hx).1
        have cs := cor_setc hc hk hx hb
        obtain ⟨hv', hC', hM'⟩ := cs.ok
        have ns := setd_n (v := v) (x := x) (c := a3) hk
        have g' : 0 < (v.setd k ((v.doc k).setc x a3)).1.n ∧ 0 < (v.setd k ((v.doc k).setc x a3)).2.1.n := by
          rw [ns.1, ns.2]
          exact g
        generalize v.setd k ((v.doc k).setc x a3) = w at *
        obtain ⟨s1, m1, m2, m3, m4⟩ := p_measure hv' hC'
        obtain ⟨t1, l1, l2, l3, l4⟩ := q_leastOf hv' g'.1 g'.2 hM'
        have n0 := hv'.1.1.1
        have n1 := hv'.2.1.1.1
        have i6 : Hid ((25 * (k : Int) + 1 + (x : Int)).toNat = 25 * k + 1 + x) := Hid.mk (by omega)
        have d := p_distance (s := up (up s1 (38 + 3 * k + 1) x ((v.doc k).c x)) 5 1 1) hv' g'.1 g'.2 (by rw [up_o (by omega), up_o (by omega)]; exact m3.1.1) (by rw [up_o (by omega), up_o (by omega)]; exact m3.2.1.1) (by rw [up_o (by omega), up_o (by omega)]; exact (m4 _ _ (by omega) (by omega)).2)
        have tk := p_tree hk s
        simp (disch := omega) only [cLt_t, cLt_f, cEq_t, cEq_f, rdR_ok, rd_ok, wr_ok, put_eq, jn_eq, cl_some, Int.toNat_natCast, tk, gK_tree hk, e1, m1, d, i6.out, e2, l1, p_tell]
        unfold X9_tells
        simp (disch := omega) only [cLt_t, cLt_f, cEq_t, cEq_f, rdR_ok, rd_ok, wr_ok, put_eq, jn_eq, cl_some, Int.toNat_natCast]
        have f1 : ∀ b, b ≠ 5 → b ≠ 8 → b ≠ 9 → b < 44 → up (up s1 (38 + 3 * k + 1) x ((v.doc k).c x)) 5 1 1 b = s b := fun b b1 b2 b3 b4 => by
          rw [up_b b1]
          by_cases q : b = 38 + 3 * k + 1
          · subst q
            funext j
            by_cases qj : j = x
            · subst qj
              rw [up_eq, e1]
            · rw [up_i qj, m2 _ (by omega) (by omega) (by omega), up_i qj]
          · rw [up_b q, m2 b (by omega) (by omega) (by omega), up_b q]
        have f2 : ScrM t (up t1 5 (25 * k + 1 + x) ((v.doc k).c x)) := by
          refine ⟨fun b b1 b2 => ?_, fun i hi => by rw [up_o (by omega), l2 0 (by omega), up_o (by omega)]⟩
          by_cases q : b = 5
          · subst q
            funext j
            by_cases qj : j = 25 * k + 1 + x
            · subst qj
              rw [up_eq, e2]
            · rw [up_i qj, l2 5 (by omega), up_i qj]
          · rw [up_b q, l2 b (by omega), up_b q]
        exact ⟨1, _, _, rfl, rfl, inv_tell cong ((hc.frame f1 f2).inv (Or.inl up_eq)) _⟩
      · rw [if_neg g]
        simp (disch := omega) only [cLt_t, cLt_f, cEq_t, cEq_f, rdR_ok, rd_ok, wr_ok, put_eq, jn_eq, cl_some, Int.toNat_natCast]
        exact ok_same _ hI
    · rw [if_neg hb, if_neg hb]
      simp (disch := omega) only [cLt_t, cLt_f, cEq_t, cEq_f, rdR_ok, rd_ok, wr_ok, put_eq, jn_eq, cl_some, Int.toNat_natCast]
      exact ok_same _ hI
  · rw [if_neg h, if_neg h]
    simp (disch := omega) only [cLt_t, cLt_f, cEq_t, cEq_f, rdR_ok, rd_ok, wr_ok, put_eq, jn_eq, cl_some, Int.toNat_natCast]
    exact ok_same _ hI
theorem txe_of {s t : St} (h : RTxt s t) {k : Nat} (hk : k < 4) (h0 : 0 ≤ t 3 k) : ∃ len : Nat, len ≤ 60 ∧ t 3 k = len ∧ TxE s t k len (fun i => t 4 (60 * k + i)) ∧ ∀ i, i < len → -128 ≤ t 4 (60 * k + i) ∧ t 4 (60 * k + i) ≤ 127 := by
  have := h k hk
  refine ⟨(t 3 k).toNat, by omega, by omega, ⟨by rw [this.1]; omega, fun i hi => (this.2.2.2 i (by omega)).1, by omega, fun _ _ => rfl⟩, fun i hi => (this.2.2.2 i (by omega)).2⟩
theorem sim_fault : ∀ s t : St, InvS SolX s t → ∀ a1 : Int, inR a1 → Ok2 (InvS SolX) (X8_fault a1 s) (X9_fault a1 t) := by
  intro s t hI a1 r1
  unfold X8_fault X9_fault
  rw [p_noText a1 r1, q_isText a1 r1]
  by_cases h : 0 ≤ a1 ∧ a1 < 4
  · rw [if_pos h, if_pos h]
    obtain ⟨k, rfl⟩ : ∃ r : Nat, a1 = r := ⟨a1.toNat, by omega⟩
    have hr := hI.2.1 k (by omega)
    simp (disch := omega) only [cLt_t, cLt_f, cEq_t, cEq_f, rdR_ok, rd_ok, wr_ok, put_eq, jn_eq, cl_some, Int.toNat_natCast]
    rw [hr.1]
    by_cases hn : t 3 k < 0
    · simp (disch := omega) only [cLt_t, cLt_f, cEq_t, cEq_f, rdR_ok, rd_ok, wr_ok, put_eq, jn_eq, cl_some, Int.toNat_natCast]
      exact (ok_found cong hI 1 (by decide)).cl
    · obtain ⟨len, l1, l2, l3, l4⟩ := txe_of hI.2.1 (k := k) (by omega) (by omega)
      obtain ⟨r, s', t', e1, e2, e3, e4, e5⟩ := read_sim (by omega) l1 _ l4 l3
      simp (disch := omega) only [cLt_t, cLt_f, cEq_t, cEq_f, rdR_ok, rd_ok, wr_ok, put_eq, jn_eq, cl_some, Int.toNat_natCast, e1, e2]
      exact ⟨r, s', t', rfl, rfl, inv_scr congW hI e3 e4⟩
  · rw [if_neg h, if_neg h]
    simp (disch := omega) only [cLt_t, cLt_f, cEq_t, cEq_f, rdR_ok, rd_ok, wr_ok, put_eq, jn_eq, cl_some, Int.toNat_natCast]
    exact ok_same _ hI
theorem l_doc91 {z : Int} (k : St → Rs) : ∀ (n i : Nat) (s : St), i ≤ 3 → 3 < i + n → (∀ j, j < i → s (32 + 2 * j) 0 = -1) → ∃ s', X8_document_91 z k n (i : Int) s = k s' ∧ (∀ b, b ≠ 32 → b ≠ 34 → b ≠ 36 → s' b = s b) ∧ ∀ j, j < 3 → s' (32 + 2 * j) 0 = -1 := by
  intro n
  induction n with
  | zero => intro i t h1 h2; omega
  | succ n ih =>
    intro i s h1 h2 hI
    rw [X8_document_91]
    by_cases e : i = 3
    · subst e
      refine ⟨s, ?_, fun _ _ _ _ => rfl, hI⟩
      simp (disch := omega) only [cLt_t, cLt_f, cEq_t, cEq_f, rdR_ok, rd_ok, wr_ok, put_eq, jn_eq, cl_some, Int.toNat_natCast]
    · obtain ⟨s', f1, f2, f3⟩ := ih (i + 1) (up s (32 + 2 * i) 0 (-1)) (by omega) (by omega) (fun j hj => by
        by_cases q : j = i
        · subst q
          rw [up_eq]
        · rw [up_o (by omega)]
          exact hI j (by omega))
      refine ⟨s', ?_, fun b b1 b2 b3 => by rw [f2 b b1 b2 b3, up_b (by omega)], f3⟩
      simp (disch := omega) only [cLt_t, cLt_f, cEq_t, cEq_f, rdR_ok, rd_ok, wr_ok, put_eq, jn_eq, cl_some, Int.toNat_natCast]
      exact f1
theorem l_doc109 (k : St → Rs) : ∀ (n i : Nat) (s : St), i ≤ 3 → 3 < i + n → (∀ j, j < i → s 8 j = 0) → ∃ s', X9_document_109 k n (i : Int) s = k s' ∧ (∀ b, b ≠ 8 → s' b = s b) ∧ ∀ j, j < 3 → s' 8 j = 0 := by
  intro n
  induction n with
  | zero => intro i t h1 h2; omega
  | succ n ih =>
    intro i s h1 h2 hI
    rw [X9_document_109]
    by_cases e : i = 3
    · subst e
      refine ⟨s, ?_, fun _ _ => rfl, hI⟩
      simp (disch := omega) only [cLt_t, cLt_f, cEq_t, cEq_f, rdR_ok, rd_ok, wr_ok, put_eq, jn_eq, cl_some, Int.toNat_natCast]
    · obtain ⟨s', f1, f2, f3⟩ := ih (i + 1) (up s 8 i 0) (by omega) (by omega) (fun j hj => by
        by_cases q : j = i
        · subst q
          rw [up_eq]
        · rw [up_i (by omega)]
          exact hI j (by omega))
      refine ⟨s', ?_, fun b b1 => by rw [f2 b b1, up_b (by omega)], f3⟩
      simp (disch := omega) only [cLt_t, cLt_f, cEq_t, cEq_f, rdR_ok, rd_ok, wr_ok, put_eq, jn_eq, cl_some, Int.toNat_natCast, nb1_01.1]
      exact f1
theorem sim_document : ∀ s t : St, InvS SolX s t → ∀ a1 : Int, inR a1 → ∀ a2 : Int, inR a2 → Ok2 (InvS SolX) (X8_document a1 a2 s) (X9_document a1 a2 t) := by
  intro s t hI a1 r1 a2 r2
  have hU := FU_gt
  unfold X8_document X9_document
  rw [p_noDoc r1, q_isDoc r1]
  by_cases h : 0 ≤ a1 ∧ a1 < 2
  · rw [if_pos h, if_pos h]
    obtain ⟨k, rfl⟩ : ∃ r : Nat, a1 = r := ⟨a1.toNat, by omega⟩
    have hk : k < 2 := by omega
    simp (disch := omega) only [cLt_t, cLt_f, cEq_t, cEq_f, rdR_ok, rd_ok, wr_ok, put_eq, jn_eq, cl_some, Int.toNat_natCast]
    rw [p_noText a2 r2, q_isText a2 r2]
    by_cases g : 0 ≤ a2 ∧ a2 < 4
    · rw [if_pos g, if_pos g]
      obtain ⟨m, rfl⟩ : ∃ r : Nat, a2 = r := ⟨a2.toNat, by omega⟩
      have hr := hI.2.1 m (by omega)
      simp (disch := omega) only [cLt_t, cLt_f, cEq_t, cEq_f, rdR_ok, rd_ok, wr_ok, put_eq, jn_eq, cl_some, Int.toNat_natCast]
      rw [hr.1]
      by_cases hn : t 3 m < 0
      · simp (disch := omega) only [cLt_t, cLt_f, cEq_t, cEq_f, rdR_ok, rd_ok, wr_ok, put_eq, jn_eq, cl_some, Int.toNat_natCast]
        exact (ok_found cong hI 1 (by decide)).cl
      · obtain ⟨len, l1, l2, l3, l4⟩ := txe_of hI.2.1 (k := m) (by omega) (by omega)
        obtain ⟨r, s', t', e1, e2, e3, e4, e5, e6, e7⟩ := read_sim (by omega) l1 _ l4 l3
        have hI' := inv_scr congW hI e3 e4
        by_cases w : r = -9
        · subst w
          obtain ⟨d, d1, d2, d3, d4, d5⟩ := e7 rfl
          have dn := d1.1.1
          obtain ⟨v, hc, hs⟩ := cor_of hI'
          obtain ⟨hv, hC, hM⟩ := hc.ok
          obtain ⟨s1, f1, f2, f3⟩ := p_take (a := 38 + 3 * k) (b := 47) d3 dn (by omega)
          obtain ⟨s2, g1, g2, g3⟩ := l_doc91 (z := (k : Int)) (fun s15 => cl (X3_tree (k : Int) s15) (fun v16 s17 => gK LC v16.toNat 16 (some (s17 v16.toNat 0, s17)))) FU 0 (up (up s1 5 1 1) 30 0 0) (by omega) (by omega) (fun j hj => by omega)
          have i5 : Hid ((25 * (k : Int)).toNat = 25 * k) := Hid.mk (by omega)
          have b1 := q_bring (a := 10) (b := 5) (sp := 0) (dp := 25 * k + 1) (N := d.n) (by decide) (by rw [lnM.2.2.2.1]; omega) (by rw [lnM.1]; omega) (by omega) (up t' 5 (25 * k) d.n)
          rw [show ((25 * k + 1 : Nat) : Int) = 25 * (k : Int) + 1 by omega] at b1
          have b1' : X9_bring 10 0 5 (25 * (k : Int) + 1) (d.n : Int) (up t' 5 (25 * k) d.n) = _ := b1
          have b2 := q_bring (a := 11) (b := 5) (sp := 0) (dp := 25 * k + 13) (N := d.n) (by decide) (by rw [lnM.2.2.2.2.1]; omega) (by rw [lnM.1]; omega) (by omega) (cpy (up t' 5 (25 * k) d.n) 10 0 5 (25 * k + 1) d.n)
          rw [show ((25 * k + 13 : Nat) : Int) = 25 * (k : Int) + 13 by omega] at b2
          have b2' : X9_bring 11 0 5 (25 * (k : Int) + 13) (d.n : Int) (cpy (up t' 5 (25 * k) d.n) 10 0 5 (25 * k + 1) d.n) = _ := b2
          obtain ⟨t2, h1, h2, h3⟩ := l_doc109 (fun s14 => some (s14 0 13, s14)) FU 0 (up (cpy (cpy (up t' 5 (25 * k) d.n) 10 0 5 (25 * k + 1) d.n) 11 0 5 (25 * k + 13) d.n) 0 6 0) (by omega) (by omega) (fun j hj => by omega)
          have z1 : up t' 5 (25 * k) d.n 0 13 = d.n := by rw [up_o (by omega)]; exact d4
          have z2 : cpy (up t' 5 (25 * k) d.n) 10 0 5 (25 * k + 1) d.n 0 13 = d.n := by rw [cpy_o (by omega)]; exact z1
          have z3 : t2 0 13 = d.n := by rw [h2 0 (by omega), up_i (by omega), cpy_o (by omega)]; exact z2
          have fs : ∀ b, b ≠ 5 → b ≠ 30 → b ≠ 32 → b ≠ 34 → b ≠ 36 → ¬(38 + 3 * k ≤ b ∧ b ≤ 38 + 3 * k + 2) → s2 b = s' b := fun b c1 c2 c3 c4 c5 c6 => by rw [g2 b c3 c4 c5, up_b c2, up_b c1, f2 b (by omega) (by omega) (by omega)]
          have tr : TreeAt s2 (38 + 3 * k) d := f3.congr (fun b hb => by rw [g2 b (by omega) (by omega) (by omega), up_b (by omega), up_b (by omega)])
          have ft : ∀ b, b ≠ 0 → b ≠ 5 → b ≠ 8 → t2 b = t' b := fun b c1 c2 c3 => by rw [h2 b c3, up_b c1, cpy_b c2, cpy_b c2, up_b c2]
          have ft5 : t2 5 = cpy (cpy (up t' 5 (25 * k) d.n) 10 0 5 (25 * k + 1) d.n) 11 0 5 (25 * k + 13) d.n 5 := by rw [h2 5 (by omega), up_b (by omega)]
          simp (disch := omega) only [cLt_t, cLt_f, cEq_t, cEq_f, rdR_ok, rd_ok, wr_ok, put_eq, jn_eq, cl_some, Int.toNat_natCast, e1, e2, p_tree hk s', gK_tree hk, f1, i5.out, d4, z1, b1', z2, b2']
          refine ⟨d.n, s2, t2, ?_, ?_, Cor.inv (v := v.setd k d) (Cor.re (n := 0) (lg := fun _ => v) hc (fun b hb => fs b (by omega) (by omega) (by omega) (by omega) (by omega) (by omega)) (fun b hb => ft b (by omega) (by omega) (by omega)) (by rw [h2 0 (by omega), up_i (by omega), cpy_o (by omega), cpy_o (by omega), up_o (by omega)]) (by rw [h2 0 (by omega), up_i (by omega), cpy_o (by omega), cpy_o (by omega), up_o (by omega)]) (setd_ok hv d1 k) (hC.setd hk tr (fun b c1 c2 => fs b (by omega) (by omega) (by omega) (by omega) (by omega) c2)) (hM.setd hv hk ⟨?_, fun x hx => ?_⟩ (fun j hj => ?_)) ⟨by omega, by rw [g2 30 (by omega) (by omega) (by omega), up_eq]; rfl, by rw [h2 0 (by omega), up_eq]; rfl, fun i hi => by omega⟩ (fun j hj => Or.inl ⟨h3 j hj, g3 j hj⟩)) (Or.inl ?_)⟩
          · refine g1.trans ?_
            rw [p_tree hk]
            simp (disch := omega) only [cLt_t, cLt_f, cEq_t, cEq_f, rdR_ok, rd_ok, wr_ok, put_eq, jn_eq, cl_some, Int.toNat_natCast, gK_tree hk, tr.1]
          · refine h1.trans ?_
            rw [z3]
          · rw [ft5, cpy_out (by omega), cpy_out (by omega), up_eq]
          · rw [ft5]
            refine ⟨?_, ?_⟩
            · rw [cpy_out (by omega), cpy_in (by omega) (by omega), up_o (by omega), show 0 + (25 * k + 1 + x - (25 * k + 1)) = x by omega]
              exact (d5 x hx).1
            · rw [cpy_in (by omega) (by omega), cpy_o (by omega), up_o (by omega), show 0 + (25 * k + 13 + x - (25 * k + 13)) = x by omega]
              exact (d5 x hx).2
          · rw [ft5, cpy_out (by omega), cpy_out (by omega), up_i (by omega)]
          · rw [g2 5 (by omega) (by omega) (by omega), up_o (by omega), up_eq]
        · simp (disch := omega) only [cLt_t, cLt_f, cEq_t, cEq_f, rdR_ok, rd_ok, wr_ok, put_eq, jn_eq, cl_some, Int.toNat_natCast, e1, e2]
          exact ok_same _ hI'
    · rw [if_neg g, if_neg g]
      simp (disch := omega) only [cLt_t, cLt_f, cEq_t, cEq_f, rdR_ok, rd_ok, wr_ok, put_eq, jn_eq, cl_some, Int.toNat_natCast]
      exact ok_same _ hI
  · rw [if_neg h, if_neg h]
    simp (disch := omega) only [cLt_t, cLt_f, cEq_t, cEq_f, rdR_ok, rd_ok, wr_ok, put_eq, jn_eq, cl_some, Int.toNat_natCast]
    exact ok_same _ hI
