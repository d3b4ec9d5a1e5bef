/-! changes are recorded -/
theorem Cor.re {s s' t t' : St} {v v' : Vec} (h : Cor s t v) (hc : ∀ b, b ≤ 1 ∨ (10 ≤ b ∧ b < 30) → s' b = s b) (hm : ∀ b, (1 ≤ b ∧ b ≤ 4) ∨ b = 9 → t' b = t b) (m9 : t' 0 9 = t 0 9) (m10 : t' 0 10 = t 0 10) {n : Nat} {lg : Nat → Vec} (a1 : VecOK v') (a2 : CSt s' v') (a3 : MSt (t' 5) v') (a4 : LgR s' t' n lg) (a5 : ∀ k, k < 3 → PlR s' t' k) : Cor s' t' v' := by
  obtain ⟨h1, h2, h3, -⟩ := h
  refine ⟨fun r hr => ?_, fun k hk => ?_, ?_, n, lg, a1, a2, a3, a4, a5⟩
  · rw [hc (10 + 2 * r) (by omega), hc (10 + 2 * r + 1) (by omega), hm 1 (by omega), hm 2 (by omega)]
    exact h1 r hr
  · rw [hc (22 + 2 * k) (by omega), hc (22 + 2 * k + 1) (by omega), hm 3 (by omega), hm 4 (by omega)]
    exact h2 k hk
  · unfold RFnd
    rw [hc 0 (by omega), hc 1 (by omega), m9, m10, hm 9 (by omega)]
    exact h3
theorem Cor.lg {s t : St} {v : Vec} (h : Cor s t v) : ∃ n lg, LgR s t n lg ∧ ∀ k, k < 3 → PlR s t k := by
  obtain ⟨h1, h2, h3, n, lg, a1, a2, a3, a4, a5⟩ := h
  exact ⟨n, lg, a4, a5⟩
theorem Cor.vec {s s' t t' : St} {v v' : Vec} (h : Cor s t v) (hv : VecOK v') (hC : CSt s' v') (hM : MSt (t' 5) v') (hc : ∀ b, b ≠ 5 → b ≠ 7 → b ≠ 8 → b ≠ 9 → b < 38 → s' b = s b) (hm : ∀ b, 1 ≤ b → b ≤ 9 → b ≠ 5 → t' b = t b) (hm0 : ∀ i, i = 6 ∨ i = 9 ∨ i = 10 → t' 0 i = t 0 i) : Cor s' t' v' := by
  obtain ⟨n, lg, a4, a5⟩ := h.lg
  refine h.re (fun b hb => hc b (by omega) (by omega) (by omega) (by omega) (by omega)) (fun b hb => hm b (by omega) (by omega) (by omega)) (hm0 9 (by omega)) (hm0 10 (by omega)) hv hC hM (a4.congr (hc 30 (by omega) (by omega) (by omega) (by omega) (by omega)) (hc 31 (by omega) (by omega) (by omega) (by omega) (by omega)) (hm 6 (by omega) (by omega) (by omega)) (hm0 6 (by omega))) (fun k hk => (a5 k hk).congr (hc _ (by omega) (by omega) (by omega) (by omega) (by omega)) (hc _ (by omega) (by omega) (by omega) (by omega) (by omega)) (hm 7 (by omega) (by omega) (by omega)) (hm 8 (by omega) (by omega) (by omega)))
theorem q_notes {t : St} {n : Nat} (h0 : t 0 6 = n) (hn : n < 40) : X9_notes t = some (0, up (cpy t 5 0 6 (53 * n) 53) 0 6 ((n : Int) + 1)) := by
  have b := q_bring (a := 5) (b := 6) (sp := 0) (dp := 53 * n) (N := 53) (by decide) (by rw [lnM.1]; omega) (by rw [lnM.2.1]; omega) (by omega) t
  unfold X9_notes
  rw [h0]
  rw [show ((53 * n : Nat) : Int) = 53 * (n : Int) by omega] at b
  have b' : X9_bring 5 0 6 (53 * (n : Int)) 53 t = _ := b
  simp (disch := omega) only [cLt_t, cLt_f, cEq_t, cEq_f, rdR_ok, rd_ok, wr_ok, put_eq, jn_eq, cl_some, Int.toNat_natCast, b', cpy_o, h0]
theorem rec_sim {s t : St} {v : Vec} (h : Cor s t v) {n : Nat} (h0 : s 30 0 = n) (hn : n < 40) : ∃ s1 t1, X8_record s = some (0, s1) ∧ X9_notes t = some (0, t1) ∧ Cor s1 t1 v ∧ s1 5 1 = 1 ∧ s1 30 0 = ((n + 1 : Nat) : Int) := by
  obtain ⟨n', lg, a4, a5⟩ := h.lg
  obtain ⟨hv, hC, hM⟩ := h.ok
  have e : n' = n := by
    have := a4.2.1
    omega
  subst e
  obtain ⟨s', b1, b2, b3, b4⟩ := p_hold hv hC (by omega) h0
  have t0 : t 0 6 = n' := a4.2.2.1
  refine ⟨up (up s' 30 0 ((n' : Int) + 1)) 5 1 1, up (cpy t 5 0 6 (53 * n') 53) 0 6 ((n' : Int) + 1), ?_, q_notes t0 hn, ?_, up_eq, ?_⟩
  · unfold X8_record
    have e0 : s' 30 0 = n' := by rw [b2 30 (by omega)]; exact h0
    simp (disch := omega) only [cLt_t, cLt_f, cEq_t, cEq_f, rdR_ok, rd_ok, wr_ok, put_eq, jn_eq, cl_some, Int.toNat_natCast, b1, e0]
  · refine h.re (n := n' + 1) (lg := fun i => if i = n' then v else lg i) (fun b hb => by rw [up_b (by omega), up_b (by omega), b2 b (by omega)]) (fun b hb => by rw [up_b (by omega), cpy_b (by omega)]) (by rw [up_i (by omega), cpy_o (by omega)]) (by rw [up_i (by omega), cpy_o (by omega)]) hv (hC.congr (fun b hb => by rw [up_b (by omega), up_b (by omega), b2 b (by omega)])) (by rw [up_b (by omega), cpy_b (by omega)]; exact hM) ?_ (fun k hk => (a5 k hk).congr (by rw [up_b (by omega), up_b (by omega), b2 _ (by omega)]) (by rw [up_b (by omega), up_b (by omega), b2 _ (by omega)]) (by rw [up_b (by omega), cpy_b (by omega)]) (by rw [up_b (by omega), cpy_b (by omega)]))
    refine ⟨by omega, by rw [up_o (by omega), up_eq]; rfl, by rw [up_eq]; rfl, fun i hi => ?_⟩
    rw [up_b (by omega), up_b (by omega), up_b (by omega)]
    by_cases q : i = n'
    · subst q
      simp only [if_pos]
      refine ⟨hv, b4, hM.congr hv (fun j hj => ?_)⟩
      rw [cpy_in (by omega) (by omega), show 0 + (53 * i + j - 53 * i) = j by omega]
    · simp only [if_neg q]
      obtain ⟨c1, c2, c3⟩ := a4.2.2.2 i (by omega)
      refine ⟨c1, c2.congr c1 (fun j hj => b3 _ (by omega)), c3.congr c1 (fun j hj => cpy_out (by omega))⟩
  · rw [up_o (by omega), up_eq]
    rfl
theorem rec_inv {s t : St} {v : Vec} (h : Cor s t v) : ∃ n : Nat, n ≤ 40 ∧ s 30 0 = n ∧ t 0 6 = n := by
  obtain ⟨n, lg, a4, a5⟩ := h.lg
  exact ⟨n, a4.1, a4.2.1, a4.2.2.1⟩
/-! a code changes -/
def Doc.setc (d : Doc) (x : Nat) (c : Int) : Doc := (d.n, fun y => if y = x then c else d.c y, d.l)
def Vec.setd (v : Vec) (k : Nat) (d : Doc) : Vec := if k = 0 then (d, v.2.1, v.2.2) else (v.1, d, v.2.2)
theorem setd_ok {v : Vec} (hv : VecOK v) {d : Doc} (hd : WF d) (k : Nat) : VecOK (v.setd k d) := by
  unfold Vec.setd
  split
  · exact ⟨hd, hv.2.1, hv.2.2⟩
  · exact ⟨hv.1, hd, hv.2.2⟩
theorem CSt.setd {s s' : St} {v : Vec} (h : CSt s v) {k : Nat} (hk : k < 2) {d : Doc} (hT : TreeAt s' (38 + 3 * k) d) (e : ∀ b, b = 7 ∨ (38 ≤ b ∧ b ≤ 43) → ¬(38 + 3 * k ≤ b ∧ b ≤ 38 + 3 * k + 2) → s' b = s b) : CSt s' (v.setd k d) := by
  rcases (show k = 0 ∨ k = 1 by omega) with rfl | rfl
  · exact ⟨hT, h.2.1.congr (fun b hb => e b (by omega) (by omega)), fun j hj => by rw [e 7 (by omega) (by omega)]; exact h.2.2 j hj⟩
  · exact ⟨h.1.congr (fun b hb => e b (by omega) (by omega)), hT, fun j hj => by rw [e 7 (by omega) (by omega)]; exact h.2.2 j hj⟩
theorem DocAt.congr {A A' : Nat → Int} {o : Nat} {d : Doc} (h : DocAt A o d) (hn : d.n ≤ 12) (e : ∀ j, o ≤ j → j < o + 25 → A' j = A j) : DocAt A' o d := by
  refine ⟨by rw [e o (by omega) (by omega)]; exact h.1, fun x hx => ?_⟩
  rw [e _ (by omega) (by omega), e _ (by omega) (by omega)]
  exact h.2 x hx
theorem MSt.setd {A A' : Nat → Int} {v : Vec} (h : MSt A v) (hv : VecOK v) {k : Nat} (hk : k < 2) {d : Doc} (hD : DocAt A' (25 * k) d) (e : ∀ j, ¬(25 * k ≤ j ∧ j < 25 * k + 25) → A' j = A j) : MSt A' (v.setd k d) := by
  rcases (show k = 0 ∨ k = 1 by omega) with rfl | rfl
  · exact ⟨hD, h.2.1.congr hv.2.1.1.1 (fun j _ _ => e j (by omega)), fun j hj => by rw [e _ (by omega)]; exact h.2.2 j hj⟩
  · exact ⟨h.1.congr hv.1.1.1 (fun j _ _ => e j (by omega)), hD, fun j hj => by rw [e _ (by omega)]; exact h.2.2 j hj⟩
theorem wf_setc {d : Doc} (h : WF d) {c : Int} (hc : lab c) (x : Nat) : WF (d.setc x c) := by
  refine ⟨⟨h.1.1, fun y hy => ⟨?_, (h.1.2.1 y hy).2⟩, h.1.2.2⟩, h.2⟩
  show lab (if y = x then c else d.c y)
  split
  · exact hc
  · exact (h.1.2.1 y hy).1
theorem tree_setc {s : St} {a x : Nat} {d : Doc} (h : TreeAt s a d) {c : Int} : TreeAt (up s (a + 1) x c) a (d.setc x c) := by
  refine ⟨by rw [up_o (by omega)]; exact h.1, fun y hy => ?_⟩
  have := h.2 y hy
  rw [up_o (b := a + 2) (by omega)]
  refine ⟨?_, this.2⟩
  show _ = if y = x then c else d.c y
  by_cases q : y = x
  · subst q
    rw [up_eq, if_pos rfl]
  · rw [up_i q, if_neg q]
    exact this.1
theorem doc_setc {t : St} {o x : Nat} {d : Doc} (h : DocAt (t 5) o d) (hn : d.n ≤ 12) (hx : x < 12) {c : Int} : DocAt (up t 5 (o + 1 + x) c 5) o (d.setc x c) := by
  refine ⟨by rw [up_i (by omega)]; exact h.1, fun y hy => ?_⟩
  have hy' : y < d.n := hy
  have := h.2 y hy'
  rw [up_i (j := o + 13 + y) (by omega)]
  refine ⟨?_, this.2⟩
  show _ = if y = x then c else d.c y
  by_cases q : y = x
  · subst q
    rw [up_eq, if_pos rfl]
  · rw [up_i (by omega), if_neg q]
    exact this.1
/-- both sides change a code -/
theorem cor_setc {s t : St} {v : Vec} (h : Cor s t v) {k x : Nat} (hk : k < 2) (hx : x < (v.doc k).n) {c : Int} (hc : lab c) : Cor (up s (38 + 3 * k + 1) x c) (up t 5 (25 * k + 1 + x) c) (v.setd k ((v.doc k).setc x c)) := by
  obtain ⟨hv, hC, hM⟩ := h.ok
  have hn := (doc_ok hv k).1.1
  refine h.vec (setd_ok hv (wf_setc (doc_ok hv k) hc x) k) (hC.setd hk (tree_setc (doc_C hC hk)) (fun b b1 b2 => up_b (by omega))) (hM.setd hv hk (doc_setc (doc_M hM hk) hn (by omega)) (fun j hj => up_i (by omega))) (fun b b1 b2 b3 b4 b5 => up_b (by omega)) (fun b b1 b2 b3 => up_b (by omega)) (fun i hi => up_o (by omega))
theorem sim_change : ∀ s t : St, InvS SolX s t → ∀ a1 : Int, inR a1 → ∀ a2 : Int, inR a2 → ∀ a3 : Int, inR a3 → Ok2 (InvS SolX) (X8_change a1 a2 a3 s) (X9_change a1 a2 a3 t) := by
  intro s t hI a1 r1 a2 r2 a3 r3
  obtain ⟨v, hc, hs⟩ := cor_of hI
  obtain ⟨hv, hC, hM⟩ := hc.ok
  unfold X8_change X9_change
  rw [p_noNode hv hC r1 r2, q_isNode hv hM r1 r2]
  by_cases h : (0 ≤ a1 ∧ a1 < 2) ∧ 0 ≤ a2 ∧ a2 < (v.doc a1.toNat).n
  · rw [if_pos h, if_pos h]
    obtain ⟨k, rfl⟩ : ∃ r : Nat, a1 = r := ⟨a1.toNat, by omega⟩
    obtain ⟨x, rfl⟩ : ∃ r : Nat, a2 = r := ⟨a2.toNat, by omega⟩
    rw [Int.toNat_natCast] at h
    have hF := (doc_ok hv k).1
    have hn := hF.1
    have hk : k < 2 := by omega
    have hx : x < (v.doc k).n := by omega
    have hl := (hF.2.1 x hx).1
    simp (disch := omega) only [cLt_t, cLt_f, cEq_t, cEq_f, rdR_ok, rd_ok, wr_ok, put_eq, jn_eq, cl_some, Int.toNat_natCast]
    rw [p_kindOf r3, q_isMark r3]
    by_cases hb : lab a3
    · have kd := kdOf_r a3
      rw [if_pos hb, if_pos hb]
      have e1 := (doc_C hC hk).2 x hx
      simp (disch := omega) only [cLt_t, cLt_f, cEq_t, cEq_f, rdR_ok, rd_ok, wr_ok, put_eq, jn_eq, cl_some, Int.toNat_natCast, p_tree hk s, gK_tree hk, e1.1, q_codeOf hk (doc_M hM hk) hn hx]
      by_cases q : (v.doc k).c x = a3
      · simp (disch := omega) only [cLt_t, cLt_f, cEq_t, cEq_f, rdR_ok, rd_ok, wr_ok, put_eq, jn_eq, cl_some, Int.toNat_natCast]
        exact ok_same _ hI
      · obtain ⟨n, n1, n2, n3⟩ := rec_inv hc
        by_cases w : n < 40
        · obtain ⟨s1, t1, c1, c2, c3, c4, c5⟩ := rec_sim hc n2 w
          have i6 : Hid ((25 * (k : Int) + 1 + (x : Int)).toNat = 25 * k + 1 + x) := Hid.mk (by omega)
          simp (disch := omega) only [cLt_t, cLt_f, cEq_t, cEq_f, rdR_ok, rd_ok, wr_ok, put_eq, jn_eq, cl_some, Int.toNat_natCast, n2, n3, c1, c2, i6.out]
          exact ⟨_, _, _, rfl, rfl, (cor_setc c3 hk hx hb).inv (Or.inl (by rw [up_o (by omega)]; exact c4))⟩
        · simp (disch := omega) only [cLt_t, cLt_f, cEq_t, cEq_f, rdR_ok, rd_ok, wr_ok, put_eq, jn_eq, cl_some, Int.toNat_natCast, n2, n3]
          exact ok_same _ hI
    · rw [if_neg hb, if_neg hb]
      simp (disch := omega) only [cLt_t, cLt_f, cEq_t, cEq_f, rdR_ok, rd_ok, wr_ok, put_eq, jn_eq, cl_some, Int.toNat_natCast]
      exact ok_same _ hI
  · rw [if_neg h, if_neg h]
    simp (disch := omega) only [cLt_t, cLt_f, cEq_t, cEq_f, rdR_ok, rd_ok, wr_ok, put_eq, jn_eq, cl_some, Int.toNat_natCast]
    exact ok_same _ hI
theorem sim_price : ∀ s t : St, InvS SolX s t → ∀ a1 : Int, inR a1 → ∀ a2 : Int, inR a2 → Ok2 (InvS SolX) (X8_price a1 a2 s) (X9_price a1 a2 t) := by
  intro s t hI a1 r1 a2 r2
  obtain ⟨v, hc, hs⟩ := cor_of hI
  obtain ⟨hv, hC, hM⟩ := hc.ok
  unfold X8_price X9_price
  rw [q_in _ _ _ r1 ⟨by omega, by omega⟩ ⟨by omega, by omega⟩]
  by_cases h : 0 ≤ a1 ∧ a1 ≤ 2
  · rw [if_pos h]
    simp (disch := omega) only [cLt_t, cLt_f, cEq_t, cEq_f, rdR_ok, rd_ok, wr_ok, put_eq, jn_eq, cl_some, Int.toNat_natCast]
    rw [q_in _ _ _ r2 ⟨by omega, by omega⟩ ⟨by omega, by omega⟩]
    by_cases g : 1 ≤ a2 ∧ a2 ≤ 9
    · rw [if_pos g]
      obtain ⟨k, rfl⟩ : ∃ r : Nat, a1 = r := ⟨a1.toNat, by omega⟩
      have p1 := hC.2.2 k (by omega)
      have p2 := hM.2.2 k (by omega)
      have pr := hv.2.2 k (by omega)
      have i6 : Hid ((50 + (k : Int)).toNat = 50 + k) := Hid.mk (by omega)
      simp (disch := omega) only [cLt_t, cLt_f, cEq_t, cEq_f, rdR_ok, rd_ok, wr_ok, put_eq, jn_eq, cl_some, Int.toNat_natCast, p1, i6.out, p2]
      by_cases q : v.2.2 k = a2
      · simp (disch := omega) only [cLt_t, cLt_f, cEq_t, cEq_f, rdR_ok, rd_ok, wr_ok, put_eq, jn_eq, cl_some, Int.toNat_natCast]
        exact ok_same _ hI
      · obtain ⟨n, n1, n2, n3⟩ := rec_inv hc
        by_cases w : n < 40
        · obtain ⟨s1, t1, c1, c2, c3, c4, c5⟩ := rec_sim hc n2 w
          simp (disch := omega) only [cLt_t, cLt_f, cEq_t, cEq_f, rdR_ok, rd_ok, wr_ok, put_eq, jn_eq, cl_some, Int.toNat_natCast, n2, n3, c1, c2, i6.out]
          obtain ⟨-, hC1, hM1⟩ := c3.ok
          refine ⟨_, _, _, rfl, rfl, (Cor.vec (v' := (v.1, v.2.1, fun j => if j = k then a2 else v.2.2 j)) c3 ⟨hv.1, hv.2.1, fun j hj => ?_⟩ ⟨hC1.1.congr (fun b hb => up_b (by omega)), hC1.2.1.congr (fun b hb => up_b (by omega)), fun j hj => ?_⟩ ⟨hM1.1.congr hv.1.1.1 (fun j _ _ => up_i (by omega)), hM1.2.1.congr hv.2.1.1.1 (fun j _ _ => up_i (by omega)), fun j hj => ?_⟩ (fun b b1 b2 b3 b4 b5 => up_b b2) (fun b b1 b2 b3 => up_b b3) (fun i hi => up_o (by omega))).inv (Or.inl (by rw [up_o (by omega)]; exact c4))⟩
          · show 1 ≤ (if j = k then a2 else v.2.2 j) ∧ (if j = k then a2 else v.2.2 j) ≤ 9
            split
            · exact g
            · exact hv.2.2 j hj
          · show _ = if j = k then a2 else v.2.2 j
            by_cases e : j = k
            · subst e; rw [up_eq, if_pos rfl]
            · rw [up_i e, if_neg e]; exact hC1.2.2 j hj
          · show _ = if j = k then a2 else v.2.2 j
            by_cases e : j = k
            · subst e; rw [up_eq, if_pos rfl]
            · rw [up_i (by omega), if_neg e]; exact hM1.2.2 j hj
        · simp (disch := omega) only [cLt_t, cLt_f, cEq_t, cEq_f, rdR_ok, rd_ok, wr_ok, put_eq, jn_eq, cl_some, Int.toNat_natCast, n2, n3]
          exact ok_same _ hI
    · rw [if_neg g]
      by_cases g0 : a2 < 1
      · simp (disch := omega) only [cLt_t, cLt_f, cEq_t, cEq_f, rdR_ok, rd_ok, wr_ok, put_eq, jn_eq, cl_some, Int.toNat_natCast]
        exact ok_same _ hI
      · simp (disch := omega) only [cLt_t, cLt_f, cEq_t, cEq_f, rdR_ok, rd_ok, wr_ok, put_eq, jn_eq, cl_some, Int.toNat_natCast]
        exact ok_same _ hI
  · rw [if_neg h]
    by_cases g0 : a1 < 0
    · simp (disch := omega) only [cLt_t, cLt_f, cEq_t, cEq_f, rdR_ok, rd_ok, wr_ok, put_eq, jn_eq, cl_some, Int.toNat_natCast]
      exact ok_same _ hI
    · simp (disch := omega) only [cLt_t, cLt_f, cEq_t, cEq_f, rdR_ok, rd_ok, wr_ok, put_eq, jn_eq, cl_some, Int.toNat_natCast]
      exact ok_same _ hI
theorem sim_undo : ∀ s t : St, InvS SolX s t → ∀ a1 : Int, inR a1 → Ok2 (InvS SolX) (X8_undo a1 s) (X9_undo a1 t) := by
  intro s t hI a1 r1
  obtain ⟨v, hc, hs⟩ := cor_of hI
  obtain ⟨hv, hC, hM⟩ := hc.ok
  obtain ⟨n, lg, a4, a5⟩ := hc.lg
  have n1 := a4.1
  have n2 := a4.2.1
  have n3 := a4.2.2.1
  unfold X8_undo X9_undo
  rw [n2, n3, q_in _ _ _ r1 ⟨by omega, by omega⟩ ⟨by omega, by omega⟩]
  by_cases h : 0 ≤ a1 ∧ a1 ≤ (n : Int)
  · rw [if_pos h]
    obtain ⟨m, rfl⟩ : ∃ r : Nat, a1 = r := ⟨a1.toNat, by omega⟩
    by_cases w : m = n
    · subst w
      simp (disch := omega) only [cLt_t, cLt_f, cEq_t, cEq_f, rdR_ok, rd_ok, wr_ok, put_eq, jn_eq, cl_some, Int.toNat_natCast, n3]
      rw [up_self n3]
      exact ok_same _ hI
    · obtain ⟨c1, c2, c3⟩ := a4.2.2.2 m (by omega)
      obtain ⟨s', e1, e2, e3, e4⟩ := p_restore (s := up s 30 0 m) c1 (n := m) (by omega) up_eq (by rw [up_b (by omega)]; exact c2)
      have b := q_bring (a := 6) (b := 5) (sp := 53 * m) (dp := 0) (N := 53) (by decide) (by rw [lnM.2.1]; omega) (by rw [lnM.1]; omega) (by omega) t
      rw [show ((53 * m : Nat) : Int) = 53 * (m : Int) by omega] at b
      have b' : X9_bring 6 (53 * (m : Int)) 5 0 53 t = _ := b
      simp (disch := omega) only [cLt_t, cLt_f, cEq_t, cEq_f, rdR_ok, rd_ok, wr_ok, put_eq, jn_eq, cl_some, Int.toNat_natCast, n3, e1, b']
      refine ⟨_, _, _, rfl, rfl, (Cor.re (n := m) (lg := lg) hc (fun b hb => by rw [e2 b (by omega) (by omega) (by omega), up_b (by omega)]) (fun b hb => by rw [up_b (by omega), cpy_b (by omega)]) (by rw [up_i (by omega), cpy_o (by omega)]) (by rw [up_i (by omega), cpy_o (by omega)]) c1 e4 (by rw [up_b (by omega)]; exact c3.congr c1 (fun j hj => by rw [cpy_in (by omega) (by omega), Nat.sub_zero])) ⟨by omega, by rw [e2 30 (by omega) (by omega) (by omega), up_eq], up_eq, fun i hi => ?_⟩ (fun k hk => (a5 k hk).congr (by rw [e2 _ (by omega) (by omega) (by omega), up_b (by omega)]) (by rw [e2 _ (by omega) (by omega) (by omega), up_b (by omega)]) (by rw [up_b (by omega), cpy_b (by omega)]) (by rw [up_b (by omega), cpy_b (by omega)]))).inv (Or.inl e3)⟩
      rw [e2 31 (by omega) (by omega) (by omega), up_b (by omega), up_b (by omega), cpy_b (by omega)]
      exact a4.2.2.2 i (by omega)
  · rw [if_neg h]
    by_cases g0 : a1 < 0
    · simp (disch := omega) only [cLt_t, cLt_f, cEq_t, cEq_f, rdR_ok, rd_ok, wr_ok, put_eq, jn_eq, cl_some, Int.toNat_natCast]
      exact ok_same _ hI
    · simp (disch := omega) only [cLt_t, cLt_f, cEq_t, cEq_f, rdR_ok, rd_ok, wr_ok, put_eq, jn_eq, cl_some, Int.toNat_natCast]
      exact ok_same _ hI
