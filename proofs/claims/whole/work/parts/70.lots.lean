/-! lots -/
theorem dv_ok {x y : Int} {k : Int → Rs} (h1 : 0 ≤ x) (h2 : x ≤ 2147483647) (h3 : 0 < y) (h4 : y ≤ 2147483647) : dv x y k = k (x / y) := by
  unfold dv
  rw [if_pos ⟨⟨by omega, by omega⟩, ⟨by omega, by omega⟩, by omega⟩, Int.tdiv_eq_ediv_of_nonneg h1]
theorem rm_ok {x y : Int} {k : Int → Rs} (h1 : 0 ≤ x) (h2 : x ≤ 2147483647) (h3 : 0 < y) (h4 : y ≤ 2147483647) : rm x y k = k (x % y) := by
  unfold rm
  rw [if_pos ⟨⟨by omega, by omega⟩, ⟨by omega, by omega⟩, by omega⟩, Int.tmod_eq_emod_of_nonneg h1]
def Whl (v : Vec) : Prop := 0 < v.1.n ∧ 0 < v.2.1.n
theorem whl_doc {v : Vec} (h : Whl v) (k : Nat) : 0 < (v.doc k).n := by
  unfold Vec.doc
  split
  · exact h.1
  · exact h.2
theorem whl_setd {v : Vec} (h : Whl v) (k : Nat) {d : Doc} (hd : 0 < d.n) : Whl (v.setd k d) := by
  unfold Vec.setd
  split
  · exact ⟨hd, h.2⟩
  · exact ⟨h.1, hd⟩
theorem does_sim {s t : St} {v : Vec} (h : Cor s t v) (hw : Whl v) {z : Int} (z0 : 0 ≤ z) (z1 : z ≤ 2147483647) : ∃ s' t' v', X8_shake z s = some (0, s') ∧ X9_does z t = some (0, t') ∧ Cor s' t' v' ∧ Whl v' ∧ s' 5 1 = s 5 1 ∧ s' 30 0 = s 30 0 := by
  obtain ⟨hv, hC, hM⟩ := h.ok
  obtain ⟨k, hk'⟩ : ∃ k : Nat, z / 2 % 2 = k := ⟨(z / 2 % 2).toNat, by omega⟩
  have hk : k < 2 := by omega
  have hn := whl_doc hw k
  have hF := (doc_ok hv k).1
  have h12 := hF.1
  have pn := (doc_C hC hk).1
  have qn := q_many hk (doc_M hM hk)
  have xr := Int.emod_lt_of_pos (z / 64) (show (0 : Int) < ((v.doc k).n : Int) by omega)
  have xr0 := Int.emod_nonneg (z / 64) (show ((v.doc k).n : Int) ≠ 0 by omega)
  obtain ⟨x, hx'⟩ : ∃ x : Nat, z / 64 % ((v.doc k).n : Int) = x := ⟨(z / 64 % ((v.doc k).n : Int)).toNat, by omega⟩
  have hx : x < (v.doc k).n := by omega
  have d1 : Hid (∀ g, dv z 2 g = g (z / 2)) := Hid.mk (fun g => dv_ok z0 z1 (by omega) (by omega))
  have d2 : Hid (∀ g, rm (z / 2) 2 g = g (k : Int)) := Hid.mk (fun g => by rw [rm_ok (by omega) (by omega) (by omega) (by omega), hk'])
  have d3 : Hid (∀ g, dv z 64 g = g (z / 64)) := Hid.mk (fun g => dv_ok z0 z1 (by omega) (by omega))
  have d4 : Hid (∀ g, rm (z / 64) ((v.doc k).n : Int) g = g (x : Int)) := Hid.mk (fun g => by rw [rm_ok (by omega) (by omega) (by omega) (by omega), hx'])
  have d5 : Hid (∀ g, rm z 8 g = g (z % 8)) := Hid.mk (fun g => rm_ok z0 z1 (by omega) (by omega))
  have d6 : Hid (∀ g, dv z 1024 g = g (z / 1024)) := Hid.mk (fun g => dv_ok z0 z1 (by omega) (by omega))
  have d7 : Hid (∀ g, rm (z / 1024) 18 g = g (z / 1024 % 18)) := Hid.mk (fun g => rm_ok (by omega) (by omega) (by omega) (by omega))
  have d8 : Hid (∀ g, rm (z / 1024) 10 g = g (z / 1024 % 10)) := Hid.mk (fun g => rm_ok (by omega) (by omega) (by omega) (by omega))
  have l18 : 0 ≤ z / 1024 % 18 ∧ z / 1024 % 18 < 18 := by omega
  have l10 : 0 ≤ z / 1024 % 10 ∧ z / 1024 % 10 < 10 := by omega
  have w8 : 0 ≤ z % 8 ∧ z % 8 < 8 := by omega
  unfold X8_shake X9_does
  have tk := p_tree hk s
  generalize hz1 : z / 1024 % 18 = c18 at *
  generalize hz2 : z / 1024 % 10 = c10 at *
  generalize hz3 : z % 8 = c8 at *
  clear hz1 hz2 hz3 hk' hx' xr xr0
  by_cases q1 : c8 < 4
  · have i6 : Hid ((25 * (k : Int) + 1 + (x : Int)).toNat = 25 * k + 1 + x) := Hid.mk (by omega)
    refine ⟨_, _, _, ?_, ?_, cor_setc h hk hx (c := 97 + c18) (by omega), whl_setd hw k hn, up_o (by omega), up_o (by omega)⟩
    · simp (disch := omega) only [cLt_t, cLt_f, cEq_t, cEq_f, rdR_ok, rd_ok, wr_ok, put_eq, jn_eq, cl_some, Int.toNat_natCast, d1.out, d2.out, tk, gK_tree hk, pn, d3.out, d4.out, d5.out, d6.out, d7.out]
    · simp (disch := omega) only [cLt_t, cLt_f, cEq_t, cEq_f, rdR_ok, rd_ok, wr_ok, put_eq, jn_eq, cl_some, Int.toNat_natCast, d1.out, d2.out, qn, d3.out, d4.out, d5.out, d6.out, d7.out, i6.out]
  · by_cases q2 : c8 < 6
    · have ml := p_canLose (doc_C hC hk) hF hx
      have mc := q_mayCut hk (doc_M hM hk) hF hx
      rcases mayC_r (v.doc k) x with q | q
      · rw [q] at ml mc
        refine ⟨s, t, v, ?_, ?_, h, hw, rfl, rfl⟩
        · simp (disch := omega) only [cLt_t, cLt_f, cEq_t, cEq_f, rdR_ok, rd_ok, wr_ok, put_eq, jn_eq, cl_some, Int.toNat_natCast, d1.out, d2.out, tk, gK_tree hk, pn, d3.out, d4.out, d5.out, ml]
        · simp (disch := omega) only [cLt_t, cLt_f, cEq_t, cEq_f, rdR_ok, rd_ok, wr_ok, put_eq, jn_eq, cl_some, Int.toNat_natCast, d1.out, d2.out, qn, d3.out, d4.out, d5.out, mc]
      · obtain ⟨s', t', e1, e2, e3, e4, e5, e6, e7⟩ := cor_cut h hk hx q
        have n2 : 0 < (v.doc k).n - 1 := by
          rcases mayC_1 q with w | w
          · omega
          · have := chn_r (v.doc k) x
            omega
        rw [q] at ml mc
        refine ⟨s', t', _, ?_, ?_, e3, whl_setd hw k (by rw [rem_n]; exact n2), by rw [e6], by rw [e7]⟩
        · simp (disch := omega) only [cLt_t, cLt_f, cEq_t, cEq_f, rdR_ok, rd_ok, wr_ok, put_eq, jn_eq, cl_some, Int.toNat_natCast, d1.out, d2.out, tk, gK_tree hk, pn, d3.out, d4.out, d5.out, ml, e1]
        · simp (disch := omega) only [cLt_t, cLt_f, cEq_t, cEq_f, rdR_ok, rd_ok, wr_ok, put_eq, jn_eq, cl_some, Int.toNat_natCast, d1.out, d2.out, qn, d3.out, d4.out, d5.out, mc, e2]
    · by_cases q3 : c8 = 6
      · by_cases q4 : (v.doc k).n < 12
        · obtain ⟨p, s', t', d, e1, e2, e3, e4, e5, e6⟩ := cor_add h hk hx q4 (i := 0) (m := 0) (c := 48 + c10) (by omega) (by omega) (by have := chn_r (v.doc k) x; omega) (by omega)
          refine ⟨s', t', _, ?_, ?_, e3, whl_setd hw k e4, by rw [e5], by rw [e6]⟩
          · simp (disch := omega) only [cLt_t, cLt_f, cEq_t, cEq_f, rdR_ok, rd_ok, wr_ok, put_eq, jn_eq, cl_some, Int.toNat_natCast, d1.out, d2.out, tk, gK_tree hk, pn, d3.out, d4.out, d5.out, d6.out, d8.out, e1]
          · simp (disch := omega) only [cLt_t, cLt_f, cEq_t, cEq_f, rdR_ok, rd_ok, wr_ok, put_eq, jn_eq, cl_some, Int.toNat_natCast, d1.out, d2.out, qn, d3.out, d4.out, d5.out, d6.out, d8.out, e2]
        · refine ⟨s, t, v, ?_, ?_, h, hw, rfl, rfl⟩
          · simp (disch := omega) only [cLt_t, cLt_f, cEq_t, cEq_f, rdR_ok, rd_ok, wr_ok, put_eq, jn_eq, cl_some, Int.toNat_natCast, d1.out, d2.out, tk, gK_tree hk, pn, d3.out, d4.out, d5.out]
          · simp (disch := omega) only [cLt_t, cLt_f, cEq_t, cEq_f, rdR_ok, rd_ok, wr_ok, put_eq, jn_eq, cl_some, Int.toNat_natCast, d1.out, d2.out, qn, d3.out, d4.out, d5.out]
      · have q7 : c8 = 7 := by omega
        obtain ⟨s', a1, a2, a3⟩ := p_exchange hv hC
        obtain ⟨t', b1, b2, b3⟩ := q_turns hv hM
        refine ⟨s', t', _, ?_, ?_, h.vec (swap_ok hv) a3 b3 (fun b c1 c2 c3 c4 c5 => a2 b (by omega)) (fun b c1 c2 c3 => b2 b c3) (fun i hi => by rw [b2 0 (by omega)]), ⟨hw.2, hw.1⟩, by rw [a2 5 (by omega)], by rw [a2 30 (by omega)]⟩
        · simp (disch := omega) only [cLt_t, cLt_f, cEq_t, cEq_f, rdR_ok, rd_ok, wr_ok, put_eq, jn_eq, cl_some, Int.toNat_natCast, d1.out, d2.out, tk, gK_tree hk, pn, d3.out, d4.out, d5.out, a1]
        · simp (disch := omega) only [cLt_t, cLt_f, cEq_t, cEq_f, rdR_ok, rd_ok, wr_ok, put_eq, jn_eq, cl_some, Int.toNat_natCast, d1.out, d2.out, qn, d3.out, d4.out, d5.out, b1]
theorem l_lots {N : Nat} : ∀ (n c : Nat) (s t : St) (v : Vec) (z : Int) (m : Nat), c ≤ N → N < c + n → Cor s t v → Whl v → (s 5 1 = 1 ∨ (s 5 1 = 0 ∧ SolX s v)) → s 30 0 = m → m + (N - c) ≤ 40 → N ≤ 40 → 0 ≤ z → z ≤ 2147483647 → Ok2 (InvS SolX) (X8_lots_61 (N : Int) (fun s3 => some ((s3 38 0) + (s3 41 0), s3)) n z (c : Int) s) (X9_lots_53 (N : Int) (fun s7 => cl (X9_many 0 s7) (fun v8 s9 => cl (X9_many 1 s9) (fun v10 s11 => some (v8 + v10, s11)))) n z (c : Int) t) := by
  intro n
  induction n with
  | zero => intro c s t v z m h1 h2; omega
  | succ n ih =>
    intro c s t v z m h1 h2 h hw hs hm hm2 hN z0 z1
    obtain ⟨hv, hC, hM⟩ := h.ok
    rw [X8_lots_61, X9_lots_53]
    by_cases e : c = N
    · subst e
      simp (disch := omega) only [cLt_t, cLt_f, cEq_t, cEq_f, rdR_ok, rd_ok, wr_ok, put_eq, jn_eq, cl_some, Int.toNat_natCast, hC.1.1, hC.2.1.1, q_many0 hM.1, q_many1 hM.2.1]
      exact ⟨_, _, _, rfl, rfl, h.inv hs⟩
    · obtain ⟨s1, t1, a1, a2, a3, a4, a5⟩ := rec_sim h hm (by omega)
      have y0 := Int.emod_nonneg (48271 * z) (show (2147483647 : Int) ≠ 0 by omega)
      have y1 := Int.emod_lt_of_pos (48271 * z) (show (0 : Int) < 2147483647 by omega)
      obtain ⟨s2, t2, v2, b1, b2, b3, b4, b5, b6⟩ := does_sim a3 hw (z := 48271 * z % 2147483647) (by omega) (by omega)
      have e1 : ∀ g, rmL (48271 * z) 2147483647 g = g (48271 * z % 2147483647) := fun g => by
        unfold rmL
        rw [if_pos ⟨⟨by omega, by omega⟩, ⟨by omega, by omega⟩, by omega⟩, Int.tmod_eq_emod_of_nonneg (by omega)]
      rw [Int.mul_comm z 48271, e1, e1]
      have ih' := ih (c + 1) s2 t2 v2 (48271 * z % 2147483647) (m + 1) (by omega) (by omega) b3 b4 (Or.inl (by rw [b5]; exact a4)) (by rw [b6]; exact a5) (by omega) hN (by omega) (by omega)
      rw [cLt_t (by omega) (by omega) (by omega), cLt_t (by omega) (by omega) (by omega), a1, a2]
      simp only [cl_some]
      rw [b1, b2]
      simp only [cl_some]
      exact ih'
theorem sim_lots : ∀ s t : St, InvS SolX s t → ∀ a1 : Int, inR a1 → ∀ a2 : Int, inR a2 → Ok2 (InvS SolX) (X8_lots a1 a2 s) (X9_lots a1 a2 t) := by
  intro s t hI a1 r1 a2 r2
  obtain ⟨v, hc, hs⟩ := cor_of hI
  obtain ⟨hv, hC, hM⟩ := hc.ok
  obtain ⟨m, m1, m2, m3⟩ := rec_inv hc
  have hU := FU_gt
  unfold X8_lots X9_lots
  rw [q_in _ _ _ r1 ⟨by omega, by omega⟩ ⟨by omega, by omega⟩, p_isWhole hv hC]
  by_cases h : 1 ≤ a1 ∧ a1 ≤ 20
  · rw [if_pos h]
    simp (disch := omega) only [cLt_t, cLt_f, cEq_t, cEq_f, rdR_ok, rd_ok, wr_ok, put_eq, jn_eq, cl_some, Int.toNat_natCast]
    rw [q_in _ _ _ r2 ⟨by omega, by omega⟩ ⟨by omega, by omega⟩]
    by_cases g : 1 ≤ a2 ∧ a2 ≤ 2147483646
    · rw [if_pos g]
      simp (disch := omega) only [cLt_t, cLt_f, cEq_t, cEq_f, rdR_ok, rd_ok, wr_ok, put_eq, jn_eq, cl_some, Int.toNat_natCast]
      rw [q_areBoth hv hM]
      by_cases w : 0 < v.1.n ∧ 0 < v.2.1.n
      · rw [if_pos w]
        obtain ⟨N, rfl⟩ : ∃ r : Nat, a1 = r := ⟨a1.toNat, by omega⟩
        by_cases q : 40 < m + N
        · simp (disch := omega) only [cLt_t, cLt_f, cEq_t, cEq_f, rdR_ok, rd_ok, wr_ok, put_eq, jn_eq, cl_some, Int.toNat_natCast, m2, m3]
          exact ok_same _ hI
        · simp (disch := omega) only [cLt_t, cLt_f, cEq_t, cEq_f, rdR_ok, rd_ok, wr_ok, put_eq, jn_eq, cl_some, Int.toNat_natCast, m2, m3]
          rw [w32_in r2]
          exact l_lots FU 0 s t v a2 m (by omega) (by omega) hc w hs m2 (by omega) (by omega) (by omega) (by omega)
      · rw [if_neg w]
        simp (disch := omega) only [cLt_t, cLt_f, cEq_t, cEq_f, rdR_ok, rd_ok, wr_ok, put_eq, jn_eq, cl_some, Int.toNat_natCast]
        exact ok_same _ hI
    · rw [if_neg g]
      by_cases g0 : a2 < 1
      · simp (disch := omega) only [cLt_t, cLt_f, cEq_t, cEq_f, rdR_ok, rd_ok, wr_ok, put_eq, jn_eq, cl_some, Int.toNat_natCast]
        exact ok_same _ hI
      · simp (disch := omega) only [cLt_t, cLt_f, cEq_t, cEq_f, rdR_ok, rd_ok, wr_ok, put_eq, jn_eq, cl_some, Int.toNat_natCast]
        exact ok_same _ hI
  · rw [if_neg h]
    by_cases g0 : a1 < 1
    · simp (disch := omega) only [cLt_t, cLt_f, cEq_t, cEq_f, rdR_ok, rd_ok, wr_ok, put_eq, jn_eq, cl_some, Int.toNat_natCast]
      exact ok_same _ hI
    · simp (disch := omega) only [cLt_t, cLt_f, cEq_t, cEq_f, rdR_ok, rd_ok, wr_ok, put_eq, jn_eq, cl_some, Int.toNat_natCast]
      exact ok_same _ hI
