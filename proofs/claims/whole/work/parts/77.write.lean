/-! write -/
theorem str_all {d : Doc} (hF : Fst d) {P : Nat → Bool} : ∀ (n i a : Nat), i ≤ n → i ≤ d.n → ∀ c ∈ str d P a i, 0 ≤ c ∧ c ≤ 127 := by
  intro n
  induction n with
  | zero =>
    intro i a h1 h2 c hc
    rw [str_e (by omega)] at hc
    exact absurd hc List.not_mem_nil
  | succ n ih =>
    intro i a h1 h2 c hc
    by_cases e : i ≤ a
    · rw [str_e e] at hc
      exact absurd hc List.not_mem_nil
    · obtain ⟨i, rfl⟩ : ∃ w, i = w + 1 := ⟨i - 1, by omega⟩
      have hl := hF.2.1 i (by omega)
      by_cases p : P i = true
      · rw [str_p (by omega) p hl.2, List.mem_append] at hc
        rcases hc with hc | hc
        · exact ih (d.l i) a (by omega) (by omega) c hc
        · rw [List.mem_cons] at hc
          rcases hc with hc | hc
          · rw [hc]
            exact lab_b hl.1
          · split at hc
            · exact absurd hc List.not_mem_nil
            · rw [List.mem_cons, List.mem_append] at hc
              rcases hc with hc | hc | hc
              · rw [hc]; omega
              · exact ih i (d.l i) (by omega) (by omega) c hc
              · rw [List.mem_singleton] at hc
                rw [hc]; omega
      · have p' : P i = false := by
          cases hb : P i
          · rfl
          · exact absurd hb p
        rw [str_n p'] at hc
        exact ih i a (by omega) (by omega) c hc
theorem atL_mem {L : List Int} {k : Nat} (h : k < L.length) : atL L k ∈ L := by
  unfold atL
  rw [List.getElem?_eq_getElem h]
  exact List.getElem_mem h
theorem cor_text {s s' t t' : St} {v : Vec} (h : Cor s t v) {r : Nat} (hr : r < 4) {L : List Int} (hL : ∀ c ∈ L, 0 ≤ c ∧ c ≤ 127) (hl : L.length ≤ 60) (hc : FA (22 + 2 * r) s s') (hT : TxL s' (22 + 2 * r) L) (hm : ∀ b, 1 ≤ b → b ≤ 9 → b ≠ 3 → b ≠ 4 → t' b = t b) (hm0 : ∀ i, i = 6 ∨ i = 9 ∨ i = 10 → t' 0 i = t 0 i) (h3 : t' 3 r = L.length) (h3' : ∀ j, j ≠ r → t' 3 j = t 3 j) (h4 : ∀ i, i < L.length → t' 4 (60 * r + i) = atL L i) (h4' : ∀ j, ¬(60 * r ≤ j ∧ j < 60 * r + 60) → t' 4 j = t 4 j) : Cor s' t' v := by
  obtain ⟨h1, h2, h3'', n, lg, a1, a2, a3, a4, a5⟩ := h
  refine ⟨fun q hq => ?_, fun k hk => ?_, ?_, n, lg, a1, a2.congr (fun b hb => hc b (by omega) (by omega)), by rw [hm 5 (by omega) (by omega) (by omega) (by omega)]; exact a3, a4.congr (hc 30 (by omega) (by omega)) (hc 31 (by omega) (by omega)) (hm 6 (by omega) (by omega) (by omega) (by omega)) (hm0 6 (by omega)), fun k hk => (a5 k hk).congr (hc _ (by omega) (by omega)) (hc _ (by omega) (by omega)) (hm 7 (by omega) (by omega) (by omega) (by omega)) (hm 8 (by omega) (by omega) (by omega) (by omega))⟩
  · rw [hc (10 + 2 * q) (by omega) (by omega), hc (10 + 2 * q + 1) (by omega) (by omega), hm 1 (by omega) (by omega) (by omega) (by omega), hm 2 (by omega) (by omega) (by omega) (by omega)]
    exact h1 q hq
  · by_cases e : k = r
    · subst e
      rw [hT.1, h3]
      refine ⟨rfl, by omega, by omega, fun i hi => ?_⟩
      have hi' : i < L.length := by omega
      have := hL _ (atL_mem hi')
      rw [hT.2 i hi', h4 i hi']
      exact ⟨rfl, by omega, by omega⟩
    · have := h2 k hk
      rw [hc (22 + 2 * k) (by omega) (by omega), hc (22 + 2 * k + 1) (by omega) (by omega), h3' k e]
      refine ⟨this.1, this.2.1, this.2.2.1, fun i hi => ?_⟩
      rw [h4' _ (by omega)]
      exact this.2.2.2 i hi
  · unfold RFnd
    rw [hc 0 (by omega) (by omega), hc 1 (by omega) (by omega), hm0 9 (by omega), hm0 10 (by omega), hm 9 (by omega) (by omega) (by omega) (by omega)]
    exact h3''
theorem l_show {k : Nat} {d : Doc} (hk : k < 2) (hF : Fst d) {z : Int} (g : St → Rs) : ∀ (n x : Nat) (t : St), x ≤ d.n → d.n < x + n → DocAt (t 5) (25 * k) d → (∀ y, y < x → t 15 y = d.c y) → ∃ t', X9_write_29 (k : Int) z g n (x : Int) t = g t' ∧ (∀ b, b ≠ 15 → t' b = t b) ∧ ∀ y, y < d.n → t' 15 y = d.c y := by
  have hn := hF.1
  intro n
  induction n with
  | zero => intro x t h1 h2; omega
  | succ n ih =>
    intro x t h1 h2 hD hI
    rw [X9_write_29]
    have qm := q_many hk hD
    by_cases e : x = d.n
    · subst e
      refine ⟨t, ?_, fun _ _ => rfl, hI⟩
      simp (disch := omega) only [cLt_t, cLt_f, cEq_t, cEq_f, rdR_ok, rd_ok, wr_ok, put_eq, jn_eq, cl_some, Int.toNat_natCast, qm]
    · have qc := q_codeOf hk hD hn (x := x) (by omega)
      obtain ⟨t', f1, f2, f3⟩ := ih (x + 1) (up t 15 x (d.c x)) (by omega) (by omega) (by rw [up_b (by omega)]; exact hD) (fun y hy => by
        by_cases q : y = x
        · subst q
          rw [up_eq]
        · rw [up_i q]
          exact hI y (by omega))
      refine ⟨t', ?_, fun b hb => by rw [f2 b hb, up_b hb], f3⟩
      simp (disch := omega) only [cLt_t, cLt_f, cEq_t, cEq_f, rdR_ok, rd_ok, wr_ok, put_eq, jn_eq, cl_some, Int.toNat_natCast, qm, qc]
      exact f1
theorem sim_write : ∀ s t : St, InvS SolX s t → ∀ a1 : Int, inR a1 → ∀ a2 : Int, inR a2 → Ok2 (InvS SolX) (X8_write a1 a2 s) (X9_write a1 a2 t) := by
  intro s t hI a1 r1 a2 r2
  obtain ⟨v, hc, hs⟩ := cor_of hI
  obtain ⟨hv, hC, hM⟩ := hc.ok
  have hU := FU_gt
  unfold X8_write X9_write
  rw [p_noDoc r1, q_isDoc r1]
  by_cases h : 0 ≤ a1 ∧ a1 < 2
  · rw [if_pos h, if_pos h]
    obtain ⟨k, rfl⟩ : ∃ r : Nat, a1 = r := ⟨a1.toNat, by omega⟩
    have hk : k < 2 := by omega
    have hF := (doc_ok hv k).1
    have hn := hF.1
    have hT := doc_C hC hk
    have hD := doc_M hM hk
    simp (disch := omega) only [cLt_t, cLt_f, cEq_t, cEq_f, rdR_ok, rd_ok, wr_ok, put_eq, jn_eq, cl_some, Int.toNat_natCast]
    rw [p_noText a2 r2, q_isText a2 r2]
    by_cases g : 0 ≤ a2 ∧ a2 < 4
    · rw [if_pos g, if_pos g]
      obtain ⟨r, rfl⟩ : ∃ r : Nat, a2 = r := ⟨a2.toNat, by omega⟩
      have hr : r < 4 := by omega
      have hT0 := hT.1
      by_cases z : (v.doc k).n = 0
      · simp (disch := omega) only [cLt_t, cLt_f, cEq_t, cEq_f, rdR_ok, rd_ok, wr_ok, put_eq, jn_eq, cl_some, Int.toNat_natCast, p_tree hk s, gK_tree hk, hT0, q_many hk hD]
        exact ok_same _ hI
      · obtain ⟨s', a1, a2, a3⟩ := p_print (a := 22 + 2 * r) hT hF (by omega)
        obtain ⟨t1, b1, b2, b3⟩ := l_show hk hF (z := (r : Int)) (fun s7 => cl (X9_many (k : Int) s7) (fun v8 s9 => cl (X9_writesAll (k : Int) ((oShl 1 v8) - 1) s9) (fun _ s11 => cl (X9_toText (r : Int) s11) (fun v12 s13 => some (v12, s13))))) FU 0 t (by omega) (by omega) hD (fun y hy => by omega)
        have hD1 : DocAt (t1 5) (25 * k) (v.doc k) := by rw [b2 5 (by omega)]; exact hD
        obtain ⟨t2, c1, c2, c3, c4⟩ := q_writesAll hk hD1.lk hF (m := 2 ^ (v.doc k).n - 1) (one_lt hn) (fun x a _ => b3 x a)
        have se : str (v.doc k) (tb (2 ^ (v.doc k).n - 1)) 0 (v.doc k).n = str (v.doc k) (fun _ => true) 0 (v.doc k).n := str_congr (v.doc k).n (v.doc k).n 0 (Nat.le_refl _) (fun y hy => ⟨by
          show (2 ^ (v.doc k).n - 1).testBit y = true
          rw [tb_one]
          exact decide_eq_true hy, rfl, (hF.2.1 y hy).2, fun _ => rfl⟩)
        rw [se] at c3 c4
        obtain ⟨t3, d1, d2, d3, d4, d5, d6⟩ := q_toText hr c3 (by omega)
        have e1 := bt_one (k := (v.doc k).n) hn
        have lhs : cl (X5_print (22 + 2 * r) (38 + 3 * k) s) (fun v10 s11 => some (v10, s11)) = some (((str (v.doc k) (fun _ => true) 0 (v.doc k).n).length : Int), s') := by rw [a1, cl_some]
        have rhs : X9_write_29 (k : Int) (r : Int) (fun s7 => cl (X9_many (k : Int) s7) (fun v8 s9 => cl (X9_writesAll (k : Int) ((oShl 1 v8) - 1) s9) (fun _ s11 => cl (X9_toText (r : Int) s11) (fun v12 s13 => some (v12, s13))))) FU 0 t = some (((str (v.doc k) (fun _ => true) 0 (v.doc k).n).length : Int), t3) := by
          refine b1.trans ?_
          rw [q_many hk hD1, cl_some, e1, c1, cl_some, d1, cl_some]
        refine ⟨((str (v.doc k) (fun _ => true) 0 (v.doc k).n).length : Int), s', t3, ?_, ?_, Cor.inv (v := v) (cor_text hc hr (str_all hF _ _ 0 (Nat.le_refl _) (Nat.le_refl _)) (by omega) a2 a3 (fun b e1 e2 e3 e4 => by rw [d2 b e3 e4, c2.1 b (by omega) (by omega) (by omega), b2 b (by omega)]) (fun i hi => by rw [d2 0 (by omega) (by omega), c2.2 i (by omega), b2 0 (by omega)]) d3 (fun j hj => by rw [d4 j hj, c2.1 3 (by omega) (by omega) (by omega), b2 3 (by omega)]) d5 (fun j hj => by rw [d6 j hj, c2.1 4 (by omega) (by omega) (by omega), b2 4 (by omega)])) ?_⟩
        · rw [cl_some, cEq_t (x := 0) (y := 0) (by omega) (by omega) rfl, p_tree hk, cl_some, Int.toNat_natCast, gK_tree hk, hT0, cEq_f (by omega) (by omega) (by omega) (by omega) (by omega), rdR_ok (by omega) (by omega), p_tree hk, cl_some, Int.toNat_natCast, Int.toNat_natCast, gK_tree hk]
          exact lhs
        · rw [cl_some, cEq_f (x := 1) (y := 0) (by omega) (by omega) (by omega) (by omega) (by omega), q_many hk hD, cl_some, cEq_f (by omega) (by omega) (by omega) (by omega) (by omega)]
          exact rhs
        · rw [a2 5 (by omega) (by omega)]
          rcases hs with q | ⟨q, w⟩
          · exact Or.inl q
          · exact Or.inr ⟨q, congW s s' v (fun b hb => a2 b (by omega) (by omega)) w⟩
    · rw [if_neg g, if_neg g]
      simp (disch := omega) only [cLt_t, cLt_f, cEq_t, cEq_f, rdR_ok, rd_ok, wr_ok, put_eq, jn_eq, cl_some, Int.toNat_natCast]
      exact ok_same _ hI
  · rw [if_neg h, if_neg h]
    simp (disch := omega) only [cLt_t, cLt_f, cEq_t, cEq_f, rdR_ok, rd_ok, wr_ok, put_eq, jn_eq, cl_some, Int.toNat_natCast]
    exact ok_same _ hI
