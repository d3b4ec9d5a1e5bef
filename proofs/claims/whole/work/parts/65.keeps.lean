/-! saved states -/
theorem p_noPlace (i : Int) (hi : inR i) (s : St) : X8_noPlace i s = some (if 0 ≤ i ∧ i < 3 then 0 else 1, s) := by
  unfold X8_noPlace
  simp (disch := omega) only [cLt_if]
  repeat' split
  all_goals first | rfl | omega
theorem nb1_01 : nb1 0 = 0 ∧ nb1 1 = 1 := by decide +kernel
theorem PlR.cong2 {s s' t t' : St} {k : Nat} (h : PlR s t k) (e0 : s' (32 + 2 * k) = s (32 + 2 * k)) (e1 : s' (32 + 2 * k + 1) = s (32 + 2 * k + 1)) (e2 : ∀ i, i < 2174 → t' 7 (2174 * k + i) = t 7 (2174 * k + i)) (e3 : t' 8 k = t 8 k) : PlR s' t' k := by
  unfold PlR
  rw [e0, e1, e3]
  rcases h with h | ⟨h0, n, lg, v, h1, h2, h3, h4, h5, h6, h7⟩
  · exact Or.inl h
  · refine Or.inr ⟨h0, n, lg, v, h1, h2, by rw [show 2174 * k = 2174 * k + 0 by omega, e2 0 (by omega)]; exact h3, fun i hi => ?_, h5, h6, h7.congr h5 (fun j hj => ?_)⟩
    · obtain ⟨c1, c2, c3⟩ := h4 i hi
      refine ⟨c1, c2, c3.congr c1 (fun j hj => ?_)⟩
      have := e2 (54 + (53 * i + j)) (by omega)
      rw [show 2174 * k + (54 + (53 * i + j)) = 2174 * k + 54 + (53 * i + j) by omega] at this
      exact this
    · have := e2 (1 + j) (by omega)
      rw [show 2174 * k + (1 + j) = 2174 * k + 1 + j by omega] at this
      exact this
theorem p_ltake {s : St} {a b n : Nat} (h : s b 0 = n) (hab : a ≠ b) (h1 : a + 1 ≠ b) (h2 : b + 1 ≠ a) : X0_take a b s = some (0, cpy (up s a 0 n) (b + 1) 0 (a + 1) 0 1189) := by
  unfold X0_take
  have c := cpA_ok (s := up s a 0 n) (a := b + 1) (na := 1189) (b := a + 1) (nb := 1189) (sp := 0) (dp := 0) (n := 1189) (k := fun s2 => some (0, s2)) (by omega) (by omega)
  rw [put_eq, h]
  exact c
theorem sim_keep : ∀ s t : St, InvS SolX s t → ∀ a1 : Int, inR a1 → Ok2 (InvS SolX) (X8_keep a1 s) (X9_keep a1 t) := by
  intro s t hI a1 r1
  obtain ⟨v, hc, hs⟩ := cor_of hI
  obtain ⟨hv, hC, hM⟩ := hc.ok
  obtain ⟨n, lg, a4, a5⟩ := hc.lg
  have n1 := a4.1
  have n2 := a4.2.1
  have n3 := a4.2.2.1
  unfold X8_keep X9_keep
  rw [p_noPlace _ r1, q_in _ _ _ r1 ⟨by omega, by omega⟩ ⟨by omega, by omega⟩]
  by_cases h : 0 ≤ a1 ∧ a1 < 3
  · rw [if_pos h, if_pos (by omega)]
    obtain ⟨k, rfl⟩ : ∃ r : Nat, a1 = r := ⟨a1.toNat, by omega⟩
    obtain ⟨s1, b1, b2, b3, b4⟩ := p_hold hv hC n1 n2
    have hn : s1 30 0 = n := by rw [b2 30 (by omega)]; exact n2
    have tk := p_ltake (a := 32 + 2 * k) (b := 30) hn (by omega) (by omega) (by omega)
    have i1 : Hid ((2174 * (k : Int)).toNat = 2174 * k) := Hid.mk (by omega)
    have q1 := q_bring (a := 5) (b := 7) (sp := 0) (dp := 2174 * k + 1) (N := 53) (by decide) (by rw [lnM.1]; omega) (by rw [lnM.2.2.1]; omega) (by omega) (up (up t 8 k 1) 7 (2174 * k) n)
    rw [show ((2174 * k + 1 : Nat) : Int) = 2174 * (k : Int) + 1 by omega] at q1
    have q1' : X9_bring 5 0 7 (2174 * (k : Int) + 1) 53 (up (up t 8 k 1) 7 (2174 * k) n) = _ := q1
    have q2 := q_bring (a := 6) (b := 7) (sp := 0) (dp := 2174 * k + 1 + 53) (N := 2120) (by decide) (by rw [lnM.2.1]; omega) (by rw [lnM.2.2.1]; omega) (by omega) (cpy (up (up t 8 k 1) 7 (2174 * k) n) 5 0 7 (2174 * k + 1) 53)
    rw [show ((2174 * k + 1 + 53 : Nat) : Int) = 2174 * (k : Int) + 1 + 53 by omega] at q2
    have q2' : X9_bring 6 0 7 (2174 * (k : Int) + 1 + 53) 2120 (cpy (up (up t 8 k 1) 7 (2174 * k) n) 5 0 7 (2174 * k + 1) 53) = _ := q2
    have z1 : cpy (up s1 (32 + 2 * k) 0 n) (30 + 1) 0 (32 + 2 * k + 1) 0 1189 30 0 = n := by
      rw [cpy_o (by omega), up_o (by omega)]
      exact hn
    have z2 : cpy (cpy (up (up t 8 k 1) 7 (2174 * k) n) 5 0 7 (2174 * k + 1) 53) 6 0 7 (2174 * k + 1 + 53) 2120 0 6 = n := by
      rw [cpy_o (by omega), cpy_o (by omega), up_o (by omega), up_o (by omega)]
      exact n3
    have t06 : up t 8 k 1 0 6 = n := by rw [up_o (by omega)]; exact n3
    simp (disch := omega) only [cLt_t, cLt_f, cEq_t, cEq_f, rdR_ok, rd_ok, wr_ok, put_eq, jn_eq, cl_some, Int.toNat_natCast, b1, tk, z1, nb1_01.2, i1.out, t06, q1', q2', z2]
    have fs : ∀ b, b ≠ 31 → b ≠ 32 + 2 * k → b ≠ 32 + 2 * k + 1 → cpy (up s1 (32 + 2 * k) 0 n) (30 + 1) 0 (32 + 2 * k + 1) 0 1189 b = s b := fun b c1 c2 c3 => by rw [cpy_b c3, up_b c2, b2 b c1]
    have ft : ∀ b, b ≠ 7 → b ≠ 8 → cpy (cpy (up (up t 8 k 1) 7 (2174 * k) n) 5 0 7 (2174 * k + 1) 53) 6 0 7 (2174 * k + 1 + 53) 2120 b = t b := fun b c1 c2 => by rw [cpy_b c1, cpy_b c1, up_b c1, up_b c2]
    have ft8 : ∀ j, j ≠ k → cpy (cpy (up (up t 8 k 1) 7 (2174 * k) n) 5 0 7 (2174 * k + 1) 53) 6 0 7 (2174 * k + 1 + 53) 2120 8 j = t 8 j := fun j c1 => by rw [cpy_o (by omega), cpy_o (by omega), up_o (by omega), up_i c1]
    have ft7 : ∀ j, ¬(2174 * k ≤ j ∧ j < 2174 * k + 2174) → cpy (cpy (up (up t 8 k 1) 7 (2174 * k) n) 5 0 7 (2174 * k + 1) 53) 6 0 7 (2174 * k + 1 + 53) 2120 7 j = t 7 j := fun j c1 => by rw [cpy_out (by omega), cpy_out (by omega), up_i (by omega), up_o (by omega)]
    refine ⟨_, _, _, rfl, rfl, Cor.inv (v := v) (Cor.re (n := n) (lg := lg) hc (fun b hb => fs b (by omega) (by omega) (by omega)) (fun b hb => ft b (by omega) (by omega)) (by rw [ft 0 (by omega) (by omega)]) (by rw [ft 0 (by omega) (by omega)]) hv (hC.congr (fun b hb => fs b (by omega) (by omega) (by omega))) (by rw [ft 5 (by omega) (by omega)]; exact hM) ⟨n1, z1, z2, fun i hi => ?_⟩ (fun j hj => ?_)) ?_⟩
    · obtain ⟨c1, c2, c3⟩ := a4.2.2.2 i hi
      rw [ft 6 (by omega) (by omega), cpy_b (by omega), up_b (by omega)]
      exact ⟨c1, c2.congr c1 (fun j hj => b3 _ (by omega)), c3⟩
    · by_cases e : j = k
      · subst e
        refine Or.inr ⟨?_, n, lg, v, n1, ?_, ?_, fun i hi => ?_, hv, ?_, ?_⟩
        · rw [cpy_o (by omega), cpy_o (by omega), up_o (by omega), up_eq]
        · rw [cpy_o (by omega), up_eq]
        · rw [cpy_out (by omega), cpy_out (by omega), up_eq]
        · obtain ⟨c1, c2, c3⟩ := a4.2.2.2 i hi
          refine ⟨c1, c2.congr c1 (fun j' hj' => ?_), c3.congr c1 (fun j' hj' => ?_)⟩
          · rw [cpy_in (by omega) (by omega), up_o (by omega), show 0 + (29 * i + j' - 0) = 29 * i + j' by omega]
            exact b3 _ (by omega)
          · rw [cpy_in (by omega) (by omega), cpy_o (by omega), up_o (by omega), up_o (by omega), show 0 + (2174 * j + 54 + (53 * i + j') - (2174 * j + 1 + 53)) = 53 * i + j' by omega]
        · refine b4.congr hv (fun j' hj' => ?_)
          rw [cpy_in (by omega) (by omega), up_o (by omega), show 0 + (29 * n + j' - 0) = 29 * n + j' by omega]
        · refine hM.congr hv (fun j' hj' => ?_)
          rw [cpy_out (by omega), cpy_in (by omega) (by omega), up_o (by omega), up_o (by omega), show 0 + (2174 * j + 1 + j' - (2174 * j + 1)) = j' by omega]
      · exact (a5 j hj).cong2 (fs _ (by omega) (by omega) (by omega)) (fs _ (by omega) (by omega) (by omega)) (fun i hi => ft7 _ (by omega)) (ft8 j e)
    · rw [fs 5 (by omega) (by omega) (by omega)]
      rcases hs with q | ⟨q, w⟩
      · exact Or.inl q
      · exact Or.inr ⟨q, congW s _ v (fun b hb => fs b (by omega) (by omega) (by omega)) w⟩
  · rw [if_neg h, if_neg (by omega)]
    simp (disch := omega) only [cLt_t, cLt_f, cEq_t, cEq_f, rdR_ok, rd_ok, wr_ok, put_eq, jn_eq, cl_some, Int.toNat_natCast]
    exact ok_same _ hI
theorem sim_on : ∀ s t : St, InvS SolX s t → ∀ a1 : Int, inR a1 → Ok2 (InvS SolX) (X8_on a1 s) (X9_on a1 t) := by
  intro s t hI a1 r1
  obtain ⟨v0, hc, hs⟩ := cor_of hI
  obtain ⟨n0, lg0, a4, a5⟩ := hc.lg
  unfold X8_on X9_on
  rw [p_noPlace _ r1, q_in _ _ _ r1 ⟨by omega, by omega⟩ ⟨by omega, by omega⟩]
  by_cases h : 0 ≤ a1 ∧ a1 < 3
  · rw [if_pos h, if_pos (by omega)]
    obtain ⟨k, rfl⟩ : ∃ r : Nat, a1 = r := ⟨a1.toNat, by omega⟩
    rcases a5 k (by omega) with ⟨p0, p1⟩ | ⟨p0, n, lg, v, h1, h2, h3, h4, h5, h6, h7⟩
    · simp (disch := omega) only [cLt_t, cLt_f, cEq_t, cEq_f, rdR_ok, rd_ok, wr_ok, put_eq, jn_eq, cl_some, Int.toNat_natCast, p0, p1]
      exact (ok_found cong hI 1 (by decide)).cl
    · have tk := p_ltake (a := 30) (b := 32 + 2 * k) h2 (by omega) (by omega) (by omega)
      obtain ⟨s', e1, e2, e3, e4⟩ := p_restore (s := cpy (up s 30 0 n) (32 + 2 * k + 1) 0 (30 + 1) 0 1189) h5 (n := n) h1 (by rw [cpy_o (by omega), up_eq]) (h6.congr h5 (fun j hj => by rw [cpy_in (by omega) (by omega), up_o (by omega), show 0 + (29 * n + j - 0) = 29 * n + j by omega]))
      have i1 : Hid ((2174 * (k : Int)).toNat = 2174 * k) := Hid.mk (by omega)
      have q1 := q_bring (a := 7) (b := 5) (sp := 2174 * k + 1) (dp := 0) (N := 53) (by decide) (by rw [lnM.2.2.1]; omega) (by rw [lnM.1]; omega) (by omega) (up t 0 6 n)
      rw [show ((2174 * k + 1 : Nat) : Int) = 2174 * (k : Int) + 1 by omega] at q1
      have q1' : X9_bring 7 (2174 * (k : Int) + 1) 5 0 53 (up t 0 6 n) = _ := q1
      have q2 := q_bring (a := 7) (b := 6) (sp := 2174 * k + 1 + 53) (dp := 0) (N := 2120) (by decide) (by rw [lnM.2.2.1]; omega) (by rw [lnM.2.1]; omega) (by omega) (cpy (up t 0 6 n) 7 (2174 * k + 1) 5 0 53)
      rw [show ((2174 * k + 1 + 53 : Nat) : Int) = 2174 * (k : Int) + 1 + 53 by omega] at q2
      have q2' : X9_bring 7 (2174 * (k : Int) + 1 + 53) 6 0 2120 (cpy (up t 0 6 n) 7 (2174 * k + 1) 5 0 53) = _ := q2
      have f30 : s' 30 0 = n := by rw [e2 30 (by omega) (by omega) (by omega), cpy_o (by omega), up_eq]
      have z2 : cpy (cpy (up t 0 6 n) 7 (2174 * k + 1) 5 0 53) 7 (2174 * k + 1 + 53) 6 0 2120 0 6 = n := by rw [cpy_o (by omega), cpy_o (by omega), up_eq]
      simp (disch := omega) only [cLt_t, cLt_f, cEq_t, cEq_f, rdR_ok, rd_ok, wr_ok, put_eq, jn_eq, cl_some, Int.toNat_natCast, p0, h2, tk, e1, f30, i1.out, h3, q1', q2', z2]
      have fs : ∀ b, b ≠ 5 → b ≠ 7 → ¬(38 ≤ b ∧ b ≤ 43) → b ≠ 30 → b ≠ 31 → s' b = s b := fun b c1 c2 c3 c4 c5 => by rw [e2 b c1 c2 c3, cpy_b c5, up_b c4]
      have ft : ∀ b, b ≠ 0 → b ≠ 5 → b ≠ 6 → cpy (cpy (up t 0 6 n) 7 (2174 * k + 1) 5 0 53) 7 (2174 * k + 1 + 53) 6 0 2120 b = t b := fun b c1 c2 c3 => by rw [cpy_b c3, cpy_b c2, up_b c1]
      refine ⟨_, _, _, rfl, rfl, Cor.inv (v := v) (Cor.re (n := n) (lg := lg) hc (fun b hb => fs b (by omega) (by omega) (by omega) (by omega) (by omega)) (fun b hb => ft b (by omega) (by omega) (by omega)) (by rw [cpy_o (by omega), cpy_o (by omega), up_i (by omega)]) (by rw [cpy_o (by omega), cpy_o (by omega), up_i (by omega)]) h5 e4 (h7.congr h5 (fun j hj => by rw [cpy_o (by omega), cpy_in (by omega) (by omega), up_o (by omega), Nat.sub_zero])) ⟨h1, f30, z2, fun i hi => ?_⟩ (fun j hj => (a5 j hj).congr (fs _ (by omega) (by omega) (by omega) (by omega) (by omega)) (fs _ (by omega) (by omega) (by omega) (by omega) (by omega)) (ft 7 (by omega) (by omega) (by omega)) (ft 8 (by omega) (by omega) (by omega)))) (Or.inl e3)⟩
      obtain ⟨c1, c2, c3⟩ := h4 i hi
      refine ⟨c1, c2.congr c1 (fun j hj => ?_), c3.congr c1 (fun j hj => ?_)⟩
      · rw [e2 31 (by omega) (by omega) (by omega), cpy_in (by omega) (by omega), up_o (by omega), show 0 + (29 * i + j - 0) = 29 * i + j by omega]
      · rw [cpy_in (by omega) (by omega), cpy_o (by omega), up_o (by omega), show 2174 * k + 1 + 53 + (53 * i + j - 0) = 2174 * k + 54 + (53 * i + j) by omega]
  · rw [if_neg h, if_neg (by omega)]
    simp (disch := omega) only [cLt_t, cLt_f, cEq_t, cEq_f, rdR_ok, rd_ok, wr_ok, put_eq, jn_eq, cl_some, Int.toNat_natCast]
    exact ok_same _ hI
/-! both documents are exchanged -/
theorem p_take {s : St} {a b : Nat} {d : Doc} (hT : TreeAt s b d) (hn : d.n ≤ 12) (h : a + 2 < b ∨ b + 2 < a) : ∃ s', X6_take a b s = some (0, s') ∧ (∀ c, c ≠ a → c ≠ a + 1 → c ≠ a + 2 → s' c = s c) ∧ TreeAt s' a d := by
  have c1 := cpA_ok (s := up s a 0 d.n) (a := b + 1) (na := 12) (b := a + 1) (nb := 12) (sp := 0) (dp := 0) (n := 12) (k := fun s2 => cpA s2 (b + 2) 12 0 (a + 2) 12 0 12 (fun s3 => some (0, s3))) (by omega) (by omega)
  have c2 := cpA_ok (s := cpy (up s a 0 d.n) (b + 1) 0 (a + 1) 0 12) (a := b + 2) (na := 12) (b := a + 2) (nb := 12) (sp := 0) (dp := 0) (n := 12) (k := fun s3 => some (0, s3)) (by omega) (by omega)
  refine ⟨cpy (cpy (up s a 0 d.n) (b + 1) 0 (a + 1) 0 12) (b + 2) 0 (a + 2) 0 12, ?_, fun c h1 h2 h3 => by rw [cpy_b h3, cpy_b h2, up_b h1], ?_, fun x hx => ?_⟩
  · unfold X6_take
    rw [put_eq, hT.1]
    exact c1.trans c2
  · rw [cpy_o (by omega), cpy_o (by omega), up_eq]
  · have := hT.2 x hx
    rw [cpy_o (c := a + 1) (by omega), cpy_in (by omega) (by omega), cpy_in (by omega) (by omega), up_o (by omega), cpy_o (by omega), up_o (by omega), show 0 + (x - 0) = x by omega]
    exact this
theorem p_exchange {s : St} {v : Vec} (hv : VecOK v) (hC : CSt s v) : ∃ s', X8_exchange s = some (0, s') ∧ (∀ c, ¬(38 ≤ c ∧ c ≤ 46) → s' c = s c) ∧ CSt s' (v.2.1, v.1, v.2.2) := by
  have n0 := hv.1.1.1
  have n1 := hv.2.1.1.1
  obtain ⟨s1, a1, a2, a3⟩ := p_take (a := 44) (b := 38) hC.1 n0 (by omega)
  have t1 : TreeAt s1 41 v.2.1 := hC.2.1.congr (fun b hb => a2 b (by omega) (by omega) (by omega))
  obtain ⟨s2, b1, b2, b3⟩ := p_take (a := 38) (b := 41) t1 n1 (by omega)
  have t2 : TreeAt s2 44 v.1 := a3.congr (fun b hb => b2 b (by omega) (by omega) (by omega))
  obtain ⟨s3, c1, c2, c3⟩ := p_take (a := 41) (b := 44) t2 n0 (by omega)
  refine ⟨s3, ?_, fun c hc => by rw [c2 c (by omega) (by omega) (by omega), b2 c (by omega) (by omega) (by omega), a2 c (by omega) (by omega) (by omega)], b3.congr (fun b hb => c2 b (by omega) (by omega) (by omega)), c3, fun k hk => by rw [c2 7 (by omega) (by omega) (by omega), b2 7 (by omega) (by omega) (by omega), a2 7 (by omega) (by omega) (by omega)]; exact hC.2.2 k hk⟩
  unfold X8_exchange
  simp (disch := omega) only [cLt_t, cLt_f, cEq_t, cEq_f, rdR_ok, rd_ok, wr_ok, put_eq, jn_eq, cl_some, Int.toNat_natCast, a1, b1, c1]
theorem l_turns (k : St → Rs) : ∀ (n i : Nat) (t : St), i ≤ 25 → 25 < i + n → ∃ t', X9_turns_2 k n (i : Int) t = k t' ∧ (∀ b, b ≠ 5 → t' b = t b) ∧ (∀ j, j < i → t' 5 j = t 5 j ∧ t' 5 (25 + j) = t 5 (25 + j)) ∧ (∀ j, i ≤ j → j < 25 → t' 5 j = t 5 (25 + j) ∧ t' 5 (25 + j) = t 5 j) ∧ ∀ j, 50 ≤ j → t' 5 j = t 5 j := by
  intro n
  induction n with
  | zero => intro i t h1 h2; omega
  | succ n ih =>
    intro i t h1 h2
    rw [X9_turns_2]
    by_cases e : i = 25
    · subst e
      refine ⟨t, ?_, fun _ _ => rfl, fun _ _ => ⟨rfl, rfl⟩, fun j a b => by omega, fun _ _ => rfl⟩
      simp (disch := omega) only [cLt_t, cLt_f, cEq_t, cEq_f, rdR_ok, rd_ok, wr_ok, put_eq, jn_eq, cl_some, Int.toNat_natCast]
    · obtain ⟨t', f1, f2, f3, f4, f5⟩ := ih (i + 1) (up (up t 5 i (t 5 (25 + i))) 5 (25 + i) (t 5 i)) (by omega) (by omega)
      have i1 : Hid ((25 + (i : Int)).toNat = 25 + i) := Hid.mk (by omega)
      refine ⟨t', ?_, fun b hb => by rw [f2 b hb, up_b hb, up_b hb], fun j hj => ?_, fun j a b => ?_, fun j hj => ?_⟩
      · simp (disch := omega) only [cLt_t, cLt_f, cEq_t, cEq_f, rdR_ok, rd_ok, wr_ok, put_eq, jn_eq, cl_some, Int.toNat_natCast, i1.out]
        exact f1
      · rw [(f3 j (by omega)).1, (f3 j (by omega)).2, up_i (by omega), up_i (by omega), up_i (by omega), up_i (by omega)]
        exact ⟨rfl, rfl⟩
      · by_cases q : j = i
        · subst q
          rw [(f3 j (by omega)).1, (f3 j (by omega)).2, up_i (by omega), up_eq, up_eq]
          exact ⟨rfl, rfl⟩
        · rw [(f4 j (by omega) b).1, (f4 j (by omega) b).2, up_i (by omega), up_i (by omega), up_i (by omega), up_i (by omega)]
          exact ⟨rfl, rfl⟩
      · rw [f5 j hj, up_i (by omega), up_i (by omega)]
theorem q_turns {t : St} {v : Vec} (hv : VecOK v) (hM : MSt (t 5) v) : ∃ t', X9_turns t = some (0, t') ∧ (∀ b, b ≠ 5 → t' b = t b) ∧ MSt (t' 5) (v.2.1, v.1, v.2.2) := by
  have n0 := hv.1.1.1
  have n1 := hv.2.1.1.1
  have hU := FU_gt
  obtain ⟨t', f1, f2, f3, f4, f5⟩ := l_turns (fun s1 => some (0, s1)) FU 0 t (by omega) (by omega)
  refine ⟨t', f1, f2, ⟨?_, fun x hx => ?_⟩, ⟨?_, fun x hx => ?_⟩, fun k hk => ?_⟩
  · exact (f4 0 (by omega) (by omega)).1.trans hM.2.1.1
  · have hx' : x < v.2.1.n := hx
    have := hM.2.1.2 x hx'
    rw [(f4 (0 + 1 + x) (by omega) (by omega)).1, (f4 (0 + 13 + x) (by omega) (by omega)).1, show 25 + (0 + 1 + x) = 25 + 1 + x by omega, show 25 + (0 + 13 + x) = 25 + 13 + x by omega]
    exact this
  · exact (f4 0 (by omega) (by omega)).2.trans hM.1.1
  · have hx' : x < v.1.n := hx
    have := hM.1.2 x hx'
    rw [show 25 + 1 + x = 25 + (0 + 1 + x) by omega, show 25 + 13 + x = 25 + (0 + 13 + x) by omega, (f4 (0 + 1 + x) (by omega) (by omega)).2, (f4 (0 + 13 + x) (by omega) (by omega)).2]
    exact this
  · rw [f5 _ (by omega)]
    exact hM.2.2 k hk
theorem swap_ok {v : Vec} (hv : VecOK v) : VecOK (v.2.1, v.1, v.2.2) := ⟨hv.2.1, hv.1, hv.2.2⟩
theorem sim_turn : ∀ s t : St, InvS SolX s t → Ok2 (InvS SolX) (X8_turn s) (X9_turn t) := by
  intro s t hI
  obtain ⟨v, hc, hs⟩ := cor_of hI
  obtain ⟨hv, hC, hM⟩ := hc.ok
  unfold X8_turn X9_turn
  rw [p_isWhole hv hC, q_areBoth hv hM]
  by_cases g : 0 < v.1.n ∧ 0 < v.2.1.n
  · rw [if_pos g]
    obtain ⟨n, n1, n2, n3⟩ := rec_inv hc
    by_cases w : n < 40
    · obtain ⟨s1, t1, c1, c2, c3, c4, c5⟩ := rec_sim hc n2 w
      obtain ⟨-, hC1, hM1⟩ := c3.ok
      obtain ⟨s2, d1, d2, d3⟩ := p_exchange hv hC1
      obtain ⟨t2, e1, e2, e3⟩ := q_turns hv hM1
      simp (disch := omega) only [cLt_t, cLt_f, cEq_t, cEq_f, rdR_ok, rd_ok, wr_ok, put_eq, jn_eq, cl_some, Int.toNat_natCast, n2, n3, c1, c2, d1, e1, d3.1.1, q_many0 e3.1]
      refine ⟨_, _, _, rfl, rfl, (c3.vec (swap_ok hv) d3 e3 (fun b b1 b2 b3 b4 b5 => d2 b (by omega)) (fun b b1 b2 b3 => e2 b b3) (fun i hi => by rw [e2 0 (by omega)])).inv (Or.inl ?_)⟩
      rw [d2 5 (by omega)]
      exact c4
    · simp (disch := omega) only [cLt_t, cLt_f, cEq_t, cEq_f, rdR_ok, rd_ok, wr_ok, put_eq, jn_eq, cl_some, Int.toNat_natCast, n2, n3]
      exact ok_same _ hI
  · rw [if_neg g]
    simp (disch := omega) only [cLt_t, cLt_f, cEq_t, cEq_f, rdR_ok, rd_ok, wr_ok, put_eq, jn_eq, cl_some, Int.toNat_natCast]
    exact ok_same _ hI
