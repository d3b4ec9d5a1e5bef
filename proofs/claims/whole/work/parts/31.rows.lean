/-! rows, texts, findings: the states that belong together; RS stands for the rest (documents, prices, changes, saved states, ways) -/
def RRow (s t : St) : Prop := ∀ r : Nat, r < 6 → s (10 + 2 * r) 0 = t 1 r ∧ -1 ≤ t 1 r ∧ t 1 r ≤ 40 ∧ ∀ i : Nat, (i : Int) < t 1 r → s (10 + 2 * r + 1) i = t 2 (40 * r + i)
def RTxt (s t : St) : Prop := ∀ k : Nat, k < 4 → s (22 + 2 * k) 0 = t 3 k ∧ -1 ≤ t 3 k ∧ t 3 k ≤ 60 ∧ ∀ i : Nat, (i : Int) < t 3 k → s (22 + 2 * k + 1) i = t 4 (60 * k + i) ∧ -128 ≤ t 4 (60 * k + i) ∧ t 4 (60 * k + i) ≤ 127
def RFnd (s t : St) : Prop := s 0 9 = t 0 10 ∧ s 0 10 = t 0 9 ∧ ∀ f : Nat, f < 6 → s 1 f = t 9 f
def InvG (RS : St → St → Prop) (s t : St) : Prop := RRow s t ∧ RTxt s t ∧ RFnd s t ∧ RS s t
def CongS (RS : St → St → Prop) : Prop := ∀ s s' t t' : St, (∀ b, (5 ≤ b ∧ b < 10) ∨ 30 ≤ b → s' b = s b) → (∀ b, 5 ≤ b ∧ b ≤ 8 → t' b = t b) → t' 0 6 = t 0 6 → RS s t → RS s' t'
theorem up_b {s : St} {a i : Nat} {v : Int} {b : Nat} (h : b ≠ a) : up s a i v b = s b := up_ne h
theorem fil_b {s : St} {a lo hi : Nat} {v : Int} {b : Nat} (h : b ≠ a) : fil s a lo hi v b = s b := by funext j; exact fil_o h
section SMALL
variable {RS : St → St → Prop}
theorem inv_tell (hc : CongS RS) {s t : St} (h : InvG RS s t) (v : Int) : InvG RS (up s 0 10 v) (up t 0 9 v) := by
  obtain ⟨h1, h2, h3, h4⟩ := h
  refine ⟨fun r hr => ?_, fun k hk => ?_, ?_, ?_⟩
  · have := h1 r hr
    simp (disch := omega) only [up_o]
    exact this
  · have := h2 k hk
    simp (disch := omega) only [up_o]
    exact this
  · refine ⟨?_, ?_, fun f hf => ?_⟩
    · rw [up_i (by decide), up_i (by decide)]; exact h3.1
    · rw [up_eq, up_eq]
    · rw [up_o (by decide), up_o (by decide)]; exact h3.2.2 f hf
  · exact hc s _ t _ (fun b hb => up_b (by omega)) (fun b hb => up_b (by omega)) (up_i (by decide)) h4
theorem inv_found (hc : CongS RS) {s t : St} (h : InvG RS s t) (f : Nat) (hf : f < 6) : InvG RS (up (up s 0 9 f) 1 f (s 1 f + 1)) (up (up t 0 10 f) 9 f (t 9 f + 1)) := by
  obtain ⟨h1, h2, h3, h4⟩ := h
  refine ⟨fun r hr => ?_, fun k hk => ?_, ?_, ?_⟩
  · have := h1 r hr
    simp (disch := omega) only [up_o]
    exact this
  · have := h2 k hk
    simp (disch := omega) only [up_o]
    exact this
  · refine ⟨?_, ?_, fun g hg => ?_⟩
    · simp (disch := omega) only [fil_o, up_o, fil_out, fil_in, up_i, up_eq]
    · simp (disch := omega) only [fil_o, up_o, fil_out, fil_in, up_i, up_eq]; exact h3.2.1
    · by_cases e : g = f
      · subst e; rw [up_eq, up_eq, h3.2.2 g hg]
      · rw [up_i e, up_i e, up_o (by decide), up_o (by decide)]; exact h3.2.2 g hg
  · exact hc s _ t _ (fun b hb => by rw [up_b (by omega), up_b (by omega)]) (fun b hb => by rw [up_b (by omega), up_b (by omega)]) (by rw [up_o (by decide), up_i (by decide)]) h4
theorem q_found {f : Nat} (h1 : f < 6) (s : St) : X9_found (f : Int) s = some (-3, up (up s 0 10 f) 9 f (s 9 f + 1)) := by
  unfold X9_found
  simp (disch := omega) only [put_eq, rd_ok, wr_ok, Int.toNat_natCast, up_o (a := 0) (b := 9), ne_eq, not_false_eq_true]
theorem p_foundN {f : Nat} (h1 : f < 6) (s : St) : X8_found (f : Int) s = some (-3, up (up s 0 9 f) 1 f (s 1 f + 1)) := by
  rw [p_found (by omega) (by omega)]
  simp only [Int.toNat_natCast]
/-- both sides tell a finding -/
theorem ok_found (hc : CongS RS) {s t : St} (h : InvG RS s t) (f : Nat) (hf : f < 6) : Ok2 (InvG RS) (X8_found (f : Int) s) (X9_found (f : Int) t) := ⟨-3, _, _, p_foundN hf s, q_found hf t, inv_found hc h f hf⟩
theorem Ok2.cl {Inv : St → St → Prop} {e f : Rs} (h : Ok2 Inv e f) : Ok2 Inv (cl e (fun v s => some (v, s))) (cl f (fun v s => some (v, s))) := by
  obtain ⟨r, s', t', h1, h2, h3⟩ := h
  exact ⟨r, s', t', by rw [h1]; rfl, by rw [h2]; rfl, h3⟩
theorem ok_same {Inv : St → St → Prop} {s t : St} (r : Int) (h : Inv s t) : Ok2 Inv (some (r, s)) (some (r, t)) := ⟨r, s, t, rfl, rfl, h⟩
theorem l_begin (a : Nat) (k : St → Rs) : ∀ (n i : Nat) (s : St), i ≤ 40 → 40 < i + n → X2_begin_7 a k n i s = k (fil s (a + 1) i 40 0) := by
  intro n
  induction n with
  | zero => intro i s h1 h2; omega
  | succ n ih =>
    intro i s h1 h2
    rw [X2_begin_7]
    by_cases h : i = 40
    · subst h
      rw [cLt_f (by omega) (by omega) (by omega), fil_nil]
    · rw [cLt_t (by omega) (by omega) (by omega), wr_ok (by omega) (by omega), Int.toNat_natCast]
      have := ih (i + 1) (up s (a + 1) i 0) (by omega) (by omega)
      rw [show ((i : Int) + 1) = ((i + 1 : Nat) : Int) by omega, this, fil_up (by omega)]
theorem l_makes (r : Nat) (hr : r < 6) (n0 : Nat) (hn0 : n0 ≤ 40) (k : St → Rs) : ∀ (n i : Nat) (s : St), i ≤ n0 → n0 < i + n → X9_makesRow_9 (r : Int) (n0 : Int) k n i s = k (fil s 2 (40 * r + i) (40 * r + n0) 0) := by
  intro n
  induction n with
  | zero => intro i s h1 h2; omega
  | succ n ih =>
    intro i s h1 h2
    rw [X9_makesRow_9]
    by_cases h : i = n0
    · subst h
      rw [cLt_f (by omega) (by omega) (by omega), fil_nil]
    · rw [cLt_t (by omega) (by omega) (by omega), wr_ok (by omega) (by omega)]
      have e1 : (40 * (r : Int) + (i : Int)).toNat = 40 * r + i := by omega
      have := ih (i + 1) (up s 2 (40 * r + i) 0) (by omega) (by omega)
      rw [e1, show ((i : Int) + 1) = ((i + 1 : Nat) : Int) by omega, this]
      have e2 := fil_up (s := s) (a := 2) (lo := 40 * r + i) (hi := 40 * r + n0) (v := 0) (by omega)
      rw [show 40 * r + (i + 1) = 40 * r + i + 1 by omega, e2]
theorem FU_gt : 3000 < FU := by decide
theorem sim_row (hc : CongS RS) : ∀ s t : St, InvG RS s t → ∀ a1 : Int, inR a1 → ∀ a2 : Int, inR a2 → Ok2 (InvG RS) (X8_row a1 a2 s) (X9_row a1 a2 t) := by
  intro s t hI a1 r1 a2 r2
  unfold X8_row X9_row
  rw [p_noRow a1 r1, q_isRow a1 r1]
  by_cases h : 0 ≤ a1 ∧ a1 < 6
  · rw [if_pos h, if_pos h]
    by_cases h40 : 40 < a2
    · simp (disch := omega) only [cLt_t, cLt_f, cEq_t, cEq_f, rdR_ok, rd_ok, wr_ok, put_eq, jn_eq, cl_some, Int.toNat_natCast]
      exact ok_same _ hI
    · by_cases h0 : a2 < 0
      · simp (disch := omega) only [cLt_t, cLt_f, cEq_t, cEq_f, rdR_ok, rd_ok, wr_ok, put_eq, jn_eq, cl_some, Int.toNat_natCast]
        exact (ok_found hc hI 5 (by decide)).cl
      · simp (disch := omega) only [cLt_t, cLt_f, cEq_t, cEq_f, rdR_ok, rd_ok, wr_ok, put_eq, jn_eq, cl_some, Int.toNat_natCast]
        obtain ⟨r, rfl⟩ : ∃ r : Nat, a1 = r := ⟨a1.toNat, by omega⟩
        obtain ⟨m, rfl⟩ : ∃ m : Nat, a2 = m := ⟨a2.toNat, by omega⟩
        have hF := FU_gt
        unfold X2_begin X9_makesRow
        rw [put_eq, wr_ok (by omega) (by omega), Int.toNat_natCast]
        have e1 := l_begin (10 + 2 * r) (fun s2 => some (0, s2)) FU 0 (up s (10 + 2 * r) 0 m) (by omega) (by omega)
        have e2 := l_makes r (by omega) m (by omega) (fun s2 => some (0, s2)) FU 0 (up t 1 r m) (by omega) (by omega)
        rw [show ((0 : Nat) : Int) = 0 from rfl] at e1 e2
        rw [e1, e2]
        simp only [cl_some]
        refine ⟨m, _, _, rfl, rfl, ?_⟩
        obtain ⟨h1, h2, h3, h4⟩ := hI
        refine ⟨fun q hq => ?_, fun k hk => ?_, ?_, ?_⟩
        · by_cases e : q = r
          · subst e
            rw [fil_o (by omega), up_eq, fil_o (by omega), up_eq]
            refine ⟨rfl, by omega, by omega, fun i hi => ?_⟩
            rw [fil_in (by omega) (by omega), fil_in (by omega) (by omega)]
          · have := h1 q hq
            rw [fil_o (by omega), up_o (by omega), fil_o (by omega), up_i (by omega)]
            refine ⟨this.1, this.2.1, this.2.2.1, fun i hi => ?_⟩
            rw [fil_o (by omega), up_o (by omega), fil_out (by omega), up_o (by omega)]
            exact this.2.2.2 i hi
        · have := h2 k hk
          simp (disch := omega) only [fil_o, up_o]
          exact this
        · refine ⟨?_, ?_, fun f hf => ?_⟩
          · simp (disch := omega) only [fil_o, up_o]; exact h3.1
          · simp (disch := omega) only [fil_o, up_o]; exact h3.2.1
          · simp (disch := omega) only [fil_o, up_o]; exact h3.2.2 f hf
        · refine hc s _ t _ (fun b hb => ?_) (fun b hb => ?_) ?_ h4
          · rw [fil_b (by omega), up_b (by omega)]
          · rw [fil_b (by omega), up_b (by omega)]
          · rw [fil_o (by omega), up_o (by omega)]
  · rw [if_neg h, if_neg h]
    simp (disch := omega) only [cLt_t, cLt_f, cEq_t, cEq_f, rdR_ok, rd_ok, wr_ok, put_eq, jn_eq, cl_some, Int.toNat_natCast]
    exact ok_same _ hI
end SMALL
