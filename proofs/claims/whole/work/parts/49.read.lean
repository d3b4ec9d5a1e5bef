/-! the loop of a reading -/
theorem up_self {t : St} {a i : Nat} {v : Int} (h : t a i = v) : up t a i v = t := by
  funext b j
  unfold up
  split
  · rename_i e
    rw [e.1, e.2, h]
  · rfl
theorem up_up {t : St} {a i : Nat} {v w : Int} : up (up t a i v) a i w = up t a i w := by
  funext b j
  unfold up
  split <;> rfl
theorem here_f {k len : Nat} (hk : k < 4) (hl : len ≤ 60) (g : St → Rs) : ∀ (n m i : Nat) (t : St), t 3 k = len → t 0 12 = i → i ≤ len → len < i + n → len < i + m → X9_here_0 (k : Int) g n t = X9_here_0 (k : Int) g m t := by
  intro n
  induction n with
  | zero => intro m i t h1 h2 h3 h4 h5; omega
  | succ n ih =>
    intro m i t h1 h2 h3 h4 h5
    cases m with
    | zero => omega
    | succ m =>
      rw [X9_here_0, X9_here_0]
      simp (disch := omega) only [cLt_t, cLt_f, cEq_t, cEq_f, rdR_ok, rd_ok, wr_ok, put_eq, jn_eq, cl_some, Int.toNat_natCast, h1, h2]
      by_cases e : i = len
      · simp (disch := omega) only [cLt_t, cLt_f, cEq_t, cEq_f, rdR_ok, rd_ok, wr_ok, put_eq, jn_eq, cl_some, Int.toNat_natCast]
      · simp (disch := omega) only [cLt_t, cLt_f, cEq_t, cEq_f, rdR_ok, rd_ok, wr_ok, put_eq, jn_eq, cl_some, Int.toNat_natCast]
        have := ih m (i + 1) (up t 0 12 ((i : Int) + 1)) (by rw [up_o (by decide)]; exact h1) (by rw [up_eq]; omega) (by omega) (by omega) (by omega)
        rw [this]
theorem here_sp {k len i : Nat} {t : St} (hk : k < 4) (hl : len ≤ 60) (h1 : t 3 k = len) (h2 : t 0 12 = i) (hi : i < len) (h3 : t 4 (60 * k + i) = 32) : X9_here (k : Int) t = X9_here (k : Int) (up t 0 12 ((i + 1 : Nat) : Int)) := by
  have hU := FU_gt
  unfold X9_here
  obtain ⟨F, hF⟩ : ∃ F, FU = F + 1 := ⟨FU - 1, by omega⟩
  rw [hF]
  generalize (fun s1 : St => rd s1 3 4 (k : Int) (fun v2 => cLt (s1 0 12) v2 (rd s1 4 240 ((60 * (k : Int)) + (s1 0 12)) (fun v3 => some (v3, s1))) (some ((-1000), s1)))) = g
  rw [X9_here_0]
  simp (disch := omega) only [cLt_t, cLt_f, cEq_t, cEq_f, rdR_ok, rd_ok, wr_ok, put_eq, jn_eq, cl_some, Int.toNat_natCast, h1, h2]
  rw [show (60 * (k : Int) + (i : Int)).toNat = 60 * k + i by omega, h3]
  simp (disch := omega) only [cLt_t, cLt_f, cEq_t, cEq_f, rdR_ok, rd_ok, wr_ok, put_eq, jn_eq, cl_some, Int.toNat_natCast]
  exact here_f hk hl g F (F + 1) (i + 1) _ (by rw [up_o (by decide)]; exact h1) (by rw [up_eq]; omega) (by omega) (by omega) (by omega)
theorem here_ns {k len i : Nat} {t : St} (hk : k < 4) (hl : len ≤ 60) (h1 : t 3 k = len) (h2 : t 0 12 = i) (hi : i < len) {c : Int} (hc : -128 ≤ c) (hc2 : c ≤ 127) (h3 : t 4 (60 * k + i) = c) (h4 : c ≠ 32) : X9_here (k : Int) t = some (c, t) := by
  have hU := FU_gt
  unfold X9_here
  obtain ⟨F, hF⟩ : ∃ F, FU = F + 1 := ⟨FU - 1, by omega⟩
  rw [hF, X9_here_0]
  simp (disch := omega) only [cLt_t, cLt_f, cEq_t, cEq_f, rdR_ok, rd_ok, wr_ok, put_eq, jn_eq, cl_some, Int.toNat_natCast, h1, h2]
  rw [show (60 * (k : Int) + (i : Int)).toNat = 60 * k + i by omega, h3]
  simp (disch := omega) only [cLt_t, cLt_f, cEq_t, cEq_f, rdR_ok, rd_ok, wr_ok, put_eq, jn_eq, cl_some, Int.toNat_natCast]
theorem here_end {k len : Nat} {t : St} (hk : k < 4) (hl : len ≤ 60) (h1 : t 3 k = len) (h2 : t 0 12 = len) : X9_here (k : Int) t = some (-1000, t) := by
  have hU := FU_gt
  unfold X9_here
  obtain ⟨F, hF⟩ : ∃ F, FU = F + 1 := ⟨FU - 1, by omega⟩
  rw [hF, X9_here_0]
  simp (disch := omega) only [cLt_t, cLt_f, cEq_t, cEq_f, rdR_ok, rd_ok, wr_ok, put_eq, jn_eq, cl_some, Int.toNat_natCast, h1, h2]
theorem reading_here {k : Int} {g : Int → Int → Int → St → Rs} {n : Nat} {a b c d : Int} {t t' : St} (h : X9_here k t = X9_here k t') : X9_reading_20 k g (n + 1) a b c d t = X9_reading_20 k g (n + 1) a b c d t' := by
  rw [X9_reading_20, X9_reading_20, h]
/-! the class's steps -/
theorem p_append {s : St} {a n : Nat} (h : s a 0 = n) (hn : n < 12) (c l : Int) : X6_append a c l s = some (0, up (up (up s (a + 1) n c) (a + 2) n l) a 0 ((n : Int) + 1)) := by
  unfold X6_append
  simp (disch := omega) only [cLt_t, cLt_f, cEq_t, cEq_f, rdR_ok, rd_ok, wr_ok, put_eq, jn_eq, cl_some, Int.toNat_natCast, h, up_o, up_i, up_eq]
theorem p_opens {s : St} {n op : Nat} {c : Int} (h5 : s 9 5 = 1) (h0 : s 47 0 = (n : Int) + 1) (h3 : s 9 3 = op) (hn : n < 12) (ho : op < 12) (hc : s 48 n = c) : X1_opens s = some (1, up (up (up (up (up s 47 0 n) 50 op c) 51 op n) 9 3 ((op : Int) + 1)) 9 5 2) := by
  unfold X1_opens
  rw [h5, h0, h3, show (n : Int) + 1 - 1 = n by omega]
  simp (disch := omega) only [cLt_t, cLt_f, cEq_t, cEq_f, rdR_ok, rd_ok, wr_ok, put_eq, jn_eq, cl_some, Int.toNat_natCast, h3, hc, up_o, up_i, up_eq]
theorem p_closes {s : St} {n op st : Nat} {c la : Int} (h5 : s 9 5 = la) (hla : 0 ≤ la) (hla3 : la ≤ 3) (h2 : la ≠ 2) (h0 : s 47 0 = (n : Int)) (h3 : s 9 3 = (op : Int) + 1) (hn : n < 12) (ho : op < 12) (hc : s 50 op = c) (hs : s 51 op = st) : X1_closes s = some (1, up (up (up (up (up s 9 3 op) 48 n c) 49 n ((n : Int) - st + 1)) 47 0 ((n : Int) + 1)) 9 5 3) := by
  unfold X1_closes
  rw [h5, h3, show (op : Int) + 1 - 1 = op by omega]
  simp (disch := omega) only [cLt_t, cLt_f, cEq_t, cEq_f, rdR_ok, rd_ok, wr_ok, put_eq, jn_eq, cl_some, Int.toNat_natCast, hc, hs, h0, up_o, up_i, up_eq]
  rw [p_append (s := up s 9 3 op) (a := 47) (n := n) (by rw [up_o (by decide)]; exact h0) hn]
  simp (disch := omega) only [cLt_t, cLt_f, cEq_t, cEq_f, rdR_ok, rd_ok, wr_ok, put_eq, jn_eq, cl_some, Int.toNat_natCast]
theorem p_begins {s : St} {n mk op : Nat} {c : Int} (h4 : s 9 4 = mk) (h3 : s 9 3 = op) (h0 : s 47 0 = (n : Int)) (hn : n < 12) (hm : mk < 12) (ho2 : op ≤ 12) (ho : 0 < op ∨ mk = 0) : X1_begins c s = some (1, up (up (up (up (up s 48 n c) 49 n 1) 47 0 ((n : Int) + 1)) 9 4 ((mk : Int) + 1)) 9 5 1) := by
  unfold X1_begins
  rw [h4, h3]
  have e := p_append (s := s) (a := 47) (n := n) h0 hn c 1
  by_cases hz : mk = 0
  · simp (disch := omega) only [cLt_t, cLt_f, cEq_t, cEq_f, rdR_ok, rd_ok, wr_ok, put_eq, jn_eq, cl_some, Int.toNat_natCast, e, h4, up_o, up_i, up_eq]
  · simp (disch := omega) only [cLt_t, cLt_f, cEq_t, cEq_f, rdR_ok, rd_ok, wr_ok, put_eq, jn_eq, cl_some, Int.toNat_natCast, e, h4, up_o, up_i, up_eq]
/-- a whole reading's end on the class's side, on the model's -/
def rdEndC (a : Nat) : St → Rs := fun s5 => cLt 0 (s5 9 4) (cEq (s5 9 3) 0 (some ((-9), s5)) (some (s5 a 0, s5))) (some (s5 a 0, s5))
def rdEndM (k : Int) : Int → Int → Int → St → Rs := fun x3 x4 x5 s6 => jn (fun  (s7 : St) => jn (fun  (s9 : St) => rd s9 3 4 k (fun v11 => some (v11, s9))) (fun k10 => cLt 0 x3 (k10 s7) (cEq x4 0 (k10 s7) (some ((-9), s7))))) (fun k8 => cEq x4 1 (cl (X9_closes x5 (s6 0 13) s6) (fun _ s13 => k8 s13)) (k8 s6))
def RdOut (s t : St) (e f : Rs) : Prop := ∃ (r : Int) (s' t' : St), e = some (r, s') ∧ f = some (r, t') ∧ ScrC s s' ∧ ScrM t t' ∧ -9 ≤ r ∧ r ≤ 60 ∧ (r = -9 → ∃ d : Doc, WF d ∧ 0 < d.n ∧ TreeAt s' 47 d ∧ t' 0 13 = d.n ∧ ∀ x, x < d.n → t' 10 x = d.c x ∧ t' 11 x = d.l x)
theorem RdOut.of {s s1 t t1 : St} {e f : Rs} (h : RdOut s1 t1 e f) (hc : ScrC s s1) (hm : ScrM t t1) : RdOut s t e f := by
  obtain ⟨r, s', t', a, b, c, d, e⟩ := h
  exact ⟨r, s', t', a, b, hc.trans c, hm.trans d, e⟩
theorem rd_end {k len op mk pd : Nat} {la mark : Int} {d : Doc} {sts : Nat → Nat} {s t : St} (hk : k < 4) (hl : len ≤ 60) (hs : s (22 + 2 * k) 0 = len) (ht : t 3 k = len) (hR : RdC s t op mk pd mark d sts) (hL : LaI op mk pd la d) : RdOut s t (rdEndC (22 + 2 * k) s) (rdEndM k op la mark t) := by
  have hR0 := hR
  obtain ⟨⟨h1, h2, h3, h4⟩, h5, h6, h7, h8, ⟨h9, h10, h11⟩, h12, h13⟩ := hR
  unfold rdEndC rdEndM
  simp only [jn_eq]
  have key : ∀ (d : Doc) (t : St), RdC s t op mk 0 mark d sts → op = 0 → 0 < mk → ∃ d : Doc, WF d ∧ 0 < d.n ∧ TreeAt s 47 d ∧ t 0 13 = d.n ∧ ∀ x, x < d.n → t 10 x = d.c x ∧ t 11 x = d.l x := by
    intro d t hR ho hm
    obtain ⟨⟨g1, g2, g3, g4⟩, g5, g6, g7, g8, ⟨g9, g10, g11⟩, g12, g13⟩ := hR
    refine ⟨d, ⟨g8, fun _ => ?_⟩, by omega, ⟨by rw [g4]; omega, fun x hx => ⟨(g5 x hx).2.2.1, (g5 x hx).2.2.2⟩⟩, g3, fun x hx => ⟨(g5 x hx).1, (g5 x hx).2.1⟩⟩
    rcases g13 ho with e | e
    · omega
    · exact e.2
  rcases hL with ⟨e1, e2, e3⟩ | ⟨e1, e2⟩ | ⟨e1, e2, e3⟩ | ⟨e1, e2, e3⟩
  · subst e1 e2 e3
    simp (disch := omega) only [cLt_t, cLt_f, cEq_t, cEq_f, rdR_ok, rd_ok, wr_ok, put_eq, jn_eq, cl_some, Int.toNat_natCast, h2, hs, ht]
    exact ⟨len, s, t, rfl, rfl, ScrC.rfl, ScrM.rfl, by omega, by omega, fun e => by omega⟩
  · subst e1 e2
    have hf := rd_flush (mark' := mark) hR0
    by_cases ho : op = 0
    · subst ho
      simp (disch := omega) only [cLt_t, cLt_f, cEq_t, cEq_f, rdR_ok, rd_ok, wr_ok, put_eq, jn_eq, cl_some, Int.toNat_natCast, h1, h2, hs, h3, q_closes h3 (show d.n < 12 by omega)]
      exact ⟨-9, s, _, rfl, rfl, ScrC.rfl, scr_nodeM, by omega, by omega, fun _ => key _ _ hf.1 rfl (by omega)⟩
    · have ht' : nodeM t d.n mark d.n 3 k = len := by
        unfold nodeM
        simp (disch := omega) only [fil_o, up_o, fil_out, fil_in, up_i, up_eq]
        exact ht
      simp (disch := omega) only [cLt_t, cLt_f, cEq_t, cEq_f, rdR_ok, rd_ok, wr_ok, put_eq, jn_eq, cl_some, Int.toNat_natCast, h1, h2, hs, h3, q_closes h3 (show d.n < 12 by omega), ht']
      exact ⟨len, s, _, rfl, rfl, ScrC.rfl, scr_nodeM, by omega, by omega, fun e => by omega⟩
  · subst e1 e2
    simp (disch := omega) only [cLt_t, cLt_f, cEq_t, cEq_f, rdR_ok, rd_ok, wr_ok, put_eq, jn_eq, cl_some, Int.toNat_natCast, h1, h2, hs, ht]
    exact ⟨len, s, t, rfl, rfl, ScrC.rfl, ScrM.rfl, by omega, by omega, fun e => by omega⟩
  · subst e1 e2
    by_cases ho : op = 0
    · subst ho
      simp (disch := omega) only [cLt_t, cLt_f, cEq_t, cEq_f, rdR_ok, rd_ok, wr_ok, put_eq, jn_eq, cl_some, Int.toNat_natCast, h1, h2, hs, ht]
      exact ⟨-9, s, t, rfl, rfl, ScrC.rfl, ScrM.rfl, by omega, by omega, fun _ => key _ _ hR0 rfl (by omega)⟩
    · simp (disch := omega) only [cLt_t, cLt_f, cEq_t, cEq_f, rdR_ok, rd_ok, wr_ok, put_eq, jn_eq, cl_some, Int.toNat_natCast, h1, h2, hs, ht]
      exact ⟨len, s, t, rfl, rfl, ScrC.rfl, ScrM.rfl, by omega, by omega, fun e => by omega⟩
