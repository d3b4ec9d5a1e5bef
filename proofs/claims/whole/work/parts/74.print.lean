/-! the class prints -/
def atL (L : List Int) (k : Nat) : Int := (L[k]?).getD 0
theorem atL_l {L M : List Int} {k : Nat} (h : k < L.length) : atL (L ++ M) k = atL L k := by
  unfold atL
  rw [List.getElem?_append_left h]
theorem atL_e {L : List Int} {e : Int} : atL (L ++ [e]) L.length = e := by
  unfold atL
  rw [List.getElem?_append_right (Nat.le_refl _), Nat.sub_self]
  rfl
def TxL (s : St) (a : Nat) (L : List Int) : Prop := s a 0 = L.length ∧ ∀ k, k < L.length → s (a + 1) k = atL L k
def FA (a : Nat) (s s' : St) : Prop := ∀ b, b ≠ a → b ≠ a + 1 → s' b = s b
theorem FA.rfl {a : Nat} {s : St} : FA a s s := fun _ _ _ => Eq.refl _
theorem FA.trans {a : Nat} {x y z : St} (h : FA a x y) (g : FA a y z) : FA a x z := fun b h1 h2 => (g b h1 h2).trans (h b h1 h2)
theorem p_put {s : St} {a : Nat} {L : List Int} (h : TxL s a L) (hl : L.length < 60) {c : Int} (h1 : 0 ≤ c) (h2 : c ≤ 127) : ∃ s', X5_append a c s = some (0, s') ∧ FA a s s' ∧ TxL s' a (L ++ [c]) := by
  have nb : nb8 c = c := by
    rw [nb8_eq, bm_256]
    split <;> omega
  refine ⟨up (up s (a + 1) L.length c) a 0 ((L.length : Int) + 1), ?_, fun b b1 b2 => by rw [up_b b1, up_b b2], ?_, fun k hk => ?_⟩
  · unfold X5_append
    have := h.1
    simp (disch := omega) only [cLt_t, cLt_f, cEq_t, cEq_f, rdR_ok, rd_ok, wr_ok, put_eq, jn_eq, cl_some, Int.toNat_natCast, this, nb, up_o]
  · rw [up_eq, List.length_append]
    rfl
  · rw [List.length_append] at hk
    simp only [List.length_cons, List.length_nil] at hk
    by_cases e : k = L.length
    · subst e
      rw [atL_e]
      simp (disch := omega) only [fil_o, up_o, fil_out, fil_in, up_i, up_eq]
    · rw [atL_l (by omega)]
      simp (disch := omega) only [fil_o, up_o, fil_out, fil_in, up_i, up_eq]
      exact h.2 k (by omega)
section PRINT
variable {d : Doc} {a b : Nat}
theorem lab_b {c : Int} (h : lab c) : 0 ≤ c ∧ c ≤ 127 := by omega
def tlD (d : Doc) (x m : Nat) : List Int := if m = x then [] else opn d x (x + 1) m ++ [d.c x]
theorem l_down (hF : Fst d) (hab : a + 1 < b) {x : Nat} (hx : x < d.n) (hlx : d.l x = x) (k : St → Rs) : ∀ (n m : Nat) (s : St) (L : List Int), x ≤ m → m ≤ d.n → m < x + n → TreeAt s b d → TxL s a L → L.length + (tlD d x m).length ≤ 60 → ∃ s', X5_printDownTo_7 a (x : Int) b k n ((m : Int) - 1) s = k s' ∧ FA a s s' ∧ TxL s' a (L ++ tlD d x m) := by
  have hn := hF.1
  intro n
  induction n with
  | zero => intro m s L h1 h2 h3; omega
  | succ n ih =>
    intro m s L h1 h2 h3 hT hL hb
    rw [X5_printDownTo_7]
    by_cases e : m = x
    · subst e
      refine ⟨s, ?_, FA.rfl, ?_⟩
      · simp (disch := omega) only [cLt_t, cLt_f, cEq_t, cEq_f, rdR_ok, rd_ok, wr_ok, put_eq, jn_eq, cl_some, Int.toNat_natCast]
      · rw [tlD, if_pos rfl, List.append_nil]
        exact hL
    · obtain ⟨y, rfl⟩ : ∃ w, m = w + 1 := ⟨m - 1, by omega⟩
      have e1 : ((y + 1 : Nat) : Int) - 1 = y := by omega
      have e2 : (y : Int) + -1 = (y : Int) - 1 := by omega
      have pl := p_leftmost hT hn (x := y) (by omega)
      have cy := (hT.2 y (by omega)).1
      have lb := lab_b (hF.2.1 y (by omega)).1
      have ly := (hF.2.1 y (by omega)).2
      rw [tlD, if_neg e, opn] at hb ⊢
      rw [e1]
      by_cases q : y = x
      · subst q
        rw [if_neg (by omega)] at hb ⊢
        obtain ⟨s1, a1, a2, a3⟩ := p_put hL (by simp only [List.nil_append, List.length_cons, List.length_nil] at hb; omega) lb.1 lb.2
        have ih' := ih y s1 (L ++ [d.c y]) (Nat.le_refl _) (by omega) (by omega) (hT.congr (fun c hc => a2 c (by omega) (by omega))) a3 (by rw [tlD, if_pos rfl, List.length_append]; simp only [List.nil_append, List.length_cons, List.length_nil] at hb ⊢; omega)
        obtain ⟨s', f1, f2, f3⟩ := ih'
        refine ⟨s', ?_, a2.trans f2, ?_⟩
        · simp (disch := omega) only [cLt_t, cLt_f, cEq_t, cEq_f, rdR_ok, rd_ok, wr_ok, put_eq, jn_eq, cl_some, Int.toNat_natCast, pl, hlx, cy, a1, e2]
          exact f1
        · rw [tlD, if_pos rfl, List.append_nil] at f3
          exact f3
      · rw [if_pos (c := x + 1 ≤ y) (by omega)] at hb ⊢
        have ty : tlD d x y = opn d x (x + 1) y ++ [d.c x] := if_neg q
        by_cases r : d.l y = x
        · rw [if_pos (c := d.l y = x) r] at hb ⊢
          simp only [List.length_append, List.length_cons, List.length_nil] at hb
          obtain ⟨s1, a1, a2, a3⟩ := p_put hL (by omega) lb.1 lb.2
          obtain ⟨s2, b1, b2, b3⟩ := p_put a3 (by simp only [List.length_append, List.length_cons, List.length_nil]; omega) (c := 40) (by omega) (by omega)
          obtain ⟨s', f1, f2, f3⟩ := ih y s2 (L ++ [d.c y] ++ [40]) (by omega) (by omega) (by omega) ((hT.congr (fun c hc => a2 c (by omega) (by omega))).congr (fun c hc => b2 c (by omega) (by omega))) b3 (by rw [ty]; simp only [List.length_append, List.length_cons, List.length_nil]; omega)
          refine ⟨s', ?_, (a2.trans b2).trans f2, ?_⟩
          · simp (disch := omega) only [cLt_t, cLt_f, cEq_t, cEq_f, rdR_ok, rd_ok, wr_ok, put_eq, jn_eq, cl_some, Int.toNat_natCast, pl, cy, a1, b1, e2]
            exact f1
          · rw [ty] at f3
            simp only [List.append_assoc, List.cons_append, List.nil_append] at f3 ⊢
            exact f3
        · rw [if_neg (c := d.l y = x) r, List.nil_append] at hb ⊢
          obtain ⟨s', f1, f2, f3⟩ := ih y s L (by omega) (by omega) (by omega) hT hL (by rw [ty]; exact hb)
          refine ⟨s', ?_, f2, ?_⟩
          · simp (disch := omega) only [cLt_t, cLt_f, cEq_t, cEq_f, rdR_ok, rd_ok, wr_ok, put_eq, jn_eq, cl_some, Int.toNat_natCast, pl, e2]
            exact f1
          · rw [ty] at f3
            exact f3
theorem clsO_mono {x : Nat} : ∀ m, (clsO d x).length ≤ (clsO d (x + m)).length
  | 0 => Nat.le_refl _
  | m + 1 => by
    have := clsO_mono (x := x) m
    rw [← Nat.add_assoc, clsO, List.length_append]
    omega
theorem l_print (hF : Fst d) (hab : a + 1 < b) (hl : (clsO d d.n).length ≤ 60) (k : St → Rs) : ∀ (n x : Nat) (s : St), x ≤ d.n → d.n < x + n → TreeAt s b d → TxL s a (clsO d x) → ∃ s', X5_print_7 a b k n (x : Int) s = k s' ∧ FA a s s' ∧ TxL s' a (clsO d d.n) := by
  have hn := hF.1
  have hU := FU_gt
  intro n
  induction n with
  | zero => intro x s h1 h2; omega
  | succ n ih =>
    intro x s h1 h2 hT hL
    rw [X5_print_7, hT.1]
    by_cases e : x = d.n
    · subst e
      refine ⟨s, ?_, FA.rfl, hL⟩
      simp (disch := omega) only [cLt_t, cLt_f, cEq_t, cEq_f, rdR_ok, rd_ok, wr_ok, put_eq, jn_eq, cl_some, Int.toNat_natCast]
    · have mo := clsO_mono (d := d) (x := x + 1) (d.n - (x + 1))
      rw [show x + 1 + (d.n - (x + 1)) = d.n by omega] at mo
      have sp := (hT.2 x (by omega)).2
      have lx := (hF.2.1 x (by omega)).2
      have cs : clsO d (x + 1) = clsO d x ++ (if d.l x < x then [41] else opn d x (x + 1) d.n ++ [d.c x]) := rfl
      by_cases q : d.l x < x
      · rw [if_pos q] at cs
        rw [cs, List.length_append] at mo
        simp only [List.length_cons, List.length_nil] at mo
        obtain ⟨s1, a1, a2, a3⟩ := p_put hL (by omega) (c := 41) (by omega) (by omega)
        obtain ⟨s', f1, f2, f3⟩ := ih (x + 1) s1 (by omega) (by omega) (hT.congr (fun c hc => a2 c (by omega) (by omega))) (by rw [cs]; exact a3)
        refine ⟨s', ?_, a2.trans f2, f3⟩
        simp (disch := omega) only [cLt_t, cLt_f, cEq_t, cEq_f, rdR_ok, rd_ok, wr_ok, put_eq, jn_eq, cl_some, Int.toNat_natCast, sp, a1]
        exact f1
      · rw [if_neg q] at cs
        rw [cs, List.length_append] at mo
        have ed : tlD d x d.n = opn d x (x + 1) d.n ++ [d.c x] := if_neg (by omega)
        obtain ⟨s1, a1, a2, a3⟩ := l_down hF hab (x := x) (by omega) (by omega) (fun s1 => some (0, s1)) FU d.n s (clsO d x) (by omega) (Nat.le_refl _) (by omega) hT hL (by rw [ed]; omega)
        rw [ed] at a3
        obtain ⟨s', f1, f2, f3⟩ := ih (x + 1) s1 (by omega) (by omega) (hT.congr (fun c hc => a2 c (by omega) (by omega))) (by rw [cs]; exact a3)
        have a1' : X5_printDownTo a (x : Int) b s = some (0, s1) := by
          unfold X5_printDownTo
          rw [hT.1]
          exact a1
        refine ⟨s', ?_, a2.trans f2, f3⟩
        simp (disch := omega) only [cLt_t, cLt_f, cEq_t, cEq_f, rdR_ok, rd_ok, wr_ok, put_eq, jn_eq, cl_some, Int.toNat_natCast, sp, a1']
        exact f1
theorem p_print {s : St} (hT : TreeAt s b d) (hF : Fst d) (hab : a + 1 < b) : ∃ s', X5_print a b s = some (((str d (fun _ => true) 0 d.n).length : Int), s') ∧ FA a s s' ∧ TxL s' a (str d (fun _ => true) 0 d.n) := by
  have hn := hF.1
  have hU := FU_gt
  have sl := str_len (P := fun _ => true) hF d.n d.n 0 (Nat.le_refl _) (Nat.le_refl _) (fun y _ _ _ => by omega)
  have ce := cls_str hF
  have f0 : FA a s (up s a 0 0) := fun c c1 c2 => up_b c1
  obtain ⟨s', f1, f2, f3⟩ := l_print hF hab (by rw [ce]; omega) (fun s2 => some (s2 a 0, s2)) FU 0 (up s a 0 0) (by omega) (by omega) (hT.congr (fun c hc => f0 c (by omega) (by omega))) ⟨up_eq, fun k hk => absurd hk (Nat.not_lt_zero k)⟩
  rw [ce] at f3
  refine ⟨s', ?_, f0.trans f2, f3⟩
  unfold X5_print
  rw [put_eq]
  refine f1.trans ?_
  rw [f3.1]
end PRINT
