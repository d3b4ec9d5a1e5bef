/-! the model writes -/
def TxM (t : St) (L : List Int) : Prop := t 0 19 = L.length ∧ ∀ k, k < L.length → t 14 k = atL L k
def FQ (t t' : St) : Prop := (∀ b, b ≠ 0 → b ≠ 14 → b ≠ 16 → t' b = t b) ∧ ∀ i, i ≠ 19 → t' 0 i = t 0 i
theorem FQ.rfl {s : St} : FQ s s := ⟨fun _ _ _ _ => Eq.refl _, fun _ _ => Eq.refl _⟩
theorem FQ.trans {a b c : St} (h : FQ a b) (g : FQ b c) : FQ a c := ⟨fun x h1 h2 h3 => (g.1 x h1 h2 h3).trans (h.1 x h1 h2 h3), fun i hi => (g.2 i hi).trans (h.2 i hi)⟩
theorem q_put {t : St} {L : List Int} (h : TxM t L) (hl : L.length < 60) (c : Int) : ∃ t', X9_writes c t = some (0, t') ∧ FQ t t' ∧ (∀ i, t' 16 i = t 16 i) ∧ TxM t' (L ++ [c]) := by
  refine ⟨up (up t 14 L.length c) 0 19 ((L.length : Int) + 1), ?_, ⟨fun b b1 b2 b3 => by rw [up_b b1, up_b b2], fun i hi => by rw [up_i hi, up_o (by omega)]⟩, fun i => by rw [up_o (by omega), up_o (by omega)], ?_, fun k hk => ?_⟩
  · unfold X9_writes
    have := h.1
    simp (disch := omega) only [cLt_t, cLt_f, cEq_t, cEq_f, rdR_ok, rd_ok, wr_ok, put_eq, jn_eq, cl_some, Int.toNat_natCast, this, up_o]
  · rw [up_eq, List.length_append]
    rfl
  · rw [List.length_append] at hk
    simp only [List.length_cons, List.length_nil] at hk
    by_cases e : k = L.length
    · subst e
      rw [atL_e]
      simp (disch := omega) only [fil_o, up_o, fil_out, fil_in, up_i, up_eq]
    · rw [atL_l (by omega)]
      simp (disch := omega) only [fil_o, up_o, fil_out, fil_in, up_i, up_eq]
      exact h.2 k (by omega)
def DocLk (A : Nat → Int) (o : Nat) (d : Doc) : Prop := ∃ d0 : Doc, DocAt A o d0 ∧ d0.n = d.n ∧ d0.l = d.l
theorem DocAt.lk {A : Nat → Int} {o : Nat} {d : Doc} (h : DocAt A o d) : DocLk A o d := ⟨d, h, rfl, rfl⟩
theorem q_leftK {t : St} {k : Nat} {d : Doc} (hk : k < 2) (hD : DocLk (t 5) (25 * k) d) (hn : d.n ≤ 12) {x : Nat} (hx : x < d.n) : X9_leftOf (k : Int) (x : Int) t = some ((d.l x : Int), t) := by
  obtain ⟨d0, h1, h2, h3⟩ := hD
  rw [q_leftOf hk h1 (by omega) (x := x) (by omega), h3]
theorem q_manyK {t : St} {k : Nat} {d : Doc} (hk : k < 2) (hD : DocLk (t 5) (25 * k) d) : X9_many (k : Int) t = some ((d.n : Int), t) := by
  obtain ⟨d0, h1, h2, h3⟩ := hD
  rw [q_many hk h1, h2]
section WRITES
variable {t : St} {d : Doc} {k m : Nat}
abbrev tb (m : Nat) : Nat → Bool := fun y => m.testBit y
def FstF (d : Doc) (P : Nat → Bool) (lo c : Nat) (f : Int) : Prop := (f = -9 ∧ ∀ y, lo ≤ y → y < c → P y = false) ∨ ∃ x : Nat, f = (x : Int) ∧ lo ≤ x ∧ x < c ∧ P x = true ∧ lo ≤ d.l x ∧ (∀ y, lo ≤ y → y < d.l x → P y = false) ∧ ∀ y, x < y → y < c → P y = true → x < d.l y
theorem l_first (hk : k < 2) (hD : DocLk (t 5) (25 * k) d) (hF : Fst d) (hm : m < 4096) {lo h : Nat} (hh : h ≤ d.n) (hg : ∀ y, lo ≤ y → y < h → tb m y = true → lo ≤ d.l y) (g : Int → St → Rs) : ∀ (n c : Nat) (f : Int), lo ≤ c → c ≤ h → h < c + n → FstF d (tb m) lo c f → ∃ r, X9_firstFrom_7 (k : Int) (m : Int) (lo : Int) ((h : Int) - 1) g n f (c : Int) t = g r t ∧ FstF d (tb m) lo h r := by
  have hn := hF.1
  intro n
  induction n with
  | zero => intro c f h1 h2 h3; omega
  | succ n ih =>
    intro c f h1 h2 h3 hf
    rw [X9_firstFrom_7]
    by_cases e : c = h
    · subst e
      refine ⟨f, ?_, hf⟩
      simp (disch := omega) only [cLt_t, cLt_f, cEq_t, cEq_f, rdR_ok, rd_ok, wr_ok, put_eq, jn_eq, cl_some, Int.toNat_natCast]
    · have qh := q_has hm (k := c) (by omega) t
      have lc := q_leftK hk hD hn (x := c) (by omega)
      have ll := (hF.2.1 c (by omega)).2
      by_cases p : m.testBit c = true
      · rw [if_pos p] at qh
        have lg := hg c h1 (by omega) p
        rcases hf with ⟨q1, q2⟩ | ⟨x, q1, q2, q3, q4, q5, q6, q7⟩
        · subst q1
          obtain ⟨r, f1, f2⟩ := ih (c + 1) (c : Int) (by omega) (by omega) (by omega) (Or.inr ⟨c, rfl, h1, by omega, p, lg, fun y a b => q2 y a (by omega), fun y a b => by omega⟩)
          refine ⟨r, ?_, f2⟩
          simp (disch := omega) only [cLt_t, cLt_f, cEq_t, cEq_f, rdR_ok, rd_ok, wr_ok, put_eq, jn_eq, cl_some, Int.toNat_natCast, qh, lc]
          exact f1
        · subst q1
          have lx := q_leftK hk hD hn (x := x) (by omega)
          have llx := (hF.2.1 x (by omega)).2
          by_cases w : d.l c ≤ x
          · have nest := hF.2.2 c x (by omega) q3 w
            obtain ⟨r, f1, f2⟩ := ih (c + 1) (c : Int) (by omega) (by omega) (by omega) (Or.inr ⟨c, rfl, h1, by omega, p, lg, fun y a b => q6 y a (by omega), fun y a b => by omega⟩)
            refine ⟨r, ?_, f2⟩
            simp (disch := omega) only [cLt_t, cLt_f, cEq_t, cEq_f, rdR_ok, rd_ok, wr_ok, put_eq, jn_eq, cl_some, Int.toNat_natCast, qh, lc, lx]
            exact f1
          · obtain ⟨r, f1, f2⟩ := ih (c + 1) (x : Int) (by omega) (by omega) (by omega) (Or.inr ⟨x, rfl, q2, by omega, q4, q5, q6, fun y a b c1 => by
              by_cases ey : y = c
              · subst ey; omega
              · exact q7 y a (by omega) c1⟩)
            refine ⟨r, ?_, f2⟩
            simp (disch := omega) only [cLt_t, cLt_f, cEq_t, cEq_f, rdR_ok, rd_ok, wr_ok, put_eq, jn_eq, cl_some, Int.toNat_natCast, qh, lc, lx]
            exact f1
      · rw [if_neg p] at qh
        have p' : tb m c = false := by
          show m.testBit c = false
          cases hb : m.testBit c
          · rfl
          · exact absurd hb p
        have nf : FstF d (tb m) lo (c + 1) f := by
          rcases hf with ⟨q1, q2⟩ | ⟨x, q1, q2, q3, q4, q5, q6, q7⟩
          · refine Or.inl ⟨q1, fun y a b => ?_⟩
            by_cases ey : y = c
            · subst ey; exact p'
            · exact q2 y a (by omega)
          · refine Or.inr ⟨x, q1, q2, by omega, q4, q5, q6, fun y a b c1 => ?_⟩
            by_cases ey : y = c
            · subst ey
              exact absurd c1 p
            · exact q7 y a (by omega) c1
        obtain ⟨r, f1, f2⟩ := ih (c + 1) f (by omega) (by omega) (by omega) nf
        refine ⟨r, ?_, f2⟩
        rcases hf with ⟨q1, q2⟩ | ⟨x, q1, q2, q3, q4, q5, q6, q7⟩
        · subst q1
          simp (disch := omega) only [cLt_t, cLt_f, cEq_t, cEq_f, rdR_ok, rd_ok, wr_ok, put_eq, jn_eq, cl_some, Int.toNat_natCast, qh]
          exact f1
        · subst q1
          have lx := q_leftK hk hD hn (x := x) (by omega)
          have llx := (hF.2.1 x (by omega)).2
          by_cases w : d.l c ≤ x
          · by_cases w2 : d.l c ≤ d.l x
            · simp (disch := omega) only [cLt_t, cLt_f, cEq_t, cEq_f, rdR_ok, rd_ok, wr_ok, put_eq, jn_eq, cl_some, Int.toNat_natCast, qh, lc, lx]
              exact f1
            · simp (disch := omega) only [cLt_t, cLt_f, cEq_t, cEq_f, rdR_ok, rd_ok, wr_ok, put_eq, jn_eq, cl_some, Int.toNat_natCast, qh, lc, lx]
              exact f1
          · simp (disch := omega) only [cLt_t, cLt_f, cEq_t, cEq_f, rdR_ok, rd_ok, wr_ok, put_eq, jn_eq, cl_some, Int.toNat_natCast, qh, lc, lx]
            exact f1
theorem q_first (hk : k < 2) (hD : DocLk (t 5) (25 * k) d) (hF : Fst d) (hm : m < 4096) {lo h : Nat} (hl : lo ≤ h) (hh : h ≤ d.n) (hg : ∀ y, lo ≤ y → y < h → tb m y = true → lo ≤ d.l y) : ∃ r, X9_firstFrom (k : Int) (m : Int) (lo : Int) ((h : Int) - 1) t = some (r, t) ∧ FstF d (tb m) lo h r := by
  have hn := hF.1
  have hU := FU_gt
  exact l_first hk hD hF hm hh hg (fun x1 s2 => some (x1, s2)) FU lo (-9) (Nat.le_refl _) hl (by omega) (Or.inl ⟨rfl, fun y a b => by omega⟩)
theorem l_beneath (hm : m < 4096) {lo x : Nat} (hx : x ≤ 12) (g : Int → St → Rs) : ∀ (n c : Nat), lo + c ≤ x → x < lo + c + n → X9_beneath_11 (m : Int) (x : Int) g n (sm (bI (tb m)) lo c) ((lo + c : Nat) : Int) t = g (sm (bI (tb m)) lo (x - lo)) t := by
  intro n
  induction n with
  | zero => intro c h1 h2; omega
  | succ n ih =>
    intro c h1 h2
    rw [X9_beneath_11]
    by_cases e : lo + c = x
    · simp (disch := omega) only [cLt_t, cLt_f, cEq_t, cEq_f, rdR_ok, rd_ok, wr_ok, put_eq, jn_eq, cl_some, Int.toNat_natCast]
      rw [show x - lo = c by omega]
    · have qh := q_has hm (k := lo + c) (by omega) t
      have ih' := ih (c + 1) (by omega) (by omega)
      rw [sm, show ((lo + (c + 1) : Nat) : Int) = ((lo + c : Nat) : Int) + 1 by omega] at ih'
      by_cases p : m.testBit (lo + c) = true
      · rw [if_pos p] at qh
        have b1 : bI (tb m) (lo + c) = 1 := if_pos p
        rw [b1] at ih'
        simp (disch := omega) only [cLt_t, cLt_f, cEq_t, cEq_f, rdR_ok, rd_ok, wr_ok, put_eq, jn_eq, cl_some, Int.toNat_natCast, qh]
        exact ih'
      · rw [if_neg p] at qh
        have b1 : bI (tb m) (lo + c) = 0 := if_neg p
        rw [b1] at ih'
        simp (disch := omega) only [cLt_t, cLt_f, cEq_t, cEq_f, rdR_ok, rd_ok, wr_ok, put_eq, jn_eq, cl_some, Int.toNat_natCast, qh]
        exact ih'
theorem q_beneath (hk : k < 2) (hD : DocLk (t 5) (25 * k) d) (hF : Fst d) (hm : m < 4096) {x : Nat} (hx : x < d.n) : X9_beneath (k : Int) (m : Int) (x : Int) t = some (sm (bI (tb m)) (d.l x) (x - d.l x), t) := by
  have hn := hF.1
  have hU := FU_gt
  have lx := (hF.2.1 x hx).2
  have l := l_beneath (t := t) hm (lo := d.l x) (x := x) (by omega) (fun x3 s4 => some (x3, s4)) FU 0 (by omega) (by omega)
  unfold X9_beneath
  simp (disch := omega) only [cLt_t, cLt_f, cEq_t, cEq_f, rdR_ok, rd_ok, wr_ok, put_eq, jn_eq, cl_some, Int.toNat_natCast, q_leftK hk hD hn hx]
  exact l
/-- what is still to be written: of the range at hand, of those around it -/
def Qs (d : Doc) (P : Nat → Bool) (u : Nat → Nat) : Nat → List Int
  | 0 => []
  | j + 1 => 41 :: (str d P (u (j + 1) + 1) (u j) ++ Qs d P u j)
theorem Qs_congr {P : Nat → Bool} {u w : Nat → Nat} : ∀ j, (∀ i, i ≤ j → u i = w i) → Qs d P u j = Qs d P w j
  | 0, _ => rfl
  | j + 1, h => by rw [Qs, Qs, Qs_congr j (fun i hi => h i (by omega)), h (j + 1) (by omega), h j (by omega)]
theorem sm_bI_r {P : Nat → Bool} {lo n : Nat} : 0 ≤ sm (bI P) lo n ∧ sm (bI P) lo n ≤ n := sm_01 (f := bI P) lo (fun i => by unfold bI; split <;> omega) n
theorem sm_bI_pos {P : Nat → Bool} {lo n : Nat} (h : sm (bI P) lo n ≠ 0) : 0 < sm (bI P) lo n ∧ 0 < n := by
  have := sm_bI_r (P := P) (lo := lo) (n := n)
  refine ⟨by omega, ?_⟩
  by_cases e : n = 0
  · subst e
    exact absurd rfl h
  · omega
theorem l_all (hk : k < 2) (hF : Fst d) (hm : m < 4096) (g : St → Rs) : ∀ (n deep lo : Nat) (u : Nat → Nat) (t : St) (W : List Int), (str d (tb m) lo (u deep) ++ Qs d (tb m) u deep).length + 2 ≤ n → (W ++ (str d (tb m) lo (u deep) ++ Qs d (tb m) u deep)).length ≤ 60 → DocLk (t 5) (25 * k) d → (∀ x, x < d.n → tb m x = true → t 15 x = d.c x) → (∀ j, j ≤ deep → t 16 j = (u j : Int) - 1 ∧ u j + j ≤ d.n) → (∀ j, j < deep → u (j + 1) + 1 ≤ u j ∧ ∀ y, u (j + 1) + 1 ≤ y → y < u j → tb m y = true → u (j + 1) + 1 ≤ d.l y) → lo ≤ u deep → (∀ y, lo ≤ y → y < u deep → tb m y = true → lo ≤ d.l y) → TxM t W → ∃ t', X9_writesAll_23 (k : Int) (m : Int) g n (deep : Int) (lo : Int) t = g t' ∧ FQ t t' ∧ TxM t' (W ++ (str d (tb m) lo (u deep) ++ Qs d (tb m) u deep)) := by
  have hn := hF.1
  intro n
  induction n with
  | zero => intro deep lo u t W h1; omega
  | succ n ih =>
    intro deep lo u t W h1 h2 hD hs hu hv hlo hg hW
    have ud := hu deep (Nat.le_refl _)
    obtain ⟨r, q1, q2⟩ := q_first hk hD hF hm (lo := lo) (h := u deep) hlo (by omega) hg
    rw [X9_writesAll_23]
    rcases q2 with ⟨rfl, no⟩ | ⟨x, rfl, x1, x2, x3, x4, x5, x6⟩
    · have se : str d (tb m) lo (u deep) = [] := str_none _ _ no
      rw [se, List.nil_append] at h1 h2 ⊢
      cases deep with
      | zero =>
        obtain ⟨n, rfl⟩ : ∃ w, n = w + 1 := ⟨n - 1, by simp only [Qs, List.length_nil] at h1; omega⟩
        refine ⟨t, ?_, FQ.rfl, ?_⟩
        · have u0 : t 16 0 = (u 0 : Int) - 1 := ud.1
          have q1' : X9_firstFrom (k : Int) (m : Int) (lo : Int) ((u 0 : Int) - 1) t = some (-9, t) := q1
          rw [show ((0 : Nat) : Int) = 0 from rfl, cLt_f (by omega) (by omega) (by omega), rd_ok (by omega) (by omega), show (0 : Int).toNat = 0 from rfl, u0, q1', cl_some, cEq_t (by omega) (by omega) rfl, rd_ok (by omega) (by omega), cLt_t (by omega) (by omega) (by omega), X9_writesAll_23, cLt_t (by omega) (by omega) (by omega)]
        · rw [Qs, List.append_nil]
          exact hW
      | succ j =>
        have vj := hv j (by omega)
        have uj := hu j (by omega)
        have lq : (Qs d (tb m) u (j + 1)).length = 1 + (str d (tb m) (u (j + 1) + 1) (u j) ++ Qs d (tb m) u j).length := by
          rw [Qs, List.length_cons]
          omega
        rw [List.length_append] at h2
        obtain ⟨t1, w1, w2, w2', w3⟩ := q_put hW (by omega) 41
        obtain ⟨t', f1, f2, f3⟩ := ih j (u (j + 1) + 1) u t1 (W ++ [41]) (by omega) (by rw [List.length_append, List.length_append]; simp only [List.length_cons, List.length_nil]; omega) (by rw [w2.1 5 (by omega) (by omega) (by omega)]; exact hD) (fun x a b => by rw [w2.1 15 (by omega) (by omega) (by omega)]; exact hs x a b) (fun i hi => by rw [w2' i]; exact hu i (by omega)) (fun i hi => hv i (by omega)) vj.1 vj.2 w3
        refine ⟨t', ?_, w2.trans f2, ?_⟩
        · have e1 : ((j + 1 : Nat) : Int) + -1 = (j : Int) := by omega
          have e2 : (u (j + 1) : Int) - 1 + 1 + 1 = ((u (j + 1) + 1 : Nat) : Int) := by omega
          have ud1 := ud.1
          simp (disch := omega) only [cLt_t, cLt_f, cEq_t, cEq_f, rdR_ok, rd_ok, wr_ok, put_eq, jn_eq, cl_some, Int.toNat_natCast, ud1, q1, e1, e2, w1]
          exact f1
        · rw [Qs]
          simp only [List.append_assoc, List.cons_append, List.nil_append] at f3 ⊢
          exact f3
    · have lx := (hF.2.1 x (by omega)).2
      have sp : str d (tb m) lo (u deep) = d.c x :: ((if sm (bI (tb m)) (d.l x) (x - d.l x) = 0 then [] else 40 :: (str d (tb m) (d.l x) x ++ [41])) ++ str d (tb m) (x + 1) (u deep)) := by
        rw [str_split (d := d) (P := tb m) (u deep) (u deep) lo (x + 1) (Nat.le_refl _) (by omega) (by omega) (fun y a b c => ⟨x6 y (by omega) b c, (hF.2.1 y (by omega)).2⟩), str_p x1 x3 lx, str_none (d := d) (P := tb m) (d.l x) lo x5]
        rfl
      rw [sp] at h1 h2 ⊢
      simp only [List.cons_append, List.length_append, List.length_cons] at h1 h2
      obtain ⟨t1, w1, w2, w2', w3⟩ := q_put hW (by omega) (d.c x)
      have hD1 : DocLk (t1 5) (25 * k) d := by rw [w2.1 5 (by omega) (by omega) (by omega)]; exact hD
      have sx := hs x (by omega) x3
      have bx := q_beneath hk hD1 hF hm (x := x) (by omega)
      have br := sm_bI_r (P := tb m) (lo := d.l x) (n := x - d.l x)
      have ud1 := ud.1
      by_cases z : sm (bI (tb m)) (d.l x) (x - d.l x) = 0
      · rw [if_pos z] at h1 h2 ⊢
        simp only [List.length_nil] at h1 h2
        obtain ⟨t', f1, f2, f3⟩ := ih deep (x + 1) u t1 (W ++ [d.c x]) (by rw [List.length_append]; omega) (by simp only [List.length_append, List.length_cons, List.length_nil]; omega) hD1 (fun x a b => by rw [w2.1 15 (by omega) (by omega) (by omega)]; exact hs x a b) (fun i hi => by rw [w2' i]; exact hu i hi) hv (by omega) (fun y a b c => x6 y (by omega) b c) w3
        refine ⟨t', ?_, w2.trans f2, ?_⟩
        · rw [z] at bx
          simp (disch := omega) only [cLt_t, cLt_f, cEq_t, cEq_f, rdR_ok, rd_ok, wr_ok, put_eq, jn_eq, cl_some, Int.toNat_natCast, ud1, q1, sx, w1, bx]
          exact f1
        · simp only [List.append_assoc, List.cons_append, List.nil_append] at f3 ⊢
          exact f3
      · have bp := sm_bI_pos z
        rw [if_neg z] at h1 h2 ⊢
        simp only [List.length_append, List.length_cons, List.length_nil] at h1 h2
        obtain ⟨t2, v1, v2, v2', v3⟩ := q_put w3 (by simp only [List.length_append, List.length_cons, List.length_nil]; omega) 40
        have hD2 : DocLk (t2 5) (25 * k) d := by rw [v2.1 5 (by omega) (by omega) (by omega)]; exact hD1
        have fq : FQ t2 (up t2 16 (deep + 1) ((x : Int) - 1)) := ⟨fun b b1 b2 b3 => up_b b3, fun i hi => up_o (by omega)⟩
        obtain ⟨uu, u1, u2⟩ : ∃ uu : Nat → Nat, uu (deep + 1) = x ∧ ∀ i, i ≤ deep → uu i = u i := ⟨fun i => if i = deep + 1 then x else u i, if_pos rfl, fun i hi => if_neg (by omega)⟩
        have qc : Qs d (tb m) uu deep = Qs d (tb m) u deep := Qs_congr deep u2
        have RR : str d (tb m) (d.l x) (uu (deep + 1)) ++ Qs d (tb m) uu (deep + 1) = str d (tb m) (d.l x) x ++ 41 :: (str d (tb m) (x + 1) (u deep) ++ Qs d (tb m) u deep) := by
          rw [Qs, qc, u1, u2 deep (Nat.le_refl _)]
        obtain ⟨t', f1, f2, f3⟩ := ih (deep + 1) (d.l x) uu (up t2 16 (deep + 1) ((x : Int) - 1)) (W ++ [d.c x] ++ [40]) (by rw [RR]; simp only [List.length_append, List.length_cons]; omega) (by rw [RR]; simp only [List.length_append, List.length_cons, List.length_nil]; omega) (by rw [up_b (by omega)]; exact hD2) (fun x a b => by rw [up_b (by omega), v2.1 15 (by omega) (by omega) (by omega), w2.1 15 (by omega) (by omega) (by omega)]; exact hs x a b) (fun i hi => by
          by_cases ei : i = deep + 1
          · subst ei
            rw [u1, up_eq]
            exact ⟨rfl, by omega⟩
          · rw [u2 i (by omega), up_i ei, v2' i, w2' i]
            exact hu i (by omega)) (fun i hi => by
          by_cases ei : i = deep
          · subst ei
            rw [u1, u2 i (Nat.le_refl _)]
            exact ⟨by omega, fun y a b c => x6 y (by omega) b c⟩
          · rw [u2 (i + 1) (by omega), u2 i (by omega)]
            exact hv i (by omega)) (by rw [u1]; exact lx) (by rw [u1]; exact fun y a b _ => hF.2.2 x y (by omega) b a) ⟨by rw [up_o (by omega)]; exact v3.1, fun i hi => by rw [up_o (by omega)]; exact v3.2 i hi⟩
        rw [RR] at f3
        refine ⟨t', ?_, (w2.trans v2).trans (fq.trans f2), ?_⟩
        · have e1 : ((deep : Int) + 1).toNat = deep + 1 := by omega
          have l2 := q_leftK hk hD2 hn (x := x) (by omega)
          simp (disch := omega) only [cLt_t, cLt_f, cEq_t, cEq_f, rdR_ok, rd_ok, wr_ok, put_eq, jn_eq, cl_some, Int.toNat_natCast, ud1, q1, sx, w1, bx, v1, l2, e1]
          exact f1
        · simp only [List.append_assoc, List.cons_append, List.nil_append] at f3 ⊢
          exact f3
theorem q_writesAll (hk : k < 2) (hD : DocLk (t 5) (25 * k) d) (hF : Fst d) (hm : m < 4096) (hs : ∀ x, x < d.n → tb m x = true → t 15 x = d.c x) : ∃ t', X9_writesAll (k : Int) (m : Int) t = some (0, t') ∧ FQ t t' ∧ TxM t' (str d (tb m) 0 d.n) ∧ (str d (tb m) 0 d.n).length ≤ 36 := by
  have hn := hF.1
  have hU := FU_gt
  have sl := str_len (P := tb m) hF d.n d.n 0 (Nat.le_refl _) (Nat.le_refl _) (fun y _ _ _ => by omega)
  have fq : FQ t (up (up t 0 19 0) 16 0 ((d.n : Int) - 1)) := ⟨fun b b1 b2 b3 => by rw [up_b b3, up_b b1], fun i hi => by rw [up_o (by omega), up_i hi]⟩
  obtain ⟨t', f1, f2, f3⟩ := l_all hk hF hm (fun s5 => some (0, s5)) FU 0 0 (fun _ => d.n) (up (up t 0 19 0) 16 0 ((d.n : Int) - 1)) [] (by rw [Qs, List.append_nil]; omega) (by rw [Qs, List.append_nil, List.nil_append]; omega) (by rw [fq.1 5 (by omega) (by omega) (by omega)]; exact hD) (fun x a b => by rw [fq.1 15 (by omega) (by omega) (by omega)]; exact hs x a b) (fun j hj => by
    have : j = 0 := by omega
    subst this
    exact ⟨up_eq, by omega⟩) (fun j hj => by omega) (by omega) (fun y _ _ _ => by omega) ⟨by rw [up_o (by omega), up_eq]; rfl, fun i hi => absurd hi (Nat.not_lt_zero i)⟩
  rw [Qs, List.append_nil, List.nil_append] at f3
  refine ⟨t', ?_, fq.trans f2, f3, by omega⟩
  have hD0 : DocLk (up t 0 19 0 5) (25 * k) d := by rw [up_b (by omega)]; exact hD
  unfold X9_writesAll
  rw [put_eq, q_manyK hk hD0, cl_some, wr_ok (by omega) (by omega)]
  exact f1
end WRITES
/-- the written text goes to a text of the object -/
theorem q_toText {t : St} {r : Nat} (hr : r < 4) {L : List Int} (h : TxM t L) (hl : L.length ≤ 60) : ∃ t', X9_toText (r : Int) t = some ((L.length : Int), t') ∧ (∀ b, b ≠ 3 → b ≠ 4 → t' b = t b) ∧ t' 3 r = L.length ∧ (∀ j, j ≠ r → t' 3 j = t 3 j) ∧ (∀ i, i < L.length → t' 4 (60 * r + i) = atL L i) ∧ ∀ j, ¬(60 * r ≤ j ∧ j < 60 * r + 60) → t' 4 j = t 4 j := by
  have b := q_bring (a := 14) (b := 4) (sp := 0) (dp := 60 * r) (N := L.length) (by decide) (by rw [lnM.2.2.2.2.2.1]; omega) (by rw [lnM.2.2.2.2.2.2]; omega) (by omega) (up t 3 r L.length)
  rw [show ((60 * r : Nat) : Int) = 60 * (r : Int) by omega] at b
  have b' : X9_bring 14 0 4 (60 * (r : Int)) (L.length : Int) (up t 3 r L.length) = _ := b
  have z : up t 3 r L.length 0 19 = L.length := by rw [up_o (by omega)]; exact h.1
  have z2 : cpy (up t 3 r L.length) 14 0 4 (60 * r) L.length 0 19 = L.length := by rw [cpy_o (by omega)]; exact z
  refine ⟨cpy (up t 3 r L.length) 14 0 4 (60 * r) L.length, ?_, fun b b1 b2 => by rw [cpy_b b2, up_b b1], by rw [cpy_o (by omega), up_eq], fun j hj => by rw [cpy_o (by omega), up_i hj], fun i hi => ?_, fun j hj => by rw [cpy_out (by omega), up_o (by omega)]⟩
  · unfold X9_toText
    have h1 := h.1
    simp (disch := omega) only [cLt_t, cLt_f, cEq_t, cEq_f, rdR_ok, rd_ok, wr_ok, put_eq, jn_eq, cl_some, Int.toNat_natCast, h1, z, b', z2]
  · rw [cpy_in (by omega) (by omega), up_o (by omega), show 0 + (60 * r + i - 60 * r) = i by omega]
    exact h.2 i hi
