/-! a node is added -/
def chb (d : Doc) (x : Nat) (m : Nat) : Int := sm (fun c => if par d c = x then 1 else 0) (d.l x) m
theorem chb_s {d : Doc} {x m : Nat} : chb d x (m + 1) = chb d x m + (if par d (d.l x + m) = x then 1 else 0) := rfl
theorem chb_mono {d : Doc} {x a b : Nat} (h : a ≤ b) : chb d x a ≤ chb d x b := by
  obtain ⟨k, rfl⟩ : ∃ k, b = a + k := ⟨b - a, by omega⟩
  exact sm_mono (fun i => by split <;> omega) _ a k
theorem chb_r {d : Doc} {x m : Nat} : 0 ≤ chb d x m ∧ chb d x m ≤ m := sm_01 _ (fun i => by split <;> omega) m
theorem chn_chb {d : Doc} {x : Nat} : chn d x = chb d x (x - d.l x) := rfl
/-- the place behind the first m children of x -/
def EOC (d : Doc) (x : Nat) (m : Int) (e : Nat) : Prop := (m = 0 ∧ e = d.l x) ∨ ∃ c : Nat, e = c + 1 ∧ d.l x ≤ c ∧ c < x ∧ par d c = x ∧ chb d x (c - d.l x) = m - 1
section EOCS
variable {d : Doc} {x : Nat}
theorem eoc_cnt {m : Int} {e : Nat} (h : EOC d x m e) : chb d x (e - d.l x) = m ∧ d.l x ≤ e := by
  rcases h with ⟨h1, h2⟩ | ⟨c, h1, h2, h3, h4, h5⟩
  · subst h1 h2
    rw [Nat.sub_self]
    exact ⟨rfl, Nat.le_refl _⟩
  · subst h1
    rw [show c + 1 - d.l x = (c - d.l x) + 1 by omega, chb_s, show d.l x + (c - d.l x) = c by omega, if_pos h4]
    omega
theorem chb_lt {a c : Nat} (hc : d.l x ≤ c) (hp : par d c = x) (h : c - d.l x < a) : chb d x (c - d.l x) + 1 ≤ chb d x a := by
  have := chb_mono (d := d) (x := x) (a := c - d.l x + 1) (b := a) (by omega)
  rw [chb_s, show d.l x + (c - d.l x) = c by omega, if_pos hp] at this
  exact this
theorem eoc_child {i : Int} {e c : Nat} (h : EOC d x (i + 1) e) (hi : 0 ≤ i) (h1 : d.l x ≤ c) (hp : par d c = x) (hc : chb d x (c - d.l x) = i) : e = c + 1 := by
  rcases h with ⟨a1, a2⟩ | ⟨c', a1, a2, a3, a4, a5⟩
  · omega
  · by_cases q : c < c'
    · have := chb_lt h1 hp (a := c' - d.l x) (by omega)
      omega
    · by_cases q2 : c' < c
      · have := chb_lt a2 a4 (a := c - d.l x) (by omega)
        omega
      · omega
theorem eoc_uniq {m : Int} {e e' : Nat} (h : EOC d x m e) (h' : EOC d x m e') : e = e' := by
  rcases h' with ⟨a1, a2⟩ | ⟨c', a1, a2, a3, a4, a5⟩
  · rcases h with ⟨b1, b2⟩ | ⟨c, b1, b2, b3, b4, b5⟩
    · omega
    · have := chb_r (d := d) (x := x) (m := c - d.l x)
      omega
  · have := eoc_child (i := m - 1) (c := c') (by rw [Int.sub_add_cancel]; exact h) (by have := chb_r (d := d) (x := x) (m := c' - d.l x); omega) a2 a4 a5
    omega
/-- no node reaches over it -/
theorem eoc_bd (hF : Fst d) (hx : x < d.n) {m : Int} {e : Nat} (h : EOC d x m e) : d.l x ≤ e ∧ e ≤ x ∧ ∀ k, e ≤ k → k < x → e ≤ d.l k := by
  have lx := (hF.2.1 x hx).2
  rcases h with ⟨h1, h2⟩ | ⟨c, h1, h2, h3, h4, h5⟩
  · subst h2
    exact ⟨Nat.le_refl _, lx, fun k a b => hF.2.2 x k hx b a⟩
  · subst h1
    refine ⟨by omega, by omega, fun k a b => ?_⟩
    rcases par_spec d hF.1 c with ⟨z, e1, e2, e3, e4, e5⟩ | ⟨e1, _⟩
    · have ez : z = x := by omega
      subst ez
      have := e5 k (by omega) b
      omega
    · omega
/-- the next child begins there -/
theorem eoc_start (hF : Fst d) (hx : x < d.n) {i : Int} {e c : Nat} (h : EOC d x i e) (h1 : d.l x ≤ c) (h2 : c < x) (hp : par d c = x) (hc : chb d x (c - d.l x) = i) : d.l c = e := by
  have hn := hF.1
  obtain ⟨k1, k2⟩ := eoc_cnt h
  have bd := eoc_bd hF hx h
  have lc := (hF.2.1 c (by omega)).2
  have hec : e ≤ c := by
    by_cases q : e ≤ c
    · exact q
    · have := chb_lt h1 hp (a := e - d.l x) (by omega)
      omega
  have hle := bd.2.2 c hec h2
  by_cases q : d.l c = e
  · exact q
  · exfalso
    have pc : ∀ w, c < w → w < x → c < d.l w := by
      rcases par_spec d hn c with ⟨z, e1, e2, e3, e4, e5⟩ | ⟨e1, _⟩
      · have ez : z = x := by omega
        subst ez
        exact e5
      · omega
    have pz : par d (d.l c - 1) = x := by
      rcases par_spec d hn (d.l c - 1) with ⟨z, e1, e2, e3, e4, e5⟩ | ⟨e1, e2⟩
      · by_cases w1 : z ≤ c
        · by_cases w2 : z = c
          · subst w2; omega
          · have := hF.2.2 c z (by omega) (by omega) (by omega)
            omega
        · by_cases w2 : z < x
          · have := pc z (by omega) w2
            omega
          · by_cases w3 : z = x
            · rw [e1, w3]
            · have := e5 x (by omega) (by omega)
              have lx := hF.2.2 x c hx h2 h1
              omega
      · have := e2 x (by omega) hx
        omega
    have := chb_lt (d := d) (x := x) (c := d.l c - 1) (a := c - d.l x) (by omega) pz (by omega)
    have := chb_mono (d := d) (x := x) (a := e - d.l x) (b := d.l c - 1 - d.l x) (by omega)
    omega
theorem l_eoc {s : St} {a : Nat} (hT : TreeAt s a d) (hF : Fst d) (hx : x < d.n) {m : Int} (hm : m ≤ chn d x) (hm0 : 0 ≤ m) (k : Int → St → Rs) : ∀ (n q e : Nat), d.l x + q ≤ x → x < d.l x + q + n → EOC d x (chb d x q) e → chb d x q ≤ m → ∃ e' : Nat, X6_endOfChildren_16 a (x : Int) m k n (e : Int) (chb d x q) ((d.l x + q : Nat) : Int) s = k (e' : Int) s ∧ EOC d x m e' := by
  have hn := hF.1
  have cr := chn_r d x
  intro n
  induction n with
  | zero => intro q e h1 h2; omega
  | succ n ih =>
    intro q e h1 h2 hE hq
    have c0 := chb_r (d := d) (x := x) (m := q)
    rw [X6_endOfChildren_16]
    by_cases w : d.l x + q = x
    · refine ⟨e, ?_, ?_⟩
      · simp (disch := omega) only [cLt_t, cLt_f, cEq_t, cEq_f, rdR_ok, rd_ok, wr_ok, put_eq, jn_eq, cl_some, Int.toNat_natCast]
      · have : chb d x q = m := by
          rw [chn_chb, show x - d.l x = q by omega] at hm
          omega
        rw [← this]
        exact hE
    · by_cases w2 : chb d x q = m
      · refine ⟨e, ?_, ?_⟩
        · simp (disch := omega) only [cLt_t, cLt_f, cEq_t, cEq_f, rdR_ok, rd_ok, wr_ok, put_eq, jn_eq, cl_some, Int.toNat_natCast]
        · rw [← w2]
          exact hE
      · have pp := p_parent hT hF (x := d.l x + q) (by omega)
        have pr := par_r d hn (d.l x + q)
        have e1 : ((d.l x + (q + 1) : Nat) : Int) = ((d.l x + q : Nat) : Int) + 1 := by omega
        by_cases p : par d (d.l x + q) = x
        · have ih' := ih (q + 1) (d.l x + q + 1) (by omega) (by omega) (Or.inr ⟨d.l x + q, rfl, by omega, by omega, p, by rw [chb_s, if_pos p, show d.l x + q - d.l x = q by omega]; omega⟩) (by rw [chb_s, if_pos p]; omega)
          obtain ⟨e', f1, f2⟩ := ih'
          refine ⟨e', ?_, f2⟩
          rw [chb_s, if_pos p, e1] at f1
          simp (disch := omega) only [cLt_t, cLt_f, cEq_t, cEq_f, rdR_ok, rd_ok, wr_ok, put_eq, jn_eq, cl_some, Int.toNat_natCast, pp]
          exact f1
        · have hs : chb d x (q + 1) = chb d x q := by rw [chb_s, if_neg p, Int.add_zero]
          have ih' := ih (q + 1) e (by omega) (by omega) (by rw [hs]; exact hE) (by rw [hs]; exact hq)
          obtain ⟨e', f1, f2⟩ := ih'
          refine ⟨e', ?_, f2⟩
          rw [hs, e1] at f1
          simp (disch := omega) only [cLt_t, cLt_f, cEq_t, cEq_f, rdR_ok, rd_ok, wr_ok, put_eq, jn_eq, cl_some, Int.toNat_natCast, pp]
          exact f1
theorem p_eoc {s : St} {a : Nat} (hT : TreeAt s a d) (hF : Fst d) (hx : x < d.n) {m : Int} (hm : m ≤ chn d x) (hm0 : 0 ≤ m) : ∃ e : Nat, X6_endOfChildren a (x : Int) m s = some ((e : Int), s) ∧ EOC d x m e := by
  have hn := hF.1
  have hU := FU_gt
  have lx := (hF.2.1 x hx).2
  obtain ⟨e, f1, f2⟩ := l_eoc hT hF hx hm hm0 (fun x5 s6 => some (x5, s6)) FU 0 (d.l x) (by omega) (by omega) (Or.inl ⟨rfl, rfl⟩) hm0
  refine ⟨e, ?_, f2⟩
  unfold X6_endOfChildren
  simp (disch := omega) only [cLt_t, cLt_f, cEq_t, cEq_f, rdR_ok, rd_ok, wr_ok, put_eq, jn_eq, cl_some, Int.toNat_natCast, p_leftmost hT hn hx]
  exact f1
theorem l_childOf {t : St} {k : Nat} (hk : k < 2) (hD : DocAt (t 5) (25 * k) d) (hF : Fst d) (hx : x < d.n) {i : Int} (hi : i < chn d x) (hi0 : 0 ≤ i) (g : Int → St → Rs) : ∀ (n q : Nat), d.l x + q ≤ x → x < d.l x + q + n → chb d x q - 1 < i → ∃ c : Nat, X9_childOf_13 (k : Int) (x : Int) i g n (chb d x q - 1) ((d.l x : Int) + q - 1) t = g (c : Int) t ∧ d.l x ≤ c ∧ c < x ∧ par d c = x ∧ chb d x (c - d.l x) = i := by
  have hn := hF.1
  have cr := chn_r d x
  intro n
  induction n with
  | zero => intro q h1 h2; omega
  | succ n ih =>
    intro q h1 h2 hq
    have c0 := chb_r (d := d) (x := x) (m := q)
    have lt : d.l x + q < x := by
      by_cases w : d.l x + q = x
      · rw [chn_chb, show x - d.l x = q by omega] at hi
        omega
      · omega
    have pp := q_above hk hD hF (x := d.l x + q) (by omega)
    have pr := par_r d hn (d.l x + q)
    have e1 : (d.l x : Int) + q - 1 + 1 = ((d.l x + q : Nat) : Int) := by omega
    have e2 : (d.l x : Int) + ((q + 1 : Nat) : Int) - 1 = ((d.l x + q : Nat) : Int) := by omega
    rw [X9_childOf_13]
    by_cases p : par d (d.l x + q) = x
    · have e3 : chb d x q - 1 + 1 = chb d x (q + 1) - 1 := by rw [chb_s, if_pos p]; omega
      by_cases w : chb d x q = i
      · obtain ⟨n, rfl⟩ : ∃ w, n = w + 1 := ⟨n - 1, by omega⟩
        refine ⟨d.l x + q, ?_, by omega, lt, p, by rw [show d.l x + q - d.l x = q by omega]; exact w⟩
        simp (disch := omega) only [cLt_t, cLt_f, cEq_t, cEq_f, rdR_ok, rd_ok, wr_ok, put_eq, jn_eq, cl_some, Int.toNat_natCast, e1, pp]
        rw [X9_childOf_13]
        simp (disch := omega) only [cLt_t, cLt_f, cEq_t, cEq_f, rdR_ok, rd_ok, wr_ok, put_eq, jn_eq, cl_some, Int.toNat_natCast]
      · obtain ⟨c, f1, f2⟩ := ih (q + 1) (by omega) (by omega) (by omega)
        refine ⟨c, ?_, f2⟩
        rw [e2, ← e3] at f1
        simp (disch := omega) only [cLt_t, cLt_f, cEq_t, cEq_f, rdR_ok, rd_ok, wr_ok, put_eq, jn_eq, cl_some, Int.toNat_natCast, e1, pp]
        exact f1
    · have hs : chb d x (q + 1) = chb d x q := by rw [chb_s, if_neg p, Int.add_zero]
      obtain ⟨c, f1, f2⟩ := ih (q + 1) (by omega) (by omega) (by rw [hs]; exact hq)
      refine ⟨c, ?_, f2⟩
      rw [e2, hs] at f1
      simp (disch := omega) only [cLt_t, cLt_f, cEq_t, cEq_f, rdR_ok, rd_ok, wr_ok, put_eq, jn_eq, cl_some, Int.toNat_natCast, e1, pp]
      rw [Int.add_zero]
      exact f1
theorem q_childOf {t : St} {k : Nat} (hk : k < 2) (hD : DocAt (t 5) (25 * k) d) (hF : Fst d) (hx : x < d.n) {i : Int} (hi : i < chn d x) (hi0 : 0 ≤ i) : ∃ c : Nat, X9_childOf (k : Int) (x : Int) i t = some ((c : Int), t) ∧ d.l x ≤ c ∧ c < x ∧ par d c = x ∧ chb d x (c - d.l x) = i := by
  have hn := hF.1
  have hU := FU_gt
  have lx := (hF.2.1 x hx).2
  obtain ⟨c, f1, f2⟩ := l_childOf hk hD hF hx hi hi0 (fun x3 s4 => some (x3, s4)) FU 0 (by omega) (by omega) (by rw [show chb d x 0 = 0 from rfl]; omega)
  refine ⟨c, ?_, f2⟩
  rw [show chb d x 0 - 1 = -1 from rfl, show (d.l x : Int) + ((0 : Nat) : Int) - 1 = (d.l x : Int) - 1 by omega] at f1
  unfold X9_childOf
  simp (disch := omega) only [cLt_t, cLt_f, cEq_t, cEq_f, rdR_ok, rd_ok, wr_ok, put_eq, jn_eq, cl_some, Int.toNat_natCast, q_leftOf hk hD hn hx]
  exact f1
end EOCS
/-- a new node p above those from f on, beneath x -/
def Doc.ins (d : Doc) (x f p : Nat) (c : Int) : Doc := (d.n + 1, fun y => if y < p then d.c y else if y = p then c else d.c (y - 1), fun y => if y < p then d.l y else if y = p then f else if x ≤ y - 1 ∧ d.l (y - 1) ≤ x then d.l (y - 1) else d.l (y - 1) + 1)
section INS
variable {d : Doc} {x f p : Nat} {c : Int}
theorem ins_n : (d.ins x f p c).n = d.n + 1 := rfl
theorem ins_c1 {y : Nat} (h : y < p) : (d.ins x f p c).c y = d.c y := if_pos h
theorem ins_cp : (d.ins x f p c).c p = c := by
  show (if p < p then d.c p else if p = p then c else d.c (p - 1)) = c
  rw [if_neg (by omega), if_pos rfl]
theorem ins_c2 {y : Nat} (h : p ≤ y) : (d.ins x f p c).c (y + 1) = d.c y := by
  show (if y + 1 < p then d.c (y + 1) else if y + 1 = p then c else d.c (y + 1 - 1)) = _
  rw [if_neg (by omega), if_neg (by omega), Nat.add_sub_cancel]
theorem ins_l1 {y : Nat} (h : y < p) : (d.ins x f p c).l y = d.l y := if_pos h
theorem ins_lp : (d.ins x f p c).l p = f := by
  show (if p < p then d.l p else if p = p then f else if x ≤ p - 1 ∧ d.l (p - 1) ≤ x then d.l (p - 1) else d.l (p - 1) + 1) = f
  rw [if_neg (by omega), if_pos rfl]
theorem ins_l2 {y : Nat} (h : p ≤ y) : (d.ins x f p c).l (y + 1) = if x ≤ y ∧ d.l y ≤ x then d.l y else d.l y + 1 := by
  show (if y + 1 < p then d.l (y + 1) else if y + 1 = p then f else if x ≤ y + 1 - 1 ∧ d.l (y + 1 - 1) ≤ x then d.l (y + 1 - 1) else d.l (y + 1 - 1) + 1) = _
  rw [if_neg (by omega), if_neg (by omega), Nat.add_sub_cancel]
def Bd (d : Doc) (x e : Nat) : Prop := d.l x ≤ e ∧ e ≤ x ∧ ∀ k, e ≤ k → k < x → e ≤ d.l k
/-- a node behind p that isn't x or above it begins behind p -/
theorem bd_out (hp : Bd d x p) {k : Nat} (h1 : p ≤ k) (h2 : ¬(x ≤ k ∧ d.l k ≤ x)) : p ≤ d.l k := by
  by_cases q : k < x
  · exact hp.2.2 k h1 q
  · have := hp.2.1
    omega
theorem bd_up (hF : Fst d) (hf : Bd d x f) {k : Nat} (hk : k < d.n) (h2 : x ≤ k ∧ d.l k ≤ x) : d.l k ≤ d.l x := by
  by_cases q : k = x
  · subst q; exact Nat.le_refl _
  · exact hF.2.2 k x hk (by omega) h2.2
theorem wf_ins (hW : WF d) (hn : d.n < 12) (hx : x < d.n) (hf : Bd d x f) (hp : Bd d x p) (hfp : f ≤ p) (hc : lab c) : WF (d.ins x f p c) := by
  have hF := hW.1
  have b1 := hf.1
  have b2 := hf.2.1
  have b3 := hp.2.1
  refine ⟨⟨by rw [ins_n]; omega, fun y hy => ?_, fun y z hy hz hl => ?_⟩, fun _ => ?_⟩
  · rw [ins_n] at hy
    by_cases q : y < p
    · rw [ins_c1 q, ins_l1 q]
      exact hF.2.1 y (by omega)
    · by_cases q2 : y = p
      · subst q2
        rw [ins_cp, ins_lp]
        exact ⟨hc, hfp⟩
      · obtain ⟨y, rfl⟩ : ∃ w, y = w + 1 := ⟨y - 1, by omega⟩
        have := hF.2.1 y (by omega)
        rw [ins_c2 (by omega), ins_l2 (by omega)]
        refine ⟨this.1, ?_⟩
        split <;> omega
  · rw [ins_n] at hy
    by_cases q : y < p
    · rw [ins_l1 q] at hl ⊢
      rw [ins_l1 (show z < p by omega)]
      exact hF.2.2 y z (by omega) hz hl
    · by_cases q2 : y = p
      · subst q2
        rw [ins_lp] at hl ⊢
        rw [ins_l1 hz]
        exact hf.2.2 z hl (by omega)
      · obtain ⟨y, rfl⟩ : ∃ w, y = w + 1 := ⟨y - 1, by omega⟩
        rw [ins_l2 (by omega)] at hl ⊢
        by_cases u : x ≤ y ∧ d.l y ≤ x
        · rw [if_pos u] at hl ⊢
          have lu := bd_up hF hf (by omega) u
          by_cases r : z < p
          · rw [ins_l1 r]
            exact hF.2.2 y z (by omega) (by omega) hl
          · by_cases r2 : z = p
            · subst r2
              rw [ins_lp]
              omega
            · obtain ⟨z, rfl⟩ : ∃ w, z = w + 1 := ⟨z - 1, by omega⟩
              rw [ins_l2 (by omega)]
              have := hF.2.2 y z (by omega) (by omega) (by omega)
              split <;> omega
        · rw [if_neg u] at hl ⊢
          have lo := bd_out hp (k := y) (by omega) u
          by_cases r : z < p
          · omega
          · by_cases r2 : z = p
            · omega
            · obtain ⟨z, rfl⟩ : ∃ w, z = w + 1 := ⟨z - 1, by omega⟩
              rw [ins_l2 (by omega)]
              have := hF.2.2 y z (by omega) (by omega) (by omega)
              by_cases u2 : x ≤ z ∧ d.l z ≤ x
              · exact absurd ⟨by omega, by omega⟩ u
              · rw [if_neg u2]
                omega
  · rw [ins_n, Nat.add_sub_cancel]
    obtain ⟨m, hm⟩ : ∃ w, d.n = w + 1 := ⟨d.n - 1, by omega⟩
    have hr := hW.2 (by omega)
    rw [hm] at hr ⊢
    rw [Nat.add_sub_cancel] at hr
    rw [ins_l2 (by omega), hr, if_pos (by omega)]
end INS
