/-! heads beneath a node, nodes of a code, ancestors -/
def hdN (d : Doc) (x : Nat) : Int := sm (fun c => isOf (kdOf (d.c c)) 1) (d.l x) (x - d.l x)
theorem isOf_r (k o : Int) : isOf k o = 0 ∨ isOf k o = 1 := by
  unfold isOf
  split
  · exact Or.inr rfl
  · exact Or.inl rfl
theorem l_heads {s : St} {a : Nat} {d : Doc} (hT : TreeAt s a d) (hF : Fst d) (x : Nat) (hx : x < d.n) (k : Int → St → Rs) : ∀ (n m : Nat), d.l x + m ≤ x → x < d.l x + m + n → X6_headsBelow_8 a (x : Int) k n (sm (fun c => isOf (kdOf (d.c c)) 1) (d.l x) m) ((d.l x + m : Nat) : Int) s = k (hdN d x) s := by
  have hn := hF.1
  intro n
  induction n with
  | zero => intro m h1 h2; omega
  | succ n ih =>
    intro m h1 h2
    rw [X6_headsBelow_8]
    by_cases h : d.l x + m = x
    · simp (disch := omega) only [cLt_t, cLt_f, cEq_t, cEq_f, rdR_ok, rd_ok, wr_ok, put_eq, jn_eq, cl_some, Int.toNat_natCast]
      unfold hdN
      rw [show x - d.l x = m by omega]
    · have h3 := ih (m + 1) (by omega) (by omega)
      rw [sm, show ((d.l x + (m + 1) : Nat) : Int) = ((d.l x + m : Nat) : Int) + 1 by omega] at h3
      have hc := (hT.2 (d.l x + m) (by omega)).1
      have hlab := (hF.2.1 (d.l x + m) (by omega)).1
      have hk := kdOf_r (d.c (d.l x + m))
      have hp := p_isOf hk.1 hk.2 (o := 1) (by decide) (by decide)
      simp (disch := omega) only [cLt_t, cLt_f, cEq_t, cEq_f, rdR_ok, rd_ok, wr_ok, put_eq, jn_eq, cl_some, Int.toNat_natCast]
      rw [hc]
      simp (disch := omega) only [cLt_t, cLt_f, cEq_t, cEq_f, rdR_ok, rd_ok, wr_ok, put_eq, jn_eq, cl_some, Int.toNat_natCast, p_kindL hlab, hp]
      rcases isOf_r (kdOf (d.c (d.l x + m))) 1 with e | e
      · rw [e, Int.add_zero] at h3
        rw [e]
        simp (disch := omega) only [cLt_t, cLt_f, cEq_t, cEq_f, rdR_ok, rd_ok, wr_ok, put_eq, jn_eq, cl_some, Int.toNat_natCast]
        exact h3
      · rw [e] at h3
        rw [e]
        simp (disch := omega) only [cLt_t, cLt_f, cEq_t, cEq_f, rdR_ok, rd_ok, wr_ok, put_eq, jn_eq, cl_some, Int.toNat_natCast]
        exact h3
theorem p_heads {s : St} {a : Nat} {d : Doc} (hT : TreeAt s a d) (hF : Fst d) {x : Nat} (hx : x < d.n) : X6_headsBelow a (x : Int) s = some (hdN d x, s) := by
  have hn := hF.1
  have hU := FU_gt
  have hl := (hF.2.1 x hx).2
  unfold X6_headsBelow
  have := l_heads hT hF x hx (fun x3 s4 => some (x3, s4)) FU 0 (by omega) (by omega)
  rw [sm] at this
  simp (disch := omega) only [cLt_t, cLt_f, cEq_t, cEq_f, rdR_ok, rd_ok, wr_ok, put_eq, jn_eq, cl_some, Int.toNat_natCast, p_leftmost hT hn hx]
  exact this
theorem l_qheads {t : St} {k : Nat} {d : Doc} (hk : k < 2) (hD : DocAt (t 5) (25 * k) d) (hF : Fst d) (x : Nat) (hx : x < d.n) (g : Int → St → Rs) : ∀ (n m : Nat), d.l x + m ≤ x → x < d.l x + m + n → X9_headsBeneath_10 (k : Int) (x : Int) g n (sm (fun c => isOf (kdOf (d.c c)) 1) (d.l x) m) ((d.l x + m : Nat) : Int) t = g (hdN d x) t := by
  have hn := hF.1
  intro n
  induction n with
  | zero => intro m h1 h2; omega
  | succ n ih =>
    intro m h1 h2
    rw [X9_headsBeneath_10]
    by_cases h : d.l x + m = x
    · simp (disch := omega) only [cLt_t, cLt_f, cEq_t, cEq_f, rdR_ok, rd_ok, wr_ok, put_eq, jn_eq, cl_some, Int.toNat_natCast]
      unfold hdN
      rw [show x - d.l x = m by omega]
    · have h3 := ih (m + 1) (by omega) (by omega)
      rw [sm, show ((d.l x + (m + 1) : Nat) : Int) = ((d.l x + m : Nat) : Int) + 1 by omega] at h3
      have hc := q_codeOf hk hD hn (x := d.l x + m) (by omega)
      have hlab := (hF.2.1 (d.l x + m) (by omega)).1
      have hkk := kdOf_r (d.c (d.l x + m))
      have hp := q_isA hkk.1 hkk.2 (o := 1) (by decide) (by decide)
      simp (disch := omega) only [cLt_t, cLt_f, cEq_t, cEq_f, rdR_ok, rd_ok, wr_ok, put_eq, jn_eq, cl_some, Int.toNat_natCast, hc, q_kindOf hlab, hp]
      rcases isOf_r (kdOf (d.c (d.l x + m))) 1 with e | e
      · rw [e] at h3
        rw [e]
        simp (disch := omega) only [cLt_t, cLt_f, cEq_t, cEq_f, rdR_ok, rd_ok, wr_ok, put_eq, jn_eq, cl_some, Int.toNat_natCast]
        exact h3
      · rw [e] at h3
        rw [e]
        simp (disch := omega) only [cLt_t, cLt_f, cEq_t, cEq_f, rdR_ok, rd_ok, wr_ok, put_eq, jn_eq, cl_some, Int.toNat_natCast]
        exact h3
theorem q_heads {t : St} {k : Nat} {d : Doc} (hk : k < 2) (hD : DocAt (t 5) (25 * k) d) (hF : Fst d) {x : Nat} (hx : x < d.n) : X9_headsBeneath (k : Int) (x : Int) t = some (hdN d x, t) := by
  have hn := hF.1
  have hU := FU_gt
  have hl := (hF.2.1 x hx).2
  unfold X9_headsBeneath
  have := l_qheads hk hD hF x hx (fun x3 s4 => some (x3, s4)) FU 0 (by omega) (by omega)
  rw [sm] at this
  simp (disch := omega) only [cLt_t, cLt_f, cEq_t, cEq_f, rdR_ok, rd_ok, wr_ok, put_eq, jn_eq, cl_some, Int.toNat_natCast, q_leftOf hk hD hn hx]
  exact this
def alk (d : Doc) (c : Int) : Int := sm (fun x => if d.c x = c then 1 else 0) 0 d.n
theorem l_alike {s : St} {a : Nat} {d : Doc} (hT : TreeAt s a d) (hF : Fst d) {c : Int} (hc : lab c) (k : Int → St → Rs) : ∀ (n m : Nat), m ≤ d.n → d.n < m + n → X6_nodesWith_4 a c k n (sm (fun x => if d.c x = c then 1 else 0) 0 m) (m : Int) s = k (alk d c) s := by
  have hn := hF.1
  intro n
  induction n with
  | zero => intro m h1 h2; omega
  | succ n ih =>
    intro m h1 h2
    rw [X6_nodesWith_4, hT.1]
    by_cases h : m = d.n
    · subst h
      simp (disch := omega) only [cLt_t, cLt_f, cEq_t, cEq_f, rdR_ok, rd_ok, wr_ok, put_eq, jn_eq, cl_some, Int.toNat_natCast]
      rfl
    · have h3 := ih (m + 1) (by omega) (by omega)
      rw [sm, Nat.zero_add, show ((m + 1 : Nat) : Int) = (m : Int) + 1 by omega] at h3
      have hv := (hT.2 m (by omega)).1
      have hlab := (hF.2.1 m (by omega)).1
      simp (disch := omega) only [cLt_t, cLt_f, cEq_t, cEq_f, rdR_ok, rd_ok, wr_ok, put_eq, jn_eq, cl_some, Int.toNat_natCast]
      rw [hv]
      by_cases e : d.c m = c
      · rw [if_pos e] at h3
        simp (disch := omega) only [cLt_t, cLt_f, cEq_t, cEq_f, rdR_ok, rd_ok, wr_ok, put_eq, jn_eq, cl_some, Int.toNat_natCast]
        exact h3
      · rw [if_neg e, Int.add_zero] at h3
        simp (disch := omega) only [cLt_t, cLt_f, cEq_t, cEq_f, rdR_ok, rd_ok, wr_ok, put_eq, jn_eq, cl_some, Int.toNat_natCast]
        exact h3
theorem p_alike {s : St} {a : Nat} {d : Doc} (hT : TreeAt s a d) (hF : Fst d) {c : Int} (hc : lab c) : X6_nodesWith a c s = some (alk d c, s) := by
  have hn := hF.1
  have hU := FU_gt
  exact l_alike hT hF hc (fun x1 s2 => some (x1, s2)) FU 0 (by omega) (by omega)
theorem l_qalike {t : St} {k : Nat} {d : Doc} (hk : k < 2) (hD : DocAt (t 5) (25 * k) d) (hF : Fst d) {c : Int} (hc : lab c) (g : Int → St → Rs) : ∀ (n m : Nat), m ≤ d.n → d.n < m + n → X9_alikeIn_5 (k : Int) c g n (sm (fun x => if d.c x = c then 1 else 0) 0 m) (m : Int) t = g (alk d c) t := by
  have hn := hF.1
  intro n
  induction n with
  | zero => intro m h1 h2; omega
  | succ n ih =>
    intro m h1 h2
    rw [X9_alikeIn_5]
    simp (disch := omega) only [cLt_t, cLt_f, cEq_t, cEq_f, rdR_ok, rd_ok, wr_ok, put_eq, jn_eq, cl_some, Int.toNat_natCast, q_many hk hD]
    by_cases h : m = d.n
    · subst h
      simp (disch := omega) only [cLt_t, cLt_f, cEq_t, cEq_f, rdR_ok, rd_ok, wr_ok, put_eq, jn_eq, cl_some, Int.toNat_natCast]
      rfl
    · have h3 := ih (m + 1) (by omega) (by omega)
      rw [sm, Nat.zero_add, show ((m + 1 : Nat) : Int) = (m : Int) + 1 by omega] at h3
      have hv := q_codeOf hk hD hn (x := m) (by omega)
      have hlab := (hF.2.1 m (by omega)).1
      simp (disch := omega) only [cLt_t, cLt_f, cEq_t, cEq_f, rdR_ok, rd_ok, wr_ok, put_eq, jn_eq, cl_some, Int.toNat_natCast, hv]
      by_cases e : d.c m = c
      · rw [if_pos e] at h3
        simp (disch := omega) only [cLt_t, cLt_f, cEq_t, cEq_f, rdR_ok, rd_ok, wr_ok, put_eq, jn_eq, cl_some, Int.toNat_natCast]
        exact h3
      · rw [if_neg e] at h3
        simp (disch := omega) only [cLt_t, cLt_f, cEq_t, cEq_f, rdR_ok, rd_ok, wr_ok, put_eq, jn_eq, cl_some, Int.toNat_natCast]
        exact h3
theorem q_alike {t : St} {k : Nat} {d : Doc} (hk : k < 2) (hD : DocAt (t 5) (25 * k) d) (hF : Fst d) {c : Int} (hc : lab c) : X9_alikeIn (k : Int) c t = some (alk d c, t) := by
  have hn := hF.1
  have hU := FU_gt
  exact l_qalike hk hD hF hc (fun x1 s2 => some (x1, s2)) FU 0 (by omega) (by omega)
