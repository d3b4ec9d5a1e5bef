/-! the digest -/
def fd (f : Nat → Int) : Nat → Int → Int
  | 0, h => h
  | m + 1, h => 31 * fd f m h + w32 (f m)
theorem fd_congr {f g : Nat → Int} : ∀ m h, (∀ i, i < m → f i = g i) → fd f m h = fd g m h
  | 0, _, _ => rfl
  | m + 1, h, e => by rw [fd, fd, fd_congr m h (fun i hi => e i (by omega)), e m (by omega)]
def dgT (d : Doc) (pt : Nat → Int) : Nat → Int → Int
  | 0, h => h
  | m + 1, h => 31 * (31 * (31 * (31 * dgT d pt m h + w32 (d.c m)) + w32 (d.l m)) + w32 (par d m)) + w32 (pt m)
theorem l_dgC {s : St} {v : Vec} (hv : VecOK v) (hC : CSt s v) {k : Nat} (hk : k < 2) {pt : Nat → Int} (hp : ∀ x, x < (v.doc k).n → (Whl v → (if k = 0 then s 57 x else s 58 x) = pt x) ∧ (¬Whl v → pt x = -1)) (h : Int) (g : Int → St → Rs) : ∀ (n m : Nat), m ≤ (v.doc k).n → (v.doc k).n < m + n → X8_digestOfTree_16 (k : Int) (38 + 3 * k) g n (dgT (v.doc k) pt m h) (m : Int) s = g (dgT (v.doc k) pt (v.doc k).n h) s := by
  have hF := (doc_ok hv k).1
  have hn := hF.1
  have hT := doc_C hC hk
  intro n
  induction n with
  | zero => intro m h1 h2; omega
  | succ n ih =>
    intro m h1 h2
    rw [X8_digestOfTree_16, hT.1]
    by_cases e : m = (v.doc k).n
    · subst e
      simp (disch := omega) only [cLt_t, cLt_f, cEq_t, cEq_f, rdR_ok, rd_ok, wr_ok, put_eq, jn_eq, cl_some, Int.toNat_natCast]
    · have ih' := ih (m + 1) (by omega) (by omega)
      rw [dgT] at ih'
      have e1 := (hT.2 m (by omega)).1
      have p := hp m (by omega)
      have pl := p_leftmost hT hn (x := m) (by omega)
      have pp := p_parent hT hF (x := m) (by omega)
      simp (disch := omega) only [cLt_t, cLt_f, cEq_t, cEq_f, rdR_ok, rd_ok, wr_ok, put_eq, jn_eq, cl_some, Int.toNat_natCast, e1, pl, pp]
      rw [p_isWhole hv hC]
      by_cases w : Whl v
      · have w' : 0 < v.1.n ∧ 0 < v.2.1.n := w
        rw [if_pos w']
        have pw := p.1 w
        unfold X7_partnerOf
        by_cases k0 : k = 0
        · rw [if_pos k0] at pw
          simp (disch := omega) only [cLt_t, cLt_f, cEq_t, cEq_f, rdR_ok, rd_ok, wr_ok, put_eq, jn_eq, cl_some, Int.toNat_natCast, pw]
          exact ih'
        · rw [if_neg k0] at pw
          simp (disch := omega) only [cLt_t, cLt_f, cEq_t, cEq_f, rdR_ok, rd_ok, wr_ok, put_eq, jn_eq, cl_some, Int.toNat_natCast, pw]
          exact ih'
      · have w' : ¬(0 < v.1.n ∧ 0 < v.2.1.n) := w
        rw [if_neg w']
        rw [p.2 w] at ih'
        simp (disch := omega) only [cLt_t, cLt_f, cEq_t, cEq_f, rdR_ok, rd_ok, wr_ok, put_eq, jn_eq, cl_some, Int.toNat_natCast]
        exact ih'
theorem p_dgT {s : St} {v : Vec} (hv : VecOK v) (hC : CSt s v) {k : Nat} (hk : k < 2) {pt : Nat → Int} (hp : ∀ x, x < (v.doc k).n → (Whl v → (if k = 0 then s 57 x else s 58 x) = pt x) ∧ (¬Whl v → pt x = -1)) (h : Int) : X8_digestOfTree h (k : Int) s = some (dgT (v.doc k) pt (v.doc k).n h, s) := by
  have hn := (doc_ok hv k).1.1
  have hU := FU_gt
  have l := l_dgC hv hC hk hp h (fun x3 s4 => some (x3, s4)) FU 0 (by omega) (by omega)
  unfold X8_digestOfTree
  rw [p_tree hk, cl_some, Int.toNat_natCast, gK_tree hk]
  exact l
theorem l_dgM {t : St} {v : Vec} (hv : VecOK v) (hM : MSt (t 5) v) {k : Nat} (hk : k < 2) {pt : Nat → Int} (hp : ∀ x, x < (v.doc k).n → (Whl v → (if k = 0 then t 22 x else t 23 x) = pt x) ∧ (¬Whl v → pt x = -1)) (h : Int) (g : Int → St → Rs) : ∀ (n m : Nat), m ≤ (v.doc k).n → (v.doc k).n < m + n → X9_digest_52 (k : Int) g n (dgT (v.doc k) pt m h) (m : Int) t = g (dgT (v.doc k) pt (v.doc k).n h) t := by
  have hF := (doc_ok hv k).1
  have hn := hF.1
  have hD := doc_M hM hk
  have qm := q_many hk hD
  intro n
  induction n with
  | zero => intro m h1 h2; omega
  | succ n ih =>
    intro m h1 h2
    rw [X9_digest_52]
    by_cases e : m = (v.doc k).n
    · subst e
      simp (disch := omega) only [cLt_t, cLt_f, cEq_t, cEq_f, rdR_ok, rd_ok, wr_ok, put_eq, jn_eq, cl_some, Int.toNat_natCast, qm]
    · have ih' := ih (m + 1) (by omega) (by omega)
      rw [dgT] at ih'
      have p := hp m (by omega)
      have q1 := q_codeOf hk hD hn (x := m) (by omega)
      have q2 := q_leftOf hk hD hn (x := m) (by omega)
      have q3 := q_above hk hD hF (x := m) (by omega)
      have q4 : X9_partnerTold (k : Int) (m : Int) t = some (pt m, t) := by
        unfold X9_partnerTold
        rw [q_areBoth hv hM]
        by_cases w : Whl v
        · have w' : 0 < v.1.n ∧ 0 < v.2.1.n := w
          rw [if_pos w']
          have pw := p.1 w
          by_cases k0 : k = 0
          · rw [if_pos k0] at pw
            simp (disch := omega) only [cLt_t, cLt_f, cEq_t, cEq_f, rdR_ok, rd_ok, wr_ok, put_eq, jn_eq, cl_some, Int.toNat_natCast, pw]
          · rw [if_neg k0] at pw
            simp (disch := omega) only [cLt_t, cLt_f, cEq_t, cEq_f, rdR_ok, rd_ok, wr_ok, put_eq, jn_eq, cl_some, Int.toNat_natCast, pw]
        · have w' : ¬(0 < v.1.n ∧ 0 < v.2.1.n) := w
          rw [if_neg w', p.2 w]
          simp (disch := omega) only [cLt_t, cLt_f, cEq_t, cEq_f, rdR_ok, rd_ok, wr_ok, put_eq, jn_eq, cl_some, Int.toNat_natCast]
      simp (disch := omega) only [cLt_t, cLt_f, cEq_t, cEq_f, rdR_ok, rd_ok, wr_ok, put_eq, jn_eq, cl_some, Int.toNat_natCast, qm, q1, q2, q3, q4]
      exact ih'
theorem l_dgN {s : St} {v : Vec} (hs : SolX s v) (kc : Int → St → Rs) (km : Int → St → Rs) : ∀ (n c : Nat) (h : Int) (t : St), c ≤ 14 → 14 < c + n → Cor s t v → ∃ h' t', X8_digest_13 kc n h (c : Int) s = kc h' s ∧ X9_digest_6 km n h (c : Int) t = km h' t' ∧ ScrM t t' := by
  intro n
  induction n with
  | zero => intro c h t h1 h2; omega
  | succ n ih =>
    intro c h t h1 h2 hc
    rw [X8_digest_13, X9_digest_6]
    by_cases e : c = 14
    · subst e
      refine ⟨h, t, ?_, ?_, ScrM.rfl⟩
      · simp (disch := omega) only [cLt_t, cLt_f, cEq_t, cEq_f, rdR_ok, rd_ok, wr_ok, put_eq, jn_eq, cl_some, Int.toNat_natCast]
      · simp (disch := omega) only [cLt_t, cLt_f, cEq_t, cEq_f, rdR_ok, rd_ok, wr_ok, put_eq, jn_eq, cl_some, Int.toNat_natCast]
    · obtain ⟨r, t1, b1, b2, b3⟩ := num_sim hc hs (w := (c : Int)) (by omega) (by omega)
      obtain ⟨h', t', f1, f2, f3⟩ := ih (c + 1) (31 * h + w32 r) t1 (by omega) (by omega) (scr_of hc b3)
      refine ⟨h', t', ?_, ?_, b3.trans f3⟩
      · simp (disch := omega) only [cLt_t, cLt_f, cEq_t, cEq_f, rdR_ok, rd_ok, wr_ok, put_eq, jn_eq, cl_some, Int.toNat_natCast, b1]
        exact f1
      · simp (disch := omega) only [cLt_t, cLt_f, cEq_t, cEq_f, rdR_ok, rd_ok, wr_ok, put_eq, jn_eq, cl_some, Int.toNat_natCast, b2]
        exact f2
theorem l_dg49 {s : St} (h : Int) (g : Int → St → Rs) : ∀ (n m : Nat), m ≤ 3 → 3 < m + n → X8_digest_52 g n (fd (fun k => s (32 + 2 * k) 0) m h) (m : Int) s = g (fd (fun k => s (32 + 2 * k) 0) 3 h) s := by
  intro n
  induction n with
  | zero => intro m h1 h2; omega
  | succ n ih =>
    intro m h1 h2
    rw [X8_digest_52]
    by_cases e : m = 3
    · subst e
      simp (disch := omega) only [cLt_t, cLt_f, cEq_t, cEq_f, rdR_ok, rd_ok, wr_ok, put_eq, jn_eq, cl_some, Int.toNat_natCast]
    · have ih' := ih (m + 1) (by omega) (by omega)
      rw [fd] at ih'
      simp (disch := omega) only [cLt_t, cLt_f, cEq_t, cEq_f, rdR_ok, rd_ok, wr_ok, put_eq, jn_eq, cl_some, Int.toNat_natCast]
      exact ih'
theorem l_dg136 {t : St} {f : Nat → Int} (hb : ∀ k, k < 3 → (t 8 k = 0 ∧ f k = -1) ∨ (t 8 k = 1 ∧ t 7 (2174 * k) = f k)) (h : Int) (g : Int → St → Rs) : ∀ (n m : Nat), m ≤ 3 → 3 < m + n → X9_digest_136 g n (fd f m h) (m : Int) t = g (fd f 3 h) t := by
  intro n
  induction n with
  | zero => intro m h1 h2; omega
  | succ n ih =>
    intro m h1 h2
    rw [X9_digest_136]
    by_cases e : m = 3
    · subst e
      simp (disch := omega) only [cLt_t, cLt_f, cEq_t, cEq_f, rdR_ok, rd_ok, wr_ok, put_eq, jn_eq, cl_some, Int.toNat_natCast]
    · have ih' := ih (m + 1) (by omega) (by omega)
      rw [fd] at ih'
      have i1 : Hid ((2174 * (m : Int)).toNat = 2174 * m) := Hid.mk (by omega)
      rcases hb m (by omega) with ⟨q1, q2⟩ | ⟨q1, q2⟩
      · rw [q2] at ih'
        simp (disch := omega) only [cLt_t, cLt_f, cEq_t, cEq_f, rdR_ok, rd_ok, wr_ok, put_eq, jn_eq, cl_some, Int.toNat_natCast, q1]
        exact ih'
      · simp (disch := omega) only [cLt_t, cLt_f, cEq_t, cEq_f, rdR_ok, rd_ok, wr_ok, put_eq, jn_eq, cl_some, Int.toNat_natCast, q1, i1.out, q2]
        exact ih'
def rws (L : Nat → Int) (F : Nat → Nat → Int) : Nat → Int → Int
  | 0, h => h
  | r + 1, h => fd (F r) (L r).toNat (31 * rws L F r h + w32 (L r))
theorem rws_congr {L L' : Nat → Int} {F F' : Nat → Nat → Int} : ∀ m h, (∀ r, r < m → L r = L' r ∧ ∀ i : Nat, (i : Int) < L' r → F r i = F' r i) → rws L F m h = rws L' F' m h
  | 0, _, _ => rfl
  | m + 1, h, e => by
    have := e m (by omega)
    rw [rws, rws, rws_congr m h (fun r hr => e r (by omega)), this.1, fd_congr (L' m).toNat _ (fun i hi => this.2 i (by omega))]
theorem l_row15 {s : St} {a : Nat} {L : Int} (hL : s a 0 = L) (h1 : -1 ≤ L) (h2 : L ≤ 40) (h : Int) (g : Int → St → Rs) : ∀ (n m : Nat), m ≤ L.toNat → L.toNat < m + n → X2_digestAfter_15 a g n (fd (s (a + 1)) m h) (m : Int) s = g (fd (s (a + 1)) L.toNat h) s := by
  intro n
  induction n with
  | zero => intro m h1 h2; omega
  | succ n ih =>
    intro m h3 h4
    rw [X2_digestAfter_15, hL]
    by_cases e : m = L.toNat
    · by_cases q : L < 0
      · subst e
        simp (disch := omega) only [cLt_t, cLt_f, cEq_t, cEq_f, rdR_ok, rd_ok, wr_ok, put_eq, jn_eq, cl_some, Int.toNat_natCast]
      · rw [show (m : Int) = L by omega, e]
        simp (disch := omega) only [cLt_t, cLt_f, cEq_t, cEq_f, rdR_ok, rd_ok, wr_ok, put_eq, jn_eq, cl_some, Int.toNat_natCast]
    · have ih' := ih (m + 1) (by omega) (by omega)
      rw [fd] at ih'
      simp (disch := omega) only [cLt_t, cLt_f, cEq_t, cEq_f, rdR_ok, rd_ok, wr_ok, put_eq, jn_eq, cl_some, Int.toNat_natCast]
      exact ih'
theorem l_txt15 {s : St} {a : Nat} {L : Int} (hL : s a 0 = L) (h1 : -1 ≤ L) (h2 : L ≤ 60) (h : Int) (g : Int → St → Rs) : ∀ (n m : Nat), m ≤ L.toNat → L.toNat < m + n → X5_digestAfter_15 a g n (fd (s (a + 1)) m h) (m : Int) s = g (fd (s (a + 1)) L.toNat h) s := by
  intro n
  induction n with
  | zero => intro m h1 h2; omega
  | succ n ih =>
    intro m h3 h4
    rw [X5_digestAfter_15, hL]
    by_cases e : m = L.toNat
    · by_cases q : L < 0
      · subst e
        simp (disch := omega) only [cLt_t, cLt_f, cEq_t, cEq_f, rdR_ok, rd_ok, wr_ok, put_eq, jn_eq, cl_some, Int.toNat_natCast]
      · rw [show (m : Int) = L by omega, e]
        simp (disch := omega) only [cLt_t, cLt_f, cEq_t, cEq_f, rdR_ok, rd_ok, wr_ok, put_eq, jn_eq, cl_some, Int.toNat_natCast]
    · have ih' := ih (m + 1) (by omega) (by omega)
      rw [fd] at ih'
      simp (disch := omega) only [cLt_t, cLt_f, cEq_t, cEq_f, rdR_ok, rd_ok, wr_ok, put_eq, jn_eq, cl_some, Int.toNat_natCast]
      exact ih'
theorem l_dg79 {s : St} (hb : ∀ r, r < 6 → -1 ≤ s (10 + 2 * r) 0 ∧ s (10 + 2 * r) 0 ≤ 40) (h : Int) (g : Int → St → Rs) : ∀ (n m : Nat), m ≤ 6 → 6 < m + n → X8_digest_82 g n (rws (fun r => s (10 + 2 * r) 0) (fun r => s (10 + 2 * r + 1)) m h) (m : Int) s = g (rws (fun r => s (10 + 2 * r) 0) (fun r => s (10 + 2 * r + 1)) 6 h) s := by
  have hU := FU_gt
  intro n
  induction n with
  | zero => intro m h1 h2; omega
  | succ n ih =>
    intro m h1 h2
    rw [X8_digest_82]
    by_cases e : m = 6
    · subst e
      simp (disch := omega) only [cLt_t, cLt_f, cEq_t, cEq_f, rdR_ok, rd_ok, wr_ok, put_eq, jn_eq, cl_some, Int.toNat_natCast]
    · have ih' := ih (m + 1) (by omega) (by omega)
      rw [rws] at ih'
      have b := hb m (by omega)
      have l := l_row15 (s := s) (a := 10 + 2 * m) rfl b.1 b.2 (31 * rws (fun r => s (10 + 2 * r) 0) (fun r => s (10 + 2 * r + 1)) m h + w32 (s (10 + 2 * m) 0)) (fun x1 s2 => some (x1, s2)) FU 0 (by omega) (by omega)
      have l' : X2_digestAfter (10 + 2 * m) (rws (fun r => s (10 + 2 * r) 0) (fun r => s (10 + 2 * r + 1)) m h) s = _ := l
      simp (disch := omega) only [cLt_t, cLt_f, cEq_t, cEq_f, rdR_ok, rd_ok, wr_ok, put_eq, jn_eq, cl_some, Int.toNat_natCast, l']
      exact ih'
theorem l_dg104 {s : St} (hb : ∀ r, r < 4 → -1 ≤ s (22 + 2 * r) 0 ∧ s (22 + 2 * r) 0 ≤ 60) (h : Int) (g : Int → St → Rs) : ∀ (n m : Nat), m ≤ 4 → 4 < m + n → X8_digest_107 g n (rws (fun r => s (22 + 2 * r) 0) (fun r => s (22 + 2 * r + 1)) m h) (m : Int) s = g (rws (fun r => s (22 + 2 * r) 0) (fun r => s (22 + 2 * r + 1)) 4 h) s := by
  have hU := FU_gt
  intro n
  induction n with
  | zero => intro m h1 h2; omega
  | succ n ih =>
    intro m h1 h2
    rw [X8_digest_107]
    by_cases e : m = 4
    · subst e
      simp (disch := omega) only [cLt_t, cLt_f, cEq_t, cEq_f, rdR_ok, rd_ok, wr_ok, put_eq, jn_eq, cl_some, Int.toNat_natCast]
    · have ih' := ih (m + 1) (by omega) (by omega)
      rw [rws] at ih'
      have b := hb m (by omega)
      have l := l_txt15 (s := s) (a := 22 + 2 * m) rfl b.1 b.2 (31 * rws (fun r => s (22 + 2 * r) 0) (fun r => s (22 + 2 * r + 1)) m h + w32 (s (22 + 2 * m) 0)) (fun x1 s2 => some (x1, s2)) FU 0 (by omega) (by omega)
      have l' : X5_digestAfter (22 + 2 * m) (rws (fun r => s (22 + 2 * r) 0) (fun r => s (22 + 2 * r + 1)) m h) s = _ := l
      simp (disch := omega) only [cLt_t, cLt_f, cEq_t, cEq_f, rdR_ok, rd_ok, wr_ok, put_eq, jn_eq, cl_some, Int.toNat_natCast, l']
      exact ih'
theorem l_dg203 {t : St} {r : Nat} (hr : r < 6) {L : Int} (hL : t 1 r = L) (h1 : -1 ≤ L) (h2 : L ≤ 40) (h : Int) (g : Int → St → Rs) : ∀ (n m : Nat), m ≤ L.toNat → L.toNat < m + n → X9_digest_203 (r : Int) g n (fd (fun i => t 2 (40 * r + i)) m h) (m : Int) t = g (fd (fun i => t 2 (40 * r + i)) L.toNat h) t := by
  intro n
  induction n with
  | zero => intro m h1 h2; omega
  | succ n ih =>
    intro m h3 h4
    rw [X9_digest_203]
    by_cases e : m = L.toNat
    · by_cases q : L < 0
      · subst e
        simp (disch := omega) only [cLt_t, cLt_f, cEq_t, cEq_f, rdR_ok, rd_ok, wr_ok, put_eq, jn_eq, cl_some, Int.toNat_natCast, hL]
      · rw [show (m : Int) = L by omega, e]
        simp (disch := omega) only [cLt_t, cLt_f, cEq_t, cEq_f, rdR_ok, rd_ok, wr_ok, put_eq, jn_eq, cl_some, Int.toNat_natCast, hL]
    · have ih' := ih (m + 1) (by omega) (by omega)
      rw [fd] at ih'
      have i1 : Hid ((40 * (r : Int) + (m : Int)).toNat = 40 * r + m) := Hid.mk (by omega)
      simp (disch := omega) only [cLt_t, cLt_f, cEq_t, cEq_f, rdR_ok, rd_ok, wr_ok, put_eq, jn_eq, cl_some, Int.toNat_natCast, hL, i1.out]
      exact ih'
theorem l_dg270 {t : St} {r : Nat} (hr : r < 4) {L : Int} (hL : t 3 r = L) (h1 : -1 ≤ L) (h2 : L ≤ 60) (h : Int) (g : Int → St → Rs) : ∀ (n m : Nat), m ≤ L.toNat → L.toNat < m + n → X9_digest_270 (r : Int) g n (fd (fun i => t 4 (60 * r + i)) m h) (m : Int) t = g (fd (fun i => t 4 (60 * r + i)) L.toNat h) t := by
  intro n
  induction n with
  | zero => intro m h1 h2; omega
  | succ n ih =>
    intro m h3 h4
    rw [X9_digest_270]
    by_cases e : m = L.toNat
    · by_cases q : L < 0
      · subst e
        simp (disch := omega) only [cLt_t, cLt_f, cEq_t, cEq_f, rdR_ok, rd_ok, wr_ok, put_eq, jn_eq, cl_some, Int.toNat_natCast, hL]
      · rw [show (m : Int) = L by omega, e]
        simp (disch := omega) only [cLt_t, cLt_f, cEq_t, cEq_f, rdR_ok, rd_ok, wr_ok, put_eq, jn_eq, cl_some, Int.toNat_natCast, hL]
    · have ih' := ih (m + 1) (by omega) (by omega)
      rw [fd] at ih'
      have i1 : Hid ((60 * (r : Int) + (m : Int)).toNat = 60 * r + m) := Hid.mk (by omega)
      simp (disch := omega) only [cLt_t, cLt_f, cEq_t, cEq_f, rdR_ok, rd_ok, wr_ok, put_eq, jn_eq, cl_some, Int.toNat_natCast, hL, i1.out]
      exact ih'
theorem l_dg180 {t : St} (hb : ∀ r, r < 6 → -1 ≤ t 1 r ∧ t 1 r ≤ 40) (h : Int) (g : Int → St → Rs) : ∀ (n m : Nat), m ≤ 6 → 6 < m + n → X9_digest_180 g n (rws (t 1) (fun r i => t 2 (40 * r + i)) m h) (m : Int) t = g (rws (t 1) (fun r i => t 2 (40 * r + i)) 6 h) t := by
  have hU := FU_gt
  intro n
  induction n with
  | zero => intro m h1 h2; omega
  | succ n ih =>
    intro m h1 h2
    rw [X9_digest_180]
    by_cases e : m = 6
    · subst e
      simp (disch := omega) only [cLt_t, cLt_f, cEq_t, cEq_f, rdR_ok, rd_ok, wr_ok, put_eq, jn_eq, cl_some, Int.toNat_natCast]
    · have ih' := ih (m + 1) (by omega) (by omega)
      rw [rws] at ih'
      have b := hb m (by omega)
      have l := l_dg203 (t := t) (r := m) (by omega) rfl b.1 b.2 (31 * rws (t 1) (fun r i => t 2 (40 * r + i)) m h + w32 (t 1 m)) (fun x2 s3 => X9_digest_180 g n x2 ((m : Int) + 1) s3) FU 0 (by omega) (by omega)
      simp (disch := omega) only [cLt_t, cLt_f, cEq_t, cEq_f, rdR_ok, rd_ok, wr_ok, put_eq, jn_eq, cl_some, Int.toNat_natCast]
      exact l.trans ih'
theorem l_dg248 {t : St} (hb : ∀ r, r < 4 → -1 ≤ t 3 r ∧ t 3 r ≤ 60) (h : Int) (g : Int → St → Rs) : ∀ (n m : Nat), m ≤ 4 → 4 < m + n → X9_digest_248 g n (rws (t 3) (fun r i => t 4 (60 * r + i)) m h) (m : Int) t = g (rws (t 3) (fun r i => t 4 (60 * r + i)) 4 h) t := by
  have hU := FU_gt
  intro n
  induction n with
  | zero => intro m h1 h2; omega
  | succ n ih =>
    intro m h1 h2
    rw [X9_digest_248]
    by_cases e : m = 4
    · subst e
      simp (disch := omega) only [cLt_t, cLt_f, cEq_t, cEq_f, rdR_ok, rd_ok, wr_ok, put_eq, jn_eq, cl_some, Int.toNat_natCast]
    · have ih' := ih (m + 1) (by omega) (by omega)
      rw [rws] at ih'
      have b := hb m (by omega)
      have l := l_dg270 (t := t) (r := m) (by omega) rfl b.1 b.2 (31 * rws (t 3) (fun r i => t 4 (60 * r + i)) m h + w32 (t 3 m)) (fun x2 s3 => X9_digest_248 g n x2 ((m : Int) + 1) s3) FU 0 (by omega) (by omega)
      simp (disch := omega) only [cLt_t, cLt_f, cEq_t, cEq_f, rdR_ok, rd_ok, wr_ok, put_eq, jn_eq, cl_some, Int.toNat_natCast]
      exact l.trans ih'
def dEndC : Int → St → Rs := fun x3 s4 => cl (X8_digestOfTree x3 0 s4) (fun v5 s6 => cl (X8_digestOfTree v5 1 s6) (fun v7 s8 => X8_digest_52  (fun x9 s10 => X8_digest_82  (fun x11 s12 => X8_digest_107  (fun x13 s14 => some (x13, s14)) FU x11 0 s12) FU x9 0 s10) FU v7 0 s8))
def dEndM : Int → St → Rs := fun x1 s5 => X9_digest_44  (fun x7 s8 => X9_digest_136  (fun x9 s10 => X9_digest_180  (fun x11 s12 => X9_digest_248  (fun x13 s14 => some (x13, s14)) FU x11 0 s12) FU x9 0 s10) FU x7 0 s8) FU x1 0 s5
theorem dg_end {s t : St} {v : Vec} (hc : Cor s t v) {p0 p1 : Nat → Int} (c0 : ∀ x, x < v.1.n → (Whl v → s 57 x = p0 x ∧ t 22 x = p0 x) ∧ (¬Whl v → p0 x = -1)) (c1 : ∀ x, x < v.2.1.n → (Whl v → s 58 x = p1 x ∧ t 23 x = p1 x) ∧ (¬Whl v → p1 x = -1)) (h : Int) : ∃ r, dEndC h s = some (r, s) ∧ dEndM h t = some (r, t) := by
  obtain ⟨hv, hC, hM⟩ := hc.ok
  obtain ⟨n, lg, a4, a5⟩ := hc.lg
  have n0 := hv.1.1.1
  have n1 := hv.2.1.1.1
  have hU := FU_gt
  have d0 : X8_digestOfTree h 0 s = some (dgT v.1 p0 v.1.n h, s) := p_dgT hv hC (k := 0) (by omega) (pt := p0) (fun x hx => ⟨fun w => ((c0 x hx).1 w).1, (c0 x hx).2⟩) h
  have d1 : X8_digestOfTree (dgT v.1 p0 v.1.n h) 1 s = some (dgT v.2.1 p1 v.2.1.n (dgT v.1 p0 v.1.n h), s) := p_dgT hv hC (k := 1) (by omega) (pt := p1) (fun x hx => ⟨fun w => ((c1 x hx).1 w).1, (c1 x hx).2⟩) _
  have rb : ∀ r, r < 6 → -1 ≤ t 1 r ∧ t 1 r ≤ 40 := fun r hr => ⟨(hc.1 r hr).2.1, (hc.1 r hr).2.2.1⟩
  have tb : ∀ r, r < 4 → -1 ≤ t 3 r ∧ t 3 r ≤ 60 := fun r hr => ⟨(hc.2.1 r hr).2.1, (hc.2.1 r hr).2.2.1⟩
  have r1 := rws_congr (L := fun r => s (10 + 2 * r) 0) (L' := t 1) (F := fun r => s (10 + 2 * r + 1)) (F' := fun r i => t 2 (40 * r + i)) 6 (fd (fun k => s (32 + 2 * k) 0) 3 (dgT v.2.1 p1 v.2.1.n (dgT v.1 p0 v.1.n h))) (fun r hr => ⟨(hc.1 r hr).1, (hc.1 r hr).2.2.2⟩)
  have r2 := rws_congr (L := fun r => s (22 + 2 * r) 0) (L' := t 3) (F := fun r => s (22 + 2 * r + 1)) (F' := fun r i => t 4 (60 * r + i)) 4 (rws (t 1) (fun r i => t 2 (40 * r + i)) 6 (fd (fun k => s (32 + 2 * k) 0) 3 (dgT v.2.1 p1 v.2.1.n (dgT v.1 p0 v.1.n h)))) (fun r hr => ⟨(hc.2.1 r hr).1, fun i hi => ((hc.2.1 r hr).2.2.2 i hi).1⟩)
  refine ⟨rws (t 3) (fun r i => t 4 (60 * r + i)) 4 (rws (t 1) (fun r i => t 2 (40 * r + i)) 6 (fd (fun k => s (32 + 2 * k) 0) 3 (dgT v.2.1 p1 v.2.1.n (dgT v.1 p0 v.1.n h)))), ?_, ?_⟩
  · unfold dEndC
    rw [d0, cl_some, d1, cl_some]
    refine (l_dg49 (s := s) (dgT v.2.1 p1 v.2.1.n (dgT v.1 p0 v.1.n h)) _ FU 0 (by omega) (by omega)).trans ?_
    refine (l_dg79 (s := s) (fun r hr => by rw [(hc.1 r hr).1]; exact rb r hr) (fd (fun k => s (32 + 2 * k) 0) 3 (dgT v.2.1 p1 v.2.1.n (dgT v.1 p0 v.1.n h))) _ FU 0 (by omega) (by omega)).trans ?_
    refine (l_dg104 (s := s) (fun r hr => by rw [(hc.2.1 r hr).1]; exact tb r hr) (rws (fun r => s (10 + 2 * r) 0) (fun r => s (10 + 2 * r + 1)) 6 (fd (fun k => s (32 + 2 * k) 0) 3 (dgT v.2.1 p1 v.2.1.n (dgT v.1 p0 v.1.n h)))) _ FU 0 (by omega) (by omega)).trans ?_
    rw [r1, r2]
  · unfold dEndM
    obtain ⟨F, hF⟩ : ∃ F, FU = F + 1 + 1 + 1 := ⟨FU - 3, by omega⟩
    have e0 : ∀ g, X9_digest_44 g FU h 0 t = g (dgT v.2.1 p1 v.2.1.n (dgT v.1 p0 v.1.n h)) t := fun g => by
      have m0 := l_dgM hv hM (k := 0) (by omega) (pt := p0) (fun x hx => ⟨fun w => ((c0 x hx).1 w).2, (c0 x hx).2⟩) h (fun x1 s2 => X9_digest_44 g (F + 1 + 1) x1 (0 + 1) s2) FU 0 (by omega) (by have : (v.doc 0).n = v.1.n := rfl; omega)
      have m1 := l_dgM hv hM (k := 1) (by omega) (pt := p1) (fun x hx => ⟨fun w => ((c1 x hx).1 w).2, (c1 x hx).2⟩) (dgT v.1 p0 v.1.n h) (fun x1 s2 => X9_digest_44 g (F + 1) x1 (1 + 1) s2) FU 0 (by omega) (by have : (v.doc 1).n = v.2.1.n := rfl; omega)
      have z : X9_digest_44 g FU h 0 t = X9_digest_44 g (F + 1 + 1 + 1) h 0 t := by rw [← hF]
      rw [z, X9_digest_44, cLt_t (by omega) (by omega) (by omega)]
      refine m0.trans ?_
      rw [X9_digest_44, cLt_t (by omega) (by omega) (by omega)]
      refine m1.trans ?_
      rw [X9_digest_44, cLt_f (by omega) (by omega) (by omega)]
      rfl
    rw [e0]
    refine (l_dg136 (t := t) (f := fun k => s (32 + 2 * k) 0) (fun k hk => ?_) (dgT v.2.1 p1 v.2.1.n (dgT v.1 p0 v.1.n h)) _ FU 0 (by omega) (by omega)).trans ?_
    · rcases a5 k hk with ⟨q1, q2⟩ | ⟨q1, n', lg', v', q2, q3, q4, _⟩
      · exact Or.inl ⟨q1, q2⟩
      · exact Or.inr ⟨q1, by rw [q4, q3]⟩
    refine (l_dg180 (t := t) rb (fd (fun k => s (32 + 2 * k) 0) 3 (dgT v.2.1 p1 v.2.1.n (dgT v.1 p0 v.1.n h))) _ FU 0 (by omega) (by omega)).trans ?_
    exact (l_dg248 (t := t) tb (rws (t 1) (fun r i => t 2 (40 * r + i)) 6 (fd (fun k => s (32 + 2 * k) 0) 3 (dgT v.2.1 p1 v.2.1.n (dgT v.1 p0 v.1.n h)))) _ FU 0 (by omega) (by omega))
theorem sim_digest : ∀ s t : St, InvS SolX s t → Ok2 (InvS SolX) (X8_digest s) (X9_digest t) := by
  intro s t hI
  obtain ⟨v, hc, hs⟩ := cor_of hI
  obtain ⟨hv, hC, hM⟩ := hc.ok
  have hU := FU_gt
  obtain ⟨s', q1, q2, q3, q4⟩ := p_refresh hv hC hs
  have hc' : Cor s' t v := hc.frame (fun b w1 w2 w3 w4 => q2 b w1 w2 (by omega)) ScrM.rfl
  obtain ⟨h, t1, f1, f2, f3⟩ := l_dgN (s := s') (v := v) q4 dEndC (fun x1 s2 => cl (X9_areBoth s2) (fun v3 s4 => cEq v3 0 (dEndM x1 s4) (cl (X9_laysWay s4) (fun _ s16 => dEndM x1 s16)))) FU 0 17 t (by omega) (by omega) hc'
  have e1 : X8_digest s = dEndC h s' := by
    unfold X8_digest
    rw [q1, cl_some]
    exact f1
  have e2 : X9_digest t = cl (X9_areBoth t1) (fun v3 s4 => cEq v3 0 (dEndM h s4) (cl (X9_laysWay s4) (fun _ s16 => dEndM h s16))) := f2
  have hc1 := scr_of hc' f3
  obtain ⟨-, hC1, hM1⟩ := hc1.ok
  rw [e1, e2, q_areBoth hv hM1]
  by_cases g : 0 < v.1.n ∧ 0 < v.2.1.n
  · rw [if_pos g]
    have sol := q4 g
    obtain ⟨t2, m1, m2, m3, m4, m5⟩ := q_laysWay hv g.1 g.2 sol.2.1 hM1
    have hc2 := scr_of hc1 m2.scr
    have ho := oth_eq sol _ m4
    obtain ⟨r, b1, b2⟩ := dg_end hc2 (p0 := s' 57) (p1 := s' 58) (fun x hx => ⟨fun _ => ⟨rfl, m3 x hx⟩, fun w => absurd g w⟩) (fun x hx => ⟨fun _ => ⟨rfl, ho x hx⟩, fun w => absurd g w⟩) h
    simp (disch := omega) only [cLt_t, cLt_f, cEq_t, cEq_f, rdR_ok, rd_ok, wr_ok, put_eq, jn_eq, cl_some, Int.toNat_natCast, m1]
    exact ⟨r, s', t2, b1, b2, hc2.inv q3⟩
  · rw [if_neg g]
    obtain ⟨r, b1, b2⟩ := dg_end hc1 (p0 := fun _ => -1) (p1 := fun _ => -1) (fun x hx => ⟨fun w => absurd w g, fun _ => rfl⟩) (fun x hx => ⟨fun w => absurd w g, fun _ => rfl⟩) h
    simp (disch := omega) only [cLt_t, cLt_f, cEq_t, cEq_f, rdR_ok, rd_ok, wr_ok, put_eq, jn_eq, cl_some, Int.toNat_natCast]
    exact ⟨r, s', t1, b1, b2, hc1.inv q3⟩
