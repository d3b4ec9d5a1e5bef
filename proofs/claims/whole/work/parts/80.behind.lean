/-! behind: the model's side -/
section BEHIND
variable {L : List Sstp} {v : Vec} {G O : Nat → Int}
theorem l_show2 {k : Nat} {d : Doc} (hk : k < 2) (hF : Fst d) {z1 z2 z3 : Int} (g : St → Rs) : ∀ (n x : Nat) (t : St), x ≤ d.n → d.n < x + n → DocAt (t 5) (25 * k) d → (∀ y, y < x → t 15 y = d.c y) → ∃ t', X9_behind_128 z1 z2 (k : Int) z3 g n (x : Int) t = g t' ∧ (∀ b, b ≠ 15 → t' b = t b) ∧ ∀ y, y < d.n → t' 15 y = d.c y := by
  have hn := hF.1
  intro n
  induction n with
  | zero => intro x t h1 h2; omega
  | succ n ih =>
    intro x t h1 h2 hD hI
    rw [X9_behind_128]
    have qm := q_many hk hD
    by_cases e : x = d.n
    · subst e
      refine ⟨t, ?_, fun _ _ => rfl, hI⟩
      simp (disch := omega) only [cLt_t, cLt_f, cEq_t, cEq_f, rdR_ok, rd_ok, wr_ok, put_eq, jn_eq, cl_some, Int.toNat_natCast, qm]
    · have qc := q_codeOf hk hD hn (x := x) (by omega)
      obtain ⟨t', f1, f2, f3⟩ := ih (x + 1) (up t 15 x (d.c x)) (by omega) (by omega) (by rw [up_b (by omega)]; exact hD) (fun y hy => by
        by_cases q : y = x
        · subst q
          rw [up_eq]
        · rw [up_i q]
          exact hI y (by omega))
      refine ⟨t', ?_, fun b hb => by rw [f2 b hb, up_b hb], f3⟩
      simp (disch := omega) only [cLt_t, cLt_f, cEq_t, cEq_f, rdR_ok, rd_ok, wr_ok, put_eq, jn_eq, cl_some, Int.toNat_natCast, qm, qc]
      exact f1
theorem l_b84 {d : Doc} (hF : Fst d) {t : St} (hD : DocAt (t 5) 25 d) (hO : ∀ b, b < d.n → t 23 b = O b ∧ -9 ≤ O b ∧ O b ≤ 12) {z1 z2 z3 : Int} (g : Int → St → Rs) : ∀ (n c m : Nat), c ≤ d.n → d.n < c + n → m < 4096 → (∀ y, y < 12 → (m.testBit y = true ↔ y < c ∧ O y ≠ -9)) → ∃ m' : Nat, X9_behind_84 z1 z2 z3 g n (m : Int) (c : Int) t = g (m' : Int) t ∧ m' < 4096 ∧ ∀ y, y < d.n → (m'.testBit y = true ↔ O y ≠ -9) := by
  have hn := hF.1
  intro n
  induction n with
  | zero => intro c m h1 h2; omega
  | succ n ih =>
    intro c m h1 h2 hm hI
    rw [X9_behind_84]
    have qm := q_many1 hD
    by_cases e : c = d.n
    · subst e
      refine ⟨m, ?_, hm, fun y hy => by rw [hI y (by omega)]; exact ⟨fun z => z.2, fun z => ⟨hy, z⟩⟩⟩
      simp (disch := omega) only [cLt_t, cLt_f, cEq_t, cEq_f, rdR_ok, rd_ok, wr_ok, put_eq, jn_eq, cl_some, Int.toNat_natCast, qm]
    · obtain ⟨o1, o2, o3⟩ := hO c (by omega)
      by_cases q : O c = -9
      · obtain ⟨m', f1, f2⟩ := ih (c + 1) m (by omega) (by omega) hm (fun y hy => by
          rw [hI y hy]
          constructor
          · rintro ⟨w1, w2⟩; exact ⟨by omega, w2⟩
          · rintro ⟨w1, w2⟩
            by_cases ey : y = c
            · subst ey; exact absurd q w2
            · exact ⟨by omega, w2⟩)
        refine ⟨m', ?_, f2⟩
        simp (disch := omega) only [cLt_t, cLt_f, cEq_t, cEq_f, rdR_ok, rd_ok, wr_ok, put_eq, jn_eq, cl_some, Int.toNat_natCast, qm, o1, q, bt_or0]
        exact f1
      · obtain ⟨m', f1, f2⟩ := ih (c + 1) (m ||| 2 ^ c) (by omega) (by omega) (or_lt hm (by omega)) (fun y hy => by
          rw [tb_or, Bool.or_eq_true, decide_eq_true_iff, hI y hy]
          constructor
          · rintro (⟨w1, w2⟩ | w)
            · exact ⟨by omega, w2⟩
            · subst w; exact ⟨by omega, q⟩
          · rintro ⟨w1, w2⟩
            by_cases ey : c = y
            · exact Or.inr ey
            · exact Or.inl ⟨by omega, w2⟩)
        refine ⟨m', ?_, f2⟩
        have bo := bt_or hm (k := c) (by omega)
        simp (disch := omega) only [cLt_t, cLt_f, cEq_t, cEq_f, rdR_ok, rd_ok, wr_ok, put_eq, jn_eq, cl_some, Int.toNat_natCast, qm, o1, bo]
        exact f1
/-- document 0: deleted nodes leave the set, relabelled ones are shown with their new codes -/
theorem l_b161a {A B : Doc} (hA12 : A.n ≤ 12) (hB12 : B.n ≤ 12) (h24 : L.length ≤ 24) {kk : Nat} (hkk : kk ≤ L.length) (hs : ∀ s, s < kk → ∃ y : Nat, ((atS L s).1 = 0 ∨ (atS L s).1 = 1) ∧ (atS L s).2.1 = (y : Int) ∧ y < A.n ∧ ((atS L s).1 = 1 → 0 ≤ G y ∧ G y < B.n)) {z2 : Int} (g : Int → St → Rs) : ∀ (n c m : Nat) (t : St) (E : Doc), c ≤ kk → kk < c + n → m < 4096 → SpM t L → DocAt (t 5) 25 B → (∀ x, x < A.n → t 22 x = G x) → RelC A B G L c E → (∀ x, x < A.n → t 15 x = E.c x) → (∀ y, y < A.n → (m.testBit y = true ↔ ¬nodeIn L 0 c 0 y)) → ∃ (m' : Nat) (t' : St) (E' : Doc), X9_behind_161 (kk : Int) z2 0 g n (m : Int) (c : Int) t = g (m' : Int) t' ∧ m' < 4096 ∧ (∀ b, b ≠ 15 → t' b = t b) ∧ RelC A B G L kk E' ∧ (∀ x, x < A.n → t' 15 x = E'.c x) ∧ ∀ y, y < A.n → (m'.testBit y = true ↔ ¬nodeIn L 0 kk 0 y) := by
  intro n
  induction n with
  | zero => intro c m t E h1 h2; omega
  | succ n ih =>
    intro c m t E h1 h2 hm hL hB hG hR hsh hI
    rw [X9_behind_161]
    by_cases e : c = kk
    · subst e
      refine ⟨m, t, E, ?_, hm, fun _ _ => rfl, hR, hsh, hI⟩
      simp (disch := omega) only [cLt_t, cLt_f, cEq_t, cEq_f, rdR_ok, rd_ok, wr_ok, put_eq, jn_eq, cl_some, Int.toNat_natCast]
    · obtain ⟨e1, e2, e3⟩ := hL.2 c (by omega)
      obtain ⟨x, x1, x3, x4, x5⟩ := hs c (by omega)
      rw [x3] at e2
      have i1 : Hid ((3 * (c : Int)).toNat = 3 * c) := Hid.mk (by omega)
      have i2 : Hid ((3 * (c : Int) + 1).toNat = 3 * c + 1) := Hid.mk (by omega)
      rcases x1 with q | q
      · have R' : RelC A B G L (c + 1) E := by
          obtain ⟨r1, r2, r3⟩ := hR
          refine ⟨r1, r2, fun z hz => ?_⟩
          have := r3 z hz
          refine ⟨fun w => this.1 ?_, fun w => this.2 (fun w2 => w ((nodeIn_hi (by omega)).mpr (Or.inr w2)))⟩
          rcases (nodeIn_hi (by omega)).mp w with ⟨w1, _⟩ | w2
          · omega
          · exact w2
        obtain ⟨m', t', E', f1, f2⟩ := ih (c + 1) (m &&& (4095 - 2 ^ x)) t E (by omega) (by omega) (and_lt hm) hL hB hG R' hsh (fun y hy => by
          rw [tb_and (by omega) (by omega), Bool.and_eq_true, hI y hy, nodeIn_hi (by omega)]
          simp only [Bool.not_eq_true', decide_eq_false_iff_not]
          constructor
          · rintro ⟨w1, w2⟩ (⟨w3, w4⟩ | w3)
            · rw [x3] at w4; exact w2 (by omega)
            · exact w1 w3
          · intro w
            exact ⟨fun z => w (Or.inr z), fun z => w (Or.inl ⟨q, by rw [x3, z]⟩)⟩)
        refine ⟨m', t', E', ?_, f2⟩
        have ba := bt_and hm (k := x) (by omega)
        rw [q] at e1
        simp (disch := omega) only [cLt_t, cLt_f, cEq_t, cEq_f, rdR_ok, rd_ok, wr_ok, put_eq, jn_eq, cl_some, Int.toNat_natCast, i1.out, i2.out, e1, e2, ba]
        exact f1
      · obtain ⟨y2, y3⟩ := x5 q
        obtain ⟨y, hy⟩ : ∃ y : Nat, G x = y := ⟨(G x).toNat, by omega⟩
        have g1 := hG x x4
        rw [hy] at g1
        have qc := q_code1 hB hB12 (x := y) (by omega)
        obtain ⟨m', t', E', f1, f2, f3, f4⟩ := ih (c + 1) m (up t 15 x (B.c y)) (E.setc x (B.c y)) (by omega) (by omega) hm ⟨by rw [up_o (by omega)]; exact hL.1, fun i hi => by rw [up_o (by omega), up_o (by omega), up_o (by omega)]; exact hL.2 i hi⟩ (by rw [up_b (by omega)]; exact hB) (fun z hz => by rw [up_b (by omega)]; exact hG z hz) (by
          obtain ⟨r1, r2, r3⟩ := hR
          refine ⟨r1, r2, fun z hz => ?_⟩
          show (nodeIn L 0 (c + 1) 1 z → (if z = x then B.c y else E.c z) = B.c (G z).toNat) ∧ (¬nodeIn L 0 (c + 1) 1 z → (if z = x then B.c y else E.c z) = A.c z)
          by_cases ez : z = x
          · subst ez
            rw [if_pos rfl, hy, Int.toNat_natCast]
            exact ⟨fun _ => rfl, fun w => absurd ((nodeIn_hi (by omega)).mpr (Or.inl ⟨q, x3⟩)) w⟩
          · rw [if_neg ez]
            have := r3 z hz
            refine ⟨fun w => this.1 ?_, fun w => this.2 (fun w2 => w ((nodeIn_hi (by omega)).mpr (Or.inr w2)))⟩
            rcases (nodeIn_hi (by omega)).mp w with ⟨_, w2⟩ | w2
            · rw [x3] at w2; omega
            · exact w2) (fun z hz => by
          show _ = if z = x then B.c y else E.c z
          by_cases ez : z = x
          · subst ez; rw [up_eq, if_pos rfl]
          · rw [up_i ez, if_neg ez]; exact hsh z hz) (fun z hz => by
          rw [hI z hz, nodeIn_hi (by omega)]
          constructor
          · rintro w (⟨w3, _⟩ | w3)
            · omega
            · exact w w3
          · intro w w2
            exact w (Or.inr w2))
        refine ⟨m', t', E', ?_, f2, fun b hb => by rw [f3 b hb, up_b hb], f4⟩
        rw [q] at e1
        simp (disch := omega) only [cLt_t, cLt_f, cEq_t, cEq_f, rdR_ok, rd_ok, wr_ok, put_eq, jn_eq, cl_some, Int.toNat_natCast, i1.out, i2.out, e1, e2, g1, qc]
        exact f1
/-- document 1: inserted nodes come to the set -/
theorem l_b161b (h24 : L.length ≤ 24) {kk n1 : Nat} (hkk : kk ≤ L.length) (hn1 : n1 ≤ 12) (hs : ∀ s, s < kk → ∃ y : Nat, 0 ≤ (atS L s).1 ∧ (atS L s).1 ≤ 2 ∧ (atS L s).2.1 = (y : Int) ∧ y < 12) {t : St} (hL : SpM t L) {z2 : Int} (g : Int → St → Rs) : ∀ (n c m : Nat), c ≤ kk → kk < c + n → m < 4096 → (∀ y, y < n1 → (m.testBit y = true ↔ O y ≠ -9 ∨ nodeIn L 0 c 2 y)) → ∃ m' : Nat, X9_behind_161 (kk : Int) z2 1 g n (m : Int) (c : Int) t = g (m' : Int) t ∧ m' < 4096 ∧ ∀ y, y < n1 → (m'.testBit y = true ↔ O y ≠ -9 ∨ nodeIn L 0 kk 2 y) := by
  intro n
  induction n with
  | zero => intro c m h1 h2; omega
  | succ n ih =>
    intro c m h1 h2 hm hI
    rw [X9_behind_161]
    by_cases e : c = kk
    · subst e
      refine ⟨m, ?_, hm, hI⟩
      simp (disch := omega) only [cLt_t, cLt_f, cEq_t, cEq_f, rdR_ok, rd_ok, wr_ok, put_eq, jn_eq, cl_some, Int.toNat_natCast]
    · obtain ⟨e1, e2, e3⟩ := hL.2 c (by omega)
      obtain ⟨x, x1, x2, x3, x4⟩ := hs c (by omega)
      rw [x3] at e2
      have i1 : Hid ((3 * (c : Int)).toNat = 3 * c) := Hid.mk (by omega)
      have i2 : Hid ((3 * (c : Int) + 1).toNat = 3 * c + 1) := Hid.mk (by omega)
      by_cases q : (atS L c).1 = 2
      · obtain ⟨m', f1, f2⟩ := ih (c + 1) (m ||| 2 ^ x) (by omega) (by omega) (or_lt hm x4) (fun y hy => by
          rw [tb_or, Bool.or_eq_true, decide_eq_true_iff, hI y hy, nodeIn_hi (by omega)]
          constructor
          · rintro ((w | w) | w)
            · exact Or.inl w
            · exact Or.inr (Or.inr w)
            · subst w; exact Or.inr (Or.inl ⟨q, x3⟩)
          · rintro (w | ⟨_, w⟩ | w)
            · exact Or.inl (Or.inl w)
            · rw [x3] at w; exact Or.inr (by omega)
            · exact Or.inl (Or.inr w))
        refine ⟨m', ?_, f2⟩
        have bo := bt_or hm (k := x) x4
        rw [q] at e1
        simp (disch := omega) only [cLt_t, cLt_f, cEq_t, cEq_f, rdR_ok, rd_ok, wr_ok, put_eq, jn_eq, cl_some, Int.toNat_natCast, i1.out, i2.out, e1, e2, bo]
        exact f1
      · obtain ⟨m', f1, f2⟩ := ih (c + 1) m (by omega) (by omega) hm (fun y hy => by
          rw [hI y hy, nodeIn_hi (by omega)]
          constructor
          · rintro (w | w)
            · exact Or.inl w
            · exact Or.inr (Or.inr w)
          · rintro (w | ⟨w, _⟩ | w)
            · exact Or.inl w
            · exact absurd w q
            · exact Or.inr w)
        refine ⟨m', ?_, f2⟩
        simp (disch := omega) only [cLt_t, cLt_f, cEq_t, cEq_f, rdR_ok, rd_ok, wr_ok, put_eq, jn_eq, cl_some, Int.toNat_natCast, i1.out, i2.out, e1, e2]
        exact f1
end BEHIND
