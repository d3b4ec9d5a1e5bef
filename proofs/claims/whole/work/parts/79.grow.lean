/-! the class grows the trees behind k steps -/
def Kep (D E : Doc) (b : Nat) (S : Nat → Bool) : Prop := Fst E ∧ b ≤ E.n ∧ ∀ Z : Nat → Bool, (∀ y, b ≤ y → Z y = true) → str E Z 0 E.n = str D (fun y => Z y && S y) 0 D.n
theorem kep_0 {D : Doc} (hF : Fst D) : Kep D D D.n (fun _ => true) := by
  refine ⟨hF, Nat.le_refl _, fun Z _ => str_congr D.n D.n 0 (Nat.le_refl _) (fun y hy => ⟨by simp, rfl, (hF.2.1 y hy).2, fun _ => rfl⟩)⟩
theorem kep_rem {D E : Doc} (hD : Fst D) {b x : Nat} {S : Nat → Bool} (h : Kep D E b S) (hx : x < b) : Kep D (E.rem x) x (fun y => S y && !decide (y = x)) := by
  obtain ⟨h1, h2, h3⟩ := h
  refine ⟨fst_rem h1 (by omega), by rw [rem_n]; omega, fun Z' hZ' => ?_⟩
  have hz : ∀ y, b ≤ y → (fun y => if y < x then Z' y else if y = x then false else true) y = true := fun y hy => by
    show (if y < x then Z' y else if y = x then false else true) = true
    rw [if_neg (by omega), if_neg (by omega)]
  have zx : (fun y => if y < x then Z' y else if y = x then false else true) x = false := by
    show (if x < x then Z' x else if x = x then false else true) = false
    rw [if_neg (by omega), if_pos rfl]
  have r := str_rem (P := fun y => if y < x then Z' y else if y = x then false else true) h1 zx E.n E.n 0 (Nat.le_refl _) (Nat.le_refl _)
  rw [h3 (fun y => if y < x then Z' y else if y = x then false else true) hz, rk_1 (a := 0) (by omega), rk_2 (a := E.n) (by omega)] at r
  have e1 : str (E.rem x) Z' 0 (E.rem x).n = str (E.rem x) (Pm (fun y => if y < x then Z' y else if y = x then false else true) x) 0 (E.n - 1) := by
    refine str_congr (E.n - 1) (E.n - 1) 0 (Nat.le_refl _) (fun y hy => ⟨?_, rfl, ((fst_rem h1 (x := x) (by omega)).2.1 y (by rw [rem_n]; exact hy)).2, fun _ => rfl⟩)
    by_cases q : y < x
    · rw [Pm_1 q]
      show Z' y = if y < x then Z' y else if y = x then false else true
      rw [if_pos q]
    · rw [Pm_2 (by omega), hZ' y (by omega)]
      show true = if y + 1 < x then Z' (y + 1) else if y + 1 = x then false else true
      rw [if_neg (by omega), if_neg (by omega)]
  rw [e1, r]
  refine str_congr D.n D.n 0 (Nat.le_refl _) (fun y hy => ⟨?_, rfl, (hD.2.1 y hy).2, fun _ => rfl⟩)
  show ((if y < x then Z' y else if y = x then false else true) && S y) = (Z' y && (S y && !decide (y = x)))
  by_cases q : y < x
  · rw [if_pos q, decide_eq_false (by omega)]
    simp
  · by_cases q2 : y = x
    · rw [if_neg q, if_pos q2, decide_eq_true q2]
      simp
    · rw [if_neg q, if_neg q2, decide_eq_false q2, hZ' y (by omega)]
      simp
def F44 (s s' : St) : Prop := ∀ b, ¬(44 ≤ b ∧ b ≤ 46) → s' b = s b
theorem F44.rfl {s : St} : F44 s s := fun _ _ => Eq.refl _
theorem F44.trans {a b c : St} (h : F44 a b) (g : F44 b c) : F44 a c := fun x h1 => (g x h1).trans (h x h1)
theorem F44.sp {s s' : St} (h : F44 s s') {L : List Sstp} (hL : SpC s L) : SpC s' L := by
  unfold SpC
  rw [h 8 (by omega), h 52 (by omega), h 53 (by omega), h 54 (by omega)]
  exact hL
theorem p_has {s : St} {a x : Nat} {E : Doc} (hT : TreeAt s a E) (hn : E.n ≤ 12) (hx : x < E.n) : X6_has a (x : Int) s = some (1, s) := by
  unfold X6_has
  rw [hT.1]
  simp (disch := omega) only [cLt_t, cLt_f, cEq_t, cEq_f, rdR_ok, rd_ok, wr_ok, put_eq, jn_eq, cl_some, Int.toNat_natCast]
theorem p_rmStep {s : St} {L : List Sstp} (hL : SpC s L) (h24 : L.length ≤ 24) {c : Nat} (hc : c < L.length) {q : Int} {x : Nat} (h1 : (atS L c).1 = q) (h2 : (atS L c).2.1 = (x : Int)) (hq : 0 ≤ q) (hq2 : q ≤ 2) {E : Doc} (hT : TreeAt s 44 E) (hF : Fst E) (hx : x < E.n) : ∃ s', X7_removeStep (c : Int) q 44 s = some (0, s') ∧ F44 s s' ∧ TreeAt s' 44 (E.rem x) := by
  obtain ⟨e1, e2, e3⟩ := hL.2 c hc
  obtain ⟨s', a1, a2, a3⟩ := p_remove hT hF hx
  refine ⟨s', ?_, fun b hb => a2 b (by omega) (by omega) (by omega), a3⟩
  have hn := hF.1
  rw [h1] at e1
  rw [h2] at e2
  unfold X7_removeStep
  simp (disch := omega) only [cLt_t, cLt_f, cEq_t, cEq_f, rdR_ok, rd_ok, wr_ok, put_eq, jn_eq, cl_some, Int.toNat_natCast, e1, e2, p_has hT hn hx, a1]
theorem p_noStep {s : St} {L : List Sstp} (hL : SpC s L) (h24 : L.length ≤ 24) {c : Nat} (hc : c < L.length) {q w : Int} (h1 : (atS L c).1 = w) (hw : 0 ≤ w) (hw2 : w ≤ 2) (hq : 0 ≤ q) (hq2 : q ≤ 2) (hne : w ≠ q) : X7_removeStep (c : Int) q 44 s = some (0, s) := by
  obtain ⟨e1, e2, e3⟩ := hL.2 c hc
  rw [h1] at e1
  unfold X7_removeStep
  simp (disch := omega) only [cLt_t, cLt_f, cEq_t, cEq_f, rdR_ok, rd_ok, wr_ok, put_eq, jn_eq, cl_some, Int.toNat_natCast, e1]
section GROW
variable {L : List Sstp} {D : Doc}
theorem nodeIn_low {lo hi : Nat} {q : Int} {y : Nat} (h : lo < hi) : nodeIn L lo hi q y ↔ ((atS L lo).1 = q ∧ (atS L lo).2.1 = (y : Int)) ∨ nodeIn L (lo + 1) hi q y := by
  constructor
  · rintro ⟨s, a, b, c, d⟩
    by_cases e : s = lo
    · subst e; exact Or.inl ⟨c, d⟩
    · exact Or.inr ⟨s, by omega, b, c, d⟩
  · rintro (⟨c, d⟩ | ⟨s, a, b, c, d⟩)
    · exact ⟨lo, Nat.le_refl _, h, c, d⟩
    · exact ⟨s, by omega, b, c, d⟩
theorem nodeIn_hi {lo hi : Nat} {q : Int} {y : Nat} (h : lo ≤ hi) : nodeIn L lo (hi + 1) q y ↔ ((atS L hi).1 = q ∧ (atS L hi).2.1 = (y : Int)) ∨ nodeIn L lo hi q y := by
  constructor
  · rintro ⟨s, a, b, c, d⟩
    by_cases e : s = hi
    · subst e; exact Or.inl ⟨c, d⟩
    · exact Or.inr ⟨s, a, by omega, c, d⟩
  · rintro (⟨c, d⟩ | ⟨s, a, b, c, d⟩)
    · exact ⟨hi, h, by omega, c, d⟩
    · exact ⟨s, a, by omega, c, d⟩
/-- deletions are undone from the last one on -/
theorem l_grow42 (hD : Fst D) (h24 : L.length ≤ 24) {kk : Nat} (hkk : kk ≤ L.length) (hs : ∀ s, s < kk → ∃ y : Nat, 0 ≤ (atS L s).1 ∧ (atS L s).1 ≤ 2 ∧ (atS L s).2.1 = (y : Int)) (hinc : ∀ s s', s < s' → s' < kk → (atS L s).1 = 0 → (atS L s').1 = 0 → (atS L s).2.1 < (atS L s').2.1) (k : St → Rs) : ∀ (n c b : Nat) (s : St) (E : Doc) (S : Nat → Bool), c ≤ kk → c < n → SpC s L → TreeAt s 44 E → Kep D E b S → (∀ s, s < c → (atS L s).1 = 0 → (atS L s).2.1 < (b : Int)) → (∀ y, S y = true ↔ ¬nodeIn L c kk 0 y) → ∃ s' E' b' S', X7_grow_42 44 k n ((c : Int) - 1) s = k s' ∧ F44 s s' ∧ TreeAt s' 44 E' ∧ Kep D E' b' S' ∧ ∀ y, S' y = true ↔ ¬nodeIn L 0 kk 0 y := by
  intro n
  induction n with
  | zero => intro c b s E S h1 h2; omega
  | succ n ih =>
    intro c b s E S h1 h2 hL hT hK hb hS
    rw [X7_grow_42]
    by_cases e : c = 0
    · subst e
      refine ⟨s, E, b, S, ?_, F44.rfl, hT, hK, hS⟩
      simp (disch := omega) only [cLt_t, cLt_f, cEq_t, cEq_f, rdR_ok, rd_ok, wr_ok, put_eq, jn_eq, cl_some, Int.toNat_natCast]
    · obtain ⟨c, rfl⟩ : ∃ w, c = w + 1 := ⟨c - 1, by omega⟩
      have e1 : ((c + 1 : Nat) : Int) - 1 = c := by omega
      have e2 : (c : Int) + -1 = (c : Int) - 1 := by omega
      rw [e1]
      obtain ⟨x, x1, x2, x3⟩ := hs c (by omega)
      by_cases q : (atS L c).1 = 0
      · have xb := hb c (by omega) q
        rw [x3] at xb
        have hx : x < b := by omega
        obtain ⟨s1, a1, a2, a3⟩ := p_rmStep hL h24 (c := c) (by omega) q x3 (by omega) (by omega) hT hK.1 (x := x) (by have := hK.2.1; omega)
        obtain ⟨s', E', b', S', f1, f2, f3⟩ := ih c x s1 (E.rem x) (fun y => S y && !decide (y = x)) (by omega) (by omega) (a2.sp hL) a3 (kep_rem hD hK hx) (fun s hs1 hs2 => by
          have := hinc s c hs1 (by omega) hs2 q
          omega) (fun y => by
          rw [nodeIn_low (by omega)]
          simp only [Bool.and_eq_true, Bool.not_eq_true', decide_eq_false_iff_not, hS y]
          constructor
          · rintro ⟨w1, w2⟩ (⟨w3, w4⟩ | w3)
            · exact w2 (by omega)
            · exact w1 w3
          · intro w
            refine ⟨fun z => w (Or.inr z), fun z => w (Or.inl ⟨q, by rw [x3, z]⟩)⟩)
        refine ⟨s', E', b', S', ?_, a2.trans f2, f3⟩
        simp (disch := omega) only [cLt_t, cLt_f, cEq_t, cEq_f, rdR_ok, rd_ok, wr_ok, put_eq, jn_eq, cl_some, Int.toNat_natCast, a1, e2]
        exact f1
      · have ns := p_noStep hL h24 (c := c) (by omega) (q := 0) (w := (atS L c).1) rfl x1 x2 (by omega) (by omega) q
        obtain ⟨s', E', b', S', f1, f2, f3⟩ := ih c b s E S (by omega) (by omega) hL hT hK (fun s hs1 hs2 => hb s (by omega) hs2) (fun y => by
          rw [nodeIn_low (by omega), hS y]
          constructor
          · rintro w (⟨w3, w4⟩ | w3)
            · exact q w3
            · exact w w3
          · intro w z
            exact w (Or.inr z))
        refine ⟨s', E', b', S', ?_, f2, f3⟩
        simp (disch := omega) only [cLt_t, cLt_f, cEq_t, cEq_f, rdR_ok, rd_ok, wr_ok, put_eq, jn_eq, cl_some, Int.toNat_natCast, ns, e2]
        exact f1
/-- what is not inserted yet is taken away -/
theorem l_grow72 (hD : Fst D) (h24 : L.length ≤ 24) {kk : Nat} (hkk : kk ≤ L.length) (hs : ∀ s, kk ≤ s → s < L.length → ∃ y : Nat, (atS L s).1 = 2 ∧ (atS L s).2.1 = (y : Int)) (hdec : ∀ s s', kk ≤ s → s < s' → s' < L.length → (atS L s').2.1 < (atS L s).2.1) (k : St → Rs) : ∀ (n c b : Nat) (s : St) (E : Doc) (S : Nat → Bool), kk ≤ c → c ≤ L.length → L.length < c + n → SpC s L → TreeAt s 44 E → Kep D E b S → (∀ s, c ≤ s → s < L.length → (atS L s).2.1 < (b : Int)) → (∀ y, S y = true ↔ ¬nodeIn L kk c 2 y) → ∃ s' E' b' S', X7_grow_72 44 k n (c : Int) s = k s' ∧ F44 s s' ∧ TreeAt s' 44 E' ∧ Kep D E' b' S' ∧ ∀ y, S' y = true ↔ ¬nodeIn L kk L.length 2 y := by
  intro n
  induction n with
  | zero => intro c b s E S h0 h1 h2; omega
  | succ n ih =>
    intro c b s E S h0 h1 h2 hL hT hK hb hS
    rw [X7_grow_72, hL.1]
    by_cases e : c = L.length
    · subst e
      refine ⟨s, E, b, S, ?_, F44.rfl, hT, hK, hS⟩
      simp (disch := omega) only [cLt_t, cLt_f, cEq_t, cEq_f, rdR_ok, rd_ok, wr_ok, put_eq, jn_eq, cl_some, Int.toNat_natCast]
    · obtain ⟨x, x1, x3⟩ := hs c h0 (by omega)
      have xb := hb c (Nat.le_refl _) (by omega)
      rw [x3] at xb
      have hx : x < b := by omega
      obtain ⟨s1, a1, a2, a3⟩ := p_rmStep hL h24 (c := c) (by omega) x1 x3 (by omega) (by omega) hT hK.1 (x := x) (by have := hK.2.1; omega)
      obtain ⟨s', E', b', S', f1, f2, f3⟩ := ih (c + 1) x s1 (E.rem x) (fun y => S y && !decide (y = x)) (by omega) (by omega) (by omega) (a2.sp hL) a3 (kep_rem hD hK hx) (fun s hs1 hs2 => by
        have := hdec c s h0 (by omega) hs2
        omega) (fun y => by
        rw [nodeIn_hi h0]
        simp only [Bool.and_eq_true, Bool.not_eq_true', decide_eq_false_iff_not, hS y]
        constructor
        · rintro ⟨w1, w2⟩ (⟨w3, w4⟩ | w3)
          · exact w2 (by omega)
          · exact w1 w3
        · intro w
          refine ⟨fun z => w (Or.inr z), fun z => w (Or.inl ⟨x1, by rw [x3, z]⟩)⟩)
      refine ⟨s', E', b', S', ?_, a2.trans f2, f3⟩
      simp (disch := omega) only [cLt_t, cLt_f, cEq_t, cEq_f, rdR_ok, rd_ok, wr_ok, put_eq, jn_eq, cl_some, Int.toNat_natCast, a1]
      exact f1
/-- relabelled by the first kk steps -/
def RelC (A B : Doc) (G : Nat → Int) (L : List Sstp) (c : Nat) (E : Doc) : Prop := E.n = A.n ∧ E.l = A.l ∧ ∀ x, x < A.n → (nodeIn L 0 c 1 x → E.c x = B.c (G x).toNat) ∧ (¬nodeIn L 0 c 1 x → E.c x = A.c x)
theorem l_relab {A B : Doc} {G : Nat → Int} (hA12 : A.n ≤ 12) (hB12 : B.n ≤ 12) (h24 : L.length ≤ 24) {kk : Nat} (hkk : kk ≤ L.length) (hs : ∀ s, s < kk → ∃ y : Nat, 0 ≤ (atS L s).1 ∧ (atS L s).1 ≤ 2 ∧ (atS L s).2.1 = (y : Int) ∧ ((atS L s).1 = 1 → y < A.n ∧ 0 ≤ G y ∧ G y < B.n)) (hs2 : ∀ s, s < kk → (atS L s).1 ≠ 2) (hs3 : ∀ s, s < kk → (atS L s).2.1 < 12) (k : St → Rs) : ∀ (n c : Nat) (s : St) (E : Doc), c ≤ kk → kk < c + n → SpC s L → TreeAt s 44 E → TreeAt s 41 B → (∀ x, x < A.n → s 57 x = G x) → RelC A B G L c E → ∃ s' E', X7_relabelUpTo_2 (kk : Int) 44 k n (c : Int) s = k s' ∧ F44 s s' ∧ TreeAt s' 44 E' ∧ RelC A B G L kk E' := by
  intro n
  induction n with
  | zero => intro c s E h1 h2; omega
  | succ n ih =>
    intro c s E h1 h2 hL hT hB hG hR
    rw [X7_relabelUpTo_2]
    by_cases e : c = kk
    · subst e
      refine ⟨s, E, ?_, F44.rfl, hT, hR⟩
      simp (disch := omega) only [cLt_t, cLt_f, cEq_t, cEq_f, rdR_ok, rd_ok, wr_ok, put_eq, jn_eq, cl_some, Int.toNat_natCast]
    · obtain ⟨e1, e2, e3⟩ := hL.2 c (by omega)
      obtain ⟨x, x1, x2, x3, x4⟩ := hs c (by omega)
      have x12 := hs3 c (by omega)
      rw [x3] at e2 x12
      by_cases q : (atS L c).1 = 1
      · obtain ⟨y1, y2, y3⟩ := x4 q
        obtain ⟨y, hy⟩ : ∃ y : Nat, G x = y := ⟨(G x).toNat, by omega⟩
        have g := hG x y1
        rw [hy] at g
        have by_ := (hB.2 y (by omega)).1
        obtain ⟨s', E', f1, f2, f3⟩ := ih (c + 1) (up s 45 x (B.c y)) (E.setc x (B.c y)) (by omega) (by omega) (F44.sp (fun b hb => up_b (by omega)) hL) (tree_setc hT) (hB.congr (fun b hb => up_b (by omega))) (fun z hz => by rw [up_b (by omega)]; exact hG z hz) (by
          obtain ⟨r1, r2, r3⟩ := hR
          refine ⟨r1, r2, fun z hz => ?_⟩
          show (nodeIn L 0 (c + 1) 1 z → (if z = x then B.c y else E.c z) = B.c (G z).toNat) ∧ (¬nodeIn L 0 (c + 1) 1 z → (if z = x then B.c y else E.c z) = A.c z)
          by_cases ez : z = x
          · subst ez
            rw [if_pos rfl, hy, Int.toNat_natCast]
            exact ⟨fun _ => rfl, fun w => absurd ((nodeIn_hi (by omega)).mpr (Or.inl ⟨q, x3⟩)) w⟩
          · rw [if_neg ez]
            have := r3 z hz
            refine ⟨fun w => this.1 ?_, fun w => this.2 (fun w2 => w ((nodeIn_hi (by omega)).mpr (Or.inr w2)))⟩
            rcases (nodeIn_hi (by omega)).mp w with ⟨_, w2⟩ | w2
            · rw [x3] at w2; omega
            · exact w2)
        refine ⟨s', E', ?_, F44.trans (fun b hb => up_b (by omega)) f2, f3⟩
        rw [q] at e1
        simp (disch := omega) only [cLt_t, cLt_f, cEq_t, cEq_f, rdR_ok, rd_ok, wr_ok, put_eq, jn_eq, cl_some, Int.toNat_natCast, e1, e2, g, by_]
        exact f1
      · obtain ⟨s', E', f1, f2, f3⟩ := ih (c + 1) s E (by omega) (by omega) hL hT hB hG (by
          obtain ⟨r1, r2, r3⟩ := hR
          refine ⟨r1, r2, fun z hz => ?_⟩
          have := r3 z hz
          refine ⟨fun w => this.1 ?_, fun w => this.2 (fun w2 => w ((nodeIn_hi (by omega)).mpr (Or.inr w2)))⟩
          rcases (nodeIn_hi (by omega)).mp w with ⟨w1, _⟩ | w2
          · exact absurd w1 q
          · exact w2)
        refine ⟨s', E', ?_, f2, f3⟩
        simp (disch := omega) only [cLt_t, cLt_f, cEq_t, cEq_f, rdR_ok, rd_ok, wr_ok, put_eq, jn_eq, cl_some, Int.toNat_natCast, e1, e2]
        exact f1
end GROW
