/-! the class pairs the nodes of two forests -/
theorem sm_head (f : Nat → Int) (lo : Nat) : ∀ n, sm f lo (n + 1) = f lo + sm f (lo + 1) n := by
  intro n
  rw [Nat.add_comm n 1, sm_split f lo 1 n, sm, sm, Nat.add_zero]
  omega
theorem sm_set {f g : Nat → Int} {i : Nat} (lo : Nat) : ∀ n, lo ≤ i → i < lo + n → (∀ x, x ≠ i → g x = f x) → sm g lo n = sm f lo n + (g i - f i) := by
  intro n
  induction n with
  | zero => intro h1 h2; omega
  | succ n ih =>
    intro h1 h2 h
    rw [sm, sm]
    by_cases e : lo + n = i
    · rw [e, sm_congr (f := g) (g := f) lo n (fun x a b => h x (by omega))]
      omega
    · rw [ih h1 (by omega) h, h (lo + n) e]
      omega
def FP (s s' : St) : Prop := ∀ b, b ≠ 5 → b ≠ 57 → b ≠ 58 → s' b = s b
theorem FP.rfl {s : St} : FP s s := fun _ _ _ _ => Eq.refl _
theorem FP.trans {a b c : St} (h : FP a b) (g : FP b c) : FP a c := fun x h1 h2 h3 => (g x h1 h2 h3).trans (h x h1 h2 h3)
theorem FP.up {s s' : St} {a i : Nat} {v : Int} (h : FP s s') (ha : a = 5 ∨ a = 57 ∨ a = 58) : FP s (up s' a i v) := fun b h1 h2 h3 => by rw [up_b (by omega)]; exact h b h1 h2 h3
/-- measured, and the prices of its nodes -/
def Wy (s : St) (A B : Doc) (K : Prc) : Prop := WE s A B K ∧ ∀ a b, a < A.n → b < B.n → Rt s A B K a b
theorem WE.congr {s s' : St} {A B : Doc} {K : Prc} (h : WE s A B K) (hA : A.n ≤ 12) (e : ∀ b, (38 ≤ b ∧ b ≤ 43) ∨ b = 55 ∨ b = 56 ∨ (75 ≤ b ∧ b ≤ 86) → s' b = s b) : WE s' A B K := by
  obtain ⟨h1, h2, h3, h4, h5⟩ := h
  refine ⟨h1.congr (fun b hb => e b (by omega)), h2.congr (fun b hb => e b (by omega)), fun i hi => ?_, fun j hj => ?_, fun i j hi hj => ?_⟩
  · rw [e 55 (by omega)]; exact h3 i hi
  · rw [e 56 (by omega)]; exact h4 j hj
  · rw [e (75 + i) (by omega)]; exact h5 i j hi hj
theorem Wy.congr {s s' : St} {A B : Doc} {K : Prc} (h : Wy s A B K) (hA : A.n ≤ 12) (e : ∀ b, (38 ≤ b ∧ b ≤ 43) ∨ b = 55 ∨ b = 56 ∨ (63 ≤ b ∧ b ≤ 98) → s' b = s b) : Wy s' A B K := by
  refine ⟨h.1.congr hA (fun b hb => e b (by omega)), fun a b h1 h2 => ?_⟩
  have := h.2 a b h1 h2
  unfold Rt at this ⊢
  rw [e _ (by omega), e _ (by omega)]
  exact this
def cntP (p : Nat → Int) (n : Nat) : Int := sm (fun a => if p a = -9 then 0 else 1) 0 n
/-- partners and origins belong together -/
def PI (s : St) (A B : Doc) : Prop := (∀ a, a < A.n → s 57 a = -9 ∨ ∃ b : Nat, b < B.n ∧ s 57 a = (b : Int) ∧ s 58 b ≠ -9) ∧ (∀ b, b < B.n → s 58 b = -9 ∨ ∃ a : Nat, a < A.n ∧ s 58 b = (a : Int) ∧ s 57 a = (b : Int)) ∧ s 5 2 = cntP (s 57) A.n
theorem pi_set {s : St} {A B : Doc} (h : PI s A B) {i y : Nat} (hi : i < A.n) (hy : y < B.n) (hn : s 57 i = -9) : PI (up (up (up s 57 i y) 58 y i) 5 2 (s 5 2 + 1)) A B := by
  obtain ⟨h1, h2, h3⟩ := h
  refine ⟨fun a ha => ?_, fun b hb => ?_, ?_⟩
  · by_cases e : a = i
    · subst e
      refine Or.inr ⟨y, hy, by simp (disch := omega) only [fil_o, up_o, fil_out, fil_in, up_i, up_eq], ?_⟩
      simp (disch := omega) only [fil_o, up_o, fil_out, fil_in, up_i, up_eq]
      omega
    · rcases h1 a ha with q | ⟨b, b1, b2, b3⟩
      · refine Or.inl ?_
        simp (disch := omega) only [fil_o, up_o, fil_out, fil_in, up_i, up_eq]
        exact q
      · refine Or.inr ⟨b, b1, by simp (disch := omega) only [fil_o, up_o, fil_out, fil_in, up_i, up_eq]; exact b2, ?_⟩
        by_cases e2 : b = y
        · subst e2
          simp (disch := omega) only [fil_o, up_o, fil_out, fil_in, up_i, up_eq]
          omega
        · simp (disch := omega) only [fil_o, up_o, fil_out, fil_in, up_i, up_eq]
          exact b3
  · by_cases e : b = y
    · subst e
      exact Or.inr ⟨i, hi, by simp (disch := omega) only [fil_o, up_o, fil_out, fil_in, up_i, up_eq], by simp (disch := omega) only [fil_o, up_o, fil_out, fil_in, up_i, up_eq]⟩
    · rcases h2 b hb with q | ⟨a, b1, b2, b3⟩
      · refine Or.inl ?_
        simp (disch := omega) only [fil_o, up_o, fil_out, fil_in, up_i, up_eq]
        exact q
      · have : a ≠ i := fun z => by subst z; omega
        refine Or.inr ⟨a, b1, by simp (disch := omega) only [fil_o, up_o, fil_out, fil_in, up_i, up_eq]; exact b2, ?_⟩
        simp (disch := omega) only [fil_o, up_o, fil_out, fil_in, up_i, up_eq]
        exact b3
  · have pn : ¬ (up (up (up s 57 i y) 58 y i) 5 2 (s 5 2 + 1) 57 i = -9) := by
      simp (disch := omega) only [fil_o, up_o, fil_out, fil_in, up_i, up_eq]
      omega
    have e := sm_set (f := fun a => if s 57 a = -9 then 0 else 1) (g := fun a => if up (up (up s 57 i y) 58 y i) 5 2 (s 5 2 + 1) 57 a = -9 then 0 else 1) (i := i) 0 A.n (by omega) (by omega) (fun x hx => by simp (disch := omega) only [fil_o, up_o, fil_out, fil_in, up_i, up_eq])
    simp only [if_pos hn, if_neg pn] at e
    rw [up_eq]
    unfold cntP at h3 ⊢
    omega
theorem PI.congr {s s' : St} {A B : Doc} (h : PI s A B) (e : ∀ b, b = 5 ∨ b = 57 ∨ b = 58 → s' b = s b) : PI s' A B := by
  unfold PI
  rw [e 5 (by omega), e 57 (by omega), e 58 (by omega)]
  exact h
/-- the greatest partner of i, the last of its forest -/
theorem p_greatest {A B : Doc} {K : Prc} (hA : Fst A) (hB : Fst B) (hK : K.ok) {l X m Y : Nat} (r1 : Rg A.l l X) (r2 : Rg B.l m Y) (hX : X ≤ A.n) (hY : Y ≤ B.n) {s : St} (hW : Wy s A B K) (hF : ∀ i' j', l ≤ i' → i' ≤ X → m ≤ j' → j' ≤ Y → s (99 + i') j' = dF K (Tl A B) l i' m j') {i E : Nat} (hi : l ≤ i) (hi2 : i < X) (hE : m ≤ E) (hE2 : E ≤ Y) : ∃ r, X7_greatestPartner (i : Int) (m : Int) ((E : Int) - 1) s = some (r, s) ∧ ((r = -9 ∧ ∀ y, m ≤ y → y < E → viaOf K (Tl A B) l i m E y ≠ dF K (Tl A B) l (i + 1) m E) ∨ ∃ y : Nat, r = (y : Int) ∧ m ≤ y ∧ y < E ∧ viaOf K (Tl A B) l i m E y = dF K (Tl A B) l (i + 1) m E ∧ ∀ z, y < z → z < E → viaOf K (Tl A B) l i m E z ≠ dF K (Tl A B) l (i + 1) m E) := by
  have hA12 := hA.1
  have hB12 := hB.1
  have hU := FU_gt
  have key : ∀ (n q : Nat), m ≤ q → q ≤ E → q < m + n → (∀ z, q ≤ z → z < E → viaOf K (Tl A B) l i m E z ≠ dF K (Tl A B) l (i + 1) m E) → ∃ r, X7_greatestPartner_6 (i : Int) (m : Int) ((E : Int) - 1) (fun s1 => some ((-9), s1)) n (sm K.2.1 q (E - q)) ((q : Int) - 1) s = some (r, s) ∧ ((r = -9 ∧ ∀ y, m ≤ y → y < E → viaOf K (Tl A B) l i m E y ≠ dF K (Tl A B) l (i + 1) m E) ∨ ∃ y : Nat, r = (y : Int) ∧ m ≤ y ∧ y < E ∧ viaOf K (Tl A B) l i m E y = dF K (Tl A B) l (i + 1) m E ∧ ∀ z, y < z → z < E → viaOf K (Tl A B) l i m E z ≠ dF K (Tl A B) l (i + 1) m E) := by
    intro n
    induction n with
    | zero => intro q h1 h2 h3; omega
    | succ n ih =>
      intro q h1 h2 h3 hno
      rw [X7_greatestPartner_6]
      by_cases e : q = m
      · subst e
        refine ⟨-9, ?_, Or.inl ⟨rfl, hno⟩⟩
        simp (disch := omega) only [cLt_t, cLt_f, cEq_t, cEq_f, rdR_ok, rd_ok, wr_ok, put_eq, jn_eq, cl_some, Int.toNat_natCast]
      · obtain ⟨q, rfl⟩ : ∃ w, q = w + 1 := ⟨q - 1, by omega⟩
        have e1 : ((q + 1 : Nat) : Int) - 1 = q := by omega
        have li := r1.at hi hi2
        have lq := r2.at (x := q) (by omega) (by omega)
        have l1 := p_leftmost hW.1.1 hA12 (x := i) (by omega)
        have l2 := p_leftmost hW.1.2.1 hB12 (x := q) (by omega)
        have v1 := hF (A.l i) (B.l q) li.1 (by omega) lq.1 (by omega)
        have v2 := (hW.2 i q (by omega) (by omega)).1
        have v3 := hF (i + 1) E (by omega) (by omega) hE hE2
        have v4 := hW.1.2.2.2.1 q (by omega)
        have ei : ((i : Int) + 1).toNat = i + 1 := by omega
        have hE3 : E - q = (E - (q + 1)) + 1 := by omega
        have hE4 : ((q : Int) - 1) = (q : Int) + -1 := by omega
        have eE : ((E : Int) - 1 + 1).toNat = E := by omega
        have ri1 := r1.le (x := i + 1) (by omega) (by omega)
        have rE := r2.le (x := E) hE hE2
        have b2 := dF_r (T := Tl A B) hK ri1 rE (by omega) (by omega)
        have b3 := dF_r (T := Tl A B) hK (r1.left hi hi2) (r2.left (x := q) (by omega) (by omega)) (by omega) (by omega)
        have b4 := dF_r (T := Tl A B) hK (r1.in hi hi2) (r2.in (x := q) (by omega) (by omega)) (by omega) (by omega)
        have k3 := hK.2.2 i q
        have sb : ∀ w, 0 ≤ sm K.2.1 (q + 1) w ∧ sm K.2.1 (q + 1) w ≤ 100000 * (w : Int) := by
          intro w
          induction w with
          | zero => rw [sm]; omega
          | succ w ihw =>
            have := hK.2.1 (q + 1 + w)
            rw [sm]
            omega
        have sb' := sb (E - (q + 1))
        have vo : dF K (Tl A B) l (A.l i) m (B.l q) + (dF K (Tl A B) (A.l i) i (B.l q) q + K.2.2 i q) + sm K.2.1 (q + 1) (E - (q + 1)) = viaOf K (Tl A B) l i m E q := rfl
        rw [e1]
        simp (disch := omega) only [cLt_t, cLt_f, cEq_t, cEq_f, rdR_ok, rd_ok, wr_ok, put_eq, jn_eq, cl_some, Int.toNat_natCast, l1, l2, v1, v2, v3, v4, ei, eE, vo]
        by_cases g : viaOf K (Tl A B) l i m E q = dF K (Tl A B) l (i + 1) m E
        · refine ⟨q, ?_, Or.inr ⟨q, rfl, by omega, by omega, g, fun z a b => hno z (by omega) b⟩⟩
          simp (disch := omega) only [cLt_t, cLt_f, cEq_t, cEq_f, rdR_ok, rd_ok, wr_ok, put_eq, jn_eq, cl_some, Int.toNat_natCast]
        · have := ih q (by omega) (by omega) (by omega) (fun z a b => by
            by_cases ez : z = q
            · subst ez; exact g
            · exact hno z (by omega) b)
          rw [hE3, sm_head, Int.add_comm (K.2.1 q), hE4] at this
          simp (disch := omega) only [cLt_t, cLt_f, cEq_t, cEq_f, rdR_ok, rd_ok, wr_ok, put_eq, jn_eq, cl_some, Int.toNat_natCast]
          exact this
  have := key FU E hE (Nat.le_refl _) (by omega) (fun z a b => by omega)
  rw [Nat.sub_self, sm] at this
  exact this
def Cv (A : Doc) (p : Nat → Int) (lo hi a : Nat) : Prop := ∃ b, lo ≤ b ∧ b < hi ∧ a < b ∧ A.l b ≤ a ∧ p b ≠ -9
def LXb (A B : Doc) (K : Prc) (p P : Nat → Int) (b : Nat) : Prop := LX K (Tl A B) (A.l b) b (B.l (p b).toNat) (p b).toNat P
/-- the partners p of a forest: where those beneath partners will be right, all are -/
def PFo (A B : Doc) (K : Prc) (l X m Y : Nat) (p : Nat → Int) : Prop := (∀ a, l ≤ a → a < X → Cv A p l X a → p a = -9) ∧ ∀ P : Nat → Int, (∀ a, l ≤ a → a < X → ¬Cv A p l X a → P a = p a) → (∀ b, l ≤ b → b < X → p b ≠ -9 → LXb A B K p P b) → LX K (Tl A B) l X m Y P
theorem l_pairF {A B : Doc} {K : Prc} (hA : Fst A) (hB : Fst B) (hK : K.ok) {l X m Y : Nat} (r1 : Rg A.l l X) (r2 : Rg B.l m Y) (hX : X ≤ A.n) (hY : Y ≤ B.n) (k : St → Rs) : ∀ (n c r E : Nat) (s : St), l ≤ c → c ≤ X → c < l + n → l ≤ r → r ≤ X → m ≤ E → E ≤ Y → Wy s A B K → (∀ i' j', l ≤ i' → i' ≤ X → m ≤ j' → j' ≤ Y → s (99 + i') j' = dF K (Tl A B) l i' m j') → PI s A B → (∀ P : Nat → Int, (∀ a, l ≤ a → a < X → min c r ≤ a → ¬Cv A (s 57) l X a → P a = s 57 a) → (∀ b, l ≤ b → b < X → s 57 b ≠ -9 → LXb A B K (s 57) P b) → LX K (Tl A B) l (min c r) m E P → LX K (Tl A B) l X m Y P) → (∀ a, l ≤ a → a < c → s 57 a = -9) → (∀ a, l ≤ a → a < X → Cv A (s 57) l X a → s 57 a = -9) → (∀ b, c ≤ b → b < X → s 57 b ≠ -9 → r ≤ A.l b) → ∃ s', X7_pairForests_19 (l : Int) (m : Int) k n ((r : Int) - 1) ((E : Int) - 1) ((c : Int) - 1) s = k s' ∧ FP s s' ∧ PI s' A B ∧ (∀ a, ¬(l ≤ a ∧ a < X) → s' 57 a = s 57 a) ∧ PFo A B K l X m Y (s' 57) := by
  have hA12 := hA.1
  have hB12 := hB.1
  intro n
  induction n with
  | zero => intro c r E s h1 h2 h3; omega
  | succ n ih =>
    intro c r E s h1 h2 h3 h4 h5 h6 h7 hW hF hP H1 H2 H3 H5
    rw [X7_pairForests_19]
    by_cases e : c = l
    · subst e
      refine ⟨s, ?_, FP.rfl, hP, fun _ _ => rfl, H3, fun P p1 p2 => ?_⟩
      · simp (disch := omega) only [cLt_t, cLt_f, cEq_t, cEq_f, rdR_ok, rd_ok, wr_ok, put_eq, jn_eq, cl_some, Int.toNat_natCast]
      · refine H1 P (fun a a1 a2 _ a3 => p1 a a1 a2 a3) p2 ?_
        rw [show min c r = c by omega]
        exact LX_nil (r2.le h6 h7)
    · obtain ⟨i, rfl⟩ : ∃ w, c = w + 1 := ⟨c - 1, by omega⟩
      have e1 : ((i + 1 : Nat) : Int) - 1 = i := by omega
      have e2 : (i : Int) + -1 = (i : Int) - 1 := by omega
      rw [e1]
      by_cases hr : r ≤ i
      · obtain ⟨s', f1, f2⟩ := ih i r E s (by omega) (by omega) (by omega) h4 h5 h6 h7 hW hF hP (fun P p1 p2 p3 => by
          rw [show min i r = r by omega] at p1 p3
          rw [show min (i + 1) r = r by omega] at H1
          exact H1 P p1 p2 p3) (fun a a1 a2 => H2 a a1 (by omega)) H3 (fun b b1 b2 b3 => by
          by_cases q : b = i
          · subst q
            exact absurd (H2 b (by omega) (by omega)) b3
          · exact H5 b (by omega) b2 b3)
        refine ⟨s', ?_, f2⟩
        simp (disch := omega) only [cLt_t, cLt_f, cEq_t, cEq_f, rdR_ok, rd_ok, wr_ok, put_eq, jn_eq, cl_some, Int.toNat_natCast, e2]
        exact f1
      · obtain ⟨v, g1, g2⟩ := p_greatest hA hB hK r1 r2 hX hY hW hF (i := i) (E := E) (by omega) (by omega) h6 h7
        have ri1 := r1.le (x := i + 1) (by omega) (by omega)
        have rE := r2.le (x := E) h6 h7
        rw [show min (i + 1) r = i + 1 by omega] at H1
        have ncv : ¬Cv A (s 57) l X i := fun ⟨b, b1, b2, b3, b4, b5⟩ => by
          have := H5 b (by omega) b2 b5
          omega
        rcases g2 with ⟨rfl, gn⟩ | ⟨y, rfl, y1, y2, y3, y4⟩
        · obtain ⟨s', f1, f2⟩ := ih i r E s (by omega) (by omega) (by omega) h4 h5 h6 h7 hW hF hP (fun P p1 p2 p3 => by
            rw [show min i r = i by omega] at p1 p3
            refine H1 P (fun a a1 a2 a3 a4 => p1 a a1 a2 (by omega) a4) p2 (LX_none ri1 rE (by omega) gn ?_ p3)
            rw [p1 i (by omega) (by omega) (by omega) ncv]
            exact H2 i (by omega) (by omega)) (fun a a1 a2 => H2 a a1 (by omega)) H3 (fun b b1 b2 b3 => by
            by_cases q : b = i
            · subst q
              exact absurd (H2 b (by omega) (by omega)) b3
            · exact H5 b (by omega) b2 b3)
          refine ⟨s', ?_, f2⟩
          simp (disch := omega) only [cLt_t, cLt_f, cEq_t, cEq_f, rdR_ok, rd_ok, wr_ok, put_eq, jn_eq, cl_some, Int.toNat_natCast, e2, g1]
          exact f1
        · have li := r1.at (x := i) (by omega) (by omega)
          have ly := r2.at (x := y) y1 (by omega)
          have hf : FP s (up (up (up s 57 i y) 58 y i) 5 2 (s 5 2 + 1)) := ((FP.rfl.up (by omega)).up (by omega)).up (by omega)
          have hn := H2 i (by omega) (by omega)
          have hW' := hW.congr hA12 (s' := up (up (up s 57 i y) 58 y i) 5 2 (s 5 2 + 1)) (fun b hb => hf b (by omega) (by omega) (by omega))
          have pn : up (up (up s 57 i y) 58 y i) 5 2 (s 5 2 + 1) 57 i = y := by simp (disch := omega) only [fil_o, up_o, fil_out, fil_in, up_i, up_eq]
          have po : ∀ a, a ≠ i → up (up (up s 57 i y) 58 y i) 5 2 (s 5 2 + 1) 57 a = s 57 a := fun a ha => by simp (disch := omega) only [fil_o, up_o, fil_out, fil_in, up_i, up_eq]
          have cvo : ∀ a, i ≤ a → Cv A (s 57) l X a → Cv A (up (up (up s 57 i y) 58 y i) 5 2 (s 5 2 + 1) 57) l X a := fun a ha ⟨b, b1, b2, b3, b4, b5⟩ => ⟨b, b1, b2, b3, b4, by rw [po b (by omega)]; exact b5⟩
          have cvn : ∀ a, i ≤ a → Cv A (up (up (up s 57 i y) 58 y i) 5 2 (s 5 2 + 1) 57) l X a → Cv A (s 57) l X a := fun a ha ⟨b, b1, b2, b3, b4, b5⟩ => ⟨b, b1, b2, b3, b4, by rw [po b (by omega)] at b5; exact b5⟩
          obtain ⟨s', f1, f2, f3, f4, f5⟩ := ih i (A.l i) (B.l y) (up (up (up s 57 i y) 58 y i) 5 2 (s 5 2 + 1)) (by omega) (by omega) (by omega) li.1 (by omega) ly.1 (by omega) hW' (fun i' j' a1 a2 a3 a4 => by rw [hf _ (by omega) (by omega) (by omega)]; exact hF i' j' a1 a2 a3 a4) (pi_set hP (by omega) (by omega) hn) (fun P p1 p2 p3 => by
            rw [show min i (A.l i) = A.l i by omega] at p1 p3
            have pi : P i = (y : Int) := by
              rw [p1 i (by omega) (by omega) (by omega) (fun q => ncv (cvn i (by omega) q)), pn]
            have lb := p2 i (by omega) (by omega) (by rw [pn]; omega)
            unfold LXb at lb
            rw [pn, Int.toNat_natCast] at lb
            refine H1 P (fun a a1 a2 a3 a4 => ?_) (fun b b1 b2 b3 => ?_) (LX_some ri1 rE (by omega) y1 y2 y3 y4 pi p3 lb)
            · rw [p1 a a1 a2 (by omega) (fun q => a4 (cvn a (by omega) q)), po a (by omega)]
            · have hb : b ≠ i := fun q => by subst q; exact b3 hn
              have := p2 b b1 b2 (by rw [po b hb]; exact b3)
              unfold LXb at this ⊢
              rw [po b hb] at this
              exact this) (fun a a1 a2 => by rw [po a (by omega)]; exact H2 a a1 (by omega)) (fun a a1 a2 a3 => by
            by_cases q : a = i
            · subst q
              exact absurd (cvn a (by omega) a3) ncv
            · rw [po a q]
              by_cases q2 : a < i
              · exact H2 a a1 (by omega)
              · exact H3 a a1 a2 (cvn a (by omega) a3)) (fun b b1 b2 b3 => by
            by_cases q : b = i
            · subst q; exact Nat.le_refl _
            · rw [po b q] at b3
              have := H5 b (by omega) b2 b3
              omega)
          refine ⟨s', ?_, hf.trans f2, f3, fun a ha => by rw [f4 a ha, po a (by omega)], f5⟩
          have l1 := p_leftmost hW'.1.1 hA12 (x := i) (by omega)
          have l2 := p_leftmost hW'.1.2.1 hB12 (x := y) (by omega)
          have s52 : up (up s 57 i y) 58 y i 5 2 = s 5 2 := by simp (disch := omega) only [fil_o, up_o, fil_out, fil_in, up_i, up_eq]
          simp (disch := omega) only [cLt_t, cLt_f, cEq_t, cEq_f, rdR_ok, rd_ok, wr_ok, put_eq, jn_eq, cl_some, Int.toNat_natCast, e2, g1, s52, l1, l2]
          exact f1
/-- a forest's nodes are paired -/
theorem p_pairF {A B : Doc} {K : Prc} (hA : Fst A) (hB : Fst B) (hK : K.ok) {l X m Y : Nat} (r1 : Rg A.l l X) (r2 : Rg B.l m Y) (hX : X ≤ A.n) (hY : Y ≤ B.n) {s : St} (hW : Wy s A B K) (hP : PI s A B) (hn : ∀ a, l ≤ a → a < X → s 57 a = -9) : ∃ s', X7_pairForests (l : Int) ((X : Int) - 1) (m : Int) ((Y : Int) - 1) s = some (0, s') ∧ (∀ b, b ≠ 5 → b ≠ 57 → b ≠ 58 → b < 63 → s' b = s b) ∧ Wy s' A B K ∧ PI s' A B ∧ (∀ a, ¬(l ≤ a ∧ a < X) → s' 57 a = s 57 a) ∧ PFo A B K l X m Y (s' 57) := by
  have hA12 := hA.1
  have hB12 := hB.1
  have hU := FU_gt
  have hl := r1.1
  have hm := r2.1
  obtain ⟨s1, e1, e2, e3, e4⟩ := p_fill hA hB hK r1 r2 hX hY (fun _ _ => True) (fun _ _ _ _ _ _ _ => trivial) hW.1 (fun a b a1 a2 _ => hW.2 a b a1 a2)
  have hW1 : Wy s1 A B K := ⟨hW.1.of hA12 e2, fun a b a1 a2 => e4 a b a1 a2 (Or.inl trivial)⟩
  have hP1 : PI s1 A B := hP.congr (fun b hb => e2 b (by omega) (by omega))
  have e57 : s1 57 = s 57 := e2 57 (by omega) (by omega)
  obtain ⟨s', f1, f2, f3, f4, f5⟩ := l_pairF hA hB hK r1 r2 hX hY (fun s3 => some (0, s3)) FU X X Y s1 hl (Nat.le_refl _) (by omega) hl (Nat.le_refl _) hm (Nat.le_refl _) hW1 e3 hP1 (fun P p1 p2 p3 => by rw [show min X X = X by omega] at p3; exact p3) (fun a a1 a2 => by rw [e57]; exact hn a a1 a2) (fun a a1 a2 a3 => by rw [e57]; exact hn a a1 a2) (fun b b1 b2 => by omega)
  refine ⟨s', ?_, fun b b1 b2 b3 b4 => by rw [f2 b b1 b2 b3, e2 b (by omega) (by omega)], hW1.congr hA12 (fun b hb => f2 b (by omega) (by omega) (by omega)), f3, fun a ha => by rw [f4 a ha, e57], f5⟩
  unfold X7_pairForests
  simp (disch := omega) only [cLt_t, cLt_f, cEq_t, cEq_f, rdR_ok, rd_ok, wr_ok, put_eq, jn_eq, cl_some, Int.toNat_natCast, e1]
  exact f1
