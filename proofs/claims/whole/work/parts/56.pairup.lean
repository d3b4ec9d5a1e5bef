/-! the class's whole way -/
theorem l_clear (k : St → Rs) : ∀ (n i : Nat) (s : St), i ≤ 12 → 12 < i + n → (∀ a, a < i → s 57 a = -9 ∧ s 58 a = -9) → ∃ s', X7_pairUp_7 k n (i : Int) s = k s' ∧ (∀ b, b ≠ 57 → b ≠ 58 → s' b = s b) ∧ ∀ a, a < 12 → s' 57 a = -9 ∧ s' 58 a = -9 := by
  intro n
  induction n with
  | zero => intro i s h1 h2; omega
  | succ n ih =>
    intro i s h1 h2 hI
    rw [X7_pairUp_7]
    by_cases e : i = 12
    · subst e
      refine ⟨s, ?_, fun _ _ _ => rfl, hI⟩
      simp (disch := omega) only [cLt_t, cLt_f, cEq_t, cEq_f, rdR_ok, rd_ok, wr_ok, put_eq, jn_eq, cl_some, Int.toNat_natCast]
    · obtain ⟨s', f1, f2, f3⟩ := ih (i + 1) (up (up s 57 i (-9)) 58 i (-9)) (by omega) (by omega) (fun a ha => by
        by_cases q : a = i
        · subst q
          simp (disch := omega) only [fil_o, up_o, fil_out, fil_in, up_i, up_eq]
          exact ⟨trivial, trivial⟩
        · simp (disch := omega) only [fil_o, up_o, fil_out, fil_in, up_i, up_eq]
          exact hI a (by omega))
      refine ⟨s', ?_, fun b b1 b2 => by rw [f2 b b1 b2, up_b (by omega), up_b (by omega)], f3⟩
      simp (disch := omega) only [cLt_t, cLt_f, cEq_t, cEq_f, rdR_ok, rd_ok, wr_ok, put_eq, jn_eq, cl_some, Int.toNat_natCast]
      exact f1
theorem l_pairUp {A B : Doc} {K : Prc} (hA : Fst A) (hB : Fst B) (hK : K.ok) (k : St → Rs) : ∀ (n c : Nat) (s : St), c ≤ A.n → c < n → Wy s A B K → PI s A B → (∀ P : Nat → Int, (∀ a, a < A.n → ¬Cv A (s 57) 0 c a → P a = s 57 a) → (∀ b, b < c → s 57 b ≠ -9 → LXb A B K (s 57) P b) → LX K (Tl A B) 0 A.n 0 B.n P) → (∀ a, Cv A (s 57) 0 c a → s 57 a = -9) → ∃ s', X7_pairUp_69 k n ((c : Int) - 1) s = k s' ∧ (∀ b, b ≠ 5 → b ≠ 57 → b ≠ 58 → b < 63 → s' b = s b) ∧ Wy s' A B K ∧ PI s' A B ∧ LX K (Tl A B) 0 A.n 0 B.n (s' 57) := by
  have hA12 := hA.1
  have hB12 := hB.1
  intro n
  induction n with
  | zero => intro c s h1 h2; omega
  | succ n ih =>
    intro c s h1 h2 hW hP H1 H2
    rw [X7_pairUp_69]
    by_cases e : c = 0
    · subst e
      refine ⟨s, ?_, fun _ _ _ _ _ => rfl, hW, hP, H1 (s 57) (fun _ _ _ => rfl) (fun b hb => by omega)⟩
      simp (disch := omega) only [cLt_t, cLt_f, cEq_t, cEq_f, rdR_ok, rd_ok, wr_ok, put_eq, jn_eq, cl_some, Int.toNat_natCast]
    · obtain ⟨i, rfl⟩ : ∃ w, c = w + 1 := ⟨c - 1, by omega⟩
      have e1 : ((i + 1 : Nat) : Int) - 1 = i := by omega
      have e2 : (i : Int) + -1 = (i : Int) - 1 := by omega
      rw [e1]
      rcases hP.1 i (by omega) with q | ⟨y, y1, y2, y3⟩
      · obtain ⟨s', f1, f2⟩ := ih i s (by omega) (by omega) hW hP (fun P p1 p2 => by
          refine H1 P (fun a a1 a2 => p1 a a1 (fun ⟨b, b1, b2, b3, b4, b5⟩ => a2 ⟨b, b1, by omega, b3, b4, b5⟩)) (fun b b1 b2 => p2 b ?_ b2)
          by_cases z : b = i
          · subst z; exact absurd q b2
          · omega) (fun a ⟨b, b1, b2, b3, b4, b5⟩ => H2 a ⟨b, b1, by omega, b3, b4, b5⟩)
        refine ⟨s', ?_, f2⟩
        simp (disch := omega) only [cLt_t, cLt_f, cEq_t, cEq_f, rdR_ok, rd_ok, wr_ok, put_eq, jn_eq, cl_some, Int.toNat_natCast, e2, q]
        exact f1
      · have li := (hA.2.1 i (by omega)).2
        have r1 := (fst_rg hA).in (x := i) (by omega) (by omega)
        have r2 := (fst_rg hB).in (x := y) (by omega) y1
        obtain ⟨s1, g1, g2, g3, g4, g5, g6, g7⟩ := p_pairF hA hB hK r1 r2 (by omega) (by omega) hW hP (fun a a1 a2 => H2 a ⟨i, by omega, by omega, a2, a1, by rw [y2]; omega⟩)
        have out : ∀ b, ¬(A.l i ≤ b ∧ b < i) → s1 57 b = s 57 b := g5
        have si : s1 57 i = y := by rw [out i (by omega)]; exact y2
        obtain ⟨s', f1, f2, f3⟩ := ih i s1 (by omega) (by omega) g3 g4 (fun P p1 p2 => by
          have cv : ∀ a, Cv A (s1 57) 0 i a → Cv A (s 57) 0 (i + 1) a := fun a ⟨b, b1, b2, b3, b4, b5⟩ => by
            by_cases z : A.l i ≤ b
            · have := hA.2.2 i b (by omega) b2 z
              exact ⟨i, by omega, by omega, by omega, by omega, by rw [y2]; omega⟩
            · exact ⟨b, b1, by omega, b3, b4, by rw [out b (by omega)] at b5; exact b5⟩
          refine H1 P (fun a a1 a2 => ?_) (fun b b1 b2 => ?_)
          · rw [p1 a a1 (fun z => a2 (cv a z)), out a (fun z => a2 ⟨i, by omega, by omega, z.2, z.1, by rw [y2]; omega⟩)]
          · by_cases z : b = i
            · subst z
              have : LX K (Tl A B) (A.l b) b (B.l y) y P := by
                refine g7 P (fun a a1 a2 a3 => p1 a (by omega) (fun ⟨c, c1, c2, c3, c4, c5⟩ => a3 ⟨c, by omega, c2, c3, c4, c5⟩)) (fun a a1 a2 a3 => p2 a (by omega) a3)
              unfold LXb
              rw [y2, Int.toNat_natCast]
              exact this
            · have nb : ¬(A.l i ≤ b ∧ b < i) := fun w => b2 (H2 b ⟨i, by omega, by omega, w.2, w.1, by rw [y2]; omega⟩)
              have := p2 b (by omega) (by rw [out b nb]; exact b2)
              unfold LXb at this ⊢
              rw [out b nb] at this
              exact this) (fun a ⟨b, b1, b2, b3, b4, b5⟩ => by
          by_cases z : A.l i ≤ b
          · have := hA.2.2 i b (by omega) b2 z
            exact g6 a (by omega) (by omega) ⟨b, z, b2, b3, b4, b5⟩
          · rw [out a (by omega)]
            rw [out b (by omega)] at b5
            exact H2 a ⟨b, b1, by omega, b3, b4, b5⟩)
        refine ⟨s', ?_, fun b b1 b2 b3 b4 => by rw [f2 b b1 b2 b3 b4, g2 b b1 b2 b3 b4], f3⟩
        have l1 := p_leftmost hW.1.1 hA12 (x := i) (by omega)
        have l2 := p_leftmost hW.1.2.1 hB12 y1
        simp (disch := omega) only [cLt_t, cLt_f, cEq_t, cEq_f, rdR_ok, rd_ok, wr_ok, put_eq, jn_eq, cl_some, Int.toNat_natCast, e2, y2, l1, l2, g1]
        exact f1
theorem p_pairUp {A B : Doc} {K : Prc} (hA : Fst A) (hB : Fst B) (hK : K.ok) {s : St} (hW : Wy s A B K) : ∃ s', X7_pairUp s = some (0, s') ∧ (∀ b, b ≠ 5 → b ≠ 57 → b ≠ 58 → b < 63 → s' b = s b) ∧ Wy s' A B K ∧ PI s' A B ∧ LX K (Tl A B) 0 A.n 0 B.n (s' 57) := by
  have hA12 := hA.1
  have hB12 := hB.1
  have hU := FU_gt
  unfold X7_pairUp
  rw [put_eq]
  obtain ⟨s1, e1, e2, e3⟩ := l_clear (fun s2 => cl (X7_pairForests 0 ((s2 38 0) - 1) 0 ((s2 41 0) - 1) s2) (fun _ s4 => X7_pairUp_69  (fun s5 => some (0, s5)) FU ((s4 38 0) - 1) s4)) FU 0 (up s 5 2 0) (by omega) (by omega) (fun a ha => by omega)
  have fr : ∀ b, b ≠ 5 → b ≠ 57 → b ≠ 58 → s1 b = s b := fun b b1 b2 b3 => by rw [e2 b b2 b3, up_b b1]
  have hW1 : Wy s1 A B K := hW.congr hA12 (fun b hb => fr b (by omega) (by omega) (by omega))
  have hP1 : PI s1 A B := ⟨fun a ha => Or.inl (e3 a (by omega)).1, fun b hb => Or.inl (e3 b (by omega)).2, by
    rw [e2 5 (by omega) (by omega), up_eq]
    unfold cntP
    rw [sm_zero 0 A.n (fun a a1 a2 => if_pos (e3 a (by omega)).1)]⟩
  obtain ⟨s2, g1, g2, g3, g4, g5, g6, g7⟩ := p_pairF hA hB hK (fst_rg hA) (fst_rg hB) (Nat.le_refl _) (Nat.le_refl _) hW1 hP1 (fun a a1 a2 => (e3 a (by omega)).1)
  obtain ⟨s3, f1, f2, f3⟩ := l_pairUp hA hB hK (fun s5 => some (0, s5)) FU A.n s2 (Nat.le_refl _) (by omega) g3 g4 (fun P p1 p2 => g7 P (fun a a1 a2 a3 => p1 a a2 a3) (fun b b1 b2 b3 => p2 b b2 b3)) (fun a ⟨b, b1, b2, b3, b4, b5⟩ => g6 a (by omega) (by omega) ⟨b, b1, b2, b3, b4, b5⟩)
  refine ⟨s3, ?_, fun b b1 b2 b3 b4 => by rw [f2 b b1 b2 b3 b4, g2 b b1 b2 b3 b4, fr b b1 b2 b3], f3⟩
  refine e1.trans ?_
  simp only [hW1.1.1.1, hW1.1.2.1.1]
  rw [show (0 : Int) = ((0 : Nat) : Int) from rfl, g1]
  simp (disch := omega) only [cLt_t, cLt_f, cEq_t, cEq_f, rdR_ok, rd_ok, wr_ok, put_eq, jn_eq, cl_some, Int.toNat_natCast, g3.1.1.1]
  exact f1
