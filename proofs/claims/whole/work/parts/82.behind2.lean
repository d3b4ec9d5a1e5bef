theorem beh_fin {s t s2 t3 : St} {v : Vec} {r : Nat} {E : Doc} {T : List Int} (hc : Cor s t v) (hs : s 5 1 = 1 ∨ (s 5 1 = 0 ∧ SolX s v)) (hr : r < 4) (f : F44 s s2) (hT : TreeAt s2 44 E) (hF : Fst E) (e : str E (fun _ => true) 0 E.n = T) (hO : TxO t t3 r T) : ∃ s3, X5_print (22 + 2 * r) 44 s2 = some ((T.length : Int), s3) ∧ InvS SolX s3 t3 := by
  obtain ⟨s3, a1, a2, a3⟩ := p_print (a := 22 + 2 * r) hT hF (by omega)
  rw [e] at a1 a3
  obtain ⟨o1, o2, o3, o4, o5, o6, o7, o8⟩ := hO
  have hc2 : Cor s2 t v := hc.frame (fun b _ _ _ h => f b (by omega)) ScrM.rfl
  refine ⟨s3, a1, Cor.inv (v := v) (cor_text hc2 hr o8 o7 a2 a3 o1 o2 o3 o4 o5 o6) ?_⟩
  rw [a2 5 (by omega) (by omega), f 5 (by omega)]
  rcases hs with q | ⟨q, w⟩
  · exact Or.inl q
  · exact Or.inr ⟨q, congW s s3 v (fun b hb => by rw [a2 b (by omega) (by omega), f b (by omega)]) w⟩
theorem sim_behind : ∀ s t : St, InvS SolX s t → ∀ a1 : Int, inR a1 → ∀ a2 : Int, inR a2 → Ok2 (InvS SolX) (X8_behind a1 a2 s) (X9_behind a1 a2 t) := by
  intro s t hI a1 r1 a2 r2
  obtain ⟨v, hc, hs⟩ := cor_of hI
  obtain ⟨hv, hC, hM⟩ := hc.ok
  have hA := hv.1.1
  have hB := hv.2.1.1
  have n0 := hA.1
  have n1 := hB.1
  have hU := FU_gt
  unfold X8_behind X9_behind
  by_cases h : a1 < 0
  · simp (disch := omega) only [cLt_t, cLt_f, cEq_t, cEq_f, rdR_ok, rd_ok, wr_ok, put_eq, jn_eq, cl_some, Int.toNat_natCast]
    exact ok_same _ hI
  · rw [cLt_f (by omega) (by omega) (by omega), cLt_f (by omega) (by omega) (by omega), p_noText a2 r2, q_isText a2 r2]
    by_cases g : 0 ≤ a2 ∧ a2 < 4
    · rw [if_pos g, if_pos g, cl_some, cl_some, cEq_t (x := 0) (y := 0) (by omega) (by omega) rfl, cEq_f (x := 1) (y := 0) (by omega) (by omega) (by omega) (by omega) (by omega), p_isWhole hv hC, q_areBoth hv hM]
      by_cases w : 0 < v.1.n ∧ 0 < v.2.1.n
      · rw [if_pos w, cl_some, cl_some, cEq_f (x := 1) (y := 0) (by omega) (by omega) (by omega) (by omega) (by omega), cEq_f (x := 1) (y := 0) (by omega) (by omega) (by omega) (by omega) (by omega)]
        obtain ⟨r, rfl⟩ : ∃ r : Nat, a2 = r := ⟨a2.toNat, by omega⟩
        obtain ⟨kk, rfl⟩ : ∃ r : Nat, a1 = r := ⟨a1.toNat, by omega⟩
        have hr : r < 4 := by omega
        obtain ⟨s', q1, q2, q3, q4⟩ := p_refresh hv hC hs
        have sol := q4 w
        obtain ⟨t', m1, m2, m3, m4, m5, m6⟩ := q_laysSteps hv w.1 w.2 sol.2.1 (oth_eq sol) hM
        have hc' : Cor s' t' v := hc.frame (fun b w1 w2 w3 w4 => q2 b w1 w2 (by omega)) m2.scr
        obtain ⟨-, hC', hM'⟩ := hc'.ok
        have ln := stps_len hv (s' 57) (s' 58)
        have sp := sol.2.2.2
        have der := sol.2.1.1
        have gr : ∀ x, x < v.1.n → s' 57 x = -9 ∨ (0 ≤ s' 57 x ∧ s' 57 x < v.2.1.n) := fun x hx => by
          have := der.range x (by omega) hx
          omega
        have pi1 := sol.2.2.1.1
        have pi2 := sol.2.2.1.2.1
        obtain ⟨a, b, ab, bN, F0, F1, F2, I0, I2, C0, C1, C2⟩ := stps_f v (s' 57) (s' 58)
        rw [q1, m1, cl_some, cl_some, sp.1, m6.1]
        generalize stps v (s' 57) (s' 58) = L at *
        generalize hG : s' 57 = G at *
        generalize hOo : s' 58 = O at *
        by_cases kN : L.length < kk
        · rw [cLt_t (by omega) (by omega) (by omega), cLt_t (by omega) (by omega) (by omega)]
          exact ⟨-6, s', t', rfl, rfl, hc'.inv q3⟩
        · rw [cLt_f (by omega) (by omega) (by omega), cLt_f (by omega) (by omega) (by omega)]
          simp only [jn_eq]
          have hsA : ∀ q, q ≤ b → ∀ s, s < q → ∃ y : Nat, ((atS L s).1 = 0 ∨ (atS L s).1 = 1) ∧ (atS L s).2.1 = (y : Int) ∧ y < v.1.n ∧ ((atS L s).1 = 1 → 0 ≤ G y ∧ G y < v.2.1.n) := fun q hq s hs => by
            by_cases sa : s < a
            · obtain ⟨y, y1, y2, y3, y4⟩ := F0 s sa
              exact ⟨y, Or.inl y1, y2, y3, fun z => by omega⟩
            · obtain ⟨y, y1, y2, y3, y4⟩ := F1 s (by omega) (by omega)
              exact ⟨y, Or.inr y1, y2, y3, fun _ => (gr y y3).resolve_left y4⟩
          have body0 : ∀ q, q = kk → q ≤ b → ∃ (m : Nat) (D : Doc) (t3 : St), (cl (X9_many 0 t') (fun v10 s11 => cEq 0 1 (X9_behind_84 (kk : Int) (r : Int) 0 (fun x22 s23 => X9_behind_128 (kk : Int) (r : Int) 0 x22 (fun s15 => X9_behind_161 (kk : Int) (r : Int) 0 (wEnd 0 (r : Int)) FU x22 0 s15) FU 0 s23) FU 0 0 s11) (X9_behind_128 (kk : Int) (r : Int) 0 (oShl 1 v10 - 1) (fun s15 => X9_behind_161 (kk : Int) (r : Int) 0 (wEnd 0 (r : Int)) FU (oShl 1 v10 - 1) 0 s15) FU 0 s11))) = some (((str D (tb m) 0 v.1.n).length : Int), t3) ∧ TxO t' t3 r (str D (tb m) 0 v.1.n) ∧ RelC v.1 v.2.1 G L kk D ∧ ∀ y, y < v.1.n → (tb m y = true ↔ ¬nodeIn L 0 kk 0 y) := fun q hq hqb => by
            obtain ⟨m, D, t3, b1, b2⟩ := q_behA hv hM' m6 ln (G := G) (fun x hx => m4 x hx) hr (kk := kk) (by omega) (hsA kk (by omega)) (z := oShl 1 (v.1.n : Int) - 1)
            refine ⟨m, D, t3, ?_, b2⟩
            rw [q_many0 hM'.1, cl_some, cEq_f (x := 0) (y := 1) (by omega) (by omega) (by omega) (by omega) (by omega)]
            exact b1
          have rhs0 : kk ≤ b → ∀ (e : Rs) (Z : Rs), e = cLt 0 (kk : Int) (rd t' 24 108 (3 * (kk : Int) - 3) (fun v26 => cEq v26 2 Z (cl (X9_many 0 t') (fun v10 s11 => cEq 0 1 (X9_behind_84 (kk : Int) (r : Int) 0 (fun x22 s23 => X9_behind_128 (kk : Int) (r : Int) 0 x22 (fun s15 => X9_behind_161 (kk : Int) (r : Int) 0 (wEnd 0 (r : Int)) FU x22 0 s15) FU 0 s23) FU 0 0 s11) (X9_behind_128 (kk : Int) (r : Int) 0 (oShl 1 v10 - 1) (fun s15 => X9_behind_161 (kk : Int) (r : Int) 0 (wEnd 0 (r : Int)) FU (oShl 1 v10 - 1) 0 s15) FU 0 s11))))) (cl (X9_many 0 t') (fun v10 s11 => cEq 0 1 (X9_behind_84 (kk : Int) (r : Int) 0 (fun x22 s23 => X9_behind_128 (kk : Int) (r : Int) 0 x22 (fun s15 => X9_behind_161 (kk : Int) (r : Int) 0 (wEnd 0 (r : Int)) FU x22 0 s15) FU 0 s23) FU 0 0 s11) (X9_behind_128 (kk : Int) (r : Int) 0 (oShl 1 v10 - 1) (fun s15 => X9_behind_161 (kk : Int) (r : Int) 0 (wEnd 0 (r : Int)) FU (oShl 1 v10 - 1) 0 s15) FU 0 s11))) → e = (cl (X9_many 0 t') (fun v10 s11 => cEq 0 1 (X9_behind_84 (kk : Int) (r : Int) 0 (fun x22 s23 => X9_behind_128 (kk : Int) (r : Int) 0 x22 (fun s15 => X9_behind_161 (kk : Int) (r : Int) 0 (wEnd 0 (r : Int)) FU x22 0 s15) FU 0 s23) FU 0 0 s11) (X9_behind_128 (kk : Int) (r : Int) 0 (oShl 1 v10 - 1) (fun s15 => X9_behind_161 (kk : Int) (r : Int) 0 (wEnd 0 (r : Int)) FU (oShl 1 v10 - 1) 0 s15) FU 0 s11))) := fun hb e Z he => by
            rw [he]
            by_cases k0 : kk = 0
            · rw [cLt_f (by omega) (by omega) (by omega)]
            · have i1 : (3 * (kk : Int) - 3).toNat = 3 * (kk - 1) := by omega
              have e1 := (m6.2 (kk - 1) (by omega)).1
              obtain ⟨y, y1, _⟩ := hsA kk hb (kk - 1) (by omega)
              rw [cLt_t (by omega) (by omega) (by omega), rd_ok (by omega) (by omega), i1, e1, cEq_f (by omega) (by omega) (by omega) (by omega) (by omega)]
          by_cases kb : kk < b
          · have sk : (atS L kk).1 = 0 ∨ (atS L kk).1 = 1 := by
              by_cases sa : kk < a
              · obtain ⟨y, y1, _⟩ := F0 kk sa
                exact Or.inl y1
              · obtain ⟨y, y1, _⟩ := F1 kk (by omega) kb
                exact Or.inr y1
            obtain ⟨s2, E, D, S, c1, c2, c3, c4, c5, c6, c7⟩ := p_growA hv hC' sp ln (G := G) (fun x _ => by rw [hG]) (kk := kk) (by omega) sk (hsA kk (by omega)) (fun s s1 h1 h2 h3 h4 => by
              refine I0 s s1 h1 ?_
              by_cases sa : s1 < a
              · exact sa
              · obtain ⟨y, y1, _⟩ := F1 s1 (by omega) (by omega)
                omega)
            obtain ⟨m, D', t3, d1, d2, d3, d4⟩ := body0 kk rfl (by omega)
            have te : str D S 0 v.1.n = str D' (tb m) 0 v.1.n := relc_eq hA c5 d3 (fun y hy => by rw [c6 y, d4 y hy])
            rw [te] at c7
            obtain ⟨s3, f1, f2⟩ := beh_fin hc' q3 hr c2 c3 c4 c7 d2
            refine ⟨((str D' (tb m) 0 v.1.n).length : Int), s3, t3, ?_, ?_, f2⟩
            · rw [c1, cl_some, rdR_ok (by omega) (by omega), Int.toNat_natCast, f1, cl_some]
            · exact (rhs0 (by omega) _ _ rfl).trans d1
          · obtain ⟨s2, E, S, c1, c2, c3, c4, c6, c7⟩ := p_growB hv hC' sp ln (kk := kk) (by omega) (fun s h1 h2 => by
              obtain ⟨y, y1, y2, y3, y4⟩ := F2 s (by omega) h2
              exact ⟨y, y1, y2, y3⟩) (fun s s1 h1 h2 h3 => I2 s s1 (by omega) h2 h3)
            by_cases kb2 : kk = b
            · obtain ⟨m, D', t3, d1, d2, d3, d4⟩ := body0 kk rfl (by omega)
              have iso := (iso_str (K := Kv v) (A := v.1) (B := v.2.1) (P := G) (PA := tb m) (E := D') d3.2.1 der (fun x _ hx => by
                refine ⟨?_, fun gx => ?_⟩
                · rw [d4 x hx]
                  constructor
                  · intro z gx
                    obtain ⟨q, u1, u2⟩ := C0 x hx gx
                    obtain ⟨y, y1, _⟩ := F0 q u1
                    exact z ⟨q, by omega, by omega, y1, u2⟩
                  · rintro z ⟨q, _, u1, u2, u3⟩
                    by_cases sa : q < a
                    · obtain ⟨y, y1, y2, y3, y4⟩ := F0 q sa
                      have : y = x := by omega
                      subst this
                      exact z y4
                    · obtain ⟨y, y1, _⟩ := F1 q (by omega) (by omega)
                      omega
                · by_cases nd : nodeIn L 0 kk 1 x
                  · exact (d3.2.2 x hx).1 nd
                  · rw [(d3.2.2 x hx).2 nd]
                    by_cases ce : v.1.c x = v.2.1.c (G x).toNat
                    · exact ce
                    · obtain ⟨q, u1, u2, u3⟩ := C1 x hx gx ce
                      obtain ⟨y, y1, _⟩ := F1 q u1 u2
                      exact absurd ⟨q, by omega, by omega, y1, u3⟩ nd) S (fun y _ hy => by
                rw [c6 y]
                constructor
                · intro z
                  rcases pi2 y hy with o | ⟨x, x1, x2, x3⟩
                  · obtain ⟨q, u1, u2, u3⟩ := C2 y hy o
                    obtain ⟨y', y1, _⟩ := F2 q u1 u2
                    exact absurd ⟨q, by omega, u2, y1, u3⟩ z
                  · exact ⟨x, by omega, x1, x3⟩
                · rintro ⟨x, _, x1, x2⟩ ⟨q, u0, u1, u2, u3⟩
                  obtain ⟨y', y1, y2, y3, y4⟩ := F2 q (by omega) u1
                  have ey : y' = y := by omega
                  subst ey
                  rcases pi1 x x1 with z | ⟨b', z1, z2, z3⟩
                  · omega
                  · have : b' = y' := by omega
                    subst this
                    exact z3 y4)).1
              rw [← iso] at c7
              obtain ⟨s3, f1, f2⟩ := beh_fin hc' q3 hr c2 c3 c4 c7 d2
              refine ⟨((str D' (tb m) 0 v.1.n).length : Int), s3, t3, ?_, ?_, f2⟩
              · rw [c1, cl_some, rdR_ok (by omega) (by omega), Int.toNat_natCast, f1, cl_some]
              · exact (rhs0 (by omega) _ _ rfl).trans d1
            · obtain ⟨m, t3, d1, d2, d4⟩ := q_behB hv hM' m6 ln (O := O) (fun y hy => ⟨m5 y hy, by
                rcases pi2 y hy with o | ⟨x, x1, x2, x3⟩
                · exact ⟨by omega, by omega⟩
                · exact ⟨by omega, by omega⟩⟩) hr (kk := kk) (by omega) (fun s h1 => by
                by_cases sb : s < b
                · obtain ⟨y, y1, y2, y3, y4⟩ := hsA b (Nat.le_refl _) s sb
                  exact ⟨y, by omega, by omega, y2, by omega⟩
                · obtain ⟨y, y1, y2, y3, y4⟩ := F2 s (by omega) (by omega)
                  exact ⟨y, by omega, by omega, y2, by omega⟩)
              have te : str v.2.1 S 0 v.2.1.n = str v.2.1 (tb m) 0 v.2.1.n := str_congr _ _ 0 (Nat.le_refl _) (fun y hy => ⟨b_eq (by
                rw [c6 y, d4 y hy]
                constructor
                · intro z
                  by_cases o : O y = -9
                  · obtain ⟨q, u1, u2, u3⟩ := C2 y hy o
                    obtain ⟨y', y1, _⟩ := F2 q u1 u2
                    refine Or.inr ⟨q, by omega, ?_, y1, u3⟩
                    by_cases qk : q < kk
                    · exact qk
                    · exact absurd ⟨q, by omega, u2, y1, u3⟩ z
                  · exact Or.inl o
                · rintro z ⟨q, u0, u1, u2, u3⟩
                  obtain ⟨y', y1, y2, y3, y4⟩ := F2 q (by omega) u1
                  have ey : y' = y := by omega
                  subst ey
                  rcases z with z | ⟨q', _, x1, x2, x3⟩
                  · exact z y4
                  · have qb : b ≤ q' := by
                      by_cases sb : q' < b
                      · obtain ⟨y, y1, _⟩ := hsA b (Nat.le_refl _) q' sb
                        omega
                      · omega
                    have := I2 q' q qb (by omega) u1
                    omega), rfl, (hB.2.1 y hy).2, fun _ => rfl⟩)
              rw [te] at c7
              obtain ⟨s3, f1, f2⟩ := beh_fin hc' q3 hr c2 c3 c4 c7 d2
              refine ⟨((str v.2.1 (tb m) 0 v.2.1.n).length : Int), s3, t3, ?_, ?_, f2⟩
              · rw [c1, cl_some, rdR_ok (by omega) (by omega), Int.toNat_natCast, f1, cl_some]
              · have i1 : (3 * (kk : Int) - 3).toNat = 3 * (kk - 1) := by omega
                have e1 := (m6.2 (kk - 1) (by omega)).1
                obtain ⟨y, y1, _⟩ := F2 (kk - 1) (by omega) (by omega)
                rw [cLt_t (by omega) (by omega) (by omega), rd_ok (by omega) (by omega), i1, e1, cEq_t (by omega) (by omega) (by omega), q_many0 hM'.1, cl_some, cEq_t (x := 1) (y := 1) (by omega) (by omega) rfl]
                exact d1
      · rw [if_neg w, cl_some, cl_some, cEq_t (x := 0) (y := 0) (by omega) (by omega) rfl, cEq_t (x := 0) (y := 0) (by omega) (by omega) rfl]
        exact ok_same _ hI
    · rw [if_neg g, if_neg g, cl_some, cl_some, cEq_f (x := 1) (y := 0) (by omega) (by omega) (by omega) (by omega) (by omega), cEq_t (x := 0) (y := 0) (by omega) (by omega) rfl]
      exact ok_same _ hI
