theorem rd_place {s t : St} {op mk pd : Nat} {mark : Int} {d : Doc} {sts : Nat → Nat} (h : RdC s t op mk pd mark d sts) {i : Int} : RdC s (up t 0 12 i) op mk pd mark d sts := by
  unfold RdC at h ⊢
  simp (disch := omega) only [fil_o, up_o, fil_out, fil_in, up_i, up_eq]
  exact h
/-- what both hold of a text -/
def TxE (s t : St) (k len : Nat) (T : Nat → Int) : Prop := s (22 + 2 * k) 0 = len ∧ (∀ i, i < len → s (22 + 2 * k + 1) i = T i) ∧ t 3 k = len ∧ ∀ i, i < len → t 4 (60 * k + i) = T i
theorem TxE.of {s t s' t' : St} {k len : Nat} {T : Nat → Int} (h : TxE s t k len T) (hk : k < 4) (hc : ScrC s s') (hm : ScrM t t') : TxE s' t' k len T := by
  unfold TxE
  rw [hc _ (by omega) (by omega), hc _ (by omega) (by omega), hm.1 3 (by omega) (by omega), hm.1 4 (by omega) (by omega)]
  exact h
set_option maxHeartbeats 20000000 in
theorem read_loop {k len : Nat} (hk : k < 4) (hl : len ≤ 60) (T : Nat → Int) (hT : ∀ i, i < len → -128 ≤ T i ∧ T i ≤ 127) : ∀ (m i : Nat), i + m = len → ∀ (n n' : Nat) (s t : St) (op mk pd : Nat) (la mark : Int) (d : Doc) (sts : Nat → Nat), m < n → m < n' → TxE s t k len T → t 0 12 = i → s 9 5 = la → RdC s t op mk pd mark d sts → LaI op mk pd la d → RdOut s t (X1_read_25 (22 + 2 * k) (rdEndC (22 + 2 * k)) n i s) (X9_reading_20 k (rdEndM k) n' op mk la mark t) := by
  intro m
  induction m with
  | zero =>
    intro i hi n n' s t op mk pd la mark d sts hn hn' hX hp h5 hR hL
    obtain ⟨n, rfl⟩ : ∃ q, n = q + 1 := ⟨n - 1, by omega⟩
    obtain ⟨n', rfl⟩ : ∃ q, n' = q + 1 := ⟨n' - 1, by omega⟩
    have hil : i = len := by omega
    subst hil
    rw [X1_read_25, X9_reading_20, here_end hk hl hX.2.2.1 hp]
    simp (disch := omega) only [cLt_t, cLt_f, cEq_t, cEq_f, rdR_ok, rd_ok, wr_ok, put_eq, jn_eq, cl_some, Int.toNat_natCast, hX.1]
    exact rd_end hk hl hX.1 hX.2.2.1 hR hL
  | succ m ih =>
    intro i hi n n' s t op mk pd la mark d sts hn hn' hX hp h5 hR hL
    obtain ⟨n, rfl⟩ : ∃ q, n = q + 1 := ⟨n - 1, by omega⟩
    obtain ⟨n', rfl⟩ : ∃ q, n' = q + 1 := ⟨n' - 1, by omega⟩
    have hT1 := hT i (by omega)
    have e1 := hX.2.1 i (by omega)
    have e2 := hX.2.2.2 i (by omega)
    have hs := hX.1
    have ht := hX.2.2.1
    have hR0 := hR
    obtain ⟨⟨h1, h2, h3, h4⟩, h5', h6, h7, h8, ⟨h9, h10, h11⟩, h12, h13⟩ := hR
    have hla : 0 ≤ la ∧ la ≤ 3 := by
      rcases hL with q | q | q | q <;> omega
    rw [X1_read_25]
    simp (disch := omega) only [cLt_t, cLt_f, cEq_t, cEq_f, rdR_ok, rd_ok, wr_ok, put_eq, jn_eq, cl_some, Int.toNat_natCast, hs, e1]
    generalize T i = c at hT1 e1 e2 ⊢
    by_cases c32 : c = 32
    · have acc : X1_accepts c s = some (1, s) := by
        unfold X1_accepts
        rw [gR_ok (by omega) (by omega), if_pos c32]
      simp (disch := omega) only [cLt_t, cLt_f, cEq_t, cEq_f, rdR_ok, rd_ok, wr_ok, put_eq, jn_eq, cl_some, Int.toNat_natCast, acc]
      rw [reading_here (here_sp hk hl ht hp (by omega) (by rw [e2, c32]))]
      have hm : ScrM t (up t 0 12 ((i + 1 : Nat) : Int)) := ScrM.rfl.up (by omega)
      exact (ih (i + 1) (by omega) n (n' + 1) s _ op mk pd la mark d sts (by omega) (by omega) (hX.of hk ScrC.rfl hm) up_eq h5 (rd_place hR0) hL).of ScrC.rfl hm
    · have hh := here_ns hk hl ht hp (by omega) hT1.1 hT1.2 e2 c32
      rw [X9_reading_20]
      have rej : ∀ (e f : Rs), e = some ((i : Int), s) → f = some ((i : Int), t) → RdOut s t e f := fun e f q1 q2 => ⟨i, s, t, q1, q2, ScrC.rfl, ScrM.rfl, by omega, by omega, fun e => by omega⟩
      by_cases c40 : c = 40
      · subst c40
        have hm : ∀ s, X9_isMark 40 s = some (0, s) := fun s => by
          rw [q_isMark ⟨by omega, by omega⟩, if_neg (by omega)]
        have acc : X1_accepts 40 s = cl (X1_opens s) (fun v1 s2 => gB v1 (some (v1, s2))) := by
          unfold X1_accepts
          rw [gR_ok (by omega) (by omega), if_neg (by omega), if_pos rfl]
        rw [acc]
        by_cases hl1 : la = 1
        · have hpd : pd = 1 := by
            rcases hL with q | q | q | q <;> omega
          subst hl1 hpd
          obtain ⟨p1, p2, p3⟩ := h6 rfl
          rw [p_opens h5 (by rw [h4]; omega) h1 (by omega) (by omega) p1]
          simp only [cl_some]
          rw [gB_ok (Or.inr rfl)]
          simp (disch := omega) only [cLt_t, cLt_f, cEq_t, cEq_f, rdR_ok, rd_ok, wr_ok, put_eq, jn_eq, cl_some, Int.toNat_natCast, hh, hm, h3, hp, up_o, up_i, up_eq]
          have hc : ScrC s (up (up (up (up (up s 47 0 d.n) 50 op mark) 51 op d.n) 9 3 ((op : Int) + 1)) 9 5 2) := ((((ScrC.rfl.up (by omega)).up (by omega)).up (by omega)).up (by omega)).up (by omega)
          have hm' : ScrM t (up (up (up t 12 op mark) 13 op d.n) 0 12 ((i : Int) + 1)) := ((ScrM.rfl.up (by omega)).up (by omega)).up (by omega)
          exact (ih (i + 1) (by omega) n n' _ _ (op + 1) mk 0 2 mark d _ (by omega) (by omega) (hX.of hk hc hm') up_eq up_eq (rd_open hR0) (Or.inr (Or.inr (Or.inl ⟨rfl, rfl, by omega⟩)))).of hc hm'
        · have acc2 : X1_opens s = some (0, s) := by
            unfold X1_opens
            simp (disch := omega) only [cLt_t, cLt_f, cEq_t, cEq_f, rdR_ok, rd_ok, wr_ok, put_eq, jn_eq, cl_some, Int.toNat_natCast, h5]
          rw [acc2]
          simp only [cl_some]
          rw [gB_ok (Or.inl rfl)]
          simp (disch := omega) only [cLt_t, cLt_f, cEq_t, cEq_f, rdR_ok, rd_ok, wr_ok, put_eq, jn_eq, cl_some, Int.toNat_natCast, hh, hm, hp]
          exact rej _ _ rfl rfl
      · by_cases c41 : c = 41
        · subst c41
          have hm : ∀ s, X9_isMark 41 s = some (0, s) := fun s => by
            rw [q_isMark ⟨by omega, by omega⟩, if_neg (by omega)]
          have acc : X1_accepts 41 s = cl (X1_closes s) (fun v1 s2 => gB v1 (some (v1, s2))) := by
            unfold X1_accepts
            rw [gR_ok (by omega) (by omega), if_neg (by omega), if_neg (by omega), if_pos rfl]
          rw [acc]
          by_cases hl2 : la = 2
          · have acc2 : X1_closes s = some (0, s) := by
              unfold X1_closes
              simp (disch := omega) only [cLt_t, cLt_f, cEq_t, cEq_f, rdR_ok, rd_ok, wr_ok, put_eq, jn_eq, cl_some, Int.toNat_natCast, h5]
            rw [acc2]
            simp only [cl_some]
            rw [gB_ok (Or.inl rfl)]
            have ho : 0 < op := by
              rcases hL with q | q | q | q <;> omega
            simp (disch := omega) only [cLt_t, cLt_f, cEq_t, cEq_f, rdR_ok, rd_ok, wr_ok, put_eq, jn_eq, cl_some, Int.toNat_natCast, hh, hm, hp]
            exact rej _ _ rfl rfl
          · by_cases ho : op = 0
            · have acc2 : X1_closes s = some (0, s) := by
                unfold X1_closes
                simp (disch := omega) only [cLt_t, cLt_f, cEq_t, cEq_f, rdR_ok, rd_ok, wr_ok, put_eq, jn_eq, cl_some, Int.toNat_natCast, h5, h1]
              rw [acc2]
              simp only [cl_some]
              rw [gB_ok (Or.inl rfl)]
              simp (disch := omega) only [cLt_t, cLt_f, cEq_t, cEq_f, rdR_ok, rd_ok, wr_ok, put_eq, jn_eq, cl_some, Int.toNat_natCast, hh, hm, hp]
              exact rej _ _ rfl rfl
            · obtain ⟨op, rfl⟩ : ∃ q, op = q + 1 := ⟨op - 1, by omega⟩
              have tail : ∀ (d1 : Doc) (t1 : St), RdC s t1 (op + 1) mk 0 mark d1 sts → ScrM t t1 → RdOut s t (cl (cl (X1_closes s) (fun v1 s2 => gB v1 (some (v1, s2)))) (fun v2 s3 => cEq v2 0 (some ((i : Int), s3)) (X1_read_25 (22 + 2 * k) (rdEndC (22 + 2 * k)) n ((i : Int) + 1) s3))) (X9_reading_20 k (rdEndM k) n' op mk 3 mark (up (nodeM t1 d1.n (t1 12 op) (sts op)) 0 12 ((i : Int) + 1))) := by
                intro d1 t1 hR1 hm1
                obtain ⟨⟨g1, g2, g3, g4⟩, g5, g6, g7, g8, ⟨g9, g10, g11⟩, g12, g13⟩ := hR1
                have go := g7 op (by omega)
                rw [p_closes h5 hla.1 hla.2 hl2 (n := d1.n) (by rw [g4]; omega) (by rw [g1]; rfl) (by omega) (by omega) go.1 go.2.2.1]
                simp only [cl_some]
                rw [gB_ok (Or.inr rfl)]
                simp (disch := omega) only [cLt_t, cLt_f, cEq_t, cEq_f, rdR_ok, rd_ok, wr_ok, put_eq, jn_eq, cl_some, Int.toNat_natCast]
                have hc : ScrC s (up (up (up (up (up s 9 3 op) 48 d1.n (t1 12 op)) 49 d1.n ((d1.n : Int) - sts op + 1)) 47 0 ((d1.n : Int) + 1)) 9 5 3) := ((((ScrC.rfl.up (by omega)).up (by omega)).up (by omega)).up (by omega)).up (by omega)
                have hm' : ScrM t (up (nodeM t1 d1.n (t1 12 op) (sts op)) 0 12 ((i : Int) + 1)) := (hm1.trans scr_nodeM).up (by omega)
                have hx := rd_close (i := (i : Int) + 1) (la' := 3) ⟨⟨g1, g2, g3, g4⟩, g5, g6, g7, g8, ⟨g9, g10, g11⟩, g12, g13⟩
                exact (ih (i + 1) (by omega) n n' _ _ op mk 0 3 mark _ _ (by omega) (by omega) (hX.of hk hc hm') up_eq up_eq hx.1 (Or.inr (Or.inr (Or.inr ⟨rfl, rfl, hx.2⟩)))).of hc hm'
              have e3 : ((op + 1 : Nat) : Int) + -1 = op := by omega
              by_cases hl1 : la = 1
              · have hpd : pd = 1 := by
                  rcases hL with q | q | q | q <;> omega
                subst hl1 hpd
                have hf := rd_flush (mark' := mark) hR0
                have q1 := tail _ _ hf.1 scr_nodeM
                have q2 := hf.1.1.2.2.1
                have q3 := (hf.1.2.2.2.1 op (by omega)).2.2.2.1
                have q4 : nodeM t d.n mark d.n 0 12 = i := by
                  unfold nodeM
                  simp (disch := omega) only [fil_o, up_o, fil_out, fil_in, up_i, up_eq]
                  exact hp
                have q5 := q_closes q2 (by rw [snoc_n]; omega) (nodeM t d.n mark d.n 12 op) (sts op)
                have q6 : nodeM (nodeM t d.n mark d.n) (snoc d mark d.n).n (nodeM t d.n mark d.n 12 op) (sts op) 0 12 = i := by
                  unfold nodeM
                  simp (disch := omega) only [fil_o, up_o, fil_out, fil_in, up_i, up_eq]
                  exact hp
                simp (disch := omega) only [cLt_t, cLt_f, cEq_t, cEq_f, rdR_ok, rd_ok, wr_ok, put_eq, jn_eq, cl_some, Int.toNat_natCast, hh, hm, h3, q_closes h3 (show d.n < 12 by omega), e3, q3, q5, q6]
                exact q1
              · have hpd : pd = 0 := by
                  rcases hL with q | q | q | q <;> omega
                subst hpd
                have q1 := tail _ _ hR0 ScrM.rfl
                have q3 := (h7 op (by omega)).2.2.2.1
                have q5 := q_closes h3 (by omega) (t 12 op) (sts op)
                have q6 : nodeM t d.n (t 12 op) (sts op) 0 12 = i := by
                  unfold nodeM
                  simp (disch := omega) only [fil_o, up_o, fil_out, fil_in, up_i, up_eq]
                  exact hp
                simp (disch := omega) only [cLt_t, cLt_f, cEq_t, cEq_f, rdR_ok, rd_ok, wr_ok, put_eq, jn_eq, cl_some, Int.toNat_natCast, hh, hm, h3, e3, q3, q5, q6]
                exact q1
        · by_cases hc : lab c
          · have hm : ∀ s, X9_isMark c s = some (1, s) := fun s => by
              rw [q_isMark ⟨by omega, by omega⟩, if_pos hc]
            have hkd := kdOf_r c
            have acc : X1_accepts c s = cl (X1_begins c s) (fun v7 s8 => cEq v7 0 (some (0, s8)) (some (1, s8))) := by
              unfold X1_accepts
              rw [gR_ok (by omega) (by omega), if_neg c32, if_neg c40, if_neg c41]
              simp (disch := omega) only [cLt_t, cLt_f, cEq_t, cEq_f, rdR_ok, rd_ok, wr_ok, put_eq, jn_eq, cl_some, Int.toNat_natCast, p_kindL hc]
            rw [acc]
            by_cases hm12 : mk < 12
            · by_cases ho : 0 < op ∨ mk = 0
              · have tail : ∀ (d1 : Doc) (t1 : St), RdC s t1 op mk 0 mark d1 sts → ScrM t t1 → RdOut s t (cl (cl (X1_begins c s) (fun v7 s8 => cEq v7 0 (some (0, s8)) (some (1, s8)))) (fun v2 s3 => cEq v2 0 (some ((i : Int), s3)) (X1_read_25 (22 + 2 * k) (rdEndC (22 + 2 * k)) n ((i : Int) + 1) s3))) (X9_reading_20 k (rdEndM k) n' op (mk + 1 : Nat) 1 c (up t1 0 12 ((i : Int) + 1))) := by
                  intro d1 t1 hR1 hm1
                  have hR2 := hR1
                  obtain ⟨⟨g1, g2, g3, g4⟩, g5, g6, g7, g8, ⟨g9, g10, g11⟩, g12, g13⟩ := hR1
                  rw [p_begins h2 h1 (n := d1.n) (by rw [g4]; omega) (by omega) (by omega) (by omega) ho]
                  simp (disch := omega) only [cLt_t, cLt_f, cEq_t, cEq_f, rdR_ok, rd_ok, wr_ok, put_eq, jn_eq, cl_some, Int.toNat_natCast]
                  have hc' : ScrC s (up (up (up (up (up s 48 d1.n c) 49 d1.n 1) 47 0 ((d1.n : Int) + 1)) 9 4 ((mk : Int) + 1)) 9 5 1) := ((((ScrC.rfl.up (by omega)).up (by omega)).up (by omega)).up (by omega)).up (by omega)
                  have hm' : ScrM t (up t1 0 12 ((i : Int) + 1)) := hm1.up (by omega)
                  exact (ih (i + 1) (by omega) n n' _ _ op (mk + 1) 1 1 c d1 sts (by omega) (by omega) (hX.of hk hc' hm') up_eq up_eq (rd_mark hR2 hc hm12 ho) (Or.inr (Or.inl ⟨rfl, rfl⟩))).of hc' hm'
                have e3 : ((mk + 1 : Nat) : Int) = (mk : Int) + 1 := by omega
                by_cases hl1 : la = 1
                · have hpd : pd = 1 := by
                    rcases hL with q | q | q | q <;> omega
                  subst hl1 hpd
                  have hf := rd_flush (mark' := mark) hR0
                  have q1 := tail _ _ hf.1 scr_nodeM
                  have q4 : nodeM t d.n mark d.n 0 12 = i := by
                    unfold nodeM
                    simp (disch := omega) only [fil_o, up_o, fil_out, fil_in, up_i, up_eq]
                    exact hp
                  have ho' : 0 < op := by omega
                  simp (disch := omega) only [cLt_t, cLt_f, cEq_t, cEq_f, rdR_ok, rd_ok, wr_ok, put_eq, jn_eq, cl_some, Int.toNat_natCast, hh, hm, h3, q_closes h3 (show d.n < 12 by omega), q4]
                  rw [e3] at q1
                  exact q1
                · have hpd : pd = 0 := by
                    rcases hL with q | q | q | q <;> omega
                  subst hpd
                  have q1 := tail _ _ hR0 ScrM.rfl
                  by_cases ho' : 0 < op
                  · simp (disch := omega) only [cLt_t, cLt_f, cEq_t, cEq_f, rdR_ok, rd_ok, wr_ok, put_eq, jn_eq, cl_some, Int.toNat_natCast, hh, hm, hp]
                    rw [e3] at q1
                    exact q1
                  · have hl0 : la = 0 := by
                      rcases hL with q | q | q | q <;> omega
                    simp (disch := omega) only [cLt_t, cLt_f, cEq_t, cEq_f, rdR_ok, rd_ok, wr_ok, put_eq, jn_eq, cl_some, Int.toNat_natCast, hh, hm, hp]
                    rw [e3] at q1
                    exact q1
              · have ho1 : op = 0 := by omega
                have ho2 : 0 < mk := by omega
                have hl0 : la ≠ 0 := by
                  rcases hL with q | q | q | q <;> omega
                clear ho hL
                subst ho1
                have acc2 : X1_begins c s = some (0, s) := by
                  unfold X1_begins
                  simp (disch := omega) only [cLt_t, cLt_f, cEq_t, cEq_f, rdR_ok, rd_ok, wr_ok, put_eq, jn_eq, cl_some, Int.toNat_natCast, h2, h1]
                rw [acc2]
                simp (disch := omega) only [cLt_t, cLt_f, cEq_t, cEq_f, rdR_ok, rd_ok, wr_ok, put_eq, jn_eq, cl_some, Int.toNat_natCast, hh, hm, hp]
                exact rej _ _ rfl rfl
            · have acc2 : X1_begins c s = some (0, s) := by
                unfold X1_begins
                simp (disch := omega) only [cLt_t, cLt_f, cEq_t, cEq_f, rdR_ok, rd_ok, wr_ok, put_eq, jn_eq, cl_some, Int.toNat_natCast, h2]
              rw [acc2]
              simp (disch := omega) only [cLt_t, cLt_f, cEq_t, cEq_f, rdR_ok, rd_ok, wr_ok, put_eq, jn_eq, cl_some, Int.toNat_natCast, hh, hm, hp]
              exact rej _ _ rfl rfl
          · have hm : ∀ s, X9_isMark c s = some (0, s) := fun s => by
              rw [q_isMark ⟨by omega, by omega⟩, if_neg hc]
            have acc : X1_accepts c s = some (0, s) := by
              unfold X1_accepts
              rw [gR_ok (by omega) (by omega), if_neg c32, if_neg c40, if_neg c41, p_kindOf ⟨by omega, by omega⟩, if_neg hc]
              simp (disch := omega) only [cLt_t, cLt_f, cEq_t, cEq_f, rdR_ok, rd_ok, wr_ok, put_eq, jn_eq, cl_some, Int.toNat_natCast]
            rw [acc]
            simp (disch := omega) only [cLt_t, cLt_f, cEq_t, cEq_f, rdR_ok, rd_ok, wr_ok, put_eq, jn_eq, cl_some, Int.toNat_natCast, hh, hm, hp]
            exact rej _ _ rfl rfl
theorem read_sim {k len : Nat} (hk : k < 4) (hl : len ≤ 60) (T : Nat → Int) (hT : ∀ i, i < len → -128 ≤ T i ∧ T i ≤ 127) {s t : St} (hX : TxE s t k len T) : RdOut s t (X1_read (22 + 2 * k) s) (X9_reading k t) := by
  have hU := FU_gt
  unfold X1_read X9_reading
  simp only [put_eq]
  have hc : ScrC s (up (up (up (up s 47 0 0) 9 3 0) 9 4 0) 9 5 0) := (((ScrC.rfl.up (by omega)).up (by omega)).up (by omega)).up (by omega)
  have hm : ScrM t (up (up t 0 12 0) 0 13 0) := (ScrM.rfl.up (by omega)).up (by omega)
  have hR : RdC (up (up (up (up s 47 0 0) 9 3 0) 9 4 0) 9 5 0) (up (up t 0 12 0) 0 13 0) 0 0 0 0 (0, fun _ => 0, fun _ => 0) (fun _ => 0) := by
    refine ⟨⟨?_, ?_, ?_, ?_⟩, fun x hx => absurd hx (Nat.not_lt_zero x), fun e => by omega, fun k hk => by omega, ⟨by decide, fun x hx => absurd hx (Nat.not_lt_zero x), fun x y hx => absurd hx (Nat.not_lt_zero x)⟩, ⟨rfl, by omega, by omega⟩, fun e => by omega, fun _ => Or.inl rfl⟩
    all_goals simp (disch := omega) only [fil_o, up_o, fil_out, fil_in, up_i, up_eq]
    all_goals rfl
  exact (read_loop hk hl T hT len 0 (by omega) FU FU _ _ 0 0 0 0 0 _ _ (by omega) (by omega) (hX.of hk hc hm) (by simp (disch := omega) only [fil_o, up_o, fil_out, fil_in, up_i, up_eq]; rfl) (by simp (disch := omega) only [fil_o, up_o, fil_out, fil_in, up_i, up_eq]) hR (Or.inl ⟨rfl, rfl, rfl⟩)).of hc hm
