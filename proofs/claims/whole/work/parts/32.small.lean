section SMALL2
variable {RS : St → St → Prop}
/-- an element of a row changes on both sides -/
theorem inv_item (hc : CongS RS) {s t : St} (h : InvG RS s t) (r i : Nat) (v : Int) (hr : r < 6) (hi : (i : Int) < t 1 r) : InvG RS (up s (10 + 2 * r + 1) i v) (up t 2 (40 * r + i) v) := by
  obtain ⟨h1, h2, h3, h4⟩ := h
  have hb := h1 r hr
  refine ⟨fun q hq => ?_, fun k hk => ?_, ?_, ?_⟩
  · have := h1 q hq
    rw [up_o (by omega), up_o (by omega)]
    refine ⟨this.1, this.2.1, this.2.2.1, fun j hj => ?_⟩
    by_cases e : q = r ∧ j = i
    · obtain ⟨rfl, rfl⟩ := e
      rw [up_eq, up_eq]
    · rw [up_at, up_at, if_neg (by omega), if_neg (by omega)]
      exact this.2.2.2 j hj
  · have := h2 k hk
    simp (disch := omega) only [fil_o, up_o, fil_out, fil_in, up_i, up_eq]
    exact this
  · refine ⟨?_, ?_, fun f hf => ?_⟩
    · simp (disch := omega) only [fil_o, up_o, fil_out, fil_in, up_i, up_eq]; exact h3.1
    · simp (disch := omega) only [fil_o, up_o, fil_out, fil_in, up_i, up_eq]; exact h3.2.1
    · simp (disch := omega) only [fil_o, up_o, fil_out, fil_in, up_i, up_eq]; exact h3.2.2 f hf
  · exact hc s _ t _ (fun b hb => up_b (by omega)) (fun b hb => up_b (by omega)) (up_o (by decide)) h4
theorem q_placeOf {t : St} {r : Nat} {i : Int} (hr : r < 6) (hi : inR i) (h1 : -1 ≤ t 1 r) (h2 : t 1 r ≤ 40) : X9_placeOf (r : Int) i t = some (if t 1 r < 0 then 1 else if 0 ≤ i ∧ i < t 1 r then 0 else 2, t) := by
  unfold X9_placeOf
  simp (disch := omega) only [cLt_t, cLt_f, cEq_t, cEq_f, rdR_ok, rd_ok, wr_ok, put_eq, jn_eq, cl_some, Int.toNat_natCast]
  rw [cLt_if (by omega) (by omega) (by omega) (by omega), q_in _ _ _ hi ⟨by omega, by omega⟩ ⟨by omega, by omega⟩]
  simp (disch := omega) only [cLt_t, cLt_f, cEq_t, cEq_f, rdR_ok, rd_ok, wr_ok, put_eq, jn_eq, cl_some, Int.toNat_natCast]
  by_cases h : t 1 r < 0
  · rw [if_pos h, if_pos h]
  · rw [if_neg h, if_neg h]
    by_cases h0 : 0 ≤ i ∧ i < t 1 r
    · rw [if_pos h0, if_pos (by omega)]
      simp (disch := omega) only [cLt_t, cLt_f, cEq_t, cEq_f, rdR_ok, rd_ok, wr_ok, put_eq, jn_eq, cl_some, Int.toNat_natCast]
    · rw [if_neg h0, if_neg (by omega)]
      simp (disch := omega) only [cLt_t, cLt_f, cEq_t, cEq_f, rdR_ok, rd_ok, wr_ok, put_eq, jn_eq, cl_some, Int.toNat_natCast]
theorem sim_lay (hc : CongS RS) : ∀ s t : St, InvG RS s t → ∀ a1 : Int, inR a1 → ∀ a2 : Int, inR a2 → ∀ a3 : Int, inR a3 → Ok2 (InvG RS) (X8_lay a1 a2 a3 s) (X9_lay a1 a2 a3 t) := by
  intro s t hI a1 r1 a2 r2 a3 r3
  unfold X8_lay X9_lay
  rw [p_noRow a1 r1, q_isRow a1 r1]
  by_cases h : 0 ≤ a1 ∧ a1 < 6
  · rw [if_pos h, if_pos h]
    obtain ⟨r, rfl⟩ : ∃ r : Nat, a1 = r := ⟨a1.toNat, by omega⟩
    have hr := hI.1 r (by omega)
    simp (disch := omega) only [cLt_t, cLt_f, cEq_t, cEq_f, rdR_ok, rd_ok, wr_ok, put_eq, jn_eq, cl_some, Int.toNat_natCast]
    rw [q_placeOf (by omega) r2 hr.2.1 hr.2.2.1, hr.1]
    by_cases hn : t 1 r < 0
    · rw [if_pos hn]
      simp (disch := omega) only [cLt_t, cLt_f, cEq_t, cEq_f, rdR_ok, rd_ok, wr_ok, put_eq, jn_eq, cl_some, Int.toNat_natCast]
      exact (ok_found hc hI 1 (by decide)).cl
    · by_cases hi : 0 ≤ a2 ∧ a2 < t 1 r
      · rw [if_neg hn, if_pos hi]
        obtain ⟨i, rfl⟩ : ∃ i : Nat, a2 = i := ⟨a2.toNat, by omega⟩
        simp (disch := omega) only [cLt_t, cLt_f, cEq_t, cEq_f, rdR_ok, rd_ok, wr_ok, put_eq, jn_eq, cl_some, Int.toNat_natCast]
        rw [show (40 * (r : Int) + (i : Int)).toNat = 40 * r + i by omega, p_tell]
        have hv := hr.2.2.2 i (by omega)
        refine ⟨1, _, _, rfl, rfl, ?_⟩
        rw [hv]
        exact inv_tell hc (inv_item hc hI r i a3 (by omega) (by omega)) _
      · rw [if_neg hn, if_neg hi]
        by_cases h0 : a2 < 0
        · simp (disch := omega) only [cLt_t, cLt_f, cEq_t, cEq_f, rdR_ok, rd_ok, wr_ok, put_eq, jn_eq, cl_some, Int.toNat_natCast]
          exact (ok_found hc hI 2 (by decide)).cl
        · simp (disch := omega) only [cLt_t, cLt_f, cEq_t, cEq_f, rdR_ok, rd_ok, wr_ok, put_eq, jn_eq, cl_some, Int.toNat_natCast]
          exact (ok_found hc hI 2 (by decide)).cl
  · rw [if_neg h, if_neg h]
    simp (disch := omega) only [cLt_t, cLt_f, cEq_t, cEq_f, rdR_ok, rd_ok, wr_ok, put_eq, jn_eq, cl_some, Int.toNat_natCast]
    exact ok_same _ hI
theorem sim_at (hc : CongS RS) : ∀ s t : St, InvG RS s t → ∀ a1 : Int, inR a1 → ∀ a2 : Int, inR a2 → Ok2 (InvG RS) (X8_at a1 a2 s) (X9_at a1 a2 t) := by
  intro s t hI a1 r1 a2 r2
  unfold X8_at X9_at
  rw [p_noRow a1 r1, q_isRow a1 r1]
  by_cases h : 0 ≤ a1 ∧ a1 < 6
  · rw [if_pos h, if_pos h]
    obtain ⟨r, rfl⟩ : ∃ r : Nat, a1 = r := ⟨a1.toNat, by omega⟩
    have hr := hI.1 r (by omega)
    simp (disch := omega) only [cLt_t, cLt_f, cEq_t, cEq_f, rdR_ok, rd_ok, wr_ok, put_eq, jn_eq, cl_some, Int.toNat_natCast]
    rw [q_placeOf (by omega) r2 hr.2.1 hr.2.2.1, hr.1]
    by_cases hn : t 1 r < 0
    · rw [if_pos hn]
      simp (disch := omega) only [cLt_t, cLt_f, cEq_t, cEq_f, rdR_ok, rd_ok, wr_ok, put_eq, jn_eq, cl_some, Int.toNat_natCast]
      exact (ok_found hc hI 1 (by decide)).cl
    · by_cases hi : 0 ≤ a2 ∧ a2 < t 1 r
      · rw [if_neg hn, if_pos hi]
        obtain ⟨i, rfl⟩ : ∃ i : Nat, a2 = i := ⟨a2.toNat, by omega⟩
        simp (disch := omega) only [cLt_t, cLt_f, cEq_t, cEq_f, rdR_ok, rd_ok, wr_ok, put_eq, jn_eq, cl_some, Int.toNat_natCast]
        rw [show (40 * (r : Int) + (i : Int)).toNat = 40 * r + i by omega, p_tell]
        have hv := hr.2.2.2 i (by omega)
        refine ⟨1, _, _, rfl, rfl, ?_⟩
        rw [hv]
        exact inv_tell hc hI _
      · rw [if_neg hn, if_neg hi]
        by_cases h0 : a2 < 0
        · simp (disch := omega) only [cLt_t, cLt_f, cEq_t, cEq_f, rdR_ok, rd_ok, wr_ok, put_eq, jn_eq, cl_some, Int.toNat_natCast]
          exact (ok_found hc hI 2 (by decide)).cl
        · simp (disch := omega) only [cLt_t, cLt_f, cEq_t, cEq_f, rdR_ok, rd_ok, wr_ok, put_eq, jn_eq, cl_some, Int.toNat_natCast]
          exact (ok_found hc hI 2 (by decide)).cl
  · rw [if_neg h, if_neg h]
    simp (disch := omega) only [cLt_t, cLt_f, cEq_t, cEq_f, rdR_ok, rd_ok, wr_ok, put_eq, jn_eq, cl_some, Int.toNat_natCast]
    exact ok_same _ hI
/-- a row's length changes on both sides, to -1 -/
theorem sim_tear (hc : CongS RS) : ∀ s t : St, InvG RS s t → ∀ a1 : Int, inR a1 → Ok2 (InvG RS) (X8_tear a1 s) (X9_tear a1 t) := by
  intro s t hI a1 r1
  unfold X8_tear X9_tear
  rw [p_noRow a1 r1, q_isRow a1 r1]
  by_cases h : 0 ≤ a1 ∧ a1 < 6
  · rw [if_pos h, if_pos h]
    obtain ⟨r, rfl⟩ : ∃ r : Nat, a1 = r := ⟨a1.toNat, by omega⟩
    have hr := hI.1 r (by omega)
    simp (disch := omega) only [cLt_t, cLt_f, cEq_t, cEq_f, rdR_ok, rd_ok, wr_ok, put_eq, jn_eq, cl_some, Int.toNat_natCast]
    rw [hr.1]
    by_cases hn : t 1 r < 0
    · simp (disch := omega) only [cLt_t, cLt_f, cEq_t, cEq_f, rdR_ok, rd_ok, wr_ok, put_eq, jn_eq, cl_some, Int.toNat_natCast]
      exact (ok_found hc hI 1 (by decide)).cl
    · simp (disch := omega) only [cLt_t, cLt_f, cEq_t, cEq_f, rdR_ok, rd_ok, wr_ok, put_eq, jn_eq, cl_some, Int.toNat_natCast]
      refine ⟨1, _, _, rfl, rfl, ?_⟩
      obtain ⟨h1, h2, h3, h4⟩ := hI
      refine ⟨fun q hq => ?_, fun k hk => ?_, ?_, ?_⟩
      · by_cases e : q = r
        · subst e
          rw [up_eq, up_eq]
          exact ⟨rfl, by omega, by omega, fun i hi => by omega⟩
        · have := h1 q hq
          rw [up_o (by omega), up_i (by omega)]
          refine ⟨this.1, this.2.1, this.2.2.1, fun i hi => ?_⟩
          simp (disch := omega) only [fil_o, up_o, fil_out, fil_in, up_i, up_eq]
          exact this.2.2.2 i hi
      · have := h2 k hk
        simp (disch := omega) only [fil_o, up_o, fil_out, fil_in, up_i, up_eq]
        exact this
      · refine ⟨?_, ?_, fun f hf => ?_⟩
        · simp (disch := omega) only [fil_o, up_o, fil_out, fil_in, up_i, up_eq]; exact h3.1
        · simp (disch := omega) only [fil_o, up_o, fil_out, fil_in, up_i, up_eq]; exact h3.2.1
        · simp (disch := omega) only [fil_o, up_o, fil_out, fil_in, up_i, up_eq]; exact h3.2.2 f hf
      · exact hc s _ t _ (fun b hb => up_b (by omega)) (fun b hb => up_b (by omega)) (up_o (by decide)) h4
  · rw [if_neg h, if_neg h]
    simp (disch := omega) only [cLt_t, cLt_f, cEq_t, cEq_f, rdR_ok, rd_ok, wr_ok, put_eq, jn_eq, cl_some, Int.toNat_natCast]
    exact ok_same _ hI
theorem sim_asked : ∀ s t : St, InvG RS s t → Ok2 (InvG RS) (X8_asked s) (X9_asked t) := fun s t hI => ⟨s 0 10, s, t, rfl, by rw [hI.2.2.1.2.1]; rfl, hI⟩
theorem sim_finding : ∀ s t : St, InvG RS s t → Ok2 (InvG RS) (X8_finding s) (X9_finding t) := fun s t hI => ⟨s 0 9, s, t, rfl, by rw [hI.2.2.1.1]; rfl, hI⟩
theorem sim_findings : ∀ s t : St, InvG RS s t → ∀ a1 : Int, inR a1 → Ok2 (InvG RS) (X8_findings a1 s) (X9_findings a1 t) := by
  intro s t hI a1 r1
  unfold X8_findings X9_findings
  rw [q_in _ _ _ r1 ⟨by omega, by omega⟩ ⟨by omega, by omega⟩]
  by_cases h : 1 ≤ a1 ∧ a1 ≤ 5
  · rw [if_pos h]
    obtain ⟨r, rfl⟩ : ∃ r : Nat, a1 = r := ⟨a1.toNat, by omega⟩
    simp (disch := omega) only [cLt_t, cLt_f, cEq_t, cEq_f, rdR_ok, rd_ok, wr_ok, put_eq, jn_eq, cl_some, Int.toNat_natCast]
    rw [hI.2.2.1.2.2 r (by omega)]
    exact ok_same _ hI
  · rw [if_neg h]
    by_cases h1 : a1 < 1
    · simp (disch := omega) only [cLt_t, cLt_f, cEq_t, cEq_f, rdR_ok, rd_ok, wr_ok, put_eq, jn_eq, cl_some, Int.toNat_natCast]
      exact ok_same _ hI
    · simp (disch := omega) only [cLt_t, cLt_f, cEq_t, cEq_f, rdR_ok, rd_ok, wr_ok, put_eq, jn_eq, cl_some, Int.toNat_natCast]
      exact ok_same _ hI
end SMALL2
