section MARK
variable {Sol : St → Vec → Prop}
theorem sim_mark (hS : CongSol Sol) : ∀ s t : St, InvS Sol s t → ∀ a1 : Int, inR a1 → ∀ a2 : Int, inR a2 → ∀ a3 : Int, inR a3 → Ok2 (InvS Sol) (X8_mark a1 a2 a3 s) (X9_mark a1 a2 a3 t) := by
  intro s t hI a1 r1 a2 r2 a3 r3
  obtain ⟨v, n, lg, hv, hC, hM, _⟩ := hI.2.2.2
  unfold X8_mark X9_mark
  rw [p_noNode hv hC r1 r2, q_isNode hv hM r1 r2]
  by_cases h : (0 ≤ a1 ∧ a1 < 2) ∧ 0 ≤ a2 ∧ a2 < (v.doc a1.toNat).n
  · rw [if_pos h, if_pos h]
    obtain ⟨k, rfl⟩ : ∃ r : Nat, a1 = r := ⟨a1.toNat, by omega⟩
    obtain ⟨x, rfl⟩ : ∃ r : Nat, a2 = r := ⟨a2.toNat, by omega⟩
    rw [Int.toNat_natCast] at h
    have hk : k < 2 := by omega
    have hx : x < (v.doc k).n := by omega
    have hF := (doc_ok hv k).1
    have hn := hF.1
    have hD := doc_M hM hk
    have hT := doc_C hC hk
    have hc := (hF.2.1 x hx).1
    have hkd := kdOf_r ((v.doc k).c x)
    simp (disch := omega) only [cLt_t, cLt_f, cEq_t, cEq_f, rdR_ok, rd_ok, wr_ok, put_eq, jn_eq, cl_some, Int.toNat_natCast]
    rw [q_in _ _ _ r3 ⟨by omega, by omega⟩ ⟨by omega, by omega⟩]
    by_cases g : 1 ≤ a3 ∧ a3 ≤ 4
    · rw [if_pos g]
      have e := (hT.2 x hx).1
      simp (disch := omega) only [cLt_t, cLt_f, cEq_t, cEq_f, rdR_ok, rd_ok, wr_ok, put_eq, jn_eq, cl_some, Int.toNat_natCast, p_tree hk s, gK_tree hk, e, p_kindL hc, p_isOf hkd.1 hkd.2 (show 0 ≤ a3 by omega) (show a3 ≤ 4 by omega), q_codeOf hk hD hn hx, q_kindOf hc, q_isA hkd.1 hkd.2 (show 0 ≤ a3 by omega) (show a3 ≤ 4 by omega)]
      rcases isOf_r (kdOf ((v.doc k).c x)) a3 with q | q
      · rw [q]
        simp (disch := omega) only [cLt_t, cLt_f, cEq_t, cEq_f, rdR_ok, rd_ok, wr_ok, put_eq, jn_eq, cl_some, Int.toNat_natCast]
        exact (ok_found (congS_RSg hS) hI 3 (by decide)).cl
      · rw [q]
        simp (disch := omega) only [cLt_t, cLt_f, cEq_t, cEq_f, rdR_ok, rd_ok, wr_ok, put_eq, jn_eq, cl_some, Int.toNat_natCast]
        rw [gR_ok (by omega) (by omega), gR_ok (by omega) (by omega)]
        have hk' : 1 - k < 2 := by omega
        have hF' := (doc_ok hv (1 - k)).1
        have hD' := doc_M hM hk'
        have hT' := doc_C hC hk'
        have e1 : (1 : Int) - (k : Int) = ((1 - k : Nat) : Int) := by omega
        split
        · simp (disch := omega) only [cLt_t, cLt_f, cEq_t, cEq_f, rdR_ok, rd_ok, wr_ok, put_eq, jn_eq, cl_some, Int.toNat_natCast, p_heads hT hF hx, q_heads hk hD hF hx]
          exact ⟨1, _, _, rfl, rfl, inv_tell (congS_RSg hS) hI _⟩
        split
        · simp (disch := omega) only [cLt_t, cLt_f, cEq_t, cEq_f, rdR_ok, rd_ok, wr_ok, put_eq, jn_eq, cl_some, Int.toNat_natCast, e1, p_tree hk' s, gK_tree hk', e, p_alike hT' hF' hc, q_alike hk' hD' hF' hc]
          exact ⟨1, _, _, rfl, rfl, inv_tell (congS_RSg hS) hI _⟩
        split
        · simp (disch := omega) only [cLt_t, cLt_f, cEq_t, cEq_f, rdR_ok, rd_ok, wr_ok, put_eq, jn_eq, cl_some, Int.toNat_natCast, p_anc hT hF hx, q_deep hk hD hF hx]
          exact ⟨1, _, _, rfl, rfl, inv_tell (congS_RSg hS) hI _⟩
        · simp (disch := omega) only [cLt_t, cLt_f, cEq_t, cEq_f, rdR_ok, rd_ok, wr_ok, put_eq, jn_eq, cl_some, Int.toNat_natCast, q_many hk hD, hT.1]
          exact ⟨1, _, _, rfl, rfl, inv_tell (congS_RSg hS) hI _⟩
    · rw [if_neg g]
      by_cases g0 : a3 < 1
      · simp (disch := omega) only [cLt_t, cLt_f, cEq_t, cEq_f, rdR_ok, rd_ok, wr_ok, put_eq, jn_eq, cl_some, Int.toNat_natCast]
        exact ok_same _ hI
      · simp (disch := omega) only [cLt_t, cLt_f, cEq_t, cEq_f, rdR_ok, rd_ok, wr_ok, put_eq, jn_eq, cl_some, Int.toNat_natCast]
        exact ok_same _ hI
  · rw [if_neg h, if_neg h]
    simp (disch := omega) only [cLt_t, cLt_f, cEq_t, cEq_f, rdR_ok, rd_ok, wr_ok, put_eq, jn_eq, cl_some, Int.toNat_natCast]
    exact ok_same _ hI
theorem p_isWhole {s : St} {v : Vec} (hv : VecOK v) (hC : CSt s v) : X3_isWhole s = some (if 0 < v.1.n ∧ 0 < v.2.1.n then 1 else 0, s) := by
  unfold X3_isWhole
  have h1 := hv.1.1.1
  have h2 := hv.2.1.1.1
  rw [hC.1.1, hC.2.1.1]
  simp (disch := omega) only [cLt_if]
  repeat' split
  all_goals first | rfl | omega
theorem q_areBoth {t : St} {v : Vec} (hv : VecOK v) (hM : MSt (t 5) v) : X9_areBoth t = some (if 0 < v.1.n ∧ 0 < v.2.1.n then 1 else 0, t) := by
  unfold X9_areBoth
  have h1 := hv.1.1.1
  have h2 := hv.2.1.1.1
  have e0 : X9_many 0 t = some ((v.1.n : Int), t) := q_many (k := 0) (by omega) (doc_M hM (k := 0) (by omega))
  have e1 : X9_many 1 t = some ((v.2.1.n : Int), t) := q_many (k := 1) (by omega) (doc_M hM (k := 1) (by omega))
  simp (disch := omega) only [cLt_if, e0, e1, cl_some]
  repeat' split
  all_goals first | rfl | omega
theorem sim_work (hS : CongSol Sol) : ∀ s t : St, InvS Sol s t → ∀ a1 : Int, inR a1 → Ok2 (InvS Sol) (X8_work a1 s) (X9_work a1 t) := by
  intro s t hI a1 r1
  obtain ⟨v, n, lg, hv, hC, hM, _⟩ := hI.2.2.2
  unfold X8_work X9_work
  rw [q_in _ _ _ r1 ⟨by omega, by omega⟩ ⟨by omega, by omega⟩, p_isWhole hv hC]
  have h1 := hv.1.1
  have h2 := hv.2.1.1
  by_cases h : 0 ≤ a1 ∧ a1 ≤ 1
  · rw [if_pos h]
    simp (disch := omega) only [cLt_t, cLt_f, cEq_t, cEq_f, rdR_ok, rd_ok, wr_ok, put_eq, jn_eq, cl_some, Int.toNat_natCast]
    rw [q_areBoth hv hM]
    by_cases g : 0 < v.1.n ∧ 0 < v.2.1.n
    · rw [if_pos g]
      have hs : a1 = 0 ∨ a1 = 1 := by omega
      have T1 : TreeAt (up s 0 10 (keysN v.1 a1 * keysN v.2.1 a1)) 38 v.1 := hC.1.congr (fun b hb => up_b (by omega))
      have T2 : TreeAt (up s 0 10 (keysN v.1 a1 * keysN v.2.1 a1)) 41 v.2.1 := hC.2.1.congr (fun b hb => up_b (by omega))
      have D0 : DocAt (t 5) (25 * 0) v.1 := hM.1
      have D1 : DocAt (t 5) (25 * 1) v.2.1 := hM.2.1
      have e0 := q_keys (k := 0) (by omega) D0 h1 hs
      have e1 := q_keys (k := 1) (by omega) D1 h2 hs
      have e2 := q_keyZ (k := 0) (by omega) D0 h1 hs
      have e3 := q_keyZ (k := 1) (by omega) D1 h2 hs
      rw [show ((0 : Nat) : Int) = 0 from rfl] at e0 e2
      rw [show ((1 : Nat) : Int) = 1 from rfl] at e1 e3
      simp (disch := omega) only [cLt_t, cLt_f, cEq_t, cEq_f, rdR_ok, rd_ok, wr_ok, put_eq, jn_eq, cl_some, Int.toNat_natCast, p_keys hC.1 h1 hs, p_keys hC.2.1 h2 hs, p_keyZ T1 h1 hs, p_keyZ T2 h2 hs, e0, e1, e2, e3]
      exact ⟨_, _, _, rfl, rfl, inv_tell (congS_RSg hS) hI _⟩
    · rw [if_neg g]
      simp (disch := omega) only [cLt_t, cLt_f, cEq_t, cEq_f, rdR_ok, rd_ok, wr_ok, put_eq, jn_eq, cl_some, Int.toNat_natCast]
      exact ok_same _ hI
  · rw [if_neg h]
    by_cases g0 : a1 < 0
    · simp (disch := omega) only [cLt_t, cLt_f, cEq_t, cEq_f, rdR_ok, rd_ok, wr_ok, put_eq, jn_eq, cl_some, Int.toNat_natCast]
      exact ok_same _ hI
    · simp (disch := omega) only [cLt_t, cLt_f, cEq_t, cEq_f, rdR_ok, rd_ok, wr_ok, put_eq, jn_eq, cl_some, Int.toNat_natCast]
      exact ok_same _ hI
end MARK
