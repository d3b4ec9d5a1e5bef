section NODE
variable {Sol : St → Vec → Prop}
abbrev InvS (Sol : St → Vec → Prop) : St → St → Prop := InvG (RSg Sol)
theorem p_insertion {s : St} {v : Vec} (hC : CSt s v) {c : Int} (h : lab c) : X3_insertion c s = some (v.2.2 0 * wgt c, s) := by
  unfold X3_insertion
  have := hC.2.2 0 (by omega)
  simp (disch := omega) only [cLt_t, cLt_f, cEq_t, cEq_f, rdR_ok, rd_ok, wr_ok, put_eq, jn_eq, cl_some, Int.toNat_natCast, p_weightOf h]
  rw [show s 7 (0 : Int).toNat = v.2.2 0 from this]
theorem p_deletion {s : St} {v : Vec} (hC : CSt s v) {c : Int} (h : lab c) : X3_deletion c s = some (v.2.2 1 * wgt c, s) := by
  unfold X3_deletion
  have := hC.2.2 1 (by omega)
  simp (disch := omega) only [cLt_t, cLt_f, cEq_t, cEq_f, rdR_ok, rd_ok, wr_ok, put_eq, jn_eq, cl_some, Int.toNat_natCast, p_weightOf h]
  rw [show s 7 (1 : Int).toNat = v.2.2 1 from this]
def propOf (v : Vec) (d : Doc) (x : Nat) (w : Int) : Int := if w = 0 then d.c x else if w = 1 then kdOf (d.c x) else if w = 2 then d.l x else if w = 3 then chn d x else if w = 4 then par d x else if w = 5 then keyOf d 0 x else if w = 6 then keyOf d 1 x else if w = 7 then v.2.2 0 * wgt (d.c x) else v.2.2 1 * wgt (d.c x)
theorem p_property {s : St} {v : Vec} (hv : VecOK v) (hC : CSt s v) {k x : Nat} (hk : k < 2) (hx : x < (v.doc k).n) {w : Int} (h0 : 0 ≤ w) (h8 : w ≤ 8) : X8_property (38 + 3 * k) (x : Int) w s = some (propOf v (v.doc k) x w, s) := by
  unfold X8_property propOf
  have hW := doc_ok hv k
  have hF := hW.1
  have hn := hF.1
  have hT := doc_C hC hk
  have hc := (hF.2.1 x hx).1
  have e := (hT.2 x hx).1
  rw [gR_ok (by omega) (by omega)]
  repeat' split
  all_goals simp (disch := omega) only [cLt_t, cLt_f, cEq_t, cEq_f, rdR_ok, rd_ok, wr_ok, put_eq, jn_eq, cl_some, Int.toNat_natCast, e, p_kindL hc, p_leftmost hT hn hx, p_children hT hF hx, p_parent hT hF hx, p_isKey hT hF hx (Or.inl rfl), p_isKey hT hF hx (Or.inr rfl), p_insertion hC hc, p_deletion hC hc]
  · rcases keyOf_r (v.doc k) 0 x with q | q <;> rw [q] <;> simp (disch := omega) only [cLt_t, cLt_f, cEq_t, cEq_f, rdR_ok, rd_ok, wr_ok, put_eq, jn_eq, cl_some, Int.toNat_natCast]
  · rcases keyOf_r (v.doc k) 1 x with q | q <;> rw [q] <;> simp (disch := omega) only [cLt_t, cLt_f, cEq_t, cEq_f, rdR_ok, rd_ok, wr_ok, put_eq, jn_eq, cl_some, Int.toNat_natCast]
theorem sim_node (hS : CongSol Sol) : ∀ s t : St, InvS Sol s t → ∀ a1 : Int, inR a1 → ∀ a2 : Int, inR a2 → ∀ a3 : Int, inR a3 → Ok2 (InvS Sol) (X8_node a1 a2 a3 s) (X9_node a1 a2 a3 t) := by
  intro s t hI a1 r1 a2 r2 a3 r3
  obtain ⟨v, n, lg, hv, hC, hM, _⟩ := hI.2.2.2
  unfold X8_node X9_node
  rw [p_noNode hv hC r1 r2, q_isNode hv hM r1 r2]
  by_cases h : (0 ≤ a1 ∧ a1 < 2) ∧ 0 ≤ a2 ∧ a2 < (v.doc a1.toNat).n
  · rw [if_pos h, if_pos h]
    obtain ⟨k, rfl⟩ : ∃ r : Nat, a1 = r := ⟨a1.toNat, by omega⟩
    obtain ⟨x, rfl⟩ : ∃ r : Nat, a2 = r := ⟨a2.toNat, by omega⟩
    rw [Int.toNat_natCast] at h
    have hk : k < 2 := by omega
    have hx : x < (v.doc k).n := by omega
    have hF := (doc_ok hv k).1
    have hn := hF.1
    have hD := doc_M hM hk
    have hc := (hF.2.1 x hx).1
    simp (disch := omega) only [cLt_t, cLt_f, cEq_t, cEq_f, rdR_ok, rd_ok, wr_ok, put_eq, jn_eq, cl_some, Int.toNat_natCast]
    rw [q_in _ _ _ r3 ⟨by omega, by omega⟩ ⟨by omega, by omega⟩]
    by_cases g : 0 ≤ a3 ∧ a3 ≤ 8
    · rw [if_pos g]
      simp (disch := omega) only [cLt_t, cLt_f, cEq_t, cEq_f, rdR_ok, rd_ok, wr_ok, put_eq, jn_eq, cl_some, Int.toNat_natCast, p_tree hk s, gK_tree hk, p_property hv hC hk hx g.1 g.2, p_tell]
      refine ⟨1, _, up t 0 9 (propOf v (v.doc k) x a3), rfl, ?_, inv_tell (congS_RSg hS) hI _⟩
      rw [gR_ok (by omega) (by omega)]
      unfold propOf
      split
      · simp (disch := omega) only [cLt_t, cLt_f, cEq_t, cEq_f, rdR_ok, rd_ok, wr_ok, put_eq, jn_eq, cl_some, Int.toNat_natCast, q_codeOf hk hD hn hx]; rfl
      split
      · simp (disch := omega) only [cLt_t, cLt_f, cEq_t, cEq_f, rdR_ok, rd_ok, wr_ok, put_eq, jn_eq, cl_some, Int.toNat_natCast, q_codeOf hk hD hn hx, q_kindOf hc]; rfl
      split
      · simp (disch := omega) only [cLt_t, cLt_f, cEq_t, cEq_f, rdR_ok, rd_ok, wr_ok, put_eq, jn_eq, cl_some, Int.toNat_natCast, q_leftOf hk hD hn hx]; rfl
      split
      · simp (disch := omega) only [cLt_t, cLt_f, cEq_t, cEq_f, rdR_ok, rd_ok, wr_ok, put_eq, jn_eq, cl_some, Int.toNat_natCast, q_rightB hk hD hF hx]; rfl
      split
      · simp (disch := omega) only [cLt_t, cLt_f, cEq_t, cEq_f, rdR_ok, rd_ok, wr_ok, put_eq, jn_eq, cl_some, Int.toNat_natCast, q_above hk hD hF hx]; rfl
      split
      · rename_i e
        subst e
        rw [q_isKey hk hD hF hx (Or.inl (by decide)), show (5 : Int) - 5 = 0 by decide]
        rcases keyOf_r (v.doc k) 0 x with q | q <;> rw [q] <;> simp (disch := omega) only [cLt_t, cLt_f, cEq_t, cEq_f, rdR_ok, rd_ok, wr_ok, put_eq, jn_eq, cl_some, Int.toNat_natCast] <;> rfl
      split
      · rename_i e
        subst e
        rw [q_isKey hk hD hF hx (Or.inr (by decide)), show (6 : Int) - 5 = 1 by decide]
        rcases keyOf_r (v.doc k) 1 x with q | q <;> rw [q] <;> simp (disch := omega) only [cLt_t, cLt_f, cEq_t, cEq_f, rdR_ok, rd_ok, wr_ok, put_eq, jn_eq, cl_some, Int.toNat_natCast] <;> rfl
      split
      · rename_i e
        subst e
        simp (disch := omega) only [cLt_t, cLt_f, cEq_t, cEq_f, rdR_ok, rd_ok, wr_ok, put_eq, jn_eq, cl_some, Int.toNat_natCast, q_codeOf hk hD hn hx, q_weight hc]
        rw [show t 5 (50 + (7 : Int) - 7).toNat = v.2.2 0 from hM.2.2 0 (by omega)]
        rfl
      · have e : a3 = 8 := by omega
        subst e
        simp (disch := omega) only [cLt_t, cLt_f, cEq_t, cEq_f, rdR_ok, rd_ok, wr_ok, put_eq, jn_eq, cl_some, Int.toNat_natCast, q_codeOf hk hD hn hx, q_weight hc]
        rw [show t 5 (50 + (8 : Int) - 7).toNat = v.2.2 1 from hM.2.2 1 (by omega)]
        rfl
    · rw [if_neg g]
      by_cases g0 : a3 < 0
      · simp (disch := omega) only [cLt_t, cLt_f, cEq_t, cEq_f, rdR_ok, rd_ok, wr_ok, put_eq, jn_eq, cl_some, Int.toNat_natCast]
        exact ok_same _ hI
      · simp (disch := omega) only [cLt_t, cLt_f, cEq_t, cEq_f, rdR_ok, rd_ok, wr_ok, put_eq, jn_eq, cl_some, Int.toNat_natCast]
        exact ok_same _ hI
  · rw [if_neg h, if_neg h]
    simp (disch := omega) only [cLt_t, cLt_f, cEq_t, cEq_f, rdR_ok, rd_ok, wr_ok, put_eq, jn_eq, cl_some, Int.toNat_natCast]
    exact ok_same _ hI
end NODE
