/-! the rest of the state: both documents and the prices, recorded changes, saved states; Sol stands for what the ways hold when they are not stale -/
abbrev Vec : Type := Doc × Doc × (Nat → Int)
def VecOK (v : Vec) : Prop := WF v.1 ∧ WF v.2.1 ∧ ∀ k, k < 3 → 1 ≤ v.2.2 k ∧ v.2.2 k ≤ 9
def CSt (s : St) (v : Vec) : Prop := TreeAt s 38 v.1 ∧ TreeAt s 41 v.2.1 ∧ ∀ k, k < 3 → s 7 k = v.2.2 k
def MSt (A : Nat → Int) (v : Vec) : Prop := DocAt A 0 v.1 ∧ DocAt A 25 v.2.1 ∧ ∀ k, k < 3 → A (50 + k) = v.2.2 k
def PkT (B : Nat → Int) (p : Nat) (d : Doc) : Prop := B p = d.n ∧ ∀ x, x < d.n → B (p + 1 + x) = 16 * d.c x + ((x : Int) - (d.l x : Int) + 1)
def PkV (B : Nat → Int) (v : Vec) : Prop := (∀ k, k < 3 → B k = v.2.2 k) ∧ PkT B 3 v.1 ∧ PkT B 16 v.2.1
def LgR (s t : St) (n : Nat) (lg : Nat → Vec) : Prop := n ≤ 40 ∧ s 30 0 = n ∧ t 0 6 = n ∧ ∀ i, i < n → VecOK (lg i) ∧ PkV (fun j => s 31 (29 * i + j)) (lg i) ∧ MSt (fun j => t 6 (53 * i + j)) (lg i)
def PlR (s t : St) (k : Nat) : Prop := (t 8 k = 0 ∧ s (32 + 2 * k) 0 = -1) ∨ (t 8 k = 1 ∧ ∃ (n : Nat) (lg : Nat → Vec) (v : Vec), n ≤ 40 ∧ s (32 + 2 * k) 0 = n ∧ t 7 (2174 * k) = n ∧ (∀ i, i < n → VecOK (lg i) ∧ PkV (fun j => s (32 + 2 * k + 1) (29 * i + j)) (lg i) ∧ MSt (fun j => t 7 (2174 * k + 54 + (53 * i + j))) (lg i)) ∧ VecOK v ∧ PkV (fun j => s (32 + 2 * k + 1) (29 * n + j)) v ∧ MSt (fun j => t 7 (2174 * k + 1 + j)) v)
def RSg (Sol : St → Vec → Prop) (s t : St) : Prop := ∃ (v : Vec) (n : Nat) (lg : Nat → Vec), VecOK v ∧ CSt s v ∧ MSt (t 5) v ∧ LgR s t n lg ∧ (∀ k, k < 3 → PlR s t k) ∧ (s 5 1 = 1 ∨ (s 5 1 = 0 ∧ Sol s v))
def CongSol (Sol : St → Vec → Prop) : Prop := ∀ (s s' : St) (v : Vec), (∀ b, (5 ≤ b ∧ b < 10) ∨ 38 ≤ b → s' b = s b) → Sol s v → Sol s' v
theorem TreeAt.congr {s s' : St} {a : Nat} {d : Doc} (h : TreeAt s a d) (e : ∀ b, a ≤ b ∧ b ≤ a + 2 → s' b = s b) : TreeAt s' a d := by
  unfold TreeAt
  rw [e a (by omega), e (a + 1) (by omega), e (a + 2) (by omega)]
  exact h
theorem CSt.congr {s s' : St} {v : Vec} (h : CSt s v) (e : ∀ b, b = 7 ∨ (38 ≤ b ∧ b ≤ 43) → s' b = s b) : CSt s' v :=
  ⟨h.1.congr (fun b hb => e b (by omega)), h.2.1.congr (fun b hb => e b (by omega)), fun k hk => by rw [e 7 (by omega)]; exact h.2.2 k hk⟩
theorem LgR.congr {s s' t t' : St} {n : Nat} {lg : Nat → Vec} (h : LgR s t n lg) (e0 : s' 30 = s 30) (e1 : s' 31 = s 31) (e2 : t' 6 = t 6) (e3 : t' 0 6 = t 0 6) : LgR s' t' n lg := by
  unfold LgR
  rw [e0, e1, e2, e3]
  exact h
theorem PlR.congr {s s' t t' : St} {k : Nat} (h : PlR s t k) (e0 : s' (32 + 2 * k) = s (32 + 2 * k)) (e1 : s' (32 + 2 * k + 1) = s (32 + 2 * k + 1)) (e2 : t' 7 = t 7) (e3 : t' 8 = t 8) : PlR s' t' k := by
  unfold PlR
  rw [e0, e1, e2, e3]
  exact h
theorem congS_RSg {Sol : St → Vec → Prop} (hS : CongSol Sol) : CongS (RSg Sol) := by
  intro s s' t t' h1 h2 h3 h
  obtain ⟨v, n, lg, a1, a2, a3, a4, a5, a6⟩ := h
  refine ⟨v, n, lg, a1, a2.congr (fun b hb => h1 b (by omega)), by rw [h2 5 (by omega)]; exact a3, a4.congr (h1 30 (by omega)) (h1 31 (by omega)) (h2 6 (by omega)) h3, fun k hk => (a5 k hk).congr (h1 _ (by omega)) (h1 _ (by omega)) (h2 7 (by omega)) (h2 8 (by omega)), ?_⟩
  rw [h1 5 (by omega)]
  rcases a6 with e | ⟨e, e2⟩
  · exact Or.inl e
  · exact Or.inr ⟨e, hS s s' v (fun b hb => h1 b (by omega)) e2⟩
/-- document k -/
def Vec.doc (v : Vec) (k : Nat) : Doc := if k = 0 then v.1 else v.2.1
theorem doc_ok {v : Vec} (h : VecOK v) (k : Nat) : WF (v.doc k) := by
  unfold Vec.doc
  split
  · exact h.1
  · exact h.2.1
theorem doc_C {s : St} {v : Vec} (h : CSt s v) {k : Nat} (hk : k < 2) : TreeAt s (38 + 3 * k) (v.doc k) := by
  rcases (show k = 0 ∨ k = 1 by omega) with rfl | rfl
  · exact h.1
  · exact h.2.1
theorem doc_M {A : Nat → Int} {v : Vec} (h : MSt A v) {k : Nat} (hk : k < 2) : DocAt A (25 * k) (v.doc k) := by
  rcases (show k = 0 ∨ k = 1 by omega) with rfl | rfl
  · exact h.1
  · exact h.2.1
theorem p_tree {k : Nat} (hk : k < 2) (s : St) : X3_tree (k : Int) s = some (((38 + 3 * k : Nat) : Int), s) := by
  rcases (show k = 0 ∨ k = 1 by omega) with rfl | rfl
  · unfold X3_tree
    simp (disch := omega) only [cLt_t, cLt_f, cEq_t, cEq_f, rdR_ok, rd_ok, wr_ok, put_eq, jn_eq, cl_some, Int.toNat_natCast]
  · unfold X3_tree
    simp (disch := omega) only [cLt_t, cLt_f, cEq_t, cEq_f, rdR_ok, rd_ok, wr_ok, put_eq, jn_eq, cl_some, Int.toNat_natCast]
theorem gK_tree {k : Nat} (hk : k < 2) {e : Rs} : gK LC (38 + 3 * k) 16 e = e := by
  rcases (show k = 0 ∨ k = 1 by omega) with rfl | rfl
  · exact if_pos (by decide +kernel)
  · exact if_pos (by decide +kernel)
theorem p_noDoc {i : Int} (h : inR i) (s : St) : X8_noDocument i s = some (if 0 ≤ i ∧ i < 2 then 0 else 1, s) := by
  unfold X8_noDocument
  simp (disch := omega) only [cLt_if]
  repeat' split
  all_goals first | rfl | omega
theorem q_isDoc {i : Int} (h : inR i) (s : St) : X9_isDocument i s = some (if 0 ≤ i ∧ i < 2 then 1 else 0, s) := by
  unfold X9_isDocument
  rw [q_in _ _ _ h ⟨by omega, by omega⟩ ⟨by omega, by omega⟩]
  simp only [cl_some]
  repeat' split
  all_goals first | rfl | omega
/-- whether i is a node of document d -/
theorem p_noNode {s : St} {v : Vec} (hv : VecOK v) (hC : CSt s v) {i x : Int} (hi : inR i) (hx : inR x) : X8_noNode i x s = some (if (0 ≤ i ∧ i < 2) ∧ 0 ≤ x ∧ x < (v.doc i.toNat).n then 0 else 1, s) := by
  unfold X8_noNode
  rw [p_noDoc hi]
  by_cases h : 0 ≤ i ∧ i < 2
  · rw [if_pos h]
    obtain ⟨k, rfl⟩ : ∃ k : Nat, i = k := ⟨i.toNat, by omega⟩
    have hk : k < 2 := by omega
    have hn := (doc_ok hv k).1.1
    have hT := (doc_C hC hk).1
    simp (disch := omega) only [cLt_t, cLt_f, cEq_t, cEq_f, rdR_ok, rd_ok, wr_ok, put_eq, jn_eq, cl_some, Int.toNat_natCast, p_tree hk s, gK_tree hk]
    unfold X6_has
    rw [hT]
    by_cases h0 : x < 0
    · rw [if_neg (by omega)]
      simp (disch := omega) only [cLt_t, cLt_f, cEq_t, cEq_f, rdR_ok, rd_ok, wr_ok, put_eq, jn_eq, cl_some, Int.toNat_natCast]
    · by_cases h1 : x < (v.doc k).n
      · rw [if_pos ⟨h, by omega, h1⟩]
        simp (disch := omega) only [cLt_t, cLt_f, cEq_t, cEq_f, rdR_ok, rd_ok, wr_ok, put_eq, jn_eq, cl_some, Int.toNat_natCast]
      · rw [if_neg (by omega)]
        simp (disch := omega) only [cLt_t, cLt_f, cEq_t, cEq_f, rdR_ok, rd_ok, wr_ok, put_eq, jn_eq, cl_some, Int.toNat_natCast]
  · rw [if_neg h, if_neg (fun q => h q.1)]
    simp (disch := omega) only [cLt_t, cLt_f, cEq_t, cEq_f, rdR_ok, rd_ok, wr_ok, put_eq, jn_eq, cl_some, Int.toNat_natCast]
theorem q_isNode {t : St} {v : Vec} (hv : VecOK v) (hM : MSt (t 5) v) {i x : Int} (hi : inR i) (hx : inR x) : X9_isNode i x t = some (if (0 ≤ i ∧ i < 2) ∧ 0 ≤ x ∧ x < (v.doc i.toNat).n then 1 else 0, t) := by
  unfold X9_isNode
  rw [q_isDoc hi]
  by_cases h : 0 ≤ i ∧ i < 2
  · rw [if_pos h]
    obtain ⟨k, rfl⟩ : ∃ k : Nat, i = k := ⟨i.toNat, by omega⟩
    have hk : k < 2 := by omega
    have hn := (doc_ok hv k).1.1
    simp (disch := omega) only [cLt_t, cLt_f, cEq_t, cEq_f, rdR_ok, rd_ok, wr_ok, put_eq, jn_eq, cl_some, Int.toNat_natCast, q_many hk (doc_M hM hk)]
    rw [q_in _ _ _ hx ⟨by omega, by omega⟩ ⟨by omega, by omega⟩]
    by_cases h1 : 0 ≤ x ∧ x < (v.doc k).n
    · rw [show (if 0 ≤ x ∧ x ≤ ((v.doc k).n : Int) - 1 then (1 : Int) else 0) = 1 from if_pos (by omega), if_pos ⟨h, h1⟩]
      simp (disch := omega) only [cLt_t, cLt_f, cEq_t, cEq_f, rdR_ok, rd_ok, wr_ok, put_eq, jn_eq, cl_some, Int.toNat_natCast]
    · rw [show (if 0 ≤ x ∧ x ≤ ((v.doc k).n : Int) - 1 then (1 : Int) else 0) = 0 from if_neg (by omega), if_neg (fun q => h1 q.2)]
      simp (disch := omega) only [cLt_t, cLt_f, cEq_t, cEq_f, rdR_ok, rd_ok, wr_ok, put_eq, jn_eq, cl_some, Int.toNat_natCast]
  · rw [if_neg h, if_neg (fun q => h q.1)]
    simp (disch := omega) only [cLt_t, cLt_f, cEq_t, cEq_f, rdR_ok, rd_ok, wr_ok, put_eq, jn_eq, cl_some, Int.toNat_natCast]
