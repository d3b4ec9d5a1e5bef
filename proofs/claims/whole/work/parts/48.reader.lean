/-! what is only used within a call: the reader's cells and the draft; the model's own rows beyond its state -/
def CongW (Sol : St → Vec → Prop) : Prop := ∀ (s s' : St) (v : Vec), (∀ b, b = 5 ∨ b = 8 ∨ 52 ≤ b → s' b = s b) → Sol s v → Sol s' v
theorem CongW.sol {Sol : St → Vec → Prop} (h : CongW Sol) : CongSol Sol := fun s s' v e hS => h s s' v (fun b hb => e b (by omega)) hS
def ScrC (s s' : St) : Prop := ∀ b, b ≠ 9 → ¬(44 ≤ b ∧ b ≤ 51) → s' b = s b
def ScrM (t t' : St) : Prop := (∀ b, 1 ≤ b → b ≤ 9 → t' b = t b) ∧ ∀ i, i = 6 ∨ i = 9 ∨ i = 10 → t' 0 i = t 0 i
theorem ScrC.rfl {s : St} : ScrC s s := fun _ _ _ => Eq.refl _
theorem ScrM.rfl {s : St} : ScrM s s := ⟨fun _ _ _ => Eq.refl _, fun _ _ => Eq.refl _⟩
theorem ScrC.trans {a b c : St} (h : ScrC a b) (g : ScrC b c) : ScrC a c := fun x h1 h2 => (g x h1 h2).trans (h x h1 h2)
theorem ScrM.trans {a b c : St} (h : ScrM a b) (g : ScrM b c) : ScrM a c := ⟨fun x h1 h2 => (g.1 x h1 h2).trans (h.1 x h1 h2), fun i hi => (g.2 i hi).trans (h.2 i hi)⟩
theorem ScrC.up {s s' : St} {a i : Nat} {v : Int} (h : ScrC s s') (ha : a = 9 ∨ (44 ≤ a ∧ a ≤ 51)) : ScrC s (up s' a i v) := fun b h1 h2 => by rw [up_b (by omega)]; exact h b h1 h2
theorem ScrM.up {s s' : St} {a i : Nat} {v : Int} (h : ScrM s s') (ha : 10 ≤ a ∨ (a = 0 ∧ i ≠ 6 ∧ i ≠ 9 ∧ i ≠ 10)) : ScrM s (up s' a i v) := by
  refine ⟨fun b h1 h2 => by rw [up_b (by omega)]; exact h.1 b h1 h2, fun j hj => ?_⟩
  by_cases e : a = 0
  · subst e
    rw [up_i (by omega)]
    exact h.2 j hj
  · rw [up_o (by omega)]
    exact h.2 j hj
theorem inv_scr {Sol : St → Vec → Prop} (hS : CongW Sol) {s s' t t' : St} (h : InvS Sol s t) (hc : ScrC s s') (hm : ScrM t t') : InvS Sol s' t' := by
  obtain ⟨h1, h2, h3, v, n, lg, a1, a2, a3, a4, a5, a6⟩ := h
  refine ⟨fun r hr => ?_, fun k hk => ?_, ?_, v, n, lg, a1, a2.congr (fun b hb => hc b (by omega) (by omega)), by rw [hm.1 5 (by omega) (by omega)]; exact a3, a4.congr (hc 30 (by omega) (by omega)) (hc 31 (by omega) (by omega)) (hm.1 6 (by omega) (by omega)) (hm.2 6 (by omega)), fun k hk => (a5 k hk).congr (hc _ (by omega) (by omega)) (hc _ (by omega) (by omega)) (hm.1 7 (by omega) (by omega)) (hm.1 8 (by omega) (by omega)), ?_⟩
  · rw [hc (10 + 2 * r) (by omega) (by omega), hc (10 + 2 * r + 1) (by omega) (by omega), hm.1 1 (by omega) (by omega), hm.1 2 (by omega) (by omega)]
    exact h1 r hr
  · rw [hc (22 + 2 * k) (by omega) (by omega), hc (22 + 2 * k + 1) (by omega) (by omega), hm.1 3 (by omega) (by omega), hm.1 4 (by omega) (by omega)]
    exact h2 k hk
  · unfold RFnd
    rw [hc 0 (by omega) (by omega), hc 1 (by omega) (by omega), hm.2 9 (by omega), hm.2 10 (by omega), hm.1 9 (by omega) (by omega)]
    exact h3
  · rw [hc 5 (by omega) (by omega)]
    rcases a6 with e | ⟨e, e2⟩
    · exact Or.inl e
    · exact Or.inr ⟨e, hS s s' v (fun b hb => hc b (by omega) (by omega)) e2⟩
/-! a text is read -/
def snoc (d : Doc) (c : Int) (l : Nat) : Doc := (d.n + 1, fun x => if x = d.n then c else d.c x, fun x => if x = d.n then l else d.l x)
theorem snoc_cn {d : Doc} {c : Int} {l : Nat} : (snoc d c l).c d.n = c := if_pos rfl
theorem snoc_ln {d : Doc} {c : Int} {l : Nat} : (snoc d c l).l d.n = l := if_pos rfl
theorem snoc_c {d : Doc} {c : Int} {l x : Nat} (h : x < d.n) : (snoc d c l).c x = d.c x := if_neg (by omega)
theorem snoc_l {d : Doc} {c : Int} {l x : Nat} (h : x < d.n) : (snoc d c l).l x = d.l x := if_neg (by omega)
theorem snoc_n {d : Doc} {c : Int} {l : Nat} : (snoc d c l).n = d.n + 1 := rfl
theorem fst_snoc {d : Doc} {c : Int} {l : Nat} (h : Fst d) (hn : d.n < 12) (hc : lab c) (hl : l ≤ d.n) (hy : ∀ y, l ≤ y → y < d.n → l ≤ d.l y) : Fst (snoc d c l) := by
  refine ⟨by rw [snoc_n]; omega, fun x hx => ?_, fun x y hx hxy hlx => ?_⟩
  · rw [snoc_n] at hx
    by_cases e : x = d.n
    · subst e
      rw [snoc_cn, snoc_ln]
      exact ⟨hc, hl⟩
    · rw [snoc_c (by omega), snoc_l (by omega)]
      exact h.2.1 x (by omega)
  · rw [snoc_n] at hx
    rw [snoc_l (x := y) (by omega)]
    by_cases e : x = d.n
    · subst e
      rw [snoc_ln] at hlx ⊢
      exact hy y hlx hxy
    · rw [snoc_l (by omega)] at hlx ⊢
      exact h.2.2 x y (by omega) hxy hlx
/-- what class and model hold while they read: op nodes are open, mk marks were there, one is pending (pd = 1) -/
def RdC (s t : St) (op mk pd : Nat) (mark : Int) (d : Doc) (sts : Nat → Nat) : Prop :=
  (s 9 3 = op ∧ s 9 4 = mk ∧ t 0 13 = d.n ∧ s 47 0 = (d.n : Int) + pd) ∧
  (∀ x, x < d.n → t 10 x = d.c x ∧ t 11 x = d.l x ∧ s 48 x = d.c x ∧ s 49 x = (x : Int) - (d.l x : Int) + 1) ∧
  (pd = 1 → s 48 d.n = mark ∧ s 49 d.n = 1 ∧ lab mark) ∧
  (∀ k, k < op → s 50 k = t 12 k ∧ lab (t 12 k) ∧ s 51 k = sts k ∧ t 13 k = sts k ∧ sts k ≤ d.n ∧ (∀ y, sts k ≤ y → y < d.n → sts k ≤ d.l y) ∧ ∀ j, j < k → sts j ≤ sts k) ∧
  Fst d ∧ (op + d.n + pd = mk ∧ mk ≤ 12 ∧ pd ≤ 1) ∧ (0 < op → sts 0 = 0) ∧ (op = 0 → d.n = 0 ∨ (pd = 0 ∧ d.l (d.n - 1) = 0))
def LaI (op mk pd : Nat) (la : Int) (d : Doc) : Prop := (la = 0 ∧ mk = 0 ∧ pd = 0) ∨ (la = 1 ∧ pd = 1) ∨ (la = 2 ∧ pd = 0 ∧ 0 < op) ∨ (la = 3 ∧ pd = 0 ∧ 0 < d.n)
/-- a node is written down on the model's side -/
def nodeM (t : St) (n : Nat) (c l : Int) : St := up (up (up t 10 n c) 11 n l) 0 13 ((n : Int) + 1)
theorem q_closes {t : St} {n : Nat} (h : t 0 13 = n) (hn : n < 12) (c l : Int) : X9_closes c l t = some (0, nodeM t n c l) := by
  unfold X9_closes nodeM
  simp (disch := omega) only [cLt_t, cLt_f, cEq_t, cEq_f, rdR_ok, rd_ok, wr_ok, put_eq, jn_eq, cl_some, Int.toNat_natCast, h, up_o, up_i, up_eq]
theorem scr_nodeM {t : St} {n : Nat} {c l : Int} : ScrM t (nodeM t n c l) := ((ScrM.rfl.up (by omega)).up (by omega)).up (by omega)
/-- the pending mark is a leaf -/
theorem rd_flush {s t : St} {op mk : Nat} {mark mark' : Int} {d : Doc} {sts : Nat → Nat} (h : RdC s t op mk 1 mark d sts) : RdC s (nodeM t d.n mark d.n) op mk 0 mark' (snoc d mark d.n) sts ∧ 0 < (snoc d mark d.n).n := by
  obtain ⟨⟨h1, h2, h3, h4⟩, h5, h6, h7, h8, ⟨h9, h10, h11⟩, h12, h13⟩ := h
  obtain ⟨p1, p2, p3⟩ := h6 rfl
  refine ⟨⟨⟨h1, h2, ?_, ?_⟩, fun x hx => ?_, fun e => by omega, fun k hk => ?_, fst_snoc h8 (by omega) p3 (by omega) (fun y a b => by omega), ⟨by rw [snoc_n]; omega, h10, by omega⟩, h12, fun e => Or.inr ⟨rfl, ?_⟩⟩, by rw [snoc_n]; omega⟩
  · unfold nodeM
    rw [up_eq, snoc_n]
    omega
  · rw [h4, snoc_n]
    omega
  · unfold nodeM
    rw [snoc_n] at hx
    by_cases e : x = d.n
    · subst e
      rw [snoc_cn, snoc_ln, p1, p2]
      simp (disch := omega) only [fil_o, up_o, fil_out, fil_in, up_i, up_eq]
      exact ⟨trivial, trivial, trivial, by omega⟩
    · rw [snoc_c (by omega), snoc_l (by omega)]
      simp (disch := omega) only [fil_o, up_o, fil_out, fil_in, up_i, up_eq]
      exact h5 x (by omega)
  · have := h7 k hk
    unfold nodeM
    simp (disch := omega) only [fil_o, up_o, fil_out, fil_in, up_i, up_eq]
    refine ⟨this.1, this.2.1, this.2.2.1, this.2.2.2.1, by rw [snoc_n]; omega, fun y a b => ?_, this.2.2.2.2.2.2⟩
    rw [snoc_n] at b
    by_cases e : y = d.n
    · subst e
      rw [snoc_ln]
      omega
    · rw [snoc_l (by omega)]
      exact this.2.2.2.2.2.1 y a (by omega)
  · rcases h13 e with g | g
    · rw [snoc_n, Nat.add_sub_cancel, snoc_ln, g]
    · omega
/-- a mark begins -/
theorem rd_mark {s t : St} {op mk : Nat} {mark c : Int} {d : Doc} {sts : Nat → Nat} (h : RdC s t op mk 0 mark d sts) (hc : lab c) (hm : mk < 12) (ho : 0 < op ∨ mk = 0) {i : Int} {la' : Int} : RdC (up (up (up (up (up s 48 d.n c) 49 d.n 1) 47 0 ((d.n : Int) + 1)) 9 4 ((mk : Int) + 1)) 9 5 la') (up t 0 12 i) op (mk + 1) 1 c d sts := by
  obtain ⟨⟨h1, h2, h3, h4⟩, h5, h6, h7, h8, ⟨h9, h10, h11⟩, h12, h13⟩ := h
  refine ⟨⟨?_, ?_, ?_, ?_⟩, fun x hx => ?_, fun _ => ?_, fun k hk => ?_, h8, ⟨by omega, by omega, by omega⟩, h12, fun e => Or.inl (by omega)⟩
  · simp (disch := omega) only [fil_o, up_o, fil_out, fil_in, up_i, up_eq]
    exact h1
  · simp (disch := omega) only [fil_o, up_o, fil_out, fil_in, up_i, up_eq]
    omega
  · simp (disch := omega) only [fil_o, up_o, fil_out, fil_in, up_i, up_eq]
    exact h3
  · simp (disch := omega) only [fil_o, up_o, fil_out, fil_in, up_i, up_eq]
    omega
  · simp (disch := omega) only [fil_o, up_o, fil_out, fil_in, up_i, up_eq]
    exact h5 x hx
  · simp (disch := omega) only [fil_o, up_o, fil_out, fil_in, up_i, up_eq]
    exact ⟨trivial, trivial, hc⟩
  · simp (disch := omega) only [fil_o, up_o, fil_out, fil_in, up_i, up_eq]
    exact h7 k hk
/-- a node opens -/
theorem rd_open {s t : St} {op mk : Nat} {mark : Int} {d : Doc} {sts : Nat → Nat} (h : RdC s t op mk 1 mark d sts) {i : Int} {la' : Int} : RdC (up (up (up (up (up s 47 0 d.n) 50 op mark) 51 op d.n) 9 3 ((op : Int) + 1)) 9 5 la') (up (up (up t 12 op mark) 13 op d.n) 0 12 i) (op + 1) mk 0 mark d (fun k => if k = op then d.n else sts k) := by
  obtain ⟨⟨h1, h2, h3, h4⟩, h5, h6, h7, h8, ⟨h9, h10, h11⟩, h12, h13⟩ := h
  obtain ⟨p1, p2, p3⟩ := h6 rfl
  refine ⟨⟨?_, ?_, ?_, ?_⟩, fun x hx => ?_, fun e => by omega, fun k hk => ?_, h8, ⟨by omega, by omega, by omega⟩, fun _ => ?_, fun e => by omega⟩
  · simp (disch := omega) only [fil_o, up_o, fil_out, fil_in, up_i, up_eq]
    omega
  · simp (disch := omega) only [fil_o, up_o, fil_out, fil_in, up_i, up_eq]
    exact h2
  · simp (disch := omega) only [fil_o, up_o, fil_out, fil_in, up_i, up_eq]
    exact h3
  · simp (disch := omega) only [fil_o, up_o, fil_out, fil_in, up_i, up_eq]
    omega
  · simp (disch := omega) only [fil_o, up_o, fil_out, fil_in, up_i, up_eq]
    exact h5 x hx
  · by_cases e : k = op
    · subst e
      simp (disch := omega) only [fil_o, up_o, fil_out, fil_in, up_i, up_eq, if_true]
      refine ⟨trivial, p3, trivial, trivial, by omega, fun y a b => by omega, fun j hj => ?_⟩
      rw [if_neg (by omega)]
      exact (h7 j hj).2.2.2.2.1
    · have := h7 k (by omega)
      simp (disch := omega) only [fil_o, up_o, fil_out, fil_in, up_i, up_eq]
      simp only [if_neg e]
      refine ⟨this.1, this.2.1, this.2.2.1, this.2.2.2.1, this.2.2.2.2.1, this.2.2.2.2.2.1, fun j hj => ?_⟩
      rw [if_neg (by omega)]
      exact this.2.2.2.2.2.2 j hj
  · by_cases e : op = 0
    · refine (if_pos e.symm).trans ?_
      rcases h13 e with g | g
      · exact g
      · omega
    · exact (if_neg (by omega)).trans (h12 (by omega))
/-- a node closes -/
theorem rd_close {s t : St} {op mk : Nat} {mark : Int} {d : Doc} {sts : Nat → Nat} (h : RdC s t (op + 1) mk 0 mark d sts) {i : Int} {la' : Int} : RdC (up (up (up (up (up s 9 3 op) 48 d.n (t 12 op)) 49 d.n ((d.n : Int) - sts op + 1)) 47 0 ((d.n : Int) + 1)) 9 5 la') (up (nodeM t d.n (t 12 op) (sts op)) 0 12 i) op mk 0 mark (snoc d (t 12 op) (sts op)) sts ∧ 0 < (snoc d (t 12 op) (sts op)).n := by
  obtain ⟨⟨h1, h2, h3, h4⟩, h5, h6, h7, h8, ⟨h9, h10, h11⟩, h12, h13⟩ := h
  have ho := h7 op (by omega)
  refine ⟨⟨⟨?_, ?_, ?_, ?_⟩, fun x hx => ?_, fun e => by omega, fun k hk => ?_, fst_snoc h8 (by omega) ho.2.1 ho.2.2.2.2.1 ho.2.2.2.2.2.1, ⟨by rw [snoc_n]; omega, by omega, by omega⟩, fun e => h12 (by omega), fun e => Or.inr ⟨rfl, ?_⟩⟩, by rw [snoc_n]; omega⟩
  · simp (disch := omega) only [fil_o, up_o, fil_out, fil_in, up_i, up_eq]
  · simp (disch := omega) only [fil_o, up_o, fil_out, fil_in, up_i, up_eq]
    exact h2
  · unfold nodeM
    simp (disch := omega) only [fil_o, up_o, fil_out, fil_in, up_i, up_eq]
    rw [snoc_n]
    omega
  · simp (disch := omega) only [fil_o, up_o, fil_out, fil_in, up_i, up_eq]
    rw [snoc_n]
    omega
  · unfold nodeM
    rw [snoc_n] at hx
    by_cases e : x = d.n
    · subst e
      rw [snoc_cn, snoc_ln]
      simp (disch := omega) only [fil_o, up_o, fil_out, fil_in, up_i, up_eq]
      exact ⟨trivial, trivial, trivial, trivial⟩
    · rw [snoc_c (by omega), snoc_l (by omega)]
      simp (disch := omega) only [fil_o, up_o, fil_out, fil_in, up_i, up_eq]
      exact h5 x (by omega)
  · have := h7 k (by omega)
    unfold nodeM
    simp (disch := omega) only [fil_o, up_o, fil_out, fil_in, up_i, up_eq]
    refine ⟨this.1, this.2.1, this.2.2.1, this.2.2.2.1, by rw [snoc_n]; omega, fun y a b => ?_, this.2.2.2.2.2.2⟩
    rw [snoc_n] at b
    by_cases e : y = d.n
    · subst e
      rw [snoc_ln]
      exact ho.2.2.2.2.2.2 k hk
    · rw [snoc_l (by omega)]
      exact this.2.2.2.2.2.1 y a (by omega)
  · rw [snoc_n, Nat.add_sub_cancel, snoc_ln]
    subst e
    exact h12 (by omega)
