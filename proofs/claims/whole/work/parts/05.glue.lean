/-! THE STORE AND THE WALK. A store gives each cell (by its own number) its ints; the shape (which cells there are, how long, which cells they name) is a list that never changes behind the constructors. GX: the machine at pc, with such a store, ends as the value e says, if e says anything. -/
abbrev AV : Type := Nat ⊕ (Int ⊕ Int)
abbrev vR (a : Nat) : AV := .inl a
abbrev vI (x : Int) : AV := .inr (.inl x)
abbrev vL (x : Int) : AV := .inr (.inr x)
abbrev St : Type := Nat → Nat → Int
abbrev Rs : Type := Option (Int × St)
def iI (x : Int) : Int32 := Int32.ofInt x
def iL (x : Int) : Int64 := Int64.ofInt x
abbrev Sc : Type := Nat × Nat × List (Option Nat)
abbrev Shp : Type := List Sc
def isL : AV → Bool
  | .inr (.inr _) => true
  | _ => false
def tv (ρ : Nat → Nat) : AV → Value
  | .inl a => .ref (ρ a)
  | .inr (.inl x) => .int (iI x)
  | .inr (.inr x) => .long (iL x)
def fE (ρ : Nat → Nat) (σ : St) (a k : Nat) (f : Option Nat) : Value := match f with
  | none => .int (iI (σ a k))
  | some b => .ref (ρ b)
def cE (ρ : Nat → Nat) (ca : Nat → ClassId) (σ : St) (a : Nat) (c : Sc) : va_E :=
  if c.1 < 3 then .inl (ca c.1, c.2.1, .inl (fun i => iI (σ a i)))
  else if c.1 < 10 then .inl (ca c.1, c.2.1, .inr (.inr (.inr (.inr (fun i => (c.2.2.getD i none).map ρ)))))
  else .inr (c.1 - 10, c.2.2.mapIdx (fE ρ σ a))
def wm (L : Shp) (ρ : Nat → Nat) (ca : Nat → ClassId) (σ : St) : va_W := L.mapIdx (fun a c => (ρ a, cE ρ ca σ a c))
def tysOf (ca : Nat → ClassId) : List (ClassId × FieldType) := [(ca 0, .int), (ca 1, .byte), (ca 2, .boolean), (ca 3, .object RX2), (ca 4, .object RX5), (ca 5, .object RX0), (ca 6, .array .int)]
/-- a place gets a value -/
def up (σ : St) (a i : Nat) (v : Int) : St := fun b j => if b = a ∧ j = i then v else σ b j
/-- n places of a row get those of another one -/
def cpy (σ : St) (a sp b dp n : Nat) : St := fun c j => if c = b ∧ dp ≤ j ∧ j < dp + n then σ a (sp + (j - dp)) else σ c j
abbrev inR (x : Int) : Prop := -2147483648 ≤ x ∧ x < 2147483648
abbrev inRL (x : Int) : Prop := -9223372036854775808 ≤ x ∧ x < 9223372036854775808
/-! the words of a method's value -/
def cLt (x y : Int) (e f : Rs) : Rs := if inR x ∧ inR y then (if x < y then e else f) else none
def cEq (x y : Int) (e f : Rs) : Rs := if inR x ∧ inR y then (if x = y then e else f) else none
def rd (σ : St) (a n : Nat) (i : Int) (k : Int → Rs) : Rs := if 0 ≤ i ∧ i < n then k (σ a i.toNat) else none
def rdR (n : Nat) (i : Int) (k : Nat → Rs) : Rs := if 0 ≤ i ∧ i < n then k i.toNat else none
def wr (σ : St) (a n : Nat) (i v : Int) (k : St → Rs) : Rs := if 0 ≤ i ∧ i < n then k (up σ a i.toNat v) else none
def put (σ : St) (a k : Nat) (v : Int) (g : St → Rs) : Rs := g (up σ a k v)
def jn {α : Type} (k : α) (b : α → Rs) : Rs := b k
def gB (v : Int) (e : Rs) : Rs := if v = 0 ∨ v = 1 then e else none
def FU : Nat := 4096
def cl (o : Rs) (k : Int → St → Rs) : Rs := match o with
  | none => none
  | some r => k r.1 r.2
def gR (x : Int) (e : Rs) : Rs := if inR x then e else none
def gK (L : Shp) (a kd : Nat) (e : Rs) : Rs := if (L.getD a (99, 0, [])).1 = kd then e else none
def cpA (σ : St) (a na : Nat) (sp : Int) (b nb : Nat) (dp n : Int) (k : St → Rs) : Rs := if 0 ≤ sp ∧ 0 ≤ dp ∧ 0 ≤ n ∧ sp + n ≤ na ∧ dp + n ≤ nb then k (cpy σ a sp.toNat b dp.toNat n.toNat) else none
def dv (x y : Int) (k : Int → Rs) : Rs := if inR x ∧ inR y ∧ y ≠ 0 then k (x.tdiv y) else none
def rm (x y : Int) (k : Int → Rs) : Rs := if inR x ∧ inR y ∧ y ≠ 0 then k (x.tmod y) else none
def dvL (x y : Int) (k : Int → Rs) : Rs := if inRL x ∧ inRL y ∧ y ≠ 0 then k (x.tdiv y) else none
def rmL (x y : Int) (k : Int → Rs) : Rs := if inRL x ∧ inRL y ∧ y ≠ 0 then k (x.tmod y) else none
def lcm (x y : Int) (k : Int → Rs) : Rs := if inRL x ∧ inRL y then k (if y < x then 1 else if x = y then 0 else -1) else none
/-- an int as it stands in a long, in a byte, in a boolean; shifts and masks -/
def w32 (x : Int) : Int := (iI x).toInt
def nb8 (x : Int) : Int := (iI x).toInt8.toInt32.toInt
def nb1 (x : Int) : Int := (vp_nar .boolean (iI x)).toInt
def oShl (x y : Int) : Int := (iI x <<< (iI y &&& 31)).toInt
def oShr (x y : Int) : Int := (iI x >>> (iI y &&& 31)).toInt
def oAnd (x y : Int) : Int := (iI x &&& iI y).toInt
def oOr (x y : Int) : Int := (iI x ||| iI y).toInt
def oXor (x y : Int) : Int := (iI x ^^^ iI y).toInt
def mMin (x y : Int) (k : Int → Rs) : Rs := if inR x ∧ inR y then k (if y < x then y else x) else none
def mAbs (x : Int) (k : Int → Rs) : Rs := if inR x ∧ x ≠ -2147483648 then k (if x < 0 then -x else x) else none
/-- the kind of a cell -/
def Kd (L : Shp) (a kd : Nat) : Prop := ∃ n fs, L[a]? = some (kd, n, fs)
def ln (L : Shp) (a : Nat) : Nat := (L.getD a (99, 0, [])).2.1
theorem Kd.at {L : Shp} {a kd : Nat} (h : Kd L a kd) : ∃ fs, L[a]? = some (kd, ln L a, fs) := by
  obtain ⟨n, fs, h⟩ := h
  exact ⟨fs, by rw [h]; simp [ln, List.getD, h]⟩
theorem Kd.of_gK {L : Shp} {a kd : Nat} (h : (L.getD a (99, 0, [])).1 = kd) (hk : kd ≠ 99) : Kd L a kd := by
  cases e : L[a]? with
  | none => simp [List.getD, e] at h; omega
  | some c =>
    obtain ⟨k, n, fs⟩ := c
    simp [List.getD, e] at h
    exact ⟨n, fs, by rw [e, h]⟩
/-! numbers -/
theorem iI_in {x : Int} (h : inR x) : (iI x).toInt = x := Int32.toInt_ofInt_of_le (by have := h.1; omega) (by have := h.2; omega)
theorem iL_in {x : Int} (h : inRL x) : (iL x).toInt = x := Int64.toInt_ofInt_of_le (by have := h.1; omega) (by have := h.2; omega)
theorem iI_back (x : Int32) : iI x.toInt = x := Int32.ofInt_toInt x
theorem iI_lt {x y : Int} (hx : inR x) (hy : inR y) : iI x < iI y ↔ x < y := by rw [Int32.lt_iff_toInt_lt, iI_in hx, iI_in hy]
theorem iI_le {x y : Int} (hx : inR x) (hy : inR y) : iI x ≤ iI y ↔ x ≤ y := by rw [Int32.le_iff_toInt_le, iI_in hx, iI_in hy]
theorem iI_eq {x y : Int} (hx : inR x) (hy : inR y) : iI x = iI y ↔ x = y := by rw [← Int32.toInt_inj, iI_in hx, iI_in hy]
theorem iI_0 : iI 0 = 0 := by decide +kernel
theorem iI_cl {i : Int} {n : Nat} (h : 0 ≤ i ∧ i < n) (hn : n ≤ 2147483648) : (iI i).toNatClampNeg = i.toNat := by
  have h1 : inR i := ⟨by have := h.1; omega, by have := h.2; omega⟩
  show (iI i).toInt.toNat = i.toNat
  rw [iI_in h1]
theorem iI_vp {i : Int} {n : Nat} (h : 0 ≤ i ∧ i < n) (hn : n ≤ 2147483648) : vp_in (iI i) n := by
  have h1 : inR i := ⟨by have := h.1; omega, by have := h.2; omega⟩
  rw [vp_in_iff, iI_in h1]
  exact h
/-! what a walk stands in -/
abbrev Cx : Type := Program × Launch × Env × Room × State × MethodId × Array Value × List Frame × Method × Code
abbrev Wx : Type := va_G × (Nat → Nat) × (Nat → ClassId)
abbrev xD (X : Wx) : va_G := X.1
abbrev xr (X : Wx) : Nat → Nat := X.2.1
abbrev xc (X : Wx) : Nat → ClassId := X.2.2
abbrev kS (K : Cx) : State := K.2.2.2.2.1
abbrev kM (K : Cx) : MethodId := K.2.2.2.2.2.1
abbrev kA (K : Cx) : Array Value := K.2.2.2.2.2.2.1
abbrev kC (K : Cx) : Code := K.2.2.2.2.2.2.2.2.2
abbrev kR (K : Cx) : Room := K.2.2.2.1
abbrev kMe (K : Cx) : Method := K.2.2.2.2.2.2.2.2.1
def Ain (L : Shp) (ρ : Nat → Nat) : Nat → Prop := fun q => ∃ i, i < L.length ∧ q = ρ i
def Inj (L : Shp) (ρ : Nat → Nat) : Prop := ∀ i j, i < L.length → j < L.length → ρ i = ρ j → i = j
def NWs (U : State) : Prop := va_Nw (.methodLinkNest RX1 58 yX8_kindOf RX8) U ∧ va_Nw (.methodLinkNest RX3 29 yX8_weightOf RX8) U ∧ va_Nw (.methodLinkNest RX6 29 yX8_kindOf RX8) U ∧ va_Nw (.methodLinkNest RX6 32 yX8_isOf RX8) U ∧ va_Nw (.methodLinkNest RX3 33 yX8_kindOf RX8) U
theorem NWs.warm {s U : State} (hW : s.WarmedH U.vm) (h : NWs s) : NWs U := ⟨va_Nw.warmM hW h.1, va_Nw.warmM hW h.2.1, va_Nw.warmM hW h.2.2.1, va_Nw.warmM hW h.2.2.2.1, va_Nw.warmM hW h.2.2.2.2⟩
theorem NWs.same {u U : State} (e : u.vm = U.vm) (h : NWs u) : NWs U := ⟨va_Nw.same rfl e h.1, va_Nw.same rfl e h.2.1, va_Nw.same rfl e h.2.2.1, va_Nw.same rfl e h.2.2.2.1, va_Nw.same rfl e h.2.2.2.2⟩
def WP (L : Shp) (X : Wx) (σ : St) (H : Heap) : Prop := va_P (xD X) vwCl (wm L (xr X) (xc X) σ) H
/-- what a method begins with, and what it ends with -/
def Pw (L : Shp) (X : Wx) (σ : St) (U : State) : Prop := WP L X σ U.heap ∧ va_K (xD X) vwCl (tysOf (xc X)) U ∧ Inj L (xr X) ∧ NWs U
def rvo (rk : Nat) (ρ : Nat → Nat) (v : Int) : Option Value := match rk with
  | 0 => none
  | 1 => some (.int (iI v))
  | 2 => some (.long (iL v))
  | _ => some (.ref (ρ v.toNat))
def Qf (rk : Nat) (L : Shp) (X : Wx) (r : Int × St) : Array Value → State → Outcome → State → Prop := fun _ st o t => o = .returned (rvo rk (xr X) r.1) ∧ WP L X r.2 t.heap ∧ va_F (Ain L (xr X)) st t
def OKx (L : Shp) (K : Cx) (X : Wx) (own : String) (cc : ByteArray) (nL : Nat) : Prop :=
  K.1.tables.exec = Jvm.exec ∧ (kC K).code = cc ∧ (kC K).maxLocals = nL ∧ (kS K).vm.findClass own = some (kM K).cls ∧ (∀ w ∈ wsL_law, w.before (kA K) (kS K) = true) ∧ va_K (xD X) vwCl (tysOf (xc X)) (kS K) ∧ Inj L (xr X) ∧ NWs (kS K) ∧ (kMe K).locks = false
def tl (ρ : Nat → Nat) (lv : List (Nat × AV)) : List (Nat × Value) := lv.map (fun q => (q.1, tv ρ q.2))
def GX (L : Shp) (K : Cx) (X : Wx) (nL rk pc : Nat) (lv : List (Nat × AV)) (st : List AV) (σ : St) (e : Rs) : Prop :=
  ∀ r, e = some r → ∀ (H : Heap) (locs : List Loc) (ls : Array Slot), lv_has ls nL (tl (xr X) lv) → WP L X σ H → va_S (Ain L (xr X)) (kS K).heap H locs →
    W K.1 K.2.1 K.2.2.1 (kR K) (kS K) (kM K) (kA K) K.2.2.2.2.2.2.2.1 (kMe K) (kC K) H locs 0 0 (MQ K.2.2.2.2.2.2.2.1 (Qf rk L X r) (kA K) (kS K) 0 0 (Ain L (xr X))) (F0 (kM K) pc ls (st.map (tv (xr X))))
theorem GX.none {L : Shp} {K : Cx} {X : Wx} {nL rk pc : Nat} {lv : List (Nat × AV)} {st : List AV} {σ : St} : GX L K X nL rk pc lv st σ none := fun _ h => by cases h
theorem wm_get {L : Shp} {ρ : Nat → Nat} {ca : Nat → ClassId} {σ : St} {a : Nat} {c : Sc} (h : L[a]? = some c) : (wm L ρ ca σ)[a]? = some (ρ a, cE ρ ca σ a c) := by
  unfold wm
  rw [List.getElem?_mapIdx, h]
  rfl
theorem wm_D {L : Shp} {ρ : Nat → Nat} {ca : Nat → ClassId} {σ : St} (h : Inj L ρ) : va_D (Ain L ρ) (wm L ρ ca σ) := by
  have key : ∀ (k : Nat) (q : Nat × va_E), (wm L ρ ca σ)[k]? = some q → k < L.length ∧ q.1 = ρ k := by
    intro k q hq
    unfold wm at hq
    rw [List.getElem?_mapIdx] at hq
    cases hk : L[k]? with
    | none => rw [hk] at hq; cases hq
    | some c => rw [hk] at hq; cases hq; exact ⟨(List.getElem?_eq_some_iff.mp hk).1, rfl⟩
  refine ⟨fun i j p q hi hj hpq => ?_, fun k q hk => ⟨k, (key k q hk).1, (key k q hk).2⟩⟩
  obtain ⟨h1, h2⟩ := key i p hi
  obtain ⟨h3, h4⟩ := key j q hj
  exact h i j h1 h3 (by rw [← h2, ← h4]; exact hpq)
theorem wm_set {L : Shp} {ρ : Nat → Nat} {ca : Nat → ClassId} {σ σ' : St} {a : Nat} {c : Sc} (h : L[a]? = some c) (hs : ∀ b, b ≠ a → σ' b = σ b) : (wm L ρ ca σ).set a (ρ a, cE ρ ca σ' a c) = wm L ρ ca σ' := by
  apply List.ext_getElem?
  intro k
  by_cases hk : k = a
  · subst hk
    rw [List.getElem?_set_self (by unfold wm; rw [List.length_mapIdx]; exact (List.getElem?_eq_some_iff.mp h).1), wm_get h]
  · rw [List.getElem?_set_ne (Ne.symm hk)]
    unfold wm
    rw [List.getElem?_mapIdx, List.getElem?_mapIdx]
    cases hc : L[k]? with
    | none => rfl
    | some d =>
      have e1 : cE ρ ca σ k d = cE ρ ca σ' k d := by
        have e2 : σ' k = σ k := hs k hk
        unfold cE
        rw [show (fun i => iI (σ' k i)) = (fun i => iI (σ k i)) by rw [e2]]
        rw [show fE ρ σ' k = fE ρ σ k by funext j f; cases f <;> simp [fE, e2]]
      simp [e1]
theorem cE_arr {ρ : Nat → Nat} {ca : Nat → ClassId} {σ : St} {a kd n : Nat} {fs : List (Option Nat)} (h : kd < 3) : cE ρ ca σ a (kd, n, fs) = .inl (ca kd, n, .inl (fun i => iI (σ a i))) := by simp [cE, h]
theorem cE_ref {ρ : Nat → Nat} {ca : Nat → ClassId} {σ : St} {a kd n : Nat} {fs : List (Option Nat)} (h : ¬ kd < 3) (h2 : kd < 10) : cE ρ ca σ a (kd, n, fs) = .inl (ca kd, n, .inr (.inr (.inr (.inr (fun i => (fs.getD i none).map ρ))))) := by simp [cE, h, h2]
theorem cE_obj {ρ : Nat → Nat} {ca : Nat → ClassId} {σ : St} {a ci n : Nat} {fs : List (Option Nat)} : cE ρ ca σ a (10 + ci, n, fs) = .inr (ci, fs.mapIdx (fE ρ σ a)) := by
  have h1 : ¬ (10 + ci < 3) := by omega
  have h2 : ¬ (10 + ci < 10) := by omega
  simp [cE, h1, h2]
theorem up_ne {σ : St} {a i : Nat} {v : Int} {b : Nat} (h : b ≠ a) : up σ a i v b = σ b := by funext j; simp [up, h]
theorem cpy_ne {σ : St} {a sp b dp n c : Nat} (h : c ≠ b) : cpy σ a sp b dp n c = σ c := by funext j; simp [cpy, h]
theorem tl_at {ρ : Nat → Nat} {lv : List (Nat × AV)} {j i : Nat} {v : AV} (h : lv[j]? = some (i, v)) : (tl ρ lv)[j]? = some (i, tv ρ v) := by unfold tl; rw [List.getElem?_map, h]; rfl
def st1 (i : Nat) (v : AV) (lv : List (Nat × AV)) : List (Nat × AV) := (i, v) :: lv.filter (fun q => !(q.1 == i) && !(q.1 + 1 == i && isL q.2))
def st2 (i : Nat) (v : AV) (lv : List (Nat × AV)) : List (Nat × AV) := (i, v) :: lv.filter (fun q => !(q.1 == i) && (!(q.1 == i + 1) && !(q.1 + 1 == i && isL q.2)))
theorem tv_cat (ρ : Nat → Nat) (v : AV) : ((tv ρ v).category == 2) = isL v := by rcases v with a | x | x <;> rfl
theorem tl_st1 {ρ : Nat → Nat} {i : Nat} {v : AV} {lv : List (Nat × AV)} : (i, tv ρ v) :: (tl ρ lv).filter (fun q => !(q.1 == i) && !(q.1 + 1 == i && q.2.category == 2)) = tl ρ (st1 i v lv) := by
  unfold tl st1
  rw [List.map_cons, List.filter_map]
  congr 2
  apply List.filter_congr
  intro q _
  show (!(q.1 == i) && !(q.1 + 1 == i && (tv ρ q.2).category == 2)) = _
  rw [tv_cat]
theorem tl_st2 {ρ : Nat → Nat} {i : Nat} {v : AV} {lv : List (Nat × AV)} : (i, tv ρ v) :: (tl ρ lv).filter (fun q => !(q.1 == i) && (!(q.1 == i + 1) && !(q.1 + 1 == i && q.2.category == 2))) = tl ρ (st2 i v lv) := by
  unfold tl st2
  rw [List.map_cons, List.filter_map]
  congr 2
  apply List.filter_congr
  intro q _
  show (!(q.1 == i) && (!(q.1 == i + 1) && !(q.1 + 1 == i && (tv ρ q.2).category == 2))) = _
  rw [tv_cat]
