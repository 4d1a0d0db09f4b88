/-! ===== pure values and worlds ===== -/
abbrev PV : Type := Int ⊕ (Int ⊕ Int)
abbrev pI (a : Int) : PV := .inl a
abbrev pL (a : Int) : PV := .inr (.inl a)
abbrev pR (a : Int) : PV := .inr (.inr a)
abbrev WD : Type := Int → Int → Int
def w32 (x : Int) : Int := (x + 2147483648) % 4294967296 - 2147483648
def w64 (x : Int) : Int := (x + 9223372036854775808) % 18446744073709551616 - 9223372036854775808
def w8 (x : Int) : Int := (x + 128) % 256 - 128
def w16 (x : Int) : Int := (x + 32768) % 65536 - 32768
def up (w : WD) (k i v : Int) : WD := fun k' i' => if k' = k ∧ i' = i then v else w k' i'
theorem w32_b (x : Int) : Int.bmod x (2 ^ 32) = w32 x := by
  have e : ((2 ^ 32 : Nat) : Int) = 4294967296 := by decide
  unfold w32
  rw [Int.bmod_def, e]
  split <;> omega
theorem w64_b (x : Int) : Int.bmod x (2 ^ 64) = w64 x := by
  have e : ((2 ^ 64 : Nat) : Int) = 18446744073709551616 := by decide
  unfold w64
  rw [Int.bmod_def, e]
  split <;> omega
theorem w16_b (x : Int) : Int.bmod x (2 ^ 16) = w16 x := by
  have e : ((2 ^ 16 : Nat) : Int) = 65536 := by decide
  unfold w16
  rw [Int.bmod_def, e]
  split <;> omega
theorem w8_b (x : Int) : Int.bmod x (2 ^ 8) = w8 x := by
  have e : ((2 ^ 8 : Nat) : Int) = 256 := by decide
  unfold w8
  rw [Int.bmod_def, e]
  split <;> omega
def bAnd (a b : Int) : Int := (Int32.ofInt a &&& Int32.ofInt b).toInt
def bOr (a b : Int) : Int := (Int32.ofInt a ||| Int32.ofInt b).toInt
def bXor (a b : Int) : Int := (Int32.ofInt a ^^^ Int32.ofInt b).toInt
def bShl (a b : Int) : Int := (Int32.ofInt a <<< (Int32.ofInt b &&& 31)).toInt
def bShr (a b : Int) : Int := (Int32.ofInt a >>> (Int32.ofInt b &&& 31)).toInt
def bUshr (a b : Int) : Int := ((Int32.ofInt a).toUInt32 >>> ((Int32.ofInt b).toUInt32 &&& Int32.toUInt32 31)).toInt32.toInt
def lAnd (a b : Int) : Int := (Int64.ofInt a &&& Int64.ofInt b).toInt
def lOr (a b : Int) : Int := (Int64.ofInt a ||| Int64.ofInt b).toInt
def lShl (a b : Int) : Int := (Int64.ofInt a <<< ((Int32.ofInt b).toInt64 &&& 63)).toInt
def lUshr (a b : Int) : Int := ((Int64.ofInt a).toUInt64 >>> ((Int32.ofInt b).toInt64.toUInt64 &&& Int64.toUInt64 63)).toInt64.toInt
/-! ===== the machine behind it ===== -/
def vr (ad ro : Nat → Nat) (n : Nat) : PV → Value → Prop
  | .inl a, v => ∃ x : Int32, v = .int x ∧ x.toInt = a
  | .inr (.inl a), v => ∃ x : Int64, v = .long x ∧ x.toInt = a
  | .inr (.inr k), v => (∃ j : Nat, k = (j : Int) ∧ j < n ∧ v = .ref (ad j)) ∨ (∃ j : Nat, k = -(j : Int) ∧ 1 ≤ j ∧ j ≤ 5 ∧ v = .ref (ro j)) ∨ (k < -5 ∧ v = .null)
def pcat : PV → Nat
  | .inr (.inl _) => 2
  | _ => 1
theorem vr_cat {ad ro : Nat → Nat} {n : Nat} {x : PV} {v : Value} (h : vr ad ro n x v) : v.category = pcat x := by
  rcases x with a | a | a
  · obtain ⟨y, rfl, -⟩ := h
    rfl
  · obtain ⟨y, rfl, -⟩ := h
    rfl
  · rcases h with ⟨j, -, -, rfl⟩ | ⟨j, -, -, -, rfl⟩ | ⟨-, rfl⟩ <;> rfl
theorem vr_mono {ad ad' ro : Nat → Nat} {n n' : Nat} (hn : n ≤ n') (ha : ∀ j, j < n → ad' j = ad j) {x : PV} {v : Value} (h : vr ad ro n x v) : vr ad' ro n' x v := by
  rcases x with a | a | a
  · exact h
  · exact h
  · rcases h with ⟨j, h1, h2, h3⟩ | h | h
    · exact Or.inl ⟨j, h1, Nat.lt_of_lt_of_le h2 hn, by rw [ha j h2]; exact h3⟩
    · exact Or.inr (Or.inl h)
    · exact Or.inr (Or.inr h)
def sR (V : PV → Value → Prop) : List PV → List Value → Prop
  | [], [] => True
  | a :: as, b :: bs => V a b ∧ sR V as bs
  | _, _ => False
def pRl (V : PV → Value → Prop) : List (Nat × PV) → List (Nat × Value) → Prop
  | [], [] => True
  | a :: as, b :: bs => (a.1 = b.1 ∧ V a.2 b.2) ∧ pRl V as bs
  | _, _ => False
theorem sR_imp {V V' : PV → Value → Prop} (h : ∀ x v, V x v → V' x v) : ∀ (l : List PV) (m : List Value), sR V l m → sR V' l m
  | [], [], _ => trivial
  | _ :: as, _ :: bs, q => ⟨h _ _ q.1, sR_imp h as bs q.2⟩
  | [], _ :: _, q => q.elim
  | _ :: _, [], q => q.elim
theorem pRl_imp {V V' : PV → Value → Prop} (h : ∀ x v, V x v → V' x v) : ∀ (l : List (Nat × PV)) (m : List (Nat × Value)), pRl V l m → pRl V' l m
  | [], [], _ => trivial
  | _ :: as, _ :: bs, q => ⟨⟨q.1.1, h _ _ q.1.2⟩, pRl_imp h as bs q.2⟩
  | [], _ :: _, q => q.elim
  | _ :: _, [], q => q.elim
theorem pRl_get {V : PV → Value → Prop} : ∀ {l : List (Nat × PV)} {m : List (Nat × Value)} (_ : pRl V l m) {k i : Nat} {x : PV}, l[k]? = some (i, x) → ∃ v, m[k]? = some (i, v) ∧ V x v
  | [], [], _, k, i, x, h => by simp at h
  | a :: as, b :: bs, q, 0, i, x, h => by
    simp only [List.getElem?_cons_zero, Option.some.injEq] at h
    subst h
    obtain ⟨⟨q1, q2⟩, -⟩ := q
    exact ⟨b.2, by simp only [List.getElem?_cons_zero]; exact congrArg some (Prod.ext q1.symm rfl), q2⟩
  | a :: as, b :: bs, q, k + 1, i, x, h => by
    simp only [List.getElem?_cons_succ] at h ⊢
    exact pRl_get q.2 h
  | [], _ :: _, q, _, _, _, _ => q.elim
  | _ :: _, [], q, _, _, _, _ => q.elim
theorem pRl_filter {V : PV → Value → Prop} {f : Nat × PV → Bool} {g : Nat × Value → Bool} (h : ∀ a b, a.1 = b.1 → V a.2 b.2 → f a = g b) : ∀ (l : List (Nat × PV)) (m : List (Nat × Value)), pRl V l m → pRl V (l.filter f) (m.filter g)
  | [], [], _ => trivial
  | a :: as, b :: bs, q => by
    have e := h a b q.1.1 q.1.2
    have r := pRl_filter h as bs q.2
    rw [List.filter_cons, List.filter_cons, ← e]
    split
    · exact ⟨q.1, r⟩
    · exact r
  | [], _ :: _, q => q.elim
  | _ :: _, [], q => q.elim
theorem sR_app {V : PV → Value → Prop} : ∀ {a b : List PV} {m : List Value}, sR V (a ++ b) m → ∃ m1 m2, m = m1 ++ m2 ∧ sR V a m1 ∧ sR V b m2
  | [], b, m, h => ⟨[], m, rfl, trivial, h⟩
  | x :: a, b, [], h => h.elim
  | x :: a, b, v :: m, h => by
    obtain ⟨m1, m2, e, h1, h2⟩ := sR_app h.2
    exact ⟨v :: m1, m2, by rw [e]; rfl, ⟨h.1, h1⟩, h2⟩
theorem sR_snoc {V : PV → Value → Prop} : ∀ {a : List PV} {m : List Value} {x : PV} {v : Value}, sR V a m → V x v → sR V (a ++ [x]) (m ++ [v])
  | [], [], x, v, _, h => ⟨h, trivial⟩
  | _ :: _, _ :: _, _, _, q, h => ⟨q.1, sR_snoc q.2 h⟩
  | [], _ :: _, _, _, q, _ => q.elim
  | _ :: _, [], _, _, q, _ => q.elim
theorem sR_rev {V : PV → Value → Prop} : ∀ {a : List PV} {m : List Value}, sR V a m → sR V a.reverse m.reverse
  | [], [], _ => trivial
  | x :: a, v :: m, q => by
    rw [List.reverse_cons, List.reverse_cons]
    exact sR_snoc (sR_rev q.2) q.1
  | [], _ :: _, q => q.elim
  | _ :: _, [], q => q.elim
theorem sR_len {V : PV → Value → Prop} : ∀ {a : List PV} {m : List Value}, sR V a m → m.length = a.length
  | [], [], _ => rfl
  | x :: a, v :: m, q => by rw [List.length_cons, List.length_cons, sR_len q.2]
  | [], _ :: _, q => q.elim
  | _ :: _, [], q => q.elim
theorem sR_cat {ad ro : Nat → Nat} {n : Nat} : ∀ {a : List PV} {m : List Value}, sR (vr ad ro n) a m → (m.map fun v => v.category) = a.map pcat
  | [], [], _ => rfl
  | x :: a, v :: m, q => by rw [List.map_cons, List.map_cons, vr_cat q.1, sR_cat q.2]
  | [], _ :: _, q => q.elim
  | _ :: _, [], q => q.elim
section
variable {ad ro : Nat → Nat} {n : Nat} {st : List PV} {m : List Value}
theorem sR_I {a : Int} (h : sR (vr ad ro n) (pI a :: st) m) : ∃ (x : Int32) (m' : List Value), m = .int x :: m' ∧ x.toInt = a ∧ sR (vr ad ro n) st m' := by
  cases m with
  | nil => exact h.elim
  | cons b bs =>
    obtain ⟨⟨x, rfl, hx⟩, h2⟩ := h
    exact ⟨x, bs, rfl, hx, h2⟩
theorem sR_L {a : Int} (h : sR (vr ad ro n) (pL a :: st) m) : ∃ (x : Int64) (m' : List Value), m = .long x :: m' ∧ x.toInt = a ∧ sR (vr ad ro n) st m' := by
  cases m with
  | nil => exact h.elim
  | cons b bs =>
    obtain ⟨⟨x, rfl, hx⟩, h2⟩ := h
    exact ⟨x, bs, rfl, hx, h2⟩
theorem sR_R {k : Int} (h : sR (vr ad ro n) (pR k :: st) m) (h0 : 0 ≤ k) : ∃ (j : Nat) (m' : List Value), m = .ref (ad j) :: m' ∧ k = (j : Int) ∧ j < n ∧ sR (vr ad ro n) st m' := by
  cases m with
  | nil => exact h.elim
  | cons b bs =>
    obtain ⟨h1, h2⟩ := h
    rcases h1 with ⟨j, q1, q2, rfl⟩ | ⟨j, q1, q2, -, -⟩ | ⟨q1, -⟩
    · exact ⟨j, bs, rfl, q1, q2, h2⟩
    · omega
    · omega
theorem sR_O {k : Nat} (h : sR (vr ad ro n) (pR (-(k : Int)) :: st) m) (h1 : 1 ≤ k) (h5 : k ≤ 5) : ∃ (m' : List Value), m = .ref (ro k) :: m' ∧ True ∧ sR (vr ad ro n) st m' := by
  cases m with
  | nil => exact h.elim
  | cons b bs =>
    obtain ⟨q, h2⟩ := h
    rcases q with ⟨j, q1, q2, rfl⟩ | ⟨j, q1, q2, q3, rfl⟩ | ⟨q1, -⟩
    · omega
    · have : j = k := by omega
      subst this
      exact ⟨bs, rfl, trivial, h2⟩
    · omega
theorem sR_any {x : PV} (h : sR (vr ad ro n) (x :: st) m) : ∃ (v : Value) (m' : List Value), m = v :: m' ∧ vr ad ro n x v ∧ sR (vr ad ro n) st m' := by
  cases m with
  | nil => exact h.elim
  | cons b bs => exact ⟨b, bs, rfl, h.1, h.2⟩
end
/-- what a field is, as a value -/
def pvF (c j : Nat) (rf w : WD) (k : Int) : PV := if FK c j = 1 then pL (w k j) else if FK c j = 2 then pR (rf k j) else pI (w k j)
def cR (ad ro : Nat → Nat) (n : Nat) (ty : Nat → ClassId) (rf w : WD) (k : Int) (e : va_E) : Prop :=
  (∃ t, t < 4 ∧ (SH k).1 = t ∧ ∃ f : Nat → Int32, e = .inl (ty t, (SH k).2, .inl f) ∧ ∀ j : Nat, j < (SH k).2 → (f j).toInt = w k j) ∨
  ((SH k).1 = 4 ∧ ∃ f : Nat → Int64, e = .inl (ty 4, (SH k).2, .inr (.inl f)) ∧ ∀ j : Nat, j < (SH k).2 → (f j).toInt = w k j) ∨
  ((SH k).1 = 5 ∧ ∃ f : Nat → Option Nat, e = .inl (ty 5, (SH k).2, .inr (.inr (.inr (.inr f)))) ∧ ∀ j : Nat, j < (SH k).2 → vr ad ro n (pR (rf k j)) (va_rf (f j))) ∨
  (∃ c, (SH k).1 = 10 + c ∧ ∃ fs : List Value, e = .inr (c, fs) ∧ fs.length = (SH k).2 ∧ ∀ j : Nat, j < (SH k).2 → ∃ v, fs[j]? = some v ∧ vr ad ro n (pvF c j rf w k) v)
theorem cR_mono {ad ad' ro : Nat → Nat} {n n' : Nat} {ty : Nat → ClassId} {rf w rf' w' : WD} {k : Int} {e : va_E} (hn : n ≤ n') (ha : ∀ j, j < n → ad' j = ad j) (hw : ∀ j, w' k j = w k j) (hr : ∀ j, rf' k j = rf k j) (h : cR ad ro n ty rf w k e) : cR ad' ro n' ty rf' w' k e := by
  rcases h with ⟨t, h1, h2, f, h3, h4⟩ | ⟨h1, f, h3, h4⟩ | ⟨h1, f, h3, h4⟩ | ⟨c, h1, fs, h3, h5, h4⟩
  · exact Or.inl ⟨t, h1, h2, f, h3, fun j hj => by rw [hw]; exact h4 j hj⟩
  · exact Or.inr (Or.inl ⟨h1, f, h3, fun j hj => by rw [hw]; exact h4 j hj⟩)
  · exact Or.inr (Or.inr (Or.inl ⟨h1, f, h3, fun j hj => by rw [hr]; exact vr_mono hn ha (h4 j hj)⟩))
  · refine Or.inr (Or.inr (Or.inr ⟨c, h1, fs, h3, h5, fun j hj => ?_⟩))
    obtain ⟨v, q1, q2⟩ := h4 j hj
    refine ⟨v, q1, ?_⟩
    unfold pvF at q2 ⊢
    rw [hw, hr]
    exact vr_mono hn ha q2
/-- the cells of a world -/
def cells_ok (ad ro : Nat → Nat) (n : Nat) (ty : Nat → ClassId) (rf w : WD) (ws : va_W) : Prop := ws.length = n ∧ ∀ j : Nat, j < n → ∃ e, ws[j]? = some (ad j, e) ∧ cR ad ro n ty rf w j e
def TYS (ty : Nat → ClassId) : List (ClassId × FieldType) := [(ty 0, .int), (ty 1, .byte), (ty 2, .boolean), (ty 3, .short), (ty 4, .long), (ty 5, .object "BehindTheMask$Shelf")]
def IV (ad0 : Nat → Nat) (n0 : Nat) (ro : Nat → Nat) (D : va_G) (ty : Nat → ClassId) (ad : Nat → Nat) (A : Nat → Prop) (s : State) (H : Heap) (locs : List Loc) (ws : va_W) (w rf : WD) (n : Nat) : Prop :=
  va_P D classes ws H ∧ va_D A ws ∧ va_S A s.heap H locs ∧ cells_ok ad ro n ty rf w ws ∧ n0 ≤ n ∧ ∀ j, j < n0 → ad j = ad0 j
def gX (E : Nat × (Int → Int)) (ro : Nat → Nat) (A : Nat → Prop) (s : State) : Prop :=
  (∀ k, 1 ≤ k → k ≤ 5 → ∃ f : Nat → Value, va_T .int (ro k) (roN E k) f A s s.heap ∧ ∀ j : Nat, j < roN E k → ∃ x : Int32, f j = .int x ∧ x.toInt = roV E k j) ∧
  (∀ k, 2 ≤ k → k ≤ 5 → va_Z (stN k).1 (stN k).2 "[I" (.ref (ro k)) A s s.heap) ∧ va_AO "BehindTheMask$Shelf" s ∧ E.1 ≤ 3072 ∧ ∀ q ∈ nests, va_Nw (.methodLinkNest RX7 q.1 q.2 "BehindTheMask") s
def CX (E : Nat × (Int → Int)) (M : MR) (d : Nat) (D : va_G) (ty : Nat → ClassId) (ro : Nat → Nat) (p : Program) (R : Room) (s : State) (m : MethodId) (args : Array Value) (meth : Method) (cc : Code) (A : Nat → Prop) : Prop :=
  p.tables.exec = Jvm.exec ∧ cc.code = mB M ∧ cc.maxLocals = mL M ∧ meth.sig.returnType = mT M ∧ s.vm.findClass (mY M).cls = some m.cls ∧ (∀ w ∈ lw_g, w.before args s = true) ∧ va_K D classes (TYS ty) s ∧ (∀ q, s.heap.size ≤ q → A q) ∧ gX E ro A s ∧ (d ≤ R.frames ∧ 64 * d ≤ R.locals ∧ mC M ≤ R.cells ∧ mS M ≤ R.slots) ∧ meth.locks = false ∧ ((mY M).name = "<init>" → meth.name = "<init>")
def EN (M : MR) (ad0 : Nat → Nat) (n0 : Nat) (D : va_G) (ty : Nat → ClassId) (ro : Nat → Nat) (p : Program) (l0 : Launch) (e : Env) (R : Room) (s : State) (m : MethodId) (args : Array Value) (below : List Frame) (meth : Method) (cc : Code) (A : Nat → Prop) (Q : State → Prop) (res : Option PV × WD × WD × Nat) : Prop :=
  ∀ (ad : Nat → Nat) (ws : va_W) (H : Heap) (locs : List Loc) (pc : Nat) (ls : Array Slot) (c z : Nat), IV ad0 n0 ro D ty ad A s H locs ws res.2.1 res.2.2.1 res.2.2.2 → c ≤ mC M → z ≤ mS M →
  match res.1 with
  | none => decode (mB M) pc = .ok (.return_, 1) → W p l0 e R s m args below meth cc H locs c z Q (F0 m pc ls [])
  | some (.inl r) => ∀ x : Int32, x.toInt = r → (mT M = some .boolean → r = 0 ∨ r = 1) → decode (mB M) pc = .ok (.ireturn, 1) → W p l0 e R s m args below meth cc H locs c z Q (F0 m pc ls [.int x])
  | some (.inr (.inl r)) => ∀ x : Int64, x.toInt = r → decode (mB M) pc = .ok (.lreturn, 1) → W p l0 e R s m args below meth cc H locs c z Q (F0 m pc ls [.long x])
  | some (.inr (.inr _)) => True
/-- from here the method comes to this end: an answer, the world then, the references, how many cells -/
def G (E : Nat × (Int → Int)) (M : MR) (d pc : Nat) (l : List (Nat × PV)) (st : List PV) (w rf : WD) (n c z : Nat) (res : Option PV × WD × WD × Nat) : Prop :=
  ∀ (ad0 : Nat → Nat) (n0 : Nat) (l0 : Launch) (D : va_G) (ty : Nat → ClassId) (ro : Nat → Nat) (p : Program) (e : Env) (R : Room) (s : State) (m : MethodId) (args : Array Value) (below : List Frame) (meth : Method) (cc : Code) (A : Nat → Prop) (Q : State → Prop),
    CX E M d D ty ro p R s m args meth cc A → EN M ad0 n0 D ty ro p l0 e R s m args below meth cc A Q res →
    ∀ (ad : Nat → Nat) (ws : va_W) (H : Heap) (locs : List Loc) (ls : Array Slot) (lv : List (Nat × Value)) (sm : List Value),
      IV ad0 n0 ro D ty ad A s H locs ws w rf n → lv_has ls (mL M) lv → pRl (vr ad ro n) l lv → sR (vr ad ro n) st sm →
      W p l0 e R s m args below meth cc H locs c z Q (F0 m pc ls sm)
def setL1 (i : Nat) (x : PV) (l : List (Nat × PV)) : List (Nat × PV) := (i, x) :: l.filter (fun q => !(q.1 == i) && !(q.1 + 1 == i && pcat q.2 == 2))
def setL2 (i : Nat) (x : PV) (l : List (Nat × PV)) : List (Nat × PV) := (i, x) :: l.filter (fun q => !(q.1 == i) && (!(q.1 == i + 1) && !(q.1 + 1 == i && pcat q.2 == 2)))
theorem setL1_r {ad ro : Nat → Nat} {n : Nat} {i : Nat} {x : PV} {v : Value} {l : List (Nat × PV)} {lv : List (Nat × Value)} (h : pRl (vr ad ro n) l lv) (hv : vr ad ro n x v) : pRl (vr ad ro n) (setL1 i x l) ((i, v) :: lv.filter (fun q => !(q.1 == i) && !(q.1 + 1 == i && q.2.category == 2))) :=
  ⟨⟨rfl, hv⟩, pRl_filter (fun a b e q => by rw [e, vr_cat q]) l lv h⟩
theorem setL2_r {ad ro : Nat → Nat} {n : Nat} {i : Nat} {x : PV} {v : Value} {l : List (Nat × PV)} {lv : List (Nat × Value)} (h : pRl (vr ad ro n) l lv) (hv : vr ad ro n x v) : pRl (vr ad ro n) (setL2 i x l) ((i, v) :: lv.filter (fun q => !(q.1 == i) && (!(q.1 == i + 1) && !(q.1 + 1 == i && q.2.category == 2)))) :=
  ⟨⟨rfl, hv⟩, pRl_filter (fun a b e q => by rw [e, vr_cat q]) l lv h⟩
theorem pick_r {V : PV → Value → Prop} {l : List (Nat × PV)} {lv : List (Nat × Value)} (h : pRl V l lv) : ∀ (ks : List Nat), ks.all (fun k => decide (k < l.length)) = true → pRl V (ks.filterMap (fun k => l[k]?)) (ks.filterMap (fun k => lv[k]?))
  | [], _ => trivial
  | k :: ks, hk => by
    rw [List.all_cons, Bool.and_eq_true, decide_eq_true_eq] at hk
    have e : l[k]? = some (l[k].1, l[k].2) := List.getElem?_eq_getElem hk.1
    obtain ⟨v, h1, h2⟩ := pRl_get h e
    rw [List.filterMap_cons, List.filterMap_cons, e, h1]
    exact ⟨⟨rfl, h2⟩, pick_r h ks hk.2⟩
theorem TYS_at {ty : Nat → ClassId} {t : Nat} (h : t < 4) : ∃ f, (TYS ty)[t]? = some (ty t, f) ∧ (t = 0 → f = .int) ∧ (t = 1 → f = .byte) ∧ (t = 2 → f = .boolean) ∧ (t = 3 → f = .short) := by
  rcases (by omega : t = 0 ∨ t = 1 ∨ t = 2 ∨ t = 3) with rfl | rfl | rfl | rfl <;> exact ⟨_, rfl, fun h => by first | rfl | omega, fun h => by first | rfl | omega, fun h => by first | rfl | omega, fun h => by first | rfl | omega⟩
/-- a world with one cell changed -/
theorem IV_set {ad0 : Nat → Nat} {n0 : Nat} {ro : Nat → Nat} {D : va_G} {ty : Nat → ClassId} {ad : Nat → Nat} {A : Nat → Prop} {s : State} {H H1 : Heap} {locs locs1 : List Loc} {ws : va_W} {w rf w' rf' : WD} {n k : Nat} {e : va_E} (h : IV ad0 n0 ro D ty ad A s H locs ws w rf n) (hk : k < n)
    (hP : va_P D classes (ws.set k (ad k, e)) H1) (hD : va_D A (ws.set k (ad k, e))) (hS : va_S A s.heap H1 locs1) (he : cR ad ro n ty rf' w' k e) (hw : ∀ (i j : Int), i ≠ k → w' i j = w i j) (hr : ∀ (i j : Int), i ≠ k → rf' i j = rf i j) : IV ad0 n0 ro D ty ad A s H1 locs1 (ws.set k (ad k, e)) w' rf' n := by
  obtain ⟨-, -, -, ⟨hl, hc⟩, h5, h6⟩ := h
  refine ⟨hP, hD, hS, ⟨by rw [List.length_set]; exact hl, fun j hj => ?_⟩, h5, h6⟩
  by_cases q : k = j
  · subst q
    exact ⟨e, by rw [List.getElem?_set_self (by omega)], he⟩
  · obtain ⟨e2, h1, h2⟩ := hc j hj
    refine ⟨e2, by rw [List.getElem?_set_ne q]; exact h1, ?_⟩
    exact cR_mono (Nat.le_refl n) (fun _ _ => rfl) (fun i => hw _ _ (by omega)) (fun i => hr _ _ (by omega)) h2
theorem up_ne {w : WD} {k i v a b : Int} (h : a ≠ k) : up w k i v a b = w a b := by
  unfold up
  rw [if_neg (fun q => h q.1)]
theorem up_self {w : WD} {k i v : Int} : up w k i v k i = v := by
  unfold up
  rw [if_pos ⟨rfl, rfl⟩]
theorem up_ne2 {w : WD} {k i v a b : Int} (h : b ≠ i) : up w k i v a b = w a b := by
  unfold up
  rw [if_neg (fun q => h q.2)]
theorem upd_r {f : Nat → Int32} {w : WD} {k : Int} {N j : Nat} {x : Int32} {v : Int} (h : ∀ i : Nat, i < N → (f i).toInt = w k i) (hx : x.toInt = v) : ∀ i : Nat, i < N → (upd f j x i).toInt = up w k j v k i := by
  intro i hi
  unfold upd up
  by_cases q : i = j
  · rw [if_pos q, if_pos ⟨rfl, by omega⟩]
    exact hx
  · rw [if_neg q, if_neg (fun z => q (by omega))]
    exact h i hi
theorem updL_r {f : Nat → Int64} {w : WD} {k : Int} {N j : Nat} {x : Int64} {v : Int} (h : ∀ i : Nat, i < N → (f i).toInt = w k i) (hx : x.toInt = v) : ∀ i : Nat, i < N → (vp_updL f j x i).toInt = up w k j v k i := by
  intro i hi
  unfold vp_updL up
  by_cases q : i = j
  · rw [if_pos q, if_pos ⟨rfl, by omega⟩]
    exact hx
  · rw [if_neg q, if_neg (fun z => q (by omega))]
    exact h i hi
theorem vpin {x : Int32} {i : Int} {N : Nat} (hx : x.toInt = i) (h : 0 ≤ i ∧ i < (N : Int)) : vp_in x N := vp_in_iff.mpr (by rw [hx]; exact h)
theorem ixn {x : Int32} {i : Int} {N : Nat} (hx : x.toInt = i) (h : 0 ≤ i ∧ i < (N : Int)) : x.toNatClampNeg < N ∧ ((x.toNatClampNeg : Nat) : Int) = i := by
  have e : x.toNatClampNeg = i.toNat := by rw [← hx]; rfl
  rw [e]
  omega
section RULES
variable {E : Nat × (Int → Int)} {M : MR} {d pc : Nat} {l : List (Nat × PV)} {st : List PV} {w rf : WD} {n c z : Nat} {res : Option PV × WD × WD × Nat}
theorem g_iconst {v : Int} (hd : decode (mB M) pc = .ok (.iconst v, 1)) (hv : -2147483648 ≤ v ∧ v < 2147483648) (k : G E M d (pc + 1) l (pI v :: st) w rf n c z res) : G E M d pc l st w rf n c z res := by
  intro ad0 n0 l0 D ty ro p e R s m args below meth cc A Q C hE ad ws H locs ls lv sm I hl hp hs
  have hx := C.1
  have hb := C.2.1
  exact lv_iconst hx hb hd rfl (k ad0 n0 l0 D ty ro p e R s m args below meth cc A Q C hE ad ws H locs ls lv _ I hl hp ⟨⟨_, rfl, Int32.toInt_ofInt_of_le (by omega) (by omega)⟩, hs⟩)
theorem g_bipush {v : Int} (hd : decode (mB M) pc = .ok (.bipush v, 2)) (hv : -128 ≤ v ∧ v < 128) (k : G E M d (pc + 2) l (pI v :: st) w rf n c z res) : G E M d pc l st w rf n c z res := by
  intro ad0 n0 l0 D ty ro p e R s m args below meth cc A Q C hE ad ws H locs ls lv sm I hl hp hs
  have hx := C.1
  have hb := C.2.1
  exact lv_bipush hx hb hd rfl (k ad0 n0 l0 D ty ro p e R s m args below meth cc A Q C hE ad ws H locs ls lv _ I hl hp ⟨⟨_, rfl, by rw [Int8.toInt_toInt32]; exact Int8.toInt_ofInt_of_le (by omega) (by omega)⟩, hs⟩)
theorem g_sipush {v : Int} (hd : decode (mB M) pc = .ok (.sipush v, 3)) (hv : -32768 ≤ v ∧ v < 32768) (k : G E M d (pc + 3) l (pI v :: st) w rf n c z res) : G E M d pc l st w rf n c z res := by
  intro ad0 n0 l0 D ty ro p e R s m args below meth cc A Q C hE ad ws H locs ls lv sm I hl hp hs
  have hx := C.1
  have hb := C.2.1
  exact lv_sipush hx hb hd rfl (k ad0 n0 l0 D ty ro p e R s m args below meth cc A Q C hE ad ws H locs ls lv _ I hl hp ⟨⟨_, rfl, by rw [Int16.toInt_toInt32]; exact Int16.toInt_ofInt_of_le (by omega) (by omega)⟩, hs⟩)
theorem g_lconst0 (hd : decode (mB M) pc = .ok (.lconst 0, 1)) (k : G E M d (pc + 1) l (pL 0 :: st) w rf n c z res) : G E M d pc l st w rf n c z res := by
  intro ad0 n0 l0 D ty ro p e R s m args below meth cc A Q C hE ad ws H locs ls lv sm I hl hp hs
  have hx := C.1
  have hb := C.2.1
  exact lv_lconst hx hb hd rfl (k ad0 n0 l0 D ty ro p e R s m args below meth cc A Q C hE ad ws H locs ls lv _ I hl hp ⟨⟨_, rfl, by decide⟩, hs⟩)
theorem g_lconst1 (hd : decode (mB M) pc = .ok (.lconst 1, 1)) (k : G E M d (pc + 1) l (pL 1 :: st) w rf n c z res) : G E M d pc l st w rf n c z res := by
  intro ad0 n0 l0 D ty ro p e R s m args below meth cc A Q C hE ad ws H locs ls lv sm I hl hp hs
  have hx := C.1
  have hb := C.2.1
  exact lv_lconst hx hb hd rfl (k ad0 n0 l0 D ty ro p e R s m args below meth cc A Q C hE ad ws H locs ls lv _ I hl hp ⟨⟨_, rfl, by decide⟩, hs⟩)
theorem g_ldc {ix : Nat} {v : Int32} {u : Int} (hw : Cond.constant (mY M).cls ix v ∈ lw_g) (hu : v.toInt = u) (hd : decode (mB M) pc = .ok (.ldc ix, 2)) (k : G E M d (pc + 2) l (pI u :: st) w rf n c z res) : G E M d pc l st w rf n c z res := by
  intro ad0 n0 l0 D ty ro p e R s m args below meth cc A Q C hE ad ws H locs ls lv sm I hl hp hs
  have hx := C.1
  have hb := C.2.1
  exact lv_ldc hx hb C.2.2.2.2.1 (C.2.2.2.2.2.1 _ hw) hd (k ad0 n0 l0 D ty ro p e R s m args below meth cc A Q C hE ad ws H locs ls lv _ I hl hp ⟨⟨_, rfl, hu⟩, hs⟩)
theorem g_ldc_w {ix : Nat} {v : Int32} {u : Int} (hw : Cond.constant (mY M).cls ix v ∈ lw_g) (hu : v.toInt = u) (hd : decode (mB M) pc = .ok (.ldc_w ix, 3)) (k : G E M d (pc + 3) l (pI u :: st) w rf n c z res) : G E M d pc l st w rf n c z res := by
  intro ad0 n0 l0 D ty ro p e R s m args below meth cc A Q C hE ad ws H locs ls lv sm I hl hp hs
  have hx := C.1
  have hb := C.2.1
  exact lv_ldcw hx hb C.2.2.2.2.1 (C.2.2.2.2.2.1 _ hw) hd (k ad0 n0 l0 D ty ro p e R s m args below meth cc A Q C hE ad ws H locs ls lv _ I hl hp ⟨⟨_, rfl, hu⟩, hs⟩)
theorem g_ldc2 {ix : Nat} {v : Int64} {u : Int} (hw : Cond.constantLong (mY M).cls ix v ∈ lw_g) (hu : v.toInt = u) (hd : decode (mB M) pc = .ok (.ldc2_w ix, 3)) (k : G E M d (pc + 3) l (pL u :: st) w rf n c z res) : G E M d pc l st w rf n c z res := by
  intro ad0 n0 l0 D ty ro p e R s m args below meth cc A Q C hE ad ws H locs ls lv sm I hl hp hs
  have hx := C.1
  have hb := C.2.1
  exact lv_ldc2 hx hb C.2.2.2.2.1 (C.2.2.2.2.2.1 _ hw) hd (k ad0 n0 l0 D ty ro p e R s m args below meth cc A Q C hE ad ws H locs ls lv _ I hl hp ⟨⟨_, rfl, hu⟩, hs⟩)
theorem g_iload_n {q : Fin 4} {j : Nat} {a : Int} (hd : decode (mB M) pc = .ok (.iload_n q, 1)) (hj : l[j]? = some ((q : Nat), pI a)) (k : G E M d (pc + 1) l (pI a :: st) w rf n c z res) : G E M d pc l st w rf n c z res := by
  intro ad0 n0 l0 D ty ro p e R s m args below meth cc A Q C hE ad ws H locs ls lv sm I hl hp hs
  have hx := C.1
  have hb := C.2.1
  obtain ⟨v, h1, x, rfl, h2⟩ := pRl_get hp hj
  exact lv_iload_n hx hb hd rfl (lv_at hl j h1) (k ad0 n0 l0 D ty ro p e R s m args below meth cc A Q C hE ad ws H locs ls lv _ I hl hp ⟨⟨x, rfl, h2⟩, hs⟩)
theorem g_iload {q j : Nat} {a : Int} (hd : decode (mB M) pc = .ok (.iload q, 2)) (hj : l[j]? = some (q, pI a)) (k : G E M d (pc + 2) l (pI a :: st) w rf n c z res) : G E M d pc l st w rf n c z res := by
  intro ad0 n0 l0 D ty ro p e R s m args below meth cc A Q C hE ad ws H locs ls lv sm I hl hp hs
  have hx := C.1
  have hb := C.2.1
  obtain ⟨v, h1, x, rfl, h2⟩ := pRl_get hp hj
  exact lv_iload hx hb hd (lv_at hl j h1) (k ad0 n0 l0 D ty ro p e R s m args below meth cc A Q C hE ad ws H locs ls lv _ I hl hp ⟨⟨x, rfl, h2⟩, hs⟩)
theorem g_lload_n {q : Fin 4} {j : Nat} {a : Int} (hd : decode (mB M) pc = .ok (.lload_n q, 1)) (hj : l[j]? = some ((q : Nat), pL a)) (k : G E M d (pc + 1) l (pL a :: st) w rf n c z res) : G E M d pc l st w rf n c z res := by
  intro ad0 n0 l0 D ty ro p e R s m args below meth cc A Q C hE ad ws H locs ls lv sm I hl hp hs
  have hx := C.1
  have hb := C.2.1
  obtain ⟨v, h1, x, rfl, h2⟩ := pRl_get hp hj
  exact lv_lload_n hx hb hd rfl (lv_at hl j h1) (k ad0 n0 l0 D ty ro p e R s m args below meth cc A Q C hE ad ws H locs ls lv _ I hl hp ⟨⟨x, rfl, h2⟩, hs⟩)
theorem g_lload {q j : Nat} {a : Int} (hd : decode (mB M) pc = .ok (.lload q, 2)) (hj : l[j]? = some (q, pL a)) (k : G E M d (pc + 2) l (pL a :: st) w rf n c z res) : G E M d pc l st w rf n c z res := by
  intro ad0 n0 l0 D ty ro p e R s m args below meth cc A Q C hE ad ws H locs ls lv sm I hl hp hs
  have hx := C.1
  have hb := C.2.1
  obtain ⟨v, h1, x, rfl, h2⟩ := pRl_get hp hj
  exact lv_lload hx hb hd (lv_at hl j h1) (k ad0 n0 l0 D ty ro p e R s m args below meth cc A Q C hE ad ws H locs ls lv _ I hl hp ⟨⟨x, rfl, h2⟩, hs⟩)
theorem g_aload_n {q : Fin 4} {j : Nat} {a : Int} (hd : decode (mB M) pc = .ok (.aload_n q, 1)) (hj : l[j]? = some ((q : Nat), pR a)) (h0 : -5 ≤ a) (k : G E M d (pc + 1) l (pR a :: st) w rf n c z res) : G E M d pc l st w rf n c z res := by
  intro ad0 n0 l0 D ty ro p e R s m args below meth cc A Q C hE ad ws H locs ls lv sm I hl hp hs
  have hx := C.1
  have hb := C.2.1
  obtain ⟨v, h1, h2⟩ := pRl_get hp hj
  have h3 : ∃ y, v = .ref y := by
    rcases h2 with ⟨j, -, -, q⟩ | ⟨j, -, -, -, q⟩ | ⟨q, -⟩
    · exact ⟨_, q⟩
    · exact ⟨_, q⟩
    · omega
  obtain ⟨y, rfl⟩ := h3
  exact lv_aload_n hx hb hd rfl (lv_at hl j h1) (k ad0 n0 l0 D ty ro p e R s m args below meth cc A Q C hE ad ws H locs ls lv _ I hl hp ⟨h2, hs⟩)
theorem g_aload {q j : Nat} {a : Int} (hd : decode (mB M) pc = .ok (.aload q, 2)) (hj : l[j]? = some (q, pR a)) (h0 : -5 ≤ a) (k : G E M d (pc + 2) l (pR a :: st) w rf n c z res) : G E M d pc l st w rf n c z res := by
  intro ad0 n0 l0 D ty ro p e R s m args below meth cc A Q C hE ad ws H locs ls lv sm I hl hp hs
  have hx := C.1
  have hb := C.2.1
  obtain ⟨v, h1, h2⟩ := pRl_get hp hj
  have h3 : ∃ y, v = .ref y := by
    rcases h2 with ⟨j, -, -, q⟩ | ⟨j, -, -, -, q⟩ | ⟨q, -⟩
    · exact ⟨_, q⟩
    · exact ⟨_, q⟩
    · omega
  obtain ⟨y, rfl⟩ := h3
  exact lv_aload hx hb hd (lv_at hl j h1) (k ad0 n0 l0 D ty ro p e R s m args below meth cc A Q C hE ad ws H locs ls lv _ I hl hp ⟨h2, hs⟩)
theorem g_istore_n {q : Fin 4} {a : Int} {l' : List (Nat × PV)} (hd : decode (mB M) pc = .ok (.istore_n q, 1)) (hq : (q : Nat) < mL M) (hl' : setL1 q (pI a) l = l') (k : G E M d (pc + 1) l' st w rf n c z res) : G E M d pc l (pI a :: st) w rf n c z res := by
  intro ad0 n0 l0 D ty ro p e R s m args below meth cc A Q C hE ad ws H locs ls lv sm I hl hp hs
  have hx := C.1
  have hb := C.2.1
  obtain ⟨x, sm, rfl, h1, hs⟩ := sR_I hs
  subst hl'
  exact lv_istore_n hx hb hd rfl hl hq rfl (fun ls h => k ad0 n0 l0 D ty ro p e R s m args below meth cc A Q C hE ad ws H locs ls _ _ I h (setL1_r hp ⟨x, rfl, h1⟩) hs)
theorem g_istore {q : Nat} {a : Int} {l' : List (Nat × PV)} (hd : decode (mB M) pc = .ok (.istore q, 2)) (hq : q < mL M) (hl' : setL1 q (pI a) l = l') (k : G E M d (pc + 2) l' st w rf n c z res) : G E M d pc l (pI a :: st) w rf n c z res := by
  intro ad0 n0 l0 D ty ro p e R s m args below meth cc A Q C hE ad ws H locs ls lv sm I hl hp hs
  have hx := C.1
  have hb := C.2.1
  obtain ⟨x, sm, rfl, h1, hs⟩ := sR_I hs
  subst hl'
  exact lv_istore hx hb hd hl hq rfl (fun ls h => k ad0 n0 l0 D ty ro p e R s m args below meth cc A Q C hE ad ws H locs ls _ _ I h (setL1_r hp ⟨x, rfl, h1⟩) hs)
theorem g_lstore_n {q : Fin 4} {a : Int} {l' : List (Nat × PV)} (hd : decode (mB M) pc = .ok (.lstore_n q, 1)) (hq : (q : Nat) + 1 < mL M) (hl' : setL2 q (pL a) l = l') (k : G E M d (pc + 1) l' st w rf n c z res) : G E M d pc l (pL a :: st) w rf n c z res := by
  intro ad0 n0 l0 D ty ro p e R s m args below meth cc A Q C hE ad ws H locs ls lv sm I hl hp hs
  have hx := C.1
  have hb := C.2.1
  obtain ⟨x, sm, rfl, h1, hs⟩ := sR_L hs
  subst hl'
  exact lv_lstore_n hx hb hd rfl hl hq rfl (fun ls h => k ad0 n0 l0 D ty ro p e R s m args below meth cc A Q C hE ad ws H locs ls _ _ I h (setL2_r hp ⟨x, rfl, h1⟩) hs)
theorem g_lstore {q : Nat} {a : Int} {l' : List (Nat × PV)} (hd : decode (mB M) pc = .ok (.lstore q, 2)) (hq : q + 1 < mL M) (hl' : setL2 q (pL a) l = l') (k : G E M d (pc + 2) l' st w rf n c z res) : G E M d pc l (pL a :: st) w rf n c z res := by
  intro ad0 n0 l0 D ty ro p e R s m args below meth cc A Q C hE ad ws H locs ls lv sm I hl hp hs
  have hx := C.1
  have hb := C.2.1
  obtain ⟨x, sm, rfl, h1, hs⟩ := sR_L hs
  subst hl'
  exact lv_lstore hx hb hd hl hq rfl (fun ls h => k ad0 n0 l0 D ty ro p e R s m args below meth cc A Q C hE ad ws H locs ls _ _ I h (setL2_r hp ⟨x, rfl, h1⟩) hs)
theorem g_astore_n {q : Fin 4} {a : Int} {l' : List (Nat × PV)} (hd : decode (mB M) pc = .ok (.astore_n q, 1)) (hq : (q : Nat) < mL M) (h0 : 0 ≤ a) (hl' : setL1 q (pR a) l = l') (k : G E M d (pc + 1) l' st w rf n c z res) : G E M d pc l (pR a :: st) w rf n c z res := by
  intro ad0 n0 l0 D ty ro p e R s m args below meth cc A Q C hE ad ws H locs ls lv sm I hl hp hs
  have hx := C.1
  have hb := C.2.1
  obtain ⟨j, sm, rfl, h1, h2, hs⟩ := sR_R hs h0
  subst hl'
  exact lv_astore_n hx hb hd rfl hl hq rfl (fun ls h => k ad0 n0 l0 D ty ro p e R s m args below meth cc A Q C hE ad ws H locs ls _ _ I h (setL1_r hp (Or.inl ⟨j, h1, h2, rfl⟩)) hs)
theorem g_astore {q : Nat} {a : Int} {l' : List (Nat × PV)} (hd : decode (mB M) pc = .ok (.astore q, 2)) (hq : (q : Nat) < mL M) (h0 : 0 ≤ a) (hl' : setL1 q (pR a) l = l') (k : G E M d (pc + 2) l' st w rf n c z res) : G E M d pc l (pR a :: st) w rf n c z res := by
  intro ad0 n0 l0 D ty ro p e R s m args below meth cc A Q C hE ad ws H locs ls lv sm I hl hp hs
  have hx := C.1
  have hb := C.2.1
  obtain ⟨j, sm, rfl, h1, h2, hs⟩ := sR_R hs h0
  subst hl'
  exact lv_astore hx hb hd hl hq rfl (fun ls h => k ad0 n0 l0 D ty ro p e R s m args below meth cc A Q C hE ad ws H locs ls _ _ I h (setL1_r hp (Or.inl ⟨j, h1, h2, rfl⟩)) hs)
theorem g_iinc {i j : Nat} {v a : Int} {l' : List (Nat × PV)} (hd : decode (mB M) pc = .ok (.iinc i v, 3)) (hj : l[j]? = some (i, pI a)) (hv : -2147483648 ≤ v ∧ v < 2147483648) (hq : i < mL M) (hl' : setL1 i (pI (w32 (a + v))) l = l') (k : G E M d (pc + 3) l' st w rf n c z res) : G E M d pc l st w rf n c z res := by
  intro ad0 n0 l0 D ty ro p e R s m args below meth cc A Q C hE ad ws H locs ls lv sm I hl hp hs
  have hx := C.1
  have hb := C.2.1
  obtain ⟨y, h1, x, rfl, h2⟩ := pRl_get hp hj
  subst hl'
  exact lv_iinc hx hb hd hl h1 rfl hq rfl (fun ls h => k ad0 n0 l0 D ty ro p e R s m args below meth cc A Q C hE ad ws H locs ls _ _ I h (setL1_r hp ⟨x + Int32.ofInt v, rfl, by rw [Int32.toInt_add, h2, Int32.toInt_ofInt_of_le (by omega) (by omega), w32_b]⟩) hs)
theorem g_pick (ks : List Nat) {l' : List (Nat × PV)} (hk : ks.all (fun k => decide (k < l.length)) = true) (hl' : ks.filterMap (fun k => l[k]?) = l') (k : G E M d pc l' st w rf n c z res) : G E M d pc l st w rf n c z res := by
  intro ad0 n0 l0 D ty ro p e R s m args below meth cc A Q C hE ad ws H locs ls lv sm I hl hp hs
  have hx := C.1
  have hb := C.2.1
  subst hl'
  exact k ad0 n0 l0 D ty ro p e R s m args below meth cc A Q C hE ad ws H locs ls _ _ I (lv_sub hl ks rfl) (pick_r hp ks hk) hs
theorem g_iadd {a b : Int} (hd : decode (mB M) pc = .ok (.iadd, 1)) (k : G E M d (pc + 1) l (pI (w32 (a + b)) :: st) w rf n c z res) : G E M d pc l (pI b :: pI a :: st) w rf n c z res := by
  intro ad0 n0 l0 D ty ro p e R s m args below meth cc A Q C hE ad ws H locs ls lv sm I hl hp hs
  have hx := C.1
  have hb := C.2.1
  obtain ⟨y, sm, rfl, hy, hs⟩ := sR_I hs
  obtain ⟨x, sm, rfl, hx2, hs⟩ := sR_I hs
  exact lv_iadd hx hb hd (k ad0 n0 l0 D ty ro p e R s m args below meth cc A Q C hE ad ws H locs ls lv _ I hl hp ⟨⟨x + y, rfl, by rw [Int32.toInt_add, hx2, hy, w32_b]⟩, hs⟩)
theorem g_isub {a b : Int} (hd : decode (mB M) pc = .ok (.isub, 1)) (k : G E M d (pc + 1) l (pI (w32 (a - b)) :: st) w rf n c z res) : G E M d pc l (pI b :: pI a :: st) w rf n c z res := by
  intro ad0 n0 l0 D ty ro p e R s m args below meth cc A Q C hE ad ws H locs ls lv sm I hl hp hs
  have hx := C.1
  have hb := C.2.1
  obtain ⟨y, sm, rfl, hy, hs⟩ := sR_I hs
  obtain ⟨x, sm, rfl, hx2, hs⟩ := sR_I hs
  exact lv_isub hx hb hd (k ad0 n0 l0 D ty ro p e R s m args below meth cc A Q C hE ad ws H locs ls lv _ I hl hp ⟨⟨x - y, rfl, by rw [Int32.toInt_sub, hx2, hy, w32_b]⟩, hs⟩)
theorem g_imul {a b : Int} (hd : decode (mB M) pc = .ok (.imul, 1)) (k : G E M d (pc + 1) l (pI (w32 (a * b)) :: st) w rf n c z res) : G E M d pc l (pI b :: pI a :: st) w rf n c z res := by
  intro ad0 n0 l0 D ty ro p e R s m args below meth cc A Q C hE ad ws H locs ls lv sm I hl hp hs
  have hx := C.1
  have hb := C.2.1
  obtain ⟨y, sm, rfl, hy, hs⟩ := sR_I hs
  obtain ⟨x, sm, rfl, hx2, hs⟩ := sR_I hs
  exact lv_imul hx hb hd (k ad0 n0 l0 D ty ro p e R s m args below meth cc A Q C hE ad ws H locs ls lv _ I hl hp ⟨⟨x * y, rfl, by rw [Int32.toInt_mul, hx2, hy, w32_b]⟩, hs⟩)
theorem g_iand {a b : Int} (hd : decode (mB M) pc = .ok (.iand, 1)) (k : G E M d (pc + 1) l (pI (bAnd a b) :: st) w rf n c z res) : G E M d pc l (pI b :: pI a :: st) w rf n c z res := by
  intro ad0 n0 l0 D ty ro p e R s m args below meth cc A Q C hE ad ws H locs ls lv sm I hl hp hs
  have hx := C.1
  have hb := C.2.1
  obtain ⟨y, sm, rfl, hy, hs⟩ := sR_I hs
  obtain ⟨x, sm, rfl, hx2, hs⟩ := sR_I hs
  have e1 : Int32.ofInt a = x := by rw [← hx2]; exact Int32.ofInt_toInt x
  have e2 : Int32.ofInt b = y := by rw [← hy]; exact Int32.ofInt_toInt y
  exact lv_iand hx hb hd (k ad0 n0 l0 D ty ro p e R s m args below meth cc A Q C hE ad ws H locs ls lv _ I hl hp ⟨⟨x &&& y, rfl, by unfold bAnd; rw [e1, e2]⟩, hs⟩)
theorem g_ior {a b : Int} (hd : decode (mB M) pc = .ok (.ior, 1)) (k : G E M d (pc + 1) l (pI (bOr a b) :: st) w rf n c z res) : G E M d pc l (pI b :: pI a :: st) w rf n c z res := by
  intro ad0 n0 l0 D ty ro p e R s m args below meth cc A Q C hE ad ws H locs ls lv sm I hl hp hs
  have hx := C.1
  have hb := C.2.1
  obtain ⟨y, sm, rfl, hy, hs⟩ := sR_I hs
  obtain ⟨x, sm, rfl, hx2, hs⟩ := sR_I hs
  have e1 : Int32.ofInt a = x := by rw [← hx2]; exact Int32.ofInt_toInt x
  have e2 : Int32.ofInt b = y := by rw [← hy]; exact Int32.ofInt_toInt y
  exact lv_ior hx hb hd (k ad0 n0 l0 D ty ro p e R s m args below meth cc A Q C hE ad ws H locs ls lv _ I hl hp ⟨⟨x ||| y, rfl, by unfold bOr; rw [e1, e2]⟩, hs⟩)
theorem g_ixor {a b : Int} (hd : decode (mB M) pc = .ok (.ixor, 1)) (k : G E M d (pc + 1) l (pI (bXor a b) :: st) w rf n c z res) : G E M d pc l (pI b :: pI a :: st) w rf n c z res := by
  intro ad0 n0 l0 D ty ro p e R s m args below meth cc A Q C hE ad ws H locs ls lv sm I hl hp hs
  have hx := C.1
  have hb := C.2.1
  obtain ⟨y, sm, rfl, hy, hs⟩ := sR_I hs
  obtain ⟨x, sm, rfl, hx2, hs⟩ := sR_I hs
  have e1 : Int32.ofInt a = x := by rw [← hx2]; exact Int32.ofInt_toInt x
  have e2 : Int32.ofInt b = y := by rw [← hy]; exact Int32.ofInt_toInt y
  exact lv_ixor hx hb hd (k ad0 n0 l0 D ty ro p e R s m args below meth cc A Q C hE ad ws H locs ls lv _ I hl hp ⟨⟨x ^^^ y, rfl, by unfold bXor; rw [e1, e2]⟩, hs⟩)
theorem g_ishl {a b : Int} (hd : decode (mB M) pc = .ok (.ishl, 1)) (k : G E M d (pc + 1) l (pI (bShl a b) :: st) w rf n c z res) : G E M d pc l (pI b :: pI a :: st) w rf n c z res := by
  intro ad0 n0 l0 D ty ro p e R s m args below meth cc A Q C hE ad ws H locs ls lv sm I hl hp hs
  have hx := C.1
  have hb := C.2.1
  obtain ⟨y, sm, rfl, hy, hs⟩ := sR_I hs
  obtain ⟨x, sm, rfl, hx2, hs⟩ := sR_I hs
  have e1 : Int32.ofInt a = x := by rw [← hx2]; exact Int32.ofInt_toInt x
  have e2 : Int32.ofInt b = y := by rw [← hy]; exact Int32.ofInt_toInt y
  exact lv_ishl hx hb hd (k ad0 n0 l0 D ty ro p e R s m args below meth cc A Q C hE ad ws H locs ls lv _ I hl hp ⟨⟨x <<< (y &&& 31), rfl, by unfold bShl; rw [e1, e2]⟩, hs⟩)
theorem g_ishr {a b : Int} (hd : decode (mB M) pc = .ok (.ishr, 1)) (k : G E M d (pc + 1) l (pI (bShr a b) :: st) w rf n c z res) : G E M d pc l (pI b :: pI a :: st) w rf n c z res := by
  intro ad0 n0 l0 D ty ro p e R s m args below meth cc A Q C hE ad ws H locs ls lv sm I hl hp hs
  have hx := C.1
  have hb := C.2.1
  obtain ⟨y, sm, rfl, hy, hs⟩ := sR_I hs
  obtain ⟨x, sm, rfl, hx2, hs⟩ := sR_I hs
  have e1 : Int32.ofInt a = x := by rw [← hx2]; exact Int32.ofInt_toInt x
  have e2 : Int32.ofInt b = y := by rw [← hy]; exact Int32.ofInt_toInt y
  exact lv_ishr hx hb hd (k ad0 n0 l0 D ty ro p e R s m args below meth cc A Q C hE ad ws H locs ls lv _ I hl hp ⟨⟨x >>> (y &&& 31), rfl, by unfold bShr; rw [e1, e2]⟩, hs⟩)
theorem g_iushr {a b : Int} (hd : decode (mB M) pc = .ok (.iushr, 1)) (k : G E M d (pc + 1) l (pI (bUshr a b) :: st) w rf n c z res) : G E M d pc l (pI b :: pI a :: st) w rf n c z res := by
  intro ad0 n0 l0 D ty ro p e R s m args below meth cc A Q C hE ad ws H locs ls lv sm I hl hp hs
  have hx := C.1
  have hb := C.2.1
  obtain ⟨y, sm, rfl, hy, hs⟩ := sR_I hs
  obtain ⟨x, sm, rfl, hx2, hs⟩ := sR_I hs
  have e1 : Int32.ofInt a = x := by rw [← hx2]; exact Int32.ofInt_toInt x
  have e2 : Int32.ofInt b = y := by rw [← hy]; exact Int32.ofInt_toInt y
  exact lv_iushr hx hb hd rfl (k ad0 n0 l0 D ty ro p e R s m args below meth cc A Q C hE ad ws H locs ls lv _ I hl hp ⟨⟨_, rfl, by unfold bUshr; rw [e1, e2]⟩, hs⟩)
theorem g_idiv {a b : Int} (hd : decode (mB M) pc = .ok (.idiv, 1)) (h0 : b ≠ 0) (k : G E M d (pc + 1) l (pI (w32 (a.tdiv b)) :: st) w rf n c z res) : G E M d pc l (pI b :: pI a :: st) w rf n c z res := by
  intro ad0 n0 l0 D ty ro p e R s m args below meth cc A Q C hE ad ws H locs ls lv sm I hl hp hs
  have hx := C.1
  have hb := C.2.1
  obtain ⟨y, sm, rfl, hy, hs⟩ := sR_I hs
  obtain ⟨x, sm, rfl, hx2, hs⟩ := sR_I hs
  have hne : ¬ y = 0 := fun q => h0 (by rw [← hy, q]; rfl)
  exact lv_idiv hx hb hd hne (k ad0 n0 l0 D ty ro p e R s m args below meth cc A Q C hE ad ws H locs ls lv _ I hl hp ⟨⟨x / y, rfl, by rw [Int32.toInt_div, hx2, hy, w32_b]⟩, hs⟩)
theorem g_irem {a b : Int} (hd : decode (mB M) pc = .ok (.irem, 1)) (h0 : b ≠ 0) (k : G E M d (pc + 1) l (pI (a.tmod b) :: st) w rf n c z res) : G E M d pc l (pI b :: pI a :: st) w rf n c z res := by
  intro ad0 n0 l0 D ty ro p e R s m args below meth cc A Q C hE ad ws H locs ls lv sm I hl hp hs
  have hx := C.1
  have hb := C.2.1
  obtain ⟨y, sm, rfl, hy, hs⟩ := sR_I hs
  obtain ⟨x, sm, rfl, hx2, hs⟩ := sR_I hs
  have hne : ¬ y = 0 := fun q => h0 (by rw [← hy, q]; rfl)
  exact lv_irem hx hb hd hne (k ad0 n0 l0 D ty ro p e R s m args below meth cc A Q C hE ad ws H locs ls lv _ I hl hp ⟨⟨x - x / y * y, rfl, by rw [rem_toInt, hx2, hy]⟩, hs⟩)
theorem g_ineg {a : Int} (hd : decode (mB M) pc = .ok (.ineg, 1)) (k : G E M d (pc + 1) l (pI (w32 (-a)) :: st) w rf n c z res) : G E M d pc l (pI a :: st) w rf n c z res := by
  intro ad0 n0 l0 D ty ro p e R s m args below meth cc A Q C hE ad ws H locs ls lv sm I hl hp hs
  have hx := C.1
  have hb := C.2.1
  obtain ⟨x, sm, rfl, hx2, hs⟩ := sR_I hs
  exact lv_ineg hx hb hd (k ad0 n0 l0 D ty ro p e R s m args below meth cc A Q C hE ad ws H locs ls lv _ I hl hp ⟨⟨-x, rfl, by rw [Int32.toInt_neg, hx2, w32_b]⟩, hs⟩)
theorem g_ladd {a b : Int} (hd : decode (mB M) pc = .ok (.ladd, 1)) (k : G E M d (pc + 1) l (pL (w64 (a + b)) :: st) w rf n c z res) : G E M d pc l (pL b :: pL a :: st) w rf n c z res := by
  intro ad0 n0 l0 D ty ro p e R s m args below meth cc A Q C hE ad ws H locs ls lv sm I hl hp hs
  have hx := C.1
  have hb := C.2.1
  obtain ⟨y, sm, rfl, hy, hs⟩ := sR_L hs
  obtain ⟨x, sm, rfl, hx2, hs⟩ := sR_L hs
  exact lv_ladd hx hb hd (k ad0 n0 l0 D ty ro p e R s m args below meth cc A Q C hE ad ws H locs ls lv _ I hl hp ⟨⟨x + y, rfl, by rw [Int64.toInt_add, hx2, hy, w64_b]⟩, hs⟩)
theorem g_lsub {a b : Int} (hd : decode (mB M) pc = .ok (.lsub, 1)) (k : G E M d (pc + 1) l (pL (w64 (a - b)) :: st) w rf n c z res) : G E M d pc l (pL b :: pL a :: st) w rf n c z res := by
  intro ad0 n0 l0 D ty ro p e R s m args below meth cc A Q C hE ad ws H locs ls lv sm I hl hp hs
  have hx := C.1
  have hb := C.2.1
  obtain ⟨y, sm, rfl, hy, hs⟩ := sR_L hs
  obtain ⟨x, sm, rfl, hx2, hs⟩ := sR_L hs
  exact lv_lsub hx hb hd (k ad0 n0 l0 D ty ro p e R s m args below meth cc A Q C hE ad ws H locs ls lv _ I hl hp ⟨⟨x - y, rfl, by rw [Int64.toInt_sub, hx2, hy, w64_b]⟩, hs⟩)
theorem g_lmul {a b : Int} (hd : decode (mB M) pc = .ok (.lmul, 1)) (k : G E M d (pc + 1) l (pL (w64 (a * b)) :: st) w rf n c z res) : G E M d pc l (pL b :: pL a :: st) w rf n c z res := by
  intro ad0 n0 l0 D ty ro p e R s m args below meth cc A Q C hE ad ws H locs ls lv sm I hl hp hs
  have hx := C.1
  have hb := C.2.1
  obtain ⟨y, sm, rfl, hy, hs⟩ := sR_L hs
  obtain ⟨x, sm, rfl, hx2, hs⟩ := sR_L hs
  exact lv_lmul hx hb hd (k ad0 n0 l0 D ty ro p e R s m args below meth cc A Q C hE ad ws H locs ls lv _ I hl hp ⟨⟨x * y, rfl, by rw [Int64.toInt_mul, hx2, hy, w64_b]⟩, hs⟩)
theorem g_land {a b : Int} (hd : decode (mB M) pc = .ok (.land, 1)) (k : G E M d (pc + 1) l (pL (lAnd a b) :: st) w rf n c z res) : G E M d pc l (pL b :: pL a :: st) w rf n c z res := by
  intro ad0 n0 l0 D ty ro p e R s m args below meth cc A Q C hE ad ws H locs ls lv sm I hl hp hs
  have hx := C.1
  have hb := C.2.1
  obtain ⟨y, sm, rfl, hy, hs⟩ := sR_L hs
  obtain ⟨x, sm, rfl, hx2, hs⟩ := sR_L hs
  have e1 : Int64.ofInt a = x := by rw [← hx2]; exact Int64.ofInt_toInt x
  have e2 : Int64.ofInt b = y := by rw [← hy]; exact Int64.ofInt_toInt y
  exact lv_land hx hb hd (k ad0 n0 l0 D ty ro p e R s m args below meth cc A Q C hE ad ws H locs ls lv _ I hl hp ⟨⟨x &&& y, rfl, by unfold lAnd; rw [e1, e2]⟩, hs⟩)
theorem g_lor {a b : Int} (hd : decode (mB M) pc = .ok (.lor, 1)) (k : G E M d (pc + 1) l (pL (lOr a b) :: st) w rf n c z res) : G E M d pc l (pL b :: pL a :: st) w rf n c z res := by
  intro ad0 n0 l0 D ty ro p e R s m args below meth cc A Q C hE ad ws H locs ls lv sm I hl hp hs
  have hx := C.1
  have hb := C.2.1
  obtain ⟨y, sm, rfl, hy, hs⟩ := sR_L hs
  obtain ⟨x, sm, rfl, hx2, hs⟩ := sR_L hs
  have e1 : Int64.ofInt a = x := by rw [← hx2]; exact Int64.ofInt_toInt x
  have e2 : Int64.ofInt b = y := by rw [← hy]; exact Int64.ofInt_toInt y
  exact lv_lor hx hb hd (k ad0 n0 l0 D ty ro p e R s m args below meth cc A Q C hE ad ws H locs ls lv _ I hl hp ⟨⟨x ||| y, rfl, by unfold lOr; rw [e1, e2]⟩, hs⟩)
theorem g_ldiv {a b : Int} (hd : decode (mB M) pc = .ok (.ldiv, 1)) (h0 : b ≠ 0) (k : G E M d (pc + 1) l (pL (w64 (a.tdiv b)) :: st) w rf n c z res) : G E M d pc l (pL b :: pL a :: st) w rf n c z res := by
  intro ad0 n0 l0 D ty ro p e R s m args below meth cc A Q C hE ad ws H locs ls lv sm I hl hp hs
  have hx := C.1
  have hb := C.2.1
  obtain ⟨y, sm, rfl, hy, hs⟩ := sR_L hs
  obtain ⟨x, sm, rfl, hx2, hs⟩ := sR_L hs
  have hne : ¬ y = 0 := fun q => h0 (by rw [← hy, q]; rfl)
  exact lv_ldiv hx hb hd hne (k ad0 n0 l0 D ty ro p e R s m args below meth cc A Q C hE ad ws H locs ls lv _ I hl hp ⟨⟨x / y, rfl, by rw [Int64.toInt_div, hx2, hy, w64_b]⟩, hs⟩)
theorem g_lrem {a b : Int} (hd : decode (mB M) pc = .ok (.lrem, 1)) (h0 : b ≠ 0) (k : G E M d (pc + 1) l (pL (w64 (a - w64 (w64 (a.tdiv b) * b))) :: st) w rf n c z res) : G E M d pc l (pL b :: pL a :: st) w rf n c z res := by
  intro ad0 n0 l0 D ty ro p e R s m args below meth cc A Q C hE ad ws H locs ls lv sm I hl hp hs
  have hx := C.1
  have hb := C.2.1
  obtain ⟨y, sm, rfl, hy, hs⟩ := sR_L hs
  obtain ⟨x, sm, rfl, hx2, hs⟩ := sR_L hs
  have hne : ¬ y = 0 := fun q => h0 (by rw [← hy, q]; rfl)
  exact lv_lrem hx hb hd hne (k ad0 n0 l0 D ty ro p e R s m args below meth cc A Q C hE ad ws H locs ls lv _ I hl hp ⟨⟨x - x / y * y, rfl, by rw [Int64.toInt_sub, Int64.toInt_mul, Int64.toInt_div, hx2, hy, w64_b, w64_b, w64_b]⟩, hs⟩)
theorem g_lshl {a b : Int} (hd : decode (mB M) pc = .ok (.lshl, 1)) (k : G E M d (pc + 1) l (pL (lShl a b) :: st) w rf n c z res) : G E M d pc l (pI b :: pL a :: st) w rf n c z res := by
  intro ad0 n0 l0 D ty ro p e R s m args below meth cc A Q C hE ad ws H locs ls lv sm I hl hp hs
  have hx := C.1
  have hb := C.2.1
  obtain ⟨y, sm, rfl, hy, hs⟩ := sR_I hs
  obtain ⟨x, sm, rfl, hx2, hs⟩ := sR_L hs
  have e1 : Int64.ofInt a = x := by rw [← hx2]; exact Int64.ofInt_toInt x
  have e2 : Int32.ofInt b = y := by rw [← hy]; exact Int32.ofInt_toInt y
  exact lv_lshl hx hb hd rfl (k ad0 n0 l0 D ty ro p e R s m args below meth cc A Q C hE ad ws H locs ls lv _ I hl hp ⟨⟨_, rfl, by unfold lShl; rw [e1, e2]⟩, hs⟩)
theorem g_lushr {a b : Int} (hd : decode (mB M) pc = .ok (.lushr, 1)) (k : G E M d (pc + 1) l (pL (lUshr a b) :: st) w rf n c z res) : G E M d pc l (pI b :: pL a :: st) w rf n c z res := by
  intro ad0 n0 l0 D ty ro p e R s m args below meth cc A Q C hE ad ws H locs ls lv sm I hl hp hs
  have hx := C.1
  have hb := C.2.1
  obtain ⟨y, sm, rfl, hy, hs⟩ := sR_I hs
  obtain ⟨x, sm, rfl, hx2, hs⟩ := sR_L hs
  have e1 : Int64.ofInt a = x := by rw [← hx2]; exact Int64.ofInt_toInt x
  have e2 : Int32.ofInt b = y := by rw [← hy]; exact Int32.ofInt_toInt y
  exact lv_lushr hx hb hd rfl (k ad0 n0 l0 D ty ro p e R s m args below meth cc A Q C hE ad ws H locs ls lv _ I hl hp ⟨⟨_, rfl, by unfold lUshr; rw [e1, e2]⟩, hs⟩)
theorem g_i2l {a : Int} (hd : decode (mB M) pc = .ok (.i2l, 1)) (k : G E M d (pc + 1) l (pL a :: st) w rf n c z res) : G E M d pc l (pI a :: st) w rf n c z res := by
  intro ad0 n0 l0 D ty ro p e R s m args below meth cc A Q C hE ad ws H locs ls lv sm I hl hp hs
  have hx := C.1
  have hb := C.2.1
  obtain ⟨x, sm, rfl, hx2, hs⟩ := sR_I hs
  exact lv_i2l hx hb hd rfl (k ad0 n0 l0 D ty ro p e R s m args below meth cc A Q C hE ad ws H locs ls lv _ I hl hp ⟨⟨_, rfl, by rw [Int32.toInt_toInt64]; exact hx2⟩, hs⟩)
theorem g_l2i {a : Int} (hd : decode (mB M) pc = .ok (.l2i, 1)) (k : G E M d (pc + 1) l (pI (w32 a) :: st) w rf n c z res) : G E M d pc l (pL a :: st) w rf n c z res := by
  intro ad0 n0 l0 D ty ro p e R s m args below meth cc A Q C hE ad ws H locs ls lv sm I hl hp hs
  have hx := C.1
  have hb := C.2.1
  obtain ⟨x, sm, rfl, hx2, hs⟩ := sR_L hs
  exact lv_l2i hx hb hd rfl (k ad0 n0 l0 D ty ro p e R s m args below meth cc A Q C hE ad ws H locs ls lv _ I hl hp ⟨⟨_, rfl, by rw [Int64.toInt_toInt32, hx2, w32_b]⟩, hs⟩)
theorem g_i2b {a : Int} (hd : decode (mB M) pc = .ok (.i2b, 1)) (k : G E M d (pc + 1) l (pI (w8 a) :: st) w rf n c z res) : G E M d pc l (pI a :: st) w rf n c z res := by
  intro ad0 n0 l0 D ty ro p e R s m args below meth cc A Q C hE ad ws H locs ls lv sm I hl hp hs
  have hx := C.1
  have hb := C.2.1
  obtain ⟨x, sm, rfl, hx2, hs⟩ := sR_I hs
  exact lv_i2b hx hb hd rfl (k ad0 n0 l0 D ty ro p e R s m args below meth cc A Q C hE ad ws H locs ls lv _ I hl hp ⟨⟨_, rfl, by rw [Int8.toInt_toInt32, Int32.toInt_toInt8, hx2, w8_b]⟩, hs⟩)
theorem g_i2s {a : Int} (hd : decode (mB M) pc = .ok (.i2s, 1)) (k : G E M d (pc + 1) l (pI (w16 a) :: st) w rf n c z res) : G E M d pc l (pI a :: st) w rf n c z res := by
  intro ad0 n0 l0 D ty ro p e R s m args below meth cc A Q C hE ad ws H locs ls lv sm I hl hp hs
  have hx := C.1
  have hb := C.2.1
  obtain ⟨x, sm, rfl, hx2, hs⟩ := sR_I hs
  exact lv_i2s hx hb hd rfl (k ad0 n0 l0 D ty ro p e R s m args below meth cc A Q C hE ad ws H locs ls lv _ I hl hp ⟨⟨_, rfl, by rw [Int16.toInt_toInt32, Int32.toInt_toInt16, hx2, w16_b]⟩, hs⟩)
theorem g_dup {a : PV} (hd : decode (mB M) pc = .ok (.dup, 1)) (ha : pcat a = 1) (k : G E M d (pc + 1) l (a :: a :: st) w rf n c z res) : G E M d pc l (a :: st) w rf n c z res := by
  intro ad0 n0 l0 D ty ro p e R s m args below meth cc A Q C hE ad ws H locs ls lv sm I hl hp hs
  have hx := C.1
  have hb := C.2.1
  obtain ⟨v, sm, rfl, h1, hs⟩ := sR_any hs
  exact lv_dup hx hb hd (by rw [vr_cat h1]; exact ha) (k ad0 n0 l0 D ty ro p e R s m args below meth cc A Q C hE ad ws H locs ls lv _ I hl hp ⟨h1, h1, hs⟩)
theorem g_pop {a : PV} (hd : decode (mB M) pc = .ok (.pop, 1)) (ha : pcat a = 1) (k : G E M d (pc + 1) l st w rf n c z res) : G E M d pc l (a :: st) w rf n c z res := by
  intro ad0 n0 l0 D ty ro p e R s m args below meth cc A Q C hE ad ws H locs ls lv sm I hl hp hs
  have hx := C.1
  have hb := C.2.1
  obtain ⟨v, sm, rfl, h1, hs⟩ := sR_any hs
  exact lv_pop hx hb hd (by rw [vr_cat h1]; exact ha) (k ad0 n0 l0 D ty ro p e R s m args below meth cc A Q C hE ad ws H locs ls lv _ I hl hp hs)
theorem g_dup_x1 {a b : PV} (hd : decode (mB M) pc = .ok (.dup_x1, 1)) (ha : pcat a = 1) (hb2 : pcat b = 1) (k : G E M d (pc + 1) l (a :: b :: a :: st) w rf n c z res) : G E M d pc l (a :: b :: st) w rf n c z res := by
  intro ad0 n0 l0 D ty ro p e R s m args below meth cc A Q C hE ad ws H locs ls lv sm I hl hp hs
  have hx := C.1
  have hb := C.2.1
  obtain ⟨v, sm, rfl, h1, hs⟩ := sR_any hs
  obtain ⟨u, sm, rfl, h2, hs⟩ := sR_any hs
  exact lv_dup_x1 hx hb hd (by rw [vr_cat h1]; exact ha) (by rw [vr_cat h2]; exact hb2) (k ad0 n0 l0 D ty ro p e R s m args below meth cc A Q C hE ad ws H locs ls lv _ I hl hp ⟨h1, h2, h1, hs⟩)
theorem g_dup2 {a b : PV} (hd : decode (mB M) pc = .ok (.dup2, 1)) (ha : pcat a = 1) (hb2 : pcat b = 1) (k : G E M d (pc + 1) l (a :: b :: a :: b :: st) w rf n c z res) : G E M d pc l (a :: b :: st) w rf n c z res := by
  intro ad0 n0 l0 D ty ro p e R s m args below meth cc A Q C hE ad ws H locs ls lv sm I hl hp hs
  have hx := C.1
  have hb := C.2.1
  obtain ⟨v, sm, rfl, h1, hs⟩ := sR_any hs
  obtain ⟨u, sm, rfl, h2, hs⟩ := sR_any hs
  exact lv_dup2_11 hx hb hd (by rw [vr_cat h1]; exact ha) (by rw [vr_cat h2]; exact hb2) (k ad0 n0 l0 D ty ro p e R s m args below meth cc A Q C hE ad ws H locs ls lv _ I hl hp ⟨h1, h2, h1, h2, hs⟩)
theorem g_dup2L {a : PV} (hd : decode (mB M) pc = .ok (.dup2, 1)) (ha : pcat a = 2) (k : G E M d (pc + 1) l (a :: a :: st) w rf n c z res) : G E M d pc l (a :: st) w rf n c z res := by
  intro ad0 n0 l0 D ty ro p e R s m args below meth cc A Q C hE ad ws H locs ls lv sm I hl hp hs
  have hx := C.1
  have hb := C.2.1
  obtain ⟨v, sm, rfl, h1, hs⟩ := sR_any hs
  exact lv_dup2_2 hx hb hd (by rw [vr_cat h1]; exact ha) (k ad0 n0 l0 D ty ro p e R s m args below meth cc A Q C hE ad ws H locs ls lv _ I hl hp ⟨h1, h1, hs⟩)
theorem z32 : (0 : Int32).toInt = 0 := by decide
theorem i32e {x y : Int32} {a b : Int} (hx : x.toInt = a) (hy : y.toInt = b) : x = y ↔ a = b := by rw [← Int32.toInt_inj, hx, hy]
theorem i32l {x y : Int32} {a b : Int} (hx : x.toInt = a) (hy : y.toInt = b) : x < y ↔ a < b := by rw [Int32.lt_iff_toInt_lt, hx, hy]
theorem i32m {x y : Int32} {a b : Int} (hx : x.toInt = a) (hy : y.toInt = b) : x ≤ y ↔ a ≤ b := by rw [Int32.le_iff_toInt_le, hx, hy]
theorem i64e {x y : Int64} {a b : Int} (hx : x.toInt = a) (hy : y.toInt = b) : x = y ↔ a = b := by rw [← Int64.toInt_inj, hx, hy]
theorem i64l {x y : Int64} {a b : Int} (hx : x.toInt = a) (hy : y.toInt = b) : x < y ↔ a < b := by rw [Int64.lt_iff_toInt_lt, hx, hy]
/-- what a branch comes to -/
theorem br {α : Type} {c : Prop} [Decidable c] {X Y : Option α} {r : α} {P : Prop} (h : (if c then X else Y) = some r) (f : c → X = some r → P) (g : ¬ c → Y = some r → P) : P := by
  by_cases q : c
  · rw [if_pos q] at h
    exact f q h
  · rw [if_neg q] at h
    exact g q h
theorem g_if_eq {a b : Int} {off : Int} {tgt : Nat} (hd : decode (mB M) pc = .ok (.ifCond .eq off, 3)) (ht : (pc : Int) + off = (tgt : Int)) (kt : a = 0 → G E M d tgt l st w rf n c z res) (kf : ¬ (a = 0) → G E M d (pc + 3) l st w rf n c z res) : G E M d pc l (pI a :: st) w rf n c z res := by
  intro ad0 n0 l0 D ty ro p e R s m args below meth cc A Q C hE ad ws H locs ls lv sm I hl hp hs
  have hx := C.1
  have hb := C.2.1
  obtain ⟨x, sm, rfl, hx2, hs⟩ := sR_I hs
  refine lv_if_eq hx hb hd ht (fun q => ?_) (fun q => ?_)
  · exact kt ((i32e hx2 z32).mp q) ad0 n0 l0 D ty ro p e R s m args below meth cc A Q C hE ad ws H locs ls lv _ I hl hp hs
  · exact kf (fun z => q ((i32e hx2 z32).mpr z)) ad0 n0 l0 D ty ro p e R s m args below meth cc A Q C hE ad ws H locs ls lv _ I hl hp hs
theorem g_icmp_eq {a b : Int} {off : Int} {tgt : Nat} (hd : decode (mB M) pc = .ok (.if_icmp .eq off, 3)) (ht : (pc : Int) + off = (tgt : Int)) (kt : a = b → G E M d tgt l st w rf n c z res) (kf : ¬ (a = b) → G E M d (pc + 3) l st w rf n c z res) : G E M d pc l (pI b :: pI a :: st) w rf n c z res := by
  intro ad0 n0 l0 D ty ro p e R s m args below meth cc A Q C hE ad ws H locs ls lv sm I hl hp hs
  have hx := C.1
  have hb := C.2.1
  obtain ⟨y, sm, rfl, hy, hs⟩ := sR_I hs
  obtain ⟨x, sm, rfl, hx2, hs⟩ := sR_I hs
  refine lv_icmp_eq hx hb hd ht (fun q => ?_) (fun q => ?_)
  · exact kt ((i32e hx2 hy).mp q) ad0 n0 l0 D ty ro p e R s m args below meth cc A Q C hE ad ws H locs ls lv _ I hl hp hs
  · exact kf (fun z => q ((i32e hx2 hy).mpr z)) ad0 n0 l0 D ty ro p e R s m args below meth cc A Q C hE ad ws H locs ls lv _ I hl hp hs
theorem g_if_ne {a b : Int} {off : Int} {tgt : Nat} (hd : decode (mB M) pc = .ok (.ifCond .ne off, 3)) (ht : (pc : Int) + off = (tgt : Int)) (kt : a ≠ 0 → G E M d tgt l st w rf n c z res) (kf : ¬ (a ≠ 0) → G E M d (pc + 3) l st w rf n c z res) : G E M d pc l (pI a :: st) w rf n c z res := by
  intro ad0 n0 l0 D ty ro p e R s m args below meth cc A Q C hE ad ws H locs ls lv sm I hl hp hs
  have hx := C.1
  have hb := C.2.1
  obtain ⟨x, sm, rfl, hx2, hs⟩ := sR_I hs
  refine lv_if_ne hx hb hd ht (fun q => ?_) (fun q => ?_)
  · exact kt (fun z => q ((i32e hx2 z32).mpr z)) ad0 n0 l0 D ty ro p e R s m args below meth cc A Q C hE ad ws H locs ls lv _ I hl hp hs
  · exact kf (fun z => z ((i32e hx2 z32).mp q)) ad0 n0 l0 D ty ro p e R s m args below meth cc A Q C hE ad ws H locs ls lv _ I hl hp hs
theorem g_icmp_ne {a b : Int} {off : Int} {tgt : Nat} (hd : decode (mB M) pc = .ok (.if_icmp .ne off, 3)) (ht : (pc : Int) + off = (tgt : Int)) (kt : a ≠ b → G E M d tgt l st w rf n c z res) (kf : ¬ (a ≠ b) → G E M d (pc + 3) l st w rf n c z res) : G E M d pc l (pI b :: pI a :: st) w rf n c z res := by
  intro ad0 n0 l0 D ty ro p e R s m args below meth cc A Q C hE ad ws H locs ls lv sm I hl hp hs
  have hx := C.1
  have hb := C.2.1
  obtain ⟨y, sm, rfl, hy, hs⟩ := sR_I hs
  obtain ⟨x, sm, rfl, hx2, hs⟩ := sR_I hs
  refine lv_icmp_ne hx hb hd ht (fun q => ?_) (fun q => ?_)
  · exact kt (fun z => q ((i32e hx2 hy).mpr z)) ad0 n0 l0 D ty ro p e R s m args below meth cc A Q C hE ad ws H locs ls lv _ I hl hp hs
  · exact kf (fun z => z ((i32e hx2 hy).mp q)) ad0 n0 l0 D ty ro p e R s m args below meth cc A Q C hE ad ws H locs ls lv _ I hl hp hs
theorem g_if_lt {a b : Int} {off : Int} {tgt : Nat} (hd : decode (mB M) pc = .ok (.ifCond .lt off, 3)) (ht : (pc : Int) + off = (tgt : Int)) (kt : a < 0 → G E M d tgt l st w rf n c z res) (kf : ¬ (a < 0) → G E M d (pc + 3) l st w rf n c z res) : G E M d pc l (pI a :: st) w rf n c z res := by
  intro ad0 n0 l0 D ty ro p e R s m args below meth cc A Q C hE ad ws H locs ls lv sm I hl hp hs
  have hx := C.1
  have hb := C.2.1
  obtain ⟨x, sm, rfl, hx2, hs⟩ := sR_I hs
  refine lv_if_lt hx hb hd ht (fun q => ?_) (fun q => ?_)
  · exact kt ((i32l hx2 z32).mp q) ad0 n0 l0 D ty ro p e R s m args below meth cc A Q C hE ad ws H locs ls lv _ I hl hp hs
  · exact kf (fun z => q ((i32l hx2 z32).mpr z)) ad0 n0 l0 D ty ro p e R s m args below meth cc A Q C hE ad ws H locs ls lv _ I hl hp hs
theorem g_icmp_lt {a b : Int} {off : Int} {tgt : Nat} (hd : decode (mB M) pc = .ok (.if_icmp .lt off, 3)) (ht : (pc : Int) + off = (tgt : Int)) (kt : a < b → G E M d tgt l st w rf n c z res) (kf : ¬ (a < b) → G E M d (pc + 3) l st w rf n c z res) : G E M d pc l (pI b :: pI a :: st) w rf n c z res := by
  intro ad0 n0 l0 D ty ro p e R s m args below meth cc A Q C hE ad ws H locs ls lv sm I hl hp hs
  have hx := C.1
  have hb := C.2.1
  obtain ⟨y, sm, rfl, hy, hs⟩ := sR_I hs
  obtain ⟨x, sm, rfl, hx2, hs⟩ := sR_I hs
  refine lv_icmp_lt hx hb hd ht (fun q => ?_) (fun q => ?_)
  · exact kt ((i32l hx2 hy).mp q) ad0 n0 l0 D ty ro p e R s m args below meth cc A Q C hE ad ws H locs ls lv _ I hl hp hs
  · exact kf (fun z => q ((i32l hx2 hy).mpr z)) ad0 n0 l0 D ty ro p e R s m args below meth cc A Q C hE ad ws H locs ls lv _ I hl hp hs
theorem g_if_ge {a b : Int} {off : Int} {tgt : Nat} (hd : decode (mB M) pc = .ok (.ifCond .ge off, 3)) (ht : (pc : Int) + off = (tgt : Int)) (kt : 0 ≤ a → G E M d tgt l st w rf n c z res) (kf : ¬ (0 ≤ a) → G E M d (pc + 3) l st w rf n c z res) : G E M d pc l (pI a :: st) w rf n c z res := by
  intro ad0 n0 l0 D ty ro p e R s m args below meth cc A Q C hE ad ws H locs ls lv sm I hl hp hs
  have hx := C.1
  have hb := C.2.1
  obtain ⟨x, sm, rfl, hx2, hs⟩ := sR_I hs
  refine lv_if_ge hx hb hd ht (fun q => ?_) (fun q => ?_)
  · exact kt ((i32m z32 hx2).mp q) ad0 n0 l0 D ty ro p e R s m args below meth cc A Q C hE ad ws H locs ls lv _ I hl hp hs
  · exact kf (fun z => q ((i32m z32 hx2).mpr z)) ad0 n0 l0 D ty ro p e R s m args below meth cc A Q C hE ad ws H locs ls lv _ I hl hp hs
theorem g_icmp_ge {a b : Int} {off : Int} {tgt : Nat} (hd : decode (mB M) pc = .ok (.if_icmp .ge off, 3)) (ht : (pc : Int) + off = (tgt : Int)) (kt : b ≤ a → G E M d tgt l st w rf n c z res) (kf : ¬ (b ≤ a) → G E M d (pc + 3) l st w rf n c z res) : G E M d pc l (pI b :: pI a :: st) w rf n c z res := by
  intro ad0 n0 l0 D ty ro p e R s m args below meth cc A Q C hE ad ws H locs ls lv sm I hl hp hs
  have hx := C.1
  have hb := C.2.1
  obtain ⟨y, sm, rfl, hy, hs⟩ := sR_I hs
  obtain ⟨x, sm, rfl, hx2, hs⟩ := sR_I hs
  refine lv_icmp_ge hx hb hd ht (fun q => ?_) (fun q => ?_)
  · exact kt ((i32m hy hx2).mp q) ad0 n0 l0 D ty ro p e R s m args below meth cc A Q C hE ad ws H locs ls lv _ I hl hp hs
  · exact kf (fun z => q ((i32m hy hx2).mpr z)) ad0 n0 l0 D ty ro p e R s m args below meth cc A Q C hE ad ws H locs ls lv _ I hl hp hs
theorem g_if_gt {a b : Int} {off : Int} {tgt : Nat} (hd : decode (mB M) pc = .ok (.ifCond .gt off, 3)) (ht : (pc : Int) + off = (tgt : Int)) (kt : 0 < a → G E M d tgt l st w rf n c z res) (kf : ¬ (0 < a) → G E M d (pc + 3) l st w rf n c z res) : G E M d pc l (pI a :: st) w rf n c z res := by
  intro ad0 n0 l0 D ty ro p e R s m args below meth cc A Q C hE ad ws H locs ls lv sm I hl hp hs
  have hx := C.1
  have hb := C.2.1
  obtain ⟨x, sm, rfl, hx2, hs⟩ := sR_I hs
  refine lv_if_gt hx hb hd ht (fun q => ?_) (fun q => ?_)
  · exact kt ((i32l z32 hx2).mp q) ad0 n0 l0 D ty ro p e R s m args below meth cc A Q C hE ad ws H locs ls lv _ I hl hp hs
  · exact kf (fun z => q ((i32l z32 hx2).mpr z)) ad0 n0 l0 D ty ro p e R s m args below meth cc A Q C hE ad ws H locs ls lv _ I hl hp hs
theorem g_icmp_gt {a b : Int} {off : Int} {tgt : Nat} (hd : decode (mB M) pc = .ok (.if_icmp .gt off, 3)) (ht : (pc : Int) + off = (tgt : Int)) (kt : b < a → G E M d tgt l st w rf n c z res) (kf : ¬ (b < a) → G E M d (pc + 3) l st w rf n c z res) : G E M d pc l (pI b :: pI a :: st) w rf n c z res := by
  intro ad0 n0 l0 D ty ro p e R s m args below meth cc A Q C hE ad ws H locs ls lv sm I hl hp hs
  have hx := C.1
  have hb := C.2.1
  obtain ⟨y, sm, rfl, hy, hs⟩ := sR_I hs
  obtain ⟨x, sm, rfl, hx2, hs⟩ := sR_I hs
  refine lv_icmp_gt hx hb hd ht (fun q => ?_) (fun q => ?_)
  · exact kt ((i32l hy hx2).mp q) ad0 n0 l0 D ty ro p e R s m args below meth cc A Q C hE ad ws H locs ls lv _ I hl hp hs
  · exact kf (fun z => q ((i32l hy hx2).mpr z)) ad0 n0 l0 D ty ro p e R s m args below meth cc A Q C hE ad ws H locs ls lv _ I hl hp hs
theorem g_if_le {a b : Int} {off : Int} {tgt : Nat} (hd : decode (mB M) pc = .ok (.ifCond .le off, 3)) (ht : (pc : Int) + off = (tgt : Int)) (kt : a ≤ 0 → G E M d tgt l st w rf n c z res) (kf : ¬ (a ≤ 0) → G E M d (pc + 3) l st w rf n c z res) : G E M d pc l (pI a :: st) w rf n c z res := by
  intro ad0 n0 l0 D ty ro p e R s m args below meth cc A Q C hE ad ws H locs ls lv sm I hl hp hs
  have hx := C.1
  have hb := C.2.1
  obtain ⟨x, sm, rfl, hx2, hs⟩ := sR_I hs
  refine lv_if_le hx hb hd ht (fun q => ?_) (fun q => ?_)
  · exact kt ((i32m hx2 z32).mp q) ad0 n0 l0 D ty ro p e R s m args below meth cc A Q C hE ad ws H locs ls lv _ I hl hp hs
  · exact kf (fun z => q ((i32m hx2 z32).mpr z)) ad0 n0 l0 D ty ro p e R s m args below meth cc A Q C hE ad ws H locs ls lv _ I hl hp hs
theorem g_icmp_le {a b : Int} {off : Int} {tgt : Nat} (hd : decode (mB M) pc = .ok (.if_icmp .le off, 3)) (ht : (pc : Int) + off = (tgt : Int)) (kt : a ≤ b → G E M d tgt l st w rf n c z res) (kf : ¬ (a ≤ b) → G E M d (pc + 3) l st w rf n c z res) : G E M d pc l (pI b :: pI a :: st) w rf n c z res := by
  intro ad0 n0 l0 D ty ro p e R s m args below meth cc A Q C hE ad ws H locs ls lv sm I hl hp hs
  have hx := C.1
  have hb := C.2.1
  obtain ⟨y, sm, rfl, hy, hs⟩ := sR_I hs
  obtain ⟨x, sm, rfl, hx2, hs⟩ := sR_I hs
  refine lv_icmp_le hx hb hd ht (fun q => ?_) (fun q => ?_)
  · exact kt ((i32m hx2 hy).mp q) ad0 n0 l0 D ty ro p e R s m args below meth cc A Q C hE ad ws H locs ls lv _ I hl hp hs
  · exact kf (fun z => q ((i32m hx2 hy).mpr z)) ad0 n0 l0 D ty ro p e R s m args below meth cc A Q C hE ad ws H locs ls lv _ I hl hp hs
theorem g_goto {off : Int} {tgt : Nat} (hd : decode (mB M) pc = .ok (.goto off, 3)) (ht : (pc : Int) + off = (tgt : Int)) (k : G E M d tgt l st w rf n c z res) : G E M d pc l st w rf n c z res := by
  intro ad0 n0 l0 D ty ro p e R s m args below meth cc A Q C hE ad ws H locs ls lv sm I hl hp hs
  have hx := C.1
  have hb := C.2.1
  exact lv_goto hx hb hd ht (k ad0 n0 l0 D ty ro p e R s m args below meth cc A Q C hE ad ws H locs ls lv _ I hl hp hs)
theorem lg_cmp_s (x y : Int64) : (lg_cmp x y < 0 ↔ x < y) ∧ (lg_cmp x y = 0 ↔ x = y) ∧ (0 < lg_cmp x y ↔ y < x) := by
  unfold lg_cmp
  have h0 : x < y ∨ x = y ∨ y < x := by
    rcases Int.lt_trichotomy x.toInt y.toInt with h | h | h
    · exact Or.inl (Int64.lt_iff_toInt_lt.mpr h)
    · exact Or.inr (Or.inl (Int64.toInt_inj.mp h))
    · exact Or.inr (Or.inr (Int64.lt_iff_toInt_lt.mpr h))
  have h1 : x < y → ¬ y < x := fun a b => by rw [Int64.lt_iff_toInt_lt] at a b; omega
  have h2 : x < y → x ≠ y := fun a b => by rw [b, Int64.lt_iff_toInt_lt] at a; omega
  have h3 : y < x → x ≠ y := fun a b => by rw [b, Int64.lt_iff_toInt_lt] at a; omega
  rcases h0 with h | h | h
  · simp [h, h1 h, h2 h]
  · subst h
    simp
  · have := h3 h
    have h4 : ¬ x < y := fun q => h1 q h
    have h5 : y ≤ x := by
      rw [Int64.le_iff_toInt_le]
      rw [Int64.lt_iff_toInt_lt] at h
      omega
    simp [h, this, h4, h5]
theorem g_lcmp_eq {a b : Int} {off : Int} {tgt : Nat} (hd0 : decode (mB M) pc = .ok (.lcmp, 1)) (hd : decode (mB M) (pc + 1) = .ok (.ifCond .eq off, 3)) (ht : ((pc + 1 : Nat) : Int) + off = (tgt : Int)) (kt : a = b → G E M d tgt l st w rf n c z res) (kf : ¬ (a = b) → G E M d (pc + 4) l st w rf n c z res) : G E M d pc l (pL b :: pL a :: st) w rf n c z res := by
  intro ad0 n0 l0 D ty ro p e R s m args below meth cc A Q C hE ad ws H locs ls lv sm I hl hp hs
  have hx := C.1
  have hb := C.2.1
  obtain ⟨y, sm, rfl, hy, hs⟩ := sR_L hs
  obtain ⟨x, sm, rfl, hx2, hs⟩ := sR_L hs
  refine W.lcmp hx hb hd0 (lv_if_eq hx hb hd ht (fun q => ?_) (fun q => ?_))
  · exact kt (((lg_cmp_s x y).2.1.trans (i64e hx2 hy)).mp q) ad0 n0 l0 D ty ro p e R s m args below meth cc A Q C hE ad ws H locs ls lv _ I hl hp hs
  · exact kf (fun z => q (((lg_cmp_s x y).2.1.trans (i64e hx2 hy)).mpr z)) ad0 n0 l0 D ty ro p e R s m args below meth cc A Q C hE ad ws H locs ls lv _ I hl hp hs
theorem g_lcmp_ne {a b : Int} {off : Int} {tgt : Nat} (hd0 : decode (mB M) pc = .ok (.lcmp, 1)) (hd : decode (mB M) (pc + 1) = .ok (.ifCond .ne off, 3)) (ht : ((pc + 1 : Nat) : Int) + off = (tgt : Int)) (kt : a ≠ b → G E M d tgt l st w rf n c z res) (kf : ¬ (a ≠ b) → G E M d (pc + 4) l st w rf n c z res) : G E M d pc l (pL b :: pL a :: st) w rf n c z res := by
  intro ad0 n0 l0 D ty ro p e R s m args below meth cc A Q C hE ad ws H locs ls lv sm I hl hp hs
  have hx := C.1
  have hb := C.2.1
  obtain ⟨y, sm, rfl, hy, hs⟩ := sR_L hs
  obtain ⟨x, sm, rfl, hx2, hs⟩ := sR_L hs
  refine W.lcmp hx hb hd0 (lv_if_ne hx hb hd ht (fun q => ?_) (fun q => ?_))
  · exact kt (fun z => q (((lg_cmp_s x y).2.1.trans (i64e hx2 hy)).mpr z)) ad0 n0 l0 D ty ro p e R s m args below meth cc A Q C hE ad ws H locs ls lv _ I hl hp hs
  · exact kf (fun z => z (((lg_cmp_s x y).2.1.trans (i64e hx2 hy)).mp q)) ad0 n0 l0 D ty ro p e R s m args below meth cc A Q C hE ad ws H locs ls lv _ I hl hp hs
theorem g_lcmp_lt {a b : Int} {off : Int} {tgt : Nat} (hd0 : decode (mB M) pc = .ok (.lcmp, 1)) (hd : decode (mB M) (pc + 1) = .ok (.ifCond .lt off, 3)) (ht : ((pc + 1 : Nat) : Int) + off = (tgt : Int)) (kt : a < b → G E M d tgt l st w rf n c z res) (kf : ¬ (a < b) → G E M d (pc + 4) l st w rf n c z res) : G E M d pc l (pL b :: pL a :: st) w rf n c z res := by
  intro ad0 n0 l0 D ty ro p e R s m args below meth cc A Q C hE ad ws H locs ls lv sm I hl hp hs
  have hx := C.1
  have hb := C.2.1
  obtain ⟨y, sm, rfl, hy, hs⟩ := sR_L hs
  obtain ⟨x, sm, rfl, hx2, hs⟩ := sR_L hs
  refine W.lcmp hx hb hd0 (lv_if_lt hx hb hd ht (fun q => ?_) (fun q => ?_))
  · exact kt (((lg_cmp_s x y).1.trans (i64l hx2 hy)).mp q) ad0 n0 l0 D ty ro p e R s m args below meth cc A Q C hE ad ws H locs ls lv _ I hl hp hs
  · exact kf (fun z => q (((lg_cmp_s x y).1.trans (i64l hx2 hy)).mpr z)) ad0 n0 l0 D ty ro p e R s m args below meth cc A Q C hE ad ws H locs ls lv _ I hl hp hs
theorem g_lcmp_ge {a b : Int} {off : Int} {tgt : Nat} (hd0 : decode (mB M) pc = .ok (.lcmp, 1)) (hd : decode (mB M) (pc + 1) = .ok (.ifCond .ge off, 3)) (ht : ((pc + 1 : Nat) : Int) + off = (tgt : Int)) (kt : b ≤ a → G E M d tgt l st w rf n c z res) (kf : ¬ (b ≤ a) → G E M d (pc + 4) l st w rf n c z res) : G E M d pc l (pL b :: pL a :: st) w rf n c z res := by
  intro ad0 n0 l0 D ty ro p e R s m args below meth cc A Q C hE ad ws H locs ls lv sm I hl hp hs
  have hx := C.1
  have hb := C.2.1
  obtain ⟨y, sm, rfl, hy, hs⟩ := sR_L hs
  obtain ⟨x, sm, rfl, hx2, hs⟩ := sR_L hs
  refine W.lcmp hx hb hd0 (lv_if_ge hx hb hd ht (fun q => ?_) (fun q => ?_))
  · exact kt (by have h9 := mt ((lg_cmp_s x y).1.trans (i64l hx2 hy)).mpr (fun h => by rw [Int32.lt_iff_toInt_lt] at h; rw [Int32.le_iff_toInt_le] at q; omega); omega) ad0 n0 l0 D ty ro p e R s m args below meth cc A Q C hE ad ws H locs ls lv _ I hl hp hs
  · exact kf (by have h9 := ((lg_cmp_s x y).1.trans (i64l hx2 hy)).mp (by rw [Int32.lt_iff_toInt_lt]; rw [Int32.le_iff_toInt_le] at q; omega); omega) ad0 n0 l0 D ty ro p e R s m args below meth cc A Q C hE ad ws H locs ls lv _ I hl hp hs
theorem g_lcmp_gt {a b : Int} {off : Int} {tgt : Nat} (hd0 : decode (mB M) pc = .ok (.lcmp, 1)) (hd : decode (mB M) (pc + 1) = .ok (.ifCond .gt off, 3)) (ht : ((pc + 1 : Nat) : Int) + off = (tgt : Int)) (kt : b < a → G E M d tgt l st w rf n c z res) (kf : ¬ (b < a) → G E M d (pc + 4) l st w rf n c z res) : G E M d pc l (pL b :: pL a :: st) w rf n c z res := by
  intro ad0 n0 l0 D ty ro p e R s m args below meth cc A Q C hE ad ws H locs ls lv sm I hl hp hs
  have hx := C.1
  have hb := C.2.1
  obtain ⟨y, sm, rfl, hy, hs⟩ := sR_L hs
  obtain ⟨x, sm, rfl, hx2, hs⟩ := sR_L hs
  refine W.lcmp hx hb hd0 (lv_if_gt hx hb hd ht (fun q => ?_) (fun q => ?_))
  · exact kt (((lg_cmp_s x y).2.2.trans (i64l hy hx2)).mp q) ad0 n0 l0 D ty ro p e R s m args below meth cc A Q C hE ad ws H locs ls lv _ I hl hp hs
  · exact kf (fun z => q (((lg_cmp_s x y).2.2.trans (i64l hy hx2)).mpr z)) ad0 n0 l0 D ty ro p e R s m args below meth cc A Q C hE ad ws H locs ls lv _ I hl hp hs
theorem g_lcmp_le {a b : Int} {off : Int} {tgt : Nat} (hd0 : decode (mB M) pc = .ok (.lcmp, 1)) (hd : decode (mB M) (pc + 1) = .ok (.ifCond .le off, 3)) (ht : ((pc + 1 : Nat) : Int) + off = (tgt : Int)) (kt : a ≤ b → G E M d tgt l st w rf n c z res) (kf : ¬ (a ≤ b) → G E M d (pc + 4) l st w rf n c z res) : G E M d pc l (pL b :: pL a :: st) w rf n c z res := by
  intro ad0 n0 l0 D ty ro p e R s m args below meth cc A Q C hE ad ws H locs ls lv sm I hl hp hs
  have hx := C.1
  have hb := C.2.1
  obtain ⟨y, sm, rfl, hy, hs⟩ := sR_L hs
  obtain ⟨x, sm, rfl, hx2, hs⟩ := sR_L hs
  refine W.lcmp hx hb hd0 (lv_if_le hx hb hd ht (fun q => ?_) (fun q => ?_))
  · exact kt (by have h9 := mt ((lg_cmp_s x y).2.2.trans (i64l hy hx2)).mpr (fun h => by rw [Int32.lt_iff_toInt_lt] at h; rw [Int32.le_iff_toInt_le] at q; omega); omega) ad0 n0 l0 D ty ro p e R s m args below meth cc A Q C hE ad ws H locs ls lv _ I hl hp hs
  · exact kf (by have h9 := ((lg_cmp_s x y).2.2.trans (i64l hy hx2)).mp (by rw [Int32.lt_iff_toInt_lt]; rw [Int32.le_iff_toInt_le] at q; omega); omega) ad0 n0 l0 D ty ro p e R s m args below meth cc A Q C hE ad ws H locs ls lv _ I hl hp hs
theorem g_tin {dflt lo hi : Int} {offs : Array Int} {len : Nat} {a off : Int} {tgt : Nat} (hd : decode (mB M) pc = .ok (.tableswitch dflt lo hi offs, len)) (h1 : lo ≤ a) (h2 : a ≤ hi) (ho : offs[(a - lo).toNat]? = some off) (ht : (pc : Int) + off = (tgt : Int)) (k : G E M d tgt l st w rf n c z res) : G E M d pc l (pI a :: st) w rf n c z res := by
  intro ad0 n0 l0 D ty ro p e R s m args below meth cc A Q C hE ad ws H locs ls lv sm I hl hp hs
  have hx := C.1
  have hb := C.2.1
  obtain ⟨x, sm, rfl, hx2, hs⟩ := sR_I hs
  exact lv_tableIn hx hb hd (by omega) (by omega) (by rw [hx2]; exact ho) ht (k ad0 n0 l0 D ty ro p e R s m args below meth cc A Q C hE ad ws H locs ls lv _ I hl hp hs)
theorem g_tout {dflt lo hi : Int} {offs : Array Int} {len : Nat} {a : Int} {tgt : Nat} (hd : decode (mB M) pc = .ok (.tableswitch dflt lo hi offs, len)) (h1 : a < lo ∨ hi < a) (ht : (pc : Int) + dflt = (tgt : Int)) (k : G E M d tgt l st w rf n c z res) : G E M d pc l (pI a :: st) w rf n c z res := by
  intro ad0 n0 l0 D ty ro p e R s m args below meth cc A Q C hE ad ws H locs ls lv sm I hl hp hs
  have hx := C.1
  have hb := C.2.1
  obtain ⟨x, sm, rfl, hx2, hs⟩ := sR_I hs
  exact lv_tableOut hx hb hd (by omega) ht (k ad0 n0 l0 D ty ro p e R s m args below meth cc A Q C hE ad ws H locs ls lv _ I hl hp hs)
theorem g_look {dflt : Int} {ps : Array (Int × Int)} {len : Nat} {a off : Int} {tgt : Nat} (hd : decode (mB M) pc = .ok (.lookupswitch dflt ps, len)) (hz : (ps.toList.zip (ps.toList.drop 1)).all (fun (a, next) => a.1 < next.1) = true) (ho : Op.lookupswitch.offset ps.toList dflt a = off) (ht : (pc : Int) + off = (tgt : Int)) (k : G E M d tgt l st w rf n c z res) : G E M d pc l (pI a :: st) w rf n c z res := by
  intro ad0 n0 l0 D ty ro p e R s m args below meth cc A Q C hE ad ws H locs ls lv sm I hl hp hs
  have hx := C.1
  have hb := C.2.1
  obtain ⟨x, sm, rfl, hx2, hs⟩ := sR_I hs
  exact lv_lookup hx hb hd hz (by rw [hx2]; exact ho) ht (k ad0 n0 l0 D ty ro p e R s m args below meth cc A Q C hE ad ws H locs ls lv _ I hl hp hs)
theorem g_ireturn {r : Int} (hd : decode (mB M) pc = .ok (.ireturn, 1)) (hz : mT M = some .boolean → r = 0 ∨ r = 1) (hc : c ≤ mC M) (hz2 : z ≤ mS M) : G E M d pc l [pI r] w rf n c z (some (pI r), w, rf, n) := by
  intro ad0 n0 l0 D ty ro p e R s m args below meth cc A Q C hE ad ws H locs ls lv sm I hl hp hs
  have hx := C.1
  have hb := C.2.1
  obtain ⟨x, sm, rfl, hx2, hs⟩ := sR_I hs
  cases sm with
  | nil => exact hE ad ws H locs pc ls c z I hc hz2 x hx2 hz hd
  | cons _ _ => exact hs.elim
theorem g_lreturn {r : Int} (hd : decode (mB M) pc = .ok (.lreturn, 1)) (hc : c ≤ mC M) (hz2 : z ≤ mS M) : G E M d pc l [pL r] w rf n c z (some (pL r), w, rf, n) := by
  intro ad0 n0 l0 D ty ro p e R s m args below meth cc A Q C hE ad ws H locs ls lv sm I hl hp hs
  have hx := C.1
  have hb := C.2.1
  obtain ⟨x, sm, rfl, hx2, hs⟩ := sR_L hs
  cases sm with
  | nil => exact hE ad ws H locs pc ls c z I hc hz2 x hx2 hd
  | cons _ _ => exact hs.elim
theorem g_return (hd : decode (mB M) pc = .ok (.return_, 1)) (hc : c ≤ mC M) (hz2 : z ≤ mS M) : G E M d pc l [] w rf n c z (none, w, rf, n) := by
  intro ad0 n0 l0 D ty ro p e R s m args below meth cc A Q C hE ad ws H locs ls lv sm I hl hp hs
  have hx := C.1
  have hb := C.2.1
  cases sm with
  | nil => exact hE ad ws H locs pc ls c z I hc hz2 hd
  | cons _ _ => exact hs.elim
theorem g_range {a : Int} (k : (-2147483648 ≤ a ∧ a < 2147483648) → G E M d pc l (pI a :: st) w rf n c z res) : G E M d pc l (pI a :: st) w rf n c z res := by
  intro ad0 n0 l0 D ty ro p e R s m args below meth cc A Q C hE ad ws H locs ls lv sm I hl hp hs
  have hx := C.1
  have hb := C.2.1
  obtain ⟨x, sm, rfl, hx2, hs⟩ := sR_I hs
  exact k (by have h1 := Int32.le_toInt x; have h2 := Int32.toInt_lt x; omega) ad0 n0 l0 D ty ro p e R s m args below meth cc A Q C hE ad ws H locs ls lv _ I hl hp ⟨⟨x, rfl, hx2⟩, hs⟩
/-- a field: which word links it, what it is -/
def FT : Nat → FieldType → Prop
  | 0, t => t = .int
  | 1, t => t = .long
  | 3, t => t = .boolean
  | _, t => (∃ q, t = .object q) ∨ ∃ q, t = .array q
def FP (own : String) (ix ci j fk N : Nat) (fin : Bool) : Prop := ∃ (C : String) (T : u_T) (ty0 : Nat → FieldType), classes[ci]? = some (C, T, N) ∧ j < N ∧ (∀ w ∈ u_ws C T N, w ∈ lw_g) ∧ Cond.fieldLink own ix (T j).1 (T j).2.1 (T j).2.2.1 ∈ lw_g ∧ FK ci j = fk ∧
  (∀ k, k < N → parseFieldDescriptor (T k).2.2.1 = some (ty0 k)) ∧ (∀ a, a < N → ∀ b, b < N → a ≠ b → (T a).2.1 ≠ (T b).2.1) ∧ (T j).2.2.2 = fin ∧ (T j).1 = C ∧ FT fk (ty0 j)
/-- a place: an object of a class; a row -/
def PO (k : Int) (n ci N : Nat) : Prop := 0 ≤ k ∧ k < (n : Int) ∧ SH k = (10 + ci, N)
def PA (k : Int) (n t N : Nat) : Prop := 0 ≤ k ∧ k < (n : Int) ∧ SH k = (t, N)
theorem cR_obj {ad ro : Nat → Nat} {n : Nat} {ty : Nat → ClassId} {rf w : WD} {k : Int} {e : va_E} {ci N : Nat} (h : cR ad ro n ty rf w k e) (hs : SH k = (10 + ci, N)) : ∃ fs : List Value, e = .inr (ci, fs) ∧ fs.length = N ∧ ∀ j : Nat, j < N → ∃ v, fs[j]? = some v ∧ vr ad ro n (pvF ci j rf w k) v := by
  unfold cR at h
  rw [hs] at h
  rcases h with ⟨t, h1, h2, -⟩ | ⟨h1, -⟩ | ⟨h1, -⟩ | ⟨c, h1, fs, h3, h5, h4⟩
  · simp only at h2; omega
  · simp only at h1; omega
  · simp only at h1; omega
  · simp only at h1
    have : c = ci := by omega
    subst this
    exact ⟨fs, h3, h5, h4⟩
theorem cR_int {ad ro : Nat → Nat} {n : Nat} {ty : Nat → ClassId} {rf w : WD} {k : Int} {e : va_E} {t N : Nat} (h : cR ad ro n ty rf w k e) (ht : t < 4) (hs : SH k = (t, N)) : ∃ f : Nat → Int32, e = .inl (ty t, N, .inl f) ∧ ∀ j : Nat, j < N → (f j).toInt = w k j := by
  unfold cR at h
  rw [hs] at h
  rcases h with ⟨t2, h1, h2, f, h3, h4⟩ | ⟨h1, -⟩ | ⟨h1, -⟩ | ⟨c, h1, -⟩
  · simp only at h2
    subst h2
    exact ⟨f, h3, h4⟩
  · simp only at h1; omega
  · simp only at h1; omega
  · simp only at h1; omega
theorem cR_long {ad ro : Nat → Nat} {n : Nat} {ty : Nat → ClassId} {rf w : WD} {k : Int} {e : va_E} {N : Nat} (h : cR ad ro n ty rf w k e) (hs : SH k = (4, N)) : ∃ f : Nat → Int64, e = .inl (ty 4, N, .inr (.inl f)) ∧ ∀ j : Nat, j < N → (f j).toInt = w k j := by
  unfold cR at h
  rw [hs] at h
  rcases h with ⟨t2, h1, h2, f, h3, h4⟩ | ⟨h1, f, h3, h4⟩ | ⟨h1, -⟩ | ⟨c, h1, -⟩
  · simp only at h2; omega
  · exact ⟨f, h3, h4⟩
  · simp only at h1; omega
  · simp only at h1; omega
theorem cR_ref {ad ro : Nat → Nat} {n : Nat} {ty : Nat → ClassId} {rf w : WD} {k : Int} {e : va_E} {N : Nat} (h : cR ad ro n ty rf w k e) (hs : SH k = (5, N)) : ∃ f : Nat → Option Nat, e = .inl (ty 5, N, .inr (.inr (.inr (.inr f)))) ∧ ∀ j : Nat, j < N → vr ad ro n (pR (rf k j)) (va_rf (f j)) := by
  unfold cR at h
  rw [hs] at h
  rcases h with ⟨t2, h1, h2, f, h3, h4⟩ | ⟨h1, f, h3, h4⟩ | ⟨h1, f, h3, h4⟩ | ⟨c, h1, -⟩
  · simp only at h2; omega
  · simp only at h1; omega
  · exact ⟨f, h3, h4⟩
  · simp only at h1; omega
theorem mk_int {ad ro : Nat → Nat} {n : Nat} {ty : Nat → ClassId} {rf w : WD} {k : Int} {t N : Nat} {f : Nat → Int32} (ht : t < 4) (hs : SH k = (t, N)) (h : ∀ j : Nat, j < N → (f j).toInt = w k j) : cR ad ro n ty rf w k (.inl (ty t, N, .inl f)) := by
  refine Or.inl ⟨t, ht, by rw [hs], f, by rw [hs], ?_⟩
  rw [hs]
  exact h
theorem mk_long {ad ro : Nat → Nat} {n : Nat} {ty : Nat → ClassId} {rf w : WD} {k : Int} {N : Nat} {f : Nat → Int64} (hs : SH k = (4, N)) (h : ∀ j : Nat, j < N → (f j).toInt = w k j) : cR ad ro n ty rf w k (.inl (ty 4, N, .inr (.inl f))) := by
  refine Or.inr (Or.inl ⟨by rw [hs], f, by rw [hs], ?_⟩)
  rw [hs]
  exact h
theorem mk_ref {ad ro : Nat → Nat} {n : Nat} {ty : Nat → ClassId} {rf w : WD} {k : Int} {N : Nat} {f : Nat → Option Nat} (hs : SH k = (5, N)) (h : ∀ j : Nat, j < N → vr ad ro n (pR (rf k j)) (va_rf (f j))) : cR ad ro n ty rf w k (.inl (ty 5, N, .inr (.inr (.inr (.inr f))))) := by
  refine Or.inr (Or.inr (Or.inl ⟨by rw [hs], f, by rw [hs], ?_⟩))
  rw [hs]
  exact h
theorem mk_obj {ad ro : Nat → Nat} {n : Nat} {ty : Nat → ClassId} {rf w : WD} {k : Int} {ci N : Nat} {fs : List Value} (hs : SH k = (10 + ci, N)) (hl : fs.length = N) (h : ∀ j : Nat, j < N → ∃ v, fs[j]? = some v ∧ vr ad ro n (pvF ci j rf w k) v) : cR ad ro n ty rf w k (.inr (ci, fs)) := by
  refine Or.inr (Or.inr (Or.inr ⟨ci, by rw [hs], fs, rfl, by rw [hs]; exact hl, ?_⟩))
  rw [hs]
  exact h
theorem pvF_I {c j : Nat} {rf w : WD} {k : Int} (h1 : FK c j ≠ 1) (h2 : FK c j ≠ 2) : pvF c j rf w k = pI (w k j) := by
  unfold pvF
  rw [if_neg h1, if_neg h2]
theorem pvF_L {c j : Nat} {rf w : WD} {k : Int} (h1 : FK c j = 1) : pvF c j rf w k = pL (w k j) := by
  unfold pvF
  rw [if_pos h1]
theorem pvF_R {c j : Nat} {rf w : WD} {k : Int} (h1 : FK c j = 2) : pvF c j rf w k = pR (rf k j) := by
  unfold pvF
  rw [if_neg (by omega), if_pos h1]
/-- an object's fields with one changed -/
theorem fs_set {ad ro : Nat → Nat} {n ci j N : Nat} {rf w rf' w' : WD} {k : Int} {fs : List Value} {x : Value} (hl : fs.length = N) (hj : j < N) (h : ∀ i : Nat, i < N → ∃ v, fs[i]? = some v ∧ vr ad ro n (pvF ci i rf w k) v) (hx : vr ad ro n (pvF ci j rf' w' k) x) (hw : ∀ i : Nat, i ≠ j → w' k i = w k i) (hr : ∀ i : Nat, i ≠ j → rf' k i = rf k i) :
    ∀ i : Nat, i < N → ∃ v, (fs.set j x)[i]? = some v ∧ vr ad ro n (pvF ci i rf' w' k) v := by
  intro i hi
  by_cases q : j = i
  · subst q
    exact ⟨x, List.getElem?_set_self (by omega), hx⟩
  · obtain ⟨v, h1, h2⟩ := h i hi
    refine ⟨v, by rw [List.getElem?_set_ne q]; exact h1, ?_⟩
    unfold pvF at h2 ⊢
    rw [hw i (Ne.symm q), hr i (Ne.symm q)]
    exact h2
theorem g_getI {ix ci j N : Nat} {fin : Bool} {k : Int} (hf : FP (mY M).cls ix ci j 0 N fin) (hp2 : PO k n ci N) (hd : decode (mB M) pc = .ok (.getfield ix, 3)) (kk : G E M d (pc + 3) l (pI (w k j) :: st) w rf n c z res) : G E M d pc l (pR k :: st) w rf n c z res := by
  intro ad0 n0 l0 D ty ro p e R s m args below meth cc A Q C hE ad ws H locs ls lv sm I hl hp hs
  have hx := C.1
  have hb := C.2.1
  obtain ⟨C0, T, ty0, f1, f2, f3, f4, f5, f6, f7, f8, f9, f10⟩ := hf
  obtain ⟨p0, p1, p2⟩ := hp2
  obtain ⟨kn, sm, rfl, rfl, hk, hs⟩ := sR_R hs p0
  obtain ⟨hP, hD, hS, ⟨hlen, hcs⟩, hn0, had⟩ := id I
  obtain ⟨e0, he, hcr⟩ := hcs kn hk
  obtain ⟨fs, rfl, hfl, hfv⟩ := cR_obj hcr p2
  obtain ⟨v0, hv0, hvr⟩ := hfv j f2
  rw [pvF_I (by omega) (by omega)] at hvr
  exact va_get hx hb C.2.2.2.2.2.1 f3 C.2.2.2.2.1 C.2.2.2.2.2.2.1 hP kn he f1 j f2 (C.2.2.2.2.2.1 _ f4) (fun _ h => h) hv0 hd (kk ad0 n0 l0 D ty ro p e R s m args below meth cc A Q C hE ad ws H locs ls lv _ I hl hp ⟨hvr, hs⟩)
theorem g_getZ {ix ci j N : Nat} {fin : Bool} {k : Int} (hf : FP (mY M).cls ix ci j 3 N fin) (hp2 : PO k n ci N) (hd : decode (mB M) pc = .ok (.getfield ix, 3)) (kk : G E M d (pc + 3) l (pI (w k j) :: st) w rf n c z res) : G E M d pc l (pR k :: st) w rf n c z res := by
  intro ad0 n0 l0 D ty ro p e R s m args below meth cc A Q C hE ad ws H locs ls lv sm I hl hp hs
  have hx := C.1
  have hb := C.2.1
  obtain ⟨C0, T, ty0, f1, f2, f3, f4, f5, f6, f7, f8, f9, f10⟩ := hf
  obtain ⟨p0, p1, p2⟩ := hp2
  obtain ⟨kn, sm, rfl, rfl, hk, hs⟩ := sR_R hs p0
  obtain ⟨hP, hD, hS, ⟨hlen, hcs⟩, hn0, had⟩ := id I
  obtain ⟨e0, he, hcr⟩ := hcs kn hk
  obtain ⟨fs, rfl, hfl, hfv⟩ := cR_obj hcr p2
  obtain ⟨v0, hv0, hvr⟩ := hfv j f2
  rw [pvF_I (by omega) (by omega)] at hvr
  exact va_get hx hb C.2.2.2.2.2.1 f3 C.2.2.2.2.1 C.2.2.2.2.2.2.1 hP kn he f1 j f2 (C.2.2.2.2.2.1 _ f4) (fun _ h => h) hv0 hd (kk ad0 n0 l0 D ty ro p e R s m args below meth cc A Q C hE ad ws H locs ls lv _ I hl hp ⟨hvr, hs⟩)
theorem g_getL {ix ci j N : Nat} {fin : Bool} {k : Int} (hf : FP (mY M).cls ix ci j 1 N fin) (hp2 : PO k n ci N) (hd : decode (mB M) pc = .ok (.getfield ix, 3)) (kk : G E M d (pc + 3) l (pL (w k j) :: st) w rf n c z res) : G E M d pc l (pR k :: st) w rf n c z res := by
  intro ad0 n0 l0 D ty ro p e R s m args below meth cc A Q C hE ad ws H locs ls lv sm I hl hp hs
  have hx := C.1
  have hb := C.2.1
  obtain ⟨C0, T, ty0, f1, f2, f3, f4, f5, f6, f7, f8, f9, f10⟩ := hf
  obtain ⟨p0, p1, p2⟩ := hp2
  obtain ⟨kn, sm, rfl, rfl, hk, hs⟩ := sR_R hs p0
  obtain ⟨hP, hD, hS, ⟨hlen, hcs⟩, hn0, had⟩ := id I
  obtain ⟨e0, he, hcr⟩ := hcs kn hk
  obtain ⟨fs, rfl, hfl, hfv⟩ := cR_obj hcr p2
  obtain ⟨v0, hv0, hvr⟩ := hfv j f2
  rw [pvF_L f5] at hvr
  exact va_get hx hb C.2.2.2.2.2.1 f3 C.2.2.2.2.1 C.2.2.2.2.2.2.1 hP kn he f1 j f2 (C.2.2.2.2.2.1 _ f4) (fun _ h => h) hv0 hd (kk ad0 n0 l0 D ty ro p e R s m args below meth cc A Q C hE ad ws H locs ls lv _ I hl hp ⟨hvr, hs⟩)
theorem g_getR {ix ci j N : Nat} {fin : Bool} {k : Int} {a : Int} (hv : rf k j = a) (hf : FP (mY M).cls ix ci j 2 N fin) (hp2 : PO k n ci N) (hd : decode (mB M) pc = .ok (.getfield ix, 3)) (kk : G E M d (pc + 3) l (pR a :: st) w rf n c z res) : G E M d pc l (pR k :: st) w rf n c z res := by
  intro ad0 n0 l0 D ty ro p e R s m args below meth cc A Q C hE ad ws H locs ls lv sm I hl hp hs
  have hx := C.1
  have hb := C.2.1
  obtain ⟨C0, T, ty0, f1, f2, f3, f4, f5, f6, f7, f8, f9, f10⟩ := hf
  obtain ⟨p0, p1, p2⟩ := hp2
  obtain ⟨kn, sm, rfl, rfl, hk, hs⟩ := sR_R hs p0
  obtain ⟨hP, hD, hS, ⟨hlen, hcs⟩, hn0, had⟩ := id I
  obtain ⟨e0, he, hcr⟩ := hcs kn hk
  obtain ⟨fs, rfl, hfl, hfv⟩ := cR_obj hcr p2
  obtain ⟨v0, hv0, hvr⟩ := hfv j f2
  rw [pvF_R f5] at hvr
  subst hv
  exact va_get hx hb C.2.2.2.2.2.1 f3 C.2.2.2.2.1 C.2.2.2.2.2.2.1 hP kn he f1 j f2 (C.2.2.2.2.2.1 _ f4) (fun _ h => h) hv0 hd (kk ad0 n0 l0 D ty ro p e R s m args below meth cc A Q C hE ad ws H locs ls lv _ I hl hp ⟨hvr, hs⟩)
theorem g_putI {ix ci j N : Nat} {k v : Int} (hf : FP (mY M).cls ix ci j 0 N false) (hp2 : PO k n ci N) (hd : decode (mB M) pc = .ok (.putfield ix, 3)) (kk : G E M d (pc + 3) l st (up w k j v) rf n c z res) : G E M d pc l (pI v :: pR k :: st) w rf n c z res := by
  intro ad0 n0 l0 D ty ro p e R s m args below meth cc A Q C hE ad ws H locs ls lv sm I hl hp hs
  have hx := C.1
  have hb := C.2.1
  obtain ⟨x, sm, rfl, hxv, hs⟩ := sR_I hs
  obtain ⟨C0, T, ty0, f1, f2, f3, f4, f5, f6, f7, f8, f9, f10⟩ := hf
  obtain ⟨p0, p1, p2⟩ := hp2
  obtain ⟨kn, sm, rfl, rfl, hk, hs⟩ := sR_R hs p0
  obtain ⟨hP, hD, hS, ⟨hlen, hcs⟩, hn0, had⟩ := id I
  obtain ⟨e0, he, hcr⟩ := hcs kn hk
  obtain ⟨fs, rfl, hfl, hfv⟩ := cR_obj hcr p2
  obtain ⟨v0, hv0, hvr⟩ := hfv j f2
  refine va_put hx hb C.2.2.2.2.2.1 f3 ty0 f6 f7 C.2.2.2.2.1 C.2.2.2.2.2.2.1 hP hD hS kn he f1 j f2 (C.2.2.2.2.2.1 _ f4) (fun _ h => h) f8 (f6 j f2) (by rw [f10]; rfl) (by rw [f10]; rfl) (by omega) hd (fun H1 locs1 hP1 hD1 hS1 => ?_)
  exact kk ad0 n0 l0 D ty ro p e R s m args below meth cc A Q C hE ad _ H1 locs1 ls lv _ (IV_set I hk hP1 hD1 hS1 (mk_obj p2 (by rw [List.length_set]; exact hfl) (fs_set hfl f2 hfv (by rw [pvF_I (by omega) (by omega), up_self]; exact ⟨x, rfl, hxv⟩) (fun i hi => up_ne2 (by omega)) (fun _ _ => rfl))) (fun i j2 hi => up_ne hi) (fun _ _ _ => rfl)) hl hp hs
theorem g_putL {ix ci j N : Nat} {k v : Int} (hf : FP (mY M).cls ix ci j 1 N false) (hp2 : PO k n ci N) (hd : decode (mB M) pc = .ok (.putfield ix, 3)) (kk : G E M d (pc + 3) l st (up w k j v) rf n c z res) : G E M d pc l (pL v :: pR k :: st) w rf n c z res := by
  intro ad0 n0 l0 D ty ro p e R s m args below meth cc A Q C hE ad ws H locs ls lv sm I hl hp hs
  have hx := C.1
  have hb := C.2.1
  obtain ⟨x, sm, rfl, hxv, hs⟩ := sR_L hs
  obtain ⟨C0, T, ty0, f1, f2, f3, f4, f5, f6, f7, f8, f9, f10⟩ := hf
  obtain ⟨p0, p1, p2⟩ := hp2
  obtain ⟨kn, sm, rfl, rfl, hk, hs⟩ := sR_R hs p0
  obtain ⟨hP, hD, hS, ⟨hlen, hcs⟩, hn0, had⟩ := id I
  obtain ⟨e0, he, hcr⟩ := hcs kn hk
  obtain ⟨fs, rfl, hfl, hfv⟩ := cR_obj hcr p2
  obtain ⟨v0, hv0, hvr⟩ := hfv j f2
  refine va_put hx hb C.2.2.2.2.2.1 f3 ty0 f6 f7 C.2.2.2.2.1 C.2.2.2.2.2.2.1 hP hD hS kn he f1 j f2 (C.2.2.2.2.2.1 _ f4) (fun _ h => h) f8 (f6 j f2) (by rw [f10]; rfl) (by rw [f10]; rfl) (by omega) hd (fun H1 locs1 hP1 hD1 hS1 => ?_)
  exact kk ad0 n0 l0 D ty ro p e R s m args below meth cc A Q C hE ad _ H1 locs1 ls lv _ (IV_set I hk hP1 hD1 hS1 (mk_obj p2 (by rw [List.length_set]; exact hfl) (fs_set hfl f2 hfv (by rw [pvF_L f5, up_self]; exact ⟨x, rfl, hxv⟩) (fun i hi => up_ne2 (by omega)) (fun _ _ => rfl))) (fun i j2 hi => up_ne hi) (fun _ _ _ => rfl)) hl hp hs
theorem g_putZ {ix ci j N : Nat} {k v : Int} (hf : FP (mY M).cls ix ci j 3 N false) (hp2 : PO k n ci N) (hv : v = 0 ∨ v = 1) (hd : decode (mB M) pc = .ok (.putfield ix, 3)) (kk : G E M d (pc + 3) l st (up w k j v) rf n c z res) : G E M d pc l (pI v :: pR k :: st) w rf n c z res := by
  intro ad0 n0 l0 D ty ro p e R s m args below meth cc A Q C hE ad ws H locs ls lv sm I hl hp hs
  have hx := C.1
  have hb := C.2.1
  obtain ⟨x, sm, rfl, hxv, hs⟩ := sR_I hs
  have hz : x = 0 ∨ x = 1 := by
    rcases hv with h | h
    · exact Or.inl (Int32.toInt_inj.mp (by rw [hxv, h]; rfl))
    · exact Or.inr (Int32.toInt_inj.mp (by rw [hxv, h]; rfl))
  obtain ⟨C0, T, ty0, f1, f2, f3, f4, f5, f6, f7, f8, f9, f10⟩ := hf
  obtain ⟨p0, p1, p2⟩ := hp2
  obtain ⟨kn, sm, rfl, rfl, hk, hs⟩ := sR_R hs p0
  obtain ⟨hP, hD, hS, ⟨hlen, hcs⟩, hn0, had⟩ := id I
  obtain ⟨e0, he, hcr⟩ := hcs kn hk
  obtain ⟨fs, rfl, hfl, hfv⟩ := cR_obj hcr p2
  obtain ⟨v0, hv0, hvr⟩ := hfv j f2
  refine va_put hx hb C.2.2.2.2.2.1 f3 ty0 f6 f7 C.2.2.2.2.1 C.2.2.2.2.2.2.1 hP hD hS kn he f1 j f2 (C.2.2.2.2.2.1 _ f4) (fun _ h => h) f8 (f6 j f2) (by rw [f10]; rcases hz with rfl | rfl <;> rfl) (by rw [f10]; rcases hz with rfl | rfl <;> rfl) (by omega) hd (fun H1 locs1 hP1 hD1 hS1 => ?_)
  exact kk ad0 n0 l0 D ty ro p e R s m args below meth cc A Q C hE ad _ H1 locs1 ls lv _ (IV_set I hk hP1 hD1 hS1 (mk_obj p2 (by rw [List.length_set]; exact hfl) (fs_set hfl f2 hfv (by rw [pvF_I (by omega) (by omega), up_self]; exact ⟨x, rfl, hxv⟩) (fun i hi => up_ne2 (by omega)) (fun _ _ => rfl))) (fun i j2 hi => up_ne hi) (fun _ _ _ => rfl)) hl hp hs
theorem g_putF {ix ci j N : Nat} {k a : Int} (hf : FP (mY M).cls ix ci j 2 N true) (hp2 : PO k n ci N) (hown2 : ∃ T2, classes[ci]? = some ((mY M).cls, T2, N)) (hini : (mY M).name = "<init>") (ha : 0 ≤ a) (hd : decode (mB M) pc = .ok (.putfield ix, 3)) (kk : G E M d (pc + 3) l st w (up rf k j a) n c z res) : G E M d pc l (pR a :: pR k :: st) w rf n c z res := by
  intro ad0 n0 l0 D ty ro p e R s m args below meth cc A Q C hE ad ws H locs ls lv sm I hl hp hs
  have hx := C.1
  have hb := C.2.1
  obtain ⟨an, sm, rfl, han, hak, hs⟩ := sR_R hs ha
  obtain ⟨C0, T, ty0, f1, f2, f3, f4, f5, f6, f7, f8, f9, f10⟩ := hf
  obtain ⟨p0, p1, p2⟩ := hp2
  obtain ⟨kn, sm, rfl, rfl, hk, hs⟩ := sR_R hs p0
  obtain ⟨hP, hD, hS, ⟨hlen, hcs⟩, hn0, had⟩ := id I
  obtain ⟨e0, he, hcr⟩ := hcs kn hk
  obtain ⟨fs, rfl, hfl, hfv⟩ := cR_obj hcr p2
  obtain ⟨v0, hv0, hvr⟩ := hfv j f2
  obtain ⟨T2, hT2⟩ := hown2
  have hC0 : C0 = (mY M).cls := by
    have h9 := f1.symm.trans hT2
    simp only [Option.some.injEq, Prod.mk.injEq] at h9
    exact h9.1
  have hnf : narrow (ty0 j) (.ref (ad an)) = .ref (ad an) ∧ fits (ty0 j) (.ref (ad an)) = true := by
    rcases f10 with ⟨q, f10⟩ | ⟨q, f10⟩ <;> rw [f10] <;> exact ⟨rfl, rfl⟩
  refine va_putF hx hb C.2.2.2.2.2.1 f3 ty0 f6 f7 C.2.2.2.2.1 C.2.2.2.2.2.2.1 hP hD hS kn he f1 j f2 (C.2.2.2.2.2.1 _ f4) (fun _ h => h) f8 (C.2.2.2.2.2.2.2.2.2.2.2 hini) (f9.trans hC0) (f6 j f2) hnf.1 hnf.2 (by omega) hd (fun H1 locs1 hP1 hD1 hS1 => ?_)
  exact kk ad0 n0 l0 D ty ro p e R s m args below meth cc A Q C hE ad _ H1 locs1 ls lv _ (IV_set I hk hP1 hD1 hS1 (mk_obj p2 (by rw [List.length_set]; exact hfl) (fs_set hfl f2 hfv (by rw [pvF_R f5, up_self]; exact Or.inl ⟨an, han, hak, rfl⟩) (fun _ _ => rfl) (fun i hi => up_ne2 (by omega)))) (fun _ _ _ => rfl) (fun i j2 hi => up_ne hi)) hl hp hs
theorem g_iald {N : Nat} {k i : Int} (hp2 : PA k n 0 N) (hd : decode (mB M) pc = .ok (.iaload, 1)) (hi : 0 ≤ i ∧ i < (N : Int)) (kk : G E M d (pc + 1) l (pI (w k i) :: st) w rf n c z res) : G E M d pc l (pI i :: pR k :: st) w rf n c z res := by
  intro ad0 n0 l0 D ty ro p e R s m args below meth cc A Q C hE ad ws H locs ls lv sm I hl hp hs
  have hx := C.1
  have hb := C.2.1
  obtain ⟨ix0, sm, rfl, hix, hs⟩ := sR_I hs
  obtain ⟨p0, p1, p2⟩ := hp2
  obtain ⟨kn, sm, rfl, rfl, hk, hs⟩ := sR_R hs p0
  obtain ⟨hP, hD, hS, ⟨hlen, hcs⟩, hn0, had⟩ := id I
  obtain ⟨e0, he, hcr⟩ := hcs kn hk
  obtain ⟨f, rfl, hf⟩ := cR_int hcr (by omega) p2
  obtain ⟨i1, i2⟩ := ixn hix hi
  exact va_iald hx hb C.2.2.2.2.2.2.1 hP kn 0 he rfl (vpin hix hi) hd (kk ad0 n0 l0 D ty ro p e R s m args below meth cc A Q C hE ad ws H locs ls lv _ I hl hp ⟨⟨_, rfl, by rw [hf _ i1, i2]⟩, hs⟩)
theorem g_bald {N : Nat} {k i : Int} (hp2 : PA k n 1 N) (hd : decode (mB M) pc = .ok (.baload, 1)) (hi : 0 ≤ i ∧ i < (N : Int)) (kk : G E M d (pc + 1) l (pI (w k i) :: st) w rf n c z res) : G E M d pc l (pI i :: pR k :: st) w rf n c z res := by
  intro ad0 n0 l0 D ty ro p e R s m args below meth cc A Q C hE ad ws H locs ls lv sm I hl hp hs
  have hx := C.1
  have hb := C.2.1
  obtain ⟨ix0, sm, rfl, hix, hs⟩ := sR_I hs
  obtain ⟨p0, p1, p2⟩ := hp2
  obtain ⟨kn, sm, rfl, rfl, hk, hs⟩ := sR_R hs p0
  obtain ⟨hP, hD, hS, ⟨hlen, hcs⟩, hn0, had⟩ := id I
  obtain ⟨e0, he, hcr⟩ := hcs kn hk
  obtain ⟨f, rfl, hf⟩ := cR_int hcr (by omega) p2
  obtain ⟨i1, i2⟩ := ixn hix hi
  exact va_bald hx hb C.2.2.2.2.2.2.1 hP kn 1 he rfl (vpin hix hi) hd (kk ad0 n0 l0 D ty ro p e R s m args below meth cc A Q C hE ad ws H locs ls lv _ I hl hp ⟨⟨_, rfl, by rw [hf _ i1, i2]⟩, hs⟩)
theorem g_zald {N : Nat} {k i : Int} (hp2 : PA k n 2 N) (hd : decode (mB M) pc = .ok (.baload, 1)) (hi : 0 ≤ i ∧ i < (N : Int)) (kk : G E M d (pc + 1) l (pI (w k i) :: st) w rf n c z res) : G E M d pc l (pI i :: pR k :: st) w rf n c z res := by
  intro ad0 n0 l0 D ty ro p e R s m args below meth cc A Q C hE ad ws H locs ls lv sm I hl hp hs
  have hx := C.1
  have hb := C.2.1
  obtain ⟨ix0, sm, rfl, hix, hs⟩ := sR_I hs
  obtain ⟨p0, p1, p2⟩ := hp2
  obtain ⟨kn, sm, rfl, rfl, hk, hs⟩ := sR_R hs p0
  obtain ⟨hP, hD, hS, ⟨hlen, hcs⟩, hn0, had⟩ := id I
  obtain ⟨e0, he, hcr⟩ := hcs kn hk
  obtain ⟨f, rfl, hf⟩ := cR_int hcr (by omega) p2
  obtain ⟨i1, i2⟩ := ixn hix hi
  exact va_zald hx hb C.2.2.2.2.2.2.1 hP kn 2 he rfl (vpin hix hi) hd (kk ad0 n0 l0 D ty ro p e R s m args below meth cc A Q C hE ad ws H locs ls lv _ I hl hp ⟨⟨_, rfl, by rw [hf _ i1, i2]⟩, hs⟩)
theorem g_sald {N : Nat} {k i : Int} (hp2 : PA k n 3 N) (hd : decode (mB M) pc = .ok (.saload, 1)) (hi : 0 ≤ i ∧ i < (N : Int)) (kk : G E M d (pc + 1) l (pI (w k i) :: st) w rf n c z res) : G E M d pc l (pI i :: pR k :: st) w rf n c z res := by
  intro ad0 n0 l0 D ty ro p e R s m args below meth cc A Q C hE ad ws H locs ls lv sm I hl hp hs
  have hx := C.1
  have hb := C.2.1
  obtain ⟨ix0, sm, rfl, hix, hs⟩ := sR_I hs
  obtain ⟨p0, p1, p2⟩ := hp2
  obtain ⟨kn, sm, rfl, rfl, hk, hs⟩ := sR_R hs p0
  obtain ⟨hP, hD, hS, ⟨hlen, hcs⟩, hn0, had⟩ := id I
  obtain ⟨e0, he, hcr⟩ := hcs kn hk
  obtain ⟨f, rfl, hf⟩ := cR_int hcr (by omega) p2
  obtain ⟨i1, i2⟩ := ixn hix hi
  exact va_sald hx hb C.2.2.2.2.2.2.1 hP kn 3 he rfl (vpin hix hi) hd (kk ad0 n0 l0 D ty ro p e R s m args below meth cc A Q C hE ad ws H locs ls lv _ I hl hp ⟨⟨_, rfl, by rw [hf _ i1, i2]⟩, hs⟩)
theorem g_lald {N : Nat} {k i : Int} (hp2 : PA k n 4 N) (hd : decode (mB M) pc = .ok (.laload, 1)) (hi : 0 ≤ i ∧ i < (N : Int)) (kk : G E M d (pc + 1) l (pL (w k i) :: st) w rf n c z res) : G E M d pc l (pI i :: pR k :: st) w rf n c z res := by
  intro ad0 n0 l0 D ty ro p e R s m args below meth cc A Q C hE ad ws H locs ls lv sm I hl hp hs
  have hx := C.1
  have hb := C.2.1
  obtain ⟨ix0, sm, rfl, hix, hs⟩ := sR_I hs
  obtain ⟨p0, p1, p2⟩ := hp2
  obtain ⟨kn, sm, rfl, rfl, hk, hs⟩ := sR_R hs p0
  obtain ⟨hP, hD, hS, ⟨hlen, hcs⟩, hn0, had⟩ := id I
  obtain ⟨e0, he, hcr⟩ := hcs kn hk
  obtain ⟨f, rfl, hf⟩ := cR_long hcr p2
  obtain ⟨i1, i2⟩ := ixn hix hi
  exact va_lald hx hb C.2.2.2.2.2.2.1 hP kn 4 he rfl (vpin hix hi) hd (kk ad0 n0 l0 D ty ro p e R s m args below meth cc A Q C hE ad ws H locs ls lv _ I hl hp ⟨⟨_, rfl, by rw [hf _ i1, i2]⟩, hs⟩)
theorem g_aald {N : Nat} {k i a : Int} (hp2 : PA k n 5 N) (hd : decode (mB M) pc = .ok (.aaload, 1)) (hi : 0 ≤ i ∧ i < (N : Int)) (hv : rf k i = a) (kk : G E M d (pc + 1) l (pR a :: st) w rf n c z res) : G E M d pc l (pI i :: pR k :: st) w rf n c z res := by
  intro ad0 n0 l0 D ty ro p e R s m args below meth cc A Q C hE ad ws H locs ls lv sm I hl hp hs
  have hx := C.1
  have hb := C.2.1
  obtain ⟨ix0, sm, rfl, hix, hs⟩ := sR_I hs
  obtain ⟨p0, p1, p2⟩ := hp2
  obtain ⟨kn, sm, rfl, rfl, hk, hs⟩ := sR_R hs p0
  obtain ⟨hP, hD, hS, ⟨hlen, hcs⟩, hn0, had⟩ := id I
  obtain ⟨e0, he, hcr⟩ := hcs kn hk
  obtain ⟨f, rfl, hf⟩ := cR_ref hcr p2
  obtain ⟨i1, i2⟩ := ixn hix hi
  have hv2 := hf _ i1
  rw [i2, hv] at hv2
  exact va_aldq hx hb C.2.2.2.2.2.2.1 hP kn 5 he rfl (vpin hix hi) hd (kk ad0 n0 l0 D ty ro p e R s m args below meth cc A Q C hE ad ws H locs ls lv _ I hl hp ⟨hv2, hs⟩)
theorem g_iast {N : Nat} {k i v : Int} (hp2 : PA k n 0 N) (hd : decode (mB M) pc = .ok (.iastore, 1)) (hi : 0 ≤ i ∧ i < (N : Int)) (kk : G E M d (pc + 1) l st (up w k i v) rf n c z res) : G E M d pc l (pI v :: pI i :: pR k :: st) w rf n c z res := by
  intro ad0 n0 l0 D ty ro p e R s m args below meth cc A Q C hE ad ws H locs ls lv sm I hl hp hs
  have hx := C.1
  have hb := C.2.1
  obtain ⟨x, sm, rfl, hxv, hs⟩ := sR_I hs
  obtain ⟨ix0, sm, rfl, hix, hs⟩ := sR_I hs
  obtain ⟨p0, p1, p2⟩ := hp2
  obtain ⟨kn, sm, rfl, rfl, hk, hs⟩ := sR_R hs p0
  obtain ⟨hP, hD, hS, ⟨hlen, hcs⟩, hn0, had⟩ := id I
  obtain ⟨e0, he, hcr⟩ := hcs kn hk
  obtain ⟨f, rfl, hf⟩ := cR_int hcr (by omega) p2
  obtain ⟨i1, i2⟩ := ixn hix hi
  refine va_iast hx hb C.2.2.2.2.2.2.1 hP hD hS kn 0 he rfl (vpin hix hi) hd (fun H1 locs1 hP1 hD1 hS1 => ?_)
  exact kk ad0 n0 l0 D ty ro p e R s m args below meth cc A Q C hE ad _ H1 locs1 ls lv _ (IV_set I hk hP1 hD1 hS1 (mk_int (by omega) p2 (by rw [← i2]; exact upd_r hf (hxv))) (fun _ _ h => up_ne h) (fun _ _ _ => rfl)) hl hp hs
theorem g_bast {N : Nat} {k i v : Int} (hp2 : PA k n 1 N) (hd : decode (mB M) pc = .ok (.bastore, 1)) (hi : 0 ≤ i ∧ i < (N : Int)) (kk : G E M d (pc + 1) l st (up w k i (w8 v)) rf n c z res) : G E M d pc l (pI v :: pI i :: pR k :: st) w rf n c z res := by
  intro ad0 n0 l0 D ty ro p e R s m args below meth cc A Q C hE ad ws H locs ls lv sm I hl hp hs
  have hx := C.1
  have hb := C.2.1
  obtain ⟨x, sm, rfl, hxv, hs⟩ := sR_I hs
  obtain ⟨ix0, sm, rfl, hix, hs⟩ := sR_I hs
  obtain ⟨p0, p1, p2⟩ := hp2
  obtain ⟨kn, sm, rfl, rfl, hk, hs⟩ := sR_R hs p0
  obtain ⟨hP, hD, hS, ⟨hlen, hcs⟩, hn0, had⟩ := id I
  obtain ⟨e0, he, hcr⟩ := hcs kn hk
  obtain ⟨f, rfl, hf⟩ := cR_int hcr (by omega) p2
  obtain ⟨i1, i2⟩ := ixn hix hi
  refine va_bast hx hb C.2.2.2.2.2.2.1 hP hD hS kn 1 he rfl (vpin hix hi) hd (fun H1 locs1 hP1 hD1 hS1 => ?_)
  exact kk ad0 n0 l0 D ty ro p e R s m args below meth cc A Q C hE ad _ H1 locs1 ls lv _ (IV_set I hk hP1 hD1 hS1 (mk_int (by omega) p2 (by rw [← i2]; exact upd_r hf (by rw [vp_nar_byte, Int8.toInt_toInt32, Int32.toInt_toInt8, hxv, w8_b]))) (fun _ _ h => up_ne h) (fun _ _ _ => rfl)) hl hp hs
theorem g_zast {N : Nat} {k i v : Int} (hp2 : PA k n 2 N) (hv : v = 0 ∨ v = 1) (hd : decode (mB M) pc = .ok (.bastore, 1)) (hi : 0 ≤ i ∧ i < (N : Int)) (kk : G E M d (pc + 1) l st (up w k i v) rf n c z res) : G E M d pc l (pI v :: pI i :: pR k :: st) w rf n c z res := by
  intro ad0 n0 l0 D ty ro p e R s m args below meth cc A Q C hE ad ws H locs ls lv sm I hl hp hs
  have hx := C.1
  have hb := C.2.1
  obtain ⟨x, sm, rfl, hxv, hs⟩ := sR_I hs
  obtain ⟨ix0, sm, rfl, hix, hs⟩ := sR_I hs
  obtain ⟨p0, p1, p2⟩ := hp2
  obtain ⟨kn, sm, rfl, rfl, hk, hs⟩ := sR_R hs p0
  obtain ⟨hP, hD, hS, ⟨hlen, hcs⟩, hn0, had⟩ := id I
  obtain ⟨e0, he, hcr⟩ := hcs kn hk
  have hz : x = 0 ∨ x = 1 := by
    rcases hv with h | h
    · exact Or.inl (Int32.toInt_inj.mp (by rw [hxv, h]; rfl))
    · exact Or.inr (Int32.toInt_inj.mp (by rw [hxv, h]; rfl))
  obtain ⟨f, rfl, hf⟩ := cR_int hcr (by omega) p2
  obtain ⟨i1, i2⟩ := ixn hix hi
  refine va_zast hx hb C.2.2.2.2.2.2.1 hP hD hS kn 2 he rfl (vpin hix hi) hd (fun H1 locs1 hP1 hD1 hS1 => ?_)
  exact kk ad0 n0 l0 D ty ro p e R s m args below meth cc A Q C hE ad _ H1 locs1 ls lv _ (IV_set I hk hP1 hD1 hS1 (mk_int (by omega) p2 (by rw [← i2]; exact upd_r hf (by rcases hz with rfl | rfl <;> exact hxv))) (fun _ _ h => up_ne h) (fun _ _ _ => rfl)) hl hp hs
theorem g_sast {N : Nat} {k i v : Int} (hp2 : PA k n 3 N) (hd : decode (mB M) pc = .ok (.sastore, 1)) (hi : 0 ≤ i ∧ i < (N : Int)) (kk : G E M d (pc + 1) l st (up w k i (w16 v)) rf n c z res) : G E M d pc l (pI v :: pI i :: pR k :: st) w rf n c z res := by
  intro ad0 n0 l0 D ty ro p e R s m args below meth cc A Q C hE ad ws H locs ls lv sm I hl hp hs
  have hx := C.1
  have hb := C.2.1
  obtain ⟨x, sm, rfl, hxv, hs⟩ := sR_I hs
  obtain ⟨ix0, sm, rfl, hix, hs⟩ := sR_I hs
  obtain ⟨p0, p1, p2⟩ := hp2
  obtain ⟨kn, sm, rfl, rfl, hk, hs⟩ := sR_R hs p0
  obtain ⟨hP, hD, hS, ⟨hlen, hcs⟩, hn0, had⟩ := id I
  obtain ⟨e0, he, hcr⟩ := hcs kn hk
  obtain ⟨f, rfl, hf⟩ := cR_int hcr (by omega) p2
  obtain ⟨i1, i2⟩ := ixn hix hi
  refine va_sast hx hb C.2.2.2.2.2.2.1 hP hD hS kn 3 he rfl (vpin hix hi) hd (fun H1 locs1 hP1 hD1 hS1 => ?_)
  exact kk ad0 n0 l0 D ty ro p e R s m args below meth cc A Q C hE ad _ H1 locs1 ls lv _ (IV_set I hk hP1 hD1 hS1 (mk_int (by omega) p2 (by rw [← i2]; exact upd_r hf (by rw [vp_nar_short, Int16.toInt_toInt32, Int32.toInt_toInt16, hxv, w16_b]))) (fun _ _ h => up_ne h) (fun _ _ _ => rfl)) hl hp hs
theorem g_last {N : Nat} {k i v : Int} (hp2 : PA k n 4 N) (hd : decode (mB M) pc = .ok (.lastore, 1)) (hi : 0 ≤ i ∧ i < (N : Int)) (kk : G E M d (pc + 1) l st (up w k i v) rf n c z res) : G E M d pc l (pL v :: pI i :: pR k :: st) w rf n c z res := by
  intro ad0 n0 l0 D ty ro p e R s m args below meth cc A Q C hE ad ws H locs ls lv sm I hl hp hs
  have hx := C.1
  have hb := C.2.1
  obtain ⟨x, sm, rfl, hxv, hs⟩ := sR_L hs
  obtain ⟨ix0, sm, rfl, hix, hs⟩ := sR_I hs
  obtain ⟨p0, p1, p2⟩ := hp2
  obtain ⟨kn, sm, rfl, rfl, hk, hs⟩ := sR_R hs p0
  obtain ⟨hP, hD, hS, ⟨hlen, hcs⟩, hn0, had⟩ := id I
  obtain ⟨e0, he, hcr⟩ := hcs kn hk
  obtain ⟨f, rfl, hf⟩ := cR_long hcr p2
  obtain ⟨i1, i2⟩ := ixn hix hi
  refine va_last hx hb C.2.2.2.2.2.2.1 hP hD hS kn 4 he rfl (vpin hix hi) hd (fun H1 locs1 hP1 hD1 hS1 => ?_)
  exact kk ad0 n0 l0 D ty ro p e R s m args below meth cc A Q C hE ad _ H1 locs1 ls lv _ (IV_set I hk hP1 hD1 hS1 (mk_long p2 (by rw [← i2]; exact updL_r hf hxv)) (fun _ _ h => up_ne h) (fun _ _ _ => rfl)) hl hp hs
theorem g_alen {N : Nat} {k : Int} (hp2 : PA k n 0 N) (hN : N < 1000) (hd : decode (mB M) pc = .ok (.arraylength, 1)) (kk : G E M d (pc + 1) l (pI (N : Int) :: st) w rf n c z res) : G E M d pc l (pR k :: st) w rf n c z res := by
  intro ad0 n0 l0 D ty ro p e R s m args below meth cc A Q C hE ad ws H locs ls lv sm I hl hp hs
  have hx := C.1
  have hb := C.2.1
  obtain ⟨p0, p1, p2⟩ := hp2
  obtain ⟨kn, sm, rfl, rfl, hk, hs⟩ := sR_R hs p0
  obtain ⟨hP, hD, hS, ⟨hlen, hcs⟩, hn0, had⟩ := id I
  obtain ⟨e0, he, hcr⟩ := hcs kn hk
  obtain ⟨f, rfl, hf⟩ := cR_int hcr (by omega) p2
  exact va_alen hx hb C.2.2.2.2.2.2.1 hP kn 0 he rfl rfl hd (kk ad0 n0 l0 D ty ro p e R s m args below meth cc A Q C hE ad ws H locs ls lv _ I hl hp ⟨⟨_, rfl, Int32.toInt_ofNat_of_lt (by omega)⟩, hs⟩)
theorem g_gets {ix q : Nat} {a : Int} (h2 : 2 ≤ q ∧ q ≤ 5) (ha : a = -(q : Int)) (hf : Cond.fieldLink (mY M).cls ix (stN q).1 (stN q).2 "[I" ∈ lw_g) (hd : decode (mB M) pc = .ok (.getstatic ix, 3)) (k : G E M d (pc + 3) l (pR a :: st) w rf n c z res) : G E M d pc l st w rf n c z res := by
  intro ad0 n0 l0 D ty ro p e R s m args below meth cc A Q C hE ad ws H locs ls lv sm I hl hp hs
  have hx := C.1
  have hb := C.2.1
  subst ha
  exact va_gets hx hb (C.2.2.2.2.2.2.2.2.1.2.1 q h2.1 h2.2) I.2.2.1 C.2.2.2.2.1 (C.2.2.2.2.2.1 _ hf) (fun _ h => h) hd (k ad0 n0 l0 D ty ro p e R s m args below meth cc A Q C hE ad ws H locs ls lv _ I hl hp ⟨Or.inr (Or.inl ⟨q, rfl, by omega, h2.2, rfl⟩), hs⟩)
theorem g_roald {q : Nat} {a i : Int} (h2 : 1 ≤ q ∧ q ≤ 5) (ha : a = -(q : Int)) (hi : 0 ≤ i ∧ i < (roN E q : Int)) (hd : decode (mB M) pc = .ok (.iaload, 1)) (k : G E M d (pc + 1) l (pI (roV E q i) :: st) w rf n c z res) : G E M d pc l (pI i :: pR a :: st) w rf n c z res := by
  intro ad0 n0 l0 D ty ro p e R s m args below meth cc A Q C hE ad ws H locs ls lv sm I hl hp hs
  have hx := C.1
  have hb := C.2.1
  subst ha
  obtain ⟨ix0, sm, rfl, hix, hs⟩ := sR_I hs
  obtain ⟨sm, rfl, -, hs⟩ := sR_O hs h2.1 h2.2
  obtain ⟨f, hT, hf⟩ := C.2.2.2.2.2.2.2.2.1.1 q h2.1 h2.2
  obtain ⟨i1, i2⟩ := ixn hix hi
  obtain ⟨x, hx1, hx2⟩ := hf _ i1
  exact va_ti hx hb hT I.2.2.1 (vpin hix hi) hx1 hd (k ad0 n0 l0 D ty ro p e R s m args below meth cc A Q C hE ad ws H locs ls lv _ I hl hp ⟨⟨x, rfl, by rw [hx2, i2]⟩, hs⟩)
theorem g_rolen {q : Nat} {a : Int} (h2 : 1 ≤ q ∧ q ≤ 5) (ha : a = -(q : Int)) (hd : decode (mB M) pc = .ok (.arraylength, 1)) (k : G E M d (pc + 1) l (pI (roN E q : Int) :: st) w rf n c z res) : G E M d pc l (pR a :: st) w rf n c z res := by
  intro ad0 n0 l0 D ty ro p e R s m args below meth cc A Q C hE ad ws H locs ls lv sm I hl hp hs
  have hx := C.1
  have hb := C.2.1
  subst ha
  obtain ⟨sm, rfl, -, hs⟩ := sR_O hs h2.1 h2.2
  obtain ⟨f, hT, hf⟩ := C.2.2.2.2.2.2.2.2.1.1 q h2.1 h2.2
  have hN : roN E q ≤ 3072 := by
    have h9 := C.2.2.2.2.2.2.2.2.1.2.2.2.1
    rcases (by omega : q = 1 ∨ q = 2 ∨ q = 3 ∨ q = 4 ∨ q = 5) with rfl | rfl | rfl | rfl | rfl
    · exact h9
    all_goals exact Nat.le_of_ble_eq_true rfl
  exact va_tlen hx hb hT I.2.2.1 rfl hd (k ad0 n0 l0 D ty ro p e R s m args below meth cc A Q C hE ad ws H locs ls lv _ I hl hp ⟨⟨_, rfl, Int32.toInt_ofNat_of_lt (by omega)⟩, hs⟩)
def cp (w : WD) (k0 sp k1 dp q : Int) : WD := fun k i => if k = k1 ∧ dp ≤ i ∧ i < dp + q then w k0 (sp + (i - dp)) else w k i
def ACP (own : String) (ix : Nat) : Prop := Cond.methodLink own ix arraycopyName ∈ lw_g ∧ Cond.native arraycopyName ∈ lw_g ∧ Cond.static arraycopyName ∈ lw_g ∧ Cond.initialized "java/lang/System" ∈ lw_g
theorem cat_le {ad ro : Nat → Nat} {n : Nat} {st : List PV} {sm : List Value} (h : sR (vr ad ro n) st sm) (hc : (st.map pcat).sum ≤ 8) : (sm.map fun v => v.category).sum ≤ 8 := by rw [sR_cat h]; exact hc
theorem g_copyI {ix N0 N1 : Nat} {k0 k1 sp dp q : Int} (hw : ACP (mY M).cls ix) (hp0 : PA k0 n 0 N0) (hp1 : PA k1 n 0 N1) (hd : decode (mB M) pc = .ok (.invokestatic ix, 3)) (hi : 0 ≤ sp ∧ 0 ≤ dp ∧ 0 ≤ q ∧ sp + q ≤ (N0 : Int) ∧ dp + q ≤ (N1 : Int)) (hcat : (st.map pcat).sum ≤ 8) (hdd : 1 ≤ d) (k : G E M d (pc + 3) l st (cp w k0 sp k1 dp q) rf n c z res) : G E M d pc l (pI q :: pI dp :: pR k1 :: pI sp :: pR k0 :: st) w rf n c z res := by
  intro ad0 n0 l0 D ty ro p e R s m args below meth cc A Q C hE ad ws H locs ls lv sm I hl hp hs
  have hx := C.1
  have hb := C.2.1
  obtain ⟨xq, sm, rfl, hxq, hs⟩ := sR_I hs
  obtain ⟨xd, sm, rfl, hxd, hs⟩ := sR_I hs
  obtain ⟨p3, p4, p5⟩ := hp1
  obtain ⟨kn1, sm, rfl, rfl, hk1, hs⟩ := sR_R hs p3
  obtain ⟨xs, sm, rfl, hxs, hs⟩ := sR_I hs
  obtain ⟨p0, p1, p2⟩ := hp0
  obtain ⟨kn0, sm, rfl, rfl, hk0, hs⟩ := sR_R hs p0
  obtain ⟨hP, hD, hS, ⟨hlen, hcs⟩, hn0, had⟩ := id I
  obtain ⟨e0, he0, hcr0⟩ := hcs kn0 hk0
  obtain ⟨e1, he1, hcr1⟩ := hcs kn1 hk1
  obtain ⟨f, rfl, hf⟩ := cR_int hcr0 (by omega) p2
  obtain ⟨g, rfl, hg⟩ := cR_int hcr1 (by omega) p5
  obtain ⟨g1, g2, g3, g4, g5⟩ := hi
  have hc8 := cat_le hs hcat
  have n1 : ¬ xs < 0 := fun h => by rw [Int32.lt_iff_toInt_lt, hxs, z32] at h; omega
  have n2 : ¬ xd < 0 := fun h => by rw [Int32.lt_iff_toInt_lt, hxd, z32] at h; omega
  have n3 : ¬ xq < 0 := fun h => by rw [Int32.lt_iff_toInt_lt, hxq, z32] at h; omega
  have t1 : ((xs.toNatClampNeg : Nat) : Int) = sp := by rw [← hxs]; exact Int32.cast_toNatClampNeg xs (by rw [Int32.le_iff_toInt_le, hxs, z32]; exact g1)
  have t2 : ((xd.toNatClampNeg : Nat) : Int) = dp := by rw [← hxd]; exact Int32.cast_toNatClampNeg xd (by rw [Int32.le_iff_toInt_le, hxd, z32]; exact g2)
  have t3 : ((xq.toNatClampNeg : Nat) : Int) = q := by rw [← hxq]; exact Int32.cast_toNatClampNeg xq (by rw [Int32.le_iff_toInt_le, hxq, z32]; exact g3)
  have hnat : nativeFrameWords "java/lang/System" "arraycopy" 5 ≤ 7 := by decide +kernel
  have hRm := C.2.2.2.2.2.2.2.2.2.1
  refine va_copyi hx hb (C.2.2.1.trans hl.1.symm) C.2.2.2.2.1 (C.2.2.2.2.2.1 _ hw.1) (C.2.2.2.2.2.1 _ hw.2.1) (C.2.2.2.2.2.1 _ hw.2.2.1) (C.2.2.2.2.2.1 _ hw.2.2.2) C.2.2.2.2.2.2.1 hP hD hS kn0 kn1 0 0 he0 he1 rfl rfl rfl n1 n2 n3 (by omega) (by omega) (fun _ _ => rfl) (by omega) (by omega) hd (fun H1 locs1 hP1 hD1 hS1 => ?_)
  refine k ad0 n0 l0 D ty ro p e R s m args below meth cc A Q C hE ad _ H1 locs1 ls lv _ (IV_set I hk1 hP1 hD1 hS1 (mk_int (by omega) p5 ?_) (fun i j h => ?_) (fun _ _ _ => rfl)) hl hp hs
  · intro j hj
    unfold va_cpy cp
    by_cases h9 : xd.toNatClampNeg ≤ j ∧ j < xd.toNatClampNeg + xq.toNatClampNeg
    · rw [if_pos h9, if_pos (by omega), hf _ (by omega)]
      congr 1
      omega
    · rw [if_neg h9, if_neg (by omega)]
      exact hg j hj
  · unfold cp
    rw [if_neg (fun z => h z.1)]
theorem g_copyL {ix N0 N1 : Nat} {k0 k1 sp dp q : Int} (hw : ACP (mY M).cls ix) (hp0 : PA k0 n 4 N0) (hp1 : PA k1 n 4 N1) (hd : decode (mB M) pc = .ok (.invokestatic ix, 3)) (hi : 0 ≤ sp ∧ 0 ≤ dp ∧ 0 ≤ q ∧ sp + q ≤ (N0 : Int) ∧ dp + q ≤ (N1 : Int)) (hcat : (st.map pcat).sum ≤ 8) (hdd : 1 ≤ d) (k : G E M d (pc + 3) l st (cp w k0 sp k1 dp q) rf n c z res) : G E M d pc l (pI q :: pI dp :: pR k1 :: pI sp :: pR k0 :: st) w rf n c z res := by
  intro ad0 n0 l0 D ty ro p e R s m args below meth cc A Q C hE ad ws H locs ls lv sm I hl hp hs
  have hx := C.1
  have hb := C.2.1
  obtain ⟨xq, sm, rfl, hxq, hs⟩ := sR_I hs
  obtain ⟨xd, sm, rfl, hxd, hs⟩ := sR_I hs
  obtain ⟨p3, p4, p5⟩ := hp1
  obtain ⟨kn1, sm, rfl, rfl, hk1, hs⟩ := sR_R hs p3
  obtain ⟨xs, sm, rfl, hxs, hs⟩ := sR_I hs
  obtain ⟨p0, p1, p2⟩ := hp0
  obtain ⟨kn0, sm, rfl, rfl, hk0, hs⟩ := sR_R hs p0
  obtain ⟨hP, hD, hS, ⟨hlen, hcs⟩, hn0, had⟩ := id I
  obtain ⟨e0, he0, hcr0⟩ := hcs kn0 hk0
  obtain ⟨e1, he1, hcr1⟩ := hcs kn1 hk1
  obtain ⟨f, rfl, hf⟩ := cR_long hcr0 p2
  obtain ⟨g, rfl, hg⟩ := cR_long hcr1 p5
  obtain ⟨g1, g2, g3, g4, g5⟩ := hi
  have hc8 := cat_le hs hcat
  have n1 : ¬ xs < 0 := fun h => by rw [Int32.lt_iff_toInt_lt, hxs, z32] at h; omega
  have n2 : ¬ xd < 0 := fun h => by rw [Int32.lt_iff_toInt_lt, hxd, z32] at h; omega
  have n3 : ¬ xq < 0 := fun h => by rw [Int32.lt_iff_toInt_lt, hxq, z32] at h; omega
  have t1 : ((xs.toNatClampNeg : Nat) : Int) = sp := by rw [← hxs]; exact Int32.cast_toNatClampNeg xs (by rw [Int32.le_iff_toInt_le, hxs, z32]; exact g1)
  have t2 : ((xd.toNatClampNeg : Nat) : Int) = dp := by rw [← hxd]; exact Int32.cast_toNatClampNeg xd (by rw [Int32.le_iff_toInt_le, hxd, z32]; exact g2)
  have t3 : ((xq.toNatClampNeg : Nat) : Int) = q := by rw [← hxq]; exact Int32.cast_toNatClampNeg xq (by rw [Int32.le_iff_toInt_le, hxq, z32]; exact g3)
  have hnat : nativeFrameWords "java/lang/System" "arraycopy" 5 ≤ 7 := by decide +kernel
  have hRm := C.2.2.2.2.2.2.2.2.2.1
  refine va_copyl hx hb (C.2.2.1.trans hl.1.symm) C.2.2.2.2.1 (C.2.2.2.2.2.1 _ hw.1) (C.2.2.2.2.2.1 _ hw.2.1) (C.2.2.2.2.2.1 _ hw.2.2.1) (C.2.2.2.2.2.1 _ hw.2.2.2) C.2.2.2.2.2.2.1 hP hD hS kn0 kn1 4 4 he0 he1 rfl rfl rfl n1 n2 n3 (by omega) (by omega) (fun _ _ => rfl) (by omega) (by omega) hd (fun H1 locs1 hP1 hD1 hS1 => ?_)
  refine k ad0 n0 l0 D ty ro p e R s m args below meth cc A Q C hE ad _ H1 locs1 ls lv _ (IV_set I hk1 hP1 hD1 hS1 (mk_long p5 ?_) (fun i j h => ?_) (fun _ _ _ => rfl)) hl hp hs
  · intro j hj
    unfold va_cpy cp
    by_cases h9 : xd.toNatClampNeg ≤ j ∧ j < xd.toNatClampNeg + xq.toNatClampNeg
    · rw [if_pos h9, if_pos (by omega), hf _ (by omega)]
      congr 1
      omega
    · rw [if_neg h9, if_neg (by omega)]
      exact hg j hj
  · unfold cp
    rw [if_neg (fun z => h z.1)]
end RULES
/-! ===== calls ===== -/
theorem gi {L : List Cond} (h : ∀ w ∈ L, w ∈ lw_g) : GoodIn lw_g L := fun w hw => ⟨h w hw, good_of_word (List.mem_filter.mp (h w hw)).2⟩
theorem gX.moved {E : Nat × (Int → Int)} {ro : Nat → Nat} {A : Nat → Prop} {s U : State} (hvm : s.vm = U.vm) (hh : U.heap = s.heap) (h : gX E ro A s) : gX E ro A U := by
  obtain ⟨h1, h2, h3, h4, h5⟩ := h
  have hal : s.vm.Alike U.vm := by rw [hvm]; exact Vm.Alike.refl U.vm
  refine ⟨fun k a b => ?_, fun k a b => ?_, va_AO.moved hal h3, h4, fun q hq => va_Nw.same rfl hvm (h5 q hq)⟩
  · obtain ⟨f, q1, q2⟩ := h1 k a b
    exact ⟨f, by rw [hh]; exact va_T.moved hal q1, q2⟩
  · rw [hh]
    exact va_Z.moved hal (h2 k a b)
theorem gX.call {E : Nat × (Int → Int)} {ro : Nat → Nat} {A B : Nat → Prop} {s U : State} {H : Heap} {locs : List Loc} (hW : s.WarmedH U.vm) (hS : va_S A s.heap H locs) (hh : U.heap = H) (hAB : ∀ q, B q → A q) (h : gX E ro A s) : gX E ro B U := by
  obtain ⟨h1, h2, h3, h4, h5⟩ := h
  have hk : ∀ a : Nat, a < s.heap.size → ¬ A a → U.heap[a]? = s.heap[a]? := fun a q1 q2 => by rw [hh]; exact hS.2.1 a q1 q2
  refine ⟨fun k a b => ?_, fun k a b => ?_, va_AO.moved hW.alike h3, h4, fun q hq => va_Nw.warmM hW (h5 q hq)⟩
  · obtain ⟨f, q1, q2⟩ := h1 k a b
    exact ⟨f, (va_T.moved hW.alike (va_T.kept q1 hk)).narrow hAB, q2⟩
  · exact (va_Z.moved hW.alike (va_Z.kept (h2 k a b) hk)).narrow hAB
def rmd (M : MR) (d : Nat) : Room := { frames := d, cells := mC M, slots := mS M, locals := 64 * d }
abbrev wsM (M : MR) : List Cond := Cond.code (mY M) (mB M) (mL M) (mT M) :: lw_g
abbrev PcM (E : Nat × (Int → Int)) (D : va_G) (ty : Nat → ClassId) (ro : Nat → Nat) (ws : va_W) (sz : Nat) (avm : List Value) : Array Value → State → Prop :=
  va_Pc avm (fun U => U.heap.size = sz ∧ va_P D classes ws U.heap ∧ va_K D classes (TYS ty) U ∧ va_D (fun _ => True) ws ∧ gX E ro (va_A ws sz) U)
abbrev uOK (ad ro : Nat → Nat) (n n' : Nat) (ty : Nat → ClassId) (rf' w' : WD) (u : (Nat → Nat) × va_W) : Prop := cells_ok u.1 ro n' ty rf' w' u.2 ∧ n ≤ n' ∧ ∀ j, j < n → u.1 j = ad j
abbrev BBM (D : va_G) (ty : Nat → ClassId) (ws : va_W) (sz : Nat) (u : (Nat → Nat) × va_W) (t : State) : Prop := va_P D classes u.2 t.heap ∧ va_K D classes (TYS ty) t ∧ va_D (va_A ws sz) u.2
/-- a method's contract: from these arguments and this world to this answer and that world -/
def CTi (E : Nat × (Int → Int)) (M : MR) (d : Nat) (av : List PV) (w rf : WD) (n : Nat) (r : Int) (w' rf' : WD) (n' : Nat) : Prop :=
  ∀ (l0 : Launch) (D : va_G) (ty : Nat → ClassId) (ro ad : Nat → Nat) (ws : va_W) (sz : Nat) (avm : List Value), cells_ok ad ro n ty rf w ws → sR (vr ad ro n) av avm →
    Met l0 (mY M) (wsM M) (rmd M d) (PcM E D ty ro ws sz avm) (va_Qi (fun (x : Int32) (u : (Nat → Nat) × va_W) => x.toInt = r ∧ (mT M = some .boolean → r = 0 ∨ r = 1) ∧ uOK ad ro n n' ty rf' w' u) (BBM D ty ws sz) (va_A ws sz)) (mC M) (mS M) (va_A ws sz)
def CTl (E : Nat × (Int → Int)) (M : MR) (d : Nat) (av : List PV) (w rf : WD) (n : Nat) (r : Int) (w' rf' : WD) (n' : Nat) : Prop :=
  ∀ (l0 : Launch) (D : va_G) (ty : Nat → ClassId) (ro ad : Nat → Nat) (ws : va_W) (sz : Nat) (avm : List Value), cells_ok ad ro n ty rf w ws → sR (vr ad ro n) av avm →
    Met l0 (mY M) (wsM M) (rmd M d) (PcM E D ty ro ws sz avm) (va_Ql (fun (x : Int64) (u : (Nat → Nat) × va_W) => x.toInt = r ∧ uOK ad ro n n' ty rf' w' u) (BBM D ty ws sz) (va_A ws sz)) (mC M) (mS M) (va_A ws sz)
def CTv (E : Nat × (Int → Int)) (M : MR) (d : Nat) (av : List PV) (w rf : WD) (n : Nat) (w' rf' : WD) (n' : Nat) : Prop :=
  ∀ (l0 : Launch) (D : va_G) (ty : Nat → ClassId) (ro ad : Nat → Nat) (ws : va_W) (sz : Nat) (avm : List Value), cells_ok ad ro n ty rf w ws → sR (vr ad ro n) av avm →
    Met l0 (mY M) (wsM M) (rmd M d) (PcM E D ty ro ws sz avm) (va_Qv (fun (u : (Nat → Nat) × va_W) => uOK ad ro n n' ty rf' w' u) (BBM D ty ws sz) (va_A ws sz)) (mC M) (mS M) (va_A ws sz)
def pargs : Nat → List PV → List (Nat × PV)
  | _, [] => []
  | i, v :: vs => (i, v) :: pargs (if pcat v = 2 then i + 2 else i + 1) vs
theorem pargs_r {ad ro : Nat → Nat} {n : Nat} : ∀ {av : List PV} {avm : List Value} (i : Nat), sR (vr ad ro n) av avm → pRl (vr ad ro n) (pargs i av) (lv_args i avm)
  | [], [], _, _ => trivial
  | x :: a, v :: m, i, q => by
    unfold pargs lv_args
    rw [vr_cat q.1]
    exact ⟨⟨rfl, q.1⟩, pargs_r _ q.2⟩
  | [], _ :: _, _, q => q.elim
  | _ :: _, [], _, q => q.elim
theorem sl_len : ∀ (vs : List Value), (lg_sl vs).length = (vs.map fun v => v.category).sum
  | [] => rfl
  | v :: vs => by
    have e : lg_sl (v :: vs) = lg_sl [v] ++ lg_sl vs := by simp [lg_sl]
    rw [e, List.length_append, sl_len vs, List.map_cons, List.sum_cons]
    congr 1
    rcases lv_cat v with h | h <;> simp [lg_sl, h]
/-- what all methods' walks begin with -/
theorem met_of {E : Nat × (Int → Int)} {M : MR} {d : Nat} {av : List PV} {w rf : WD} {n : Nat} {res : Option PV × WD × WD × Nat} (hy : plainName (mY M).cls = true) (hsz : (av.map pcat).sum ≤ mL M) (h : G E M d 0 (pargs 0 av) [] w rf n 0 0 res)
    {l0 : Launch} {D : va_G} {ty : Nat → ClassId} {ro ad : Nat → Nat} {ws : va_W} {sz : Nat} {avm : List Value} {Qc : Array Value → State → Outcome → State → Prop} (hc : cells_ok ad ro n ty rf w ws) (ha : sR (vr ad ro n) av avm)
    (hE : ∀ (p : Program) (e : Env) (s : State) (m : MethodId) (below : List Frame) (meth : Method) (cc : Code), s.heap.size = sz → CX E M d D ty ro p (rmd M d) s m avm.toArray meth cc (va_A ws sz) → EN M ad n D ty ro p l0 e (rmd M d) s m avm.toArray below meth cc (va_A ws sz) (MQ below Qc avm.toArray s (mC M) (mS M) (va_A ws sz)) res) :
    Met l0 (mY M) (wsM M) (rmd M d) (PcM E D ty ro ws sz avm) Qc (mC M) (mS M) (va_A ws sz) := by
  refine Met.ofW (cc := mB M) (maxL := mL M) (ret := mT M) hy rfl ?_
  intro p e s m args below meth c s₁ B hml hv
  obtain ⟨rfl, hz, hP, hK, hD0, hX⟩ := hv
  have hts := atoms_spec (ws := wsM M) B.pre
  have hC : CX E M d D ty ro p (rmd M d) s m avm.toArray meth c (va_A ws sz) :=
    ⟨B.exec, B.bytes, hml, B.returns, findClass_of_methodNamed B.named, fun w hw => hts w (List.mem_cons_of_mem _ hw), hK, fun q hq => Or.inr (by omega), hX, ⟨Nat.le_refl _, Nat.le_refl _, Nat.le_refl _, Nat.le_refl _⟩, B.notSynchronized, fun q => by rw [← q]; exact (name_of_methodNamed B.named B.method).1⟩
  have hl := lv_entry avm (n := mL M) (by rw [sl_len, sR_cat ha]; exact hsz)
  rw [lg_entry_eq]
  exact h ad n l0 D ty ro p e (rmd M d) s m avm.toArray below meth c (va_A ws sz) _ hC (hE p e s m below meth c hz hC) ad ws s.heap [] _ _ []
    ⟨hP, hD0.self, va_S.rf, hc, Nat.le_refl _, fun _ _ => rfl⟩ hl (pargs_r 0 ha) trivial
theorem CTv_of {E : Nat × (Int → Int)} {M : MR} {d : Nat} {av : List PV} {w rf : WD} {n : Nat} {w' rf' : WD} {n' : Nat} (hy : plainName (mY M).cls = true) (hsz : (av.map pcat).sum ≤ mL M) (hT : mT M = none) (h : G E M d 0 (pargs 0 av) [] w rf n 0 0 (none, w', rf', n')) : CTv E M d av w rf n w' rf' n' := by
  intro l0 D ty ro ad ws sz avm hc ha
  refine met_of hy hsz h hc ha (fun p e s m below meth cc hz C ad' ws' H locs pc ls c z I h1 h2 hd => ?_)
  obtain ⟨hP, hD, hS, hcs, hn, had⟩ := I
  refine W.widen (k := mC M) (n := mS M) h1 h2 ?_
  exact W.vret C.1 C.2.1 (C.2.2.2.1.trans hT) (fun t ht hW => ⟨⟨(ad', ws'), rfl, ⟨hcs, hn, had⟩, by rw [ht]; exact hP, va_K.moved hW.alike C.2.2.2.2.2.2.1, hD⟩, hS.F ht⟩) hS.2.2 hd C.2.2.2.2.2.2.2.2.2.2.1
theorem CTl_of {E : Nat × (Int → Int)} {M : MR} {d : Nat} {av : List PV} {w rf : WD} {n : Nat} {r : Int} {w' rf' : WD} {n' : Nat} (hy : plainName (mY M).cls = true) (hsz : (av.map pcat).sum ≤ mL M) (hT : mT M = some .long) (h : G E M d 0 (pargs 0 av) [] w rf n 0 0 (some (pL r), w', rf', n')) : CTl E M d av w rf n r w' rf' n' := by
  intro l0 D ty ro ad ws sz avm hc ha
  refine met_of hy hsz h hc ha (fun p e s m below meth cc hz C ad' ws' H locs pc ls c z I h1 h2 x hx2 hd => ?_)
  obtain ⟨hP, hD, hS, hcs, hn, had⟩ := I
  refine W.widen (k := mC M) (n := mS M) h1 h2 ?_
  exact W.lret C.1 C.2.1 (C.2.2.2.1.trans hT) (fun t ht hW => ⟨⟨x, (ad', ws'), rfl, ⟨hx2, hcs, hn, had⟩, by rw [ht]; exact hP, va_K.moved hW.alike C.2.2.2.2.2.2.1, hD⟩, hS.F ht⟩) hS.2.2 hd C.2.2.2.2.2.2.2.2.2.2.1
theorem CTi_of {E : Nat × (Int → Int)} {M : MR} {d : Nat} {av : List PV} {w rf : WD} {n : Nat} {r : Int} {w' rf' : WD} {n' : Nat} (hy : plainName (mY M).cls = true) (hsz : (av.map pcat).sum ≤ mL M) (hT : mT M = some .int ∨ mT M = some .boolean) (h : G E M d 0 (pargs 0 av) [] w rf n 0 0 (some (pI r), w', rf', n')) : CTi E M d av w rf n r w' rf' n' := by
  intro l0 D ty ro ad ws sz avm hc ha
  refine met_of hy hsz h hc ha (fun p e s m below meth cc hz C ad' ws' H locs pc ls c z I h1 h2 x hx2 hbz hd => ?_)
  obtain ⟨hP, hD, hS, hcs, hn, had⟩ := I
  refine W.widen (k := mC M) (n := mS M) h1 h2 ?_
  rcases hT with hT | hT
  · exact W.iret C.1 C.2.1 (C.2.2.2.1.trans hT) (fun t ht hW => ⟨⟨x, (ad', ws'), rfl, ⟨hx2, hbz, hcs, hn, had⟩, by rw [ht]; exact hP, va_K.moved hW.alike C.2.2.2.2.2.2.1, hD⟩, hS.F ht⟩) hS.2.2 hd C.2.2.2.2.2.2.2.2.2.2.1
  · have hz : x = 0 ∨ x = 1 := by
      rcases hbz hT with h | h
      · exact Or.inl (Int32.toInt_inj.mp (by rw [hx2, h]; rfl))
      · exact Or.inr (Int32.toInt_inj.mp (by rw [hx2, h]; rfl))
    exact W.zret C.1 C.2.1 (C.2.2.2.1.trans hT) (by rcases hz with rfl | rfl <;> rfl) (fun t ht hW => ⟨⟨x, (ad', ws'), rfl, ⟨hx2, hbz, hcs, hn, had⟩, by rw [ht]; exact hP, va_K.moved hW.alike C.2.2.2.2.2.2.1, hD⟩, hS.F ht⟩) hS.2.2 hd C.2.2.2.2.2.2.2.2.2.2.1
/-- the words of a method that is called -/
def plainM (M : MR) (na : Nat) : Prop := ((mY M).cls ≠ "java/lang/invoke/MethodHandle" ∧ (mY M).cls ≠ "java/lang/invoke/VarHandle") ∧ (parseMethodDescriptor (mY M).desc).map (fun d => d.parameters.length) = some na ∧ mL M ≤ 40 ∧ Cond.initialized (mY M).cls ∈ lw_g ∧ Cond.code (mY M) (mB M) (mL M) (mT M) ∈ lw_g
def VM (M : MR) (na : Nat) : Prop := plainM M na ∧ Cond.instanceMethod (mY M) ∈ lw_g ∧ Cond.selects (mY M).cls (mY M) (mY M) ∈ lw_g
def SM (M : MR) (na : Nat) : Prop := plainM M na ∧ Cond.static (mY M) ∈ lw_g
def IM (M : MR) (na : Nat) : Prop := plainM M na ∧ Cond.instanceMethod (mY M) ∈ lw_g ∧ (mY M).name = "<init>" ∧ mT M = none
theorem PcM_blind {E : Nat × (Int → Int)} {D : va_G} {ty : Nat → ClassId} {ro : Nat → Nat} {ws : va_W} {sz : Nat} {avm : List Value} : FrameBlind (PcM E D ty ro ws sz avm) := fun a U g mk q => by
  obtain ⟨q0, q1, q2, q3, q4, q5⟩ := q
  exact ⟨q0, q1, q2, va_K.moved (u := U) (U := U.calling g mk a) (Vm.Alike.refl U.vm) q3, q4, gX.moved (s := U) (U := U.calling g mk a) rfl rfl q5⟩
theorem range_map (ws : va_W) : (List.range ws.length).map (fun i => ws[i]?) = ws.map some := by
  apply List.ext_getElem?
  intro i
  rw [List.getElem?_map, List.getElem?_map]
  by_cases h : i < ws.length
  · rw [List.getElem?_range h, List.getElem?_eq_getElem h]
    simp [List.getElem?_eq_getElem h]
  · rw [List.getElem?_eq_none (by rw [List.length_range]; omega), List.getElem?_eq_none (by omega)]
    rfl
section CALLS
variable {E : Nat × (Int → Int)} {M : MR} {d pc : Nat} {l : List (Nat × PV)} {st : List PV} {w rf : WD} {n c z : Nat} {res : Option PV × WD × WD × Nat}
theorem g_callVi {ix na : Nat} {M2 : MR} {av S : List PV} {r : Int} {w2 rf2 : WD} {n2 : Nat} {k0 : Int} {ci N : Nat} (hp2 : PO k0 n ci N) (hcl : ∃ T, classes[ci]? = some ((mY M2).cls, T, N)) (hd : decode (mB M) pc = .ok (.invokevirtual ix, 3)) (hlk : Cond.methodLink (mY M).cls ix (mY M2) ∈ lw_g) (hv : VM M2 na) (hna : av.length = na) (hct : CTi E M2 d (pR k0 :: av) w rf n r w2 rf2 n2) (hst : S = av.reverse ++ pR k0 :: st) (hcat : (st.map pcat).sum ≤ 8) (hroom : c + mC M2 ≤ mC M ∧ z + mS M2 ≤ mS M) (k : (mT M2 = some .boolean → r = 0 ∨ r = 1) → G E M (d + 1) (pc + 3) l (pI r :: st) w2 rf2 n2 (c + mC M2) (z + mS M2) res) : G E M (d + 1) pc l S w rf n c z res := by
  intro ad0 n0 l0 D ty ro p e R s m args below meth cc A Q C hE ad ws H locs ls lv sm I hl hp hs
  subst hst
  have hx := C.1
  have hb := C.2.1
  have hml := C.2.2.1
  have hown := C.2.2.2.2.1
  have hts := C.2.2.2.2.2.1
  have hK := C.2.2.2.2.2.2.1
  have hA := C.2.2.2.2.2.2.2.1
  have hX := C.2.2.2.2.2.2.2.2.1
  have hRm := C.2.2.2.2.2.2.2.2.2.1
  obtain ⟨hP, hD, hS, hcs, hn0, had⟩ := id I
  have hFc := va_free (wc := ws) hD hS hA (List.range ws.length) (range_map ws)
  obtain ⟨p0, p1, p2⟩ := hp2
  obtain ⟨m1, m2, rfl, h1, h2⟩ := sR_app hs
  obtain ⟨kn, m3, rfl, rfl, hk, h3⟩ := sR_R h2 p0
  have hAs : sR (vr ad ro n) av m1.reverse := by
    have h9 := sR_rev h1
    rwa [List.reverse_reverse] at h9
  have hobj : ∃ fs, ws[kn]? = some (ad kn, .inr (ci, fs)) := by
    obtain ⟨e0, he, hcr⟩ := hcs.2 kn hk
    obtain ⟨fs, rfl, -, -⟩ := cR_obj hcr p2
    exact ⟨fs, he⟩
  have hM := hct l0 D ty ro ad ws H.size (.ref (ad kn) :: m1.reverse) hcs ⟨Or.inl ⟨kn, rfl, hk, rfl⟩, hAs⟩
  have hlA : m1.reverse.length = na := by rw [sR_len hAs]; exact hna
  have hc8 := cat_le h3 hcat
  refine va_calli (va_runV (As := m1.reverse) (rest := m3) ⟨hx, hb, hml, hown, hts⟩ hM (cwV na hts (gi (fun w h => by
    rcases List.mem_append.mp h with h | h
    · simp only [List.mem_cons, List.not_mem_nil, or_false] at h
      rcases h with rfl | rfl | rfl | rfl
      · exact hlk
      · exact hv.2.1
      · exact hv.2.2
      · exact hv.1.2.2.2.1
    · rcases List.mem_cons.mp h with rfl | h
      · exact hv.1.2.2.2.2
      · exact h)) rfl rfl rfl ⟨rfl, hv.1.1.1, hv.1.1.2, hv.1.2.1⟩ ⟨by show d + 1 ≤ _; omega, by show 8 + (_ + 11) + 64 * d ≤ _; have := hv.1.2.2.1; omega⟩) ⟨PcM_blind, va_recv hK hP (ci := ci) (q0 := kn) hcl.choose_spec (hobj.choose_spec), fun U hU hW => ⟨rfl, by rw [hU], by rw [hU]; exact hP, va_K.moved hW.alike hK, hD.weaken (fun _ _ _ _ => trivial), gX.call hW hS hU (fun q h => hFc q h) hX⟩⟩ rfl hlA hl.1 (by simp) (lv_room hc8) hd ⟨by omega, by omega⟩) hS (fun q _ h => hFc q h) hFc (fun x u t H1 locs1 ht hvm hpost hB hz1 hk1 hS1 => ?_)
  obtain ⟨hr, hb2, hu1, hu2, hu3⟩ := hpost
  obtain ⟨hP1, hK1, hD1⟩ := hB
  rw [ht] at hP1
  exact k hb2 ad0 n0 l0 D ty ro p e R s m args below meth cc A Q C hE u.1 u.2 H1 locs1 ls lv _ ⟨hP1, hD1.weaken (fun _ q _ h => hFc q.1 h), hS1, hu1, Nat.le_trans hn0 hu2, fun j hj => by rw [hu3 j (by omega)]; exact had j hj⟩ hl (pRl_imp (fun _ _ h => vr_mono hu2 hu3 h) _ _ hp) ⟨⟨x, rfl, hr⟩, sR_imp (fun _ _ h => vr_mono hu2 hu3 h) _ _ h3⟩
theorem g_callVl {ix na : Nat} {M2 : MR} {av S : List PV} {r : Int} {w2 rf2 : WD} {n2 : Nat} {k0 : Int} {ci N : Nat} (hp2 : PO k0 n ci N) (hcl : ∃ T, classes[ci]? = some ((mY M2).cls, T, N)) (hd : decode (mB M) pc = .ok (.invokevirtual ix, 3)) (hlk : Cond.methodLink (mY M).cls ix (mY M2) ∈ lw_g) (hv : VM M2 na) (hna : av.length = na) (hct : CTl E M2 d (pR k0 :: av) w rf n r w2 rf2 n2) (hst : S = av.reverse ++ pR k0 :: st) (hcat : (st.map pcat).sum ≤ 8) (hroom : c + mC M2 ≤ mC M ∧ z + mS M2 ≤ mS M) (k : G E M (d + 1) (pc + 3) l (pL r :: st) w2 rf2 n2 (c + mC M2) (z + mS M2) res) : G E M (d + 1) pc l S w rf n c z res := by
  intro ad0 n0 l0 D ty ro p e R s m args below meth cc A Q C hE ad ws H locs ls lv sm I hl hp hs
  subst hst
  have hx := C.1
  have hb := C.2.1
  have hml := C.2.2.1
  have hown := C.2.2.2.2.1
  have hts := C.2.2.2.2.2.1
  have hK := C.2.2.2.2.2.2.1
  have hA := C.2.2.2.2.2.2.2.1
  have hX := C.2.2.2.2.2.2.2.2.1
  have hRm := C.2.2.2.2.2.2.2.2.2.1
  obtain ⟨hP, hD, hS, hcs, hn0, had⟩ := id I
  have hFc := va_free (wc := ws) hD hS hA (List.range ws.length) (range_map ws)
  obtain ⟨p0, p1, p2⟩ := hp2
  obtain ⟨m1, m2, rfl, h1, h2⟩ := sR_app hs
  obtain ⟨kn, m3, rfl, rfl, hk, h3⟩ := sR_R h2 p0
  have hAs : sR (vr ad ro n) av m1.reverse := by
    have h9 := sR_rev h1
    rwa [List.reverse_reverse] at h9
  have hobj : ∃ fs, ws[kn]? = some (ad kn, .inr (ci, fs)) := by
    obtain ⟨e0, he, hcr⟩ := hcs.2 kn hk
    obtain ⟨fs, rfl, -, -⟩ := cR_obj hcr p2
    exact ⟨fs, he⟩
  have hM := hct l0 D ty ro ad ws H.size (.ref (ad kn) :: m1.reverse) hcs ⟨Or.inl ⟨kn, rfl, hk, rfl⟩, hAs⟩
  have hlA : m1.reverse.length = na := by rw [sR_len hAs]; exact hna
  have hc8 := cat_le h3 hcat
  refine va_calll (va_runV (As := m1.reverse) (rest := m3) ⟨hx, hb, hml, hown, hts⟩ hM (cwV na hts (gi (fun w h => by
    rcases List.mem_append.mp h with h | h
    · simp only [List.mem_cons, List.not_mem_nil, or_false] at h
      rcases h with rfl | rfl | rfl | rfl
      · exact hlk
      · exact hv.2.1
      · exact hv.2.2
      · exact hv.1.2.2.2.1
    · rcases List.mem_cons.mp h with rfl | h
      · exact hv.1.2.2.2.2
      · exact h)) rfl rfl rfl ⟨rfl, hv.1.1.1, hv.1.1.2, hv.1.2.1⟩ ⟨by show d + 1 ≤ _; omega, by show 8 + (_ + 11) + 64 * d ≤ _; have := hv.1.2.2.1; omega⟩) ⟨PcM_blind, va_recv hK hP (ci := ci) (q0 := kn) hcl.choose_spec (hobj.choose_spec), fun U hU hW => ⟨rfl, by rw [hU], by rw [hU]; exact hP, va_K.moved hW.alike hK, hD.weaken (fun _ _ _ _ => trivial), gX.call hW hS hU (fun q h => hFc q h) hX⟩⟩ rfl hlA hl.1 (by simp) (lv_room hc8) hd ⟨by omega, by omega⟩) hS (fun q _ h => hFc q h) hFc (fun x u t H1 locs1 ht hvm hpost hB hz1 hk1 hS1 => ?_)
  obtain ⟨hr, hu1, hu2, hu3⟩ := hpost
  obtain ⟨hP1, hK1, hD1⟩ := hB
  rw [ht] at hP1
  exact k ad0 n0 l0 D ty ro p e R s m args below meth cc A Q C hE u.1 u.2 H1 locs1 ls lv _ ⟨hP1, hD1.weaken (fun _ q _ h => hFc q.1 h), hS1, hu1, Nat.le_trans hn0 hu2, fun j hj => by rw [hu3 j (by omega)]; exact had j hj⟩ hl (pRl_imp (fun _ _ h => vr_mono hu2 hu3 h) _ _ hp) ⟨⟨x, rfl, hr⟩, sR_imp (fun _ _ h => vr_mono hu2 hu3 h) _ _ h3⟩
theorem g_callVv {ix na : Nat} {M2 : MR} {av S : List PV} {w2 rf2 : WD} {n2 : Nat} {k0 : Int} {ci N : Nat} (hp2 : PO k0 n ci N) (hcl : ∃ T, classes[ci]? = some ((mY M2).cls, T, N)) (hd : decode (mB M) pc = .ok (.invokevirtual ix, 3)) (hlk : Cond.methodLink (mY M).cls ix (mY M2) ∈ lw_g) (hv : VM M2 na) (hna : av.length = na) (hct : CTv E M2 d (pR k0 :: av) w rf n w2 rf2 n2) (hst : S = av.reverse ++ pR k0 :: st) (hcat : (st.map pcat).sum ≤ 8) (hroom : c + mC M2 ≤ mC M ∧ z + mS M2 ≤ mS M) (k : G E M (d + 1) (pc + 3) l st w2 rf2 n2 (c + mC M2) (z + mS M2) res) : G E M (d + 1) pc l S w rf n c z res := by
  intro ad0 n0 l0 D ty ro p e R s m args below meth cc A Q C hE ad ws H locs ls lv sm I hl hp hs
  subst hst
  have hx := C.1
  have hb := C.2.1
  have hml := C.2.2.1
  have hown := C.2.2.2.2.1
  have hts := C.2.2.2.2.2.1
  have hK := C.2.2.2.2.2.2.1
  have hA := C.2.2.2.2.2.2.2.1
  have hX := C.2.2.2.2.2.2.2.2.1
  have hRm := C.2.2.2.2.2.2.2.2.2.1
  obtain ⟨hP, hD, hS, hcs, hn0, had⟩ := id I
  have hFc := va_free (wc := ws) hD hS hA (List.range ws.length) (range_map ws)
  obtain ⟨p0, p1, p2⟩ := hp2
  obtain ⟨m1, m2, rfl, h1, h2⟩ := sR_app hs
  obtain ⟨kn, m3, rfl, rfl, hk, h3⟩ := sR_R h2 p0
  have hAs : sR (vr ad ro n) av m1.reverse := by
    have h9 := sR_rev h1
    rwa [List.reverse_reverse] at h9
  have hobj : ∃ fs, ws[kn]? = some (ad kn, .inr (ci, fs)) := by
    obtain ⟨e0, he, hcr⟩ := hcs.2 kn hk
    obtain ⟨fs, rfl, -, -⟩ := cR_obj hcr p2
    exact ⟨fs, he⟩
  have hM := hct l0 D ty ro ad ws H.size (.ref (ad kn) :: m1.reverse) hcs ⟨Or.inl ⟨kn, rfl, hk, rfl⟩, hAs⟩
  have hlA : m1.reverse.length = na := by rw [sR_len hAs]; exact hna
  have hc8 := cat_le h3 hcat
  refine va_callv (va_runV (As := m1.reverse) (rest := m3) ⟨hx, hb, hml, hown, hts⟩ hM (cwV na hts (gi (fun w h => by
    rcases List.mem_append.mp h with h | h
    · simp only [List.mem_cons, List.not_mem_nil, or_false] at h
      rcases h with rfl | rfl | rfl | rfl
      · exact hlk
      · exact hv.2.1
      · exact hv.2.2
      · exact hv.1.2.2.2.1
    · rcases List.mem_cons.mp h with rfl | h
      · exact hv.1.2.2.2.2
      · exact h)) rfl rfl rfl ⟨rfl, hv.1.1.1, hv.1.1.2, hv.1.2.1⟩ ⟨by show d + 1 ≤ _; omega, by show 8 + (_ + 11) + 64 * d ≤ _; have := hv.1.2.2.1; omega⟩) ⟨PcM_blind, va_recv hK hP (ci := ci) (q0 := kn) hcl.choose_spec (hobj.choose_spec), fun U hU hW => ⟨rfl, by rw [hU], by rw [hU]; exact hP, va_K.moved hW.alike hK, hD.weaken (fun _ _ _ _ => trivial), gX.call hW hS hU (fun q h => hFc q h) hX⟩⟩ rfl hlA hl.1 (by simp) (lv_room hc8) hd ⟨by omega, by omega⟩) hS (fun q _ h => hFc q h) hFc (fun u t H1 locs1 ht hvm hpost hB hz1 hk1 hS1 => ?_)
  obtain ⟨hu1, hu2, hu3⟩ := hpost
  obtain ⟨hP1, hK1, hD1⟩ := hB
  rw [ht] at hP1
  exact k ad0 n0 l0 D ty ro p e R s m args below meth cc A Q C hE u.1 u.2 H1 locs1 ls lv _ ⟨hP1, hD1.weaken (fun _ q _ h => hFc q.1 h), hS1, hu1, Nat.le_trans hn0 hu2, fun j hj => by rw [hu3 j (by omega)]; exact had j hj⟩ hl (pRl_imp (fun _ _ h => vr_mono hu2 hu3 h) _ _ hp) (sR_imp (fun _ _ h => vr_mono hu2 hu3 h) _ _ h3)
theorem g_callSi {ix na : Nat} {M2 : MR} {av S : List PV} {r : Int} {w2 rf2 : WD} {n2 : Nat} (hd : decode (mB M) pc = .ok (.invokestatic ix, 3)) (hlk : Cond.methodLink (mY M).cls ix (mY M2) ∈ lw_g) (hv : SM M2 na) (hna : av.length = na) (hct : CTi E M2 d av w rf n r w2 rf2 n2) (hst : S = av.reverse ++ st) (hcat : (st.map pcat).sum ≤ 8) (hroom : c + mC M2 ≤ mC M ∧ z + mS M2 ≤ mS M) (k : (mT M2 = some .boolean → r = 0 ∨ r = 1) → G E M (d + 1) (pc + 3) l (pI r :: st) w2 rf2 n2 (c + mC M2) (z + mS M2) res) : G E M (d + 1) pc l S w rf n c z res := by
  intro ad0 n0 l0 D ty ro p e R s m args below meth cc A Q C hE ad ws H locs ls lv sm I hl hp hs
  subst hst
  have hx := C.1
  have hb := C.2.1
  have hml := C.2.2.1
  have hown := C.2.2.2.2.1
  have hts := C.2.2.2.2.2.1
  have hK := C.2.2.2.2.2.2.1
  have hA := C.2.2.2.2.2.2.2.1
  have hX := C.2.2.2.2.2.2.2.2.1
  have hRm := C.2.2.2.2.2.2.2.2.2.1
  obtain ⟨hP, hD, hS, hcs, hn0, had⟩ := id I
  have hFc := va_free (wc := ws) hD hS hA (List.range ws.length) (range_map ws)
  obtain ⟨m1, m3, rfl, h1, h3⟩ := sR_app hs
  have hAs : sR (vr ad ro n) av m1.reverse := by
    have h9 := sR_rev h1
    rwa [List.reverse_reverse] at h9
  have hM := hct l0 D ty ro ad ws H.size m1.reverse hcs hAs
  have hlA : m1.reverse.length = na := by rw [sR_len hAs]; exact hna
  have hc8 := cat_le h3 hcat
  refine va_calli (va_runS (As := m1.reverse) (rest := m3) ⟨hx, hb, hml, hown, hts⟩ hM (va_cwS na hts (gi (fun w h => by
    rcases List.mem_append.mp h with h | h
    · simp only [List.mem_cons, List.not_mem_nil, or_false] at h
      rcases h with rfl | rfl | rfl
      · exact hlk
      · exact hv.2
      · exact hv.1.2.2.2.1
    · rcases List.mem_cons.mp h with rfl | h
      · exact hv.1.2.2.2.2
      · exact h)) rfl rfl rfl ⟨hv.1.1.1, hv.1.1.2, hv.1.2.1⟩ ⟨by show d + 1 ≤ _; omega, by show 8 + (_ + 11) + 64 * d ≤ _; have := hv.1.2.2.1; omega⟩) ⟨PcM_blind, fun U hU hW => ⟨rfl, by rw [hU], by rw [hU]; exact hP, va_K.moved hW.alike hK, hD.weaken (fun _ _ _ _ => trivial), gX.call hW hS hU (fun q h => hFc q h) hX⟩⟩ rfl hlA hl.1 (by simp) (lv_room hc8) hd ⟨by omega, by omega⟩) hS (fun q _ h => hFc q h) hFc (fun x u t H1 locs1 ht hvm hpost hB hz1 hk1 hS1 => ?_)
  obtain ⟨hr, hb2, hu1, hu2, hu3⟩ := hpost
  obtain ⟨hP1, hK1, hD1⟩ := hB
  rw [ht] at hP1
  exact k hb2 ad0 n0 l0 D ty ro p e R s m args below meth cc A Q C hE u.1 u.2 H1 locs1 ls lv _ ⟨hP1, hD1.weaken (fun _ q _ h => hFc q.1 h), hS1, hu1, Nat.le_trans hn0 hu2, fun j hj => by rw [hu3 j (by omega)]; exact had j hj⟩ hl (pRl_imp (fun _ _ h => vr_mono hu2 hu3 h) _ _ hp) ⟨⟨x, rfl, hr⟩, sR_imp (fun _ _ h => vr_mono hu2 hu3 h) _ _ h3⟩
theorem g_callSl {ix na : Nat} {M2 : MR} {av S : List PV} {r : Int} {w2 rf2 : WD} {n2 : Nat} (hd : decode (mB M) pc = .ok (.invokestatic ix, 3)) (hlk : Cond.methodLink (mY M).cls ix (mY M2) ∈ lw_g) (hv : SM M2 na) (hna : av.length = na) (hct : CTl E M2 d av w rf n r w2 rf2 n2) (hst : S = av.reverse ++ st) (hcat : (st.map pcat).sum ≤ 8) (hroom : c + mC M2 ≤ mC M ∧ z + mS M2 ≤ mS M) (k : G E M (d + 1) (pc + 3) l (pL r :: st) w2 rf2 n2 (c + mC M2) (z + mS M2) res) : G E M (d + 1) pc l S w rf n c z res := by
  intro ad0 n0 l0 D ty ro p e R s m args below meth cc A Q C hE ad ws H locs ls lv sm I hl hp hs
  subst hst
  have hx := C.1
  have hb := C.2.1
  have hml := C.2.2.1
  have hown := C.2.2.2.2.1
  have hts := C.2.2.2.2.2.1
  have hK := C.2.2.2.2.2.2.1
  have hA := C.2.2.2.2.2.2.2.1
  have hX := C.2.2.2.2.2.2.2.2.1
  have hRm := C.2.2.2.2.2.2.2.2.2.1
  obtain ⟨hP, hD, hS, hcs, hn0, had⟩ := id I
  have hFc := va_free (wc := ws) hD hS hA (List.range ws.length) (range_map ws)
  obtain ⟨m1, m3, rfl, h1, h3⟩ := sR_app hs
  have hAs : sR (vr ad ro n) av m1.reverse := by
    have h9 := sR_rev h1
    rwa [List.reverse_reverse] at h9
  have hM := hct l0 D ty ro ad ws H.size m1.reverse hcs hAs
  have hlA : m1.reverse.length = na := by rw [sR_len hAs]; exact hna
  have hc8 := cat_le h3 hcat
  refine va_calll (va_runS (As := m1.reverse) (rest := m3) ⟨hx, hb, hml, hown, hts⟩ hM (va_cwS na hts (gi (fun w h => by
    rcases List.mem_append.mp h with h | h
    · simp only [List.mem_cons, List.not_mem_nil, or_false] at h
      rcases h with rfl | rfl | rfl
      · exact hlk
      · exact hv.2
      · exact hv.1.2.2.2.1
    · rcases List.mem_cons.mp h with rfl | h
      · exact hv.1.2.2.2.2
      · exact h)) rfl rfl rfl ⟨hv.1.1.1, hv.1.1.2, hv.1.2.1⟩ ⟨by show d + 1 ≤ _; omega, by show 8 + (_ + 11) + 64 * d ≤ _; have := hv.1.2.2.1; omega⟩) ⟨PcM_blind, fun U hU hW => ⟨rfl, by rw [hU], by rw [hU]; exact hP, va_K.moved hW.alike hK, hD.weaken (fun _ _ _ _ => trivial), gX.call hW hS hU (fun q h => hFc q h) hX⟩⟩ rfl hlA hl.1 (by simp) (lv_room hc8) hd ⟨by omega, by omega⟩) hS (fun q _ h => hFc q h) hFc (fun x u t H1 locs1 ht hvm hpost hB hz1 hk1 hS1 => ?_)
  obtain ⟨hr, hu1, hu2, hu3⟩ := hpost
  obtain ⟨hP1, hK1, hD1⟩ := hB
  rw [ht] at hP1
  exact k ad0 n0 l0 D ty ro p e R s m args below meth cc A Q C hE u.1 u.2 H1 locs1 ls lv _ ⟨hP1, hD1.weaken (fun _ q _ h => hFc q.1 h), hS1, hu1, Nat.le_trans hn0 hu2, fun j hj => by rw [hu3 j (by omega)]; exact had j hj⟩ hl (pRl_imp (fun _ _ h => vr_mono hu2 hu3 h) _ _ hp) ⟨⟨x, rfl, hr⟩, sR_imp (fun _ _ h => vr_mono hu2 hu3 h) _ _ h3⟩
theorem g_callSv {ix na : Nat} {M2 : MR} {av S : List PV} {w2 rf2 : WD} {n2 : Nat} (hd : decode (mB M) pc = .ok (.invokestatic ix, 3)) (hlk : Cond.methodLink (mY M).cls ix (mY M2) ∈ lw_g) (hv : SM M2 na) (hna : av.length = na) (hct : CTv E M2 d av w rf n w2 rf2 n2) (hst : S = av.reverse ++ st) (hcat : (st.map pcat).sum ≤ 8) (hroom : c + mC M2 ≤ mC M ∧ z + mS M2 ≤ mS M) (k : G E M (d + 1) (pc + 3) l st w2 rf2 n2 (c + mC M2) (z + mS M2) res) : G E M (d + 1) pc l S w rf n c z res := by
  intro ad0 n0 l0 D ty ro p e R s m args below meth cc A Q C hE ad ws H locs ls lv sm I hl hp hs
  subst hst
  have hx := C.1
  have hb := C.2.1
  have hml := C.2.2.1
  have hown := C.2.2.2.2.1
  have hts := C.2.2.2.2.2.1
  have hK := C.2.2.2.2.2.2.1
  have hA := C.2.2.2.2.2.2.2.1
  have hX := C.2.2.2.2.2.2.2.2.1
  have hRm := C.2.2.2.2.2.2.2.2.2.1
  obtain ⟨hP, hD, hS, hcs, hn0, had⟩ := id I
  have hFc := va_free (wc := ws) hD hS hA (List.range ws.length) (range_map ws)
  obtain ⟨m1, m3, rfl, h1, h3⟩ := sR_app hs
  have hAs : sR (vr ad ro n) av m1.reverse := by
    have h9 := sR_rev h1
    rwa [List.reverse_reverse] at h9
  have hM := hct l0 D ty ro ad ws H.size m1.reverse hcs hAs
  have hlA : m1.reverse.length = na := by rw [sR_len hAs]; exact hna
  have hc8 := cat_le h3 hcat
  refine va_callv (va_runS (As := m1.reverse) (rest := m3) ⟨hx, hb, hml, hown, hts⟩ hM (va_cwS na hts (gi (fun w h => by
    rcases List.mem_append.mp h with h | h
    · simp only [List.mem_cons, List.not_mem_nil, or_false] at h
      rcases h with rfl | rfl | rfl
      · exact hlk
      · exact hv.2
      · exact hv.1.2.2.2.1
    · rcases List.mem_cons.mp h with rfl | h
      · exact hv.1.2.2.2.2
      · exact h)) rfl rfl rfl ⟨hv.1.1.1, hv.1.1.2, hv.1.2.1⟩ ⟨by show d + 1 ≤ _; omega, by show 8 + (_ + 11) + 64 * d ≤ _; have := hv.1.2.2.1; omega⟩) ⟨PcM_blind, fun U hU hW => ⟨rfl, by rw [hU], by rw [hU]; exact hP, va_K.moved hW.alike hK, hD.weaken (fun _ _ _ _ => trivial), gX.call hW hS hU (fun q h => hFc q h) hX⟩⟩ rfl hlA hl.1 (by simp) (lv_room hc8) hd ⟨by omega, by omega⟩) hS (fun q _ h => hFc q h) hFc (fun u t H1 locs1 ht hvm hpost hB hz1 hk1 hS1 => ?_)
  obtain ⟨hu1, hu2, hu3⟩ := hpost
  obtain ⟨hP1, hK1, hD1⟩ := hB
  rw [ht] at hP1
  exact k ad0 n0 l0 D ty ro p e R s m args below meth cc A Q C hE u.1 u.2 H1 locs1 ls lv _ ⟨hP1, hD1.weaken (fun _ q _ h => hFc q.1 h), hS1, hu1, Nat.le_trans hn0 hu2, fun j hj => by rw [hu3 j (by omega)]; exact had j hj⟩ hl (pRl_imp (fun _ _ h => vr_mono hu2 hu3 h) _ _ hp) (sR_imp (fun _ _ h => vr_mono hu2 hu3 h) _ _ h3)
theorem g_callI {ix na : Nat} {M2 : MR} {av S : List PV} {w2 rf2 : WD} {n2 : Nat} {k0 : Int} {ci N : Nat} (hp2 : PO k0 n ci N) (hd : decode (mB M) pc = .ok (.invokespecial ix, 3)) (hlk : Cond.methodLink (mY M).cls ix (mY M2) ∈ lw_g) (hv : IM M2 na) (hna : av.length = na) (hct : CTv E M2 d (pR k0 :: av) w rf n w2 rf2 n2) (hst : S = av.reverse ++ pR k0 :: st) (hcat : (st.map pcat).sum ≤ 8) (hroom : c + mC M2 ≤ mC M ∧ z + mS M2 ≤ mS M) (k : G E M (d + 1) (pc + 3) l st w2 rf2 n2 (c + mC M2) (z + mS M2) res) : G E M (d + 1) pc l S w rf n c z res := by
  intro ad0 n0 l0 D ty ro p e R s m args below meth cc A Q C hE ad ws H locs ls lv sm I hl hp hs
  subst hst
  have hx := C.1
  have hb := C.2.1
  have hml := C.2.2.1
  have hown := C.2.2.2.2.1
  have hts := C.2.2.2.2.2.1
  have hK := C.2.2.2.2.2.2.1
  have hA := C.2.2.2.2.2.2.2.1
  have hX := C.2.2.2.2.2.2.2.2.1
  have hRm := C.2.2.2.2.2.2.2.2.2.1
  obtain ⟨hP, hD, hS, hcs, hn0, had⟩ := id I
  have hFc := va_free (wc := ws) hD hS hA (List.range ws.length) (range_map ws)
  obtain ⟨p0, p1, p2⟩ := hp2
  obtain ⟨m1, m2, rfl, h1, h2⟩ := sR_app hs
  obtain ⟨kn, m3, rfl, rfl, hk, h3⟩ := sR_R h2 p0
  have hAs : sR (vr ad ro n) av m1.reverse := by
    have h9 := sR_rev h1
    rwa [List.reverse_reverse] at h9
  have hM := hct l0 D ty ro ad ws H.size (.ref (ad kn) :: m1.reverse) hcs ⟨Or.inl ⟨kn, rfl, hk, rfl⟩, hAs⟩
  have hlA : m1.reverse.length = na := by rw [sR_len hAs]; exact hna
  have hc8 := cat_le h3 hcat
  refine va_callv (va_runI (As := m1.reverse) (rest := m3) ⟨hx, hb, hml, hown, hts⟩ hM (cwI (ws := wsM M2) (ws' := lw_g) (bytes := mB M2) (maxL := mL M2) na hts (gi (fun w h => by
    rcases List.mem_cons.mp h with rfl | h
    · exact hv.1.2.2.2.2
    · exact h)) (by show wsM M2 = _; unfold wsM; rw [hv.2.2.2]) rfl rfl (hts _ hv.1.2.2.2.1) (hts _ hlk) (hts _ hv.2.1) hv.2.2.1 ⟨hv.1.1.1, hv.1.1.2, hv.1.2.1⟩ ⟨by show d + 1 ≤ _; omega, by show 8 + (_ + 11) + 64 * d ≤ _; have := hv.1.2.2.1; omega⟩) ⟨PcM_blind, fun U hU hW => ⟨rfl, by rw [hU], by rw [hU]; exact hP, va_K.moved hW.alike hK, hD.weaken (fun _ _ _ _ => trivial), gX.call hW hS hU (fun q h => hFc q h) hX⟩⟩ rfl hlA hl.1 (by simp) (lv_room hc8) hd ⟨by omega, by omega⟩) hS (fun q _ h => hFc q h) hFc (fun u t H1 locs1 ht hvm hpost hB hz1 hk1 hS1 => ?_)
  obtain ⟨hu1, hu2, hu3⟩ := hpost
  obtain ⟨hP1, hK1, hD1⟩ := hB
  rw [ht] at hP1
  exact k ad0 n0 l0 D ty ro p e R s m args below meth cc A Q C hE u.1 u.2 H1 locs1 ls lv _ ⟨hP1, hD1.weaken (fun _ q _ h => hFc q.1 h), hS1, hu1, Nat.le_trans hn0 hu2, fun j hj => by rw [hu3 j (by omega)]; exact had j hj⟩ hl (pRl_imp (fun _ _ h => vr_mono hu2 hu3 h) _ _ hp) (sR_imp (fun _ _ h => vr_mono hu2 hu3 h) _ _ h3)
theorem g_callN {ix na : Nat} {M2 : MR} {av S : List PV} {w2 rf2 : WD} {n2 : Nat} {k0 : Int} {ci N : Nat} (hp2 : PO k0 n ci N) (hd : decode (mB M) pc = .ok (.invokespecial ix, 3)) (hlk : (ix, mY M2) ∈ nests ∧ (mY M).cls = RX7) (hv : IM M2 na) (hna : av.length = na) (hct : CTv E M2 d (pR k0 :: av) w rf n w2 rf2 n2) (hst : S = av.reverse ++ pR k0 :: st) (hcat : (st.map pcat).sum ≤ 8) (hroom : c + mC M2 ≤ mC M ∧ z + mS M2 ≤ mS M) (k : G E M (d + 1) (pc + 3) l st w2 rf2 n2 (c + mC M2) (z + mS M2) res) : G E M (d + 1) pc l S w rf n c z res := by
  intro ad0 n0 l0 D ty ro p e R s m args below meth cc A Q C hE ad ws H locs ls lv sm I hl hp hs
  subst hst
  have hx := C.1
  have hb := C.2.1
  have hml := C.2.2.1
  have hown := C.2.2.2.2.1
  have hts := C.2.2.2.2.2.1
  have hK := C.2.2.2.2.2.2.1
  have hA := C.2.2.2.2.2.2.2.1
  have hX := C.2.2.2.2.2.2.2.2.1
  have hRm := C.2.2.2.2.2.2.2.2.2.1
  obtain ⟨hP, hD, hS, hcs, hn0, had⟩ := id I
  have hFc := va_free (wc := ws) hD hS hA (List.range ws.length) (range_map ws)
  obtain ⟨p0, p1, p2⟩ := hp2
  obtain ⟨m1, m2, rfl, h1, h2⟩ := sR_app hs
  obtain ⟨kn, m3, rfl, rfl, hk, h3⟩ := sR_R h2 p0
  have hAs : sR (vr ad ro n) av m1.reverse := by
    have h9 := sR_rev h1
    rwa [List.reverse_reverse] at h9
  have hM := hct l0 D ty ro ad ws H.size (.ref (ad kn) :: m1.reverse) hcs ⟨Or.inl ⟨kn, rfl, hk, rfl⟩, hAs⟩
  have hlA : m1.reverse.length = na := by rw [sR_len hAs]; exact hna
  have hc8 := cat_le h3 hcat
  refine va_callv (va_runIN (As := m1.reverse) (rest := m3) ⟨hx, hb, hml, hown, hts⟩ hM ⟨va_cnB (ws := wsM M2) (ws' := lw_g) (bytes := mB M2) (maxL := mL M2) (ret := none) na hts (gi (fun w h => by
    rcases List.mem_cons.mp h with rfl | h
    · exact hv.1.2.2.2.2
    · exact h)) (by show wsM M2 = _; unfold wsM; rw [hv.2.2.2]) rfl rfl (by rw [hlk.2]; exact hX.2.2.2.2 _ hlk.1) (hts _ hv.1.2.2.2.1) ⟨hv.1.1.1, hv.1.1.2, hv.1.2.1⟩ ⟨by show d + 1 ≤ _; omega, by show 8 + (_ + 11) + 64 * d ≤ _; have := hv.1.2.2.1; omega⟩, hv.2.2.1, hts _ hv.2.1⟩ ⟨PcM_blind, fun U hU hW => ⟨rfl, by rw [hU], by rw [hU]; exact hP, va_K.moved hW.alike hK, hD.weaken (fun _ _ _ _ => trivial), gX.call hW hS hU (fun q h => hFc q h) hX⟩⟩ rfl hlA hl.1 (by simp) (lv_room hc8) hd ⟨by omega, by omega⟩) hS (fun q _ h => hFc q h) hFc (fun u t H1 locs1 ht hvm hpost hB hz1 hk1 hS1 => ?_)
  obtain ⟨hu1, hu2, hu3⟩ := hpost
  obtain ⟨hP1, hK1, hD1⟩ := hB
  rw [ht] at hP1
  exact k ad0 n0 l0 D ty ro p e R s m args below meth cc A Q C hE u.1 u.2 H1 locs1 ls lv _ ⟨hP1, hD1.weaken (fun _ q _ h => hFc q.1 h), hS1, hu1, Nat.le_trans hn0 hu2, fun j hj => by rw [hu3 j (by omega)]; exact had j hj⟩ hl (pRl_imp (fun _ _ h => vr_mono hu2 hu3 h) _ _ hp) (sR_imp (fun _ _ h => vr_mono hu2 hu3 h) _ _ h3)
def OI (own : String) (ix : Nat) : Prop := Cond.methodLink own ix Lib.objectInit ∈ lw_g ∧ Cond.instanceMethod Lib.objectInit ∈ lw_g ∧ Cond.code Lib.objectInit ⟨#[0xb1]⟩ 1 none ∈ lw_g
theorem g_objinit {ix : Nat} {k0 : Int} (hd : decode (mB M) pc = .ok (.invokespecial ix, 3)) (hw : OI (mY M).cls ix) (h0 : 0 ≤ k0) (hcat : (st.map pcat).sum ≤ 8) (k : G E M (d + 1) (pc + 3) l st w rf n c z res) : G E M (d + 1) pc l (pR k0 :: st) w rf n c z res := by
  intro ad0 n0 l0 D ty ro p e R s m args below meth cc A Q C hE ad ws H locs ls lv sm I hl hp hs
  obtain ⟨kn, sm, rfl, rfl, hk, hs⟩ := sR_R hs h0
  have hc8 := cat_le hs hcat
  have hRm := C.2.2.2.2.2.2.2.2.2.1
  refine W.objInit C.1 C.2.1 C.2.2.2.2.1 (C.2.2.2.2.2.1 _ hw.1) (C.2.2.2.2.2.1 _ hw.2.1) (C.2.2.2.2.2.1 _ hw.2.2) rfl (by rw [C.2.2.1]; exact hl.1) rfl hd (by omega) (by have e9 : (F0 m pc ls (.ref (ad kn) :: sm)).monitorRoom = 0 := rfl; rw [e9]; omega) ?_
  exact k ad0 n0 l0 D ty ro p e R s m args below meth cc A Q C hE ad ws H locs ls lv _ I hl hp hs
/-! ===== new cells ===== -/
def zr (w : WD) (k : Int) : WD := fun k' i => if k' = k then 0 else w k' i
def nl (rf : WD) (k : Int) : WD := fun k' i => if k' = k then -9 else rf k' i
theorem IV_push {ad0 : Nat → Nat} {n0 : Nat} {ro : Nat → Nat} {D : va_G} {ty : Nat → ClassId} {ad : Nat → Nat} {A : Nat → Prop} {s : State} {H H1 : Heap} {locs locs1 : List Loc} {ws : va_W} {w rf : WD} {n q : Nat} {e : va_E} (h : IV ad0 n0 ro D ty ad A s H locs ws w rf n)
    (hP : va_P D classes (ws ++ [(q, e)]) H1) (hD : va_D A (ws ++ [(q, e)])) (hS : va_S A s.heap H1 locs1) (he : cR (fun j => if j = n then q else ad j) ro (n + 1) ty (nl rf n) (zr w n) n e) : IV ad0 n0 ro D ty (fun j => if j = n then q else ad j) A s H1 locs1 (ws ++ [(q, e)]) (zr w n) (nl rf n) (n + 1) := by
  obtain ⟨-, -, -, ⟨hl, hc⟩, h5, h6⟩ := h
  refine ⟨hP, hD, hS, ⟨by rw [List.length_append, hl]; rfl, fun j hj => ?_⟩, by omega, fun j hj => (if_neg (by omega)).trans (h6 j hj)⟩
  by_cases z : j = n
  · subst z
    refine ⟨e, ?_, he⟩
    rw [List.getElem?_append_right (by omega), hl, Nat.sub_self]
    show some (q, e) = _
    exact congrArg some (Prod.ext (if_pos rfl).symm rfl)
  · obtain ⟨e2, h1, h2⟩ := hc j (by omega)
    refine ⟨e2, ?_, ?_⟩
    · rw [List.getElem?_append_left (by omega)]
      exact h1.trans (congrArg some (Prod.ext (if_neg z).symm rfl))
    · refine cR_mono (by omega) (fun i hi => if_neg (by omega)) (fun i => ?_) (fun i => ?_) h2
      · unfold zr
        rw [if_neg (by omega)]
      · unfold nl
        rw [if_neg (by omega)]
def NP (own : String) (ix ci N : Nat) : Prop := ∃ (C : String) (T : u_T) (ty0 : Nat → FieldType), classes[ci]? = some (C, T, N) ∧ (∀ w ∈ u_ws C T N, w ∈ lw_g) ∧ (∀ k, k < N → parseFieldDescriptor (T k).2.2.1 = some (ty0 k)) ∧ (∀ k, k < N → FT (FK ci k) (ty0 k)) ∧ Cond.classLink own ix C ∈ lw_g ∧ Cond.instantiable C N ∈ lw_g ∧ Cond.initialized C ∈ lw_g
theorem vr_null {ad ro : Nat → Nat} {n : Nat} {a : Int} (h : a = -9) : vr ad ro n (pR a) .null := Or.inr (Or.inr ⟨by omega, rfl⟩)
theorem g_new {ix ci N : Nat} (hd : decode (mB M) pc = .ok (.new ix, 3)) (hf : NP (mY M).cls ix ci N) (hsh : SH n = (10 + ci, N)) (hfk : ∀ j, j < N → FK ci j < 4) (hroom : c + 1 ≤ mC M ∧ z + N ≤ mS M) (k : G E M d (pc + 3) l (pR n :: st) (zr w n) (nl rf n) (n + 1) (c + 1) (z + N) res) : G E M d pc l st w rf n c z res := by
  intro ad0 n0 l0 D ty ro p e R s m args below meth cc A Q C hE ad ws H locs ls lv sm I hl hp hs
  obtain ⟨C0, T, ty0, f1, f2, f3, f4, f5, f6, f7⟩ := hf
  obtain ⟨hP, hD, hS, hcs, hn0, had⟩ := id I
  have hRm := C.2.2.2.2.2.2.2.2.2.1
  have hts := C.2.2.2.2.2.1
  refine va_new (ci := ci) (fs := (List.range N).map (fun j => defaultValue (ty0 j))) C.1 C.2.1 hts f2 ty0 f3 C.2.2.2.2.1 (hts _ f5) (hts _ f6) (hts _ f7) C.2.2.2.2.2.2.1 hP hD hS C.2.2.2.2.2.2.2.1 f1 (fun j hj => ?_) (by omega) (by omega) hd (fun q H1 hP1 hD1 hS1 => ?_)
  · unfold vp_V
    rw [List.getD_eq_getElem?_getD, List.getElem?_map, List.getElem?_range hj]
    rfl
  · have hI := IV_push I hP1 hD1 hS1 (mk_obj (n := n + 1) (rf := nl rf n) (w := zr w n) hsh (by rw [List.length_map, List.length_range]) (fun j hj => ⟨defaultValue (ty0 j), by rw [List.getElem?_map, List.getElem?_range hj]; rfl, ?_⟩))
    · refine k ad0 n0 l0 D ty ro p e R s m args below meth cc A Q C hE _ _ H1 locs ls lv _ hI hl (pRl_imp (fun _ _ h => vr_mono (Nat.le_succ n) (fun i hi => if_neg (by omega)) h) _ _ hp) ⟨Or.inl ⟨n, rfl, Nat.lt_succ_self n, congrArg Value.ref (if_pos rfl).symm⟩, sR_imp (fun _ _ h => vr_mono (Nat.le_succ n) (fun i hi => if_neg (by omega)) h) _ _ hs⟩
    · have hz : zr w n n j = 0 := if_pos rfl
      have hnl : nl rf n n j = -9 := if_pos rfl
      have hft := f4 j hj
      by_cases g1 : FK ci j = 1
      · rw [pvF_L g1, hz]
        rw [g1] at hft
        have hft : ty0 j = .long := hft
        rw [hft]
        exact ⟨0, rfl, rfl⟩
      · by_cases g2 : FK ci j = 2
        · rw [pvF_R g2, hnl]
          rw [g2] at hft
          rcases hft with ⟨q9, hft⟩ | ⟨q9, hft⟩ <;> rw [hft] <;> exact vr_null rfl
        · rw [pvF_I g1 g2, hz]
          by_cases g0 : FK ci j = 0
          · rw [g0] at hft
            have hft : ty0 j = .int := hft
            rw [hft]
            exact ⟨0, rfl, rfl⟩
          · by_cases g3 : FK ci j = 3
            · rw [g3] at hft
              have hft : ty0 j = .boolean := hft
              rw [hft]
              exact ⟨0, rfl, rfl⟩
            · exfalso
              have := hfk j hj
              omega
theorem g_newa_int {N : Nat} {v : Int} (hd : decode (mB M) pc = .ok (.newarray .int, 2)) (hf : Cond.arrayClass (newarray.typeOf .int) ∈ lw_g) (hsh : SH n = (0, N)) (hv : v = (N : Int)) (hN : N < 1000) (hroom : c + 1 ≤ mC M ∧ z + N ≤ mS M) (k : G E M d (pc + 2) l (pR n :: st) (zr w n) (nl rf n) (n + 1) (c + 1) (z + N) res) : G E M d pc l (pI v :: st) w rf n c z res := by
  intro ad0 n0 l0 D ty ro p e R s m args below meth cc A Q C hE ad ws H locs ls lv sm I hl hp hs
  obtain ⟨x, sm, rfl, hxv, hs⟩ := sR_I hs
  obtain ⟨hP, hD, hS, hcs, hn0, had⟩ := id I
  have hRm := C.2.2.2.2.2.2.2.2.2.1
  have hts := C.2.2.2.2.2.1
  have hK := C.2.2.2.2.2.2.1
  have hxN : x.toNatClampNeg = N := by
    have h9 : x.toNatClampNeg = x.toInt.toNat := rfl
    rw [h9, hxv, hv]
    rfl
  have hby : N * componentBytes .int ≤ 536870912 := by
    have h9 : componentBytes .int ≤ 8 := by decide
    have h8 : N * componentBytes .int ≤ N * 8 := Nat.mul_le_mul_left N h9
    omega
  refine va_newa (atype := .int) (ty := .int) (a0 := (N, .inl (fun _ => 0))) C.1 C.2.1 (hts _ hf) rfl hK hP hD hS C.2.2.2.2.2.2.2.1 (fun cA => rfl) (fun h => by rw [Int32.lt_iff_toInt_lt, hxv, z32] at h; omega) hxN hby (by omega) (by omega) hd (fun q cA H1 hK1 hP1 hD1 hS1 => ?_)
  have hcA : cA = ty 0 := by
    have e1 := (hK1.2 6 (cA, .int) rfl).2
    have e2 := (hK.2 0 (ty 0, .int) rfl).2
    exact Option.some.inj ((show s.vm.findClass _ = some cA from e1).symm.trans (show s.vm.findClass _ = some (ty 0) from e2))
  subst hcA
  have hI := IV_push I hP1 hD1 hS1 (mk_int (n := n + 1) (rf := nl rf n) (w := zr w n) (t := 0) (by omega) hsh (fun j hj => ?_))
  · exact k ad0 n0 l0 D ty ro p e R s m args below meth cc A Q C hE _ _ H1 locs ls lv _ hI hl (pRl_imp (fun _ _ h => vr_mono (Nat.le_succ n) (fun i hi => if_neg (by omega)) h) _ _ hp) ⟨Or.inl ⟨n, rfl, Nat.lt_succ_self n, congrArg Value.ref (if_pos rfl).symm⟩, sR_imp (fun _ _ h => vr_mono (Nat.le_succ n) (fun i hi => if_neg (by omega)) h) _ _ hs⟩
  · have hz : zr w n n j = 0 := if_pos rfl
    rw [hz]
    rfl
theorem g_newa_byte {N : Nat} {v : Int} (hd : decode (mB M) pc = .ok (.newarray .byte, 2)) (hf : Cond.arrayClass (newarray.typeOf .byte) ∈ lw_g) (hsh : SH n = (1, N)) (hv : v = (N : Int)) (hN : N < 1000) (hroom : c + 1 ≤ mC M ∧ z + N ≤ mS M) (k : G E M d (pc + 2) l (pR n :: st) (zr w n) (nl rf n) (n + 1) (c + 1) (z + N) res) : G E M d pc l (pI v :: st) w rf n c z res := by
  intro ad0 n0 l0 D ty ro p e R s m args below meth cc A Q C hE ad ws H locs ls lv sm I hl hp hs
  obtain ⟨x, sm, rfl, hxv, hs⟩ := sR_I hs
  obtain ⟨hP, hD, hS, hcs, hn0, had⟩ := id I
  have hRm := C.2.2.2.2.2.2.2.2.2.1
  have hts := C.2.2.2.2.2.1
  have hK := C.2.2.2.2.2.2.1
  have hxN : x.toNatClampNeg = N := by
    have h9 : x.toNatClampNeg = x.toInt.toNat := rfl
    rw [h9, hxv, hv]
    rfl
  have hby : N * componentBytes .byte ≤ 536870912 := by
    have h9 : componentBytes .byte ≤ 8 := by decide
    have h8 : N * componentBytes .byte ≤ N * 8 := Nat.mul_le_mul_left N h9
    omega
  refine va_newa (atype := .byte) (ty := .byte) (a0 := (N, .inl (fun _ => 0))) C.1 C.2.1 (hts _ hf) rfl hK hP hD hS C.2.2.2.2.2.2.2.1 (fun cA => rfl) (fun h => by rw [Int32.lt_iff_toInt_lt, hxv, z32] at h; omega) hxN hby (by omega) (by omega) hd (fun q cA H1 hK1 hP1 hD1 hS1 => ?_)
  have hcA : cA = ty 1 := by
    have e1 := (hK1.2 6 (cA, .byte) rfl).2
    have e2 := (hK.2 1 (ty 1, .byte) rfl).2
    exact Option.some.inj ((show s.vm.findClass _ = some cA from e1).symm.trans (show s.vm.findClass _ = some (ty 1) from e2))
  subst hcA
  have hI := IV_push I hP1 hD1 hS1 (mk_int (n := n + 1) (rf := nl rf n) (w := zr w n) (t := 1) (by omega) hsh (fun j hj => ?_))
  · exact k ad0 n0 l0 D ty ro p e R s m args below meth cc A Q C hE _ _ H1 locs ls lv _ hI hl (pRl_imp (fun _ _ h => vr_mono (Nat.le_succ n) (fun i hi => if_neg (by omega)) h) _ _ hp) ⟨Or.inl ⟨n, rfl, Nat.lt_succ_self n, congrArg Value.ref (if_pos rfl).symm⟩, sR_imp (fun _ _ h => vr_mono (Nat.le_succ n) (fun i hi => if_neg (by omega)) h) _ _ hs⟩
  · have hz : zr w n n j = 0 := if_pos rfl
    rw [hz]
    rfl
theorem g_newa_boolean {N : Nat} {v : Int} (hd : decode (mB M) pc = .ok (.newarray .boolean, 2)) (hf : Cond.arrayClass (newarray.typeOf .boolean) ∈ lw_g) (hsh : SH n = (2, N)) (hv : v = (N : Int)) (hN : N < 1000) (hroom : c + 1 ≤ mC M ∧ z + N ≤ mS M) (k : G E M d (pc + 2) l (pR n :: st) (zr w n) (nl rf n) (n + 1) (c + 1) (z + N) res) : G E M d pc l (pI v :: st) w rf n c z res := by
  intro ad0 n0 l0 D ty ro p e R s m args below meth cc A Q C hE ad ws H locs ls lv sm I hl hp hs
  obtain ⟨x, sm, rfl, hxv, hs⟩ := sR_I hs
  obtain ⟨hP, hD, hS, hcs, hn0, had⟩ := id I
  have hRm := C.2.2.2.2.2.2.2.2.2.1
  have hts := C.2.2.2.2.2.1
  have hK := C.2.2.2.2.2.2.1
  have hxN : x.toNatClampNeg = N := by
    have h9 : x.toNatClampNeg = x.toInt.toNat := rfl
    rw [h9, hxv, hv]
    rfl
  have hby : N * componentBytes .boolean ≤ 536870912 := by
    have h9 : componentBytes .boolean ≤ 8 := by decide
    have h8 : N * componentBytes .boolean ≤ N * 8 := Nat.mul_le_mul_left N h9
    omega
  refine va_newa (atype := .boolean) (ty := .boolean) (a0 := (N, .inl (fun _ => 0))) C.1 C.2.1 (hts _ hf) rfl hK hP hD hS C.2.2.2.2.2.2.2.1 (fun cA => rfl) (fun h => by rw [Int32.lt_iff_toInt_lt, hxv, z32] at h; omega) hxN hby (by omega) (by omega) hd (fun q cA H1 hK1 hP1 hD1 hS1 => ?_)
  have hcA : cA = ty 2 := by
    have e1 := (hK1.2 6 (cA, .boolean) rfl).2
    have e2 := (hK.2 2 (ty 2, .boolean) rfl).2
    exact Option.some.inj ((show s.vm.findClass _ = some cA from e1).symm.trans (show s.vm.findClass _ = some (ty 2) from e2))
  subst hcA
  have hI := IV_push I hP1 hD1 hS1 (mk_int (n := n + 1) (rf := nl rf n) (w := zr w n) (t := 2) (by omega) hsh (fun j hj => ?_))
  · exact k ad0 n0 l0 D ty ro p e R s m args below meth cc A Q C hE _ _ H1 locs ls lv _ hI hl (pRl_imp (fun _ _ h => vr_mono (Nat.le_succ n) (fun i hi => if_neg (by omega)) h) _ _ hp) ⟨Or.inl ⟨n, rfl, Nat.lt_succ_self n, congrArg Value.ref (if_pos rfl).symm⟩, sR_imp (fun _ _ h => vr_mono (Nat.le_succ n) (fun i hi => if_neg (by omega)) h) _ _ hs⟩
  · have hz : zr w n n j = 0 := if_pos rfl
    rw [hz]
    rfl
theorem g_newa_short {N : Nat} {v : Int} (hd : decode (mB M) pc = .ok (.newarray .short, 2)) (hf : Cond.arrayClass (newarray.typeOf .short) ∈ lw_g) (hsh : SH n = (3, N)) (hv : v = (N : Int)) (hN : N < 1000) (hroom : c + 1 ≤ mC M ∧ z + N ≤ mS M) (k : G E M d (pc + 2) l (pR n :: st) (zr w n) (nl rf n) (n + 1) (c + 1) (z + N) res) : G E M d pc l (pI v :: st) w rf n c z res := by
  intro ad0 n0 l0 D ty ro p e R s m args below meth cc A Q C hE ad ws H locs ls lv sm I hl hp hs
  obtain ⟨x, sm, rfl, hxv, hs⟩ := sR_I hs
  obtain ⟨hP, hD, hS, hcs, hn0, had⟩ := id I
  have hRm := C.2.2.2.2.2.2.2.2.2.1
  have hts := C.2.2.2.2.2.1
  have hK := C.2.2.2.2.2.2.1
  have hxN : x.toNatClampNeg = N := by
    have h9 : x.toNatClampNeg = x.toInt.toNat := rfl
    rw [h9, hxv, hv]
    rfl
  have hby : N * componentBytes .short ≤ 536870912 := by
    have h9 : componentBytes .short ≤ 8 := by decide
    have h8 : N * componentBytes .short ≤ N * 8 := Nat.mul_le_mul_left N h9
    omega
  refine va_newa (atype := .short) (ty := .short) (a0 := (N, .inl (fun _ => 0))) C.1 C.2.1 (hts _ hf) rfl hK hP hD hS C.2.2.2.2.2.2.2.1 (fun cA => rfl) (fun h => by rw [Int32.lt_iff_toInt_lt, hxv, z32] at h; omega) hxN hby (by omega) (by omega) hd (fun q cA H1 hK1 hP1 hD1 hS1 => ?_)
  have hcA : cA = ty 3 := by
    have e1 := (hK1.2 6 (cA, .short) rfl).2
    have e2 := (hK.2 3 (ty 3, .short) rfl).2
    exact Option.some.inj ((show s.vm.findClass _ = some cA from e1).symm.trans (show s.vm.findClass _ = some (ty 3) from e2))
  subst hcA
  have hI := IV_push I hP1 hD1 hS1 (mk_int (n := n + 1) (rf := nl rf n) (w := zr w n) (t := 3) (by omega) hsh (fun j hj => ?_))
  · exact k ad0 n0 l0 D ty ro p e R s m args below meth cc A Q C hE _ _ H1 locs ls lv _ hI hl (pRl_imp (fun _ _ h => vr_mono (Nat.le_succ n) (fun i hi => if_neg (by omega)) h) _ _ hp) ⟨Or.inl ⟨n, rfl, Nat.lt_succ_self n, congrArg Value.ref (if_pos rfl).symm⟩, sR_imp (fun _ _ h => vr_mono (Nat.le_succ n) (fun i hi => if_neg (by omega)) h) _ _ hs⟩
  · have hz : zr w n n j = 0 := if_pos rfl
    rw [hz]
    rfl
theorem g_newa_long {N : Nat} {v : Int} (hd : decode (mB M) pc = .ok (.newarray .long, 2)) (hf : Cond.arrayClass (newarray.typeOf .long) ∈ lw_g) (hsh : SH n = (4, N)) (hv : v = (N : Int)) (hN : N < 1000) (hroom : c + 1 ≤ mC M ∧ z + N ≤ mS M) (k : G E M d (pc + 2) l (pR n :: st) (zr w n) (nl rf n) (n + 1) (c + 1) (z + N) res) : G E M d pc l (pI v :: st) w rf n c z res := by
  intro ad0 n0 l0 D ty ro p e R s m args below meth cc A Q C hE ad ws H locs ls lv sm I hl hp hs
  obtain ⟨x, sm, rfl, hxv, hs⟩ := sR_I hs
  obtain ⟨hP, hD, hS, hcs, hn0, had⟩ := id I
  have hRm := C.2.2.2.2.2.2.2.2.2.1
  have hts := C.2.2.2.2.2.1
  have hK := C.2.2.2.2.2.2.1
  have hxN : x.toNatClampNeg = N := by
    have h9 : x.toNatClampNeg = x.toInt.toNat := rfl
    rw [h9, hxv, hv]
    rfl
  have hby : N * componentBytes .long ≤ 536870912 := by
    have h9 : componentBytes .long ≤ 8 := by decide
    have h8 : N * componentBytes .long ≤ N * 8 := Nat.mul_le_mul_left N h9
    omega
  refine va_newa (atype := .long) (ty := .long) (a0 := (N, .inr (.inl (fun _ => 0)))) C.1 C.2.1 (hts _ hf) rfl hK hP hD hS C.2.2.2.2.2.2.2.1 (fun cA => rfl) (fun h => by rw [Int32.lt_iff_toInt_lt, hxv, z32] at h; omega) hxN hby (by omega) (by omega) hd (fun q cA H1 hK1 hP1 hD1 hS1 => ?_)
  have hcA : cA = ty 4 := by
    have e1 := (hK1.2 6 (cA, .long) rfl).2
    have e2 := (hK.2 4 (ty 4, .long) rfl).2
    exact Option.some.inj ((show s.vm.findClass _ = some cA from e1).symm.trans (show s.vm.findClass _ = some (ty 4) from e2))
  subst hcA
  have hI := IV_push I hP1 hD1 hS1 (mk_long (n := n + 1) (rf := nl rf n) (w := zr w n) hsh (fun j hj => ?_))
  · exact k ad0 n0 l0 D ty ro p e R s m args below meth cc A Q C hE _ _ H1 locs ls lv _ hI hl (pRl_imp (fun _ _ h => vr_mono (Nat.le_succ n) (fun i hi => if_neg (by omega)) h) _ _ hp) ⟨Or.inl ⟨n, rfl, Nat.lt_succ_self n, congrArg Value.ref (if_pos rfl).symm⟩, sR_imp (fun _ _ h => vr_mono (Nat.le_succ n) (fun i hi => if_neg (by omega)) h) _ _ hs⟩
  · have hz : zr w n n j = 0 := if_pos rfl
    rw [hz]
    rfl
theorem g_newq {ix N : Nat} {v : Int} (hd : decode (mB M) pc = .ok (.anewarray ix, 3)) (hf : Cond.classLink (mY M).cls ix "BehindTheMask$Shelf" ∈ lw_g) (hsh : SH n = (5, N)) (hv : v = (N : Int)) (hN : N < 1000) (hroom : c + 1 ≤ mC M ∧ z + N ≤ mS M) (k : G E M d (pc + 3) l (pR n :: st) (zr w n) (nl rf n) (n + 1) (c + 1) (z + N) res) : G E M d pc l (pI v :: st) w rf n c z res := by
  intro ad0 n0 l0 D ty ro p e R s m args below meth cc A Q C hE ad ws H locs ls lv sm I hl hp hs
  obtain ⟨x, sm, rfl, hxv, hs⟩ := sR_I hs
  obtain ⟨hP, hD, hS, hcs, hn0, had⟩ := id I
  have hRm := C.2.2.2.2.2.2.2.2.2.1
  have hts := C.2.2.2.2.2.1
  have hK := C.2.2.2.2.2.2.1
  have hxN : x.toNatClampNeg = N := by
    have h9 : x.toNatClampNeg = x.toInt.toNat := rfl
    rw [h9, hxv, hv]
    rfl
  refine va_newq C.1 C.2.1 C.2.2.2.2.1 (hts _ hf) C.2.2.2.2.2.2.2.2.1.2.2.1 hK hP hD hS C.2.2.2.2.2.2.2.1 (fun h => by rw [Int32.lt_iff_toInt_lt, hxv, z32] at h; omega) hxN (by omega) (by omega) (by omega) hd (fun q cA H1 hK1 hP1 hD1 hS1 => ?_)
  have hcA : cA = ty 5 := by
    obtain ⟨_, _, _, _, _, e1⟩ := (hK1.2 6 (cA, .object "BehindTheMask$Shelf") rfl).2
    obtain ⟨_, _, _, _, _, e2⟩ := (hK.2 5 (ty 5, .object "BehindTheMask$Shelf") rfl).2
    exact Option.some.inj (e1.symm.trans e2)
  subst hcA
  have hI := IV_push I hP1 hD1 hS1 (mk_ref (n := n + 1) (rf := nl rf n) (w := zr w n) hsh (fun j hj => ?_))
  · exact k ad0 n0 l0 D ty ro p e R s m args below meth cc A Q C hE _ _ H1 locs ls lv _ hI hl (pRl_imp (fun _ _ h => vr_mono (Nat.le_succ n) (fun i hi => if_neg (by omega)) h) _ _ hp) ⟨Or.inl ⟨n, rfl, Nat.lt_succ_self n, congrArg Value.ref (if_pos rfl).symm⟩, sR_imp (fun _ _ h => vr_mono (Nat.le_succ n) (fun i hi => if_neg (by omega)) h) _ _ hs⟩
  · exact vr_null (if_pos rfl)
theorem g_aast {N ci N2 : Nat} {k i a : Int} (hp2 : PA k n 5 N) (hp3 : PO a n ci N2) (hcl : ∃ T2, classes[ci]? = some ("BehindTheMask$Shelf", T2, N2)) (hd : decode (mB M) pc = .ok (.aastore, 1)) (hi : 0 ≤ i ∧ i < (N : Int)) (kk : G E M d (pc + 1) l st w (up rf k i a) n c z res) : G E M d pc l (pR a :: pI i :: pR k :: st) w rf n c z res := by
  intro ad0 n0 l0 D ty ro p e R s m args below meth cc A Q C hE ad ws H locs ls lv sm I hl hp hs
  obtain ⟨q0, q1, q2⟩ := hp3
  obtain ⟨an, sm, rfl, rfl, hak, hs⟩ := sR_R hs q0
  obtain ⟨ix0, sm, rfl, hix, hs⟩ := sR_I hs
  obtain ⟨p0, p1, p2⟩ := hp2
  obtain ⟨kn, sm, rfl, rfl, hk, hs⟩ := sR_R hs p0
  obtain ⟨hP, hD, hS, ⟨hlen, hcs⟩, hn0, had⟩ := id I
  obtain ⟨e0, he, hcr⟩ := hcs kn hk
  obtain ⟨f, rfl, hf⟩ := cR_ref hcr p2
  obtain ⟨e1, he1, hcr1⟩ := hcs an hak
  obtain ⟨fs, rfl, hfl, hfv⟩ := cR_obj hcr1 q2
  obtain ⟨T2, hT2⟩ := hcl
  obtain ⟨i1, i2⟩ := ixn hix hi
  refine va_astq C.1 C.2.1 C.2.2.2.2.2.2.1 hP hD hS kn 5 an ci he rfl he1 hT2 (vpin hix hi) hd (fun H1 locs1 hP1 hD1 hS1 => ?_)
  refine kk ad0 n0 l0 D ty ro p e R s m args below meth cc A Q C hE ad _ H1 locs1 ls lv _ (IV_set I hk hP1 hD1 hS1 (mk_ref p2 (fun j hj => ?_)) (fun _ _ _ => rfl) (fun _ _ h => up_ne h)) hl hp hs
  unfold va_up
  by_cases h9 : j = ix0.toNatClampNeg
  · rw [if_pos h9, h9, i2, up_self]
    exact Or.inl ⟨an, rfl, hak, rfl⟩
  · rw [if_neg h9, up_ne2 (by omega)]
    exact hf j hj
end CALLS
