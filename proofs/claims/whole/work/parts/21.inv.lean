/-! what holds between the class's cells and the reference's, whenever an op of the law begins -/
/-- a number of mend() that there is room for -/
def VAL (f a : Int) : Prop := 0 ≤ f ∧ f ≤ 12 ∧ 0 ≤ a ∧ (f ≤ 3 → a < 6) ∧ (4 ≤ f → f ≤ 7 → a < 5) ∧ (f = 8 → a < 3) ∧ (9 ≤ f → a = 0)
def LO (f : Int) : Int := if 4 ≤ f ∧ f ≤ 6 then -1 else if f = 12 then 1 else 0
def HI (f : Int) : Int := if f < 3 then 3 else if 4 ≤ f ∧ f ≤ 6 then 3 else if f = 7 then 127 else if f = 9 then 2 else if f = 11 then 99 else if f = 12 then 30 else 9
/-- where the class holds it -/
def PL (f a : Int) : Int := if f ≤ 3 then 4 * a + f else if f ≤ 7 then 24 + 4 * a + f - 4 else if f = 8 then 44 + a else 47 + f - 9
/-- where the reference holds it -/
def PR (f : Int) : Int := if f < 3 then 47 else if f = 3 then 48 else if f < 7 then 49 else if f = 7 then 50 else if f = 8 then 51 else 52
def PI (f a : Int) : Int := if f < 3 then 3 * a + f else if f = 3 then a else if f < 7 then 3 * a + f - 4 else if f = 7 then a else if f = 8 then a else f - 9
def IHall (w : WD) : Prop := 0 ≤ w 1 4 ∧ w 1 4 ≤ 6 ∧ w 46 1 = w 1 4 ∧ 0 ≤ w 1 5 ∧ w 1 5 ≤ 5 ∧ w 46 4 = w 1 5 ∧ ∀ f a, VAL f a → w (PR f) (PI f a) = w 2 (PL f a) ∧ LO f ≤ w 2 (PL f a) ∧ w 2 (PL f a) ≤ HI f
def ICh (w : WD) : Prop := 0 ≤ w 1 6 ∧ 0 ≤ w 1 7 ∧ w 1 6 + w 1 7 ≤ 40 ∧ w 46 9 = w 1 6 ∧ w 46 10 = w 1 7 ∧ ∀ k, 0 ≤ k → k < w 1 6 + w 1 7 → VAL (w 53 k) (w 54 k) ∧ w 3 k = PL (w 53 k) (w 54 k) ∧ w 4 k = w 55 k ∧ LO (w 53 k) ≤ w 4 k ∧ w 4 k ≤ HI (w 53 k) ∧ w 5 k = w 56 k ∧ LO (w 53 k) ≤ w 5 k ∧ w 5 k ≤ HI (w 53 k)
def ITape (w : WD) : Prop := 0 ≤ w 6 5 ∧ w 6 5 ≤ 120 ∧ w 46 16 = w 6 5 ∧ ∀ k, 0 ≤ k → k < w 6 5 → 0 ≤ w 7 k ∧ w 7 k ≤ 255 ∧ w 57 k = w8 (w 7 k)
/-- who is behind a MASK -/
def WHO (p x : Int) : Prop := x = -2 ∨ x = 6 ∨ (0 ≤ x ∧ x < p)
def BIT (x : Int) : Prop := x = 0 ∨ x = 1
def INight (w : WD) : Prop := (∀ m, 0 ≤ m → m < 5 → WHO (w 1 4) (w 20 m) ∧ BIT (w 21 m) ∧ (m < w 1 5 → w 73 m = w 20 m ∧ w 74 m = w 21 m) ∧ (w 1 5 ≤ m → w 20 m = -2 ∧ w 21 m = 0)) ∧
  w 46 49 = w 22 0 ∧ 0 ≤ w 22 0 ∧ w 22 0 ≤ 999 ∧ ∀ k, 0 ≤ k → k < 4 → w 75 k = w 22 (k + 1)
def IKept (w : WD) : Prop := (w 46 51 = 0 ∧ w 19 8 = -1) ∨ (w 46 51 = 1 ∧ w 46 52 = w 19 8 ∧ 0 ≤ w 19 8 ∧ w 19 8 ≤ w 1 5 ∧
  (∀ m, 0 ≤ m → m < 5 → WHO (w 1 4) (w 23 m) ∧ BIT (w 24 m) ∧ (m < w 19 8 → w 77 m = w 23 m ∧ w 78 m = w 24 m) ∧ (w 19 8 ≤ m → w 23 m = -2 ∧ w 24 m = 0)) ∧
  w 46 53 = w 25 0 ∧ 0 ≤ w 25 0 ∧ w 25 0 ≤ 999 ∧ (∀ k, 0 ≤ k → k < 4 → w 79 k = w 25 (k + 1)) ∧ ∀ k, 0 ≤ k → k < 3 * w 19 8 → w 76 k = w 26 k ∧ -1 ≤ w 26 k ∧ w 26 k ≤ 3)
def IShelf (w : WD) : Prop := ∀ o, 0 ≤ o → o < 6 → (w (34 + 2 * o) 1 = -1 ∧ w (34 + 2 * o) 2 = -1 ∧ w 82 o = -1) ∨ (0 ≤ w (34 + 2 * o) 1 ∧ w (34 + 2 * o) 1 < w 30 2 ∧ w (34 + 2 * o) 2 = -1 ∧ w 82 o = w (34 + 2 * o) 1) ∨
  (w (34 + 2 * o) 1 = -1 ∧ 0 ≤ w (34 + 2 * o) 2 ∧ w (34 + 2 * o) 2 ≤ 4 ∧ w 82 o = -2 - w (34 + 2 * o) 2 ∧ 0 ≤ w (34 + 2 * o) 3 ∧ w (34 + 2 * o) 3 ≤ 60 ∧ w 83 o = w (34 + 2 * o) 3 ∧ ∀ k, 0 ≤ k → k < 60 → w 84 (60 * o + k) = w (35 + 2 * o) k ∧ (w (34 + 2 * o) 2 = 0 → -128 ≤ w (35 + 2 * o) k ∧ w (35 + 2 * o) k ≤ 127))
def IBody (w : WD) : Prop := 0 ≤ w 30 2 ∧ w 30 2 ≤ 50 ∧ w 46 58 = w 30 2 ∧ (∀ k, 0 ≤ k → k < w 30 2 → w 80 k = w 31 k ∧ 0 ≤ w 31 k ∧ w 31 k ≤ 7) ∧ 0 ≤ w 30 3 ∧ w 30 3 ≤ 24 ∧ w 46 60 = w 30 3 ∧ ∀ k, 0 ≤ k → k < w 30 3 → w 81 k = w 32 k
/-! THE LAW: lines of codes, worked on a stack; a code below 0 works on what lies there -/
def okp : List Int → Nat → Option Nat
  | [], n => some n
  | c :: l, n => if 0 ≤ c then okp l (n + 1) else if c = -1 ∨ c = -33 then (if 1 ≤ n then okp l n else none) else if 2 ≤ n then okp l (n - 1) else none
def TK (c : Int) : Prop := (0 ≤ c ∧ c ≤ 10005) ∨ c = -1 ∨ c = -33 ∨ c = -124 ∨ c = -38 ∨ c = -60 ∨ c = -61 ∨ c = -62 ∨ c = -43 ∨ c = -45 ∨ c = -42 ∨ c = -47 ∨ c = -37
/-- a code of the class's, as the reference has it -/
def AC (c : Int) : Int := if 10000 ≤ c then 2 else if 0 ≤ c then 1 else if c = -1 then 4 else if c = -33 then 3 else -c
def AV (c : Int) : Int := if 10000 ≤ c then c - 10000 else if 0 ≤ c then c else 0
def TERM (t : List Int) : Prop := okp t 0 = some 1 ∧ ∀ c ∈ t, TK c
def LINE (q : List Int × List Int) : Prop := (q.1 = [] ∨ TERM q.1) ∧ TERM q.2
def lineC (q : List Int × List Int) : List Int := (if q.1 = [] then [] else q.1 ++ [-63]) ++ (q.2 ++ [-59])
def flC : List (List Int × List Int) → List Int
  | [] => []
  | q :: ls => lineC q ++ flC ls
def flR : List (List Int × List Int) → List Int
  | [] => []
  | q :: ls => (q.1 ++ q.2) ++ flR ls
/-- from place b on a row holds these -/
def RowIs (r : Int → Int) (b : Int) (t : List Int) : Prop := ∀ i : Nat, i < t.length → r (b + i) = t.getD i 0
def StepsAre (a v : Int → Int) (b : Int) (t : List Int) : Prop := ∀ i : Nat, i < t.length → a (b + i) = AC (t.getD i 0) ∧ v (b + i) = AV (t.getD i 0)
/-- from line l on, whose first step is b: where tests and lines end -/
def EndsAre (te le : Int → Int) : Int → Int → List (List Int × List Int) → Prop
  | _, _, [] => True
  | l, b, q :: ls => te l = b + q.1.length ∧ le l = b + q.1.length + q.2.length ∧ EndsAre te le (l + 1) (b + q.1.length + q.2.length) ls
def LawIs (w : WD) (ls : List (List Int × List Int)) : Prop := (∀ q ∈ ls, LINE q) ∧ w 6 8 = (flC ls).length ∧ 1 ≤ w 6 8 ∧ w 6 8 ≤ 121 ∧ RowIs (w 9) 0 (flC ls) ∧ w 60 0 = ls.length ∧ ls.length ≤ 61 ∧ StepsAre (w 58) (w 59) 0 (flR ls) ∧ EndsAre (w 61) (w 62) 0 0 ls
def ILaw (w : WD) : Prop := (w 46 28 = 0 ∧ w 6 8 = 0) ∨ (w 46 28 = 1 ∧ ∃ ls, LawIs w ls)
def Inv (w : WD) : Prop := IHall w ∧ ICh w ∧ ITape w ∧ ILaw w ∧ INight w ∧ IKept w ∧ IShelf w ∧ IBody w
/-! what does not reach a part leaves it -/
theorem IHall_of {w u : WD} (e : u 1 4 = w 1 4 ∧ u 1 5 = w 1 5 ∧ u 46 1 = w 46 1 ∧ u 46 4 = w 46 4 ∧ u 2 = w 2 ∧ u 47 = w 47 ∧ u 48 = w 48 ∧ u 49 = w 49 ∧ u 50 = w 50 ∧ u 51 = w 51 ∧ u 52 = w 52) (h : IHall w) : IHall u := by
  obtain ⟨e1, e2, e3, e4, e5, e6, e7, e8, e9, e10, e11⟩ := e
  have er : ∀ f, u (PR f) = w (PR f) := fun f => by
    unfold PR
    repeat' split
    all_goals assumption
  unfold IHall at h ⊢
  simp only [e1, e2, e3, e4, e5, er]
  exact h
theorem ICh_of {w u : WD} (e : u 1 6 = w 1 6 ∧ u 1 7 = w 1 7 ∧ u 46 9 = w 46 9 ∧ u 46 10 = w 46 10 ∧ u 3 = w 3 ∧ u 4 = w 4 ∧ u 5 = w 5 ∧ u 53 = w 53 ∧ u 54 = w 54 ∧ u 55 = w 55 ∧ u 56 = w 56) (h : ICh w) : ICh u := by
  obtain ⟨e1, e2, e3, e4, e5, e6, e7, e8, e9, e10, e11⟩ := e
  unfold ICh at h ⊢
  simp only [e1, e2, e3, e4, e5, e6, e7, e8, e9, e10, e11]
  exact h
theorem ITape_of {w u : WD} (e : u 6 5 = w 6 5 ∧ u 46 16 = w 46 16 ∧ u 7 = w 7 ∧ u 57 = w 57) (h : ITape w) : ITape u := by
  obtain ⟨e1, e2, e3, e4⟩ := e
  unfold ITape at h ⊢
  simp only [e1, e2, e3, e4]
  exact h
theorem LawIs_of {w u : WD} {ls : List (List Int × List Int)} (e : u 6 8 = w 6 8 ∧ u 9 = w 9 ∧ u 58 = w 58 ∧ u 59 = w 59 ∧ u 60 0 = w 60 0 ∧ u 61 = w 61 ∧ u 62 = w 62) (h : LawIs w ls) : LawIs u ls := by
  obtain ⟨e1, e2, e3, e4, e5, e6, e7⟩ := e
  unfold LawIs at h ⊢
  simp only [e1, e2, e3, e4, e5, e6, e7]
  exact h
theorem ILaw_of {w u : WD} (e : u 46 28 = w 46 28 ∧ u 6 8 = w 6 8 ∧ u 9 = w 9 ∧ u 58 = w 58 ∧ u 59 = w 59 ∧ u 60 0 = w 60 0 ∧ u 61 = w 61 ∧ u 62 = w 62) (h : ILaw w) : ILaw u := by
  obtain ⟨e1, e2, e3, e4, e5, e6, e7, e8⟩ := e
  rcases h with h | ⟨h, ls, hl⟩
  · left; rw [e1, e2]; exact h
  · right; rw [e1]; exact ⟨h, ls, LawIs_of ⟨e2, e3, e4, e5, e6, e7, e8⟩ hl⟩
theorem INight_of {w u : WD} (e : u 1 4 = w 1 4 ∧ u 1 5 = w 1 5 ∧ u 20 = w 20 ∧ u 21 = w 21 ∧ u 22 = w 22 ∧ u 73 = w 73 ∧ u 74 = w 74 ∧ u 75 = w 75 ∧ u 46 49 = w 46 49) (h : INight w) : INight u := by
  obtain ⟨e1, e2, e3, e4, e5, e6, e7, e8, e9⟩ := e
  unfold INight at h ⊢
  simp only [e1, e2, e3, e4, e5, e6, e7, e8, e9]
  exact h
theorem IKept_of {w u : WD} (e : u 1 4 = w 1 4 ∧ u 1 5 = w 1 5 ∧ u 19 8 = w 19 8 ∧ u 23 = w 23 ∧ u 24 = w 24 ∧ u 25 = w 25 ∧ u 26 = w 26 ∧ u 76 = w 76 ∧ u 77 = w 77 ∧ u 78 = w 78 ∧ u 79 = w 79 ∧ u 46 51 = w 46 51 ∧ u 46 52 = w 46 52 ∧ u 46 53 = w 46 53) (h : IKept w) : IKept u := by
  obtain ⟨e1, e2, e3, e4, e5, e6, e7, e8, e9, e10, e11, e12, e13, e14⟩ := e
  unfold IKept at h ⊢
  simp only [e1, e2, e3, e4, e5, e6, e7, e8, e9, e10, e11, e12, e13, e14]
  exact h
theorem IShelf_of {w u : WD} (e : (∀ k, 34 ≤ k → k ≤ 45 → u k = w k) ∧ u 82 = w 82 ∧ u 83 = w 83 ∧ u 84 = w 84 ∧ u 30 2 = w 30 2) (h : IShelf w) : IShelf u := by
  obtain ⟨e1, e2, e3, e4, e5⟩ := e
  intro o h1 h2
  rw [e1 (34 + 2 * o) (by omega) (by omega), e1 (35 + 2 * o) (by omega) (by omega), e2, e3, e4, e5]
  exact h o h1 h2
theorem IBody_of {w u : WD} (e : u 30 2 = w 30 2 ∧ u 30 3 = w 30 3 ∧ u 31 = w 31 ∧ u 32 = w 32 ∧ u 46 58 = w 46 58 ∧ u 46 60 = w 46 60 ∧ u 80 = w 80 ∧ u 81 = w 81) (h : IBody w) : IBody u := by
  obtain ⟨e1, e2, e3, e4, e5, e6, e7, e8⟩ := e
  unfold IBody at h ⊢
  simp only [e1, e2, e3, e4, e5, e6, e7, e8]
  exact h
theorem inv_0 : Inv W0 := by
  have hV : ∀ f a, VAL f a → W0 (PR f) (PI f a) = W0 2 (PL f a) ∧ LO f ≤ W0 2 (PL f a) ∧ W0 2 (PL f a) ≤ HI f := by
    intro f a ⟨h1, h2, h3, h4, h5, h6, h7⟩
    have ha : a < 6 := by
      rcases (by omega : f ≤ 3 ∨ (4 ≤ f ∧ f ≤ 7) ∨ f = 8 ∨ 9 ≤ f) with q | ⟨q, q'⟩ | q | q
      · exact h4 q
      · have := h5 q q'; omega
      · have := h6 q; omega
      · have := h7 q; omega
    rcases (by omega : f = 0 ∨ f = 1 ∨ f = 2 ∨ f = 3 ∨ f = 4 ∨ f = 5 ∨ f = 6 ∨ f = 7 ∨ f = 8 ∨ f = 9 ∨ f = 10 ∨ f = 11 ∨ f = 12) with rfl | rfl | rfl | rfl | rfl | rfl | rfl | rfl | rfl | rfl | rfl | rfl | rfl <;>
    rcases (by omega : a = 0 ∨ a = 1 ∨ a = 2 ∨ a = 3 ∨ a = 4 ∨ a = 5) with rfl | rfl | rfl | rfl | rfl | rfl <;> first | decide | (exfalso; omega)
  refine ⟨⟨by decide, by decide, by decide, by decide, by decide, by decide, hV⟩, ⟨by decide, by decide, by decide, by decide, by decide, ?_⟩, ⟨by decide, by decide, by decide, ?_⟩, Or.inl (by decide), ⟨?_, by decide, by decide, by decide, ?_⟩, Or.inl (by decide), ?_, ⟨by decide, by decide, by decide, ?_, by decide, by decide, by decide, ?_⟩⟩
  · intro k h1 h2
    have : W0 1 6 + W0 1 7 = 0 := by decide
    omega
  · intro k h1 h2
    have : W0 6 5 = 0 := by decide
    omega
  · intro m h1 h2
    rcases (by omega : m = 0 ∨ m = 1 ∨ m = 2 ∨ m = 3 ∨ m = 4) with rfl | rfl | rfl | rfl | rfl <;> exact ⟨Or.inl (by decide), Or.inl (by decide), fun q => absurd q (by decide), fun _ => by decide⟩
  · intro k h1 h2
    rcases (by omega : k = 0 ∨ k = 1 ∨ k = 2 ∨ k = 3) with rfl | rfl | rfl | rfl <;> decide
  · intro o h1 h2
    rcases (by omega : o = 0 ∨ o = 1 ∨ o = 2 ∨ o = 3 ∨ o = 4 ∨ o = 5) with rfl | rfl | rfl | rfl | rfl | rfl <;> exact Or.inl (by decide)
  · intro k h1 h2
    have : W0 30 2 = 0 := by decide
    omega
  · intro k h1 h2
    have : W0 30 3 = 0 := by decide
    omega
