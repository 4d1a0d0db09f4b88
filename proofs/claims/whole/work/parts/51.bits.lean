/-! sets as numbers -/
theorem fin1 {n : Nat} {P : Int → Prop} (h : ∀ i : Fin n, P (i.val : Int)) {v : Int} (h0 : 0 ≤ v) (h1 : v < n) : P v := by
  have := h ⟨v.toNat, by omega⟩
  rw [show (((⟨v.toNat, by omega⟩ : Fin n).val : Nat) : Int) = v from Int.toNat_of_nonneg h0] at this
  exact this
/-- p is in the set v -/
def tb (v p : Int) : Prop := bAnd (bShr v p) 1 = 1
theorem tb_01 {v p : Int} (hv : 0 ≤ v ∧ v < 128) (hp : 0 ≤ p ∧ p < 7) : bAnd (bShr v p) 1 = 0 ∨ bAnd (bShr v p) 1 = 1 :=
  fin1 (n := 128) (P := fun v => ∀ p : Int, 0 ≤ p → p < 7 → (bAnd (bShr v p) 1 = 0 ∨ bAnd (bShr v p) 1 = 1))
    (fun i p h0 h1 => fin1 (n := 7) (P := fun p => bAnd (bShr (i.val : Int) p) 1 = 0 ∨ bAnd (bShr (i.val : Int) p) 1 = 1) (fun j => (by decide +kernel : ∀ (i : Fin 128) (j : Fin 7), bAnd (bShr (i.val : Int) (j.val : Int)) 1 = 0 ∨ bAnd (bShr (i.val : Int) (j.val : Int)) 1 = 1) i j) h0 h1) hv.1 hv.2 p hp.1 hp.2
theorem tb_n {v p : Int} (hv : 0 ≤ v ∧ v < 128) (hp : 0 ≤ p ∧ p < 7) : ¬ tb v p ↔ bAnd (bShr v p) 1 = 0 := by
  have := tb_01 hv hp
  unfold tb
  omega
def TBOR (v p q : Int) : Prop := (0 ≤ bOr v (bShl 1 q) ∧ bOr v (bShl 1 q) < 128) ∧ (bAnd (bShr (bOr v (bShl 1 q)) p) 1 = 1 ↔ (bAnd (bShr v p) 1 = 1 ∨ p = q)) ∧ (v < 64 → q < 6 → bOr v (bShl 1 q) < 64) ∧ (bAnd v (bShl 1 q) ≠ 0 ↔ bAnd (bShr v q) 1 = 1)
theorem tbor {v p q : Int} (hv : 0 ≤ v ∧ v < 128) (hp : 0 ≤ p ∧ p < 7) (hq : 0 ≤ q ∧ q < 7) : TBOR v p q :=
  fin1 (n := 128) (P := fun v => ∀ p : Int, 0 ≤ p → p < 7 → ∀ q : Int, 0 ≤ q → q < 7 → TBOR v p q)
    (fun i p h0 h1 => fin1 (n := 7) (P := fun p => ∀ q : Int, 0 ≤ q → q < 7 → TBOR (i.val : Int) p q) (fun j q h2 h3 => fin1 (n := 7) (P := fun q => TBOR (i.val : Int) (j.val : Int) q) (fun k => (by unfold TBOR; decide +kernel : ∀ (i : Fin 128) (j k : Fin 7), TBOR (i.val : Int) (j.val : Int) (k.val : Int)) i j k) h2 h3) h0 h1) hv.1 hv.2 p hp.1 hp.2 q hq.1 hq.2
def TBCL (v p q : Int) : Prop := (0 ≤ bAnd v (bXor (bShl 1 q) (-1)) ∧ bAnd v (bXor (bShl 1 q) (-1)) < 128) ∧ (bAnd (bShr (bAnd v (bXor (bShl 1 q) (-1))) p) 1 = 1 ↔ (bAnd (bShr v p) 1 = 1 ∧ p ≠ q)) ∧ (v < 64 → bAnd v (bXor (bShl 1 q) (-1)) < 64)
theorem tbcl {v p q : Int} (hv : 0 ≤ v ∧ v < 128) (hp : 0 ≤ p ∧ p < 7) (hq : 0 ≤ q ∧ q < 7) : TBCL v p q :=
  fin1 (n := 128) (P := fun v => ∀ p : Int, 0 ≤ p → p < 7 → ∀ q : Int, 0 ≤ q → q < 7 → TBCL v p q)
    (fun i p h0 h1 => fin1 (n := 7) (P := fun p => ∀ q : Int, 0 ≤ q → q < 7 → TBCL (i.val : Int) p q) (fun j q h2 h3 => fin1 (n := 7) (P := fun q => TBCL (i.val : Int) (j.val : Int) q) (fun k => (by unfold TBCL; decide +kernel : ∀ (i : Fin 128) (j k : Fin 7), TBCL (i.val : Int) (j.val : Int) (k.val : Int)) i j k) h2 h3) h0 h1) hv.1 hv.2 p hp.1 hp.2 q hq.1 hq.2
/-- the set's bits make the number -/
def BSM (b : Int → Int) : Int := b 0 + 2 * b 1 + 4 * b 2 + 8 * b 3 + 16 * b 4 + 32 * b 5 + 64 * b 6
theorem bsm {v : Int} (hv : 0 ≤ v ∧ v < 128) : v = BSM (fun p => bAnd (bShr v p) 1) :=
  fin1 (n := 128) (P := fun v => v = BSM (fun p => bAnd (bShr v p) 1)) (by unfold BSM; decide +kernel) hv.1 hv.2
theorem tb_ext {v u : Int} (hv : 0 ≤ v ∧ v < 128) (hu : 0 ≤ u ∧ u < 128) (h : ∀ p, 0 ≤ p → p < 7 → (tb v p ↔ tb u p)) : v = u := by
  have e : ∀ p, 0 ≤ p → p < 7 → bAnd (bShr v p) 1 = bAnd (bShr u p) 1 := by
    intro p h0 h1
    have a := tb_01 hv ⟨h0, h1⟩
    have b := tb_01 hu ⟨h0, h1⟩
    have c := h p h0 h1
    unfold tb at c
    omega
  rw [bsm hv, bsm hu]
  unfold BSM
  dsimp only
  rw [e 0 (by decide) (by decide), e 1 (by decide) (by decide), e 2 (by decide) (by decide), e 3 (by decide) (by decide), e 4 (by decide) (by decide), e 5 (by decide) (by decide), e 6 (by decide) (by decide)]
/-- how many are in a set -/
def BC (v : Int) : Int := bAnd (bShr v 0) 1 + bAnd (bShr v 1) 1 + bAnd (bShr v 2) 1 + bAnd (bShr v 3) 1 + bAnd (bShr v 4) 1 + bAnd (bShr v 5) 1 + bAnd (bShr v 6) 1
def BCX (a0 : Int) : Int :=
  let v1 := w32 (a0 - bAnd (bUshr a0 1) 1431655765)
  let v2 := w32 (bAnd v1 858993459 + bAnd (bUshr v1 2) 858993459)
  let v3 := bAnd (w32 (v2 + bUshr v2 4)) 252645135
  let v4 := w32 (v3 + bUshr v3 8)
  let v5 := w32 (v4 + bUshr v4 16)
  bAnd v5 63
theorem bcx {v : Int} (hv : 0 ≤ v ∧ v < 128) : BCX v = BC v :=
  fin1 (n := 128) (P := fun v => BCX v = BC v) (by decide +kernel) hv.1 hv.2
theorem e_bitCount {v : Int} {w : WD} (hv : 0 ≤ v ∧ v < 128) : fJI_bitCount v w = some (BC v, w) := by
  have : fJI_bitCount v w = some (BCX v, w) := rfl
  rw [this, bcx hv]
def BL : Nat → Int → Int → Option Int
  | 0, _, _ => none
  | f + 1, x1, x2 => if x2 = 0 then some x1 else BL f (w32 (x1 + 1)) (bAnd x2 (w32 (x2 - 1)))
theorem bl_l {w : WD} : ∀ (f : Nat) (x1 x2 r : Int), BL f x1 x2 = some r → fR_bitsOf_l4 f x1 x2 w = some (r, w)
  | 0, x1, x2, r, h => by cases h
  | f + 1, x1, x2, r, h => by
    show fR_bitsOf_l4_b (fR_bitsOf_l4 f) x1 x2 w = some (r, w)
    unfold fR_bitsOf_l4_b
    unfold BL at h
    by_cases q : x2 = 0
    · rw [if_pos q] at h ⊢
      cases h
      rfl
    · rw [if_neg q] at h ⊢
      exact bl_l f _ _ r h
theorem blx {v : Int} (hv : 0 ≤ v ∧ v < 128) : BL FU 0 v = some (BC v) :=
  fin1 (n := 128) (P := fun v => BL FU 0 v = some (BC v)) (by decide +kernel) hv.1 hv.2
theorem e_bitsOf {v : Int} {w : WD} (hv : 0 ≤ v ∧ v < 128) : fR_bitsOf v w = some (BC v, w) := bl_l FU 0 v _ (blx hv)
theorem BC_in {v : Int} (hv : 0 ≤ v ∧ v < 128) : 0 ≤ BC v ∧ BC v ≤ 7 := by
  unfold BC
  have b0 := tb_01 (p := 0) hv (by decide)
  have b1 := tb_01 (p := 1) hv (by decide)
  have b2 := tb_01 (p := 2) hv (by decide)
  have b3 := tb_01 (p := 3) hv (by decide)
  have b4 := tb_01 (p := 4) hv (by decide)
  have b5 := tb_01 (p := 5) hv (by decide)
  have b6 := tb_01 (p := 6) hv (by decide)
  omega
theorem BC_or {v q : Int} (hv : 0 ≤ v ∧ v < 128) (hq : 0 ≤ q ∧ q < 7) (hn : ¬ tb v q) : BC (bOr v (bShl 1 q)) = BC v + 1 :=
  fin1 (n := 128) (P := fun v => ∀ q : Int, 0 ≤ q → q < 7 → ¬ bAnd (bShr v q) 1 = 1 → BC (bOr v (bShl 1 q)) = BC v + 1)
    (fun i q h0 h1 => fin1 (n := 7) (P := fun q => ¬ bAnd (bShr (i.val : Int) q) 1 = 1 → BC (bOr (i.val : Int) (bShl 1 q)) = BC (i.val : Int) + 1) (fun k => (by decide +kernel : ∀ (i : Fin 128) (k : Fin 7), ¬ bAnd (bShr (i.val : Int) (k.val : Int)) 1 = 1 → BC (bOr (i.val : Int) (bShl 1 (k.val : Int))) = BC (i.val : Int) + 1) i k) h0 h1) hv.1 hv.2 q hq.1 hq.2 hn
theorem bOr_assoc (a b c : Int) : bOr (bOr a b) c = bOr a (bOr b c) := by
  unfold bOr
  rw [Int32.ofInt_toInt, Int32.ofInt_toInt, Int32.or_assoc]
theorem tb_and {a b p : Int} (ha : 0 ≤ a ∧ a < 128) (hb : 0 ≤ b ∧ b < 128) (hp : 0 ≤ p ∧ p < 7) : (0 ≤ bAnd a b ∧ bAnd a b < 128) ∧ (tb (bAnd a b) p ↔ tb a p ∧ tb b p) := by
  have key : ∀ (i j : Fin 128), bAnd (i.val : Int) (j.val : Int) = ((Nat.land i.val j.val : Nat) : Int) := by decide +kernel
  have tbn : ∀ (i : Fin 128) (k : Fin 7), bAnd (bShr (i.val : Int) (k.val : Int)) 1 = 1 ↔ Nat.testBit i.val k.val = true := by decide +kernel
  obtain ⟨i, rfl⟩ : ∃ i : Fin 128, a = (i.val : Int) := ⟨⟨a.toNat, by omega⟩, (Int.toNat_of_nonneg ha.1).symm⟩
  obtain ⟨j, rfl⟩ : ∃ j : Fin 128, b = (j.val : Int) := ⟨⟨b.toNat, by omega⟩, (Int.toNat_of_nonneg hb.1).symm⟩
  obtain ⟨k, rfl⟩ : ∃ k : Fin 7, p = (k.val : Int) := ⟨⟨p.toNat, by omega⟩, (Int.toNat_of_nonneg hp.1).symm⟩
  have lt : Nat.land i.val j.val < 128 := Nat.lt_of_le_of_lt Nat.and_le_left i.isLt
  rw [key i j]
  refine ⟨by omega, ?_⟩
  unfold tb
  rw [tbn i k, tbn j k, tbn ⟨Nat.land i.val j.val, lt⟩ k]
  show Nat.testBit (i.val &&& j.val) k.val = true ↔ _
  rw [Nat.testBit_and, Bool.and_eq_true]
/-- those who are not in a set -/
theorem tb_not {a s : Int} (ha : 0 ≤ a ∧ a < 128) (hs : 0 ≤ s ∧ s < 128) : bAnd a (bXor s (-1)) = bAnd a (127 - s) ∧ bAnd 127 (bXor s (-1)) = 127 - s := by
  obtain ⟨i, rfl⟩ : ∃ i : Fin 128, a = (i.val : Int) := ⟨⟨a.toNat, by omega⟩, (Int.toNat_of_nonneg ha.1).symm⟩
  obtain ⟨j, rfl⟩ : ∃ j : Fin 128, s = (j.val : Int) := ⟨⟨s.toNat, by omega⟩, (Int.toNat_of_nonneg hs.1).symm⟩
  exact ⟨(by decide +kernel : ∀ (i j : Fin 128), bAnd (i.val : Int) (bXor (j.val : Int) (-1)) = bAnd (i.val : Int) (127 - (j.val : Int))) i j, (by decide +kernel : ∀ (j : Fin 128), bAnd 127 (bXor (j.val : Int) (-1)) = 127 - (j.val : Int)) j⟩
theorem shl_in {q : Int} (hq : 0 ≤ q ∧ q < 7) : 0 < bShl 1 q ∧ bShl 1 q < 128 := fin1 (n := 7) (P := fun q => 0 < bShl 1 q ∧ bShl 1 q < 128) (by decide +kernel) hq.1 hq.2
theorem tb_shl {p q : Int} (hp : 0 ≤ p ∧ p < 7) (hq : 0 ≤ q ∧ q < 7) : tb (bShl 1 q) p ↔ p = q := by
  have h := tbor (v := 0) (p := p) (q := q) (by decide) hp hq
  have z : bOr 0 (bShl 1 q) = bShl 1 q := fin1 (n := 7) (P := fun q => bOr 0 (bShl 1 q) = bShl 1 q) (by decide +kernel) hq.1 hq.2
  have z' : bAnd (bShr 0 p) 1 = 0 := fin1 (n := 7) (P := fun p => bAnd (bShr 0 p) 1 = 0) (by decide +kernel) hp.1 hp.2
  have h2 := h.2.1
  rw [z, z'] at h2
  unfold tb
  omega
theorem tb_0 {p : Int} (hp : 0 ≤ p ∧ p < 7) : ¬ tb 0 p := by
  unfold tb
  have z' : bAnd (bShr 0 p) 1 = 0 := fin1 (n := 7) (P := fun p => bAnd (bShr 0 p) 1 = 0) (by decide +kernel) hp.1 hp.2
  omega
