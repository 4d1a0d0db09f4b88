theorem s_bitCount {v : Int} {w : WD} {Q : Int → WD → Prop} (hv : 0 ≤ v ∧ v < 128) (h : Q (BC v) w) : WI (fJI_bitCount v w) Q := i_eq (e_bitCount hv) h
theorem s_bitsOf {v : Int} {w : WD} {Q : Int → WD → Prop} (hv : 0 ≤ v ∧ v < 128) (h : Q (BC v) w) : WI (fR_bitsOf v w) Q := i_eq (e_bitsOf hv) h
/-- two of the list are alike in all signs of a set -/
def ALK (w : WD) (set p q : Int) : Prop := ∀ s, 0 ≤ s → s < 3 → tb set s → w 2 (4 * p + s) = w 2 (4 * q + s)
theorem ALK_symm {w : WD} {set p q : Int} (h : ALK w set p q) : ALK w set q p := fun s h0 h1 h2 => (h s h0 h1 h2).symm
theorem PL_sign {a s : Int} (h : 0 ≤ s ∧ s < 3) : PL s a = 4 * a + s := by unfold PL; rw [if_pos (by omega)]
theorem l_alike {p q set : Int} {Q : Int → WD → Prop} (hs : 0 ≤ set ∧ set < 8) : ∀ (f : Nat) (x : Int) (w : WD), 0 ≤ x → x ≤ 3 → 3 - x < f → (0 ≤ w 1 4 ∧ w 1 4 ≤ 6 ∧ 0 ≤ w 1 5 ∧ w 1 5 ≤ 5) → (0 ≤ p ∧ p < w 1 4) → (0 ≤ q ∧ q < w 1 4) →
    ((∀ s, x ≤ s → s < 3 → tb set s → w 2 (4 * p + s) = w 2 (4 * q + s)) → Q 1 w) → (¬ (∀ s, x ≤ s → s < 3 → tb set s → w 2 (4 * p + s) = w 2 (4 * q + s)) → Q 0 w) → WI (fHa_alike_l3 p q set f x w) Q
  | 0, x, w, _, _, h, _, _, _, _, _ => by exfalso; omega
  | f + 1, x, w, h1, h2, h3, hw, hp, hq, q1, q0 => by
    have next : x < 3 → (tb set x → w 2 (4 * p + x) = w 2 (4 * q + x)) → WI (fHa_alike_l3 p q set f (x + 1) w) Q := fun x3 hx => l_alike hs f (x + 1) w (by omega) (by omega) (by omega) hw hp hq
      (fun z => q1 (fun s s0 s1 s2 => by
        rcases (by omega : s = x ∨ x + 1 ≤ s) with rfl | c
        · exact hx s2
        · exact z s c s1 s2))
      (fun z => q0 (fun y => z (fun s s0 s1 s2 => y s (by omega) s1 s2)))
    show WI (fHa_alike_l3_b (fHa_alike_l3 p q set f) p q set x w) Q
    unfold fHa_alike_l3_b
    rw [w32_i (x := x + 1) (by omega) (by omega)]
    refine i_if (fun c => i_some (q1 (fun s s0 s1 _ => by omega))) (fun c => i_jn (i_if (fun z => next (by omega) (fun t => by unfold tb at t; omega)) (fun z => ?_)))
    have hv : 0 ≤ set ∧ set < 128 := by omega
    have ht : tb set x := by have := tb_01 (p := x) hv (by omega); unfold tb; omega
    refine i_ci (s_at hw (fun _ => i_ci (s_at hw (fun _ => ?_) (fun y => absurd (show OKp _ _ _ _ from ⟨by omega, by omega, by omega, by omega, by omega, by omega, by omega⟩) y))) (fun y => absurd (show OKp _ _ _ _ from ⟨by omega, by omega, by omega, by omega, by omega, by omega, by omega⟩) y))
    rw [PL_sign (by omega), PL_sign (by omega)]
    exact i_if (fun e => next (by omega) (fun _ => e)) (fun e => i_some (q0 (fun y => e (y x (by omega) (by omega) ht))))
theorem s_alike {p q set : Int} {w : WD} {Q : Int → WD → Prop} (hs : 0 ≤ set ∧ set < 8) (hw : 0 ≤ w 1 4 ∧ w 1 4 ≤ 6 ∧ 0 ≤ w 1 5 ∧ w 1 5 ≤ 5) (hp : 0 ≤ p ∧ p < w 1 4) (hq : 0 ≤ q ∧ q < w 1 4) (q1 : ALK w set p q → Q 1 w) (q0 : ¬ ALK w set p q → Q 0 w) : WI (fHa_alike p q set w) Q :=
  l_alike hs FU 0 w (by decide) (by decide) (by decide) hw hp hq q1 q0
theorem l_areLike {p q set : Int} {Q : Int → WD → Prop} {w0 : WD} (hs : 0 ≤ set ∧ set < 8) (hp : 0 ≤ p ∧ p < 6) (hq : 0 ≤ q ∧ q < 6) : ∀ (f : Nat) (x : Int) (w : WD), 0 ≤ x → x ≤ 3 → 3 - x < f → (∀ s, 0 ≤ s → s < 3 → w 47 (3 * p + s) = w0 2 (4 * p + s) ∧ w 47 (3 * q + s) = w0 2 (4 * q + s)) →
    ((∀ s, x ≤ s → s < 3 → tb set s → w0 2 (4 * p + s) = w0 2 (4 * q + s)) → Q 1 w) → (¬ (∀ s, x ≤ s → s < 3 → tb set s → w0 2 (4 * p + s) = w0 2 (4 * q + s)) → Q 0 w) → WI (fR_areLike_l3 p q set f x w) Q
  | 0, x, w, _, _, h, _, _, _ => by exfalso; omega
  | f + 1, x, w, h1, h2, h3, hw, q1, q0 => by
    have next : x < 3 → (tb set x → w0 2 (4 * p + x) = w0 2 (4 * q + x)) → WI (fR_areLike_l3 p q set f (x + 1) w) Q := fun x3 hx => l_areLike hs hp hq f (x + 1) w (by omega) (by omega) (by omega) hw
      (fun z => q1 (fun s s0 s1 s2 => by
        rcases (by omega : s = x ∨ x + 1 ≤ s) with rfl | c
        · exact hx s2
        · exact z s c s1 s2))
      (fun z => q0 (fun y => z (fun s s0 s1 s2 => y s (by omega) s1 s2)))
    show WI (fR_areLike_l3_b (fR_areLike_l3 p q set f) p q set x w) Q
    unfold fR_areLike_l3_b
    rw [w32_i (x := x + 1) (by omega) (by omega), w32_i (x := 3 * p) (by omega) (by omega), w32_i (x := 3 * q) (by omega) (by omega), w32_i (x := 3 * p + x) (by omega) (by omega), w32_i (x := 3 * q + x) (by omega) (by omega)]
    refine i_if (fun c => i_some (q1 (fun s s0 s1 _ => by omega))) (fun c => i_jn (i_if (fun z => next (by omega) (fun t => by unfold tb at t; exact absurd t z)) (fun z => i_ck (by omega) (i_ck (by omega) ?_))))
    have ht : tb set x := by unfold tb; omega
    obtain ⟨e1, e2⟩ := hw x h1 (by omega)
    rw [e1, e2]
    exact i_if (fun e => next (by omega) (fun _ => e)) (fun e => i_some (q0 (fun y => e (y x (by omega) (by omega) ht))))
/-- the signs alike on both sides -/
def SGR (w0 u : WD) : Prop := u 46 1 = w0 1 4 ∧ ∀ p s, 0 ≤ p → p < 6 → 0 ≤ s → s < 3 → u 47 (3 * p + s) = w0 2 (4 * p + s)
theorem s_areLike {p q set : Int} {w0 w : WD} {Q : Int → WD → Prop} (hs : 0 ≤ set ∧ set < 8) (hp : 0 ≤ p ∧ p < 6) (hq : 0 ≤ q ∧ q < 6) (hw : SGR w0 w) (q1 : ALK w0 set p q → Q 1 w) (q0 : ¬ ALK w0 set p q → Q 0 w) : WI (fR_areLike p q set w) Q :=
  l_areLike hs hp hq FU 0 w (by decide) (by decide) (by decide) (fun s s0 s1 => ⟨hw.2 p s hp.1 hp.2 s0 s1, hw.2 q s hq.1 hq.2 s0 s1⟩) q1 q0
/-- no two of them alike -/
def PTD (w : WD) (set : Int) : Prop := ∀ p q, 0 ≤ p → p < q → q < w 1 4 → ¬ ALK w set p q
theorem l_parted14 {set a : Int} {K : WD → Option (Int × WD)} {Q : Int → WD → Prop} {w : WD} (hs : 0 ≤ set ∧ set < 8) (hw : 0 ≤ w 1 4 ∧ w 1 4 ≤ 6 ∧ 0 ≤ w 1 5 ∧ w 1 5 ≤ 5) (ha : 0 ≤ a ∧ a < w 1 4) : ∀ (f : Nat) (x : Int), a < x → x ≤ w 1 4 → w 1 4 - x < f →
    ((∀ q, x ≤ q → q < w 1 4 → ¬ ALK w set a q) → WI (K w) Q) → ((∃ q, x ≤ q ∧ q < w 1 4 ∧ ALK w set a q) → Q 0 w) → WI (fHa_partedBy_l14 set a K f x w) Q
  | 0, x, _, _, h, _, _ => by exfalso; omega
  | f + 1, x, h1, h2, h3, q1, q0 => by
    show WI (fHa_partedBy_l14_b (fHa_partedBy_l14 set a K f) set a K x w) Q
    unfold fHa_partedBy_l14_b
    refine i_if (fun c => q1 (fun q z1 z2 => by omega)) (fun c => i_ci (s_alike hs hw ha (by omega) (fun y => i_if (fun z => absurd z (by decide)) (fun _ => i_some (q0 ⟨x, by omega, by omega, y⟩))) (fun y => i_if (fun _ => i_bv ?_) (fun z => absurd rfl z))))
    rw [w32_i (x := x + 1) (by omega) (by omega)]
    refine l_parted14 hs hw ha f (x + 1) (by omega) (by omega) (by omega) (fun z => q1 (fun q z1 z2 => ?_)) (fun ⟨q, z1, z2, z3⟩ => q0 ⟨q, by omega, z2, z3⟩)
    rcases (by omega : q = x ∨ x + 1 ≤ q) with rfl | c
    · exact y
    · exact z q c z2
theorem l_parted2 {set : Int} {Q : Int → WD → Prop} {w : WD} (hs : 0 ≤ set ∧ set < 8) (hw : 0 ≤ w 1 4 ∧ w 1 4 ≤ 6 ∧ 0 ≤ w 1 5 ∧ w 1 5 ≤ 5) : ∀ (f : Nat) (x : Int), 0 ≤ x → x ≤ w 1 4 → w 1 4 - x < f →
    ((∀ p q, x ≤ p → p < q → q < w 1 4 → ¬ ALK w set p q) → Q 1 w) → ((∃ p q, x ≤ p ∧ p < q ∧ q < w 1 4 ∧ ALK w set p q) → Q 0 w) → WI (fHa_partedBy_l2 set f x w) Q
  | 0, x, _, _, h, _, _ => by exfalso; omega
  | f + 1, x, h1, h2, h3, q1, q0 => by
    show WI (fHa_partedBy_l2_b (fHa_partedBy_l2 set f) set x w) Q
    unfold fHa_partedBy_l2_b
    rw [w32_i (x := x + 1) (by omega) (by omega)]
    refine i_if (fun c => i_some (q1 (fun p q z1 z2 => by omega))) (fun c => i_bv ?_)
    refine l_parted14 hs hw ⟨h1, by omega⟩ FU (x + 1) (by omega) (by omega) (by unfold FU; omega) (fun z => i_bv (l_parted2 hs hw f (x + 1) (by omega) (by omega) (by omega) (fun y => q1 (fun p q z1 z2 z3 => ?_)) (fun ⟨p, q, z1, z2, z3, z4⟩ => q0 ⟨p, q, by omega, z2, z3, z4⟩))) (fun ⟨q, z1, z2, z3⟩ => q0 ⟨x, q, by omega, by omega, z2, z3⟩)
    rcases (by omega : p = x ∨ x + 1 ≤ p) with rfl | c
    · exact z q (by omega) z3
    · exact y p q c z2 z3
theorem l_differ12 {set a : Int} {K : WD → Option (Int × WD)} {Q : Int → WD → Prop} {w0 w : WD} (hs : 0 ≤ set ∧ set < 8) (hw : SGR w0 w) (ha : 0 ≤ a ∧ a < 6) : ∀ (f : Nat) (x : Int), 0 ≤ x → x ≤ a → a - x < f →
    ((∀ q, x ≤ q → q < a → ¬ ALK w0 set q a) → WI (K w) Q) → ((∃ q, x ≤ q ∧ q < a ∧ ALK w0 set q a) → Q 0 w) → WI (fR_allDiffer_l12 set a K f x w) Q
  | 0, x, _, _, h, _, _ => by exfalso; omega
  | f + 1, x, h1, h2, h3, q1, q0 => by
    show WI (fR_allDiffer_l12_b (fR_allDiffer_l12 set a K f) set a K x w) Q
    unfold fR_allDiffer_l12_b
    refine i_if (fun c => q1 (fun q z1 z2 => by omega)) (fun c => i_ci (s_areLike hs ha (by omega) hw (fun y => i_if (fun z => absurd z (by decide)) (fun _ => i_some (q0 ⟨x, by omega, by omega, ALK_symm y⟩))) (fun y => i_if (fun _ => i_bv ?_) (fun z => absurd rfl z))))
    rw [w32_i (x := x + 1) (by omega) (by omega)]
    refine l_differ12 hs hw ha f (x + 1) (by omega) (by omega) (by omega) (fun z => q1 (fun q z1 z2 => ?_)) (fun ⟨q, z1, z2, z3⟩ => q0 ⟨q, by omega, z2, z3⟩)
    rcases (by omega : q = x ∨ x + 1 ≤ q) with rfl | c
    · exact fun z => y (ALK_symm z)
    · exact z q c z2
theorem l_differ2 {set : Int} {Q : Int → WD → Prop} {w0 w : WD} (hs : 0 ≤ set ∧ set < 8) (hw : SGR w0 w) (h6 : 0 ≤ w0 1 4 ∧ w0 1 4 ≤ 6) : ∀ (f : Nat) (x : Int), 0 ≤ x → x ≤ w0 1 4 → w0 1 4 - x < f →
    ((∀ p q, 0 ≤ p → p < q → x ≤ q → q < w0 1 4 → ¬ ALK w0 set p q) → Q 1 w) → ((∃ p q, 0 ≤ p ∧ p < q ∧ q < w0 1 4 ∧ ALK w0 set p q) → Q 0 w) → WI (fR_allDiffer_l2 set f x w) Q
  | 0, x, _, _, h, _, _ => by exfalso; omega
  | f + 1, x, h1, h2, h3, q1, q0 => by
    show WI (fR_allDiffer_l2_b (fR_allDiffer_l2 set f) set x w) Q
    unfold fR_allDiffer_l2_b
    rw [w32_i (x := x + 1) (by omega) (by omega), hw.1]
    refine i_if (fun c => i_some (q1 (fun p q z1 z2 => by omega))) (fun c => ?_)
    refine l_differ12 hs hw ⟨h1, by omega⟩ FU 0 (by omega) (by omega) (by unfold FU; omega) (fun z => i_bv (l_differ2 hs hw h6 f (x + 1) (by omega) (by omega) (by omega) (fun y => q1 (fun p q z1 z2 z3 z4 => ?_)) q0)) (fun ⟨q, z1, z2, z3⟩ => q0 ⟨q, x, z1, z2, by omega, z3⟩)
    rcases (by omega : q = x ∨ x + 1 ≤ q) with rfl | c
    · exact z p z1 z2
    · exact y p q z1 z2 c z4
theorem s_partedBy {set : Int} {Q : Int → WD → Prop} {w : WD} (hs : 0 ≤ set ∧ set < 8) (hw : 0 ≤ w 1 4 ∧ w 1 4 ≤ 6 ∧ 0 ≤ w 1 5 ∧ w 1 5 ≤ 5) (q1 : PTD w set → Q 1 w) (q0 : ¬ PTD w set → Q 0 w) : WI (fHa_partedBy set w) Q :=
  l_parted2 hs hw FU 0 (by decide) (by omega) (by unfold FU; omega) q1 (fun ⟨p, q, z1, z2, z3, z4⟩ => q0 (fun z => z p q z1 z2 z3 z4))
theorem s_allDiffer {set : Int} {Q : Int → WD → Prop} {w0 w : WD} (hs : 0 ≤ set ∧ set < 8) (hw : SGR w0 w) (h6 : 0 ≤ w0 1 4 ∧ w0 1 4 ≤ 6) (q1 : PTD w0 set → Q 1 w) (q0 : ¬ PTD w0 set → Q 0 w) : WI (fR_allDiffer set w) Q :=
  l_differ2 hs hw h6 FU 0 (by decide) (by omega) (by unfold FU; omega) (fun z => q1 (fun p q z1 z2 z3 => z p q z1 z2 (by omega) z3)) (fun ⟨p, q, z1, z2, z3, z4⟩ => q0 (fun z => z p q z1 z2 z3 z4))
/-- what PARTS finds, from a set on -/
def PF (w : WD) (b r : Int) : Nat → Int → Prop
  | 0, x => 8 ≤ x ∧ r = b
  | f + 1, x => (8 ≤ x ∧ r = b) ∨ (x < 8 ∧ ((PTD w x ∧ (b = -2 ∨ BC x < BC b)) ∧ PF w x r f (x + 1) ∨ ¬ (PTD w x ∧ (b = -2 ∨ BC x < BC b)) ∧ PF w b r f (x + 1)))
theorem PF_1 {w : WD} {r r' : Int} : ∀ (f : Nat) (b x : Int), PF w b r f x → PF w b r' f x → r = r'
  | 0, b, x, h, h' => by rw [h.2, h'.2]
  | f + 1, b, x, h, h' => by
    rcases h with h | ⟨h0, h⟩ <;> rcases h' with h' | ⟨h0', h'⟩
    · rw [h.2, h'.2]
    · omega
    · omega
    · rcases h with h | h <;> rcases h' with h' | h'
      · exact PF_1 f _ _ h.2 h'.2
      · exact absurd h.1 h'.1
      · exact absurd h'.1 h.1
      · exact PF_1 f _ _ h.2 h'.2
theorem l_parts27 {a : Int} {K : Int → WD → Option (Int × WD)} {Q : Int → WD → Prop} {w : WD} (hw : 0 ≤ w 1 4 ∧ w 1 4 ≤ 6 ∧ 0 ≤ w 1 5 ∧ w 1 5 ≤ 5) : ∀ (f : Nat) (b x : Int), 0 ≤ x → x ≤ 8 → 8 - x < f → (b = -2 ∨ (0 ≤ b ∧ b < 8)) → (∀ r, PF w b r f x → (r = -2 ∨ (0 ≤ r ∧ r < 8)) → WI (K r w) Q) → WI (fB_parts_l27 a K f b x w) Q
  | 0, b, x, _, _, h, _, _ => by exfalso; omega
  | f + 1, b, x, h1, h2, h3, hb, hK => by
    show WI (fB_parts_l27_b (fB_parts_l27 a K f) a K b x w) Q
    unfold fB_parts_l27_b
    rw [w32_i (x := x + 1) (by omega) (by omega)]
    refine i_if (fun c => hK b (Or.inl ⟨c, rfl⟩) hb) (fun c => i_jn (i_jn ?_))
    have no : ¬ (PTD w x ∧ (b = -2 ∨ BC x < BC b)) → WI (fB_parts_l27 a K f b (x + 1) w) Q := fun z => l_parts27 hw f b (x + 1) (by omega) (by omega) (by omega) hb (fun r z1 z2 => hK r (Or.inr ⟨by omega, Or.inr ⟨z, z1⟩⟩) z2)
    have yes : (b = -2 ∨ BC x < BC b) → WI (if (1 : Int) = 0 then bv (x + 1) fun v3 => fB_parts_l27 a K f b v3 w else ci (fHa_partedBy x w) fun r11 u10 => if r11 = 0 then bv (x + 1) fun v3 => fB_parts_l27 a K f b v3 u10 else bv (x + 1) fun v3 => fB_parts_l27 a K f x v3 u10) Q := fun z => by
      refine i_if (fun q => absurd q (by decide)) (fun _ => i_ci (s_partedBy (by omega) hw (fun y => i_if (fun q => absurd q (by decide)) (fun _ => i_bv (l_parts27 hw f x (x + 1) (by omega) (by omega) (by omega) (by omega) (fun r z1 z2 => hK r (Or.inr ⟨by omega, Or.inl ⟨⟨y, z⟩, z1⟩⟩) z2)))) (fun y => i_if (fun _ => i_bv (no (fun q => y q.1))) (fun q => absurd rfl q))))
    refine i_if (fun q => yes (Or.inl q)) (fun q => ?_)
    refine i_ci (s_bitCount (by omega) (i_ci (s_bitCount (by omega) (i_if (fun z => ?_) (fun z => yes (Or.inr (by omega)))))))
    exact i_jn (i_if (fun _ => i_bv (no (fun y => by omega))) (fun y => absurd rfl y))
theorem l_parts83 {a : Int} {K : Int → WD → Option (Int × WD)} {Q : Int → WD → Prop} {w0 w : WD} (hw : SGR w0 w) (h6 : 0 ≤ w0 1 4 ∧ w0 1 4 ≤ 6) : ∀ (f : Nat) (b x : Int), 0 ≤ x → x ≤ 8 → 8 - x < f → (b = -2 ∨ (0 ≤ b ∧ b < 8)) → (∀ r, PF w0 b r f x → (r = -2 ∨ (0 ≤ r ∧ r < 8)) → WI (K r w) Q) → WI (fR_parts_l83 a K f b x w) Q
  | 0, b, x, _, _, h, _, _ => by exfalso; omega
  | f + 1, b, x, h1, h2, h3, hb, hK => by
    show WI (fR_parts_l83_b (fR_parts_l83 a K f) a K b x w) Q
    unfold fR_parts_l83_b
    rw [w32_i (x := x + 1) (by omega) (by omega)]
    have no : ¬ (PTD w0 x ∧ (b = -2 ∨ BC x < BC b)) → x < 8 → WI (fR_parts_l83 a K f b (x + 1) w) Q := fun z c => l_parts83 hw h6 f b (x + 1) (by omega) (by omega) (by omega) hb (fun r z1 z2 => hK r (Or.inr ⟨by omega, Or.inr ⟨z, z1⟩⟩) z2)
    refine i_if (fun c => hK b (Or.inl ⟨c, rfl⟩) hb) (fun c => i_ci (s_allDiffer (by omega) hw h6 (fun y => i_jn (i_if (fun q => absurd q (by decide)) (fun _ => i_jn ?_))) (fun y => i_jn (i_if (fun _ => i_bv (no (fun q => y q.1) (by omega))) (fun q => absurd rfl q)))))
    have yes : (b = -2 ∨ BC x < BC b) → WI (fR_parts_l83 a K f x (x + 1) w) Q := fun z => l_parts83 hw h6 f x (x + 1) (by omega) (by omega) (by omega) (by omega) (fun r z1 z2 => hK r (Or.inr ⟨by omega, Or.inl ⟨⟨y, z⟩, z1⟩⟩) z2)
    refine i_if (fun q => i_bv (yes (by omega))) (fun q => ?_)
    exact i_ci (s_bitsOf (by omega) (i_ci (s_bitsOf (by omega) (i_if (fun z => i_bv (no (fun y => by omega) (by omega))) (fun z => i_bv (yes (Or.inr (by omega))))))))
/-- those who have a twin -/
def TWS (w : WD) (v : Int) : Prop := (0 ≤ v ∧ v < 128) ∧ ∀ p, 0 ≤ p → p < 7 → (tb v p ↔ ∃ q, 0 ≤ p ∧ p < w 1 4 ∧ 0 ≤ q ∧ q < w 1 4 ∧ p ≠ q ∧ ALK w 7 p q)
/-- so far: pairs whose lesser is ahead of a, or is a and the other ahead of x -/
def TWa (w : WD) (a x v : Int) : Prop := (0 ≤ v ∧ v < 128) ∧ ∀ p, 0 ≤ p → p < 7 → (tb v p ↔ ∃ c d, 0 ≤ c ∧ c < d ∧ d < w 1 4 ∧ (c < a ∨ (c = a ∧ d < x)) ∧ (p = c ∨ p = d) ∧ ALK w 7 c d)
theorem l_twins16 {a : Int} {K : Int → WD → Option (Int × WD)} {Q : Int → WD → Prop} {w : WD} (hw : 0 ≤ w 1 4 ∧ w 1 4 ≤ 6 ∧ 0 ≤ w 1 5 ∧ w 1 5 ≤ 5) (ha : 0 ≤ a ∧ a < w 1 4) : ∀ (f : Nat) (v x : Int), a < x → x ≤ w 1 4 → w 1 4 - x < f → TWa w a x v → (∀ r, TWa w (a + 1) (a + 2) r → WI (K r w) Q) → WI (fHa_twins_l16 a K f v x w) Q
  | 0, v, x, _, _, h, _, _ => by exfalso; omega
  | f + 1, v, x, h1, h2, h3, hv, hK => by
    show WI (fHa_twins_l16_b (fHa_twins_l16 a K f) a K v x w) Q
    unfold fHa_twins_l16_b
    rw [w32_i (x := x + 1) (by omega) (by omega)]
    refine i_if (fun c => hK v ⟨hv.1, fun p p0 p1 => (hv.2 p p0 p1).trans ⟨fun ⟨c, d, z1, z2, z3, z4, z5, z6⟩ => ⟨c, d, z1, z2, z3, by omega, z5, z6⟩, fun ⟨c, d, z1, z2, z3, z4, z5, z6⟩ => ⟨c, d, z1, z2, z3, by omega, z5, z6⟩⟩⟩) (fun c => i_ci (s_alike (by decide) hw ha (by omega) (fun y => i_jn (i_if (fun q => absurd q (by decide)) (fun _ => i_bv (i_bv ?_)))) (fun y => i_jn (i_if (fun _ => i_bv ?_) (fun q => absurd rfl q)))))
    · rw [← bOr_assoc]
      have A := fun p hp => tbor (v := v) (p := p) (q := a) hv.1 hp (by omega)
      have r1 := (A 0 (by decide)).1
      have B := fun p hp => tbor (v := bOr v (bShl 1 a)) (p := p) (q := x) r1 hp (by omega)
      refine l_twins16 hw ha f _ (x + 1) (by omega) (by omega) (by omega) ⟨(B 0 (by decide)).1, fun p p0 p1 => ?_⟩ hK
      have b := (B p ⟨p0, p1⟩).2.1
      have a' := (A p ⟨p0, p1⟩).2.1
      have v' := hv.2 p p0 p1
      unfold tb at v' ⊢
      rw [b, a', v']
      constructor
      · rintro ((⟨c, d, z1, z2, z3, z4, z5, z6⟩ | rfl) | rfl)
        · exact ⟨c, d, z1, z2, z3, by omega, z5, z6⟩
        · exact ⟨p, x, by omega, by omega, by omega, by omega, Or.inl rfl, y⟩
        · exact ⟨a, p, by omega, by omega, by omega, by omega, Or.inr rfl, y⟩
      · rintro ⟨c, d, z1, z2, z3, z4, z5, z6⟩
        by_cases q : c = a ∧ d = x
        · rcases z5 with e | e
          · exact Or.inl (Or.inr (by omega))
          · exact Or.inr (by omega)
        · exact Or.inl (Or.inl ⟨c, d, z1, z2, z3, by omega, z5, z6⟩)
    · refine l_twins16 hw ha f v (x + 1) (by omega) (by omega) (by omega) ⟨hv.1, fun p p0 p1 => (hv.2 p p0 p1).trans ⟨fun ⟨c, d, z1, z2, z3, z4, z5, z6⟩ => ⟨c, d, z1, z2, z3, by omega, z5, z6⟩, fun ⟨c, d, z1, z2, z3, z4, z5, z6⟩ => ?_⟩⟩ hK
      by_cases q : c = a ∧ d = x
      · rw [q.1, q.2] at z6
        exact absurd z6 y
      · exact ⟨c, d, z1, z2, z3, by omega, z5, z6⟩
theorem l_twins4 {Q : Int → WD → Prop} {w : WD} (hw : 0 ≤ w 1 4 ∧ w 1 4 ≤ 6 ∧ 0 ≤ w 1 5 ∧ w 1 5 ≤ 5) (hQ : ∀ r, TWS w r → Q r w) : ∀ (f : Nat) (v x : Int), 0 ≤ x → x ≤ w 1 4 → w 1 4 - x < f → TWa w x (x + 1) v → WI (fHa_twins_l4 f v x w) Q
  | 0, v, x, _, _, h, _ => by exfalso; omega
  | f + 1, v, x, h1, h2, h3, hv => by
    show WI (fHa_twins_l4_b (fHa_twins_l4 f) v x w) Q
    unfold fHa_twins_l4_b
    rw [w32_i (x := x + 1) (by omega) (by omega)]
    refine i_if (fun c => i_some (hQ v ⟨hv.1, fun p p0 p1 => (hv.2 p p0 p1).trans ⟨fun ⟨c, d, z1, z2, z3, z4, z5, z6⟩ => ?_, fun ⟨q, z1, z2, z3, z4, z5, z6⟩ => ?_⟩⟩)) (fun c => i_bv ?_)
    · rcases z5 with rfl | rfl
      · exact ⟨d, z1, by omega, by omega, z3, by omega, z6⟩
      · exact ⟨c, by omega, z3, z1, by omega, by omega, ALK_symm z6⟩
    · rcases (by omega : p < q ∨ q < p) with c | c
      · exact ⟨p, q, z1, c, z4, by omega, Or.inl rfl, z6⟩
      · exact ⟨q, p, z3, c, z2, by omega, Or.inr rfl, ALK_symm z6⟩
    · exact l_twins16 hw ⟨h1, by omega⟩ FU v (x + 1) (by omega) (by omega) (by unfold FU; omega) hv (fun r hr => i_bv (l_twins4 hw hQ f r (x + 1) (by omega) (by omega) (by omega) (by rw [show x + 1 + 1 = x + 2 by omega]; exact hr)))
/-- so far: those ahead of a, and a itself by those ahead of x -/
def TWr (w : WD) (a x v : Int) : Prop := (0 ≤ v ∧ v < 128) ∧ ∀ p, 0 ≤ p → p < 7 → (tb v p ↔ ∃ q, 0 ≤ p ∧ p < w 1 4 ∧ 0 ≤ q ∧ q < w 1 4 ∧ p ≠ q ∧ (p < a ∨ (p = a ∧ q < x)) ∧ ALK w 7 p q)
theorem l_parts31 {a : Int} {K : Int → WD → Option (Int × WD)} {Q : Int → WD → Prop} {w0 w : WD} (hw : SGR w0 w) (h6 : 0 ≤ w0 1 4 ∧ w0 1 4 ≤ 6) (ha : 0 ≤ a ∧ a < w0 1 4) : ∀ (f : Nat) (v x : Int), 0 ≤ x → x ≤ w0 1 4 → w0 1 4 - x < f → TWr w0 a x v → (∀ r, TWr w0 (a + 1) 0 r → WI (K r w) Q) → WI (fR_parts_l31 a K f v x w) Q
  | 0, v, x, _, _, h, _, _ => by exfalso; omega
  | f + 1, v, x, h1, h2, h3, hv, hK => by
    show WI (fR_parts_l31_b (fR_parts_l31 a K f) a K v x w) Q
    unfold fR_parts_l31_b
    rw [w32_i (x := x + 1) (by omega) (by omega), hw.1]
    have skip : x < w0 1 4 → (a = x ∨ ¬ ALK w0 7 a x) → WI (fR_parts_l31 a K f v (x + 1) w) Q := fun xl hn => by
      refine l_parts31 hw h6 ha f v (x + 1) (by omega) (by omega) (by omega) ⟨hv.1, fun p p0 p1 => (hv.2 p p0 p1).trans ⟨fun ⟨q, z1, z2, z3, z4, z5, z6, z7⟩ => ⟨q, z1, z2, z3, z4, z5, by omega, z7⟩, fun ⟨q, z1, z2, z3, z4, z5, z6, z7⟩ => ?_⟩⟩ hK
      by_cases y : p = a ∧ q = x
      · rcases hn with e | e
        · omega
        · rw [y.1, y.2] at z7
          exact absurd z7 e
      · exact ⟨q, z1, z2, z3, z4, z5, by omega, z7⟩
    refine i_if (fun c => hK v ⟨hv.1, fun p p0 p1 => (hv.2 p p0 p1).trans ⟨fun ⟨q, z1, z2, z3, z4, z5, z6, z7⟩ => ⟨q, z1, z2, z3, z4, z5, by omega, z7⟩, fun ⟨q, z1, z2, z3, z4, z5, z6, z7⟩ => ⟨q, z1, z2, z3, z4, z5, by omega, z7⟩⟩⟩) (fun c => i_jn (i_if (fun e => i_bv (skip (by omega) (Or.inl e))) (fun e => i_ci (s_areLike (by decide) (by omega) (by omega) hw (fun y => i_if (fun q => absurd q (by decide)) (fun _ => i_bv (i_bv ?_))) (fun y => i_if (fun _ => i_bv (skip (by omega) (Or.inr y))) (fun q => absurd rfl q))))))
    have A := fun p hp => tbor (v := v) (p := p) (q := a) hv.1 hp (by omega)
    refine l_parts31 hw h6 ha f _ (x + 1) (by omega) (by omega) (by omega) ⟨(A 0 (by decide)).1, fun p p0 p1 => ?_⟩ hK
    have a' := (A p ⟨p0, p1⟩).2.1
    have v' := hv.2 p p0 p1
    unfold tb at v' ⊢
    rw [a', v']
    constructor
    · rintro (⟨q, z1, z2, z3, z4, z5, z6, z7⟩ | rfl)
      · exact ⟨q, z1, z2, z3, z4, z5, by omega, z7⟩
      · exact ⟨x, by omega, by omega, by omega, by omega, e, by omega, y⟩
    · rintro ⟨q, z1, z2, z3, z4, z5, z6, z7⟩
      by_cases z : p = a
      · exact Or.inr z
      · exact Or.inl ⟨q, z1, z2, z3, z4, z5, by omega, z7⟩
theorem l_parts20 {Q : Int → WD → Prop} {w0 w : WD} (hw : SGR w0 w) (h6 : 0 ≤ w0 1 4 ∧ w0 1 4 ≤ 6) (hQ : ∀ r, TWS w0 r → Q r w) : ∀ (f : Nat) (v x : Int), 0 ≤ x → x ≤ w0 1 4 → w0 1 4 - x < f → TWr w0 x 0 v → WI (fR_parts_l20 f v x w) Q
  | 0, v, x, _, _, h, _ => by exfalso; omega
  | f + 1, v, x, h1, h2, h3, hv => by
    show WI (fR_parts_l20_b (fR_parts_l20 f) v x w) Q
    unfold fR_parts_l20_b
    rw [w32_i (x := x + 1) (by omega) (by omega), hw.1]
    refine i_if (fun c => i_some (hQ v ⟨hv.1, fun p p0 p1 => (hv.2 p p0 p1).trans ⟨fun ⟨q, z1, z2, z3, z4, z5, z6, z7⟩ => ⟨q, z1, z2, z3, z4, z5, z7⟩, fun ⟨q, z1, z2, z3, z4, z5, z7⟩ => ⟨q, z1, z2, z3, z4, z5, by omega, z7⟩⟩⟩)) (fun c => ?_)
    exact l_parts31 hw h6 ⟨h1, by omega⟩ FU v 0 (by omega) (by omega) (by unfold FU; omega) hv (fun r hr => i_bv (l_parts20 hw h6 hQ f r (x + 1) (by omega) (by omega) (by omega) hr))
theorem TWS_1 {w : WD} {v u : Int} (h : TWS w v) (h' : TWS w u) : v = u := tb_ext h.1 h'.1 (fun p p0 p1 => (h.2 p p0 p1).trans (h'.2 p p0 p1).symm)
theorem op_parts : op1 Inv fB_parts fR_parts := by
  intro a w haI hI
  obtain ⟨hH, hC, hT, hL, hN, hK, hS, hB⟩ := id hI
  obtain ⟨p0, p6, pr, m0, m5, mr, hV⟩ := id hH
  have hp : 0 ≤ w 1 4 ∧ w 1 4 ≤ 6 ∧ 0 ≤ w 1 5 ∧ w 1 5 ≤ 5 := ⟨p0, p6, m0, m5⟩
  have h6 : 0 ≤ w 1 4 ∧ w 1 4 ≤ 6 := ⟨p0, p6⟩
  have hsg : SGR w w := by
    refine ⟨pr, fun p s p0 p1 s0 s1 => ?_⟩
    have := (hV s p ⟨by omega, by omega, by omega, by omega, by omega, by omega, by omega⟩).1
    rw [PL_sign ⟨s0, s1⟩] at this
    unfold PR PI at this
    rw [if_pos s1, if_pos s1] at this
    exact this
  refine same_of ?_
  unfold fB_parts fR_parts
  by_cases h2 : a = 2
  · refine i_if (fun q => absurd h2 q) (fun _ => i_ci ?_)
    refine l_twins4 hp (fun r hr => i_some ?_) FU 0 0 (by decide) (by omega) (by unfold FU; omega) ⟨by decide, fun p p0 p1 => ⟨fun q => absurd q (tb_0 ⟨p0, p1⟩), fun ⟨c, d, z1, z2, z3, z4, _⟩ => by omega⟩⟩
    refine i_ci (s_in (fun _ => i_if (fun _ => i_if (fun q => absurd h2 q) (fun _ => ?_)) (fun q => absurd (by decide) q)) (fun q => by exfalso; omega))
    exact l_parts20 hsg h6 (fun r' hr' => ⟨TWS_1 hr' hr, hI⟩) FU 0 0 (by decide) (by omega) (by unfold FU; omega) ⟨by decide, fun p p0 p1 => ⟨fun q => absurd q (tb_0 ⟨p0, p1⟩), fun ⟨q, z1, z2, z3, z4, z5, z6, _⟩ => by omega⟩⟩
  · by_cases hb : a = 0 ∨ a = 1
    · refine i_if (fun _ => ?_) (fun q => absurd h2 q)
      have bit : ∀ (Q : Int → WD → Prop), Q 1 w → WI (fB_isBit a w) Q := by
        intro Q h
        (repeat' (first | (with_reducible refine i_some ?_) | (with_reducible refine v_some ?_) | (with_reducible refine i_ci ?_) | (with_reducible refine i_cv ?_) | (with_reducible refine v_ci ?_) | (with_reducible refine v_cv ?_) | (with_reducible refine i_bv ?_) | (with_reducible refine v_bv ?_) | (with_reducible refine i_bw ?_) | (with_reducible refine v_bw ?_) | (with_reducible refine i_jn ?_) | (with_reducible refine v_jn ?_) | (with_reducible refine i_ck ?_ ?_) | (with_reducible refine v_ck ?_ ?_) | ((with_reducible refine i_if (fun hc => ?_) (fun hc => ?_)) <;> (try simp (disch := omega) only [not_true_eq_false, not_false_eq_true, true_and, and_true, up_r, up_k, ur_s, ur_e, ur_i, cp_k, w32_i, w64_i, w8_i] at hc) <;> (try (exfalso; omega))) | ((with_reducible refine v_if (fun hc => ?_) (fun hc => ?_)) <;> (try simp (disch := omega) only [not_true_eq_false, not_false_eq_true, true_and, and_true, up_r, up_k, ur_s, ur_e, ur_i, cp_k, w32_i, w64_i, w8_i] at hc) <;> (try (exfalso; omega))) | unfold fB_isBit))
        all_goals first | omega | exact h
      refine i_ci (bit _ (i_if (fun _ => ?_) (fun q => absurd (by decide) q)))
      refine l_parts27 hp FU (-2) 0 (by decide) (by decide) (by decide) (Or.inl rfl) (fun r hr hr' => ?_)
      have ref : ∀ r0 : Int, (if r = -2 then r0 = r else if a = 1 then r0 = r else r0 = BC r) → WI (ci (fR_in a 0 2 w) fun r2 u1 => if r2 ≠ 0 then (if a ≠ 2 then (fR_parts_l83 a (fun (v2_23 : Int) (u24 : WD) => if v2_23 < 0 then (some (v2_23, u24)) else (if a ≠ 1 then (ci (fR_bitsOf v2_23 u24) <| fun (r26 : Int) (u25 : WD) => some (r26, u25)) else (some (v2_23, u24)))) FU (-2) 0 u1) else (fR_parts_l20 FU 0 0 u1)) else (some ((-1), u1))) (fun r' v => r' = r0 ∧ Inv v) := by
        intro r0 h0
        refine i_ci (s_in (fun _ => i_if (fun _ => i_if (fun _ => ?_) (fun q => absurd h2 q)) (fun q => absurd (by decide) q)) (fun q => by exfalso; omega))
        refine l_parts83 hsg h6 FU (-2) 0 (by decide) (by decide) (by decide) (Or.inl rfl) (fun r'' hr'' hr3 => ?_)
        have e := PF_1 FU _ _ hr'' hr
        subst e
        refine i_if (fun q => i_some ⟨?_, hI⟩) (fun q => i_if (fun q' => ?_) (fun q' => i_some ⟨?_, hI⟩))
        · rw [if_pos (by omega)] at h0; exact h0.symm
        · rw [e_bitsOf (by omega)]
          rw [if_neg (by omega), if_neg q'] at h0
          exact i_ci (i_some (i_some ⟨h0.symm, hI⟩))
        · rw [if_neg (by omega), if_pos (by omega)] at h0; exact h0.symm
      refine i_if (fun q => i_some (ref _ (by rw [if_pos q]))) (fun q => i_if (fun q' => ?_) (fun q' => i_some (ref _ (by rw [if_neg q, if_pos (by omega)]))))
      rw [e_bitCount (by omega)]
      exact i_ci (i_some (i_some (ref _ (by rw [if_neg q, if_neg q']))))
    · (repeat' (first | (with_reducible refine i_some ?_) | (with_reducible refine v_some ?_) | (with_reducible refine i_ci ?_) | (with_reducible refine i_cv ?_) | (with_reducible refine v_ci ?_) | (with_reducible refine v_cv ?_) | (with_reducible refine i_bv ?_) | (with_reducible refine v_bv ?_) | (with_reducible refine i_bw ?_) | (with_reducible refine v_bw ?_) | (with_reducible refine i_jn ?_) | (with_reducible refine v_jn ?_) | (with_reducible refine i_ck ?_ ?_) | (with_reducible refine v_ck ?_ ?_) | ((with_reducible refine i_if (fun hc => ?_) (fun hc => ?_)) <;> (try simp (disch := omega) only [not_true_eq_false, not_false_eq_true, true_and, and_true, up_r, up_k, ur_s, ur_e, ur_i, cp_k, w32_i, w64_i, w8_i] at hc) <;> (try (exfalso; omega))) | ((with_reducible refine v_if (fun hc => ?_) (fun hc => ?_)) <;> (try simp (disch := omega) only [not_true_eq_false, not_false_eq_true, true_and, and_true, up_r, up_k, ur_s, ur_e, ur_i, cp_k, w32_i, w64_i, w8_i] at hc) <;> (try (exfalso; omega))) | unfold fB_isBit | ((with_reducible apply s_in) <;> (try intro hvc) <;> (try simp (disch := omega) only [not_true_eq_false, not_false_eq_true, true_and, and_true, up_r, up_k, ur_s, ur_e, ur_i, cp_k, w32_i, w64_i, w8_i] at hvc) <;> (try (exfalso; omega)))))
      all_goals first | omega | exact ⟨rfl, hI⟩
