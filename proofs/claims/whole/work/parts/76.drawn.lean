/-! DRAWN -/
theorem free_ok {used P : Int} (hP : 0 ≤ P ∧ P ≤ 6) (hu : 0 ≤ used ∧ used < bShl 1 P) : (0 ≤ bShl 1 P - 1 - used ∧ bShl 1 P - 1 - used < 128) ∧ BC (bShl 1 P - 1 - used) = P - BC used ∧ (bShl 1 P - 1 - used = 0 ↔ P - BC used ≤ 0) ∧ w32 (bShl 1 P - 1) = bShl 1 P - 1 := by
  have h64 := shl_64 hP
  obtain ⟨i, rfl⟩ : ∃ i : Fin 64, used = (i.val : Int) := ⟨⟨used.toNat, by omega⟩, (Int.toNat_of_nonneg hu.1).symm⟩
  obtain ⟨k, rfl⟩ : ∃ k : Fin 7, P = (k.val : Int) := ⟨⟨P.toNat, by omega⟩, (Int.toNat_of_nonneg hP.1).symm⟩
  exact (by decide +kernel : ∀ (i : Fin 64) (k : Fin 7), (i.val : Int) < bShl 1 (k.val : Int) → (0 ≤ bShl 1 (k.val : Int) - 1 - (i.val : Int) ∧ bShl 1 (k.val : Int) - 1 - (i.val : Int) < 128) ∧ BC (bShl 1 (k.val : Int) - 1 - (i.val : Int)) = (k.val : Int) - BC (i.val : Int) ∧ (bShl 1 (k.val : Int) - 1 - (i.val : Int) = 0 ↔ (k.val : Int) - BC (i.val : Int) ≤ 0) ∧ w32 (bShl 1 (k.val : Int) - 1) = bShl 1 (k.val : Int) - 1) i k hu.2
theorem free_bit {used P p : Int} (hP : 0 ≤ P ∧ P ≤ 6) (hu : 0 ≤ used ∧ used < bShl 1 P) (hp : 0 ≤ p ∧ p < 6) : (bAnd (bShr (bShl 1 P - 1 - used) p) 1 ≠ 0 ↔ p < P ∧ bAnd (bShr used p) 1 = 0) ∧ (p < P → bAnd (bShr used p) 1 = 0 → bAnd (bShl 1 P - 1 - used) (bXor (bShl 1 p) (-1)) = bShl 1 P - 1 - bOr used (bShl 1 p)) := by
  have h64 := shl_64 hP
  obtain ⟨i, rfl⟩ : ∃ i : Fin 64, used = (i.val : Int) := ⟨⟨used.toNat, by omega⟩, (Int.toNat_of_nonneg hu.1).symm⟩
  obtain ⟨k, rfl⟩ : ∃ k : Fin 7, P = (k.val : Int) := ⟨⟨P.toNat, by omega⟩, (Int.toNat_of_nonneg hP.1).symm⟩
  obtain ⟨j, rfl⟩ : ∃ j : Fin 6, p = (j.val : Int) := ⟨⟨p.toNat, by omega⟩, (Int.toNat_of_nonneg hp.1).symm⟩
  exact (by decide +kernel : ∀ (i : Fin 64) (k : Fin 7) (j : Fin 6), (i.val : Int) < bShl 1 (k.val : Int) → (bAnd (bShr (bShl 1 (k.val : Int) - 1 - (i.val : Int)) (j.val : Int)) 1 ≠ 0 ↔ (j.val : Int) < (k.val : Int) ∧ bAnd (bShr (i.val : Int) (j.val : Int)) 1 = 0) ∧ ((j.val : Int) < (k.val : Int) → bAnd (bShr (i.val : Int) (j.val : Int)) 1 = 0 → bAnd (bShl 1 (k.val : Int) - 1 - (i.val : Int)) (bXor (bShl 1 (j.val : Int)) (-1)) = bShl 1 (k.val : Int) - 1 - bOr (i.val : Int) (bShl 1 (j.val : Int)))) i k j hu.2
def PKL (used P : Int) : Nat → Int → Int → Int
  | 0, _, _ => 6
  | k + 1, left, one => if one < P ∧ bAnd (bShr used one) 1 = 0 then (if left = 0 then one else PKL used P k (w32 (left + (-1))) (one + 1)) else PKL used P k left (one + 1)
theorem PKL_6 {used P : Int} : ∀ (k : Nat) (left one : Int), P ≤ one → PKL used P k left one = 6
  | 0, _, _, _ => rfl
  | k + 1, left, one, h => by
    unfold PKL
    rw [if_neg (by omega)]
    exact PKL_6 k left (one + 1) (by omega)
theorem PKL_in {used P : Int} : ∀ (k : Nat) (left one : Int), k + one = 6 → 0 ≤ one → PKL used P k left one = 6 ∨ (0 ≤ PKL used P k left one ∧ PKL used P k left one < P ∧ bAnd (bShr used (PKL used P k left one)) 1 = 0)
  | 0, _, _, _, _ => Or.inl rfl
  | k + 1, left, one, h, h0 => by
    unfold PKL
    split
    · rename_i c
      split
      · exact Or.inr ⟨h0, c.1, c.2⟩
      · exact PKL_in k _ (one + 1) (by omega) (by omega)
    · exact PKL_in k left (one + 1) (by omega) (by omega)
def PK (used P d : Int) : Int := if P - BC used ≤ 0 then 6 else PKL used P 6 (Int.tmod d (P - BC used)) 0
theorem PK_in {used P d : Int} : PK used P d = 6 ∨ (0 ≤ PK used P d ∧ PK used P d < P ∧ bAnd (bShr used (PK used P d)) 1 = 0) := by
  unfold PK
  split
  · exact Or.inl rfl
  · exact PKL_in 6 _ 0 (by decide) (by decide)
theorem l_pick28 {u : WD} {used P : Int} {Q : Int → WD → Prop} (hP : 0 ≤ P ∧ P ≤ 6) (hu : 0 ≤ used ∧ used < 64) (e : u 1 4 = P) : ∀ (k f : Nat) (left one : Int), k + one = 6 → 0 ≤ one → k < f → Q (PKL used P k left one) u → WI (fTh_pick_l28 used f left one u) Q
  | _, 0, _, _, _, _, h, _ => by exfalso; omega
  | 0, f + 1, left, one, hk, h0, h1, hQ => by
    show WI (fTh_pick_l28_b (fTh_pick_l28 used f) used left one u) Q
    unfold fTh_pick_l28_b fHa_persons
    rw [e]
    exact i_ci (i_some (i_if (fun _ => i_some hQ) (fun q => by exfalso; omega)))
  | k + 1, f + 1, left, one, hk, h0, h1, hQ => by
    show WI (fTh_pick_l28_b (fTh_pick_l28 used f) used left one u) Q
    unfold fTh_pick_l28_b fHa_persons
    rw [e, w32_i (x := one + 1) (by omega) (by omega)]
    refine i_ci (i_some (i_if (fun q => i_some (by rw [PKL_6 (k + 1) left one q] at hQ; exact hQ)) (fun q => i_jn ?_)))
    unfold PKL at hQ
    refine i_if (fun c => i_bv ?_) (fun c => i_if (fun d => i_bv (i_bv ?_)) (fun d => i_some ?_))
    · rw [if_neg (fun z => c z.2)] at hQ
      exact l_pick28 hP hu e k f left (one + 1) (by omega) (by omega) (by omega) hQ
    · rw [if_pos ⟨by omega, Decidable.not_not.mp c⟩, if_neg d] at hQ
      exact l_pick28 hP hu e k f _ (one + 1) (by omega) (by omega) (by omega) hQ
    · rw [if_pos ⟨by omega, Decidable.not_not.mp c⟩, if_pos (Decidable.not_not.mp d)] at hQ
      exact hQ
theorem s_pick {u : WD} {used P d : Int} {Q : Int → WD → Prop} (hP : 0 ≤ P ∧ P ≤ 6) (hu : 0 ≤ used ∧ used < bShl 1 P) (e : u 1 4 = P) (hQ : Q (PK used P d) u) : WI (fTh_pick used d u) Q := by
  have h64 := shl_64 hP
  have bc := BC_in (v := used) (by omega)
  unfold fTh_pick fHa_persons
  unfold PK at hQ
  rw [e]
  refine i_ci (i_some (i_ci (s_bitCount (by omega) (i_bv ?_))))
  rw [w32_i (x := P - BC used) (by omega) (by omega)]
  refine i_if (fun q => i_ck (by omega) (i_bv ?_)) (fun q => i_some ?_)
  · rw [if_neg (by omega)] at hQ
    exact l_pick28 hP (by omega) e 6 FU _ 0 (by decide) (by decide) (by decide) hQ
  · rw [if_pos (by omega)] at hQ; exact hQ
theorem l_bitAt {u : WD} {used P : Int} {Q : Int → WD → Prop} (hP : 0 ≤ P ∧ P ≤ 6) (hu : 0 ≤ used ∧ used < bShl 1 P) : ∀ (k f : Nat) (left one : Int), k + one = 6 → 0 ≤ one → k < f → Q (PKL used P k left one) u → WI (fR_bitAt_l4 (bShl 1 P - 1 - used) f left one u) Q
  | _, 0, _, _, _, _, h, _ => by exfalso; omega
  | 0, f + 1, left, one, hk, h0, h1, hQ => by
    show WI (fR_bitAt_l4_b (fR_bitAt_l4 (bShl 1 P - 1 - used) f) (bShl 1 P - 1 - used) left one u) Q
    unfold fR_bitAt_l4_b
    exact i_if (fun _ => i_some hQ) (fun q => by exfalso; omega)
  | k + 1, f + 1, left, one, hk, h0, h1, hQ => by
    show WI (fR_bitAt_l4_b (fR_bitAt_l4 (bShl 1 P - 1 - used) f) (bShl 1 P - 1 - used) left one u) Q
    unfold fR_bitAt_l4_b
    unfold PKL at hQ
    have fb := (free_bit hP hu (p := one) ⟨h0, by omega⟩).1
    rw [w32_i (x := one + 1) (by omega) (by omega)]
    refine i_if (fun q => by exfalso; omega) (fun _ => i_jn (i_if (fun c => i_if (fun d => i_bv (i_bv ?_)) (fun d => i_some ?_)) (fun c => i_bv ?_)))
    · rw [if_pos (fb.mp c), if_neg d] at hQ
      exact l_bitAt hP hu k f _ (one + 1) (by omega) (by omega) (by omega) hQ
    · rw [if_pos (fb.mp c), if_pos (Decidable.not_not.mp d)] at hQ; exact hQ
    · rw [if_neg (fun z => c (fb.mpr z))] at hQ
      exact l_bitAt hP hu k f left (one + 1) (by omega) (by omega) (by omega) hQ
def NZ (z : Int) : Int := w32 (w32 (z * 1103515245) + 12345)
/-- one night: the draw, how often the one, the other -/
def NGI (H1 H2 : Int → Int → Bool) (P M : Int) : Nat → Int → Int → Int → Int → Int → Int × Int × Int
  | 0, z, _, h1, h2, _ => (z, h1, h2)
  | f + 1, z, used, h1, h2, m => if M ≤ m then (z, h1, h2) else
      NGI H1 H2 P M f (NZ z) (if PK used P (bUshr (NZ z) 8) ≠ 6 then bOr used (bShl 1 (PK used P (bUshr (NZ z) 8))) else used) (if H1 m (PK used P (bUshr (NZ z) 8)) = true then h1 + 1 else h1) (if H2 m (PK used P (bUshr (NZ z) 8)) = true then h2 + 1 else h2) (m + 1)
theorem NGI_in {H1 H2 : Int → Int → Bool} {P M : Int} : ∀ (f : Nat) (z used h1 h2 m : Int), m ≤ M → (h1 ≤ (NGI H1 H2 P M f z used h1 h2 m).2.1 ∧ (NGI H1 H2 P M f z used h1 h2 m).2.1 ≤ h1 + (M - m)) ∧ h2 ≤ (NGI H1 H2 P M f z used h1 h2 m).2.2 ∧ (NGI H1 H2 P M f z used h1 h2 m).2.2 ≤ h2 + (M - m)
  | 0, z, used, h1, h2, m, h => by
    show (h1 ≤ h1 ∧ h1 ≤ h1 + (M - m)) ∧ h2 ≤ h2 ∧ h2 ≤ h2 + (M - m)
    omega
  | f + 1, z, used, h1, h2, m, h => by
    unfold NGI
    split
    · show (h1 ≤ h1 ∧ h1 ≤ h1 + (M - m)) ∧ h2 ≤ h2 ∧ h2 ≤ h2 + (M - m)
      omega
    · have := NGI_in (H1 := H1) (H2 := H2) (P := P) (M := M) f (NZ z) (if PK used P (bUshr (NZ z) 8) ≠ 6 then bOr used (bShl 1 (PK used P (bUshr (NZ z) 8))) else used) (if H1 m (PK used P (bUshr (NZ z) 8)) = true then h1 + 1 else h1) (if H2 m (PK used P (bUshr (NZ z) 8)) = true then h2 + 1 else h2) (m + 1) (by omega)
      have a : h1 ≤ (if H1 m (PK used P (bUshr (NZ z) 8)) = true then h1 + 1 else h1) ∧ (if H1 m (PK used P (bUshr (NZ z) 8)) = true then h1 + 1 else h1) ≤ h1 + 1 := by split <;> omega
      have b : h2 ≤ (if H2 m (PK used P (bUshr (NZ z) 8)) = true then h2 + 1 else h2) ∧ (if H2 m (PK used P (bUshr (NZ z) 8)) = true then h2 + 1 else h2) ≤ h2 + 1 := by split <;> omega
      omega
def NGO (H1 H2 : Int → Int → Bool) (P M n : Int) : Nat → Int → Int → Int → Int → Int × Int
  | 0, _, h1, h2, _ => (h1, h2)
  | f + 1, z, h1, h2, i => if n ≤ i then (h1, h2) else NGO H1 H2 P M n f (NGI H1 H2 P M FU z 0 h1 h2 0).1 (NGI H1 H2 P M FU z 0 h1 h2 0).2.1 (NGI H1 H2 P M FU z 0 h1 h2 0).2.2 (i + 1)
def sel (b : Bool) (x y : Int) : Int := if b = true then x else y
theorem l_night21 {u : WD} {b : Bool} {H1 H2 : Int → Int → Bool} {P M y2 told i : Int} {K : Int → Int → WD → Option (Int × WD)} {Q : Int → WD → Prop} (hP : 0 ≤ P ∧ P ≤ 6) (hM : 0 ≤ M ∧ M ≤ 5) (e4 : u 1 4 = P) (e5 : u 1 5 = M) (hc : ∀ m p, 0 ≤ m → m < M → (((told = -1 ∨ told = m) ∧ u 18 m = p) ↔ (if b = true then H1 m p else H2 m p) = true)) : ∀ (f : Nat) (z used h1 h2 m : Int), 0 ≤ m → m ≤ M → M - m < f → (0 ≤ used ∧ used < bShl 1 P) → (0 ≤ h1 ∧ h1 ≤ 900 + m) → (0 ≤ h2 ∧ h2 ≤ 900 + m) → WI (K (NGI H1 H2 P M f z used h1 h2 m).1 (sel b (NGI H1 H2 P M f z used h1 h2 m).2.1 (NGI H1 H2 P M f z used h1 h2 m).2.2) u) Q → WI (fTh_rightInNights_l21 y2 told i K f z (sel b h1 h2) used m u) Q
  | 0, z, used, h1, h2, m, _, _, h, _, _, _, _ => by exfalso; omega
  | f + 1, z, used, h1, h2, m, m0, m1, hf, hu, b1, b2, hK => by
    show WI (fTh_rightInNights_l21_b (fTh_rightInNights_l21 y2 told i K f) y2 told i K z (sel b h1 h2) used m u) Q
    unfold fTh_rightInNights_l21_b fHa_masks
    unfold NGI at hK
    rw [w32_i (x := m + 1) (by omega) (by omega), e5]
    refine i_ci (i_some (i_if (fun q => ?_) (fun q => i_bv (i_ci ?_))))
    · rw [if_pos q] at hK; exact hK
    rw [if_neg q] at hK
    show WI (fTh_pick used (bUshr (NZ z) 8) u) _
    refine s_pick hP hu e4 ?_
    have pin := PK_in (used := used) (P := P) (d := bUshr (NZ z) 8)
    generalize hp : PK used P (bUshr (NZ z) 8) = p at *
    have hu' : 0 ≤ (if p ≠ 6 then bOr used (bShl 1 p) else used) ∧ (if p ≠ 6 then bOr used (bShl 1 p) else used) < bShl 1 P := by
      split
      · exact or_lt hP hu (by omega)
      · exact hu
    have cc := hc m p m0 (by omega)
    have go : ∀ x used', used' = (if p ≠ 6 then bOr used (bShl 1 p) else used) → x = sel b (if H1 m p = true then h1 + 1 else h1) (if H2 m p = true then h2 + 1 else h2) → WI (fTh_rightInNights_l21 y2 told i K f (NZ z) x used' (m + 1) u) Q := by
      intro x used' eu ex
      subst eu
      subst ex
      exact l_night21 hP hM e4 e5 hc f (NZ z) _ _ _ (m + 1) (by omega) (by omega) (by omega) hu' (by split <;> omega) (by split <;> omega) hK
    have sb : 0 ≤ sel b h1 h2 ∧ sel b h1 h2 ≤ 1000 := by unfold sel; split <;> omega
    have yes : ((told = -1 ∨ told = m) ∧ u 18 m = p) → sel b h1 h2 + 1 = sel b (if H1 m p = true then h1 + 1 else h1) (if H2 m p = true then h2 + 1 else h2) := fun c => by
      have d := cc.mp c
      unfold sel
      by_cases hb : b = true
      · rw [if_pos hb] at d; rw [if_pos hb, if_pos hb, if_pos d]
      · rw [if_neg hb] at d; rw [if_neg hb, if_neg hb, if_pos d]
    have no : ¬ ((told = -1 ∨ told = m) ∧ u 18 m = p) → sel b h1 h2 = sel b (if H1 m p = true then h1 + 1 else h1) (if H2 m p = true then h2 + 1 else h2) := fun c => by
      have d : ¬ (if b = true then H1 m p else H2 m p) = true := fun z => c (cc.mpr z)
      unfold sel
      by_cases hb : b = true
      · rw [if_pos hb] at d; rw [if_pos hb, if_pos hb, if_neg d]
      · rw [if_neg hb] at d; rw [if_neg hb, if_neg hb, if_neg d]
    have rest : ∀ used', used' = (if p ≠ 6 then bOr used (bShl 1 p) else used) → WI (jn (β := Int → WD → Option (Int × WD)) (fun (v5_11 : Int) (u12 : WD) => bv (m + 1) <| fun (v8_13 : Int) => fTh_rightInNights_l21 y2 told i K f (NZ z) v5_11 used' v8_13 u12) <| fun J14 => jn (β := WD → Option (Int × WD)) (fun (u15 : WD) => ci (fTh_inWay m u15) <| fun (r17 : Int) (u16 : WD) => if r17 ≠ p then (J14 (sel b h1 h2) u16) else (bv (w32 ((sel b h1 h2) + 1)) <| fun (v5_19 : Int) => J14 v5_19 u16)) <| fun J21 => if told = (-1) then (J21 u) else (if told ≠ m then (J14 (sel b h1 h2) u) else (J21 u))) Q := by
      intro used' eu
      have inner : (told = -1 ∨ told = m) → WI (ci (fTh_inWay m u) <| fun (r17 : Int) (u16 : WD) => if r17 ≠ p then (bv (m + 1) <| fun (v8_13 : Int) => fTh_rightInNights_l21 y2 told i K f (NZ z) (sel b h1 h2) used' v8_13 u16) else (bv (w32 ((sel b h1 h2) + 1)) <| fun (v5_19 : Int) => (bv (m + 1) <| fun (v8_13 : Int) => fTh_rightInNights_l21 y2 told i K f (NZ z) v5_19 used' v8_13 u16))) Q := fun ht => by
        unfold fTh_inWay
        refine i_ci (i_if (fun z => by exfalso; omega) (fun _ => i_if (fun z => by exfalso; omega) (fun _ => i_ck (by omega) (i_some (i_if (fun c => i_bv (go _ _ eu (no (fun d => c d.2)))) (fun c => i_bv (i_bv ?_)))))))
        rw [w32_i (by omega) (by omega)]
        exact go _ _ eu (yes ⟨ht, Decidable.not_not.mp c⟩)
      exact i_jn (i_jn (i_if (fun c => inner (Or.inl c)) (fun c => i_if (fun d => i_bv (go _ _ eu (no (fun e => e.1.elim c d)))) (fun d => inner (Or.inr (Decidable.not_not.mp d))))))
    unfold fTh_usedWith
    refine i_ci (i_if (fun c => i_some (rest _ (by rw [if_pos c]))) (fun c => i_some (rest _ (by rw [if_neg c]))))
theorem l_night9 {u : WD} {b : Bool} {H1 H2 : Int → Int → Bool} {P M n told : Int} {Q : Int → WD → Prop} (hP : 0 ≤ P ∧ P ≤ 6) (hM : 0 ≤ M ∧ M ≤ 5) (hn : 0 ≤ n ∧ n ≤ 30) (e4 : u 1 4 = P) (e5 : u 1 5 = M) (hc : ∀ m p, 0 ≤ m → m < M → (((told = -1 ∨ told = m) ∧ u 18 m = p) ↔ (if b = true then H1 m p else H2 m p) = true)) : ∀ (f : Nat) (z h1 h2 i : Int), 0 ≤ i → i ≤ n → n - i < f → (0 ≤ h1 ∧ h1 ≤ 5 * i) → (0 ≤ h2 ∧ h2 ≤ 5 * i) → (∀ r, r = NGO H1 H2 P M n f z h1 h2 i → (0 ≤ r.1 ∧ r.1 ≤ 150) → (0 ≤ r.2 ∧ r.2 ≤ 150) → Q (sel b r.1 r.2) u) → WI (fTh_rightInNights_l9 n told f z (sel b h1 h2) i u) Q
  | 0, z, h1, h2, i, _, _, h, _, _, _ => by exfalso; omega
  | f + 1, z, h1, h2, i, i0, i1, hf, b1, b2, hQ => by
    show WI (fTh_rightInNights_l9_b (fTh_rightInNights_l9 n told f) n told z (sel b h1 h2) i u) Q
    unfold fTh_rightInNights_l9_b
    unfold NGO at hQ
    have h64 := shl_64 hP
    rw [w32_i (x := i + 1) (by omega) (by omega)]
    refine i_if (fun q => i_some (hQ (h1, h2) (by rw [if_pos q]) (by show 0 ≤ h1 ∧ h1 ≤ 150; omega) (by show 0 ≤ h2 ∧ h2 ≤ 150; omega))) (fun q => ?_)
    rw [if_neg q] at hQ
    have ni := NGI_in (H1 := H1) (H2 := H2) (P := P) (M := M) FU z 0 h1 h2 0 hM.1
    exact l_night21 hP hM e4 e5 hc FU z 0 h1 h2 0 (by decide) hM.1 (by unfold FU; omega) (by omega) (by omega) (by omega) (i_bv (l_night9 hP hM hn e4 e5 hc f _ _ _ (i + 1) (by omega) (by omega) (by omega) (by omega) (by omega) hQ))
theorem l_drawn82 {w u : WD} {law : Option LINES} {H2 : Int → Int → Bool} {nm y3 mask y8 pt : Int} {K : Int → Int → Int → WD → Option (Int × WD)} {Q : Int → WD → Prop} (h : TP w law) (e4 : u 46 4 = w 1 5) (e1 : u 46 1 = w 1 4) (e52 : u 52 = w 52) (e68 : ∀ m p, 0 ≤ m → m < w 1 5 → 0 ≤ p → p < 7 → u 68 (7 * m + p) = BH w law (SN w) m p) (hpt : pt = if w 2 49 ≤ Int.tmod nm 1000 then 1 else 2)
    (hc : ∀ m p, 0 ≤ m → m < w 1 5 → ((m = mask ∧ 0 < u 46 31 ∧ u 67 m = p) ↔ H2 m p = true)) : ∀ (f : Nat) (z used h1 h2 m : Int), 0 ≤ m → m ≤ w 1 5 → w 1 5 - m < f → (0 ≤ used ∧ used < bShl 1 (w 1 4)) → (0 ≤ h1 ∧ h1 ≤ 900 + m) → (0 ≤ h2 ∧ h2 ≤ 900 + m) → WI (K (NGI (fun m p => decide (GS w law m = p)) H2 (w 1 4) (w 1 5) f z used h1 h2 m).1 (pt * (NGI (fun m p => decide (GS w law m = p)) H2 (w 1 4) (w 1 5) f z used h1 h2 m).2.1) (NGI (fun m p => decide (GS w law m = p)) H2 (w 1 4) (w 1 5) f z used h1 h2 m).2.2 u) Q → WI (fR_drawn_l82 nm y3 mask y8 K f z (pt * h1) h2 (bShl 1 (w 1 4) - 1 - used) m u) Q
  | 0, z, used, h1, h2, m, _, _, h, _, _, _, _ => by exfalso; omega
  | f + 1, z, used, h1, h2, m, m0, m1, hf, hu, b1, b2, hK => by
    show WI (fR_drawn_l82_b (fR_drawn_l82 nm y3 mask y8 K f) nm y3 mask y8 K z (pt * h1) h2 (bShl 1 (w 1 4) - 1 - used) m u) Q
    unfold fR_drawn_l82_b
    unfold NGI at hK
    have hP : 0 ≤ w 1 4 ∧ w 1 4 ≤ 6 := ⟨h.2.2.1.1, h.2.2.1.2.1⟩
    have m5 := h.2.2.1.2.2.2
    have h64 := shl_64 hP
    rw [w32_i (x := m + 1) (by omega) (by omega), e4, w32_i (x := h2 + 1) (by omega) (by omega)]
    refine i_if (fun q => ?_) (fun q => i_bv (i_jn ?_))
    · rw [if_pos q] at hK; exact hK
    rw [if_neg q] at hK
    have fo := free_ok hP hu
    have pin := PK_in (used := used) (P := w 1 4) (d := bUshr (NZ z) 8)
    -- who came by the draw
    have go : ∀ p, p = PK used (w 1 4) (bUshr (NZ z) 8) → WI (jn (β := Int → WD → Option (Int × WD)) (fun (v9_13 : Int) (u14 : WD) => ci (fR_guessNow m u14) <| fun (r16 : Int) (u15 : WD) => jn (β := Int → WD → Option (Int × WD)) (fun (v6_18 : Int) (u19 : WD) => jn (β := Int → WD → Option (Int × WD)) (fun (v7_20 : Int) (u21 : WD) => bv (m + 1) <| fun (v10_22 : Int) => fR_drawn_l82 nm y3 mask y8 K f (NZ z) v6_18 v7_20 v9_13 v10_22 u21) <| fun J23 => if m ≠ mask then (J23 h2 u19) else (if (u19 46 31) ≤ 0 then (J23 h2 u19) else (ck (0 ≤ m ∧ m < 5) <| if (u19 67 m) ≠ p then (J23 h2 u19) else (bv (h2 + 1) <| fun (v7_24 : Int) => J23 v7_24 u19)))) <| fun J28 => if p ≠ r16 then (J28 (pt * h1) u15) else (ci (fR_pointsAt (Int.tmod nm 1000) u15) <| fun (r30 : Int) (u29 : WD) => bv (w32 ((pt * h1) + r30)) <| fun (v6_32 : Int) => J28 v6_32 u29)) <| fun J34 => if 6 ≤ p then (J34 (bShl 1 (w 1 4) - 1 - used) u) else (bv (bAnd (bShl 1 (w 1 4) - 1 - used) (bXor (bShl 1 p) (-1))) <| fun (v9_35 : Int) => J34 v9_35 u)) Q := by
      intro p ep
      rw [← ep] at hK pin
      have hu' : 0 ≤ (if p ≠ 6 then bOr used (bShl 1 p) else used) ∧ (if p ≠ 6 then bOr used (bShl 1 p) else used) < bShl 1 (w 1 4) := by
        split
        · exact or_lt hP hu (by omega)
        · exact hu
      have cc := hc m p m0 (by omega)
      have body : ∀ fr, fr = bShl 1 (w 1 4) - 1 - (if p ≠ 6 then bOr used (bShl 1 p) else used) → WI (ci (fR_guessNow m u) <| fun (r16 : Int) (u15 : WD) => jn (β := Int → WD → Option (Int × WD)) (fun (v6_18 : Int) (u19 : WD) => jn (β := Int → WD → Option (Int × WD)) (fun (v7_20 : Int) (u21 : WD) => bv (m + 1) <| fun (v10_22 : Int) => fR_drawn_l82 nm y3 mask y8 K f (NZ z) v6_18 v7_20 fr v10_22 u21) <| fun J23 => if m ≠ mask then (J23 h2 u19) else (if (u19 46 31) ≤ 0 then (J23 h2 u19) else (ck (0 ≤ m ∧ m < 5) <| if (u19 67 m) ≠ p then (J23 h2 u19) else (bv (h2 + 1) <| fun (v7_24 : Int) => J23 v7_24 u19)))) <| fun J28 => if p ≠ r16 then (J28 (pt * h1) u15) else (ci (fR_pointsAt (Int.tmod nm 1000) u15) <| fun (r30 : Int) (u29 : WD) => bv (w32 ((pt * h1) + r30)) <| fun (v6_32 : Int) => J28 v6_32 u29)) Q := by
        intro fr efr
        subst efr
        refine i_ci (s_guessNow h ⟨m0, by omega⟩ e1 (fun p' a b => e68 m p' m0 (by omega) a b) (i_jn ?_))
        have last : ∀ x6, x6 = pt * (if decide (GS w law m = p) = true then h1 + 1 else h1) → WI (jn (β := Int → WD → Option (Int × WD)) (fun (v7_20 : Int) (u21 : WD) => bv (m + 1) <| fun (v10_22 : Int) => fR_drawn_l82 nm y3 mask y8 K f (NZ z) x6 v7_20 (bShl 1 (w 1 4) - 1 - (if p ≠ 6 then bOr used (bShl 1 p) else used)) v10_22 u21) <| fun J23 => if m ≠ mask then (J23 h2 u) else (if (u 46 31) ≤ 0 then (J23 h2 u) else (ck (0 ≤ m ∧ m < 5) <| if (u 67 m) ≠ p then (J23 h2 u) else (bv (h2 + 1) <| fun (v7_24 : Int) => J23 v7_24 u)))) Q := by
          intro x6 ex
          subst ex
          have go2 : ∀ x7, x7 = (if H2 m p = true then h2 + 1 else h2) → WI (fR_drawn_l82 nm y3 mask y8 K f (NZ z) (pt * (if decide (GS w law m = p) = true then h1 + 1 else h1)) x7 (bShl 1 (w 1 4) - 1 - (if p ≠ 6 then bOr used (bShl 1 p) else used)) (m + 1) u) Q := by
            intro x7 e7
            subst e7
            exact l_drawn82 h e4 e1 e52 e68 hpt hc f (NZ z) _ _ _ (m + 1) (by omega) (by omega) (by omega) hu' (by split <;> omega) (by split <;> omega) hK
          refine i_jn (i_if (fun c => i_bv (go2 _ (by rw [if_neg (fun d => c (cc.mpr d).1)]))) (fun c => i_if (fun d => i_bv (go2 _ (by rw [if_neg (fun e => by have := (cc.mpr e).2.1; omega)]))) (fun d => i_ck (by omega) (i_if (fun e => i_bv (go2 _ (by rw [if_neg (fun g => e (cc.mpr g).2.2)]))) (fun e => i_bv (i_bv (go2 _ ?_)))))))
          rw [if_pos (cc.mp ⟨Decidable.not_not.mp c, by omega, Decidable.not_not.mp e⟩)]
        refine i_if (fun c => last _ ?_) (fun c => i_ci (s_pointsR h e52 (i_bv ?_)))
        · rw [if_neg (by rw [decide_eq_true_eq]; exact fun e => c e.symm)]
        · rw [← hpt]
          refine last _ ?_
          rw [if_pos (by rw [decide_eq_true_eq]; exact (Decidable.not_not.mp c).symm)]
          have e : pt * (h1 + 1) = pt * h1 + pt := by rw [Int.mul_add, Int.mul_one]
          rw [e]
          have : pt = 1 ∨ pt = 2 := by rw [hpt]; split <;> omega
          rcases this with e' | e' <;> rw [e'] <;> exact w32_i (by omega) (by omega)
      refine i_jn (i_if (fun c => body _ ?_) (fun c => i_bv (body _ ?_)))
      · rw [if_neg (by omega)]
      · rw [if_pos (by omega)]
        exact (free_bit hP hu (p := p) (by omega)).2 (by omega) (by omega)
    refine i_if (fun c => i_ci (s_bitsOf fo.1 ?_)) (fun c => go 6 ?_)
    · have nz : ¬ (w 1 4 - BC used ≤ 0) := fun d => c (fo.2.2.1.mpr d)
      rw [fo.2.1]
      refine i_ck (by omega) (i_ci ?_)
      unfold fR_bitAt
      refine l_bitAt hP hu 6 FU _ 0 (by decide) (by decide) (by decide) (go _ ?_)
      show PKL used (w 1 4) 6 (Int.tmod (bUshr (NZ z) 8) (w 1 4 - BC used)) 0 = _
      unfold PK
      rw [if_neg nz]
    · unfold PK
      rw [if_pos (fo.2.2.1.mp (Decidable.not_not.mp c))]
theorem l_drawn59 {w u : WD} {law : Option LINES} {H2 : Int → Int → Bool} {nm y3 mask n pt : Int} {K : Int → Int → WD → Option (Int × WD)} {Q : Int → WD → Prop} (h : TP w law) (hn : 0 ≤ n ∧ n ≤ 30) (en : w32 (Int.tdiv nm 1000) = n) (e4 : u 46 4 = w 1 5) (e1 : u 46 1 = w 1 4) (e52 : u 52 = w 52) (e68 : ∀ m p, 0 ≤ m → m < w 1 5 → 0 ≤ p → p < 7 → u 68 (7 * m + p) = BH w law (SN w) m p) (hpt : pt = if w 2 49 ≤ Int.tmod nm 1000 then 1 else 2)
    (hc : ∀ m p, 0 ≤ m → m < w 1 5 → ((m = mask ∧ 0 < u 46 31 ∧ u 67 m = p) ↔ H2 m p = true)) : ∀ (f : Nat) (z h1 h2 i : Int), 0 ≤ i → i ≤ n → n - i < f → (0 ≤ h1 ∧ h1 ≤ 5 * i) → (0 ≤ h2 ∧ h2 ≤ 5 * i) → (∀ r, r = NGO (fun m p => decide (GS w law m = p)) H2 (w 1 4) (w 1 5) n f z h1 h2 i → WI (K (pt * r.1) r.2 u) Q) → WI (fR_drawn_l59 nm y3 mask K f z (pt * h1) h2 i u) Q
  | 0, z, h1, h2, i, _, _, h, _, _, _ => by exfalso; omega
  | f + 1, z, h1, h2, i, i0, i1, hf, b1, b2, hQ => by
    show WI (fR_drawn_l59_b (fR_drawn_l59 nm y3 mask K f) nm y3 mask K z (pt * h1) h2 i u) Q
    unfold fR_drawn_l59_b
    unfold NGO at hQ
    have hP : 0 ≤ w 1 4 ∧ w 1 4 ≤ 6 := ⟨h.2.2.1.1, h.2.2.1.2.1⟩
    have m5 := h.2.2.1.2.2.2
    have m0 := h.2.2.1.2.2.1
    have h64 := shl_64 hP
    have fo := free_ok (used := 0) hP (by omega)
    rw [en, w32_i (x := i + 1) (by omega) (by omega), e1]
    refine i_if (fun q => hQ (h1, h2) (by rw [if_pos q])) (fun q => i_bv ?_)
    rw [if_neg q] at hQ
    have ni := NGI_in (H1 := fun m p => decide (GS w law m = p)) (H2 := H2) (P := w 1 4) (M := w 1 5) FU z 0 h1 h2 0 m0
    rw [fo.2.2.2, show bShl 1 (w 1 4) - 1 = bShl 1 (w 1 4) - 1 - 0 by omega]
    exact l_drawn82 h e4 e1 e52 e68 hpt hc FU z 0 h1 h2 0 (by decide) m0 (by unfold FU; omega) (by omega) (by omega) (by omega) (i_bv (l_drawn59 h hn en e4 e1 e52 e68 hpt hc f _ _ _ (i + 1) (by omega) (by omega) (by omega) (by omega) (by omega) hQ))
theorem l_guessAll {w : WD} {law : Option LINES} {P : WD → Prop} (h : TP w law) : ∀ (f : Nat) (m : Int) (u : WD), 0 ≤ m → m ≤ w 1 5 → w 1 5 - m < f → TH w law (Wf w law (SN w)) (MAYw w) u → (∀ i, 0 ≤ i → i < m → u 18 i = GS w law i) → (∀ v, Same w v → (∀ i, 0 ≤ i → i < w 1 5 → v 18 i = GS w law i) → P v) → WV (fTh_guessAll_l2 f m u) P
  | 0, m, u, _, _, h, _, _, _ => by exfalso; omega
  | f + 1, m, u, h0, h1, h2, hT, h18, hP => by
    show WV (fTh_guessAll_l2_b (fTh_guessAll_l2 f) m u) P
    unfold fTh_guessAll_l2_b fHa_masks
    have m5 := h.2.2.1.2.2.2
    rw [w32_i (x := m + 1) (by omega) (by omega)]
    refine v_ci (i_some ?_)
    rw [hT.1.r 1 (by decide)]
    refine v_if (fun q => v_some (hP u hT.1 (fun i a b => h18 i a (by omega)))) (fun q => v_if (fun q => by exfalso; omega) (fun _ => v_ci (s_likeliest h ⟨h0, by omega⟩ hT (fun v v1 => v_ck (by omega) (v_bw (v_bv ?_))))))
    obtain ⟨t1, t2, t3, t4, t5⟩ := TH_t hT v1
    refine l_guessAll h f (m + 1) _ (by omega) (by omega) (by omega) ⟨sm_up t1 (by decide) (by decide) (by decide), ?_, ?_, ?_, ?_⟩ (fun i a b => ?_) hP
    · intro p s x a b c d e g
      rw [up_k (by decide)]
      exact t2 p s x a b c d e g
    · rw [up_k (by decide)]; exact t3
    · rw [up_k (by decide)]; exact t4
    · rw [up_k (by decide)]; exact t5
    · by_cases e : i = m
      · rw [e, up_s]
      · rw [up_i e, v1 18 (by decide) (by decide)]; exact h18 i a (by omega)
theorem op_drawn : op4 Inv fB_drawn fR_drawn := by
  intro seed nm a mask w hsI hnI haI hmI hI
  obtain ⟨law, tp⟩ := TP_of hI
  have p6 := tp.2.2.1.2.1
  have p0 := tp.2.2.1.1
  have m0 := tp.2.2.1.2.2.1
  have m5 := tp.2.2.1.2.2.2
  obtain ⟨n, en⟩ : ∃ n, w32 (Int.tdiv nm 1000) = n := ⟨_, rfl⟩
  refine same_of ?_
  by_cases hok : 0 ≤ nm ∧ (1 ≤ n ∧ n ≤ 30) ∧ (a = 0 ∨ (a = 1 ∧ 0 ≤ mask ∧ mask < w 1 5))
  · obtain ⟨hnm, hn, ha⟩ := hok
    have ref : ∀ (u : WD) (r : Int), Same w u → (∀ y g, ACF (w 1 4) (w 1 5) (BY (Wf w law (SN w)) (MAYw w)) g (LL w law (SN w) (MAYw w)) y → ∀ H2 : Int → Int → Bool, (∀ m p, 0 ≤ m → m < w 1 5 → ((m = mask ∧ 0 < y 46 31 ∧ y 67 m = p) ↔ H2 m p = true)) → ∀ q, q = NGO (fun m p => decide (GS w law m = p)) H2 (w 1 4) (w 1 5) n FU seed 0 0 0 → (a = 0 → r = (if w 2 49 ≤ Int.tmod nm 1000 then 1 else 2) * q.1) ∧ (a = 1 → r = q.2)) → WI (fR_drawn seed nm a mask u) (fun r' y => r' = r ∧ Inv y) := by
      intro u r hu hr
      have u4 := hu.f 4 (by decide)
      unfold fR_drawn
      rw [en]
      have go : WI (cv (fR_findWays u) <| fun (u8 : WD) => fR_drawn_l59 nm a mask (fun (v6_52 : Int) (v7_53 : Int) (u54 : WD) => if a ≠ 0 then (some (v7_53, u54)) else (some (v6_52, u54))) FU seed 0 0 0 u8) (fun r' y => r' = r ∧ Inv y) := by
        refine i_cv (t_find tp (TR_of tp hu) (fun y y1 y2 _ => ?_))
        have ys := hu.trans y1.same
        have iy := Inv_same hI ys
        have key := l_drawn59 (w := w) (u := y) (H2 := fun m p => decide (m = mask ∧ 0 < y 46 31 ∧ y 67 m = p)) (nm := nm) (y3 := a) (mask := mask) (n := n) (pt := if w 2 49 ≤ Int.tmod nm 1000 then 1 else 2) (K := fun (v6_52 : Int) (v7_53 : Int) (u54 : WD) => if a ≠ 0 then (some (v7_53, u54)) else (some (v6_52, u54))) (Q := fun r' y => r' = r ∧ Inv y) tp (by omega) en (by rw [ys.f 4 (by decide)]; exact tp.2.2.2.1) (by rw [ys.f 1 (by decide)]; exact tp.2.2.2.2) (ys.r 52 (by decide)) (fun m p c d e f => ACF_68 tp y2 ⟨c, d⟩ ⟨e, f⟩) rfl (fun m p _ _ => by rw [decide_eq_true_eq]) FU seed 0 0 0 (by decide) (by omega) (by unfold FU; omega) (by decide) (by decide) (fun q hq => ?_)
        · rw [Int.mul_zero] at key
          exact key
        · obtain ⟨r0, r1⟩ := hr y _ y2 _ (fun m p _ _ => by rw [decide_eq_true_eq]) q hq
          exact i_if (fun c => i_some ⟨(r1 (by omega)).symm, iy⟩) (fun c => i_some ⟨(r0 (by omega)).symm, iy⟩)
      refine i_if (fun q => by exfalso; omega) (fun _ => i_ci (s_in (fun _ => i_if (fun q => absurd q (by decide)) (fun _ => i_ci (s_in (fun _ => i_if (fun q => absurd q (by decide)) (fun _ => i_jn (i_if (fun _ => go) (fun q => i_ci (s_isMaskR (by rw [u4, tp.2.2.2.1]; omega) (fun _ => i_if (fun _ => go) (fun q => absurd (by decide) q)) (fun z => by exfalso; rw [u4, tp.2.2.2.1] at z; omega)))))) (fun q => by exfalso; omega)))) (fun q => by exfalso; omega)))
    unfold fB_drawn
    rw [en]
    refine i_bv (i_jn ?_)
    have main : WI (if nm < 0 then (some ((-1), w)) else (if n < 1 then (some ((-1), w)) else (if 30 < n then (some ((-1), w)) else (if (1 : Int) ≠ 0 then (cv (fTh_load w) <| fun (u4 : WD) => if a ≠ 0 then (ci (fTh_bestWay u4) <| fun (r6 : Int) (u5 : WD) => if 0 < r6 then (ci (fTh_rightInNights seed n mask u5) <| fun (r8 : Int) (u7 : WD) => some (r8, u7)) else (some (0, u5))) else (cv (fTh_guessAll u4) <| fun (u11 : WD) => ci (fTh_rightInNights seed n (-1) u11) <| fun (r13 : Int) (u12 : WD) => ci (fHa_pointsAt (Int.tmod nm 1000) u12) <| fun (r16 : Int) (u15 : WD) => some ((w32 (r13 * r16)), u15))) else (some ((-1), w)))))) (fun r u => WI (fR_drawn seed nm a mask u) (fun r' v => r' = r ∧ Inv v)) := by
      refine i_if (fun q => by exfalso; omega) (fun _ => i_if (fun q => by exfalso; omega) (fun _ => i_if (fun q => by exfalso; omega) (fun _ => i_if (fun _ => i_cv (t_load tp Same.rfl' (fun v v1 v2 => i_if (fun c => i_ci ?_) (fun c => i_cv ?_)))) (fun q => absurd (by decide) q))))
      · refine s_bestWay tp v2 (fun hL y y1 => i_if (fun q => absurd q (by decide)) (fun _ => i_some (ref y _ y1 (fun z g z1 H2 hH q hq => ⟨fun d => absurd d c, fun _ => ?_⟩)))) (fun t y t1 t2 y1 _ y2 => i_if (fun _ => i_ci ?_) (fun q => absurd t2 q))
        · -- no way: never
          have z31 : z 46 31 = 0 := by rw [z1.1.1, hL]; rfl
          have hF : ∀ m p, 0 ≤ m → m < w 1 5 → H2 m p = false := fun m p x x' => by
            cases hh : H2 m p with
            | false => rfl
            | true => have := (hH m p x x').mpr hh; omega
          have nif : ∀ (f : Nat) (z used h1 h2 m : Int), 0 ≤ m → (NGI (fun m p => decide (GS w law m = p)) H2 (w 1 4) (w 1 5) f z used h1 h2 m).2.2 = h2 := by
            intro f
            induction f with
            | zero => intro z used h1 h2 m _; rfl
            | succ f ih =>
              intro z used h1 h2 m hm
              unfold NGI
              split
              · rfl
              · rw [ih _ _ _ _ (m + 1) (by omega), hF m _ hm (by omega)]
                rfl
          have nof : ∀ (f : Nat) (z h1 h2 i : Int), (NGO (fun m p => decide (GS w law m = p)) H2 (w 1 4) (w 1 5) n f z h1 h2 i).2 = h2 := by
            intro f
            induction f with
            | zero => intro z h1 h2 i; rfl
            | succ f ih =>
              intro z h1 h2 i
              unfold NGO
              split
              · rfl
              · rw [ih, nif _ _ _ _ _ _ (by decide)]
          rw [hq, nof]
        · unfold fTh_rightInNights
          have key : ∀ H2 : Int → Int → Bool, (∀ m p, 0 ≤ m → m < w 1 5 → ((m = mask ∧ nth t m = p) ↔ H2 m p = true)) → WI (fTh_rightInNights_l9 n mask FU seed (sel false 0 0) 0 y) (fun r u => u = y ∧ r = (NGO (fun m p => decide (GS w law m = p)) H2 (w 1 4) (w 1 5) n FU seed 0 0 0).2) := fun H2 hH => by
            refine l_night9 (b := false) (H1 := fun m p => decide (GS w law m = p)) (H2 := H2) (P := w 1 4) (M := w 1 5) ⟨p0, p6⟩ ⟨m0, m5⟩ (by omega) (congrFun (y1.r 1 (by decide)) 4) (congrFun (y1.r 1 (by decide)) 5) (fun m p x x' => ?_) FU seed 0 0 0 (by decide) (by omega) (by unfold FU; omega) (by decide) (by decide) (fun r hr _ _ => ⟨rfl, by rw [hr]; rfl⟩)
            rw [y2 m x x']
            show _ ↔ H2 m p = true
            rw [← hH m p x x']
            exact ⟨fun ⟨d, e⟩ => ⟨by rcases d with d | d <;> omega, e⟩, fun ⟨d, e⟩ => ⟨Or.inr d.symm, e⟩⟩
          have k0 := key (fun m p => decide (m = mask ∧ nth t m = p)) (fun m p _ _ => by rw [decide_eq_true_eq])
          refine i_mono k0 (fun r u ⟨eu, er⟩ => i_some ?_)
          rw [eu]
          refine ref y r y1 (fun z g z1 H2 hH q hq => ⟨fun d => absurd d c, fun _ => ?_⟩)
          have hne : LL w law (SN w) (MAYw w) ≠ [] := fun e => by have := (BEST_mem t1).1; rw [e] at this; exact absurd this List.not_mem_nil
          obtain ⟨t', b1, -, b3⟩ := z1.2.2.1 hne
          have ett := BEST_1 b1 t1
          subst ett
          have zpos : 0 < z 46 31 := by
            have := List.length_pos_iff.mpr hne
            rw [z1.1.1]; omega
          have k1 := key H2 (fun m p x x' => by
            rw [← hH m p x x', b3 m x x']
            exact ⟨fun ⟨d, e⟩ => ⟨d, zpos, e⟩, fun ⟨d, _, e⟩ => ⟨d, e⟩⟩)
          obtain ⟨r1, u1, e1, -, er1⟩ := k1
          obtain ⟨r2, u2, e2, -, er2⟩ := k0
          rw [e1] at e2
          injection e2 with e2
          injection e2 with e2 _
          rw [hq, er, ← er1, e2, er2]
      · unfold fTh_guessAll
        refine l_guessAll tp FU 0 v (by decide) m0 (by unfold FU; omega) v2 (fun i x x' => by omega) (fun y y1 y2 => i_ci ?_)
        unfold fTh_rightInNights
        have key : ∀ H2 : Int → Int → Bool, WI (fTh_rightInNights_l9 n (-1) FU seed (sel true 0 0) 0 y) (fun r u => u = y ∧ r = (NGO (fun m p => decide (GS w law m = p)) H2 (w 1 4) (w 1 5) n FU seed 0 0 0).1 ∧ 0 ≤ r ∧ r ≤ 150) := fun H2 => by
          refine l_night9 (b := true) (H1 := fun m p => decide (GS w law m = p)) (H2 := H2) (P := w 1 4) (M := w 1 5) ⟨p0, p6⟩ ⟨m0, m5⟩ (by omega) (congrFun (y1.r 1 (by decide)) 4) (congrFun (y1.r 1 (by decide)) 5) (fun m p x x' => ?_) FU seed 0 0 0 (by decide) (by omega) (by unfold FU; omega) (by decide) (by decide) (fun r hr h1 _ => ⟨rfl, by rw [← hr]; rfl, h1⟩)
          rw [y2 m x x']
          show _ ↔ decide (GS w law m = p) = true
          rw [decide_eq_true_eq]
          exact ⟨fun d => d.2, fun d => ⟨Or.inl rfl, d⟩⟩
        have k0 := key (fun _ _ => false)
        refine i_mono k0 (fun r u ⟨eu, er, hr⟩ => i_ci ?_)
        rw [eu]
        refine s_pointsC tp y1 (i_some ?_)
        have hpt : (if w 2 49 ≤ Int.tmod nm 1000 then (1 : Int) else 2) = 1 ∨ (if w 2 49 ≤ Int.tmod nm 1000 then (1 : Int) else 2) = 2 := by split <;> omega
        refine ref y _ y1 (fun z g z1 H2 hH q hq => ⟨fun _ => ?_, fun d => by exfalso; omega⟩)
        have k1 := key H2
        obtain ⟨r1, u1, e1, -, er1, -⟩ := k1
        obtain ⟨r2, u2, e2, -, er2, -⟩ := k0
        rw [e1] at e2
        injection e2 with e2
        injection e2 with e2 _
        have eq1 : q.1 = r := by rw [hq, ← er1, e2, er2, er]
        rw [eq1, Int.mul_comm]
        rcases hpt with e | e <;> rw [e] <;> exact w32_i (by omega) (by omega)
    refine i_jn (i_if (fun c => main) (fun c => i_jn (i_if (fun d => by exfalso; omega) (fun d => i_ci (s_isMaskC (fun _ => i_if (fun z => absurd z (by decide)) (fun _ => main)) (fun z => by exfalso; omega))))))
  · unfold fB_drawn fR_drawn
    rw [en]
    (repeat' (first | (with_reducible refine i_some ?_) | (with_reducible refine v_some ?_) | (with_reducible refine i_ci ?_) | (with_reducible refine i_cv ?_) | (with_reducible refine v_ci ?_) | (with_reducible refine v_cv ?_) | (with_reducible refine i_bv ?_) | (with_reducible refine v_bv ?_) | (with_reducible refine i_bw ?_) | (with_reducible refine v_bw ?_) | (with_reducible refine i_jn ?_) | (with_reducible refine v_jn ?_) | (with_reducible refine i_ck ?_ ?_) | (with_reducible refine v_ck ?_ ?_) | ((with_reducible refine i_if (fun hc => ?_) (fun hc => ?_)) <;> (try simp (disch := omega) only [not_true_eq_false, not_false_eq_true, true_and, and_true, up_r, up_k, ur_s, ur_e, ur_i, cp_k, w32_i, w64_i, w8_i] at hc) <;> (try (exfalso; omega))) | ((with_reducible refine v_if (fun hc => ?_) (fun hc => ?_)) <;> (try simp (disch := omega) only [not_true_eq_false, not_false_eq_true, true_and, and_true, up_r, up_k, ur_s, ur_e, ur_i, cp_k, w32_i, w64_i, w8_i] at hc) <;> (try (exfalso; omega))) | ((with_reducible apply s_isMaskC) <;> (try intro hvc) <;> (try simp (disch := omega) only [not_true_eq_false, not_false_eq_true, true_and, and_true, up_r, up_k, ur_s, ur_e, ur_i, cp_k, w32_i, w64_i, w8_i] at hvc) <;> (try (exfalso; omega))) | ((with_reducible apply s_isMaskR) <;> (try intro hvc) <;> (try simp (disch := omega) only [not_true_eq_false, not_false_eq_true, true_and, and_true, up_r, up_k, ur_s, ur_e, ur_i, cp_k, w32_i, w64_i, w8_i] at hvc) <;> (try (exfalso; omega))) | ((with_reducible apply s_in) <;> (try intro hvc) <;> (try simp (disch := omega) only [not_true_eq_false, not_false_eq_true, true_and, and_true, up_r, up_k, ur_s, ur_e, ur_i, cp_k, w32_i, w64_i, w8_i] at hvc) <;> (try (exfalso; omega)))))
    all_goals first | omega | exact ⟨rfl, hI⟩ | (have := tp.2.2.2.1; omega)
