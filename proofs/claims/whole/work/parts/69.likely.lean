def EU : Nat → Int → Int → Int
  | 0, a, _ => a
  | k + 1, a, b => if b ≤ 0 then a else EU k b (a % b)
def DN : Nat → Int → Int → Prop
  | 0, _, b => b = 0
  | n + 1, a, b => b = 0 ∨ DN n b (a % b)
def TW : Nat → Int
  | 0 => 1
  | k + 1 => 2 * TW k
theorem DN_b : ∀ (k : Nat) (a b : Int), 0 ≤ b → b < TW k → DN (2 * k) a b
  | 0, a, b, h0, h1 => by
    have : TW 0 = 1 := rfl
    show b = 0
    omega
  | k + 1, a, b, h0, h1 => by
    have e : TW (k + 1) = 2 * TW k := rfl
    show b = 0 ∨ (a % b = 0 ∨ DN (2 * k) (a % b) (b % (a % b)))
    by_cases hb : b = 0
    · exact Or.inl hb
    · refine Or.inr ?_
      by_cases hr : a % b = 0
      · exact Or.inl hr
      · refine Or.inr ?_
        have r0 := Int.emod_nonneg a hb
        have r1 := Int.emod_lt_of_pos a (by omega : 0 < b)
        generalize a % b = r at *
        have s0 := Int.emod_nonneg b hr
        have s1 := Int.emod_lt_of_pos b (by omega : 0 < r)
        have s2 := Int.emod_add_mul_ediv b r
        have s3 : 1 ≤ b / r := by
          have := Int.ediv_le_ediv (by omega : 0 < r) (by omega : r ≤ b)
          rw [Int.ediv_self hr] at this
          exact this
        have s4 := Int.mul_le_mul_of_nonneg_left s3 (by omega : 0 ≤ r)
        exact DN_b k r (b % r) s0 (by omega)
theorem DN_s : ∀ (n : Nat) (a b : Int), DN n a b → DN (n + 1) a b
  | 0, a, b, h => Or.inl h
  | n + 1, a, b, h => by
    rcases h with h | h
    · exact Or.inl h
    · exact Or.inr (DN_s n _ _ h)
theorem EU_dn : ∀ (n n' : Nat) (a b : Int), 0 ≤ b → DN n a b → DN n' a b → EU n a b = EU n' a b
  | 0, 0, a, b, _, _, _ => rfl
  | 0, n' + 1, a, b, _, h, _ => by
    show a = if b ≤ 0 then a else _
    have : b = 0 := h
    rw [if_pos (by omega)]
  | n + 1, 0, a, b, _, _, h => by
    show (if b ≤ 0 then a else _) = a
    have : b = 0 := h
    rw [if_pos (by omega)]
  | n + 1, n' + 1, a, b, h0, h, h' => by
    show (if b ≤ 0 then a else EU n b (a % b)) = if b ≤ 0 then a else EU n' b (a % b)
    by_cases hb : b ≤ 0
    · rw [if_pos hb, if_pos hb]
    · rw [if_neg hb, if_neg hb]
      rcases h with h | h
      · omega
      · rcases h' with h' | h'
        · omega
        · exact EU_dn n n' b (a % b) (Int.emod_nonneg a (by omega)) h h'
theorem EU_pos : ∀ (n : Nat) (a b : Int), 0 < a → 0 ≤ b → 0 < EU n a b
  | 0, a, b, h, _ => h
  | n + 1, a, b, h, h0 => by
    show 0 < if b ≤ 0 then a else EU n b (a % b)
    split
    · exact h
    · exact EU_pos n b (a % b) (by omega) (Int.emod_nonneg a (by omega))
theorem w64_mod {a b : Int} (ha : 0 ≤ a ∧ a < 9223372036854775808) (hb : 0 < b) : w64 (a - w64 (w64 (Int.tdiv a b) * b)) = a % b := by
  have e : Int.tdiv a b = a / b := Int.tdiv_eq_ediv_of_nonneg ha.1
  have d0 : 0 ≤ a / b := Int.ediv_nonneg ha.1 (by omega)
  have d1 : a / b ≤ a := Int.ediv_le_self _ ha.1
  have s := Int.emod_add_mul_ediv a b
  have m0 := Int.emod_nonneg a (by omega : b ≠ 0)
  have m1 := Int.mul_nonneg (by omega : 0 ≤ b) d0
  rw [e, w64_i (x := a / b) (by omega) (by omega), Int.mul_comm (a / b) b, w64_i (x := b * (a / b)) (by omega) (by omega), w64_i (by omega) (by omega)]
  omega
theorem l_divisor {K : Int → WD → Option (Int × WD)} {Q : Int → WD → Prop} : ∀ (n f : Nat) (a b x : Int) (u : WD), (n : Int) + x = 200 → 0 ≤ x → n < f → (0 ≤ a ∧ a < 9223372036854775808) → (0 ≤ b ∧ b < 9223372036854775808) → WI (K (EU n a b) u) Q → WI (fB_commonDivisor_l3 K f a b x u) Q
  | n, 0, a, b, x, u, _, _, h, _, _, _ => by exfalso; omega
  | 0, f + 1, a, b, x, u, hn, h0, h1, ha, hb, hK => by
    show WI (fB_commonDivisor_l3_b (fB_commonDivisor_l3 K f) K a b x u) Q
    unfold fB_commonDivisor_l3_b
    exact i_if (fun _ => hK) (fun q => by exfalso; omega)
  | n + 1, f + 1, a, b, x, u, hn, h0, h1, ha, hb, hK => by
    show WI (fB_commonDivisor_l3_b (fB_commonDivisor_l3 K f) K a b x u) Q
    unfold fB_commonDivisor_l3_b
    unfold EU at hK
    refine i_if (fun q => by exfalso; omega) (fun _ => i_if (fun q => ?_) (fun q => i_ck (by omega) ?_))
    · rw [if_pos q] at hK; exact hK
    · rw [if_neg q] at hK
      rw [w64_mod ha (by omega), w32_i (x := x + 1) (by omega) (by omega)]
      have m0 := Int.emod_nonneg a (by omega : b ≠ 0)
      have m1 := Int.emod_lt_of_pos a (by omega : 0 < b)
      exact i_bv (i_bv (l_divisor n f b (a % b) (x + 1) u (by omega) (by omega) (by omega) hb ⟨m0, by omega⟩ hK))
theorem l_lowest {y0 y2 y4 : Int} {K : Int → WD → Option (Int × WD)} {Q : Int → WD → Prop} : ∀ (n f : Nat) (a b : Int) (u : WD), n < f → DN n a b → (0 ≤ a ∧ a < 9223372036854775808) → (0 ≤ b ∧ b < 9223372036854775808) → WI (K (EU n a b) u) Q → WI (fR_lowest_l6 y0 y2 y4 K f a b u) Q
  | n, 0, a, b, u, h, _, _, _, _ => by exfalso; omega
  | 0, f + 1, a, b, u, h1, hd, ha, hb, hK => by
    show WI (fR_lowest_l6_b (fR_lowest_l6 y0 y2 y4 K f) y0 y2 y4 K a b u) Q
    unfold fR_lowest_l6_b
    exact i_if (fun _ => hK) (fun q => absurd hd q)
  | n + 1, f + 1, a, b, u, h1, hd, ha, hb, hK => by
    show WI (fR_lowest_l6_b (fR_lowest_l6 y0 y2 y4 K f) y0 y2 y4 K a b u) Q
    unfold fR_lowest_l6_b
    unfold EU at hK
    refine i_if (fun q => ?_) (fun q => i_ck q ?_)
    · rw [if_pos (by omega)] at hK; exact hK
    · rw [if_neg (by omega)] at hK
      rw [w64_mod ha (by omega)]
      have m0 := Int.emod_nonneg a q
      have m1 := Int.emod_lt_of_pos a (by omega : 0 < b)
      rcases hd with hd | hd
      · exact absurd hd q
      · exact i_bv (l_lowest n f b (a % b) u (by omega) hd hb ⟨m0, by omega⟩ hK)
theorem TW_99 : TW 99 = 633825300114114700748351602688 := by decide +kernel
theorem op_likely : op3 Inv fB_likely fR_likely := by
  intro m p a w hmI hpI haI hI
  obtain ⟨law, tp⟩ := TP_of hI
  have m5 := tp.2.2.1.2.2.2
  have m0 := tp.2.2.1.2.2.1
  have p6 := tp.2.2.1.2.1
  have p0 := tp.2.2.1.1
  have r4 := tp.2.2.2.1
  have r1 := tp.2.2.2.2
  refine same_of ?_
  by_cases hok : (0 ≤ m ∧ m < w 1 5) ∧ ((0 ≤ p ∧ p < w 1 4) ∨ p = 6) ∧ (a = 0 ∨ a = 1)
  · obtain ⟨hm, hp, ha⟩ := hok
    have hp7 : 0 ≤ p ∧ p < 7 := by omega
    have si := SUM_in (law := law) (sn := SN w) (may := MAYw w) tp.1 tp.2.2.1
    have bi := BH_in (law := law) (sn := SN w) (m := m) (p := p) tp
    generalize hA : SUM w law (SN w) (MAYw w) = A at *
    generalize hT : BH w law (SN w) m p = T at *
    have ref : ∀ (u : WD) (r : Int), Same w u → (A = 0 → r = a) → (0 < A → r = w64 (Int.tdiv (if a ≠ 0 then A else T) (EU 200 A T))) → WI (fR_likely m p a u) (fun r' y => r' = r ∧ Inv y) := by
      intro u r hu q0 q1
      have u4 := hu.f 4 (by decide)
      have u1 := hu.f 1 (by decide)
      unfold fR_likely
      refine i_ci (s_isMaskR (by omega) (fun _ => i_if (fun q => absurd q (by decide)) (fun _ => i_ci (s_isWhoR (by omega) (fun _ => i_if (fun q => absurd q (by decide)) (fun _ => i_ci (s_in (fun _ => i_if (fun _ => i_cv (t_find tp (TR_of tp hu) (fun y y1 y2 _ => ?_))) (fun q => absurd (by decide) q)) (fun q => by exfalso; omega)))) (fun q => by exfalso; omega)))) (fun q => by exfalso; omega))
      have iy := Inv_same (Inv_same hI hu) y1.same
      have y32 : y 46 32 = A := by rw [ACF_32 tp y2, hA]
      have y68 : y 68 (7 * m + p) = T := by rw [ACF_68 tp y2 hm hp7, hT]
      rw [y32, w32_i (x := 7 * m) (by omega) (by omega), w32_i (x := 7 * m + p) (by omega) (by omega), y68]
      refine i_if (fun q => i_ck (by omega) (i_ci ?_)) (fun q => i_some ⟨(q0 (by omega)).symm, iy⟩)
      unfold fR_lowest
      have dn := DN_b 99 T A si.1 (by have := TW_99; omega)
      have dn' := DN_b 99 A T bi.1 (by have := TW_99; omega)
      have key : EU 200 T A = EU 200 A T := by
        have e1 : EU 200 T A = EU 199 A (T % A) := by
          show (if A ≤ 0 then T else EU 199 A (T % A)) = _
          rw [if_neg (by omega)]
        rw [e1]
        by_cases e : T = A
        · rw [e, Int.emod_self]
          show (if (0 : Int) ≤ 0 then A else _) = if A ≤ 0 then A else (if A % A ≤ 0 then A else _)
          rw [if_pos (Int.le_refl 0), if_neg (by omega), Int.emod_self, if_pos (Int.le_refl 0)]
        · rw [Int.emod_eq_of_lt bi.1 (by omega)]
          exact EU_dn 199 200 A T bi.1 (DN_s 198 _ _ dn') (DN_s 199 _ _ (DN_s 198 _ _ dn'))
      have gp := EU_pos 200 A T (by omega) bi.1
      refine l_lowest 200 FU T A y (by decide) (DN_s 199 _ _ (DN_s 198 _ _ dn)) (by omega) (by omega) ?_
      rw [key]
      refine i_if (fun c => i_ck (by omega) (i_some (i_some ⟨?_, iy⟩))) (fun c => i_ck (by omega) (i_some (i_some ⟨?_, iy⟩)))
      · rw [q1 (by omega), if_pos c]
      · rw [q1 (by omega), if_neg c]
    unfold fB_likely
    refine i_ci (s_isMaskC (fun _ => i_if (fun q => absurd q (by decide)) (fun _ => i_ci (s_isOneC (fun _ => i_if (fun q => absurd q (by decide)) (fun _ => i_ci (s_isBit (fun _ => i_if (fun _ => i_cv (t_load tp Same.rfl' (fun v v1 v2 => i_ci (s_together tp.1 tp.2.2.1 v2 (MOK_w tp) (fun y y1 => ?_))))) (fun q => absurd (by decide) q)) (fun q => absurd ha q)))) (fun q => absurd hp q)))) (fun q => absurd hm q))
    rw [hA]
    refine i_if (fun q => i_ci (s_togetherIf1 tp (TH_t v2 y1) hm hp7 (fun z z1 => i_ci ?_))) (fun q => i_some (ref y a (v2.1.trans y1.same) (fun _ => rfl) (fun c => absurd c q)))
    rw [hT]
    unfold fB_commonDivisor
    refine l_divisor 200 FU A T 0 z (by decide) (by decide) (by decide) (by omega) (by omega) (i_some (i_jn ?_))
    have gp := EU_pos 200 A T q bi.1
    have em : mx 1 (EU 200 A T) = EU 200 A T := by unfold mx; split <;> omega
    rw [em]
    have zs := v2.1.trans (y1.tr z1).same
    refine i_if (fun c => i_ck (by omega) (i_some (ref z _ zs (fun d => by exfalso; omega) (fun _ => by rw [if_pos c])))) (fun c => i_ck (by omega) (i_some (ref z _ zs (fun d => by exfalso; omega) (fun _ => by rw [if_neg c]))))
  · (repeat' (first | (with_reducible refine i_some ?_) | (with_reducible refine v_some ?_) | (with_reducible refine i_ci ?_) | (with_reducible refine i_cv ?_) | (with_reducible refine v_ci ?_) | (with_reducible refine v_cv ?_) | (with_reducible refine i_bv ?_) | (with_reducible refine v_bv ?_) | (with_reducible refine i_bw ?_) | (with_reducible refine v_bw ?_) | (with_reducible refine i_jn ?_) | (with_reducible refine v_jn ?_) | (with_reducible refine i_ck ?_ ?_) | (with_reducible refine v_ck ?_ ?_) | ((with_reducible refine i_if (fun hc => ?_) (fun hc => ?_)) <;> (try simp (disch := omega) only [not_true_eq_false, not_false_eq_true, true_and, and_true, up_r, up_k, ur_s, ur_e, ur_i, cp_k, w32_i, w64_i, w8_i] at hc) <;> (try (exfalso; omega))) | ((with_reducible refine v_if (fun hc => ?_) (fun hc => ?_)) <;> (try simp (disch := omega) only [not_true_eq_false, not_false_eq_true, true_and, and_true, up_r, up_k, ur_s, ur_e, ur_i, cp_k, w32_i, w64_i, w8_i] at hc) <;> (try (exfalso; omega))) | unfold fB_likely | ((with_reducible apply s_isMaskC) <;> (try intro hvc) <;> (try simp (disch := omega) only [not_true_eq_false, not_false_eq_true, true_and, and_true, up_r, up_k, ur_s, ur_e, ur_i, cp_k, w32_i, w64_i, w8_i] at hvc) <;> (try (exfalso; omega))) | ((with_reducible apply s_isOneC) <;> (try intro hvc) <;> (try simp (disch := omega) only [not_true_eq_false, not_false_eq_true, true_and, and_true, up_r, up_k, ur_s, ur_e, ur_i, cp_k, w32_i, w64_i, w8_i] at hvc) <;> (try (exfalso; omega))) | ((with_reducible apply s_isBit) <;> (try intro hvc) <;> (try simp (disch := omega) only [not_true_eq_false, not_false_eq_true, true_and, and_true, up_r, up_k, ur_s, ur_e, ur_i, cp_k, w32_i, w64_i, w8_i] at hvc) <;> (try (exfalso; omega))) | unfold fR_likely | ((with_reducible apply s_isMaskR) <;> (try intro hvc) <;> (try simp (disch := omega) only [not_true_eq_false, not_false_eq_true, true_and, and_true, up_r, up_k, ur_s, ur_e, ur_i, cp_k, w32_i, w64_i, w8_i] at hvc) <;> (try (exfalso; omega))) | ((with_reducible apply s_isWhoR) <;> (try intro hvc) <;> (try simp (disch := omega) only [not_true_eq_false, not_false_eq_true, true_and, and_true, up_r, up_k, ur_s, ur_e, ur_i, cp_k, w32_i, w64_i, w8_i] at hvc) <;> (try (exfalso; omega))) | ((with_reducible apply s_in) <;> (try intro hvc) <;> (try simp (disch := omega) only [not_true_eq_false, not_false_eq_true, true_and, and_true, up_r, up_k, ur_s, ur_e, ur_i, cp_k, w32_i, w64_i, w8_i] at hvc) <;> (try (exfalso; omega)))))
    all_goals first | omega | exact ⟨rfl, hI⟩
