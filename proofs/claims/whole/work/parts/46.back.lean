theorem l_recall {n : Int} {K : WD → Option (Int × WD)} {Q : Int → WD → Prop} (hn : 0 ≤ n ∧ n ≤ 5) : ∀ (f : Nat) (x : Int) (w : WD), 0 ≤ x → x ≤ 15 → 15 - x < f → (0 ≤ w 1 4 ∧ w 1 4 ≤ 6 ∧ 0 ≤ w 1 5 ∧ w 1 5 ≤ 5) → w 19 8 = n → n ≤ w 1 5 →
    (∀ u : WD, (∀ k, k ≠ 2 → u k = w k) → (∀ a s, 0 ≤ a → 0 ≤ s → s < 3 → x ≤ 3 * a + s → 3 * a + s < 3 * n → u 2 (24 + 4 * a + s) = w 26 (3 * a + s)) → (∀ i, (∀ a s, 0 ≤ a → 0 ≤ s → s < 3 → x ≤ 3 * a + s → 3 * a + s < 3 * n → i ≠ 24 + 4 * a + s) → u 2 i = w 2 i) → WI (K u) Q) → WI (fNi_recall_l55 K f x w) Q
  | 0, x, w, _, _, h, _, _, _, _ => by exfalso; omega
  | f + 1, x, w, h1, h2, h3, hp, hk, hm, hK => by
    show WI (fNi_recall_l55_b (fNi_recall_l55 K f) K x w) Q
    unfold fNi_recall_l55_b
    obtain ⟨e1, e2⟩ := td3 h1
    rw [e1, e2, hk, w32_i (x := n * 3) (by omega) (by omega), w32_i (x := x / 3) (by omega) (by omega), w32_i (x := 4 + x % 3) (by omega) (by omega), w32_i (x := x + 1) (by omega) (by omega)]
    refine i_if (fun q => hK w (fun _ _ => rfl) (fun a s a0 s0 s1 i1 i2 => by omega) (fun _ _ => rfl)) (fun q => i_if (fun q' => hK w (fun _ _ => rfl) (fun a s a0 s0 s1 i1 i2 => by omega) (fun _ _ => rfl)) (fun q' => i_ck (by omega) (i_cv ?_)))
    refine s_note hp (fun z => ?_) (fun z => absurd (show OKp (w 1 4) (w 1 5) (x / 3) (4 + x % 3) from ⟨by omega, by omega, by omega, by omega, by omega, by omega, by omega⟩) z)
    rw [PL_seen (by omega)]
    refine i_bv (l_recall hn f (x + 1) _ (by omega) (by omega) (by omega) (by simp (disch := omega) only [not_true_eq_false, not_false_eq_true, true_and, and_true, up_r, up_k, ur_s, ur_e, ur_i, cp_k, w32_i, w64_i, w8_i]; exact hp) (by simp (disch := omega) only [not_true_eq_false, not_false_eq_true, true_and, and_true, up_r, up_k, ur_s, ur_e, ur_i, cp_k, w32_i, w64_i, w8_i]; exact hk) (by simp (disch := omega) only [not_true_eq_false, not_false_eq_true, true_and, and_true, up_r, up_k, ur_s, ur_e, ur_i, cp_k, w32_i, w64_i, w8_i]; exact hm) (fun u u1 u2 u3 => hK u (fun k hk => ?_) (fun a s a0 s0 s1 i1 i2 => ?_) (fun i i1 => ?_)))
    · rw [u1 k hk]; simp (disch := omega) only [not_true_eq_false, not_false_eq_true, true_and, and_true, up_r, up_k, ur_s, ur_e, ur_i, cp_k, w32_i, w64_i, w8_i]
    · by_cases hi : x = 3 * a + s
      · rw [u3 _ (fun a' s' b0 b1 b2 b3 b4 => by omega)]
        have d1 : x / 3 = a := by omega
        have d2 : x % 3 = s := by omega
        rw [d1, d2]
        simp (disch := omega) only [not_true_eq_false, not_false_eq_true, true_and, and_true, up_r, up_k, ur_s, ur_e, ur_i, cp_k, w32_i, w64_i, w8_i]
        rw [hi]
      · have := u2 a s a0 s0 s1 (by omega) i2
        rw [this]
        simp (disch := omega) only [not_true_eq_false, not_false_eq_true, true_and, and_true, up_r, up_k, ur_s, ur_e, ur_i, cp_k, w32_i, w64_i, w8_i]
    · rw [u3 i (fun a' s' b0 b1 b2 b3 b4 => i1 a' s' b0 b1 b2 (by omega) b4)]
      have := i1 (x / 3) (x % 3) (by omega) (by omega) (by omega) (by omega) (by omega)
      simp (disch := omega) only [not_true_eq_false, not_false_eq_true, true_and, and_true, up_r, up_k, ur_s, ur_e, ur_i, cp_k, w32_i, w64_i, w8_i]
theorem l_back20 {K : WD → Option (Int × WD)} {Q : Int → WD → Prop} : ∀ (f : Nat) (x : Int) (w : WD), 0 ≤ x → x ≤ 15 → 15 - x < f → (0 ≤ w 46 52 ∧ w 46 52 ≤ 5) →
    (∀ u : WD, (∀ k, k ≠ 49 → u k = w k) → (∀ i, x ≤ i → i < 3 * w 46 52 → u 49 i = w 76 i) → (∀ i, ¬ (x ≤ i ∧ i < 3 * w 46 52) → u 49 i = w 49 i) → WI (K u) Q) → WI (fR_back_l20 K f x w) Q
  | 0, x, w, _, _, h, _, _ => by exfalso; omega
  | f + 1, x, w, h1, h2, h3, hp, hK => by
    show WI (fR_back_l20_b (fR_back_l20 K f) K x w) Q
    unfold fR_back_l20_b
    rw [w32_i (x := 3 * w 46 52) (by omega) (by omega), w32_i (x := x + 1) (by omega) (by omega)]
    refine i_if (fun q => hK w (fun _ _ => rfl) (fun i i1 i2 => by omega) (fun _ _ => rfl)) (fun q => ?_)
    refine i_ck (by omega) (i_ck (by omega) (i_bw (i_bv (l_back20 f (x + 1) _ (by omega) (by omega) (by omega) (by simp (disch := omega) only [not_true_eq_false, not_false_eq_true, true_and, and_true, up_r, up_k, ur_s, ur_e, ur_i, cp_k, w32_i, w64_i, w8_i]; exact hp) (fun u u1 u2 u3 => hK u (fun k hk => ?_) (fun i i1 i2 => ?_) (fun i i1 => ?_))))))
    · rw [u1 k hk]; simp (disch := omega) only [not_true_eq_false, not_false_eq_true, true_and, and_true, up_r, up_k, ur_s, ur_e, ur_i, cp_k, w32_i, w64_i, w8_i]
    · by_cases hi : i = x
      · subst hi
        rw [u3 i (by omega)]
        simp (disch := omega) only [not_true_eq_false, not_false_eq_true, true_and, and_true, up_r, up_k, ur_s, ur_e, ur_i, cp_k, w32_i, w64_i, w8_i]
      · have := u2 i (by omega) (by simp (disch := omega) only [not_true_eq_false, not_false_eq_true, true_and, and_true, up_r, up_k, ur_s, ur_e, ur_i, cp_k, w32_i, w64_i, w8_i]; exact i2)
        rw [this]
        simp (disch := omega) only [not_true_eq_false, not_false_eq_true, true_and, and_true, up_r, up_k, ur_s, ur_e, ur_i, cp_k, w32_i, w64_i, w8_i]
    · rw [u3 i (by simp (disch := omega) only [not_true_eq_false, not_false_eq_true, true_and, and_true, up_r, up_k, ur_s, ur_e, ur_i, cp_k, w32_i, w64_i, w8_i]; omega)]
      simp (disch := omega) only [not_true_eq_false, not_false_eq_true, true_and, and_true, up_r, up_k, ur_s, ur_e, ur_i, cp_k, w32_i, w64_i, w8_i]
theorem l_back50 {K : WD → Option (Int × WD)} {Q : Int → WD → Prop} : ∀ (f : Nat) (x : Int) (w : WD), 0 ≤ x → x ≤ 5 → 5 - x < f → (0 ≤ w 46 4 ∧ w 46 4 ≤ 5) → (∀ i, 0 ≤ i → i < w 46 52 → i < 5 → BIT (w 78 i)) →
    (∀ u : WD, (∀ k, k ≠ 73 → k ≠ 74 → u k = w k) → (∀ i, x ≤ i → i < w 46 4 → (i < w 46 52 → u 73 i = w 77 i ∧ u 74 i = w 78 i) ∧ (w 46 52 ≤ i → u 73 i = -2 ∧ u 74 i = 0)) → (∀ i, i < x → u 73 i = w 73 i ∧ u 74 i = w 74 i) → WI (K u) Q) → WI (fR_back_l50 K f x w) Q
  | 0, x, w, _, _, h, _, _, _ => by exfalso; omega
  | f + 1, x, w, h1, h2, h3, hp, hb, hK => by
    show WI (fR_back_l50_b (fR_back_l50 K f) K x w) Q
    unfold fR_back_l50_b
    rw [w32_i (x := x + 1) (by omega) (by omega)]
    refine i_if (fun q => hK w (fun _ _ _ => rfl) (fun i i1 i2 => by omega) (fun _ _ => ⟨rfl, rfl⟩)) (fun q => i_jn ?_)
    have go : ∀ (a b : Int), (x < w 46 52 → a = w 77 x ∧ b = w 78 x) → (w 46 52 ≤ x → a = -2 ∧ b = 0) → WI (fR_back_l50 K f (x + 1) (up (up w 73 x a) 74 x b)) Q := by
      intro a b g1 g2
      refine l_back50 f (x + 1) _ (by omega) (by omega) (by omega) (by simp (disch := omega) only [not_true_eq_false, not_false_eq_true, true_and, and_true, up_r, up_k, ur_s, ur_e, ur_i, cp_k, w32_i, w64_i, w8_i]; exact hp) (by simp (disch := omega) only [not_true_eq_false, not_false_eq_true, true_and, and_true, up_r, up_k, ur_s, ur_e, ur_i, cp_k, w32_i, w64_i, w8_i]; exact hb) (fun u u1 u2 u3 => hK u (fun k hk hk' => ?_) (fun i i1 i2 => ?_) (fun i i1 => ?_))
      · rw [u1 k hk hk']; simp (disch := omega) only [not_true_eq_false, not_false_eq_true, true_and, and_true, up_r, up_k, ur_s, ur_e, ur_i, cp_k, w32_i, w64_i, w8_i]
      · by_cases hi : i = x
        · subst hi
          rw [(u3 i (by omega)).1, (u3 i (by omega)).2]
          simp (disch := omega) only [not_true_eq_false, not_false_eq_true, true_and, and_true, up_r, up_k, ur_s, ur_e, ur_i, cp_k, w32_i, w64_i, w8_i]
          exact ⟨g1, g2⟩
        · have := u2 i (by omega) (by simp (disch := omega) only [not_true_eq_false, not_false_eq_true, true_and, and_true, up_r, up_k, ur_s, ur_e, ur_i, cp_k, w32_i, w64_i, w8_i]; exact i2)
          simp (disch := omega) only [not_true_eq_false, not_false_eq_true, true_and, and_true, up_r, up_k, ur_s, ur_e, ur_i, cp_k, w32_i, w64_i, w8_i] at this
          exact this
      · rw [(u3 i (by omega)).1, (u3 i (by omega)).2]
        simp (disch := omega) only [not_true_eq_false, not_false_eq_true, true_and, and_true, up_r, up_k, ur_s, ur_e, ur_i, cp_k, w32_i, w64_i, w8_i]
    refine i_if (fun c => i_ck (by omega) (i_bw (i_jn (i_jn ?_)))) (fun c => i_ck (by omega) (i_ck (by omega) (i_bw (i_jn (i_jn ?_)))))
    · simp (disch := omega) only [not_true_eq_false, not_false_eq_true, true_and, and_true, up_r, up_k, ur_s, ur_e, ur_i, cp_k, w32_i, w64_i, w8_i]
      refine i_if (fun _ => ?_) (fun c' => by exfalso; omega)
      exact i_ck (by omega) (i_bw (i_bv (go _ _ (fun z => by omega) (fun _ => ⟨rfl, rfl⟩))))
    · simp (disch := omega) only [not_true_eq_false, not_false_eq_true, true_and, and_true, up_r, up_k, ur_s, ur_e, ur_i, cp_k, w32_i, w64_i, w8_i]
      have b1 := hb x h1 (by omega) (by omega)
      unfold BIT at b1
      refine i_if (fun c' => by exfalso; omega) (fun _ => i_ck (by omega) (i_if (fun c' => ?_) (fun c' => ?_)))
      · exact i_ck (by omega) (i_bw (i_bv (go _ _ (fun z => ⟨rfl, by omega⟩) (fun z => by exfalso; omega))))
      · exact i_ck (by omega) (i_bw (i_bv (go _ _ (fun z => ⟨rfl, by omega⟩) (fun z => by exfalso; omega))))
theorem l_back119 {K : WD → Option (Int × WD)} {Q : Int → WD → Prop} : ∀ (f : Nat) (x : Int) (w : WD), 0 ≤ x → x ≤ 4 → 4 - x < f →
    (∀ u : WD, (∀ k, k ≠ 75 → u k = w k) → (∀ i, x ≤ i → i < 4 → u 75 i = w 79 i) → (∀ i, i < x → u 75 i = w 75 i) → WI (K u) Q) → WI (fR_back_l119 K f x w) Q
  | 0, x, w, _, _, h, _ => by exfalso; omega
  | f + 1, x, w, h1, h2, h3, hK => by
    show WI (fR_back_l119_b (fR_back_l119 K f) K x w) Q
    unfold fR_back_l119_b
    rw [w32_i (x := x + 1) (by omega) (by omega)]
    refine i_if (fun q => hK w (fun _ _ => rfl) (fun i i1 i2 => by omega) (fun _ _ => rfl)) (fun q => ?_)
    refine i_ck (by omega) (i_ck (by omega) (i_bw (i_bv (l_back119 f (x + 1) _ (by omega) (by omega) (by omega) (fun u u1 u2 u3 => hK u (fun k hk => ?_) (fun i i1 i2 => ?_) (fun i i1 => ?_))))))
    · rw [u1 k hk]; simp (disch := omega) only [not_true_eq_false, not_false_eq_true, true_and, and_true, up_r, up_k, ur_s, ur_e, ur_i, cp_k, w32_i, w64_i, w8_i]
    · by_cases hi : i = x
      · subst hi
        rw [u3 i (by omega)]
        simp (disch := omega) only [not_true_eq_false, not_false_eq_true, true_and, and_true, up_r, up_k, ur_s, ur_e, ur_i, cp_k, w32_i, w64_i, w8_i]
      · have := u2 i (by omega) i2
        rw [this]
        simp (disch := omega) only [not_true_eq_false, not_false_eq_true, true_and, and_true, up_r, up_k, ur_s, ur_e, ur_i, cp_k, w32_i, w64_i, w8_i]
    · rw [u3 i (by omega)]
      simp (disch := omega) only [not_true_eq_false, not_false_eq_true, true_and, and_true, up_r, up_k, ur_s, ur_e, ur_i, cp_k, w32_i, w64_i, w8_i]
theorem op_back : op0 Inv fB_back fR_back := by
  intro w hI
  obtain ⟨hH, hC, hT, hL, hN, hK, hS, hB⟩ := id hI
  obtain ⟨p0, p6, pr, m0, m5, mr, hV⟩ := id hH
  obtain ⟨n1, n2, n3, n4, n5⟩ := id hN
  have hp : 0 ≤ w 1 4 ∧ w 1 4 ≤ 6 ∧ 0 ≤ w 1 5 ∧ w 1 5 ≤ 5 := ⟨p0, p6, m0, m5⟩
  refine same_of ?_
  unfold fB_back fNi_recall
  rcases id hK with ⟨k1, k2⟩ | ⟨k1, k2, k3, k4, k5, k6, k7, k8, k9, k10⟩
  · refine i_ci (i_if (fun q => absurd k2 q) (fun _ => i_some (i_some ?_)))
    unfold fR_back
    exact i_if (fun q => absurd k1 q) (fun _ => i_some ⟨rfl, hI⟩)
  · refine i_ci (i_if (fun _ => ?_) (fun q => by exfalso; omega))
    refine i_ck (by decide) (i_bw (i_ck (by decide) (i_bw (i_ck (by decide) (i_bw ?_)))))
    refine l_recall (n := w 19 8) ⟨k3, by omega⟩ FU 0 _ (by decide) (by decide) (by decide) (by simp (disch := omega) only [not_true_eq_false, not_false_eq_true, true_and, and_true, up_r, up_k, ur_s, ur_e, ur_i, cp_k, w32_i, w64_i, w8_i]; exact hp) (by simp (disch := omega) only [not_true_eq_false, not_false_eq_true, true_and, and_true, up_r, up_k, ur_s, ur_e, ur_i, cp_k, w32_i, w64_i, w8_i]) (by simp (disch := omega) only [not_true_eq_false, not_false_eq_true, true_and, and_true, up_r, up_k, ur_s, ur_e, ur_i, cp_k, w32_i, w64_i, w8_i]; exact k4) (fun u u1 u2 u3 => i_some (i_some ?_))
    unfold fR_back
    have f46 : u 46 = w 46 := by rw [u1 46 (by decide)]; simp (disch := omega) only [not_true_eq_false, not_false_eq_true, true_and, and_true, up_r, up_k, ur_s, ur_e, ur_i, cp_k, w32_i, w64_i, w8_i]
    have uk : ∀ k, k ≠ 2 → k ≠ 20 → k ≠ 21 → k ≠ 22 → u k = w k := fun k h1 h2 h3 h4 => by rw [u1 k h1]; simp (disch := omega) only [not_true_eq_false, not_false_eq_true, true_and, and_true, up_r, up_k, ur_s, ur_e, ur_i, cp_k, w32_i, w64_i, w8_i]
    refine i_if (fun _ => i_bw ?_) (fun q => by exfalso; rw [f46] at q; omega)
    have g52 : (up u 46 49 (u 46 53)) 46 52 = w 19 8 := by simp (disch := omega) only [not_true_eq_false, not_false_eq_true, true_and, and_true, up_r, up_k, ur_s, ur_e, ur_i, cp_k, w32_i, w64_i, w8_i, f46]; exact k2
    refine l_back20 FU 0 _ (by decide) (by decide) (by decide) (by rw [g52]; omega) (fun v v1 v2 v3 => ?_)
    have v46 : v 46 = ur (w 46) 49 (w 46 53) := by rw [v1 46 (by decide)]; simp (disch := omega) only [not_true_eq_false, not_false_eq_true, true_and, and_true, up_r, up_k, ur_s, ur_e, ur_i, cp_k, w32_i, w64_i, w8_i, f46]
    have vk : ∀ k, k ≠ 46 → k ≠ 49 → v k = u k := fun k h1 h2 => by rw [v1 k h2]; simp (disch := omega) only [not_true_eq_false, not_false_eq_true, true_and, and_true, up_r, up_k, ur_s, ur_e, ur_i, cp_k, w32_i, w64_i, w8_i]
    have v78 : v 78 = w 78 := by rw [vk 78 (by decide) (by decide), uk 78 (by decide) (by decide) (by decide) (by decide)]
    have v77 : v 77 = w 77 := by rw [vk 77 (by decide) (by decide), uk 77 (by decide) (by decide) (by decide) (by decide)]
    have v52 : v 46 52 = w 19 8 := by rw [v46]; simp (disch := omega) only [not_true_eq_false, not_false_eq_true, true_and, and_true, up_r, up_k, ur_s, ur_e, ur_i, cp_k, w32_i, w64_i, w8_i]; exact k2
    have v4 : v 46 4 = w 1 5 := by rw [v46]; simp (disch := omega) only [not_true_eq_false, not_false_eq_true, true_and, and_true, up_r, up_k, ur_s, ur_e, ur_i, cp_k, w32_i, w64_i, w8_i]; exact mr
    refine l_back50 FU 0 _ (by decide) (by decide) (by decide) (by rw [v4]; omega) (fun i i1 i2 i3 => ?_) (fun s s1 s2 s3 => ?_)
    · rw [v52] at i2
      obtain ⟨z1, z2, z3, z4⟩ := k5 i i1 i3
      rw [v78, (z3 i2).2]
      exact z2
    refine l_back119 FU 0 _ (by decide) (by decide) (by decide) (fun t t1 t2 t3 => i_some ?_)
    have t46 : t 46 = ur (w 46) 49 (w 46 53) := by rw [t1 46 (by decide), s1 46 (by decide) (by decide), v46]
    have tk : ∀ k, k ≠ 2 → k ≠ 20 → k ≠ 21 → k ≠ 22 → k ≠ 46 → k ≠ 49 → k ≠ 73 → k ≠ 74 → k ≠ 75 → t k = w k := by
      intro k e1 e2 e3 e4 e5 e6 e7 e8 e9
      rw [t1 k e9, s1 k e7 e8, vk k e5 e6, uk k e1 e2 e3 e4]
    have w20 : ∀ m, 0 ≤ m → m < 5 → t 20 m = w 23 m := fun m h1 h2 => by rw [t1 20 (by decide), s1 20 (by decide) (by decide), vk 20 (by decide) (by decide), u1 20 (by decide)]; simp (disch := omega) only [not_true_eq_false, not_false_eq_true, true_and, and_true, up_r, up_k, ur_s, ur_e, ur_i, cp_k, w32_i, w64_i, w8_i, cp_e]; congr 1; omega
    have w21 : ∀ m, 0 ≤ m → m < 5 → t 21 m = w 24 m := fun m h1 h2 => by rw [t1 21 (by decide), s1 21 (by decide) (by decide), vk 21 (by decide) (by decide), u1 21 (by decide)]; simp (disch := omega) only [not_true_eq_false, not_false_eq_true, true_and, and_true, up_r, up_k, ur_s, ur_e, ur_i, cp_k, w32_i, w64_i, w8_i, cp_e]; congr 1; omega
    have w22 : ∀ m, 0 ≤ m → m < 5 → t 22 m = w 25 m := fun m h1 h2 => by rw [t1 22 (by decide), s1 22 (by decide) (by decide), vk 22 (by decide) (by decide), u1 22 (by decide)]; simp (disch := omega) only [not_true_eq_false, not_false_eq_true, true_and, and_true, up_r, up_k, ur_s, ur_e, ur_i, cp_k, w32_i, w64_i, w8_i, cp_e]; congr 1; omega
    have t2' : ∀ i, u 2 i = t 2 i := fun i => by rw [t1 2 (by decide), s1 2 (by decide) (by decide), vk 2 (by decide) (by decide)]
    have t49 : t 49 = v 49 := by rw [t1 49 (by decide), s1 49 (by decide) (by decide)]
    have seen_in : ∀ a s', 0 ≤ a → 0 ≤ s' → s' < 3 → 3 * a + s' < 3 * w 19 8 → t 2 (24 + 4 * a + s') = w 26 (3 * a + s') ∧ t 49 (3 * a + s') = w 76 (3 * a + s') := by
      intro a s' a0 b0 b3 hlt
      constructor
      · rw [← t2', u2 a s' a0 b0 b3 (by omega) hlt]
        simp (disch := omega) only [not_true_eq_false, not_false_eq_true, true_and, and_true, up_r, up_k, ur_s, ur_e, ur_i, cp_k, w32_i, w64_i, w8_i]
      · rw [t49, v2 _ (by omega) (by rw [g52]; exact hlt)]
        simp (disch := omega) only [not_true_eq_false, not_false_eq_true, true_and, and_true, up_r, up_k, ur_s, ur_e, ur_i, cp_k, w32_i, w64_i, w8_i, uk]
    have out2 : ∀ i, (∀ a s', 0 ≤ a → 0 ≤ s' → s' < 3 → 3 * a + s' < 3 * w 19 8 → i ≠ 24 + 4 * a + s') → t 2 i = w 2 i := by
      intro i hi
      rw [← t2', u3 i (fun a s' a0 b0 b3 _ hlt => hi a s' a0 b0 b3 hlt)]
      simp (disch := omega) only [not_true_eq_false, not_false_eq_true, true_and, and_true, up_r, up_k, ur_s, ur_e, ur_i, cp_k, w32_i, w64_i, w8_i]
    have out49 : ∀ i, ¬ (0 ≤ i ∧ i < 3 * w 19 8) → t 49 i = w 49 i := by
      intro i hi
      rw [t49, v3 i (by rw [g52]; exact hi)]
      simp (disch := omega) only [not_true_eq_false, not_false_eq_true, true_and, and_true, up_r, up_k, ur_s, ur_e, ur_i, cp_k, w32_i, w64_i, w8_i, uk]
    have tI : ∀ f a, VAL f a → t (PR f) (PI f a) = t 2 (PL f a) ∧ LO f ≤ t 2 (PL f a) ∧ t 2 (PL f a) ≤ HI f := by
      intro f a hv
      by_cases hs : (4 ≤ f ∧ f ≤ 6) ∧ a < w 19 8
      · obtain ⟨hf, hlt⟩ := hs
        have ha0 := hv.2.2.1
        obtain ⟨s', rfl⟩ : ∃ s', f = 4 + s' := ⟨f - 4, by omega⟩
        rw [PL_seen (by omega), PR_seen (by omega), PI_seen (by omega), (LO_seen (by omega)).1, (LO_seen (by omega)).2]
        obtain ⟨y1, y2⟩ := seen_in a s' ha0 (by omega) (by omega) (by omega)
        have y3 := k10 (3 * a + s') (by omega) (by omega)
        rw [y1, y2]
        exact y3
      · have h0 := hV f a hv
        have c1 := PRI f a hv
        obtain ⟨q1, q2, q3, q4, q5, q6, q7⟩ := id hv
        have e2 : t 2 (PL f a) = w 2 (PL f a) := by
          refine out2 _ (fun a' s' b0 b1 b2 b3 e => hs ?_)
          have hv' : VAL (4 + s') a' := ⟨by omega, by omega, by omega, by omega, by omega, by omega, by omega⟩
          rw [← PL_seen ⟨b1, b2⟩] at e
          obtain ⟨rfl, rfl⟩ := PL_inj hv hv' e
          omega
        have er : t (PR f) (PI f a) = w (PR f) (PI f a) := by
          by_cases h49 : PR f = 49
          · rw [h49]
            exact out49 _ (by omega)
          · have := PR_in f
            rw [tk _ (by omega) (by omega) (by omega) (by omega) (by omega) h49 (by omega) (by omega) (by omega)]
        rw [e2, er]
        exact h0
    have t1r : t 1 = w 1 := tk 1 (by decide) (by decide) (by decide) (by decide) (by decide) (by decide) (by decide) (by decide) (by decide)
    refine ⟨?_, ⟨?_, ?_, ?_, ?_, ?_, ?_, tI⟩, ICh_of ?_ hC, ITape_of ?_ hT, ILaw_of ?_ hL, ?_, IKept_of ?_ hK, IShelf_of ?_ hS, IBody_of ?_ hB⟩
    · rw [t46, u1 22 (by decide)]
      simp (disch := omega) only [not_true_eq_false, not_false_eq_true, true_and, and_true, up_r, up_k, ur_s, ur_e, ur_i, cp_k, w32_i, w64_i, w8_i, cp_e]
      exact k6
    · rw [t1r]; exact p0
    · rw [t1r]; exact p6
    · rw [t1r, t46]; simp (disch := omega) only [not_true_eq_false, not_false_eq_true, true_and, and_true, up_r, up_k, ur_s, ur_e, ur_i, cp_k, w32_i, w64_i, w8_i]; exact pr
    · rw [t1r]; exact m0
    · rw [t1r]; exact m5
    · rw [t1r, t46]; simp (disch := omega) only [not_true_eq_false, not_false_eq_true, true_and, and_true, up_r, up_k, ur_s, ur_e, ur_i, cp_k, w32_i, w64_i, w8_i]; exact mr
    · refine ⟨?_, ?_, ?_, ?_, ?_, ?_, ?_, ?_, ?_, ?_, ?_⟩ <;> (try rw [t46]) <;> simp (disch := omega) only [not_true_eq_false, not_false_eq_true, true_and, and_true, up_r, up_k, ur_s, ur_e, ur_i, cp_k, w32_i, w64_i, w8_i, tk]
    · refine ⟨?_, ?_, ?_, ?_⟩ <;> (try rw [t46]) <;> simp (disch := omega) only [not_true_eq_false, not_false_eq_true, true_and, and_true, up_r, up_k, ur_s, ur_e, ur_i, cp_k, w32_i, w64_i, w8_i, tk]
    · refine ⟨?_, ?_, ?_, ?_, ?_, ?_, ?_, ?_⟩ <;> (try rw [t46]) <;> simp (disch := omega) only [not_true_eq_false, not_false_eq_true, true_and, and_true, up_r, up_k, ur_s, ur_e, ur_i, cp_k, w32_i, w64_i, w8_i, tk]
    · rw [INight, t1r, t46]
      simp (disch := omega) only [not_true_eq_false, not_false_eq_true, true_and, and_true, up_r, up_k, ur_s, ur_e, ur_i, cp_k, w32_i, w64_i, w8_i]
      refine ⟨fun m h1 h2 => ?_, ?_, ?_, ?_, fun k h1 h2 => ?_⟩
      · rw [w20 m h1 h2, w21 m h1 h2]
        obtain ⟨z1, z2, z3, z4⟩ := k5 m h1 h2
        refine ⟨z1, z2, fun q => ?_, fun q => z4 (by omega)⟩
        have y := s2 m h1 (by rw [v4]; exact q)
        rw [v52, v77, v78] at y
        rw [t1 73 (by decide), t1 74 (by decide)]
        rcases (by omega : m < w 19 8 ∨ w 19 8 ≤ m) with c | c
        · rw [(y.1 c).1, (y.1 c).2]
          exact z3 c
        · rw [(y.2 c).1, (y.2 c).2, (z4 c).1, (z4 c).2]
          exact ⟨rfl, rfl⟩
      · rw [w22 0 (by decide) (by decide)]; exact k6
      · rw [w22 0 (by decide) (by decide)]; exact k7
      · rw [w22 0 (by decide) (by decide)]; exact k8
      · rw [t2 k h1 h2, s1 79 (by decide) (by decide), vk 79 (by decide) (by decide), uk 79 (by decide) (by decide) (by decide) (by decide), w22 (k + 1) (by omega) (by omega)]
        exact k9 k h1 h2
    · refine ⟨?_, ?_, ?_, ?_, ?_, ?_, ?_, ?_, ?_, ?_, ?_, ?_, ?_, ?_⟩ <;> (try rw [t46]) <;> simp (disch := omega) only [not_true_eq_false, not_false_eq_true, true_and, and_true, up_r, up_k, ur_s, ur_e, ur_i, cp_k, w32_i, w64_i, w8_i, tk]
    · refine ⟨?_, ?_, ?_, ?_, ?_⟩
      · intro k h1 h2
        simp (disch := omega) only [not_true_eq_false, not_false_eq_true, true_and, and_true, up_r, up_k, ur_s, ur_e, ur_i, cp_k, w32_i, w64_i, w8_i, tk]
      all_goals simp (disch := omega) only [not_true_eq_false, not_false_eq_true, true_and, and_true, up_r, up_k, ur_s, ur_e, ur_i, cp_k, w32_i, w64_i, w8_i, tk]
    · refine ⟨?_, ?_, ?_, ?_, ?_, ?_, ?_, ?_⟩ <;> (try rw [t46]) <;> simp (disch := omega) only [not_true_eq_false, not_false_eq_true, true_and, and_true, up_r, up_k, ur_s, ur_e, ur_i, cp_k, w32_i, w64_i, w8_i, tk]
