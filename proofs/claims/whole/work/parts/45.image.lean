theorem td3 {x : Int} (h : 0 ≤ x) : Int.tdiv x 3 = x / 3 ∧ Int.tmod x 3 = x % 3 := ⟨Int.tdiv_eq_ediv_of_nonneg h, Int.tmod_eq_emod_of_nonneg h⟩
theorem PL_seen {a s : Int} (h : 0 ≤ s ∧ s < 3) : PL (4 + s) a = 24 + 4 * a + s := by unfold PL; rw [if_neg (by omega), if_pos (by omega)]; omega
theorem PR_seen {s : Int} (h : 0 ≤ s ∧ s < 3) : PR (4 + s) = 49 := by unfold PR; rw [if_neg (by omega), if_neg (by omega), if_pos (by omega)]
theorem PI_seen {a s : Int} (h : 0 ≤ s ∧ s < 3) : PI (4 + s) a = 3 * a + s := by unfold PI; rw [if_neg (by omega), if_neg (by omega), if_pos (by omega)]; omega
theorem LO_seen {s : Int} (h : 0 ≤ s ∧ s < 3) : LO (4 + s) = -1 ∧ HI (4 + s) = 3 := by
  constructor
  · unfold LO; rw [if_pos (by omega)]
  · unfold HI; rw [if_neg (by omega), if_pos (by omega)]
theorem HV_seen {w : WD} (h : HV w) {a s : Int} (ha : 0 ≤ a ∧ a < 5) (hs : 0 ≤ s ∧ s < 3) : w 49 (3 * a + s) = w 2 (24 + 4 * a + s) ∧ -1 ≤ w 2 (24 + 4 * a + s) ∧ w 2 (24 + 4 * a + s) ≤ 3 := by
  have := h (4 + s) a ⟨by omega, by omega, by omega, by omega, by omega, by omega, by omega⟩
  rw [PL_seen hs, PR_seen hs, PI_seen hs, (LO_seen hs).1, (LO_seen hs).2] at this
  exact this
theorem l_remember {K : WD → Option (Int × WD)} {Q : Int → WD → Prop} : ∀ (f : Nat) (x : Int) (w : WD), 0 ≤ x → x ≤ 15 → 15 - x < f → (0 ≤ w 1 4 ∧ w 1 4 ≤ 6 ∧ 0 ≤ w 1 5 ∧ w 1 5 ≤ 5) →
    (∀ u : WD, (∀ k, k ≠ 26 → u k = w k) → (∀ i, x ≤ i → i < 3 * w 1 5 → u 26 i = w 2 (24 + 4 * (i / 3) + i % 3)) → (∀ i, i < x → u 26 i = w 26 i) → WI (K u) Q) → WI (fNi_remember_l55 K f x w) Q
  | 0, x, w, _, _, h, _, _ => by exfalso; omega
  | f + 1, x, w, h1, h2, h3, hp, hK => by
    show WI (fNi_remember_l55_b (fNi_remember_l55 K f) K x w) Q
    unfold fNi_remember_l55_b
    refine i_if (fun q => hK w (fun _ _ => rfl) (fun i i1 i2 => by omega) (fun _ _ => rfl)) (fun q => ?_)
    obtain ⟨e1, e2⟩ := td3 h1
    rw [e1, e2, w32_i (x := x / 3) (by omega) (by omega), w32_i (x := 4 + x % 3) (by omega) (by omega), w32_i (x := x + 1) (by omega) (by omega)]
    have go : ∀ r : Int, (x < 3 * w 1 5 → r = w 2 (24 + 4 * (x / 3) + x % 3)) → WI (ck (0 ≤ x ∧ x < 15) (bw (up w 26 x r) fun u11 => bv (x + 1) fun v1_12 => fNi_remember_l55 K f v1_12 u11)) Q := by
      intro r hr
      refine i_ck (by omega) (i_bw (i_bv (l_remember f (x + 1) _ (by omega) (by omega) (by omega) (by simp (disch := omega) only [not_true_eq_false, not_false_eq_true, true_and, and_true, up_r, up_k, ur_s, ur_e, ur_i, cp_k, w32_i, w64_i, w8_i]; exact hp) (fun u u1 u2 u3 => hK u (fun k hk => ?_) (fun i i1 i2 => ?_) (fun i i1 => ?_)))))
      · rw [u1 k hk]; simp (disch := omega) only [not_true_eq_false, not_false_eq_true, true_and, and_true, up_r, up_k, ur_s, ur_e, ur_i, cp_k, w32_i, w64_i, w8_i]
      · by_cases hi : i = x
        · subst hi
          rw [u3 i (by omega)]
          simp (disch := omega) only [not_true_eq_false, not_false_eq_true, true_and, and_true, up_r, up_k, ur_s, ur_e, ur_i, cp_k, w32_i, w64_i, w8_i]
          exact hr i2
        · have := u2 i (by omega) (by simp (disch := omega) only [not_true_eq_false, not_false_eq_true, true_and, and_true, up_r, up_k, ur_s, ur_e, ur_i, cp_k, w32_i, w64_i, w8_i]; exact i2)
          rw [this]
          simp (disch := omega) only [not_true_eq_false, not_false_eq_true, true_and, and_true, up_r, up_k, ur_s, ur_e, ur_i, cp_k, w32_i, w64_i, w8_i]
      · rw [u3 i (by omega)]
        simp (disch := omega) only [not_true_eq_false, not_false_eq_true, true_and, and_true, up_r, up_k, ur_s, ur_e, ur_i, cp_k, w32_i, w64_i, w8_i]
    refine i_ci (s_at hp (fun z => go _ (fun _ => by rw [PL_seen (by omega)])) (fun z => go 0 (fun zz => ?_)))
    exfalso
    exact z ⟨by omega, by omega, by omega, by omega, by omega, by omega, by omega⟩
theorem l_image23 {K : WD → Option (Int × WD)} {Q : Int → WD → Prop} : ∀ (f : Nat) (x : Int) (w : WD), 0 ≤ x → x ≤ 15 → 15 - x < f → (0 ≤ w 46 4 ∧ w 46 4 ≤ 5) →
    (∀ u : WD, (∀ k, k ≠ 76 → u k = w k) → (∀ i, x ≤ i → i < 3 * w 46 4 → u 76 i = w 49 i) → (∀ i, i < x → u 76 i = w 76 i) → WI (K u) Q) → WI (fR_image_l23 K f x w) Q
  | 0, x, w, _, _, h, _, _ => by exfalso; omega
  | f + 1, x, w, h1, h2, h3, hp, hK => by
    show WI (fR_image_l23_b (fR_image_l23 K f) K x w) Q
    unfold fR_image_l23_b
    rw [w32_i (x := 3 * w 46 4) (by omega) (by omega), w32_i (x := x + 1) (by omega) (by omega)]
    refine i_if (fun q => hK w (fun _ _ => rfl) (fun i i1 i2 => by omega) (fun _ _ => rfl)) (fun q => ?_)
    refine i_ck (by omega) (i_ck (by omega) (i_bw (i_bv (l_image23 f (x + 1) _ (by omega) (by omega) (by omega) (by simp (disch := omega) only [not_true_eq_false, not_false_eq_true, true_and, and_true, up_r, up_k, ur_s, ur_e, ur_i, cp_k, w32_i, w64_i, w8_i]; exact hp) (fun u u1 u2 u3 => hK u (fun k hk => ?_) (fun i i1 i2 => ?_) (fun i i1 => ?_))))))
    · rw [u1 k hk]; simp (disch := omega) only [not_true_eq_false, not_false_eq_true, true_and, and_true, up_r, up_k, ur_s, ur_e, ur_i, cp_k, w32_i, w64_i, w8_i]
    · by_cases hi : i = x
      · subst hi
        rw [u3 i (by omega)]
        simp (disch := omega) only [not_true_eq_false, not_false_eq_true, true_and, and_true, up_r, up_k, ur_s, ur_e, ur_i, cp_k, w32_i, w64_i, w8_i]
      · have := u2 i (by omega) (by simp (disch := omega) only [not_true_eq_false, not_false_eq_true, true_and, and_true, up_r, up_k, ur_s, ur_e, ur_i, cp_k, w32_i, w64_i, w8_i]; exact i2)
        rw [this]
        simp (disch := omega) only [not_true_eq_false, not_false_eq_true, true_and, and_true, up_r, up_k, ur_s, ur_e, ur_i, cp_k, w32_i, w64_i, w8_i]
    · rw [u3 i (by omega)]
      simp (disch := omega) only [not_true_eq_false, not_false_eq_true, true_and, and_true, up_r, up_k, ur_s, ur_e, ur_i, cp_k, w32_i, w64_i, w8_i]
theorem l_image53 {K : WD → Option (Int × WD)} {Q : Int → WD → Prop} : ∀ (f : Nat) (x : Int) (w : WD), 0 ≤ x → x ≤ 5 → 5 - x < f → (0 ≤ w 46 4 ∧ w 46 4 ≤ 5) → (∀ i, 0 ≤ i → i < w 46 4 → BIT (w 74 i)) →
    (∀ u : WD, (∀ k, k ≠ 77 → k ≠ 78 → u k = w k) → (∀ i, x ≤ i → i < w 46 4 → u 77 i = w 73 i ∧ u 78 i = w 74 i) → (∀ i, i < x → u 77 i = w 77 i ∧ u 78 i = w 78 i) → WI (K u) Q) → WI (fR_image_l53 K f x w) Q
  | 0, x, w, _, _, h, _, _, _ => by exfalso; omega
  | f + 1, x, w, h1, h2, h3, hp, hb, hK => by
    show WI (fR_image_l53_b (fR_image_l53 K f) K x w) Q
    unfold fR_image_l53_b
    rw [w32_i (x := x + 1) (by omega) (by omega)]
    refine i_if (fun q => hK w (fun _ _ _ => rfl) (fun i i1 i2 => by omega) (fun _ _ => ⟨rfl, rfl⟩)) (fun q => ?_)
    have b1 := hb x h1 (by omega)
    unfold BIT at b1
    refine i_ck (by omega) (i_ck (by omega) (i_bw (i_ck (by omega) (i_ck (by omega) (i_bw (i_bv (l_image53 f (x + 1) _ (by omega) (by omega) (by omega) (by simp (disch := omega) only [not_true_eq_false, not_false_eq_true, true_and, and_true, up_r, up_k, ur_s, ur_e, ur_i, cp_k, w32_i, w64_i, w8_i]; exact hp) (by simp (disch := omega) only [not_true_eq_false, not_false_eq_true, true_and, and_true, up_r, up_k, ur_s, ur_e, ur_i, cp_k, w32_i, w64_i, w8_i]; exact hb) (fun u u1 u2 u3 => hK u (fun k hk hk' => ?_) (fun i i1 i2 => ?_) (fun i i1 => ?_)))))))))
    · rw [u1 k hk hk']; simp (disch := omega) only [not_true_eq_false, not_false_eq_true, true_and, and_true, up_r, up_k, ur_s, ur_e, ur_i, cp_k, w32_i, w64_i, w8_i]
    · by_cases hi : i = x
      · subst hi
        rw [(u3 i (by omega)).1, (u3 i (by omega)).2]
        simp (disch := omega) only [not_true_eq_false, not_false_eq_true, true_and, and_true, up_r, up_k, ur_s, ur_e, ur_i, cp_k, w32_i, w64_i, w8_i]
        omega
      · have := u2 i (by omega) (by simp (disch := omega) only [not_true_eq_false, not_false_eq_true, true_and, and_true, up_r, up_k, ur_s, ur_e, ur_i, cp_k, w32_i, w64_i, w8_i]; exact i2)
        rw [this.1, this.2]
        simp (disch := omega) only [not_true_eq_false, not_false_eq_true, true_and, and_true, up_r, up_k, ur_s, ur_e, ur_i, cp_k, w32_i, w64_i, w8_i]
    · rw [(u3 i (by omega)).1, (u3 i (by omega)).2]
      simp (disch := omega) only [not_true_eq_false, not_false_eq_true, true_and, and_true, up_r, up_k, ur_s, ur_e, ur_i, cp_k, w32_i, w64_i, w8_i]
theorem l_image93 {K : WD → Option (Int × WD)} {Q : Int → WD → Prop} : ∀ (f : Nat) (x : Int) (w : WD), 0 ≤ x → x ≤ 4 → 4 - x < f →
    (∀ u : WD, (∀ k, k ≠ 79 → u k = w k) → (∀ i, x ≤ i → i < 4 → u 79 i = w 75 i) → (∀ i, i < x → u 79 i = w 79 i) → WI (K u) Q) → WI (fR_image_l93 K f x w) Q
  | 0, x, w, _, _, h, _ => by exfalso; omega
  | f + 1, x, w, h1, h2, h3, hK => by
    show WI (fR_image_l93_b (fR_image_l93 K f) K x w) Q
    unfold fR_image_l93_b
    rw [w32_i (x := x + 1) (by omega) (by omega)]
    refine i_if (fun q => hK w (fun _ _ => rfl) (fun i i1 i2 => by omega) (fun _ _ => rfl)) (fun q => ?_)
    refine i_ck (by omega) (i_ck (by omega) (i_bw (i_bv (l_image93 f (x + 1) _ (by omega) (by omega) (by omega) (fun u u1 u2 u3 => hK u (fun k hk => ?_) (fun i i1 i2 => ?_) (fun i i1 => ?_))))))
    · rw [u1 k hk]; simp (disch := omega) only [not_true_eq_false, not_false_eq_true, true_and, and_true, up_r, up_k, ur_s, ur_e, ur_i, cp_k, w32_i, w64_i, w8_i]
    · by_cases hi : i = x
      · subst hi
        rw [u3 i (by omega)]
        simp (disch := omega) only [not_true_eq_false, not_false_eq_true, true_and, and_true, up_r, up_k, ur_s, ur_e, ur_i, cp_k, w32_i, w64_i, w8_i]
      · have := u2 i (by omega) i2
        rw [this]
        simp (disch := omega) only [not_true_eq_false, not_false_eq_true, true_and, and_true, up_r, up_k, ur_s, ur_e, ur_i, cp_k, w32_i, w64_i, w8_i]
    · rw [u3 i (by omega)]
      simp (disch := omega) only [not_true_eq_false, not_false_eq_true, true_and, and_true, up_r, up_k, ur_s, ur_e, ur_i, cp_k, w32_i, w64_i, w8_i]
theorem op_image : op0 Inv fB_image fR_image := by
  intro w hI
  obtain ⟨hH, hC, hT, hL, hN, hK, hS, hB⟩ := id hI
  obtain ⟨p0, p6, pr, m0, m5, mr, hV⟩ := id hH
  obtain ⟨n1, n2, n3, n4, n5⟩ := id hN
  have hp : 0 ≤ w 1 4 ∧ w 1 4 ≤ 6 ∧ 0 ≤ w 1 5 ∧ w 1 5 ≤ 5 := ⟨p0, p6, m0, m5⟩
  refine same_of ?_
  unfold fB_image fNi_remember fHa_masks
  refine i_ci (i_ci (i_some (i_bw (i_ck (by decide) (i_bw (i_ck (by decide) (i_bw (i_ck (by decide) (i_bw ?_)))))))))
  refine l_remember FU 0 _ (by decide) (by decide) (by decide) (by simp (disch := omega) only [not_true_eq_false, not_false_eq_true, true_and, and_true, up_r, up_k, ur_s, ur_e, ur_i, cp_k, w32_i, w64_i, w8_i]; exact hp) (fun u u1 u2 u3 => i_some (i_some ?_))
  unfold fR_image
  refine i_bw (i_bw (i_bw ?_))
  have f46 : u 46 = w 46 := by rw [u1 46 (by decide)]; simp (disch := omega) only [not_true_eq_false, not_false_eq_true, true_and, and_true, up_r, up_k, ur_s, ur_e, ur_i, cp_k, w32_i, w64_i, w8_i]
  refine l_image23 FU 0 _ (by decide) (by decide) (by decide) (by simp (disch := omega) only [not_true_eq_false, not_false_eq_true, true_and, and_true, up_r, up_k, ur_s, ur_e, ur_i, cp_k, w32_i, w64_i, w8_i, f46]; omega) (fun v v1 v2 v3 => ?_)
  have g46 : v 46 = ur (ur (ur (w 46) 51 1) 52 (w 46 4)) 53 (w 46 49) := by rw [v1 46 (by decide)]; simp (disch := omega) only [not_true_eq_false, not_false_eq_true, true_and, and_true, up_r, up_k, ur_s, ur_e, ur_i, cp_k, w32_i, w64_i, w8_i, f46]
  have vk : ∀ k, k ≠ 46 → k ≠ 76 → v k = u k := fun k h1 h2 => by rw [v1 k h2]; simp (disch := omega) only [not_true_eq_false, not_false_eq_true, true_and, and_true, up_r, up_k, ur_s, ur_e, ur_i, cp_k, w32_i, w64_i, w8_i]
  have u74 : u 74 = w 74 := by rw [u1 74 (by decide)]; simp (disch := omega) only [not_true_eq_false, not_false_eq_true, true_and, and_true, up_r, up_k, ur_s, ur_e, ur_i, cp_k, w32_i, w64_i, w8_i]
  have u73 : u 73 = w 73 := by rw [u1 73 (by decide)]; simp (disch := omega) only [not_true_eq_false, not_false_eq_true, true_and, and_true, up_r, up_k, ur_s, ur_e, ur_i, cp_k, w32_i, w64_i, w8_i]
  have u75 : u 75 = w 75 := by rw [u1 75 (by decide)]; simp (disch := omega) only [not_true_eq_false, not_false_eq_true, true_and, and_true, up_r, up_k, ur_s, ur_e, ur_i, cp_k, w32_i, w64_i, w8_i]
  refine l_image53 FU 0 _ (by decide) (by decide) (by decide) (by rw [g46]; simp (disch := omega) only [not_true_eq_false, not_false_eq_true, true_and, and_true, up_r, up_k, ur_s, ur_e, ur_i, cp_k, w32_i, w64_i, w8_i]; omega) (fun i i1 i2 => ?_) (fun s s1 s2 s3 => ?_)
  · rw [g46] at i2
    simp (disch := omega) only [not_true_eq_false, not_false_eq_true, true_and, and_true, up_r, up_k, ur_s, ur_e, ur_i, cp_k, w32_i, w64_i, w8_i] at i2
    rw [vk 74 (by decide) (by decide), u74]
    obtain ⟨z1, z2, z3, z4⟩ := n1 i i1 (by omega)
    rw [(z3 (by omega)).2]
    exact z2
  have h46 : s 46 = ur (ur (ur (w 46) 51 1) 52 (w 46 4)) 53 (w 46 49) := by rw [s1 46 (by decide) (by decide), g46]
  refine l_image93 FU 0 _ (by decide) (by decide) (by decide) (fun t t1 t2 t3 => i_some ?_)
  have k46 : t 46 = ur (ur (ur (w 46) 51 1) 52 (w 46 4)) 53 (w 46 49) := by rw [t1 46 (by decide), h46]
  have tk : ∀ k, k ≠ 19 → k ≠ 23 → k ≠ 24 → k ≠ 25 → k ≠ 26 → k ≠ 46 → k ≠ 76 → k ≠ 77 → k ≠ 78 → k ≠ 79 → t k = w k := by
    intro k e1 e2 e3 e4 e5 e6 e7 e8 e9 e10
    rw [t1 k e10, s1 k e8 e9, vk k e6 e7, u1 k e5]
    simp (disch := omega) only [not_true_eq_false, not_false_eq_true, true_and, and_true, up_r, up_k, ur_s, ur_e, ur_i, cp_k, w32_i, w64_i, w8_i]
  refine ⟨?_, IHall_of ?_ hH, ICh_of ?_ hC, ITape_of ?_ hT, ILaw_of ?_ hL, INight_of ?_ hN, ?_, IShelf_of ?_ hS, IBody_of ?_ hB⟩
  · rw [k46, u1 22 (by decide)]
    simp (disch := omega) only [not_true_eq_false, not_false_eq_true, true_and, and_true, up_r, up_k, ur_s, ur_e, ur_i, cp_k, w32_i, w64_i, w8_i]
    exact n2
  · refine ⟨?_, ?_, ?_, ?_, ?_, ?_, ?_, ?_, ?_, ?_, ?_⟩ <;> (try rw [k46]) <;> simp (disch := omega) only [not_true_eq_false, not_false_eq_true, true_and, and_true, up_r, up_k, ur_s, ur_e, ur_i, cp_k, w32_i, w64_i, w8_i, tk]
  · refine ⟨?_, ?_, ?_, ?_, ?_, ?_, ?_, ?_, ?_, ?_, ?_⟩ <;> (try rw [k46]) <;> simp (disch := omega) only [not_true_eq_false, not_false_eq_true, true_and, and_true, up_r, up_k, ur_s, ur_e, ur_i, cp_k, w32_i, w64_i, w8_i, tk]
  · refine ⟨?_, ?_, ?_, ?_⟩ <;> (try rw [k46]) <;> simp (disch := omega) only [not_true_eq_false, not_false_eq_true, true_and, and_true, up_r, up_k, ur_s, ur_e, ur_i, cp_k, w32_i, w64_i, w8_i, tk]
  · refine ⟨?_, ?_, ?_, ?_, ?_, ?_, ?_, ?_⟩ <;> (try rw [k46]) <;> simp (disch := omega) only [not_true_eq_false, not_false_eq_true, true_and, and_true, up_r, up_k, ur_s, ur_e, ur_i, cp_k, w32_i, w64_i, w8_i, tk]
  · refine ⟨?_, ?_, ?_, ?_, ?_, ?_, ?_, ?_, ?_⟩ <;> (try rw [k46]) <;> simp (disch := omega) only [not_true_eq_false, not_false_eq_true, true_and, and_true, up_r, up_k, ur_s, ur_e, ur_i, cp_k, w32_i, w64_i, w8_i, tk]
  · right
    have w19 : t 19 8 = w 1 5 := by rw [t1 19 (by decide), s1 19 (by decide) (by decide), vk 19 (by decide) (by decide), u1 19 (by decide)]; simp (disch := omega) only [not_true_eq_false, not_false_eq_true, true_and, and_true, up_r, up_k, ur_s, ur_e, ur_i, cp_k, w32_i, w64_i, w8_i]
    have w23 : ∀ m, 0 ≤ m → m < 5 → t 23 m = w 20 m := fun m h1 h2 => by rw [t1 23 (by decide), s1 23 (by decide) (by decide), vk 23 (by decide) (by decide), u1 23 (by decide)]; simp (disch := omega) only [not_true_eq_false, not_false_eq_true, true_and, and_true, up_r, up_k, ur_s, ur_e, ur_i, cp_k, w32_i, w64_i, w8_i, cp_e]; congr 1; omega
    have w24 : ∀ m, 0 ≤ m → m < 5 → t 24 m = w 21 m := fun m h1 h2 => by rw [t1 24 (by decide), s1 24 (by decide) (by decide), vk 24 (by decide) (by decide), u1 24 (by decide)]; simp (disch := omega) only [not_true_eq_false, not_false_eq_true, true_and, and_true, up_r, up_k, ur_s, ur_e, ur_i, cp_k, w32_i, w64_i, w8_i, cp_e]; congr 1; omega
    have w25 : ∀ m, 0 ≤ m → m < 5 → t 25 m = w 22 m := fun m h1 h2 => by rw [t1 25 (by decide), s1 25 (by decide) (by decide), vk 25 (by decide) (by decide), u1 25 (by decide)]; simp (disch := omega) only [not_true_eq_false, not_false_eq_true, true_and, and_true, up_r, up_k, ur_s, ur_e, ur_i, cp_k, w32_i, w64_i, w8_i, cp_e]; congr 1; omega
    rw [k46, w19, tk 1 (by decide) (by decide) (by decide) (by decide) (by decide) (by decide) (by decide) (by decide) (by decide) (by decide), w25 0 (by decide) (by decide)]
    simp (disch := omega) only [not_true_eq_false, not_false_eq_true, true_and, and_true, up_r, up_k, ur_s, ur_e, ur_i, cp_k, w32_i, w64_i, w8_i]
    refine ⟨mr, m0, by omega, fun m h1 h2 => ?_, n2, n3, n4, fun k h1 h2 => ?_, fun k h1 h2 => ?_⟩
    · obtain ⟨z1, z2, z3, z4⟩ := n1 m h1 h2
      rw [w23 m h1 h2, w24 m h1 h2]
      refine ⟨z1, z2, fun q => ?_, z4⟩
      rw [t1 77 (by decide), t1 78 (by decide)]
      obtain ⟨y1, y2⟩ := s2 m h1 (by rw [g46]; simp (disch := omega) only [not_true_eq_false, not_false_eq_true, true_and, and_true, up_r, up_k, ur_s, ur_e, ur_i, cp_k, w32_i, w64_i, w8_i]; omega)
      rw [y1, y2, vk 73 (by decide) (by decide), vk 74 (by decide) (by decide), u73, u74]
      exact z3 q
    · rw [t2 k h1 h2, s1 75 (by decide) (by decide), vk 75 (by decide) (by decide), u75, w25 (k + 1) (by omega) (by omega)]
      exact n5 k h1 h2
    · have y := v2 k h1 (by simp (disch := omega) only [not_true_eq_false, not_false_eq_true, true_and, and_true, up_r, up_k, ur_s, ur_e, ur_i, cp_k, w32_i, w64_i, w8_i, f46]; omega)
      have x := u2 k h1 (by simp (disch := omega) only [not_true_eq_false, not_false_eq_true, true_and, and_true, up_r, up_k, ur_s, ur_e, ur_i, cp_k, w32_i, w64_i, w8_i]; exact h2)
      simp (disch := omega) only [not_true_eq_false, not_false_eq_true, true_and, and_true, up_r, up_k, ur_s, ur_e, ur_i, cp_k, w32_i, w64_i, w8_i] at x
      simp (disch := omega) only [not_true_eq_false, not_false_eq_true, true_and, and_true, up_r, up_k, ur_s, ur_e, ur_i, cp_k, w32_i, w64_i, w8_i] at y
      rw [t1 76 (by decide), s1 76 (by decide) (by decide), y, t1 26 (by decide), s1 26 (by decide) (by decide), vk 26 (by decide) (by decide), x, u1 49 (by decide)]
      simp (disch := omega) only [not_true_eq_false, not_false_eq_true, true_and, and_true, up_r, up_k, ur_s, ur_e, ur_i, cp_k, w32_i, w64_i, w8_i]
      have := HV_seen hV (a := k / 3) (s := k % 3) (by omega) (by omega)
      rw [show 3 * (k / 3) + k % 3 = k by omega] at this
      exact this
  · refine ⟨?_, ?_, ?_, ?_, ?_⟩
    · intro k h1 h2
      simp (disch := omega) only [not_true_eq_false, not_false_eq_true, true_and, and_true, up_r, up_k, ur_s, ur_e, ur_i, cp_k, w32_i, w64_i, w8_i, tk]
    all_goals simp (disch := omega) only [not_true_eq_false, not_false_eq_true, true_and, and_true, up_r, up_k, ur_s, ur_e, ur_i, cp_k, w32_i, w64_i, w8_i, tk]
  · refine ⟨?_, ?_, ?_, ?_, ?_, ?_, ?_, ?_⟩ <;> (try rw [k46]) <;> simp (disch := omega) only [not_true_eq_false, not_false_eq_true, true_and, and_true, up_r, up_k, ur_s, ur_e, ur_i, cp_k, w32_i, w64_i, w8_i, tk]
