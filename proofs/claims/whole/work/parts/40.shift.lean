theorem cp_n {w : WD} {k0 sp k1 dp q i' : Int} (h : ¬ (dp ≤ i' ∧ i' < dp + q)) : cp w k0 sp k1 dp q k1 i' = w k1 i' := if_neg (fun z => h z.2)
theorem cp_0 {w : WD} {k0 sp k1 dp q : Int} (h : q ≤ 0) : cp w k0 sp k1 dp q = w := by
  funext k' i
  unfold cp
  rw [if_neg (by omega)]
theorem cp_step {w : WD} {k0 sp k1 dp q : Int} (hk : k0 ≠ k1) (h : 0 < q) : cp (up w k1 dp (w k0 sp)) k0 (sp + 1) k1 (dp + 1) (q - 1) = cp w k0 sp k1 dp q := by
  funext k' i
  unfold cp
  rw [up_k hk]
  unfold up
  by_cases h1 : k' = k1
  · subst h1
    by_cases h2 : i = dp
    · subst h2
      rw [if_neg (by omega), if_pos ⟨rfl, rfl⟩, if_pos ⟨rfl, by omega, by omega⟩]
      congr 1
      omega
    · by_cases h3 : dp ≤ i ∧ i < dp + q
      · rw [if_pos ⟨rfl, by omega, by omega⟩, if_pos ⟨rfl, h3⟩]
        congr 1
        omega
      · rw [if_neg (by omega), if_neg (by omega), if_neg (by omega)]
  · rw [if_neg (fun q => h1 q.1), if_neg (fun q => h1 q.1), if_neg (fun q => h1 q.1)]
theorem l_shift1 {y1 y2 y3 y4 n : Int} {K : WD → Option (Int × WD)} {Q : Int → WD → Prop} (hy : 0 ≤ 60 * y1 + y2 ∧ 60 * y1 + y2 + n ≤ 360 ∧ 0 ≤ n ∧ n ≤ 60) (hb : I32 y2) (hy1 : 0 ≤ y1 ∧ y1 < 6) (h0 : 0 ≤ y2 ∧ y2 ≤ 60) : ∀ (f : Nat) (x : Int) (w : WD), 0 ≤ x → x ≤ n → n - x < f → WI (K (cp w 84 (60 * y1 + y2 + x) 85 x (n - x))) Q → WI (fR_shift_l113 y1 y2 y3 y4 n K f x w) Q
  | 0, x, w, _, _, h, _ => by exfalso; omega
  | f + 1, x, w, h1, h2, h3, hK => by
    show WI (fR_shift_l113_b (fR_shift_l113 y1 y2 y3 y4 n K f) y1 y2 y3 y4 n K x w) Q
    (repeat' (first | (with_reducible refine i_some ?_) | (with_reducible refine v_some ?_) | (with_reducible refine i_ci ?_) | (with_reducible refine i_cv ?_) | (with_reducible refine v_ci ?_) | (with_reducible refine v_cv ?_) | (with_reducible refine i_bv ?_) | (with_reducible refine v_bv ?_) | (with_reducible refine i_bw ?_) | (with_reducible refine v_bw ?_) | (with_reducible refine i_jn ?_) | (with_reducible refine v_jn ?_) | (with_reducible refine i_ck ?_ ?_) | (with_reducible refine v_ck ?_ ?_) | ((with_reducible refine i_if (fun hc => ?_) (fun hc => ?_)) <;> (try simp (disch := omega) only [not_true_eq_false, not_false_eq_true, true_and, and_true, up_r, up_k, ur_s, ur_e, ur_i, cp_k, w32_i, w64_i, w8_i] at hc) <;> (try (exfalso; omega))) | ((with_reducible refine v_if (fun hc => ?_) (fun hc => ?_)) <;> (try simp (disch := omega) only [not_true_eq_false, not_false_eq_true, true_and, and_true, up_r, up_k, ur_s, ur_e, ur_i, cp_k, w32_i, w64_i, w8_i] at hc) <;> (try (exfalso; omega))) | unfold fR_shift_l113_b))
    · rw [cp_0 (by omega)] at hK
      exact hK
    · simp (disch := omega) only [not_true_eq_false, not_false_eq_true, true_and, and_true, up_r, up_k, ur_s, ur_e, ur_i, cp_k, w32_i, w64_i, w8_i]; omega
    · omega
    · simp (disch := omega) only [not_true_eq_false, not_false_eq_true, true_and, and_true, up_r, up_k, ur_s, ur_e, ur_i, cp_k, w32_i, w64_i, w8_i]
      refine l_shift1 hy hb hy1 h0 f (x + 1) _ (by omega) (by omega) (by omega) ?_
      have e1 : 60 * y1 + y2 + (x + 1) = 60 * y1 + y2 + x + 1 := by omega
      have e2 : n - (x + 1) = n - x - 1 := by omega
      rw [e1, e2, cp_step (by decide) (by omega)]
      exact hK
theorem l_shift2 {y3 y4 n : Int} {Q : Int → WD → Prop} (hy : 0 ≤ 60 * y3 + y4 ∧ 60 * y3 + y4 + n ≤ 360 ∧ 0 ≤ n ∧ n ≤ 60) (hy1 : 0 ≤ y3 ∧ y3 < 6) (h0 : 0 ≤ y4 ∧ y4 ≤ 60) : ∀ (f : Nat) (x : Int) (w : WD), 0 ≤ x → x ≤ n → n - x < f → Q n (cp w 85 x 84 (60 * y3 + y4 + x) (n - x)) → WI (fR_shift_l150 y3 y4 n f x w) Q
  | 0, x, w, _, _, h, _ => by exfalso; omega
  | f + 1, x, w, h1, h2, h3, hK => by
    show WI (fR_shift_l150_b (fR_shift_l150 y3 y4 n f) y3 y4 n x w) Q
    (repeat' (first | (with_reducible refine i_some ?_) | (with_reducible refine v_some ?_) | (with_reducible refine i_ci ?_) | (with_reducible refine i_cv ?_) | (with_reducible refine v_ci ?_) | (with_reducible refine v_cv ?_) | (with_reducible refine i_bv ?_) | (with_reducible refine v_bv ?_) | (with_reducible refine i_bw ?_) | (with_reducible refine v_bw ?_) | (with_reducible refine i_jn ?_) | (with_reducible refine v_jn ?_) | (with_reducible refine i_ck ?_ ?_) | (with_reducible refine v_ck ?_ ?_) | ((with_reducible refine i_if (fun hc => ?_) (fun hc => ?_)) <;> (try simp (disch := omega) only [not_true_eq_false, not_false_eq_true, true_and, and_true, up_r, up_k, ur_s, ur_e, ur_i, cp_k, w32_i, w64_i, w8_i] at hc) <;> (try (exfalso; omega))) | ((with_reducible refine v_if (fun hc => ?_) (fun hc => ?_)) <;> (try simp (disch := omega) only [not_true_eq_false, not_false_eq_true, true_and, and_true, up_r, up_k, ur_s, ur_e, ur_i, cp_k, w32_i, w64_i, w8_i] at hc) <;> (try (exfalso; omega))) | unfold fR_shift_l150_b))
    · rw [cp_0 (by omega)] at hK
      exact hK
    · omega
    · simp (disch := omega) only [not_true_eq_false, not_false_eq_true, true_and, and_true, up_r, up_k, ur_s, ur_e, ur_i, cp_k, w32_i, w64_i, w8_i]; omega
    · simp (disch := omega) only [not_true_eq_false, not_false_eq_true, true_and, and_true, up_r, up_k, ur_s, ur_e, ur_i, cp_k, w32_i, w64_i, w8_i]
      refine l_shift2 hy hy1 h0 f (x + 1) _ (by omega) (by omega) (by omega) ?_
      have e1 : 60 * y3 + y4 + (x + 1) = 60 * y3 + y4 + x + 1 := by omega
      have e2 : n - (x + 1) = n - x - 1 := by omega
      rw [e1, e2, cp_step (by decide) (by omega)]
      exact hK
theorem shelf_facts {w : WD} (h : IShelf w) {o : Int} (h1 : 0 ≤ o ∧ o < 6) : (w (34 + 2 * o) 1 = -1 ∧ w (34 + 2 * o) 2 = -1 ∧ w 82 o = -1) ∨ (0 ≤ w (34 + 2 * o) 1 ∧ w (34 + 2 * o) 2 = -1 ∧ w 82 o = w (34 + 2 * o) 1) ∨ (w (34 + 2 * o) 1 = -1 ∧ 0 ≤ w (34 + 2 * o) 2 ∧ w (34 + 2 * o) 2 ≤ 4 ∧ w 82 o = -2 - w (34 + 2 * o) 2 ∧ 0 ≤ w (34 + 2 * o) 3 ∧ w (34 + 2 * o) 3 ≤ 60 ∧ w 83 o = w (34 + 2 * o) 3) := by
  rcases h o h1.1 h1.2 with ⟨c1, c2, c3⟩ | ⟨c1, c2, c3, c4⟩ | ⟨c1, c2, c3, c4, c5, c6, c7, c8⟩
  · exact Or.inl ⟨c1, c2, c3⟩
  · exact Or.inr (Or.inl ⟨c1, c3, c4⟩)
  · exact Or.inr (Or.inr ⟨c1, c2, c3, c4, c5, c6, c7⟩)
theorem op_shift : op5 Inv fB_shift fR_shift := by
  intro a i c j n w ha hi hc' hj hn hI
  obtain ⟨hH, hC, hT, hL, hN, hK, hS, hB⟩ := id hI
  unfold I32 at hi hj hn
  refine same_of ?_
  by_cases hs : (0 ≤ a ∧ a < 6) ∧ 0 ≤ c ∧ c < 6
  · obtain ⟨hsa, hsc⟩ := hs
    have fa := shelf_facts hS hsa
    have fc := shelf_facts hS hsc
    (repeat' (first | (with_reducible refine i_some ?_) | (with_reducible refine v_some ?_) | (with_reducible refine i_ci ?_) | (with_reducible refine i_cv ?_) | (with_reducible refine v_ci ?_) | (with_reducible refine v_cv ?_) | (with_reducible refine i_bv ?_) | (with_reducible refine v_bv ?_) | (with_reducible refine i_bw ?_) | (with_reducible refine v_bw ?_) | (with_reducible refine i_jn ?_) | (with_reducible refine v_jn ?_) | (with_reducible refine i_ck ?_ ?_) | (with_reducible refine v_ck ?_ ?_) | ((with_reducible refine i_if (fun hc => ?_) (fun hc => ?_)) <;> (try simp (disch := omega) only [not_true_eq_false, not_false_eq_true, true_and, and_true, up_r, up_k, ur_s, ur_e, ur_i, cp_k, w32_i, w64_i, w8_i] at hc) <;> (try (exfalso; omega))) | ((with_reducible refine v_if (fun hc => ?_) (fun hc => ?_)) <;> (try simp (disch := omega) only [not_true_eq_false, not_false_eq_true, true_and, and_true, up_r, up_k, ur_s, ur_e, ur_i, cp_k, w32_i, w64_i, w8_i] at hc) <;> (try (exfalso; omega))) | unfold fB_shift | unfold fB_isShelf | unfold fSh_isEmpty | unfold fSh_isRow | unfold fSh_sort | unfold fSh_hasPart | unfold fSh_copyTo))
    all_goals first
      | omega
      | (simp (disch := omega) only [not_true_eq_false, not_false_eq_true, true_and, and_true, up_r, up_k, ur_s, ur_e, ur_i, cp_k, w32_i, w64_i, w8_i]; omega)
      | skip
    all_goals (
      (repeat' (first | (with_reducible refine i_some ?_) | (with_reducible refine v_some ?_) | (with_reducible refine i_ci ?_) | (with_reducible refine i_cv ?_) | (with_reducible refine v_ci ?_) | (with_reducible refine v_cv ?_) | (with_reducible refine i_bv ?_) | (with_reducible refine v_bv ?_) | (with_reducible refine i_bw ?_) | (with_reducible refine v_bw ?_) | (with_reducible refine i_jn ?_) | (with_reducible refine v_jn ?_) | (with_reducible refine i_ck ?_ ?_) | (with_reducible refine v_ck ?_ ?_) | ((with_reducible refine i_if (fun hc => ?_) (fun hc => ?_)) <;> (try simp (disch := omega) only [not_true_eq_false, not_false_eq_true, true_and, and_true, up_r, up_k, ur_s, ur_e, ur_i, cp_k, w32_i, w64_i, w8_i] at hc) <;> (try (exfalso; omega))) | ((with_reducible refine v_if (fun hc => ?_) (fun hc => ?_)) <;> (try simp (disch := omega) only [not_true_eq_false, not_false_eq_true, true_and, and_true, up_r, up_k, ur_s, ur_e, ur_i, cp_k, w32_i, w64_i, w8_i] at hc) <;> (try (exfalso; omega))) | unfold fR_shift | unfold fR_isShelf | ((with_reducible apply s_in) <;> (try intro hvc) <;> (try simp (disch := omega) only [not_true_eq_false, not_false_eq_true, true_and, and_true, up_r, up_k, ur_s, ur_e, ur_i, cp_k, w32_i, w64_i, w8_i] at hvc) <;> (try (exfalso; omega)))))
      all_goals first
        | omega
        | exact ⟨by omega, hI⟩
        | (simp (disch := omega) only [not_true_eq_false, not_false_eq_true, true_and, and_true, up_r, up_k, ur_s, ur_e, ur_i, cp_k, w32_i, w64_i, w8_i]; omega)
        | skip)
    all_goals (
      have hn0 : 0 ≤ n := by omega
      have hni : i + n ≤ 60 := by unfold w64 at *; omega
      have hnj : j + n ≤ 60 := by unfold w64 at *; omega
      refine l_shift1 (by omega) (by unfold I32; omega) hsa (by omega) FU 0 _ (by decide) (by omega) (by unfold FU; omega) ?_
      refine l_shift2 (by omega) hsc (by omega) FU 0 _ (by decide) (by omega) (by unfold FU; omega) ⟨rfl, ?_⟩
      refine ⟨(by refine IHall_of ⟨?_, ?_, ?_, ?_, ?_, ?_, ?_, ?_, ?_, ?_, ?_⟩ hH <;> simp (disch := omega) only [not_true_eq_false, not_false_eq_true, true_and, and_true, up_r, up_k, ur_s, ur_e, ur_i, cp_k, w32_i, w64_i, w8_i]), (by refine ICh_of ⟨?_, ?_, ?_, ?_, ?_, ?_, ?_, ?_, ?_, ?_, ?_⟩ hC <;> simp (disch := omega) only [not_true_eq_false, not_false_eq_true, true_and, and_true, up_r, up_k, ur_s, ur_e, ur_i, cp_k, w32_i, w64_i, w8_i]), (by refine ITape_of ⟨?_, ?_, ?_, ?_⟩ hT <;> simp (disch := omega) only [not_true_eq_false, not_false_eq_true, true_and, and_true, up_r, up_k, ur_s, ur_e, ur_i, cp_k, w32_i, w64_i, w8_i]), (by refine ILaw_of ⟨?_, ?_, ?_, ?_, ?_, ?_, ?_, ?_⟩ hL <;> simp (disch := omega) only [not_true_eq_false, not_false_eq_true, true_and, and_true, up_r, up_k, ur_s, ur_e, ur_i, cp_k, w32_i, w64_i, w8_i]), (by refine INight_of ⟨?_, ?_, ?_, ?_, ?_, ?_, ?_, ?_, ?_⟩ hN <;> simp (disch := omega) only [not_true_eq_false, not_false_eq_true, true_and, and_true, up_r, up_k, ur_s, ur_e, ur_i, cp_k, w32_i, w64_i, w8_i]), (by refine IKept_of ⟨?_, ?_, ?_, ?_, ?_, ?_, ?_, ?_, ?_, ?_, ?_, ?_, ?_, ?_⟩ hK <;> simp (disch := omega) only [not_true_eq_false, not_false_eq_true, true_and, and_true, up_r, up_k, ur_s, ur_e, ur_i, cp_k, w32_i, w64_i, w8_i]), ?_, (by refine IBody_of ⟨?_, ?_, ?_, ?_, ?_, ?_, ?_, ?_⟩ hB <;> simp (disch := omega) only [not_true_eq_false, not_false_eq_true, true_and, and_true, up_r, up_k, ur_s, ur_e, ur_i, cp_k, w32_i, w64_i, w8_i])⟩
      have ra : ∀ k, 0 ≤ k → k < 60 → w 84 (60 * a + k) = w (35 + 2 * a) k ∧ (w (34 + 2 * a) 2 = 0 → -128 ≤ w (35 + 2 * a) k ∧ w (35 + 2 * a) k ≤ 127) := by
        rcases hS a hsa.1 hsa.2 with ⟨c1, c2, c3⟩ | ⟨c1, c2, c3, c4⟩ | ⟨c1, c2, c3, c4, c5, c6, c7, c8⟩
        · exfalso; omega
        · exfalso; omega
        · exact c8
      intro o h1 h2
      by_cases ho : o = c
      · subst ho
        simp (disch := omega) only [not_true_eq_false, not_false_eq_true, true_and, and_true, up_r, up_k, ur_s, ur_e, ur_i, cp_k, w32_i, w64_i, w8_i]
        rcases hS o h1 h2 with ⟨c1, c2, c3⟩ | ⟨c1, c2, c3, c4⟩ | ⟨c1, c2, c3, c4, c5, c6, c7, c8⟩
        · exfalso; omega
        · exfalso; omega
        · refine Or.inr (Or.inr ⟨c1, c2, c3, c4, c5, c6, c7, fun k k1 k2 => ?_⟩)
          by_cases hk : j ≤ k ∧ k < j + n
          · simp (disch := omega) only [not_true_eq_false, not_false_eq_true, true_and, and_true, up_r, up_k, ur_s, ur_e, ur_i, cp_k, w32_i, w64_i, w8_i, cp_e]
            have e1 : 60 * a + i + 0 + (0 + (60 * o + k - (60 * o + j + 0)) - 0) = 60 * a + (i + (k - j)) := by omega
            rw [e1]
            obtain ⟨q1, q2⟩ := ra (i + (k - j)) (by omega) (by omega)
            exact ⟨q1, fun q => q2 (by omega)⟩
          · simp (disch := omega) only [not_true_eq_false, not_false_eq_true, true_and, and_true, up_r, up_k, ur_s, ur_e, ur_i, cp_k, w32_i, w64_i, w8_i, cp_n]
            exact c8 k k1 k2
      · simp (disch := omega) only [not_true_eq_false, not_false_eq_true, true_and, and_true, up_r, up_k, ur_s, ur_e, ur_i, cp_k, w32_i, w64_i, w8_i]
        rcases hS o h1 h2 with q | q | ⟨c1, c2, c3, c4, c5, c6, c7, c8⟩
        · exact Or.inl q
        · exact Or.inr (Or.inl q)
        · refine Or.inr (Or.inr ⟨c1, c2, c3, c4, c5, c6, c7, fun k k1 k2 => ?_⟩)
          simp (disch := omega) only [not_true_eq_false, not_false_eq_true, true_and, and_true, up_r, up_k, ur_s, ur_e, ur_i, cp_k, w32_i, w64_i, w8_i, cp_n]
          exact c8 k k1 k2)
  · (repeat' (first | (with_reducible refine i_some ?_) | (with_reducible refine v_some ?_) | (with_reducible refine i_ci ?_) | (with_reducible refine i_cv ?_) | (with_reducible refine v_ci ?_) | (with_reducible refine v_cv ?_) | (with_reducible refine i_bv ?_) | (with_reducible refine v_bv ?_) | (with_reducible refine i_bw ?_) | (with_reducible refine v_bw ?_) | (with_reducible refine i_jn ?_) | (with_reducible refine v_jn ?_) | (with_reducible refine i_ck ?_ ?_) | (with_reducible refine v_ck ?_ ?_) | ((with_reducible refine i_if (fun hc => ?_) (fun hc => ?_)) <;> (try simp (disch := omega) only [not_true_eq_false, not_false_eq_true, true_and, and_true, up_r, up_k, ur_s, ur_e, ur_i, cp_k, w32_i, w64_i, w8_i] at hc) <;> (try (exfalso; omega))) | ((with_reducible refine v_if (fun hc => ?_) (fun hc => ?_)) <;> (try simp (disch := omega) only [not_true_eq_false, not_false_eq_true, true_and, and_true, up_r, up_k, ur_s, ur_e, ur_i, cp_k, w32_i, w64_i, w8_i] at hc) <;> (try (exfalso; omega))) | unfold fB_shift | unfold fB_isShelf | unfold fR_shift | unfold fR_isShelf | ((with_reducible apply s_in) <;> (try intro hvc) <;> (try simp (disch := omega) only [not_true_eq_false, not_false_eq_true, true_and, and_true, up_r, up_k, ur_s, ur_e, ur_i, cp_k, w32_i, w64_i, w8_i] at hvc) <;> (try (exfalso; omega)))))
    all_goals first | omega | exact ⟨by omega, hI⟩
