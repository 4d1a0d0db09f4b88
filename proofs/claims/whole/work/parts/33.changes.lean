theorem s_keepChange {p x y : Int} {w : WD} {P : WD → Prop} (hd : 0 ≤ w 1 6 ∧ w 1 6 ≤ 40) (h1 : w 1 6 < 40 → P (up (up (up (up (up w 1 7 0) 3 (w 1 6) p) 4 (w 1 6) x) 5 (w 1 6) y) 1 6 (w 1 6 + 1)))
    (h2 : w 1 6 = 40 → P (up (up (up (up (up (cp (cp (cp (up w 1 7 0) 3 1 3 0 39) 4 1 4 0 39) 5 1 5 0 39) 1 6 39) 3 39 p) 4 39 x) 5 39 y) 1 6 40)) : WV (fHa_keepChange p x y w) P := by
  (repeat' (first | (with_reducible refine i_some ?_) | (with_reducible refine v_some ?_) | (with_reducible refine i_ci ?_) | (with_reducible refine i_cv ?_) | (with_reducible refine v_ci ?_) | (with_reducible refine v_cv ?_) | (with_reducible refine i_bv ?_) | (with_reducible refine v_bv ?_) | (with_reducible refine i_bw ?_) | (with_reducible refine v_bw ?_) | (with_reducible refine i_jn ?_) | (with_reducible refine v_jn ?_) | (with_reducible refine i_ck ?_ ?_) | (with_reducible refine v_ck ?_ ?_) | ((with_reducible refine i_if (fun hc => ?_) (fun hc => ?_)) <;> (try simp (disch := omega) only [not_true_eq_false, not_false_eq_true, true_and, and_true, up_r, up_k, ur_s, ur_e, ur_i, cp_k, w32_i, w64_i, w8_i] at hc) <;> (try (exfalso; omega))) | ((with_reducible refine v_if (fun hc => ?_) (fun hc => ?_)) <;> (try simp (disch := omega) only [not_true_eq_false, not_false_eq_true, true_and, and_true, up_r, up_k, ur_s, ur_e, ur_i, cp_k, w32_i, w64_i, w8_i] at hc) <;> (try (exfalso; omega))) | unfold fHa_keepChange | unfold fHa_forgetFirst))
  all_goals first
    | omega
    | (simp (disch := omega) only [not_true_eq_false, not_false_eq_true, true_and, and_true, up_r, up_k, ur_s, ur_e, ur_i, cp_k, w32_i, w64_i, w8_i]; omega)
    | (have e := h1 (by omega)
       simp (disch := omega) only [not_true_eq_false, not_false_eq_true, true_and, and_true, up_r, up_k, ur_s, ur_e, ur_i, cp_k, w32_i, w64_i, w8_i]
       exact e)
    | (have e := h2 (by omega)
       simp (disch := omega) only [not_true_eq_false, not_false_eq_true, true_and, and_true, up_r, up_k, ur_s, ur_e, ur_i, cp_k, w32_i, w64_i, w8_i]
       exact e)
/-- the reference's changes, one place on from x -/
def sh4 (x : Int) (w : WD) : WD := fun k i => if (53 ≤ k ∧ k ≤ 56) ∧ x - 1 ≤ i ∧ i < 39 then w k (i + 1) else w k i
theorem sh4_o {x : Int} {w : WD} {k : Int} (h : ¬ (53 ≤ k ∧ k ≤ 56)) : sh4 x w k = w k := funext fun _ => if_neg (fun q => h q.1)
theorem sh4_i {x : Int} {w : WD} {k i : Int} (h : 53 ≤ k ∧ k ≤ 56) : sh4 x w k i = if x - 1 ≤ i ∧ i < 39 then w k (i + 1) else w k i := by
  unfold sh4
  by_cases q : x - 1 ≤ i ∧ i < 39
  · rw [if_pos ⟨h, q⟩, if_pos q]
  · rw [if_neg (fun z => q z.2), if_neg q]
theorem sh4_step {x : Int} {w : WD} (hx : x < 40) : sh4 (x + 1) (up (up (up (up w 53 (x - 1) (w 53 x)) 54 (x - 1) (w 54 x)) 55 (x - 1) (w 55 x)) 56 (x - 1) (w 56 x)) = sh4 x w := by
  funext k i
  by_cases hk : 53 ≤ k ∧ k ≤ 56
  · rw [sh4_i hk, sh4_i hk]
    rcases (by omega : k = 53 ∨ k = 54 ∨ k = 55 ∨ k = 56) with rfl | rfl | rfl | rfl <;> simp (disch := omega) only [not_true_eq_false, not_false_eq_true, true_and, and_true, up_r, up_k, ur_s, ur_e, ur_i, cp_k, w32_i, w64_i, w8_i] <;>
    rcases (by omega : i = x - 1 ∨ (x ≤ i ∧ i < 39) ∨ ¬ (x - 1 ≤ i ∧ i < 39)) with q | q | q <;> simp (disch := omega) only [if_pos, if_neg, ur_e, ur_i]
    all_goals (subst q; congr 1; omega)
  · rw [sh4_o hk, sh4_o hk, up_k (by omega), up_k (by omega), up_k (by omega), up_k (by omega)]
theorem l_changes {y1 y2 y3 y4 : Int} {K : WD → Option (Int × WD)} {Q : Int → WD → Prop} : ∀ (n : Nat) (x : Int) (w : WD), 1 ≤ x → x ≤ 40 → 40 - x < n → WI (K (sh4 x w)) Q → WI (fR_changes_l34 y1 y2 y3 y4 K n x w) Q
  | 0, x, w, _, _, h, _ => by exfalso; omega
  | n + 1, x, w, h1, h2, h3, hK => by
    show WI (fR_changes_l34_b (fR_changes_l34 y1 y2 y3 y4 K n) y1 y2 y3 y4 K x w) Q
    (repeat' (first | (with_reducible refine i_some ?_) | (with_reducible refine v_some ?_) | (with_reducible refine i_ci ?_) | (with_reducible refine i_cv ?_) | (with_reducible refine v_ci ?_) | (with_reducible refine v_cv ?_) | (with_reducible refine i_bv ?_) | (with_reducible refine v_bv ?_) | (with_reducible refine i_bw ?_) | (with_reducible refine v_bw ?_) | (with_reducible refine i_jn ?_) | (with_reducible refine v_jn ?_) | (with_reducible refine i_ck ?_ ?_) | (with_reducible refine v_ck ?_ ?_) | ((with_reducible refine i_if (fun hc => ?_) (fun hc => ?_)) <;> (try simp (disch := omega) only [not_true_eq_false, not_false_eq_true, true_and, and_true, up_r, up_k, ur_s, ur_e, ur_i, cp_k, w32_i, w64_i, w8_i] at hc) <;> (try (exfalso; omega))) | ((with_reducible refine v_if (fun hc => ?_) (fun hc => ?_)) <;> (try simp (disch := omega) only [not_true_eq_false, not_false_eq_true, true_and, and_true, up_r, up_k, ur_s, ur_e, ur_i, cp_k, w32_i, w64_i, w8_i] at hc) <;> (try (exfalso; omega))) | unfold fR_changes_l34_b))
    · have e : sh4 x w = w := by
        funext k i
        unfold sh4
        rw [if_neg (by omega)]
      rw [e] at hK
      exact hK
    all_goals first
      | omega
      | (simp (disch := omega) only [not_true_eq_false, not_false_eq_true, true_and, and_true, up_r, up_k, ur_s, ur_e, ur_i, cp_k, w32_i, w64_i, w8_i]; omega)
      | (simp (disch := omega) only [not_true_eq_false, not_false_eq_true, true_and, and_true, up_r, up_k, ur_s, ur_e, ur_i, cp_k, w32_i, w64_i, w8_i]
         refine l_changes n (x + 1) _ (by omega) (by omega) (by omega) ?_
         rw [sh4_step (by omega)]
         exact hK)
