/-- a row, zero from x to e -/
def zf (w : WD) (k x e : Int) : WD := fun k' i => if k' = k ∧ x ≤ i ∧ i < e then 0 else w k' i
theorem zf_k {w : WD} {k x e k' : Int} (h : k' ≠ k) : zf w k x e k' = w k' := funext fun _ => if_neg (fun q => h q.1)
theorem zf_e {w : WD} {k x e i : Int} (h : x ≤ i ∧ i < e) : zf w k x e k i = 0 := if_pos ⟨rfl, h⟩
theorem zf_i {w : WD} {k x e i : Int} (h : ¬ (x ≤ i ∧ i < e)) : zf w k x e k i = w k i := if_neg (fun q => h q.2)
theorem zf_step {w : WD} {k x e : Int} (h : x < e) : zf (up w k x 0) k (x + 1) e = zf w k x e := by
  funext k' i
  unfold zf up
  by_cases h1 : k' = k
  · subst h1
    by_cases h2 : i = x
    · subst h2
      rw [if_neg (by omega), if_pos ⟨rfl, rfl⟩, if_pos ⟨rfl, by omega, h⟩]
    · by_cases h3 : x ≤ i ∧ i < e
      · rw [if_pos ⟨rfl, by omega, h3.2⟩, if_pos ⟨rfl, h3⟩]
      · rw [if_neg (by omega), if_neg (by omega), if_neg (by omega)]
  · rw [if_neg (fun q => h1 q.1), if_neg (fun q => h1 q.1), if_neg (fun q => h1 q.1)]
theorem zf_0 {w : WD} {k x e : Int} (h : e ≤ x) : zf w k x e = w := by
  funext k' i
  unfold zf
  rw [if_neg (by omega)]
theorem l_lay {o : Int} {P : WD → Prop} : ∀ (n : Nat) (x : Int) (w : WD), 0 ≤ x → x ≤ 60 → 60 - x < n → P (zf w (35 + 2 * o) x 60) → WV (fSh_lay_l26 o n x w) P
  | 0, x, w, _, _, h, _ => by exfalso; omega
  | n + 1, x, w, h1, h2, h3, hK => by
    show WV (fSh_lay_l26_b (fSh_lay_l26 o n) o x w) P
    (repeat' (first | (with_reducible refine i_some ?_) | (with_reducible refine v_some ?_) | (with_reducible refine i_ci ?_) | (with_reducible refine i_cv ?_) | (with_reducible refine v_ci ?_) | (with_reducible refine v_cv ?_) | (with_reducible refine i_bv ?_) | (with_reducible refine v_bv ?_) | (with_reducible refine i_bw ?_) | (with_reducible refine v_bw ?_) | (with_reducible refine i_jn ?_) | (with_reducible refine v_jn ?_) | (with_reducible refine i_ck ?_ ?_) | (with_reducible refine v_ck ?_ ?_) | ((with_reducible refine i_if (fun hc => ?_) (fun hc => ?_)) <;> (try simp (disch := omega) only [not_true_eq_false, not_false_eq_true, true_and, and_true, up_r, up_k, ur_s, ur_e, ur_i, cp_k, w32_i, w64_i, w8_i] at hc) <;> (try (exfalso; omega))) | ((with_reducible refine v_if (fun hc => ?_) (fun hc => ?_)) <;> (try simp (disch := omega) only [not_true_eq_false, not_false_eq_true, true_and, and_true, up_r, up_k, ur_s, ur_e, ur_i, cp_k, w32_i, w64_i, w8_i] at hc) <;> (try (exfalso; omega))) | unfold fSh_lay_l26_b))
    · rw [zf_0 (by omega)] at hK
      exact hK
    · omega
    · rw [w32_i (by omega) (by omega)]
      refine l_lay n (x + 1) _ (by omega) (by omega) (by omega) ?_
      rw [zf_step (by omega)]
      exact hK
theorem l_rowR {a : Int} {Q : Int → WD → Prop} (ha : 0 ≤ a ∧ a < 6) : ∀ (n : Nat) (x : Int) (w : WD), 60 * a ≤ x → x ≤ 60 * a + 60 → 60 * a + 60 - x < n → Q 1 (zf w 84 x (60 * a + 60)) → WI (fR_row_l54 a n x w) Q
  | 0, x, w, _, _, h, _ => by exfalso; omega
  | n + 1, x, w, h1, h2, h3, hK => by
    show WI (fR_row_l54_b (fR_row_l54 a n) a x w) Q
    (repeat' (first | (with_reducible refine i_some ?_) | (with_reducible refine v_some ?_) | (with_reducible refine i_ci ?_) | (with_reducible refine i_cv ?_) | (with_reducible refine v_ci ?_) | (with_reducible refine v_cv ?_) | (with_reducible refine i_bv ?_) | (with_reducible refine v_bv ?_) | (with_reducible refine i_bw ?_) | (with_reducible refine v_bw ?_) | (with_reducible refine i_jn ?_) | (with_reducible refine v_jn ?_) | (with_reducible refine i_ck ?_ ?_) | (with_reducible refine v_ck ?_ ?_) | ((with_reducible refine i_if (fun hc => ?_) (fun hc => ?_)) <;> (try simp (disch := omega) only [not_true_eq_false, not_false_eq_true, true_and, and_true, up_r, up_k, ur_s, ur_e, ur_i, cp_k, w32_i, w64_i, w8_i] at hc) <;> (try (exfalso; omega))) | ((with_reducible refine v_if (fun hc => ?_) (fun hc => ?_)) <;> (try simp (disch := omega) only [not_true_eq_false, not_false_eq_true, true_and, and_true, up_r, up_k, ur_s, ur_e, ur_i, cp_k, w32_i, w64_i, w8_i] at hc) <;> (try (exfalso; omega))) | unfold fR_row_l54_b))
    · rw [zf_0 (by omega)] at hK
      exact hK
    · omega
    · rw [w32_i (by omega) (by omega)]
      refine l_rowR ha n (x + 1) _ (by omega) (by omega) (by omega) ?_
      rw [zf_step (by omega)]
      exact hK
theorem op_row : op3 Inv fB_row fR_row := by
  intro a s n w ha hsI hn hI
  obtain ⟨hH, hC, hT, hL, hN, hK, hS, hB⟩ := id hI
  refine same_of ?_
  by_cases hs : 0 ≤ a ∧ a < 6
  · (repeat' (first | (with_reducible refine i_some ?_) | (with_reducible refine v_some ?_) | (with_reducible refine i_ci ?_) | (with_reducible refine i_cv ?_) | (with_reducible refine v_ci ?_) | (with_reducible refine v_cv ?_) | (with_reducible refine i_bv ?_) | (with_reducible refine v_bv ?_) | (with_reducible refine i_bw ?_) | (with_reducible refine v_bw ?_) | (with_reducible refine i_jn ?_) | (with_reducible refine v_jn ?_) | (with_reducible refine i_ck ?_ ?_) | (with_reducible refine v_ck ?_ ?_) | ((with_reducible refine i_if (fun hc => ?_) (fun hc => ?_)) <;> (try simp (disch := omega) only [not_true_eq_false, not_false_eq_true, true_and, and_true, up_r, up_k, ur_s, ur_e, ur_i, cp_k, w32_i, w64_i, w8_i] at hc) <;> (try (exfalso; omega))) | ((with_reducible refine v_if (fun hc => ?_) (fun hc => ?_)) <;> (try simp (disch := omega) only [not_true_eq_false, not_false_eq_true, true_and, and_true, up_r, up_k, ur_s, ur_e, ur_i, cp_k, w32_i, w64_i, w8_i] at hc) <;> (try (exfalso; omega))) | unfold fB_row | unfold fB_isShelf | unfold fR_row | unfold fR_isShelf | ((with_reducible apply s_in) <;> (try intro hvc) <;> (try simp (disch := omega) only [not_true_eq_false, not_false_eq_true, true_and, and_true, up_r, up_k, ur_s, ur_e, ur_i, cp_k, w32_i, w64_i, w8_i] at hvc) <;> (try (exfalso; omega))) | unfold fSh_lay))
    all_goals first
      | omega
      | exact ⟨by omega, hI⟩
      | skip
    all_goals (
      refine l_lay FU 0 _ (by decide) (by decide) (by decide) (i_some ?_)
      (repeat' (first | (with_reducible refine i_some ?_) | (with_reducible refine v_some ?_) | (with_reducible refine i_ci ?_) | (with_reducible refine i_cv ?_) | (with_reducible refine v_ci ?_) | (with_reducible refine v_cv ?_) | (with_reducible refine i_bv ?_) | (with_reducible refine v_bv ?_) | (with_reducible refine i_bw ?_) | (with_reducible refine v_bw ?_) | (with_reducible refine i_jn ?_) | (with_reducible refine v_jn ?_) | (with_reducible refine i_ck ?_ ?_) | (with_reducible refine v_ck ?_ ?_) | ((with_reducible refine i_if (fun hc => ?_) (fun hc => ?_)) <;> (try simp (disch := omega) only [not_true_eq_false, not_false_eq_true, true_and, and_true, up_r, up_k, ur_s, ur_e, ur_i, cp_k, w32_i, w64_i, w8_i] at hc) <;> (try (exfalso; omega))) | ((with_reducible refine v_if (fun hc => ?_) (fun hc => ?_)) <;> (try simp (disch := omega) only [not_true_eq_false, not_false_eq_true, true_and, and_true, up_r, up_k, ur_s, ur_e, ur_i, cp_k, w32_i, w64_i, w8_i] at hc) <;> (try (exfalso; omega))) | unfold fR_row | unfold fR_isShelf | ((with_reducible apply s_in) <;> (try intro hvc) <;> (try simp (disch := omega) only [not_true_eq_false, not_false_eq_true, true_and, and_true, up_r, up_k, ur_s, ur_e, ur_i, cp_k, w32_i, w64_i, w8_i] at hvc) <;> (try (exfalso; omega)))))
      all_goals first
        | omega
        | skip
      all_goals (
        simp (disch := omega) only [not_true_eq_false, not_false_eq_true, true_and, and_true, up_r, up_k, ur_s, ur_e, ur_i, cp_k, w32_i, w64_i, w8_i]
        refine l_rowR hs FU (60 * a) _ (by omega) (by omega) (by unfold FU; omega) ⟨rfl, ?_⟩
        have em : mx 0 (mn 60 n) = n := by unfold mx mn; omega
        rw [em]
        refine ⟨(by refine IHall_of ⟨?_, ?_, ?_, ?_, ?_, ?_, ?_, ?_, ?_, ?_, ?_⟩ hH <;> simp (disch := omega) only [not_true_eq_false, not_false_eq_true, true_and, and_true, up_r, up_k, ur_s, ur_e, ur_i, cp_k, zf_k, w32_i, w64_i, w8_i]), (by refine ICh_of ⟨?_, ?_, ?_, ?_, ?_, ?_, ?_, ?_, ?_, ?_, ?_⟩ hC <;> simp (disch := omega) only [not_true_eq_false, not_false_eq_true, true_and, and_true, up_r, up_k, ur_s, ur_e, ur_i, cp_k, zf_k, w32_i, w64_i, w8_i]), (by refine ITape_of ⟨?_, ?_, ?_, ?_⟩ hT <;> simp (disch := omega) only [not_true_eq_false, not_false_eq_true, true_and, and_true, up_r, up_k, ur_s, ur_e, ur_i, cp_k, zf_k, w32_i, w64_i, w8_i]), (by refine ILaw_of ⟨?_, ?_, ?_, ?_, ?_, ?_, ?_, ?_⟩ hL <;> simp (disch := omega) only [not_true_eq_false, not_false_eq_true, true_and, and_true, up_r, up_k, ur_s, ur_e, ur_i, cp_k, zf_k, w32_i, w64_i, w8_i]), (by refine INight_of ⟨?_, ?_, ?_, ?_, ?_, ?_, ?_, ?_, ?_⟩ hN <;> simp (disch := omega) only [not_true_eq_false, not_false_eq_true, true_and, and_true, up_r, up_k, ur_s, ur_e, ur_i, cp_k, zf_k, w32_i, w64_i, w8_i]), (by refine IKept_of ⟨?_, ?_, ?_, ?_, ?_, ?_, ?_, ?_, ?_, ?_, ?_, ?_, ?_, ?_⟩ hK <;> simp (disch := omega) only [not_true_eq_false, not_false_eq_true, true_and, and_true, up_r, up_k, ur_s, ur_e, ur_i, cp_k, zf_k, w32_i, w64_i, w8_i]), ?_, (by refine IBody_of ⟨?_, ?_, ?_, ?_, ?_, ?_, ?_, ?_⟩ hB <;> simp (disch := omega) only [not_true_eq_false, not_false_eq_true, true_and, and_true, up_r, up_k, ur_s, ur_e, ur_i, cp_k, zf_k, w32_i, w64_i, w8_i])⟩
        intro o h1 h2
        by_cases ho : o = a
        · subst ho
          simp (disch := omega) only [not_true_eq_false, not_false_eq_true, true_and, and_true, up_r, up_k, ur_s, ur_e, ur_i, cp_k, w32_i, w64_i, w8_i, zf_k]
          refine Or.inr (Or.inr ⟨by omega, by omega, by omega, by omega, fun k k1 k2 => ?_⟩)
          rw [zf_e (by omega), zf_e (by omega)]
          exact ⟨rfl, fun _ => by omega⟩
        · simp (disch := omega) only [not_true_eq_false, not_false_eq_true, true_and, and_true, up_r, up_k, ur_s, ur_e, ur_i, cp_k, w32_i, w64_i, w8_i, zf_k]
          rcases hS o h1 h2 with c | c | ⟨c1, c2, c3, c4, c5, c6, c7, c8⟩
          · exact Or.inl c
          · exact Or.inr (Or.inl c)
          · refine Or.inr (Or.inr ⟨c1, c2, c3, c4, c5, c6, c7, fun k k1 k2 => ?_⟩)
            rw [zf_i (by omega)]
            simp (disch := omega) only [not_true_eq_false, not_false_eq_true, true_and, and_true, up_r, up_k, ur_s, ur_e, ur_i, cp_k, w32_i, w64_i, w8_i, zf_k]
            exact c8 k k1 k2))
  · (repeat' (first | (with_reducible refine i_some ?_) | (with_reducible refine v_some ?_) | (with_reducible refine i_ci ?_) | (with_reducible refine i_cv ?_) | (with_reducible refine v_ci ?_) | (with_reducible refine v_cv ?_) | (with_reducible refine i_bv ?_) | (with_reducible refine v_bv ?_) | (with_reducible refine i_bw ?_) | (with_reducible refine v_bw ?_) | (with_reducible refine i_jn ?_) | (with_reducible refine v_jn ?_) | (with_reducible refine i_ck ?_ ?_) | (with_reducible refine v_ck ?_ ?_) | ((with_reducible refine i_if (fun hc => ?_) (fun hc => ?_)) <;> (try simp (disch := omega) only [not_true_eq_false, not_false_eq_true, true_and, and_true, up_r, up_k, ur_s, ur_e, ur_i, cp_k, w32_i, w64_i, w8_i] at hc) <;> (try (exfalso; omega))) | ((with_reducible refine v_if (fun hc => ?_) (fun hc => ?_)) <;> (try simp (disch := omega) only [not_true_eq_false, not_false_eq_true, true_and, and_true, up_r, up_k, ur_s, ur_e, ur_i, cp_k, w32_i, w64_i, w8_i] at hc) <;> (try (exfalso; omega))) | unfold fB_row | unfold fB_isShelf | unfold fR_row | unfold fR_isShelf | ((with_reducible apply s_in) <;> (try intro hvc) <;> (try simp (disch := omega) only [not_true_eq_false, not_false_eq_true, true_and, and_true, up_r, up_k, ur_s, ur_e, ur_i, cp_k, w32_i, w64_i, w8_i] at hvc) <;> (try (exfalso; omega)))))
    all_goals first | omega | exact ⟨by omega, hI⟩
