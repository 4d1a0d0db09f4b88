theorem PL_inj {f a f' a' : Int} (h : VAL f a) (h' : VAL f' a') (e : PL f a = PL f' a') : f = f' ∧ a = a' := by
  obtain ⟨v1, v2, v3, v4, v5, v6, v7⟩ := h
  obtain ⟨u1, u2, u3, u4, u5, u6, u7⟩ := h'
  unfold PL at e
  split at e <;> split at e <;> (try split at e) <;> (try split at e) <;> (try split at e) <;> (try split at e) <;> omega
theorem PRI (f a : Int) (h : VAL f a) : (f < 3 ∧ PR f = 47 ∧ PI f a = 3 * a + f) ∨ (f = 3 ∧ PR f = 48 ∧ PI f a = a) ∨ (4 ≤ f ∧ f < 7 ∧ PR f = 49 ∧ PI f a = 3 * a + f - 4) ∨ (f = 7 ∧ PR f = 50 ∧ PI f a = a) ∨ (f = 8 ∧ PR f = 51 ∧ PI f a = a) ∨ (9 ≤ f ∧ PR f = 52 ∧ PI f a = f - 9) := by
  obtain ⟨v1, v2, -⟩ := h
  unfold PR PI
  rcases f_cases v1 v2 with rfl | rfl | rfl | rfl | rfl | rfl | rfl | rfl | rfl | rfl | rfl | rfl | rfl <;> simp
theorem PI_inj {f a f' a' : Int} (h : VAL f a) (h' : VAL f' a') (er : PR f = PR f') (e : PI f a = PI f' a') : f = f' ∧ a = a' := by
  have c1 := PRI f a h
  have c2 := PRI f' a' h'
  obtain ⟨v1, v2, v3, v4, v5, v6, v7⟩ := h
  obtain ⟨u1, u2, u3, u4, u5, u6, u7⟩ := h'
  generalize PR f = x at *
  generalize PR f' = x' at *
  generalize PI f a = y at *
  generalize PI f' a' = y' at *
  subst er
  subst e
  rcases c1 with q | q | q | q | q | q <;> rcases c2 with q' | q' | q' | q' | q' | q' <;> omega
theorem PL_in {f a : Int} (h : VAL f a) : 0 ≤ PL f a ∧ PL f a < 51 := by
  obtain ⟨v1, v2, v3, v4, v5, v6, v7⟩ := h
  unfold PL
  split <;> (try split) <;> (try split) <;> omega
theorem PR_in (f : Int) : 47 ≤ PR f ∧ PR f ≤ 52 := by
  unfold PR
  split <;> (try split) <;> (try split) <;> (try split) <;> (try split) <;> omega
theorem HV_set {w v : WD} {f a x : Int} (h : HV w) (hf : VAL f a) (hx : LO f ≤ x ∧ x ≤ HI f) (e2 : v 2 = ur (w 2) (PL f a) x) (er : v (PR f) = ur (w (PR f)) (PI f a) x) (eo : ∀ k, 47 ≤ k → k ≤ 52 → k ≠ PR f → v k = w k) : HV v := by
  intro f' a' h'
  by_cases hs : f' = f ∧ a' = a
  · obtain ⟨rfl, rfl⟩ := hs
    rw [e2, er, ur_s, ur_s]
    exact ⟨rfl, hx⟩
  · have n1 : PL f' a' ≠ PL f a := fun q => hs (PL_inj h' hf q)
    rw [e2, ur_i n1]
    by_cases hr : PR f' = PR f
    · have n2 : PI f' a' ≠ PI f a := fun q => hs (PI_inj h' hf hr q)
      rw [hr, er, ur_i n2, ← hr]
      exact h f' a' h'
    · rw [eo _ (PR_in f').1 (PR_in f').2 hr]
      exact h f' a' h'
/-- a number of mend() that is there -/
def OKp (p m n f : Int) : Prop := 0 ≤ n ∧ 0 ≤ f ∧ f ≤ 12 ∧ (f ≤ 3 → n < p) ∧ (4 ≤ f → f ≤ 7 → n < m) ∧ (f = 8 → n < 3) ∧ (9 ≤ f → n = 0)
theorem OKp.val {p m n f : Int} (h : OKp p m n f) (hp : p ≤ 6) (hm : m ≤ 5) : VAL f n := by
  obtain ⟨h1, h2, h3, h4, h5, h6, h7⟩ := h
  exact ⟨h2, h3, h1, fun q => by have := h4 q; omega, fun q q' => by have := h5 q q'; omega, h6, h7⟩
theorem s_placeOf {n f : Int} {w : WD} {Q : Int → WD → Prop} (hp : 0 ≤ w 1 4 ∧ w 1 4 ≤ 6 ∧ 0 ≤ w 1 5 ∧ w 1 5 ≤ 5) (h1 : OKp (w 1 4) (w 1 5) n f → Q (PL f n) w) (h0 : ¬ OKp (w 1 4) (w 1 5) n f → Q (-1) w) : WI (fHa_placeOf n f w) Q := by
  unfold OKp at h1 h0
  (repeat' (first | (with_reducible refine i_some ?_) | (with_reducible refine v_some ?_) | (with_reducible refine i_ci ?_) | (with_reducible refine i_cv ?_) | (with_reducible refine v_ci ?_) | (with_reducible refine v_cv ?_) | (with_reducible refine i_bv ?_) | (with_reducible refine v_bv ?_) | (with_reducible refine i_bw ?_) | (with_reducible refine v_bw ?_) | (with_reducible refine i_jn ?_) | (with_reducible refine v_jn ?_) | (with_reducible refine i_ck ?_ ?_) | (with_reducible refine v_ck ?_ ?_) | ((with_reducible refine i_if (fun hc => ?_) (fun hc => ?_)) <;> (try simp (disch := omega) only [not_true_eq_false, not_false_eq_true, true_and, and_true, up_r, up_k, ur_s, ur_e, ur_i, cp_k, w32_i, w64_i, w8_i] at hc) <;> (try (exfalso; omega))) | ((with_reducible refine v_if (fun hc => ?_) (fun hc => ?_)) <;> (try simp (disch := omega) only [not_true_eq_false, not_false_eq_true, true_and, and_true, up_r, up_k, ur_s, ur_e, ur_i, cp_k, w32_i, w64_i, w8_i] at hc) <;> (try (exfalso; omega))) | unfold fHa_placeOf))
  all_goals first
    | exact h0 (by omega)
    | (have e := h1 (by omega)
       unfold PL at e
       simp (disch := omega) only [if_pos, if_neg] at e
       simp (disch := omega) only [not_true_eq_false, not_false_eq_true, true_and, and_true, up_r, up_k, ur_s, ur_e, ur_i, cp_k, w32_i, w64_i, w8_i]
       exact e)
    | (have e := h1 (by omega)
       unfold PL at e
       simp (disch := omega) only [if_pos, if_neg] at e
       exact e)
theorem s_get {i : Int} {w : WD} {Q : Int → WD → Prop} (hi : 0 ≤ i ∧ i < 51) (h : Q (w 2 i) w) : WI (fHa_get i w) Q := by
  (repeat' (first | (with_reducible refine i_some ?_) | (with_reducible refine v_some ?_) | (with_reducible refine i_ci ?_) | (with_reducible refine i_cv ?_) | (with_reducible refine v_ci ?_) | (with_reducible refine v_cv ?_) | (with_reducible refine i_bv ?_) | (with_reducible refine v_bv ?_) | (with_reducible refine i_bw ?_) | (with_reducible refine v_bw ?_) | (with_reducible refine i_jn ?_) | (with_reducible refine v_jn ?_) | (with_reducible refine i_ck ?_ ?_) | (with_reducible refine v_ck ?_ ?_) | ((with_reducible refine i_if (fun hc => ?_) (fun hc => ?_)) <;> (try simp (disch := omega) only [not_true_eq_false, not_false_eq_true, true_and, and_true, up_r, up_k, ur_s, ur_e, ur_i, cp_k, w32_i, w64_i, w8_i] at hc) <;> (try (exfalso; omega))) | ((with_reducible refine v_if (fun hc => ?_) (fun hc => ?_)) <;> (try simp (disch := omega) only [not_true_eq_false, not_false_eq_true, true_and, and_true, up_r, up_k, ur_s, ur_e, ur_i, cp_k, w32_i, w64_i, w8_i] at hc) <;> (try (exfalso; omega))) | unfold fHa_get))
  all_goals first | omega | exact h
theorem s_get0 {i : Int} {w : WD} {Q : Int → WD → Prop} (hi : i < 0) (h : Q 0 w) : WI (fHa_get i w) Q := by
  (repeat' (first | (with_reducible refine i_some ?_) | (with_reducible refine v_some ?_) | (with_reducible refine i_ci ?_) | (with_reducible refine i_cv ?_) | (with_reducible refine v_ci ?_) | (with_reducible refine v_cv ?_) | (with_reducible refine i_bv ?_) | (with_reducible refine v_bv ?_) | (with_reducible refine i_bw ?_) | (with_reducible refine v_bw ?_) | (with_reducible refine i_jn ?_) | (with_reducible refine v_jn ?_) | (with_reducible refine i_ck ?_ ?_) | (with_reducible refine v_ck ?_ ?_) | ((with_reducible refine i_if (fun hc => ?_) (fun hc => ?_)) <;> (try simp (disch := omega) only [not_true_eq_false, not_false_eq_true, true_and, and_true, up_r, up_k, ur_s, ur_e, ur_i, cp_k, w32_i, w64_i, w8_i] at hc) <;> (try (exfalso; omega))) | ((with_reducible refine v_if (fun hc => ?_) (fun hc => ?_)) <;> (try simp (disch := omega) only [not_true_eq_false, not_false_eq_true, true_and, and_true, up_r, up_k, ur_s, ur_e, ur_i, cp_k, w32_i, w64_i, w8_i] at hc) <;> (try (exfalso; omega))) | unfold fHa_get))
  all_goals first | omega | exact h
theorem s_hset {i x : Int} {w : WD} {P : WD → Prop} (hi : 0 ≤ i ∧ i < 51) (h : P (up w 2 i x)) : WV (fHa_set i x w) P := by
  (repeat' (first | (with_reducible refine i_some ?_) | (with_reducible refine v_some ?_) | (with_reducible refine i_ci ?_) | (with_reducible refine i_cv ?_) | (with_reducible refine v_ci ?_) | (with_reducible refine v_cv ?_) | (with_reducible refine i_bv ?_) | (with_reducible refine v_bv ?_) | (with_reducible refine i_bw ?_) | (with_reducible refine v_bw ?_) | (with_reducible refine i_jn ?_) | (with_reducible refine v_jn ?_) | (with_reducible refine i_ck ?_ ?_) | (with_reducible refine v_ck ?_ ?_) | ((with_reducible refine i_if (fun hc => ?_) (fun hc => ?_)) <;> (try simp (disch := omega) only [not_true_eq_false, not_false_eq_true, true_and, and_true, up_r, up_k, ur_s, ur_e, ur_i, cp_k, w32_i, w64_i, w8_i] at hc) <;> (try (exfalso; omega))) | ((with_reducible refine v_if (fun hc => ?_) (fun hc => ?_)) <;> (try simp (disch := omega) only [not_true_eq_false, not_false_eq_true, true_and, and_true, up_r, up_k, ur_s, ur_e, ur_i, cp_k, w32_i, w64_i, w8_i] at hc) <;> (try (exfalso; omega))) | unfold fHa_set))
  all_goals first | omega | exact h
theorem s_hset0 {i x : Int} {w : WD} {P : WD → Prop} (hi : i < 0) (h : P w) : WV (fHa_set i x w) P := by
  (repeat' (first | (with_reducible refine i_some ?_) | (with_reducible refine v_some ?_) | (with_reducible refine i_ci ?_) | (with_reducible refine i_cv ?_) | (with_reducible refine v_ci ?_) | (with_reducible refine v_cv ?_) | (with_reducible refine i_bv ?_) | (with_reducible refine v_bv ?_) | (with_reducible refine i_bw ?_) | (with_reducible refine v_bw ?_) | (with_reducible refine i_jn ?_) | (with_reducible refine v_jn ?_) | (with_reducible refine i_ck ?_ ?_) | (with_reducible refine v_ck ?_ ?_) | ((with_reducible refine i_if (fun hc => ?_) (fun hc => ?_)) <;> (try simp (disch := omega) only [not_true_eq_false, not_false_eq_true, true_and, and_true, up_r, up_k, ur_s, ur_e, ur_i, cp_k, w32_i, w64_i, w8_i] at hc) <;> (try (exfalso; omega))) | ((with_reducible refine v_if (fun hc => ?_) (fun hc => ?_)) <;> (try simp (disch := omega) only [not_true_eq_false, not_false_eq_true, true_and, and_true, up_r, up_k, ur_s, ur_e, ur_i, cp_k, w32_i, w64_i, w8_i] at hc) <;> (try (exfalso; omega))) | unfold fHa_set))
  all_goals first | omega | exact h
theorem s_at {n f : Int} {w : WD} {Q : Int → WD → Prop} (hp : 0 ≤ w 1 4 ∧ w 1 4 ≤ 6 ∧ 0 ≤ w 1 5 ∧ w 1 5 ≤ 5) (h1 : OKp (w 1 4) (w 1 5) n f → Q (w 2 (PL f n)) w) (h0 : ¬ OKp (w 1 4) (w 1 5) n f → Q 0 w) : WI (fHa_at n f w) Q := by
  unfold fHa_at
  refine i_ci (s_placeOf hp (fun h => i_ci (s_get (PL_in (h.val hp.2.1 hp.2.2.2)) (i_some (h1 h)))) (fun h => i_ci (s_get0 (by decide) (i_some (h0 h)))))
theorem s_note {n f x : Int} {w : WD} {P : WD → Prop} (hp : 0 ≤ w 1 4 ∧ w 1 4 ≤ 6 ∧ 0 ≤ w 1 5 ∧ w 1 5 ≤ 5) (h1 : OKp (w 1 4) (w 1 5) n f → P (up w 2 (PL f n) x)) (h0 : ¬ OKp (w 1 4) (w 1 5) n f → P w) : WV (fHa_note n f x w) P := by
  unfold fHa_note
  exact v_ci (s_placeOf hp (fun h => v_cv (s_hset (PL_in (h.val hp.2.1 hp.2.2.2)) (v_some (h1 h)))) (fun h => v_cv (s_hset0 (by decide) (v_some (h0 h)))))
theorem s_isOneR {n f : Int} {w : WD} {Q : Int → WD → Prop} (hp : 0 ≤ w 46 1 ∧ w 46 1 ≤ 6 ∧ 0 ≤ w 46 4 ∧ w 46 4 ≤ 5) (h1 : OKp (w 46 1) (w 46 4) n f → Q 1 w) (h0 : ¬ OKp (w 46 1) (w 46 4) n f → Q 0 w) : WI (fR_isOne n f w) Q := by
  unfold OKp at h1 h0
  (repeat' (first | (with_reducible refine i_some ?_) | (with_reducible refine v_some ?_) | (with_reducible refine i_ci ?_) | (with_reducible refine i_cv ?_) | (with_reducible refine v_ci ?_) | (with_reducible refine v_cv ?_) | (with_reducible refine i_bv ?_) | (with_reducible refine v_bv ?_) | (with_reducible refine i_bw ?_) | (with_reducible refine v_bw ?_) | (with_reducible refine i_jn ?_) | (with_reducible refine v_jn ?_) | (with_reducible refine i_ck ?_ ?_) | (with_reducible refine v_ck ?_ ?_) | ((with_reducible refine i_if (fun hc => ?_) (fun hc => ?_)) <;> (try simp (disch := omega) only [not_true_eq_false, not_false_eq_true, true_and, and_true, up_r, up_k, ur_s, ur_e, ur_i, cp_k, w32_i, w64_i, w8_i] at hc) <;> (try (exfalso; omega))) | ((with_reducible refine v_if (fun hc => ?_) (fun hc => ?_)) <;> (try simp (disch := omega) only [not_true_eq_false, not_false_eq_true, true_and, and_true, up_r, up_k, ur_s, ur_e, ur_i, cp_k, w32_i, w64_i, w8_i] at hc) <;> (try (exfalso; omega))) | unfold fR_isOne | unfold fR_isMask | unfold fR_isPerson | ((with_reducible apply s_in) <;> (try intro hvc) <;> (try simp (disch := omega) only [not_true_eq_false, not_false_eq_true, true_and, and_true, up_r, up_k, ur_s, ur_e, ur_i, cp_k, w32_i, w64_i, w8_i] at hvc) <;> (try (exfalso; omega)))))
  all_goals first
    | exact h0 (by omega)
    | exact h1 (by omega)
theorem s_valueAt {n f : Int} {w : WD} {Q : Int → WD → Prop} (hv : VAL f n) (h : Q (w (PR f) (PI f n)) w) : WI (fR_valueAt f n w) Q := by
  obtain ⟨v1, v2, v3, v4, v5, v6, v7⟩ := hv
  unfold PR PI at h
  (repeat' (first | (with_reducible refine i_some ?_) | (with_reducible refine v_some ?_) | (with_reducible refine i_ci ?_) | (with_reducible refine i_cv ?_) | (with_reducible refine v_ci ?_) | (with_reducible refine v_cv ?_) | (with_reducible refine i_bv ?_) | (with_reducible refine v_bv ?_) | (with_reducible refine i_bw ?_) | (with_reducible refine v_bw ?_) | (with_reducible refine i_jn ?_) | (with_reducible refine v_jn ?_) | (with_reducible refine i_ck ?_ ?_) | (with_reducible refine v_ck ?_ ?_) | ((with_reducible refine i_if (fun hc => ?_) (fun hc => ?_)) <;> (try simp (disch := omega) only [not_true_eq_false, not_false_eq_true, true_and, and_true, up_r, up_k, ur_s, ur_e, ur_i, cp_k, w32_i, w64_i, w8_i] at hc) <;> (try (exfalso; omega))) | ((with_reducible refine v_if (fun hc => ?_) (fun hc => ?_)) <;> (try simp (disch := omega) only [not_true_eq_false, not_false_eq_true, true_and, and_true, up_r, up_k, ur_s, ur_e, ur_i, cp_k, w32_i, w64_i, w8_i] at hc) <;> (try (exfalso; omega))) | unfold fR_valueAt))
  all_goals first
    | omega
    | (simp (disch := omega) only [not_true_eq_false, not_false_eq_true, true_and, and_true, up_r, up_k, ur_s, ur_e, ur_i, cp_k, w32_i, w64_i, w8_i]; omega)
    | (simp (disch := omega) only [if_pos, if_neg] at h
       simp (disch := omega) only [not_true_eq_false, not_false_eq_true, true_and, and_true, up_r, up_k, ur_s, ur_e, ur_i, cp_k, w32_i, w64_i, w8_i]
       exact h)
    | (simp (disch := omega) only [if_pos, if_neg] at h
       exact h)
theorem s_lays {n f x : Int} {w : WD} {P : WD → Prop} (hv : VAL f n) (h : P (up w (PR f) (PI f n) x)) : WV (fR_lays f n x w) P := by
  obtain ⟨v1, v2, v3, v4, v5, v6, v7⟩ := hv
  unfold PR PI at h
  (repeat' (first | (with_reducible refine i_some ?_) | (with_reducible refine v_some ?_) | (with_reducible refine i_ci ?_) | (with_reducible refine i_cv ?_) | (with_reducible refine v_ci ?_) | (with_reducible refine v_cv ?_) | (with_reducible refine i_bv ?_) | (with_reducible refine v_bv ?_) | (with_reducible refine i_bw ?_) | (with_reducible refine v_bw ?_) | (with_reducible refine i_jn ?_) | (with_reducible refine v_jn ?_) | (with_reducible refine i_ck ?_ ?_) | (with_reducible refine v_ck ?_ ?_) | ((with_reducible refine i_if (fun hc => ?_) (fun hc => ?_)) <;> (try simp (disch := omega) only [not_true_eq_false, not_false_eq_true, true_and, and_true, up_r, up_k, ur_s, ur_e, ur_i, cp_k, w32_i, w64_i, w8_i] at hc) <;> (try (exfalso; omega))) | ((with_reducible refine v_if (fun hc => ?_) (fun hc => ?_)) <;> (try simp (disch := omega) only [not_true_eq_false, not_false_eq_true, true_and, and_true, up_r, up_k, ur_s, ur_e, ur_i, cp_k, w32_i, w64_i, w8_i] at hc) <;> (try (exfalso; omega))) | unfold fR_lays))
  all_goals first
    | omega
    | (simp (disch := omega) only [not_true_eq_false, not_false_eq_true, true_and, and_true, up_r, up_k, ur_s, ur_e, ur_i, cp_k, w32_i, w64_i, w8_i]; omega)
    | (simp (disch := omega) only [if_pos, if_neg] at h
       simp (disch := omega) only [not_true_eq_false, not_false_eq_true, true_and, and_true, up_r, up_k, ur_s, ur_e, ur_i, cp_k, w32_i, w64_i, w8_i]
       exact h)
    | (simp (disch := omega) only [if_pos, if_neg] at h
       exact h)
theorem s_mayHave {f x : Int} {w : WD} {Q : Int → WD → Prop} (hf : 0 ≤ f ∧ f ≤ 12) (h1 : LO f ≤ x ∧ x ≤ HI f → Q 1 w) (h0 : ¬ (LO f ≤ x ∧ x ≤ HI f) → Q 0 w) : WI (fR_mayHave f x w) Q := by
  unfold LO HI at h1 h0
  (repeat' (first | (with_reducible refine i_some ?_) | (with_reducible refine v_some ?_) | (with_reducible refine i_ci ?_) | (with_reducible refine i_cv ?_) | (with_reducible refine v_ci ?_) | (with_reducible refine v_cv ?_) | (with_reducible refine i_bv ?_) | (with_reducible refine v_bv ?_) | (with_reducible refine i_bw ?_) | (with_reducible refine v_bw ?_) | (with_reducible refine i_jn ?_) | (with_reducible refine v_jn ?_) | (with_reducible refine i_ck ?_ ?_) | (with_reducible refine v_ck ?_ ?_) | ((with_reducible refine i_if (fun hc => ?_) (fun hc => ?_)) <;> (try simp (disch := omega) only [not_true_eq_false, not_false_eq_true, true_and, and_true, up_r, up_k, ur_s, ur_e, ur_i, cp_k, w32_i, w64_i, w8_i] at hc) <;> (try (exfalso; omega))) | ((with_reducible refine v_if (fun hc => ?_) (fun hc => ?_)) <;> (try simp (disch := omega) only [not_true_eq_false, not_false_eq_true, true_and, and_true, up_r, up_k, ur_s, ur_e, ur_i, cp_k, w32_i, w64_i, w8_i] at hc) <;> (try (exfalso; omega))) | unfold fR_mayHave | ((with_reducible apply s_in) <;> (try intro hvc) <;> (try simp (disch := omega) only [not_true_eq_false, not_false_eq_true, true_and, and_true, up_r, up_k, ur_s, ur_e, ur_i, cp_k, w32_i, w64_i, w8_i] at hvc) <;> (try (exfalso; omega)))))
  all_goals (simp (disch := omega) only [if_pos, if_neg] at h1 h0)
  all_goals first
    | exact h0 (by omega)
    | exact h1 (by omega)
