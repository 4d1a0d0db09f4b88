def SG (a b c : Int) : Prop := (0 ≤ a ∧ a ≤ 3) ∧ (0 ≤ b ∧ b ≤ 3) ∧ 0 ≤ c ∧ c ≤ 3
/-- one who arrives: in the class's cells, in the reference's -/
def AR (w : WD) (a b c : Int) : WD := up (up (up (up (up w 1 4 (w 1 4 + 1)) 2 (4 * w 1 4 + 0) a) 2 (4 * w 1 4 + 1) b) 2 (4 * w 1 4 + 2) c) 2 (4 * w 1 4 + 3) 2
def AP (w : WD) (a b c : Int) : WD := up (up (up (up (up w 47 (3 * w 46 1) a) 47 (3 * w 46 1 + 1) b) 47 (3 * w 46 1 + 2) c) 48 (w 46 1) 2) 46 1 (w 46 1 + 1)
theorem s_arrive {a b c : Int} {w : WD} {Q : Int → WD → Prop} (hp : 0 ≤ w 1 4 ∧ w 1 4 ≤ 6) (h1 : ¬ SG a b c → Q (-1) w) (h2 : SG a b c → w 1 4 = 6 → Q (-3) w) (h3 : SG a b c → w 1 4 < 6 → Q (w 1 4) (AR w a b c)) : WI (fHa_arrive a b c w) Q := by
  unfold SG at h1 h2 h3
  (repeat' (first | (with_reducible refine i_some ?_) | (with_reducible refine v_some ?_) | (with_reducible refine i_ci ?_) | (with_reducible refine i_cv ?_) | (with_reducible refine v_ci ?_) | (with_reducible refine v_cv ?_) | (with_reducible refine i_bv ?_) | (with_reducible refine v_bv ?_) | (with_reducible refine i_bw ?_) | (with_reducible refine v_bw ?_) | (with_reducible refine i_jn ?_) | (with_reducible refine v_jn ?_) | (with_reducible refine i_ck ?_ ?_) | (with_reducible refine v_ck ?_ ?_) | ((with_reducible refine i_if (fun hc => ?_) (fun hc => ?_)) <;> (try simp (disch := omega) only [not_true_eq_false, not_false_eq_true, true_and, and_true, up_r, up_k, ur_s, ur_e, ur_i, cp_k, w32_i, w64_i, w8_i] at hc) <;> (try (exfalso; omega))) | ((with_reducible refine v_if (fun hc => ?_) (fun hc => ?_)) <;> (try simp (disch := omega) only [not_true_eq_false, not_false_eq_true, true_and, and_true, up_r, up_k, ur_s, ur_e, ur_i, cp_k, w32_i, w64_i, w8_i] at hc) <;> (try (exfalso; omega))) | unfold fHa_arrive | ((with_reducible apply s_isValue) <;> (try intro hvc) <;> (try simp (disch := omega) only [not_true_eq_false, not_false_eq_true, true_and, and_true, up_r, up_k, ur_s, ur_e, ur_i, cp_k, w32_i, w64_i, w8_i] at hvc) <;> (try (exfalso; omega))) | ((with_reducible apply s_in) <;> (try intro hvc) <;> (try simp (disch := omega) only [not_true_eq_false, not_false_eq_true, true_and, and_true, up_r, up_k, ur_s, ur_e, ur_i, cp_k, w32_i, w64_i, w8_i] at hvc) <;> (try (exfalso; omega)))))
  all_goals first
    | exact h1 (by omega)
    | exact h2 (by omega) (by omega)
    | (rw [w32_i (by omega) (by omega)]
       refine s_noteP (by simp (disch := omega) only [not_true_eq_false, not_false_eq_true, true_and, and_true, up_r, up_k, ur_s, ur_e, ur_i, cp_k, w32_i, w64_i, w8_i]; omega) (by omega) (i_cv (s_noteP (by simp (disch := omega) only [not_true_eq_false, not_false_eq_true, true_and, and_true, up_r, up_k, ur_s, ur_e, ur_i, cp_k, w32_i, w64_i, w8_i]; omega) (by omega) (i_cv (s_noteP (by simp (disch := omega) only [not_true_eq_false, not_false_eq_true, true_and, and_true, up_r, up_k, ur_s, ur_e, ur_i, cp_k, w32_i, w64_i, w8_i]; omega) (by omega) (i_cv (s_noteP (by simp (disch := omega) only [not_true_eq_false, not_false_eq_true, true_and, and_true, up_r, up_k, ur_s, ur_e, ur_i, cp_k, w32_i, w64_i, w8_i]; omega) (by omega) ?_))))))
       exact i_some (h3 (by omega) (by omega)))
theorem s_addPerson {a b c : Int} {w : WD} {Q : Int → WD → Prop} (hp : 0 ≤ w 46 1 ∧ w 46 1 < 6) (h : Q (w 46 1) (AP w a b c)) : WI (fR_addPerson a b c w) Q := by
  (repeat' (first | (with_reducible refine i_some ?_) | (with_reducible refine v_some ?_) | (with_reducible refine i_ci ?_) | (with_reducible refine i_cv ?_) | (with_reducible refine v_ci ?_) | (with_reducible refine v_cv ?_) | (with_reducible refine i_bv ?_) | (with_reducible refine v_bv ?_) | (with_reducible refine i_bw ?_) | (with_reducible refine v_bw ?_) | (with_reducible refine i_jn ?_) | (with_reducible refine v_jn ?_) | (with_reducible refine i_ck ?_ ?_) | (with_reducible refine v_ck ?_ ?_) | ((with_reducible refine i_if (fun hc => ?_) (fun hc => ?_)) <;> (try simp (disch := omega) only [not_true_eq_false, not_false_eq_true, true_and, and_true, up_r, up_k, ur_s, ur_e, ur_i, cp_k, w32_i, w64_i, w8_i] at hc) <;> (try (exfalso; omega))) | ((with_reducible refine v_if (fun hc => ?_) (fun hc => ?_)) <;> (try simp (disch := omega) only [not_true_eq_false, not_false_eq_true, true_and, and_true, up_r, up_k, ur_s, ur_e, ur_i, cp_k, w32_i, w64_i, w8_i] at hc) <;> (try (exfalso; omega))) | unfold fR_addPerson)) <;> simp (disch := omega) only [not_true_eq_false, not_false_eq_true, true_and, and_true, up_r, up_k, ur_s, ur_e, ur_i, cp_k, w32_i, w64_i, w8_i] <;> first | omega | skip
  have e : w 46 1 + 1 - 1 = w 46 1 := by omega
  rw [e]
  exact h
theorem Inv_arrive {w : WD} {a b c : Int} (h : Inv w) (hp : w 1 4 < 6) (hg : SG a b c) : Inv (AP (AR w a b c) a b c) := by
  obtain ⟨hH, hC, hT, hL, hN, hK, hS, hB⟩ := h
  obtain ⟨p0, p6, pr, m0, m5, mr, hV⟩ := id hH
  obtain ⟨g1, g2, g3⟩ := hg
  unfold AP AR
  refine ⟨⟨?_, ?_, ?_, ?_, ?_, ?_, ?_⟩, (by refine ICh_of ⟨?_, ?_, ?_, ?_, ?_, ?_, ?_, ?_, ?_, ?_, ?_⟩ hC <;> simp (disch := omega) only [not_true_eq_false, not_false_eq_true, true_and, and_true, up_r, up_k, ur_s, ur_e, ur_i, cp_k, w32_i, w64_i, w8_i]), (by refine ITape_of ⟨?_, ?_, ?_, ?_⟩ hT <;> simp (disch := omega) only [not_true_eq_false, not_false_eq_true, true_and, and_true, up_r, up_k, ur_s, ur_e, ur_i, cp_k, w32_i, w64_i, w8_i]), (by refine ILaw_of ⟨?_, ?_, ?_, ?_, ?_, ?_, ?_, ?_⟩ hL <;> simp (disch := omega) only [not_true_eq_false, not_false_eq_true, true_and, and_true, up_r, up_k, ur_s, ur_e, ur_i, cp_k, w32_i, w64_i, w8_i]), ?_, ?_, (by refine IShelf_of ⟨?_, ?_, ?_, ?_, ?_⟩ hS <;> first | (intro k hk1 hk2; simp (disch := omega) only [not_true_eq_false, not_false_eq_true, true_and, and_true, up_r, up_k, ur_s, ur_e, ur_i, cp_k, w32_i, w64_i, w8_i]) | (simp (disch := omega) only [not_true_eq_false, not_false_eq_true, true_and, and_true, up_r, up_k, ur_s, ur_e, ur_i, cp_k, w32_i, w64_i, w8_i])), (by refine IBody_of ⟨?_, ?_, ?_, ?_, ?_, ?_, ?_, ?_⟩ hB <;> simp (disch := omega) only [not_true_eq_false, not_false_eq_true, true_and, and_true, up_r, up_k, ur_s, ur_e, ur_i, cp_k, w32_i, w64_i, w8_i])⟩
  · simp (disch := omega) only [not_true_eq_false, not_false_eq_true, true_and, and_true, up_r, up_k, ur_s, ur_e, ur_i, cp_k, w32_i, w64_i, w8_i]; omega
  · simp (disch := omega) only [not_true_eq_false, not_false_eq_true, true_and, and_true, up_r, up_k, ur_s, ur_e, ur_i, cp_k, w32_i, w64_i, w8_i]; omega
  · simp (disch := omega) only [not_true_eq_false, not_false_eq_true, true_and, and_true, up_r, up_k, ur_s, ur_e, ur_i, cp_k, w32_i, w64_i, w8_i]; omega
  · simp (disch := omega) only [not_true_eq_false, not_false_eq_true, true_and, and_true, up_r, up_k, ur_s, ur_e, ur_i, cp_k, w32_i, w64_i, w8_i]; omega
  · simp (disch := omega) only [not_true_eq_false, not_false_eq_true, true_and, and_true, up_r, up_k, ur_s, ur_e, ur_i, cp_k, w32_i, w64_i, w8_i]; omega
  · simp (disch := omega) only [not_true_eq_false, not_false_eq_true, true_and, and_true, up_r, up_k, ur_s, ur_e, ur_i, cp_k, w32_i, w64_i, w8_i]; omega
  · refine HV_person (w := w) (p := w 1 4) hV ⟨p0, hp⟩ g1 g2 g3 ?_ ?_ ?_ ?_
    · simp (disch := omega) only [not_true_eq_false, not_false_eq_true, true_and, and_true, up_r, up_k, ur_s, ur_e, ur_i, cp_k, w32_i, w64_i, w8_i]
    · simp (disch := omega) only [not_true_eq_false, not_false_eq_true, true_and, and_true, up_r, up_k, ur_s, ur_e, ur_i, cp_k, w32_i, w64_i, w8_i]
      rw [pr]
    · simp (disch := omega) only [not_true_eq_false, not_false_eq_true, true_and, and_true, up_r, up_k, ur_s, ur_e, ur_i, cp_k, w32_i, w64_i, w8_i]
      rw [pr]
    · intro k h1 h2
      simp (disch := omega) only [not_true_eq_false, not_false_eq_true, true_and, and_true, up_r, up_k, ur_s, ur_e, ur_i, cp_k, w32_i, w64_i, w8_i]
  · obtain ⟨n1, n2⟩ := hN
    refine ⟨fun m h1 h2 => ?_, ?_⟩
    · simp (disch := omega) only [not_true_eq_false, not_false_eq_true, true_and, and_true, up_r, up_k, ur_s, ur_e, ur_i, cp_k, w32_i, w64_i, w8_i]
      obtain ⟨q1, q2⟩ := n1 m h1 h2
      refine ⟨?_, q2⟩
      unfold WHO at q1 ⊢
      omega
    · simp (disch := omega) only [not_true_eq_false, not_false_eq_true, true_and, and_true, up_r, up_k, ur_s, ur_e, ur_i, cp_k, w32_i, w64_i, w8_i]
      exact n2
  · rcases hK with ⟨h1, h2⟩ | ⟨h1, h2, h3, h4, h5, h6⟩
    · left
      simp (disch := omega) only [not_true_eq_false, not_false_eq_true, true_and, and_true, up_r, up_k, ur_s, ur_e, ur_i, cp_k, w32_i, w64_i, w8_i]
      exact ⟨h1, h2⟩
    · right
      simp (disch := omega) only [not_true_eq_false, not_false_eq_true, true_and, and_true, up_r, up_k, ur_s, ur_e, ur_i, cp_k, w32_i, w64_i, w8_i]
      refine ⟨h1, h2, h3, h4, fun m q1 q2 => ?_, h6⟩
      obtain ⟨q3, q4⟩ := h5 m q1 q2
      refine ⟨?_, q4⟩
      unfold WHO at q3 ⊢
      omega
theorem op_person : op1 Inv fB_person fR_person := by
  intro a w ha hI
  obtain ⟨p0, p6, pr, -⟩ := id hI.1
  refine same_of ?_
  unfold fB_person fR_person
  refine i_if (fun h0 => i_ci (s_arrive ⟨p0, p6⟩ (fun h1 => i_some ?_) (fun h1 h2 => i_some ?_) (fun h1 h2 => i_some ?_))) (fun h0 => i_some (i_if (fun _ => i_some ⟨rfl, hI⟩) (fun q => by exfalso; omega)))
  · refine i_if (fun q => by exfalso; omega) (fun _ => i_ci (s_areSigns (fun q => absurd q h1) (fun _ => ?_)))
    exact i_if (fun q => absurd rfl q) (fun _ => i_some ⟨rfl, hI⟩)
  · refine i_if (fun q => by exfalso; omega) (fun _ => i_ci (s_areSigns (fun _ => ?_) (fun q => absurd h1 q)))
    refine i_if (fun q => i_if (fun q => by exfalso; omega) (fun _ => i_some ⟨rfl, hI⟩)) (fun q => by exfalso; omega)
  · refine i_if (fun q => by exfalso; omega) (fun _ => i_ci (s_areSigns (fun _ => ?_) (fun q => absurd h1 q)))
    refine i_if (fun q => i_if (fun q => i_ci (s_addPerson ?_ (i_some ⟨?_, Inv_arrive hI h2 h1⟩))) (fun q => ?_)) (fun q => by exfalso; omega)
    · unfold AR
      simp (disch := omega) only [not_true_eq_false, not_false_eq_true, true_and, and_true, up_r, up_k, ur_s, ur_e, ur_i, cp_k, w32_i, w64_i, w8_i]
      omega
    · unfold AR
      simp (disch := omega) only [not_true_eq_false, not_false_eq_true, true_and, and_true, up_r, up_k, ur_s, ur_e, ur_i, cp_k, w32_i, w64_i, w8_i]
      exact pr
    · exfalso
      revert q
      unfold AR
      simp (disch := omega) only [not_true_eq_false, not_false_eq_true, true_and, and_true, up_r, up_k, ur_s, ur_e, ur_i, cp_k, w32_i, w64_i, w8_i]
      omega
