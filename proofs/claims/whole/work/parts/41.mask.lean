theorem l_addMask {m : Int} {K : WD → Option (Int × WD)} {Q : Int → WD → Prop} {w : WD} (h0 : 0 ≤ m ∧ m < w 1 5) (hp : 0 ≤ w 1 4 ∧ w 1 4 ≤ 6 ∧ 0 ≤ w 1 5 ∧ w 1 5 ≤ 5) (hK : WI (K (up (up (up w 2 (24 + 4 * m) (-1)) 2 (24 + 4 * m + 1) (-1)) 2 (24 + 4 * m + 2) (-1))) Q) : WI (fHa_addMask_l25 m K FU 0 w) Q := by
  have st : ∀ (f : Nat) (x : Int) (u : WD), 0 ≤ x → x < 3 → u 1 = w 1 → WI (fHa_addMask_l25 m K f (x + 1) (up u 2 (24 + 4 * m + x) (-1))) Q → WI (fHa_addMask_l25 m K (f + 1) x u) Q := by
    intro f x u x0 x3 e1 h
    show WI (fHa_addMask_l25_b (fHa_addMask_l25 m K f) m K x u) Q
    unfold fHa_addMask_l25_b
    refine i_if (fun q => by exfalso; omega) (fun _ => i_cv ?_)
    rw [w32_i (by omega) (by omega)]
    refine s_note (by rw [e1]; exact hp) (fun ho => i_bv ?_) (fun ho => by exfalso; rw [e1] at ho; unfold OKp at ho; omega)
    rw [w32_i (by omega) (by omega)]
    have e2 : PL (4 + x) m = 24 + 4 * m + x := by unfold PL; rw [if_neg (by omega), if_pos (by omega)]; omega
    rw [e2]
    exact h
  refine st 1999 0 w (by decide) (by decide) rfl ?_
  refine st 1998 1 _ (by decide) (by decide) (by simp (disch := omega) only [not_true_eq_false, not_false_eq_true, true_and, and_true, up_r, up_k, ur_s, ur_e, ur_i, cp_k, w32_i, w64_i, w8_i]) ?_
  refine st 1997 2 _ (by decide) (by decide) (by simp (disch := omega) only [not_true_eq_false, not_false_eq_true, true_and, and_true, up_r, up_k, ur_s, ur_e, ur_i, cp_k, w32_i, w64_i, w8_i]) ?_
  show WI (fHa_addMask_l25_b (fHa_addMask_l25 m K 1996) m K 3 _) Q
  unfold fHa_addMask_l25_b
  refine i_if (fun _ => ?_) (fun q => by exfalso; omega)
  rw [show 24 + 4 * m + 0 = 24 + 4 * m by omega]
  exact hK
theorem l_maskR {K : WD → Option (Int × WD)} {Q : Int → WD → Prop} {w : WD} (h0 : 0 ≤ w 46 4 ∧ w 46 4 < 5) (hK : WI (K (up (up (up w 49 (3 * w 46 4) (-1)) 49 (3 * w 46 4 + 1) (-1)) 49 (3 * w 46 4 + 2) (-1))) Q) : WI (fR_mask_l13 K FU 0 w) Q := by
  have st : ∀ (f : Nat) (x : Int) (u : WD), 0 ≤ x → x < 3 → u 46 = w 46 → WI (fR_mask_l13 K f (x + 1) (up u 49 (3 * w 46 4 + x) (-1))) Q → WI (fR_mask_l13 K (f + 1) x u) Q := by
    intro f x u x0 x3 e1 h
    show WI (fR_mask_l13_b (fR_mask_l13 K f) K x u) Q
    unfold fR_mask_l13_b
    rw [e1]
    rw [w32_i (x := x + 1) (by omega) (by omega), w32_i (x := 3 * w 46 4) (by omega) (by omega), w32_i (by omega) (by omega)]
    exact i_if (fun q => by exfalso; omega) (fun _ => i_ck (by omega) (i_bw (i_bv h)))
  refine st 1999 0 w (by decide) (by decide) rfl ?_
  refine st 1998 1 _ (by decide) (by decide) (by simp (disch := omega) only [not_true_eq_false, not_false_eq_true, true_and, and_true, up_r, up_k, ur_s, ur_e, ur_i, cp_k, w32_i, w64_i, w8_i]) ?_
  refine st 1997 2 _ (by decide) (by decide) (by simp (disch := omega) only [not_true_eq_false, not_false_eq_true, true_and, and_true, up_r, up_k, ur_s, ur_e, ur_i, cp_k, w32_i, w64_i, w8_i]) ?_
  show WI (fR_mask_l13_b (fR_mask_l13 K 1996) K 3 _) Q
  unfold fR_mask_l13_b
  refine i_if (fun _ => ?_) (fun q => by exfalso; omega)
  rw [show 3 * w 46 4 + 0 = 3 * w 46 4 by omega]
  exact hK
set_option maxHeartbeats 4000000 in
theorem HV_mask {w : WD} {m : Int} (h : HV w) (hm : 0 ≤ m ∧ m < 5) {v : WD} (e2 : v 2 = ur (ur (ur (ur (w 2) (24 + 4 * m) (-1)) (24 + 4 * m + 1) (-1)) (24 + 4 * m + 2) (-1)) (24 + 4 * m + 3) 127)
    (e49 : v 49 = ur (ur (ur (w 49) (3 * m) (-1)) (3 * m + 1) (-1)) (3 * m + 2) (-1)) (e50 : v 50 = ur (w 50) m 127) (e : ∀ k, 47 ≤ k → k ≤ 52 → k ≠ 49 → k ≠ 50 → v k = w k) : HV v := by
  intro f a hV
  have h0 := h f a hV
  obtain ⟨v1, v2, v3, v4, v5, v6, v7⟩ := hV
  rcases f_cases v1 v2 with rfl | rfl | rfl | rfl | rfl | rfl | rfl | rfl | rfl | rfl | rfl | rfl | rfl <;>
  simp only [PR, PI, PL, LO, HI] at h0 ⊢ <;> simp only [Int.reduceLT, Int.reduceLE, Int.reduceEq, if_true, if_false, and_true, true_and, false_and, and_false, Int.reduceSub, Int.reduceAdd] at h0 ⊢ <;>
  (try rw [e49]) <;> (try rw [e50]) <;> (try rw [e 47 (by decide) (by decide) (by decide) (by decide)]) <;> (try rw [e 48 (by decide) (by decide) (by decide) (by decide)]) <;> (try rw [e 51 (by decide) (by decide) (by decide) (by decide)]) <;> (try rw [e 52 (by decide) (by decide) (by decide) (by decide)]) <;> rw [e2] <;>
  by_cases hq : a = m <;> (try subst hq) <;> simp (disch := omega) only [not_true_eq_false, not_false_eq_true, true_and, and_true, up_r, up_k, ur_s, ur_e, ur_i, cp_k, w32_i, w64_i, w8_i] <;> omega
theorem op_mask : op0 Inv fB_mask fR_mask := by
  intro w hI
  obtain ⟨hH, hC, hT, hL, hN, hK, hS, hB⟩ := id hI
  obtain ⟨p0, p6, pr, m0, m5, mr, hV⟩ := id hH
  refine same_of ?_
  by_cases hm : w 1 5 < 5
  · unfold fB_mask fHa_addMask fR_mask
    refine i_ci (i_if (fun _ => i_bv (i_bw ?_)) (fun q => absurd hm q))
    rw [w32_i (by omega) (by omega)]
    refine l_addMask (by simp (disch := omega) only [not_true_eq_false, not_false_eq_true, true_and, and_true, up_r, up_k, ur_s, ur_e, ur_i, cp_k, w32_i, w64_i, w8_i]; omega) (by simp (disch := omega) only [not_true_eq_false, not_false_eq_true, true_and, and_true, up_r, up_k, ur_s, ur_e, ur_i, cp_k, w32_i, w64_i, w8_i]; omega) ?_
    refine i_cv (s_note (by simp (disch := omega) only [not_true_eq_false, not_false_eq_true, true_and, and_true, up_r, up_k, ur_s, ur_e, ur_i, cp_k, w32_i, w64_i, w8_i]; omega) (fun ho => i_some (i_some ?_)) (fun ho => by exfalso; unfold OKp at ho; revert ho; simp (disch := omega) only [not_true_eq_false, not_false_eq_true, true_and, and_true, up_r, up_k, ur_s, ur_e, ur_i, cp_k, w32_i, w64_i, w8_i]; omega))
    have e7 : PL 7 (w 1 5) = 24 + 4 * w 1 5 + 3 := by unfold PL; rw [if_neg (by omega), if_pos (by omega)]; omega
    rw [e7]
    refine i_if (fun _ => ?_) (fun q => by exfalso; revert q; simp (disch := omega) only [not_true_eq_false, not_false_eq_true, true_and, and_true, up_r, up_k, ur_s, ur_e, ur_i, cp_k, w32_i, w64_i, w8_i]; omega)
    refine l_maskR (by simp (disch := omega) only [not_true_eq_false, not_false_eq_true, true_and, and_true, up_r, up_k, ur_s, ur_e, ur_i, cp_k, w32_i, w64_i, w8_i]; omega) ?_
    simp (disch := omega) only [not_true_eq_false, not_false_eq_true, true_and, and_true, up_r, up_k, ur_s, ur_e, ur_i, cp_k, w32_i, w64_i, w8_i]
    rw [mr]
    refine i_ck (by omega) (i_bw ?_)
    simp (disch := omega) only [not_true_eq_false, not_false_eq_true, true_and, and_true, up_r, up_k, ur_s, ur_e, ur_i, cp_k, w32_i, w64_i, w8_i]
    rw [mr]
    refine i_ck (by omega) (i_bw ?_)
    simp (disch := omega) only [not_true_eq_false, not_false_eq_true, true_and, and_true, up_r, up_k, ur_s, ur_e, ur_i, cp_k, w32_i, w64_i, w8_i]
    rw [mr]
    refine i_ck (by omega) (i_bw (i_bw (i_some ⟨?_, ?_⟩)))
    · simp (disch := omega) only [not_true_eq_false, not_false_eq_true, true_and, and_true, up_r, up_k, ur_s, ur_e, ur_i, cp_k, w32_i, w64_i, w8_i]
      omega
    · refine ⟨⟨?_, ?_, ?_, ?_, ?_, ?_, ?_⟩, (by refine ICh_of ⟨?_, ?_, ?_, ?_, ?_, ?_, ?_, ?_, ?_, ?_, ?_⟩ hC <;> simp (disch := omega) only [not_true_eq_false, not_false_eq_true, true_and, and_true, up_r, up_k, ur_s, ur_e, ur_i, cp_k, w32_i, w64_i, w8_i]), (by refine ITape_of ⟨?_, ?_, ?_, ?_⟩ hT <;> simp (disch := omega) only [not_true_eq_false, not_false_eq_true, true_and, and_true, up_r, up_k, ur_s, ur_e, ur_i, cp_k, w32_i, w64_i, w8_i]), (by refine ILaw_of ⟨?_, ?_, ?_, ?_, ?_, ?_, ?_, ?_⟩ hL <;> simp (disch := omega) only [not_true_eq_false, not_false_eq_true, true_and, and_true, up_r, up_k, ur_s, ur_e, ur_i, cp_k, w32_i, w64_i, w8_i]), ?_, ?_, (by refine IShelf_of ⟨?_, ?_, ?_, ?_, ?_⟩ hS <;> first | (intro k hk1 hk2; simp (disch := omega) only [not_true_eq_false, not_false_eq_true, true_and, and_true, up_r, up_k, ur_s, ur_e, ur_i, cp_k, w32_i, w64_i, w8_i]) | (simp (disch := omega) only [not_true_eq_false, not_false_eq_true, true_and, and_true, up_r, up_k, ur_s, ur_e, ur_i, cp_k, w32_i, w64_i, w8_i])), (by refine IBody_of ⟨?_, ?_, ?_, ?_, ?_, ?_, ?_, ?_⟩ hB <;> simp (disch := omega) only [not_true_eq_false, not_false_eq_true, true_and, and_true, up_r, up_k, ur_s, ur_e, ur_i, cp_k, w32_i, w64_i, w8_i])⟩
      · (first | omega | (simp (disch := omega) only [not_true_eq_false, not_false_eq_true, true_and, and_true, up_r, up_k, ur_s, ur_e, ur_i, cp_k, w32_i, w64_i, w8_i]; done) | (simp (disch := omega) only [not_true_eq_false, not_false_eq_true, true_and, and_true, up_r, up_k, ur_s, ur_e, ur_i, cp_k, w32_i, w64_i, w8_i]; omega))
      · (first | omega | (simp (disch := omega) only [not_true_eq_false, not_false_eq_true, true_and, and_true, up_r, up_k, ur_s, ur_e, ur_i, cp_k, w32_i, w64_i, w8_i]; done) | (simp (disch := omega) only [not_true_eq_false, not_false_eq_true, true_and, and_true, up_r, up_k, ur_s, ur_e, ur_i, cp_k, w32_i, w64_i, w8_i]; omega))
      · (first | omega | (simp (disch := omega) only [not_true_eq_false, not_false_eq_true, true_and, and_true, up_r, up_k, ur_s, ur_e, ur_i, cp_k, w32_i, w64_i, w8_i]; done) | (simp (disch := omega) only [not_true_eq_false, not_false_eq_true, true_and, and_true, up_r, up_k, ur_s, ur_e, ur_i, cp_k, w32_i, w64_i, w8_i]; omega))
      · (first | omega | (simp (disch := omega) only [not_true_eq_false, not_false_eq_true, true_and, and_true, up_r, up_k, ur_s, ur_e, ur_i, cp_k, w32_i, w64_i, w8_i]; done) | (simp (disch := omega) only [not_true_eq_false, not_false_eq_true, true_and, and_true, up_r, up_k, ur_s, ur_e, ur_i, cp_k, w32_i, w64_i, w8_i]; omega))
      · (first | omega | (simp (disch := omega) only [not_true_eq_false, not_false_eq_true, true_and, and_true, up_r, up_k, ur_s, ur_e, ur_i, cp_k, w32_i, w64_i, w8_i]; done) | (simp (disch := omega) only [not_true_eq_false, not_false_eq_true, true_and, and_true, up_r, up_k, ur_s, ur_e, ur_i, cp_k, w32_i, w64_i, w8_i]; omega))
      · (first | omega | (simp (disch := omega) only [not_true_eq_false, not_false_eq_true, true_and, and_true, up_r, up_k, ur_s, ur_e, ur_i, cp_k, w32_i, w64_i, w8_i]; done) | (simp (disch := omega) only [not_true_eq_false, not_false_eq_true, true_and, and_true, up_r, up_k, ur_s, ur_e, ur_i, cp_k, w32_i, w64_i, w8_i]; omega))
      · refine HV_mask (w := w) (m := w 1 5) hV ⟨m0, hm⟩ ?_ ?_ ?_ ?_
        · simp (disch := omega) only [not_true_eq_false, not_false_eq_true, true_and, and_true, up_r, up_k, ur_s, ur_e, ur_i, cp_k, w32_i, w64_i, w8_i]
        · simp (disch := omega) only [not_true_eq_false, not_false_eq_true, true_and, and_true, up_r, up_k, ur_s, ur_e, ur_i, cp_k, w32_i, w64_i, w8_i]
        · simp (disch := omega) only [not_true_eq_false, not_false_eq_true, true_and, and_true, up_r, up_k, ur_s, ur_e, ur_i, cp_k, w32_i, w64_i, w8_i]
        · intro k h1 h2 h3 h4
          simp (disch := omega) only [not_true_eq_false, not_false_eq_true, true_and, and_true, up_r, up_k, ur_s, ur_e, ur_i, cp_k, w32_i, w64_i, w8_i]
      · obtain ⟨n1, n2⟩ := hN
        refine ⟨fun m h1 h2 => ?_, ?_⟩
        · simp (disch := omega) only [not_true_eq_false, not_false_eq_true, true_and, and_true, up_r, up_k, ur_s, ur_e, ur_i, cp_k, w32_i, w64_i, w8_i]
          obtain ⟨q1, q2, q3, q4⟩ := n1 m h1 h2
          by_cases hk : m = w 1 5
          · subst hk
            obtain ⟨q5, q6⟩ := q4 (by omega)
            simp (disch := omega) only [not_true_eq_false, not_false_eq_true, true_and, and_true, up_r, up_k, ur_s, ur_e, ur_i, cp_k, w32_i, w64_i, w8_i]
            exact ⟨q1, q2, fun _ => ⟨q5.symm, q6.symm⟩, fun q => by exfalso; omega⟩
          · simp (disch := omega) only [not_true_eq_false, not_false_eq_true, true_and, and_true, up_r, up_k, ur_s, ur_e, ur_i, cp_k, w32_i, w64_i, w8_i]
            exact ⟨q1, q2, fun q => q3 (by omega), fun q => q4 (by omega)⟩
        · simp (disch := omega) only [not_true_eq_false, not_false_eq_true, true_and, and_true, up_r, up_k, ur_s, ur_e, ur_i, cp_k, w32_i, w64_i, w8_i]
          exact n2
      · rcases hK with ⟨h1, h2⟩ | ⟨h1, h2, h3, h4, h5, h6⟩
        · left
          simp (disch := omega) only [not_true_eq_false, not_false_eq_true, true_and, and_true, up_r, up_k, ur_s, ur_e, ur_i, cp_k, w32_i, w64_i, w8_i]
          exact ⟨h1, h2⟩
        · right
          simp (disch := omega) only [not_true_eq_false, not_false_eq_true, true_and, and_true, up_r, up_k, ur_s, ur_e, ur_i, cp_k, w32_i, w64_i, w8_i]
          exact ⟨h1, h2, h3, by omega, h5, h6⟩
  · unfold fB_mask fHa_addMask fR_mask
    exact i_ci (i_if (fun q => absurd q hm) (fun _ => i_some (i_some (i_if (fun q => by exfalso; omega) (fun _ => i_some ⟨rfl, hI⟩)))))
