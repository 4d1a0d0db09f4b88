theorem sh4_e {x : Int} {w : WD} {k i : Int} (h : 53 ≤ k ∧ k ≤ 56) (hi : x - 1 ≤ i ∧ i < 39) : sh4 x w k i = w k (i + 1) := if_pos ⟨h, hi⟩
theorem cp_e {w : WD} {k0 sp k1 dp q i' : Int} (h : dp ≤ i' ∧ i' < dp + q) : cp w k0 sp k1 dp q k1 i' = w k0 (sp + (i' - dp)) := if_pos ⟨rfl, h⟩
theorem s_changesR {f n x : Int} {w : WD} {Q : Int → WD → Prop} (hv : VAL f n) (hd : 0 ≤ w 46 9 ∧ w 46 9 ≤ 40) (h0 : w (PR f) (PI f n) = x → Q (w (PR f) (PI f n)) w)
    (h1 : w (PR f) (PI f n) ≠ x → w 46 9 < 40 → Q (w (PR f) (PI f n)) (up (up (up (up (up (up (up w 46 10 0) 53 (w 46 9) f) 54 (w 46 9) n) 55 (w 46 9) (w (PR f) (PI f n))) 56 (w 46 9) x) 46 9 (w 46 9 + 1)) (PR f) (PI f n) x))
    (h2 : w (PR f) (PI f n) ≠ x → w 46 9 = 40 → Q (w (PR f) (PI f n)) (up (up (up (up (up (up (up (sh4 1 (up w 46 10 0)) 46 9 39) 53 39 f) 54 39 n) 55 39 (w (PR f) (PI f n))) 56 39 x) 46 9 40) (PR f) (PI f n) x)) : WI (fR_changes f n x w) Q := by
  unfold fR_changes
  refine i_ci (s_valueAt hv ?_)
  generalize w (PR f) (PI f n) = cur at *
  refine i_if (fun hc => i_bw (i_jn (i_if (fun h4 => ?_) (fun h4 => ?_)))) (fun hc => i_some (h0 (by omega)))
  · simp (disch := omega) only [not_true_eq_false, not_false_eq_true, true_and, and_true, up_r, up_k, ur_s, ur_e, ur_i, cp_k, w32_i, w64_i, w8_i] at h4
    (repeat' (first | (with_reducible refine i_some ?_) | (with_reducible refine v_some ?_) | (with_reducible refine i_ci ?_) | (with_reducible refine i_cv ?_) | (with_reducible refine v_ci ?_) | (with_reducible refine v_cv ?_) | (with_reducible refine i_bv ?_) | (with_reducible refine v_bv ?_) | (with_reducible refine i_bw ?_) | (with_reducible refine v_bw ?_) | (with_reducible refine i_jn ?_) | (with_reducible refine v_jn ?_) | (with_reducible refine i_ck ?_ ?_) | (with_reducible refine v_ck ?_ ?_) | ((with_reducible refine i_if (fun hc => ?_) (fun hc => ?_)) <;> (try simp (disch := omega) only [not_true_eq_false, not_false_eq_true, true_and, and_true, up_r, up_k, ur_s, ur_e, ur_i, cp_k, w32_i, w64_i, w8_i] at hc) <;> (try (exfalso; omega))) | ((with_reducible refine v_if (fun hc => ?_) (fun hc => ?_)) <;> (try simp (disch := omega) only [not_true_eq_false, not_false_eq_true, true_and, and_true, up_r, up_k, ur_s, ur_e, ur_i, cp_k, w32_i, w64_i, w8_i] at hc) <;> (try (exfalso; omega))) | ((with_reducible apply s_hset) <;> (try intro hvc) <;> (try simp (disch := omega) only [not_true_eq_false, not_false_eq_true, true_and, and_true, up_r, up_k, ur_s, ur_e, ur_i, cp_k, w32_i, w64_i, w8_i] at hvc) <;> (try (exfalso; omega))))) <;> simp (disch := omega) only [not_true_eq_false, not_false_eq_true, true_and, and_true, up_r, up_k, ur_s, ur_e, ur_i, cp_k, w32_i, w64_i, w8_i] <;> try omega
    refine s_lays hv (i_some ?_)
    exact h1 hc (by omega)
  · simp (disch := omega) only [not_true_eq_false, not_false_eq_true, true_and, and_true, up_r, up_k, ur_s, ur_e, ur_i, cp_k, w32_i, w64_i, w8_i] at h4
    refine l_changes FU 1 _ (by decide) (by decide) (by decide) ?_
    have e9 : sh4 1 (up w 46 10 0) 46 = up w 46 10 0 46 := sh4_o (by omega)
    refine i_bw ?_
    rw [e9]
    have e8 : w32 (up w 46 10 0 46 9 - 1) = 39 := by simp (disch := omega) only [not_true_eq_false, not_false_eq_true, true_and, and_true, up_r, up_k, ur_s, ur_e, ur_i, cp_k, w32_i, w64_i, w8_i]; omega
    rw [e8]
    (repeat' (first | (with_reducible refine i_some ?_) | (with_reducible refine v_some ?_) | (with_reducible refine i_ci ?_) | (with_reducible refine i_cv ?_) | (with_reducible refine v_ci ?_) | (with_reducible refine v_cv ?_) | (with_reducible refine i_bv ?_) | (with_reducible refine v_bv ?_) | (with_reducible refine i_bw ?_) | (with_reducible refine v_bw ?_) | (with_reducible refine i_jn ?_) | (with_reducible refine v_jn ?_) | (with_reducible refine i_ck ?_ ?_) | (with_reducible refine v_ck ?_ ?_) | ((with_reducible refine i_if (fun hc => ?_) (fun hc => ?_)) <;> (try simp (disch := omega) only [not_true_eq_false, not_false_eq_true, true_and, and_true, up_r, up_k, ur_s, ur_e, ur_i, cp_k, w32_i, w64_i, w8_i] at hc) <;> (try (exfalso; omega))) | ((with_reducible refine v_if (fun hc => ?_) (fun hc => ?_)) <;> (try simp (disch := omega) only [not_true_eq_false, not_false_eq_true, true_and, and_true, up_r, up_k, ur_s, ur_e, ur_i, cp_k, w32_i, w64_i, w8_i] at hc) <;> (try (exfalso; omega))) | ((with_reducible apply s_hset) <;> (try intro hvc) <;> (try simp (disch := omega) only [not_true_eq_false, not_false_eq_true, true_and, and_true, up_r, up_k, ur_s, ur_e, ur_i, cp_k, w32_i, w64_i, w8_i] at hvc) <;> (try (exfalso; omega))))) <;> simp (disch := omega) only [not_true_eq_false, not_false_eq_true, true_and, and_true, up_r, up_k, ur_s, ur_e, ur_i, cp_k, w32_i, w64_i, w8_i] <;> try omega
    refine s_lays hv (i_some ?_)
    exact h2 hc (by omega)
theorem roLO {f : Int} (h : 0 ≤ f ∧ f ≤ 12) : roC 2 f = LO f ∧ roC 3 f = HI f := by
  rcases f_cases h.1 h.2 with rfl | rfl | rfl | rfl | rfl | rfl | rfl | rfl | rfl | rfl | rfl | rfl | rfl <;> exact ⟨rfl, rfl⟩
/-- the numbers, changed on both sides, in cells that are not a change's -/
theorem IHall_set {w v : WD} {f a x : Int} (h : IHall w) (hf : VAL f a) (hx : LO f ≤ x ∧ x ≤ HI f) (e1 : v 1 4 = w 1 4 ∧ v 1 5 = w 1 5 ∧ v 46 1 = w 46 1 ∧ v 46 4 = w 46 4) (e2 : v 2 = ur (w 2) (PL f a) x) (er : v (PR f) = ur (w (PR f)) (PI f a) x) (eo : ∀ k, 47 ≤ k → k ≤ 52 → k ≠ PR f → v k = w k) : IHall v := by
  obtain ⟨a1, a2, a3, a4, a5, a6, a7⟩ := h
  obtain ⟨b1, b2, b3, b4⟩ := e1
  exact ⟨by omega, by omega, by omega, by omega, by omega, by omega, HV_set a7 hf hx e2 er eo⟩
theorem op_mend : op3 Inv fB_mend fR_mend := by
  intro n f x w hn hf hx hI
  obtain ⟨hH, hC, hT, hL, hN, hK, hS, hB⟩ := id hI
  obtain ⟨p0, p6, pr, m0, m5, mr, hV⟩ := id hH
  obtain ⟨d0, u0, du, dr, ur', hc⟩ := id hC
  refine same_of ?_
  unfold fB_mend fHa_alter fR_mend
  refine i_ci (i_ci (s_placeOf ⟨p0, p6, m0, m5⟩ (fun ho => ?_) (fun ho => ?_)))
  · have hv := ho.val p6 m5
    have hpl := PL_in hv
    obtain ⟨e1, e2⟩ := roLO ⟨hv.1, hv.2.1⟩
    have f0 := hv.1
    have f12 := hv.2.1
    obtain ⟨vr, vl, vh⟩ := hV f n hv
    have ok' : OKp (w 46 1) (w 46 4) n f := by rw [pr, mr]; exact ho
    refine i_if (fun q => by exfalso; omega) (fun _ => i_if (fun q => by exfalso; omega) (fun _ => i_ck ⟨f0, by omega⟩ ?_))
    rw [e1, e2]
    have bad : ¬ (LO f ≤ x ∧ x ≤ HI f) → WI (ci (fR_isOne n f w) fun r2 u1 => if r2 = 0 then some (-2000000000, u1) else ci (fR_mayHave f x u1) fun r5 u4 => if r5 = 0 then some (-2000000000, u4) else ci (fR_changes f n x u4) fun r8 u7 => some (r8, u7)) (fun r' v => r' = -2000000000 ∧ Inv v) := fun hb =>
      i_ci (s_isOneR (by omega) (fun _ => i_if (fun q => absurd q (by decide)) (fun _ => i_ci (s_mayHave ⟨f0, f12⟩ (fun q => absurd q hb) (fun _ => i_if (fun _ => i_some ⟨rfl, hI⟩) (fun q => absurd rfl q))))) (fun q => absurd ok' q))
    have good : LO f ≤ x ∧ x ≤ HI f → ∀ {u : WD} {Q : Int → WD → Prop}, u 46 = w 46 → WI (fR_changes f n x u) Q → WI (ci (fR_isOne n f u) fun r2 u1 => if r2 = 0 then some (-2000000000, u1) else ci (fR_mayHave f x u1) fun r5 u4 => if r5 = 0 then some (-2000000000, u4) else ci (fR_changes f n x u4) fun r8 u7 => some (r8, u7)) Q := fun hb u Q eu hw =>
      i_ci (s_isOneR (by rw [eu]; omega) (fun _ => i_if (fun q => absurd q (by decide)) (fun _ => i_ci (s_mayHave ⟨f0, f12⟩ (fun _ => i_if (fun q => absurd q (by decide)) (fun _ => i_ci (i_mono hw (fun r v h => i_some h)))) (fun q => absurd hb q)))) (fun q => absurd (by rw [eu]; exact ok') q))
    refine i_if (fun q => i_some (i_some (bad (by omega)))) (fun q1 => i_ck ⟨f0, by omega⟩ (i_if (fun q2 => ?_) (fun q => i_some (i_some (bad (by omega))))))
    have hx' : LO f ≤ x ∧ x ≤ HI f := ⟨by omega, q2⟩
    refine i_ci (s_get hpl (i_if (fun q => i_some (i_some (good hx' rfl ?_))) (fun q => ?_)))
    · refine s_changesR hv (by omega) (fun q3 => ⟨vr, hI⟩) (fun q3 => absurd (vr.trans q) q3) (fun q3 => absurd (vr.trans q) q3)
    · have pr47 := PR_in f
      refine i_cv (s_keepChange (by omega) (fun q4 => i_cv (s_hset hpl (i_some (i_some (good hx' (by simp (disch := omega) only [not_true_eq_false, not_false_eq_true, true_and, and_true, up_r, up_k, ur_s, ur_e, ur_i, cp_k, w32_i, w64_i, w8_i]) ?_))))) (fun q4 => i_cv (s_hset hpl (i_some (i_some (good hx' (by simp (disch := omega) only [not_true_eq_false, not_false_eq_true, true_and, and_true, up_r, up_k, ur_s, ur_e, ur_i, cp_k, w32_i, w64_i, w8_i]) ?_))))))
      · refine s_changesR hv (by simp (disch := omega) only [not_true_eq_false, not_false_eq_true, true_and, and_true, up_r, up_k, ur_s, ur_e, ur_i, cp_k, w32_i, w64_i, w8_i]; omega) (fun q3 => ?_) (fun q3 q5 => ⟨?_, ?_⟩) (fun q3 q5 => ?_)
        · exfalso
          simp (disch := omega) only [not_true_eq_false, not_false_eq_true, true_and, and_true, up_r, up_k, ur_s, ur_e, ur_i, cp_k, w32_i, w64_i, w8_i] at q3
          omega
        · simp (disch := omega) only [not_true_eq_false, not_false_eq_true, true_and, and_true, up_r, up_k, ur_s, ur_e, ur_i, cp_k, w32_i, w64_i, w8_i]
          exact vr
        · simp (disch := omega) only [not_true_eq_false, not_false_eq_true, true_and, and_true, up_r, up_k, ur_s, ur_e, ur_i, cp_k, w32_i, w64_i, w8_i] at q5
          refine ⟨?_, ?_, (by refine ITape_of ⟨?_, ?_, ?_, ?_⟩ hT <;> simp (disch := omega) only [not_true_eq_false, not_false_eq_true, true_and, and_true, up_r, up_k, ur_s, ur_e, ur_i, cp_k, w32_i, w64_i, w8_i]), (by refine ILaw_of ⟨?_, ?_, ?_, ?_, ?_, ?_, ?_, ?_⟩ hL <;> simp (disch := omega) only [not_true_eq_false, not_false_eq_true, true_and, and_true, up_r, up_k, ur_s, ur_e, ur_i, cp_k, w32_i, w64_i, w8_i]), (by refine INight_of ⟨?_, ?_, ?_, ?_, ?_, ?_, ?_, ?_, ?_⟩ hN <;> simp (disch := omega) only [not_true_eq_false, not_false_eq_true, true_and, and_true, up_r, up_k, ur_s, ur_e, ur_i, cp_k, w32_i, w64_i, w8_i]), (by refine IKept_of ⟨?_, ?_, ?_, ?_, ?_, ?_, ?_, ?_, ?_, ?_, ?_, ?_, ?_, ?_⟩ hK <;> simp (disch := omega) only [not_true_eq_false, not_false_eq_true, true_and, and_true, up_r, up_k, ur_s, ur_e, ur_i, cp_k, w32_i, w64_i, w8_i]), (by refine IShelf_of ⟨?_, ?_, ?_, ?_, ?_⟩ hS <;> first | (intro k hk1 hk2; simp (disch := omega) only [not_true_eq_false, not_false_eq_true, true_and, and_true, up_r, up_k, ur_s, ur_e, ur_i, cp_k, w32_i, w64_i, w8_i]) | (simp (disch := omega) only [not_true_eq_false, not_false_eq_true, true_and, and_true, up_r, up_k, ur_s, ur_e, ur_i, cp_k, w32_i, w64_i, w8_i])), (by refine IBody_of ⟨?_, ?_, ?_, ?_, ?_, ?_, ?_, ?_⟩ hB <;> simp (disch := omega) only [not_true_eq_false, not_false_eq_true, true_and, and_true, up_r, up_k, ur_s, ur_e, ur_i, cp_k, w32_i, w64_i, w8_i])⟩
          · refine IHall_set hH hv hx' ?_ ?_ ?_ ?_
            · simp (disch := omega) only [not_true_eq_false, not_false_eq_true, true_and, and_true, up_r, up_k, ur_s, ur_e, ur_i, cp_k, w32_i, w64_i, w8_i]
            · simp (disch := omega) only [not_true_eq_false, not_false_eq_true, true_and, and_true, up_r, up_k, ur_s, ur_e, ur_i, cp_k, w32_i, w64_i, w8_i]
            · simp (disch := omega) only [not_true_eq_false, not_false_eq_true, true_and, and_true, up_r, up_k, ur_s, ur_e, ur_i, cp_k, w32_i, w64_i, w8_i]
            · intro k h1 h2 h3
              simp (disch := omega) only [not_true_eq_false, not_false_eq_true, true_and, and_true, up_r, up_k, ur_s, ur_e, ur_i, cp_k, w32_i, w64_i, w8_i]
          · refine ⟨?_, ?_, ?_, ?_, ?_, ?_⟩
            · simp (disch := omega) only [not_true_eq_false, not_false_eq_true, true_and, and_true, up_r, up_k, ur_s, ur_e, ur_i, cp_k, w32_i, w64_i, w8_i]; omega
            · simp (disch := omega) only [not_true_eq_false, not_false_eq_true, true_and, and_true, up_r, up_k, ur_s, ur_e, ur_i, cp_k, w32_i, w64_i, w8_i]; omega
            · simp (disch := omega) only [not_true_eq_false, not_false_eq_true, true_and, and_true, up_r, up_k, ur_s, ur_e, ur_i, cp_k, w32_i, w64_i, w8_i]; omega
            · simp (disch := omega) only [not_true_eq_false, not_false_eq_true, true_and, and_true, up_r, up_k, ur_s, ur_e, ur_i, cp_k, w32_i, w64_i, w8_i]; omega
            · simp (disch := omega) only [not_true_eq_false, not_false_eq_true, true_and, and_true, up_r, up_k, ur_s, ur_e, ur_i, cp_k, w32_i, w64_i, w8_i]
            · intro k h1 h2
              simp (disch := omega) only [not_true_eq_false, not_false_eq_true, true_and, and_true, up_r, up_k, ur_s, ur_e, ur_i, cp_k, w32_i, w64_i, w8_i] at h2
              by_cases hk : k = w 1 6
              · subst hk
                simp (disch := omega) only [not_true_eq_false, not_false_eq_true, true_and, and_true, up_r, up_k, ur_s, ur_e, ur_i, cp_k, w32_i, w64_i, w8_i]
                exact ⟨hv, vr.symm, vl, vh, hx'⟩
              · have hk' : k ≠ w 46 9 := by omega
                simp (disch := omega) only [not_true_eq_false, not_false_eq_true, true_and, and_true, up_r, up_k, ur_s, ur_e, ur_i, cp_k, w32_i, w64_i, w8_i]
                exact hc k h1 (by omega)
        · exfalso
          simp (disch := omega) only [not_true_eq_false, not_false_eq_true, true_and, and_true, up_r, up_k, ur_s, ur_e, ur_i, cp_k, w32_i, w64_i, w8_i] at q5
          omega
      · refine s_changesR hv (by simp (disch := omega) only [not_true_eq_false, not_false_eq_true, true_and, and_true, up_r, up_k, ur_s, ur_e, ur_i, cp_k, w32_i, w64_i, w8_i]; omega) (fun q3 => ?_) (fun q3 q5 => ?_) (fun q3 q5 => ⟨?_, ?_⟩)
        · exfalso
          simp (disch := omega) only [not_true_eq_false, not_false_eq_true, true_and, and_true, up_r, up_k, ur_s, ur_e, ur_i, cp_k, w32_i, w64_i, w8_i] at q3
          omega
        · exfalso
          simp (disch := omega) only [not_true_eq_false, not_false_eq_true, true_and, and_true, up_r, up_k, ur_s, ur_e, ur_i, cp_k, w32_i, w64_i, w8_i] at q5
          omega
        · simp (disch := omega) only [not_true_eq_false, not_false_eq_true, true_and, and_true, up_r, up_k, ur_s, ur_e, ur_i, cp_k, w32_i, w64_i, w8_i]
          exact vr
        · simp (disch := omega) only [not_true_eq_false, not_false_eq_true, true_and, and_true, up_r, up_k, ur_s, ur_e, ur_i, cp_k, w32_i, w64_i, w8_i] at q5
          refine ⟨?_, ?_, (by refine ITape_of ⟨?_, ?_, ?_, ?_⟩ hT <;> simp (disch := omega) only [not_true_eq_false, not_false_eq_true, true_and, and_true, up_r, up_k, ur_s, ur_e, ur_i, cp_k, sh4_o, w32_i, w64_i, w8_i]), (by refine ILaw_of ⟨?_, ?_, ?_, ?_, ?_, ?_, ?_, ?_⟩ hL <;> simp (disch := omega) only [not_true_eq_false, not_false_eq_true, true_and, and_true, up_r, up_k, ur_s, ur_e, ur_i, cp_k, sh4_o, w32_i, w64_i, w8_i]), (by refine INight_of ⟨?_, ?_, ?_, ?_, ?_, ?_, ?_, ?_, ?_⟩ hN <;> simp (disch := omega) only [not_true_eq_false, not_false_eq_true, true_and, and_true, up_r, up_k, ur_s, ur_e, ur_i, cp_k, sh4_o, w32_i, w64_i, w8_i]), (by refine IKept_of ⟨?_, ?_, ?_, ?_, ?_, ?_, ?_, ?_, ?_, ?_, ?_, ?_, ?_, ?_⟩ hK <;> simp (disch := omega) only [not_true_eq_false, not_false_eq_true, true_and, and_true, up_r, up_k, ur_s, ur_e, ur_i, cp_k, sh4_o, w32_i, w64_i, w8_i]), (by refine IShelf_of ⟨?_, ?_, ?_, ?_, ?_⟩ hS <;> first | (intro k hk1 hk2; simp (disch := omega) only [not_true_eq_false, not_false_eq_true, true_and, and_true, up_r, up_k, ur_s, ur_e, ur_i, cp_k, sh4_o, w32_i, w64_i, w8_i]) | (simp (disch := omega) only [not_true_eq_false, not_false_eq_true, true_and, and_true, up_r, up_k, ur_s, ur_e, ur_i, cp_k, sh4_o, w32_i, w64_i, w8_i])), (by refine IBody_of ⟨?_, ?_, ?_, ?_, ?_, ?_, ?_, ?_⟩ hB <;> simp (disch := omega) only [not_true_eq_false, not_false_eq_true, true_and, and_true, up_r, up_k, ur_s, ur_e, ur_i, cp_k, sh4_o, w32_i, w64_i, w8_i])⟩
          · refine IHall_set hH hv hx' ?_ ?_ ?_ ?_
            · simp (disch := omega) only [not_true_eq_false, not_false_eq_true, true_and, and_true, up_r, up_k, ur_s, ur_e, ur_i, cp_k, w32_i, w64_i, w8_i, sh4_o]
            · simp (disch := omega) only [not_true_eq_false, not_false_eq_true, true_and, and_true, up_r, up_k, ur_s, ur_e, ur_i, cp_k, w32_i, w64_i, w8_i, sh4_o]
            · simp (disch := omega) only [not_true_eq_false, not_false_eq_true, true_and, and_true, up_r, up_k, ur_s, ur_e, ur_i, cp_k, w32_i, w64_i, w8_i, sh4_o]
            · intro k h1 h2 h3
              simp (disch := omega) only [not_true_eq_false, not_false_eq_true, true_and, and_true, up_r, up_k, ur_s, ur_e, ur_i, cp_k, w32_i, w64_i, w8_i, sh4_o]
          · refine ⟨?_, ?_, ?_, ?_, ?_, ?_⟩
            · simp (disch := omega) only [not_true_eq_false, not_false_eq_true, true_and, and_true, up_r, up_k, ur_s, ur_e, ur_i, cp_k, w32_i, w64_i, w8_i, sh4_o]; omega
            · simp (disch := omega) only [not_true_eq_false, not_false_eq_true, true_and, and_true, up_r, up_k, ur_s, ur_e, ur_i, cp_k, w32_i, w64_i, w8_i, sh4_o]; omega
            · simp (disch := omega) only [not_true_eq_false, not_false_eq_true, true_and, and_true, up_r, up_k, ur_s, ur_e, ur_i, cp_k, w32_i, w64_i, w8_i, sh4_o]; omega
            · simp (disch := omega) only [not_true_eq_false, not_false_eq_true, true_and, and_true, up_r, up_k, ur_s, ur_e, ur_i, cp_k, w32_i, w64_i, w8_i, sh4_o]
            · simp (disch := omega) only [not_true_eq_false, not_false_eq_true, true_and, and_true, up_r, up_k, ur_s, ur_e, ur_i, cp_k, w32_i, w64_i, w8_i, sh4_o]
            · intro k h1 h2
              simp (disch := omega) only [not_true_eq_false, not_false_eq_true, true_and, and_true, up_r, up_k, ur_s, ur_e, ur_i, cp_k, w32_i, w64_i, w8_i, sh4_o] at h2
              by_cases hk : k = 39
              · subst hk
                simp (disch := omega) only [not_true_eq_false, not_false_eq_true, true_and, and_true, up_r, up_k, ur_s, ur_e, ur_i, cp_k, w32_i, w64_i, w8_i, sh4_o]
                exact ⟨hv, vr.symm, vl, vh, hx'⟩
              · simp (disch := omega) only [not_true_eq_false, not_false_eq_true, true_and, and_true, up_r, up_k, ur_s, ur_e, ur_i, cp_k, w32_i, w64_i, w8_i, sh4_o, cp_e, sh4_e]
                have ek : 1 + (k - 0) = k + 1 := by omega
                rw [ek]
                exact hc (k + 1) (by omega) (by omega)
  · refine i_if (fun _ => i_some (i_some ?_)) (fun q => by exfalso; omega)
    exact i_ci (s_isOneR (by omega) (fun q => absurd (by rw [pr, mr] at q; exact q) ho) (fun _ => i_if (fun _ => i_some ⟨rfl, hI⟩) (fun q => absurd rfl q)))
