theorem HV_49 {w : WD} (h : HV w) : w 52 2 = w 2 49 ∧ 0 ≤ w 2 49 ∧ w 2 49 ≤ 99 := h 11 0 ⟨by omega, by omega, by omega, by omega, by omega, by omega, by omega⟩
theorem ACF_68 {w y : WD} {law : Option LINES} {sn : Int → Int → Int} {g : Int → Int} {m p : Int} (h : TP w law) (hA : ACF (w 1 4) (w 1 5) (BY (Wf w law sn) (MAYw w)) g (LL w law sn (MAYw w)) y) (hm : 0 ≤ m ∧ m < w 1 5) (hp : 0 ≤ p ∧ p < 7) : y 68 (7 * m + p) = BH w law sn m p := by
  rw [hA.2.2.2.1 m p hm.1 hm.2 hp.1 hp.2]
  exact w64_bh h
theorem ACF_32 {w y : WD} {law : Option LINES} {sn : Int → Int → Int} {may : Int → Int} {g : Int → Int} (h : TP w law) (hA : ACF (w 1 4) (w 1 5) (BY (Wf w law sn) may) g (LL w law sn may) y) : y 46 32 = SUM w law sn may := by
  rw [hA.1.2.1]
  exact w64_sum h
/-! points -/
theorem s_pointsC {w u : WD} {law : Option LINES} {a : Int} {Q : Int → WD → Prop} (h : TP w law) (e : Same w u) (hQ : Q (if w 2 49 ≤ a then 1 else 2) u) : WI (fHa_pointsAt a u) Q := by
  unfold fHa_pointsAt
  have e1 := e.r 1 (by decide)
  refine i_ci (s_at (by rw [e1]; exact h.2.2.1) (fun _ => ?_) (fun q => absurd (show OKp _ _ _ _ from ⟨by omega, by omega, by omega, by omega, by omega, by omega, by omega⟩) q))
  rw [show PL 11 0 = 49 from rfl, e.r 2 (by decide)]
  refine i_if (fun q => i_some ?_) (fun q => i_some ?_)
  · rw [if_pos q] at hQ; exact hQ
  · rw [if_neg q] at hQ; exact hQ
theorem s_pointsR {w u : WD} {law : Option LINES} {a : Int} {Q : Int → WD → Prop} (h : TP w law) (e : u 52 = w 52) (hQ : Q (if w 2 49 ≤ a then 1 else 2) u) : WI (fR_pointsAt a u) Q := by
  unfold fR_pointsAt
  rw [e, (HV_49 h.1).1]
  refine i_if (fun q => i_some ?_) (fun q => i_some ?_)
  · rw [if_pos q] at hQ; exact hQ
  · rw [if_neg q] at hQ; exact hQ
noncomputable def WG (w : WD) (law : Option LINES) (m pt : Int) : Int := CUT (w64 (pt * BH w law (SN w) m (GS w law m))) (SUM w law (SN w) (MAYw w)) 3
theorem s_worthOfGuess {w u : WD} {law : Option LINES} {m pt : Int} {Q : Int → WD → Prop} (h : TP w law) (hm : 0 ≤ m ∧ m < w 1 5) (hT : TH w law (Wf w law (SN w)) (MAYw w) u) (hQ : ∀ v, FRT u v → Q (WG w law m pt) v) : WI (fTh_worthOfGuess m pt u) Q := by
  unfold fTh_worthOfGuess
  have gi := GS_in (m := m) h
  have si := SUM_in (law := law) (sn := SN w) (may := MAYw w) h.1 h.2.2.1
  exact i_ci (s_likeliest h hm hT (fun v v1 => i_ci (s_togetherIf1 h (TH_t hT v1) hm gi.2 (fun y y1 => i_ci (s_together h.1 h.2.2.1 (TH_t (TH_t hT v1) y1) (MOK_w h) (fun z z1 => i_ci (cut_c si.1 (by decide) (i_some (hQ z ((v1.tr y1).tr z1))))))))))
theorem s_worthNow {w u : WD} {law : Option LINES} {m mi : Int} {g : Int → Int} {Q : Int → WD → Prop} (h : TP w law) (hm : 0 ≤ m ∧ m < w 1 5) (e1 : u 46 1 = w 1 4) (e52 : u 52 = w 52) (hA : ACF (w 1 4) (w 1 5) (BY (Wf w law (SN w)) (MAYw w)) g (LL w law (SN w) (MAYw w)) u) (hQ : Q (WG w law m (if w 2 49 ≤ mi then 1 else 2)) u) : WI (fR_worthNow m mi u) Q := by
  unfold fR_worthNow
  have gi := GS_in (m := m) h
  have si := SUM_in (law := law) (sn := SN w) (may := MAYw w) h.1 h.2.2.1
  have m5 := h.2.2.1.2.2.2
  refine i_ci (s_pointsR h e52 (i_ci (s_guessNow h hm e1 (fun p a b => ACF_68 h hA hm ⟨a, b⟩) ?_)))
  rw [w32_i (x := 7 * m) (by omega) (by omega), w32_i (x := 7 * m + GS w law m) (by omega) (by omega), ACF_68 h hA hm gi.2, ACF_32 h hA]
  exact i_ck (by omega) (i_ci (cut_r si.1 (by decide) (i_some hQ)))
/-- the GUESSES' worth together -/
def GSUM (V : Int → Int) (M : Int) : Nat → Int → Int → Int
  | 0, acc, _ => acc
  | f + 1, acc, x => if M ≤ x then acc else GSUM V M f (w32 (acc + V x)) (x + 1)
theorem l_guess108 {w : WD} {law : Option LINES} {pt : Int} {Q : Int → WD → Prop} (h : TP w law) : ∀ (f : Nat) (acc x : Int) (u : WD), 0 ≤ x → x ≤ w 1 5 → w 1 5 - x < f → TH w law (Wf w law (SN w)) (MAYw w) u → (∀ v, FRT u v → Q (GSUM (fun m => WG w law m pt) (w 1 5) f acc x) v) → WI (fB_guess_l108 pt f acc x u) Q
  | 0, acc, x, u, _, _, h, _, _ => by exfalso; omega
  | f + 1, acc, x, u, h0, h1, h2, hT, hQ => by
    show WI (fB_guess_l108_b (fB_guess_l108 pt f) pt acc x u) Q
    unfold fB_guess_l108_b fHa_masks
    unfold GSUM at hQ
    have m5 := h.2.2.1.2.2.2
    rw [w32_i (x := x + 1) (by omega) (by omega)]
    refine i_ci (i_some ?_)
    rw [hT.1.r 1 (by decide)]
    refine i_if (fun q => i_some ?_) (fun q => i_ci (s_worthOfGuess h ⟨h0, by omega⟩ hT (fun v v1 => i_bv (i_bv (l_guess108 h f _ (x + 1) v (by omega) (by omega) (by omega) (TH_t hT v1) (fun y y1 => ?_))))))
    · have e := hQ u FRT.rf; rw [if_pos q] at e; exact e
    · have e := hQ y (v1.tr y1); rw [if_neg q] at e; exact e
theorem l_guess78 {w u : WD} {law : Option LINES} {mi : Int} {g : Int → Int} {Q : Int → WD → Prop} (h : TP w law) (e4 : u 46 4 = w 1 5) (e1 : u 46 1 = w 1 4) (e52 : u 52 = w 52) (hA : ACF (w 1 4) (w 1 5) (BY (Wf w law (SN w)) (MAYw w)) g (LL w law (SN w) (MAYw w)) u) : ∀ (f : Nat) (acc x : Int), 0 ≤ x → x ≤ w 1 5 → w 1 5 - x < f → Q (GSUM (fun m => WG w law m (if w 2 49 ≤ mi then 1 else 2)) (w 1 5) f acc x) u → WI (fR_guess_l78 mi f acc x u) Q
  | 0, acc, x, _, _, h, _ => by exfalso; omega
  | f + 1, acc, x, h0, h1, h2, hQ => by
    show WI (fR_guess_l78_b (fR_guess_l78 mi f) mi acc x u) Q
    unfold fR_guess_l78_b
    unfold GSUM at hQ
    have m5 := h.2.2.1.2.2.2
    rw [w32_i (x := x + 1) (by omega) (by omega), e4]
    refine i_if (fun q => i_some ?_) (fun q => i_ci (s_worthNow h ⟨h0, by omega⟩ e1 e52 hA (i_bv (i_bv (l_guess78 h e4 e1 e52 hA f _ (x + 1) (by omega) (by omega) (by omega) ?_)))))
    · rw [if_pos q] at hQ; exact hQ
    · rw [if_neg q] at hQ; exact hQ
theorem op_guess : op3 Inv fB_guess fR_guess := by
  intro m mi a w hmI hmiI haI hI
  obtain ⟨law, tp⟩ := TP_of hI
  have m5 := tp.2.2.1.2.2.2
  have m0 := tp.2.2.1.2.2.1
  refine same_of ?_
  by_cases hok : ((a = 2 ∧ m = 0) ∨ ((a = 0 ∨ a = 1) ∧ 0 ≤ m ∧ m < w 1 5)) ∧ 0 ≤ mi ∧ mi ≤ 999
  · obtain ⟨hA, hmi⟩ := hok
    have ref : ∀ (u : WD) (r : Int), Same w u → (a = 0 → r = GS w law m) → (a = 1 → r = WG w law m (if w 2 49 ≤ mi then 1 else 2)) → (a = 2 → r = GSUM (fun m => WG w law m (if w 2 49 ≤ mi then 1 else 2)) (w 1 5) FU 0 0) → WI (fR_guess m mi a u) (fun r' y => r' = r ∧ Inv y) := by
      intro u r hu r0 r1 r2
      have u4 := hu.f 4 (by decide)
      unfold fR_guess
      refine i_jn ?_
      have go : WI (ci (fR_in mi 0 999 u) <| fun (r3 : Int) (u2 : WD) => if r3 = 0 then (some ((-1), u2)) else (ci (fR_in a 0 2 u2) <| fun (r6 : Int) (u5 : WD) => if r6 ≠ 0 then (cv (fR_findWays u5) <| fun (u8 : WD) => if 2 ≤ a then (fR_guess_l78 mi FU 0 0 u8) else (if a ≠ 0 then (ci (fR_worthNow m mi u8) <| fun (r16 : Int) (u15 : WD) => some (r16, u15)) else (ci (fR_guessNow m u8) <| fun (r19 : Int) (u18 : WD) => some (r19, u18)))) else (some ((-1), u5)))) (fun r' y => r' = r ∧ Inv y) := by
        refine i_ci (s_in (fun _ => i_if (fun q => absurd q (by decide)) (fun _ => i_ci (s_in (fun _ => i_if (fun _ => i_cv (t_find tp (TR_of tp hu) (fun y y1 y2 _ => ?_))) (fun q => absurd (by decide) q)) (fun q => by exfalso; omega)))) (fun q => absurd hmi q))
        have iy := Inv_same (Inv_same hI hu) y1.same
        have ys := hu.trans y1.same
        have y4 : y 46 4 = w 1 5 := by rw [ys.f 4 (by decide)]; exact tp.2.2.2.1
        have ye1 : y 46 1 = w 1 4 := by rw [ys.f 1 (by decide)]; exact tp.2.2.2.2
        have y52 : y 52 = w 52 := ys.r 52 (by decide)
        refine i_if (fun q => ?_) (fun q => i_if (fun q' => ?_) (fun q' => ?_))
        · exact l_guess78 tp y4 ye1 y52 y2 FU 0 0 (by decide) m0 (by unfold FU; omega) ⟨(r2 (by omega)).symm, iy⟩
        · exact i_ci (s_worthNow tp (by omega) ye1 y52 y2 (i_some ⟨(r1 (by omega)).symm, iy⟩))
        · exact i_ci (s_guessNow tp (by omega) ye1 (fun p a b => ACF_68 tp y2 (by omega) ⟨a, b⟩) (i_some ⟨(r0 (by omega)).symm, iy⟩))
      refine i_if (fun q => ?_) (fun q => i_if (fun _ => go) (fun q' => by exfalso; omega))
      refine i_ci (s_isMaskR (by rw [u4, tp.2.2.2.1]; omega) (fun _ => i_if (fun _ => go) (fun q => absurd (by decide) q)) (fun z => by exfalso; rw [u4, tp.2.2.2.1] at z; omega))
    unfold fB_guess
    refine i_jn ?_
    have go : WI (if (1 : Int) = 0 then (some ((-1), w)) else (ci (fB_isMinute mi w) <| fun (r4 : Int) (u3 : WD) => if r4 ≠ 0 then (cv (fTh_load u3) <| fun (u6 : WD) => if a ≠ 0 then (ci (fHa_pointsAt mi u6) <| fun (r8 : Int) (u7 : WD) => if a ≠ 1 then (fB_guess_l108 r8 FU 0 0 u7) else (ci (fTh_worthOfGuess m r8 u7) <| fun (r20 : Int) (u19 : WD) => some (r20, u19))) else (ci (fTh_likeliest m u6) <| fun (r24 : Int) (u23 : WD) => some (r24, u23))) else (some ((-1), u3)))) (fun r u => WI (fR_guess m mi a u) (fun r' v => r' = r ∧ Inv v)) := by
      refine i_if (fun q => absurd q (by decide)) (fun _ => i_ci (s_minute (fun _ => i_if (fun _ => i_cv (t_load tp Same.rfl' (fun v v1 v2 => ?_))) (fun q => absurd (by decide) q)) (fun q => absurd hmi q)))
      refine i_if (fun q => i_ci (s_pointsC tp v2.1 (i_if (fun q' => ?_) (fun q' => ?_)))) (fun q => ?_)
      · exact l_guess108 tp FU 0 0 v (by decide) m0 (by unfold FU; omega) v2 (fun y y1 => ref y _ (v2.1.trans y1.same) (fun z => absurd z q) (fun z => absurd z q') (fun _ => rfl))
      · exact i_ci (s_worthOfGuess tp (by omega) v2 (fun y y1 => i_some (ref y _ (v2.1.trans y1.same) (fun z => absurd z q) (fun _ => rfl) (fun z => by exfalso; omega))))
      · exact i_ci (s_likeliest tp (by omega) v2 (fun y y1 => i_some (ref y _ (v2.1.trans y1.same) (fun _ => rfl) (fun z => by exfalso; omega) (fun z => by exfalso; omega))))
    refine i_if (fun q => i_ci (s_isBit (fun _ => i_jn (i_if (fun z => absurd z (by decide)) (fun _ => i_ci (s_isMaskC (fun _ => i_if (fun z => absurd z (by decide)) (fun _ => go)) (fun z => by exfalso; omega))))) (fun z => by exfalso; omega))) (fun q => i_if (fun z => by exfalso; omega) (fun _ => go))
  · by_cases hA : (a = 2 ∧ m = 0) ∨ ((a = 0 ∨ a = 1) ∧ 0 ≤ m ∧ m < w 1 5)
    · (repeat' (first | (with_reducible refine i_some ?_) | (with_reducible refine v_some ?_) | (with_reducible refine i_ci ?_) | (with_reducible refine i_cv ?_) | (with_reducible refine v_ci ?_) | (with_reducible refine v_cv ?_) | (with_reducible refine i_bv ?_) | (with_reducible refine v_bv ?_) | (with_reducible refine i_bw ?_) | (with_reducible refine v_bw ?_) | (with_reducible refine i_jn ?_) | (with_reducible refine v_jn ?_) | (with_reducible refine i_ck ?_ ?_) | (with_reducible refine v_ck ?_ ?_) | ((with_reducible refine i_if (fun hc => ?_) (fun hc => ?_)) <;> (try simp (disch := omega) only [not_true_eq_false, not_false_eq_true, true_and, and_true, up_r, up_k, ur_s, ur_e, ur_i, cp_k, w32_i, w64_i, w8_i] at hc) <;> (try (exfalso; omega))) | ((with_reducible refine v_if (fun hc => ?_) (fun hc => ?_)) <;> (try simp (disch := omega) only [not_true_eq_false, not_false_eq_true, true_and, and_true, up_r, up_k, ur_s, ur_e, ur_i, cp_k, w32_i, w64_i, w8_i] at hc) <;> (try (exfalso; omega))) | unfold fB_guess | ((with_reducible apply s_isBit) <;> (try intro hvc) <;> (try simp (disch := omega) only [not_true_eq_false, not_false_eq_true, true_and, and_true, up_r, up_k, ur_s, ur_e, ur_i, cp_k, w32_i, w64_i, w8_i] at hvc) <;> (try (exfalso; omega))) | ((with_reducible apply s_isMaskC) <;> (try intro hvc) <;> (try simp (disch := omega) only [not_true_eq_false, not_false_eq_true, true_and, and_true, up_r, up_k, ur_s, ur_e, ur_i, cp_k, w32_i, w64_i, w8_i] at hvc) <;> (try (exfalso; omega))) | ((with_reducible apply s_minute) <;> (try intro hvc) <;> (try simp (disch := omega) only [not_true_eq_false, not_false_eq_true, true_and, and_true, up_r, up_k, ur_s, ur_e, ur_i, cp_k, w32_i, w64_i, w8_i] at hvc) <;> (try (exfalso; omega))) | unfold fR_guess | ((with_reducible apply s_isMaskR) <;> (try intro hvc) <;> (try simp (disch := omega) only [not_true_eq_false, not_false_eq_true, true_and, and_true, up_r, up_k, ur_s, ur_e, ur_i, cp_k, w32_i, w64_i, w8_i] at hvc) <;> (try (exfalso; omega))) | ((with_reducible apply s_in) <;> (try intro hvc) <;> (try simp (disch := omega) only [not_true_eq_false, not_false_eq_true, true_and, and_true, up_r, up_k, ur_s, ur_e, ur_i, cp_k, w32_i, w64_i, w8_i] at hvc) <;> (try (exfalso; omega)))))
      all_goals first | omega | exact ⟨rfl, hI⟩ | (have := tp.2.2.2.1; omega)
    · (repeat' (first | (with_reducible refine i_some ?_) | (with_reducible refine v_some ?_) | (with_reducible refine i_ci ?_) | (with_reducible refine i_cv ?_) | (with_reducible refine v_ci ?_) | (with_reducible refine v_cv ?_) | (with_reducible refine i_bv ?_) | (with_reducible refine v_bv ?_) | (with_reducible refine i_bw ?_) | (with_reducible refine v_bw ?_) | (with_reducible refine i_jn ?_) | (with_reducible refine v_jn ?_) | (with_reducible refine i_ck ?_ ?_) | (with_reducible refine v_ck ?_ ?_) | ((with_reducible refine i_if (fun hc => ?_) (fun hc => ?_)) <;> (try simp (disch := omega) only [not_true_eq_false, not_false_eq_true, true_and, and_true, up_r, up_k, ur_s, ur_e, ur_i, cp_k, w32_i, w64_i, w8_i] at hc) <;> (try (exfalso; omega))) | ((with_reducible refine v_if (fun hc => ?_) (fun hc => ?_)) <;> (try simp (disch := omega) only [not_true_eq_false, not_false_eq_true, true_and, and_true, up_r, up_k, ur_s, ur_e, ur_i, cp_k, w32_i, w64_i, w8_i] at hc) <;> (try (exfalso; omega))) | unfold fB_guess | ((with_reducible apply s_isBit) <;> (try intro hvc) <;> (try simp (disch := omega) only [not_true_eq_false, not_false_eq_true, true_and, and_true, up_r, up_k, ur_s, ur_e, ur_i, cp_k, w32_i, w64_i, w8_i] at hvc) <;> (try (exfalso; omega))) | ((with_reducible apply s_isMaskC) <;> (try intro hvc) <;> (try simp (disch := omega) only [not_true_eq_false, not_false_eq_true, true_and, and_true, up_r, up_k, ur_s, ur_e, ur_i, cp_k, w32_i, w64_i, w8_i] at hvc) <;> (try (exfalso; omega))) | ((with_reducible apply s_minute) <;> (try intro hvc) <;> (try simp (disch := omega) only [not_true_eq_false, not_false_eq_true, true_and, and_true, up_r, up_k, ur_s, ur_e, ur_i, cp_k, w32_i, w64_i, w8_i] at hvc) <;> (try (exfalso; omega))) | unfold fR_guess | ((with_reducible apply s_isMaskR) <;> (try intro hvc) <;> (try simp (disch := omega) only [not_true_eq_false, not_false_eq_true, true_and, and_true, up_r, up_k, ur_s, ur_e, ur_i, cp_k, w32_i, w64_i, w8_i] at hvc) <;> (try (exfalso; omega))) | ((with_reducible apply s_in) <;> (try intro hvc) <;> (try simp (disch := omega) only [not_true_eq_false, not_false_eq_true, true_and, and_true, up_r, up_k, ur_s, ur_e, ur_i, cp_k, w32_i, w64_i, w8_i] at hvc) <;> (try (exfalso; omega)))))
      all_goals first | omega | exact ⟨rfl, hI⟩ | (have := tp.2.2.2.1; omega)
theorem op_lacks : op2 Inv fB_lacks fR_lacks := by
  intro m mi w hmI hmiI hI
  obtain ⟨law, tp⟩ := TP_of hI
  have m5 := tp.2.2.1.2.2.2
  have m0 := tp.2.2.1.2.2.1
  have r4 := tp.2.2.2.1
  refine same_of ?_
  by_cases hok : (0 ≤ m ∧ m < w 1 5) ∧ 0 ≤ mi ∧ mi ≤ 999
  · obtain ⟨hm, hmi⟩ := hok
    unfold fB_lacks
    refine i_ci (s_isMaskC (fun _ => i_if (fun q => absurd q (by decide)) (fun _ => i_ci (s_minute (fun _ => i_if (fun _ => i_ci (s_at tp.2.2.1 (fun _ => ?_) (fun q => absurd (show OKp _ _ _ _ from ⟨by omega, by omega, by omega, by omega, by omega, by omega, by omega⟩) q))) (fun q => absurd (by decide) q)) (fun q => absurd hmi q)))) (fun q => absurd hm q))
    rw [show PL 11 0 = 49 from rfl]
    have ref : ∀ (u : WD) (r : Int), Same w u → (mi < w 2 49 → r = mn (CUT (BH w law (SN w) m (GS w law m)) (SUM w law (SN w) (MAYw w)) 3) (w32 (1000 - CUT (BH w law (SN w) m (GS w law m)) (SUM w law (SN w) (MAYw w)) 3))) → (¬ mi < w 2 49 → r = 0) → WI (fR_lacks m mi u) (fun r' y => r' = r ∧ Inv y) := by
      intro u r hu r1 r0
      have u4 := hu.f 4 (by decide)
      have u52 := hu.r 52 (by decide)
      unfold fR_lacks
      refine i_ci (s_isMaskR (by omega) (fun _ => i_if (fun q => absurd q (by decide)) (fun _ => i_ci (s_in (fun _ => i_if (fun _ => ?_) (fun q => absurd (by decide) q)) (fun q => absurd hmi q)))) (fun q => by exfalso; omega))
      rw [u52, (HV_49 tp.1).1]
      refine i_if (fun q => i_cv (t_find tp (TR_of tp hu) (fun y y1 y2 _ => ?_))) (fun q => i_some ⟨(r0 q).symm, Inv_same hI hu⟩)
      have iy := Inv_same (Inv_same hI hu) y1.same
      have ys := hu.trans y1.same
      have ye1 : y 46 1 = w 1 4 := by rw [ys.f 1 (by decide)]; exact tp.2.2.2.2
      have gi := GS_in (m := m) tp
      have si := SUM_in (law := law) (sn := SN w) (may := MAYw w) tp.1 tp.2.2.1
      refine i_ci (s_guessNow tp hm ye1 (fun p a b => ACF_68 tp y2 hm ⟨a, b⟩) ?_)
      rw [w32_i (x := 7 * m) (by omega) (by omega), w32_i (x := 7 * m + GS w law m) (by omega) (by omega), ACF_68 tp y2 hm gi.2, ACF_32 tp y2]
      refine i_ck (by omega) (i_ci (cut_r si.1 (by decide) (i_if (fun z => i_some ⟨?_, iy⟩) (fun z => i_some ⟨?_, iy⟩))))
      · rw [r1 q]; unfold mn; split <;> omega
      · rw [r1 q]; unfold mn; split <;> omega
    refine i_if (fun q => i_cv (t_load tp Same.rfl' (fun v v1 v2 => ?_))) (fun q => i_some (ref w 0 Same.rfl' (fun z => absurd z q) (fun _ => rfl)))
    have gi := GS_in (m := m) tp
    have si := SUM_in (law := law) (sn := SN w) (may := MAYw w) tp.1 tp.2.2.1
    unfold fTh_thousandths
    exact i_ci (s_likeliest tp hm v2 (fun y y1 => i_ci (i_ci (s_togetherIf1 tp (TH_t v2 y1) hm gi.2 (fun z z1 => i_ci (s_together tp.1 tp.2.2.1 (TH_t (TH_t v2 y1) z1) (MOK_w tp) (fun t t1 => i_ci (cut_c si.1 (by decide) (i_some (i_some (ref t _ (v2.1.trans ((y1.tr z1).tr t1).same) (fun _ => rfl) (fun c => absurd q c))))))))))))
  · (repeat' (first | (with_reducible refine i_some ?_) | (with_reducible refine v_some ?_) | (with_reducible refine i_ci ?_) | (with_reducible refine i_cv ?_) | (with_reducible refine v_ci ?_) | (with_reducible refine v_cv ?_) | (with_reducible refine i_bv ?_) | (with_reducible refine v_bv ?_) | (with_reducible refine i_bw ?_) | (with_reducible refine v_bw ?_) | (with_reducible refine i_jn ?_) | (with_reducible refine v_jn ?_) | (with_reducible refine i_ck ?_ ?_) | (with_reducible refine v_ck ?_ ?_) | ((with_reducible refine i_if (fun hc => ?_) (fun hc => ?_)) <;> (try simp (disch := omega) only [not_true_eq_false, not_false_eq_true, true_and, and_true, up_r, up_k, ur_s, ur_e, ur_i, cp_k, w32_i, w64_i, w8_i] at hc) <;> (try (exfalso; omega))) | ((with_reducible refine v_if (fun hc => ?_) (fun hc => ?_)) <;> (try simp (disch := omega) only [not_true_eq_false, not_false_eq_true, true_and, and_true, up_r, up_k, ur_s, ur_e, ur_i, cp_k, w32_i, w64_i, w8_i] at hc) <;> (try (exfalso; omega))) | unfold fB_lacks | ((with_reducible apply s_isMaskC) <;> (try intro hvc) <;> (try simp (disch := omega) only [not_true_eq_false, not_false_eq_true, true_and, and_true, up_r, up_k, ur_s, ur_e, ur_i, cp_k, w32_i, w64_i, w8_i] at hvc) <;> (try (exfalso; omega))) | ((with_reducible apply s_minute) <;> (try intro hvc) <;> (try simp (disch := omega) only [not_true_eq_false, not_false_eq_true, true_and, and_true, up_r, up_k, ur_s, ur_e, ur_i, cp_k, w32_i, w64_i, w8_i] at hvc) <;> (try (exfalso; omega))) | unfold fR_lacks | ((with_reducible apply s_isMaskR) <;> (try intro hvc) <;> (try simp (disch := omega) only [not_true_eq_false, not_false_eq_true, true_and, and_true, up_r, up_k, ur_s, ur_e, ur_i, cp_k, w32_i, w64_i, w8_i] at hvc) <;> (try (exfalso; omega))) | ((with_reducible apply s_in) <;> (try intro hvc) <;> (try simp (disch := omega) only [not_true_eq_false, not_false_eq_true, true_and, and_true, up_r, up_k, ur_s, ur_e, ur_i, cp_k, w32_i, w64_i, w8_i] at hvc) <;> (try (exfalso; omega)))))
    all_goals first | omega | exact ⟨rfl, hI⟩
/-! questions -/
theorem s_waysNow {w u : WD} {law : Option LINES} {sn : Int → Int → Int} {may : Int → Int} {Q : Int → WD → Prop} (h : TP w law) (hR : TR w sn may u) (hQ : ∀ v, FRV u v → Q (LL w law sn may).length v) : WI (fR_waysNow u) Q := by
  unfold fR_waysNow
  refine i_cv (t_find h hR (fun y y1 y2 _ => i_some ?_))
  have := LL_len (w := w) (law := law) (sn := sn) (may := may) ⟨h.2.2.1.2.2.1, h.2.2.1.2.2.2⟩
  rw [y2.1.1, w32_i (by omega) (by omega)]
  exact hQ y y1
noncomputable def NI (w : WD) (law : Option LINES) (m set : Int) : Int := (LL w law (SN w) (mup (MAYw w) m (bAnd (MAYw w m) set))).length
theorem NI_in {w : WD} {law : Option LINES} {m set : Int} (h : TP w law) : 0 ≤ NI w law m set ∧ NI w law m set ≤ 16807 := by
  have := LL_len (w := w) (law := law) (sn := SN w) (may := mup (MAYw w) m (bAnd (MAYw w m) set)) ⟨h.2.2.1.2.2.1, h.2.2.1.2.2.2⟩
  unfold NI
  omega
theorem s_numberIf {w u : WD} {law : Option LINES} {m set : Int} {Q : Int → WD → Prop} (h : TP w law) (hT : TH w law (Wf w law (SN w)) (MAYw w) u) (hm : 0 ≤ m ∧ m < w 1 5) (hs : 0 ≤ bAnd (MAYw w m) set ∧ bAnd (MAYw w m) set < 128) (hQ : ∀ v, FRT u v → Q (NI w law m set) v) : WI (fTh_numberIf m set u) Q := by
  unfold fTh_numberIf
  refine i_ci (s_narrowed h.1 h.2.2.1 hT (MOK_w h) hm hs (fun v v1 => i_some ?_))
  rw [AG_count h.1 h.2.2.1.2.1 h.2.2.1.2.2.1]
  exact hQ v v1
theorem s_waysIf {w u : WD} {law : Option LINES} {m set : Int} {Q : Int → WD → Prop} (h : TP w law) (hu : Same w u) (hm : 0 ≤ m ∧ m < w 1 5) (hs : 0 ≤ bAnd (MAYw w m) set ∧ bAnd (MAYw w m) set < 128) (hQ : ∀ v, Same w v → Q (NI w law m set) v) : WI (fR_waysIf m set u) Q := by
  have m5 := h.2.2.1.2.2.2
  have hR := TR_of h hu
  have em := (hR.2.2 m hm.1 hm.2).1
  have e50 := hu.r 50 (by decide)
  have e49 := hu.r 49 (by decide)
  unfold fR_waysIf
  rw [em]
  refine i_ck (by omega) (i_bv (i_ck (by omega) (i_bw (i_ci ?_))))
  have hB : SameB u (up u 50 m (bAnd (MAYw w m) set)) := ⟨fun k _ _ k2 => up_k k2, by rw [up_k (by decide)], by rw [up_k (by decide)], fun i _ => by rw [up_k (by decide)]⟩
  have hR' : TR w (SN w) (mup (MAYw w) m (bAnd (MAYw w m) set)) (up u 50 m (bAnd (MAYw w m) set)) := by
    refine ⟨(SameB.of hu).trans hB, ?_, fun i a b => ?_⟩
    · rw [up_k (by decide)]; exact hR.2.1
    · unfold mup
      by_cases e : i = m
      · subst e; rw [up_s, if_pos rfl]; exact ⟨rfl, hs⟩
      · rw [up_i e, if_neg e]; exact hR.2.2 i a b
  refine s_waysNow h hR' (fun v v1 => i_ck (by omega) (i_bw (i_some (hQ _ ?_))))
  have vB := (hR'.1.trans v1.sameB)
  have hB2 : SameB v (up v 50 m (MAYw w m)) := ⟨fun k _ _ k2 => up_k k2, by rw [up_k (by decide)], by rw [up_k (by decide)], fun i _ => by rw [up_k (by decide)]⟩
  refine (vB.trans hB2).back ?_ ?_
  · rw [up_k (by decide), v1.1 49 (by decide) (by decide), up_k (by decide)]; exact e49
  · rw [up_r, v1.1 50 (by decide) (by decide), up_r, ur_ur, ur_id em.symm]; exact e50
theorem op_question : op3 Inv fB_question fR_question := by
  intro m s a w hmI hsI haI hI
  obtain ⟨law, tp⟩ := TP_of hI
  have m5 := tp.2.2.1.2.2.2
  have m0 := tp.2.2.1.2.2.1
  have r4 := tp.2.2.2.1
  refine same_of ?_
  by_cases hok : (0 ≤ m ∧ m < w 1 5) ∧ (0 ≤ s ∧ s ≤ 127) ∧ (a = 0 ∨ a = 1)
  · obtain ⟨hm, hs, ha⟩ := hok
    have mk := MOK_w tp m hm.1 hm.2
    obtain ⟨n1, n2⟩ := tb_not (a := MAYw w m) (s := s) mk (by omega)
    have r1 := (tb_and (a := MAYw w m) (b := s) (p := 0) mk (by omega) (by decide)).1
    have r2 := (tb_and (a := MAYw w m) (b := 127 - s) (p := 0) mk (by omega) (by decide)).1
    have ni1 := NI_in (m := m) (set := s) tp
    have ni2 := NI_in (m := m) (set := 127 - s) tp
    have e12 : NI w law m (bXor s (-1)) = NI w law m (127 - s) := by unfold NI; rw [n1]
    have ref : ∀ (u : WD) (r : Int), Same w u → (a = 1 → r = NI w law m s) → (a = 0 → r = NI w law m (127 - s)) → WI (fR_question m s a u) (fun r' y => r' = r ∧ Inv y) := by
      intro u r hu q1 q0
      have u4 := hu.f 4 (by decide)
      unfold fR_question
      refine i_ci (s_isMaskR (by omega) (fun _ => i_if (fun q => absurd q (by decide)) (fun _ => i_ci (s_in (fun _ => i_if (fun q => absurd q (by decide)) (fun _ => i_ci (s_in (fun _ => i_if (fun _ => i_jn (i_if (fun q => ?_) (fun q => ?_))) (fun q => absurd (by decide) q)) (fun q => by exfalso; omega)))) (fun q => absurd hs q)))) (fun q => by exfalso; omega))
      · rw [n2]
        exact i_ci (s_waysIf tp hu hm r2 (fun v v1 => i_some ⟨(q0 (by omega)).symm, Inv_same hI v1⟩))
      · exact i_ci (s_waysIf tp hu hm r1 (fun v v1 => i_some ⟨(q1 (by omega)).symm, Inv_same hI v1⟩))
    unfold fB_question
    refine i_ci (s_isMaskC (fun _ => i_if (fun q => absurd q (by decide)) (fun _ => i_if (fun q => by exfalso; omega) (fun _ => i_if (fun q => by exfalso; omega) (fun _ => i_ci (s_isBit (fun _ => i_if (fun _ => i_cv (t_load tp Same.rfl' (fun v v1 v2 => i_jn (i_if (fun q => ?_) (fun q => ?_))))) (fun q => absurd (by decide) q)) (fun q => absurd ha q)))))) (fun q => absurd hm q))
    · refine i_ci (s_numberIf tp v2 hm (by rw [n1]; exact r2) (fun y y1 => i_some ?_))
      rw [e12, w32_i (by omega) (by omega)]
      exact ref y _ (v2.1.trans y1.same) (fun z => absurd z q) (fun _ => rfl)
    · refine i_ci (s_numberIf tp v2 hm r1 (fun y y1 => i_some ?_))
      rw [w32_i (by omega) (by omega)]
      exact ref y _ (v2.1.trans y1.same) (fun _ => rfl) (fun z => by exfalso; omega)
  · (repeat' (first | (with_reducible refine i_some ?_) | (with_reducible refine v_some ?_) | (with_reducible refine i_ci ?_) | (with_reducible refine i_cv ?_) | (with_reducible refine v_ci ?_) | (with_reducible refine v_cv ?_) | (with_reducible refine i_bv ?_) | (with_reducible refine v_bv ?_) | (with_reducible refine i_bw ?_) | (with_reducible refine v_bw ?_) | (with_reducible refine i_jn ?_) | (with_reducible refine v_jn ?_) | (with_reducible refine i_ck ?_ ?_) | (with_reducible refine v_ck ?_ ?_) | ((with_reducible refine i_if (fun hc => ?_) (fun hc => ?_)) <;> (try simp (disch := omega) only [not_true_eq_false, not_false_eq_true, true_and, and_true, up_r, up_k, ur_s, ur_e, ur_i, cp_k, w32_i, w64_i, w8_i] at hc) <;> (try (exfalso; omega))) | ((with_reducible refine v_if (fun hc => ?_) (fun hc => ?_)) <;> (try simp (disch := omega) only [not_true_eq_false, not_false_eq_true, true_and, and_true, up_r, up_k, ur_s, ur_e, ur_i, cp_k, w32_i, w64_i, w8_i] at hc) <;> (try (exfalso; omega))) | unfold fB_question | ((with_reducible apply s_isBit) <;> (try intro hvc) <;> (try simp (disch := omega) only [not_true_eq_false, not_false_eq_true, true_and, and_true, up_r, up_k, ur_s, ur_e, ur_i, cp_k, w32_i, w64_i, w8_i] at hvc) <;> (try (exfalso; omega))) | ((with_reducible apply s_isMaskC) <;> (try intro hvc) <;> (try simp (disch := omega) only [not_true_eq_false, not_false_eq_true, true_and, and_true, up_r, up_k, ur_s, ur_e, ur_i, cp_k, w32_i, w64_i, w8_i] at hvc) <;> (try (exfalso; omega))) | unfold fR_question | ((with_reducible apply s_isMaskR) <;> (try intro hvc) <;> (try simp (disch := omega) only [not_true_eq_false, not_false_eq_true, true_and, and_true, up_r, up_k, ur_s, ur_e, ur_i, cp_k, w32_i, w64_i, w8_i] at hvc) <;> (try (exfalso; omega))) | ((with_reducible apply s_in) <;> (try intro hvc) <;> (try simp (disch := omega) only [not_true_eq_false, not_false_eq_true, true_and, and_true, up_r, up_k, ur_s, ur_e, ur_i, cp_k, w32_i, w64_i, w8_i] at hvc) <;> (try (exfalso; omega)))))
    all_goals first | omega | exact ⟨rfl, hI⟩
/-- WHOM -/
def WM (Z : Int → Int) (M : Int) : Nat → Int → Int → Int → Int
  | 0, b, _, _ => b
  | f + 1, b, t, x => if M ≤ x then b else if b = -2 ∨ Z x < t then WM Z M f x (Z x) (x + 1) else WM Z M f b t (x + 1)
noncomputable def ZQ (w : WD) (law : Option LINES) (s m : Int) : Int := mx (NI w law m s) (NI w law m (127 - s))
theorem l_whom28 {w : WD} {law : Option LINES} {s : Int} {Q : Int → WD → Prop} (h : TP w law) (hs : 0 ≤ s ∧ s < 128) : ∀ (f : Nat) (b t x : Int) (u : WD), 0 ≤ x → x ≤ w 1 5 → w 1 5 - x < f → TH w law (Wf w law (SN w)) (MAYw w) u → (∀ v, FRT u v → Q (WM (ZQ w law s) (w 1 5) f b t x) v) → WI (fB_whom_l28 s f b t x u) Q
  | 0, b, t, x, u, _, _, h, _, _ => by exfalso; omega
  | f + 1, b, t, x, u, h0, h1, h2, hT, hQ => by
    show WI (fB_whom_l28_b (fB_whom_l28 s f) s b t x u) Q
    unfold fB_whom_l28_b fHa_masks
    unfold WM at hQ
    have m5 := h.2.2.1.2.2.2
    rw [w32_i (x := x + 1) (by omega) (by omega)]
    refine i_ci (i_some ?_)
    rw [hT.1.r 1 (by decide)]
    refine i_if (fun q => i_some ?_) (fun q => ?_)
    · have e := hQ u FRT.rf; rw [if_pos q] at e; exact e
    · have mk := MOK_w h x h0 (by omega)
      obtain ⟨n1, n2⟩ := tb_not (a := MAYw w x) (s := s) mk hs
      have r1 := (tb_and (a := MAYw w x) (b := s) (p := 0) mk hs (by decide)).1
      have r2 := (tb_and (a := MAYw w x) (b := 127 - s) (p := 0) mk (by omega) (by decide)).1
      have e12 : NI w law x (bXor s (-1)) = NI w law x (127 - s) := by unfold NI; rw [n1]
      refine i_ci (s_numberIf h hT ⟨h0, by omega⟩ r1 (fun v v1 => i_ci (s_numberIf h (TH_t hT v1) ⟨h0, by omega⟩ (by rw [n1]; exact r2) (fun y y1 => i_bv (i_jn (i_jn ?_))))))
      rw [e12]
      have hy := TH_t (TH_t hT v1) y1
      have yes : (b = -2 ∨ ZQ w law s x < t) → WI (fB_whom_l28 s f x (ZQ w law s x) (x + 1) y) Q := fun c => l_whom28 h hs f x _ (x + 1) y (by omega) (by omega) (by omega) hy (fun z z1 => by
        have e := hQ z ((v1.tr y1).tr z1)
        rw [if_neg q, if_pos c] at e
        exact e)
      refine i_if (fun c => i_bv (yes (Or.inl c))) (fun c => i_if (fun c' => i_bv (l_whom28 h hs f b t (x + 1) y (by omega) (by omega) (by omega) hy (fun z z1 => ?_))) (fun c' => i_bv (yes (Or.inr (by unfold ZQ; omega)))))
      have e := hQ z ((v1.tr y1).tr z1)
      rw [if_neg q, if_neg (fun d => by rcases d with d | d; exact c d; unfold ZQ at d; omega)] at e
      exact e
theorem l_whom20 {w : WD} {law : Option LINES} {s : Int} {Q : Int → WD → Prop} (h : TP w law) (hs : 0 ≤ s ∧ s < 128) : ∀ (f : Nat) (b t x : Int) (u : WD), 0 ≤ x → x ≤ w 1 5 → w 1 5 - x < f → (b = -2 ∨ 0 ≤ b) → Same w u → (∀ v, Same w v → Q (WM (ZQ w law s) (w 1 5) f b t x) v) → WI (fR_whom_l20 s f b t x u) Q
  | 0, b, t, x, u, _, _, h, _, _, _ => by exfalso; omega
  | f + 1, b, t, x, u, h0, h1, h2, hb, hu, hQ => by
    show WI (fR_whom_l20_b (fR_whom_l20 s f) s b t x u) Q
    unfold fR_whom_l20_b
    unfold WM at hQ
    have m5 := h.2.2.1.2.2.2
    rw [w32_i (x := x + 1) (by omega) (by omega), hu.f 4 (by decide), h.2.2.2.1]
    refine i_if (fun q => i_some ?_) (fun q => ?_)
    · have e := hQ u hu; rw [if_pos q] at e; exact e
    · have mk := MOK_w h x h0 (by omega)
      obtain ⟨n1, n2⟩ := tb_not (a := MAYw w x) (s := s) mk hs
      have r1 := (tb_and (a := MAYw w x) (b := s) (p := 0) mk hs (by decide)).1
      have r2 := (tb_and (a := MAYw w x) (b := 127 - s) (p := 0) mk (by omega) (by decide)).1
      refine i_ci (s_waysIf h hu ⟨h0, by omega⟩ r1 (fun v v1 => i_ci ?_))
      rw [n2]
      refine s_waysIf h v1 ⟨h0, by omega⟩ r2 (fun y y1 => i_jn ?_)
      have go : ∀ z : Int, z = ZQ w law s x → WI (jn (β := Int → Int → WD → Option (Int × WD)) (fun (v2_12 : Int) (v3_13 : Int) (u14 : WD) => bv (x + 1) <| fun (v4_15 : Int) => fR_whom_l20 s f v2_12 v3_13 v4_15 u14) <| fun J16 => jn (β := WD → Option (Int × WD)) (fun (u17 : WD) => J16 x z u17) <| fun J18 => if b < 0 then (J18 y) else (if z < t then (J18 y) else (J16 b t y))) Q := by
        intro z ez
        have yes : (b = -2 ∨ ZQ w law s x < t) → WI (fR_whom_l20 s f x z (x + 1) y) Q := fun c => l_whom20 h hs f x z (x + 1) y (by omega) (by omega) (by omega) (Or.inr h0) y1 (fun z' z1 => by
          have e := hQ z' z1
          rw [if_neg q, if_pos c] at e
          rw [ez]
          exact e)
        refine i_jn (i_jn (i_if (fun c => i_bv (yes (Or.inl (by omega)))) (fun c => i_if (fun c' => i_bv (yes (Or.inr (by omega)))) (fun c' => i_bv (l_whom20 h hs f b t (x + 1) y (by omega) (by omega) (by omega) hb y1 (fun z' z1 => ?_))))))
        have e := hQ z' z1
        rw [if_neg q, if_neg (fun d => by rcases d with d | d <;> omega)] at e
        exact e
      refine i_if (fun c => go _ ?_) (fun c => go _ ?_)
      · unfold ZQ mx; split <;> omega
      · unfold ZQ mx; split <;> omega
theorem op_whom : op1 Inv fB_whom fR_whom := by
  intro s w hsI hI
  obtain ⟨law, tp⟩ := TP_of hI
  have m5 := tp.2.2.1.2.2.2
  have m0 := tp.2.2.1.2.2.1
  refine same_of ?_
  by_cases hs : 0 ≤ s ∧ s < 128
  · unfold fB_whom
    refine i_if (fun q => by exfalso; omega) (fun _ => i_if (fun _ => i_cv (t_load tp Same.rfl' (fun v v1 v2 => ?_))) (fun q => by exfalso; omega))
    refine l_whom28 tp hs FU (-2) 0 0 v (by decide) m0 (by unfold FU; omega) v2 (fun y y1 => ?_)
    unfold fR_whom
    refine i_ci (s_in (fun _ => i_if (fun _ => ?_) (fun q => absurd (by decide) q)) (fun q => by exfalso; omega))
    exact l_whom20 tp hs FU (-2) 0 0 y (by decide) m0 (by unfold FU; omega) (Or.inl rfl) (v2.1.trans y1.same) (fun z z1 => ⟨rfl, Inv_same hI z1⟩)
  · (repeat' (first | (with_reducible refine i_some ?_) | (with_reducible refine v_some ?_) | (with_reducible refine i_ci ?_) | (with_reducible refine i_cv ?_) | (with_reducible refine v_ci ?_) | (with_reducible refine v_cv ?_) | (with_reducible refine i_bv ?_) | (with_reducible refine v_bv ?_) | (with_reducible refine i_bw ?_) | (with_reducible refine v_bw ?_) | (with_reducible refine i_jn ?_) | (with_reducible refine v_jn ?_) | (with_reducible refine i_ck ?_ ?_) | (with_reducible refine v_ck ?_ ?_) | ((with_reducible refine i_if (fun hc => ?_) (fun hc => ?_)) <;> (try simp (disch := omega) only [not_true_eq_false, not_false_eq_true, true_and, and_true, up_r, up_k, ur_s, ur_e, ur_i, cp_k, w32_i, w64_i, w8_i] at hc) <;> (try (exfalso; omega))) | ((with_reducible refine v_if (fun hc => ?_) (fun hc => ?_)) <;> (try simp (disch := omega) only [not_true_eq_false, not_false_eq_true, true_and, and_true, up_r, up_k, ur_s, ur_e, ur_i, cp_k, w32_i, w64_i, w8_i] at hc) <;> (try (exfalso; omega))) | unfold fB_whom | unfold fR_whom | ((with_reducible apply s_in) <;> (try intro hvc) <;> (try simp (disch := omega) only [not_true_eq_false, not_false_eq_true, true_and, and_true, up_r, up_k, ur_s, ur_e, ur_i, cp_k, w32_i, w64_i, w8_i] at hvc) <;> (try (exfalso; omega)))))
    all_goals first | omega | exact ⟨rfl, hI⟩
