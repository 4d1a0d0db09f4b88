theorem l_seat {a b : Int} {K : WD → Option (Int × WD)} {Q : Int → WD → Prop} : ∀ (f : Nat) (x : Int) (w : WD), 0 ≤ x → x ≤ 5 → 5 - x < f → ((b ≠ 6 ∧ ∃ k, x ≤ k ∧ k < 5 ∧ k ≠ a ∧ w 20 k = b) → Q (-5) w) → (¬ (b ≠ 6 ∧ ∃ k, x ≤ k ∧ k < 5 ∧ k ≠ a ∧ w 20 k = b) → WI (K w) Q) → WI (fNi_seat_l2 a b K f x w) Q
  | 0, x, w, _, _, h, _, _ => by exfalso; omega
  | f + 1, x, w, h1, h2, h3, hy, hn => by
    have next : (b = 6 ∨ x = a ∨ w 20 x ≠ b) → x < 5 → WI (fNi_seat_l2 a b K f (x + 1) w) Q := fun hc hx => l_seat f (x + 1) w (by omega) (by omega) (by omega)
      (fun ⟨z, k, k1, k2, k3, k4⟩ => hy ⟨z, k, by omega, k2, k3, k4⟩)
      (fun z => hn (fun ⟨z', k, k1, k2, k3, k4⟩ => z ⟨z', k, by
        rcases (by omega : k = x ∨ x + 1 ≤ k) with rfl | q
        · rcases hc with c | c | c
          · exact absurd c z'
          · exact absurd c k3
          · exact absurd k4 c
        · exact q, k2, k3, k4⟩))
    show WI (fNi_seat_l2_b (fNi_seat_l2 a b K f) a b K x w) Q
    unfold fNi_seat_l2_b
    refine i_if (fun q => hn (fun ⟨_, k, k1, k2, _⟩ => by omega)) (fun q => i_jn ?_)
    rw [w32_i (by omega) (by omega)]
    refine i_if (fun c => next (Or.inl c) (by omega)) (fun c1 => i_if (fun c => next (Or.inr (Or.inl c)) (by omega)) (fun c2 => i_ck (by omega) (i_if (fun c => next (Or.inr (Or.inr c)) (by omega)) (fun c3 => i_some (hy ⟨c1, x, by omega, by omega, c2, by omega⟩)))))
theorem l_behindR {a b : Int} {K : WD → Option (Int × WD)} {Q : Int → WD → Prop} : ∀ (f : Nat) (x : Int) (w : WD), 0 ≤ x → x ≤ w 46 4 → w 46 4 ≤ 5 → 5 - x < f → ((b < 6 ∧ ∃ k, x ≤ k ∧ k < w 46 4 ∧ k ≠ a ∧ w 73 k = b) → Q (-5) w) → (¬ (b < 6 ∧ ∃ k, x ≤ k ∧ k < w 46 4 ∧ k ≠ a ∧ w 73 k = b) → WI (K w) Q) → WI (fR_behind_l21 a b K f x w) Q
  | 0, x, w, _, _, _, h, _, _ => by exfalso; omega
  | f + 1, x, w, h1, h2, h2', h3, hy, hn => by
    have next : (6 ≤ b ∨ x = a ∨ w 73 x ≠ b) → x < w 46 4 → WI (fR_behind_l21 a b K f (x + 1) w) Q := fun hc hx => l_behindR f (x + 1) w (by omega) (by omega) h2' (by omega)
      (fun ⟨z, k, k1, k2, k3, k4⟩ => hy ⟨z, k, by omega, k2, k3, k4⟩)
      (fun z => hn (fun ⟨z', k, k1, k2, k3, k4⟩ => z ⟨z', k, by
        rcases (by omega : k = x ∨ x + 1 ≤ k) with rfl | q
        · rcases hc with c | c | c
          · omega
          · exact absurd c k3
          · exact absurd k4 c
        · exact q, k2, k3, k4⟩))
    show WI (fR_behind_l21_b (fR_behind_l21 a b K f) a b K x w) Q
    unfold fR_behind_l21_b
    refine i_if (fun q => hn (fun ⟨_, k, k1, k2, _⟩ => by omega)) (fun q => i_jn ?_)
    rw [w32_i (by omega) (by omega)]
    refine i_if (fun c => next (Or.inr (Or.inl c)) (by omega)) (fun c2 => i_if (fun c => next (Or.inl c) (by omega)) (fun c1 => i_ck (by omega) (i_if (fun c => next (Or.inr (Or.inr c)) (by omega)) (fun c3 => i_some (hy ⟨by omega, x, by omega, by omega, c2, by omega⟩)))))
theorem op_behind : op2 Inv fB_behind fR_behind := by
  intro a b w ha hb hI
  obtain ⟨hH, hC, hT, hL, hN, hK, hS, hB⟩ := id hI
  obtain ⟨p0, p6, pr, m0, m5, mr, hV⟩ := id hH
  obtain ⟨n1, n2, n3, n4, n5⟩ := id hN
  refine same_of ?_
  by_cases hab : (0 ≤ a ∧ a < w 1 5) ∧ ((0 ≤ b ∧ b < w 1 4) ∨ b = 6)
  · obtain ⟨hA, hb'⟩ := hab
    obtain ⟨a1, a2, a3, a4⟩ := n1 a (by omega) (by omega)
    have a5 := a3 hA.2
    have iff1 : (b ≠ 6 ∧ ∃ k, 0 ≤ k ∧ k < 5 ∧ k ≠ a ∧ w 20 k = b) → b < 6 ∧ ∃ k, 0 ≤ k ∧ k < w 46 4 ∧ k ≠ a ∧ w 73 k = b := by
      intro ⟨z, k, k1, k2, k3, k4⟩
      obtain ⟨e1, e2, e3, e4⟩ := n1 k k1 k2
      rcases (by omega : k < w 1 5 ∨ w 1 5 ≤ k) with q | q
      · exact ⟨by omega, k, k1, by omega, k3, by rw [(e3 q).1]; exact k4⟩
      · have := (e4 q).1
        omega
    have iff2 : (b < 6 ∧ ∃ k, 0 ≤ k ∧ k < w 46 4 ∧ k ≠ a ∧ w 73 k = b) → (b ≠ 6 ∧ ∃ k, 0 ≤ k ∧ k < 5 ∧ k ≠ a ∧ w 20 k = b) := by
      intro ⟨z, k, k1, k2, k3, k4⟩
      obtain ⟨e1, e2, e3, e4⟩ := n1 k k1 (by omega)
      exact ⟨by omega, k, k1, by omega, k3, by rw [← (e3 (by omega)).1]; exact k4⟩
    unfold fB_behind fNi_seat
    refine i_ci (s_isMaskC (fun _ => i_if (fun q => absurd q (by decide)) (fun _ => ?_)) (fun q => absurd hA q))
    refine i_ci (s_isOneC (fun _ => i_if (fun q => absurd q (by decide)) (fun _ => i_ci ?_)) (fun q => absurd hb' q))
    refine l_seat FU 0 w (by decide) (by decide) (by decide) (fun hy => i_some ?_) (fun hn => ?_)
    · unfold fR_behind
      refine i_ci (s_isMaskR (by omega) (fun _ => i_if (fun q => absurd q (by decide)) (fun _ => ?_)) (fun q => by exfalso; omega))
      refine i_ci (s_isWhoR (by omega) (fun _ => i_if (fun _ => ?_) (fun q => absurd (by decide) q)) (fun q => by exfalso; omega))
      exact l_behindR FU 0 w (by decide) (by omega) (by omega) (by unfold FU; omega) (fun _ => ⟨rfl, hI⟩) (fun q => absurd (iff1 hy) q)
    · (repeat' (first | (with_reducible refine i_some ?_) | (with_reducible refine v_some ?_) | (with_reducible refine i_ci ?_) | (with_reducible refine i_cv ?_) | (with_reducible refine v_ci ?_) | (with_reducible refine v_cv ?_) | (with_reducible refine i_bv ?_) | (with_reducible refine v_bv ?_) | (with_reducible refine i_bw ?_) | (with_reducible refine v_bw ?_) | (with_reducible refine i_jn ?_) | (with_reducible refine v_jn ?_) | (with_reducible refine i_ck ?_ ?_) | (with_reducible refine v_ck ?_ ?_) | ((with_reducible refine i_if (fun hc => ?_) (fun hc => ?_)) <;> (try simp (disch := omega) only [not_true_eq_false, not_false_eq_true, true_and, and_true, up_r, up_k, ur_s, ur_e, ur_i, cp_k, w32_i, w64_i, w8_i] at hc) <;> (try (exfalso; omega))) | ((with_reducible refine v_if (fun hc => ?_) (fun hc => ?_)) <;> (try simp (disch := omega) only [not_true_eq_false, not_false_eq_true, true_and, and_true, up_r, up_k, ur_s, ur_e, ur_i, cp_k, w32_i, w64_i, w8_i] at hc) <;> (try (exfalso; omega))) | unfold fNi_whoIs | unfold fNi_isIn))
      all_goals first | omega | skip
      all_goals (
        unfold fR_behind
        refine i_ci (s_isMaskR (by simp (disch := omega) only [not_true_eq_false, not_false_eq_true, true_and, and_true, up_r, up_k, ur_s, ur_e, ur_i, cp_k, w32_i, w64_i, w8_i]; omega) (fun _ => i_if (fun q => absurd q (by decide)) (fun _ => ?_)) (fun q => by exfalso; simp (disch := omega) only [not_true_eq_false, not_false_eq_true, true_and, and_true, up_r, up_k, ur_s, ur_e, ur_i, cp_k, w32_i, w64_i, w8_i] at q; omega))
        refine i_ci (s_isWhoR (by simp (disch := omega) only [not_true_eq_false, not_false_eq_true, true_and, and_true, up_r, up_k, ur_s, ur_e, ur_i, cp_k, w32_i, w64_i, w8_i]; omega) (fun _ => i_if (fun _ => ?_) (fun q => absurd (by decide) q)) (fun q => by exfalso; simp (disch := omega) only [not_true_eq_false, not_false_eq_true, true_and, and_true, up_r, up_k, ur_s, ur_e, ur_i, cp_k, w32_i, w64_i, w8_i] at q; omega))
        refine l_behindR FU 0 _ (by decide) (by simp (disch := omega) only [not_true_eq_false, not_false_eq_true, true_and, and_true, up_r, up_k, ur_s, ur_e, ur_i, cp_k, w32_i, w64_i, w8_i]; omega) (by simp (disch := omega) only [not_true_eq_false, not_false_eq_true, true_and, and_true, up_r, up_k, ur_s, ur_e, ur_i, cp_k, w32_i, w64_i, w8_i]; omega) (by unfold FU; omega) (fun q => ?_) (fun q => ?_)
        · exfalso
          simp (disch := omega) only [not_true_eq_false, not_false_eq_true, true_and, and_true, up_r, up_k, ur_s, ur_e, ur_i, cp_k, w32_i, w64_i, w8_i] at q
          exact hn (iff2 q)
        · refine i_ck (by omega) (i_bv (i_ck (by omega) (i_bw (i_some ?_))))
          simp (disch := omega) only [not_true_eq_false, not_false_eq_true, true_and, and_true, up_r, up_k, ur_s, ur_e, ur_i, cp_k, w32_i, w64_i, w8_i]
          refine ⟨a5.1, (by refine IHall_of ⟨?_, ?_, ?_, ?_, ?_, ?_, ?_, ?_, ?_, ?_, ?_⟩ hH <;> simp (disch := omega) only [not_true_eq_false, not_false_eq_true, true_and, and_true, up_r, up_k, ur_s, ur_e, ur_i, cp_k, w32_i, w64_i, w8_i]), (by refine ICh_of ⟨?_, ?_, ?_, ?_, ?_, ?_, ?_, ?_, ?_, ?_, ?_⟩ hC <;> simp (disch := omega) only [not_true_eq_false, not_false_eq_true, true_and, and_true, up_r, up_k, ur_s, ur_e, ur_i, cp_k, w32_i, w64_i, w8_i]), (by refine ITape_of ⟨?_, ?_, ?_, ?_⟩ hT <;> simp (disch := omega) only [not_true_eq_false, not_false_eq_true, true_and, and_true, up_r, up_k, ur_s, ur_e, ur_i, cp_k, w32_i, w64_i, w8_i]), (by refine ILaw_of ⟨?_, ?_, ?_, ?_, ?_, ?_, ?_, ?_⟩ hL <;> simp (disch := omega) only [not_true_eq_false, not_false_eq_true, true_and, and_true, up_r, up_k, ur_s, ur_e, ur_i, cp_k, w32_i, w64_i, w8_i]), ?_, (by refine IKept_of ⟨?_, ?_, ?_, ?_, ?_, ?_, ?_, ?_, ?_, ?_, ?_, ?_, ?_, ?_⟩ hK <;> simp (disch := omega) only [not_true_eq_false, not_false_eq_true, true_and, and_true, up_r, up_k, ur_s, ur_e, ur_i, cp_k, w32_i, w64_i, w8_i]), (by refine IShelf_of ⟨?_, ?_, ?_, ?_, ?_⟩ hS <;> first | (intro k hk1 hk2; simp (disch := omega) only [not_true_eq_false, not_false_eq_true, true_and, and_true, up_r, up_k, ur_s, ur_e, ur_i, cp_k, w32_i, w64_i, w8_i]) | (simp (disch := omega) only [not_true_eq_false, not_false_eq_true, true_and, and_true, up_r, up_k, ur_s, ur_e, ur_i, cp_k, w32_i, w64_i, w8_i])), (by refine IBody_of ⟨?_, ?_, ?_, ?_, ?_, ?_, ?_, ?_⟩ hB <;> simp (disch := omega) only [not_true_eq_false, not_false_eq_true, true_and, and_true, up_r, up_k, ur_s, ur_e, ur_i, cp_k, w32_i, w64_i, w8_i])⟩
          refine ⟨fun m h1 h2 => ?_, ?_⟩
          · have e := n1 m h1 h2
            by_cases ma : m = a
            · subst ma
              simp (disch := omega) only [not_true_eq_false, not_false_eq_true, true_and, and_true, up_r, up_k, ur_s, ur_e, ur_i, cp_k, w32_i, w64_i, w8_i]
              refine ⟨?_, a2, fun _ => a5.2, fun q => by exfalso; omega⟩
              clear hn iff1 iff2
              unfold WHO
              omega
            · simp (disch := omega) only [not_true_eq_false, not_false_eq_true, true_and, and_true, up_r, up_k, ur_s, ur_e, ur_i, cp_k, w32_i, w64_i, w8_i]
              exact e
          · simp (disch := omega) only [not_true_eq_false, not_false_eq_true, true_and, and_true, up_r, up_k, ur_s, ur_e, ur_i, cp_k, w32_i, w64_i, w8_i]
            exact ⟨n2, n3, n4, n5⟩)
  · (repeat' (first | (with_reducible refine i_some ?_) | (with_reducible refine v_some ?_) | (with_reducible refine i_ci ?_) | (with_reducible refine i_cv ?_) | (with_reducible refine v_ci ?_) | (with_reducible refine v_cv ?_) | (with_reducible refine i_bv ?_) | (with_reducible refine v_bv ?_) | (with_reducible refine i_bw ?_) | (with_reducible refine v_bw ?_) | (with_reducible refine i_jn ?_) | (with_reducible refine v_jn ?_) | (with_reducible refine i_ck ?_ ?_) | (with_reducible refine v_ck ?_ ?_) | ((with_reducible refine i_if (fun hc => ?_) (fun hc => ?_)) <;> (try simp (disch := omega) only [not_true_eq_false, not_false_eq_true, true_and, and_true, up_r, up_k, ur_s, ur_e, ur_i, cp_k, w32_i, w64_i, w8_i] at hc) <;> (try (exfalso; omega))) | ((with_reducible refine v_if (fun hc => ?_) (fun hc => ?_)) <;> (try simp (disch := omega) only [not_true_eq_false, not_false_eq_true, true_and, and_true, up_r, up_k, ur_s, ur_e, ur_i, cp_k, w32_i, w64_i, w8_i] at hc) <;> (try (exfalso; omega))) | unfold fB_behind | unfold fR_behind | ((with_reducible apply s_isMaskC) <;> (try intro hvc) <;> (try simp (disch := omega) only [not_true_eq_false, not_false_eq_true, true_and, and_true, up_r, up_k, ur_s, ur_e, ur_i, cp_k, w32_i, w64_i, w8_i] at hvc) <;> (try (exfalso; omega))) | ((with_reducible apply s_isMaskR) <;> (try intro hvc) <;> (try simp (disch := omega) only [not_true_eq_false, not_false_eq_true, true_and, and_true, up_r, up_k, ur_s, ur_e, ur_i, cp_k, w32_i, w64_i, w8_i] at hvc) <;> (try (exfalso; omega))) | ((with_reducible apply s_isOneC) <;> (try intro hvc) <;> (try simp (disch := omega) only [not_true_eq_false, not_false_eq_true, true_and, and_true, up_r, up_k, ur_s, ur_e, ur_i, cp_k, w32_i, w64_i, w8_i] at hvc) <;> (try (exfalso; omega))) | ((with_reducible apply s_isWhoR) <;> (try intro hvc) <;> (try simp (disch := omega) only [not_true_eq_false, not_false_eq_true, true_and, and_true, up_r, up_k, ur_s, ur_e, ur_i, cp_k, w32_i, w64_i, w8_i] at hvc) <;> (try (exfalso; omega)))))
    all_goals first
      | exact ⟨by omega, hI⟩
      | omega
/-- the first of three that is not seen -/
def FS (g : Int → Int) (y : Int) : Prop := 0 ≤ y ∧ y ≤ 3 ∧ (∀ k, 0 ≤ k → k < y → 0 ≤ g k) ∧ (y < 3 → g y < 0)
theorem FS_ex (g : Int → Int) : ∃ y, FS g y := by
  by_cases h0 : g 0 < 0
  · exact ⟨0, by omega, by omega, fun k k1 k2 => by omega, fun _ => h0⟩
  by_cases h1 : g 1 < 0
  · refine ⟨1, by omega, by omega, fun k k1 k2 => ?_, fun _ => h1⟩
    have : k = 0 := by omega
    subst this; omega
  by_cases h2 : g 2 < 0
  · refine ⟨2, by omega, by omega, fun k k1 k2 => ?_, fun _ => h2⟩
    rcases (by omega : k = 0 ∨ k = 1) with rfl | rfl <;> omega
  · refine ⟨3, by omega, by omega, fun k k1 k2 => ?_, fun q => by omega⟩
    rcases (by omega : k = 0 ∨ k = 1 ∨ k = 2) with rfl | rfl | rfl <;> omega
theorem l_danceC {a y : Int} {K : Int → WD → Option (Int × WD)} {Q : Int → WD → Prop} : ∀ (f : Nat) (x : Int) (w : WD), 0 ≤ x → x ≤ y → 3 - x < f → (0 ≤ a ∧ a < w 1 5) → (0 ≤ w 1 4 ∧ w 1 4 ≤ 6 ∧ 0 ≤ w 1 5 ∧ w 1 5 ≤ 5) → FS (fun k => w 2 (24 + 4 * a + k)) y → (y = 3 → Q (-2) w) → (y < 3 → WI (K y w) Q) → WI (fNi_danceWith_l57 a K f x w) Q
  | 0, x, w, _, h2, h, _, _, hy, _, _ => by exfalso; have := hy.2.1; omega
  | f + 1, x, w, h1, h2, h3, ha, hp, hy, q1, q2 => by
    obtain ⟨y0, y3, yk, yn⟩ := id hy
    show WI (fNi_danceWith_l57_b (fNi_danceWith_l57 a K f) a K x w) Q
    unfold fNi_danceWith_l57_b
    refine i_if (fun q => i_some (q1 (by omega))) (fun q => i_ci ?_)
    rw [w32_i (x := 4 + x) (by omega) (by omega)]
    refine s_at hp (fun _ => ?_) (fun z => absurd (show OKp (w 1 4) (w 1 5) a (4 + x) from ⟨by omega, by omega, by omega, by omega, by omega, by omega, by omega⟩) z)
    have e : PL (4 + x) a = 24 + 4 * a + x := by unfold PL; rw [if_neg (by omega), if_pos (by omega)]; omega
    rw [e, w32_i (by omega) (by omega)]
    refine i_if (fun z => i_bv (l_danceC f (x + 1) w (by omega) ?_ (by omega) ha hp hy q1 q2)) (fun z => ?_)
    · rcases (by omega : x = y ∨ x + 1 ≤ y) with c | c
      · subst c
        have : w 2 (24 + 4 * a + x) < 0 := yn (by omega)
        omega
      · exact c
    · rcases (by omega : x = y ∨ x < y) with c | c
      · subst c
        exact q2 (by omega)
      · exact absurd (yk x h1 c) z
theorem l_danceR {a y : Int} {K : Int → WD → Option (Int × WD)} {Q : Int → WD → Prop} (ha : 0 ≤ a ∧ a < 5) : ∀ (f : Nat) (x : Int) (w : WD), 0 ≤ x → x ≤ y → 3 - x < f → FS (fun k => w 49 (3 * a + k)) y → (y = 3 → Q (-2) w) → (y < 3 → WI (K y w) Q) → WI (fR_dance_l66 a K f x w) Q
  | 0, x, w, _, h2, h, hy, _, _ => by exfalso; have := hy.2.1; omega
  | f + 1, x, w, h1, h2, h3, hy, q1, q2 => by
    obtain ⟨y0, y3, yk, yn⟩ := id hy
    show WI (fR_dance_l66_b (fR_dance_l66 a K f) a K x w) Q
    unfold fR_dance_l66_b
    refine i_if (fun q => i_some (q1 (by omega))) (fun q => ?_)
    rw [w32_i (x := 3 * a) (by omega) (by omega), w32_i (x := 3 * a + x) (by omega) (by omega), w32_i (x := x + 1) (by omega) (by omega)]
    refine i_ck (by omega) (i_if (fun z => ?_) (fun z => i_bv (l_danceR ha f (x + 1) w (by omega) ?_ (by omega) hy q1 q2)))
    · rcases (by omega : x = y ∨ x < y) with c | c
      · subst c
        exact q2 (by omega)
      · have : 0 ≤ w 49 (3 * a + x) := yk x h1 c
        exfalso; omega
    · rcases (by omega : x = y ∨ x + 1 ≤ y) with c | c
      · subst c
        have : w 49 (3 * a + x) < 0 := yn (by omega)
        omega
      · exact c
theorem op_dance : op1 Inv fB_dance fR_dance := by
  intro a w ha hI
  obtain ⟨hH, hC, hT, hL, hN, hK, hS, hB⟩ := id hI
  obtain ⟨p0, p6, pr, m0, m5, mr, hV⟩ := id hH
  obtain ⟨n1, n2, n3, n4, n5⟩ := id hN
  refine same_of ?_
  by_cases hA : 0 ≤ a ∧ a < w 1 5
  · obtain ⟨a1, a2, a3, a4⟩ := n1 a (by omega) (by omega)
    obtain ⟨a5, -⟩ := a3 hA.2
    obtain ⟨e12, l12, u12⟩ : w 52 3 = w 2 50 ∧ 1 ≤ w 2 50 ∧ w 2 50 ≤ 30 := hV 12 0 ⟨by omega, by omega, by omega, by omega, by omega, by omega, by omega⟩
    have ok12 : OKp (w 1 4) (w 1 5) 0 12 := ⟨by omega, by omega, by omega, by omega, by omega, by omega, by omega⟩
    have hp : 0 ≤ w 1 4 ∧ w 1 4 ≤ 6 ∧ 0 ≤ w 1 5 ∧ w 1 5 ≤ 5 := ⟨p0, p6, m0, m5⟩
    have hsn : ∀ s, 0 ≤ s → s < 3 → w 49 (3 * a + s) = w 2 (24 + 4 * a + s) ∧ -1 ≤ w 2 (24 + 4 * a + s) ∧ w 2 (24 + 4 * a + s) ≤ 3 := by
      intro s s0 s3
      have := hV (4 + s) a ⟨by omega, by omega, by omega, by omega, by omega, by omega, by omega⟩
      have z1 : PR (4 + s) = 49 := by unfold PR; rw [if_neg (by omega), if_neg (by omega), if_pos (by omega)]
      have z2 : PI (4 + s) a = 3 * a + s := by unfold PI; rw [if_neg (by omega), if_neg (by omega), if_pos (by omega)]; omega
      have z3 : PL (4 + s) a = 24 + 4 * a + s := by unfold PL; rw [if_neg (by omega), if_pos (by omega)]; omega
      have z4 : LO (4 + s) = -1 := by unfold LO; rw [if_pos (by omega)]
      have z5 : HI (4 + s) = 3 := by unfold HI; rw [if_neg (by omega), if_pos (by omega)]
      rw [z1, z2, z3, z4, z5] at this
      exact this
    have e75 := n5 0 (by decide) (by decide)
    unfold WHO at a1
    by_cases hst : w 20 a = -2 ∨ 999 < w 22 0 + w 2 50
    · unfold fB_dance fNi_danceWith
      refine i_ci (s_isMaskC (fun _ => i_if (fun q => absurd q (by decide)) (fun _ => i_ci (i_ci (s_at hp (fun _ => i_bv ?_) (fun q => absurd ok12 q))))) (fun q => absurd hA q))
      rw [show PL 12 0 = 50 from rfl, w32_i (x := w 22 0 + w 2 50) (by omega) (by omega)]
      (repeat' (first | (with_reducible refine i_some ?_) | (with_reducible refine v_some ?_) | (with_reducible refine i_ci ?_) | (with_reducible refine i_cv ?_) | (with_reducible refine v_ci ?_) | (with_reducible refine v_cv ?_) | (with_reducible refine i_bv ?_) | (with_reducible refine v_bv ?_) | (with_reducible refine i_bw ?_) | (with_reducible refine v_bw ?_) | (with_reducible refine i_jn ?_) | (with_reducible refine v_jn ?_) | (with_reducible refine i_ck ?_ ?_) | (with_reducible refine v_ck ?_ ?_) | ((with_reducible refine i_if (fun hc => ?_) (fun hc => ?_)) <;> (try simp (disch := omega) only [not_true_eq_false, not_false_eq_true, true_and, and_true, up_r, up_k, ur_s, ur_e, ur_i, cp_k, w32_i, w64_i, w8_i] at hc) <;> (try (exfalso; omega))) | ((with_reducible refine v_if (fun hc => ?_) (fun hc => ?_)) <;> (try simp (disch := omega) only [not_true_eq_false, not_false_eq_true, true_and, and_true, up_r, up_k, ur_s, ur_e, ur_i, cp_k, w32_i, w64_i, w8_i] at hc) <;> (try (exfalso; omega))) | unfold fNi_whoIs | unfold fNi_isIn | unfold fR_dance | ((with_reducible apply s_isMaskR) <;> (try intro hvc) <;> (try simp (disch := omega) only [not_true_eq_false, not_false_eq_true, true_and, and_true, up_r, up_k, ur_s, ur_e, ur_i, cp_k, w32_i, w64_i, w8_i] at hvc) <;> (try (exfalso; omega)))))
      all_goals first
        | omega
        | exact ⟨rfl, hI⟩
        | skip
    · obtain ⟨y, hy⟩ := FS_ex (fun k => w 2 (24 + 4 * a + k))
      have hyR : FS (fun k => w 49 (3 * a + k)) y := by
        obtain ⟨y0, y3, yk, yn⟩ := hy
        refine ⟨y0, y3, fun k k1 k2 => ?_, fun q => ?_⟩
        · show 0 ≤ w 49 (3 * a + k)
          rw [(hsn k k1 (by omega)).1]; exact yk k k1 k2
        · show w 49 (3 * a + y) < 0
          rw [(hsn y y0 q).1]; exact yn q
      obtain ⟨y0, y3, yk, yn⟩ := id hy
      unfold fB_dance fNi_danceWith
      refine i_ci (s_isMaskC (fun _ => i_if (fun q => absurd q (by decide)) (fun _ => i_ci (i_ci (s_at hp (fun _ => i_bv ?_) (fun q => absurd ok12 q))))) (fun q => absurd hA q))
      rw [show PL 12 0 = 50 from rfl, w32_i (x := w 22 0 + w 2 50) (by omega) (by omega)]
      have refgo : ∀ (u : WD) (Q : Int → WD → Prop), u 46 = w 46 → u 49 = w 49 → u 52 = w 52 → u 73 = w 73 → u 47 = w 47 → u 75 = w 75 → (y = 3 → Q (-2) (up (up u 46 49 (w 22 0 + w 2 50)) 75 0 (w32 (w 22 1 + 1)))) →
          (y < 3 → Q (if w 20 a = 6 then 3 else w 47 (3 * w 20 a + y)) (up (up (up u 46 49 (w 22 0 + w 2 50)) 75 0 (w32 (w 22 1 + 1))) 49 (3 * a + y) (if w 20 a = 6 then 3 else w 47 (3 * w 20 a + y)))) → WI (fR_dance a u) Q := by
        intro u Q u46 u49 u52 u73 u47 u75 q1 q2
        unfold fR_dance
        refine i_ci (s_isMaskR (by rw [u46]; omega) (fun _ => i_if (fun _ => i_ck (by omega) ?_) (fun q => absurd (by decide) q)) (fun q => by exfalso; rw [u46] at q; omega))
        rw [u73, u46, u52, a5, e12, n2, w32_i (x := w 22 0 + w 2 50) (by omega) (by omega)]
        refine i_if (fun q => by exfalso; omega) (fun _ => i_if (fun _ => i_bw (i_bw ?_)) (fun q => by exfalso; omega))
        rw [up_k (k' := 75) (by decide), u75, e75]
        refine l_danceR (y := y) (by omega) FU 0 _ (by decide) y0 (by decide) ?_ q1 (fun q => i_ck (by omega) (i_jn ?_))
        · simp (disch := omega) only [not_true_eq_false, not_false_eq_true, true_and, and_true, up_r, up_k, ur_s, ur_e, ur_i, cp_k, w32_i, w64_i, w8_i]
          rw [u49]
          exact hyR
        · rw [w32_i (x := 3 * a) (by omega) (by omega), w32_i (x := 3 * a + y) (by omega) (by omega)]
          simp (disch := omega) only [not_true_eq_false, not_false_eq_true, true_and, and_true, up_r, up_k, ur_s, ur_e, ur_i, cp_k, w32_i, w64_i, w8_i]
          rw [u73, u47, a5]
          refine i_if (fun c => i_ck (by omega) (i_ck (by simp (disch := omega) only [not_true_eq_false, not_false_eq_true, true_and, and_true, up_r, up_k, ur_s, ur_e, ur_i, cp_k, w32_i, w64_i, w8_i]; omega) (i_ck (by omega) (i_bw (i_ck (by omega) (i_some ?_)))))) (fun c => i_ck (by omega) (i_bw (i_ck (by omega) (i_some ?_))))
          · have e := q2 q
            rw [if_neg (by omega)] at e
            simp (disch := omega) only [not_true_eq_false, not_false_eq_true, true_and, and_true, up_r, up_k, ur_s, ur_e, ur_i, cp_k, w32_i, w64_i, w8_i]
            exact e
          · have e := q2 q
            rw [if_pos (by omega)] at e
            simp (disch := omega) only [not_true_eq_false, not_false_eq_true, true_and, and_true, up_r, up_k, ur_s, ur_e, ur_i, cp_k, w32_i, w64_i, w8_i]
            exact e
      have whoIs : ∀ (u : WD) (Q : Int → WD → Prop), u 20 = w 20 → Q (w 20 a) u → WI (fNi_whoIs a u) Q := by
        intro u Q e h
        (repeat' (first | (with_reducible refine i_some ?_) | (with_reducible refine v_some ?_) | (with_reducible refine i_ci ?_) | (with_reducible refine i_cv ?_) | (with_reducible refine v_ci ?_) | (with_reducible refine v_cv ?_) | (with_reducible refine i_bv ?_) | (with_reducible refine v_bv ?_) | (with_reducible refine i_bw ?_) | (with_reducible refine v_bw ?_) | (with_reducible refine i_jn ?_) | (with_reducible refine v_jn ?_) | (with_reducible refine i_ck ?_ ?_) | (with_reducible refine v_ck ?_ ?_) | ((with_reducible refine i_if (fun hc => ?_) (fun hc => ?_)) <;> (try simp (disch := omega) only [not_true_eq_false, not_false_eq_true, true_and, and_true, up_r, up_k, ur_s, ur_e, ur_i, cp_k, w32_i, w64_i, w8_i] at hc) <;> (try (exfalso; omega))) | ((with_reducible refine v_if (fun hc => ?_) (fun hc => ?_)) <;> (try simp (disch := omega) only [not_true_eq_false, not_false_eq_true, true_and, and_true, up_r, up_k, ur_s, ur_e, ur_i, cp_k, w32_i, w64_i, w8_i] at hc) <;> (try (exfalso; omega))) | unfold fNi_whoIs | unfold fNi_isIn))
        all_goals first | omega | (rw [e]; exact h)
      refine i_ci (whoIs _ _ rfl (i_if (fun q => by exfalso; omega) (fun _ => i_if (fun _ => i_bw (i_bw ?_)) (fun q => by exfalso; omega))))
      simp (disch := omega) only [not_true_eq_false, not_false_eq_true, true_and, and_true, up_r, up_k, ur_s, ur_e, ur_i, cp_k, w32_i, w64_i, w8_i]
      have hN' : ∀ v : WD, v 1 = w 1 → v 20 = w 20 → v 21 = w 21 → v 22 = ur (ur (w 22) 0 (w 22 0 + w 2 50)) 1 (w32 (w 22 1 + 1)) → v 73 = w 73 → v 74 = w 74 → v 75 = ur (w 75) 0 (w32 (w 22 1 + 1)) → v 46 49 = w 22 0 + w 2 50 → INight v := by
        intro v v1 v20 v21 v22 v73 v74 v75 v49
        unfold INight
        rw [v1, v20, v21, v22, v73, v74, v75, v49]
        refine ⟨n1, by simp (disch := omega) only [not_true_eq_false, not_false_eq_true, true_and, and_true, up_r, up_k, ur_s, ur_e, ur_i, cp_k, w32_i, w64_i, w8_i], by simp (disch := omega) only [not_true_eq_false, not_false_eq_true, true_and, and_true, up_r, up_k, ur_s, ur_e, ur_i, cp_k, w32_i, w64_i, w8_i]; omega, by simp (disch := omega) only [not_true_eq_false, not_false_eq_true, true_and, and_true, up_r, up_k, ur_s, ur_e, ur_i, cp_k, w32_i, w64_i, w8_i]; omega, fun k k1 k2 => ?_⟩
        by_cases hk : k = 0
        · subst hk
          simp (disch := omega) only [not_true_eq_false, not_false_eq_true, true_and, and_true, up_r, up_k, ur_s, ur_e, ur_i, cp_k, w32_i, w64_i, w8_i]
        · simp (disch := omega) only [not_true_eq_false, not_false_eq_true, true_and, and_true, up_r, up_k, ur_s, ur_e, ur_i, cp_k, w32_i, w64_i, w8_i]
          exact n5 k k1 k2
      refine l_danceC (y := y) FU 0 _ (by decide) y0 (by decide) (by simp (disch := omega) only [not_true_eq_false, not_false_eq_true, true_and, and_true, up_r, up_k, ur_s, ur_e, ur_i, cp_k, w32_i, w64_i, w8_i]; exact hA) (by simp (disch := omega) only [not_true_eq_false, not_false_eq_true, true_and, and_true, up_r, up_k, ur_s, ur_e, ur_i, cp_k, w32_i, w64_i, w8_i]; exact hp) (by simp (disch := omega) only [not_true_eq_false, not_false_eq_true, true_and, and_true, up_r, up_k, ur_s, ur_e, ur_i, cp_k, w32_i, w64_i, w8_i]; exact hy) (fun q => i_some (refgo _ _ (by simp (disch := omega) only [not_true_eq_false, not_false_eq_true, true_and, and_true, up_r, up_k, ur_s, ur_e, ur_i, cp_k, w32_i, w64_i, w8_i]) (by simp (disch := omega) only [not_true_eq_false, not_false_eq_true, true_and, and_true, up_r, up_k, ur_s, ur_e, ur_i, cp_k, w32_i, w64_i, w8_i]) (by simp (disch := omega) only [not_true_eq_false, not_false_eq_true, true_and, and_true, up_r, up_k, ur_s, ur_e, ur_i, cp_k, w32_i, w64_i, w8_i]) (by simp (disch := omega) only [not_true_eq_false, not_false_eq_true, true_and, and_true, up_r, up_k, ur_s, ur_e, ur_i, cp_k, w32_i, w64_i, w8_i]) (by simp (disch := omega) only [not_true_eq_false, not_false_eq_true, true_and, and_true, up_r, up_k, ur_s, ur_e, ur_i, cp_k, w32_i, w64_i, w8_i]) (by simp (disch := omega) only [not_true_eq_false, not_false_eq_true, true_and, and_true, up_r, up_k, ur_s, ur_e, ur_i, cp_k, w32_i, w64_i, w8_i]) (fun _ => ⟨rfl, ?_⟩) (fun q' => by exfalso; omega))) (fun q => ?_)
      · refine ⟨(by refine IHall_of ⟨?_, ?_, ?_, ?_, ?_, ?_, ?_, ?_, ?_, ?_, ?_⟩ hH <;> simp (disch := omega) only [not_true_eq_false, not_false_eq_true, true_and, and_true, up_r, up_k, ur_s, ur_e, ur_i, cp_k, w32_i, w64_i, w8_i]), (by refine ICh_of ⟨?_, ?_, ?_, ?_, ?_, ?_, ?_, ?_, ?_, ?_, ?_⟩ hC <;> simp (disch := omega) only [not_true_eq_false, not_false_eq_true, true_and, and_true, up_r, up_k, ur_s, ur_e, ur_i, cp_k, w32_i, w64_i, w8_i]), (by refine ITape_of ⟨?_, ?_, ?_, ?_⟩ hT <;> simp (disch := omega) only [not_true_eq_false, not_false_eq_true, true_and, and_true, up_r, up_k, ur_s, ur_e, ur_i, cp_k, w32_i, w64_i, w8_i]), (by refine ILaw_of ⟨?_, ?_, ?_, ?_, ?_, ?_, ?_, ?_⟩ hL <;> simp (disch := omega) only [not_true_eq_false, not_false_eq_true, true_and, and_true, up_r, up_k, ur_s, ur_e, ur_i, cp_k, w32_i, w64_i, w8_i]), ?_, (by refine IKept_of ⟨?_, ?_, ?_, ?_, ?_, ?_, ?_, ?_, ?_, ?_, ?_, ?_, ?_, ?_⟩ hK <;> simp (disch := omega) only [not_true_eq_false, not_false_eq_true, true_and, and_true, up_r, up_k, ur_s, ur_e, ur_i, cp_k, w32_i, w64_i, w8_i]), (by refine IShelf_of ⟨?_, ?_, ?_, ?_, ?_⟩ hS <;> first | (intro k hk1 hk2; simp (disch := omega) only [not_true_eq_false, not_false_eq_true, true_and, and_true, up_r, up_k, ur_s, ur_e, ur_i, cp_k, w32_i, w64_i, w8_i]) | (simp (disch := omega) only [not_true_eq_false, not_false_eq_true, true_and, and_true, up_r, up_k, ur_s, ur_e, ur_i, cp_k, w32_i, w64_i, w8_i])), (by refine IBody_of ⟨?_, ?_, ?_, ?_, ?_, ?_, ?_, ?_⟩ hB <;> simp (disch := omega) only [not_true_eq_false, not_false_eq_true, true_and, and_true, up_r, up_k, ur_s, ur_e, ur_i, cp_k, w32_i, w64_i, w8_i])⟩
        refine hN' _ ?_ ?_ ?_ ?_ ?_ ?_ ?_ ?_ <;> simp (disch := omega) only [not_true_eq_false, not_false_eq_true, true_and, and_true, up_r, up_k, ur_s, ur_e, ur_i, cp_k, w32_i, w64_i, w8_i]
      · refine i_ci (whoIs _ _ (by simp (disch := omega) only [not_true_eq_false, not_false_eq_true, true_and, and_true, up_r, up_k, ur_s, ur_e, ur_i, cp_k, w32_i, w64_i, w8_i]) (i_jn ?_))
        have fin : ∀ (x : Int) (r : Int), (-1 ≤ x ∧ x ≤ 3) → x = (if w 20 a = 6 then 3 else w 47 (3 * w 20 a + y)) → WI (cv (fHa_note a (4 + y) x (up (up w 22 0 (w 22 0 + w 2 50)) 22 1 (w32 (w 22 1 + 1)))) fun u23 => some (x, u23)) (fun r u => WI (some (r, u)) (fun r u => WI (fR_dance a u) (fun r' v => r' = r ∧ Inv v))) := by
          intro x r hx ex
          have z3 : PL (4 + y) a = 24 + 4 * a + y := by unfold PL; rw [if_neg (by omega), if_pos (by omega)]; omega
          refine i_cv (s_note (by simp (disch := omega) only [not_true_eq_false, not_false_eq_true, true_and, and_true, up_r, up_k, ur_s, ur_e, ur_i, cp_k, w32_i, w64_i, w8_i]; exact hp) (fun _ => i_some (i_some (refgo _ _ (by simp (disch := omega) only [not_true_eq_false, not_false_eq_true, true_and, and_true, up_r, up_k, ur_s, ur_e, ur_i, cp_k, w32_i, w64_i, w8_i]) (by simp (disch := omega) only [not_true_eq_false, not_false_eq_true, true_and, and_true, up_r, up_k, ur_s, ur_e, ur_i, cp_k, w32_i, w64_i, w8_i]) (by simp (disch := omega) only [not_true_eq_false, not_false_eq_true, true_and, and_true, up_r, up_k, ur_s, ur_e, ur_i, cp_k, w32_i, w64_i, w8_i]) (by simp (disch := omega) only [not_true_eq_false, not_false_eq_true, true_and, and_true, up_r, up_k, ur_s, ur_e, ur_i, cp_k, w32_i, w64_i, w8_i]) (by simp (disch := omega) only [not_true_eq_false, not_false_eq_true, true_and, and_true, up_r, up_k, ur_s, ur_e, ur_i, cp_k, w32_i, w64_i, w8_i]) (by simp (disch := omega) only [not_true_eq_false, not_false_eq_true, true_and, and_true, up_r, up_k, ur_s, ur_e, ur_i, cp_k, w32_i, w64_i, w8_i]) (fun q' => by exfalso; omega) (fun _ => ⟨ex.symm, ?_⟩)))) (fun z => by exfalso; simp (disch := omega) only [not_true_eq_false, not_false_eq_true, true_and, and_true, up_r, up_k, ur_s, ur_e, ur_i, cp_k, w32_i, w64_i, w8_i] at z; exact z ⟨by omega, by omega, by omega, by omega, by omega, by omega, by omega⟩))
          rw [← ex, z3]
          refine ⟨?_, (by refine ICh_of ⟨?_, ?_, ?_, ?_, ?_, ?_, ?_, ?_, ?_, ?_, ?_⟩ hC <;> simp (disch := omega) only [not_true_eq_false, not_false_eq_true, true_and, and_true, up_r, up_k, ur_s, ur_e, ur_i, cp_k, w32_i, w64_i, w8_i]), (by refine ITape_of ⟨?_, ?_, ?_, ?_⟩ hT <;> simp (disch := omega) only [not_true_eq_false, not_false_eq_true, true_and, and_true, up_r, up_k, ur_s, ur_e, ur_i, cp_k, w32_i, w64_i, w8_i]), (by refine ILaw_of ⟨?_, ?_, ?_, ?_, ?_, ?_, ?_, ?_⟩ hL <;> simp (disch := omega) only [not_true_eq_false, not_false_eq_true, true_and, and_true, up_r, up_k, ur_s, ur_e, ur_i, cp_k, w32_i, w64_i, w8_i]), ?_, (by refine IKept_of ⟨?_, ?_, ?_, ?_, ?_, ?_, ?_, ?_, ?_, ?_, ?_, ?_, ?_, ?_⟩ hK <;> simp (disch := omega) only [not_true_eq_false, not_false_eq_true, true_and, and_true, up_r, up_k, ur_s, ur_e, ur_i, cp_k, w32_i, w64_i, w8_i]), (by refine IShelf_of ⟨?_, ?_, ?_, ?_, ?_⟩ hS <;> first | (intro k hk1 hk2; simp (disch := omega) only [not_true_eq_false, not_false_eq_true, true_and, and_true, up_r, up_k, ur_s, ur_e, ur_i, cp_k, w32_i, w64_i, w8_i]) | (simp (disch := omega) only [not_true_eq_false, not_false_eq_true, true_and, and_true, up_r, up_k, ur_s, ur_e, ur_i, cp_k, w32_i, w64_i, w8_i])), (by refine IBody_of ⟨?_, ?_, ?_, ?_, ?_, ?_, ?_, ?_⟩ hB <;> simp (disch := omega) only [not_true_eq_false, not_false_eq_true, true_and, and_true, up_r, up_k, ur_s, ur_e, ur_i, cp_k, w32_i, w64_i, w8_i])⟩
          · have z1 : PR (4 + y) = 49 := by unfold PR; rw [if_neg (by omega), if_neg (by omega), if_pos (by omega)]
            have z2 : PI (4 + y) a = 3 * a + y := by unfold PI; rw [if_neg (by omega), if_neg (by omega), if_pos (by omega)]; omega
            have z4 : LO (4 + y) = -1 := by unfold LO; rw [if_pos (by omega)]
            have z5 : HI (4 + y) = 3 := by unfold HI; rw [if_neg (by omega), if_pos (by omega)]
            refine IHall_set (f := 4 + y) (a := a) (x := x) hH ⟨by omega, by omega, by omega, by omega, by omega, by omega, by omega⟩ (by rw [z4, z5]; exact hx) ?_ ?_ ?_ ?_
            · simp (disch := omega) only [not_true_eq_false, not_false_eq_true, true_and, and_true, up_r, up_k, ur_s, ur_e, ur_i, cp_k, w32_i, w64_i, w8_i]
            · rw [z3]
              simp (disch := omega) only [not_true_eq_false, not_false_eq_true, true_and, and_true, up_r, up_k, ur_s, ur_e, ur_i, cp_k, w32_i, w64_i, w8_i]
            · rw [z1, z2]
              simp (disch := omega) only [not_true_eq_false, not_false_eq_true, true_and, and_true, up_r, up_k, ur_s, ur_e, ur_i, cp_k, w32_i, w64_i, w8_i]
            · intro k h1 h2 h3
              rw [z1] at h3
              simp (disch := omega) only [not_true_eq_false, not_false_eq_true, true_and, and_true, up_r, up_k, ur_s, ur_e, ur_i, cp_k, w32_i, w64_i, w8_i]
          · refine hN' _ ?_ ?_ ?_ ?_ ?_ ?_ ?_ ?_ <;> simp (disch := omega) only [not_true_eq_false, not_false_eq_true, true_and, and_true, up_r, up_k, ur_s, ur_e, ur_i, cp_k, w32_i, w64_i, w8_i]
        refine i_if (fun c => i_ci (whoIs _ _ (by simp (disch := omega) only [not_true_eq_false, not_false_eq_true, true_and, and_true, up_r, up_k, ur_s, ur_e, ur_i, cp_k, w32_i, w64_i, w8_i]) (i_ci (s_at (by simp (disch := omega) only [not_true_eq_false, not_false_eq_true, true_and, and_true, up_r, up_k, ur_s, ur_e, ur_i, cp_k, w32_i, w64_i, w8_i]; exact hp) (fun _ => ?_) (fun z => by exfalso; simp (disch := omega) only [not_true_eq_false, not_false_eq_true, true_and, and_true, up_r, up_k, ur_s, ur_e, ur_i, cp_k, w32_i, w64_i, w8_i] at z; exact z ⟨by omega, by omega, by omega, by omega, by omega, by omega, by omega⟩)))) ) (fun c => ?_)
        · have sg := hV y (w 20 a) ⟨by omega, by omega, by omega, by omega, by omega, by omega, by omega⟩
          have z1 : PR y = 47 := by unfold PR; rw [if_pos (by omega)]
          have z2 : PI y (w 20 a) = 3 * w 20 a + y := by unfold PI; rw [if_pos (by omega)]
          have z4 : LO y = 0 := by unfold LO; rw [if_neg (by omega), if_neg (by omega)]
          have z5 : HI y = 3 := by unfold HI; rw [if_pos (by omega)]
          rw [z1, z2, z4, z5] at sg
          simp (disch := omega) only [not_true_eq_false, not_false_eq_true, true_and, and_true, up_r, up_k, ur_s, ur_e, ur_i, cp_k, w32_i, w64_i, w8_i]
          exact fin (w 2 (PL y (w 20 a))) 0 ⟨by omega, by omega⟩ (by rw [if_neg c]; exact sg.1.symm)
        · simp (disch := omega) only [not_true_eq_false, not_false_eq_true, true_and, and_true, up_r, up_k, ur_s, ur_e, ur_i, cp_k, w32_i, w64_i, w8_i]
          exact fin 3 0 ⟨by omega, by omega⟩ (by rw [if_pos (by omega)])
  · (repeat' (first | (with_reducible refine i_some ?_) | (with_reducible refine v_some ?_) | (with_reducible refine i_ci ?_) | (with_reducible refine i_cv ?_) | (with_reducible refine v_ci ?_) | (with_reducible refine v_cv ?_) | (with_reducible refine i_bv ?_) | (with_reducible refine v_bv ?_) | (with_reducible refine i_bw ?_) | (with_reducible refine v_bw ?_) | (with_reducible refine i_jn ?_) | (with_reducible refine v_jn ?_) | (with_reducible refine i_ck ?_ ?_) | (with_reducible refine v_ck ?_ ?_) | ((with_reducible refine i_if (fun hc => ?_) (fun hc => ?_)) <;> (try simp (disch := omega) only [not_true_eq_false, not_false_eq_true, true_and, and_true, up_r, up_k, ur_s, ur_e, ur_i, cp_k, w32_i, w64_i, w8_i] at hc) <;> (try (exfalso; omega))) | ((with_reducible refine v_if (fun hc => ?_) (fun hc => ?_)) <;> (try simp (disch := omega) only [not_true_eq_false, not_false_eq_true, true_and, and_true, up_r, up_k, ur_s, ur_e, ur_i, cp_k, w32_i, w64_i, w8_i] at hc) <;> (try (exfalso; omega))) | unfold fB_dance | unfold fR_dance | ((with_reducible apply s_isMaskC) <;> (try intro hvc) <;> (try simp (disch := omega) only [not_true_eq_false, not_false_eq_true, true_and, and_true, up_r, up_k, ur_s, ur_e, ur_i, cp_k, w32_i, w64_i, w8_i] at hvc) <;> (try (exfalso; omega))) | ((with_reducible apply s_isMaskR) <;> (try intro hvc) <;> (try simp (disch := omega) only [not_true_eq_false, not_false_eq_true, true_and, and_true, up_r, up_k, ur_s, ur_e, ur_i, cp_k, w32_i, w64_i, w8_i] at hvc) <;> (try (exfalso; omega)))))
    all_goals first
      | exact ⟨by omega, hI⟩
      | omega
