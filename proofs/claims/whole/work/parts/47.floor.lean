/-- who danced with whom, pair by pair from pair k on: the table, how many in all -/
def DC (el : Int → Int) (sz m : Int) : Nat → Int → (Int → Int) → (Int → Int) × Int
  | 0, k, g => (g, k)
  | f + 1, k, g => if sz ≤ 2 * k + 1 then (g, k) else if (0 ≤ el (2 * k) ∧ el (2 * k) < m) ∧ (0 ≤ el (2 * k + 1) ∧ el (2 * k + 1) < m) ∧ el (2 * k) ≠ el (2 * k + 1) then
      DC el sz m f (k + 1) (ur (ur g (5 * el (2 * k) + el (2 * k + 1)) (g (5 * el (2 * k) + el (2 * k + 1)) + 1)) (5 * el (2 * k + 1) + el (2 * k)) (g (5 * el (2 * k + 1) + el (2 * k)) + 1)) else (g, k)
def RS (g : Int → Int) (a : Int) : Int := g (5 * a) + g (5 * a + 1) + g (5 * a + 2) + g (5 * a + 3) + g (5 * a + 4)
/-- a table as it may be behind k pairs -/
def GOK (m k : Int) (g : Int → Int) : Prop := (∀ j, 0 ≤ j → j < 25 → 0 ≤ g j ∧ g j ≤ k) ∧ ∀ a b, 0 ≤ a → a < 5 → m ≤ b → b < 5 → g (5 * a + b) = 0
def GP (g : Int → Int) (a b : Int) : Int → Int := ur (ur g (5 * a + b) (g (5 * a + b) + 1)) (5 * b + a) (g (5 * b + a) + 1)
theorem GP_ok {m k a b : Int} {g : Int → Int} (hm : m ≤ 5) (ha : 0 ≤ a ∧ a < m) (hb : 0 ≤ b ∧ b < m) (hab : a ≠ b) (h : GOK m k g) : GOK m (k + 1) (GP g a b) := by
  obtain ⟨h1, h2⟩ := h
  refine ⟨fun j j0 j1 => ?_, fun c d c0 c1 d0 d1 => ?_⟩
  · unfold GP
    have z := h1 j j0 j1
    by_cases e1 : j = 5 * b + a
    · rw [ur_e e1, ← e1]; omega
    · rw [ur_i e1]
      by_cases e2 : j = 5 * a + b
      · rw [ur_e e2, ← e2]; omega
      · rw [ur_i e2]; omega
  · unfold GP
    rw [ur_i (by omega), ur_i (by omega)]
    exact h2 c d c0 c1 d0 d1
theorem RS_GP {a b c : Int} {g : Int → Int} (ha : 0 ≤ a ∧ a < 5) (hb : 0 ≤ b ∧ b < 5) (hab : a ≠ b) (hc : 0 ≤ c ∧ c < 5) : RS (GP g a b) c = RS g c + (if c = a then 1 else 0) + (if c = b then 1 else 0) := by
  rcases (by omega : a = 0 ∨ a = 1 ∨ a = 2 ∨ a = 3 ∨ a = 4) with rfl | rfl | rfl | rfl | rfl <;>
  rcases (by omega : b = 0 ∨ b = 1 ∨ b = 2 ∨ b = 3 ∨ b = 4) with rfl | rfl | rfl | rfl | rfl <;> first | (exfalso; exact hab rfl) | skip
  all_goals (
    rcases (by omega : c = 0 ∨ c = 1 ∨ c = 2 ∨ c = 3 ∨ c = 4) with rfl | rfl | rfl | rfl | rfl <;> unfold RS GP ur <;> simp <;> omega)
theorem l_read16 {y : Int} {K : WD → Option WD} {P : WD → Prop} : ∀ (n : Nat) (x : Int) (w : WD), 0 ≤ x → x ≤ 25 → 25 - x < n → WV (K (zf w 28 x 25)) P → WV (fFl_read_l16 y K n x w) P
  | 0, x, w, _, _, h, _ => by exfalso; omega
  | n + 1, x, w, h1, h2, h3, hK => by
    show WV (fFl_read_l16_b (fFl_read_l16 y K n) y K x w) P
    (repeat' (first | (with_reducible refine i_some ?_) | (with_reducible refine v_some ?_) | (with_reducible refine i_ci ?_) | (with_reducible refine i_cv ?_) | (with_reducible refine v_ci ?_) | (with_reducible refine v_cv ?_) | (with_reducible refine i_bv ?_) | (with_reducible refine v_bv ?_) | (with_reducible refine i_bw ?_) | (with_reducible refine v_bw ?_) | (with_reducible refine i_jn ?_) | (with_reducible refine v_jn ?_) | (with_reducible refine i_ck ?_ ?_) | (with_reducible refine v_ck ?_ ?_) | ((with_reducible refine i_if (fun hc => ?_) (fun hc => ?_)) <;> (try simp (disch := omega) only [not_true_eq_false, not_false_eq_true, true_and, and_true, up_r, up_k, ur_s, ur_e, ur_i, cp_k, w32_i, w64_i, w8_i] at hc) <;> (try (exfalso; omega))) | ((with_reducible refine v_if (fun hc => ?_) (fun hc => ?_)) <;> (try simp (disch := omega) only [not_true_eq_false, not_false_eq_true, true_and, and_true, up_r, up_k, ur_s, ur_e, ur_i, cp_k, w32_i, w64_i, w8_i] at hc) <;> (try (exfalso; omega))) | unfold fFl_read_l16_b))
    · rw [zf_0 (by omega)] at hK
      exact hK
    · omega
    · rw [w32_i (by omega) (by omega)]
      refine l_read16 n (x + 1) _ (by omega) (by omega) (by omega) ?_
      rw [zf_step (by omega)]
      exact hK
theorem l_read40 {y : Int} {K : WD → Option WD} {P : WD → Prop} : ∀ (n : Nat) (x : Int) (w : WD), 0 ≤ x → x ≤ 5 → 5 - x < n → WV (K (zf w 29 x 5)) P → WV (fFl_read_l40 y K n x w) P
  | 0, x, w, _, _, h, _ => by exfalso; omega
  | n + 1, x, w, h1, h2, h3, hK => by
    show WV (fFl_read_l40_b (fFl_read_l40 y K n) y K x w) P
    (repeat' (first | (with_reducible refine i_some ?_) | (with_reducible refine v_some ?_) | (with_reducible refine i_ci ?_) | (with_reducible refine i_cv ?_) | (with_reducible refine v_ci ?_) | (with_reducible refine v_cv ?_) | (with_reducible refine i_bv ?_) | (with_reducible refine v_bv ?_) | (with_reducible refine i_bw ?_) | (with_reducible refine v_bw ?_) | (with_reducible refine i_jn ?_) | (with_reducible refine v_jn ?_) | (with_reducible refine i_ck ?_ ?_) | (with_reducible refine v_ck ?_ ?_) | ((with_reducible refine i_if (fun hc => ?_) (fun hc => ?_)) <;> (try simp (disch := omega) only [not_true_eq_false, not_false_eq_true, true_and, and_true, up_r, up_k, ur_s, ur_e, ur_i, cp_k, w32_i, w64_i, w8_i] at hc) <;> (try (exfalso; omega))) | ((with_reducible refine v_if (fun hc => ?_) (fun hc => ?_)) <;> (try simp (disch := omega) only [not_true_eq_false, not_false_eq_true, true_and, and_true, up_r, up_k, ur_s, ur_e, ur_i, cp_k, w32_i, w64_i, w8_i] at hc) <;> (try (exfalso; omega))) | unfold fFl_read_l40_b))
    · rw [zf_0 (by omega)] at hK
      exact hK
    · omega
    · rw [w32_i (by omega) (by omega)]
      refine l_read40 n (x + 1) _ (by omega) (by omega) (by omega) ?_
      rw [zf_step (by omega)]
      exact hK
theorem l_lay2 {y : Int} {K : WD → Option WD} {P : WD → Prop} : ∀ (n : Nat) (x : Int) (w : WD), 0 ≤ x → x ≤ 25 → 25 - x < n → WV (K (zf w 72 x 25)) P → WV (fR_layDances_l2 y K n x w) P
  | 0, x, w, _, _, h, _ => by exfalso; omega
  | n + 1, x, w, h1, h2, h3, hK => by
    show WV (fR_layDances_l2_b (fR_layDances_l2 y K n) y K x w) P
    (repeat' (first | (with_reducible refine i_some ?_) | (with_reducible refine v_some ?_) | (with_reducible refine i_ci ?_) | (with_reducible refine i_cv ?_) | (with_reducible refine v_ci ?_) | (with_reducible refine v_cv ?_) | (with_reducible refine i_bv ?_) | (with_reducible refine v_bv ?_) | (with_reducible refine i_bw ?_) | (with_reducible refine v_bw ?_) | (with_reducible refine i_jn ?_) | (with_reducible refine v_jn ?_) | (with_reducible refine i_ck ?_ ?_) | (with_reducible refine v_ck ?_ ?_) | ((with_reducible refine i_if (fun hc => ?_) (fun hc => ?_)) <;> (try simp (disch := omega) only [not_true_eq_false, not_false_eq_true, true_and, and_true, up_r, up_k, ur_s, ur_e, ur_i, cp_k, w32_i, w64_i, w8_i] at hc) <;> (try (exfalso; omega))) | ((with_reducible refine v_if (fun hc => ?_) (fun hc => ?_)) <;> (try simp (disch := omega) only [not_true_eq_false, not_false_eq_true, true_and, and_true, up_r, up_k, ur_s, ur_e, ur_i, cp_k, w32_i, w64_i, w8_i] at hc) <;> (try (exfalso; omega))) | unfold fR_layDances_l2_b))
    · rw [zf_0 (by omega)] at hK
      exact hK
    · omega
    · rw [w32_i (by omega) (by omega)]
      refine l_lay2 n (x + 1) _ (by omega) (by omega) (by omega) ?_
      rw [zf_step (by omega)]
      exact hK
theorem s_isOnF {a : Int} {w : WD} {Q : Int → WD → Prop} (hm : w 27 2 ≤ 5) (h1 : 0 ≤ a ∧ a < w 27 2 → Q 1 w) (h0 : ¬ (0 ≤ a ∧ a < w 27 2) → Q 0 w) : WI (fFl_isOn a w) Q := by
  (repeat' (first | (with_reducible refine i_some ?_) | (with_reducible refine v_some ?_) | (with_reducible refine i_ci ?_) | (with_reducible refine i_cv ?_) | (with_reducible refine v_ci ?_) | (with_reducible refine v_cv ?_) | (with_reducible refine i_bv ?_) | (with_reducible refine v_bv ?_) | (with_reducible refine i_bw ?_) | (with_reducible refine v_bw ?_) | (with_reducible refine i_jn ?_) | (with_reducible refine v_jn ?_) | (with_reducible refine i_ck ?_ ?_) | (with_reducible refine v_ck ?_ ?_) | ((with_reducible refine i_if (fun hc => ?_) (fun hc => ?_)) <;> (try simp (disch := omega) only [not_true_eq_false, not_false_eq_true, true_and, and_true, up_r, up_k, ur_s, ur_e, ur_i, cp_k, w32_i, w64_i, w8_i] at hc) <;> (try (exfalso; omega))) | ((with_reducible refine v_if (fun hc => ?_) (fun hc => ?_)) <;> (try simp (disch := omega) only [not_true_eq_false, not_false_eq_true, true_and, and_true, up_r, up_k, ur_s, ur_e, ur_i, cp_k, w32_i, w64_i, w8_i] at hc) <;> (try (exfalso; omega))) | unfold fFl_isOn))
  all_goals first | exact h0 (by omega) | exact h1 (by omega)
/-- the class's tables hold g behind k pairs -/
def FLC (m k : Int) (g : Int → Int) (u : WD) : Prop := u 27 2 = m ∧ u 27 3 = k ∧ (∀ j, 0 ≤ j → j < 25 → u 28 j = g j) ∧ ∀ a, 0 ≤ a → a < 5 → u 29 a = RS g a
theorem s_join {a b m k : Int} {g : Int → Int} {w : WD} {Q : Int → WD → Prop} (hf : FLC m k g w) (hg : GOK m k g) (hm : m ≤ 5) (hk : 0 ≤ k ∧ k ≤ 30)
    (h0 : ¬ ((0 ≤ a ∧ a < m) ∧ (0 ≤ b ∧ b < m) ∧ a ≠ b) → Q 0 w)
    (h1 : (0 ≤ a ∧ a < m) ∧ (0 ≤ b ∧ b < m) ∧ a ≠ b → ∀ u, (∀ k, k ≠ 27 → k ≠ 28 → k ≠ 29 → u k = w k) → FLC m (k + 1) (GP g a b) u → Q 1 u) : WI (fFl_join a b w) Q := by
  obtain ⟨f1, f2, f3, f4⟩ := hf
  unfold fFl_join
  refine i_ci (s_isOnF (by omega) (fun ha => i_if (fun q => absurd q (by decide)) (fun _ => ?_)) (fun ha => i_if (fun _ => i_some (h0 (by omega))) (fun q => absurd rfl q)))
  refine i_ci (s_isOnF (by omega) (fun hb => i_if (fun q => absurd q (by decide)) (fun _ => ?_)) (fun hb => i_if (fun _ => i_some (h0 (by omega))) (fun q => absurd rfl q)))
  refine i_if (fun hab => ?_) (fun q => i_some (h0 (by omega)))
  rw [f1] at ha hb
  have g1 := f3 (5 * a + b) (by omega) (by omega)
  have g2 := f3 (5 * b + a) (by omega) (by omega)
  have g3 := hg.1 (5 * a + b) (by omega) (by omega)
  have g4 := hg.1 (5 * b + a) (by omega) (by omega)
  have r1 := f4 a (by omega) (by omega)
  have r2 := f4 b (by omega) (by omega)
  have rb : ∀ c, 0 ≤ c → c < 5 → 0 ≤ RS g c ∧ RS g c ≤ 150 := by
    intro c c0 c1
    unfold RS
    have y0 := hg.1 (5 * c) (by omega) (by omega)
    have y1 := hg.1 (5 * c + 1) (by omega) (by omega)
    have y2 := hg.1 (5 * c + 2) (by omega) (by omega)
    have y3 := hg.1 (5 * c + 3) (by omega) (by omega)
    have y4 := hg.1 (5 * c + 4) (by omega) (by omega)
    omega
  have ra := rb a (by omega) (by omega)
  have rb' := rb b (by omega) (by omega)
  rw [w32_i (x := 5 * a) (by omega) (by omega), w32_i (x := 5 * b) (by omega) (by omega), w32_i (x := 5 * a + b) (by omega) (by omega), w32_i (x := 5 * b + a) (by omega) (by omega)]
  refine i_bv (i_ck (by omega) (i_ck (by omega) (i_bw (i_bv (i_ck (by omega) (i_ck (by omega) (i_bw (i_ck (by omega) (i_ck (by omega) (i_bw (i_ck (by omega) (i_ck (by omega) (i_bw (i_bw (i_some (h1 ⟨ha, hb, hab⟩ _ (fun k k1 k2 k3 => by simp (disch := omega) only [not_true_eq_false, not_false_eq_true, true_and, and_true, up_r, up_k, ur_s, ur_e, ur_i, cp_k, w32_i, w64_i, w8_i]) ⟨?_, ?_, fun j j0 j1 => ?_, fun c c0 c1 => ?_⟩))))))))))))))))
  · simp (disch := omega) only [not_true_eq_false, not_false_eq_true, true_and, and_true, up_r, up_k, ur_s, ur_e, ur_i, cp_k, w32_i, w64_i, w8_i]; omega
  · simp (disch := omega) only [not_true_eq_false, not_false_eq_true, true_and, and_true, up_r, up_k, ur_s, ur_e, ur_i, cp_k, w32_i, w64_i, w8_i]; omega
  · simp (disch := omega) only [not_true_eq_false, not_false_eq_true, true_and, and_true, up_r, up_k, ur_s, ur_e, ur_i, cp_k, w32_i, w64_i, w8_i]
    unfold GP
    rw [g1, g2]
    by_cases e1 : j = 5 * b + a
    · rw [ur_e e1, ur_e e1]
      (try simp (disch := omega) only [not_true_eq_false, not_false_eq_true, true_and, and_true, up_r, up_k, ur_s, ur_e, ur_i, cp_k, w32_i, w64_i, w8_i])
    · rw [ur_i e1, ur_i e1]
      by_cases e2 : j = 5 * a + b
      · rw [ur_e e2, ur_e e2]
        (try simp (disch := omega) only [not_true_eq_false, not_false_eq_true, true_and, and_true, up_r, up_k, ur_s, ur_e, ur_i, cp_k, w32_i, w64_i, w8_i])
      · rw [ur_i e2, ur_i e2]
        exact f3 j j0 j1
  · rw [RS_GP (by omega) (by omega) hab ⟨c0, c1⟩]
    simp (disch := omega) only [not_true_eq_false, not_false_eq_true, true_and, and_true, up_r, up_k, ur_s, ur_e, ur_i, cp_k, w32_i, w64_i, w8_i]
    have := f4 c c0 c1
    by_cases e1 : c = b
    · subst e1
      rw [ur_s, if_neg (fun e => hab e.symm), if_pos rfl]
      (try simp (disch := omega) only [not_true_eq_false, not_false_eq_true, true_and, and_true, up_r, up_k, ur_s, ur_e, ur_i, cp_k, w32_i, w64_i, w8_i])
      omega
    · rw [ur_i e1]
      by_cases e2 : c = a
      · subst e2
        rw [ur_s, if_pos rfl, if_neg e1]
        (try simp (disch := omega) only [not_true_eq_false, not_false_eq_true, true_and, and_true, up_r, up_k, ur_s, ur_e, ur_i, cp_k, w32_i, w64_i, w8_i])
        omega
      · rw [ur_i e2, if_neg e2, if_neg e1]
        omega
theorem l_read64 {o m : Int} {w0 : WD} {P : WD → Prop} (hm : 0 ≤ m ∧ m ≤ 5) (hz : 0 ≤ w0 (34 + 2 * o) 3 ∧ w0 (34 + 2 * o) 3 ≤ 60) (ho : 0 ≤ o) (hb : ∀ k, 0 ≤ k → k < 60 → -128 ≤ w0 (35 + 2 * o) k ∧ w0 (35 + 2 * o) k ≤ 127) : ∀ (f : Nat) (k : Int) (g : Int → Int) (w : WD), 0 ≤ k → k ≤ 30 → 30 - k < f → w (34 + 2 * o) = w0 (34 + 2 * o) → w (35 + 2 * o) = w0 (35 + 2 * o) → FLC m k g w → GOK m k g →
    (∀ u, (∀ k, k ≠ 27 → k ≠ 28 → k ≠ 29 → u k = w k) → FLC m (DC (w0 (35 + 2 * o)) (w0 (34 + 2 * o) 3) m f k g).2 (DC (w0 (35 + 2 * o)) (w0 (34 + 2 * o) 3) m f k g).1 u → GOK m (DC (w0 (35 + 2 * o)) (w0 (34 + 2 * o) 3) m f k g).2 (DC (w0 (35 + 2 * o)) (w0 (34 + 2 * o) 3) m f k g).1 → 0 ≤ (DC (w0 (35 + 2 * o)) (w0 (34 + 2 * o) 3) m f k g).2 ∧ (DC (w0 (35 + 2 * o)) (w0 (34 + 2 * o) 3) m f k g).2 ≤ 30 → P u) → WV (fFl_read_l64 o f (2 * k) w) P
  | 0, k, g, w, _, _, h, _, _, _, _, _ => by exfalso; omega
  | f + 1, k, g, w, h1, h2, h3, e1, e2, hf, hg, hP => by
    show WV (fFl_read_l64_b (fFl_read_l64 o f) o (2 * k) w) P
    unfold fFl_read_l64_b fSh_size
    unfold DC at hP
    rw [w32_i (x := 2 * k + 1) (by omega) (by omega), e1]
    refine v_ci (i_some (v_if (fun q => v_some ?_) (fun q => ?_)))
    · rw [if_pos q] at hP
      exact hP w (fun _ _ _ _ => rfl) hf hg ⟨h1, h2⟩
    · rw [if_neg q] at hP
      refine v_ci (s_shat (by rw [e1]; omega) (v_ci (s_shat (by rw [e1]; omega) ?_)))
      have b0 := hb (2 * k) (by omega) (by omega)
      have b1 := hb (2 * k + 1) (by omega) (by omega)
      rw [e2, w32_i (by omega) (by omega), w32_i (by omega) (by omega)]
      refine v_ci (s_join hf hg hm.2 ⟨h1, h2⟩ (fun c => v_if (fun z => absurd rfl z) (fun _ => v_some ?_)) (fun c u uk uf => v_if (fun _ => v_bv ?_) (fun z => absurd (by decide) z)))
      · rw [if_neg c] at hP
        exact hP w (fun _ _ _ _ => rfl) hf hg ⟨h1, h2⟩
      · rw [if_pos c] at hP
        have hg' := GP_ok hm.2 c.1 c.2.1 c.2.2 hg
        rw [w32_i (by omega) (by omega), show 2 * k + 2 = 2 * (k + 1) by omega]
        exact l_read64 hm hz ho hb f (k + 1) _ u (by omega) (by omega) (by omega) (by rw [uk _ (by omega) (by omega) (by omega), e1]) (by rw [uk _ (by omega) (by omega) (by omega), e2]) uf hg' (fun v vk v1 v2 v3 => hP v (fun k k1 k2 k3 => by rw [vk k k1 k2 k3, uk k k1 k2 k3]) v1 v2 v3)
def FLR (k : Int) (g : Int → Int) (u : WD) : Prop := u 46 46 = k ∧ ∀ j, 0 ≤ j → j < 25 → u 72 j = g j
theorem l_lay28 {o m : Int} {el : Int → Int} {sz : Int} {P : WD → Prop} (hm : 0 ≤ m ∧ m ≤ 5) (hz : 0 ≤ sz ∧ sz ≤ 60) (ho : 0 ≤ o ∧ o < 6) (hb : ∀ k, 0 ≤ k → k < 60 → -128 ≤ el k ∧ el k ≤ 127) : ∀ (f : Nat) (k : Int) (g : Int → Int) (w : WD), 0 ≤ k → k ≤ 30 → 30 - k < f → w 83 o = sz → (∀ k, 0 ≤ k → k < 60 → w 84 (60 * o + k) = el k) → w 46 4 = m → FLR k g w → GOK m k g →
    (∀ u, (∀ k, k ≠ 72 → k ≠ 46 → u k = w k) → (∀ i, i ≠ 46 → u 46 i = w 46 i) → FLR (DC el sz m f k g).2 (DC el sz m f k g).1 u → P u) → WV (fR_layDances_l28 o f k w) P
  | 0, k, g, w, _, _, h, _, _, _, _, _, _ => by exfalso; omega
  | f + 1, k, g, w, h1, h2, h3, e1, e2, e3, hf, hg, hP => by
    show WV (fR_layDances_l28_b (fR_layDances_l28 o f) o k w) P
    unfold fR_layDances_l28_b fR_at
    unfold DC at hP
    obtain ⟨f1, f2⟩ := id hf
    rw [w32_i (x := 2 * k) (by omega) (by omega), w32_i (x := 2 * k + 1) (by omega) (by omega), w32_i (x := 60 * o) (by omega) (by omega), e1]
    refine v_ck ho (v_if (fun q => v_some ?_) (fun q => ?_))
    · rw [if_pos q] at hP
      exact hP w (fun _ _ _ => rfl) (fun _ _ => rfl) hf
    · rw [if_neg q] at hP
      rw [w32_i (x := 60 * o + 2 * k) (by omega) (by omega), w32_i (x := 60 * o + (2 * k + 1)) (by omega) (by omega)]
      refine v_ci (i_ck (by omega) (i_some (v_ci (i_ck (by omega) (i_some ?_)))))
      have b0 := hb (2 * k) (by omega) (by omega)
      have b1 := hb (2 * k + 1) (by omega) (by omega)
      rw [e2 _ (by omega) (by omega), e2 _ (by omega) (by omega), w32_i (x := el (2 * k)) (by omega) (by omega), w32_i (x := el (2 * k + 1)) (by omega) (by omega)]
      generalize hx : el (2 * k) = a at *
      generalize hy : el (2 * k + 1) = b at *
      refine v_ci (s_isMaskR (by omega) (fun ha => v_if (fun z => absurd z (by decide)) (fun _ => ?_)) (fun ha => v_if (fun _ => v_some ?_) (fun z => absurd rfl z)))
      · refine v_ci (s_isMaskR (by omega) (fun hb' => v_if (fun z => absurd z (by decide)) (fun _ => ?_)) (fun hb' => v_if (fun _ => v_some ?_) (fun z => absurd rfl z)))
        · rw [e3] at ha hb'
          refine v_if (fun hab => ?_) (fun z => v_some ?_)
          · rw [if_pos ⟨ha, hb', hab⟩] at hP
            have hg' := GP_ok hm.2 ha hb' hab hg
            have g1 := f2 (5 * a + b) (by omega) (by omega)
            have g2 := f2 (5 * b + a) (by omega) (by omega)
            have g3 := hg.1 (5 * a + b) (by omega) (by omega)
            have g4 := hg.1 (5 * b + a) (by omega) (by omega)
            rw [w32_i (x := 5 * a) (by omega) (by omega), w32_i (x := 5 * b) (by omega) (by omega), w32_i (x := 5 * a + b) (by omega) (by omega), w32_i (x := 5 * b + a) (by omega) (by omega)]
            refine v_bv (v_ck (by omega) (v_ck (by omega) (v_bw (v_bv (v_ck (by omega) (v_ck (by omega) (v_bw (v_bw (v_bv ?_)))))))))
            rw [w32_i (x := k + 1) (by omega) (by omega)]
            refine l_lay28 hm hz ho hb f (k + 1) (GP g a b) _ (by omega) (by omega) (by omega) (by simp (disch := omega) only [not_true_eq_false, not_false_eq_true, true_and, and_true, up_r, up_k, ur_s, ur_e, ur_i, cp_k, w32_i, w64_i, w8_i]; exact e1) (by simp (disch := omega) only [not_true_eq_false, not_false_eq_true, true_and, and_true, up_r, up_k, ur_s, ur_e, ur_i, cp_k, w32_i, w64_i, w8_i]; exact e2) (by simp (disch := omega) only [not_true_eq_false, not_false_eq_true, true_and, and_true, up_r, up_k, ur_s, ur_e, ur_i, cp_k, w32_i, w64_i, w8_i]; exact e3) ⟨?_, fun j j0 j1 => ?_⟩ hg' (fun u u1 u2 u3 => hP u (fun k k1 k2 => ?_) (fun i i1 => ?_) u3)
            · simp (disch := omega) only [not_true_eq_false, not_false_eq_true, true_and, and_true, up_r, up_k, ur_s, ur_e, ur_i, cp_k, w32_i, w64_i, w8_i]; omega
            · simp (disch := omega) only [not_true_eq_false, not_false_eq_true, true_and, and_true, up_r, up_k, ur_s, ur_e, ur_i, cp_k, w32_i, w64_i, w8_i]
              rw [g1, g2]
              unfold GP
              by_cases e1 : j = 5 * b + a
              · rw [ur_e e1, ur_e e1]
                (try simp (disch := omega) only [not_true_eq_false, not_false_eq_true, true_and, and_true, up_r, up_k, ur_s, ur_e, ur_i, cp_k, w32_i, w64_i, w8_i])
              · rw [ur_i e1, ur_i e1]
                by_cases e2 : j = 5 * a + b
                · rw [ur_e e2, ur_e e2]
                  (try simp (disch := omega) only [not_true_eq_false, not_false_eq_true, true_and, and_true, up_r, up_k, ur_s, ur_e, ur_i, cp_k, w32_i, w64_i, w8_i])
                · rw [ur_i e2, ur_i e2]
                  exact f2 j j0 j1
            · rw [u1 k k1 k2]; simp (disch := omega) only [not_true_eq_false, not_false_eq_true, true_and, and_true, up_r, up_k, ur_s, ur_e, ur_i, cp_k, w32_i, w64_i, w8_i]
            · rw [u2 i i1]; simp (disch := omega) only [not_true_eq_false, not_false_eq_true, true_and, and_true, up_r, up_k, ur_s, ur_e, ur_i, cp_k, w32_i, w64_i, w8_i]
          · rw [if_neg (by omega)] at hP
            exact hP w (fun _ _ _ => rfl) (fun _ _ => rfl) hf
        · rw [if_neg (by omega)] at hP
          exact hP w (fun _ _ _ => rfl) (fun _ _ => rfl) hf
      · rw [if_neg (by omega)] at hP
        exact hP w (fun _ _ _ => rfl) (fun _ _ => rfl) hf
