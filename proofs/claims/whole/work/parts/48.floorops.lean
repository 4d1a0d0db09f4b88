theorem GOK_0 {m : Int} : GOK m 0 (fun _ => 0) := ⟨fun _ _ _ => ⟨Int.le_refl 0, Int.le_refl 0⟩, fun _ _ _ _ _ _ => rfl⟩
/-- the SHELF's bytes, as both sides hold them -/
theorem bytes_of {w : WD} {o : Int} (hS : IShelf w) (ho : 0 ≤ o ∧ o < 6) (h : w (34 + 2 * o) 2 = 0) : w (34 + 2 * o) 1 = -1 ∧ w 82 o = -2 ∧ (0 ≤ w (34 + 2 * o) 3 ∧ w (34 + 2 * o) 3 ≤ 60) ∧ w 83 o = w (34 + 2 * o) 3 ∧ (∀ k, 0 ≤ k → k < 60 → -128 ≤ w (35 + 2 * o) k ∧ w (35 + 2 * o) k ≤ 127) ∧ ∀ k, 0 ≤ k → k < 60 → w 84 (60 * o + k) = w (35 + 2 * o) k := by
  rcases hS o ho.1 ho.2 with c | c | ⟨c1, c2, c3, c4, c5, c6, c7, c8⟩
  · exfalso; omega
  · exfalso; omega
  · exact ⟨c1, by omega, ⟨c5, c6⟩, c7, fun k k1 k2 => (c8 k k1 k2).2 h, fun k k1 k2 => (c8 k k1 k2).1⟩
/-- what a SHELF is for a call that wants a ROW of bytes -/
def BF (w : WD) (o : Int) : Int := if ¬ (0 ≤ o ∧ o < 6) then -1 else if w 82 o = -1 then -11 else if w 82 o = -2 then 0 else -12
theorem BF_0 {w : WD} {o : Int} (hS : IShelf w) (h : BF w o = 0) : (0 ≤ o ∧ o < 6) ∧ w (34 + 2 * o) 2 = 0 := by
  unfold BF at h
  by_cases ho : 0 ≤ o ∧ o < 6
  · rw [if_neg (fun q => q ho)] at h
    refine ⟨ho, ?_⟩
    rcases hS o ho.1 ho.2 with c | c | ⟨c1, c2, c3, c4, c5, c6, c7, c8⟩
    · rw [if_pos c.2.2] at h; omega
    · rw [if_neg (by omega), if_neg (by omega)] at h; omega
    · by_cases q : w 82 o = -2
      · omega
      · rw [if_neg (by omega), if_neg q] at h; omega
  · rw [if_pos ho] at h; omega
theorem BF_neg {w : WD} {o : Int} : BF w o = 0 ∨ BF w o = -1 ∨ BF w o = -11 ∨ BF w o = -12 := by
  unfold BF
  split
  · omega
  · split
    · omega
    · split <;> omega
theorem s_bytesFault {o : Int} {w : WD} {Q : Int → WD → Prop} (hS : IShelf w) (h : Q (BF w o) w) : WI (fB_bytesFault o w) Q := by
  unfold BF at h
  by_cases ho : 0 ≤ o ∧ o < 6
  · rw [if_neg (fun q => q ho)] at h
    rcases hS o ho.1 ho.2 with c | c | ⟨c1, c2, c3, c4, c5, c6, c7, c8⟩
    · rw [if_pos c.2.2] at h
      (repeat' (first | (with_reducible refine i_some ?_) | (with_reducible refine v_some ?_) | (with_reducible refine i_ci ?_) | (with_reducible refine i_cv ?_) | (with_reducible refine v_ci ?_) | (with_reducible refine v_cv ?_) | (with_reducible refine i_bv ?_) | (with_reducible refine v_bv ?_) | (with_reducible refine i_bw ?_) | (with_reducible refine v_bw ?_) | (with_reducible refine i_jn ?_) | (with_reducible refine v_jn ?_) | (with_reducible refine i_ck ?_ ?_) | (with_reducible refine v_ck ?_ ?_) | ((with_reducible refine i_if (fun hc => ?_) (fun hc => ?_)) <;> (try simp (disch := omega) only [not_true_eq_false, not_false_eq_true, true_and, and_true, up_r, up_k, ur_s, ur_e, ur_i, cp_k, w32_i, w64_i, w8_i] at hc) <;> (try (exfalso; omega))) | ((with_reducible refine v_if (fun hc => ?_) (fun hc => ?_)) <;> (try simp (disch := omega) only [not_true_eq_false, not_false_eq_true, true_and, and_true, up_r, up_k, ur_s, ur_e, ur_i, cp_k, w32_i, w64_i, w8_i] at hc) <;> (try (exfalso; omega))) | unfold fB_bytesFault | unfold fB_isShelf | unfold fSh_isEmpty | unfold fSh_holdsBytes))
      all_goals first | omega | exact h
    · rw [if_neg (by omega), if_neg (by omega)] at h
      (repeat' (first | (with_reducible refine i_some ?_) | (with_reducible refine v_some ?_) | (with_reducible refine i_ci ?_) | (with_reducible refine i_cv ?_) | (with_reducible refine v_ci ?_) | (with_reducible refine v_cv ?_) | (with_reducible refine i_bv ?_) | (with_reducible refine v_bv ?_) | (with_reducible refine i_bw ?_) | (with_reducible refine v_bw ?_) | (with_reducible refine i_jn ?_) | (with_reducible refine v_jn ?_) | (with_reducible refine i_ck ?_ ?_) | (with_reducible refine v_ck ?_ ?_) | ((with_reducible refine i_if (fun hc => ?_) (fun hc => ?_)) <;> (try simp (disch := omega) only [not_true_eq_false, not_false_eq_true, true_and, and_true, up_r, up_k, ur_s, ur_e, ur_i, cp_k, w32_i, w64_i, w8_i] at hc) <;> (try (exfalso; omega))) | ((with_reducible refine v_if (fun hc => ?_) (fun hc => ?_)) <;> (try simp (disch := omega) only [not_true_eq_false, not_false_eq_true, true_and, and_true, up_r, up_k, ur_s, ur_e, ur_i, cp_k, w32_i, w64_i, w8_i] at hc) <;> (try (exfalso; omega))) | unfold fB_bytesFault | unfold fB_isShelf | unfold fSh_isEmpty | unfold fSh_holdsBytes))
      all_goals first | omega | exact h
    · by_cases q : w 82 o = -2
      · rw [if_neg (by omega), if_pos q] at h
        (repeat' (first | (with_reducible refine i_some ?_) | (with_reducible refine v_some ?_) | (with_reducible refine i_ci ?_) | (with_reducible refine i_cv ?_) | (with_reducible refine v_ci ?_) | (with_reducible refine v_cv ?_) | (with_reducible refine i_bv ?_) | (with_reducible refine v_bv ?_) | (with_reducible refine i_bw ?_) | (with_reducible refine v_bw ?_) | (with_reducible refine i_jn ?_) | (with_reducible refine v_jn ?_) | (with_reducible refine i_ck ?_ ?_) | (with_reducible refine v_ck ?_ ?_) | ((with_reducible refine i_if (fun hc => ?_) (fun hc => ?_)) <;> (try simp (disch := omega) only [not_true_eq_false, not_false_eq_true, true_and, and_true, up_r, up_k, ur_s, ur_e, ur_i, cp_k, w32_i, w64_i, w8_i] at hc) <;> (try (exfalso; omega))) | ((with_reducible refine v_if (fun hc => ?_) (fun hc => ?_)) <;> (try simp (disch := omega) only [not_true_eq_false, not_false_eq_true, true_and, and_true, up_r, up_k, ur_s, ur_e, ur_i, cp_k, w32_i, w64_i, w8_i] at hc) <;> (try (exfalso; omega))) | unfold fB_bytesFault | unfold fB_isShelf | unfold fSh_isEmpty | unfold fSh_holdsBytes))
        all_goals first | omega | exact h
      · rw [if_neg (by omega), if_neg q] at h
        (repeat' (first | (with_reducible refine i_some ?_) | (with_reducible refine v_some ?_) | (with_reducible refine i_ci ?_) | (with_reducible refine i_cv ?_) | (with_reducible refine v_ci ?_) | (with_reducible refine v_cv ?_) | (with_reducible refine i_bv ?_) | (with_reducible refine v_bv ?_) | (with_reducible refine i_bw ?_) | (with_reducible refine v_bw ?_) | (with_reducible refine i_jn ?_) | (with_reducible refine v_jn ?_) | (with_reducible refine i_ck ?_ ?_) | (with_reducible refine v_ck ?_ ?_) | ((with_reducible refine i_if (fun hc => ?_) (fun hc => ?_)) <;> (try simp (disch := omega) only [not_true_eq_false, not_false_eq_true, true_and, and_true, up_r, up_k, ur_s, ur_e, ur_i, cp_k, w32_i, w64_i, w8_i] at hc) <;> (try (exfalso; omega))) | ((with_reducible refine v_if (fun hc => ?_) (fun hc => ?_)) <;> (try simp (disch := omega) only [not_true_eq_false, not_false_eq_true, true_and, and_true, up_r, up_k, ur_s, ur_e, ur_i, cp_k, w32_i, w64_i, w8_i] at hc) <;> (try (exfalso; omega))) | unfold fB_bytesFault | unfold fB_isShelf | unfold fSh_isEmpty | unfold fSh_holdsBytes))
        all_goals first | omega | exact h
  · rw [if_pos ho] at h
    (repeat' (first | (with_reducible refine i_some ?_) | (with_reducible refine v_some ?_) | (with_reducible refine i_ci ?_) | (with_reducible refine i_cv ?_) | (with_reducible refine v_ci ?_) | (with_reducible refine v_cv ?_) | (with_reducible refine i_bv ?_) | (with_reducible refine v_bv ?_) | (with_reducible refine i_bw ?_) | (with_reducible refine v_bw ?_) | (with_reducible refine i_jn ?_) | (with_reducible refine v_jn ?_) | (with_reducible refine i_ck ?_ ?_) | (with_reducible refine v_ck ?_ ?_) | ((with_reducible refine i_if (fun hc => ?_) (fun hc => ?_)) <;> (try simp (disch := omega) only [not_true_eq_false, not_false_eq_true, true_and, and_true, up_r, up_k, ur_s, ur_e, ur_i, cp_k, w32_i, w64_i, w8_i] at hc) <;> (try (exfalso; omega))) | ((with_reducible refine v_if (fun hc => ?_) (fun hc => ?_)) <;> (try simp (disch := omega) only [not_true_eq_false, not_false_eq_true, true_and, and_true, up_r, up_k, ur_s, ur_e, ur_i, cp_k, w32_i, w64_i, w8_i] at hc) <;> (try (exfalso; omega))) | unfold fB_bytesFault | unfold fB_isShelf))
    all_goals first | omega | exact h
theorem s_rowFault {o : Int} {w : WD} {Q : Int → WD → Prop} (ho : 0 ≤ o ∧ o < 6) (h : Q (BF w o) w) : WI (fR_rowFault o w) Q := by
  unfold BF at h
  rw [if_neg (fun q => q ho)] at h
  unfold fR_rowFault
  refine i_ck ho (i_if (fun q => i_ck ho (i_if (fun q' => i_some ?_) (fun q' => i_some ?_))) (fun q => i_some ?_))
  · rw [if_neg q, if_neg q'] at h; exact h
  · rw [if_neg q, if_pos (by omega)] at h; exact h
  · rw [if_pos (by omega)] at h; exact h
/-- the table of a SHELF -/
def TB (w : WD) (o : Int) : (Int → Int) × Int := DC (w (35 + 2 * o)) (w (34 + 2 * o) 3) (w 1 5) FU 0 (fun _ => 0)
theorem s_readFloor {o : Int} {w : WD} {Q : Int → WD → Prop} (hS : IShelf w) (hm : 0 ≤ w 1 5 ∧ w 1 5 ≤ 5) (h0 : BF w o ≠ 0 → Q (BF w o) w) (h1 : BF w o = 0 → ∀ u, (∀ k, k ≠ 27 → k ≠ 28 → k ≠ 29 → u k = w k) → FLC (w 1 5) (TB w o).2 (TB w o).1 u → GOK (w 1 5) (TB w o).2 (TB w o).1 → (0 ≤ (TB w o).2 ∧ (TB w o).2 ≤ 30) → Q 0 u) : WI (fB_readFloor o w) Q := by
  unfold fB_readFloor
  refine i_ci (s_bytesFault hS (i_if (fun q => i_some (h0 q)) (fun q => ?_)))
  have q' : BF w o = 0 := by omega
  obtain ⟨ho, h2⟩ := BF_0 hS q'
  obtain ⟨b1, b2, b3, b4, b5, b6⟩ := bytes_of hS ho h2
  unfold fHa_masks fFl_read
  refine i_ck ho (i_ci (i_some (i_cv (v_bw (v_bw ?_)))))
  refine l_read16 FU 0 _ (by decide) (by decide) (by decide) ?_
  refine l_read40 FU 0 _ (by decide) (by decide) (by decide) ?_
  have em : mn 5 (w 1 5) = w 1 5 := by unfold mn; omega
  rw [em]
  have key := l_read64 (o := o) (m := w 1 5) (w0 := w) (P := fun u => WI (some (BF w o, u)) Q) hm b3 ho.1 b5 FU 0 (fun _ => 0) (zf (zf (up (up w 27 2 (w 1 5)) 27 3 0) 28 0 25) 29 0 5) (by decide) (by decide) (by decide) (by simp (disch := omega) only [not_true_eq_false, not_false_eq_true, true_and, and_true, up_r, up_k, ur_s, ur_e, ur_i, cp_k, w32_i, w64_i, w8_i, zf_k]) (by simp (disch := omega) only [not_true_eq_false, not_false_eq_true, true_and, and_true, up_r, up_k, ur_s, ur_e, ur_i, cp_k, w32_i, w64_i, w8_i, zf_k]) ⟨?_, ?_, fun j j0 j1 => ?_, fun a a0 a1 => ?_⟩ GOK_0 (fun u u1 u2 u3 u4 => i_some ?_)
  · exact key
  · simp (disch := omega) only [not_true_eq_false, not_false_eq_true, true_and, and_true, up_r, up_k, ur_s, ur_e, ur_i, cp_k, w32_i, w64_i, w8_i, zf_k]
  · simp (disch := omega) only [not_true_eq_false, not_false_eq_true, true_and, and_true, up_r, up_k, ur_s, ur_e, ur_i, cp_k, w32_i, w64_i, w8_i, zf_k]
  · rw [zf_k (by decide), zf_e (by omega)]
  · rw [zf_e (by omega)]
    rfl
  · rw [q']
    refine h1 q' u (fun k k1 k2 k3 => ?_) u2 u3 u4
    rw [u1 k k1 k2 k3]
    simp (disch := omega) only [not_true_eq_false, not_false_eq_true, true_and, and_true, up_r, up_k, ur_s, ur_e, ur_i, cp_k, w32_i, w64_i, w8_i, zf_k]
theorem s_layDances {o : Int} {w u : WD} {P : WD → Prop} (hS : IShelf w) (hm : 0 ≤ w 1 5 ∧ w 1 5 ≤ 5) (hq : BF w o = 0) (e82 : u 83 = w 83) (e84 : u 84 = w 84) (e4 : u 46 4 = w 1 5)
    (h : ∀ v, (∀ k, k ≠ 72 → k ≠ 46 → v k = u k) → (∀ i, i ≠ 46 → v 46 i = u 46 i) → FLR (TB w o).2 (TB w o).1 v → P v) : WV (fR_layDances o u) P := by
  obtain ⟨ho, h2⟩ := BF_0 hS hq
  obtain ⟨b1, b2, b3, b4, b5, b6⟩ := bytes_of hS ho h2
  unfold fR_layDances
  refine l_lay2 FU 0 _ (by decide) (by decide) (by decide) (v_bw ?_)
  refine l_lay28 (o := o) (m := w 1 5) (el := w (35 + 2 * o)) (sz := w (34 + 2 * o) 3) hm b3 ho b5 FU 0 (fun _ => 0) _ (by decide) (by decide) (by decide) ?_ ?_ ?_ ⟨?_, fun j j0 j1 => ?_⟩ GOK_0 (fun v v1 v2 v3 => h v (fun k k1 k2 => ?_) (fun i i1 => ?_) v3)
  · simp (disch := omega) only [not_true_eq_false, not_false_eq_true, true_and, and_true, up_r, up_k, ur_s, ur_e, ur_i, cp_k, w32_i, w64_i, w8_i, zf_k]; rw [e82]; exact b4
  · simp (disch := omega) only [not_true_eq_false, not_false_eq_true, true_and, and_true, up_r, up_k, ur_s, ur_e, ur_i, cp_k, w32_i, w64_i, w8_i, zf_k]; rw [e84]; exact b6
  · simp (disch := omega) only [not_true_eq_false, not_false_eq_true, true_and, and_true, up_r, up_k, ur_s, ur_e, ur_i, cp_k, w32_i, w64_i, w8_i, zf_k]; exact e4
  · simp (disch := omega) only [not_true_eq_false, not_false_eq_true, true_and, and_true, up_r, up_k, ur_s, ur_e, ur_i, cp_k, w32_i, w64_i, w8_i, zf_k]
  · rw [up_k (by decide), zf_e (by omega)]
  · rw [v1 k k1 k2]; simp (disch := omega) only [not_true_eq_false, not_false_eq_true, true_and, and_true, up_r, up_k, ur_s, ur_e, ur_i, cp_k, w32_i, w64_i, w8_i, zf_k]
  · rw [v2 i i1]; simp (disch := omega) only [not_true_eq_false, not_false_eq_true, true_and, and_true, up_r, up_k, ur_s, ur_e, ur_i, cp_k, w32_i, w64_i, w8_i, zf_k]
theorem Inv_floor {w u v : WD} (h : Inv w) (h1 : ∀ k, k ≠ 27 → k ≠ 28 → k ≠ 29 → u k = w k) (h2 : ∀ k, k ≠ 72 → k ≠ 46 → v k = u k) (h3 : ∀ i, i ≠ 46 → v 46 i = u 46 i) : Inv v := by
  refine Inv_same h ⟨fun k hk => ?_, ?_, ?_, fun i hi => ?_⟩
  · unfold SCR at hk
    rw [h2 k (by omega) (by omega), h1 k (by omega) (by omega) (by omega)]
  · rw [h2 6 (by decide) (by decide), h1 6 (by decide) (by decide) (by decide)]
  · rw [h2 6 (by decide) (by decide), h1 6 (by decide) (by decide) (by decide)]
  · unfold SMF at hi
    rw [h3 i (by omega), h1 46 (by decide) (by decide) (by decide)]
theorem Inv_floor1 {w u : WD} (h : Inv w) (h1 : ∀ k, k ≠ 27 → k ≠ 28 → k ≠ 29 → u k = w k) : Inv u := Inv_floor (v := u) h h1 (fun _ _ _ => rfl) (fun _ _ => rfl)
theorem s_minute {a : Int} {w : WD} {Q : Int → WD → Prop} (h1 : 0 ≤ a ∧ a ≤ 999 → Q 1 w) (h0 : ¬ (0 ≤ a ∧ a ≤ 999) → Q 0 w) : WI (fB_isMinute a w) Q := by
  (repeat' (first | (with_reducible refine i_some ?_) | (with_reducible refine v_some ?_) | (with_reducible refine i_ci ?_) | (with_reducible refine i_cv ?_) | (with_reducible refine v_ci ?_) | (with_reducible refine v_cv ?_) | (with_reducible refine i_bv ?_) | (with_reducible refine v_bv ?_) | (with_reducible refine i_bw ?_) | (with_reducible refine v_bw ?_) | (with_reducible refine i_jn ?_) | (with_reducible refine v_jn ?_) | (with_reducible refine i_ck ?_ ?_) | (with_reducible refine v_ck ?_ ?_) | ((with_reducible refine i_if (fun hc => ?_) (fun hc => ?_)) <;> (try simp (disch := omega) only [not_true_eq_false, not_false_eq_true, true_and, and_true, up_r, up_k, ur_s, ur_e, ur_i, cp_k, w32_i, w64_i, w8_i] at hc) <;> (try (exfalso; omega))) | ((with_reducible refine v_if (fun hc => ?_) (fun hc => ?_)) <;> (try simp (disch := omega) only [not_true_eq_false, not_false_eq_true, true_and, and_true, up_r, up_k, ur_s, ur_e, ur_i, cp_k, w32_i, w64_i, w8_i] at hc) <;> (try (exfalso; omega))) | unfold fB_isMinute))
  all_goals first | exact h0 (by omega) | exact h1 (by omega)
theorem s_isShelfC {a : Int} {w : WD} {Q : Int → WD → Prop} (h1 : 0 ≤ a ∧ a < 6 → Q 1 w) (h0 : ¬ (0 ≤ a ∧ a < 6) → Q 0 w) : WI (fB_isShelf a w) Q := by
  (repeat' (first | (with_reducible refine i_some ?_) | (with_reducible refine v_some ?_) | (with_reducible refine i_ci ?_) | (with_reducible refine i_cv ?_) | (with_reducible refine v_ci ?_) | (with_reducible refine v_cv ?_) | (with_reducible refine i_bv ?_) | (with_reducible refine v_bv ?_) | (with_reducible refine i_bw ?_) | (with_reducible refine v_bw ?_) | (with_reducible refine i_jn ?_) | (with_reducible refine v_jn ?_) | (with_reducible refine i_ck ?_ ?_) | (with_reducible refine v_ck ?_ ?_) | ((with_reducible refine i_if (fun hc => ?_) (fun hc => ?_)) <;> (try simp (disch := omega) only [not_true_eq_false, not_false_eq_true, true_and, and_true, up_r, up_k, ur_s, ur_e, ur_i, cp_k, w32_i, w64_i, w8_i] at hc) <;> (try (exfalso; omega))) | ((with_reducible refine v_if (fun hc => ?_) (fun hc => ?_)) <;> (try simp (disch := omega) only [not_true_eq_false, not_false_eq_true, true_and, and_true, up_r, up_k, ur_s, ur_e, ur_i, cp_k, w32_i, w64_i, w8_i] at hc) <;> (try (exfalso; omega))) | unfold fB_isShelf))
  all_goals first | exact h0 (by omega) | exact h1 (by omega)
theorem s_isShelfR {a : Int} {w : WD} {Q : Int → WD → Prop} (h1 : 0 ≤ a ∧ a < 6 → Q 1 w) (h0 : ¬ (0 ≤ a ∧ a < 6) → Q 0 w) : WI (fR_isShelf a w) Q := by
  (repeat' (first | (with_reducible refine i_some ?_) | (with_reducible refine v_some ?_) | (with_reducible refine i_ci ?_) | (with_reducible refine i_cv ?_) | (with_reducible refine v_ci ?_) | (with_reducible refine v_cv ?_) | (with_reducible refine i_bv ?_) | (with_reducible refine v_bv ?_) | (with_reducible refine i_bw ?_) | (with_reducible refine v_bw ?_) | (with_reducible refine i_jn ?_) | (with_reducible refine v_jn ?_) | (with_reducible refine i_ck ?_ ?_) | (with_reducible refine v_ck ?_ ?_) | ((with_reducible refine i_if (fun hc => ?_) (fun hc => ?_)) <;> (try simp (disch := omega) only [not_true_eq_false, not_false_eq_true, true_and, and_true, up_r, up_k, ur_s, ur_e, ur_i, cp_k, w32_i, w64_i, w8_i] at hc) <;> (try (exfalso; omega))) | ((with_reducible refine v_if (fun hc => ?_) (fun hc => ?_)) <;> (try simp (disch := omega) only [not_true_eq_false, not_false_eq_true, true_and, and_true, up_r, up_k, ur_s, ur_e, ur_i, cp_k, w32_i, w64_i, w8_i] at hc) <;> (try (exfalso; omega))) | unfold fR_isShelf | ((with_reducible apply s_in) <;> (try intro hvc) <;> (try simp (disch := omega) only [not_true_eq_false, not_false_eq_true, true_and, and_true, up_r, up_k, ur_s, ur_e, ur_i, cp_k, w32_i, w64_i, w8_i] at hvc) <;> (try (exfalso; omega)))))
  all_goals first | exact h0 (by omega) | exact h1 (by omega)
theorem floorK {w u : WD} {o : Int} (h1 : ∀ k, k ≠ 27 → k ≠ 28 → k ≠ 29 → u k = w k) : BF u o = BF w o := by
  unfold BF
  rw [h1 82 (by decide) (by decide) (by decide)]
theorem op_dances : op2 Inv fB_dances fR_dances := by
  intro o m w hoI hmI hI
  obtain ⟨hH, hC, hT, hL, hN, hK, hS, hB⟩ := id hI
  obtain ⟨p0, p6, pr, m0, m5, mr, hV⟩ := id hH
  obtain ⟨e12, l12, u12⟩ : w 52 3 = w 2 50 ∧ 1 ≤ w 2 50 ∧ w 2 50 ≤ 30 := hV 12 0 ⟨by omega, by omega, by omega, by omega, by omega, by omega, by omega⟩
  have ok12 : OKp (w 1 4) (w 1 5) 0 12 := ⟨by omega, by omega, by omega, by omega, by omega, by omega, by omega⟩
  have hp : 0 ≤ w 1 4 ∧ w 1 4 ≤ 6 ∧ 0 ≤ w 1 5 ∧ w 1 5 ≤ 5 := ⟨p0, p6, m0, m5⟩
  refine same_of ?_
  unfold fB_dances
  have bad : ∀ r : Int, ¬ ((0 ≤ o ∧ o < 6) ∧ 0 ≤ m ∧ m ≤ 999) → r = -1 → WI (fR_dances o m w) (fun r' v => r' = r ∧ Inv v) := by
    intro r hb hr
    (repeat' (first | (with_reducible refine i_some ?_) | (with_reducible refine v_some ?_) | (with_reducible refine i_ci ?_) | (with_reducible refine i_cv ?_) | (with_reducible refine v_ci ?_) | (with_reducible refine v_cv ?_) | (with_reducible refine i_bv ?_) | (with_reducible refine v_bv ?_) | (with_reducible refine i_bw ?_) | (with_reducible refine v_bw ?_) | (with_reducible refine i_jn ?_) | (with_reducible refine v_jn ?_) | (with_reducible refine i_ck ?_ ?_) | (with_reducible refine v_ck ?_ ?_) | ((with_reducible refine i_if (fun hc => ?_) (fun hc => ?_)) <;> (try simp (disch := omega) only [not_true_eq_false, not_false_eq_true, true_and, and_true, up_r, up_k, ur_s, ur_e, ur_i, cp_k, w32_i, w64_i, w8_i] at hc) <;> (try (exfalso; omega))) | ((with_reducible refine v_if (fun hc => ?_) (fun hc => ?_)) <;> (try simp (disch := omega) only [not_true_eq_false, not_false_eq_true, true_and, and_true, up_r, up_k, ur_s, ur_e, ur_i, cp_k, w32_i, w64_i, w8_i] at hc) <;> (try (exfalso; omega))) | unfold fR_dances | ((with_reducible apply s_isShelfR) <;> (try intro hvc) <;> (try simp (disch := omega) only [not_true_eq_false, not_false_eq_true, true_and, and_true, up_r, up_k, ur_s, ur_e, ur_i, cp_k, w32_i, w64_i, w8_i] at hvc) <;> (try (exfalso; omega))) | ((with_reducible apply s_in) <;> (try intro hvc) <;> (try simp (disch := omega) only [not_true_eq_false, not_false_eq_true, true_and, and_true, up_r, up_k, ur_s, ur_e, ur_i, cp_k, w32_i, w64_i, w8_i] at hvc) <;> (try (exfalso; omega)))))
    all_goals first | omega | exact ⟨hr.symm, hI⟩
  refine i_ci (s_isShelfC (fun ho => i_if (fun q => absurd q (by decide)) (fun _ => ?_)) (fun ho => i_if (fun _ => i_some (bad _ (by omega) rfl)) (fun q => absurd rfl q)))
  refine i_ci (s_minute (fun hm => i_if (fun _ => ?_) (fun q => absurd (by decide) q)) (fun hm => i_if (fun q => absurd rfl q) (fun _ => i_some (bad _ (by omega) rfl))))
  have ref : ∀ (u : WD) (Q : Int → WD → Prop), (∀ k, k ≠ 27 → k ≠ 28 → k ≠ 29 → u k = w k) → (BF w o ≠ 0 → Q (BF w o) u) → (BF w o = 0 → ∀ v, Inv v → Q (if m / w 2 50 ≤ (TB w o).2 then m / w 2 50 else (TB w o).2) v) → WI (fR_dances o m u) Q := by
    intro u Q hu q1 q2
    have u46 := hu 46 (by decide) (by decide) (by decide)
    have u52 := hu 52 (by decide) (by decide) (by decide)
    unfold fR_dances
    refine i_ci (s_isShelfR (fun _ => i_if (fun q => absurd q (by decide)) (fun _ => ?_)) (fun q => absurd ho q))
    refine i_ci (s_in (fun _ => i_if (fun _ => ?_) (fun q => absurd (by decide) q)) (fun q => absurd hm q))
    refine i_ci (s_rowFault ho ?_)
    rw [floorK hu]
    refine i_if (fun q => ?_) (fun q => i_ci (s_rowFault ho (i_some (by rw [floorK hu]; exact q1 (by omega)))))
    have q0 : BF w o = 0 := by have := BF_neg (w := w) (o := o); omega
    refine i_cv (s_layDances (w := w) hS ⟨m0, m5⟩ q0 (hu 83 (by decide) (by decide) (by decide)) (hu 84 (by decide) (by decide) (by decide)) (by rw [u46]; exact mr) (fun v v1 v2 v3 => ?_))
    rw [v1 52 (by decide) (by decide), u52, e12, v3.1]
    have ed : Int.tdiv m (w 2 50) = m / w 2 50 := Int.tdiv_eq_ediv_of_nonneg hm.1
    have d0 : 0 ≤ m / w 2 50 := Int.ediv_nonneg hm.1 (by omega)
    have d1 : m / w 2 50 ≤ m := Int.ediv_le_self _ hm.1
    rw [ed, w32_i (by omega) (by omega)]
    have hv := Inv_floor hI hu v1 v2
    have e := q2 q0 v hv
    refine i_ck (by omega) (i_if (fun c => i_ck (by omega) (i_some ?_)) (fun c => i_some ?_))
    · rw [if_pos c] at e; exact e
    · rw [if_neg c] at e; exact e
  refine i_ci (s_readFloor hS ⟨m0, m5⟩ (fun q => i_if (fun c => absurd c q) (fun _ => i_some (ref w _ (fun _ _ _ _ => rfl) (fun _ => ⟨rfl, hI⟩) (fun c => absurd c q)))) (fun q u u1 u2 u3 u4 => ?_))
  refine i_if (fun _ => ?_) (fun c => absurd rfl c)
  have w1 := u1 1 (by decide) (by decide) (by decide)
  refine i_ci (s_at (by rw [w1]; exact hp) (fun _ => ?_) (fun c => absurd (by rw [w1]; exact ok12) c))
  rw [show PL 12 0 = 50 from rfl, u1 2 (by decide) (by decide) (by decide)]
  have em : mx 1 (w 2 50) = w 2 50 := by unfold mx; omega
  rw [em]
  unfold fFl_all
  have ed : Int.tdiv m (w 2 50) = m / w 2 50 := Int.tdiv_eq_ediv_of_nonneg hm.1
  have d0 : 0 ≤ m / w 2 50 := Int.ediv_nonneg hm.1 (by omega)
  have d1 : m / w 2 50 ≤ m := Int.ediv_le_self _ hm.1
  refine i_bv (i_ci (i_some (i_ck (by omega) (i_some (ref u _ u1 (fun c => absurd q c) (fun _ v hv => ⟨?_, hv⟩))))))
  rw [ed, w32_i (by omega) (by omega), u2.2.1]
  unfold mn
  split <;> split <;> omega
