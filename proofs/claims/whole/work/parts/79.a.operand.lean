/-! THE TEXT OF A LAW: the reference's loops, numbers, operands -/
theorem LVO_0 {a : Int} : LVO a = 0 ↔ a = 124 := by unfold LVO; omega
theorem LVO_1 {a : Int} : LVO a = 1 ↔ a = 38 := by unfold LVO; omega
theorem LVO_2 {a : Int} : LVO a = 2 ↔ (a = 60 ∨ a = 61 ∨ a = 62) := by unfold LVO; omega
theorem LVO_3 {a : Int} : LVO a = 3 ↔ (a = 43 ∨ a = 45) := by unfold LVO; omega
theorem LVO_4 {a : Int} : LVO a = 4 ↔ (a = 42 ∨ a = 47 ∨ a = 37) := by unfold LVO; omega
theorem rl_either {c : Int → Int} {n : Int} {rT : WD → Option WD} (hL : LTR c n) : RLP c n 0 rT (fR_either_o_l4 rT) := by
  intro f u P
  have n120 := hL.2.1
  refine ⟨fun h0 h => ?_, fun q hf ht hh q0 q1 => ⟨fun hn h => ?_, fun hy h => ?_⟩⟩ <;> show WV (fR_either_o_l4_b (fR_either_o_l4 rT f) rT u) P <;> unfold fR_either_o_l4_b
  · exact v_if (fun _ => v_some h) (fun z => absurd h0 z)
  · have e := RH_iff (k := 124) hL q0 (by omega) (by omega)
    rw [Ne, LVO_0] at hn
    exact v_if (fun z => by exfalso; omega) (fun _ => v_ci (s_looks hL ht hh q0 (v_if (fun _ => v_some h) (fun z => absurd (e.mp (by omega)) hn))))
  · have e := RH_iff (k := 124) hL q0 (by omega) (by omega)
    rw [LVO_0] at hy
    rw [hy] at h
    refine v_if (fun z => by exfalso; omega) (fun _ => v_ci (s_looks hL ht hh q0 (v_if (fun z => absurd (e.mpr hy) z) (fun _ => v_bw ?_))))
    rw [hh, w32_i (by omega) (by omega)]
    exact v_cv (v_mono h (fun v hv => v_cv hv))
theorem rl_both {c : Int → Int} {n : Int} {rT : WD → Option WD} (hL : LTR c n) : RLP c n 1 rT (fR_both_o_l4 rT) := by
  intro f u P
  have n120 := hL.2.1
  refine ⟨fun h0 h => ?_, fun q hf ht hh q0 q1 => ⟨fun hn h => ?_, fun hy h => ?_⟩⟩ <;> show WV (fR_both_o_l4_b (fR_both_o_l4 rT f) rT u) P <;> unfold fR_both_o_l4_b
  · exact v_if (fun _ => v_some h) (fun z => absurd h0 z)
  · have e := RH_iff (k := 38) hL q0 (by omega) (by omega)
    rw [Ne, LVO_1] at hn
    exact v_if (fun z => by exfalso; omega) (fun _ => v_ci (s_looks hL ht hh q0 (v_if (fun _ => v_some h) (fun z => absurd (e.mp (by omega)) hn))))
  · have e := RH_iff (k := 38) hL q0 (by omega) (by omega)
    rw [LVO_1] at hy
    rw [hy] at h
    refine v_if (fun z => by exfalso; omega) (fun _ => v_ci (s_looks hL ht hh q0 (v_if (fun z => absurd (e.mpr hy) z) (fun _ => v_bw ?_))))
    rw [hh, w32_i (by omega) (by omega)]
    exact v_cv (v_mono h (fun v hv => v_cv hv))
theorem rl_sum {c : Int → Int} {n : Int} {rT : WD → Option WD} (hL : LTR c n) : RLP c n 3 rT (fR_sum_o_l4 rT) := by
  intro f u P
  have n120 := hL.2.1
  refine ⟨fun h0 h => ?_, fun q hf ht hh q0 q1 => ⟨fun hn h => ?_, fun hy h => ?_⟩⟩ <;> show WV (fR_sum_o_l4_b (fR_sum_o_l4 rT f) rT u) P <;> unfold fR_sum_o_l4_b
  · exact v_if (fun _ => v_some h) (fun z => absurd h0 z)
  · have e := RH_iff (k := 43) hL q0 (by omega) (by omega)
    have e' := RH_iff (k := 45) hL q0 (by omega) (by omega)
    rw [Ne, LVO_3] at hn
    exact v_if (fun z => by exfalso; omega) (fun _ => v_ci (s_looks hL ht hh q0 (v_jn (v_if (fun z => by exfalso; omega) (fun _ => v_ci (s_looks hL ht hh q0 (v_if (fun _ => v_some h) (fun z => by exfalso; omega))))))))
  · have e := RH_iff (k := 43) hL q0 (by omega) (by omega)
    have e' := RH_iff (k := 45) hL q0 (by omega) (by omega)
    rw [LVO_3] at hy
    have er : RHr c n q = CHr c n q := by omega
    have fin : WV (ci (fR_looksOn u) <| fun (r7 : Int) (u6 : WD) => bw (up u6 46 17 (w32 ((u6 46 17) + 1))) <| fun (u9 : WD) => cv (rT u9) <| fun (u10 : WD) => cv (fR_addStep r7 0 u10) <| fun (u11 : WD) => fR_sum_o_l4 rT f u11) P := by
      refine v_ci (s_looks hL ht hh q0 (v_bw ?_))
      rw [hh, w32_i (by omega) (by omega), er]
      exact v_cv (v_mono h (fun v hv => v_cv hv))
    exact v_if (fun z => by exfalso; omega) (fun _ => v_ci (s_looks hL ht hh q0 (v_jn (v_if (fun _ => fin) (fun _ => v_ci (s_looks hL ht hh q0 (v_if (fun z => by exfalso; omega) (fun _ => fin))))))))
theorem rl_product {c : Int → Int} {n : Int} {rT : WD → Option WD} (hL : LTR c n) : RLP c n 4 rT (fR_product_o_l4 rT) := by
  intro f u P
  have n120 := hL.2.1
  refine ⟨fun h0 h => ?_, fun q hf ht hh q0 q1 => ⟨fun hn h => ?_, fun hy h => ?_⟩⟩ <;> show WV (fR_product_o_l4_b (fR_product_o_l4 rT f) rT u) P <;> unfold fR_product_o_l4_b
  · exact v_if (fun _ => v_some h) (fun z => absurd h0 z)
  · have e := RH_iff (k := 42) hL q0 (by omega) (by omega)
    have e' := RH_iff (k := 47) hL q0 (by omega) (by omega)
    have e'' := RH_iff (k := 37) hL q0 (by omega) (by omega)
    rw [Ne, LVO_4] at hn
    exact v_if (fun z => by exfalso; omega) (fun _ => v_ci (s_looks hL ht hh q0 (v_jn (v_if (fun z => by exfalso; omega) (fun _ => v_ci (s_looks hL ht hh q0 (v_if (fun z => by exfalso; omega) (fun _ => v_ci (s_looks hL ht hh q0 (v_if (fun _ => v_some h) (fun z => by exfalso; omega)))))))))))
  · have e := RH_iff (k := 42) hL q0 (by omega) (by omega)
    have e' := RH_iff (k := 47) hL q0 (by omega) (by omega)
    have e'' := RH_iff (k := 37) hL q0 (by omega) (by omega)
    rw [LVO_4] at hy
    have er : RHr c n q = CHr c n q := by omega
    have fin : WV (ci (fR_looksOn u) <| fun (r7 : Int) (u6 : WD) => bw (up u6 46 17 (w32 ((u6 46 17) + 1))) <| fun (u9 : WD) => cv (rT u9) <| fun (u10 : WD) => cv (fR_addStep r7 0 u10) <| fun (u11 : WD) => fR_product_o_l4 rT f u11) P := by
      refine v_ci (s_looks hL ht hh q0 (v_bw ?_))
      rw [hh, w32_i (by omega) (by omega), er]
      exact v_cv (v_mono h (fun v hv => v_cv hv))
    exact v_if (fun z => by exfalso; omega) (fun _ => v_ci (s_looks hL ht hh q0 (v_jn (v_if (fun _ => fin) (fun _ => v_ci (s_looks hL ht hh q0 (v_if (fun _ => fin) (fun _ => v_ci (s_looks hL ht hh q0 (v_if (fun z => by exfalso; omega) (fun _ => fin)))))))))))
def rcmp (rT : WD → Option WD) (u1 : WD) : Option WD := ci (fR_looksOn u1) <| fun (r3 : Int) (u2 : WD) => if 0 ≤ (u2 46 18) then (some u2) else (jn (β := WD → Option WD) (fun (u5 : WD) => bw (up u5 46 17 (w32 ((u5 46 17) + 1))) <| fun (u6 : WD) => cv (rT u6) <| fun (u7 : WD) => cv (fR_addStep r3 0 u7) <| fun (u8 : WD) => some u8) <| fun J9 => if r3 = 60 then (J9 u2) else (if r3 = 61 then (J9 u2) else (if r3 = 62 then (J9 u2) else (some u2))))
theorem rc_cmp {c : Int → Int} {n : Int} {rT : WD → Option WD} (hL : LTR c n) : RCP c n rT (rcmp rT) := by
  intro u P q ht hh q0
  have n120 := hL.2.1
  have e := RH_iff (k := 60) hL q0 (by omega) (by omega)
  have e' := RH_iff (k := 61) hL q0 (by omega) (by omega)
  have e'' := RH_iff (k := 62) hL q0 (by omega) (by omega)
  unfold rcmp
  refine ⟨fun h0 h => ?_, fun hf q1 => ⟨fun hn h => ?_, fun hy h => ?_⟩⟩
  · exact v_ci (s_looks hL ht hh q0 (v_if (fun _ => v_some h) (fun z => absurd h0 z)))
  · rw [Ne, LVO_2] at hn
    exact v_ci (s_looks hL ht hh q0 (v_if (fun z => by exfalso; omega) (fun _ => v_jn (v_if (fun z => by exfalso; omega) (fun _ => v_if (fun z => by exfalso; omega) (fun _ => v_if (fun z => by exfalso; omega) (fun _ => v_some h)))))))
  · rw [LVO_2] at hy
    have er : RHr c n q = CHr c n q := by omega
    have fin : WV (bw (up u 46 17 (w32 ((u 46 17) + 1))) <| fun (u6 : WD) => cv (rT u6) <| fun (u7 : WD) => cv (fR_addStep (RHr c n q) 0 u7) <| fun (u8 : WD) => some u8) P := by
      refine v_bw ?_
      rw [hh, w32_i (by omega) (by omega), er]
      exact v_cv (v_mono h (fun v hv => v_cv (v_mono hv (fun v' hv' => v_some hv'))))
    exact v_ci (s_looks hL ht hh q0 (v_if (fun z => by exfalso; omega) (fun _ => v_jn (v_if (fun _ => fin) (fun _ => v_if (fun _ => fin) (fun _ => v_if (fun _ => fin) (fun z => by exfalso; omega)))))))
/-! numbers -/
def DGO (a : Int) : Int := if 48 ≤ a ∧ a ≤ 57 then 1 else 0
theorem s_isDigit {a : Int} {w : WD} {Q : Int → WD → Prop} (h : Q (DGO a) w) : WI (fLa_isDigit a w) Q := by
  unfold DGO at h
  (repeat' (first | (with_reducible refine i_some ?_) | (with_reducible refine v_some ?_) | (with_reducible refine i_ci ?_) | (with_reducible refine i_cv ?_) | (with_reducible refine v_ci ?_) | (with_reducible refine v_cv ?_) | (with_reducible refine i_bv ?_) | (with_reducible refine v_bv ?_) | (with_reducible refine i_bw ?_) | (with_reducible refine v_bw ?_) | (with_reducible refine i_jn ?_) | (with_reducible refine v_jn ?_) | (with_reducible refine i_ck ?_ ?_) | (with_reducible refine v_ck ?_ ?_) | ((with_reducible refine i_if (fun hc => ?_) (fun hc => ?_)) <;> (try simp (disch := omega) only [not_true_eq_false, not_false_eq_true, true_and, and_true, up_r, up_k, ur_s, ur_e, ur_i, cp_k, w32_i, w64_i, w8_i] at hc) <;> (try (exfalso; omega))) | ((with_reducible refine v_if (fun hc => ?_) (fun hc => ?_)) <;> (try simp (disch := omega) only [not_true_eq_false, not_false_eq_true, true_and, and_true, up_r, up_k, ur_s, ur_e, ur_i, cp_k, w32_i, w64_i, w8_i] at hc) <;> (try (exfalso; omega))) | unfold fLa_isDigit))
  · rw [if_neg (by omega)] at h; exact h
  · rw [if_neg (by omega)] at h; exact h
  · rw [if_pos (by omega)] at h; exact h
theorem DGO_1 {a : Int} (h : 48 ≤ a ∧ a ≤ 57) : DGO a = 1 := if_pos h
theorem DGO_0 {a : Int} (h : ¬ (48 ≤ a ∧ a ≤ 57)) : DGO a = 0 := if_neg h
def TTN : Nat → Int
  | 0 => 10000
  | 1 => 1000
  | 2 => 100
  | 3 => 10
  | _ => 1
theorem TTN_s {m : Nat} {v e : Int} (hm : m < 4) (h0 : 0 ≤ v) (h : v < TTN (m + 1)) (e0 : 0 ≤ e) (e1 : e ≤ 9) : 10 * v + e < TTN m ∧ TTN m ≤ 10000 := by
  rcases (by omega : m = 0 ∨ m = 1 ∨ m = 2 ∨ m = 3) with rfl | rfl | rfl | rfl <;> simp only [TTN] at h ⊢ <;> omega
theorem TTN_le {m : Nat} (hm : m ≤ 4) : TTN m ≤ 10000 := by
  rcases (by omega : m = 0 ∨ m = 1 ∨ m = 2 ∨ m = 3 ∨ m = 4) with rfl | rfl | rfl | rfl | rfl <;> simp only [TTN] <;> omega
theorem l_num {c : Int → Int} {n d : Int} (hL : LTR c n) : ∀ (m : Nat) (p v j : Int), j + m = 4 → 0 ≤ j → 0 ≤ p → p ≤ n → 0 ≤ v → v < TTN m →
    ∃ q v' j', q ≤ n ∧ j ≤ j' ∧ j' ≤ 4 ∧ q - p = j' - j ∧ 0 ≤ v' ∧ v' < 10000 ∧ (j' = 4 ∨ ¬ (48 ≤ CHr c n q ∧ CHr c n q ≤ 57)) ∧
      (∀ (f : Nat) (K : Int → WD → Option WD) (w u : WD) (p0 b : Int) (P : WD → Prop), Cpr c n w p0 b → Cst w b u p [] → m < f → (∀ z, Cst w b z q [] → WV (K v' z) P) → WV (fLa_readNumber_l4 K f v j u) P) ∧
      (∀ (f : Nat) (K : Int → Int → WD → Option WD) (w u : WD) (p0 L : Int) (P : WD → Prop), Rpr c n d w p0 L → Rst w L d u p [] → m < f → (∀ z, Rst w L d z q [] → WV (K v' j' z) P) → WV (fR_figure_l4 K f v j u) P)
  | 0, p, v, j, hj, hj0, h0, h1, v0, v1 => by
    refine ⟨p, v, j, h1, by omega, by omega, by omega, v0, v1, Or.inl (by omega), ?_, ?_⟩
    · intro f K w u p0 b P hw hs hf h
      obtain ⟨f, rfl⟩ : ∃ g, f = g + 1 := ⟨f - 1, by omega⟩
      show WV (fLa_readNumber_l4_b (fLa_readNumber_l4 K f) K v j u) P
      unfold fLa_readNumber_l4_b
      exact v_if (fun _ => h u hs) (fun z => by exfalso; omega)
    · intro f K w u p0 L P hw hs hf h
      obtain ⟨f, rfl⟩ : ∃ g, f = g + 1 := ⟨f - 1, by omega⟩
      show WV (fR_figure_l4_b (fR_figure_l4 K f) K v j u) P
      unfold fR_figure_l4_b
      exact v_if (fun _ => h u hs) (fun z => by exfalso; omega)
  | m + 1, p, v, j, hj, hj0, h0, h1, v0, v1 => by
    have n120 := hL.2.1
    have vM := TTN_le (m := m + 1) (by omega)
    by_cases hd : 48 ≤ CHr c n p ∧ CHr c n p ≤ 57
    · obtain ⟨pn, _⟩ := CH_lt (c := c) (n := n) (p := p) (by omega)
      obtain ⟨tv, tM⟩ := TTN_s (m := m) (e := CHr c n p - 48) (by omega) v0 v1 (by omega) (by omega)
      obtain ⟨q, v', j', x1, x2, x3, x4, x5, x6, x7, x8, x9⟩ := l_num (d := d) hL m (p + 1) (10 * v + (CHr c n p - 48)) (j + 1) (by omega) (by omega) (by omega) (by omega) (by omega) tv
      have er : RHr c n p = CHr c n p := (RH_iff hL h0 (by omega) (by omega)).mpr rfl
      have e10 : w32 ((w32 ((w32 (10 * v)) + CHr c n p)) - 48) = 10 * v + (CHr c n p - 48) := by
        rw [w32_i (x := 10 * v) (by omega) (by omega), w32_i (x := 10 * v + CHr c n p) (by omega) (by omega), w32_i (by omega) (by omega)]
        omega
      have e11 : w32 (j + 1) = j + 1 := w32_i (by omega) (by omega)
      refine ⟨q, v', j', x1, by omega, x3, by omega, x5, x6, x7, ?_, ?_⟩
      · intro f K w u p0 b P hw hs hf h
        obtain ⟨f, rfl⟩ : ∃ g, f = g + 1 := ⟨f - 1, by omega⟩
        show WV (fLa_readNumber_l4_b (fLa_readNumber_l4 K f) K v j u) P
        unfold fLa_readNumber_l4_b
        have hu := Cst_pr hw hs
        refine v_if (fun z => by exfalso; omega) (fun _ => v_ci (s_next hL hu h0 (v_ci (s_isDigit (v_if (fun z => by rw [DGO_1 hd] at z; exact absurd z (by omega)) (fun _ => v_ci (s_next hL hu h0 (v_bv (v_bw (v_bv ?_))))))))))
        rw [e10, e11, hs.2.1, w32_i (x := p + 1) (by omega) (by omega)]
        exact x8 f K w _ p0 b P hw (Cst_mv hs) (by omega) h
      · intro f K w u p0 L P hw hs hf h
        obtain ⟨f, rfl⟩ : ∃ g, f = g + 1 := ⟨f - 1, by omega⟩
        show WV (fR_figure_l4_b (fR_figure_l4 K f) K v j u) P
        unfold fR_figure_l4_b
        have hu := (Rtp_fr hw.1 hs.1)
        refine v_if (fun z => by exfalso; omega) (fun _ => v_ci (s_looks hL hu hs.2.1 h0 (v_ci (s_in (fun _ => v_if (fun z => absurd z (by omega)) (fun _ => v_ci (s_looks hL hu hs.2.1 h0 (v_bv (v_bv (v_bw ?_)))))) (fun z => absurd ((RH_dig hL h0).mpr hd) z)))))
        rw [er, e10, e11, hs.2.1, w32_i (x := p + 1) (by omega) (by omega)]
        exact x9 f K w _ p0 L P hw (Rst_mv hs) (by omega) h
    · refine ⟨p, v, j, h1, by omega, by omega, by omega, v0, by omega, Or.inr hd, ?_, ?_⟩
      · intro f K w u p0 b P hw hs hf h
        obtain ⟨f, rfl⟩ : ∃ g, f = g + 1 := ⟨f - 1, by omega⟩
        show WV (fLa_readNumber_l4_b (fLa_readNumber_l4 K f) K v j u) P
        unfold fLa_readNumber_l4_b
        exact v_if (fun z => by exfalso; omega) (fun _ => v_ci (s_next hL (Cst_pr hw hs) h0 (v_ci (s_isDigit (v_if (fun _ => h u hs) (fun z => absurd (DGO_0 hd) z))))))
      · intro f K w u p0 L P hw hs hf h
        obtain ⟨f, rfl⟩ : ∃ g, f = g + 1 := ⟨f - 1, by omega⟩
        show WV (fR_figure_l4_b (fR_figure_l4 K f) K v j u) P
        unfold fR_figure_l4_b
        exact v_if (fun z => by exfalso; omega) (fun _ => v_ci (s_looks hL (Rtp_fr hw.1 hs.1) hs.2.1 h0 (v_ci (s_in (fun z => absurd ((RH_dig hL h0).mp z) hd) (fun _ => v_if (fun _ => h u hs) (fun z => absurd rfl z))))))
