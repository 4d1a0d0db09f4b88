/-! THE TEXT OF A LAW: operands -/
def NMO (a : Int) : Int := if a = 100 then 5 else if a = 102 then 3 else if a = 107 then 4 else if a = 115 then 0 else if a = 116 then 1 else if a = 120 then 2 else -1
theorem s_nameC {a : Int} {w : WD} {Q : Int → WD → Prop} (h : Q (NMO a) w) : WI (fLa_nameOf a w) Q := by
  unfold NMO at h
  (repeat' (first | (with_reducible refine i_some ?_) | (with_reducible refine v_some ?_) | (with_reducible refine i_ci ?_) | (with_reducible refine i_cv ?_) | (with_reducible refine v_ci ?_) | (with_reducible refine v_cv ?_) | (with_reducible refine i_bv ?_) | (with_reducible refine v_bv ?_) | (with_reducible refine i_bw ?_) | (with_reducible refine v_bw ?_) | (with_reducible refine i_jn ?_) | (with_reducible refine v_jn ?_) | (with_reducible refine i_ck ?_ ?_) | (with_reducible refine v_ck ?_ ?_) | ((with_reducible refine i_if (fun hc => ?_) (fun hc => ?_)) <;> (try simp (disch := omega) only [not_true_eq_false, not_false_eq_true, true_and, and_true, up_r, up_k, ur_s, ur_e, ur_i, cp_k, w32_i, w64_i, w8_i] at hc) <;> (try (exfalso; omega))) | ((with_reducible refine v_if (fun hc => ?_) (fun hc => ?_)) <;> (try simp (disch := omega) only [not_true_eq_false, not_false_eq_true, true_and, and_true, up_r, up_k, ur_s, ur_e, ur_i, cp_k, w32_i, w64_i, w8_i] at hc) <;> (try (exfalso; omega))) | unfold fLa_nameOf)) <;> (repeat' (first | rw [if_pos (by assumption)] at h | rw [if_neg (by assumption)] at h)) <;> exact h
theorem s_nameR {a : Int} {w : WD} {Q : Int → WD → Prop} (h : Q (NMO a) w) : WI (fR_nameOf a w) Q := by
  unfold NMO at h
  (repeat' (first | (with_reducible refine i_some ?_) | (with_reducible refine v_some ?_) | (with_reducible refine i_ci ?_) | (with_reducible refine i_cv ?_) | (with_reducible refine v_ci ?_) | (with_reducible refine v_cv ?_) | (with_reducible refine i_bv ?_) | (with_reducible refine v_bv ?_) | (with_reducible refine i_bw ?_) | (with_reducible refine v_bw ?_) | (with_reducible refine i_jn ?_) | (with_reducible refine v_jn ?_) | (with_reducible refine i_ck ?_ ?_) | (with_reducible refine v_ck ?_ ?_) | ((with_reducible refine i_if (fun hc => ?_) (fun hc => ?_)) <;> (try simp (disch := omega) only [not_true_eq_false, not_false_eq_true, true_and, and_true, up_r, up_k, ur_s, ur_e, ur_i, cp_k, w32_i, w64_i, w8_i] at hc) <;> (try (exfalso; omega))) | ((with_reducible refine v_if (fun hc => ?_) (fun hc => ?_)) <;> (try simp (disch := omega) only [not_true_eq_false, not_false_eq_true, true_and, and_true, up_r, up_k, ur_s, ur_e, ur_i, cp_k, w32_i, w64_i, w8_i] at hc) <;> (try (exfalso; omega))) | unfold fR_nameOf)) <;> (repeat' (first | rw [if_pos (by assumption)] at h | rw [if_neg (by assumption)] at h)) <;> exact h
theorem NMO_rh {c : Int → Int} {n p : Int} (hL : LTR c n) (hp : 0 ≤ p) : NMO (RHr c n p) = NMO (CHr c n p) := by
  have e1 := RH_iff (k := 100) hL hp (by omega) (by omega)
  have e2 := RH_iff (k := 102) hL hp (by omega) (by omega)
  have e3 := RH_iff (k := 107) hL hp (by omega) (by omega)
  have e4 := RH_iff (k := 115) hL hp (by omega) (by omega)
  have e5 := RH_iff (k := 116) hL hp (by omega) (by omega)
  have e6 := RH_iff (k := 120) hL hp (by omega) (by omega)
  unfold NMO
  simp only [e1, e2, e3, e4, e5, e6]
theorem NMO_in {a : Int} (h : 0 ≤ NMO a) : 100 ≤ a ∧ a ≤ 120 ∧ NMO a ≤ 5 := by unfold NMO at h ⊢; omega
theorem NMO_no {a : Int} (h : a < 100) : NMO a = -1 := by unfold NMO; omega
theorem okp_num {e : Int} (h : 0 ≤ e) (r : List Int) (m : Nat) : okp ([e] ++ r) (m + 0) = okp r (m + 1) := by
  show (if 0 ≤ e then okp r (m + 0 + 1) else _) = _
  rw [if_pos h]
theorem Ogd_num {c : Int → Int} {n p q e : Int} (h1 : p < q) (h2 : q ≤ n) (h3 : 0 ≤ e ∧ e ≤ 10005) : Ogd c n p 0 (.inl (q, [e])) :=
  ⟨by simp; omega, h2, fun _ => h1, TKS_one (Or.inl h3), fun r m => okp_num h3.1 r m⟩
/-- a number -/
theorem opd_num {c : Int → Int} {n d p : Int} {oI : Int → WD → Option (Int × WD)} {oS : Int → Int → WD → Option (Int × WD)} {rE rO : WD → Option WD} (hL : LTR c n) (h0 : 0 ≤ p) (h1 : p ≤ n)
    (hd : 48 ≤ CHr c n p ∧ CHr c n p ≤ 57) : ∃ o, Ogd c n p 0 o ∧ CIo c n (fLa_readOperand_o oI oS d) p o ∧ RIo c n d (fR_operand_o rE rO) p o := by
  have n120 := hL.2.1
  obtain ⟨q, v, j, x1, x2, x3, x4, x5, x6, x7, x8, x9⟩ := l_num (d := d) hL 4 p 0 0 (by omega) (by omega) h0 h1 (by omega) (by decide)
  have j1 : j ≠ 0 := by
    intro z
    have e : q = p := by omega
    rw [e] at x7
    rcases x7 with x7 | x7
    · omega
    · exact x7 hd
  have er : RHr c n p = CHr c n p := (RH_iff hL h0 (by omega) (by omega)).mpr rfl
  have en : NMO (RHr c n p) = -1 := by rw [NMO_rh hL h0]; exact NMO_no (by omega)
  have av : AC v = 1 ∧ AV v = v := by unfold AC AV; omega
  -- the class reads it
  have cc : ∀ (w : WD) (b : Int) (Q : Int → WD → Prop), Cpr c n w p b → 0 ≤ b → b ≤ p → (∀ u, Cst w b u q [v] → Q 1 u) → WI (fLa_readOperand_o oI oS d w) Q := by
    intro w b Q hw b0 b1 h
    unfold fLa_readOperand_o
    refine i_ci (s_next hL hw h0 (i_ci (s_isDigit (i_if (fun z => by rw [DGO_1 hd] at z; exact absurd z (by omega)) (fun _ => i_cv ?_)))))
    unfold fLa_readNumber
    exact x8 FU _ w w p b _ hw (Cst_rf hw) (by decide) (fun z hz => v_cv (s_emitC hz b0 (by simp; omega) (fun z' hz' => v_some (i_some (h z' hz')))))
  have rr : ∀ (w : WD) (L : Int) (P : WD → Prop), Rpr c n d w p L → (∀ z, Rst w L d z q [] → WV (ci (fR_looksOn z) <| fun (r25 : Int) (u24 : WD) => ci (fR_in r25 48 57 u24) <| fun (r28 : Int) (u27 : WD) => if r28 = 0 then (cv (fR_addStep 1 v u27) <| fun (u19 : WD) => some u19) else (cv (fR_wrong u27) <| fun (u22 : WD) => cv (fR_addStep 1 v u22) <| fun (u19 : WD) => some u19)) P) → WV (fR_operand_o rE rO w) P := by
    intro w L P hw h
    unfold fR_operand_o
    refine v_ci (s_looks hL hw.1 hw.2.1 h0 (v_ci (s_nameR (v_if (fun _ => v_jn (v_if (fun z => by exfalso; omega) (fun _ => v_if (fun _ => v_if (fun _ => v_cv ?_) (fun z => by exfalso; omega)) (fun z => by exfalso; omega)))) (fun z => by exfalso; omega)))))
    unfold fR_figure
    refine x9 FU _ w w p L _ hw (Rst_rf hw) (by decide) (fun z hz => v_jn (v_jn (v_if (fun q => absurd q j1) (fun _ => ?_))))
    exact v_mono (h z hz) (fun u hu => v_some hu)
  by_cases hq : 48 ≤ CHr c n q ∧ CHr c n q ≤ 57
  · obtain ⟨qn, qe⟩ := CH_lt (c := c) (n := n) (p := q) (by omega)
    refine ⟨.inr (1, q), ⟨by simp only; omega, x1, Or.inr ⟨rfl, qn, by simp only; omega, by simp only; omega⟩⟩, ?_, ?_⟩
    · intro w b Q hw b0 b1 h
      exact cc w b Q hw b0 b1 (fun u hu => h 1 u ⟨rfl, hu.1, hu.2.1⟩)
    · intro w L P hw L0 L1 h
      refine rr w L P hw (fun z hz => v_ci (s_looks hL (Rtp_fr hw.1 hz.1) hz.2.1 (by omega) (v_ci (s_in (fun _ => v_if (fun y => absurd y (by omega)) (fun _ => v_cv (s_wrong hz (fun z' hz' => v_cv ?_)))) (fun y => absurd ((RH_dig hL (by omega)).mpr hq) y)))))
      refine s_layB hz' L0 (by simp; omega) (fun z'' hz2 => v_some (h z'' ?_))
      obtain ⟨y1, y2, y3, y4, y5⟩ := hz2
      simp only [List.length_nil] at y5
      exact ⟨y1, y2, y3, y4, by simp only; omega⟩
  · refine ⟨.inl (q, [v]), Ogd_num (by omega) x1 (by omega), ?_, ?_⟩
    · intro w b Q hw b0 b1 h
      exact cc w b Q hw b0 b1 (fun u hu => h 1 u ⟨rfl, hu⟩)
    · intro w L P hw L0 L1 h
      exact rr w L P hw (fun z hz => v_ci (s_looks hL (Rtp_fr hw.1 hz.1) hz.2.1 (by omega) (v_ci (s_in (fun y => absurd ((RH_dig hL (by omega)).mp y) hq) (fun _ => v_if (fun _ => v_cv (s_layC hz L0 (by simp; omega) (by omega) (by omega) av.1 av.2 (fun z' hz' => v_some (h z' hz')))) (fun y => absurd rfl y))))))
/-- a name -/
theorem opd_name {c : Int → Int} {n d p : Int} {oI : Int → WD → Option (Int × WD)} {oS : Int → Int → WD → Option (Int × WD)} {rE rO : WD → Option WD} (hL : LTR c n) (h0 : 0 ≤ p) (h1 : p ≤ n)
    (hn : 0 ≤ NMO (CHr c n p)) : ∃ o, Ogd c n p 0 o ∧ CIo c n (fLa_readOperand_o oI oS d) p o ∧ RIo c n d (fR_operand_o rE rO) p o := by
  have n120 := hL.2.1
  obtain ⟨a1, a2, a3⟩ := NMO_in hn
  obtain ⟨pn, _⟩ := CH_lt (c := c) (n := n) (p := p) (by omega)
  have er : RHr c n p = CHr c n p := (RH_iff hL h0 (by omega) (by omega)).mpr rfl
  have av : AC (10000 + NMO (CHr c n p)) = 2 ∧ AV (10000 + NMO (CHr c n p)) = NMO (CHr c n p) := by unfold AC AV; omega
  refine ⟨.inl (p + 1, [10000 + NMO (CHr c n p)]), Ogd_num (by omega) (by omega) (by omega), ?_, ?_⟩
  · intro w b Q hw b0 b1 h
    unfold fLa_readOperand_o
    refine i_ci (s_next hL hw h0 (i_ci (s_isDigit (i_if (fun _ => i_ci (s_nameC (i_if (fun z => by exfalso; omega) (fun _ => i_bw (i_cv ?_))))) (fun z => absurd (DGO_0 (by omega)) z)))))
    rw [hw.2.2.1, w32_i (x := p + 1) (by omega) (by omega), w32_i (x := 10000 + NMO (CHr c n p)) (by omega) (by omega)]
    exact s_emitC (Cst_mv (Cst_rf hw)) b0 (by simp; omega) (fun u hu => i_some (h 1 u ⟨rfl, hu⟩))
  · intro w L P hw L0 L1 h
    unfold fR_operand_o
    refine v_ci (s_looks hL hw.1 hw.2.1 h0 (v_ci (s_nameR (v_if (fun z => by rw [NMO_rh hL h0] at z; exfalso; omega) (fun _ => v_ci (s_nameR (v_cv ?_)))))))
    rw [NMO_rh hL h0]
    refine s_layC (Rst_rf hw) L0 (by simp; omega) (by omega) (by omega) av.1 av.2 (fun z hz => v_bw (v_some ?_))
    rw [hz.2.1, w32_i (x := p + 1) (by omega) (by omega)]
    exact h _ (Rst_mv hz)
/-- no operand -/
theorem opd_none {c : Int → Int} {n d p : Int} {oI : Int → WD → Option (Int × WD)} {oS : Int → Int → WD → Option (Int × WD)} {rE rO : WD → Option WD} (hL : LTR c n) (h0 : 0 ≤ p) (h1 : p ≤ n)
    (hd : ¬ (48 ≤ CHr c n p ∧ CHr c n p ≤ 57)) (hn : NMO (CHr c n p) < 0) (hs : CHr c n p ≠ 40 ∧ CHr c n p ≠ 33 ∧ CHr c n p ≠ 45) : ∃ o, Ogd c n p 0 o ∧ CIo c n (fLa_readOperand_o oI oS d) p o ∧ RIo c n d (fR_operand_o rE rO) p o := by
  have n120 := hL.2.1
  have e1 := RH_iff (k := 40) hL h0 (by omega) (by omega)
  have e2 := RH_iff (k := 33) hL h0 (by omega) (by omega)
  have e3 := RH_iff (k := 45) hL h0 (by omega) (by omega)
  refine ⟨.inr (0, p), ⟨by simp only; omega, h1, Or.inl rfl⟩, ?_, ?_⟩
  · intro w b Q hw b0 b1 h
    unfold fLa_readOperand_o
    exact i_ci (s_next hL hw h0 (i_ci (s_isDigit (i_if (fun _ => i_ci (s_nameC (i_if (fun _ => i_jn (i_jn (i_if (fun z => absurd z hs.1) (fun _ => i_if (fun z => absurd z hs.2.1) (fun _ => i_if (fun _ => i_if (fun _ => i_some (h 0 w ⟨rfl, Cfr.rf, hw.2.2.1⟩)) (fun z => absurd rfl z)) (fun z => by exfalso; omega)))))) (fun z => by exfalso; omega)))) (fun z => absurd (DGO_0 hd) z)))))
  · intro w L P hw L0 L1 h
    unfold fR_operand_o
    refine v_ci (s_looks hL hw.1 hw.2.1 h0 (v_ci (s_nameR (v_if (fun _ => v_jn (v_if (fun z => by exfalso; omega) (fun _ => v_if (fun _ => v_if (fun _ => v_cv ?_) (fun z => by exfalso; omega)) (fun z => by exfalso; omega)))) (fun z => by rw [NMO_rh hL h0] at z; exfalso; omega)))))
    unfold fR_figure
    show WV (fR_figure_l4_b (fR_figure_l4 _ 1999) _ 0 0 w) _
    unfold fR_figure_l4_b
    refine v_if (fun z => by exfalso; omega) (fun _ => v_ci (s_looks hL hw.1 hw.2.1 h0 (v_ci (s_in (fun z => absurd ((RH_dig hL h0).mp z) hd) (fun _ => v_if (fun _ => v_jn (v_jn (v_if (fun _ => v_cv (s_wrong (Rst_rf hw) (fun z hz => v_cv ?_))) (fun z => absurd rfl z)))) (fun z => absurd rfl z))))))
    refine s_layB hz L0 (by simp; omega) (fun z' hz' => v_some (v_some (h z' ?_)))
    obtain ⟨y1, y2, y3, y4, y5⟩ := hz'
    simp only [List.length_nil] at y5
    exact ⟨y1, y2, y3, y4, by simp only; omega⟩
