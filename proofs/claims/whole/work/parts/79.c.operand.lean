/-! THE TEXT OF A LAW: what opens an operand within an operand -/
theorem s_opens {w u : WD} {L d q : Int} {t : List Int} {Q : Int → WD → Prop} (hs : Rst w L d u q t) (h0 : 0 ≤ d ∧ d ≤ 6) (hq : 0 ≤ q ∧ q ≤ 120) (h1 : d < 6 → ∀ v, Rst w L (d + 1) v (q + 1) t → Q 1 v) (h2 : d = 6 → ∀ v, Rbd w L v q t.length → Q 0 v) : WI (fR_opens u) Q := by
  unfold fR_opens
  have e3 := hs.2.2.2.1
  refine i_if (fun z => i_bw (i_bw (i_some ?_))) (fun z => i_cv (s_wrong hs (fun v hv => i_some (h2 (by omega) v hv))))
  rw [e3, w32_i (x := d + 1) (by omega) (by omega)]
  have e : (up u 46 19 (d + 1)) 46 17 = q := by rw [up_i (by omega)]; exact hs.2.1
  rw [e, w32_i (x := q + 1) (by omega) (by omega)]
  exact h1 (by omega) _ (Rst_mv (Rst_op hs))
/-- too deep -/
theorem opd_deep {c : Int → Int} {n p : Int} {oI : Int → WD → Option (Int × WD)} {oS : Int → Int → WD → Option (Int × WD)} {rE rO : WD → Option WD} (hL : LTR c n) (h0 : 0 ≤ p) (h1 : p ≤ n)
    (hs : CHr c n p = 40 ∨ CHr c n p = 33 ∨ CHr c n p = 45) : ∃ o, Ogd c n p 0 o ∧ CIo c n (fLa_readOperand_o oI oS 6) p o ∧ RIo c n 6 (fR_operand_o rE rO) p o := by
  have n120 := hL.2.1
  have er : RHr c n p = CHr c n p := (RH_iff hL h0 (by omega) (by omega)).mpr rfl
  have hn : NMO (CHr c n p) = -1 := NMO_no (by omega)
  refine ⟨.inr (0, p), ⟨by simp only; omega, h1, Or.inl rfl⟩, ?_, ?_⟩
  · intro w b Q hw b0 b1 h
    unfold fLa_readOperand_o
    have fin : WI (if (1 : Int) = 0 then (some ((0 : Int), w)) else (if (6 : Int) < 6 then (bw (up w 6 6 (w32 ((w 6 6) + 1))) <| fun (u12 : WD) => if CHr c n p ≠ 40 then (ci (oS (CHr c n p) (w32 (6 + 1)) u12) <| fun (r14 : Int) (u13 : WD) => some (r14, u13)) else (ci (oI (w32 (6 + 1)) u12) <| fun (r17 : Int) (u16 : WD) => some (r17, u16))) else (some (0, w)))) Q :=
      i_if (fun z => by exfalso; omega) (fun _ => i_if (fun z => by exfalso; omega) (fun _ => i_some (h 0 w ⟨rfl, Cfr.rf, hw.2.2.1⟩)))
    exact i_ci (s_next hL hw h0 (i_ci (s_isDigit (i_if (fun _ => i_ci (s_nameC (i_if (fun _ => i_jn (i_jn (i_if (fun _ => fin) (fun _ => i_if (fun _ => fin) (fun _ => i_if (fun z => by exfalso; omega) (fun _ => fin)))))) (fun z => by exfalso; omega)))) (fun z => absurd (DGO_0 (by omega)) z)))))
  · intro w L P hw L0 L1 h
    unfold fR_operand_o
    have bad : ∀ v, Rbd w L v p (([] : List Int).length) → P v := fun v hv => by
      obtain ⟨y1, y2, y3, y4, y5⟩ := hv
      simp only [List.length_nil] at y5
      exact h v ⟨y1, y2, y3, y4, by simp only; omega⟩
    have ff : WV (ci (fR_opens w) <| fun (r9 : Int) (u8 : WD) => if r9 ≠ 0 then (cv (rO u8) <| fun (u11 : WD) => bw (up u11 46 19 (w32 ((u11 46 19) - 1))) <| fun (u12 : WD) => jn (β := Int → WD → Option WD) (fun (s13 : Int) (u14 : WD) => cv (fR_addStep s13 0 u14) <| fun (u15 : WD) => some u15) <| fun J16 => if RHr c n p ≠ 33 then (J16 4 u12) else (J16 3 u12)) else (some u8)) P :=
      v_ci (s_opens (Rst_rf hw) (by omega) (by omega) (fun z => absurd z (by omega)) (fun _ v hv => v_if (fun z => absurd rfl z) (fun _ => v_some (bad v hv))))
    exact v_ci (s_looks hL hw.1 hw.2.1 h0 (v_ci (s_nameR (v_if (fun _ => v_jn (v_if (fun _ => ff) (fun _ => v_if (fun _ => v_if (fun z => by exfalso; omega) (fun _ => v_ci (s_opens (Rst_rf hw) (by omega) (by omega) (fun z => absurd z (by omega)) (fun _ v hv => v_if (fun z => absurd rfl z) (fun _ => v_some (bad v hv)))))) (fun _ => ff)))) (fun z => by rw [NMO_rh hL h0] at z; exfalso; omega)))))
/-- a term in brackets -/
theorem opd_in {c : Int → Int} {n d p : Int} {oT : Int → Int → WD → Option (Int × WD)} {oS : Int → Int → WD → Option (Int × WD)} {rE rO : WD → Option WD} (hL : LTR c n) (h0 : 0 ≤ p) (h1 : p ≤ n) (hd : 0 ≤ d ∧ d < 6)
    (hE : SUB c n (d + 1) (oT 0 (d + 1)) rE) (hs : CHr c n p = 40) : ∃ o, Ogd c n p 0 o ∧ CIo c n (fLa_readOperand_o (fLa_readInside_o oT) oS d) p o ∧ RIo c n d (fR_operand_o rE rO) p o := by
  have n120 := hL.2.1
  have er : RHr c n p = CHr c n p := (RH_iff hL h0 (by omega) (by omega)).mpr rfl
  have hn : NMO (CHr c n p) = -1 := NMO_no (by omega)
  obtain ⟨pn, _⟩ := CH_lt (c := c) (n := n) (p := p) (by omega)
  obtain ⟨o1, g1, c1, r1⟩ := hE (p + 1) (by omega) (by omega)
  have cc : ∀ (w : WD) (b : Int) (Q : Int → WD → Prop), Cpr c n w p b → WI (fLa_readInside_o oT (d + 1) (up w 6 6 (p + 1))) Q → WI (fLa_readOperand_o (fLa_readInside_o oT) oS d w) Q := by
    intro w b Q hw h
    unfold fLa_readOperand_o
    refine i_ci (s_next hL hw h0 (i_ci (s_isDigit (i_if (fun _ => i_ci (s_nameC (i_if (fun _ => i_jn (i_jn (i_if (fun _ => ?_) (fun z => absurd hs z)))) (fun z => by exfalso; omega)))) (fun z => absurd (DGO_0 (by omega)) z)))))
    refine i_if (fun z => by exfalso; omega) (fun _ => i_if (fun _ => i_bw (i_if (fun z => absurd hs z) (fun _ => i_ci ?_))) (fun z => by exfalso; omega))
    rw [hw.2.2.1, w32_i (x := p + 1) (by omega) (by omega), w32_i (x := d + 1) (by omega) (by omega)]
    exact i_mono h (fun r u hu => i_some hu)
  have rr : ∀ (w : WD) (L : Int) (P : WD → Prop), Rpr c n d w p L → (∀ v, Rst w L (d + 1) v (p + 1) [] → WV (rE v) (fun (u24 : WD) => WV (if (u24 46 18) < 0 then (ci (fR_looksOn u24) <| fun (r26 : Int) (u25 : WD) => if r26 = 41 then (bw (up u25 46 17 (w32 ((u25 46 17) + 1))) <| fun (u28 : WD) => bw (up u28 46 19 (w32 ((u28 46 19) - 1))) <| fun (u29 : WD) => some u29) else (cv (fR_wrong u25) <| fun (u30 : WD) => some u30)) else (some u24)) P)) → WV (fR_operand_o rE rO w) P := by
    intro w L P hw h
    unfold fR_operand_o
    exact v_ci (s_looks hL hw.1 hw.2.1 h0 (v_ci (s_nameR (v_if (fun _ => v_jn (v_if (fun z => by exfalso; omega) (fun _ => v_if (fun _ => v_if (fun z => by exfalso; omega) (fun _ => v_ci (s_opens (Rst_rf hw) (by omega) (by omega) (fun _ v hv => v_if (fun _ => v_cv (h v hv)) (fun z => by exfalso; omega)) (fun z => absurd z (by omega))))) (fun z => by exfalso; omega)))) (fun z => by rw [NMO_rh hL h0] at z; exfalso; omega)))))
  cases o1 with
  | inr x =>
    refine ⟨.inr (0, x.2), ⟨by have := g1.1; simp only; omega, g1.2.1, Or.inl rfl⟩, ?_, ?_⟩
    · intro w b Q hw b0 b1 h
      refine cc w b Q hw ?_
      unfold fLa_readInside_o
      refine i_ci (CI_use c1 hw (Cst_mv (Cst_rf hw)) b0 (by simp; omega) (fun r v hv => ?_))
      obtain ⟨v1, v2, v3⟩ := hv
      refine i_if (fun _ => i_some (h 0 v ⟨rfl, v2, v3⟩)) (fun hr => ?_)
      rcases g1.2.2 with z | ⟨z1, z2, z3⟩
      · omega
      have q0 : 0 ≤ x.2 := by have := g1.1; omega
      have e : CHr c n x.2 = c x.2 := if_pos z2
      exact i_ci (s_next hL (Cpr_fr hw v2 v3) q0 (i_if (fun z => by exfalso; omega) (fun _ => i_some (h 0 v ⟨rfl, v2, v3⟩))))
    · intro w L P hw L0 L1 h
      refine rr w L P hw (fun v hv => RI_use r1 hw hv L0 (by simp; omega) (fun z hz => ?_))
      have hz' : Rbd w L z x.2 (x.2 - p + 1) := Rbd_tr hv hz (by simp; omega)
      have q0 : 0 ≤ x.2 := by have := g1.1; omega
      exact v_if (fun y => by rw [hz'.2.2.1] at y; exfalso; omega) (fun _ => v_some (h z hz'))
  | inl x =>
    obtain ⟨q, t⟩ := x
    obtain ⟨a1, a2, a3, a4, a5⟩ := id g1
    simp only at a1 a2 a3
    have a3 := a3 trivial
    by_cases hq : CHr c n q = 41
    · obtain ⟨qn, _⟩ := CH_lt (c := c) (n := n) (p := q) (by omega)
      refine ⟨.inl (q + 1, t), ⟨by simp only; omega, by simp only; omega, fun _ => by simp only; omega, a4, a5⟩, ?_, ?_⟩
      · intro w b Q hw b0 b1 h
        refine cc w b Q hw ?_
        unfold fLa_readInside_o
        refine i_ci (CI_use c1 hw (Cst_mv (Cst_rf hw)) b0 (by simp; omega) (fun r v hv => ?_))
        obtain ⟨v1, v2⟩ := hv
        have v2' : Cst w b v q t := v2
        refine i_if (fun z => by exfalso; omega) (fun _ => i_ci (s_next hL (Cst_pr hw v2') (by omega) (i_if (fun _ => i_bw (i_some ?_)) (fun z => absurd hq z))))
        rw [v2'.2.1, w32_i (x := q + 1) (by omega) (by omega)]
        exact h 1 _ ⟨rfl, Cst_mv v2'⟩
      · intro w L P hw L0 L1 h
        refine rr w L P hw (fun v hv => RI_use r1 hw hv L0 (by simp; omega) (fun z hz => ?_))
        have hz' : Rst w L (d + 1) z q t := Rst_tr hv hz
        have eq : RHr c n q = 41 := (RH_iff hL (by omega) (by omega) (by omega)).mpr hq
        refine v_if (fun _ => v_ci (s_looks hL (Rtp_fr hw.1 hz'.1) hz'.2.1 (by omega) (v_if (fun _ => v_bw (v_bw (v_some ?_))) (fun y => absurd eq y)))) (fun y => by rw [hz'.2.2.1] at y; exfalso; omega)
        rw [hz'.2.1, w32_i (x := q + 1) (by omega) (by omega)]
        have e : (up z 46 17 (q + 1)) 46 19 = d + 1 := by rw [up_i (by omega)]; exact hz'.2.2.2.1
        rw [e, w32_i (x := d + 1 - 1) (by omega) (by omega), show d + 1 - 1 = d by omega]
        exact h _ (Rst_op (Rst_mv hz'))
    · refine ⟨.inr (0, q), ⟨by simp only; omega, a2, Or.inl rfl⟩, ?_, ?_⟩
      · intro w b Q hw b0 b1 h
        refine cc w b Q hw ?_
        unfold fLa_readInside_o
        refine i_ci (CI_use c1 hw (Cst_mv (Cst_rf hw)) b0 (by simp; omega) (fun r v hv => ?_))
        obtain ⟨v1, v2⟩ := hv
        have v2' : Cst w b v q t := v2
        exact i_if (fun z => by exfalso; omega) (fun _ => i_ci (s_next hL (Cst_pr hw v2') (by omega) (i_if (fun z => absurd z hq) (fun _ => i_some (h 0 v ⟨rfl, v2'.1, v2'.2.1⟩)))))
      · intro w L P hw L0 L1 h
        refine rr w L P hw (fun v hv => RI_use r1 hw hv L0 (by simp; omega) (fun z hz => ?_))
        have hz' : Rst w L (d + 1) z q t := Rst_tr hv hz
        have eq := RH_iff (k := 41) (p := q) hL (by omega) (by omega) (by omega)
        refine v_if (fun _ => v_ci (s_looks hL (Rtp_fr hw.1 hz'.1) hz'.2.1 (by omega) (v_if (fun y => absurd (eq.mp y) hq) (fun _ => v_cv (s_wrong hz' (fun z' hz2 => v_some (h z' ?_))))))) (fun y => by rw [hz'.2.2.1] at y; exfalso; omega)
        obtain ⟨y1, y2, y3, y4, y5⟩ := hz2
        exact ⟨y1, y2, y3, y4, by simp only; omega⟩
theorem sg_code {e : Int} (h : e = -1 ∨ e = -33) : TK e ∧ AV e = 0 ∧ ∀ r m, okp (e :: r) (m + 1) = okp r (m + 1) := by
  refine ⟨by unfold TK; omega, by unfold AV; omega, fun r m => ?_⟩
  show (if 0 ≤ e then _ else if e = -1 ∨ e = -33 then (if 1 ≤ m + 1 then okp r (m + 1) else none) else _) = _
  rw [if_neg (by omega), if_pos h, if_pos (by omega)]
/-- not, and minus -/
theorem opd_sg {c : Int → Int} {n d p : Int} {oI : Int → WD → Option (Int × WD)} {oO : Int → WD → Option (Int × WD)} {rE rO : WD → Option WD} (hL : LTR c n) (h0 : 0 ≤ p) (h1 : p ≤ n) (hd : 0 ≤ d ∧ d < 6)
    (hO : SUB c n (d + 1) (oO (d + 1)) rO) (hs : CHr c n p = 33 ∨ CHr c n p = 45) : ∃ o, Ogd c n p 0 o ∧ CIo c n (fLa_readOperand_o oI (fLa_readSigned_o oO) d) p o ∧ RIo c n d (fR_operand_o rE rO) p o := by
  have n120 := hL.2.1
  have er : RHr c n p = CHr c n p := (RH_iff hL h0 (by omega) (by omega)).mpr rfl
  have hn : NMO (CHr c n p) = -1 := NMO_no (by omega)
  obtain ⟨pn, _⟩ := CH_lt (c := c) (n := n) (p := p) (by omega)
  obtain ⟨o1, g1, c1, r1⟩ := hO (p + 1) (by omega) (by omega)
  obtain ⟨e, he, he'⟩ : ∃ e, (e = -1 ∨ e = -33) ∧ ((CHr c n p = 33 ∧ e = -33 ∧ AC e = 3) ∨ (CHr c n p = 45 ∧ e = -1 ∧ AC e = 4)) := by
    rcases hs with z | z
    · exact ⟨-33, Or.inr rfl, Or.inl ⟨z, rfl, by decide⟩⟩
    · exact ⟨-1, Or.inl rfl, Or.inr ⟨z, rfl, by decide⟩⟩
  obtain ⟨k1, k2, k3⟩ := sg_code he
  have cc : ∀ (w : WD) (b : Int) (Q : Int → WD → Prop), Cpr c n w p b → WI (oO (d + 1) (up w 6 6 (p + 1))) (fun r2 u1 => WI (if r2 ≠ 0 then (cv (fLa_emit e u1) <| fun (u6 : WD) => some ((1 : Int), u6)) else (some (0, u1))) Q) → WI (fLa_readOperand_o oI (fLa_readSigned_o oO) d w) Q := by
    intro w b Q hw h
    unfold fLa_readOperand_o fLa_readSigned_o
    have fin : WI (if (1 : Int) = 0 then (some ((0 : Int), w)) else (if d < 6 then (bw (up w 6 6 (w32 ((w 6 6) + 1))) <| fun (u12 : WD) => if CHr c n p ≠ 40 then (ci ((fun (a1 : Int) (a2 : Int) (w : WD) => ci (oO a2 w) <| fun (r2 : Int) (u1 : WD) => if r2 ≠ 0 then (jn (β := Int → WD → Option (Int × WD)) (fun (s4 : Int) (u5 : WD) => cv (fLa_emit s4 u5) <| fun (u6 : WD) => some (1, u6)) <| fun J7 => if a1 ≠ 33 then (J7 (-1) u1) else (J7 (-33) u1)) else (some (0, u1))) (CHr c n p) (w32 (d + 1)) u12) <| fun (r14 : Int) (u13 : WD) => some (r14, u13)) else (ci (oI (w32 (d + 1)) u12) <| fun (r17 : Int) (u16 : WD) => some (r17, u16))) else (some (0, w)))) Q := by
      refine i_if (fun z => by exfalso; omega) (fun _ => i_if (fun _ => i_bw (i_if (fun _ => i_ci ?_) (fun z => by exfalso; omega))) (fun z => by exfalso; omega))
      rw [hw.2.2.1, w32_i (x := p + 1) (by omega) (by omega), w32_i (x := d + 1) (by omega) (by omega)]
      refine i_ci (i_mono h (fun r u hu => ?_))
      by_cases hr : r ≠ 0
      · rw [if_pos hr] at hu ⊢
        refine i_jn (i_if (fun z => ?_) (fun z => ?_))
        · rw [show e = -1 by omega] at hu
          exact i_mono hu (fun r u hu => i_some hu)
        · rw [show e = -33 by omega] at hu
          exact i_mono hu (fun r u hu => i_some hu)
      · rw [if_neg hr] at hu ⊢
        exact i_mono hu (fun r u hu => i_some hu)
    exact i_ci (s_next hL hw h0 (i_ci (s_isDigit (i_if (fun _ => i_ci (s_nameC (i_if (fun _ => i_jn (i_jn (i_if (fun z => by exfalso; omega) (fun _ => i_if (fun _ => fin) (fun _ => i_if (fun z => by exfalso; omega) (fun _ => fin)))))) (fun z => by exfalso; omega)))) (fun z => absurd (DGO_0 (by omega)) z)))))
  have rr : ∀ (w : WD) (L : Int) (P : WD → Prop), Rpr c n d w p L → (∀ v, Rst w L (d + 1) v (p + 1) [] → WV (rO v) (fun (u11 : WD) => WV (fR_addStep (AC e) 0 (up u11 46 19 (w32 ((u11 46 19) - 1)))) P)) → WV (fR_operand_o rE rO w) P := by
    intro w L P hw h
    unfold fR_operand_o
    have ff : WV (ci (fR_opens w) <| fun (r9 : Int) (u8 : WD) => if r9 ≠ 0 then (cv (rO u8) <| fun (u11 : WD) => bw (up u11 46 19 (w32 ((u11 46 19) - 1))) <| fun (u12 : WD) => jn (β := Int → WD → Option WD) (fun (s13 : Int) (u14 : WD) => cv (fR_addStep s13 0 u14) <| fun (u15 : WD) => some u15) <| fun J16 => if RHr c n p ≠ 33 then (J16 4 u12) else (J16 3 u12)) else (some u8)) P := by
      refine v_ci (s_opens (Rst_rf hw) (by omega) (by omega) (fun _ v hv => v_if (fun _ => v_cv (v_mono (h v hv) (fun u hu => v_bw (v_jn ?_)))) (fun z => by exfalso; omega)) (fun z => absurd z (by omega)))
      refine v_if (fun z => ?_) (fun z => ?_)
      · rw [show AC e = 4 by omega] at hu
        exact v_cv (v_mono hu (fun u hu => v_some hu))
      · rw [show AC e = 3 by omega] at hu
        exact v_cv (v_mono hu (fun u hu => v_some hu))
    exact v_ci (s_looks hL hw.1 hw.2.1 h0 (v_ci (s_nameR (v_if (fun _ => v_jn (v_if (fun _ => ff) (fun _ => v_if (fun z => by exfalso; omega) (fun _ => ff)))) (fun z => by rw [NMO_rh hL h0] at z; exfalso; omega)))))
  cases o1 with
  | inr x =>
    refine ⟨.inr x, ⟨by have := g1.1; omega, g1.2.1, g1.2.2⟩, ?_, ?_⟩
    · intro w b Q hw b0 b1 h
      refine cc w b Q hw (CI_use c1 hw (Cst_mv (Cst_rf hw)) b0 (by simp; omega) (fun r v hv => ?_))
      obtain ⟨v1, v2, v3⟩ := hv
      refine i_if (fun hr => i_cv (s_emitB (fun v' e1 e2 => i_some (h 1 v' ⟨?_, v2.tr e1, by rw [e2, v3]⟩)))) (fun hr => i_some (h 0 v ⟨by omega, v2, v3⟩))
      rcases g1.2.2 with z | ⟨z1, z2, z3⟩ <;> omega
    · intro w L P hw L0 L1 h
      refine rr w L P hw (fun v hv => RI_use r1 hw hv L0 (by simp; omega) (fun z hz => ?_))
      have hz' : Rbd w L z x.2 (x.2 - p) := Rbd_tr hv hz (by simp; omega)
      have := g1.2.1
      exact s_layB (Rbd_op hz') L0 (by omega) (fun z' hz2 => h z' hz2)
  | inl x =>
    obtain ⟨q, t⟩ := x
    obtain ⟨a1, a2, a3, a4, a5⟩ := id g1
    simp only at a1 a2 a3 a4 a5
    have a3 := a3 trivial
    refine ⟨.inl (q, t ++ [e]), ⟨by simp; omega, a2, fun _ => by simp only; omega, TKS_app a4 (TKS_one k1), fun r m => ?_⟩, ?_, ?_⟩
    · show okp (t ++ [e] ++ r) (m + 0) = _
      rw [List.append_assoc, a5]
      exact k3 r m
    · intro w b Q hw b0 b1 h
      refine cc w b Q hw (CI_use c1 hw (Cst_mv (Cst_rf hw)) b0 (by simp; omega) (fun r v hv => ?_))
      obtain ⟨v1, v2⟩ := hv
      have v2' : Cst w b v q t := v2
      exact i_if (fun hr => i_cv (s_emitC v2' b0 (by omega) (fun v' hv' => i_some (h 1 v' ⟨rfl, hv'⟩)))) (fun hr => by exfalso; omega)
    · intro w L P hw L0 L1 h
      refine rr w L P hw (fun v hv => RI_use r1 hw hv L0 (by simp; omega) (fun z hz => ?_))
      have hz' : Rst w L (d + 1) z q t := Rst_tr hv hz
      rw [hz'.2.2.2.1, w32_i (x := d + 1 - 1) (by omega) (by omega), show d + 1 - 1 = d by omega]
      exact s_layC (Rst_op hz') L0 (by omega) (by omega) (by omega) rfl k2 (fun z' hz2 => h z' hz2)
