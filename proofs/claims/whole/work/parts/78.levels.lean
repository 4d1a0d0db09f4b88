/-! THE TEXT OF A LAW: terms joined by signs, level by level -/
def LVO (a : Int) : Int := if a = 37 ∨ a = 42 ∨ a = 47 then 4 else if a = 38 then 1 else if a = 43 ∨ a = 45 then 3 else if a = 60 ∨ a = 61 ∨ a = 62 then 2 else if a = 124 then 0 else -1
theorem s_levelOf {a : Int} {w : WD} {Q : Int → WD → Prop} (h : Q (LVO a) w) : WI (fLa_levelOf a w) Q := by
  unfold LVO at h
  (repeat' (first | (with_reducible refine i_some ?_) | (with_reducible refine v_some ?_) | (with_reducible refine i_ci ?_) | (with_reducible refine i_cv ?_) | (with_reducible refine v_ci ?_) | (with_reducible refine v_cv ?_) | (with_reducible refine i_bv ?_) | (with_reducible refine v_bv ?_) | (with_reducible refine i_bw ?_) | (with_reducible refine v_bw ?_) | (with_reducible refine i_jn ?_) | (with_reducible refine v_jn ?_) | (with_reducible refine i_ck ?_ ?_) | (with_reducible refine v_ck ?_ ?_) | ((with_reducible refine i_if (fun hc => ?_) (fun hc => ?_)) <;> (try simp (disch := omega) only [not_true_eq_false, not_false_eq_true, true_and, and_true, up_r, up_k, ur_s, ur_e, ur_i, cp_k, w32_i, w64_i, w8_i] at hc) <;> (try (exfalso; omega))) | ((with_reducible refine v_if (fun hc => ?_) (fun hc => ?_)) <;> (try simp (disch := omega) only [not_true_eq_false, not_false_eq_true, true_and, and_true, up_r, up_k, ur_s, ur_e, ur_i, cp_k, w32_i, w64_i, w8_i] at hc) <;> (try (exfalso; omega))) | unfold fLa_levelOf)) <;> (repeat' (first | rw [if_pos (by assumption)] at h | rw [if_neg (by assumption)] at h)) <;> exact h
theorem LVO_op {a : Int} (h : 0 ≤ LVO a) : a = 37 ∨ a = 42 ∨ a = 47 ∨ a = 38 ∨ a = 43 ∨ a = 45 ∨ a = 60 ∨ a = 61 ∨ a = 62 ∨ a = 124 := by
  unfold LVO at h
  omega
theorem LVO_dig {a : Int} (h : 48 ≤ a ∧ a ≤ 57) : LVO a = -1 := by
  unfold LVO
  omega
theorem op_code {a : Int} (h : 0 ≤ LVO a) : 0 ≤ a ∧ a < 128 ∧ TK (-a) ∧ AC (-a) = a ∧ AV (-a) = 0 ∧ ∀ r m, okp (-a :: r) (m + 2) = okp r (m + 1) := by
  have h' := LVO_op h
  refine ⟨by omega, by omega, by unfold TK; omega, by unfold AC; omega, by unfold AV; omega, fun r m => ?_⟩
  show (if 0 ≤ -a then _ else if -a = -1 ∨ -a = -33 then _ else if 2 ≤ m + 2 then okp r (m + 2 - 1) else none) = _
  rw [if_neg (by omega), if_neg (by omega), if_pos (by omega)]
  rfl
theorem TKS_app {s t : List Int} (h : TKS s) (h' : TKS t) : TKS (s ++ t) := fun c hc => by
  rcases List.mem_append.mp hc with q | q
  · exact h c q
  · exact h' c q
theorem TKS_one {e : Int} (h : TK e) : TKS [e] := fun c hc => by
  rw [List.mem_singleton.mp hc]
  exact h
theorem TKS_nil : TKS [] := fun c hc => absurd hc List.not_mem_nil
/-- what follows a sign, the sign's code, and the rest -/
theorem Ogd_op {c : Int → Int} {n p q e : Int} {t : List Int} {o : Ous} (h : Ogd c n (p + 1) 0 (.inl (q, t))) (ho : Ogd c n q 1 o) (he : TK e) (hk : ∀ r m, okp (e :: r) (m + 2) = okp r (m + 1)) : Ogd c n p 1 (oAp (t ++ [e]) o) := by
  obtain ⟨a1, a2, a3, a4, a5⟩ := h
  cases o with
  | inr x =>
    obtain ⟨b1, b2, b3⟩ := ho
    exact ⟨show p ≤ x.2 by simp only at a1; omega, b2, b3⟩
  | inl x =>
    obtain ⟨b1, b2, b3, b4, b5⟩ := ho
    simp only at a1 a2 a3 a4 a5
    refine ⟨?_, b2, fun z => absurd z (by omega), TKS_app (TKS_app a4 (TKS_one he)) b4, fun r m => ?_⟩
    · show p + ((t ++ [e] ++ x.2).length : Int) ≤ x.1
      simp only [List.length_append, List.length_cons, List.length_nil]
      omega
    · show okp (t ++ [e] ++ x.2 ++ r) (m + 1) = _
      rw [List.append_assoc, List.append_assoc]
      have := a5 ([e] ++ (x.2 ++ r)) (m + 1)
      rw [Nat.add_zero] at this
      rw [this]
      show okp (e :: (x.2 ++ r)) (m + 2) = _
      rw [hk, b5]
/-- a term, and the rest -/
theorem Ogd_tm {c : Int → Int} {n p q : Int} {t : List Int} {o : Ous} (h : Ogd c n p 0 (.inl (q, t))) (ho : Ogd c n q 1 o) : Ogd c n p 0 (oAp t o) := by
  obtain ⟨a1, a2, a3, a4, a5⟩ := h
  have a3 := a3 rfl
  cases o with
  | inr x =>
    obtain ⟨b1, b2, b3⟩ := ho
    exact ⟨show p ≤ x.2 by simp only at a1; omega, b2, b3⟩
  | inl x =>
    obtain ⟨b1, b2, b3, b4, b5⟩ := ho
    simp only at a1 a2 a3 a4 a5
    refine ⟨?_, b2, fun z => ?_, TKS_app a4 b4, fun r m => ?_⟩
    · show p + ((t ++ x.2).length : Int) ≤ x.1
      simp only [List.length_append]
      omega
    · show p < x.1
      omega
    · show okp (t ++ x.2 ++ r) (m + 0) = _
      rw [List.append_assoc, a5, b5]
/-- the reference's loop over the signs of a level -/
def RLP (c : Int → Int) (n l : Int) (rT : WD → Option WD) (rl : Nat → WD → Option WD) : Prop := ∀ (f : Nat) (u : WD) (P : WD → Prop),
  (0 ≤ u 46 18 → P u → WV (rl (f + 1) u) P) ∧
  ∀ q, u 46 18 < 0 → Rtp c n u → u 46 17 = q → 0 ≤ q → q ≤ n →
    (LVO (CHr c n q) ≠ l → P u → WV (rl (f + 1) u) P) ∧
    (LVO (CHr c n q) = l → WV (rT (up u 46 17 (q + 1))) (fun v => WV (fR_addStep (CHr c n q) 0 v) (fun v' => WV (rl f v') P)) → WV (rl (f + 1) u) P)
def SUB (c : Int → Int) (n d : Int) (cT : WD → Option (Int × WD)) (rT : WD → Option WD) : Prop := ∀ p, 0 ≤ p → p ≤ n → ∃ o, Ogd c n p 0 o ∧ CIo c n cT p o ∧ RIo c n d rT p o
theorem l_lev {c : Int → Int} {n l d : Int} {oT : Int → Int → WD → Option (Int × WD)} {oO : Int → WD → Option (Int × WD)} {rT : WD → Option WD} {rl : Nat → WD → Option WD} (hL : LTR c n) (hl : 0 ≤ l ∧ l ≤ 4 ∧ l ≠ 2)
    (hT : SUB c n d (oT (w32 (l + 1)) d) rT) (hr : RLP c n l rT rl) : ∀ (m : Nat) (p : Int), n - p < m → 0 ≤ p → p ≤ n →
    ∃ o, Ogd c n p 1 o ∧ (∀ (f : Nat) (x : Int), n - p < f → 0 ≤ x → x < p → CIo c n (fLa_readTerm_o_l26 oT oO l d f x) p o) ∧ ∀ f : Nat, n - p < f → RIo c n d (rl f) p o
  | 0, p, hm, h0, h1 => absurd hm (by omega)
  | m + 1, p, hm, h0, h1 => by
    have n120 := hL.2.1
    by_cases hop : LVO (CHr c n p) = l
    · obtain ⟨k0, k1, k2, k3, k4, k5⟩ := op_code (a := CHr c n p) (by omega)
      obtain ⟨pn, _⟩ := CH_lt k0
      obtain ⟨o1, g1, c1, r1⟩ := hT (p + 1) (by omega) (by omega)
      cases o1 with
      | inr x =>
        refine ⟨.inr x, ⟨by have := g1.1; omega, g1.2.1, g1.2.2⟩, fun f x' hf x0 x1 => ?_, fun f hf => ?_⟩
        · intro w b Q hw b0 b1 h
          obtain ⟨f, rfl⟩ : ∃ g, f = g + 1 := ⟨f - 1, by omega⟩
          show WI (fLa_readTerm_o_l26_b (fLa_readTerm_o_l26 oT oO l d f) oT oO l d x' w) Q
          unfold fLa_readTerm_o_l26_b
          refine i_if (fun q => by exfalso; omega) (fun _ => i_ci (s_next hL hw h0 (i_ci (s_levelOf (i_if (fun q => absurd hop q) (fun _ => i_ci (s_next hL hw h0 (i_bw ?_))))))))
          have e6 : w32 (w 6 6 + 1) = p + 1 := by rw [hw.2.2.1, w32_i (by omega) (by omega)]
          rw [e6]
          refine i_ci (CI_use c1 hw (Cst_mv (Cst_rf hw)) b0 (by simp; omega) (fun r v hv => ?_))
          obtain ⟨v1, v2, v3⟩ := hv
          refine i_if (fun hs => i_cv (s_emitB (fun v' e1 e2 => ?_))) (fun hs => i_some (h _ _ ⟨by omega, v2, v3⟩))
          rcases g1.2.2 with z | ⟨z1, z2, z3⟩
          · omega
          have hw' : Cpr c n v' x.2 (v' 6 7) := by
            have ee := v2.tr e1
            exact ⟨by rw [ee.2 5 (by omega) (by omega)]; exact hw.1, by rw [ee.1 7 (by omega) (by omega)]; exact hw.2.1, by rw [e2, v3], rfl⟩
          have q0 : 0 ≤ x.2 := by have := g1.1; omega
          refine i_if (fun _ => i_bv ?_) (fun z => by exfalso; omega)
          obtain ⟨f, rfl⟩ : ∃ g, f = g + 1 := ⟨f - 1, by omega⟩
          show WI (fLa_readTerm_o_l26_b (fLa_readTerm_o_l26 oT oO l d f) oT oO l d _ v') Q
          unfold fLa_readTerm_o_l26_b
          have done : Q 1 v' := h _ _ ⟨z1.symm, v2.tr e1, by rw [e2, v3]⟩
          refine i_if (fun _ => i_some done) (fun _ => i_ci (s_next hL hw' q0 (i_ci (s_levelOf (i_if (fun _ => i_some done) (fun z => ?_))))))
          exfalso
          have : CHr c n x.2 = c x.2 := if_pos z2
          rw [this, LVO_dig z3] at z
          omega
        · intro w L P hw L0 L1 h
          obtain ⟨f, rfl⟩ : ∃ g, f = g + 1 := ⟨f - 1, by omega⟩
          refine ((hr f w P).2 p (by have := hw.2.2.1; omega) hw.1 hw.2.1 h0 h1).2 hop ?_
          refine RI_use r1 hw (Rst_mv (Rst_rf hw)) L0 (by simp; omega) (fun v hv => ?_)
          have hv' : Rbd w L v x.2 (x.2 - (p + 1) + 1) := Rbd_tr (Rst_mv (q' := p + 1) (Rst_rf hw)) hv (by simp)
          have := g1.2.1
          refine s_layB hv' L0 (by omega) (fun v' hv2 => ?_)
          obtain ⟨f, rfl⟩ : ∃ g, f = g + 1 := ⟨f - 1, by omega⟩
          have q0 : 0 ≤ x.2 := by have := g1.1; omega
          refine (hr f v' P).1 (by rw [hv2.2.2.1]; exact q0) (h _ ?_)
          obtain ⟨y1, y2, y3, y4, y5⟩ := hv2
          exact ⟨y1, y2, y3, y4, by omega⟩
      | inl x =>
        obtain ⟨q, t⟩ := x
        obtain ⟨a1, a2, a3, a4, a5⟩ := id g1
        simp only at a1 a2 a3
        have a3 := a3 trivial
        obtain ⟨o2, g2, c2, r2⟩ := l_lev hL hl hT hr m q (by omega) (by omega) a2
        refine ⟨oAp (t ++ [-(CHr c n p)]) o2, Ogd_op g1 g2 k2 k5, fun f x' hf x0 x1 => ?_, fun f hf => ?_⟩
        · intro w b Q hw b0 b1 h
          obtain ⟨f, rfl⟩ : ∃ g, f = g + 1 := ⟨f - 1, by omega⟩
          show WI (fLa_readTerm_o_l26_b (fLa_readTerm_o_l26 oT oO l d f) oT oO l d x' w) Q
          unfold fLa_readTerm_o_l26_b
          refine i_if (fun q => by exfalso; omega) (fun _ => i_ci (s_next hL hw h0 (i_ci (s_levelOf (i_if (fun q => absurd hop q) (fun _ => i_ci (s_next hL hw h0 (i_bw ?_))))))))
          have e6 : w32 (w 6 6 + 1) = p + 1 := by rw [hw.2.2.1, w32_i (by omega) (by omega)]
          rw [e6]
          refine i_ci (CI_use c1 hw (Cst_mv (Cst_rf hw)) b0 (by simp; omega) (fun r v hv => ?_))
          obtain ⟨v1, v2⟩ := hv
          have v2' : Cst w b v q t := v2
          refine i_if (fun hs => i_cv ?_) (fun hs => by exfalso; omega)
          rw [w32_i (x := -(CHr c n p)) (by omega) (by omega)]
          refine s_emitC v2' b0 (by omega) (fun v' hv' => ?_)
          refine i_if (fun _ => i_bv ?_) (fun z => by exfalso; omega)
          rw [w32_i (x := x' + 1) (by omega) (by omega)]
          exact CI_use (c2 f (x' + 1) (by omega) (by omega) (by omega)) hw hv' b0 (by simp; omega) h
        · intro w L P hw L0 L1 h
          obtain ⟨f, rfl⟩ : ∃ g, f = g + 1 := ⟨f - 1, by omega⟩
          refine ((hr f w P).2 p (by have := hw.2.2.1; omega) hw.1 hw.2.1 h0 h1).2 hop ?_
          refine RI_use r1 hw (Rst_mv (Rst_rf hw)) L0 (by simp; omega) (fun v hv => ?_)
          have hv' : Rst w L d v q t := Rst_tr (Rst_mv (q' := p + 1) (Rst_rf hw)) hv
          refine s_layC hv' L0 (by omega) k0 k1 k3 k4 (fun v' hv2 => ?_)
          exact RI_use (r2 f (by omega)) hw hv2 L0 (by simp; omega) (fun u hu => h u (Rpo_tr hv2 (by simp; omega) hu))
    · refine ⟨.inl (p, []), ⟨by simp, h1, fun z => absurd z (by omega), TKS_nil, fun r m => rfl⟩, fun f x' hf x0 x1 => ?_, fun f hf => ?_⟩
      · intro w b Q hw b0 b1 h
        obtain ⟨f, rfl⟩ : ∃ g, f = g + 1 := ⟨f - 1, by omega⟩
        show WI (fLa_readTerm_o_l26_b (fLa_readTerm_o_l26 oT oO l d f) oT oO l d x' w) Q
        unfold fLa_readTerm_o_l26_b
        exact i_if (fun q => by exfalso; omega) (fun _ => i_ci (s_next hL hw h0 (i_ci (s_levelOf (i_if (fun _ => i_some (h 1 w ⟨rfl, Cst_rf hw⟩)) (fun q => by exfalso; omega))))))
      · intro w L P hw L0 L1 h
        obtain ⟨f, rfl⟩ : ∃ g, f = g + 1 := ⟨f - 1, by omega⟩
        exact ((hr f w P).2 p (by have := hw.2.2.1; omega) hw.1 hw.2.1 h0 h1).1 hop (h w (Rst_rf hw))
theorem Cpr_fr {c : Int → Int} {n p q b : Int} {w u : WD} (h : Cpr c n w p b) (e : Cfr w u) (eq : u 6 6 = q) : Cpr c n u q (u 6 7) :=
  ⟨by rw [e.2 5 (by omega) (by omega)]; exact h.1, by rw [e.1 7 (by omega) (by omega)]; exact h.2.1, eq, rfl⟩
/-- a term of the level above, and what follows it -/
theorem lev_wrap {c : Int → Int} {n d : Int} {cT cl : WD → Option (Int × WD)} {rT rc : WD → Option WD} (hL : LTR c n) (hT : SUB c n d cT rT)
    (ht : ∀ q, 0 < q → q ≤ n → ∃ o, Ogd c n q 1 o ∧ CIo c n cl q o ∧ RIo c n d rc q o)
    (hd : ∀ (w : WD) (q b : Int) (Q : Int → WD → Prop), Cpr c n w q b → 0 ≤ q → q < n → (48 ≤ c q ∧ c q ≤ 57) → Q 1 w → WI (cl w) Q)
    (hb : ∀ (u : WD) (P : WD → Prop), Rtp c n u → 0 ≤ u 46 17 → 0 ≤ u 46 18 → P u → WV (rc u) P) :
    SUB c n d (fun w => ci (cT w) <| fun (r : Int) (u : WD) => if r ≠ 0 then cl u else some (0, u)) (fun w => cv (rT w) rc) := by
  intro p h0 h1
  obtain ⟨o1, g1, c1, r1⟩ := hT p h0 h1
  cases o1 with
  | inr x =>
    refine ⟨.inr x, g1, ?_, ?_⟩
    · intro w b Q hw b0 b1 h
      refine i_ci (c1 w b _ hw b0 b1 (fun r u hu => ?_))
      obtain ⟨u1, u2, u3⟩ := id hu
      rcases g1.2.2 with z | ⟨z1, z2, z3⟩
      · exact i_if (fun q => by exfalso; omega) (fun _ => i_some (h 0 u ⟨z.symm, u2, u3⟩))
      · exact i_if (fun _ => hd u x.2 _ _ (Cpr_fr hw u2 u3) (by have := g1.1; omega) z2 z3 (h 1 u ⟨z1.symm, u2, u3⟩)) (fun q => by exfalso; omega)
    · intro w L P hw L0 L1 h
      refine v_cv (r1 w L _ hw L0 L1 (fun u hu => ?_))
      have q0 : 0 ≤ x.2 := by have := g1.1; omega
      exact hb u P (Rtp_fr hw.1 hu.1) (by rw [hu.2.1]; exact q0) (by rw [hu.2.2.1]; exact q0) (h u hu)
  | inl x =>
    obtain ⟨q, t⟩ := x
    obtain ⟨a1, a2, a3, a4, a5⟩ := id g1
    simp only at a1 a2 a3
    have a3 := a3 trivial
    obtain ⟨o2, g2, c2, r2⟩ := ht q (by omega) a2
    refine ⟨oAp t o2, Ogd_tm g1 g2, ?_, ?_⟩
    · intro w b Q hw b0 b1 h
      refine i_ci (c1 w b _ hw b0 b1 (fun r u hu => ?_))
      obtain ⟨u1, u2⟩ := hu
      have u2' : Cst w b u q t := u2
      exact i_if (fun _ => CI_use c2 hw u2' b0 (by omega) h) (fun z => by exfalso; omega)
    · intro w L P hw L0 L1 h
      refine v_cv (r1 w L _ hw L0 L1 (fun u hu => ?_))
      have hu' : Rst w L d u q t := hu
      exact RI_use r2 hw hu' L0 (by omega) (fun v hv => h v (Rpo_tr hu' (by omega) hv))
theorem l_dig {c : Int → Int} {n l d : Int} {oT : Int → Int → WD → Option (Int × WD)} {oO : Int → WD → Option (Int × WD)} (hL : LTR c n) (hl : 0 ≤ l) (w : WD) (q b : Int) (Q : Int → WD → Prop) (hw : Cpr c n w q b) (h0 : 0 ≤ q) (h1 : q < n) (h2 : 48 ≤ c q ∧ c q ≤ 57) (h : Q 1 w) : WI (fLa_readTerm_o_l26 oT oO l d FU 0 w) Q := by
  show WI (fLa_readTerm_o_l26_b (fLa_readTerm_o_l26 oT oO l d 1999) oT oO l d 0 w) Q
  unfold fLa_readTerm_o_l26_b
  refine i_if (fun _ => i_some h) (fun _ => i_ci (s_next hL hw h0 (i_ci (s_levelOf (i_if (fun _ => i_some h) (fun z => ?_))))))
  exfalso
  have : CHr c n q = c q := if_pos h1
  rw [this, LVO_dig h2] at z
  omega
theorem lev_eq {oT : Int → Int → WD → Option (Int × WD)} {oO : Int → WD → Option (Int × WD)} {l d : Int} (hl : l < 5) : fLa_readTerm_o oT oO l d = (fun w => ci (oT (w32 (l + 1)) d w) <| fun (r : Int) (u : WD) => if r ≠ 0 then fLa_readTerm_o_l26 oT oO l d FU 0 u else some (0, u)) := by
  funext w
  unfold fLa_readTerm_o
  rw [if_pos hl]
/-- a level of signs one after another -/
theorem lev {c : Int → Int} {n l d : Int} {oT : Int → Int → WD → Option (Int × WD)} {oO : Int → WD → Option (Int × WD)} {rT : WD → Option WD} {rl : Nat → WD → Option WD} (hL : LTR c n) (hl : 0 ≤ l ∧ l ≤ 4 ∧ l ≠ 2)
    (hT : SUB c n d (oT (w32 (l + 1)) d) rT) (hr : RLP c n l rT rl) : SUB c n d (fLa_readTerm_o oT oO l d) (fun w => cv (rT w) (rl FU)) := by
  rw [lev_eq (by omega)]
  have n120 := hL.2.1
  refine lev_wrap hL hT (fun q q0 q1 => ?_) (l_dig hL hl.1) (fun u P _ _ hf h => (hr 1999 u P).1 hf h)
  obtain ⟨o, g, c1, r1⟩ := l_lev (oO := oO) hL hl hT hr ((n - q).toNat + 1) q (by omega) (by omega) q1
  exact ⟨o, g, c1 FU 0 (by unfold FU; omega) (by omega) q0, r1 FU (by unfold FU; omega)⟩
/-- the level of one comparison at most -/
def RCP (c : Int → Int) (n : Int) (rT rc : WD → Option WD) : Prop := ∀ (u : WD) (P : WD → Prop) (q : Int), Rtp c n u → u 46 17 = q → 0 ≤ q →
  (0 ≤ u 46 18 → P u → WV (rc u) P) ∧ (u 46 18 < 0 → q ≤ n → (LVO (CHr c n q) ≠ 2 → P u → WV (rc u) P) ∧
    (LVO (CHr c n q) = 2 → WV (rT (up u 46 17 (q + 1))) (fun v => WV (fR_addStep (CHr c n q) 0 v) P) → WV (rc u) P))
theorem lev2 {c : Int → Int} {n d : Int} {oT : Int → Int → WD → Option (Int × WD)} {oO : Int → WD → Option (Int × WD)} {rT rc : WD → Option WD} (hL : LTR c n)
    (hT : SUB c n d (oT (w32 (2 + 1)) d) rT) (hr : RCP c n rT rc) : SUB c n d (fLa_readTerm_o oT oO 2 d) (fun w => cv (rT w) rc) := by
  rw [lev_eq (by omega)]
  have n120 := hL.2.1
  refine lev_wrap hL hT (fun p q0 h1 => ?_) (l_dig hL (by omega)) (fun u P t h1 hf h => (hr u P _ t rfl h1).1 hf h)
  have h0 : 0 ≤ p := by omega
  by_cases hop : LVO (CHr c n p) = 2
  · obtain ⟨k0, k1, k2, k3, k4, k5⟩ := op_code (a := CHr c n p) (by omega)
    obtain ⟨pn, _⟩ := CH_lt k0
    obtain ⟨o1, g1, c1, r1⟩ := hT (p + 1) (by omega) (by omega)
    cases o1 with
    | inr x =>
      refine ⟨.inr x, ⟨by have := g1.1; omega, g1.2.1, g1.2.2⟩, ?_, ?_⟩
      · intro w b Q hw b0 b1 h
        show WI (fLa_readTerm_o_l26_b (fLa_readTerm_o_l26 oT oO 2 d 1999) oT oO 2 d 0 w) Q
        unfold fLa_readTerm_o_l26_b
        refine i_if (fun q => by exfalso; omega) (fun _ => i_ci (s_next hL hw h0 (i_ci (s_levelOf (i_if (fun q => absurd hop q) (fun _ => i_ci (s_next hL hw h0 (i_bw ?_))))))))
        have e6 : w32 (w 6 6 + 1) = p + 1 := by rw [hw.2.2.1, w32_i (by omega) (by omega)]
        rw [e6]
        refine i_ci (CI_use c1 hw (Cst_mv (Cst_rf hw)) b0 (by simp; omega) (fun r v hv => ?_))
        obtain ⟨v1, v2, v3⟩ := hv
        refine i_if (fun hs => i_cv (s_emitB (fun v' e1 e2 => ?_))) (fun hs => i_some (h _ _ ⟨by omega, v2, v3⟩))
        rcases g1.2.2 with z | ⟨z1, z2, z3⟩
        · omega
        exact i_if (fun z => by exfalso; omega) (fun _ => i_some (h _ _ ⟨z1.symm, v2.tr e1, by rw [e2, v3]⟩))
      · intro w L P hw L0 L1 h
        refine ((hr w P p hw.1 hw.2.1 h0).2 (by have := hw.2.2.1; omega) h1).2 hop ?_
        refine RI_use r1 hw (Rst_mv (Rst_rf hw)) L0 (by simp; omega) (fun v hv => ?_)
        have hv' : Rbd w L v x.2 (x.2 - (p + 1) + 1) := Rbd_tr (Rst_mv (q' := p + 1) (Rst_rf hw)) hv (by simp)
        have := g1.2.1
        refine s_layB hv' L0 (by omega) (fun v' hv2 => h _ ?_)
        obtain ⟨y1, y2, y3, y4, y5⟩ := hv2
        exact ⟨y1, y2, y3, y4, by omega⟩
    | inl x =>
      obtain ⟨q, t⟩ := x
      obtain ⟨a1, a2, a3, a4, a5⟩ := id g1
      simp only at a1 a2 a3
      have a3 := a3 trivial
      have g2 : Ogd c n q 1 (.inl (q, [])) := ⟨by simp, a2, fun z => absurd z (by omega), TKS_nil, fun r m => rfl⟩
      refine ⟨oAp (t ++ [-(CHr c n p)]) (.inl (q, [])), Ogd_op g1 g2 k2 k5, ?_, ?_⟩
      · intro w b Q hw b0 b1 h
        show WI (fLa_readTerm_o_l26_b (fLa_readTerm_o_l26 oT oO 2 d 1999) oT oO 2 d 0 w) Q
        unfold fLa_readTerm_o_l26_b
        refine i_if (fun q => by exfalso; omega) (fun _ => i_ci (s_next hL hw h0 (i_ci (s_levelOf (i_if (fun q => absurd hop q) (fun _ => i_ci (s_next hL hw h0 (i_bw ?_))))))))
        have e6 : w32 (w 6 6 + 1) = p + 1 := by rw [hw.2.2.1, w32_i (by omega) (by omega)]
        rw [e6]
        refine i_ci (CI_use c1 hw (Cst_mv (Cst_rf hw)) b0 (by simp; omega) (fun r v hv => ?_))
        obtain ⟨v1, v2⟩ := hv
        have v2' : Cst w b v q t := v2
        refine i_if (fun hs => i_cv ?_) (fun hs => by exfalso; omega)
        rw [w32_i (x := -(CHr c n p)) (by omega) (by omega)]
        refine s_emitC v2' b0 (by omega) (fun v' hv' => ?_)
        refine i_if (fun z => by exfalso; omega) (fun _ => i_some (h 1 v' ⟨rfl, ?_⟩))
        show Cst w b v' q (t ++ [-(CHr c n p)] ++ [])
        rw [List.append_nil]
        exact hv'
      · intro w L P hw L0 L1 h
        refine ((hr w P p hw.1 hw.2.1 h0).2 (by have := hw.2.2.1; omega) h1).2 hop ?_
        refine RI_use r1 hw (Rst_mv (Rst_rf hw)) L0 (by simp; omega) (fun v hv => ?_)
        have hv' : Rst w L d v q t := Rst_tr (Rst_mv (q' := p + 1) (Rst_rf hw)) hv
        refine s_layC hv' L0 (by omega) k0 k1 k3 k4 (fun v' hv2 => h v' ?_)
        show Rst w L d v' q (t ++ [-(CHr c n p)] ++ [])
        rw [List.append_nil]
        exact hv2
  · refine ⟨.inl (p, []), ⟨by simp, h1, fun z => absurd z (by omega), TKS_nil, fun r m => rfl⟩, ?_, ?_⟩
    · intro w b Q hw b0 b1 h
      show WI (fLa_readTerm_o_l26_b (fLa_readTerm_o_l26 oT oO 2 d 1999) oT oO 2 d 0 w) Q
      unfold fLa_readTerm_o_l26_b
      exact i_if (fun q => by exfalso; omega) (fun _ => i_ci (s_next hL hw h0 (i_ci (s_levelOf (i_if (fun _ => i_some (h 1 w ⟨rfl, Cst_rf hw⟩)) (fun q => by exfalso; omega))))))
    · intro w L P hw L0 L1 h
      exact ((hr w P p hw.1 hw.2.1 h0).2 (by have := hw.2.2.1; omega) h1).1 hop (h w (Rst_rf hw))
