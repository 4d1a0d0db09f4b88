/-! THE TEXT OF A LAW, read by both: what comes of a piece of it -/
/-- read to a place, with these codes; or not: the class's answer and the place -/
abbrev Ous := Sum (Int × List Int) (Int × Int)
def oAp (t : List Int) : Ous → Ous
  | .inl x => .inl (x.1, t ++ x.2)
  | .inr x => .inr x
def Ogd (c : Int → Int) (n p : Int) (tl : Nat) : Ous → Prop
  | .inl x => p + x.2.length ≤ x.1 ∧ x.1 ≤ n ∧ (tl = 0 → p < x.1) ∧ TKS x.2 ∧ ∀ r m, okp (x.2 ++ r) (m + tl) = okp r (m + 1)
  | .inr x => p ≤ x.2 ∧ x.2 ≤ n ∧ (x.1 = 0 ∨ (x.1 = 1 ∧ x.2 < n ∧ 48 ≤ c x.2 ∧ c x.2 ≤ 57))
def LTR (c : Int → Int) (n : Int) : Prop := 0 ≤ n ∧ n ≤ 120 ∧ ∀ k, 0 ≤ k → k < n → 0 ≤ c k ∧ c k ≤ 255
def CHr (c : Int → Int) (n p : Int) : Int := if p < n then c p else -1
def RHr (c : Int → Int) (n p : Int) : Int := if p < n then w8 (c p) else -1
theorem RH_iff {c : Int → Int} {n p k : Int} (hL : LTR c n) (hp : 0 ≤ p) (h0 : 0 ≤ k) (h1 : k < 128) : RHr c n p = k ↔ CHr c n p = k := by
  unfold RHr CHr
  split
  · obtain ⟨a, b⟩ := hL.2.2 p hp (by assumption)
    unfold w8
    omega
  · exact Iff.rfl
theorem RH_dig {c : Int → Int} {n p : Int} (hL : LTR c n) (hp : 0 ≤ p) : (48 ≤ RHr c n p ∧ RHr c n p ≤ 57) ↔ (48 ≤ CHr c n p ∧ CHr c n p ≤ 57) := by
  unfold RHr CHr
  split
  · obtain ⟨a, b⟩ := hL.2.2 p hp (by assumption)
    unfold w8
    omega
  · exact Iff.rfl
theorem CH_lt {c : Int → Int} {n p : Int} (h : 0 ≤ CHr c n p) : p < n ∧ CHr c n p = c p := by
  unfold CHr at h ⊢
  split at h
  · rename_i q
    exact ⟨q, if_pos q⟩
  · omega
theorem CH_up {c : Int → Int} {n p : Int} (hL : LTR c n) (hp : 0 ≤ p) : -1 ≤ CHr c n p ∧ CHr c n p ≤ 255 := by
  unfold CHr
  split
  · obtain ⟨a, b⟩ := hL.2.2 p hp (by assumption)
    omega
  · omega
/-! the class's side -/
def Cfr (w u : WD) : Prop := (∀ k, k ≠ 6 → k ≠ 8 → u k = w k) ∧ ∀ j, j ≠ 6 → j ≠ 7 → u 6 j = w 6 j
theorem Cfr.rf {w : WD} : Cfr w w := ⟨fun _ _ _ => rfl, fun _ _ _ => rfl⟩
theorem Cfr.tr {w u v : WD} (a : Cfr w u) (b : Cfr u v) : Cfr w v := ⟨fun k h1 h2 => (b.1 k h1 h2).trans (a.1 k h1 h2), fun j h1 h2 => (b.2 j h1 h2).trans (a.2 j h1 h2)⟩
def Cpr (c : Int → Int) (n : Int) (w : WD) (p b : Int) : Prop := w 6 5 = n ∧ (∀ k, 0 ≤ k → k < n → w 7 k = c k) ∧ w 6 6 = p ∧ w 6 7 = b
def Cst (w : WD) (b : Int) (u : WD) (q : Int) (t : List Int) : Prop := Cfr w u ∧ u 6 6 = q ∧ u 6 7 = b + t.length ∧ RowIs (u 8) b t ∧ ∀ i, i < b → u 8 i = w 8 i
def Cpo (w : WD) (b r : Int) (u : WD) : Ous → Prop
  | .inl x => r = 1 ∧ Cst w b u x.1 x.2
  | .inr x => r = x.1 ∧ Cfr w u ∧ u 6 6 = x.2
def CIo (c : Int → Int) (n : Int) (F : WD → Option (Int × WD)) (p : Int) (o : Ous) : Prop := ∀ (w : WD) (b : Int) (Q : Int → WD → Prop), Cpr c n w p b → 0 ≤ b → b ≤ p → (∀ r u, Cpo w b r u o → Q r u) → WI (F w) Q
theorem RowIs_nil {r : Int → Int} {b : Int} : RowIs r b [] := fun i hi => absurd hi (Nat.not_lt_zero i)
theorem Cst_rf {c : Int → Int} {n p b : Int} {w : WD} (h : Cpr c n w p b) : Cst w b w p [] := ⟨Cfr.rf, h.2.2.1, by rw [h.2.2.2]; simp, RowIs_nil, fun _ _ => rfl⟩
theorem Cst_mv {w u : WD} {b q q' : Int} {t : List Int} (h : Cst w b u q t) : Cst w b (up u 6 6 q') q' t := by
  obtain ⟨⟨a1, a2⟩, a3, a4, a5, a6⟩ := h
  refine ⟨⟨fun k h1 h2 => ?_, fun j h1 h2 => ?_⟩, ?_, ?_, ?_, ?_⟩
  · rw [up_k h1]; exact a1 k h1 h2
  · rw [up_i h1]; exact a2 j h1 h2
  · exact up_s
  · rw [up_i (by omega)]; exact a4
  · rw [up_k (by omega)]; exact a5
  · rw [up_k (by omega)]; exact a6
theorem RowIs_low {r r' : Int → Int} {b e : Int} {t : List Int} (h : RowIs r b t) (he : e = b + t.length) (hr : ∀ i, i < e → r' i = r i) : RowIs r' b t := fun i hi => by
  rw [hr (b + i) (by omega)]
  exact h i hi
theorem Cst_tr {w u v : WD} {b q q' : Int} {t t' : List Int} (h : Cst w b u q t) (h' : Cst u (b + t.length) v q' t') : Cst w b v q' (t ++ t') := by
  obtain ⟨a1, a3, a4, a5, a6⟩ := h
  obtain ⟨b1, b3, b4, b5, b6⟩ := h'
  refine ⟨a1.tr b1, b3, ?_, RowIs_app.mpr ⟨RowIs_low a5 rfl b6, b5⟩, fun i hi => ?_⟩
  · rw [b4, List.length_append]; omega
  · rw [b6 i (by omega)]; exact a6 i hi
theorem Cst_pr {c : Int → Int} {n p b q : Int} {w u : WD} {t : List Int} (h : Cpr c n w p b) (h' : Cst w b u q t) : Cpr c n u q (b + t.length) := by
  obtain ⟨a1, a2, a3, a4⟩ := h
  obtain ⟨⟨b0, b1⟩, b3, b4, b5, b6⟩ := h'
  refine ⟨?_, ?_, b3, b4⟩
  · rw [b1 5 (by omega) (by omega)]; exact a1
  · rw [b0 7 (by omega) (by omega)]; exact a2
theorem Cpo_tr {w u v : WD} {b q r : Int} {t : List Int} {o : Ous} (h : Cst w b u q t) (h' : Cpo u (b + t.length) r v o) : Cpo w b r v (oAp t o) := by
  cases o with
  | inl x => exact ⟨h'.1, Cst_tr h h'.2⟩
  | inr x => exact ⟨h'.1, h.1.tr h'.2.1, h'.2.2⟩
theorem CI_use {c : Int → Int} {n p b q : Int} {w u : WD} {t : List Int} {o : Ous} {F : WD → Option (Int × WD)} {Q : Int → WD → Prop} (hF : CIo c n F q o) (hw : Cpr c n w p b) (hs : Cst w b u q t) (hb : 0 ≤ b) (hq : b + t.length ≤ q) (h : ∀ r v, Cpo w b r v (oAp t o) → Q r v) : WI (F u) Q :=
  hF u (b + t.length) Q (Cst_pr hw hs) (by omega) hq (fun r v hv => h r v (Cpo_tr hs hv))
theorem s_next {c : Int → Int} {n p b : Int} {w : WD} {Q : Int → WD → Prop} (hL : LTR c n) (hw : Cpr c n w p b) (hp : 0 ≤ p) (h : Q (CHr c n p) w) : WI (fLa_next w) Q := by
  obtain ⟨a1, a2, a3, a4⟩ := hw
  obtain ⟨l1, l2, l3⟩ := hL
  unfold CHr at h
  (repeat' (first | (with_reducible refine i_some ?_) | (with_reducible refine v_some ?_) | (with_reducible refine i_ci ?_) | (with_reducible refine i_cv ?_) | (with_reducible refine v_ci ?_) | (with_reducible refine v_cv ?_) | (with_reducible refine i_bv ?_) | (with_reducible refine v_bv ?_) | (with_reducible refine i_bw ?_) | (with_reducible refine v_bw ?_) | (with_reducible refine i_jn ?_) | (with_reducible refine v_jn ?_) | (with_reducible refine i_ck ?_ ?_) | (with_reducible refine v_ck ?_ ?_) | ((with_reducible refine i_if (fun hc => ?_) (fun hc => ?_)) <;> (try simp (disch := omega) only [not_true_eq_false, not_false_eq_true, true_and, and_true, up_r, up_k, ur_s, ur_e, ur_i, cp_k, w32_i, w64_i, w8_i] at hc) <;> (try (exfalso; omega))) | ((with_reducible refine v_if (fun hc => ?_) (fun hc => ?_)) <;> (try simp (disch := omega) only [not_true_eq_false, not_false_eq_true, true_and, and_true, up_r, up_k, ur_s, ur_e, ur_i, cp_k, w32_i, w64_i, w8_i] at hc) <;> (try (exfalso; omega))) | unfold fLa_next))
  · rw [if_neg (by omega)] at h; exact h
  · omega
  · rw [if_pos (by omega)] at h; rw [a3, a2 p hp (by omega)]; exact h
theorem s_emitC {w u : WD} {b q e : Int} {t : List Int} {P : WD → Prop} (hs : Cst w b u q t) (hb : 0 ≤ b) (hb' : b + t.length < 121) (h : ∀ v, Cst w b v q (t ++ [e]) → P v) : WV (fLa_emit e u) P := by
  have a4 := hs.2.2.1
  (repeat' (first | (with_reducible refine i_some ?_) | (with_reducible refine v_some ?_) | (with_reducible refine i_ci ?_) | (with_reducible refine i_cv ?_) | (with_reducible refine v_ci ?_) | (with_reducible refine v_cv ?_) | (with_reducible refine i_bv ?_) | (with_reducible refine v_bv ?_) | (with_reducible refine i_bw ?_) | (with_reducible refine v_bw ?_) | (with_reducible refine i_jn ?_) | (with_reducible refine v_jn ?_) | (with_reducible refine i_ck ?_ ?_) | (with_reducible refine v_ck ?_ ?_) | ((with_reducible refine i_if (fun hc => ?_) (fun hc => ?_)) <;> (try simp (disch := omega) only [not_true_eq_false, not_false_eq_true, true_and, and_true, up_r, up_k, ur_s, ur_e, ur_i, cp_k, w32_i, w64_i, w8_i] at hc) <;> (try (exfalso; omega))) | ((with_reducible refine v_if (fun hc => ?_) (fun hc => ?_)) <;> (try simp (disch := omega) only [not_true_eq_false, not_false_eq_true, true_and, and_true, up_r, up_k, ur_s, ur_e, ur_i, cp_k, w32_i, w64_i, w8_i] at hc) <;> (try (exfalso; omega))) | unfold fLa_emit))
  · omega
  refine h _ (Cst_tr hs ?_)
  refine ⟨⟨fun k h1 h2 => by rw [up_k h1, up_k h2], fun j h1 h2 => by rw [up_i h2, up_k (by omega)]⟩, ?_, ?_, ?_, ?_⟩
  · rw [up_i (by omega), up_k (by omega)]; exact hs.2.1
  · rw [up_s, up_k (by omega), w32_i (by omega) (by omega)]; simp; omega
  · refine RowIs_cons.mpr ⟨?_, RowIs_nil⟩
    rw [up_k (by omega), up_e a4.symm]
  · intro i hi
    rw [up_k (by omega), up_i (by omega)]
theorem s_emitB {u : WD} {e : Int} {P : WD → Prop} (h : ∀ v, Cfr u v → v 6 6 = u 6 6 → P v) : WV (fLa_emit e u) P := by
  (repeat' (first | (with_reducible refine i_some ?_) | (with_reducible refine v_some ?_) | (with_reducible refine i_ci ?_) | (with_reducible refine i_cv ?_) | (with_reducible refine v_ci ?_) | (with_reducible refine v_cv ?_) | (with_reducible refine i_bv ?_) | (with_reducible refine v_bv ?_) | (with_reducible refine i_bw ?_) | (with_reducible refine v_bw ?_) | (with_reducible refine i_jn ?_) | (with_reducible refine v_jn ?_) | (with_reducible refine i_ck ?_ ?_) | (with_reducible refine v_ck ?_ ?_) | ((with_reducible refine i_if (fun hc => ?_) (fun hc => ?_)) <;> (try simp (disch := omega) only [not_true_eq_false, not_false_eq_true, true_and, and_true, up_r, up_k, ur_s, ur_e, ur_i, cp_k, w32_i, w64_i, w8_i] at hc) <;> (try (exfalso; omega))) | ((with_reducible refine v_if (fun hc => ?_) (fun hc => ?_)) <;> (try simp (disch := omega) only [not_true_eq_false, not_false_eq_true, true_and, and_true, up_r, up_k, ur_s, ur_e, ur_i, cp_k, w32_i, w64_i, w8_i] at hc) <;> (try (exfalso; omega))) | unfold fLa_emit))
  · exact h u Cfr.rf rfl
  · exact h u Cfr.rf rfl
  · omega
  · refine h _ ⟨fun k h1 h2 => by rw [up_k h1, up_k h2], fun j h1 h2 => by rw [up_i h2, up_k (by omega)]⟩ ?_
    rw [up_i (by omega), up_k (by omega)]
/-! the reference's side -/
def Rfr (w u : WD) : Prop := (∀ k, k ≠ 46 → k ≠ 58 → k ≠ 59 → u k = w k) ∧ (∀ j, (j < 17 ∨ 20 < j) → u 46 j = w 46 j) ∧ ∀ i, i < 130 → u 58 i = w 58 i ∧ u 59 i = w 59 i
theorem Rfr.rf {w : WD} : Rfr w w := ⟨fun _ _ _ _ => rfl, fun _ _ => rfl, fun _ _ => ⟨rfl, rfl⟩⟩
theorem Rfr.tr {w u v : WD} (a : Rfr w u) (b : Rfr u v) : Rfr w v := ⟨fun k h1 h2 h3 => (b.1 k h1 h2 h3).trans (a.1 k h1 h2 h3), fun j h1 => (b.2.1 j h1).trans (a.2.1 j h1), fun i hi => ⟨(b.2.2 i hi).1.trans (a.2.2 i hi).1, (b.2.2 i hi).2.trans (a.2.2 i hi).2⟩⟩
/-- the tape -/
def Rtp (c : Int → Int) (n : Int) (w : WD) : Prop := w 46 16 = n ∧ ∀ k, 0 ≤ k → k < n → w 57 k = w8 (c k)
def Rpr (c : Int → Int) (n d : Int) (w : WD) (p L : Int) : Prop := Rtp c n w ∧ w 46 17 = p ∧ w 46 18 = -1 ∧ w 46 19 = d ∧ w 46 20 = L
def Rst (w : WD) (L d : Int) (u : WD) (q : Int) (t : List Int) : Prop := Rfr w u ∧ u 46 17 = q ∧ u 46 18 = -1 ∧ u 46 19 = d ∧ u 46 20 = L + t.length ∧ StepsAre (u 58) (u 59) (130 + L) t ∧ ∀ i, i < 130 + L → u 58 i = w 58 i ∧ u 59 i = w 59 i
/-- it found a fault at q; e bounds the steps laid since -/
def Rbd (w : WD) (L : Int) (u : WD) (q e : Int) : Prop := Rfr w u ∧ u 46 17 = q ∧ u 46 18 = q ∧ L ≤ u 46 20 ∧ u 46 20 ≤ L + e
def Rpo (w : WD) (p L d : Int) (u : WD) : Ous → Prop
  | .inl x => Rst w L d u x.1 x.2
  | .inr x => Rbd w L u x.2 (x.2 - p + 1)
def RIo (c : Int → Int) (n d : Int) (F : WD → Option WD) (p : Int) (o : Ous) : Prop := ∀ (w : WD) (L : Int) (P : WD → Prop), Rpr c n d w p L → 0 ≤ L → L ≤ p → (∀ u, Rpo w p L d u o → P u) → WV (F w) P
theorem StepsAre_nil {a v : Int → Int} {b : Int} : StepsAre a v b [] := fun i hi => absurd hi (Nat.not_lt_zero i)
theorem Rtp_fr {c : Int → Int} {n : Int} {w u : WD} (h : Rtp c n w) (e : Rfr w u) : Rtp c n u := ⟨by rw [e.2.1 16 (by omega)]; exact h.1, by rw [e.1 57 (by omega) (by omega) (by omega)]; exact h.2⟩
theorem Rst_rf {c : Int → Int} {n d p L : Int} {w : WD} (h : Rpr c n d w p L) : Rst w L d w p [] := ⟨Rfr.rf, h.2.1, h.2.2.1, h.2.2.2.1, by rw [h.2.2.2.2]; simp, StepsAre_nil, fun _ _ => ⟨rfl, rfl⟩⟩
theorem Rst_mv {w u : WD} {L d q q' : Int} {t : List Int} (h : Rst w L d u q t) : Rst w L d (up u 46 17 q') q' t := by
  obtain ⟨⟨a1, a2, a3⟩, b1, b2, b3, b4, b5, b6⟩ := h
  refine ⟨⟨fun k h1 h2 h3 => ?_, fun j h1 => ?_, fun i hi => ?_⟩, up_s, ?_, ?_, ?_, ?_, ?_⟩
  · rw [up_k h1]; exact a1 k h1 h2 h3
  · rw [up_i (by omega)]; exact a2 j h1
  · rw [up_k (by omega), up_k (by omega)]; exact a3 i hi
  · rw [up_i (by omega)]; exact b2
  · rw [up_i (by omega)]; exact b3
  · rw [up_i (by omega)]; exact b4
  · rw [up_k (by omega), up_k (by omega)]; exact b5
  · rw [up_k (by omega), up_k (by omega)]; exact b6
theorem Rst_op {w u : WD} {L d d' q : Int} {t : List Int} (h : Rst w L d u q t) : Rst w L d' (up u 46 19 d') q t := by
  obtain ⟨⟨a1, a2, a3⟩, b1, b2, b3, b4, b5, b6⟩ := h
  refine ⟨⟨fun k h1 h2 h3 => ?_, fun j h1 => ?_, fun i hi => ?_⟩, ?_, ?_, up_s, ?_, ?_, ?_⟩
  · rw [up_k h1]; exact a1 k h1 h2 h3
  · rw [up_i (by omega)]; exact a2 j h1
  · rw [up_k (by omega), up_k (by omega)]; exact a3 i hi
  · rw [up_i (by omega)]; exact b1
  · rw [up_i (by omega)]; exact b2
  · rw [up_i (by omega)]; exact b4
  · rw [up_k (by omega), up_k (by omega)]; exact b5
  · rw [up_k (by omega), up_k (by omega)]; exact b6
theorem Rbd_op {w u : WD} {L d' q e : Int} (h : Rbd w L u q e) : Rbd w L (up u 46 19 d') q e := by
  obtain ⟨⟨a1, a2, a3⟩, b1, b2, b3, b4⟩ := h
  refine ⟨⟨fun k h1 h2 h3 => ?_, fun j h1 => ?_, fun i hi => ?_⟩, ?_, ?_, ?_, ?_⟩
  · rw [up_k h1]; exact a1 k h1 h2 h3
  · rw [up_i (by omega)]; exact a2 j h1
  · rw [up_k (by omega), up_k (by omega)]; exact a3 i hi
  · rw [up_i (by omega)]; exact b1
  · rw [up_i (by omega)]; exact b2
  · rw [up_i (by omega)]; exact b3
  · rw [up_i (by omega)]; exact b4
theorem StepsAre_low {a v a' v' : Int → Int} {b e : Int} {t : List Int} (h : StepsAre a v b t) (he : e = b + t.length) (hr : ∀ i, i < e → a' i = a i ∧ v' i = v i) : StepsAre a' v' b t := fun i hi => by
  obtain ⟨r1, r2⟩ := hr (b + i) (by omega)
  rw [r1, r2]
  exact h i hi
theorem Rst_tr {w u v : WD} {L d d' q q' : Int} {t t' : List Int} (h : Rst w L d u q t) (h' : Rst u (L + t.length) d' v q' t') : Rst w L d' v q' (t ++ t') := by
  obtain ⟨a1, a2, a3, a4, a5, a6, a7⟩ := h
  obtain ⟨b1, b2, b3, b4, b5, b6, b7⟩ := h'
  refine ⟨a1.tr b1, b2, b3, b4, ?_, StepsAre_app.mpr ⟨StepsAre_low a6 (by omega) b7, ?_⟩, fun i hi => ?_⟩
  · rw [b5, List.length_append]; omega
  · rw [Int.add_assoc]; exact b6
  · obtain ⟨x1, x2⟩ := b7 i (by omega)
    obtain ⟨y1, y2⟩ := a7 i hi
    exact ⟨x1.trans y1, x2.trans y2⟩
theorem Rst_pr {c : Int → Int} {n d d' p q L : Int} {w u : WD} {t : List Int} (h : Rpr c n d w p L) (h' : Rst w L d' u q t) : Rpr c n d' u q (L + t.length) := ⟨Rtp_fr h.1 h'.1, h'.2.1, h'.2.2.1, h'.2.2.2.1, h'.2.2.2.2.1⟩
theorem Rbd_tr {w u v : WD} {L d q q' e e' : Int} {t : List Int} (h : Rst w L d u q t) (h' : Rbd u (L + t.length) v q' e) (he : t.length + e ≤ e') : Rbd w L v q' e' := by
  obtain ⟨b1, b2, b3, b4, b5⟩ := h'
  exact ⟨h.1.tr b1, b2, b3, by omega, by omega⟩
theorem Rpo_tr {w u v : WD} {L d d' p q : Int} {t : List Int} {o : Ous} (h : Rst w L d u q t) (hq : p + t.length ≤ q) (h' : Rpo u q (L + t.length) d' v o) : Rpo w p L d' v (oAp t o) := by
  cases o with
  | inl x => exact Rst_tr h h'
  | inr x => exact Rbd_tr h h' (by omega)
theorem s_looks {c : Int → Int} {n p : Int} {w : WD} {Q : Int → WD → Prop} (hL : LTR c n) (ht : Rtp c n w) (hh : w 46 17 = p) (hp : 0 ≤ p) (h : Q (RHr c n p) w) : WI (fR_looksOn w) Q := by
  obtain ⟨a1, a2⟩ := ht
  obtain ⟨l1, l2, l3⟩ := hL
  unfold RHr at h
  (repeat' (first | (with_reducible refine i_some ?_) | (with_reducible refine v_some ?_) | (with_reducible refine i_ci ?_) | (with_reducible refine i_cv ?_) | (with_reducible refine v_ci ?_) | (with_reducible refine v_cv ?_) | (with_reducible refine i_bv ?_) | (with_reducible refine v_bv ?_) | (with_reducible refine i_bw ?_) | (with_reducible refine v_bw ?_) | (with_reducible refine i_jn ?_) | (with_reducible refine v_jn ?_) | (with_reducible refine i_ck ?_ ?_) | (with_reducible refine v_ck ?_ ?_) | ((with_reducible refine i_if (fun hc => ?_) (fun hc => ?_)) <;> (try simp (disch := omega) only [not_true_eq_false, not_false_eq_true, true_and, and_true, up_r, up_k, ur_s, ur_e, ur_i, cp_k, w32_i, w64_i, w8_i] at hc) <;> (try (exfalso; omega))) | ((with_reducible refine v_if (fun hc => ?_) (fun hc => ?_)) <;> (try simp (disch := omega) only [not_true_eq_false, not_false_eq_true, true_and, and_true, up_r, up_k, ur_s, ur_e, ur_i, cp_k, w32_i, w64_i, w8_i] at hc) <;> (try (exfalso; omega))) | unfold fR_looksOn))
  · rw [if_neg (by omega)] at h; exact h
  · omega
  · rw [if_pos (by omega)] at h; rw [hh, a2 p hp (by omega)]; exact h
theorem s_wrong {w u : WD} {L d q : Int} {t : List Int} {P : WD → Prop} (hs : Rst w L d u q t) (h : ∀ v, Rbd w L v q t.length → P v) : WV (fR_wrong u) P := by
  obtain ⟨⟨a1, a2, a3⟩, b1, b2, b3, b4, b5, b6⟩ := hs
  (repeat' (first | (with_reducible refine i_some ?_) | (with_reducible refine v_some ?_) | (with_reducible refine i_ci ?_) | (with_reducible refine i_cv ?_) | (with_reducible refine v_ci ?_) | (with_reducible refine v_cv ?_) | (with_reducible refine i_bv ?_) | (with_reducible refine v_bv ?_) | (with_reducible refine i_bw ?_) | (with_reducible refine v_bw ?_) | (with_reducible refine i_jn ?_) | (with_reducible refine v_jn ?_) | (with_reducible refine i_ck ?_ ?_) | (with_reducible refine v_ck ?_ ?_) | ((with_reducible refine i_if (fun hc => ?_) (fun hc => ?_)) <;> (try simp (disch := omega) only [not_true_eq_false, not_false_eq_true, true_and, and_true, up_r, up_k, ur_s, ur_e, ur_i, cp_k, w32_i, w64_i, w8_i] at hc) <;> (try (exfalso; omega))) | ((with_reducible refine v_if (fun hc => ?_) (fun hc => ?_)) <;> (try simp (disch := omega) only [not_true_eq_false, not_false_eq_true, true_and, and_true, up_r, up_k, ur_s, ur_e, ur_i, cp_k, w32_i, w64_i, w8_i] at hc) <;> (try (exfalso; omega))) | unfold fR_wrong))
  refine h _ ⟨⟨fun k h1 h2 h3 => ?_, fun j h1 => ?_, fun i hi => ?_⟩, ?_, ?_, ?_, ?_⟩
  · rw [up_k h1]; exact a1 k h1 h2 h3
  · rw [up_i (by omega)]; exact a2 j h1
  · rw [up_k (by omega), up_k (by omega)]; exact a3 i hi
  · rw [up_i (by omega)]; exact b1
  · rw [up_s]; exact b1
  · rw [up_i (by omega)]; omega
  · rw [up_i (by omega)]; omega
theorem s_layC {w u : WD} {L d q a x e : Int} {t : List Int} {P : WD → Prop} (hs : Rst w L d u q t) (hL : 0 ≤ L) (hl : L + t.length < 130) (ha : 0 ≤ a) (ha' : a < 128) (ea : AC e = a) (ev : AV e = x) (h : ∀ v, Rst w L d v q (t ++ [e]) → P v) : WV (fR_addStep a x u) P := by
  have b4 := hs.2.2.2.2.1
  have w1 : w32 (130 + u 46 20) = 130 + u 46 20 := w32_i (by omega) (by omega)
  have w0 : w8 a = a := w8_i (by omega) (by omega)
  have w2 : w8 (w8 a) = a := by rw [w0, w0]
  unfold fR_addStep
  rw [w1, w2]
  refine v_ck (by omega) (v_bw ?_)
  have e0 : (up u 58 (130 + u 46 20) a) 46 20 = u 46 20 := by rw [up_k (by omega)]
  rw [e0, w1]
  refine v_ck (by omega) (v_bw (v_bw (v_some ?_)))
  refine h _ (Rst_tr hs ?_)
  refine ⟨⟨fun k h1 h2 h3 => ?_, fun j h1 => ?_, fun i hi => ?_⟩, ?_, ?_, ?_, ?_, ?_, fun i hi => ?_⟩
  · rw [up_k h1, up_k h3, up_k h2]
  · rw [up_i (by omega), up_k (by omega), up_k (by omega)]
  · rw [up_k (by omega), up_k (by omega), up_i (by omega), up_k (by omega), up_i (by omega), up_k (by omega)]; exact ⟨rfl, rfl⟩
  · rw [up_i (by omega), up_k (by omega), up_k (by omega)]; exact hs.2.1
  · rw [up_i (by omega), up_k (by omega), up_k (by omega)]; exact hs.2.2.1
  · rw [up_i (by omega), up_k (by omega), up_k (by omega)]; exact hs.2.2.2.1
  · rw [up_s, up_k (by omega), up_k (by omega), w32_i (by omega) (by omega)]; simp; omega
  · refine StepsAre_cons.mpr ⟨⟨?_, ?_⟩, StepsAre_nil⟩
    · rw [up_k (by omega), up_k (by omega), up_e (by omega)]; exact ea.symm
    · rw [up_k (by omega), up_e (by omega)]; exact ev.symm
  · rw [up_k (by omega), up_k (by omega), up_i (by omega), up_k (by omega), up_i (by omega), up_k (by omega)]; exact ⟨rfl, rfl⟩
theorem s_layB {w u : WD} {L q a x e : Int} {P : WD → Prop} (hs : Rbd w L u q e) (hL : 0 ≤ L) (hl : L + e < 130) (h : ∀ v, Rbd w L v q (e + 1) → P v) : WV (fR_addStep a x u) P := by
  obtain ⟨⟨a1, a2, a3⟩, b1, b2, b3, b4⟩ := hs
  have w1 : w32 (130 + u 46 20) = 130 + u 46 20 := w32_i (by omega) (by omega)
  unfold fR_addStep
  rw [w1]
  refine v_ck (by omega) (v_bw ?_)
  have e0 : (up u 58 (130 + u 46 20) (w8 (w8 a))) 46 20 = u 46 20 := by rw [up_k (by omega)]
  rw [e0, w1]
  refine v_ck (by omega) (v_bw (v_bw (v_some ?_)))
  refine h _ ⟨⟨fun k h1 h2 h3 => ?_, fun j h1 => ?_, fun i hi => ?_⟩, ?_, ?_, ?_, ?_⟩
  · rw [up_k h1, up_k h3, up_k h2]; exact a1 k h1 h2 h3
  · rw [up_i (by omega), up_k (by omega), up_k (by omega)]; exact a2 j h1
  · rw [up_k (by omega), up_k (by omega), up_i (by omega), up_k (by omega), up_i (by omega), up_k (by omega)]; exact a3 i hi
  · rw [up_i (by omega), up_k (by omega), up_k (by omega)]; exact b1
  · rw [up_i (by omega), up_k (by omega), up_k (by omega)]; exact b2
  · rw [up_s, up_k (by omega), up_k (by omega), w32_i (by omega) (by omega)]; omega
  · rw [up_s, up_k (by omega), up_k (by omega), w32_i (by omega) (by omega)]; omega
theorem RI_use {c : Int → Int} {n d d' p q L : Int} {w u : WD} {t : List Int} {o : Ous} {F : WD → Option WD} {P : WD → Prop} (hF : RIo c n d' F q o) (hw : Rpr c n d w p L) (hs : Rst w L d' u q t) (hb : 0 ≤ L) (hq : L + t.length ≤ q) (h : ∀ v, Rpo u q (L + t.length) d' v o → P v) : WV (F u) P :=
  hF u (L + t.length) P (Rst_pr hw hs) (by omega) hq h
