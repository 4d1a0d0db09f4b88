/-! THE TEXT OF A LAW: a line, both alike -/
theorem Ogd_term {c : Int → Int} {n p q : Int} {t : List Int} (h : Ogd c n p 0 (.inl (q, t))) : TERM t ∧ t ≠ [] := by
  obtain ⟨a1, a2, a3, a4, a5⟩ := h
  have e := a5 [] 0
  simp only [List.append_nil] at e
  refine ⟨⟨e, a4⟩, fun z => ?_⟩
  rw [z] at e
  exact absurd e (by decide)
theorem w16_2 {x : Int} (h0 : 0 ≤ x) (h1 : x ≤ 1000) : w16 (w16 x) = x := by
  have e : w16 x = x := w16_i (by omega) (by omega)
  rw [e, e]
def J7r (k : Int) (u4 : WD) : Option WD := ck (0 ≤ (61 + k) ∧ (61 + k) < 122) <| bw (up u4 62 (61 + k) (w16 (w16 (u4 46 20)))) <| fun (u5 : WD) => bw (up u5 60 1 (w32 ((u5 60 1) + 1))) <| fun (u6 : WD) => some u6
def LNC (c : Int → Int) (n p q : Int) (ln : List Int × List Int) : Prop := ∀ (w u : WD) (t : List Int) (Q : Int → WD → Prop), Cpr c n w 0 0 → Cst w 0 u p t → (t.length : Int) ≤ p → (∀ v, Cst w 0 v q (t ++ lineC ln) → Q 1 v) → WI (fLa_readLine u) Q
def LNR (c : Int → Int) (n p q : Int) (ln : List Int × List Int) : Prop := ∀ (w u : WD) (ls : List (List Int × List Int)) (P : WD → Prop), Rtp c n w → Tst w u p ls → 2 * (ls.length : Int) ≤ p → ((flR ls).length : Int) ≤ p → (∀ v, Tst w v q (ls ++ [ln]) → P v) → WV (fR_line u) P
def LBC (c : Int → Int) (n p q : Int) : Prop := ∀ (w u : WD) (t : List Int) (Q : Int → WD → Prop), Cpr c n w 0 0 → Cst w 0 u p t → (t.length : Int) ≤ p → (∀ r v, Cfr w v → v 6 6 = q → (r = 0 ∨ (q < n ∧ 48 ≤ c q ∧ c q ≤ 57)) → Q r v) → WI (fLa_readLine u) Q
def LBR (c : Int → Int) (n p q : Int) : Prop := ∀ (w u : WD) (ls : List (List Int × List Int)) (P : WD → Prop), Rtp c n w → Tst w u p ls → 2 * (ls.length : Int) ≤ p → ((flR ls).length : Int) ≤ p → (∀ v, Ltf w v → v 46 17 = q → v 46 18 = q → P v) → WV (fR_line u) P
theorem line_ok {c : Int → Int} {n p : Int} (hL : LTR c n) (h0 : 0 ≤ p) (h1 : p ≤ n) :
    (∃ q ln, p < q ∧ q ≤ n ∧ LINE ln ∧ (ln.1.length : Int) + ln.2.length ≤ q - p ∧ ((lineC ln).length : Int) ≤ q - p + 1 ∧ LNC c n p q ln ∧ LNR c n p q ln) ∨ ∃ q, p ≤ q ∧ q ≤ n ∧ LBC c n p q ∧ LBR c n p q := by
  have n120 := hL.2.1
  obtain ⟨o1, g1, c1, r1⟩ := term_ok hL p h0 h1
  -- the head of a line in the reference
  have rr : ∀ (w u : WD) (ls : List (List Int × List Int)) (P : WD → Prop), Tst w u p ls → 2 * (ls.length : Int) ≤ p → ((flR ls).length : Int) ≤ p →
      (∀ z, Mst w z p ls [] 0 → WV (fR_either z) (fun (u3 : WD) => WV (jn (β := WD → Option WD) (fun (u4 : WD) => ck (0 ≤ (61 + (ls.length : Int)) ∧ (61 + (ls.length : Int)) < 122) <| bw (up u4 62 (61 + (ls.length : Int)) (w16 (w16 (u4 46 20)))) <| fun (u5 : WD) => bw (up u5 60 1 (w32 ((u5 60 1) + 1))) <| fun (u6 : WD) => some u6) <| fun J7 => if 0 ≤ (u3 46 18) then (J7 u3) else (ci (fR_looksOn u3) <| fun (r9 : Int) (u8 : WD) => if r9 ≠ 63 then (J7 u8) else (bw (up u8 46 17 (w32 ((u8 46 17) + 1))) <| fun (u11 : WD) => ck (0 ≤ (61 + (ls.length : Int)) ∧ (61 + (ls.length : Int)) < 122) <| bw (up u11 61 (61 + (ls.length : Int)) (w16 (w16 (u11 46 20)))) <| fun (u12 : WD) => cv (fR_either u12) <| fun (u13 : WD) => J7 u13))) P)) → WV (fR_line u) P := by
    intro w u ls P hs h2 h3 h
    have a7 := hs.2.2.2.2.2.2.1
    have a5 := hs.2.2.2.2.1
    have e1 : w32 (61 + u 60 1) = 61 + (ls.length : Int) := by rw [a7, w32_i (by omega) (by omega)]
    have e2 : w16 (w16 (u 46 20)) = (flR ls).length := by rw [a5]; exact w16_2 (by omega) (by omega)
    unfold fR_line
    rw [e1, e2]
    exact v_bv (v_ck (by omega) (v_bw (v_cv (h _ (m_begin hs rfl)))))
  have j7b : ∀ (w z : WD) (k q : Int) (P : WD → Prop), 0 ≤ k → k ≤ 60 → (∀ v, Ltf w v → v 46 17 = q → v 46 18 = q → P v) → Ltf w z → z 46 17 = q → z 46 18 = q → WV (ck (0 ≤ (61 + k) ∧ (61 + k) < 122) <| bw (up z 62 (61 + k) (w16 (w16 (z 46 20)))) <| fun (u5 : WD) => bw (up u5 60 1 (w32 ((u5 60 1) + 1))) <| fun (u6 : WD) => some u6) P := by
    intro w z k q P k0 k1 h z1 z2 z3
    refine v_ck (by omega) (v_bw (v_bw (v_some (h _ ((z1.tr (Ltf_62 (by omega))).tr Ltf_60) ?_ ?_))))
    · rw [up_k (by omega), up_k (by omega)]; exact z2
    · rw [up_k (by omega), up_k (by omega)]; exact z3
  have j7g : ∀ (w z : WD) (ls : List (List Int × List Int)) (q : Int) (ln : List Int × List Int) (P : WD → Prop), (ls.length : Int) ≤ 60 → ((flR ls).length : Int) + (ln.1 ++ ln.2).length ≤ 200 → (∀ v, Tst w v q (ls ++ [ln]) → P v) → Mst w z q ls (ln.1 ++ ln.2) ln.1.length → WV (ck (0 ≤ (61 + (ls.length : Int)) ∧ (61 + (ls.length : Int)) < 122) <| bw (up z 62 (61 + (ls.length : Int)) (w16 (w16 (z 46 20)))) <| fun (u5 : WD) => bw (up u5 60 1 (w32 ((u5 60 1) + 1))) <| fun (u6 : WD) => some u6) P := by
    intro w z ls q ln P k1 k2 h hz
    have a5 := hz.2.2.2.2.1
    have a7 := hz.2.2.2.2.2.2.1
    refine v_ck (by omega) (v_bw (v_bw (v_some (h _ (m_end hz ?_ ?_)))))
    · rw [a5]; exact w16_2 (by omega) (by omega)
    · rw [up_k (by omega), a7, w32_i (by omega) (by omega)]
  cases o1 with
  | inr x =>
    have q0 : 0 ≤ x.2 := by have := g1.1; omega
    refine Or.inr ⟨x.2, g1.1, g1.2.1, ?_, ?_⟩
    · intro w u t Q hw hs ht h
      unfold fLa_readLine
      refine i_ci (CI_use c1 hw hs (by omega) (by omega) (fun r v hv => ?_))
      obtain ⟨v1, v2, v3⟩ := hv
      refine i_if (fun hr => ?_) (fun _ => i_some (h 0 v v2 v3 (Or.inl rfl)))
      rcases g1.2.2 with z | ⟨z1, z2, z3⟩
      · omega
      have e : CHr c n x.2 = c x.2 := if_pos z2
      exact i_ci (s_next hL (Cpr_fr hw v2 v3) q0 (i_jn (i_if (fun _ => i_cv (s_emitB (fun v' e1 e2 => i_some (h 1 v' (v2.tr e1) (by rw [e2, v3]) (Or.inr ⟨z2, z3⟩))))) (fun z => by exfalso; omega))))
    · intro w u ls P hw hs h2 h3 h
      refine rr w u ls P hs h2 h3 (fun z hz => m_term r1 hw hz (by simp; omega) (fun y e => by cases e) (fun y e v v1 v2 v3 => ?_))
      cases e
      exact v_jn (v_if (fun _ => j7b w v _ _ P (by omega) (by omega) h v1 v2 v3) (fun z => by exfalso; omega))
  | inl x =>
    obtain ⟨q, t1⟩ := x
    obtain ⟨a1, a2, a3, a4, a5⟩ := id g1
    simp only at a1 a2 a3
    have a3 := a3 trivial
    obtain ⟨T1, T1'⟩ := Ogd_term g1
    by_cases hq : CHr c n q = 63
    · obtain ⟨qn, _⟩ := CH_lt (c := c) (n := n) (p := q) (by omega)
      have eq : RHr c n q = 63 := (RH_iff hL (by omega) (by omega) (by omega)).mpr hq
      obtain ⟨o2, g2, c2, r2⟩ := term_ok hL (q + 1) (by omega) (by omega)
      have cc : ∀ (w u : WD) (t : List Int) (Q : Int → WD → Prop), Cpr c n w 0 0 → Cst w 0 u p t → (t.length : Int) ≤ p → (∀ v, Cst w 0 v (q + 1) (t ++ t1 ++ [-63]) → WI (fLa_readTerm 0 0 v) (fun (r13 : Int) (u12 : WD) => WI (if r13 ≠ 0 then (cv (fLa_emit (-59) u12) <| fun (u8 : WD) => some ((1 : Int), u8)) else (some (0, u12))) Q)) → WI (fLa_readLine u) Q := by
        intro w u t Q hw hs ht h
        unfold fLa_readLine
        refine i_ci (CI_use c1 hw hs (by omega) (by omega) (fun r v hv => ?_))
        obtain ⟨v1, v2⟩ := hv
        have v2' : Cst w 0 v q (t ++ t1) := v2
        refine i_if (fun _ => i_ci (s_next hL (Cst_pr hw v2') (by omega) (i_jn (i_if (fun z => absurd hq z) (fun _ => i_bw ?_))))) (fun z => by exfalso; omega)
        rw [v2'.2.1, w32_i (x := q + 1) (by omega) (by omega)]
        refine i_cv (s_emitC (Cst_mv v2') (by omega) (by simp only [List.length_append]; omega) (fun v' hv' => i_ci ?_))
        exact h v' hv'
      have rq : ∀ (w z : WD) (ls : List (List Int × List Int)) (P : WD → Prop) (K : WD → Option WD), Rtp c n w → Mst w z q ls ([] ++ t1) 0 → (ls.length : Int) ≤ 60 → ((flR ls).length : Int) + t1.length ≤ q → (∀ y, Mst w y (q + 1) ls ([] ++ t1) t1.length → WV (fR_either y) (fun v => WV (K v) P)) →
          WV (if 0 ≤ (z 46 18) then (K z) else (ci (fR_looksOn z) <| fun (r9 : Int) (u8 : WD) => if r9 ≠ 63 then (K u8) else (bw (up u8 46 17 (w32 ((u8 46 17) + 1))) <| fun (u11 : WD) => ck (0 ≤ (61 + (ls.length : Int)) ∧ (61 + (ls.length : Int)) < 122) <| bw (up u11 61 (61 + (ls.length : Int)) (w16 (w16 (u11 46 20)))) <| fun (u12 : WD) => cv (fR_either u12) <| fun (u13 : WD) => K u13))) P := by
        intro w z ls P K hw hz k1 k2 h
        have b2 := hz.2.1
        have b3 := hz.2.2.1
        have b5 := hz.2.2.2.2.1
        simp only [List.nil_append] at b5
        refine v_if (fun y => by exfalso; omega) (fun _ => v_ci (s_looks hL (Rtp_l hw hz.1) b2 (by omega) (v_if (fun y => absurd eq y) (fun _ => v_bw (v_ck (by omega) (v_bw (v_cv ?_)))))))
        rw [b2, w32_i (x := q + 1) (by omega) (by omega)]
        refine h _ ?_
        have := m_mark (q' := q + 1) (v := w16 (w16 ((up z 46 17 (q + 1)) 46 20))) hz (fun _ => rfl) (by rw [up_i (by omega), b5, w16_2 (by omega) (by omega)]; simp)
        exact this
      cases o2 with
      | inr x =>
        have q0 : 0 ≤ x.2 := by have := g2.1; omega
        refine Or.inr ⟨x.2, by have := g2.1; omega, g2.2.1, ?_, ?_⟩
        · intro w u t Q hw hs ht h
          refine cc w u t Q hw hs ht (fun v hv => CI_use c2 hw hv (by omega) (by simp; omega) (fun r v' hv' => ?_))
          obtain ⟨v1, v2, v3⟩ := hv'
          refine i_if (fun hr => ?_) (fun _ => i_some (h 0 v' v2 v3 (Or.inl rfl)))
          rcases g2.2.2 with z | ⟨z1, z2, z3⟩
          · omega
          exact i_cv (s_emitB (fun v' e1 e2 => i_some (h 1 v' (v2.tr e1) (by rw [e2, v3]) (Or.inr ⟨z2, z3⟩))))
        · intro w u ls P hw hs h2 h3 h
          refine rr w u ls P hs h2 h3 (fun z hz => m_term r1 hw hz (by simp; omega) (fun y e v hv => ?_) (fun y e => by cases e))
          cases e
          refine v_jn (rq w v ls P (J7r ls.length) hw hv (by omega) (by omega) (fun y hy => m_term r2 hw hy (by simp; omega) (fun y e => by cases e) (fun y e v' v1 v2 v3 => ?_)))
          cases e
          exact j7b w v' _ _ P (by omega) (by omega) h v1 v2 v3
      | inl x =>
        obtain ⟨q2, t2⟩ := x
        obtain ⟨b1, b2, b3, b4, b5⟩ := id g2
        simp only at b1 b2 b3
        have b3 := b3 trivial
        obtain ⟨T2, T2'⟩ := Ogd_term g2
        have el : lineC (t1, t2) = (t1 ++ [-63]) ++ (t2 ++ [-59]) := by unfold lineC; rw [if_neg T1']
        refine Or.inl ⟨q2, (t1, t2), by omega, b2, ⟨Or.inr T1, T2⟩, by simp only; omega, ?_, ?_, ?_⟩
        · rw [el]; simp only [List.length_append, List.length_cons, List.length_nil]; omega
        · intro w u t Q hw hs ht h
          refine cc w u t Q hw hs ht (fun v hv => CI_use c2 hw hv (by omega) (by simp; omega) (fun r v' hv' => ?_))
          obtain ⟨v1, v2⟩ := hv'
          have v2' : Cst w 0 v' q2 (t ++ t1 ++ [-63] ++ t2) := v2
          refine i_if (fun _ => i_cv (s_emitC v2' (by omega) (by simp only [List.length_append, List.length_cons, List.length_nil]; omega) (fun y hy => i_some (h y ?_)))) (fun z => by exfalso; omega)
          rw [el]
          simp only [List.append_assoc] at hy ⊢
          exact hy
        · intro w u ls P hw hs h2 h3 h
          refine rr w u ls P hs h2 h3 (fun z hz => m_term r1 hw hz (by simp; omega) (fun y e v hv => ?_) (fun y e => by cases e))
          cases e
          refine v_jn (rq w v ls P (J7r ls.length) hw hv (by omega) (by omega) (fun y hy => m_term r2 hw hy (by simp; omega) (fun y e v' hv' => ?_) (fun y e => by cases e)))
          cases e
          exact j7g w v' ls q2 (t1, t2) P (by omega) (by simp; omega) h hv'
    · have en := RH_iff (k := 63) (p := q) hL (by omega) (by omega) (by omega)
      have el : lineC ([], t1) = t1 ++ [-59] := rfl
      refine Or.inl ⟨q, ([], t1), by omega, a2, ⟨Or.inl rfl, T1⟩, by simp only [List.length_nil]; omega, ?_, ?_, ?_⟩
      · rw [el]; simp only [List.length_append, List.length_cons, List.length_nil]; omega
      · intro w u t Q hw hs ht h
        unfold fLa_readLine
        refine i_ci (CI_use c1 hw hs (by omega) (by omega) (fun r v hv => ?_))
        obtain ⟨v1, v2⟩ := hv
        have v2' : Cst w 0 v q (t ++ t1) := v2
        refine i_if (fun _ => i_ci (s_next hL (Cst_pr hw v2') (by omega) (i_jn (i_if (fun _ => i_cv (s_emitC v2' (by omega) (by simp only [List.length_append]; omega) (fun y hy => i_some (h y ?_)))) (fun z => absurd z (by omega)))))) (fun z => by exfalso; omega)
        rw [el, ← List.append_assoc]
        exact hy
      · intro w u ls P hw hs h2 h3 h
        refine rr w u ls P hs h2 h3 (fun z hz => m_term r1 hw hz (by simp; omega) (fun y e v hv => ?_) (fun y e => by cases e))
        cases e
        refine v_jn (v_if (fun z => by have := hv.2.2.1; exfalso; omega) (fun _ => v_ci (s_looks hL (Rtp_l hw hv.1) hv.2.1 (by omega) (v_if (fun _ => ?_) (fun z => ?_)))))
        · exact j7g w v ls q ([], t1) P (by omega) (by simp; omega) h hv
        · exact absurd (en.mp (Decidable.not_not.mp z)) hq
