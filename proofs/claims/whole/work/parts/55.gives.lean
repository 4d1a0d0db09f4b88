/-- all but the reference's pile -/
def FRP (w u : WD) : Prop := ∀ k, k ≠ 64 → u k = w k
theorem FRP.rf {w : WD} : FRP w w := fun _ _ => rfl
theorem FRP.tr {w u v : WD} (h : FRP w u) (h' : FRP u v) : FRP w v := fun k k1 => (h' k k1).trans (h k k1)
theorem l_worked {nm : Int → Int} {e : Int} {K : WD → Option (Int × WD)} {Q : Int → WD → Prop} (he : 0 ≤ e ∧ e ≤ 130) : ∀ (t : List Int) (f : Nat) (x n : Int) (st : List Int) (m : Nat) (w : WD), TKS t → okp t st.length = some m → StepsAre (w 58) (w 59) x t → 0 ≤ x → x + t.length = e → st.length + t.length ≤ 130 → n = st.length → StIs (w 64) st → NMS nm (w 63) → t.length < f →
    (∀ u, FRP w u → StIs (u 64) (exl nm t st) → (exl nm t st).length = m → WI (K u) Q) → WI (fR_worked_l12 0 e K f n x w) Q
  | [], 0, x, n, st, m, w, _, _, _, _, _, _, _, _, _, hf, _ => by exfalso; simp at hf
  | c :: t, 0, x, n, st, m, w, _, _, _, _, _, _, _, _, _, hf, _ => by exfalso; simp at hf
  | [], f + 1, x, n, st, m, w, _, hk, _, h0, h1, _, _, hs, _, hf, h => by
    show WI (fR_worked_l12_b (fR_worked_l12 0 e K f) 0 e K n x w) Q
    unfold fR_worked_l12_b
    rw [List.length_nil] at h1
    rw [w32_i (x := 130 * 0) (by omega) (by omega), w32_i (x := 130 * 0 + e) (by omega) (by omega)]
    exact i_if (fun _ => h w FRP.rf hs (by unfold okp at hk; cases hk; rfl)) (fun q => by exfalso; omega)
  | c :: t, f + 1, x, n, st, m, w, hT, hk, hr, h0, h1, h3, hn, hs, hm, hf, h => by
    obtain ⟨c0, cT⟩ := TKS_cons hT
    obtain ⟨⟨ra, rv⟩, r1⟩ := StepsAre_cons.mp hr
    obtain ⟨k0, k1⟩ := okp_cons hk
    rw [List.length_cons] at h1 h3 hf
    have el := ex1_len (nm := nm) k0
    have hk' : okp t (ex1 nm c st).length = some m := by
      rw [el]
      rcases k1 with ⟨z1, z2⟩ | ⟨z1, z2, z3⟩ | ⟨z1, z2, z3⟩
      · rw [if_pos z1]; exact z2
      · rw [if_neg (by omega), if_pos z2]; exact z3
      · rw [if_neg (by omega), if_neg z2]; exact z3
    have hl' : (ex1 nm c st).length ≤ st.length + 1 := by
      rw [el]
      split
      · omega
      · split <;> omega
    have go : ∀ (u : WD) (n' : Int), FRP w u → n' = (ex1 nm c st).length → StIs (u 64) (ex1 nm c st) → WI (fR_worked_l12 0 e K f n' (x + 1) u) Q := by
      intro u n' hu hn' us
      exact l_worked he t f (x + 1) n' (ex1 nm c st) m u cT hk' (by rw [hu 58 (by decide), hu 59 (by decide)]; exact r1) (by omega) (by omega) (by omega) hn' us (by rw [hu 63 (by decide)]; exact hm) (by omega) (fun v v1 v2 v3 => h v (hu.tr v1) v2 v3)
    show WI (fR_worked_l12_b (fR_worked_l12 0 e K f) 0 e K n x w) Q
    unfold fR_worked_l12_b
    rw [w32_i (x := 130 * 0) (by omega) (by omega), w32_i (x := 130 * 0 + e) (by omega) (by omega), ra, w32_i (x := x + 1) (by omega) (by omega)]
    unfold TK at c0
    unfold need at k0
    unfold ex1 at go
    unfold ex1 at el
    refine i_if (fun q => by exfalso; omega) (fun _ => i_ck (by omega) (i_bv (i_jn (i_jn ?_))))
    by_cases h10 : 10000 ≤ c
    · have ea : AC c = 2 := by unfold AC; rw [if_pos h10]
      have ev : AV c = c - 10000 := by unfold AV; rw [if_pos h10]
      rw [ea]
      rw [ev] at rv
      simp only [if_pos h10] at go
      refine i_if (fun q => by exfalso; omega) (fun _ => i_if (fun q => absurd rfl q) (fun _ => i_jn (i_if (fun _ => i_ck (by omega) ?_) (fun q => absurd (by decide) q))))
      rw [rv]
      refine i_ck (by omega) (i_ck (by omega) (i_bw (i_bv (i_bv ?_))))
      rw [hm _ (by omega) (by omega), w32_i (x := n + 1) (by omega) (by omega)]
      refine go _ _ (fun k k1 => by simp (disch := omega) only [not_true_eq_false, not_false_eq_true, true_and, and_true, up_r, up_k, ur_s, ur_e, ur_i, cp_k, w32_i, w64_i, w8_i]) (by rw [List.length_cons]; omega) ⟨?_, ?_⟩
      · rw [up_r, hn, ur_s]
      · refine StIs_of hs (fun i i0 i1 => ?_)
        simp (disch := omega) only [not_true_eq_false, not_false_eq_true, true_and, and_true, up_r, up_k, ur_s, ur_e, ur_i, cp_k, w32_i, w64_i, w8_i]
    · rw [if_neg h10] at go el
      by_cases h0' : 0 ≤ c
      · have ea : AC c = 1 := by unfold AC; rw [if_neg h10, if_pos h0']
        have ev : AV c = c := by unfold AV; rw [if_neg h10, if_pos h0']
        rw [ea]
        rw [ev] at rv
        rw [if_pos h0'] at go
        refine i_if (fun _ => i_jn (i_if (fun q => absurd rfl q) (fun _ => i_ck (by omega) ?_))) (fun q => absurd rfl q)
        rw [rv]
        refine i_ck (by omega) (i_bw (i_bv (i_bv ?_)))
        rw [w32_i (x := n + 1) (by omega) (by omega)]
        refine go _ _ (fun k k1 => by simp (disch := omega) only [not_true_eq_false, not_false_eq_true, true_and, and_true, up_r, up_k, ur_s, ur_e, ur_i, cp_k, w32_i, w64_i, w8_i]) (by rw [List.length_cons]; omega) ⟨?_, ?_⟩
        · rw [up_r, hn, ur_s]
        · refine StIs_of hs (fun i i0 i1 => ?_)
          simp (disch := omega) only [not_true_eq_false, not_false_eq_true, true_and, and_true, up_r, up_k, ur_s, ur_e, ur_i, cp_k, w32_i, w64_i, w8_i]
      · rw [if_neg h0'] at go k0
        have ev : AC c = if c = -1 then 4 else if c = -33 then 3 else -c := by unfold AC; rw [if_neg h10, if_neg h0']
        cases st with
        | nil =>
          exfalso
          by_cases q : c = -1 ∨ c = -33
          · rw [if_pos q] at k0; simp at k0
          · rw [if_neg q] at k0; simp at k0
        | cons a s =>
          rw [List.length_cons] at hn h3
          obtain ⟨s1, s2⟩ := hs
          have en : n - 1 = s.length := by omega
          by_cases q1 : c = -1
          · rw [if_pos q1] at ev
            rw [ev]
            simp only [if_pos q1] at go
            refine i_if (fun q => by exfalso; omega) (fun _ => i_if (fun _ => i_if (fun _ => i_if (fun q => absurd rfl q) (fun _ => ?_)) (fun q => absurd (by decide) q)) (fun q => absurd (by decide) q))
            rw [w32_i (x := n - 1) (by omega) (by omega), en, s1]
            refine i_ck (by omega) (i_ck (by omega) (i_bw (i_bv (go _ _ (fun k k1 => by simp (disch := omega) only [not_true_eq_false, not_false_eq_true, true_and, and_true, up_r, up_k, ur_s, ur_e, ur_i, cp_k, w32_i, w64_i, w8_i]) (by rw [List.length_cons]; omega) ⟨?_, ?_⟩))))
            · rw [up_r, ur_s]
            · refine StIs_of s2 (fun i i0 i1 => ?_)
              simp (disch := omega) only [not_true_eq_false, not_false_eq_true, true_and, and_true, up_r, up_k, ur_s, ur_e, ur_i, cp_k, w32_i, w64_i, w8_i]
          · rw [if_neg q1] at ev
            simp only [if_neg q1] at go
            by_cases q2 : c = -33
            · rw [if_pos q2] at ev
              rw [ev]
              simp only [if_pos q2] at go
              refine i_if (fun q => by exfalso; omega) (fun _ => i_if (fun _ => i_if (fun q => absurd rfl q) (fun _ => ?_)) (fun q => absurd (by decide) q))
              rw [w32_i (x := n - 1) (by omega) (by omega), en, s1]
              refine i_ck (by omega) (i_jn (i_if (fun z => ?_) (fun z => ?_)))
              · rw [if_pos z] at go
                refine i_ck (by omega) (i_bw (i_bv (go _ _ (fun k k1 => by simp (disch := omega) only [not_true_eq_false, not_false_eq_true, true_and, and_true, up_r, up_k, ur_s, ur_e, ur_i, cp_k, w32_i, w64_i, w8_i]) (by rw [List.length_cons]; omega) ⟨?_, ?_⟩)))
                · rw [up_r, ur_s]
                · refine StIs_of s2 (fun i i0 i1 => ?_)
                  simp (disch := omega) only [not_true_eq_false, not_false_eq_true, true_and, and_true, up_r, up_k, ur_s, ur_e, ur_i, cp_k, w32_i, w64_i, w8_i]
              · rw [if_neg z] at go
                refine i_ck (by omega) (i_bw (i_bv (go _ _ (fun k k1 => by simp (disch := omega) only [not_true_eq_false, not_false_eq_true, true_and, and_true, up_r, up_k, ur_s, ur_e, ur_i, cp_k, w32_i, w64_i, w8_i]) (by rw [List.length_cons]; omega) ⟨?_, ?_⟩)))
                · rw [up_r, ur_s]
                · refine StIs_of s2 (fun i i0 i1 => ?_)
                  simp (disch := omega) only [not_true_eq_false, not_false_eq_true, true_and, and_true, up_r, up_k, ur_s, ur_e, ur_i, cp_k, w32_i, w64_i, w8_i]
            · rw [if_neg q2] at ev
              rw [ev]
              simp only [if_neg q2] at go
              have tk : TK2 c := by unfold TK2; omega
              rw [if_neg (by omega)] at k0
              cases s with
              | nil => simp at k0
              | cons b s' =>
                obtain ⟨s3, s4⟩ := s2
                rw [List.length_cons] at h3 en
                have gt : -c = 37 ∨ -c = 38 ∨ -c = 42 ∨ -c = 43 ∨ -c = 45 ∨ -c = 47 ∨ -c = 60 ∨ -c = 61 ∨ -c = 62 ∨ -c = 124 := by unfold TK2 at tk; omega
                refine i_if (fun q => by exfalso; omega) (fun _ => i_if (fun _ => i_if (fun _ => i_if (fun _ => i_bv ?_) (fun q => by exfalso; omega)) (fun q => by exfalso; omega)) (fun q => by exfalso; omega))
                rw [show n + (-1) = n - 1 by omega, w32_i (x := n - 1) (by omega) (by omega), w32_i (x := n - 1 - 1) (by omega) (by omega)]
                have e1 : w 64 (n - 1) = a := by rw [en]; rw [List.length_cons] at s1; exact s1
                have e2 : w 64 (n - 1 - 1) = b := by rw [show n - 1 - 1 = (s'.length : Int) by omega]; exact s3
                rw [e1, e2]
                refine i_ck (by omega) (i_ck (by omega) (i_ci (s_twoOf tk (i_ck (by omega) (i_bw (i_bv (go _ _ (fun k k1 => by simp (disch := omega) only [not_true_eq_false, not_false_eq_true, true_and, and_true, up_r, up_k, ur_s, ur_e, ur_i, cp_k, w32_i, w64_i, w8_i]) (by rw [List.length_cons]; omega) ⟨?_, ?_⟩)))))))
                · rw [up_r, show n - 1 - 1 = (s'.length : Int) by omega, ur_s]
                · refine StIs_of s4 (fun i i0 i1 => ?_)
                  simp (disch := omega) only [not_true_eq_false, not_false_eq_true, true_and, and_true, up_r, up_k, ur_s, ur_e, ur_i, cp_k, w32_i, w64_i, w8_i]
theorem s_worked {nm : Int → Int} {b e : Int} {t : List Int} {w : WD} {Q : Int → WD → Prop} (ht : TERM t) (hb : 0 ≤ b) (he : b + t.length = e) (he' : e ≤ 130) (hr : StepsAre (w 58) (w 59) b t) (hm : NMS nm (w 63)) (h : ∀ u, FRP w u → Q (evT nm t) u) : WI (fR_worked 0 b e w) Q := by
  unfold fR_worked
  rw [w32_i (x := 130 * 0) (by omega) (by omega), w32_i (x := 130 * 0 + b) (by omega) (by omega), show 130 * 0 + b = b by omega]
  refine i_bv (l_worked (nm := nm) (by omega) t FU b 0 [] 1 w ht.2 ht.1 hr hb he (by simp; omega) rfl trivial hm (by unfold FU; omega) (fun u u1 u2 u3 => i_some ?_))
  rw [one_of u3] at u2
  have := u2.1
  rw [List.length_nil] at this
  rw [show u 64 0 = (exl nm t []).headD 0 from this]
  exact h u u1
theorem l_gives {nm : Int → Int} {Q : Int → WD → Prop} : ∀ (ls : List (List Int × List Int)) (f : Nat) (b l : Int) (w : WD), (∀ q ∈ ls, LINE q) → StepsAre (w 58) (w 59) b (flR ls) → 0 ≤ b → b + (flR ls).length ≤ 130 → 0 ≤ l → l + ls.length = w 60 0 → w 60 0 ≤ 61 → EndsAre (w 61) (w 62) l b ls → NMS nm (w 63) → ls.length < f →
    (∀ u, FRP w u → Q (evL nm ls) u) → WI (fR_gives_l7 0 (fun (v3_10 : Int) (u11 : WD) => ck (0 ≤ v3_10 ∧ v3_10 < 122) <| ck (0 ≤ v3_10 ∧ v3_10 < 122) <| ci (fR_worked 0 (u11 61 v3_10) (u11 62 v3_10) u11) <| fun (r13 : Int) (u12 : WD) => some (r13, u12)) f b l w) Q
  | _, 0, b, l, w, _, _, _, _, _, _, _, _, _, hf, _ => by exfalso; omega
  | [], f + 1, b, l, w, _, _, _, _, l0, l1, l2, _, _, _, h => by
    unfold fR_gives_l7 fR_gives_l7_b
    rw [List.length_nil] at l1
    rw [w32_i (x := 61 * 0) (by omega) (by omega), w32_i (x := 61 * 0 + w 60 0) (by omega) (by omega)]
    exact i_ck (by decide) (i_if (fun _ => i_some (h w FRP.rf)) (fun q => by exfalso; omega))
  | q :: ls, f + 1, b, l, w, hL, hr, b0, b1, l0, l1, l2, hE, hm, hf, h => by
    obtain ⟨t1, t2⟩ := hL q List.mem_cons_self
    have hL' : ∀ q' ∈ ls, LINE q' := fun q' hq => hL q' (List.mem_cons_of_mem q hq)
    obtain ⟨e1, e2, e3⟩ := hE
    have er : flR (q :: ls) = q.1 ++ q.2 ++ flR ls := rfl
    rw [er] at hr b1
    rw [List.length_append, List.length_append] at b1
    rw [List.length_cons] at l1 hf
    obtain ⟨ra, rb⟩ := StepsAre_app.mp hr
    obtain ⟨ra1, ra2⟩ := StepsAre_app.mp ra
    rw [List.length_append] at rb
    unfold evL at h
    have second : ∀ u : WD, FRP w u → (∀ v, FRP u v → Q (evT nm q.2) v) → WI (ck (0 ≤ l ∧ l < 122) <| ck (0 ≤ l ∧ l < 122) <| ci (fR_worked 0 (u 61 l) (u 62 l) u) <| fun (r13 : Int) (u12 : WD) => some (r13, u12)) Q := by
      intro u hu hq
      refine i_ck (by omega) (i_ck (by omega) (i_ci ?_))
      rw [hu 61 (by decide), hu 62 (by decide), e1, e2]
      exact s_worked (nm := nm) t2 (by omega) rfl (by omega) (by rw [hu 58 (by decide), hu 59 (by decide)]; exact ra2) (by rw [hu 63 (by decide)]; exact hm) (fun v v1 => i_some (hq v v1))
    show WI (fR_gives_l7_b (fR_gives_l7 0 _ f) 0 _ b l w) Q
    unfold fR_gives_l7_b
    rw [w32_i (x := 61 * 0) (by omega) (by omega), w32_i (x := 61 * 0 + w 60 0) (by omega) (by omega)]
    refine i_ck (by decide) (i_if (fun q => by exfalso; omega) (fun _ => i_ck (by omega) ?_))
    by_cases hq : q.1 = []
    · rw [if_pos (Or.inl hq)] at h
      have : w 61 l = b := by rw [e1, hq, List.length_nil]; omega
      exact i_if (fun _ => second w FRP.rf h) (fun z => absurd this z)
    · have hpos : 0 < q.1.length := List.length_pos_iff.mpr hq
      rcases t1 with t1 | t1
      · exact absurd t1 hq
      refine i_if (fun z => by exfalso; omega) (fun _ => i_ck (by omega) (i_ci ?_))
      rw [e1]
      refine s_worked (nm := nm) t1 b0 rfl (by omega) ra1 hm (fun u u1 => i_if (fun z => ?_) (fun z => ?_))
      · rw [if_neg (by intro y; rcases y with y | y; exact hq y; exact y z)] at h
        refine i_ck (by omega) (i_bv (i_bv ?_))
        rw [u1 62 (by decide), e2, w32_i (x := l + 1) (by omega) (by omega)]
        refine l_gives ls f _ (l + 1) u hL' ?_ (by omega) (by omega) (by omega) ?_ ?_ ?_ ?_ (by omega) (fun v v1 => h v (u1.tr v1))
        · rw [u1 58 (by decide), u1 59 (by decide), show b + (q.1.length : Int) + q.2.length = b + ((q.1.length + q.2.length : Nat) : Int) by omega]; exact rb
        · rw [u1 60 (by decide)]; omega
        · rw [u1 60 (by decide)]; omega
        · rw [u1 61 (by decide), u1 62 (by decide)]; exact e3
        · rw [u1 63 (by decide)]; exact hm
      · rw [if_pos (Or.inr z)] at h
        exact second u u1 (fun v v1 => h v (u1.tr v1))
