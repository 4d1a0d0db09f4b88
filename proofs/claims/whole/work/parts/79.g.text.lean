/-! THE TEXT OF A LAW, both alike -/
def KCt (u12 : WD) : Option (Int × WD) := if (u12 6 6) < (u12 6 5) then (some (0, u12)) else (some (1, u12))
def KRt (J : WD → Option (Int × WD)) (u14 : WD) : Option (Int × WD) := if 0 ≤ (u14 46 18) then (J u14) else (if (u14 46 16) ≤ (u14 46 17) then (J u14) else (cv (fR_wrong u14) <| fun (u29 : WD) => J u29))
def TXC (c : Int → Int) (n p : Int) (G : List (List Int × List Int) → Int → WD → WD → Prop) : Prop := ∀ (w u : WD) (ls : List (List Int × List Int)) (x : Int) (f : Nat) (Q : Int → WD → Prop), Cpr c n w 0 0 → Cst w 0 u p (flC ls) → ((flC ls).length : Int) ≤ p → 0 ≤ x → x ≤ p → n - p < f → (∀ r v, G ls r w v → Q r v) → WI (fLa_readText_l2 KCt f x u) Q
def TXR (c : Int → Int) (n p : Int) (G : List (List Int × List Int) → WD → WD → Prop) : Prop := ∀ (w u : WD) (ls : List (List Int × List Int)) (y : Int) (f : Nat) (J : WD → Option (Int × WD)) (Q : Int → WD → Prop), Rtp c n w → Tst w u p ls → 2 * (ls.length : Int) ≤ p → ((flR ls).length : Int) ≤ p → n - p < f → (∀ v, G ls w v → WI (J v) Q) → WV (fR_line u) (fun v => WI (fR_readText_l31 y (KRt J) f v) Q)
def GCy (n : Int) (lns : List (List Int × List Int)) (ls : List (List Int × List Int)) (r : Int) (w v : WD) : Prop := r = 1 ∧ Cst w 0 v n (flC (ls ++ lns)) ∧ ((flC (ls ++ lns)).length : Int) ≤ 121
def GRy (n : Int) (lns : List (List Int × List Int)) (ls : List (List Int × List Int)) (w v : WD) : Prop := Tst w v n (ls ++ lns) ∧ ((ls ++ lns).length : Int) ≤ 61 ∧ ((flR (ls ++ lns)).length : Int) ≤ 120
def GCn (q : Int) (_ : List (List Int × List Int)) (r : Int) (w v : WD) : Prop := r = 0 ∧ Cfr w v ∧ v 6 6 = q
def GRn (q : Int) (_ : List (List Int × List Int)) (w v : WD) : Prop := Ltf w v ∧ v 46 18 = q
theorem text_ok {c : Int → Int} {n : Int} (hL : LTR c n) : ∀ (m : Nat) (p : Int), n - p < m → 0 ≤ p → p ≤ n →
    (∃ lns, lns ≠ [] ∧ (∀ ln ∈ lns, LINE ln) ∧ TXC c n p (GCy n lns) ∧ TXR c n p (GRy n lns)) ∨ ∃ q, 0 ≤ q ∧ q ≤ n ∧ TXC c n p (GCn q) ∧ TXR c n p (GRn q)
  | 0, p, hm, h0, h1 => absurd hm (by omega)
  | m + 1, p, hm, h0, h1 => by
    have n120 := hL.2.1
    rcases line_ok hL h0 h1 with ⟨q, ln, x1, x2, x3, x4, x5, lc, lr⟩ | ⟨q, x1, x2, lc, lr⟩
    · have lenC : ∀ ls : List (List Int × List Int), ((flC (ls ++ [ln])).length : Int) = (flC ls).length + (lineC ln).length := fun ls => by rw [flC_app, List.length_append]; omega
      have lenR : ∀ ls : List (List Int × List Int), ((flR (ls ++ [ln])).length : Int) = (flR ls).length + (ln.1.length + ln.2.length) := fun ls => by rw [flR_app]; simp only [List.length_append]; omega
      by_cases h59 : CHr c n q = 59
      · obtain ⟨qn, _⟩ := CH_lt (c := c) (n := n) (p := q) (by omega)
        have eq : RHr c n q = 59 := (RH_iff hL (by omega) (by omega) (by omega)).mpr h59
        have cc : ∀ G : List (List Int × List Int) → Int → WD → WD → Prop, TXC c n (q + 1) G → TXC c n p (fun ls => G (ls ++ [ln])) := by
          intro G hG w u ls x f Q hw hs hb x0 xp hf h
          obtain ⟨f, rfl⟩ : ∃ g, f = g + 1 := ⟨f - 1, by omega⟩
          show WI (fLa_readText_l2_b (fLa_readText_l2 KCt f) KCt x u) Q
          unfold fLa_readText_l2_b
          refine i_if (fun z => by exfalso; omega) (fun _ => i_ci (lc w u _ _ hw hs hb (fun v hv => ?_)))
          have hv' : Cst w 0 v q (flC (ls ++ [ln])) := by rw [flC_app]; exact hv
          refine i_if (fun _ => i_ci (s_next hL (Cst_pr hw hv') (by omega) (i_if (fun _ => i_bw (i_bv ?_)) (fun z => absurd h59 z)))) (fun z => by exfalso; omega)
          rw [hv'.2.1, w32_i (x := q + 1) (by omega) (by omega), w32_i (x := x + 1) (by omega) (by omega)]
          exact hG w _ (ls ++ [ln]) (x + 1) f Q hw (Cst_mv hv') (by rw [lenC]; omega) (by omega) (by omega) (by omega) h
        have rr : ∀ G : List (List Int × List Int) → WD → WD → Prop, TXR c n (q + 1) G → TXR c n p (fun ls => G (ls ++ [ln])) := by
          intro G hG w u ls y f J Q hw hs k1 k2 hf h
          refine lr w u ls _ hw hs k1 k2 (fun v hv => ?_)
          obtain ⟨f, rfl⟩ : ∃ g, f = g + 1 := ⟨f - 1, by omega⟩
          show WI (fR_readText_l31_b (fR_readText_l31 y (KRt J) f) y (KRt J) v) Q
          unfold fR_readText_l31_b
          have b3 := hv.2.2.1
          refine i_if (fun z => by exfalso; omega) (fun _ => i_ci (s_looks hL (Rtp_l hw hv.1) hv.2.1 (by omega) (i_if (fun z => absurd eq z) (fun _ => i_bw (i_cv ?_)))))
          rw [hv.2.1, w32_i (x := q + 1) (by omega) (by omega)]
          have hv' : Tst w (up v 46 17 (q + 1)) (q + 1) (ls ++ [ln]) := by
            obtain ⟨a1, a2, a3, a4, a5, a6, a7, a8⟩ := hv
            refine ⟨a1.tr (Ltf_46 (by omega)), up_s, ?_, ?_, ?_, ?_, ?_, ?_⟩
            · rw [up_i (by omega)]; exact a3
            · rw [up_i (by omega)]; exact a4
            · rw [up_i (by omega)]; exact a5
            · rw [up_k (by omega), up_k (by omega)]; exact a6
            · rw [up_k (by omega)]; exact a7
            · rw [up_k (by omega), up_k (by omega)]; exact a8
          exact hG w _ (ls ++ [ln]) y f J Q hw hv' (by rw [List.length_append]; simp; omega) (by rw [lenR]; omega) (by omega) h
        rcases text_ok hL m (q + 1) (by omega) (by omega) (by omega) with ⟨lns, y1, y2, y3, y4⟩ | ⟨q', y1, y2, y3, y4⟩
        · refine Or.inl ⟨ln :: lns, List.cons_ne_nil _ _, fun l hl => ?_, ?_, ?_⟩
          · rcases List.mem_cons.mp hl with z | z
            · rw [z]; exact x3
            · exact y2 l z
          · have := cc _ y3
            have e : (fun ls => GCy n lns (ls ++ [ln])) = GCy n (ln :: lns) := by
              funext ls r w v
              unfold GCy
              rw [List.append_assoc]
              rfl
            rw [e] at this
            exact this
          · have := rr _ y4
            have e : (fun ls => GRy n lns (ls ++ [ln])) = GRy n (ln :: lns) := by
              funext ls w v
              unfold GRy
              rw [List.append_assoc]
              rfl
            rw [e] at this
            exact this
        · exact Or.inr ⟨q', y1, y2, cc _ y3, rr _ y4⟩
      · have en := RH_iff (k := 59) (p := q) hL (by omega) (by omega) (by omega)
        have cc : ∀ (w u : WD) (ls : List (List Int × List Int)) (x : Int) (f : Nat) (Q : Int → WD → Prop), Cpr c n w 0 0 → Cst w 0 u p (flC ls) → ((flC ls).length : Int) ≤ p → 0 ≤ x → x ≤ p → n - p < f → (∀ v, Cst w 0 v q (flC (ls ++ [ln])) → WI (KCt v) Q) → WI (fLa_readText_l2 KCt f x u) Q := by
          intro w u ls x f Q hw hs hb x0 xp hf h
          obtain ⟨f, rfl⟩ : ∃ g, f = g + 1 := ⟨f - 1, by omega⟩
          show WI (fLa_readText_l2_b (fLa_readText_l2 KCt f) KCt x u) Q
          unfold fLa_readText_l2_b
          refine i_if (fun z => by exfalso; omega) (fun _ => i_ci (lc w u _ _ hw hs hb (fun v hv => ?_)))
          have hv' : Cst w 0 v q (flC (ls ++ [ln])) := by rw [flC_app]; exact hv
          exact i_if (fun _ => i_ci (s_next hL (Cst_pr hw hv') (by omega) (i_if (fun z => absurd z h59) (fun _ => h v hv')))) (fun z => by exfalso; omega)
        have rr : ∀ (w u : WD) (ls : List (List Int × List Int)) (y : Int) (f : Nat) (J : WD → Option (Int × WD)) (Q : Int → WD → Prop), Rtp c n w → Tst w u p ls → 2 * (ls.length : Int) ≤ p → ((flR ls).length : Int) ≤ p → n - p < f → (∀ v, Tst w v q (ls ++ [ln]) → WI (KRt J v) Q) → WV (fR_line u) (fun v => WI (fR_readText_l31 y (KRt J) f v) Q) := by
          intro w u ls y f J Q hw hs k1 k2 hf h
          refine lr w u ls _ hw hs k1 k2 (fun v hv => ?_)
          obtain ⟨f, rfl⟩ : ∃ g, f = g + 1 := ⟨f - 1, by omega⟩
          show WI (fR_readText_l31_b (fR_readText_l31 y (KRt J) f) y (KRt J) v) Q
          unfold fR_readText_l31_b
          have b3 := hv.2.2.1
          refine i_if (fun z => by exfalso; omega) (fun _ => i_ci (s_looks hL (Rtp_l hw hv.1) hv.2.1 (by omega) (i_if (fun _ => h v hv) (fun z => ?_))))
          exact absurd (en.mp (Decidable.not_not.mp z)) h59
        by_cases hqn : q = n
        · refine Or.inl ⟨[ln], List.cons_ne_nil _ _, fun l hl => by rw [List.mem_singleton.mp hl]; exact x3, ?_, ?_⟩
          · intro w u ls x f Q hw hs hb x0 xp hf h
            refine cc w u ls x f Q hw hs hb x0 xp hf (fun v hv => ?_)
            have e5 : v 6 5 = n := (Cst_pr hw hv).1
            rw [hqn] at hv
            have e6 := hv.2.1
            unfold KCt
            exact i_if (fun z => by exfalso; omega) (fun _ => i_some (h 1 v ⟨rfl, hv, by rw [lenC]; omega⟩))
          · intro w u ls y f J Q hw hs k1 k2 hf h
            refine rr w u ls y f J Q hw hs k1 k2 hf (fun v hv => ?_)
            have et := (Rtp_l hw hv.1).1
            have b3 := hv.2.2.1
            rw [hqn] at hv
            have b2 := hv.2.1
            have hg : GRy n [ln] ls w v := ⟨hv, by rw [List.length_append]; simp; omega, by rw [lenR]; omega⟩
            unfold KRt
            exact i_if (fun z => by exfalso; omega) (fun _ => i_if (fun _ => h v hg) (fun z => by exfalso; omega))
        · refine Or.inr ⟨q, by omega, x2, ?_, ?_⟩
          · intro w u ls x f Q hw hs hb x0 xp hf h
            refine cc w u ls x f Q hw hs hb x0 xp hf (fun v hv => ?_)
            have e5 : v 6 5 = n := (Cst_pr hw hv).1
            have e6 := hv.2.1
            unfold KCt
            exact i_if (fun _ => i_some (h 0 v ⟨rfl, hv.1, hv.2.1⟩)) (fun z => by exfalso; omega)
          · intro w u ls y f J Q hw hs k1 k2 hf h
            refine rr w u ls y f J Q hw hs k1 k2 hf (fun v hv => ?_)
            have et := (Rtp_l hw hv.1).1
            have b3 := hv.2.2.1
            have b2 := hv.2.1
            unfold KRt
            refine i_if (fun z => by exfalso; omega) (fun _ => i_if (fun z => by exfalso; omega) (fun _ => i_cv ?_))
            unfold fR_wrong
            refine v_if (fun z => by exfalso; omega) (fun _ => v_bw (v_some (h _ ⟨hv.1.tr (Ltf_46 (by omega)), ?_⟩)))
            rw [up_s]; exact b2
    · refine Or.inr ⟨q, by omega, x2, ?_, ?_⟩
      · intro w u ls x f Q hw hs hb x0 xp hf h
        obtain ⟨f, rfl⟩ : ∃ g, f = g + 1 := ⟨f - 1, by omega⟩
        show WI (fLa_readText_l2_b (fLa_readText_l2 KCt f) KCt x u) Q
        unfold fLa_readText_l2_b
        refine i_if (fun z => by exfalso; omega) (fun _ => i_ci (lc w u _ _ hw hs hb (fun r v v1 v2 v3 => ?_)))
        refine i_if (fun hr => ?_) (fun _ => i_some (h 0 v ⟨rfl, v1, v2⟩))
        rcases v3 with z | ⟨z1, z2⟩
        · exact absurd z hr
        have e : CHr c n q = c q := if_pos z1
        have e5 : v 6 5 = n := (Cpr_fr hw v1 v2).1
        refine i_ci (s_next hL (Cpr_fr hw v1 v2) (by omega) (i_if (fun z => by exfalso; omega) (fun _ => ?_)))
        unfold KCt
        exact i_if (fun _ => i_some (h 0 v ⟨rfl, v1, v2⟩)) (fun z => by exfalso; omega)
      · intro w u ls y f J Q hw hs k1 k2 hf h
        refine lr w u ls _ hw hs k1 k2 (fun v v1 v2 v3 => ?_)
        obtain ⟨f, rfl⟩ : ∃ g, f = g + 1 := ⟨f - 1, by omega⟩
        show WI (fR_readText_l31_b (fR_readText_l31 y (KRt J) f) y (KRt J) v) Q
        unfold fR_readText_l31_b KRt
        exact i_if (fun _ => i_if (fun _ => h v ⟨v1, v3⟩) (fun z => by exfalso; omega)) (fun z => by exfalso; omega)
