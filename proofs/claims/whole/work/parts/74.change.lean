def swp (a b i : Int) : Int := if i = a then b else if i = b then a else i
theorem l_xch48 {a b : Int} {P : WD → Prop} (ha : 0 ≤ a ∧ a < 5) (hb : 0 ≤ b ∧ b < 5) (hab : a ≠ b) : ∀ (k f : Nat) (p : Int) (u : WD), k + p = 7 → 0 ≤ p → k < f →
    (∀ v, (∀ k, k ≠ 14 → v k = u k) → (∀ i q, 0 ≤ i → i < 5 → 0 ≤ q → q < 7 → v 14 (7 * i + q) = if p ≤ q then u 14 (7 * swp a b i + q) else u 14 (7 * i + q)) → P v) → WV (fTh_exchange_l48 a b f p u) P
  | _, 0, p, u, _, _, h, _ => by exfalso; omega
  | 0, f + 1, p, u, hk, h0, h1, hP => by
    show WV (fTh_exchange_l48_b (fTh_exchange_l48 a b f) a b p u) P
    unfold fTh_exchange_l48_b
    exact v_if (fun _ => v_some (hP u (fun _ _ => rfl) (fun i q a' b' c d => by rw [if_neg (by omega)]))) (fun q => by exfalso; omega)
  | k + 1, f + 1, p, u, hk, h0, h1, hP => by
    show WV (fTh_exchange_l48_b (fTh_exchange_l48 a b f) a b p u) P
    unfold fTh_exchange_l48_b
    rw [w32_i (x := p + 1) (by omega) (by omega), w32_i (x := 7 * a) (by omega) (by omega), w32_i (x := 7 * b) (by omega) (by omega), w32_i (x := 7 * a + p) (by omega) (by omega), w32_i (x := 7 * b + p) (by omega) (by omega)]
    refine v_if (fun q => by exfalso; omega) (fun _ => v_ck (by omega) (v_bv (v_ck (by omega) (v_ck (by omega) (v_bw (v_ck (by omega) (v_bw (v_bv ?_))))))))
    refine l_xch48 ha hb hab k f (p + 1) _ (by omega) (by omega) (by omega) (fun v v1 v2 => hP v (fun k hk => by rw [v1 k hk, up_k hk, up_k hk]) (fun i q a' b' c d => ?_))
    rw [v2 i q a' b' c d]
    unfold swp
    by_cases e : q = p
    · subst e
      rw [if_neg (by omega), if_pos (Int.le_refl q), up_r, up_r]
      by_cases ia : i = a
      · rw [if_pos ia, ia, ur_i (by omega), ur_s]
      · rw [if_neg ia]
        by_cases ib : i = b
        · rw [if_pos ib, ib, ur_s]
        · rw [if_neg ib, ur_i (by omega), ur_i (by omega)]
    · rw [up_r, up_r]
      by_cases hq : p + 1 ≤ q
      · rw [if_pos hq, if_pos (show p ≤ q by omega)]
        split
        · rw [ur_i (by omega), ur_i (by omega)]
        · split
          · rw [ur_i (by omega), ur_i (by omega)]
          · rw [ur_i (by omega), ur_i (by omega)]
      · rw [if_neg hq, if_neg (show ¬ p ≤ q by omega), ur_i (by omega), ur_i (by omega)]
theorem t_exchangeC {w u : WD} {law : Option LINES} {sn : Int → Int → Int} {may : Int → Int} {a b : Int} {P : WD → Prop} (h : TP w law) (hT : TH w law (Wf w law sn) may u) (ha : 0 ≤ a ∧ a < w 1 5) (hb : 0 ≤ b ∧ b < w 1 5) (hab : a ≠ b) (hP : ∀ v, TH w law (Wf w law (fun i => sn (swp a b i))) may v → (∀ i, v 18 i = u 18 (swp a b i)) → P v) : WV (fTh_exchange a b u) P := by
  unfold fTh_exchange
  have m5 := h.2.2.1.2.2.2
  obtain ⟨h1, h2, h3, h4, h5⟩ := id hT
  refine v_if (fun q => by exfalso; omega) (fun _ => v_if (fun q => by exfalso; omega) (fun _ => v_if (fun q => by exfalso; omega) (fun _ => v_if (fun _ => v_ck (by omega) (v_bv (v_ck (by omega) (v_ck (by omega) (v_bw (v_ck (by omega) (v_bw ?_))))))) (fun q => by exfalso; omega))))
  refine l_xch48 (by omega) (by omega) hab 7 FU 0 _ (by decide) (by decide) (by decide) (fun v v1 v2 => hP v ⟨?_, ?_, fun i q a' b' c d => ?_, ?_, ?_⟩ (fun i => ?_))
  · have e1 : Same w (up (up u 18 a (u 18 b)) 18 b (u 18 a)) := sm_up (sm_up h1 (by decide) (by decide) (by decide)) (by decide) (by decide) (by decide)
    exact e1.trans ⟨fun k hk => v1 k (by intro e; subst e; exact hk (by decide)), by rw [v1 6 (by decide)], by rw [v1 6 (by decide)], fun i _ => by rw [v1 46 (by decide)]⟩
  · intro p s x a' b' c d e f
    rw [v1 13 (by decide), up_k (by decide), up_k (by decide)]
    exact h2 p s x a' b' c d e f
  · rw [v2 i q a' (by omega) c d, if_pos c, up_k (by decide), up_k (by decide), h3 (swp a b i) q (by unfold swp; split <;> (try split) <;> omega) (by unfold swp; split <;> (try split) <;> omega) c d]
    rfl
  · rw [v1 15 (by decide), up_k (by decide), up_k (by decide)]; exact h4
  · rw [v1 12 (by decide), up_k (by decide), up_k (by decide)]; exact h5
  · rw [v1 18 (by decide), up_r, up_r]
    unfold swp
    by_cases ib : i = b
    · rw [ib, ur_s, if_neg (fun e => hab e.symm), if_pos rfl]
    · rw [ur_i ib]
      by_cases ia : i = a
      · rw [ia, ur_s, if_pos rfl]
      · rw [ur_i ia, if_neg ia, if_neg ib]
theorem l_xchR {a b : Int} {K : WD → Option WD} {P : WD → Prop} (ha : 0 ≤ a ∧ a < 5) (hb : 0 ≤ b ∧ b < 5) (hab : a ≠ b) : ∀ (k f : Nat) (s : Int) (u : WD), k + s = 3 → 0 ≤ s → k < f →
    (∀ v, (∀ k, k ≠ 49 → v k = u k) → (∀ i e, 0 ≤ i → i < 5 → 0 ≤ e → e < 3 → v 49 (3 * i + e) = if s ≤ e then u 49 (3 * swp a b i + e) else u 49 (3 * i + e)) → (∀ j, (j < 0 ∨ 15 ≤ j) → v 49 j = u 49 j) → WV (K v) P) → WV (fR_exchange_l2 a b K f s u) P
  | _, 0, s, u, _, _, h, _ => by exfalso; omega
  | 0, f + 1, s, u, hk, h0, h1, hP => by
    show WV (fR_exchange_l2_b (fR_exchange_l2 a b K f) a b K s u) P
    unfold fR_exchange_l2_b
    exact v_if (fun _ => hP u (fun _ _ => rfl) (fun i q a' b' c d => by rw [if_neg (by omega)]) (fun _ _ => rfl)) (fun q => by exfalso; omega)
  | k + 1, f + 1, s, u, hk, h0, h1, hP => by
    show WV (fR_exchange_l2_b (fR_exchange_l2 a b K f) a b K s u) P
    unfold fR_exchange_l2_b
    rw [w32_i (x := s + 1) (by omega) (by omega), w32_i (x := 3 * a) (by omega) (by omega), w32_i (x := 3 * b) (by omega) (by omega), w32_i (x := 3 * a + s) (by omega) (by omega), w32_i (x := 3 * b + s) (by omega) (by omega)]
    refine v_if (fun q => by exfalso; omega) (fun _ => v_ck (by omega) (v_bv (v_ck (by omega) (v_ck (by omega) (v_bw (v_ck (by omega) (v_bw (v_bv ?_))))))))
    refine l_xchR ha hb hab k f (s + 1) _ (by omega) (by omega) (by omega) (fun v v1 v2 v3 => hP v (fun k hk => by rw [v1 k hk, up_k hk, up_k hk]) (fun i q a' b' c d => ?_) (fun j hj => by rw [v3 j hj, up_r, up_r, ur_i (by omega), ur_i (by omega)]))
    rw [v2 i q a' b' c d]
    unfold swp
    by_cases e : q = s
    · subst e
      rw [if_neg (by omega), if_pos (Int.le_refl q), up_r, up_r]
      by_cases ia : i = a
      · rw [if_pos ia, ia, ur_i (by omega), ur_s]
      · rw [if_neg ia]
        by_cases ib : i = b
        · rw [if_pos ib, ib, ur_s]
        · rw [if_neg ib, ur_i (by omega), ur_i (by omega)]
    · rw [up_r, up_r]
      by_cases hq : s + 1 ≤ q
      · rw [if_pos hq, if_pos (show s ≤ q by omega)]
        split
        · rw [ur_i (by omega), ur_i (by omega)]
        · split
          · rw [ur_i (by omega), ur_i (by omega)]
          · rw [ur_i (by omega), ur_i (by omega)]
      · rw [if_neg hq, if_neg (show ¬ s ≤ q by omega), ur_i (by omega), ur_i (by omega)]
/-- seen and truth exchanged -/
theorem s_exchangeR {u : WD} {a b : Int} {P : WD → Prop} (ha : 0 ≤ a ∧ a < 5) (hb : 0 ≤ b ∧ b < 5) (hab : a ≠ b) (hP : ∀ v, (∀ k, k ≠ 49 → k ≠ 71 → v k = u k) → (∀ i e, 0 ≤ i → i < 5 → 0 ≤ e → e < 3 → v 49 (3 * i + e) = u 49 (3 * swp a b i + e)) → (∀ j, (j < 0 ∨ 15 ≤ j) → v 49 j = u 49 j) → (∀ i, v 71 i = u 71 (swp a b i)) → P v) : WV (fR_exchange a b u) P := by
  unfold fR_exchange
  refine l_xchR ha hb hab 3 FU 0 u (by decide) (by decide) (by decide) (fun v v1 v2 v3 => v_ck ha (v_bv (v_ck hb (v_ck ha (v_bw (v_ck hb (v_bw (v_some (hP _ (fun k k1 k2 => ?_) (fun i e a' b' c d => ?_) (fun j hj => ?_) (fun i => ?_))))))))))
  · rw [up_k k2, up_k k2, v1 k k1]
  · rw [up_k (by decide), up_k (by decide), v2 i e a' b' c d, if_pos c]
  · rw [up_k (by decide), up_k (by decide), v3 j hj]
  · rw [up_r, up_r, v1 71 (by decide)]
    unfold swp
    by_cases ib : i = b
    · rw [ib, ur_s, if_neg (fun e => hab e.symm), if_pos rfl]
    · rw [ur_i ib]
      by_cases ia : i = a
      · rw [ia, ur_s, if_pos rfl]
      · rw [ur_i ia, if_neg ia, if_neg ib]
theorem swp_swp {a b i : Int} (hab : a ≠ b) : swp a b (swp a b i) = i := by
  unfold swp
  by_cases ia : i = a
  · rw [if_pos ia, if_neg (fun e => hab e.symm), if_pos rfl, ia]
  · rw [if_neg ia]
    by_cases ib : i = b
    · rw [if_pos ib, if_pos rfl, ib]
    · rw [if_neg ib, if_neg ia, if_neg ib]
/-- CHANGE: (least, which) -/
def CH1 (Z : Int → Int) (a M : Int) : Nat → Int × Int → Int → Int × Int
  | 0, st, _ => st
  | f + 1, st, b => if M ≤ b then st else CH1 Z a M f (if Z b < st.1 then (Z b, 10 * a + b) else st) (b + 1)
def CH0 (Z : Int → Int → Int) (M : Int) : Nat → Int × Int → Int → Int
  | 0, st, _ => st.2
  | f + 1, st, a => if M ≤ a then st.2 else CH0 Z M f (CH1 (Z a) a M FU st (a + 1)) (a + 1)
noncomputable def ZCH (w : WD) (law : Option LINES) (c : Int → Int) (a b : Int) : Int := FOU w law (fun i => SN w (swp a b i)) (fun i => c (swp a b i))
theorem l_change61 {w : WD} {law : Option LINES} {c : Int → Int} {a : Int} {K : Int → Int → WD → Option (Int × WD)} {Q : Int → WD → Prop} (h : TP w law) (ha : 0 ≤ a ∧ a < w 1 5) (hc : ∀ i, 0 ≤ i → i < w 1 5 → 0 ≤ c i ∧ c i < 7) : ∀ (f : Nat) (st : Int × Int) (b : Int) (u : WD), a < b → b ≤ w 1 5 → w 1 5 - b < f → TH w law (Wf w law (SN w)) (MAYw w) u → (∀ i, 0 ≤ i → i < w 1 5 → u 18 i = c i) →
    (∀ v, TH w law (Wf w law (SN w)) (MAYw w) v → (∀ i, 0 ≤ i → i < w 1 5 → v 18 i = c i) → WI (K (CH1 (ZCH w law c a) a (w 1 5) f st b).1 (CH1 (ZCH w law c a) a (w 1 5) f st b).2 v) Q) → WI (fB_change_l61 a K f st.1 st.2 b u) Q
  | 0, st, b, u, _, _, h, _, _, _ => by exfalso; omega
  | f + 1, st, b, u, h0, h1, h2, hT, h18, hK => by
    show WI (fB_change_l61_b (fB_change_l61 a K f) a K st.1 st.2 b u) Q
    unfold fB_change_l61_b fHa_masks
    unfold CH1 at hK
    have m5 := h.2.2.1.2.2.2
    have sin : ∀ i, 0 ≤ i → i < w 1 5 → 0 ≤ swp a b i ∧ (b < w 1 5 → swp a b i < w 1 5) := fun i x y => by unfold swp; split <;> (try split) <;> omega
    rw [w32_i (x := b + 1) (by omega) (by omega), w32_i (x := 10 * a) (by omega) (by omega), w32_i (x := 10 * a + b) (by omega) (by omega)]
    refine i_ci (i_some ?_)
    rw [hT.1.r 1 (by decide)]
    refine i_if (fun q => ?_) (fun q => i_cv (t_exchangeC h hT ha ⟨by omega, by omega⟩ (by omega) (fun v v1 v2 => i_ci (s_foundOutC (c := fun i => c (swp a b i)) h v1 (fun i x y => ⟨?_, hc _ (sin i x y).1 ((sin i x y).2 (by omega))⟩) (fun y y1 => i_cv (t_exchangeC h (TH_t v1 y1) ha ⟨by omega, by omega⟩ (by omega) (fun z z1 z2 => i_jn ?_)))))))
    · rw [if_pos q] at hK
      exact hK u hT h18
    · rw [v2 i, h18 _ (sin i x y).1 ((sin i x y).2 (by omega))]
    · rw [if_neg q] at hK
      have zT : TH w law (Wf w law (SN w)) (MAYw w) z := TH_sn z1 (fun i s _ _ _ _ => by show SN w (swp a b (swp a b i)) s = _; rw [swp_swp (by omega)])
      have z18 : ∀ i, 0 ≤ i → i < w 1 5 → z 18 i = c i := fun i x y' => by
        rw [z2 i, y1 18 (by decide) (by decide), v2, swp_swp (by omega)]
        exact h18 i x y'
      refine i_if (fun d => i_bv ?_) (fun d => i_bv (i_bv ?_))
      · have d' : ¬ ZCH w law c a b < st.1 := by unfold ZCH; omega
        rw [if_neg d'] at hK
        exact l_change61 h ha hc f st (b + 1) z (by omega) (by omega) (by omega) zT z18 hK
      · have d' : ZCH w law c a b < st.1 := by unfold ZCH; omega
        rw [if_pos d'] at hK
        exact l_change61 h ha hc f (_, _) (b + 1) z (by omega) (by omega) (by omega) zT z18 hK
theorem l_change43 {w : WD} {law : Option LINES} {c : Int → Int} {Q : Int → WD → Prop} (h : TP w law) (hc : ∀ i, 0 ≤ i → i < w 1 5 → 0 ≤ c i ∧ c i < 7) : ∀ (f : Nat) (st : Int × Int) (a : Int) (u : WD), 0 ≤ a → a ≤ w 1 5 → w 1 5 - a < f → TH w law (Wf w law (SN w)) (MAYw w) u → (∀ i, 0 ≤ i → i < w 1 5 → u 18 i = c i) → (∀ v, Same w v → Q (CH0 (ZCH w law c) (w 1 5) f st a) v) → WI (fB_change_l43 f st.1 st.2 a u) Q
  | 0, st, a, u, _, _, h, _, _, _ => by exfalso; omega
  | f + 1, st, a, u, h0, h1, h2, hT, h18, hQ => by
    show WI (fB_change_l43_b (fB_change_l43 f) st.1 st.2 a u) Q
    unfold fB_change_l43_b fHa_masks
    unfold CH0 at hQ
    have m5 := h.2.2.1.2.2.2
    rw [w32_i (x := a + 1) (by omega) (by omega)]
    refine i_ci (i_some ?_)
    rw [hT.1.r 1 (by decide)]
    refine i_if (fun q => i_some ?_) (fun q => i_bv ?_)
    · have e := hQ u hT.1; rw [if_pos q] at e; exact e
    · simp only [if_neg q] at hQ
      exact l_change61 h ⟨h0, by omega⟩ hc FU st (a + 1) u (by omega) (by omega) (by unfold FU; omega) hT h18 (fun v v1 v2 => i_bv (l_change43 h hc f _ (a + 1) v (by omega) (by omega) (by omega) v1 v2 hQ))
theorem l_change60 {w : WD} {law : Option LINES} {c : Int → Int} {a : Int} {K : Int → Int → WD → Option (Int × WD)} {Q : Int → WD → Prop} (h : TP w law) (ha : 0 ≤ a ∧ a < w 1 5) (hc : ∀ i, 0 ≤ i → i < w 1 5 → 0 ≤ c i ∧ c i < 7) : ∀ (f : Nat) (st : Int × Int) (b : Int) (u : WD), a < b → b ≤ w 1 5 → w 1 5 - b < f → Same w u → (∀ i, 0 ≤ i → i < w 1 5 → u 71 i = c i) →
    (∀ v, Same w v → (∀ i, 0 ≤ i → i < w 1 5 → v 71 i = c i) → WI (K (CH1 (ZCH w law c a) a (w 1 5) f st b).2 (CH1 (ZCH w law c a) a (w 1 5) f st b).1 v) Q) → WI (fR_change_l60 a K f st.2 st.1 b u) Q
  | 0, st, b, u, _, _, h, _, _, _ => by exfalso; omega
  | f + 1, st, b, u, h0, h1, h2, hu, h71, hK => by
    show WI (fR_change_l60_b (fR_change_l60 a K f) a K st.2 st.1 b u) Q
    unfold fR_change_l60_b
    unfold CH1 at hK
    have m5 := h.2.2.1.2.2.2
    have sin : ∀ i, 0 ≤ i → i < w 1 5 → 0 ≤ swp a b i ∧ (b < w 1 5 → swp a b i < w 1 5) := fun i x y => by unfold swp; split <;> (try split) <;> omega
    rw [w32_i (x := b + 1) (by omega) (by omega), w32_i (x := 10 * a) (by omega) (by omega), w32_i (x := 10 * a + b) (by omega) (by omega), hu.f 4 (by decide), h.2.2.2.1]
    refine i_if (fun q => by rw [if_pos q] at hK; exact hK u hu h71) (fun q => ?_)
    rw [if_neg q] at hK
    refine i_cv (s_exchangeR (by omega) (by omega) (by omega) (fun v v1 v2 v3 v4 => i_ci ?_))
    have hw := TR_of h (Same.rfl' (w := w))
    have u49 := hu.r 49 (by decide)
    have vB : SameB u v := ⟨fun k hk k1 _ => v1 k k1 (by intro e; subst e; exact hk (by decide)), by rw [v1 6 (by decide) (by decide)], by rw [v1 6 (by decide) (by decide)], fun i _ => by rw [v1 46 (by decide) (by decide)]⟩
    have hR : TR w (fun i => SN w (swp a b i)) (MAYw w) v := by
      refine ⟨(SameB.of hu).trans vB, fun i e x y s t => ?_, fun i x y => ?_⟩
      · have si := sin i x y
        have q' := hw.2.1 (swp a b i) e si.1 (si.2 (by omega)) s t
        rw [v2 i e x (by omega) s t, u49]
        exact q'
      · rw [v1 50 (by decide) (by decide), hu.r 50 (by decide)]
        exact hw.2.2 i x y
    refine s_foundOutR (c := fun i => c (swp a b i)) h hR (fun i x y => ⟨by rw [v4 i, h71 _ (sin i x y).1 ((sin i x y).2 (by omega))], hc _ (sin i x y).1 ((sin i x y).2 (by omega))⟩) (fun y y1 => i_cv (s_exchangeR (by omega) (by omega) (by omega) (fun z z1 z2 z3 z4 => i_jn ?_)))
    have zB : SameB y z := ⟨fun k hk k1 _ => z1 k k1 (by intro e; subst e; exact hk (by decide)), by rw [z1 6 (by decide) (by decide)], by rw [z1 6 (by decide) (by decide)], fun i _ => by rw [z1 46 (by decide) (by decide)]⟩
    have zs : Same w z := by
      refine ((((SameB.of hu).trans vB).trans y1.sameB).trans zB).back ?_ ?_
      · funext j
        by_cases hj : j < 0 ∨ 15 ≤ j
        · rw [z3 j hj, y1.1 49 (by decide) (by decide), v3 j hj, u49]
        · have ej : j = 3 * (j / 3) + j % 3 := by omega
          have si : 0 ≤ swp a b (j / 3) ∧ swp a b (j / 3) < 5 := by unfold swp; split <;> (try split) <;> omega
          rw [ej, z2 (j / 3) (j % 3) (by omega) (by omega) (by omega) (by omega), y1.1 49 (by decide) (by decide), v2 _ (j % 3) si.1 si.2 (by omega) (by omega), swp_swp (by omega), u49]
      · rw [z1 50 (by decide) (by decide), y1.1 50 (by decide) (by decide), v1 50 (by decide) (by decide)]
        exact hu.r 50 (by decide)
    have z71 : ∀ i, 0 ≤ i → i < w 1 5 → z 71 i = c i := fun i x y' => by
      rw [z4 i, y1.1 71 (by decide) (by decide), v4, swp_swp (by omega)]
      exact h71 i x y'
    refine i_if (fun d => i_bv (i_bv ?_)) (fun d => i_bv ?_)
    · have d' : ZCH w law c a b < st.1 := d
      rw [if_pos d'] at hK
      exact l_change60 h ha hc f (_, _) (b + 1) z (by omega) (by omega) (by omega) zs z71 hK
    · have d' : ¬ ZCH w law c a b < st.1 := d
      rw [if_neg d'] at hK
      exact l_change60 h ha hc f st (b + 1) z (by omega) (by omega) (by omega) zs z71 hK
theorem l_change45 {w : WD} {law : Option LINES} {c : Int → Int} {Q : Int → WD → Prop} (h : TP w law) (hc : ∀ i, 0 ≤ i → i < w 1 5 → 0 ≤ c i ∧ c i < 7) : ∀ (f : Nat) (st : Int × Int) (a : Int) (u : WD), 0 ≤ a → a ≤ w 1 5 → w 1 5 - a < f → Same w u → (∀ i, 0 ≤ i → i < w 1 5 → u 71 i = c i) → (∀ v, Same w v → Q (CH0 (ZCH w law c) (w 1 5) f st a) v) → WI (fR_change_l45 f st.2 st.1 a u) Q
  | 0, st, a, u, _, _, h, _, _, _ => by exfalso; omega
  | f + 1, st, a, u, h0, h1, h2, hu, h71, hQ => by
    show WI (fR_change_l45_b (fR_change_l45 f) st.2 st.1 a u) Q
    unfold fR_change_l45_b
    unfold CH0 at hQ
    have m5 := h.2.2.1.2.2.2
    rw [w32_i (x := a + 1) (by omega) (by omega), hu.f 4 (by decide), h.2.2.2.1]
    refine i_if (fun q => i_some ?_) (fun q => i_bv ?_)
    · have e := hQ u hu; rw [if_pos q] at e; exact e
    · simp only [if_neg q] at hQ
      exact l_change60 h ⟨h0, by omega⟩ hc FU st (a + 1) u (by omega) (by omega) (by unfold FU; omega) hu h71 (fun v v1 v2 => i_bv (l_change45 h hc f _ (a + 1) v (by omega) (by omega) (by omega) v1 v2 hQ))
theorem op_change : op1 Inv fB_change fR_change := by
  intro o w hoI hI
  obtain ⟨law, tp⟩ := TP_of hI
  have hS := hI.2.2.2.2.2.2.1
  have p6 := tp.2.2.1.2.1
  have m0 := tp.2.2.1.2.2.1
  have m5 := tp.2.2.1.2.2.2
  refine same_of ?_
  by_cases ho : 0 ≤ o ∧ o < 6
  · have bf := BF_neg (w := w) (o := o)
    have ref : ∀ (u : WD) (r : Int), Same w u → (BF w o ≠ 0 → r = BF w o) → (BF w o = 0 → ¬ TRO w (w (35 + 2 * o)) (w (34 + 2 * o) 3) → r = -2) → (BF w o = 0 → TRO w (w (35 + 2 * o)) (w (34 + 2 * o) 3) → r = CH0 (ZCH w law (w (35 + 2 * o))) (w 1 5) FU (FOU w law (SN w) (w (35 + 2 * o)), -2) 0) → WI (fR_change o u) (fun r' y => r' = r ∧ Inv y) := by
      intro u r hu q1 q2 q3
      unfold fR_change
      refine i_ci (s_isShelfR (fun _ => i_if (fun _ => i_ci (s_rowFault ho ?_)) (fun q => absurd (by decide) q)) (fun q => absurd ho q))
      rw [BF_same hu]
      refine i_if (fun q => ?_) (fun q => i_ci (s_rowFault ho (i_some ⟨by rw [BF_same hu]; exact (q1 (by omega)).symm, Inv_same hI hu⟩)))
      have hq : BF w o = 0 := by omega
      refine i_ci (t_layTruth tp hS hq hu (fun tr v v1 v2 => i_if (fun _ => i_ci ?_) (fun q => absurd (by decide) q)) (fun tr v v1 => i_if (fun q => absurd rfl q) (fun _ => i_some ⟨(q2 hq tr).symm, Inv_same hI (hu.trans (same71 v1))⟩)))
      have vs := hu.trans (same71 v1)
      have c7 := TRO_7 tr p6
      refine s_foundOutR tp (TR_of tp vs) (fun i x y => ⟨v2 i x y, c7 i x y⟩) (fun y y1 => ?_)
      exact l_change45 tp c7 FU (FOU w law (SN w) (w (35 + 2 * o)), -2) 0 y (by decide) m0 (by unfold FU; omega) (vs.trans y1.same) (fun i x y' => by rw [y1.1 71 (by decide) (by decide)]; exact v2 i x y') (fun z z1 => ⟨(q3 hq tr).symm, Inv_same hI z1⟩)
    unfold fB_change
    refine i_ci (s_isShelfC (fun _ => i_if (fun _ => i_ci ?_) (fun q => absurd (by decide) q)) (fun q => absurd ho q))
    refine t_truthFault tp hS (fun hq => i_if (fun q => absurd q hq) (fun _ => i_some (ref w _ Same.rfl' (fun _ => rfl) (fun z => absurd z hq) (fun z => absurd z hq)))) (fun hq tr v v1 v2 => i_if (fun _ => i_cv (t_load tp (same18 v1) (fun y y1 y2 => i_ci ?_))) (fun q => absurd rfl q)) (fun hq tr v v1 => i_if (fun q => absurd q (by decide)) (fun _ => i_some (ref v _ (same18 v1) (fun z => absurd hq z) (fun _ _ => rfl) (fun _ z => absurd z tr))))
    have c7 := TRO_7 tr p6
    have y18 : ∀ i, 0 ≤ i → i < w 1 5 → y 18 i = w (35 + 2 * o) i := fun i a' b => by rw [y1 18 (by decide) (by decide) (by decide) (by decide) (by decide) (by decide) (by decide)]; exact v2 i a' b
    refine s_foundOutC tp y2 (fun i a b => ⟨y18 i a b, c7 i a b⟩) (fun z z1 => ?_)
    exact l_change43 tp c7 FU (FOU w law (SN w) (w (35 + 2 * o)), -2) 0 z (by decide) m0 (by unfold FU; omega) (TH_t y2 z1) (fun i x y' => by rw [z1 18 (by decide) (by decide)]; exact y18 i x y') (fun t t1 => ref t _ t1 (fun z => absurd hq z) (fun _ z => absurd tr z) (fun _ _ => rfl))
  · (repeat' (first | (with_reducible refine i_some ?_) | (with_reducible refine v_some ?_) | (with_reducible refine i_ci ?_) | (with_reducible refine i_cv ?_) | (with_reducible refine v_ci ?_) | (with_reducible refine v_cv ?_) | (with_reducible refine i_bv ?_) | (with_reducible refine v_bv ?_) | (with_reducible refine i_bw ?_) | (with_reducible refine v_bw ?_) | (with_reducible refine i_jn ?_) | (with_reducible refine v_jn ?_) | (with_reducible refine i_ck ?_ ?_) | (with_reducible refine v_ck ?_ ?_) | ((with_reducible refine i_if (fun hc => ?_) (fun hc => ?_)) <;> (try simp (disch := omega) only [not_true_eq_false, not_false_eq_true, true_and, and_true, up_r, up_k, ur_s, ur_e, ur_i, cp_k, w32_i, w64_i, w8_i] at hc) <;> (try (exfalso; omega))) | ((with_reducible refine v_if (fun hc => ?_) (fun hc => ?_)) <;> (try simp (disch := omega) only [not_true_eq_false, not_false_eq_true, true_and, and_true, up_r, up_k, ur_s, ur_e, ur_i, cp_k, w32_i, w64_i, w8_i] at hc) <;> (try (exfalso; omega))) | unfold fB_change | ((with_reducible apply s_isShelfC) <;> (try intro hvc) <;> (try simp (disch := omega) only [not_true_eq_false, not_false_eq_true, true_and, and_true, up_r, up_k, ur_s, ur_e, ur_i, cp_k, w32_i, w64_i, w8_i] at hvc) <;> (try (exfalso; omega))) | unfold fR_change | ((with_reducible apply s_isShelfR) <;> (try intro hvc) <;> (try simp (disch := omega) only [not_true_eq_false, not_false_eq_true, true_and, and_true, up_r, up_k, ur_s, ur_e, ur_i, cp_k, w32_i, w64_i, w8_i] at hvc) <;> (try (exfalso; omega)))))
    all_goals first | omega | exact ⟨rfl, hI⟩
/-- RIGHT -/
def RGT (g c : Int → Int) (sz M : Int) : Nat → Int → Int → Int
  | 0, n, _ => n
  | f + 1, n, x => if sz ≤ x ∨ M ≤ x then n else RGT g c sz M f (if g x = c x then w32 (n + 1) else n) (x + 1)
theorem l_right94 {w u : WD} {g c : Int → Int} {o : Int} {Q : Int → WD → Prop} (ho : 0 ≤ o ∧ o < 6) (hM : 0 ≤ w 1 5 ∧ w 1 5 ≤ 5) (hz : 0 ≤ w (34 + 2 * o) 3 ∧ w (34 + 2 * o) 3 ≤ 60) (hg : ∀ i, 0 ≤ i → i < w (34 + 2 * o) 3 → w (35 + 2 * o) i = g i) (hu : ∀ k, k ≠ 18 → u k = w k) (hc : ∀ i, 0 ≤ i → i < w 1 5 → u 18 i = c i) : ∀ (f : Nat) (n x : Int), 0 ≤ x → x ≤ w 1 5 → w 1 5 - x < f → Q (RGT g c (w (34 + 2 * o) 3) (w 1 5) f n x) u → WI (fB_right_l94 o f n x u) Q
  | 0, n, x, _, _, h, _ => by exfalso; omega
  | f + 1, n, x, h0, h1, h2, hQ => by
    show WI (fB_right_l94_b (fB_right_l94 o f) o n x u) Q
    unfold fB_right_l94_b fB_cardsOn fSh_size fHa_masks fTh_inWay
    unfold RGT at hQ
    rw [w32_i (x := x + 1) (by omega) (by omega)]
    refine i_ck ho (i_ci (i_ci (i_some (i_ci (i_some (i_some ?_))))))
    rw [hu (34 + 2 * o) (by omega), hu 1 (by decide)]
    refine i_if (fun q => i_some ?_) (fun q => i_ck ho (i_ci (s_shat (by rw [hu (34 + 2 * o) (by omega)]; unfold mn at q; split at q <;> omega) ?_)))
    · rw [if_pos (by unfold mn at q; split at q <;> omega)] at hQ
      exact hQ
    · have q' : ¬ (w (34 + 2 * o) 3 ≤ x ∨ w 1 5 ≤ x) := by unfold mn at q; split at q <;> omega
      rw [if_neg q'] at hQ
      rw [hu (35 + 2 * o) (by omega), hg x h0 (by omega)]
      refine i_ci (i_if (fun z => by exfalso; omega) (fun _ => i_if (fun z => by exfalso; omega) (fun _ => i_ck (by omega) (i_some (i_jn ?_)))))
      rw [hc x h0 (by omega)]
      refine i_if (fun z => i_bv ?_) (fun z => i_bv (i_bv ?_))
      · rw [if_neg z] at hQ
        exact l_right94 ho hM hz hg hu hc f n (x + 1) (by omega) (by omega) (by omega) hQ
      · rw [if_pos (Decidable.not_not.mp z)] at hQ
        exact l_right94 ho hM hz hg hu hc f _ (x + 1) (by omega) (by omega) (by omega) hQ
theorem l_right98 {u : WD} {g c : Int → Int} {ct o sz M : Int} {Q : Int → WD → Prop} (ho : 0 ≤ o ∧ o < 6) (eo : w32 (Int.tdiv ct 10) = o) (hM : 0 ≤ M ∧ M ≤ 5) (hz : 0 ≤ sz ∧ sz ≤ 60) (hb : ∀ k, 0 ≤ k → k < 60 → -128 ≤ g k ∧ g k ≤ 127) (e4 : u 46 4 = M) (e83 : u 83 o = sz) (e84 : ∀ k, 0 ≤ k → k < 60 → u 84 (60 * o + k) = g k) (hc : ∀ i, 0 ≤ i → i < M → u 71 i = c i) : ∀ (f : Nat) (n x : Int), 0 ≤ x → x ≤ M → M - x < f → Q (RGT g c sz M f n x) u → WI (fR_right_l98 ct f n x u) Q
  | 0, n, x, _, _, h, _ => by exfalso; omega
  | f + 1, n, x, h0, h1, h2, hQ => by
    show WI (fR_right_l98_b (fR_right_l98 ct f) ct n x u) Q
    unfold fR_right_l98_b fR_at
    unfold RGT at hQ
    rw [w32_i (x := x + 1) (by omega) (by omega), eo, e4, e83]
    refine i_if (fun q => i_some ?_) (fun q => i_ck ho (i_if (fun q' => i_some ?_) (fun q' => ?_)))
    · rw [if_pos (Or.inr q)] at hQ; exact hQ
    · rw [if_pos (Or.inl q')] at hQ; exact hQ
    · rw [if_neg (by omega)] at hQ
      rw [w32_i (x := 60 * o) (by omega) (by omega), w32_i (x := 60 * o + x) (by omega) (by omega)]
      have b := hb x h0 (by omega)
      refine i_ci (i_ck (by omega) (i_some (i_ck (by omega) (i_jn ?_))))
      rw [e84 x h0 (by omega), w32_i (by omega) (by omega), hc x h0 (by omega)]
      refine i_if (fun z => i_bv ?_) (fun z => i_bv (i_bv ?_))
      · rw [if_neg z] at hQ
        exact l_right98 ho eo hM hz hb e4 e83 e84 hc f n (x + 1) (by omega) (by omega) (by omega) hQ
      · rw [if_pos (Decidable.not_not.mp z)] at hQ
        exact l_right98 ho eo hM hz hb e4 e83 e84 hc f _ (x + 1) (by omega) (by omega) (by omega) hQ
theorem BF_eq {w : WD} {o : Int} (ho : 0 ≤ o ∧ o < 6) : BF w o = if w 82 o = -1 then -11 else if w 82 o = -2 then 0 else -12 := by
  unfold BF
  rw [if_neg (fun q => q ho)]
theorem s_isEmpty {w : WD} {o : Int} {Q : Int → WD → Prop} (hS : IShelf w) (ho : 0 ≤ o ∧ o < 6) (h1 : w 82 o = -1 → Q 1 w) (h0 : w 82 o ≠ -1 → Q 0 w) : WI (fSh_isEmpty o w) Q := by
  rcases hS o ho.1 ho.2 with c | c | ⟨c1, c2, c3, c4, c5, c6, c7, c8⟩
  · (repeat' (first | (with_reducible refine i_some ?_) | (with_reducible refine v_some ?_) | (with_reducible refine i_ci ?_) | (with_reducible refine i_cv ?_) | (with_reducible refine v_ci ?_) | (with_reducible refine v_cv ?_) | (with_reducible refine i_bv ?_) | (with_reducible refine v_bv ?_) | (with_reducible refine i_bw ?_) | (with_reducible refine v_bw ?_) | (with_reducible refine i_jn ?_) | (with_reducible refine v_jn ?_) | (with_reducible refine i_ck ?_ ?_) | (with_reducible refine v_ck ?_ ?_) | ((with_reducible refine i_if (fun hc => ?_) (fun hc => ?_)) <;> (try simp (disch := omega) only [not_true_eq_false, not_false_eq_true, true_and, and_true, up_r, up_k, ur_s, ur_e, ur_i, cp_k, w32_i, w64_i, w8_i] at hc) <;> (try (exfalso; omega))) | ((with_reducible refine v_if (fun hc => ?_) (fun hc => ?_)) <;> (try simp (disch := omega) only [not_true_eq_false, not_false_eq_true, true_and, and_true, up_r, up_k, ur_s, ur_e, ur_i, cp_k, w32_i, w64_i, w8_i] at hc) <;> (try (exfalso; omega))) | unfold fSh_isEmpty))
    all_goals first | omega | exact h1 c.2.2
  · (repeat' (first | (with_reducible refine i_some ?_) | (with_reducible refine v_some ?_) | (with_reducible refine i_ci ?_) | (with_reducible refine i_cv ?_) | (with_reducible refine v_ci ?_) | (with_reducible refine v_cv ?_) | (with_reducible refine i_bv ?_) | (with_reducible refine v_bv ?_) | (with_reducible refine i_bw ?_) | (with_reducible refine v_bw ?_) | (with_reducible refine i_jn ?_) | (with_reducible refine v_jn ?_) | (with_reducible refine i_ck ?_ ?_) | (with_reducible refine v_ck ?_ ?_) | ((with_reducible refine i_if (fun hc => ?_) (fun hc => ?_)) <;> (try simp (disch := omega) only [not_true_eq_false, not_false_eq_true, true_and, and_true, up_r, up_k, ur_s, ur_e, ur_i, cp_k, w32_i, w64_i, w8_i] at hc) <;> (try (exfalso; omega))) | ((with_reducible refine v_if (fun hc => ?_) (fun hc => ?_)) <;> (try simp (disch := omega) only [not_true_eq_false, not_false_eq_true, true_and, and_true, up_r, up_k, ur_s, ur_e, ur_i, cp_k, w32_i, w64_i, w8_i] at hc) <;> (try (exfalso; omega))) | unfold fSh_isEmpty))
    all_goals first | omega | exact h0 (by omega)
  · (repeat' (first | (with_reducible refine i_some ?_) | (with_reducible refine v_some ?_) | (with_reducible refine i_ci ?_) | (with_reducible refine i_cv ?_) | (with_reducible refine v_ci ?_) | (with_reducible refine v_cv ?_) | (with_reducible refine i_bv ?_) | (with_reducible refine v_bv ?_) | (with_reducible refine i_bw ?_) | (with_reducible refine v_bw ?_) | (with_reducible refine i_jn ?_) | (with_reducible refine v_jn ?_) | (with_reducible refine i_ck ?_ ?_) | (with_reducible refine v_ck ?_ ?_) | ((with_reducible refine i_if (fun hc => ?_) (fun hc => ?_)) <;> (try simp (disch := omega) only [not_true_eq_false, not_false_eq_true, true_and, and_true, up_r, up_k, ur_s, ur_e, ur_i, cp_k, w32_i, w64_i, w8_i] at hc) <;> (try (exfalso; omega))) | ((with_reducible refine v_if (fun hc => ?_) (fun hc => ?_)) <;> (try simp (disch := omega) only [not_true_eq_false, not_false_eq_true, true_and, and_true, up_r, up_k, ur_s, ur_e, ur_i, cp_k, w32_i, w64_i, w8_i] at hc) <;> (try (exfalso; omega))) | unfold fSh_isEmpty))
    all_goals first | omega | exact h0 (by omega)
theorem op_right : op1 Inv fB_right fR_right := by
  intro ct w hctI hI
  obtain ⟨law, tp⟩ := TP_of hI
  have hS := hI.2.2.2.2.2.2.1
  have m0 := tp.2.2.1.2.2.1
  have m5 := tp.2.2.1.2.2.2
  unfold I32 at hctI
  refine same_of ?_
  by_cases hct : 0 ≤ ct
  · obtain ⟨o, eo⟩ : ∃ o, w32 (Int.tdiv ct 10) = o := ⟨_, rfl⟩
    obtain ⟨t, et⟩ : ∃ t, Int.tmod ct 10 = t := ⟨_, rfl⟩
    by_cases hot : (0 ≤ o ∧ o < 6) ∧ 0 ≤ t ∧ t < 6
    · obtain ⟨ho, ht⟩ := hot
      have bo := BF_eq (w := w) ho
      have bt := BF_eq (w := w) ht
      have ref : ∀ (u : WD) (r : Int), Same w u → (w 82 o = -1 ∨ w 82 t = -1 → r = -11) → (¬ (w 82 o = -1 ∨ w 82 t = -1) → BF w o ≠ 0 ∨ BF w t ≠ 0 → r = -12) → (BF w o = 0 → BF w t = 0 → ¬ TRO w (w (35 + 2 * t)) (w (34 + 2 * t) 3) → r = -2) → (BF w o = 0 → BF w t = 0 → TRO w (w (35 + 2 * t)) (w (34 + 2 * t) 3) → r = RGT (w (35 + 2 * o)) (w (35 + 2 * t)) (w (34 + 2 * o) 3) (w 1 5) FU 0 0) → WI (fR_right ct u) (fun r' y => r' = r ∧ Inv y) := by
        intro u r hu q1 q2 q3 q4
        have iu := Inv_same hI hu
        have u82 := hu.r 82 (by decide)
        unfold fR_right
        rw [eo, et]
        refine i_if (fun q => by exfalso; omega) (fun _ => i_ci (s_isShelfR (fun _ => i_if (fun q => absurd q (by decide)) (fun _ => i_ci (s_isShelfR (fun _ => i_if (fun _ => i_ck ho ?_) (fun q => absurd (by decide) q)) (fun q => absurd ht q)))) (fun q => absurd ho q)))
        rw [u82]
        refine i_if (fun q => i_some ⟨(q1 (Or.inl q)).symm, iu⟩) (fun q => i_ck ht (i_if (fun q' => ?_) (fun q' => i_some ⟨(q1 (Or.inr (Decidable.not_not.mp q'))).symm, iu⟩)))
        refine i_ci (s_rowFault ho ?_)
        rw [BF_same hu]
        have nz : ¬ (w 82 o = -1 ∨ w 82 t = -1) := fun z => z.elim q q'
        rw [if_neg q] at bo
        rw [if_neg q'] at bt
        refine i_if (fun c => i_some ⟨(q2 nz (Or.inl (by omega))).symm, iu⟩) (fun c => i_ci (s_rowFault ht ?_))
        rw [BF_same hu]
        have zo : BF w o = 0 := by split at bo <;> omega
        refine i_if (fun d => ?_) (fun d => i_some ⟨(q2 nz (Or.inr (by omega))).symm, iu⟩)
        have zt : BF w t = 0 := by split at bt <;> omega
        refine i_ci (t_layTruth tp hS zt hu (fun tr v v1 v2 => i_if (fun _ => ?_) (fun q => absurd (by decide) q)) (fun tr v v1 => i_if (fun q => absurd rfl q) (fun _ => i_some ⟨(q3 zo zt tr).symm, Inv_same hI (hu.trans (same71 v1))⟩)))
        have vs := hu.trans (same71 v1)
        obtain ⟨-, h2⟩ := BF_0 hS zo
        obtain ⟨b1, b2, b3, b4, b5, b6⟩ := bytes_of hS ho h2
        exact l_right98 (g := w (35 + 2 * o)) (c := w (35 + 2 * t)) (sz := w (34 + 2 * o) 3) (M := w 1 5) ho eo ⟨m0, m5⟩ b3 b5 (by rw [vs.f 4 (by decide)]; exact tp.2.2.2.1) (by rw [vs.r 83 (by decide)]; exact b4) (by rw [vs.r 84 (by decide)]; exact b6) v2 FU 0 0 (by decide) m0 (by unfold FU; omega) ⟨(q4 zo zt tr).symm, Inv_same hI vs⟩
      unfold fB_right
      rw [eo, et]
      refine i_bv (i_bv (i_if (fun q => by exfalso; omega) (fun _ => i_ci (s_isShelfC (fun _ => i_if (fun q => absurd q (by decide)) (fun _ => i_ci (s_isShelfC (fun _ => i_if (fun _ => i_ck ho (i_ci ?_)) (fun q => absurd (by decide) q)) (fun q => absurd ht q)))) (fun q => absurd ho q)))))
      refine s_isEmpty hS ho (fun z => i_if (fun _ => i_some (ref w _ Same.rfl' (fun _ => rfl) (fun y => absurd (Or.inl z) y) (fun y => by rw [if_pos z] at bo; omega) (fun y => by rw [if_pos z] at bo; omega))) (fun y => absurd (by decide) y)) (fun z => i_if (fun y => absurd rfl y) (fun _ => i_ck ht (i_ci ?_)))
      refine s_isEmpty hS ht (fun z' => i_if (fun y => absurd y (by decide)) (fun _ => i_some (ref w _ Same.rfl' (fun _ => rfl) (fun y => absurd (Or.inr z') y) (fun _ y => by rw [if_pos z'] at bt; omega) (fun _ y => by rw [if_pos z'] at bt; omega)))) (fun z' => i_if (fun _ => i_ci (s_bytesFault hS (i_jn ?_))) (fun y => absurd rfl y))
      have nz : ¬ (w 82 o = -1 ∨ w 82 t = -1) := fun y => y.elim z z'
      rw [if_neg z] at bo
      rw [if_neg z'] at bt
      refine i_if (fun zo => i_ci ?_) (fun zo => i_ci (s_bytesFault hS ?_))
      · refine t_truthFault tp hS (fun hq => i_if (fun q => absurd q hq) (fun _ => i_some (ref w _ Same.rfl' (fun y => absurd y nz) (fun _ _ => by split at bt <;> omega) (fun _ y => absurd y hq) (fun _ y => absurd y hq)))) (fun hq tr v v1 v2 => i_if (fun _ => ?_) (fun q => absurd rfl q)) (fun hq tr v v1 => i_if (fun q => absurd q (by decide)) (fun _ => i_some (ref v _ (same18 v1) (fun y => absurd y nz) (fun _ y => y.elim (fun x => absurd zo x) (fun x => absurd hq x)) (fun _ _ _ => rfl) (fun _ _ y => absurd y tr))))
        obtain ⟨-, h2⟩ := BF_0 hS zo
        obtain ⟨b1, b2, b3, b4, b5, b6⟩ := bytes_of hS ho h2
        exact l_right94 (w := w) (g := w (35 + 2 * o)) (c := w (35 + 2 * t)) ho ⟨m0, m5⟩ b3 (fun _ _ _ => rfl) v1 v2 FU 0 0 (by decide) m0 (by unfold FU; omega) (ref v _ (same18 v1) (fun y => absurd y nz) (fun _ y => y.elim (fun x => absurd zo x) (fun x => absurd hq x)) (fun _ _ y => absurd tr y) (fun _ _ _ => rfl))
      · refine i_if (fun y => absurd y zo) (fun _ => i_some (ref w _ Same.rfl' (fun y => absurd y nz) (fun _ _ => by split at bo <;> omega) (fun y => absurd y zo) (fun y => absurd y zo)))
    · unfold fB_right fR_right
      rw [eo, et]
      (repeat' (first | (with_reducible refine i_some ?_) | (with_reducible refine v_some ?_) | (with_reducible refine i_ci ?_) | (with_reducible refine i_cv ?_) | (with_reducible refine v_ci ?_) | (with_reducible refine v_cv ?_) | (with_reducible refine i_bv ?_) | (with_reducible refine v_bv ?_) | (with_reducible refine i_bw ?_) | (with_reducible refine v_bw ?_) | (with_reducible refine i_jn ?_) | (with_reducible refine v_jn ?_) | (with_reducible refine i_ck ?_ ?_) | (with_reducible refine v_ck ?_ ?_) | ((with_reducible refine i_if (fun hc => ?_) (fun hc => ?_)) <;> (try simp (disch := omega) only [not_true_eq_false, not_false_eq_true, true_and, and_true, up_r, up_k, ur_s, ur_e, ur_i, cp_k, w32_i, w64_i, w8_i] at hc) <;> (try (exfalso; omega))) | ((with_reducible refine v_if (fun hc => ?_) (fun hc => ?_)) <;> (try simp (disch := omega) only [not_true_eq_false, not_false_eq_true, true_and, and_true, up_r, up_k, ur_s, ur_e, ur_i, cp_k, w32_i, w64_i, w8_i] at hc) <;> (try (exfalso; omega))) | ((with_reducible apply s_isShelfC) <;> (try intro hvc) <;> (try simp (disch := omega) only [not_true_eq_false, not_false_eq_true, true_and, and_true, up_r, up_k, ur_s, ur_e, ur_i, cp_k, w32_i, w64_i, w8_i] at hvc) <;> (try (exfalso; omega))) | ((with_reducible apply s_isShelfR) <;> (try intro hvc) <;> (try simp (disch := omega) only [not_true_eq_false, not_false_eq_true, true_and, and_true, up_r, up_k, ur_s, ur_e, ur_i, cp_k, w32_i, w64_i, w8_i] at hvc) <;> (try (exfalso; omega)))))
      all_goals first | omega | exact ⟨rfl, hI⟩
  · unfold fB_right
    refine i_bv (i_bv (i_if (fun _ => i_some ?_) (fun q => by exfalso; omega)))
    unfold fR_right
    exact i_if (fun _ => i_some ⟨rfl, hI⟩) (fun q => by exfalso; omega)
