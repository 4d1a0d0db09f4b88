/-! TRUTH -/
/-- told is a TRUTH -/
def TRO (w : WD) (c : Int → Int) (sz : Int) : Prop := w 1 5 ≤ sz ∧ ∀ i, 0 ≤ i → i < w 1 5 → ONE w (c i) ∧ ∀ j, 0 ≤ j → j < i → c j = c i → c i = 6
theorem l_readTruth {w : WD} {o : Int} {Q : Int → WD → Prop} (hw : 0 ≤ w 1 4 ∧ w 1 4 ≤ 6 ∧ 0 ≤ w 1 5 ∧ w 1 5 ≤ 5) (ho : 0 ≤ o ∧ o < 6) (hz : 0 ≤ w (34 + 2 * o) 3 ∧ w (34 + 2 * o) 3 ≤ 60) (hb : ∀ k, 0 ≤ k → k < 60 → -128 ≤ w (35 + 2 * o) k ∧ w (35 + 2 * o) k ≤ 127) : ∀ (f : Nat) (used x : Int) (u : WD), 0 ≤ x → x ≤ w 1 5 → w 1 5 - x < f → (∀ k, k ≠ 18 → u k = w k) → (0 ≤ used ∧ used < 64) → (∀ p, 0 ≤ p → p < 6 → (tb used p ↔ ∃ j, 0 ≤ j ∧ j < x ∧ w (35 + 2 * o) j = p)) →
    (∀ i, 0 ≤ i → i < x → u 18 i = w (35 + 2 * o) i ∧ i < w (34 + 2 * o) 3 ∧ ONE w (w (35 + 2 * o) i) ∧ ∀ j, 0 ≤ j → j < i → w (35 + 2 * o) j = w (35 + 2 * o) i → w (35 + 2 * o) i = 6) →
    (TRO w (w (35 + 2 * o)) (w (34 + 2 * o) 3) → ∀ v, (∀ k, k ≠ 18 → v k = w k) → (∀ i, 0 ≤ i → i < w 1 5 → v 18 i = w (35 + 2 * o) i) → Q 1 v) → (¬ TRO w (w (35 + 2 * o)) (w (34 + 2 * o) 3) → ∀ v, (∀ k, k ≠ 18 → v k = w k) → Q 0 v) → WI (fTh_readTruth_l4 o f used x u) Q
  | 0, used, x, u, _, _, h, _, _, _, _, _, _ => by exfalso; omega
  | f + 1, used, x, u, h0, h1, h2, hk, hu, ht, hd, q1, q0 => by
    show WI (fTh_readTruth_l4_b (fTh_readTruth_l4 o f) o used x u) Q
    unfold fTh_readTruth_l4_b fHa_masks fSh_size
    rw [w32_i (x := x + 1) (by omega) (by omega)]
    refine i_ci (i_some ?_)
    rw [hk 1 (by decide)]
    refine i_if (fun q => i_some (q1 ⟨?_, fun i a b => (hd i a (by omega)).2.2⟩ u hk (fun i a b => (hd i a (by omega)).1))) (fun q => i_if (fun q => by exfalso; omega) (fun _ => i_ci (i_some (i_jn ?_))))
    · by_cases z : x = 0
      · omega
      · have := (hd (x - 1) (by omega) (by omega)).2.1
        omega
    · rw [hk (34 + 2 * o) (by omega)]
      have bad : ¬ TRO w (w (35 + 2 * o)) (w (34 + 2 * o) 3) → ∀ r, r = 0 → WI (some (r, u)) Q := fun z r e => by rw [e]; exact i_some (q0 z u hk)
      refine i_if (fun z => i_ci (s_isOneC (fun o' => by exfalso; omega) (fun o' => i_if (fun _ => i_some (q0 (fun y => by have := y.1; omega) u hk)) (fun z => absurd rfl z)))) (fun z => i_ci (s_shat (by rw [hk (34 + 2 * o) (by omega)]; omega) ?_))
      have bx := hb x h0 (by omega)
      rw [hk (35 + 2 * o) (by omega), w32_i (by omega) (by omega)]
      refine i_ci (s_isOneC (fun o' => i_if (fun y => absurd y (by decide)) (fun _ => ?_)) (fun o' => i_if (fun _ => i_some (q0 (fun y => o' (by rw [hk 1 (by decide)]; exact (y.2 x h0 (by omega)).1)) u hk)) (fun y => absurd rfl y)))
      rw [hk 1 (by decide)] at o'
      have hr7 : 0 ≤ w (35 + 2 * o) x ∧ w (35 + 2 * o) x < 7 := by omega
      have t01 := tb_01 (v := used) (p := w (35 + 2 * o) x) (by omega) hr7
      have dup : tb used (w (35 + 2 * o) x) ↔ w (35 + 2 * o) x ≠ 6 ∧ ∃ j, 0 ≤ j ∧ j < x ∧ w (35 + 2 * o) j = w (35 + 2 * o) x := by
        by_cases c6 : w (35 + 2 * o) x = 6
        · rw [c6]
          refine ⟨fun y => ?_, fun y => absurd rfl y.1⟩
          exfalso
          obtain ⟨i, rfl⟩ : ∃ i : Fin 64, used = (i.val : Int) := ⟨⟨used.toNat, by omega⟩, (Int.toNat_of_nonneg hu.1).symm⟩
          exact (by unfold tb; decide +kernel : ∀ i : Fin 64, ¬ tb (i.val : Int) 6) i y
        · rw [ht _ hr7.1 (by omega)]
          exact ⟨fun y => ⟨c6, y⟩, fun y => y.2⟩
      refine i_if (fun y => ?_) (fun y => i_some (q0 (fun t => ?_) u hk))
      · have nd : ¬ tb used (w (35 + 2 * o) x) := fun t => by unfold tb at t; omega
        have okx : ∀ j, 0 ≤ j → j < x → w (35 + 2 * o) j = w (35 + 2 * o) x → w (35 + 2 * o) x = 6 := fun j a b e => by
          rcases Classical.em (w (35 + 2 * o) x = 6) with z6 | z6
          · exact z6
          · exact absurd (dup.mpr ⟨z6, j, a, b, e⟩) nd
        have hd' : ∀ v : WD, v 18 = up u 18 x (w (35 + 2 * o) x) 18 → ∀ i, 0 ≤ i → i < x + 1 → v 18 i = w (35 + 2 * o) i ∧ i < w (34 + 2 * o) 3 ∧ ONE w (w (35 + 2 * o) i) ∧ ∀ j, 0 ≤ j → j < i → w (35 + 2 * o) j = w (35 + 2 * o) i → w (35 + 2 * o) i = 6 := by
          intro v hv i a b
          rw [hv]
          by_cases e : i = x
          · rw [e, up_s]
            exact ⟨rfl, by omega, o', okx⟩
          · rw [up_i e]
            exact hd i a (by omega)
        unfold fTh_usedWith
        refine i_ci (i_if (fun c => i_some (i_ck (by omega) (i_bw (i_bv ?_)))) (fun c => i_some (i_ck (by omega) (i_bw (i_bv ?_)))))
        · have T := fun q hq => tbor (v := used) (p := q) (q := w (35 + 2 * o) x) (by omega) hq hr7
          refine l_readTruth hw ho hz hb f _ (x + 1) _ (by omega) (by omega) (by omega) (fun k k1 => by rw [up_k k1]; exact hk k k1) ⟨(T 0 (by decide)).1.1, (T 0 (by decide)).2.2.1 hu.2 (by omega)⟩ (fun p p0 p1 => ?_) (hd' _ rfl) q1 q0
          have t := (T p ⟨p0, by omega⟩).2.1
          have t2 := ht p p0 p1
          unfold tb at t2 ⊢
          rw [t, t2]
          constructor
          · rintro (⟨j, a, b, e⟩ | e)
            · exact ⟨j, a, by omega, e⟩
            · exact ⟨x, h0, by omega, e.symm⟩
          · rintro ⟨j, a, b, e⟩
            by_cases ej : j = x
            · rw [ej] at e; exact Or.inr e.symm
            · exact Or.inl ⟨j, a, by omega, e⟩
        · have c6 : w (35 + 2 * o) x = 6 := Decidable.not_not.mp c
          refine l_readTruth hw ho hz hb f _ (x + 1) _ (by omega) (by omega) (by omega) (fun k k1 => by rw [up_k k1]; exact hk k k1) hu (fun p p0 p1 => (ht p p0 p1).trans ⟨fun ⟨j, a, b, e⟩ => ⟨j, a, by omega, e⟩, fun ⟨j, a, b, e⟩ => ?_⟩) (hd' _ rfl) q1 q0
          by_cases ej : j = x
          · rw [ej] at e; omega
          · exact ⟨j, a, by omega, e⟩
      · have tt : tb used (w (35 + 2 * o) x) := by
          rcases t01 with z' | z'
          · exact absurd z' y
          · exact z'
        obtain ⟨d1, j, a, b, e⟩ := dup.mp tt
        exact d1 ((t.2 x h0 (by omega)).2 j a b e)
theorem l_layTruth {w : WD} {o : Int} {c : Int → Int} {Q : Int → WD → Prop} (hw : 0 ≤ w 1 4 ∧ w 1 4 ≤ 6 ∧ 0 ≤ w 1 5 ∧ w 1 5 ≤ 5) (ho : 0 ≤ o ∧ o < 6) (hb : ∀ k, 0 ≤ k → k < 60 → -128 ≤ c k ∧ c k ≤ 127) {u0 : WD} (e4 : u0 46 4 = w 1 5) (e1 : u0 46 1 = w 1 4) (e84 : ∀ k, 0 ≤ k → k < 60 → u0 84 (60 * o + k) = c k) {sz : Int} (hsz : w 1 5 ≤ sz) : ∀ (f : Nat) (used x : Int) (u : WD), 0 ≤ x → x ≤ w 1 5 → w 1 5 - x < f → (∀ k, k ≠ 71 → u k = u0 k) → (0 ≤ used ∧ used < 128) → (∀ p, 0 ≤ p → p < 6 → (tb used p ↔ ∃ j, 0 ≤ j ∧ j < x ∧ c j = p)) →
    (∀ i, 0 ≤ i → i < x → u 71 i = c i ∧ ONE w (c i) ∧ ∀ j, 0 ≤ j → j < i → c j = c i → c i = 6) →
    (TRO w c sz → ∀ v, (∀ k, k ≠ 71 → v k = u0 k) → (∀ i, 0 ≤ i → i < w 1 5 → v 71 i = c i) → Q 1 v) → (¬ TRO w c sz → ∀ v, (∀ k, k ≠ 71 → v k = u0 k) → Q 0 v) → WI (fR_layTruth_l19 o f used x u) Q
  | 0, used, x, u, _, _, h, _, _, _, _, _, _ => by exfalso; omega
  | f + 1, used, x, u, h0, h1, h2, hk, hu, ht, hd, q1, q0 => by
    show WI (fR_layTruth_l19_b (fR_layTruth_l19 o f) o used x u) Q
    unfold fR_layTruth_l19_b fR_at
    rw [w32_i (x := x + 1) (by omega) (by omega), w32_i (x := 60 * o) (by omega) (by omega), w32_i (x := 60 * o + x) (by omega) (by omega), hk 46 (by decide), e4]
    refine i_if (fun q => i_some (q1 ⟨hsz, fun i a b => (hd i a (by omega)).2⟩ u hk (fun i a b => (hd i a (by omega)).1))) (fun q => i_ci (i_ck (by omega) (i_some ?_)))
    have bx := hb x h0 (by omega)
    rw [hk 84 (by decide), e84 x h0 (by omega), w32_i (by omega) (by omega)]
    refine i_ci (s_isWhoR (by rw [hk 46 (by decide), e1]; omega) (fun o' => i_if (fun y => absurd y (by decide)) (fun _ => i_jn ?_)) (fun o' => i_if (fun _ => i_some (q0 (fun y => o' (by rw [hk 46 (by decide), e1]; exact (y.2 x h0 (by omega)).1)) u hk)) (fun y => absurd rfl y)))
    rw [hk 46 (by decide), e1] at o'
    have hr7 : 0 ≤ c x ∧ c x < 7 := by omega
    have T := fun q hq => tbor (v := used) (p := q) (q := c x) hu hq hr7
    have go : (∀ j, 0 ≤ j → j < x → c j = c x → c x = 6) → WI (bv (bOr used (bShl 1 (c x))) fun v2_8 => ck (0 ≤ x ∧ x < 5) <| bw (up u 71 x (c x)) fun u9 => bv (x + 1) fun v3_10 => fR_layTruth_l19 o f v2_8 v3_10 u9) Q := fun okx => by
      refine i_bv (i_ck (by omega) (i_bw (i_bv (l_layTruth hw ho hb e4 e1 e84 hsz f _ (x + 1) _ (by omega) (by omega) (by omega) (fun k k1 => by rw [up_k k1]; exact hk k k1) (T 0 (by decide)).1 (fun p p0 p1 => ?_) (fun i a b => ?_) q1 q0))))
      · have t := (T p ⟨p0, by omega⟩).2.1
        have t2 := ht p p0 p1
        unfold tb at t2 ⊢
        rw [t, t2]
        constructor
        · rintro (⟨j, a, b, e⟩ | e)
          · exact ⟨j, a, by omega, e⟩
          · exact ⟨x, h0, by omega, e.symm⟩
        · rintro ⟨j, a, b, e⟩
          by_cases ej : j = x
          · rw [ej] at e; exact Or.inr e.symm
          · exact Or.inl ⟨j, a, by omega, e⟩
      · by_cases e : i = x
        · rw [e, up_s]
          exact ⟨rfl, o', okx⟩
        · rw [up_i e]
          exact hd i a (by omega)
    refine i_if (fun z => go (fun j a b e => by omega)) (fun z => i_if (fun y => go (fun j a b e => ?_)) (fun y => i_some (q0 (fun t => ?_) u hk)))
    · exact absurd ((ht (c x) hr7.1 (by omega)).mpr ⟨j, a, b, e⟩) (fun t => y t)
    · have tt : tb used (c x) := by unfold tb; exact Decidable.not_not.mp y
      obtain ⟨j, a, b, e⟩ := (ht (c x) hr7.1 (by omega)).mp tt
      have := (t.2 x h0 (by omega)).2 j a b e
      omega
/-! what a truth counts -/
def PRW (v : Int → Int → Int) (c : Int → Int) : Nat → Int → Int → Int
  | 0, acc, _ => acc
  | k + 1, acc, x => PRW v c k (acc * v x (c x)) (x + 1)
def N6 (c : Int → Int) : Nat → Int → Int → Int
  | 0, n, _ => n
  | k + 1, n, x => N6 c k (if c x = 6 then n + 1 else n) (x + 1)
def TCT (v : Int → Int → Int) (c : Int → Int) (M S : Int) : Int := if N6 c M.toNat 0 0 ≤ S then PRW v c M.toNat 1 0 else 0
theorem l_countOfWay {w : WD} {law : Option LINES} {sn : Int → Int → Int} {c : Int → Int} {u : WD} {K : Int → Int → WD → Option (Int × WD)} {Q : Int → WD → Prop} (h : TP w law) (hT : TH w law (Wf w law sn) (MAYw w) u) (hc : ∀ i, 0 ≤ i → i < w 1 5 → u 18 i = c i ∧ 0 ≤ c i ∧ c i < 7) : ∀ (k f : Nat) (acc n x : Int), (k : Int) + x = w 1 5 → 0 ≤ x → k < f → (0 ≤ acc ∧ acc ≤ B7 x.toNat) → (0 ≤ n ∧ n ≤ x) → WI (K (PRW (BY (Wf w law sn) (MAYw w)) c k acc x) (N6 c k n x) u) Q → WI (fTh_countOfWay_l7 K f acc n x u) Q
  | _, 0, acc, n, x, _, _, h, _, _, _ => by exfalso; omega
  | 0, f + 1, acc, n, x, hk, h0, h1, ha, hn, hK => by
    show WI (fTh_countOfWay_l7_b (fTh_countOfWay_l7 K f) K acc n x u) Q
    unfold fTh_countOfWay_l7_b fHa_masks
    refine i_ci (i_some ?_)
    rw [hT.1.r 1 (by decide)]
    exact i_if (fun _ => hK) (fun q => by exfalso; omega)
  | k + 1, f + 1, acc, n, x, hk, h0, h1, ha, hn, hK => by
    show WI (fTh_countOfWay_l7_b (fTh_countOfWay_l7 K f) K acc n x u) Q
    unfold fTh_countOfWay_l7_b fHa_masks fTh_inWay
    have m5 := h.2.2.1.2.2.2
    obtain ⟨c1, c2⟩ := hc x h0 (by omega)
    have by' := BY_in (law := law) (sn := sn) (may := MAYw w) h.1 h.2.2.1.2.1 x (c x)
    have b7 := B7_le (n := x.toNat + 1) (by omega)
    have e7 : B7 (x.toNat + 1) = 729 * B7 x.toNat := rfl
    have mi := mul_in ha by'
    rw [w32_i (x := x + 1) (by omega) (by omega)]
    refine i_ci (i_some ?_)
    rw [hT.1.r 1 (by decide), c1]
    refine i_if (fun q => by exfalso; omega) (fun _ => i_ci (i_if (fun q => by exfalso; omega) (fun _ => i_if (fun q => by exfalso; omega) (fun _ => i_ck (by omega) (i_some (i_ci ?_))))))
    have go : ∀ s, s = BY (Wf w law sn) (MAYw w) x (c x) → WI (bv (w64 (acc * s)) fun v1_12 => jn (β := Int → WD → Option (Int × WD)) (fun (s13 : Int) (u14 : WD) => bv (w32 (n + s13)) <| fun (v3_15 : Int) => bv (x + 1) <| fun (v4_16 : Int) => fTh_countOfWay_l7 K f v1_12 v3_15 v4_16 u14) <| fun J17 => if c x ≠ 6 then (J17 0 u) else (J17 1 u)) Q := by
      intro s es
      subst es
      rw [w64_i (by omega) (by omega)]
      have nx : ∀ n', n' = (if c x = 6 then n + 1 else n) → WI (fTh_countOfWay_l7 K f (acc * BY (Wf w law sn) (MAYw w) x (c x)) n' (x + 1) u) Q := by
        intro n' en
        subst en
        refine l_countOfWay h hT hc k f _ _ (x + 1) (by omega) (by omega) (by omega) ⟨mi.1, ?_⟩ (by split <;> omega) hK
        rw [show (x + 1).toNat = x.toNat + 1 by omega, e7, Int.mul_comm 729]
        exact mi.2
      refine i_bv (i_jn (i_if (fun q => i_bv ?_) (fun q => i_bv ?_)))
      · rw [w32_i (x := n + 0) (by omega) (by omega)]
        exact i_bv (nx _ (by rw [if_neg q]; omega))
      · rw [w32_i (x := n + 1) (by omega) (by omega)]
        exact i_bv (nx _ (by rw [if_pos (Decidable.not_not.mp q)]))
    have mk := MOK_w h x h0 (by omega)
    have t01 := tb_01 (p := c x) mk c2
    unfold fTh_mayBe
    rw [hT.2.2.2.1 x h0 (by omega)]
    refine i_if (fun q => by exfalso; omega) (fun _ => i_if (fun q => by exfalso; omega) (fun _ => i_ck (by omega) (i_if (fun q => i_some (i_jn (i_if (fun _ => go 0 ?_) (fun z => absurd rfl z)))) (fun q => i_some (i_jn (i_if (fun z => absurd z (by decide)) (fun _ => i_ci ?_)))))))
    · unfold BY; rw [if_neg (by omega)]
    · unfold fTh_weightOf
      rw [w32_i (x := 7 * x) (by omega) (by omega), w32_i (x := 7 * x + c x) (by omega) (by omega)]
      refine i_jn (i_jn (i_if (fun z => by exfalso; omega) (fun _ => i_if (fun z => by exfalso; omega) (fun _ => i_if (fun z => by exfalso; omega) (fun _ => i_if (fun z => by exfalso; omega) (fun _ => i_if (fun z => absurd z (by decide)) (fun _ => i_ck (by omega) (i_some (go _ ?_))))))))) 
      rw [hT.2.2.1 x (c x) h0 (by omega) c2.1 c2.2]
      unfold BY; rw [if_pos (by omega)]
theorem s_countOfWay {w u : WD} {law : Option LINES} {sn : Int → Int → Int} {c : Int → Int} {Q : Int → WD → Prop} (h : TP w law) (hT : TH w law (Wf w law sn) (MAYw w) u) (hc : ∀ i, 0 ≤ i → i < w 1 5 → u 18 i = c i ∧ 0 ≤ c i ∧ c i < 7) (hQ : Q (TCT (BY (Wf w law sn) (MAYw w)) c (w 1 5) (w 2 47)) u) : WI (fTh_countOfWay u) Q := by
  unfold fTh_countOfWay
  have m0 := h.2.2.1.2.2.1
  have m5 := h.2.2.1.2.2.2
  refine l_countOfWay h hT hc (w 1 5).toNat FU 1 0 0 (by omega) (by decide) (by unfold FU; omega) (by decide) (by decide) ?_
  rw [hT.2.2.2.2]
  unfold TCT at hQ
  refine i_if (fun q => i_some ?_) (fun q => i_some ?_)
  · rw [if_pos q] at hQ; exact hQ
  · rw [if_neg q] at hQ; exact hQ
noncomputable def FOU (w : WD) (law : Option LINES) (sn : Int → Int → Int) (c : Int → Int) : Int := CUT (TCT (BY (Wf w law sn) (MAYw w)) c (w 1 5) (w 2 47)) (SUM w law sn (MAYw w)) 6
theorem s_foundOutC {w u : WD} {law : Option LINES} {sn : Int → Int → Int} {c : Int → Int} {Q : Int → WD → Prop} (h : TP w law) (hT : TH w law (Wf w law sn) (MAYw w) u) (hc : ∀ i, 0 ≤ i → i < w 1 5 → u 18 i = c i ∧ 0 ≤ c i ∧ c i < 7) (hQ : ∀ v, FRT u v → Q (FOU w law sn c) v) : WI (fTh_foundOut u) Q := by
  unfold fTh_foundOut
  have si := SUM_in (law := law) (sn := sn) (may := MAYw w) h.1 h.2.2.1
  exact i_ci (s_countOfWay h hT hc (i_ci (s_together h.1 h.2.2.1 hT (MOK_w h) (fun v v1 => i_ci (cut_c si.1 (by decide) (i_some (hQ v v1)))))))
theorem l_truthCounts {w : WD} {law : Option LINES} {sn : Int → Int → Int} {c : Int → Int} {u : WD} {K : Int → Int → WD → Option (Int × WD)} {Q : Int → WD → Prop} (h : TP w law) (e4 : u 46 4 = w 1 5) (e65 : ∀ m q, 0 ≤ m → m < w 1 5 → 0 ≤ q → q < 7 → u 65 (7 * m + q) = BY (Wf w law sn) (MAYw w) m q) (hc : ∀ i, 0 ≤ i → i < w 1 5 → u 71 i = c i ∧ 0 ≤ c i ∧ c i < 7) : ∀ (k f : Nat) (acc n x : Int), (k : Int) + x = w 1 5 → 0 ≤ x → k < f → (0 ≤ acc ∧ acc ≤ B7 x.toNat) → (0 ≤ n ∧ n ≤ x) → WI (K (PRW (BY (Wf w law sn) (MAYw w)) c k acc x) (N6 c k n x) u) Q → WI (fR_truthCounts_l11 K f acc n x u) Q
  | _, 0, acc, n, x, _, _, h, _, _, _ => by exfalso; omega
  | 0, f + 1, acc, n, x, hk, h0, h1, ha, hn, hK => by
    show WI (fR_truthCounts_l11_b (fR_truthCounts_l11 K f) K acc n x u) Q
    unfold fR_truthCounts_l11_b
    exact i_if (fun _ => hK) (fun q => by exfalso; omega)
  | k + 1, f + 1, acc, n, x, hk, h0, h1, ha, hn, hK => by
    show WI (fR_truthCounts_l11_b (fR_truthCounts_l11 K f) K acc n x u) Q
    unfold fR_truthCounts_l11_b
    have m5 := h.2.2.1.2.2.2
    obtain ⟨c1, c2⟩ := hc x h0 (by omega)
    have by' := BY_in (law := law) (sn := sn) (may := MAYw w) h.1 h.2.2.1.2.1 x (c x)
    have b7 := B7_le (n := x.toNat + 1) (by omega)
    have e7 : B7 (x.toNat + 1) = 729 * B7 x.toNat := rfl
    have mi := mul_in ha by'
    rw [c1, w32_i (x := x + 1) (by omega) (by omega), w32_i (x := 7 * x) (by omega) (by omega), w32_i (x := 7 * x + c x) (by omega) (by omega), e65 x (c x) h0 (by omega) c2.1 c2.2, w64_i (by omega) (by omega), w32_i (x := n + 1) (by omega) (by omega)]
    have nx : ∀ n', n' = (if c x = 6 then n + 1 else n) → WI (fR_truthCounts_l11 K f (acc * BY (Wf w law sn) (MAYw w) x (c x)) n' (x + 1) u) Q := by
      intro n' en
      subst en
      refine l_truthCounts h e4 e65 hc k f _ _ (x + 1) (by omega) (by omega) (by omega) ⟨mi.1, ?_⟩ (by split <;> omega) hK
      rw [show (x + 1).toNat = x.toNat + 1 by omega, e7, Int.mul_comm 729]
      exact mi.2
    refine i_if (fun q => by exfalso; omega) (fun _ => i_ck (by omega) (i_ck (by omega) (i_bv (i_ck (by omega) (i_jn (i_if (fun q => i_bv (nx _ (by rw [if_neg q]))) (fun q => i_bv (i_bv (nx _ (by rw [if_pos (Decidable.not_not.mp q)]))))))))))
theorem s_truthCounts {w u : WD} {law : Option LINES} {sn : Int → Int → Int} {c : Int → Int} {Q : Int → WD → Prop} (h : TP w law) (hR : TR w sn (MAYw w) u) (hc : ∀ i, 0 ≤ i → i < w 1 5 → u 71 i = c i ∧ 0 ≤ c i ∧ c i < 7) (hQ : ∀ v, FRY u v → Q (TCT (BY (Wf w law sn) (MAYw w)) c (w 1 5) (w 2 47)) v) : WI (fR_truthCounts u) Q := by
  unfold fR_truthCounts
  have m0 := h.2.2.1.2.2.1
  have m5 := h.2.2.1.2.2.2
  refine i_cv (s_findBy (law := law) h.1 h.2.1 ⟨m0, m5, h.2.2.2.1⟩ ⟨h.2.2.1.1, h.2.2.1.2.1, h.2.2.2.2⟩ hR (fun v v1 v2 => ?_))
  have vB := hR.1.trans v1.sameB
  refine l_truthCounts h (by rw [vB.f 4 (by decide)]; exact h.2.2.2.1) v2 (by rw [v1 71 (by decide) (by decide) (by decide)]; exact hc) (w 1 5).toNat FU 1 0 0 (by omega) (by decide) (by unfold FU; omega) (by decide) (by decide) ?_
  rw [vB.r 52 (by decide), (HV_47 h.1).1]
  have e := hQ v v1
  unfold TCT at e
  refine i_if (fun q => i_some ?_) (fun q => i_some ?_)
  · rw [if_pos q] at e; exact e
  · rw [if_neg q] at e; exact e
theorem s_foundOutR {w u : WD} {law : Option LINES} {sn : Int → Int → Int} {c : Int → Int} {Q : Int → WD → Prop} (h : TP w law) (hR : TR w sn (MAYw w) u) (hc : ∀ i, 0 ≤ i → i < w 1 5 → u 71 i = c i ∧ 0 ≤ c i ∧ c i < 7) (hQ : ∀ v, FRV u v → Q (FOU w law sn c) v) : WI (fR_foundOut u) Q := by
  unfold fR_foundOut
  have si := SUM_in (law := law) (sn := sn) (may := MAYw w) h.1 h.2.2.1
  refine i_ci (s_truthCounts h hR hc (fun v v1 => i_cv (t_find h (TR_y hR v1) (fun y y1 y2 _ => i_ci ?_))))
  rw [ACF_32 h y2]
  refine cut_r si.1 (by decide) (i_some (hQ y ?_))
  refine FRV.tr ⟨fun k a b => v1 k (by omega) (by omega) (by omega), fun i _ _ _ _ _ _ _ => by rw [v1 46 (by decide) (by decide) (by decide)]⟩ y1
/-- a TRUTH read on both sides -/
theorem t_readTruth {w : WD} {o : Int} {Q : Int → WD → Prop} {law : Option LINES} (h : TP w law) (hS : IShelf w) (hq : BF w o = 0) (q1 : TRO w (w (35 + 2 * o)) (w (34 + 2 * o) 3) → ∀ v, (∀ k, k ≠ 18 → v k = w k) → (∀ i, 0 ≤ i → i < w 1 5 → v 18 i = w (35 + 2 * o) i) → Q 1 v) (q0 : ¬ TRO w (w (35 + 2 * o)) (w (34 + 2 * o) 3) → ∀ v, (∀ k, k ≠ 18 → v k = w k) → Q 0 v) : WI (fTh_readTruth o w) Q := by
  obtain ⟨ho, h2⟩ := BF_0 hS hq
  obtain ⟨b1, b2, b3, b4, b5, b6⟩ := bytes_of hS ho h2
  have m5 := h.2.2.1.2.2.2
  exact l_readTruth h.2.2.1 ho b3 b5 FU 0 0 w (by decide) h.2.2.1.2.2.1 (by unfold FU; omega) (fun _ _ => rfl) (by decide) (fun p p0 p1 => ⟨fun t => absurd t (tb_0 ⟨p0, by omega⟩), fun ⟨j, a, b, _⟩ => by omega⟩) (fun i a b => by omega) q1 q0
theorem t_layTruth {w u : WD} {o : Int} {Q : Int → WD → Prop} {law : Option LINES} (h : TP w law) (hS : IShelf w) (hq : BF w o = 0) (hu : Same w u) (q1 : TRO w (w (35 + 2 * o)) (w (34 + 2 * o) 3) → ∀ v, (∀ k, k ≠ 71 → v k = u k) → (∀ i, 0 ≤ i → i < w 1 5 → v 71 i = w (35 + 2 * o) i) → Q 1 v) (q0 : ¬ TRO w (w (35 + 2 * o)) (w (34 + 2 * o) 3) → ∀ v, (∀ k, k ≠ 71 → v k = u k) → Q 0 v) : WI (fR_layTruth o u) Q := by
  obtain ⟨ho, h2⟩ := BF_0 hS hq
  obtain ⟨b1, b2, b3, b4, b5, b6⟩ := bytes_of hS ho h2
  have m5 := h.2.2.1.2.2.2
  unfold fR_layTruth
  rw [hu.f 4 (by decide), h.2.2.2.1, hu.r 83 (by decide), b4]
  refine i_ck ho (i_if (fun q => ?_) (fun q => i_some (q0 (fun t => q t.1) u (fun _ _ => rfl))))
  exact l_layTruth h.2.2.1 ho b5 (by rw [hu.f 4 (by decide)]; exact h.2.2.2.1) (by rw [hu.f 1 (by decide)]; exact h.2.2.2.2) (by rw [hu.r 84 (by decide)]; exact b6) q FU 0 0 u (by decide) h.2.2.1.2.2.1 (by unfold FU; omega) (fun _ _ => rfl) (by decide) (fun p p0 p1 => ⟨fun t => absurd t (tb_0 ⟨p0, by omega⟩), fun ⟨j, a, b, _⟩ => by omega⟩) (fun i a b => by omega) q1 q0
theorem same18 {w v : WD} (h : ∀ k, k ≠ 18 → v k = w k) : Same w v := ⟨fun k hk => h k (by intro e; subst e; exact hk (by decide)), by rw [h 6 (by decide)], by rw [h 6 (by decide)], fun i _ => by rw [h 46 (by decide)]⟩
theorem same71 {w v : WD} (h : ∀ k, k ≠ 71 → v k = w k) : Same w v := ⟨fun k hk => h k (by intro e; subst e; exact hk (by decide)), by rw [h 6 (by decide)], by rw [h 6 (by decide)], fun i _ => by rw [h 46 (by decide)]⟩
theorem TRO_7 {w : WD} {c : Int → Int} {sz : Int} (h : TRO w c sz) (h6 : w 1 4 ≤ 6) : ∀ i, 0 ≤ i → i < w 1 5 → 0 ≤ c i ∧ c i < 7 := fun i a b => by
  have := (h.2 i a b).1
  unfold ONE at this
  omega
theorem BF_same {w u : WD} {o : Int} (h : Same w u) : BF u o = BF w o := by unfold BF; rw [h.r 82 (by decide)]
theorem op_truth : op2 Inv fB_truth fR_truth := by
  intro o a w hoI haI hI
  obtain ⟨law, tp⟩ := TP_of hI
  have hS := hI.2.2.2.2.2.2.1
  have p6 := tp.2.2.1.2.1
  refine same_of ?_
  unfold fB_truth
  refine i_ci (s_bytesFault hS ?_)
  by_cases hq : BF w o = 0
  · obtain ⟨ho, -⟩ := BF_0 hS hq
    rw [hq]
    refine i_if (fun q => absurd rfl q) (fun _ => ?_)
    by_cases ha : a = 0 ∨ a = 1
    · have ref : ∀ (u : WD) (r : Int), Same w u → (¬ TRO w (w (35 + 2 * o)) (w (34 + 2 * o) 3) → r = -2) → (TRO w (w (35 + 2 * o)) (w (34 + 2 * o) 3) → r = if a ≠ 0 then FOU w law (SN w) (w (35 + 2 * o)) else TCT (BY (Wf w law (SN w)) (MAYw w)) (w (35 + 2 * o)) (w 1 5) (w 2 47)) → WI (fR_truth o a u) (fun r' y => r' = r ∧ Inv y) := by
        intro u r hu q0 q1
        unfold fR_truth
        refine i_ci (s_isShelfR (fun _ => i_if (fun q => absurd q (by decide)) (fun _ => i_ci (s_in (fun _ => i_if (fun q => absurd q (by decide)) (fun _ => i_ci (s_rowFault ho ?_))) (fun q => by exfalso; omega)))) (fun q => absurd ho q))
        rw [BF_same hu, hq]
        refine i_if (fun _ => i_ci (t_layTruth tp hS hq hu (fun tr v v1 v2 => i_if (fun _ => ?_) (fun q => absurd (by decide) q)) (fun tr v v1 => i_if (fun q => absurd rfl q) (fun _ => i_some ⟨(q0 tr).symm, Inv_same hI (hu.trans (same71 v1))⟩)))) (fun q => absurd (by decide) q)
        have vs := hu.trans (same71 v1)
        have c7 := TRO_7 tr p6
        refine i_if (fun q => i_ci (s_foundOutR tp (TR_of tp vs) (fun i a' b => ⟨v2 i a' b, c7 i a' b⟩) (fun y y1 => i_some ⟨?_, Inv_same hI (vs.trans y1.same)⟩))) (fun q => i_ci (s_truthCounts tp (TR_of tp vs) (fun i a' b => ⟨v2 i a' b, c7 i a' b⟩) (fun y y1 => i_some ⟨?_, ?_⟩)))
        · rw [q1 tr, if_pos q]
        · rw [q1 tr, if_neg q]
        · have yB := vs.trans (y1.sameB.back (y1 49 (by decide) (by decide) (by decide)) (y1 50 (by decide) (by decide) (by decide)))
          exact Inv_same hI yB
      refine i_ci (s_isBit (fun _ => i_if (fun _ => i_ck ho (i_ci (t_readTruth tp hS hq (fun tr v v1 v2 => i_if (fun _ => i_cv (t_load tp (same18 v1) (fun y y1 y2 => ?_))) (fun q => absurd (by decide) q)) (fun tr v v1 => i_if (fun q => absurd rfl q) (fun _ => i_some (ref v _ (same18 v1) (fun _ => rfl) (fun z => absurd z tr))))))) (fun q => absurd (by decide) q)) (fun q => absurd ha q))
      have c7 := TRO_7 tr p6
      have hc : ∀ i, 0 ≤ i → i < w 1 5 → y 18 i = w (35 + 2 * o) i ∧ 0 ≤ w (35 + 2 * o) i ∧ w (35 + 2 * o) i < 7 := fun i a' b => ⟨by rw [y1 18 (by decide) (by decide) (by decide) (by decide) (by decide) (by decide) (by decide)]; exact v2 i a' b, c7 i a' b⟩
      refine i_if (fun q => i_ci (s_foundOutC tp y2 hc (fun z z1 => i_some (ref z _ (y2.1.trans z1.same) (fun t => absurd tr t) (fun _ => by rw [if_pos q]))))) (fun q => i_ci (s_countOfWay tp y2 hc (i_some (ref y _ y2.1 (fun t => absurd tr t) (fun _ => by rw [if_neg q])))))
    · (repeat' (first | (with_reducible refine i_some ?_) | (with_reducible refine v_some ?_) | (with_reducible refine i_ci ?_) | (with_reducible refine i_cv ?_) | (with_reducible refine v_ci ?_) | (with_reducible refine v_cv ?_) | (with_reducible refine i_bv ?_) | (with_reducible refine v_bv ?_) | (with_reducible refine i_bw ?_) | (with_reducible refine v_bw ?_) | (with_reducible refine i_jn ?_) | (with_reducible refine v_jn ?_) | (with_reducible refine i_ck ?_ ?_) | (with_reducible refine v_ck ?_ ?_) | ((with_reducible refine i_if (fun hc => ?_) (fun hc => ?_)) <;> (try simp (disch := omega) only [not_true_eq_false, not_false_eq_true, true_and, and_true, up_r, up_k, ur_s, ur_e, ur_i, cp_k, w32_i, w64_i, w8_i] at hc) <;> (try (exfalso; omega))) | ((with_reducible refine v_if (fun hc => ?_) (fun hc => ?_)) <;> (try simp (disch := omega) only [not_true_eq_false, not_false_eq_true, true_and, and_true, up_r, up_k, ur_s, ur_e, ur_i, cp_k, w32_i, w64_i, w8_i] at hc) <;> (try (exfalso; omega))) | ((with_reducible apply s_isBit) <;> (try intro hvc) <;> (try simp (disch := omega) only [not_true_eq_false, not_false_eq_true, true_and, and_true, up_r, up_k, ur_s, ur_e, ur_i, cp_k, w32_i, w64_i, w8_i] at hvc) <;> (try (exfalso; omega))) | unfold fR_truth | ((with_reducible apply s_isShelfR) <;> (try intro hvc) <;> (try simp (disch := omega) only [not_true_eq_false, not_false_eq_true, true_and, and_true, up_r, up_k, ur_s, ur_e, ur_i, cp_k, w32_i, w64_i, w8_i] at hvc) <;> (try (exfalso; omega))) | ((with_reducible apply s_in) <;> (try intro hvc) <;> (try simp (disch := omega) only [not_true_eq_false, not_false_eq_true, true_and, and_true, up_r, up_k, ur_s, ur_e, ur_i, cp_k, w32_i, w64_i, w8_i] at hvc) <;> (try (exfalso; omega)))))
      all_goals first | omega | exact ⟨rfl, hI⟩
  · refine i_if (fun _ => i_some ?_) (fun q => by exfalso; omega)
    unfold fR_truth
    refine i_ci (s_isShelfR (fun ho => i_if (fun q => absurd q (by decide)) (fun _ => i_ci (s_in (fun _ => i_if (fun q => absurd q (by decide)) (fun _ => i_ci (s_rowFault ho ?_))) (fun _ => i_if (fun _ => i_some ⟨rfl, hI⟩) (fun q => absurd rfl q))))) (fun _ => i_if (fun _ => i_some ⟨rfl, hI⟩) (fun q => absurd rfl q)))
    refine i_if (fun q => ?_) (fun _ => i_some ⟨rfl, hI⟩)
    have := BF_neg (w := w) (o := o)
    omega
