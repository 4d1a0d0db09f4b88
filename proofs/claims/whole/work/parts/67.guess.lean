theorem AG_le {f f' : List Int → Int} : ∀ L : List (List Int), (∀ l, 0 ≤ f l ∧ f l ≤ f' l) → 0 ≤ AG 0 f L ∧ AG 0 f L ≤ AG 0 f' L
  | [], _ => ⟨Int.le_refl 0, Int.le_refl 0⟩
  | a :: L, h => by
    have i := AG_le L h
    have := h a
    show 0 ≤ opg 0 (f a) (AG 0 f L) ∧ opg 0 (f a) (AG 0 f L) ≤ opg 0 (f' a) (AG 0 f' L)
    unfold opg
    rw [if_pos rfl, if_pos rfl]
    omega
theorem BH_in {w : WD} {law : Option LINES} {sn : Int → Int → Int} {m p : Int} (h : TP w law) : 0 ≤ BH w law sn m p ∧ BH w law sn m p ≤ SUM w law sn (MAYw w) := by
  have b0 : ∀ m p, 0 ≤ BY (Wf w law sn) (MAYw w) m p := fun m p => (BY_in h.1 h.2.2.1.2.1 m p).1
  refine AG_le _ (fun l => ?_)
  have := PRD_ge b0 l 0
  unfold bhd
  split <;> omega
theorem w64_bh {w : WD} {law : Option LINES} {sn : Int → Int → Int} {m p : Int} (h : TP w law) : w64 (AG 0 (bhd (BY (Wf w law sn) (MAYw w)) m p) (LL w law sn (MAYw w))) = BH w law sn m p := by
  have := BH_in (law := law) (sn := sn) (m := m) (p := p) h
  have := SUM_in (law := law) (sn := sn) (may := MAYw w) h.1 h.2.2.1
  exact w64_i (x := BH w law sn m p) (by omega) (by omega)
/-! shares, cut -/
theorem w32_w64 (z : Int) : w32 (w64 z) = w32 z := by unfold w32 w64; omega
theorem cut_l {y d : Int} (hy : y ≠ 0) (hd : d ≤ 100) : ∀ (f : Nat) (a b x : Int), 0 ≤ x → d - x < f → 0 < f → ∃ c, (∀ w : WD, fTh_cut_l21 y d (fun v5 u9 => some (w32 v5, u9)) f a b x w = some (c, w)) ∧ ∀ w : WD, fR_shareOf_l22 y d f (w32 a) b x w = some (c, w)
  | 0, a, b, x, _, h, h0 => by exfalso; omega
  | f + 1, a, b, x, hx, h, h0 => by
    by_cases e : d ≤ x
    · refine ⟨w32 a, fun w => ?_, fun w => ?_⟩
      · show fTh_cut_l21_b (fTh_cut_l21 y d _ f) y d _ a b x w = _
        unfold fTh_cut_l21_b
        rw [if_pos e]
      · show fR_shareOf_l22_b (fR_shareOf_l22 y d f) y d (w32 a) b x w = _
        unfold fR_shareOf_l22_b
        rw [if_pos e]
    · obtain ⟨c, h1, h2⟩ := cut_l hy hd f (w64 (w64 (10 * a) + w64 (Int.tdiv (w64 (b * 10)) y))) (w64 (w64 (b * 10) - w64 (w64 (Int.tdiv (w64 (b * 10)) y) * y))) (x + 1) (by omega) (by omega) (by omega)
      refine ⟨c, fun w => ?_, fun w => ?_⟩
      · show fTh_cut_l21_b (fTh_cut_l21 y d _ f) y d _ a b x w = _
        unfold fTh_cut_l21_b ck bv
        rw [if_neg e]
        simp only [if_pos hy]
        rw [w32_i (x := x + 1) (by omega) (by omega)]
        exact h1 w
      · show fR_shareOf_l22_b (fR_shareOf_l22 y d f) y d (w32 a) b x w = _
        unfold fR_shareOf_l22_b ck bv
        rw [if_neg e]
        simp only [if_pos hy]
        rw [w32_i (x := x + 1) (by omega) (by omega)]
        have ea : w32 (w32 (10 * w32 a) + w32 (w64 (Int.tdiv (w64 (b * 10)) y))) = w32 (w64 (w64 (10 * a) + w64 (Int.tdiv (w64 (b * 10)) y))) := by
          generalize w64 (Int.tdiv (w64 (b * 10)) y) = q
          unfold w32 w64
          omega
        rw [ea]
        exact h2 w
theorem cut_ok (a y d : Int) (hy : 0 ≤ y) (hd : 0 ≤ d ∧ d ≤ 6) : ∃ c, (∀ w : WD, fTh_cut a y d w = some (c, w)) ∧ ∀ w : WD, fR_shareOf a y d w = some (c, w) := by
  by_cases e : y = 0
  · refine ⟨0, fun w => ?_, fun w => ?_⟩
    · unfold fTh_cut
      rw [if_neg (by omega)]
    · unfold fR_shareOf
      rw [if_neg (by omega)]
  · obtain ⟨c, h1, h2⟩ := cut_l (d := d) e (by omega) FU (w64 (Int.tdiv a y)) (w64 (a - w64 (w64 (Int.tdiv a y) * y))) 0 (by decide) (by unfold FU; omega) (by decide)
    refine ⟨c, fun w => ?_, fun w => ?_⟩
    · unfold fTh_cut ck bv
      rw [if_pos (by omega)]
      simp only [if_pos e]
      exact h1 w
    · unfold fR_shareOf ck bv
      rw [if_pos e]
      simp only [if_pos e]
      exact h2 w
def CUT (a y d : Int) : Int := match fTh_cut a y d W0 with
  | some (r, _) => r
  | none => 0
theorem cut_c {a y d : Int} {w : WD} {Q : Int → WD → Prop} (hy : 0 ≤ y) (hd : 0 ≤ d ∧ d ≤ 6) (h : Q (CUT a y d) w) : WI (fTh_cut a y d w) Q := by
  obtain ⟨c, h1, h2⟩ := cut_ok a y d hy hd
  have e : CUT a y d = c := by unfold CUT; rw [h1]
  rw [e] at h
  exact i_eq (h1 w) h
theorem cut_r {a y d : Int} {w : WD} {Q : Int → WD → Prop} (hy : 0 ≤ y) (hd : 0 ≤ d ∧ d ≤ 6) (h : Q (CUT a y d) w) : WI (fR_shareOf a y d w) Q := by
  obtain ⟨c, h1, h2⟩ := cut_ok a y d hy hd
  have e : CUT a y d = c := by unfold CUT; rw [h1]
  rw [e] at h
  exact i_eq (h2 w) h
/-! the likeliest -/
def LK (F : Int → Int) (P : Int) : Nat → Int → Int → Int
  | 0, b, _ => b
  | k + 1, b, p => if ((0 ≤ p ∧ p < P) ∨ p = 6) ∧ (b = -2 ∨ F b < F p) then LK F P k p (p + 1) else LK F P k b (p + 1)
theorem LK_in {F : Int → Int} {P : Int} : ∀ (k : Nat) (b p : Int), k + p = 7 → 0 ≤ p → (b = -2 ∧ p ≤ 6) ∨ ((0 ≤ b ∧ b < P) ∨ b = 6) → (0 ≤ LK F P k b p ∧ LK F P k b p < P) ∨ LK F P k b p = 6
  | 0, b, p, hk, h0, h => by
    show (0 ≤ b ∧ b < P) ∨ b = 6
    rcases h with h | h
    · omega
    · exact h
  | k + 1, b, p, hk, h0, h => by
    unfold LK
    split
    · rename_i c
      exact LK_in k p (p + 1) (by omega) (by omega) (Or.inr c.1)
    · rename_i c
      refine LK_in k b (p + 1) (by omega) (by omega) ?_
      rcases h with h | h
      · refine Or.inl ⟨h.1, ?_⟩
        by_cases e : p = 6
        · exact absurd ⟨Or.inr e, Or.inl h.1⟩ c
        · omega
      · exact Or.inr h
/-- GUESS -/
noncomputable def GS (w : WD) (law : Option LINES) (m : Int) : Int := LK (BH w law (SN w) m) (w 1 4) 7 (-2) 0
theorem GS_in {w : WD} {law : Option LINES} {m : Int} (h : TP w law) : ONE w (GS w law m) ∧ 0 ≤ GS w law m ∧ GS w law m < 7 := by
  have := LK_in (F := BH w law (SN w) m) (P := w 1 4) 7 (-2) 0 (by decide) (by decide) (Or.inl ⟨rfl, by decide⟩)
  have p6 := h.2.2.1.2.1
  unfold GS ONE
  omega
theorem l_likeliest {w : WD} {law : Option LINES} {m : Int} {Q : Int → WD → Prop} (h : TP w law) (hm : 0 ≤ m ∧ m < w 1 5) : ∀ (k f : Nat) (b t p : Int) (u : WD), k + p = 7 → 0 ≤ p → 7 - p < f → TH w law (Wf w law (SN w)) (MAYw w) u → (b = -2 ∨ t = BH w law (SN w) m b) → (∀ v, FRT u v → Q (LK (BH w law (SN w) m) (w 1 4) k b p) v) → WI (fTh_likeliest_l8 m f b t p u) Q
  | _, 0, b, t, p, u, _, _, h, _, _, _ => by exfalso; omega
  | 0, f + 1, b, t, p, u, hk, h0, h1, hT, hb, hQ => by
    show WI (fTh_likeliest_l8_b (fTh_likeliest_l8 m f) m b t p u) Q
    unfold fTh_likeliest_l8_b
    exact i_if (fun _ => i_some (hQ u FRT.rf)) (fun q => by exfalso; omega)
  | k + 1, f + 1, b, t, p, u, hk, h0, h1, hT, hb, hQ => by
    show WI (fTh_likeliest_l8_b (fTh_likeliest_l8 m f) m b t p u) Q
    unfold fTh_likeliest_l8_b
    unfold LK at hQ
    rw [w32_i (x := p + 1) (by omega) (by omega)]
    have e1 := hT.1.r 1 (by decide)
    refine i_if (fun q => by exfalso; omega) (fun _ => i_ci (s_isOneC (fun o => i_jn (i_if (fun q => absurd q (by decide)) (fun _ => i_ci ?_))) (fun o => i_jn (i_if (fun _ => i_bv ?_) (fun q => absurd rfl q)))))
    · rw [e1] at o
      refine s_togetherIf1 h hT hm ⟨h0, by omega⟩ (fun v v1 => i_jn ?_)
      have hT' := TH_t hT v1
      have yes : (b = -2 ∨ BH w law (SN w) m b < BH w law (SN w) m p) → WI (fTh_likeliest_l8 m f p (BH w law (SN w) m p) (p + 1) v) Q := fun c => by
        refine l_likeliest h hm k f p _ (p + 1) v (by omega) (by omega) (by omega) hT' (Or.inr rfl) (fun y y1 => ?_)
        have e := hQ y (v1.tr y1)
        rw [if_pos ⟨o, c⟩] at e
        exact e
      refine i_if (fun q => i_bv (yes (Or.inl q))) (fun q => ?_)
      have ht : t = BH w law (SN w) m b := by
        rcases hb with hb | hb
        · exact absurd hb q
        · exact hb
      refine i_if (fun c => i_bv (l_likeliest h hm k f b t (p + 1) v (by omega) (by omega) (by omega) hT' hb (fun y y1 => ?_))) (fun c => i_bv (yes (Or.inr (by omega))))
      have e := hQ y (v1.tr y1)
      rw [if_neg (fun z => by rcases z.2 with z | z; exact q z; omega)] at e
      exact e
    · rw [e1] at o
      refine l_likeliest h hm k f b t (p + 1) u (by omega) (by omega) (by omega) hT hb (fun y y1 => ?_)
      have e := hQ y y1
      rw [if_neg (fun z => o z.1)] at e
      exact e
theorem s_likeliest {w u : WD} {law : Option LINES} {m : Int} {Q : Int → WD → Prop} (h : TP w law) (hm : 0 ≤ m ∧ m < w 1 5) (hT : TH w law (Wf w law (SN w)) (MAYw w) u) (hQ : ∀ v, FRT u v → Q (GS w law m) v) : WI (fTh_likeliest m u) Q :=
  l_likeliest h hm 7 FU (-2) 0 0 u (by decide) (by decide) (by decide) hT (Or.inl rfl) hQ
theorem l_guessNow {w u : WD} {law : Option LINES} {m : Int} {Q : Int → WD → Prop} (h : TP w law) (hm : 0 ≤ m ∧ m < w 1 5) (e1 : u 46 1 = w 1 4) (e68 : ∀ p, 0 ≤ p → p < 7 → u 68 (7 * m + p) = BH w law (SN w) m p) : ∀ (k f : Nat) (b p : Int), k + p = 7 → 0 ≤ p → 7 - p < f → (0 ≤ b ∧ b < 7) → Q (LK (BH w law (SN w) m) (w 1 4) k b p) u → WI (fR_guessNow_l16 m f b p u) Q
  | _, 0, b, p, _, _, h, _, _ => by exfalso; omega
  | 0, f + 1, b, p, hk, h0, h1, hb, hQ => by
    show WI (fR_guessNow_l16_b (fR_guessNow_l16 m f) m b p u) Q
    unfold fR_guessNow_l16_b
    exact i_if (fun _ => i_some hQ) (fun q => by exfalso; omega)
  | k + 1, f + 1, b, p, hk, h0, h1, hb, hQ => by
    show WI (fR_guessNow_l16_b (fR_guessNow_l16 m f) m b p u) Q
    unfold fR_guessNow_l16_b
    unfold LK at hQ
    have m5 := h.2.2.1.2.2.2
    have p6 := h.2.2.1.2.1
    have p0 := h.2.2.1.1
    rw [w32_i (x := p + 1) (by omega) (by omega), w32_i (x := 7 * m) (by omega) (by omega), w32_i (x := 7 * m + p) (by omega) (by omega), w32_i (x := 7 * m + b) (by omega) (by omega)]
    refine i_if (fun q => by exfalso; omega) (fun _ => i_ci (s_isWhoR (by omega) (fun o => i_jn (i_if (fun q => absurd q (by decide)) (fun _ => i_ck (by omega) (i_ck (by omega) ?_)))) (fun o => i_jn (i_if (fun _ => i_bv ?_) (fun q => absurd rfl q)))))
    · rw [e1] at o
      rw [e68 p h0 (by omega), e68 b hb.1 hb.2]
      refine i_if (fun c => i_bv ?_) (fun c => i_bv ?_)
      · rw [if_neg (fun z => by rcases z.2 with z | z <;> omega)] at hQ
        exact l_guessNow h hm e1 e68 k f b (p + 1) (by omega) (by omega) (by omega) hb hQ
      · rw [if_pos ⟨o, Or.inr (by omega)⟩] at hQ
        exact l_guessNow h hm e1 e68 k f p (p + 1) (by omega) (by omega) (by omega) ⟨h0, by omega⟩ hQ
    · rw [e1] at o
      rw [if_neg (fun z => o z.1)] at hQ
      exact l_guessNow h hm e1 e68 k f b (p + 1) (by omega) (by omega) (by omega) hb hQ
theorem s_guessNow {w u : WD} {law : Option LINES} {m : Int} {Q : Int → WD → Prop} (h : TP w law) (hm : 0 ≤ m ∧ m < w 1 5) (e1 : u 46 1 = w 1 4) (e68 : ∀ p, 0 ≤ p → p < 7 → u 68 (7 * m + p) = BH w law (SN w) m p) (hQ : Q (GS w law m) u) : WI (fR_guessNow m u) Q := by
  unfold fR_guessNow
  rw [e1]
  have key : ∀ b : Int, (0 ≤ b ∧ b < 7) → LK (BH w law (SN w) m) (w 1 4) 7 b 0 = GS w law m → WI (fR_guessNow_l16 m FU b 0 u) Q := fun b hb e => l_guessNow h hm e1 e68 7 FU b 0 (by decide) (by decide) (by decide) hb (by rw [e]; exact hQ)
  have p0 := h.2.2.1.1
  refine i_jn (i_if (fun q => key 6 (by decide) ?_) (fun q => key 0 (by decide) ?_))
  · have hz : w 1 4 = 0 := by omega
    unfold GS
    rw [hz]
    generalize BH w law (SN w) m = F
    unfold LK LK LK LK LK LK LK
    simp only [Int.reduceAdd, Int.reduceLT, Int.reduceLE, Int.reduceEq, Int.reduceNeg, Int.lt_irrefl, and_true, true_and, and_false, false_and, or_true, true_or, or_false, false_or, if_true, if_false, and_self]
  · unfold GS
    show (if ((0 ≤ (0 : Int) ∧ (0 : Int) < w 1 4) ∨ (0 : Int) = 6) ∧ ((0 : Int) = -2 ∨ BH w law (SN w) m 0 < BH w law (SN w) m 0) then _ else _) = if ((0 ≤ (0 : Int) ∧ (0 : Int) < w 1 4) ∨ (0 : Int) = 6) ∧ ((-2 : Int) = -2 ∨ BH w law (SN w) m (-2) < BH w law (SN w) m 0) then _ else _
    rw [if_neg (fun z => by rcases z.2 with z | z <;> omega), if_pos ⟨Or.inl ⟨by omega, by omega⟩, Or.inl rfl⟩]
