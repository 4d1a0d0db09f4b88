theorem t_truthFault {w : WD} {o : Int} {Q : Int → WD → Prop} {law : Option LINES} (h : TP w law) (hS : IShelf w) (qb : BF w o ≠ 0 → Q (BF w o) w) (q1 : BF w o = 0 → TRO w (w (35 + 2 * o)) (w (34 + 2 * o) 3) → ∀ v, (∀ k, k ≠ 18 → v k = w k) → (∀ i, 0 ≤ i → i < w 1 5 → v 18 i = w (35 + 2 * o) i) → Q 0 v) (q0 : BF w o = 0 → ¬ TRO w (w (35 + 2 * o)) (w (34 + 2 * o) 3) → ∀ v, (∀ k, k ≠ 18 → v k = w k) → Q (-2) v) : WI (fB_truthFault o w) Q := by
  unfold fB_truthFault
  refine i_ci (s_bytesFault hS ?_)
  by_cases hq : BF w o = 0
  · obtain ⟨ho, -⟩ := BF_0 hS hq
    exact i_if (fun _ => i_ck ho (i_ci (t_readTruth h hS hq (fun tr v v1 v2 => i_if (fun q => absurd q (by decide)) (fun _ => i_some (q1 hq tr v v1 v2))) (fun tr v v1 => i_if (fun _ => i_some (q0 hq tr v v1)) (fun q => absurd rfl q))))) (fun q => absurd hq q)
  · exact i_if (fun q => absurd q hq) (fun _ => i_some (qb hq))
def MO (e p : Int) (c : Int → Int) (M : Int) : Nat → Int → Int
  | 0, _ => e
  | f + 1, x => if M ≤ x then e else if c x ≠ p then MO e p c M f (x + 1) else x
theorem MO_in {e p M : Int} {c : Int → Int} : ∀ (f : Nat) (x : Int), 0 ≤ x → M - x < f → MO e p c M f x = e ∨ (0 ≤ MO e p c M f x ∧ MO e p c M f x < M ∧ c (MO e p c M f x) = p)
  | 0, x, _, _ => Or.inl rfl
  | f + 1, x, h, hf => by
    unfold MO
    split
    · exact Or.inl rfl
    · split
      · exact MO_in f (x + 1) (by omega) (by omega)
      · rename_i h1 h2
        exact Or.inr ⟨h, by omega, Decidable.not_not.mp h2⟩
theorem MO_e {e e' p M : Int} {c : Int → Int} (he : e < 0) (he' : e' < 0) : ∀ (f : Nat) (x : Int), 0 ≤ x → (MO e p c M f x = e ∧ MO e' p c M f x = e') ∨ (0 ≤ MO e p c M f x ∧ MO e p c M f x = MO e' p c M f x)
  | 0, x, _ => Or.inl ⟨rfl, rfl⟩
  | f + 1, x, h => by
    unfold MO
    split
    · exact Or.inl ⟨rfl, rfl⟩
    · split
      · exact MO_e he he' f (x + 1) (by omega)
      · exact Or.inr ⟨h, rfl⟩
theorem l_maskInWay {u : WD} {p M : Int} {c : Int → Int} {Q : Int → WD → Prop} (hM : 0 ≤ M ∧ M ≤ 5) (e5 : u 1 5 = M) (hc : ∀ i, 0 ≤ i → i < M → u 18 i = c i) : ∀ (f : Nat) (x : Int), 0 ≤ x → x ≤ M → M - x < f → Q (MO (-1) p c M f x) u → WI (fTh_maskInWay_l2 p f x u) Q
  | 0, x, _, _, h, _ => by exfalso; omega
  | f + 1, x, h0, h1, h2, hQ => by
    show WI (fTh_maskInWay_l2_b (fTh_maskInWay_l2 p f) p x u) Q
    unfold fTh_maskInWay_l2_b fHa_masks fTh_inWay
    unfold MO at hQ
    rw [w32_i (x := x + 1) (by omega) (by omega)]
    refine i_ci (i_some ?_)
    rw [e5]
    refine i_if (fun q => i_some (by rw [if_pos q] at hQ; exact hQ)) (fun q => ?_)
    rw [if_neg q] at hQ
    refine i_ci (i_if (fun z => by exfalso; omega) (fun _ => i_if (fun z => by exfalso; omega) (fun _ => i_ck (by omega) (i_some ?_))))
    rw [hc x h0 (by omega)]
    refine i_if (fun z => i_bv ?_) (fun z => i_some ?_)
    · rw [if_pos z] at hQ
      exact l_maskInWay hM e5 hc f (x + 1) (by omega) (by omega) (by omega) hQ
    · rw [if_neg z] at hQ; exact hQ
theorem l_maskOf {u : WD} {p M : Int} {c : Int → Int} {Q : Int → WD → Prop} (hM : 0 ≤ M ∧ M ≤ 5) (e5 : u 46 4 = M) (hc : ∀ i, 0 ≤ i → i < M → u 71 i = c i) : ∀ (f : Nat) (x : Int), 0 ≤ x → x ≤ M → M - x < f → Q (MO (-2) p c M f x) u → WI (fR_maskOf_l2 p f x u) Q
  | 0, x, _, _, h, _ => by exfalso; omega
  | f + 1, x, h0, h1, h2, hQ => by
    show WI (fR_maskOf_l2_b (fR_maskOf_l2 p f) p x u) Q
    unfold fR_maskOf_l2_b
    unfold MO at hQ
    rw [w32_i (x := x + 1) (by omega) (by omega), e5]
    refine i_if (fun q => i_some (by rw [if_pos q] at hQ; exact hQ)) (fun q => ?_)
    rw [if_neg q] at hQ
    refine i_ck (by omega) ?_
    rw [hc x h0 (by omega)]
    refine i_if (fun z => i_bv ?_) (fun z => i_some ?_)
    · rw [if_pos z] at hQ
      exact l_maskOf hM e5 hc f (x + 1) (by omega) (by omega) (by omega) hQ
    · rw [if_neg z] at hQ; exact hQ
noncomputable def THO (w : WD) (law : Option LINES) (sn : Int → Int → Int) (m p : Int) : Int := CUT (BH w law sn m p) (SUM w law sn (MAYw w)) 3
theorem s_thouC {w u : WD} {law : Option LINES} {sn : Int → Int → Int} {m p : Int} {Q : Int → WD → Prop} (h : TP w law) (hT : TH w law (Wf w law sn) (MAYw w) u) (hm : 0 ≤ m ∧ m < w 1 5) (hp : 0 ≤ p ∧ p < 7) (hQ : ∀ v, FRT u v → Q (THO w law sn m p) v) : WI (fTh_thousandths m p u) Q := by
  unfold fTh_thousandths
  have si := SUM_in (law := law) (sn := sn) (may := MAYw w) h.1 h.2.2.1
  exact i_ci (s_togetherIf1 h hT hm hp (fun v v1 => i_ci (s_together h.1 h.2.2.1 (TH_t hT v1) (MOK_w h) (fun y y1 => i_ci (cut_c si.1 (by decide) (i_some (hQ y (v1.tr y1))))))))
theorem s_thouR {w u : WD} {law : Option LINES} {sn : Int → Int → Int} {m p : Int} {Q : Int → WD → Prop} (h : TP w law) (hR : TR w sn (MAYw w) u) (hm : 0 ≤ m ∧ m < w 1 5) (hp : 0 ≤ p ∧ p < 7) (hQ : ∀ v, FRV u v → Q (THO w law sn m p) v) : WI (fR_thousandths m p u) Q := by
  unfold fR_thousandths
  have si := SUM_in (law := law) (sn := sn) (may := MAYw w) h.1 h.2.2.1
  have m5 := h.2.2.1.2.2.2
  refine i_cv (t_find h hR (fun y y1 y2 _ => ?_))
  rw [w32_i (x := 7 * m) (by omega) (by omega), w32_i (x := 7 * m + p) (by omega) (by omega), ACF_68 h y2 hm hp, ACF_32 h y2]
  exact i_ck (by omega) (i_ci (cut_r si.1 (by decide) (i_some (hQ y y1))))
/-- FEIGN: (that, which), sign by sign -/
def FE1 (Z : Int → Int) (s : Int) : Nat → Int × Int → Int → Int × Int
  | 0, st, _ => st
  | k + 1, st, x => FE1 Z s k (if Z x < st.1 then (Z x, 10 * s + x) else st) (x + 1)
def FE0 (Z : Int → Int → Int) : Nat → Int × Int → Int → Int × Int
  | 0, st, _ => st
  | k + 1, st, s => FE0 Z k (FE1 (Z s) s 4 st 0) (s + 1)
theorem l_feign99 {w : WD} {law : Option LINES} {p y3 m s : Int} {K : Int → Int → WD → Option (Int × WD)} {Q : Int → WD → Prop} (h : TP w law) (hm : 0 ≤ m ∧ m < w 1 5) (hp : 0 ≤ p ∧ p < 7) (hs : 0 ≤ s ∧ s < 3) : ∀ (k f : Nat) (st : Int × Int) (x : Int) (u : WD) (sn : Int → Int → Int), k + x = 4 → 0 ≤ x → k < f → TH w law (Wf w law sn) (MAYw w) u → (∀ i e, 0 ≤ i → i < w 1 5 → i ≠ m → 0 ≤ e → e < 3 → sn i e = SN w i e) →
    (∀ v sn', TH w law (Wf w law sn') (MAYw w) v → (∀ i e, 0 ≤ i → i < w 1 5 → i ≠ m → 0 ≤ e → e < 3 → sn' i e = SN w i e) → WI (K (FE1 (fun x => THO w law (snx w m s x) m p) s k st x).1 (FE1 (fun x => THO w law (snx w m s x) m p) s k st x).2 v) Q) → WI (fB_feign_l99 p y3 m s K f st.1 st.2 x u) Q
  | _, 0, st, x, u, sn, _, _, h, _, _, _ => by exfalso; omega
  | 0, f + 1, st, x, u, sn, hk, h0, h1, hT, hsn, hK => by
    show WI (fB_feign_l99_b (fB_feign_l99 p y3 m s K f) p y3 m s K st.1 st.2 x u) Q
    unfold fB_feign_l99_b
    exact i_if (fun _ => hK u sn hT hsn) (fun q => by exfalso; omega)
  | k + 1, f + 1, st, x, u, sn, hk, h0, h1, hT, hsn, hK => by
    show WI (fB_feign_l99_b (fB_feign_l99 p y3 m s K f) p y3 m s K st.1 st.2 x u) Q
    unfold fB_feign_l99_b
    unfold FE1 at hK
    rw [w32_i (x := x + 1) (by omega) (by omega), w32_i (x := 10 * s) (by omega) (by omega), w32_i (x := 10 * s + x) (by omega) (by omega)]
    refine i_if (fun q => by exfalso; omega) (fun _ => i_cv (t_weigh h hT hsn hm ⟨h0, by omega⟩ (fun v v1 v2 => i_ci (s_thouC h v2 hm hp (fun y y1 => i_jn ?_)))))
    have hy := TH_t v2 y1
    have hsn' : ∀ i e, 0 ≤ i → i < w 1 5 → i ≠ m → 0 ≤ e → e < 3 → snx w m s x i e = SN w i e := fun i e _ _ ne _ _ => by unfold snx; rw [if_neg ne]
    refine i_if (fun q => i_bv ?_) (fun q => i_bv (i_bv ?_))
    · rw [if_neg (by omega)] at hK
      exact l_feign99 h hm hp hs k f st (x + 1) y _ (by omega) (by omega) (by omega) hy hsn' hK
    · rw [if_pos (by omega)] at hK
      exact l_feign99 h hm hp hs k f (_, _) (x + 1) y _ (by omega) (by omega) (by omega) hy hsn' hK
theorem l_feign90 {w : WD} {law : Option LINES} {p y3 m : Int} {K : Int → Int → WD → Option (Int × WD)} {Q : Int → WD → Prop} (h : TP w law) (hm : 0 ≤ m ∧ m < w 1 5) (hp : 0 ≤ p ∧ p < 7) : ∀ (k f : Nat) (st : Int × Int) (s : Int) (u : WD) (sn : Int → Int → Int), k + s = 3 → 0 ≤ s → k < f → TH w law (Wf w law sn) (MAYw w) u → (∀ i e, 0 ≤ i → i < w 1 5 → i ≠ m → 0 ≤ e → e < 3 → sn i e = SN w i e) →
    (∀ v, Same w v → WI (K (FE0 (fun s x => THO w law (snx w m s x) m p) k st s).1 (FE0 (fun s x => THO w law (snx w m s x) m p) k st s).2 v) Q) → WI (fB_feign_l90 p y3 m K f st.1 st.2 s u) Q
  | _, 0, st, s, u, sn, _, _, h, _, _, _ => by exfalso; omega
  | 0, f + 1, st, s, u, sn, hk, h0, h1, hT, hsn, hK => by
    show WI (fB_feign_l90_b (fB_feign_l90 p y3 m K f) p y3 m K st.1 st.2 s u) Q
    unfold fB_feign_l90_b
    exact i_if (fun _ => hK u hT.1) (fun q => by exfalso; omega)
  | k + 1, f + 1, st, s, u, sn, hk, h0, h1, hT, hsn, hK => by
    show WI (fB_feign_l90_b (fB_feign_l90 p y3 m K f) p y3 m K st.1 st.2 s u) Q
    unfold fB_feign_l90_b
    rw [w32_i (x := s + 1) (by omega) (by omega)]
    refine i_if (fun q => by exfalso; omega) (fun _ => l_feign99 h hm hp ⟨h0, by omega⟩ 4 FU st 0 u sn (by decide) (by decide) (by decide) hT hsn (fun v sn' v1 v2 => i_bv (l_feign90 h hm hp k f _ (s + 1) v sn' (by omega) (by omega) (by omega) v1 v2 hK)))
theorem l_feign105 {w : WD} {law : Option LINES} {p y3 m s y8 : Int} {K : Int → Int → WD → Option (Int × WD)} {Q : Int → WD → Prop} (h : TP w law) (hm : 0 ≤ m ∧ m < w 1 5) (hp : 0 ≤ p ∧ p < 7) (hs : 0 ≤ s ∧ s < 3) : ∀ (k f : Nat) (st : Int × Int) (x : Int) (u : WD), k + x = 4 → 0 ≤ x → k < f → SameB w u → u 50 = w 50 → (∀ i, i ≠ 3 * m + s → u 49 i = w 49 i) →
    (∀ v, SameB w v → v 50 = w 50 → (∀ i, i ≠ 3 * m + s → v 49 i = w 49 i) → WI (K (FE1 (fun x => THO w law (snx w m s x) m p) s k st x).2 (FE1 (fun x => THO w law (snx w m s x) m p) s k st x).1 v) Q) → WI (fR_feign_l105 p y3 m s y8 K f st.2 st.1 x u) Q
  | _, 0, st, x, u, _, _, h, _, _, _, _ => by exfalso; omega
  | 0, f + 1, st, x, u, hk, h0, h1, e1, e2, e3, hK => by
    show WI (fR_feign_l105_b (fR_feign_l105 p y3 m s y8 K f) p y3 m s y8 K st.2 st.1 x u) Q
    unfold fR_feign_l105_b
    exact i_if (fun _ => hK u e1 e2 e3) (fun q => by exfalso; omega)
  | k + 1, f + 1, st, x, u, hk, h0, h1, e1, e2, e3, hK => by
    show WI (fR_feign_l105_b (fR_feign_l105 p y3 m s y8 K f) p y3 m s y8 K st.2 st.1 x u) Q
    unfold fR_feign_l105_b
    unfold FE1 at hK
    have m5 := h.2.2.1.2.2.2
    rw [w32_i (x := x + 1) (by omega) (by omega), w32_i (x := 10 * s) (by omega) (by omega), w32_i (x := 10 * s + x) (by omega) (by omega), w32_i (x := 3 * m) (by omega) (by omega), w32_i (x := 3 * m + s) (by omega) (by omega)]
    have hB : SameB u (up u 49 (3 * m + s) x) := ⟨fun k _ k1 _ => up_k k1, by rw [up_k (by decide)], by rw [up_k (by decide)], fun i _ => by rw [up_k (by decide)]⟩
    have hw := TR_of h (Same.rfl' (w := w))
    have hR : TR w (snx w m s x) (MAYw w) (up u 49 (3 * m + s) x) := by
      refine ⟨e1.trans hB, fun i e a b c d => ?_, fun i a b => ?_⟩
      · unfold snx SX
        have q := hw.2.1 i e a b c d
        by_cases z : i = m
        · subst z
          rw [if_pos rfl]
          by_cases z' : e = s
          · subst z'
            rw [up_s, if_pos rfl]
            omega
          · rw [up_i (by omega), if_neg z', e3 _ (by omega)]
            exact q
        · rw [if_neg z, up_i (by omega), e3 _ (by omega)]
          exact q
      · rw [up_k (by decide), e2]
        exact hw.2.2 i a b
    refine i_if (fun q => by exfalso; omega) (fun _ => i_ck (by omega) (i_bw (i_ci (s_thouR h hR hm hp (fun v v1 => i_jn ?_)))))
    have vB := (e1.trans hB).trans v1.sameB
    have v50 : v 50 = w 50 := by rw [v1.1 50 (by decide) (by decide), up_k (by decide)]; exact e2
    have v49 : ∀ i, i ≠ 3 * m + s → v 49 i = w 49 i := fun i hi => by rw [v1.1 49 (by decide) (by decide), up_i hi]; exact e3 i hi
    refine i_if (fun q => i_bv (i_bv ?_)) (fun q => i_bv ?_)
    · rw [if_pos q] at hK
      exact l_feign105 h hm hp hs k f (_, _) (x + 1) v (by omega) (by omega) (by omega) vB v50 v49 hK
    · rw [if_neg q] at hK
      exact l_feign105 h hm hp hs k f st (x + 1) v (by omega) (by omega) (by omega) vB v50 v49 hK
theorem l_feign82 {w : WD} {law : Option LINES} {p y3 m : Int} {K : Int → Int → WD → Option (Int × WD)} {Q : Int → WD → Prop} (h : TP w law) (hm : 0 ≤ m ∧ m < w 1 5) (hp : 0 ≤ p ∧ p < 7) : ∀ (k f : Nat) (st : Int × Int) (s : Int) (u : WD), k + s = 3 → 0 ≤ s → k < f → Same w u →
    (∀ v, Same w v → WI (K (FE0 (fun s x => THO w law (snx w m s x) m p) k st s).2 (FE0 (fun s x => THO w law (snx w m s x) m p) k st s).1 v) Q) → WI (fR_feign_l82 p y3 m K f st.2 st.1 s u) Q
  | _, 0, st, s, u, _, _, h, _, _ => by exfalso; omega
  | 0, f + 1, st, s, u, hk, h0, h1, e1, hK => by
    show WI (fR_feign_l82_b (fR_feign_l82 p y3 m K f) p y3 m K st.2 st.1 s u) Q
    unfold fR_feign_l82_b
    exact i_if (fun _ => hK u e1) (fun q => by exfalso; omega)
  | k + 1, f + 1, st, s, u, hk, h0, h1, e1, hK => by
    show WI (fR_feign_l82_b (fR_feign_l82 p y3 m K f) p y3 m K st.2 st.1 s u) Q
    unfold fR_feign_l82_b
    have m5 := h.2.2.1.2.2.2
    rw [w32_i (x := s + 1) (by omega) (by omega), w32_i (x := 3 * m) (by omega) (by omega), w32_i (x := 3 * m + s) (by omega) (by omega)]
    refine i_if (fun q => by exfalso; omega) (fun _ => i_ck (by omega) (i_bv ?_))
    refine l_feign105 h hm hp ⟨h0, by omega⟩ 4 FU st 0 u (by decide) (by decide) (by decide) (SameB.of e1) (e1.r 50 (by decide)) (fun i _ => by rw [e1.r 49 (by decide)]) (fun v v1 v2 v3 => i_ck (by omega) (i_bw (i_bv (l_feign82 h hm hp k f _ (s + 1) _ (by omega) (by omega) (by omega) ?_ hK))))
    have hB : SameB v (up v 49 (3 * m + s) (u 49 (3 * m + s))) := ⟨fun k _ k1 _ => up_k k1, by rw [up_k (by decide)], by rw [up_k (by decide)], fun i _ => by rw [up_k (by decide)]⟩
    refine (v1.trans hB).back ?_ (by rw [up_k (by decide)]; exact v2)
    funext i
    by_cases z : i = 3 * m + s
    · rw [z, up_s, e1.r 49 (by decide)]
    · rw [up_i z]; exact v3 i z
theorem FE1_in {Z : Int → Int} {s : Int} (hs : 0 ≤ s) : ∀ (k : Nat) (st : Int × Int) (x : Int), 0 ≤ x → (st.2 = -2 ∨ 0 ≤ st.2) → ((FE1 Z s k st x).2 = -2 ∨ 0 ≤ (FE1 Z s k st x).2)
  | 0, st, x, _, h => h
  | k + 1, st, x, hx, h => by
    refine FE1_in hs k _ (x + 1) (by omega) ?_
    split
    · exact Or.inr (by show 0 ≤ 10 * s + x; omega)
    · exact h
theorem FE0_in {Z : Int → Int → Int} : ∀ (k : Nat) (st : Int × Int) (s : Int), 0 ≤ s → (st.2 = -2 ∨ 0 ≤ st.2) → ((FE0 Z k st s).2 = -2 ∨ 0 ≤ (FE0 Z k st s).2)
  | 0, st, s, _, h => h
  | k + 1, st, s, hs, h => FE0_in k _ (s + 1) (by omega) (FE1_in hs 4 st 0 (by decide) h)
theorem op_feign : op3 Inv fB_feign fR_feign := by
  intro o p a w hoI hpI haI hI
  obtain ⟨law, tp⟩ := TP_of hI
  have hS := hI.2.2.2.2.2.2.1
  have p6 := tp.2.2.1.2.1
  have p0 := tp.2.2.1.1
  have m0 := tp.2.2.1.2.2.1
  have m5 := tp.2.2.1.2.2.2
  have r1 := tp.2.2.2.2
  refine same_of ?_
  by_cases hok : (0 ≤ o ∧ o < 6) ∧ (0 ≤ p ∧ p < w 1 4) ∧ (a = 0 ∨ a = 1)
  · obtain ⟨ho, hp, ha⟩ := hok
    have bf := BF_neg (w := w) (o := o)
    have ref : ∀ (u : WD) (r : Int), Same w u → (BF w o ≠ 0 → r = BF w o) → (BF w o = 0 → ¬ TRO w (w (35 + 2 * o)) (w (34 + 2 * o) 3) → r = -2) → (BF w o = 0 → TRO w (w (35 + 2 * o)) (w (34 + 2 * o) 3) → MO (-2) p (w (35 + 2 * o)) (w 1 5) FU 0 < 0 → r = -2) →
        (BF w o = 0 → TRO w (w (35 + 2 * o)) (w (34 + 2 * o) 3) → 0 ≤ MO (-2) p (w (35 + 2 * o)) (w 1 5) FU 0 → ∀ st, st = FE0 (fun s x => THO w law (snx w (MO (-2) p (w (35 + 2 * o)) (w 1 5) FU 0) s x) (MO (-2) p (w (35 + 2 * o)) (w 1 5) FU 0) p) 3 (THO w law (SN w) (MO (-2) p (w (35 + 2 * o)) (w 1 5) FU 0) p, -2) 0 → r = if st.2 = -2 then st.2 else if a ≠ 0 then st.1 else st.2) → WI (fR_feign o p a u) (fun r' y => r' = r ∧ Inv y) := by
      intro u r hu q1 q2 q3 q4
      have u1 := hu.f 1 (by decide)
      unfold fR_feign
      refine i_ci (s_isShelfR (fun _ => i_if (fun q => absurd q (by decide)) (fun _ => ?_)) (fun q => absurd ho q))
      unfold fR_isPerson
      rw [u1, r1, w32_i (x := w 1 4 - 1) (by omega) (by omega)]
      refine i_ci (i_ci (s_in (fun _ => i_some (i_if (fun q => absurd q (by decide)) (fun _ => i_ci (s_in (fun _ => i_if (fun _ => i_ci (s_rowFault ho ?_)) (fun q => absurd (by decide) q)) (fun q => by exfalso; omega))))) (fun q => by exfalso; omega)))
      rw [BF_same hu]
      refine i_if (fun q => ?_) (fun q => i_ci (s_rowFault ho (i_some ⟨by rw [BF_same hu]; exact (q1 (by omega)).symm, Inv_same hI hu⟩)))
      have hq : BF w o = 0 := by omega
      refine i_ci (t_layTruth tp hS hq hu (fun tr v v1 v2 => i_if (fun _ => i_ci ?_) (fun q => absurd (by decide) q)) (fun tr v v1 => i_if (fun q => absurd rfl q) (fun _ => i_some ⟨(q2 hq tr).symm, Inv_same hI (hu.trans (same71 v1))⟩)))
      have vs := hu.trans (same71 v1)
      unfold fR_maskOf
      refine l_maskOf (M := w 1 5) (c := w (35 + 2 * o)) ⟨m0, m5⟩ (by rw [vs.f 4 (by decide)]; exact tp.2.2.2.1) v2 FU 0 (by decide) m0 (by unfold FU; omega) ?_
      have mi := MO_in (e := -2) (p := p) (M := w 1 5) (c := w (35 + 2 * o)) FU 0 (by decide) (by unfold FU; omega)
      have q3' := q3 hq tr
      have q4' := q4 hq tr
      generalize hmm : MO (-2) p (w (35 + 2 * o)) (w 1 5) FU 0 = m at *
      refine i_if (fun c => i_ci (s_thouR tp (TR_of tp vs) (by omega) (by omega) (fun y y1 => ?_))) (fun c => i_some ⟨(q3' (by omega)).symm, Inv_same hI vs⟩)
      refine l_feign82 tp (by omega) (by omega) 3 FU (THO w law (SN w) m p, -2) 0 y (by decide) (by decide) (by decide) (vs.trans y1.same) (fun z z1 => ?_)
      have iz := Inv_same hI z1
      have e := q4' c _ rfl
      have fi := FE0_in (Z := fun s x => THO w law (snx w m s x) m p) 3 (THO w law (SN w) m p, -2) 0 (by decide) (Or.inl rfl)
      generalize FE0 (fun s x => THO w law (snx w m s x) m p) 3 (THO w law (SN w) m p, -2) 0 = st at *
      refine i_if (fun d => i_some ⟨?_, iz⟩) (fun d => i_if (fun d' => i_some ⟨?_, iz⟩) (fun d' => i_some ⟨?_, iz⟩))
      · rw [e, if_pos (by omega)]
      · rw [e, if_neg (by omega), if_pos d']
      · rw [e, if_neg (by omega), if_neg d']
    unfold fB_feign fHa_persons
    refine i_ci (s_isShelfC (fun _ => i_if (fun q => absurd q (by decide)) (fun _ => i_if (fun q => by exfalso; omega) (fun _ => i_ci (i_some (i_if (fun q => by exfalso; omega) (fun _ => i_ci (s_isBit (fun _ => i_if (fun _ => i_ci ?_) (fun q => absurd (by decide) q)) (fun q => absurd ha q)))))))) (fun q => absurd ho q))
    refine t_truthFault tp hS (fun hq => i_if (fun q => absurd q hq) (fun _ => i_some (ref w _ Same.rfl' (fun _ => rfl) (fun z => absurd z hq) (fun z => absurd z hq) (fun z => absurd z hq)))) (fun hq tr v v1 v2 => i_if (fun _ => i_ci ?_) (fun q => absurd rfl q)) (fun hq tr v v1 => i_if (fun q => absurd q (by decide)) (fun _ => i_some (ref v _ (same18 v1) (fun z => absurd hq z) (fun _ _ => rfl) (fun _ z => absurd z tr) (fun _ z => absurd z tr))))
    have vs := same18 v1
    unfold fTh_maskInWay
    refine l_maskInWay (M := w 1 5) (c := w (35 + 2 * o)) ⟨m0, m5⟩ (congrFun (vs.r 1 (by decide)) 5) v2 FU 0 (by decide) m0 (by unfold FU; omega) ?_
    have mi := MO_in (e := -1) (p := p) (M := w 1 5) (c := w (35 + 2 * o)) FU 0 (by decide) (by unfold FU; omega)
    have me := MO_e (e := -1) (e' := -2) (p := p) (M := w 1 5) (c := w (35 + 2 * o)) (by decide) (by decide) FU 0 (by decide)
    generalize hm1 : MO (-1) p (w (35 + 2 * o)) (w 1 5) FU 0 = m at *
    generalize hm2 : MO (-2) p (w (35 + 2 * o)) (w 1 5) FU 0 = m' at *
    refine i_if (fun c => i_cv (t_load tp vs (fun y y1 y2 => i_ci (s_thouC tp y2 (by omega) (by omega) (fun z z1 => ?_))))) (fun c => i_some (ref v _ vs (fun z => absurd hq z) (fun _ z => absurd tr z) (fun _ _ _ => rfl) (fun _ _ z => by exfalso; omega)))
    have em : m = m' := by omega
    refine l_feign90 tp (by omega) (by omega) 3 FU (THO w law (SN w) m p, -2) 0 z (SN w) (by decide) (by decide) (by decide) (TH_t y2 z1) (fun _ _ _ _ _ _ _ => rfl) (fun t t1 => ?_)
    have fi := FE0_in (Z := fun s x => THO w law (snx w m s x) m p) 3 (THO w law (SN w) m p, -2) 0 (by decide) (Or.inl rfl)
    rw [← em] at ref
    generalize FE0 (fun s x => THO w law (snx w m s x) m p) 3 (THO w law (SN w) m p, -2) 0 = st at *
    refine i_if (fun d => i_some (ref t _ t1 (fun z => absurd hq z) (fun _ z => absurd tr z) (fun _ _ z => by exfalso; omega) (fun _ _ _ st' e => ?_))) (fun d => i_if (fun d' => i_some (ref t _ t1 (fun z => absurd hq z) (fun _ z => absurd tr z) (fun _ _ z => by exfalso; omega) (fun _ _ _ st' e => ?_))) (fun d' => i_some (ref t _ t1 (fun z => absurd hq z) (fun _ z => absurd tr z) (fun _ _ z => by exfalso; omega) (fun _ _ _ st' e => ?_))))
    · rw [e, if_pos d]
    · rw [e, if_neg d, if_pos d']
    · rw [e, if_neg d, if_neg d']
  · (repeat' (first | (with_reducible refine i_some ?_) | (with_reducible refine v_some ?_) | (with_reducible refine i_ci ?_) | (with_reducible refine i_cv ?_) | (with_reducible refine v_ci ?_) | (with_reducible refine v_cv ?_) | (with_reducible refine i_bv ?_) | (with_reducible refine v_bv ?_) | (with_reducible refine i_bw ?_) | (with_reducible refine v_bw ?_) | (with_reducible refine i_jn ?_) | (with_reducible refine v_jn ?_) | (with_reducible refine i_ck ?_ ?_) | (with_reducible refine v_ck ?_ ?_) | ((with_reducible refine i_if (fun hc => ?_) (fun hc => ?_)) <;> (try simp (disch := omega) only [not_true_eq_false, not_false_eq_true, true_and, and_true, up_r, up_k, ur_s, ur_e, ur_i, cp_k, w32_i, w64_i, w8_i] at hc) <;> (try (exfalso; omega))) | ((with_reducible refine v_if (fun hc => ?_) (fun hc => ?_)) <;> (try simp (disch := omega) only [not_true_eq_false, not_false_eq_true, true_and, and_true, up_r, up_k, ur_s, ur_e, ur_i, cp_k, w32_i, w64_i, w8_i] at hc) <;> (try (exfalso; omega))) | unfold fB_feign | ((with_reducible apply s_isShelfC) <;> (try intro hvc) <;> (try simp (disch := omega) only [not_true_eq_false, not_false_eq_true, true_and, and_true, up_r, up_k, ur_s, ur_e, ur_i, cp_k, w32_i, w64_i, w8_i] at hvc) <;> (try (exfalso; omega))) | unfold fHa_persons | ((with_reducible apply s_isBit) <;> (try intro hvc) <;> (try simp (disch := omega) only [not_true_eq_false, not_false_eq_true, true_and, and_true, up_r, up_k, ur_s, ur_e, ur_i, cp_k, w32_i, w64_i, w8_i] at hvc) <;> (try (exfalso; omega))) | unfold fR_feign | ((with_reducible apply s_isShelfR) <;> (try intro hvc) <;> (try simp (disch := omega) only [not_true_eq_false, not_false_eq_true, true_and, and_true, up_r, up_k, ur_s, ur_e, ur_i, cp_k, w32_i, w64_i, w8_i] at hvc) <;> (try (exfalso; omega))) | unfold fR_isPerson | ((with_reducible apply s_in) <;> (try intro hvc) <;> (try simp (disch := omega) only [not_true_eq_false, not_false_eq_true, true_and, and_true, up_r, up_k, ur_s, ur_e, ur_i, cp_k, w32_i, w64_i, w8_i] at hvc) <;> (try (exfalso; omega)))))
    all_goals first | omega | exact ⟨rfl, hI⟩
