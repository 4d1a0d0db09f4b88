/-- as if a SIGN of a MASK were seen as x -/
def snx (w : WD) (m s x : Int) : Int → Int → Int := fun i e => if i = m then SX w m s x e else SN w i e
theorem wgt_congr {w : WD} {law : Option LINES} {g g' : Int → Int} {p : Int} (h : ∀ e, 0 ≤ e → e < 3 → g e = g' e) : wgt w law g p = wgt w law g' p := by
  unfold wgt
  rw [h 0 (by decide) (by decide), h 1 (by decide) (by decide), h 2 (by decide) (by decide)]
theorem TH_sn {w u : WD} {law : Option LINES} {sn sn' : Int → Int → Int} {may : Int → Int} (h : TH w law (Wf w law sn) may u) (e : ∀ i s, 0 ≤ i → i < w 1 5 → 0 ≤ s → s < 3 → sn i s = sn' i s) : TH w law (Wf w law sn') may u := by
  obtain ⟨h1, h2, h3, h4, h5⟩ := h
  refine ⟨h1, h2, fun m p a b c d => ?_, h4, h5⟩
  rw [h3 m p a b c d]
  unfold Wf
  rw [wgt_congr (fun s s0 s1 => e m s a b s0 s1)]
theorem t_weigh {w u : WD} {law : Option LINES} {sn : Int → Int → Int} {may : Int → Int} {m s x : Int} {P : WD → Prop} (h : TP w law) (hT : TH w law (Wf w law sn) may u) (hsn : ∀ i e, 0 ≤ i → i < w 1 5 → i ≠ m → 0 ≤ e → e < 3 → sn i e = SN w i e) (hm : 0 ≤ m ∧ m < w 1 5) (hx : 0 ≤ x ∧ x < 4)
    (hP : ∀ v, (∀ k, k ≠ 14 → v k = u k) → TH w law (Wf w law (snx w m s x)) may v → P v) : WV (fTh_weigh m s x u) P := by
  have m5 := h.2.2.1.2.2.2
  obtain ⟨h1, h2, h3, h4, h5⟩ := id hT
  refine s_weigh (law := law) h.1 h.2.2.1 ⟨hm.1, by omega⟩ hx h1 h2 (fun v v1 v2 v3 => hP v v1 ⟨?_, ?_, fun i p a b c d => ?_, ?_, ?_⟩)
  · exact h1.trans ⟨fun k hk => v1 k (by intro e; subst e; exact hk (by decide)), by rw [v1 6 (by decide)], by rw [v1 6 (by decide)], fun i _ => by rw [v1 46 (by decide)]⟩
  · intro p' s' x' a b c d e f
    rw [v1 13 (by decide)]
    exact h2 p' s' x' a b c d e f
  · by_cases e : i = m
    · subst e
      rw [WT_eq (v3 hm.2 p c d)]
      unfold Wf
      rw [wgt_congr (g' := snx w i s x i) (fun s' _ _ => by unfold snx; rw [if_pos rfl])]
    · rw [v2 _ (by omega), h3 i p a b c d]
      unfold Wf
      rw [wgt_congr (g' := snx w m s x i) (fun s' c d => by unfold snx; rw [if_neg e]; exact hsn i s' a b e c d)]
  · rw [v1 15 (by decide)]; exact h4
  · rw [v1 12 (by decide)]; exact h5
noncomputable def NX (w : WD) (law : Option LINES) (m s x : Int) : Int := (LL w law (snx w m s x) (MAYw w)).length
theorem NX_in {w : WD} {law : Option LINES} {m s x : Int} (h : TP w law) : 0 ≤ NX w law m s x ∧ NX w law m s x ≤ 16807 := by
  have := LL_len (w := w) (law := law) (sn := snx w m s x) (may := MAYw w) ⟨h.2.2.1.2.2.1, h.2.2.1.2.2.2⟩
  unfold NX
  omega
def MXT (Z : Int → Int) : Nat → Int → Int → Int
  | 0, t, _ => t
  | k + 1, t, x => MXT Z k (mx t (Z x)) (x + 1)
theorem l_mostLeft5 {w : WD} {law : Option LINES} {m s : Int} {K : Int → WD → Option (Int × WD)} {Q : Int → WD → Prop} (h : TP w law) (hm : 0 ≤ m ∧ m < w 1 5) : ∀ (k f : Nat) (t x : Int) (u : WD) (sn : Int → Int → Int), k + x = 4 → 0 ≤ x → 4 - x < f → TH w law (Wf w law sn) (MAYw w) u → (∀ i e, 0 ≤ i → i < w 1 5 → i ≠ m → 0 ≤ e → e < 3 → sn i e = SN w i e) →
    (∀ v sn', TH w law (Wf w law sn') (MAYw w) v → (∀ i e, 0 ≤ i → i < w 1 5 → i ≠ m → 0 ≤ e → e < 3 → sn' i e = SN w i e) → WI (K (MXT (NX w law m s) k t x) v) Q) → WI (fTh_mostLeft_l5 m s K f t x u) Q
  | _, 0, t, x, u, sn, _, _, h, _, _, _ => by exfalso; omega
  | 0, f + 1, t, x, u, sn, hk, h0, h1, hT, hsn, hK => by
    show WI (fTh_mostLeft_l5_b (fTh_mostLeft_l5 m s K f) m s K t x u) Q
    unfold fTh_mostLeft_l5_b
    exact i_if (fun _ => hK u sn hT hsn) (fun q => by exfalso; omega)
  | k + 1, f + 1, t, x, u, sn, hk, h0, h1, hT, hsn, hK => by
    show WI (fTh_mostLeft_l5_b (fTh_mostLeft_l5 m s K f) m s K t x u) Q
    unfold fTh_mostLeft_l5_b
    rw [w32_i (x := x + 1) (by omega) (by omega)]
    refine i_if (fun q => by exfalso; omega) (fun _ => i_cv (t_weigh h hT hsn hm ⟨h0, by omega⟩ (fun v v1 v2 => i_ci (s_number h.1 h.2.2.1 v2 (MOK_w h) (fun y y1 => i_bv (i_bv ?_))))))
    exact l_mostLeft5 h hm k f _ (x + 1) y (snx w m s x) (by omega) (by omega) (by omega) (TH_t v2 y1) (fun i e _ _ ne _ _ => by unfold snx; rw [if_neg ne]) hK
noncomputable def ML (w : WD) (law : Option LINES) (m s : Int) : Int := MXT (NX w law m s) 4 0 0
theorem MXT_in {Z : Int → Int} {B : Int} (hZ : ∀ x, 0 ≤ Z x ∧ Z x ≤ B) : ∀ (k : Nat) (t x : Int), 0 ≤ t → t ≤ B → 0 ≤ MXT Z k t x ∧ MXT Z k t x ≤ B
  | 0, t, x, h, h' => ⟨h, h'⟩
  | k + 1, t, x, h, h' => by
    have := hZ x
    exact MXT_in hZ k (mx t (Z x)) (x + 1) (by unfold mx; split <;> omega) (by unfold mx; split <;> omega)
theorem ML_in {w : WD} {law : Option LINES} {m s : Int} (h : TP w law) : 0 ≤ ML w law m s ∧ ML w law m s ≤ 16807 := MXT_in (fun x => NX_in h) 4 0 0 (by decide) (by decide)
theorem s_mostLeft {w u : WD} {law : Option LINES} {m s : Int} {Q : Int → WD → Prop} (h : TP w law) (hm : 0 ≤ m ∧ m < w 1 5) (hT : TH w law (Wf w law (SN w)) (MAYw w) u) (hQ : ∀ v, TH w law (Wf w law (SN w)) (MAYw w) v → Q (ML w law m s) v) : WI (fTh_mostLeft m s u) Q := by
  unfold fTh_mostLeft
  refine l_mostLeft5 h hm 4 FU 0 0 u (SN w) (by decide) (by decide) (by decide) hT (fun _ _ _ _ _ _ _ => rfl) (fun v sn v1 v2 => i_cv (t_weigh h v1 v2 hm (by decide) (fun y y1 y2 => i_some (hQ y (TH_sn y2 (fun i e a b c d => ?_))))))
  unfold snx SX SN
  split
  · rename_i z
    rw [if_neg (by omega), z]
  · rfl
/-- LOOK, MASK by MASK -/
def LIN (w : WD) (Z : Int → Int → Int) (m : Int) : Nat → Int × Int → Int → Int × Int
  | 0, st, _ => st
  | f + 1, st, s => if 3 ≤ s then st else if 0 ≤ SN w m s then LIN w Z m f st (s + 1) else LIN w Z m f (if st.1 = -2 ∨ Z m s < st.2 then (10 * m + s, Z m s) else st) (s + 1)
def LOU (w : WD) (Z : Int → Int → Int) : Nat → Int × Int → Int → Int × Int
  | 0, st, _ => st
  | f + 1, st, m => if w 1 5 ≤ m then st else LOU w Z f (LIN w Z m FU st 0) (m + 1)
/-- alike on both sides -/
def RLK (a b : Int × Int) : Prop := a.1 = b.1 ∧ (a.1 ≠ -2 → a.2 = b.2) ∧ (b.1 = -2 → b.2 = -2)
theorem RLK_in {w : WD} {Z : Int → Int → Int} {m : Int} (hm : 0 ≤ m) : ∀ (f : Nat) (a b : Int × Int) (s : Int), 0 ≤ s → RLK a b → RLK (LIN w Z m f a s) (LIN w Z m f b s)
  | 0, a, b, s, _, h => h
  | f + 1, a, b, s, hs, h => by
    unfold LIN
    split
    · exact h
    · split
      · exact RLK_in hm f a b (s + 1) (by omega) h
      · refine RLK_in hm f _ _ (s + 1) (by omega) ?_
        obtain ⟨h1, h2, h3⟩ := h
        by_cases c : a.1 = -2
        · rw [if_pos (Or.inl c), if_pos (Or.inl (by omega))]
          exact ⟨rfl, fun _ => rfl, fun q => by exfalso; have q' : 10 * m + s = -2 := q; omega⟩
        · have e := h2 c
          by_cases d : Z m s < a.2
          · rw [if_pos (Or.inr d), if_pos (Or.inr (by omega))]
            exact ⟨rfl, fun _ => rfl, fun q => by exfalso; have q' : 10 * m + s = -2 := q; omega⟩
          · rw [if_neg (by omega), if_neg (by omega)]
            exact ⟨h1, h2, h3⟩
theorem RLK_out {w : WD} {Z : Int → Int → Int} : ∀ (f : Nat) (a b : Int × Int) (m : Int), 0 ≤ m → RLK a b → RLK (LOU w Z f a m) (LOU w Z f b m)
  | 0, a, b, m, _, h => h
  | f + 1, a, b, m, hm, h => by
    unfold LOU
    split
    · exact h
    · exact RLK_out f _ _ (m + 1) (by omega) (RLK_in hm FU a b 0 (by decide) h)
theorem l_look39 {w : WD} {law : Option LINES} {y1 m : Int} {K : Int → Int → WD → Option (Int × WD)} {Q : Int → WD → Prop} (h : TP w law) (hm : 0 ≤ m ∧ m < w 1 5) : ∀ (f : Nat) (st : Int × Int) (s : Int) (u : WD), 0 ≤ s → s ≤ 3 → 3 - s < f → TH w law (Wf w law (SN w)) (MAYw w) u →
    (∀ v, TH w law (Wf w law (SN w)) (MAYw w) v → WI (K (LIN w (ML w law) m f st s).1 (LIN w (ML w law) m f st s).2 v) Q) → WI (fB_look_l39 y1 m K f st.1 st.2 s u) Q
  | 0, st, s, u, _, _, h, _, _ => by exfalso; omega
  | f + 1, st, s, u, h0, h1, h2, hT, hK => by
    show WI (fB_look_l39_b (fB_look_l39 y1 m K f) y1 m K st.1 st.2 s u) Q
    unfold fB_look_l39_b
    unfold LIN at hK
    have m5 := h.2.2.1.2.2.2
    have e1 := hT.1.r 1 (by decide)
    rw [w32_i (x := s + 1) (by omega) (by omega), w32_i (x := 4 + s) (by omega) (by omega), w32_i (x := 10 * m) (by omega) (by omega), w32_i (x := 10 * m + s) (by omega) (by omega)]
    by_cases c3 : 3 ≤ s
    · rw [if_pos c3] at hK
      exact i_if (fun _ => hK u hT) (fun q => absurd c3 q)
    · rw [if_neg c3] at hK
      refine i_if (fun q => absurd q c3) (fun _ => i_ci (s_at (by rw [e1]; exact h.2.2.1) (fun _ => i_jn ?_) (fun q => absurd (show OKp _ _ _ _ from ⟨by omega, by omega, by omega, by omega, by rw [e1]; omega, by omega, by omega⟩) q)))
      rw [PL_seen ⟨h0, by omega⟩, hT.1.r 2 (by decide)]
      by_cases cs : 0 ≤ SN w m s
      · rw [if_pos cs] at hK
        exact i_if (fun _ => i_bv (l_look39 h hm f st (s + 1) u (by omega) (by omega) (by omega) hT hK)) (fun q => absurd cs q)
      · rw [if_neg cs] at hK
        refine i_if (fun q => absurd q cs) (fun _ => i_ci (s_mostLeft h hm hT (fun v v1 => i_jn ?_)))
        have yes : (st.1 = -2 ∨ ML w law m s < st.2) → WI (fB_look_l39 y1 m K f (10 * m + s) (ML w law m s) (s + 1) v) Q := fun c => by
          rw [if_pos c] at hK
          exact l_look39 h hm f (10 * m + s, ML w law m s) (s + 1) v (by omega) (by omega) (by omega) v1 hK
        refine i_if (fun c => i_bv (i_bv (yes (Or.inl c)))) (fun c => i_if (fun c' => i_bv ?_) (fun c' => i_bv (i_bv (yes (Or.inr (by omega))))))
        rw [if_neg (by omega)] at hK
        exact l_look39 h hm f st (s + 1) v (by omega) (by omega) (by omega) v1 hK
theorem l_look24 {w : WD} {law : Option LINES} {y1 : Int} {K : Int → Int → WD → Option (Int × WD)} {Q : Int → WD → Prop} (h : TP w law) : ∀ (f : Nat) (st : Int × Int) (m : Int) (u : WD), 0 ≤ m → m ≤ w 1 5 → w 1 5 - m < f → TH w law (Wf w law (SN w)) (MAYw w) u →
    (∀ v, TH w law (Wf w law (SN w)) (MAYw w) v → WI (K (LOU w (ML w law) f st m).1 (LOU w (ML w law) f st m).2 v) Q) → WI (fB_look_l24 y1 K f st.1 st.2 m u) Q
  | 0, st, m, u, _, _, h, _, _ => by exfalso; omega
  | f + 1, st, m, u, h0, h1, h2, hT, hK => by
    show WI (fB_look_l24_b (fB_look_l24 y1 K f) y1 K st.1 st.2 m u) Q
    unfold fB_look_l24_b fHa_masks
    unfold LOU at hK
    have m5 := h.2.2.1.2.2.2
    rw [w32_i (x := m + 1) (by omega) (by omega)]
    refine i_ci (i_some ?_)
    rw [hT.1.r 1 (by decide)]
    by_cases c : w 1 5 ≤ m
    · rw [if_pos c] at hK
      exact i_if (fun _ => hK u hT) (fun q => absurd c q)
    · rw [if_neg c] at hK
      refine i_if (fun q => absurd q c) (fun _ => ?_)
      exact l_look39 h ⟨h0, by omega⟩ FU st 0 u (by decide) (by decide) (by decide) hT (fun v v1 => i_bv (l_look24 h f _ (m + 1) v (by omega) (by omega) (by omega) v1 hK))
/-- the reference looks -/
def LKR (w : WD) (st : Int × Int) (u : WD) : Prop := Same w u ∧ u 46 42 = st.1 ∧ u 46 43 = st.2
theorem l_try5 {w : WD} {law : Option LINES} {m s : Int} {K : Int → WD → Option WD} {Q : WD → Prop} (h : TP w law) (hm : 0 ≤ m ∧ m < w 1 5) (hs : 0 ≤ s ∧ s < 3) : ∀ (k f : Nat) (t x : Int) (u : WD), k + x = 4 → 0 ≤ x → 4 - x < f → SameB w u → u 50 = w 50 → (∀ i, i ≠ 3 * m + s → u 49 i = w 49 i) →
    (∀ v, SameB w v → v 50 = w 50 → (∀ i, i ≠ 3 * m + s → v 49 i = w 49 i) → v 46 42 = u 46 42 → v 46 43 = u 46 43 → WV (K (MXT (NX w law m s) k t x) v) Q) → WV (fR_tryLook_l5 m s K f t x u) Q
  | _, 0, t, x, u, _, _, h, _, _, _, _ => by exfalso; omega
  | 0, f + 1, t, x, u, hk, h0, h1, e1, e2, e3, hK => by
    show WV (fR_tryLook_l5_b (fR_tryLook_l5 m s K f) m s K t x u) Q
    unfold fR_tryLook_l5_b
    exact v_if (fun _ => hK u e1 e2 e3 rfl rfl) (fun q => by exfalso; omega)
  | k + 1, f + 1, t, x, u, hk, h0, h1, e1, e2, e3, hK => by
    show WV (fR_tryLook_l5_b (fR_tryLook_l5 m s K f) m s K t x u) Q
    unfold fR_tryLook_l5_b
    have m5 := h.2.2.1.2.2.2
    rw [w32_i (x := x + 1) (by omega) (by omega), w32_i (x := 3 * m) (by omega) (by omega), w32_i (x := 3 * m + s) (by omega) (by omega)]
    have hB : SameB u (up u 49 (3 * m + s) x) := ⟨fun k _ k1 _ => up_k k1, by rw [up_k (by decide)], by rw [up_k (by decide)], fun i _ => by rw [up_k (by decide)]⟩
    have hw := TR_of h (Same.rfl' (w := w))
    have hR : TR w (snx w m s x) (MAYw w) (up u 49 (3 * m + s) x) := by
      refine ⟨e1.trans hB, fun i e a b c d => ?_, fun i a b => ?_⟩
      · unfold snx SX
        have q := hw.2.1 i e a b c d
        by_cases z : i = m
        · subst z
          rw [if_pos rfl]
          by_cases z' : e = s
          · subst z'
            rw [up_s, if_pos rfl]
            omega
          · rw [up_i (by omega), if_neg z', e3 _ (by omega)]
            exact q
        · rw [if_neg z, up_i (by omega), e3 _ (by omega)]
          exact q
      · rw [up_k (by decide), e2]
        exact hw.2.2 i a b
    refine v_if (fun q => by exfalso; omega) (fun _ => v_ck (by omega) (v_bw (v_ci (s_waysNow h hR (fun v v1 => v_jn ?_)))))
    have vB := (e1.trans hB).trans v1.sameB
    have v50 : v 50 = w 50 := by rw [v1.1 50 (by decide) (by decide), up_k (by decide)]; exact e2
    have v49 : ∀ i, i ≠ 3 * m + s → v 49 i = w 49 i := fun i hi => by rw [v1.1 49 (by decide) (by decide), up_i hi]; exact e3 i hi
    have v42 : v 46 42 = u 46 42 := by rw [v1.2 42 (by decide) (by decide) (by decide) (by decide) (by decide) (by decide) (by decide), up_k (by decide)]
    have v43 : v 46 43 = u 46 43 := by rw [v1.2 43 (by decide) (by decide) (by decide) (by decide) (by decide) (by decide) (by decide), up_k (by decide)]
    have go : ∀ t', t' = mx t (NX w law m s x) → WV (fR_tryLook_l5 m s K f t' (x + 1) v) Q := fun t' et => by
      subst et
      exact l_try5 h hm hs k f _ (x + 1) v (by omega) (by omega) (by omega) vB v50 v49 (fun y y1 y2 y3 y4 y5 => hK y y1 y2 y3 (y4.trans v42) (y5.trans v43))
    refine v_if (fun q => v_bv (go _ ?_)) (fun q => v_bv (go _ ?_))
    · show t = mx t ((LL w law (snx w m s x) (MAYw w)).length : Int)
      unfold mx; rw [if_neg (by omega)]
    · show ((LL w law (snx w m s x) (MAYw w)).length : Int) = mx t ((LL w law (snx w m s x) (MAYw w)).length : Int)
      unfold mx; rw [if_pos (by omega)]
theorem s_tryLook {w u : WD} {law : Option LINES} {m s : Int} {st : Int × Int} {Q : WD → Prop} (h : TP w law) (hm : 0 ≤ m ∧ m < w 1 5) (hs : 0 ≤ s ∧ s < 3) (hu : LKR w st u) (hn : SN w m s < 0) (hst : st.1 = -2 ∨ 0 ≤ st.1) (hQ : ∀ v, LKR w (if st.1 = -2 ∨ ML w law m s < st.2 then (10 * m + s, ML w law m s) else st) v → Q v) : WV (fR_tryLook m s u) Q := by
  obtain ⟨u1, u2, u3⟩ := hu
  have m5 := h.2.2.1.2.2.2
  unfold fR_tryLook
  rw [w32_i (x := 3 * m) (by omega) (by omega), w32_i (x := 3 * m + s) (by omega) (by omega), w32_i (x := 10 * m) (by omega) (by omega), w32_i (x := 10 * m + s) (by omega) (by omega)]
  refine l_try5 h hm hs 4 FU 0 0 u (by decide) (by decide) (by decide) (SameB.of u1) (u1.r 50 (by decide)) (fun i _ => by rw [u1.r 49 (by decide)]) (fun v v1 v2 v3 v4 v5 => v_ck (by omega) (v_bw (v_jn ?_)))
  have hw := (TR_of h (Same.rfl' (w := w))).2.1 m s hm.1 hm.2 hs.1 hs.2
  have hB : SameB v (up v 49 (3 * m + s) (-1)) := ⟨fun k _ k1 _ => up_k k1, by rw [up_k (by decide)], by rw [up_k (by decide)], fun i _ => by rw [up_k (by decide)]⟩
  have vs : Same w (up v 49 (3 * m + s) (-1)) := by
    refine (v1.trans hB).back ?_ (by rw [up_k (by decide)]; exact v2)
    funext i
    by_cases z : i = 3 * m + s
    · rw [z, up_s]; omega
    · rw [up_i z]; exact v3 i z
  have f42 : up v 49 (3 * m + s) (-1) 46 42 = st.1 := by rw [up_k (by decide), v4]; exact u2
  have f43 : up v 49 (3 * m + s) (-1) 46 43 = st.2 := by rw [up_k (by decide), v5]; exact u3
  have yes : (st.1 = -2 ∨ ML w law m s < st.2) → WV (bw (up (up v 49 (3 * m + s) (-1)) 46 42 (10 * m + s)) fun u15 => bw (up u15 46 43 (ML w law m s)) fun u16 => some u16) Q := fun c => by
    refine v_bw (v_bw (v_some (hQ _ ?_)))
    rw [if_pos c]
    exact ⟨sm_up46 (sm_up46 vs (by decide)) (by decide), by rw [up_i (by decide), up_s], by rw [up_s]⟩
  rw [f42, f43]
  show WV (if st.1 < 0 then (bw (up (up v 49 (3 * m + s) (-1)) 46 42 (10 * m + s)) fun u15 => bw (up u15 46 43 (ML w law m s)) fun u16 => some u16) else (if ML w law m s < st.2 then (bw (up (up v 49 (3 * m + s) (-1)) 46 42 (10 * m + s)) fun u15 => bw (up u15 46 43 (ML w law m s)) fun u16 => some u16) else some (up v 49 (3 * m + s) (-1)))) Q
  refine v_if (fun c => yes (Or.inl (by omega))) (fun c => v_if (fun c' => yes (Or.inr c')) (fun c' => v_some (hQ _ ?_)))
  rw [if_neg (by omega)]
  exact ⟨vs, f42, f43⟩
theorem LIN_pos {w : WD} {Z : Int → Int → Int} {m : Int} (hm : 0 ≤ m) : ∀ (f : Nat) (a : Int × Int) (s : Int), 0 ≤ s → (a.1 = -2 ∨ 0 ≤ a.1) → ((LIN w Z m f a s).1 = -2 ∨ 0 ≤ (LIN w Z m f a s).1)
  | 0, a, s, _, h => h
  | f + 1, a, s, hs, h => by
    unfold LIN
    split
    · exact h
    · split
      · exact LIN_pos hm f a (s + 1) (by omega) h
      · refine LIN_pos hm f _ (s + 1) (by omega) ?_
        split
        · exact Or.inr (by show 0 ≤ 10 * m + s; omega)
        · exact h
theorem l_lookR35 {w : WD} {law : Option LINES} {y1 m : Int} {K : WD → Option (Int × WD)} {Q : Int → WD → Prop} (h : TP w law) (hm : 0 ≤ m ∧ m < w 1 5) : ∀ (f : Nat) (st : Int × Int) (s : Int) (u : WD), 0 ≤ s → s ≤ 3 → 3 - s < f → LKR w st u → (st.1 = -2 ∨ 0 ≤ st.1) →
    (∀ v, LKR w (LIN w (ML w law) m f st s) v → WI (K v) Q) → WI (fR_look_l35 y1 m K f s u) Q
  | 0, st, s, u, _, _, h, _, _, _ => by exfalso; omega
  | f + 1, st, s, u, h0, h1, h2, hu, hst, hK => by
    show WI (fR_look_l35_b (fR_look_l35 y1 m K f) y1 m K s u) Q
    unfold fR_look_l35_b
    unfold LIN at hK
    have m5 := h.2.2.1.2.2.2
    rw [w32_i (x := s + 1) (by omega) (by omega), w32_i (x := 3 * m) (by omega) (by omega), w32_i (x := 3 * m + s) (by omega) (by omega)]
    by_cases c3 : 3 ≤ s
    · rw [if_pos c3] at hK
      exact i_if (fun _ => hK u hu) (fun q => absurd c3 q)
    · rw [if_neg c3] at hK
      refine i_if (fun q => absurd q c3) (fun _ => i_ck (by omega) (i_jn ?_))
      have e49 : u 49 (3 * m + s) = SN w m s := by
        have := (TR_of h hu.1).2.1 m s hm.1 hm.2 h0 (by omega)
        exact this.1
      rw [e49]
      by_cases cs : 0 ≤ SN w m s
      · rw [if_pos cs] at hK
        exact i_if (fun _ => i_bv (l_lookR35 h hm f st (s + 1) u (by omega) (by omega) (by omega) hu hst hK)) (fun q => absurd cs q)
      · rw [if_neg cs] at hK
        refine i_if (fun q => absurd q cs) (fun _ => i_cv (s_tryLook h hm ⟨h0, by omega⟩ hu (by omega) hst (fun v v1 => i_bv (l_lookR35 h hm f _ (s + 1) v (by omega) (by omega) (by omega) v1 ?_ hK))))
        split
        · exact Or.inr (by show 0 ≤ 10 * m + s; omega)
        · exact hst
theorem l_lookR25 {w : WD} {law : Option LINES} {y1 : Int} {K : WD → Option (Int × WD)} {Q : Int → WD → Prop} (h : TP w law) : ∀ (f : Nat) (st : Int × Int) (m : Int) (u : WD), 0 ≤ m → m ≤ w 1 5 → w 1 5 - m < f → LKR w st u → (st.1 = -2 ∨ 0 ≤ st.1) →
    (∀ v, LKR w (LOU w (ML w law) f st m) v → WI (K v) Q) → WI (fR_look_l25 y1 K f m u) Q
  | 0, st, m, u, _, _, h, _, _, _ => by exfalso; omega
  | f + 1, st, m, u, h0, h1, h2, hu, hst, hK => by
    show WI (fR_look_l25_b (fR_look_l25 y1 K f) y1 K m u) Q
    unfold fR_look_l25_b
    unfold LOU at hK
    have m5 := h.2.2.1.2.2.2
    rw [w32_i (x := m + 1) (by omega) (by omega), hu.1.f 4 (by decide), h.2.2.2.1]
    by_cases c : w 1 5 ≤ m
    · rw [if_pos c] at hK
      exact i_if (fun _ => hK u hu) (fun q => absurd c q)
    · rw [if_neg c] at hK
      refine i_if (fun q => absurd q c) (fun _ => ?_)
      exact l_lookR35 h ⟨h0, by omega⟩ FU st 0 u (by decide) (by decide) (by decide) hu hst (fun v v1 => i_bv (l_lookR25 h f _ (m + 1) v (by omega) (by omega) (by omega) v1 (LIN_pos h0 FU st 0 (by decide) hst) hK))
theorem LOU_in {w : WD} {Z : Int → Int → Int} {B : Int} (hZ : ∀ m s, 0 ≤ Z m s ∧ Z m s ≤ B) : ∀ (f : Nat) (a : Int × Int) (m : Int), (0 ≤ a.2 ∧ a.2 ≤ B) → 0 ≤ (LOU w Z f a m).2 ∧ (LOU w Z f a m).2 ≤ B
  | 0, a, m, h => h
  | f + 1, a, m, h => by
    have inn : ∀ (f : Nat) (a : Int × Int) (s : Int), (0 ≤ a.2 ∧ a.2 ≤ B) → 0 ≤ (LIN w Z m f a s).2 ∧ (LIN w Z m f a s).2 ≤ B := by
      intro f
      induction f with
      | zero => intro a s h; exact h
      | succ f ih =>
        intro a s h
        unfold LIN
        split
        · exact h
        · split
          · exact ih a (s + 1) h
          · refine ih _ (s + 1) ?_
            split
            · exact hZ m s
            · exact h
    unfold LOU
    split
    · exact h
    · exact LOU_in hZ f _ (m + 1) (inn FU a 0 h)
theorem op_look : op1 Inv fB_look fR_look := by
  intro a w haI hI
  obtain ⟨law, tp⟩ := TP_of hI
  have m5 := tp.2.2.1.2.2.2
  have m0 := tp.2.2.1.2.2.1
  refine same_of ?_
  unfold fB_look
  by_cases ha : a = 0 ∨ a = 1
  · refine i_ci (s_isBit (fun _ => i_if (fun _ => i_cv (t_load tp Same.rfl' (fun v v1 v2 => ?_))) (fun q => absurd (by decide) q)) (fun q => absurd ha q))
    refine l_look24 tp FU (-2, 0) 0 v (by decide) m0 (by unfold FU; omega) v2 (fun y y1 => ?_)
    have rl := RLK_out (w := w) (Z := ML w law) FU (-2, 0) (-2, -2) 0 (by decide) ⟨rfl, fun q => absurd rfl q, fun _ => rfl⟩
    have li := LOU_in (w := w) (Z := ML w law) (fun m s => ML_in tp) FU (-2, 0) 0 (by decide)
    have ref : ∀ r : Int, r = (if a ≠ 0 then (LOU w (ML w law) FU (-2, -2) 0).2 else (LOU w (ML w law) FU (-2, -2) 0).1) → WI (fR_look a y) (fun r' z => r' = r ∧ Inv z) := by
      intro r hr
      unfold fR_look
      have ys : LKR w (-2, -2) (up (up y 46 42 (-2)) 46 43 (-2)) := ⟨sm_up46 (sm_up46 y1.1 (by decide)) (by decide), by rw [up_i (by decide), up_s], by rw [up_s]⟩
      refine i_ci (s_in (fun _ => i_if (fun _ => i_bw (i_bw (l_lookR25 tp FU (-2, -2) 0 _ (by decide) m0 (by unfold FU; omega) ys (Or.inl rfl) (fun z z1 => ?_)))) (fun q => absurd (by decide) q)) (fun q => by exfalso; omega))
      have iz := Inv_same hI z1.1
      refine i_if (fun q => i_some ⟨?_, iz⟩) (fun q => i_some ⟨?_, iz⟩)
      · rw [hr, if_pos q]; exact z1.2.2
      · rw [hr, if_neg q]; exact z1.2.1
    generalize hc : LOU w (ML w law) FU (-2, 0) 0 = C at *
    generalize hd : LOU w (ML w law) FU (-2, -2) 0 = E at *
    obtain ⟨r1, r2, r3⟩ := rl
    refine i_if (fun q => i_some (ref _ ?_)) (fun q => i_if (fun q' => i_some (ref _ ?_)) (fun q' => i_some (ref _ ?_)))
    · have := r3 (by omega)
      split <;> omega
    · rw [if_pos q', w32_i (by omega) (by omega)]
      exact r2 q
    · rw [if_neg q']
      exact r1
  · (repeat' (first | (with_reducible refine i_some ?_) | (with_reducible refine v_some ?_) | (with_reducible refine i_ci ?_) | (with_reducible refine i_cv ?_) | (with_reducible refine v_ci ?_) | (with_reducible refine v_cv ?_) | (with_reducible refine i_bv ?_) | (with_reducible refine v_bv ?_) | (with_reducible refine i_bw ?_) | (with_reducible refine v_bw ?_) | (with_reducible refine i_jn ?_) | (with_reducible refine v_jn ?_) | (with_reducible refine i_ck ?_ ?_) | (with_reducible refine v_ck ?_ ?_) | ((with_reducible refine i_if (fun hc => ?_) (fun hc => ?_)) <;> (try simp (disch := omega) only [not_true_eq_false, not_false_eq_true, true_and, and_true, up_r, up_k, ur_s, ur_e, ur_i, cp_k, w32_i, w64_i, w8_i] at hc) <;> (try (exfalso; omega))) | ((with_reducible refine v_if (fun hc => ?_) (fun hc => ?_)) <;> (try simp (disch := omega) only [not_true_eq_false, not_false_eq_true, true_and, and_true, up_r, up_k, ur_s, ur_e, ur_i, cp_k, w32_i, w64_i, w8_i] at hc) <;> (try (exfalso; omega))) | ((with_reducible apply s_isBit) <;> (try intro hvc) <;> (try simp (disch := omega) only [not_true_eq_false, not_false_eq_true, true_and, and_true, up_r, up_k, ur_s, ur_e, ur_i, cp_k, w32_i, w64_i, w8_i] at hvc) <;> (try (exfalso; omega))) | unfold fR_look | ((with_reducible apply s_in) <;> (try intro hvc) <;> (try simp (disch := omega) only [not_true_eq_false, not_false_eq_true, true_and, and_true, up_r, up_k, ur_s, ur_e, ur_i, cp_k, w32_i, w64_i, w8_i] at hvc) <;> (try (exfalso; omega)))))
    all_goals first | omega | exact ⟨rfl, hI⟩
