/-! the ops of thought -/
def MAYw (w : WD) (m : Int) : Int := w 2 (27 + 4 * m)
/-- what an op of thought goes by -/
def TP (w : WD) (law : Option LINES) : Prop := HV w ∧ LW w law ∧ (0 ≤ w 1 4 ∧ w 1 4 ≤ 6 ∧ 0 ≤ w 1 5 ∧ w 1 5 ≤ 5) ∧ w 46 4 = w 1 5 ∧ w 46 1 = w 1 4
theorem TP_of {w : WD} (h : Inv w) : ∃ law, TP w law := by
  obtain ⟨hH, hC, hT, hL, hN, hK, hS, hB⟩ := h
  obtain ⟨p0, p6, pr, m0, m5, mr, hV⟩ := hH
  obtain ⟨law, hl⟩ := LW_of hL
  exact ⟨law, hV, hl, ⟨p0, p6, m0, m5⟩, mr, pr⟩
theorem HV_may {w : WD} (h : HV w) {m : Int} (hm : 0 ≤ m ∧ m < 5) : w 50 m = MAYw w m ∧ 0 ≤ MAYw w m ∧ MAYw w m < 128 := by
  obtain ⟨a, b, c⟩ : w 50 m = w 2 (24 + 4 * m + 7 - 4) ∧ 0 ≤ w 2 (24 + 4 * m + 7 - 4) ∧ w 2 (24 + 4 * m + 7 - 4) ≤ 127 := h 7 m ⟨by omega, by omega, by omega, by omega, by omega, by omega, by omega⟩
  unfold MAYw
  rw [show 24 + 4 * m + 7 - 4 = 27 + 4 * m by omega] at a b c
  exact ⟨a, b, by omega⟩
theorem MOK_w {w : WD} {law : Option LINES} (h : TP w law) : MOK (w 1 5) (MAYw w) := fun m a b => (HV_may h.1 ⟨a, by have := h.2.2.1.2.2.2; omega⟩).2
theorem TR_of {w u : WD} {law : Option LINES} (h : TP w law) (e : Same w u) : TR w (SN w) (MAYw w) u := by
  have h5 := h.2.2.1.2.2.2
  refine ⟨SameB.of e, fun m s a b c d => ?_, fun m a b => ?_⟩
  · have := HV_seen h.1 (a := m) (s := s) ⟨a, by omega⟩ ⟨c, d⟩
    rw [e.r 49 (by decide)]
    exact this
  · rw [e.r 50 (by decide)]
    exact HV_may h.1 ⟨a, by omega⟩
theorem t_load {w u : WD} {law : Option LINES} {P : WD → Prop} (h : TP w law) (e : Same w u) (hP : ∀ v, (∀ k, k ≠ 6 → k ≠ 10 → k ≠ 11 → k ≠ 12 → k ≠ 13 → k ≠ 14 → k ≠ 15 → v k = u k) → TH w law (Wf w law (SN w)) (MAYw w) v → P v) : WV (fTh_load u) P :=
  s_load h.1 h.2.1 h.2.2.1 e (fun v v1 v2 => hP v v1 v2)
theorem t_find {w u : WD} {law : Option LINES} {sn : Int → Int → Int} {may : Int → Int} {Q : WD → Prop} (h : TP w law) (hR : TR w sn may u) (hQ : ∀ v, FRV u v → ACF (w 1 4) (w 1 5) (BY (Wf w law sn) may) (u 70) (LL w law sn may) v → (∀ m q, 0 ≤ m → m < w 1 5 → 0 ≤ q → q < 7 → v 65 (7 * m + q) = BY (Wf w law sn) may m q) → Q v) : WV (fR_findWays u) Q :=
  s_findWays h.1 h.2.1 ⟨h.2.2.1.2.2.1, h.2.2.1.2.2.2, h.2.2.2.1⟩ ⟨h.2.2.1.1, h.2.2.1.2.1, h.2.2.2.2⟩ hR (fun _ _ _ => rfl) hQ
theorem s_isBit {a : Int} {w : WD} {Q : Int → WD → Prop} (h1 : a = 0 ∨ a = 1 → Q 1 w) (h0 : ¬ (a = 0 ∨ a = 1) → Q 0 w) : WI (fB_isBit a w) Q := by
  (repeat' (first | (with_reducible refine i_some ?_) | (with_reducible refine v_some ?_) | (with_reducible refine i_ci ?_) | (with_reducible refine i_cv ?_) | (with_reducible refine v_ci ?_) | (with_reducible refine v_cv ?_) | (with_reducible refine i_bv ?_) | (with_reducible refine v_bv ?_) | (with_reducible refine i_bw ?_) | (with_reducible refine v_bw ?_) | (with_reducible refine i_jn ?_) | (with_reducible refine v_jn ?_) | (with_reducible refine i_ck ?_ ?_) | (with_reducible refine v_ck ?_ ?_) | ((with_reducible refine i_if (fun hc => ?_) (fun hc => ?_)) <;> (try simp (disch := omega) only [not_true_eq_false, not_false_eq_true, true_and, and_true, up_r, up_k, ur_s, ur_e, ur_i, cp_k, w32_i, w64_i, w8_i] at hc) <;> (try (exfalso; omega))) | ((with_reducible refine v_if (fun hc => ?_) (fun hc => ?_)) <;> (try simp (disch := omega) only [not_true_eq_false, not_false_eq_true, true_and, and_true, up_r, up_k, ur_s, ur_e, ur_i, cp_k, w32_i, w64_i, w8_i] at hc) <;> (try (exfalso; omega))) | unfold fB_isBit))
  all_goals first | exact h0 (by omega) | exact h1 (by omega)
theorem w64_sum {w : WD} {law : Option LINES} {sn : Int → Int → Int} {may : Int → Int} (h : TP w law) : w64 (SUM w law sn may) = SUM w law sn may := by
  have := SUM_in (law := law) (sn := sn) (may := may) h.1 h.2.2.1
  exact w64_i (by omega) (by omega)
theorem op_ways : op1 Inv fB_ways fR_ways := by
  intro a w haI hI
  obtain ⟨law, tp⟩ := TP_of hI
  refine same_of ?_
  unfold fB_ways
  by_cases ha : a = 0 ∨ a = 1
  · refine i_ci (s_isBit (fun _ => i_if (fun _ => i_cv (t_load tp Same.rfl' (fun v v1 v2 => ?_))) (fun q => absurd (by decide) q)) (fun q => absurd ha q))
    have ref : ∀ (u : WD) (r : Int), Same w u → (a ≠ 0 → r = SUM w law (SN w) (MAYw w)) → (a = 0 → r = (LL w law (SN w) (MAYw w)).length) → WI (fR_ways a u) (fun r' y => r' = r ∧ Inv y) := by
      intro u r hu r1 r0
      unfold fR_ways
      refine i_ci (s_in (fun _ => i_if (fun _ => i_cv (t_find tp (TR_of tp hu) (fun y y1 y2 _ => ?_))) (fun q => absurd (by decide) q)) (fun q => by exfalso; omega))
      have iy := Inv_same (Inv_same hI hu) y1.same
      refine i_if (fun q => i_some ⟨?_, iy⟩) (fun q => i_some ⟨?_, iy⟩)
      · rw [r1 q, y2.1.2.1, ← w64_sum tp]
        rfl
      · rw [r0 (by omega), y2.1.1]
    refine i_if (fun q => i_ci (s_together tp.1 tp.2.2.1 v2 (MOK_w tp) (fun y y1 => i_some (ref y _ (v2.1.trans y1.same) (fun _ => rfl) (fun z => absurd z q))))) (fun q => i_ci (s_number tp.1 tp.2.2.1 v2 (MOK_w tp) (fun y y1 => i_some (ref y _ (v2.1.trans y1.same) (fun z => absurd z q) (fun _ => rfl)))))
  · (repeat' (first | (with_reducible refine i_some ?_) | (with_reducible refine v_some ?_) | (with_reducible refine i_ci ?_) | (with_reducible refine i_cv ?_) | (with_reducible refine v_ci ?_) | (with_reducible refine v_cv ?_) | (with_reducible refine i_bv ?_) | (with_reducible refine v_bv ?_) | (with_reducible refine i_bw ?_) | (with_reducible refine v_bw ?_) | (with_reducible refine i_jn ?_) | (with_reducible refine v_jn ?_) | (with_reducible refine i_ck ?_ ?_) | (with_reducible refine v_ck ?_ ?_) | ((with_reducible refine i_if (fun hc => ?_) (fun hc => ?_)) <;> (try simp (disch := omega) only [not_true_eq_false, not_false_eq_true, true_and, and_true, up_r, up_k, ur_s, ur_e, ur_i, cp_k, w32_i, w64_i, w8_i] at hc) <;> (try (exfalso; omega))) | ((with_reducible refine v_if (fun hc => ?_) (fun hc => ?_)) <;> (try simp (disch := omega) only [not_true_eq_false, not_false_eq_true, true_and, and_true, up_r, up_k, ur_s, ur_e, ur_i, cp_k, w32_i, w64_i, w8_i] at hc) <;> (try (exfalso; omega))) | ((with_reducible apply s_isBit) <;> (try intro hvc) <;> (try simp (disch := omega) only [not_true_eq_false, not_false_eq_true, true_and, and_true, up_r, up_k, ur_s, ur_e, ur_i, cp_k, w32_i, w64_i, w8_i] at hvc) <;> (try (exfalso; omega))) | unfold fR_ways | ((with_reducible apply s_in) <;> (try intro hvc) <;> (try simp (disch := omega) only [not_true_eq_false, not_false_eq_true, true_and, and_true, up_r, up_k, ur_s, ur_e, ur_i, cp_k, w32_i, w64_i, w8_i] at hvc) <;> (try (exfalso; omega)))))
    all_goals first | omega | exact ⟨rfl, hI⟩
/-- narrowed to one -/
theorem tb_one {a p q : Int} (ha : 0 ≤ a ∧ a < 128) (hp : 0 ≤ p ∧ p < 7) (hq : 0 ≤ q ∧ q < 7) : (0 ≤ bAnd a (bShl 1 p) ∧ bAnd a (bShl 1 p) < 128) ∧ (bAnd (bShr (bAnd a (bShl 1 p)) q) 1 = 1 ↔ bAnd (bShr a q) 1 = 1 ∧ q = p) := by
  have sh := shl_in hp
  have t := tb_and (a := a) (b := bShl 1 p) (p := q) ha ⟨by omega, sh.2⟩ hq
  have s := tb_shl (p := q) (q := p) hq hp
  unfold tb at t s
  rw [s] at t
  exact t
theorem PRD_narrow {w : WD} {law : Option LINES} {sn : Int → Int → Int} {may : Int → Int} {wd m p : Int} {l : List Int} (hm : 0 ≤ m ∧ m < w 1 5) (hmay : MOK (w 1 5) may) (hp : 0 ≤ p ∧ p < 7) (hl : WAY (w 1 5) (BY (Wf w law sn) may) l) :
    PRD (PVf wd (Wf w law sn) (mup may m (bAnd (may m) (bShl 1 p)))) 0 l = if nth l m = p then PRD (PVf wd (Wf w law sn) may) 0 l else 0 := by
  obtain ⟨l1, l2⟩ := hl
  have hv : ∀ i q, 0 ≤ q → q < 7 → BY (Wf w law sn) (mup may m (bAnd (may m) (bShl 1 p))) i q = if i = m ∧ q ≠ p then 0 else BY (Wf w law sn) may i q := by
    intro i q q0 q1
    by_cases e : i = m
    · subst e
      have t := (tb_one (a := may i) (p := p) (q := q) (hmay i hm.1 hm.2) hp ⟨q0, q1⟩).2
      unfold BY mup
      rw [if_pos rfl]
      by_cases z : q = p
      · rw [if_neg (fun y : i = i ∧ q ≠ p => y.2 z)]
        by_cases y : bAnd (bShr (may i) q) 1 = 1
        · rw [if_pos (t.mpr ⟨y, z⟩), if_pos y]
        · rw [if_neg (fun x => y (t.mp x).1), if_neg y]
      · rw [if_pos (show i = i ∧ q ≠ p from ⟨rfl, z⟩), if_neg (fun x => z (t.mp x).2)]
    · rw [if_neg (fun y : i = m ∧ q ≠ p => e y.1)]
      unfold BY mup
      rw [if_neg e]
  by_cases h : nth l m = p
  · rw [if_pos h]
    refine PRD_congr l 0 (fun j j0 j1 => ?_)
    rw [Int.zero_add]
    have lj := (l2 j j0 (by omega)).2
    unfold PVf
    rw [hv j (nth l j) lj.1 lj.2, if_neg (fun y : j = m ∧ nth l j ≠ p => y.2 (by rw [y.1]; exact h))]
  · rw [if_neg h]
    have lj := (l2 m hm.1 hm.2).2
    refine PRD_zero l 0 ⟨m, hm.1, by omega, ?_⟩
    rw [Int.zero_add]
    unfold PVf
    rw [hv m (nth l m) lj.1 lj.2, if_pos (show m = m ∧ nth l m ≠ p from ⟨rfl, h⟩)]
    unfold mn
    split
    · rfl
    · rfl
theorem AG_narrow {w : WD} {law : Option LINES} {sn : Int → Int → Int} {may : Int → Int} {wd m p : Int} (h : TP w law) (hm : 0 ≤ m ∧ m < w 1 5) (hmay : MOK (w 1 5) may) (hp : 0 ≤ p ∧ p < 7) :
    AG 0 (PRD (PVf wd (Wf w law sn) (mup may m (bAnd (may m) (bShl 1 p)))) 0) (LL w law sn (mup may m (bAnd (may m) (bShl 1 p)))) = AG 0 (fun l => if nth l m = p then PRD (PVf wd (Wf w law sn) may) 0 l else 0) (LL w law sn may) := by
  obtain ⟨k1, k2, k3⟩ := PV_ok (law := law) (sn := sn) (may := mup may m (bAnd (may m) (bShl 1 p))) h.1 h.2.2.1.2.1 wd
  have hS := (HV_47 h.1).2
  have e1 := D_all (v := PVf wd (Wf w law sn) (mup may m (bAnd (may m) (bShl 1 p)))) (b := BY (Wf w law sn) (mup may m (bAnd (may m) (bShl 1 p)))) (S := w 2 47) (g := 0) (M := w 1 5) h.2.2.1.2.2.1 hS.1 (fun i q _ _ _ _ => k1 i q) k3 (fun i q => (k1 i q).1)
  -- away from 0 .. 6 nothing counts
  have ow : ∀ i q, BY (Wf w law sn) may i q = 0 → PVf wd (Wf w law sn) (mup may m (bAnd (may m) (bShl 1 p))) i q = 0 := by
    intro i q hb
    refine k3 i q ?_
    by_cases hq : (0 ≤ q ∧ q < w 1 4) ∨ q = 6
    · by_cases e : i = m
      · subst e
        have hq' : 0 ≤ q ∧ q < 7 := by have := h.2.2.1.2.1; omega
        have t := (tb_one (a := may i) (p := p) (q := q) (hmay i hm.1 hm.2) hp hq').2
        unfold BY at hb ⊢
        unfold mup
        rw [if_pos rfl]
        by_cases y : bAnd (bShr (may i) q) 1 = 1
        · rw [if_pos y] at hb
          split
          · exact hb
          · rfl
        · rw [if_neg (fun x => y (t.mp x).1)]
      · unfold BY at hb ⊢
        unfold mup
        rw [if_neg e]
        exact hb
    · unfold BY Wf
      rw [if_neg hq]
      split <;> rfl
  have e2 := D_all (v := PVf wd (Wf w law sn) (mup may m (bAnd (may m) (bShl 1 p)))) (b := BY (Wf w law sn) may) (S := w 2 47) (g := 0) (M := w 1 5) h.2.2.1.2.2.1 hS.1 (fun i q _ _ _ _ => k1 i q) ow (fun i q => (k1 i q).1)
  unfold LL
  rw [← e1, e2]
  exact AG_congr _ (fun l hl => PRD_narrow hm hmay hp (LL_way (law := law) (sn := sn) (may := may) h.2.2.1.2.2.1 l hl))
/-- in how many of all ways one is behind a MASK; how much these count -/
noncomputable def CNL (w : WD) (law : Option LINES) (m p : Int) : Int := AG 0 (fun l => if nth l m = p then 1 else 0) (LL w law (SN w) (MAYw w))
noncomputable def BH (w : WD) (law : Option LINES) (sn : Int → Int → Int) (m p : Int) : Int := AG 0 (bhd (BY (Wf w law sn) (MAYw w)) m p) (LL w law sn (MAYw w))
theorem s_numberIf1 {w u : WD} {law : Option LINES} {m p : Int} {Q : Int → WD → Prop} (h : TP w law) (hT : TH w law (Wf w law (SN w)) (MAYw w) u) (hm : 0 ≤ m ∧ m < w 1 5) (hp : 0 ≤ p ∧ p < 7) (hQ : ∀ v, FRT u v → Q (CNL w law m p) v) : WI (fTh_numberIf m (bShl 1 p) u) Q := by
  unfold fTh_numberIf
  refine i_ci (s_narrowed h.1 h.2.2.1 hT (MOK_w h) hm (tb_one (MOK_w h m hm.1 hm.2) hp (q := 0) (by decide)).1 (fun v v1 => i_some ?_))
  rw [AG_narrow h hm (MOK_w h) hp]
  have e : AG 0 (fun l => if nth l m = p then PRD (PVf 0 (Wf w law (SN w)) (MAYw w)) 0 l else 0) (LL w law (SN w) (MAYw w)) = CNL w law m p := by
    refine AG_congr _ (fun l hl => ?_)
    obtain ⟨l1, l2⟩ := LL_way h.2.2.1.2.2.1 l hl
    have : PRD (PVf 0 (Wf w law (SN w)) (MAYw w)) 0 l = 1 := by
      refine PRD_one l 0 (fun j j0 j1 => ?_)
      rw [Int.zero_add]
      have := l2 j j0 (by omega)
      have := BY_in (law := law) (sn := SN w) (may := MAYw w) h.1 h.2.2.1.2.1 j (nth l j)
      unfold PVf mn
      rw [if_pos rfl]
      split <;> omega
    rw [this]
  rw [e]
  exact hQ v v1
theorem s_togetherIf1 {w u : WD} {law : Option LINES} {sn : Int → Int → Int} {m p : Int} {Q : Int → WD → Prop} (h : TP w law) (hT : TH w law (Wf w law sn) (MAYw w) u) (hm : 0 ≤ m ∧ m < w 1 5) (hp : 0 ≤ p ∧ p < 7) (hQ : ∀ v, FRT u v → Q (BH w law sn m p) v) : WI (fTh_togetherIf m (bShl 1 p) u) Q := by
  unfold fTh_togetherIf
  refine i_ci (s_narrowed h.1 h.2.2.1 hT (MOK_w h) hm (tb_one (MOK_w h m hm.1 hm.2) hp (q := 0) (by decide)).1 (fun v v1 => i_some ?_))
  rw [AG_narrow h hm (MOK_w h) hp, PV1]
  exact hQ v v1
theorem CNL_in {m p : Int} : ∀ L : List (List Int), 0 ≤ AG 0 (fun l => if nth l m = p then 1 else 0) L ∧ AG 0 (fun l => if nth l m = p then 1 else 0) L ≤ L.length ∧ (AG 0 (fun l => if nth l m = p then 1 else 0) L = L.length ↔ ∀ l ∈ L, nth l m = p) ∧ (AG 0 (fun l => if nth l m = p then 1 else 0) L = 0 ↔ ∀ l ∈ L, nth l m ≠ p)
  | [] => ⟨Int.le_refl 0, Int.le_refl 0, ⟨fun _ l hl => absurd hl List.not_mem_nil, fun _ => rfl⟩, ⟨fun _ l hl => absurd hl List.not_mem_nil, fun _ => rfl⟩⟩
  | a :: L => by
    obtain ⟨h1, h2, h3, h4⟩ := CNL_in (m := m) (p := p) L
    have e : AG 0 (fun l => if nth l m = p then 1 else 0) (a :: L) = (if nth a m = p then 1 else 0) + AG 0 (fun l => if nth l m = p then 1 else 0) L := by
      show opg 0 _ _ = _
      unfold opg
      rw [if_pos rfl]
    rw [e, List.length_cons]
    by_cases h : nth a m = p
    · rw [if_pos h]
      refine ⟨by omega, by omega, ⟨fun q l hl => ?_, fun q => ?_⟩, ⟨fun q => by omega, fun q => absurd h (q a List.mem_cons_self)⟩⟩
      · rcases List.mem_cons.mp hl with rfl | hl
        · exact h
        · exact h3.mp (by omega) l hl
      · have := h3.mpr (fun l hl => q l (List.mem_cons_of_mem a hl))
        omega
    · rw [if_neg h]
      refine ⟨by omega, by omega, ⟨fun q => by omega, fun q => absurd (q a List.mem_cons_self) h⟩, ⟨fun q l hl => ?_, fun q => ?_⟩⟩
      · rcases List.mem_cons.mp hl with rfl | hl
        · exact h
        · exact h4.mp (by omega) l hl
      · have := h4.mpr (fun l hl => q l (List.mem_cons_of_mem a hl))
        omega
theorem l_sure31 {w : WD} {law : Option LINES} {m n : Int} {K : Int → WD → Option (Int × WD)} {Q : Int → WD → Prop} (h : TP w law) (hm : 0 ≤ m ∧ m < w 1 5) : ∀ (f : Nat) (x p : Int) (u : WD), 0 ≤ p → p ≤ 7 → 7 - p < f → (0 ≤ x ∧ x < 128) → TH w law (Wf w law (SN w)) (MAYw w) u →
    (∀ y v, TH w law (Wf w law (SN w)) (MAYw w) v → (0 ≤ y ∧ y < 128) → (∀ i, 0 ≤ i → i < 7 → (tb y i ↔ tb x i ∨ (i = m ∧ ∃ q, p ≤ q ∧ q < 7 ∧ CNL w law m q = n))) → WI (K y v) Q) → WI (fTh_sureMasks_l31 n m K f x p u) Q
  | 0, x, p, u, _, _, h, _, _, _ => by exfalso; omega
  | f + 1, x, p, u, h1, h2, h3, hx, hT, hK => by
    show WI (fTh_sureMasks_l31_b (fTh_sureMasks_l31 n m K f) n m K x p u) Q
    unfold fTh_sureMasks_l31_b
    have m5 := h.2.2.1.2.2.2
    rw [w32_i (x := p + 1) (by omega) (by omega)]
    refine i_if (fun z => hK x u hT hx (fun i i0 i1 => ⟨Or.inl, fun q => q.elim id (fun ⟨_, q, a, b, _⟩ => by omega)⟩)) (fun z => i_ci (s_numberIf1 h hT hm ⟨h1, by omega⟩ (fun v v1 => i_jn ?_)))
    have hT' := TH_t hT v1
    refine i_if (fun q => i_bv (l_sure31 h hm f x (p + 1) v (by omega) (by omega) (by omega) hx hT' (fun y v y1 y2 y3 => hK y v y1 y2 (fun i i0 i1 => (y3 i i0 i1).trans ⟨fun t => ?_, fun t => ?_⟩)))) (fun q => i_bv (i_bv ?_))
    · rcases t with t | ⟨t1, q', t2, t3, t4⟩
      · exact Or.inl t
      · exact Or.inr ⟨t1, q', by omega, t3, t4⟩
    · rcases t with t | ⟨t1, q', t2, t3, t4⟩
      · exact Or.inl t
      · rcases (by omega : q' = p ∨ p + 1 ≤ q') with c | c
        · rw [c] at t4; exact absurd t4 q
        · exact Or.inr ⟨t1, q', c, t3, t4⟩
    · have O := fun i hi => tbor (v := x) (p := i) (q := m) hx hi (by omega)
      refine l_sure31 h hm f _ (p + 1) v (by omega) (by omega) (by omega) (O 0 (by decide)).1 hT' (fun y v y1 y2 y3 => hK y v y1 y2 (fun i i0 i1 => (y3 i i0 i1).trans ?_))
      have o := (O i ⟨i0, i1⟩).2.1
      unfold tb at o ⊢
      rw [o]
      constructor
      · rintro ((t | t) | ⟨t1, q', t2, t3, t4⟩)
        · exact Or.inl t
        · exact Or.inr ⟨t, p, Int.le_refl p, by omega, by omega⟩
        · exact Or.inr ⟨t1, q', by omega, t3, t4⟩
      · rintro (t | ⟨t1, _⟩)
        · exact Or.inl (Or.inl t)
        · exact Or.inl (Or.inr t1)
theorem l_sure10 {w : WD} {law : Option LINES} {n : Int} {Q : Int → WD → Prop} (h : TP w law) (hn : 0 ≤ n) : ∀ (f : Nat) (x m : Int) (u : WD), 0 ≤ m → m ≤ w 1 5 → w 1 5 - m < f → (0 ≤ x ∧ x < 128) → TH w law (Wf w law (SN w)) (MAYw w) u →
    (∀ y v, TH w law (Wf w law (SN w)) (MAYw w) v → (0 ≤ y ∧ y < 128) → (∀ i, 0 ≤ i → i < 7 → (tb y i ↔ tb x i ∨ (m ≤ i ∧ i < w 1 5 ∧ 0 < n ∧ ∃ q, 0 ≤ q ∧ q < 7 ∧ CNL w law i q = n))) → Q y v) → WI (fTh_sureMasks_l10 n f x m u) Q
  | 0, x, m, u, _, _, h, _, _, _ => by exfalso; omega
  | f + 1, x, m, u, h1, h2, h3, hx, hT, hQ => by
    show WI (fTh_sureMasks_l10_b (fTh_sureMasks_l10 n f) n x m u) Q
    unfold fTh_sureMasks_l10_b fHa_masks
    have m5 := h.2.2.1.2.2.2
    rw [w32_i (x := m + 1) (by omega) (by omega)]
    refine i_ci (i_some ?_)
    rw [hT.1.r 1 (by decide)]
    refine i_if (fun z => i_some (hQ x u hT hx (fun i i0 i1 => ⟨Or.inl, fun q => q.elim id (fun ⟨a, b, _⟩ => by omega)⟩))) (fun z => i_if (fun z' => i_some (hQ x u hT hx (fun i i0 i1 => ⟨Or.inl, fun q => q.elim id (fun ⟨a, b, c, _⟩ => by omega)⟩))) (fun z' => ?_))
    refine l_sure31 h ⟨h1, by omega⟩ FU x 0 u (by decide) (by decide) (by decide) hx hT (fun y v y1 y2 y3 => i_bv (l_sure10 h hn f y (m + 1) v (by omega) (by omega) (by omega) y2 y1 (fun y' v' a b c => hQ y' v' a b (fun i i0 i1 => (c i i0 i1).trans ?_))))
    rw [y3 i i0 i1]
    constructor
    · rintro ((t | ⟨t1, q, t2, t3, t4⟩) | ⟨t1, t2, t3, t4⟩)
      · exact Or.inl t
      · exact Or.inr ⟨by omega, by omega, by omega, q, t2, t3, by rw [t1]; exact t4⟩
      · exact Or.inr ⟨by omega, t2, t3, t4⟩
    · rintro (t | ⟨t1, t2, t3, t4⟩)
      · exact Or.inl (Or.inl t)
      · rcases (by omega : i = m ∨ m + 1 ≤ i) with e | e
        · obtain ⟨q, q1, q2, q3⟩ := t4
          exact Or.inl (Or.inr ⟨e, q, q1, q2, by rw [← e]; exact q3⟩)
        · exact Or.inr ⟨e, t2, t3, t4⟩
theorem l_isOut {w : WD} {law : Option LINES} {p : Int} {Q : Int → WD → Prop} (h : TP w law) (hp : 0 ≤ p ∧ p < 7) : ∀ (f : Nat) (m : Int) (u : WD), 0 ≤ m → m ≤ w 1 5 → w 1 5 - m < f → TH w law (Wf w law (SN w)) (MAYw w) u →
    (∀ v, TH w law (Wf w law (SN w)) (MAYw w) v → (∀ i, m ≤ i → i < w 1 5 → CNL w law i p = 0) → Q 1 v) → (∀ v, TH w law (Wf w law (SN w)) (MAYw w) v → (∃ i, m ≤ i ∧ i < w 1 5 ∧ CNL w law i p ≠ 0) → Q 0 v) → WI (fTh_isOut_l2 p f m u) Q
  | 0, m, u, _, _, h, _, _, _ => by exfalso; omega
  | f + 1, m, u, h1, h2, h3, hT, q1, q0 => by
    show WI (fTh_isOut_l2_b (fTh_isOut_l2 p f) p m u) Q
    unfold fTh_isOut_l2_b fHa_masks
    have m5 := h.2.2.1.2.2.2
    rw [w32_i (x := m + 1) (by omega) (by omega)]
    refine i_ci (i_some ?_)
    rw [hT.1.r 1 (by decide)]
    have cn := (CNL_in (m := m) (p := p) (LL w law (SN w) (MAYw w))).1
    refine i_if (fun z => i_some (q1 u hT (fun i a b => by omega))) (fun z => i_ci (s_numberIf1 h hT ⟨h1, by omega⟩ hp (fun v v1 => i_if (fun t => i_bv ?_) (fun t => i_some (q0 v (TH_t hT v1) ⟨m, Int.le_refl m, by omega, by omega⟩)))))
    refine l_isOut h hp f (m + 1) v (by omega) (by omega) (by omega) (TH_t hT v1) (fun y y1 y2 => q1 y y1 (fun i a b => ?_)) (fun y y1 ⟨i, a, b, c⟩ => q0 y y1 ⟨i, by omega, b, c⟩)
    rcases (by omega : i = m ∨ m + 1 ≤ i) with e | e
    · rw [e]
      show CNL w law m p = 0
      unfold CNL at t ⊢
      omega
    · exact y2 i e b
theorem l_outOnes {w : WD} {law : Option LINES} {Q : Int → WD → Prop} (h : TP w law) : ∀ (f : Nat) (x p : Int) (u : WD), 0 ≤ p → p ≤ 7 → 7 - p < f → (0 ≤ x ∧ x < 128) → TH w law (Wf w law (SN w)) (MAYw w) u →
    (∀ y v, TH w law (Wf w law (SN w)) (MAYw w) v → (0 ≤ y ∧ y < 128) → (∀ i, 0 ≤ i → i < 7 → (tb y i ↔ tb x i ∨ (p ≤ i ∧ ONE w i ∧ ∀ m, 0 ≤ m → m < w 1 5 → CNL w law m i = 0))) → Q y v) → WI (fTh_outOnes_l4 f x p u) Q
  | 0, x, p, u, _, _, h, _, _, _ => by exfalso; omega
  | f + 1, x, p, u, h1, h2, h3, hx, hT, hQ => by
    show WI (fTh_outOnes_l4_b (fTh_outOnes_l4 f) x p u) Q
    unfold fTh_outOnes_l4_b fTh_isOut
    rw [w32_i (x := p + 1) (by omega) (by omega)]
    have e1 := hT.1.r 1 (by decide)
    have no : ∀ v, TH w law (Wf w law (SN w)) (MAYw w) v → p < 7 → ¬ (ONE w p ∧ ∀ m, 0 ≤ m → m < w 1 5 → CNL w law m p = 0) → WI (fTh_outOnes_l4 f x (p + 1) v) Q := by
      intro v hv h7 hn
      refine l_outOnes h f x (p + 1) v (by omega) (by omega) (by omega) hx hv (fun y z a b c => hQ y z a b (fun i i0 i1 => (c i i0 i1).trans ⟨fun t => ?_, fun t => ?_⟩))
      · exact t.elim Or.inl (fun ⟨t1, t2⟩ => Or.inr ⟨by omega, t2⟩)
      · rcases t with t | ⟨t1, t2⟩
        · exact Or.inl t
        · rcases (by omega : i = p ∨ p + 1 ≤ i) with e | e
          · rw [e] at t2; exact absurd t2 hn
          · exact Or.inr ⟨e, t2⟩
    refine i_if (fun z => i_some (hQ x u hT hx (fun i i0 i1 => ⟨Or.inl, fun q => q.elim id (fun ⟨a, _⟩ => by omega)⟩))) (fun z => i_ci (s_isOneC (fun o => i_jn (i_if (fun q => absurd q (by decide)) (fun _ => i_ci ?_))) (fun o => i_jn (i_if (fun _ => i_bv (no u hT (by omega) (fun q => o (by rw [e1]; exact q.1)))) (fun q => absurd rfl q)))))
    rw [e1] at o
    refine l_isOut h ⟨h1, by omega⟩ FU 0 u (by decide) h.2.2.1.2.2.1 (by have := h.2.2.1.2.2.2; unfold FU; omega) hT (fun v v1 v2 => i_if (fun q => absurd q (by decide)) (fun _ => i_bv (i_bv ?_))) (fun v v1 ⟨i, a, b, c⟩ => i_if (fun _ => i_bv (no v v1 (by omega) (fun q => c (q.2 i a b)))) (fun q => absurd rfl q))
    have O := fun i hi => tbor (v := x) (p := i) (q := p) hx hi ⟨h1, by omega⟩
    refine l_outOnes h f _ (p + 1) v (by omega) (by omega) (by omega) (O 0 (by decide)).1 v1 (fun y z a b c => hQ y z a b (fun i i0 i1 => (c i i0 i1).trans ?_))
    have oo := (O i ⟨i0, i1⟩).2.1
    unfold tb at oo ⊢
    rw [oo]
    constructor
    · rintro ((t | t) | ⟨t1, t2⟩)
      · exact Or.inl t
      · exact Or.inr ⟨by omega, by rw [t]; exact ⟨o, v2⟩⟩
      · exact Or.inr ⟨by omega, t2⟩
    · rintro (t | ⟨t1, t2⟩)
      · exact Or.inl (Or.inl t)
      · rcases (by omega : i = p ∨ p + 1 ≤ i) with e | e
        · exact Or.inl (Or.inr e)
        · exact Or.inr ⟨e, t2⟩
theorem op_sure : op1 Inv fB_sure fR_sure := by
  intro a w haI hI
  obtain ⟨law, tp⟩ := TP_of hI
  have m5 := tp.2.2.1.2.2.2
  have m0 := tp.2.2.1.2.2.1
  have p6 := tp.2.2.1.2.1
  refine same_of ?_
  unfold fB_sure
  by_cases ha : a = 0 ∨ a = 1
  · refine i_ci (s_isBit (fun _ => i_if (fun _ => i_cv (t_load tp Same.rfl' (fun v v1 v2 => ?_))) (fun q => absurd (by decide) q)) (fun q => absurd ha q))
    have ref : ∀ (u : WD) (r : Int), Same w u → (∀ y, ACF (w 1 4) (w 1 5) (BY (Wf w law (SN w)) (MAYw w)) (u 70) (LL w law (SN w) (MAYw w)) y → (a ≠ 0 → y 46 37 = r) ∧ (a = 0 → y 46 36 = r)) → WI (fR_sure a u) (fun r' y => r' = r ∧ Inv y) := by
      intro u r hu r1
      unfold fR_sure
      refine i_ci (s_in (fun _ => i_if (fun _ => i_cv (t_find tp (TR_of tp hu) (fun y y1 y2 _ => ?_))) (fun q => absurd (by decide) q)) (fun q => by exfalso; omega))
      have iy := Inv_same (Inv_same hI hu) y1.same
      exact i_if (fun q => i_some ⟨(r1 y y2).1 q, iy⟩) (fun q => i_some ⟨(r1 y y2).2 (by omega), iy⟩)
    refine i_if (fun q => i_ci ?_) (fun q => i_ci ?_)
    · refine l_outOnes tp FU 0 0 v (by decide) (by decide) (by decide) (by decide) v2 (fun y z z1 z2 z3 => i_some (ref z y z1.1 (fun t t1 => ⟨fun _ => ?_, fun q' => absurd q' q⟩)))
      obtain ⟨-, -, -, -, -, ⟨t2, t3⟩, -⟩ := t1
      refine tb_ext t2 z2 (fun i i0 i1 => (t3 i i0 i1).trans ((z3 i i0 i1).trans ?_).symm)
      constructor
      · rintro (s | ⟨_, s1, s2⟩)
        · exact absurd s (tb_0 ⟨i0, i1⟩)
        · refine ⟨by unfold ONE at s1; omega, fun l hl m a b => ?_⟩
          exact (CNL_in (m := m) (p := i) _).2.2.2.mp (s2 m a b) l hl
      · rintro ⟨s1, s2⟩
        refine Or.inr ⟨i0, by unfold ONE; omega, fun m a b => ?_⟩
        exact (CNL_in (m := m) (p := i) _).2.2.2.mpr (fun l hl => s2 l hl m a b)
    · unfold fTh_sureMasks
      refine i_ci (s_number tp.1 tp.2.2.1 v2 (MOK_w tp) (fun y y1 => ?_))
      refine l_sure10 tp (by omega) FU 0 0 y (by decide) m0 (by unfold FU; omega) (by decide) (TH_t v2 y1) (fun y' z z1 z2 z3 => i_some (ref z y' z1.1 (fun t t1 => ⟨fun q' => absurd q' (by omega), fun _ => ?_⟩)))
      obtain ⟨-, -, -, -, ⟨t2, t3⟩, -, -⟩ := t1
      refine tb_ext t2 z2 (fun i i0 i1 => (t3 i i0 i1).trans ((z3 i i0 i1).trans ?_).symm)
      constructor
      · rintro (s | ⟨_, s1, s2, q', s3, s4, s5⟩)
        · exact absurd s (tb_0 ⟨i0, i1⟩)
        · have all := (CNL_in (m := i) (p := q') _).2.2.1.mp s5
          have hne : LL w law (SN w) (MAYw w) ≠ [] := fun e => by rw [e] at s2; simp at s2
          obtain ⟨t', ht'⟩ := List.exists_mem_of_ne_nil _ hne
          exact ⟨s1, t', ht', fun l hl => by rw [all l hl, all t' ht']⟩
      · rintro ⟨s1, t', ht', s2⟩
        have lw := (LL_way m0 t' ht').2 i i0 s1
        refine Or.inr ⟨i0, s1, ?_, nth t' i, lw.2.1, lw.2.2, (CNL_in (m := i) (p := nth t' i) _).2.2.1.mpr s2⟩
        have := List.length_pos_of_mem ht'
        omega
  · (repeat' (first | (with_reducible refine i_some ?_) | (with_reducible refine v_some ?_) | (with_reducible refine i_ci ?_) | (with_reducible refine i_cv ?_) | (with_reducible refine v_ci ?_) | (with_reducible refine v_cv ?_) | (with_reducible refine i_bv ?_) | (with_reducible refine v_bv ?_) | (with_reducible refine i_bw ?_) | (with_reducible refine v_bw ?_) | (with_reducible refine i_jn ?_) | (with_reducible refine v_jn ?_) | (with_reducible refine i_ck ?_ ?_) | (with_reducible refine v_ck ?_ ?_) | ((with_reducible refine i_if (fun hc => ?_) (fun hc => ?_)) <;> (try simp (disch := omega) only [not_true_eq_false, not_false_eq_true, true_and, and_true, up_r, up_k, ur_s, ur_e, ur_i, cp_k, w32_i, w64_i, w8_i] at hc) <;> (try (exfalso; omega))) | ((with_reducible refine v_if (fun hc => ?_) (fun hc => ?_)) <;> (try simp (disch := omega) only [not_true_eq_false, not_false_eq_true, true_and, and_true, up_r, up_k, ur_s, ur_e, ur_i, cp_k, w32_i, w64_i, w8_i] at hc) <;> (try (exfalso; omega))) | ((with_reducible apply s_isBit) <;> (try intro hvc) <;> (try simp (disch := omega) only [not_true_eq_false, not_false_eq_true, true_and, and_true, up_r, up_k, ur_s, ur_e, ur_i, cp_k, w32_i, w64_i, w8_i] at hvc) <;> (try (exfalso; omega))) | unfold fR_sure | ((with_reducible apply s_in) <;> (try intro hvc) <;> (try simp (disch := omega) only [not_true_eq_false, not_false_eq_true, true_and, and_true, up_r, up_k, ur_s, ur_e, ur_i, cp_k, w32_i, w64_i, w8_i] at hvc) <;> (try (exfalso; omega)))))
    all_goals first | omega | exact ⟨rfl, hI⟩
