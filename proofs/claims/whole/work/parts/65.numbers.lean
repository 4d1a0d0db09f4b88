/-! what the class works out, told of all ways -/
def WAY (M : Int) (b : Int → Int → Int) (l : List Int) : Prop := (l.length : Int) = M ∧ ∀ i, 0 ≤ i → i < M → b i (nth l i) ≠ 0 ∧ 0 ≤ nth l i ∧ nth l i < 7
theorem pfrom_mem {x : Int} : ∀ (k : Nat) (p : Int), x ∈ pfrom k p → p ≤ x ∧ x < p + k
  | 0, p, h => absurd h List.not_mem_nil
  | k + 1, p, h => by
    rcases List.mem_cons.mp h with h | h
    · omega
    · have := pfrom_mem k (p + 1) h
      omega
theorem WAYS_mem {b : Int → Int → Int} {S M : Int} : ∀ (n : Nat) (pre : List Int), (pre.length : Int) + n = M → (∀ i : Int, 0 ≤ i → i < pre.length → b i (nth pre.reverse i) ≠ 0 ∧ 0 ≤ nth pre.reverse i ∧ nth pre.reverse i < 7) → ∀ l ∈ WAYS b S n pre, WAY M b l
  | 0, pre, hn, hp, l, hl => by
    unfold WAYS at hl
    rw [List.mem_singleton.mp hl]
    exact ⟨by rw [List.length_reverse]; omega, fun i i0 i1 => hp i i0 (by omega)⟩
  | n + 1, pre, hn, hp, l, hl => by
    unfold WAYS at hl
    obtain ⟨p, hp1, hp2⟩ := List.mem_flatMap.mp hl
    have pr := pfrom_mem 7 0 hp1
    by_cases h : okw S pre p ∧ b pre.length p ≠ 0
    · rw [GW_y h] at hp2
      refine WAYS_mem n (p :: pre) (by rw [List.length_cons]; omega) (fun i i0 i1 => ?_) l hp2
      rw [List.length_cons] at i1
      by_cases e : i = pre.length
      · subst e
        rw [nth_rev_last]
        exact ⟨h.2, by omega, by omega⟩
      · rw [nth_rev_cons i0 (by omega)]
        exact hp i i0 (by omega)
    · rw [GW_n h] at hp2
      exact absurd hp2 List.not_mem_nil
theorem nth_0 {p : Int} {l : List Int} : nth (p :: l) 0 = p := rfl
theorem nth_s {p i : Int} {l : List Int} (h : 0 ≤ i) : nth (p :: l) (i + 1) = nth l i := by
  unfold nth
  rw [show (i + 1).toNat = i.toNat + 1 by omega]
  rfl
theorem PRD_congr {v v' : Int → Int → Int} : ∀ (l : List Int) (m : Int), (∀ j : Int, 0 ≤ j → j < l.length → v (m + j) (nth l j) = v' (m + j) (nth l j)) → PRD v m l = PRD v' m l
  | [], m, _ => rfl
  | p :: l, m, h => by
    have h0 := h 0 (by omega) (by rw [List.length_cons]; omega)
    rw [nth_0, Int.add_zero] at h0
    have hr : ∀ j : Int, 0 ≤ j → j < l.length → v (m + 1 + j) (nth l j) = v' (m + 1 + j) (nth l j) := by
      intro j j0 j1
      have := h (j + 1) (by omega) (by rw [List.length_cons]; omega)
      rw [nth_s j0, show m + (j + 1) = m + 1 + j by omega] at this
      exact this
    show v m p * PRD v (m + 1) l = v' m p * PRD v' (m + 1) l
    rw [h0, PRD_congr l (m + 1) hr]
theorem PRD_zero {v : Int → Int → Int} : ∀ (l : List Int) (m : Int), (∃ j : Int, 0 ≤ j ∧ j < l.length ∧ v (m + j) (nth l j) = 0) → PRD v m l = 0
  | [], m, ⟨j, j0, j1, _⟩ => by simp at j1; omega
  | p :: l, m, ⟨j, j0, j1, h⟩ => by
    show v m p * PRD v (m + 1) l = 0
    by_cases e : j = 0
    · subst e
      rw [nth_0, Int.add_zero] at h
      rw [h, Int.zero_mul]
    · rw [show j = (j - 1) + 1 by omega, nth_s (by omega), show m + (j - 1 + 1) = m + 1 + (j - 1) by omega] at h
      rw [PRD_zero l (m + 1) ⟨j - 1, by omega, by rw [List.length_cons] at j1; omega, h⟩, Int.mul_zero]
theorem PRD_one {v : Int → Int → Int} : ∀ (l : List Int) (m : Int), (∀ j : Int, 0 ≤ j → j < l.length → v (m + j) (nth l j) = 1) → PRD v m l = 1
  | [], m, _ => rfl
  | p :: l, m, h => by
    have h0 := h 0 (by omega) (by rw [List.length_cons]; omega)
    rw [nth_0, Int.add_zero] at h0
    have hr : ∀ j : Int, 0 ≤ j → j < l.length → v (m + 1 + j) (nth l j) = 1 := by
      intro j j0 j1
      have := h (j + 1) (by omega) (by rw [List.length_cons]; omega)
      rw [nth_s j0, show m + (j + 1) = m + 1 + j by omega] at this
      exact this
    show v m p * PRD v (m + 1) l = 1
    rw [h0, PRD_one l (m + 1) hr, Int.one_mul]
theorem PRD_pos {v : Int → Int → Int} : ∀ (l : List Int) (m : Int), (∀ j : Int, 0 ≤ j → j < l.length → 0 < v (m + j) (nth l j)) → 0 < PRD v m l
  | [], m, _ => by show (0 : Int) < 1; omega
  | p :: l, m, h => by
    have h0 := h 0 (by omega) (by rw [List.length_cons]; omega)
    rw [nth_0, Int.add_zero] at h0
    exact Int.mul_pos h0 (PRD_pos l (m + 1) (fun j j0 j1 => by
      have := h (j + 1) (by omega) (by rw [List.length_cons]; omega)
      rw [nth_s j0, show m + (j + 1) = m + 1 + j by omega] at this
      exact this))
theorem AG_congr {g : Int} {f f' : List Int → Int} : ∀ ls : List (List Int), (∀ l ∈ ls, f l = f' l) → AG g f ls = AG g f' ls
  | [], _ => rfl
  | a :: l, h => by
    show opg g (f a) (AG g f l) = opg g (f' a) (AG g f' l)
    rw [h a List.mem_cons_self, AG_congr l (fun x hx => h x (List.mem_cons_of_mem a hx))]
theorem AG_len {f : List Int → Int} : ∀ ls : List (List Int), (∀ l ∈ ls, f l = 1) → AG 0 f ls = ls.length
  | [], _ => rfl
  | a :: l, h => by
    show opg 0 (f a) (AG 0 f l) = _
    rw [h a List.mem_cons_self, AG_len l (fun x hx => h x (List.mem_cons_of_mem a hx)), List.length_cons]
    unfold opg
    rw [if_pos rfl]
    omega
/-- prices in bounds, of those who are there -/
theorem PV_ok {w : WD} {law : Option LINES} {sn : Int → Int → Int} {may : Int → Int} (h : HV w) (h6 : w 1 4 ≤ 6) (wd : Int) : (∀ m p, 0 ≤ PVf wd (Wf w law sn) may m p ∧ PVf wd (Wf w law sn) may m p ≤ 729) ∧ (∀ m p, PVf wd (Wf w law sn) may m p ≠ 0 → p < w 1 4 ∨ p = 6) ∧
    (∀ m p, BY (Wf w law sn) may m p = 0 → PVf wd (Wf w law sn) may m p = 0) := by
  refine ⟨fun m p => ?_, fun m p => ?_, fun m p hb => ?_⟩
  · have := BY_in (law := law) (sn := sn) (may := may) h h6 m p
    unfold PVf mn
    split
    · split <;> omega
    · exact this
  · intro q
    by_cases z : (0 ≤ p ∧ p < w 1 4) ∨ p = 6
    · omega
    · exfalso
      apply q
      have : BY (Wf w law sn) may m p = 0 := by
        unfold BY Wf
        rw [if_neg z]
        split <;> rfl
      unfold PVf mn
      rw [this]
      split
      · split <;> omega
      · rfl
  · unfold PVf mn
    rw [hb]
    split
    · split <;> omega
    · rfl
/-- what the class's price and reckon may touch -/
def FRT (w u : WD) : Prop := ∀ k, k ≠ 16 → k ≠ 17 → u k = w k
theorem FRT.rf {w : WD} : FRT w w := fun _ _ _ => rfl
theorem FRT.tr {w u v : WD} (h : FRT w u) (h' : FRT u v) : FRT w v := fun k a b => (h' k a b).trans (h k a b)
theorem FRT.same {w u : WD} (h : FRT w u) : Same w u := ⟨fun k hk => h k (by intro e; subst e; exact hk (by decide)) (by intro e; subst e; exact hk (by decide)), congrFun (h 6 (by decide) (by decide)) 5, congrFun (h 6 (by decide) (by decide)) 8, fun i _ => congrFun (h 46 (by decide) (by decide)) i⟩
theorem TH_t {w u v : WD} {law : Option LINES} {W : Int → Int → Int} {may : Int → Int} (h : TH w law W may u) (e : FRT u v) : TH w law W may v := by
  obtain ⟨h1, h2, h3, h4, h5⟩ := h
  refine ⟨h1.trans e.same, ?_, ?_, ?_, ?_⟩
  · intro p s x a b c d f g
    rw [e 13 (by decide) (by decide)]
    exact h2 p s x a b c d f g
  · rw [e 14 (by decide) (by decide)]; exact h3
  · rw [e 15 (by decide) (by decide)]; exact h4
  · rw [e 12 (by decide) (by decide)]; exact h5
/-- who may be behind is as told -/
def MOK (M : Int) (may : Int → Int) : Prop := ∀ m, 0 ≤ m → m < M → 0 ≤ may m ∧ may m < 128
theorem s_priced {w : WD} {law : Option LINES} {sn : Int → Int → Int} {may : Int → Int} {u : WD} {wd g : Int} {Q : Int → WD → Prop} (hV : HV w) (hw : 0 ≤ w 1 4 ∧ w 1 4 ≤ 6 ∧ 0 ≤ w 1 5 ∧ w 1 5 ≤ 5) (hT : TH w law (Wf w law sn) may u) (hm : MOK (w 1 5) may)
    (hQ : ∀ v, FRT u v → RT (PVf wd (Wf w law sn) may) (w 2 47) g (w 1 5) (w 1 4) 0 v → (∀ m p, 0 ≤ m → m < w 1 5 → 0 ≤ p → p < 7 → v 16 (7 * m + p) = PVf wd (Wf w law sn) may m p) → Q (AG g (PRD (PVf wd (Wf w law sn) may) 0) (LL w law sn may)) v) : WI (cv (fTh_price wd u) fun u1 => fTh_reckon g u1) Q := by
  obtain ⟨h1, h2, h3, h4, h5⟩ := id hT
  obtain ⟨k1, k2, k3⟩ := PV_ok (law := law) (sn := sn) (may := may) hV hw.2.1 wd
  have hS := (HV_47 hV).2
  refine i_cv ?_
  refine l_price2 (W := Wf w law sn) (may := may) (M := w 1 5) hm FU 0 u (by decide) (by decide) (by decide) h3 h4 (fun v v1 v2 v3 => ?_)
  have e16 : ∀ m p, 0 ≤ m → m < w 1 5 → 0 ≤ p → p < 7 → v 16 (7 * m + p) = PVf wd (Wf w law sn) may m p := fun m p a b c d => v3 m p a (by omega) b c d
  refine s_reckon (v := PVf wd (Wf w law sn) may) (S := w 2 47) (M := w 1 5) (P := w 1 4) ⟨hw.2.2.1, hw.2.2.2⟩ ⟨hw.1, hw.2.1⟩ (fun m p _ _ _ _ => k1 m p) (fun m p _ _ _ _ q => k2 m p q) (by rw [v1 1 (by decide)]; exact congrFun (h1.r 1 (by decide)) 4) (by rw [v1 1 (by decide)]; exact congrFun (h1.r 1 (by decide)) 5) (by rw [v1 12 (by decide)]; exact h5) e16 (fun y y1 y2 => ?_)
  have e := D_all (v := PVf wd (Wf w law sn) may) (b := BY (Wf w law sn) may) (S := w 2 47) (g := g) (M := w 1 5) hw.2.2.1 hS.1 (fun m p _ _ _ _ => k1 m p) k3 (fun m p => (k1 m p).1)
  rw [e]
  exact hQ y (fun k a b => by rw [y1 k b, v1 k a]) y2 (by rw [y1 16 (by decide)]; exact e16)
theorem LL_way {w : WD} {law : Option LINES} {sn : Int → Int → Int} {may : Int → Int} (h : 0 ≤ w 1 5) : ∀ l ∈ LL w law sn may, WAY (w 1 5) (BY (Wf w law sn) may) l :=
  WAYS_mem (w 1 5).toNat [] (by simp; omega) (fun i a b => by simp at b; omega)
theorem LL_len {w : WD} {law : Option LINES} {sn : Int → Int → Int} {may : Int → Int} (h : 0 ≤ w 1 5 ∧ w 1 5 ≤ 5) : (LL w law sn may).length ≤ 16807 := Nat.le_trans (WAYS_len _ _) (P7n_le (by omega))
theorem LL_pos {w : WD} {law : Option LINES} {sn : Int → Int → Int} {may : Int → Int} (hV : HV w) (h6 : w 1 4 ≤ 6) (h : 0 ≤ w 1 5) : ∀ l ∈ LL w law sn may, 0 < PRD (BY (Wf w law sn) may) 0 l := by
  intro l hl
  obtain ⟨l1, l2⟩ := LL_way h l hl
  refine PRD_pos l 0 (fun j j0 j1 => ?_)
  rw [Int.zero_add]
  have := l2 j j0 (by omega)
  have := BY_in (law := law) (sn := sn) (may := may) hV h6 j (nth l j)
  omega
/-- how many ways -/
theorem AG_count {w : WD} {law : Option LINES} {sn : Int → Int → Int} {may : Int → Int} (hV : HV w) (h6 : w 1 4 ≤ 6) (h : 0 ≤ w 1 5) : AG 0 (PRD (PVf 0 (Wf w law sn) may) 0) (LL w law sn may) = (LL w law sn may).length := by
  refine AG_len _ (fun l hl => ?_)
  obtain ⟨l1, l2⟩ := LL_way h l hl
  refine PRD_one l 0 (fun j j0 j1 => ?_)
  rw [Int.zero_add]
  have := l2 j j0 (by omega)
  have := BY_in (law := law) (sn := sn) (may := may) hV h6 j (nth l j)
  unfold PVf mn
  rw [if_pos rfl]
  split <;> omega
theorem PV1 {W : Int → Int → Int} {may : Int → Int} : PVf 1 W may = BY W may := by
  funext m p
  unfold PVf
  rw [if_neg (by decide)]
/-- how much all count -/
noncomputable def SUM (w : WD) (law : Option LINES) (sn : Int → Int → Int) (may : Int → Int) : Int := AG 0 (PRD (BY (Wf w law sn) may) 0) (LL w law sn may)
theorem PRD_ge {b : Int → Int → Int} (hb : ∀ m p, 0 ≤ b m p) : ∀ (l : List Int) (m : Int), 0 ≤ PRD b m l
  | [], m => by show (0 : Int) ≤ 1; omega
  | a :: l, m => Int.mul_nonneg (hb m a) (PRD_ge hb l (m + 1))
theorem SUM_in {w : WD} {law : Option LINES} {sn : Int → Int → Int} {may : Int → Int} (hV : HV w) (hw : 0 ≤ w 1 4 ∧ w 1 4 ≤ 6 ∧ 0 ≤ w 1 5 ∧ w 1 5 ≤ 5) : 0 ≤ SUM w law sn may ∧ SUM w law sn may ≤ 3460412257114765743 := by
  obtain ⟨k1, k2, k3⟩ := PV_ok (law := law) (sn := sn) (may := may) hV hw.2.1 1
  have hS := (HV_47 hV).2
  have e := D_all (v := PVf 1 (Wf w law sn) may) (b := BY (Wf w law sn) may) (S := w 2 47) (g := 0) (M := w 1 5) hw.2.2.1 hS.1 (fun m p _ _ _ _ => k1 m p) k3 (fun m p => (k1 m p).1)
  have i := D_in (v := PVf 1 (Wf w law sn) may) (S := w 2 47) (g := 0) (M := w 1 5) (fun m p _ _ _ _ => k1 m p) (w 1 5).toNat 0 0 (by decide) (by omega)
  have b5 := BN_5 (n := (w 1 5).toNat) (by omega)
  rw [e, PV1] at i
  unfold SUM LL
  omega
theorem s_number {w : WD} {law : Option LINES} {sn : Int → Int → Int} {may : Int → Int} {u : WD} {Q : Int → WD → Prop} (hV : HV w) (hw : 0 ≤ w 1 4 ∧ w 1 4 ≤ 6 ∧ 0 ≤ w 1 5 ∧ w 1 5 ≤ 5) (hT : TH w law (Wf w law sn) may u) (hm : MOK (w 1 5) may)
    (hQ : ∀ v, FRT u v → Q (LL w law sn may).length v) : WI (fTh_number u) Q := by
  have key := s_priced (wd := 0) (g := 0) (Q := fun r v => WI (some (r, v)) Q) hV hw hT hm (fun v v1 v2 v3 => i_some (by rw [AG_count hV hw.2.1 hw.2.2.1]; exact hQ v v1))
  unfold fTh_number
  obtain ⟨r, y, e, h⟩ := key
  unfold cv at e ⊢
  cases hp : fTh_price 0 u with
  | none => rw [hp] at e; cases e
  | some z =>
    rw [hp] at e
    exact i_ci ⟨r, y, e, h⟩
theorem s_together {w : WD} {law : Option LINES} {sn : Int → Int → Int} {may : Int → Int} {u : WD} {Q : Int → WD → Prop} (hV : HV w) (hw : 0 ≤ w 1 4 ∧ w 1 4 ≤ 6 ∧ 0 ≤ w 1 5 ∧ w 1 5 ≤ 5) (hT : TH w law (Wf w law sn) may u) (hm : MOK (w 1 5) may)
    (hQ : ∀ v, FRT u v → Q (SUM w law sn may) v) : WI (fTh_together u) Q := by
  have key := s_priced (wd := 1) (g := 0) (Q := fun r v => WI (some (r, v)) Q) hV hw hT hm (fun v v1 v2 v3 => i_some (by rw [PV1]; exact hQ v v1))
  unfold fTh_together
  obtain ⟨r, y, e, h⟩ := key
  unfold cv at e ⊢
  cases hp : fTh_price 1 u with
  | none => rw [hp] at e; cases e
  | some z =>
    rw [hp] at e
    exact i_ci ⟨r, y, e, h⟩
def mup (may : Int → Int) (m x : Int) : Int → Int := fun i => if i = m then x else may i
theorem s_narrowed {w : WD} {law : Option LINES} {sn : Int → Int → Int} {may : Int → Int} {u : WD} {m set wd : Int} {Q : Int → WD → Prop} (hV : HV w) (hw : 0 ≤ w 1 4 ∧ w 1 4 ≤ 6 ∧ 0 ≤ w 1 5 ∧ w 1 5 ≤ 5) (hT : TH w law (Wf w law sn) may u) (hm : MOK (w 1 5) may) (hi : 0 ≤ m ∧ m < w 1 5) (hs : 0 ≤ bAnd (may m) set ∧ bAnd (may m) set < 128)
    (hQ : ∀ v, FRT u v → Q (AG 0 (PRD (PVf wd (Wf w law sn) (mup may m (bAnd (may m) set))) 0) (LL w law sn (mup may m (bAnd (may m) set)))) v) : WI (fTh_narrowed m set wd u) Q := by
  obtain ⟨h1, h2, h3, h4, h5⟩ := id hT
  unfold fTh_narrowed
  rw [h4 m hi.1 hi.2]
  refine i_if (fun q => by exfalso; omega) (fun _ => i_if (fun _ => i_ck (by omega) (i_bv (i_ck (by omega) (i_bw ?_)))) (fun q => by exfalso; omega))
  have hT' : TH w law (Wf w law sn) (mup may m (bAnd (may m) set)) (up u 15 m (bAnd (may m) set)) := by
    refine ⟨sm_up h1 (by decide) (by decide) (by decide), fun p s x a b c d f g => ?_, ?_, fun i a b => ?_, ?_⟩
    · rw [up_k (by decide)]; exact h2 p s x a b c d f g
    · rw [up_k (by decide)]; exact h3
    · unfold mup
      by_cases e : i = m
      · subst e; rw [up_s, if_pos rfl]
      · rw [up_i e, if_neg e]; exact h4 i a b
    · rw [up_k (by decide)]; exact h5
  have hm' : MOK (w 1 5) (mup may m (bAnd (may m) set)) := fun i a b => by
    unfold mup
    split
    · exact hs
    · exact hm i a b
  have key := s_priced (wd := wd) (g := 0) (Q := fun r v => WI (ck (0 ≤ m ∧ m < 5) (bw (up v 15 m (may m)) fun u6 => some (r, u6))) Q) hV hw hT' hm' (fun v v1 v2 v3 => i_ck (by omega) (i_bw (i_some (hQ _ (fun k a b => ?_)))))
  · obtain ⟨r, y, e, h⟩ := key
    unfold cv at e ⊢
    cases hp : fTh_price wd (up u 15 m (bAnd (may m) set)) with
    | none => rw [hp] at e; cases e
    | some z =>
      rw [hp] at e
      exact i_ci ⟨r, y, e, h⟩
  · by_cases e : k = 15
    · subst e
      rw [up_r, v1 15 (by decide) (by decide), up_r, ur_ur, ur_id]
      exact (h4 m hi.1 hi.2).symm
    · rw [up_k e, v1 k a b, up_k e]
