/-! the reference's thought -/
def Wf (w : WD) (law : Option LINES) (sn : Int → Int → Int) (m p : Int) : Int := if (0 ≤ p ∧ p < w 1 4) ∨ p = 6 then wgt w law (sn m) p else 0
theorem Wf_in {w : WD} {law : Option LINES} {sn : Int → Int → Int} {m p : Int} (h : HV w) (h6 : w 1 4 ≤ 6) : 0 ≤ Wf w law sn m p ∧ Wf w law sn m p ≤ 729 := by
  unfold Wf
  split
  · exact wgt_in h (by omega)
  · omega
/-- alike but for what is worked out anew, what is seen and who may be behind -/
def SameB (w u : WD) : Prop := (∀ k, ¬ SCR k → k ≠ 49 → k ≠ 50 → u k = w k) ∧ u 6 5 = w 6 5 ∧ u 6 8 = w 6 8 ∧ ∀ i, SMF i → u 46 i = w 46 i
theorem SameB.of {w u : WD} (h : Same w u) : SameB w u := ⟨fun k hk _ _ => h.1 k hk, h.2.1, h.2.2.1, h.2.2.2⟩
theorem SameB.trans {w u v : WD} (h : SameB w u) (h' : SameB u v) : SameB w v :=
  ⟨fun k hk a b => (h'.1 k hk a b).trans (h.1 k hk a b), h'.2.1.trans h.2.1, h'.2.2.1.trans h.2.2.1, fun i hi => (h'.2.2.2 i hi).trans (h.2.2.2 i hi)⟩
theorem SameB.r {w u : WD} (h : SameB w u) (k : Int) (hk : ¬ SCR k ∧ k ≠ 49 ∧ k ≠ 50) : u k = w k := h.1 k hk.1 hk.2.1 hk.2.2
theorem SameB.f {w u : WD} (h : SameB w u) (i : Int) (hi : SMF i) : u 46 i = w 46 i := h.2.2.2 i hi
theorem SameB.back {w u : WD} (h : SameB w u) (h1 : u 49 = w 49) (h2 : u 50 = w 50) : Same w u :=
  ⟨fun k hk => by
    by_cases a : k = 49
    · rw [a]; exact h1
    · by_cases b : k = 50
      · rw [b]; exact h2
      · exact h.1 k hk a b, h.2.1, h.2.2.1, h.2.2.2⟩
theorem LW_sameB {w u : WD} {law : Option LINES} (h : LW w law) (e : SameB w u) : LW u law := by
  cases law with
  | none => exact ⟨(e.f 28 (by decide)).trans h.1, e.2.2.1.trans h.2⟩
  | some ls => exact ⟨(e.f 28 (by decide)).trans h.1, LawIs_of ⟨e.2.2.1, e.r 9 (by decide), e.r 58 (by decide), e.r 59 (by decide), congrFun (e.r 60 (by decide)) 0, e.r 61 (by decide), e.r 62 (by decide)⟩ h.2⟩
/-- the reference's hall, as if this were seen and these might be behind -/
def TR (w : WD) (sn : Int → Int → Int) (may : Int → Int) (u : WD) : Prop := SameB w u ∧ (∀ m s, 0 ≤ m → m < w 1 5 → 0 ≤ s → s < 3 → u 49 (3 * m + s) = sn m s ∧ -1 ≤ sn m s ∧ sn m s ≤ 3) ∧ ∀ m, 0 ≤ m → m < w 1 5 → u 50 m = may m ∧ 0 ≤ may m ∧ may m < 128
theorem FRG.sameB {w u : WD} (h : FRG w u) : SameB w u := SameB.of h.same
theorem l_by49 {w : WD} {law : Option LINES} {sn : Int → Int → Int} {may : Int → Int} {m p : Int} {K : Int → WD → Option WD} {P : WD → Prop} {u : WD} (hV : HV w) (hl : LW w law) (h5 : w 1 5 ≤ 5) (hR : TR w sn may u) (hm : 0 ≤ m ∧ m < w 1 5) (hp : (0 ≤ p ∧ p < 6) ∨ p = 6) (pr : Int) (hpr : pr = 0 ∨ pr = 1)
    (h : ∀ v, FRG u v → WV (K (pr * wgt w law (sn m) p) v) P) : WV (fR_findBy_l49 m p K FU pr 0 u) P := by
  have st : ∀ (f : Nat) (q e : Int) (v : WD), FRG u v → 0 ≤ e → e < 3 → (0 ≤ q ∧ q ≤ 81) → (∀ v', FRG u v' → (0 ≤ q * fac w law p e (sn m e) ∧ q * fac w law p e (sn m e) ≤ q * 9) → WV (fR_findBy_l49 m p K f (q * fac w law p e (sn m e)) (e + 1) v') P) → (q = 0 → WV (K 0 v) P) → WV (fR_findBy_l49 m p K (f + 1) q e v) P := by
    intro f q e v hv e0 e1 hq hn hz
    show WV (fR_findBy_l49_b (fR_findBy_l49 m p K f) m p K q e v) P
    unfold fR_findBy_l49_b
    obtain ⟨r1, r2, r3⟩ := hR
    obtain ⟨s1, s2, s3⟩ := r2 m e hm.1 hm.2 e0 e1
    have v49 : v 49 = u 49 := hv 49 (by decide) (by decide)
    rw [w32_i (x := e + 1) (by omega) (by omega), w32_i (x := 3 * m) (by omega) (by omega), w32_i (x := 3 * m + e) (by omega) (by omega), v49, s1]
    have fi := fac_in (law := law) (s := e) (v := sn m e) hV hp ⟨e0, e1⟩
    refine v_if (fun z => by exfalso; omega) (fun _ => v_if (fun z => ?_) (fun z => v_ck (by omega) (v_jn (v_if (fun z' => v_bv ?_) (fun z' => v_ck (by omega) (v_ci ?_))))))
    · have : q = 0 := by omega
      rw [this]
      exact hz this
    · have e1' : fac w law p e (sn m e) = 1 := by unfold fac; rw [if_neg (by omega)]
      rw [e1', Int.mul_one] at hn
      exact hn v hv (by omega)
    · have e2' : fac w law p e (sn m e) = CT w law p e (sn m e) := by unfold fac; rw [if_pos (by omega)]
      have mi := mul_in (A := q) (a := q) (by omega) fi
      rw [e2'] at hn mi
      refine s_countsBy (w0 := w) (law := law) (LW_sameB hl (r1.trans hv.sameB)) hV (fun k k1 k2 k3 k4 => (r1.trans hv.sameB).r k ⟨by unfold SCR; omega, k3, k4⟩) hp ⟨e0, e1⟩ (fun v' v1 => v_bv ?_)
      rw [w64_i (by omega) (by omega)]
      exact v_bv (hn v' (hv.tr v1) mi)
  have ew : pr * fac w law p 0 (sn m 0) * fac w law p (0 + 1) (sn m (0 + 1)) * fac w law p (0 + 1 + 1) (sn m (0 + 1 + 1)) = pr * wgt w law (sn m) p := by
    unfold wgt
    rw [Int.mul_assoc, Int.mul_assoc, ← Int.mul_assoc (fac w law p 0 (sn m 0))]
    rfl
  refine st 1999 pr 0 u FRG.rf (by decide) (by decide) (by omega) (fun v1 f1 b1 => ?_) (fun z => by have := h u FRG.rf; rw [z, Int.zero_mul] at this; exact this)
  refine st 1998 _ (0 + 1) v1 f1 (by decide) (by decide) (by omega) (fun v2 f2 b2 => ?_) (fun z => ?_)
  · refine st 1997 _ (0 + 1 + 1) v2 f2 (by decide) (by decide) (by omega) (fun v3 f3 b3 => ?_) (fun z => ?_)
    · show WV (fR_findBy_l49_b (fR_findBy_l49 m p K 1996) m p K _ (0 + 1 + 1 + 1) v3) P
      unfold fR_findBy_l49_b
      rw [ew]
      exact v_if (fun _ => h v3 f3) (fun z => by exfalso; omega)
    · have := h v2 f2
      rw [← ew, z, Int.zero_mul] at this
      exact this
  · have := h v1 f1
    rw [← ew, z, Int.zero_mul, Int.zero_mul] at this
    exact this
def FRY (w u : WD) : Prop := ∀ k, k ≠ 63 → k ≠ 64 → k ≠ 65 → u k = w k
theorem FRY.sameB {w u : WD} (h : FRY w u) : SameB w u := ⟨fun k hk _ _ => h k (by intro e; subst e; exact hk (by decide)) (by intro e; subst e; exact hk (by decide)) (by intro e; subst e; exact hk (by decide)), congrFun (h 6 (by decide) (by decide) (by decide)) 5, congrFun (h 6 (by decide) (by decide) (by decide)) 8, fun i _ => congrFun (h 46 (by decide) (by decide) (by decide)) i⟩
theorem TR_y {w u v : WD} {sn : Int → Int → Int} {may : Int → Int} (h : TR w sn may u) (e : FRY u v) : TR w sn may v :=
  ⟨h.1.trans e.sameB, by rw [e 49 (by decide) (by decide) (by decide)]; exact h.2.1, by rw [e 50 (by decide) (by decide) (by decide)]; exact h.2.2⟩
theorem l_by12 {w : WD} {law : Option LINES} {sn : Int → Int → Int} {may : Int → Int} {m : Int} {K : WD → Option WD} {P : WD → Prop} (hV : HV w) (hl : LW w law) (h5 : w 1 5 ≤ 5) (h6 : 0 ≤ w 1 4 ∧ w 1 4 ≤ 6 ∧ w 46 1 = w 1 4) (hm : 0 ≤ m ∧ m < w 1 5) : ∀ (f : Nat) (p : Int) (u : WD), 0 ≤ p → p ≤ 7 → 7 - p < f → TR w sn may u →
    (∀ v, FRY u v → (∀ i, ¬ (7 * m + p ≤ i ∧ i < 7 * m + 7) → v 65 i = u 65 i) → (∀ q, p ≤ q → q < 7 → v 65 (7 * m + q) = BY (Wf w law sn) may m q) → WV (K v) P) → WV (fR_findBy_l12 m K f p u) P
  | 0, p, u, _, _, h, _, _ => by exfalso; omega
  | f + 1, p, u, h1, h2, h3, hR, hK => by
    show WV (fR_findBy_l12_b (fR_findBy_l12 m K f) m K p u) P
    unfold fR_findBy_l12_b
    rw [w32_i (x := p + 1) (by omega) (by omega), w32_i (x := 7 * m) (by omega) (by omega), w32_i (x := 7 * m + p) (by omega) (by omega)]
    obtain ⟨r1, r2, r3⟩ := id hR
    obtain ⟨m1, m2, m3⟩ := r3 m hm.1 hm.2
    have e1 := r1.f 1 (by decide)
    refine v_if (fun z => hK u (fun _ _ _ _ => rfl) (fun _ _ => rfl) (fun q a b => by omega)) (fun z => v_ci ?_)
    have go : ∀ pr : Int, (pr = 0 ∨ pr = 1) → (pr * wgt w law (sn m) p = BY (Wf w law sn) may m p) → WV (fR_findBy_l49 m p (fun (v3_17 : Int) (u18 : WD) => ck (0 ≤ (7 * m + p) ∧ (7 * m + p) < 35) <| bw (up u18 65 (7 * m + p) v3_17) <| fun (u19 : WD) => bv (p + 1) <| fun (v2_20 : Int) => fR_findBy_l12 m K f v2_20 u19) FU pr 0 u) P := by
      intro pr hpr hb
      refine l_by49 (law := law) hV hl h5 hR hm (by omega) pr hpr (fun v v1 => v_ck (by omega) (v_bw (v_bv ?_)))
      rw [hb]
      have fy : FRY u (up v 65 (7 * m + p) (BY (Wf w law sn) may m p)) := fun k k1 k2 k3 => by rw [up_k k3, v1 k k1 k2]
      refine l_by12 hV hl h5 h6 hm f (p + 1) _ (by omega) (by omega) (by omega) (TR_y hR fy) (fun y y1 y2 y3 => hK y (fun k k1 k2 k3 => by rw [y1 k k1 k2 k3, fy k k1 k2 k3]) (fun i hi => ?_) (fun q a b => ?_))
      · rw [y2 i (by omega)]
        simp (disch := omega) only [not_true_eq_false, not_false_eq_true, true_and, and_true, up_r, up_k, ur_s, ur_e, ur_i, cp_k, w32_i, w64_i, w8_i]
        rw [v1 65 (by decide) (by decide)]
      · rcases (by omega : q = p ∨ p + 1 ≤ q) with rfl | c
        · rw [y2 _ (by omega)]
          simp (disch := omega) only [not_true_eq_false, not_false_eq_true, true_and, and_true, up_r, up_k, ur_s, ur_e, ur_i, cp_k, w32_i, w64_i, w8_i]
        · exact y3 q c b
    refine s_isWhoR (by rw [e1]; omega) (fun o => v_jn (v_jn (v_if (fun q => absurd q (by decide)) (fun _ => v_ck (by omega) ?_)))) (fun o => v_jn (v_jn (v_if (fun _ => go 0 (Or.inl rfl) ?_) (fun q => absurd rfl q))))
    · rw [m1]
      rw [e1, h6.2.2] at o
      have t := tb_01 (p := p) (v := may m) ⟨m2, m3⟩ ⟨h1, by omega⟩
      refine v_if (fun q => go 0 (Or.inl rfl) ?_) (fun q => go 1 (Or.inr rfl) ?_)
      · unfold BY
        rw [if_neg q, Int.zero_mul]
      · unfold BY Wf
        rw [if_pos (by omega), if_pos o, Int.one_mul]
    · rw [e1, h6.2.2] at o
      unfold BY Wf
      rw [if_neg o, Int.zero_mul]
      split <;> rfl
theorem l_by2 {w : WD} {law : Option LINES} {sn : Int → Int → Int} {may : Int → Int} {P : WD → Prop} (hV : HV w) (hl : LW w law) (h5 : 0 ≤ w 1 5 ∧ w 1 5 ≤ 5 ∧ w 46 4 = w 1 5) (h6 : 0 ≤ w 1 4 ∧ w 1 4 ≤ 6 ∧ w 46 1 = w 1 4) : ∀ (f : Nat) (m : Int) (u : WD), 0 ≤ m → m ≤ w 1 5 → w 1 5 - m < f → TR w sn may u →
    (∀ v, FRY u v → (∀ i, i < 7 * m → v 65 i = u 65 i) → (∀ m' q, m ≤ m' → m' < w 1 5 → 0 ≤ q → q < 7 → v 65 (7 * m' + q) = BY (Wf w law sn) may m' q) → P v) → WV (fR_findBy_l2 f m u) P
  | 0, m, u, _, _, h, _, _ => by exfalso; omega
  | f + 1, m, u, h1, h2, h3, hR, hP => by
    show WV (fR_findBy_l2_b (fR_findBy_l2 f) m u) P
    unfold fR_findBy_l2_b
    rw [w32_i (x := m + 1) (by omega) (by omega), hR.1.f 4 (by decide), h5.2.2]
    refine v_if (fun z => v_some (hP u (fun _ _ _ _ => rfl) (fun _ _ => rfl) (fun m' q a b => by omega))) (fun z => ?_)
    refine l_by12 hV hl h5.2.1 h6 ⟨h1, by omega⟩ FU 0 u (by decide) (by decide) (by decide) hR (fun v v1 v2 v3 => v_bv (l_by2 hV hl h5 h6 f (m + 1) v (by omega) (by omega) (by omega) (TR_y hR v1) (fun y y1 y2 y3 => hP y (fun k k1 k2 k3 => by rw [y1 k k1 k2 k3, v1 k k1 k2 k3]) (fun i hi => by rw [y2 i (by omega), v2 i (by omega)]) (fun m' q a b c d => ?_))))
    rcases (by omega : m' = m ∨ m + 1 ≤ m') with rfl | e
    · rw [y2 _ (by omega)]
      exact v3 q c d
    · exact y3 m' q e b c d
theorem s_findBy {w : WD} {law : Option LINES} {sn : Int → Int → Int} {may : Int → Int} {u : WD} {P : WD → Prop} (hV : HV w) (hl : LW w law) (h5 : 0 ≤ w 1 5 ∧ w 1 5 ≤ 5 ∧ w 46 4 = w 1 5) (h6 : 0 ≤ w 1 4 ∧ w 1 4 ≤ 6 ∧ w 46 1 = w 1 4) (hR : TR w sn may u)
    (hP : ∀ v, FRY u v → (∀ m q, 0 ≤ m → m < w 1 5 → 0 ≤ q → q < 7 → v 65 (7 * m + q) = BY (Wf w law sn) may m q) → P v) : WV (fR_findBy u) P :=
  l_by2 hV hl h5 h6 FU 0 u (by decide) h5.1 (by unfold FU; omega) hR (fun v v1 _ v3 => hP v v1 v3)
