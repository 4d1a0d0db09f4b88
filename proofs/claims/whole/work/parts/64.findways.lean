/-- what findWays leaves -/
def ACF (P M : Int) (b : Int → Int → Int) (g : Int → Int) (L : List (List Int)) (u : WD) : Prop :=
  (u 46 31 = L.length ∧ u 46 32 = w64 (AG 0 (PRD b 0) L) ∧ u 46 40 = AG 1 (rc g M) L) ∧
  (L = [] → u 46 33 = 0) ∧ (L ≠ [] → ∃ t, BEST b L t ∧ u 46 33 = PRD b 0 t ∧ ∀ i, 0 ≤ i → i < M → u 67 i = nth t i) ∧
  (∀ m p, 0 ≤ m → m < M → 0 ≤ p → p < 7 → u 68 (7 * m + p) = w64 (AG 0 (bhd b m p) L)) ∧
  ((0 ≤ u 46 36 ∧ u 46 36 < 128) ∧ ∀ i, 0 ≤ i → i < 7 → (tb (u 46 36) i ↔ i < M ∧ ∃ t ∈ L, ∀ l ∈ L, nth l i = nth t i)) ∧
  ((0 ≤ u 46 37 ∧ u 46 37 < 128) ∧ ∀ p, 0 ≤ p → p < 7 → (tb (u 46 37) p ↔ (p < P ∨ p = 6) ∧ ∀ l ∈ L, ∀ i, 0 ≤ i → i < M → nth l i ≠ p)) ∧
  ((0 ≤ u 46 41 ∧ u 46 41 < 128) ∧ ∀ i, 0 ≤ i → i < 7 → (tb (u 46 41) i ↔ i < M ∧ ∃ l ∈ L, nth l i = g i))
/-- what findWays may touch -/
def FRV (w u : WD) : Prop := (∀ k, k ≠ 46 → ¬ (63 ≤ k ∧ k ≤ 69) → u k = w k) ∧ ∀ i, i ≠ 31 → i ≠ 32 → i ≠ 33 → i ≠ 36 → i ≠ 37 → i ≠ 40 → i ≠ 41 → u 46 i = w 46 i
theorem FRV.rf {w : WD} : FRV w w := ⟨fun _ _ _ => rfl, fun _ _ _ _ _ _ _ _ => rfl⟩
theorem FRV.tr {w u v : WD} (h : FRV w u) (h' : FRV u v) : FRV w v := ⟨fun k a b => (h'.1 k a b).trans (h.1 k a b), fun i a b c d e f g => (h'.2 i a b c d e f g).trans (h.2 i a b c d e f g)⟩
theorem FRV.sameB {w u : WD} (h : FRV w u) : SameB w u := by
  refine ⟨fun k hk _ _ => h.1 k (by intro e; subst e; exact hk (by decide)) (fun e => hk (by unfold SCR; omega)), congrFun (h.1 6 (by decide) (by decide)) 5, congrFun (h.1 6 (by decide) (by decide)) 8, fun i hi => ?_⟩
  unfold SMF at hi
  exact h.2 i (by omega) (by omega) (by omega) (by omega) (by omega) (by omega) (by omega)
theorem FRV.same {w u : WD} (h : FRV w u) : Same w u := h.sameB.back (h.1 49 (by decide) (by decide)) (h.1 50 (by decide) (by decide))
theorem TR_v {w u v : WD} {sn : Int → Int → Int} {may : Int → Int} (h : TR w sn may u) (e : FRV u v) : TR w sn may v :=
  ⟨h.1.trans e.sameB, by rw [e.1 49 (by decide) (by decide)]; exact h.2.1, by rw [e.1 50 (by decide) (by decide)]; exact h.2.2⟩
theorem l_zero68 {K : WD → Option WD} {P : WD → Prop} : ∀ (f : Nat) (x : Int) (u : WD), 0 ≤ x → x ≤ 35 → 35 - x < f → WV (K (zf u 68 x 35)) P → WV (fR_findWays_l58 K f x u) P
  | 0, x, u, _, _, h, _ => by exfalso; omega
  | f + 1, x, u, h1, h2, h3, hK => by
    show WV (fR_findWays_l58_b (fR_findWays_l58 K f) K x u) P
    (repeat' (first | (with_reducible refine i_some ?_) | (with_reducible refine v_some ?_) | (with_reducible refine i_ci ?_) | (with_reducible refine i_cv ?_) | (with_reducible refine v_ci ?_) | (with_reducible refine v_cv ?_) | (with_reducible refine i_bv ?_) | (with_reducible refine v_bv ?_) | (with_reducible refine i_bw ?_) | (with_reducible refine v_bw ?_) | (with_reducible refine i_jn ?_) | (with_reducible refine v_jn ?_) | (with_reducible refine i_ck ?_ ?_) | (with_reducible refine v_ck ?_ ?_) | ((with_reducible refine i_if (fun hc => ?_) (fun hc => ?_)) <;> (try simp (disch := omega) only [not_true_eq_false, not_false_eq_true, true_and, and_true, up_r, up_k, ur_s, ur_e, ur_i, cp_k, w32_i, w64_i, w8_i] at hc) <;> (try (exfalso; omega))) | ((with_reducible refine v_if (fun hc => ?_) (fun hc => ?_)) <;> (try simp (disch := omega) only [not_true_eq_false, not_false_eq_true, true_and, and_true, up_r, up_k, ur_s, ur_e, ur_i, cp_k, w32_i, w64_i, w8_i] at hc) <;> (try (exfalso; omega))) | unfold fR_findWays_l58_b))
    · rw [zf_0 (by omega)] at hK
      exact hK
    · omega
    · rw [w32_i (by omega) (by omega)]
      refine l_zero68 f (x + 1) _ (by omega) (by omega) (by omega) ?_
      rw [zf_step (by omega)]
      exact hK
theorem low_bits {M i : Int} (hM : 0 ≤ M ∧ M ≤ 5) (hi : 0 ≤ i ∧ i < 7) : (0 ≤ w32 (bShl 1 M - 1) ∧ w32 (bShl 1 M - 1) < 128) ∧ (bAnd (bShr (w32 (bShl 1 M - 1)) i) 1 = 1 ↔ i < M) := by
  obtain ⟨a, rfl⟩ : ∃ j : Fin 6, M = (j.val : Int) := ⟨⟨M.toNat, by omega⟩, (Int.toNat_of_nonneg hM.1).symm⟩
  obtain ⟨c, rfl⟩ : ∃ k : Fin 7, i = (k.val : Int) := ⟨⟨i.toNat, by omega⟩, (Int.toNat_of_nonneg hi.1).symm⟩
  exact (by decide +kernel : ∀ (a : Fin 6) (c : Fin 7), (0 ≤ w32 (bShl 1 (a.val : Int) - 1) ∧ w32 (bShl 1 (a.val : Int) - 1) < 128) ∧ (bAnd (bShr (w32 (bShl 1 (a.val : Int) - 1)) (c.val : Int)) 1 = 1 ↔ (c.val : Int) < (a.val : Int))) a c
theorem low_bits6 {P i : Int} (hP : 0 ≤ P ∧ P ≤ 6) (hi : 0 ≤ i ∧ i < 7) : (0 ≤ bOr (w32 (bShl 1 P - 1)) 64 ∧ bOr (w32 (bShl 1 P - 1)) 64 < 128) ∧ (bAnd (bShr (bOr (w32 (bShl 1 P - 1)) 64) i) 1 = 1 ↔ i < P ∨ i = 6) := by
  obtain ⟨a, rfl⟩ : ∃ j : Fin 7, P = (j.val : Int) := ⟨⟨P.toNat, by omega⟩, (Int.toNat_of_nonneg hP.1).symm⟩
  obtain ⟨c, rfl⟩ : ∃ k : Fin 7, i = (k.val : Int) := ⟨⟨i.toNat, by omega⟩, (Int.toNat_of_nonneg hi.1).symm⟩
  exact (by decide +kernel : ∀ (a : Fin 7) (c : Fin 7), (0 ≤ bOr (w32 (bShl 1 (a.val : Int) - 1)) 64 ∧ bOr (w32 (bShl 1 (a.val : Int) - 1)) 64 < 128) ∧ (bAnd (bShr (bOr (w32 (bShl 1 (a.val : Int) - 1)) 64) (c.val : Int)) 1 = 1 ↔ (c.val : Int) < (a.val : Int) ∨ (c.val : Int) = 6)) a c
theorem HV_47 {w : WD} (h : HV w) : w 52 0 = w 2 47 ∧ 0 ≤ w 2 47 ∧ w 2 47 ≤ 2 := h 9 0 ⟨by omega, by omega, by omega, by omega, by omega, by omega, by omega⟩
theorem BY_in {w : WD} {law : Option LINES} {sn : Int → Int → Int} {may : Int → Int} (h : HV w) (h6 : w 1 4 ≤ 6) (m p : Int) : 0 ≤ BY (Wf w law sn) may m p ∧ BY (Wf w law sn) may m p ≤ 729 := by
  unfold BY
  split
  · exact Wf_in h h6
  · omega
/-- all possible ways -/
noncomputable def LL (w : WD) (law : Option LINES) (sn : Int → Int → Int) (may : Int → Int) : List (List Int) := WAYS (BY (Wf w law sn) may) (w 2 47) (w 1 5).toNat []
theorem s_findWays {w : WD} {law : Option LINES} {sn : Int → Int → Int} {may g : Int → Int} {u : WD} {Q : WD → Prop} (hV : HV w) (hl : LW w law) (h5 : 0 ≤ w 1 5 ∧ w 1 5 ≤ 5 ∧ w 46 4 = w 1 5) (h6 : 0 ≤ w 1 4 ∧ w 1 4 ≤ 6 ∧ w 46 1 = w 1 4) (hR : TR w sn may u) (hg : ∀ i, 0 ≤ i → i < w 1 5 → u 70 i = g i)
    (hQ : ∀ v, FRV u v → ACF (w 1 4) (w 1 5) (BY (Wf w law sn) may) g (LL w law sn may) v → (∀ m q, 0 ≤ m → m < w 1 5 → 0 ≤ q → q < 7 → v 65 (7 * m + q) = BY (Wf w law sn) may m q) → Q v) : WV (fR_findWays u) Q := by
  unfold fR_findWays
  refine v_cv (s_findBy (law := law) hV hl h5 h6 hR (fun v v1 v2 => v_bw (v_bw (v_bw (v_bw (v_bw (v_bw (v_bw ?_))))))))
  have e4 : v 46 4 = w 1 5 := by rw [v1 46 (by decide) (by decide) (by decide), hR.1.f 4 (by decide)]; exact h5.2.2
  have e1 : v 46 1 = w 1 4 := by rw [v1 46 (by decide) (by decide) (by decide), hR.1.f 1 (by decide)]; exact h6.2.2
  have e52 : v 52 0 = w 2 47 := by rw [v1 52 (by decide) (by decide) (by decide), hR.1.r 52 (by decide)]; exact (HV_47 hV).1
  have e70 : ∀ i, 0 ≤ i → i < w 1 5 → v 70 i = g i := fun i a b => by rw [v1 70 (by decide) (by decide) (by decide)]; exact hg i a b
  refine l_zero68 FU 0 _ (by decide) (by decide) (by decide) (v_cv ?_)
  simp (disch := omega) only [not_true_eq_false, not_false_eq_true, true_and, and_true, up_r, up_k, ur_s, ur_e, ur_i, cp_k, w32_i, w64_i, w8_i]
  rw [e4, e1]
  generalize hz : zf (up (up (up (up (up (up (up v 46 31 0) 46 32 0) 46 33 0) 46 36 (w32 (bShl 1 (w 1 5) - 1))) 46 37 (bOr (w32 (bShl 1 (w 1 4) - 1)) 64)) 46 40 0) 46 41 0) 68 0 35 = z
  have zk : ∀ k, k ≠ 46 → k ≠ 68 → z k = v k := fun k a b => by rw [← hz]; simp (disch := omega) only [not_true_eq_false, not_false_eq_true, true_and, and_true, up_r, up_k, ur_s, ur_e, ur_i, cp_k, w32_i, w64_i, w8_i, zf_k]
  have zi : ∀ i, i ≠ 31 → i ≠ 32 → i ≠ 33 → i ≠ 36 → i ≠ 37 → i ≠ 40 → i ≠ 41 → z 46 i = v 46 i := fun i a b c d e f g' => by rw [← hz]; simp (disch := omega) only [not_true_eq_false, not_false_eq_true, true_and, and_true, up_r, up_k, ur_s, ur_e, ur_i, cp_k, w32_i, w64_i, w8_i, zf_k]
  have b0 : ∀ m p, 0 ≤ BY (Wf w law sn) may m p := fun m p => (BY_in hV h6.2.1 m p).1
  have acc0 : ACC (w 1 4) (w 1 5) (BY (Wf w law sn) may) g [] z := by
    refine ⟨⟨?_, ?_, ?_⟩, fun _ => ?_, fun q => absurd rfl q, fun q => absurd rfl q, fun m p m0 m1 p0 p1 => ?_, ⟨?_, fun i i0 i1 => ?_⟩, ⟨?_, fun p p0 p1 => ?_⟩, ⟨?_, fun i i0 i1 => ?_⟩⟩
    · rw [← hz]; simp (disch := omega) only [not_true_eq_false, not_false_eq_true, true_and, and_true, up_r, up_k, ur_s, ur_e, ur_i, cp_k, w32_i, w64_i, w8_i, zf_k]; rfl
    · rw [← hz]; simp (disch := omega) only [not_true_eq_false, not_false_eq_true, true_and, and_true, up_r, up_k, ur_s, ur_e, ur_i, cp_k, w32_i, w64_i, w8_i, zf_k]; rfl
    · rw [← hz]; simp (disch := omega) only [not_true_eq_false, not_false_eq_true, true_and, and_true, up_r, up_k, ur_s, ur_e, ur_i, cp_k, w32_i, w64_i, w8_i, zf_k]; rfl
    · rw [← hz]; simp (disch := omega) only [not_true_eq_false, not_false_eq_true, true_and, and_true, up_r, up_k, ur_s, ur_e, ur_i, cp_k, w32_i, w64_i, w8_i, zf_k]
    · rw [← hz, zf_e (by omega)]; rfl
    · rw [← hz]; simp (disch := omega) only [not_true_eq_false, not_false_eq_true, true_and, and_true, up_r, up_k, ur_s, ur_e, ur_i, cp_k, w32_i, w64_i, w8_i, zf_k]; exact (low_bits ⟨h5.1, h5.2.1⟩ (i := 0) (by decide)).1
    · have e : z 46 36 = w32 (bShl 1 (w 1 5) - 1) := by rw [← hz]; simp (disch := omega) only [not_true_eq_false, not_false_eq_true, true_and, and_true, up_r, up_k, ur_s, ur_e, ur_i, cp_k, w32_i, w64_i, w8_i, zf_k]
      unfold tb
      rw [e, (low_bits ⟨h5.1, h5.2.1⟩ ⟨i0, i1⟩).2]
      exact ⟨fun q => ⟨q, fun l hl' => absurd hl' List.not_mem_nil⟩, fun q => q.1⟩
    · rw [← hz]; simp (disch := omega) only [not_true_eq_false, not_false_eq_true, true_and, and_true, up_r, up_k, ur_s, ur_e, ur_i, cp_k, w32_i, w64_i, w8_i, zf_k]; exact (low_bits6 ⟨h6.1, h6.2.1⟩ (i := 0) (by decide)).1
    · have e : z 46 37 = bOr (w32 (bShl 1 (w 1 4) - 1)) 64 := by rw [← hz]; simp (disch := omega) only [not_true_eq_false, not_false_eq_true, true_and, and_true, up_r, up_k, ur_s, ur_e, ur_i, cp_k, w32_i, w64_i, w8_i, zf_k]
      unfold tb
      rw [e, (low_bits6 ⟨h6.1, h6.2.1⟩ ⟨p0, p1⟩).2]
      exact ⟨fun q => ⟨q, fun l hl' => absurd hl' List.not_mem_nil⟩, fun q => q.1⟩
    · rw [← hz]; simp (disch := omega) only [not_true_eq_false, not_false_eq_true, true_and, and_true, up_r, up_k, ur_s, ur_e, ur_i, cp_k, w32_i, w64_i, w8_i, zf_k]; decide
    · have e : z 46 41 = 0 := by rw [← hz]; simp (disch := omega) only [not_true_eq_false, not_false_eq_true, true_and, and_true, up_r, up_k, ur_s, ur_e, ur_i, cp_k, w32_i, w64_i, w8_i, zf_k]
      rw [e]
      exact ⟨fun q => absurd q (tb_0 ⟨i0, i1⟩), fun ⟨_, l, hl', _⟩ => absurd hl' List.not_mem_nil⟩
  have gos : GOS (w 1 5) (w 2 47) (BY (Wf w law sn) may) g z := by
    refine ⟨?_, ?_, fun m p a b c d => ?_, fun i a b => ?_⟩
    · rw [zi 4 (by decide) (by decide) (by decide) (by decide) (by decide) (by decide) (by decide)]; exact e4
    · rw [zk 52 (by decide) (by decide)]; exact e52
    · rw [zk 65 (by decide) (by decide)]; exact v2 m p a b c d
    · rw [zk 70 (by decide) (by decide)]; exact e70 i a b
  have p5 := P7n_le (n := (w 1 5).toNat) (by omega)
  show WV (FR_goWays 200 0 0 0 1 z) _
  refine l_goWays (P := w 1 4) (M := w 1 5) (S := w 2 47) (b := BY (Wf w law sn) may) (g := g) ⟨h5.1, h5.2.1⟩ (HV_47 hV).2 b0 (fun m p _ _ _ _ => BY_in hV h6.2.1 m p) (w 1 5).toNat 200 [] 0 0 1 [] z _ (by omega) (by simp; omega) (by decide) RL_0.2.1 rfl (HV_47 hV).2.1 rfl (by decide) (by decide) gos (fun i a b => by simp at b; omega) acc0 (by simp; omega) (fun y y1 y2 y3 => ?_)
  rw [List.nil_append] at y3
  have fr : FRV u y := by
    refine ⟨fun k a b => ?_, fun i a b c d e f g' => ?_⟩
    · rw [y1.1 k a (by omega) (by omega) (by omega) (by omega), zk k a (by omega), v1 k (by omega) (by omega) (by omega)]
    · rw [y1.2 i a b c d e f g', zi i a b c d e f g', v1 46 (by decide) (by decide) (by decide)]
  have y65 : ∀ m q, 0 ≤ m → m < w 1 5 → 0 ≤ q → q < 7 → y 65 (7 * m + q) = BY (Wf w law sn) may m q := fun m q a b c d => by
    rw [y1.1 65 (by decide) (by decide) (by decide) (by decide) (by decide), zk 65 (by decide) (by decide)]; exact v2 m q a b c d
  obtain ⟨a1, a4, a5, a6, a7, a8, a9, a10⟩ := y3
  refine v_if (fun q => v_some (hQ y fr ⟨a1, a4, a5, a7, ⟨a8.1, fun i i0 i1 => (a8.2 i i0 i1).trans ?_⟩, a9, a10⟩ y65)) (fun q => v_bw (v_some (hQ _ ?_ ?_ ?_)))
  · have hne : LL w law sn may ≠ [] := fun z => q (by rw [a1.1]; show ((LL w law sn may).length : Int) = 0; rw [z]; rfl)
    obtain ⟨t, t1, t2⟩ := a6 hne
    constructor
    · rintro ⟨z1, z2⟩
      exact ⟨z1, t, t1, fun l hl' => by rw [z2 l hl', t2 i i0 z1]⟩
    · rintro ⟨z1, t', t1', z2⟩
      exact ⟨z1, fun l hl' => by rw [z2 l hl', t2 i i0 z1, ← z2 t t1]⟩
  · refine ⟨fun k a b => ?_, fun i a b c d e f g' => ?_⟩
    · rw [up_k a]; exact fr.1 k a b
    · rw [up_i d]; exact fr.2 i a b c d e f g'
  · have hnil : LL w law sn may = [] := by
      have : ((LL w law sn may).length : Int) = 0 := by
        have e2 : y 46 31 = ((LL w law sn may).length : Int) := a1.1
        omega
      exact List.length_eq_zero_iff.mp (by omega)
    have ui : ∀ i, i ≠ 36 → up y 46 36 0 46 i = y 46 i := fun i hi => up_i hi
    have uk : ∀ k, k ≠ 46 → up y 46 36 0 k = y k := fun k hk => up_k hk
    refine ⟨⟨?_, ?_, ?_⟩, ?_, ?_, ?_, ?_, ?_, ?_⟩
    · rw [ui 31 (by decide)]; exact a1.1
    · rw [ui 32 (by decide)]; exact a1.2.1
    · rw [ui 40 (by decide)]; exact a1.2.2
    · rw [ui 33 (by decide)]; exact a4
    · exact fun z => absurd hnil z
    · rw [uk 68 (by decide)]; exact a7
    · rw [up_s]
      refine ⟨by decide, fun i i0 i1 => ⟨fun z => absurd z (tb_0 ⟨i0, i1⟩), fun ⟨_, t, ht, _⟩ => ?_⟩⟩
      rw [hnil] at ht
      exact absurd ht List.not_mem_nil
    · rw [ui 37 (by decide)]; exact a9
    · rw [ui 41 (by decide)]; exact a10
  · intro m q' a b c d
    rw [up_k (by decide)]
    exact y65 m q' a b c d
