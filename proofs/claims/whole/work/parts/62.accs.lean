/-! what the ways met so far have come to -/
def nth (l : List Int) (i : Int) : Int := l.getD i.toNat 0
def bhd (b : Int → Int → Int) (m p : Int) (l : List Int) : Int := if nth l m = p then PRD b 0 l else 0
def rc (g : Int → Int) (M : Int) (l : List Int) : Int := RCT (nth l) g M.toNat 0
/-- the first of the greatest -/
def BEST (b : Int → Int → Int) (done : List (List Int)) (t : List Int) : Prop := ∃ d1 d2, done = d1 ++ t :: d2 ∧ (∀ l ∈ d1, PRD b 0 l < PRD b 0 t) ∧ ∀ l ∈ d2, PRD b 0 l ≤ PRD b 0 t
def ACC (P M : Int) (b : Int → Int → Int) (g : Int → Int) (done : List (List Int)) (u : WD) : Prop :=
  (u 46 31 = done.length ∧ u 46 32 = w64 (AG 0 (PRD b 0) done) ∧ u 46 40 = AG 1 (rc g M) done) ∧
  (done = [] → u 46 33 = 0) ∧ (done ≠ [] → ∃ t, BEST b done t ∧ u 46 33 = PRD b 0 t ∧ ∀ i, 0 ≤ i → i < M → u 67 i = nth t i) ∧
  (done ≠ [] → ∃ t ∈ done, ∀ i, 0 ≤ i → i < M → u 69 i = nth t i) ∧
  (∀ m p, 0 ≤ m → m < M → 0 ≤ p → p < 7 → u 68 (7 * m + p) = w64 (AG 0 (bhd b m p) done)) ∧
  ((0 ≤ u 46 36 ∧ u 46 36 < 128) ∧ ∀ i, 0 ≤ i → i < 7 → (tb (u 46 36) i ↔ i < M ∧ ∀ l ∈ done, nth l i = u 69 i)) ∧
  ((0 ≤ u 46 37 ∧ u 46 37 < 128) ∧ ∀ p, 0 ≤ p → p < 7 → (tb (u 46 37) p ↔ (p < P ∨ p = 6) ∧ ∀ l ∈ done, ∀ i, 0 ≤ i → i < M → nth l i ≠ p)) ∧
  ((0 ≤ u 46 41 ∧ u 46 41 < 128) ∧ ∀ i, 0 ≤ i → i < 7 → (tb (u 46 41) i ↔ i < M ∧ ∃ l ∈ done, nth l i = g i))
theorem AG_snoc {g : Int} {f : List Int → Int} (hf : ∀ l, 0 ≤ f l) (ls : List (List Int)) (l : List Int) : AG g f (ls ++ [l]) = opg g (AG g f ls) (f l) := by
  rw [AG_app hf]
  show opg g _ (opg g (f l) 0) = _
  rw [opg_0' (hf l)]
theorem w64_add (a b : Int) : w64 (w64 a + b) = w64 (a + b) := by unfold w64; omega
/-- one more way -/
theorem ACC_step {P M is : Int} {b : Int → Int → Int} {g : Int → Int} {done : List (List Int)} {l : List Int} {u v y : WD} (hM : 0 ≤ M ∧ M ≤ 5) (hb : ∀ m p, 0 ≤ b m p) (h : ACC P M b g done u) (hv : MT u v M is 0) (hlen : done.length < 9000000) (his : is = PRD b 0 l) (hpos : 0 < is)
    (hl : ∀ i, 0 ≤ i → i < M → u 66 i = nth l i) (hg : ∀ i, 0 ≤ i → i < M → u 70 i = g i)
    (y68 : y 68 = v 68) (y69 : y 69 = v 69) (y67 : (u 46 33 < is → ∀ i, 0 ≤ i → i < M → y 67 i = u 66 i) ∧ (is ≤ u 46 33 → y 67 = u 67))
    (yi : ∀ i, i ≠ 40 → i ≠ 33 → i ≠ 31 → i ≠ 32 → y 46 i = v 46 i) (y40 : y 46 40 = mx (u 46 40) (RCT (u 66) (u 70) M.toNat 0)) (y33 : y 46 33 = mx (u 46 33) is) (y31 : y 46 31 = w64 (u 46 31 + 1)) (y32 : y 46 32 = w64 (u 46 32 + is)) : ACC P M b g (done ++ [l]) y := by
  obtain ⟨⟨a1, a2, a3⟩, a4, a5, a6, a7, a8, a9, a10⟩ := h
  obtain ⟨v1, v2, v3, v4, v5, v6, v7, v8⟩ := hv
  have prp : ∀ (l : List Int) (m : Int), 0 ≤ PRD b m l := by
    intro l
    induction l with
    | nil => intro m; show (0 : Int) ≤ 1; omega
    | cons a l ih => intro m; exact Int.mul_nonneg (hb m a) (ih (m + 1))
  have er : RCT (u 66) (u 70) M.toNat 0 = rc g M l := RCT_eq _ _ (fun i i0 i1 => ⟨hl i i0 (by omega), hg i i0 (by omega)⟩)
  have hne : done ++ [l] ≠ [] := fun q => by have := congrArg List.length q; simp at this
  have e69 : ∀ i, 0 ≤ i → i < M → y 69 i = if done = [] then nth l i else u 69 i := by
    intro i i0 i1
    rw [y69, v4 i i0 i1, hl i i0 i1]
    by_cases q : done = []
    · rw [if_pos q, if_pos (by rw [a1, q]; rfl)]
    · rw [if_neg q, if_neg (fun z => q (List.length_eq_zero_iff.mp (by omega)))]
  refine ⟨⟨?_, ?_, ?_⟩, fun q => absurd q hne, fun _ => ?_, fun _ => ?_, fun m p m0 m1 p0 p1 => ?_, ⟨?_, fun i i0 i1 => ?_⟩, ⟨?_, fun p p0 p1 => ?_⟩, ⟨?_, fun i i0 i1 => ?_⟩⟩
  · rw [y31, a1, List.length_append, List.length_singleton, w64_i (by omega) (by omega)]
    omega
  · rw [y32, a2, w64_add, AG_snoc (fun l => prp l 0), his]
    rfl
  · rw [y40, a3, er, AG_snoc (f := rc g M) (fun l => (RCT_in (h := nth l) (g := g) M.toNat 0).1)]
    rfl
  · by_cases q : done = []
    · subst q
      refine ⟨l, ⟨[], [], rfl, fun _ z => absurd z List.not_mem_nil, fun _ z => absurd z List.not_mem_nil⟩, ?_, fun i i0 i1 => ?_⟩
      · rw [y33, a4 rfl, ← his]; unfold mx; rw [if_pos hpos]
      · rw [y67.1 (by rw [a4 rfl]; exact hpos) i i0 i1, hl i i0 i1]
    · obtain ⟨t, ⟨d1, d2, e, b1, b2⟩, c2, c3⟩ := a5 q
      by_cases hlt : u 46 33 < is
      · refine ⟨l, ⟨done, [], rfl, fun z hz => ?_, fun _ z => absurd z List.not_mem_nil⟩, ?_, fun i i0 i1 => ?_⟩
        · rw [← his]
          rw [e] at hz
          rcases List.mem_append.mp hz with hz | hz
          · have := b1 z hz; omega
          · rcases List.mem_cons.mp hz with hz | hz
            · rw [hz]; omega
            · have := b2 z hz; omega
        · rw [y33, ← his]; unfold mx; rw [if_pos hlt]
        · rw [y67.1 hlt i i0 i1, hl i i0 i1]
      · refine ⟨t, ⟨d1, d2 ++ [l], by rw [e, List.append_assoc]; rfl, b1, fun z hz => ?_⟩, ?_, fun i i0 i1 => ?_⟩
        · rcases List.mem_append.mp hz with hz | hz
          · exact b2 z hz
          · rw [List.mem_singleton.mp hz, ← his]; omega
        · rw [y33, ← c2]; unfold mx; rw [if_neg hlt]
        · rw [y67.2 (by omega)]; exact c3 i i0 i1
  · by_cases q : done = []
    · exact ⟨l, by simp, fun i i0 i1 => by rw [e69 i i0 i1, if_pos q]⟩
    · obtain ⟨t, t1, t2⟩ := a6 q
      exact ⟨t, List.mem_append_left _ t1, fun i i0 i1 => by rw [e69 i i0 i1, if_neg q]; exact t2 i i0 i1⟩
  · rw [y68, v5 m p m0 m1 p0 p1, a7 m p m0 m1 p0 p1, hl m m0 m1, AG_snoc (fun l => by unfold bhd; split; exact prp l 0; omega)]
    unfold bhd opg
    by_cases q : nth l m = p
    · rw [if_pos ⟨m0, q⟩, w64_add, if_pos rfl, if_pos q, his]
    · rw [if_neg (fun z => q z.2), if_pos rfl, if_neg q, Int.add_zero]
  · rw [yi 36 (by decide) (by decide) (by decide) (by decide)]; exact v6.1
  · rw [yi 36 (by decide) (by decide) (by decide) (by decide), v6.2 i i0 i1, a8.2 i i0 i1]
    constructor
    · rintro ⟨⟨z1, z2⟩, z3⟩
      refine ⟨z1, fun z hz => ?_⟩
      rw [e69 i i0 z1]
      rcases List.mem_append.mp hz with hz | hz
      · rw [if_neg (fun q => by rw [q] at hz; exact absurd hz List.not_mem_nil)]
        exact z2 z hz
      · rw [List.mem_singleton.mp hz]
        by_cases q : done = []
        · rw [if_pos q]
        · rw [if_neg q]
          have h31 : u 46 31 ≠ 0 := fun z => q (List.length_eq_zero_iff.mp (by omega))
          by_cases q' : u 66 i = u 69 i
          · rw [← q', hl i i0 z1]
          · exact absurd ⟨i0, z1, h31, q'⟩ z3
    · rintro ⟨z1, z2⟩
      refine ⟨⟨z1, fun z hz => ?_⟩, fun ⟨_, _, z3, z4⟩ => ?_⟩
      · have := z2 z (List.mem_append_left _ hz)
        rw [e69 i i0 z1, if_neg (fun q => by rw [q] at hz; exact absurd hz List.not_mem_nil)] at this
        exact this
      · have := z2 l (by simp)
        rw [e69 i i0 z1, if_neg (fun q => z3 (by rw [a1, q]; rfl))] at this
        rw [hl i i0 z1] at z4
        exact z4 this
  · rw [yi 37 (by decide) (by decide) (by decide) (by decide)]; exact v7.1
  · rw [yi 37 (by decide) (by decide) (by decide) (by decide), v7.2 p p0 p1, a9.2 p p0 p1]
    constructor
    · rintro ⟨⟨z1, z2⟩, z3⟩
      refine ⟨z1, fun z hz i i0 i1 => ?_⟩
      rcases List.mem_append.mp hz with hz | hz
      · exact z2 z hz i i0 i1
      · rw [List.mem_singleton.mp hz]
        exact fun e => z3 ⟨i, i0, i1, by rw [hl i i0 i1]; exact e⟩
    · rintro ⟨z1, z2⟩
      refine ⟨⟨z1, fun z hz i i0 i1 => z2 z (List.mem_append_left _ hz) i i0 i1⟩, fun ⟨i, i0, i1, e⟩ => ?_⟩
      rw [hl i i0 i1] at e
      exact z2 l (by simp) i i0 i1 e
  · rw [yi 41 (by decide) (by decide) (by decide) (by decide)]; exact v8.1
  · rw [yi 41 (by decide) (by decide) (by decide) (by decide), v8.2 i i0 i1, a10.2 i i0 i1]
    constructor
    · rintro (⟨z1, z, hz, e⟩ | ⟨_, z1, z2⟩)
      · exact ⟨z1, z, List.mem_append_left _ hz, e⟩
      · exact ⟨z1, l, by simp, by rw [← hl i i0 z1, ← hg i i0 z1]; exact z2.symm⟩
    · rintro ⟨z1, z, hz, e⟩
      rcases List.mem_append.mp hz with hz | hz
      · exact Or.inl ⟨z1, z, hz, e⟩
      · rw [List.mem_singleton.mp hz] at e
        exact Or.inr ⟨i0, z1, by rw [hl i i0 z1, hg i i0 z1]; exact e.symm⟩
theorem l_copy67 {M y0 : Int} {K : WD → Option WD} {P : WD → Prop} (hM : 0 ≤ M ∧ M ≤ 5) : ∀ (f : Nat) (x : Int) (u : WD), 0 ≤ x → x ≤ M → M - x < f → u 46 4 = M →
    (∀ v, (∀ k, k ≠ 67 → v k = u k) → (∀ i, i < x → v 67 i = u 67 i) → (∀ i, x ≤ i → i < M → v 67 i = u 66 i) → WV (K v) P) → WV (fR_meets_l183 y0 K f x u) P
  | 0, x, u, _, _, h, _, _ => by exfalso; omega
  | f + 1, x, u, h1, h2, h3, h4, hK => by
    show WV (fR_meets_l183_b (fR_meets_l183 y0 K f) y0 K x u) P
    unfold fR_meets_l183_b
    rw [h4, w32_i (x := x + 1) (by omega) (by omega)]
    refine v_if (fun _ => hK u (fun _ _ => rfl) (fun _ _ => rfl) (fun i a b => by omega)) (fun z => v_ck (by omega) (v_ck (by omega) (v_bw (v_bv (l_copy67 hM f (x + 1) _ (by omega) (by omega) (by omega) (by simp (disch := omega) only [not_true_eq_false, not_false_eq_true, true_and, and_true, up_r, up_k, ur_s, ur_e, ur_i, cp_k, w32_i, w64_i, w8_i]; exact h4) (fun v v1 v2 v3 => hK v (fun k hk => by rw [v1 k hk]; simp (disch := omega) only [not_true_eq_false, not_false_eq_true, true_and, and_true, up_r, up_k, ur_s, ur_e, ur_i, cp_k, w32_i, w64_i, w8_i]) (fun i hi => by rw [v2 i (by omega)]; simp (disch := omega) only [not_true_eq_false, not_false_eq_true, true_and, and_true, up_r, up_k, ur_s, ur_e, ur_i, cp_k, w32_i, w64_i, w8_i]) (fun i a b => ?_)))))))
    rcases (by omega : i = x ∨ x + 1 ≤ i) with rfl | c
    · rw [v2 i (by omega)]
      simp (disch := omega) only [not_true_eq_false, not_false_eq_true, true_and, and_true, up_r, up_k, ur_s, ur_e, ur_i, cp_k, w32_i, w64_i, w8_i]
    · rw [v3 i c b]
      simp (disch := omega) only [not_true_eq_false, not_false_eq_true, true_and, and_true, up_r, up_k, ur_s, ur_e, ur_i, cp_k, w32_i, w64_i, w8_i]
/-- what goWays may touch -/
def FRW (w u : WD) : Prop := (∀ k, k ≠ 46 → k ≠ 66 → k ≠ 67 → k ≠ 68 → k ≠ 69 → u k = w k) ∧ ∀ i, i ≠ 31 → i ≠ 32 → i ≠ 33 → i ≠ 36 → i ≠ 37 → i ≠ 40 → i ≠ 41 → u 46 i = w 46 i
theorem FRW.rf {w : WD} : FRW w w := ⟨fun _ _ _ _ _ _ => rfl, fun _ _ _ _ _ _ _ _ => rfl⟩
theorem FRW.tr {w u v : WD} (h : FRW w u) (h' : FRW u v) : FRW w v := ⟨fun k a b c d e => (h'.1 k a b c d e).trans (h.1 k a b c d e), fun i a b c d e f g => (h'.2 i a b c d e f g).trans (h.2 i a b c d e f g)⟩
theorem s_meets {P M is : Int} {b : Int → Int → Int} {g : Int → Int} {done : List (List Int)} {l : List Int} {u : WD} {Q : WD → Prop} (hM : 0 ≤ M ∧ M ≤ 5) (hb : ∀ m p, 0 ≤ b m p) (h : ACC P M b g done u) (hlen : done.length < 9000000) (his : is = PRD b 0 l) (hpos : 0 < is) (h4 : u 46 4 = M)
    (hl : ∀ i, 0 ≤ i → i < M → u 66 i = nth l i ∧ 0 ≤ u 66 i ∧ u 66 i < 7) (hg : ∀ i, 0 ≤ i → i < M → u 70 i = g i)
    (hQ : ∀ v, FRW u v → v 66 = u 66 → ACC P M b g (done ++ [l]) v → Q v) : WV (fR_meets is u) Q := by
  unfold fR_meets
  refine l_meets5 hM FU 0 0 u (by decide) hM.1 (by unfold FU; omega) h4 (fun i a b => (hl i a b).2) h.2.2.2.2.2.1.1 h.2.2.2.2.2.2.1.1 h.2.2.2.2.2.2.2.1 (by decide) (fun v hv => ?_)
  rw [Int.zero_add, show (M - 0).toNat = M.toNat by omega]
  have v2 := hv.2.1
  have v1 := hv.1
  refine v_jn ?_
  have fin : ∀ y : WD, (∀ k, k ≠ 46 → y k = v k) → (∀ i, i ≠ 40 → y 46 i = v 46 i) → y 46 40 = mx (u 46 40) (RCT (u 66) (u 70) M.toNat 0) → WV (jn (β := WD → Option WD) (fun (u23 : WD) => bw (up u23 46 31 (w64 ((u23 46 31) + 1))) <| fun (u24 : WD) => bw (up u24 46 32 (w64 ((u24 46 32) + is))) <| fun (u25 : WD) => some u25) <| fun J26 => if is ≤ (y 46 33) then (J26 y) else (bw (up y 46 33 is) <| fun (u27 : WD) => fR_meets_l183 is (fun (u31 : WD) => J26 u31) FU 0 u27)) Q := by
    intro y y1 y2 y3
    have y33 : y 46 33 = u 46 33 := by rw [y2 33 (by decide), v2 33 (by decide) (by decide) (by decide)]
    refine v_jn (v_if (fun q => ?_) (fun q => v_bw ?_))
    · refine v_bw (v_bw (v_some (hQ _ ⟨fun k a b c d e => ?_, fun i a b c d e f g => ?_⟩ ?_ (ACC_step hM hb h hv hlen his hpos (fun i a b => (hl i a b).1) hg ?_ ?_ ⟨fun z => by omega, fun _ => ?_⟩ (fun i a b c d => ?_) ?_ ?_ ?_ ?_))))
      · rw [up_k a, up_k a, y1 k a, v1 k a d e]
      · rw [up_i b, up_i a, y2 i f, v2 i d e g]
      · rw [up_k (by decide), up_k (by decide), y1 66 (by decide), v1 66 (by decide) (by decide) (by decide)]
      · rw [up_k (by decide), up_k (by decide), y1 68 (by decide)]
      · rw [up_k (by decide), up_k (by decide), y1 69 (by decide)]
      · rw [up_k (by decide), up_k (by decide), y1 67 (by decide), v1 67 (by decide) (by decide) (by decide)]
      · rw [up_i d, up_i c, y2 i a]
      · rw [up_i (by decide), up_i (by decide), y3]
      · rw [up_i (by decide), up_i (by decide), y33]; unfold mx; rw [if_neg (by omega)]
      · rw [up_i (by decide), up_s, y2 31 (by decide), v2 31 (by decide) (by decide) (by decide)]
      · rw [up_s, up_i (by decide), y2 32 (by decide), v2 32 (by decide) (by decide) (by decide)]
    · have e66 : ∀ z : WD, (∀ k, k ≠ 67 → z k = up y 46 33 is k) → z 66 = u 66 := fun z hz => by rw [hz 66 (by decide), up_k (by decide), y1 66 (by decide), v1 66 (by decide) (by decide) (by decide)]
      refine l_copy67 hM FU 0 _ (by decide) hM.1 (by unfold FU; omega) (by rw [up_i (by decide), y2 4 (by decide), v2 4 (by decide) (by decide) (by decide)]; exact h4) (fun z z1 z2 z3 => v_bw (v_bw (v_some (hQ _ ⟨fun k a b c d e => ?_, fun i a b c d e f g => ?_⟩ ?_ (ACC_step hM hb h hv hlen his hpos (fun i a b => (hl i a b).1) hg ?_ ?_ ⟨fun q' i a b => ?_, fun q' => by omega⟩ (fun i a b c d => ?_) ?_ ?_ ?_ ?_)))))
      · rw [up_k a, up_k a, z1 k c, up_k a, y1 k a, v1 k a d e]
      · rw [up_i b, up_i a, z1 46 (by decide), up_i c, y2 i f, v2 i d e g]
      · rw [up_k (by decide), up_k (by decide), e66 z z1]
      · rw [up_k (by decide), up_k (by decide), z1 68 (by decide), up_k (by decide), y1 68 (by decide)]
      · rw [up_k (by decide), up_k (by decide), z1 69 (by decide), up_k (by decide), y1 69 (by decide)]
      · rw [up_k (by decide), up_k (by decide), z3 i a b, up_k (by decide), y1 66 (by decide), v1 66 (by decide) (by decide) (by decide)]
      · rw [up_i d, up_i c, z1 46 (by decide), up_i b, y2 i a]
      · rw [up_i (by decide), up_i (by decide), z1 46 (by decide), up_i (by decide), y3]
      · rw [up_i (by decide), up_i (by decide), z1 46 (by decide), up_s]; unfold mx; rw [if_pos (by omega)]
      · rw [up_i (by decide), up_s, z1 46 (by decide), up_i (by decide), y2 31 (by decide), v2 31 (by decide) (by decide) (by decide)]
      · rw [up_s, up_i (by decide), z1 46 (by decide), up_i (by decide), y2 32 (by decide), v2 32 (by decide) (by decide) (by decide)]
  have v40 : v 46 40 = u 46 40 := v2 40 (by decide) (by decide) (by decide)
  refine v_if (fun q => fin v (fun _ _ => rfl) (fun _ _ => rfl) ?_) (fun q => v_bw (fin _ (fun k a => up_k a) (fun i a => up_i a) ?_))
  · rw [v40] at q ⊢
    unfold mx
    rw [if_neg (by omega)]
  · rw [v40] at q
    rw [up_s]
    unfold mx
    rw [if_pos (by omega)]
