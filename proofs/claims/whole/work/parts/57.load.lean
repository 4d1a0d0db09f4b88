/-! what all SIGNS seen of a MASK count for one -/
def fac (w : WD) (law : Option LINES) (p s v : Int) : Int := if 0 ≤ v then CT w law p s v else 1
theorem fac_in {w : WD} {law : Option LINES} {p s v : Int} (h : HV w) (hp : (0 ≤ p ∧ p < 6) ∨ p = 6) (hs : 0 ≤ s ∧ s < 3) : 0 ≤ fac w law p s v ∧ fac w law p s v ≤ 9 := by
  unfold fac
  split
  · exact CT_in h hp hs
  · omega
def wgt (w : WD) (law : Option LINES) (g : Int → Int) (p : Int) : Int := fac w law p 0 (g 0) * fac w law p 1 (g 1) * fac w law p 2 (g 2)
theorem mul_in {a b A B : Int} (ha : 0 ≤ a ∧ a ≤ A) (hb : 0 ≤ b ∧ b ≤ B) : 0 ≤ a * b ∧ a * b ≤ A * B :=
  ⟨Int.mul_nonneg ha.1 hb.1, Int.mul_le_mul ha.2 hb.2 hb.1 (by omega)⟩
theorem wgt_in {w : WD} {law : Option LINES} {g : Int → Int} {p : Int} (h : HV w) (hp : (0 ≤ p ∧ p < 6) ∨ p = 6) : 0 ≤ wgt w law g p ∧ wgt w law g p ≤ 729 := by
  have a := fac_in (law := law) (s := 0) (v := g 0) h hp (by decide)
  have b := fac_in (law := law) (s := 1) (v := g 1) h hp (by decide)
  have c := fac_in (law := law) (s := 2) (v := g 2) h hp (by decide)
  have := mul_in (mul_in a b) c
  unfold wgt
  omega
theorem ONE_dec (w : WD) (p : Int) : ONE w p ∨ ¬ ONE w p := by unfold ONE; omega
/-- the class's tallies -/
def TL (w : WD) (law : Option LINES) (u : WD) : Prop := ∀ p s x, 0 ≤ p → p < 7 → 0 ≤ s → s < 3 → 0 ≤ x → x < 4 → (ONE w p → u 13 (12 * p + 4 * s + x) = CT w law p s x) ∧ (¬ ONE w p → u 13 (12 * p + 4 * s + x) = 0)
/-- what is seen of a MASK, as if a SIGN of it were seen as x -/
def SX (w : WD) (m s x e : Int) : Int := if e = s then x else w 2 (24 + 4 * m + e)
theorem l_weigh41 {w : WD} {law : Option LINES} {m s x p : Int} {K : Int → WD → Option WD} {P : WD → Prop} {u : WD} (hV : HV w) (h1 : u 1 = w 1) (h2 : u 2 = w 2) (hw : 0 ≤ w 1 4 ∧ w 1 4 ≤ 6 ∧ 0 ≤ w 1 5 ∧ w 1 5 ≤ 5) (hT : TL w law u) (hm : 0 ≤ m ∧ m < 5) (hx : 0 ≤ x ∧ x < 4) (hp : 0 ≤ p ∧ p < 7) (pr : Int) (hpr : (ONE w p ∧ pr = 1) ∨ (¬ ONE w p ∧ pr = 0))
    (h : ∀ r, (m < w 1 5 → (ONE w p → r = wgt w law (SX w m s x) p) ∧ (¬ ONE w p → r = 0)) → WV (K r u) P) : WV (fTh_weigh_l41 m s x p K FU pr 0 u) P := by
  have st : ∀ (f : Nat) (q e : Int), 0 ≤ e → e < 3 → (0 ≤ q ∧ q ≤ 81) → (∀ q', (0 ≤ q' ∧ q' ≤ 9 * q) → (m < w 1 5 → ONE w p → q' = q * fac w law p e (SX w m s x e)) → WV (fTh_weigh_l41 m s x p K f q' (e + 1) u) P) → WV (fTh_weigh_l41 m s x p K (f + 1) q e u) P := by
    intro f q e e0 e1 hq hn
    show WV (fTh_weigh_l41_b (fTh_weigh_l41 m s x p K f) m s x p K q e u) P
    unfold fTh_weigh_l41_b
    rw [w32_i (x := e + 1) (by omega) (by omega), w32_i (x := 4 + e) (by omega) (by omega), w32_i (x := 12 * p) (by omega) (by omega), w32_i (x := 4 * e) (by omega) (by omega), w32_i (x := 12 * p + 4 * e) (by omega) (by omega)]
    refine v_if (fun z => by exfalso; omega) (fun _ => v_jn (v_jn ?_))
    have go : ∀ v : Int, (-1 ≤ v ∧ v < 4) → (m < w 1 5 → v = SX w m s x e) → WV (if v < 0 then (bv (e + 1) fun v7 => fTh_weigh_l41 m s x p K f q v7 u) else (if 4 ≤ v then (bv (e + 1) fun v7 => fTh_weigh_l41 m s x p K f q v7 u) else (ck (0 ≤ (w32 (12 * p + 4 * e + v)) ∧ (w32 (12 * p + 4 * e + v)) < 84) <| bv (w64 (q * (u 13 (w32 (12 * p + 4 * e + v))))) <| fun (v5_12 : Int) => (bv (e + 1) fun v7 => fTh_weigh_l41 m s x p K f v5_12 v7 u)))) P := by
      intro v hv ev
      rw [w32_i (x := 12 * p + 4 * e + v) (by omega) (by omega)]
      refine v_if (fun z => v_bv (hn q (by omega) (fun z1 z2 => ?_))) (fun z => v_if (fun z => by exfalso; omega) (fun _ => v_ck (by omega) ?_))
      · rw [← ev z1]
        unfold fac
        rw [if_neg (by omega), Int.mul_one]
      · have t := hT p e v hp.1 hp.2 e0 e1 (by omega) hv.2
        have tin : 0 ≤ u 13 (12 * p + 4 * e + v) ∧ u 13 (12 * p + 4 * e + v) ≤ 9 := by
          rcases ONE_dec w p with o | o
          · rw [t.1 o]; exact CT_in hV (by unfold ONE at o; omega) ⟨e0, e1⟩
          · rw [t.2 o]; omega
        have mi := mul_in hq tin
        have mi' := mul_in (A := q) (a := q) (by omega) tin
        rw [w64_i (by omega) (by omega)]
        refine v_bv (v_bv (hn _ (by omega) (fun z1 z2 => ?_)))
        rw [← ev z1, t.1 z2]
        unfold fac
        rw [if_pos (by omega)]
    refine v_if (fun z => ?_) (fun z => go x (by omega) (fun _ => by unfold SX; rw [if_pos (by omega)]))
    refine v_ci (s_at (by rw [h1]; exact hw) (fun o => ?_) (fun o => go 0 (by omega) (fun z' => ?_)))
    · rw [h1] at o
      have om : m < w 1 5 := by unfold OKp at o; omega
      rw [h2, PL_seen ⟨e0, e1⟩]
      have hs := HV_seen hV hm (s := e) ⟨e0, e1⟩
      exact go _ (by omega) (fun _ => by unfold SX; rw [if_neg z])
    · exfalso
      rw [h1] at o
      exact o ⟨by omega, by omega, by omega, by omega, by omega, by omega, by omega⟩
  refine st 1999 pr 0 (by decide) (by decide) (by omega) (fun q1 b1 c1 => ?_)
  refine st 1998 q1 (0 + 1) (by decide) (by decide) (by omega) (fun q2 b2 c2 => ?_)
  refine st 1997 q2 (0 + 1 + 1) (by decide) (by decide) (by omega) (fun q3 b3 c3 => ?_)
  show WV (fTh_weigh_l41_b (fTh_weigh_l41 m s x p K 1996) m s x p K q3 (0 + 1 + 1 + 1) u) P
  unfold fTh_weigh_l41_b
  refine v_if (fun _ => h q3 (fun hm' => ⟨fun o => ?_, fun o => ?_⟩)) (fun z => by exfalso; omega)
  · rcases hpr with ⟨_, rfl⟩ | ⟨z, _⟩
    · rw [c3 hm' o, c2 hm' o, c1 hm' o, Int.one_mul]
      rfl
    · exact absurd o z
  · rcases hpr with ⟨z, _⟩ | ⟨_, rfl⟩
    · exact absurd z o
    · omega
/-- the weights of a MASK -/
def WT (w : WD) (law : Option LINES) (g : Int → Int) (p r : Int) : Prop := (ONE w p → r = wgt w law g p) ∧ (¬ ONE w p → r = 0)
theorem l_weigh3 {w : WD} {law : Option LINES} {m s x : Int} {P : WD → Prop} (hV : HV w) (hw : 0 ≤ w 1 4 ∧ w 1 4 ≤ 6 ∧ 0 ≤ w 1 5 ∧ w 1 5 ≤ 5) (hm : 0 ≤ m ∧ m < 5) (hx : 0 ≤ x ∧ x < 4) : ∀ (f : Nat) (p : Int) (u : WD), 0 ≤ p → p ≤ 7 → 7 - p < f → u 1 = w 1 → u 2 = w 2 → TL w law u →
    (∀ v, (∀ k, k ≠ 14 → v k = u k) → (∀ i, ¬ (7 * m + p ≤ i ∧ i < 7 * m + 7) → v 14 i = u 14 i) → (m < w 1 5 → ∀ p', p ≤ p' → p' < 7 → WT w law (SX w m s x) p' (v 14 (7 * m + p'))) → P v) → WV (fTh_weigh_l3 m s x f p u) P
  | 0, p, u, _, _, h, _, _, _, _ => by exfalso; omega
  | f + 1, p, u, h1, h2, h3, e1, e2, hT, hP => by
    show WV (fTh_weigh_l3_b (fTh_weigh_l3 m s x f) m s x p u) P
    unfold fTh_weigh_l3_b
    rw [w32_i (x := 7 * m) (by omega) (by omega), w32_i (x := 7 * m + p) (by omega) (by omega), w32_i (x := p + 1) (by omega) (by omega)]
    refine v_if (fun z => v_some (hP u (fun _ _ => rfl) (fun _ _ => rfl) (fun _ p' a b => by omega))) (fun z => v_if (fun z => by exfalso; omega) (fun _ => v_if (fun z => by exfalso; omega) (fun _ => v_ci ?_)))
    have go : ∀ pr : Int, ((ONE w p ∧ pr = 1) ∨ (¬ ONE w p ∧ pr = 0)) → WV (fTh_weigh_l41 m s x p (fun (v5_21 : Int) (u22 : WD) => ck (0 ≤ (7 * m + p) ∧ (7 * m + p) < 35) <| bw (up u22 14 (7 * m + p) v5_21) <| fun (u23 : WD) => bv (p + 1) <| fun (v4_24 : Int) => fTh_weigh_l3 m s x f v4_24 u23) FU pr 0 u) P := by
      intro pr hpr
      refine l_weigh41 (law := law) hV e1 e2 hw hT hm hx ⟨h1, by omega⟩ pr hpr (fun r hr => v_ck (by omega) (v_bw (v_bv ?_)))
      refine l_weigh3 hV hw hm hx f (p + 1) _ (by omega) (by omega) (by omega) (by simp (disch := omega) only [not_true_eq_false, not_false_eq_true, true_and, and_true, up_r, up_k, ur_s, ur_e, ur_i, cp_k, w32_i, w64_i, w8_i]; exact e1) (by simp (disch := omega) only [not_true_eq_false, not_false_eq_true, true_and, and_true, up_r, up_k, ur_s, ur_e, ur_i, cp_k, w32_i, w64_i, w8_i]; exact e2) (fun p' s' x' a b c d e g => by simp (disch := omega) only [not_true_eq_false, not_false_eq_true, true_and, and_true, up_r, up_k, ur_s, ur_e, ur_i, cp_k, w32_i, w64_i, w8_i]; exact hT p' s' x' a b c d e g) (fun v v1 v2 v3 => hP v (fun k hk => by rw [v1 k hk]; simp (disch := omega) only [not_true_eq_false, not_false_eq_true, true_and, and_true, up_r, up_k, ur_s, ur_e, ur_i, cp_k, w32_i, w64_i, w8_i]) (fun i hi => by rw [v2 i (by omega)]; simp (disch := omega) only [not_true_eq_false, not_false_eq_true, true_and, and_true, up_r, up_k, ur_s, ur_e, ur_i, cp_k, w32_i, w64_i, w8_i]) (fun hm' p' a b => ?_))
      rcases (by omega : p' = p ∨ p + 1 ≤ p') with rfl | c
      · rw [v2 _ (by omega)]
        simp (disch := omega) only [not_true_eq_false, not_false_eq_true, true_and, and_true, up_r, up_k, ur_s, ur_e, ur_i, cp_k, w32_i, w64_i, w8_i]
        exact hr hm'
      · exact v3 hm' p' c b
    refine s_isOneC (fun o => v_jn (v_if (fun q => absurd q (by decide)) (fun _ => go 1 (Or.inl ⟨by rw [e1] at o; exact o, rfl⟩)))) (fun o => v_jn (v_if (fun _ => go 0 (Or.inr ⟨by rw [e1] at o; exact o, rfl⟩)) (fun q => absurd rfl q)))
theorem s_weigh {w : WD} {law : Option LINES} {m s x : Int} {u : WD} {P : WD → Prop} (hV : HV w) (hw : 0 ≤ w 1 4 ∧ w 1 4 ≤ 6 ∧ 0 ≤ w 1 5 ∧ w 1 5 ≤ 5) (hm : 0 ≤ m ∧ m < 5) (hx : 0 ≤ x ∧ x < 4) (e : Same w u) (hT : TL w law u)
    (hP : ∀ v, (∀ k, k ≠ 14 → v k = u k) → (∀ i, ¬ (7 * m ≤ i ∧ i < 7 * m + 7) → v 14 i = u 14 i) → (m < w 1 5 → ∀ p, 0 ≤ p → p < 7 → WT w law (SX w m s x) p (v 14 (7 * m + p))) → P v) : WV (fTh_weigh m s x u) P :=
  l_weigh3 hV hw hm hx FU 0 u (by decide) (by decide) (by decide) (e.r 1 (by decide)) (e.r 2 (by decide)) hT (fun v v1 v2 v3 => hP v v1 (fun i hi => v2 i (by omega)) v3)
theorem td4 {x : Int} (h : 0 ≤ x) : Int.tdiv x 4 = x / 4 ∧ Int.tmod x 4 = x % 4 := ⟨Int.tdiv_eq_ediv_of_nonneg h, Int.tmod_eq_emod_of_nonneg h⟩
/-- one cell of the tallies -/
def TC (w : WD) (law : Option LINES) (p i r : Int) : Prop := (ONE w p → r = CT w law p (i / 4) (i % 4)) ∧ (¬ ONE w p → r = 0)
theorem l_load24 {w : WD} {law : Option LINES} {p : Int} {K : WD → Option WD} {P : WD → Prop} (hl : LW w law) (hw : 0 ≤ w 1 4 ∧ w 1 4 ≤ 6 ∧ 0 ≤ w 1 5 ∧ w 1 5 ≤ 5) (hp : 0 ≤ p ∧ p < 7) : ∀ (f : Nat) (x : Int) (u : WD), 0 ≤ x → x ≤ 12 → 12 - x < f → Same w u →
    (∀ v, Same w v → (∀ k, k ≠ 6 → k ≠ 10 → k ≠ 11 → k ≠ 13 → v k = u k) → (∀ i, ¬ (12 * p + x ≤ i ∧ i < 12 * p + 12) → v 13 i = u 13 i) → (∀ i, x ≤ i → i < 12 → TC w law p i (v 13 (12 * p + i))) → WV (K v) P) → WV (fTh_load_l24 p K f x u) P
  | 0, x, u, _, _, h, _, _ => by exfalso; omega
  | f + 1, x, u, h1, h2, h3, e, hK => by
    show WV (fTh_load_l24_b (fTh_load_l24 p K f) p K x u) P
    unfold fTh_load_l24_b
    obtain ⟨d1, d2⟩ := td4 h1
    rw [d1, d2, w32_i (x := 12 * p) (by omega) (by omega), w32_i (x := 12 * p + x) (by omega) (by omega), w32_i (x := x + 1) (by omega) (by omega), w32_i (x := x / 4) (by omega) (by omega)]
    have e1 := e.r 1 (by decide)
    refine v_if (fun z => hK u e (fun _ _ _ _ _ => rfl) (fun _ _ => rfl) (fun i a b => by omega)) (fun z => v_ci ?_)
    have go : ∀ (r : Int) (u' : WD), FRC u u' → TC w law p x r → WV (ck (0 ≤ (12 * p + x) ∧ (12 * p + x) < 84) <| bw (up u' 13 (12 * p + x) r) <| fun (u10 : WD) => bv (x + 1) <| fun (v2_11 : Int) => fTh_load_l24 p K f v2_11 u10) P := by
      intro r u' hu hr
      have es : Same w (up u' 13 (12 * p + x) r) := sm_up (e.trans hu.same) (by decide) (by decide) (by decide)
      refine v_ck (by omega) (v_bw (v_bv (l_load24 hl hw hp f (x + 1) _ (by omega) (by omega) (by omega) es (fun v v1 v2 v3 v4 => hK v v1 (fun k k1 k2 k3 k4 => ?_) (fun i hi => ?_) (fun i i0 i1 => ?_)))))
      · rw [v2 k k1 k2 k3 k4, up_k k4, hu.1 k k1 k2 k3]
      · rw [v3 i (by omega)]
        simp (disch := omega) only [not_true_eq_false, not_false_eq_true, true_and, and_true, up_r, up_k, ur_s, ur_e, ur_i, cp_k, w32_i, w64_i, w8_i]
        rw [hu.1 13 (by decide) (by decide) (by decide)]
      · rcases (by omega : i = x ∨ x + 1 ≤ i) with rfl | c
        · rw [v3 _ (by omega)]
          simp (disch := omega) only [not_true_eq_false, not_false_eq_true, true_and, and_true, up_r, up_k, ur_s, ur_e, ur_i, cp_k, w32_i, w64_i, w8_i]
          exact hr
        · exact v4 i c i1
    refine s_isOneC (fun o => v_jn (v_if (fun q => absurd q (by decide)) (fun _ => v_ci ?_))) (fun o => v_jn (v_if (fun _ => go 0 u FRC.rf ⟨fun q => absurd (by rw [e1]; exact q) o, fun _ => rfl⟩) (fun q => absurd rfl q)))
    have o' : ONE w p := by rw [e1] at o; exact o
    refine s_worthOf (law := law) (LW_same hl e) (by rw [e1]; exact hw) (by unfold ONE; rw [e1]; exact o') (by omega) (fun u' hu => go _ u' hu ⟨fun _ => CT_same e, fun q => absurd o' q⟩)
theorem l_load16 {w : WD} {law : Option LINES} {K : WD → Option WD} {P : WD → Prop} (hl : LW w law) (hw : 0 ≤ w 1 4 ∧ w 1 4 ≤ 6 ∧ 0 ≤ w 1 5 ∧ w 1 5 ≤ 5) : ∀ (f : Nat) (p : Int) (u : WD), 0 ≤ p → p ≤ 7 → 7 - p < f → Same w u →
    (∀ v, Same w v → (∀ k, k ≠ 6 → k ≠ 10 → k ≠ 11 → k ≠ 13 → v k = u k) → (∀ i, i < 12 * p → v 13 i = u 13 i) → (∀ p' i, p ≤ p' → p' < 7 → 0 ≤ i → i < 12 → TC w law p' i (v 13 (12 * p' + i))) → WV (K v) P) → WV (fTh_load_l16 K f p u) P
  | 0, p, u, _, _, h, _, _ => by exfalso; omega
  | f + 1, p, u, h1, h2, h3, e, hK => by
    show WV (fTh_load_l16_b (fTh_load_l16 K f) K p u) P
    unfold fTh_load_l16_b
    rw [w32_i (x := p + 1) (by omega) (by omega)]
    refine v_if (fun z => hK u e (fun _ _ _ _ _ => rfl) (fun _ _ => rfl) (fun p' i a b c d => by omega)) (fun z => ?_)
    refine l_load24 hl hw ⟨h1, by omega⟩ FU 0 u (by decide) (by decide) (by decide) e (fun v v1 v2 v3 v4 => v_bv (l_load16 hl hw f (p + 1) v (by omega) (by omega) (by omega) v1 (fun z z1 z2 z3 z4 => hK z z1 (fun k k1 k2 k3 k4 => ?_) (fun i hi => ?_) (fun p' i a b c d => ?_))))
    · rw [z2 k k1 k2 k3 k4, v2 k k1 k2 k3 k4]
    · rw [z3 i (by omega), v3 i (by omega)]
    · rcases (by omega : p' = p ∨ p + 1 ≤ p') with rfl | y
      · rw [z3 _ (by omega)]
        exact v4 i c d
      · exact z4 p' i y b c d
/-- what is seen of a MASK -/
def SN (w : WD) (m e : Int) : Int := w 2 (24 + 4 * m + e)
/-- the class's thought: weights, who may be behind, how many strangers -/
def TH (w : WD) (law : Option LINES) (W : Int → Int → Int) (may : Int → Int) (u : WD) : Prop := Same w u ∧ TL w law u ∧ (∀ m p, 0 ≤ m → m < w 1 5 → 0 ≤ p → p < 7 → u 14 (7 * m + p) = W m p) ∧ (∀ m, 0 ≤ m → m < w 1 5 → u 15 m = may m) ∧ u 12 8 = w 2 47
theorem l_load83 {w : WD} {law : Option LINES} {P : WD → Prop} (hV : HV w) (hw : 0 ≤ w 1 4 ∧ w 1 4 ≤ 6 ∧ 0 ≤ w 1 5 ∧ w 1 5 ≤ 5) : ∀ (f : Nat) (m : Int) (u : WD), 0 ≤ m → m ≤ 5 → 5 - m < f → Same w u → TL w law u →
    (∀ v, (∀ k, k ≠ 14 → k ≠ 15 → v k = u k) → (∀ i, i < 7 * m → v 14 i = u 14 i) → (∀ i, i < m → v 15 i = u 15 i) → (∀ m' p, m ≤ m' → m' < w 1 5 → 0 ≤ p → p < 7 → WT w law (SN w m') p (v 14 (7 * m' + p))) → (∀ m', m ≤ m' → m' < w 1 5 → v 15 m' = w 2 (27 + 4 * m')) → P v) → WV (fTh_load_l83 f m u) P
  | 0, m, u, _, _, h, _, _, _ => by exfalso; omega
  | f + 1, m, u, h1, h2, h3, e, hT, hP => by
    show WV (fTh_load_l83_b (fTh_load_l83 f) m u) P
    unfold fTh_load_l83_b
    rw [w32_i (x := m + 1) (by omega) (by omega)]
    have e1 := e.r 1 (by decide)
    have e2 := e.r 2 (by decide)
    refine v_if (fun z => v_some (hP u (fun _ _ _ => rfl) (fun _ _ => rfl) (fun _ _ => rfl) (fun m' p a b c d => by omega) (fun m' a b => by omega))) (fun z => v_ci ?_)
    have go : ∀ r : Int, (m < w 1 5 → r = w 2 (27 + 4 * m)) → WV (ck (0 ≤ m ∧ m < 5) <| bw (up u 15 m r) <| fun (u25 : WD) => cv (fTh_weigh m (-1) 0 u25) <| fun (u26 : WD) => bv (m + 1) <| fun (v1_27 : Int) => fTh_load_l83 f v1_27 u26) P := by
      intro r hr
      have es : Same w (up u 15 m r) := sm_up e (by decide) (by decide) (by decide)
      refine v_ck (by omega) (v_bw (v_cv (s_weigh (law := law) hV hw ⟨h1, by omega⟩ (by decide) es (fun p' s' x' a b c d g h => by simp (disch := omega) only [not_true_eq_false, not_false_eq_true, true_and, and_true, up_r, up_k, ur_s, ur_e, ur_i, cp_k, w32_i, w64_i, w8_i]; exact hT p' s' x' a b c d g h) (fun v v1 v2 v3 => v_bv ?_))))
      have vs : Same w v := by
        refine es.trans ⟨fun k hk => v1 k (by intro q; subst q; exact hk (by decide)), ?_, ?_, fun i hi => ?_⟩
        · rw [v1 6 (by decide)]
        · rw [v1 6 (by decide)]
        · rw [v1 46 (by decide)]
      refine l_load83 hV hw f (m + 1) v (by omega) (by omega) (by omega) vs (fun p' s' x' a b c d g h => by rw [v1 13 (by decide)]; simp (disch := omega) only [not_true_eq_false, not_false_eq_true, true_and, and_true, up_r, up_k, ur_s, ur_e, ur_i, cp_k, w32_i, w64_i, w8_i]; exact hT p' s' x' a b c d g h) (fun y y1 y2 y3 y4 y5 => hP y (fun k k1 k2 => ?_) (fun i hi => ?_) (fun i hi => ?_) (fun m' p a b c d => ?_) (fun m' a b => ?_))
      · rw [y1 k k1 k2, v1 k k1, up_k k2]
      · rw [y2 i (by omega), v2 i (by omega)]; simp (disch := omega) only [not_true_eq_false, not_false_eq_true, true_and, and_true, up_r, up_k, ur_s, ur_e, ur_i, cp_k, w32_i, w64_i, w8_i]
      · rw [y3 i (by omega), v1 15 (by decide)]; simp (disch := omega) only [not_true_eq_false, not_false_eq_true, true_and, and_true, up_r, up_k, ur_s, ur_e, ur_i, cp_k, w32_i, w64_i, w8_i]
      · rcases (by omega : m' = m ∨ m + 1 ≤ m') with rfl | q
        · rw [y2 _ (by omega)]
          have := v3 b p c d
          have es' : SX w m' (-1) 0 0 = SN w m' 0 ∧ SX w m' (-1) 0 1 = SN w m' 1 ∧ SX w m' (-1) 0 2 = SN w m' 2 := ⟨rfl, rfl, rfl⟩
          unfold WT wgt at this ⊢
          rw [es'.1, es'.2.1, es'.2.2] at this
          exact this
        · exact y4 m' p q b c d
      · rcases (by omega : m' = m ∨ m + 1 ≤ m') with rfl | q
        · rw [y3 _ (by omega), v1 15 (by decide)]
          simp (disch := omega) only [not_true_eq_false, not_false_eq_true, true_and, and_true, up_r, up_k, ur_s, ur_e, ur_i, cp_k, w32_i, w64_i, w8_i]
          exact hr b
        · exact y5 m' q b
    refine s_at (by rw [e1]; exact hw) (fun o => go _ (fun _ => ?_)) (fun o => go 0 (fun q => ?_))
    · rw [e2]
      show w 2 (PL 7 m) = _
      rw [show PL 7 m = 24 + 4 * m + 7 - 4 from rfl, show 24 + 4 * m + 7 - 4 = 27 + 4 * m by omega]
    · exfalso
      rw [e1] at o
      exact o ⟨by omega, by omega, by omega, by omega, by omega, by omega, by omega⟩
/-- the weights as the hall is now -/
def W0f (w : WD) (law : Option LINES) (m p : Int) : Int := if (0 ≤ p ∧ p < w 1 4) ∨ p = 6 then wgt w law (SN w m) p else 0
theorem WT_eq {w : WD} {law : Option LINES} {g : Int → Int} {p r : Int} (h : WT w law g p r) : r = if (0 ≤ p ∧ p < w 1 4) ∨ p = 6 then wgt w law g p else 0 := by
  by_cases o : (0 ≤ p ∧ p < w 1 4) ∨ p = 6
  · rw [if_pos o]; exact h.1 o
  · rw [if_neg o]; exact h.2 o
theorem s_load {w : WD} {law : Option LINES} {u : WD} {P : WD → Prop} (hV : HV w) (hl : LW w law) (hw : 0 ≤ w 1 4 ∧ w 1 4 ≤ 6 ∧ 0 ≤ w 1 5 ∧ w 1 5 ≤ 5) (e : Same w u)
    (hP : ∀ v, (∀ k, k ≠ 6 → k ≠ 10 → k ≠ 11 → k ≠ 12 → k ≠ 13 → k ≠ 14 → k ≠ 15 → v k = u k) → TH w law (W0f w law) (fun m => w 2 (27 + 4 * m)) v → P v) : WV (fTh_load u) P := by
  unfold fTh_load
  have e1 := e.r 1 (by decide)
  have e2 := e.r 2 (by decide)
  refine v_ci (s_at (by rw [e1]; exact hw) (fun o => v_bw ?_) (fun o => absurd (show OKp _ _ _ _ from ⟨by omega, by omega, by omega, by omega, by omega, by omega, by omega⟩) o))
  rw [show PL 9 0 = 47 from rfl, e2]
  have es : Same w (up u 12 8 (w 2 47)) := sm_up e (by decide) (by decide) (by decide)
  refine l_load16 hl hw FU 0 _ (by decide) (by decide) (by decide) es (fun v v1 v2 v3 v4 => ?_)
  have hT : TL w law v := by
    intro p s x a b c d g h
    have := v4 p (4 * s + x) a b (by omega) (by omega)
    unfold TC at this
    rw [show (4 * s + x) / 4 = s by omega, show (4 * s + x) % 4 = x by omega, show 12 * p + (4 * s + x) = 12 * p + 4 * s + x by omega] at this
    exact this
  refine l_load83 hV hw FU 0 v (by decide) (by decide) (by decide) v1 hT (fun y y1 y2 y3 y4 y5 => hP y (fun k k1 k2 k3 k4 k5 k6 k7 => ?_) ⟨?_, ?_, ?_, ?_, ?_⟩)
  · rw [y1 k k6 k7, v2 k k1 k2 k3 k5, up_k k4]
  · refine v1.trans ⟨fun k hk => y1 k (by intro q; subst q; exact hk (by decide)) (by intro q; subst q; exact hk (by decide)), ?_, ?_, fun i hi => ?_⟩
    · rw [y1 6 (by decide) (by decide)]
    · rw [y1 6 (by decide) (by decide)]
    · rw [y1 46 (by decide) (by decide)]
  · intro p s x a b c d g h
    rw [y1 13 (by decide) (by decide)]
    exact hT p s x a b c d g h
  · intro m p a b c d
    exact WT_eq (y4 m p a b c d)
  · intro m a b
    exact y5 m a b
  · rw [y1 12 (by decide) (by decide), v2 12 (by decide) (by decide) (by decide) (by decide)]
    simp (disch := omega) only [not_true_eq_false, not_false_eq_true, true_and, and_true, up_r, up_k, ur_s, ur_e, ur_i, cp_k, w32_i, w64_i, w8_i]
