/-- avoid() worked out of a table -/
def SA19 (g : Int → Int) (m n a k0 : Int) : Nat → Int → Int
  | 0, _ => 0
  | f + 1, x => if m ≤ x then k0 else if g (5 * a + x) = 0 ∧ n ≤ RS g a ∧ n ≤ RS g x then 10 * a + x else SA19 g m n a k0 f (x + 1)
def SA2 (g : Int → Int) (m n : Int) : Nat → Int → Int
  | 0, _ => 0
  | f + 1, x => if m ≤ x then -2 else SA19 g m n x (SA2 g m n f (x + 1)) FU (x + 1)
theorem l_av19 {g : Int → Int} {m n a k0 kk : Int} {K : WD → Option (Int × WD)} {K1 : Int → WD → Option (Int × WD)} {Q : Int → WD → Prop} {w : WD} (hf : FLC m kk g w) (hm : 0 ≤ m ∧ m ≤ 5) (ha : 0 ≤ a ∧ a < m)
    (hK : WI (K w) (fun r u => r = k0 ∧ u = w)) (hK1 : ∀ x, a < x → x < m → K1 x w = some (10 * a + x, w)) : ∀ (f : Nat) (x : Int), a < x → x ≤ m → m - x < f → Q (SA19 g m n a k0 f x) w → WI (fFl_avoiding_l19 n a K K1 f x w) Q
  | 0, x, _, _, h, _ => by exfalso; omega
  | f + 1, x, h1, h2, h3, hq => by
    obtain ⟨f1, f2, f3, f4⟩ := id hf
    show WI (fFl_avoiding_l19_b (fFl_avoiding_l19 n a K K1 f) n a K K1 x w) Q
    unfold fFl_avoiding_l19_b
    unfold SA19 at hq
    by_cases hx : m ≤ x
    · rw [if_pos hx] at hq
      refine i_if (fun _ => i_mono hK (fun r u ⟨e1, e2⟩ => by rw [e1, e2]; exact hq)) (fun q => by exfalso; omega)
    · rw [if_neg hx] at hq
      rw [w32_i (x := 5 * a) (by omega) (by omega), w32_i (x := 5 * a + x) (by omega) (by omega), w32_i (x := x + 1) (by omega) (by omega), f3 (5 * a + x) (by omega) (by omega), f4 a (by omega) (by omega), f4 x (by omega) (by omega)]
      have next : ¬ (g (5 * a + x) = 0 ∧ n ≤ RS g a ∧ n ≤ RS g x) → WI (bv (x + 1) fun v3 => fFl_avoiding_l19 n a K K1 f v3 w) Q := fun hc => by
        rw [if_neg hc] at hq
        exact i_bv (l_av19 hf hm ha hK hK1 f (x + 1) (by omega) (by omega) (by omega) hq)
      refine i_if (fun q => by exfalso; omega) (fun _ => i_if (fun q => by exfalso; omega) (fun _ => i_ck (by omega) (i_jn ?_)))
      refine i_if (fun q => next (fun z => q z.1)) (fun q1 => i_ck (by omega) (i_if (fun q => next (fun z => by omega)) (fun q2 => i_ck (by omega) (i_if (fun q => next (fun z => by omega)) (fun q3 => ?_)))))
      rw [if_pos (by omega)] at hq
      rw [hK1 x h1 (by omega)]
      exact i_some hq
theorem l_av2 {g : Int → Int} {m n kk : Int} {w : WD} (hf : FLC m kk g w) (hm : 0 ≤ m ∧ m ≤ 5) : ∀ (f : Nat) (x : Int), 0 ≤ x → x ≤ m → m - x < f → WI (fFl_avoiding_l2 n (fun v2 v3 u => some (w32 (w32 (10 * v2) + v3), u)) f x w) (fun r u => r = SA2 g m n f x ∧ u = w)
  | 0, x, _, _, h => by exfalso; omega
  | f + 1, x, h1, h2, h3 => by
    obtain ⟨f1, f2, f3, f4⟩ := id hf
    show WI (fFl_avoiding_l2_b (fFl_avoiding_l2 n _ f) n _ x w) _
    unfold fFl_avoiding_l2_b
    unfold SA2
    by_cases hx : m ≤ x
    · rw [if_pos hx]
      exact i_if (fun _ => i_some ⟨rfl, rfl⟩) (fun q => by exfalso; omega)
    · rw [if_neg hx]
      refine i_if (fun q => by exfalso; omega) (fun _ => i_if (fun q => by exfalso; omega) (fun _ => i_bv ?_))
      rw [w32_i (x := x + 1) (by omega) (by omega)]
      refine l_av19 hf hm ⟨h1, by omega⟩ (i_bv (l_av2 hf hm f (x + 1) (by omega) (by omega) (by omega))) (fun y y1 y2 => ?_) FU (x + 1) (by omega) (by omega) (by unfold FU; omega) ⟨rfl, rfl⟩
      show some (w32 (w32 (10 * x) + y), w) = some (10 * x + y, w)
      rw [w32_i (x := 10 * x) (by omega) (by omega), w32_i (by omega) (by omega)]
theorem l_dancesOf {g : Int → Int} {m kk a : Int} {u : WD} {Q : Int → WD → Prop} (hr : FLR kk g u) (hm : 0 ≤ m ∧ m ≤ 5) (e4 : u 46 4 = m) (hg : GOK m kk g) (hk : 0 ≤ kk ∧ kk ≤ 30) (ha : 0 ≤ a ∧ a < 5) (hq : Q (RS g a) u) : WI (fR_dancesOf a u) Q := by
  obtain ⟨r1, r2⟩ := hr
  obtain ⟨g1, g2⟩ := hg
  have y0 := g1 (5 * a) (by omega) (by omega)
  have y1 := g1 (5 * a + 1) (by omega) (by omega)
  have y2 := g1 (5 * a + 2) (by omega) (by omega)
  have y3 := g1 (5 * a + 3) (by omega) (by omega)
  have y4 := g1 (5 * a + 4) (by omega) (by omega)
  have st : ∀ (f : Nat) (s x : Int) (t y : Int), 0 ≤ x → x < 5 → 0 ≤ s → s ≤ 300 → t = s + g (5 * a + x) → y = x + 1 → (x < m → WI (fR_dancesOf_l4 a f t y u) Q) → (m ≤ x → Q s u) → WI (fR_dancesOf_l4 a (f + 1) s x u) Q := by
    intro f s x t y x0 x1 s0 s1 et ey hn hs
    show WI (fR_dancesOf_l4_b (fR_dancesOf_l4 a f) a s x u) Q
    unfold fR_dancesOf_l4_b
    have z := g1 (5 * a + x) (by omega) (by omega)
    rw [e4, w32_i (x := 5 * a) (by omega) (by omega), w32_i (x := 5 * a + x) (by omega) (by omega), r2 (5 * a + x) (by omega) (by omega), w32_i (x := x + 1) (by omega) (by omega), w32_i (by omega) (by omega)]
    refine i_if (fun q => i_some (hs q)) (fun q => i_ck (by omega) (i_bv (i_bv ?_)))
    rw [← et, ← ey]
    exact hn (by omega)
  have zz : ∀ b, m ≤ b → b < 5 → g (5 * a + b) = 0 := fun b b0 b1 => g2 a b ha.1 ha.2 b0 b1
  have zq : ∀ s, s = RS g a → Q s u := fun s e => by rw [e]; exact hq
  unfold RS at zq
  clear hq
  unfold fR_dancesOf
  have d0 := zz 0
  rw [show 5 * a + 0 = 5 * a by omega] at d0
  refine st 1999 0 0 (g (5 * a)) 1 (by decide) (by decide) (by decide) (by decide) (by rw [show 5 * a + 0 = 5 * a by omega]; omega) rfl (fun q0 => ?_) (fun q0 => zq _ (by have := zz 4; have := zz 3; have := zz 2; have := zz 1; omega))
  refine st 1998 _ 1 (g (5 * a) + g (5 * a + 1)) 2 (by decide) (by decide) (by omega) (by omega) rfl rfl (fun q1 => ?_) (fun q1 => zq _ (by have := zz 4; have := zz 3; have := zz 2; have := zz 1; omega))
  refine st 1997 _ 2 (g (5 * a) + g (5 * a + 1) + g (5 * a + 2)) 3 (by decide) (by decide) (by omega) (by omega) rfl rfl (fun q2 => ?_) (fun q2 => zq _ (by have := zz 4; have := zz 3; have := zz 2; omega))
  refine st 1996 _ 3 (g (5 * a) + g (5 * a + 1) + g (5 * a + 2) + g (5 * a + 3)) 4 (by decide) (by decide) (by omega) (by omega) rfl rfl (fun q3 => ?_) (fun q3 => zq _ (by have := zz 4; have := zz 3; omega))
  refine st 1995 _ 4 (g (5 * a) + g (5 * a + 1) + g (5 * a + 2) + g (5 * a + 3) + g (5 * a + 4)) 5 (by decide) (by decide) (by omega) (by omega) rfl rfl (fun q4 => ?_) (fun q4 => zq _ (by have := zz 4; omega))
  show WI (fR_dancesOf_l4_b (fR_dancesOf_l4 a 1994) a _ _ u) Q
  unfold fR_dancesOf_l4_b
  rw [e4]
  exact i_if (fun _ => i_some (zq _ rfl)) (fun q => by exfalso; omega)
theorem l_av53 {g : Int → Int} {m n a k0 kk : Int} {K : WD → Option (Int × WD)} {K1 : Int → WD → Option (Int × WD)} {Q : Int → WD → Prop} {w : WD} (hf : FLR kk g w) (hm : 0 ≤ m ∧ m ≤ 5) (e4 : w 46 4 = m) (hg : GOK m kk g) (hk : 0 ≤ kk ∧ kk ≤ 30) (ha : 0 ≤ a ∧ a < m)
    (hK : WI (K w) (fun r u => r = k0 ∧ u = w)) (hK1 : ∀ x, a < x → x < m → K1 x w = some (10 * a + x, w)) : ∀ (f : Nat) (x : Int), a < x → x ≤ m → m - x < f → Q (SA19 g m n a k0 f x) w → WI (fR_avoid_l53 n a K K1 f x w) Q
  | 0, x, _, _, h, _ => by exfalso; omega
  | f + 1, x, h1, h2, h3, hq => by
    obtain ⟨f1, f3⟩ := id hf
    show WI (fR_avoid_l53_b (fR_avoid_l53 n a K K1 f) n a K K1 x w) Q
    unfold fR_avoid_l53_b
    unfold SA19 at hq
    by_cases hx : m ≤ x
    · rw [if_pos hx] at hq
      refine i_if (fun _ => i_mono hK (fun r u ⟨e1, e2⟩ => by rw [e1, e2]; exact hq)) (fun q => by exfalso; omega)
    · rw [if_neg hx] at hq
      rw [w32_i (x := 5 * a) (by omega) (by omega), w32_i (x := 5 * a + x) (by omega) (by omega), w32_i (x := x + 1) (by omega) (by omega), f3 (5 * a + x) (by omega) (by omega)]
      have next : ¬ (g (5 * a + x) = 0 ∧ n ≤ RS g a ∧ n ≤ RS g x) → WI (bv (x + 1) fun v3 => fR_avoid_l53 n a K K1 f v3 w) Q := fun hc => by
        rw [if_neg hc] at hq
        exact i_bv (l_av53 hf hm e4 hg hk ha hK hK1 f (x + 1) (by omega) (by omega) (by omega) hq)
      refine i_if (fun q => by exfalso; omega) (fun _ => i_ck (by omega) (i_jn ?_))
      refine i_if (fun q => next (fun z => q z.1)) (fun q1 => i_ci (l_dancesOf hf hm e4 hg hk (by omega) (i_if (fun q => next (fun z => by omega)) (fun q2 => i_ci (l_dancesOf hf hm e4 hg hk (by omega) (i_if (fun q => next (fun z => by omega)) (fun q3 => ?_)))))))
      rw [if_pos (by omega)] at hq
      rw [hK1 x h1 (by omega)]
      exact i_some hq
theorem l_av40 {g : Int → Int} {m n kk : Int} {w : WD} (hf : FLR kk g w) (hm : 0 ≤ m ∧ m ≤ 5) (e4 : w 46 4 = m) (hg : GOK m kk g) (hk : 0 ≤ kk ∧ kk ≤ 30) : ∀ (f : Nat) (x : Int), 0 ≤ x → x ≤ m → m - x < f → WI (fR_avoid_l40 n (fun v2 v3 u => some (w32 (w32 (10 * v2) + v3), u)) f x w) (fun r u => r = SA2 g m n f x ∧ u = w)
  | 0, x, _, _, h => by exfalso; omega
  | f + 1, x, h1, h2, h3 => by
    show WI (fR_avoid_l40_b (fR_avoid_l40 n _ f) n _ x w) _
    unfold fR_avoid_l40_b
    unfold SA2
    by_cases hx : m ≤ x
    · rw [if_pos hx]
      exact i_if (fun _ => i_some ⟨rfl, rfl⟩) (fun q => by exfalso; omega)
    · rw [if_neg hx]
      refine i_if (fun q => by exfalso; omega) (fun _ => i_bv ?_)
      rw [w32_i (x := x + 1) (by omega) (by omega)]
      refine l_av53 hf hm e4 hg hk ⟨h1, by omega⟩ (i_bv (l_av40 hf hm e4 hg hk f (x + 1) (by omega) (by omega) (by omega))) (fun y y1 y2 => ?_) FU (x + 1) (by omega) (by omega) (by unfold FU; omega) ⟨rfl, rfl⟩
      show some (w32 (w32 (10 * x) + y), w) = some (10 * x + y, w)
      rw [w32_i (x := 10 * x) (by omega) (by omega), w32_i (by omega) (by omega)]
/-- favourite() worked out of a table -/
def SF (g : Int → Int) (m a : Int) : Nat → Int → Int → Int → Int
  | 0, _, _, _ => 0
  | f + 1, b, t, x => if m ≤ x then b else if t < g (5 * a + x) then SF g m a f x (g (5 * a + x)) (x + 1) else SF g m a f b t (x + 1)
theorem l_mostWith {g : Int → Int} {m kk a : Int} {w : WD} {Q : Int → WD → Prop} (hf : FLC m kk g w) (hm : 0 ≤ m ∧ m ≤ 5) (ha : 0 ≤ a ∧ a < m) : ∀ (f : Nat) (b t x : Int), 0 ≤ x → x ≤ m → m - x < f → Q (SF g m a f b t x) w → WI (fFl_mostWith_l8 a f b t x w) Q
  | 0, b, t, x, _, _, h, _ => by exfalso; omega
  | f + 1, b, t, x, h1, h2, h3, hq => by
    obtain ⟨f1, f2, f3, f4⟩ := id hf
    show WI (fFl_mostWith_l8_b (fFl_mostWith_l8 a f) a b t x w) Q
    unfold fFl_mostWith_l8_b
    unfold SF at hq
    by_cases hx : m ≤ x
    · rw [if_pos hx] at hq
      exact i_if (fun _ => i_some hq) (fun q => by exfalso; omega)
    · rw [if_neg hx] at hq
      refine i_if (fun q => by exfalso; omega) (fun _ => i_ci (s_isOnF (by omega) (fun _ => i_if (fun q => absurd q (by decide)) (fun _ => ?_)) (fun q => by exfalso; omega)))
      refine i_ci (s_isOnF (by omega) (fun _ => i_if (fun q => absurd q (by decide)) (fun _ => ?_)) (fun q => by exfalso; omega))
      rw [w32_i (x := 5 * a) (by omega) (by omega), w32_i (x := 5 * a + x) (by omega) (by omega), w32_i (x := x + 1) (by omega) (by omega), f3 (5 * a + x) (by omega) (by omega)]
      refine i_ck (by omega) (i_jn (i_if (fun q => i_bv ?_) (fun q => i_ck (by omega) (i_bv (i_bv ?_)))))
      · rw [if_neg (by omega)] at hq
        exact l_mostWith hf hm ha f b t (x + 1) (by omega) (by omega) (by omega) hq
      · rw [if_pos (by omega)] at hq
        exact l_mostWith hf hm ha f x _ (x + 1) (by omega) (by omega) (by omega) hq
theorem l_fav45 {g : Int → Int} {m kk a : Int} {w : WD} {Q : Int → WD → Prop} (hf : FLR kk g w) (hm : 0 ≤ m ∧ m ≤ 5) (e4 : w 46 4 = m) (ha : 0 ≤ a ∧ a < m) : ∀ (f : Nat) (b t x : Int), 0 ≤ x → x ≤ m → m - x < f → Q (SF g m a f b t x) w → WI (fR_favourite_l45 a f b t x w) Q
  | 0, b, t, x, _, _, h, _ => by exfalso; omega
  | f + 1, b, t, x, h1, h2, h3, hq => by
    obtain ⟨f1, f3⟩ := id hf
    show WI (fR_favourite_l45_b (fR_favourite_l45 a f) a b t x w) Q
    unfold fR_favourite_l45_b
    unfold SF at hq
    by_cases hx : m ≤ x
    · rw [if_pos hx] at hq
      exact i_if (fun _ => i_some hq) (fun q => by exfalso; omega)
    · rw [if_neg hx] at hq
      refine i_if (fun q => by exfalso; omega) (fun _ => ?_)
      rw [w32_i (x := 5 * a) (by omega) (by omega), w32_i (x := 5 * a + x) (by omega) (by omega), w32_i (x := x + 1) (by omega) (by omega), f3 (5 * a + x) (by omega) (by omega)]
      refine i_ck (by omega) (i_jn (i_if (fun q => i_ck (by omega) (i_bv (i_bv ?_))) (fun q => i_bv ?_)))
      · rw [if_pos (by omega)] at hq
        exact l_fav45 hf hm e4 ha f x _ (x + 1) (by omega) (by omega) (by omega) hq
      · rw [if_neg (by omega)] at hq
        exact l_fav45 hf hm e4 ha f b t (x + 1) (by omega) (by omega) (by omega) hq
theorem op_avoid : op2 Inv fB_avoid fR_avoid := by
  intro o n w hoI hnI hI
  obtain ⟨hH, hC, hT, hL, hN, hK, hS, hB⟩ := id hI
  obtain ⟨p0, p6, pr, m0, m5, mr, hV⟩ := id hH
  refine same_of ?_
  by_cases hon : (0 ≤ o ∧ o < 6) ∧ 1 ≤ n ∧ n ≤ 9
  · obtain ⟨ho, hn⟩ := hon
    have ref : ∀ (u : WD) (Q : Int → WD → Prop), (∀ k, k ≠ 27 → k ≠ 28 → k ≠ 29 → u k = w k) → (BF w o ≠ 0 → Q (BF w o) u) → (BF w o = 0 → (GOK (w 1 5) (TB w o).2 (TB w o).1 ∧ 0 ≤ (TB w o).2 ∧ (TB w o).2 ≤ 30) ∧ ∀ v, Inv v → Q (SA2 (TB w o).1 (w 1 5) n FU 0) v) → WI (fR_avoid o n u) Q := by
      intro u Q hu q1 q2
      have u46 := hu 46 (by decide) (by decide) (by decide)
      unfold fR_avoid
      refine i_ci (s_isShelfR (fun _ => i_if (fun q => absurd q (by decide)) (fun _ => ?_)) (fun q => absurd ho q))
      refine i_ci (s_in (fun _ => i_if (fun _ => ?_) (fun q => absurd (by decide) q)) (fun q => absurd hn q))
      refine i_ci (s_rowFault ho ?_)
      rw [floorK hu]
      refine i_if (fun q => ?_) (fun q => i_ci (s_rowFault ho (i_some (by rw [floorK hu]; exact q1 (by omega)))))
      have q0 : BF w o = 0 := by have := BF_neg (w := w) (o := o); omega
      obtain ⟨⟨g1, g2⟩, g3⟩ := q2 q0
      refine i_cv (s_layDances (w := w) hS ⟨m0, m5⟩ q0 (hu 83 (by decide) (by decide) (by decide)) (hu 84 (by decide) (by decide) (by decide)) (by rw [u46]; exact mr) (fun v v1 v2 v3 => ?_))
      refine i_mono (l_av40 v3 ⟨m0, m5⟩ (by rw [v2 4 (by decide), u46]; exact mr) g1 g2 FU 0 (by decide) (by omega) (by unfold FU; omega)) (fun r z ⟨e1, e2⟩ => ?_)
      rw [e1, e2]
      exact g3 v (Inv_floor hI hu v1 v2)
    unfold fB_avoid
    refine i_ci (s_isShelfC (fun _ => i_if (fun q => absurd q (by decide)) (fun _ => i_if (fun q => by exfalso; omega) (fun _ => i_if (fun _ => ?_) (fun q => by exfalso; omega)))) (fun q => absurd ho q))
    refine i_ci (s_readFloor hS ⟨m0, m5⟩ (fun q => i_if (fun c => absurd c q) (fun _ => i_some (ref w _ (fun _ _ _ _ => rfl) (fun _ => ⟨rfl, hI⟩) (fun c => absurd c q)))) (fun q u u1 u2 u3 u4 => ?_))
    refine i_if (fun _ => ?_) (fun c => absurd rfl c)
    unfold fFl_avoiding
    refine i_ci (i_mono (l_av2 u2 ⟨m0, m5⟩ FU 0 (by decide) (by omega) (by unfold FU; omega)) (fun r z ⟨e1, e2⟩ => i_some ?_))
    rw [e1, e2]
    exact ref u _ u1 (fun c => absurd q c) (fun _ => ⟨⟨u3, u4⟩, fun v hv => ⟨rfl, hv⟩⟩)
  · (repeat' (first | (with_reducible refine i_some ?_) | (with_reducible refine v_some ?_) | (with_reducible refine i_ci ?_) | (with_reducible refine i_cv ?_) | (with_reducible refine v_ci ?_) | (with_reducible refine v_cv ?_) | (with_reducible refine i_bv ?_) | (with_reducible refine v_bv ?_) | (with_reducible refine i_bw ?_) | (with_reducible refine v_bw ?_) | (with_reducible refine i_jn ?_) | (with_reducible refine v_jn ?_) | (with_reducible refine i_ck ?_ ?_) | (with_reducible refine v_ck ?_ ?_) | ((with_reducible refine i_if (fun hc => ?_) (fun hc => ?_)) <;> (try simp (disch := omega) only [not_true_eq_false, not_false_eq_true, true_and, and_true, up_r, up_k, ur_s, ur_e, ur_i, cp_k, w32_i, w64_i, w8_i] at hc) <;> (try (exfalso; omega))) | ((with_reducible refine v_if (fun hc => ?_) (fun hc => ?_)) <;> (try simp (disch := omega) only [not_true_eq_false, not_false_eq_true, true_and, and_true, up_r, up_k, ur_s, ur_e, ur_i, cp_k, w32_i, w64_i, w8_i] at hc) <;> (try (exfalso; omega))) | unfold fB_avoid | ((with_reducible apply s_isShelfC) <;> (try intro hvc) <;> (try simp (disch := omega) only [not_true_eq_false, not_false_eq_true, true_and, and_true, up_r, up_k, ur_s, ur_e, ur_i, cp_k, w32_i, w64_i, w8_i] at hvc) <;> (try (exfalso; omega))) | unfold fR_avoid | ((with_reducible apply s_isShelfR) <;> (try intro hvc) <;> (try simp (disch := omega) only [not_true_eq_false, not_false_eq_true, true_and, and_true, up_r, up_k, ur_s, ur_e, ur_i, cp_k, w32_i, w64_i, w8_i] at hvc) <;> (try (exfalso; omega))) | ((with_reducible apply s_in) <;> (try intro hvc) <;> (try simp (disch := omega) only [not_true_eq_false, not_false_eq_true, true_and, and_true, up_r, up_k, ur_s, ur_e, ur_i, cp_k, w32_i, w64_i, w8_i] at hvc) <;> (try (exfalso; omega)))))
    all_goals first | omega | exact ⟨by omega, hI⟩
theorem op_favourite : op2 Inv fB_favourite fR_favourite := by
  intro o a w hoI hnI hI
  obtain ⟨hH, hC, hT, hL, hN, hK, hS, hB⟩ := id hI
  obtain ⟨p0, p6, pr, m0, m5, mr, hV⟩ := id hH
  refine same_of ?_
  by_cases hon : (0 ≤ o ∧ o < 6) ∧ 0 ≤ a ∧ a < w 1 5
  · obtain ⟨ho, ha⟩ := hon
    have ref : ∀ (u : WD) (Q : Int → WD → Prop), (∀ k, k ≠ 27 → k ≠ 28 → k ≠ 29 → u k = w k) → (BF w o ≠ 0 → Q (BF w o) u) → (BF w o = 0 → ∀ v, Inv v → Q (SF (TB w o).1 (w 1 5) a FU (-2) 0 0) v) → WI (fR_favourite o a u) Q := by
      intro u Q hu q1 g3
      have u46 := hu 46 (by decide) (by decide) (by decide)
      unfold fR_favourite
      refine i_ci (s_isShelfR (fun _ => i_if (fun q => absurd q (by decide)) (fun _ => ?_)) (fun q => absurd ho q))
      refine i_ci (s_isMaskR (by rw [u46]; omega) (fun _ => i_if (fun _ => ?_) (fun q => absurd (by decide) q)) (fun q => by exfalso; rw [u46] at q; omega))
      refine i_ci (s_rowFault ho ?_)
      rw [floorK hu]
      refine i_if (fun q => ?_) (fun q => i_ci (s_rowFault ho (i_some (by rw [floorK hu]; exact q1 (by omega)))))
      have q0 : BF w o = 0 := by have := BF_neg (w := w) (o := o); omega
      refine i_cv (s_layDances (w := w) hS ⟨m0, m5⟩ q0 (hu 83 (by decide) (by decide) (by decide)) (hu 84 (by decide) (by decide) (by decide)) (by rw [u46]; exact mr) (fun v v1 v2 v3 => ?_))
      exact l_fav45 v3 ⟨m0, m5⟩ (by rw [v2 4 (by decide), u46]; exact mr) ha FU _ _ 0 (by decide) (by omega) (by unfold FU; omega) (g3 q0 v (Inv_floor hI hu v1 v2))
    unfold fB_favourite
    refine i_ci (s_isShelfC (fun _ => i_if (fun q => absurd q (by decide)) (fun _ => ?_)) (fun q => absurd ho q))
    refine i_ci (s_isMaskC (fun _ => i_if (fun _ => ?_) (fun q => absurd (by decide) q)) (fun q => absurd ha q))
    refine i_ci (s_readFloor hS ⟨m0, m5⟩ (fun q => i_if (fun c => absurd c q) (fun _ => i_some (ref w _ (fun _ _ _ _ => rfl) (fun _ => ⟨rfl, hI⟩) (fun c => absurd c q)))) (fun q u u1 u2 u3 u4 => ?_))
    refine i_if (fun _ => ?_) (fun c => absurd rfl c)
    unfold fFl_mostWith
    refine i_ci (l_mostWith u2 ⟨m0, m5⟩ ha FU _ _ 0 (by decide) (by omega) (by unfold FU; omega) (i_some ?_))
    exact ref u _ u1 (fun c => absurd q c) (fun _ v hv => ⟨rfl, hv⟩)
  · (repeat' (first | (with_reducible refine i_some ?_) | (with_reducible refine v_some ?_) | (with_reducible refine i_ci ?_) | (with_reducible refine i_cv ?_) | (with_reducible refine v_ci ?_) | (with_reducible refine v_cv ?_) | (with_reducible refine i_bv ?_) | (with_reducible refine v_bv ?_) | (with_reducible refine i_bw ?_) | (with_reducible refine v_bw ?_) | (with_reducible refine i_jn ?_) | (with_reducible refine v_jn ?_) | (with_reducible refine i_ck ?_ ?_) | (with_reducible refine v_ck ?_ ?_) | ((with_reducible refine i_if (fun hc => ?_) (fun hc => ?_)) <;> (try simp (disch := omega) only [not_true_eq_false, not_false_eq_true, true_and, and_true, up_r, up_k, ur_s, ur_e, ur_i, cp_k, w32_i, w64_i, w8_i] at hc) <;> (try (exfalso; omega))) | ((with_reducible refine v_if (fun hc => ?_) (fun hc => ?_)) <;> (try simp (disch := omega) only [not_true_eq_false, not_false_eq_true, true_and, and_true, up_r, up_k, ur_s, ur_e, ur_i, cp_k, w32_i, w64_i, w8_i] at hc) <;> (try (exfalso; omega))) | unfold fB_favourite | ((with_reducible apply s_isShelfC) <;> (try intro hvc) <;> (try simp (disch := omega) only [not_true_eq_false, not_false_eq_true, true_and, and_true, up_r, up_k, ur_s, ur_e, ur_i, cp_k, w32_i, w64_i, w8_i] at hvc) <;> (try (exfalso; omega))) | ((with_reducible apply s_isMaskC) <;> (try intro hvc) <;> (try simp (disch := omega) only [not_true_eq_false, not_false_eq_true, true_and, and_true, up_r, up_k, ur_s, ur_e, ur_i, cp_k, w32_i, w64_i, w8_i] at hvc) <;> (try (exfalso; omega))) | unfold fR_favourite | ((with_reducible apply s_isShelfR) <;> (try intro hvc) <;> (try simp (disch := omega) only [not_true_eq_false, not_false_eq_true, true_and, and_true, up_r, up_k, ur_s, ur_e, ur_i, cp_k, w32_i, w64_i, w8_i] at hvc) <;> (try (exfalso; omega))) | ((with_reducible apply s_isMaskR) <;> (try intro hvc) <;> (try simp (disch := omega) only [not_true_eq_false, not_false_eq_true, true_and, and_true, up_r, up_k, ur_s, ur_e, ur_i, cp_k, w32_i, w64_i, w8_i] at hvc) <;> (try (exfalso; omega)))))
    all_goals first | omega | exact ⟨by omega, hI⟩
