/-! CARDS -/
def P2 (n : Int) : Int := 2 ^ n.toNat
theorem P2_s {n : Int} (h : 0 ≤ n) : P2 (n + 1) = 2 * P2 n := by
  unfold P2
  rw [show (n + 1).toNat = n.toNat + 1 by omega, Int.pow_succ, Int.mul_comm]
theorem PRD_2 {v : Int → Int → Int} {g : Int → Int} : ∀ (l : List Int) (m : Int), (∀ j : Int, 0 ≤ j → j < l.length → v (m + j) (nth l j) = if g (m + j) = nth l j then 2 else 1) → PRD v m l = P2 (RCT (fun i => nth l (i - m)) g l.length m)
  | [], m, _ => rfl
  | p :: l, m, h => by
    have h0 := h 0 (by omega) (by rw [List.length_cons]; omega)
    rw [nth_0, Int.add_zero] at h0
    have hr : ∀ j : Int, 0 ≤ j → j < l.length → v (m + 1 + j) (nth l j) = if g (m + 1 + j) = nth l j then 2 else 1 := by
      intro j j0 j1
      have := h (j + 1) (by omega) (by rw [List.length_cons]; omega)
      rw [nth_s j0, show m + (j + 1) = m + 1 + j by omega] at this
      exact this
    have ih := PRD_2 l (m + 1) hr
    have e1 : RCT (fun i => nth (p :: l) (i - m)) g (p :: l).length m = (if g m = p then 1 else 0) + RCT (fun i => nth l (i - (m + 1))) g l.length (m + 1) := by
      show (if g m = nth (p :: l) (m - m) then 1 else 0) + RCT _ g l.length (m + 1) = _
      rw [Int.sub_self, nth_0, RCT_eq (h' := fun i => nth l (i - (m + 1))) (g' := g) l.length (m + 1) (fun i a b => ⟨by
        show nth (p :: l) (i - m) = nth l (i - (m + 1))
        rw [show i - m = (i - (m + 1)) + 1 by omega, nth_s (by omega)], rfl⟩)]
    have rp := (RCT_in (h := fun i => nth l (i - (m + 1))) (g := g) l.length (m + 1)).1
    show v m p * PRD v (m + 1) l = _
    rw [e1, ih, h0]
    split
    · rw [Int.add_comm 1, P2_s rp]
    · rw [Int.one_mul, Int.zero_add]
theorem P2_mx {a b : Int} (ha : 0 ≤ a) (hb : 0 ≤ b) : mx (P2 a) (P2 b) = P2 (mx a b) := by
  have mono : ∀ {x y : Int}, 0 ≤ x → x ≤ y → P2 x ≤ P2 y := by
    intro x y hx hy
    obtain ⟨k, rfl⟩ : ∃ k : Nat, y = x + k := ⟨(y - x).toNat, by omega⟩
    clear hy
    induction k with
    | zero => rw [show x + ((0 : Nat) : Int) = x by omega]; exact Int.le_refl _
    | succ k ih =>
      rw [show x + ((k + 1 : Nat) : Int) = (x + k) + 1 by omega, P2_s (by omega)]
      have : 0 ≤ P2 (x + k) := by unfold P2; exact Int.pow_nonneg (by decide)
      omega
  by_cases h : a < b
  · have := mono ha (by omega : a ≤ b)
    have e : mx a b = b := by unfold mx; rw [if_pos h]
    rw [e]
    unfold mx
    split <;> omega
  · have := mono hb (by omega : b ≤ a)
    have e : mx a b = a := by unfold mx; rw [if_neg h]
    rw [e]
    unfold mx
    split <;> omega
theorem AG_P2 {f f' : List Int → Int} (hf : ∀ l, 0 ≤ f l) : ∀ L : List (List Int), (∀ l ∈ L, f' l = P2 (f l)) → L ≠ [] → AG 1 f' L = P2 (AG 1 f L)
  | [], _, h => absurd rfl h
  | a :: L, h, _ => by
    have e : ∀ g : List Int → Int, AG 1 g (a :: L) = mx (g a) (AG 1 g L) := fun g => by
      show opg 1 (g a) (AG 1 g L) = _
      unfold opg
      rw [if_neg (by decide)]
    rw [e, e, h a List.mem_cons_self]
    by_cases hn : L = []
    · rw [hn]
      show mx (P2 (f a)) 0 = P2 (mx (f a) 0)
      have e0 : mx (f a) 0 = f a := by have := hf a; unfold mx; rw [if_neg (by omega)]
      have p0 : 0 ≤ P2 (f a) := by unfold P2; exact Int.pow_nonneg (by decide)
      have e1 : mx (P2 (f a)) 0 = P2 (f a) := by unfold mx; rw [if_neg (by omega)]
      rw [e0, e1]
    · rw [AG_P2 hf L (fun l hl => h l (List.mem_cons_of_mem a hl)) hn, P2_mx (hf a) (AG_pos hf L)]
def BCL (a0 : Int) : Int :=
  let v1 := w64 (a0 - lAnd (lUshr a0 1) 6148914691236517205)
  let v2 := w64 (lAnd v1 3689348814741910323 + lAnd (lUshr v1 2) 3689348814741910323)
  let v3 := lAnd (w64 (v2 + lUshr v2 4)) 1085102592571150095
  let v4 := w64 (v3 + lUshr v3 8)
  let v5 := w64 (v4 + lUshr v4 16)
  let v6 := w64 (v5 + lUshr v5 32)
  bAnd (w32 v6) 127
theorem bcl {n : Int} (hn : 0 ≤ n ∧ n < 6) : BCL (P2 n - 1) = n := fin1 (n := 6) (P := fun n => BCL (P2 n - 1) = n) (by decide +kernel) hn.1 hn.2
theorem P2_in {n : Int} (hn : 0 ≤ n ∧ n < 6) : 1 ≤ P2 n ∧ P2 n ≤ 32 := fin1 (n := 6) (P := fun n => 1 ≤ P2 n ∧ P2 n ≤ 32) (by decide +kernel) hn.1 hn.2
theorem e_lbit {a : Int} {u : WD} : fJL_bitCount a u = some (BCL a, u) := rfl
/-- prices, doubled where a card is right -/
def VG (v : Int → Int → Int) (g : Int → Int) (n m p : Int) : Int := if (0 ≤ m ∧ m < n) ∧ p = g m then v m p * 2 else v m p
theorem l_most7 {w : WD} {o n : Int} {v0 : Int → Int → Int} {K : WD → Option (Int × WD)} {Q : Int → WD → Prop} (hn : 0 ≤ n ∧ n ≤ 5 ∧ n ≤ w 1 5 ∧ n ≤ w (34 + 2 * o) 3) (ho : 0 ≤ o) (hz : 0 ≤ w (34 + 2 * o) 3 ∧ w (34 + 2 * o) 3 ≤ 60) (hb : ∀ k, 0 ≤ k → k < 60 → -128 ≤ w (35 + 2 * o) k ∧ w (35 + 2 * o) k ≤ 127) (hv : ∀ m p, 0 ≤ v0 m p ∧ v0 m p ≤ 1) : ∀ (f : Nat) (x : Int) (u : WD), 0 ≤ x → x ≤ n → n - x < f → u (34 + 2 * o) = w (34 + 2 * o) → u (35 + 2 * o) = w (35 + 2 * o) → (∀ m p, 0 ≤ m → m < w 1 5 → 0 ≤ p → p < 7 → u 16 (7 * m + p) = VG v0 (w (35 + 2 * o)) x m p) →
    (∀ v, (∀ k, k ≠ 16 → v k = u k) → (∀ m p, 0 ≤ m → m < w 1 5 → 0 ≤ p → p < 7 → v 16 (7 * m + p) = VG v0 (w (35 + 2 * o)) n m p) → WI (K v) Q) → WI (fTh_mostRight_l7 o n K f x u) Q
  | 0, x, u, _, _, h, _, _, _, _ => by exfalso; omega
  | f + 1, x, u, h0, h1, h2, e1, e2, h16, hK => by
    show WI (fTh_mostRight_l7_b (fTh_mostRight_l7 o n K f) o n K x u) Q
    unfold fTh_mostRight_l7_b
    rw [w32_i (x := x + 1) (by omega) (by omega), w32_i (x := 7 * x) (by omega) (by omega)]
    refine i_if (fun q => hK u (fun _ _ => rfl) (by rw [show n = x by omega]; exact h16)) (fun q => i_if (fun q => by exfalso; omega) (fun _ => i_ci (s_shat (by rw [e1]; omega) (i_jn ?_))))
    rw [e2]
    have bx := hb x h0 (by omega)
    have out : ∀ m p, 0 ≤ p → p < 7 → ¬ (m = x ∧ p = w (35 + 2 * o) x) → VG v0 (w (35 + 2 * o)) (x + 1) m p = VG v0 (w (35 + 2 * o)) x m p := by
      intro m p p0 p1 hne
      unfold VG
      by_cases c : (0 ≤ m ∧ m < x) ∧ p = w (35 + 2 * o) m
      · rw [if_pos c, if_pos ⟨by omega, c.2⟩]
      · rw [if_neg c, if_neg (fun d => ?_)]
        by_cases e : m = x
        · rw [e] at d; exact hne ⟨e, d.2⟩
        · exact c ⟨by omega, d.2⟩
    have skip : ¬ (0 ≤ w (35 + 2 * o) x ∧ w (35 + 2 * o) x < 7) → WI (bv (x + 1) fun v3 => fTh_mostRight_l7 o n K f v3 u) Q := fun hh => by
      refine i_bv (l_most7 hn ho hz hb hv f (x + 1) u (by omega) (by omega) (by omega) e1 e2 (fun m p a b c d => ?_) hK)
      rw [h16 m p a b c d, out m p c d (fun z => hh (by rw [← z.2]; exact ⟨c, d⟩))]
    refine i_if (fun c => skip (by omega)) (fun c => i_if (fun c' => skip (by omega)) (fun c' => i_bv ?_))
    rw [w32_i (x := w (35 + 2 * o) x) (by omega) (by omega), w32_i (x := 7 * x + w (35 + 2 * o) x) (by omega) (by omega)]
    have ex := h16 x (w (35 + 2 * o) x) h0 (by omega) (by omega) (by omega)
    have ev : VG v0 (w (35 + 2 * o)) x x (w (35 + 2 * o) x) = v0 x (w (35 + 2 * o) x) := by unfold VG; rw [if_neg (by omega)]
    have vv := hv x (w (35 + 2 * o) x)
    rw [ev] at ex
    rw [ex, w64_i (by omega) (by omega)]
    refine i_ck (by omega) (i_ck (by omega) (i_bw (i_bv (l_most7 hn ho hz hb hv f (x + 1) _ (by omega) (by omega) (by omega) (by rw [up_k (by omega)]; exact e1) (by rw [up_k (by omega)]; exact e2) (fun m p a b c d => ?_) (fun v v1 v2 => hK v (fun k hk => by rw [v1 k hk, up_k hk]) v2)))))
    by_cases e : m = x ∧ p = w (35 + 2 * o) x
    · rw [e.1, e.2, up_s]
      unfold VG
      rw [if_pos (by omega)]
    · rw [up_i (by omega), h16 m p a b c d, out m p c d e]
/-- the guesses, as the reference lays them -/
def GG (w : WD) (o i : Int) : Int := if i < w (34 + 2 * o) 3 then w (35 + 2 * o) i else -1
theorem s_mostRight {w u : WD} {law : Option LINES} {o : Int} {Q : Int → WD → Prop} (h : TP w law) (hT : TH w law (Wf w law (SN w)) (MAYw w) u) (ho : 0 ≤ o ∧ o < 6) (hz : 0 ≤ w (34 + 2 * o) 3 ∧ w (34 + 2 * o) 3 ≤ 60) (hb : ∀ k, 0 ≤ k → k < 60 → -128 ≤ w (35 + 2 * o) k ∧ w (35 + 2 * o) k ≤ 127) (hQ : ∀ v, Same w v → Q (AG 1 (rc (GG w o) (w 1 5)) (LL w law (SN w) (MAYw w))) v) : WI (fTh_mostRight o (mn (w (34 + 2 * o) 3) (w 1 5)) u) Q := by
  unfold fTh_mostRight
  have m0 := h.2.2.1.2.2.1
  have m5 := h.2.2.1.2.2.2
  obtain ⟨h1, h2, h3, h4, h5⟩ := id hT
  obtain ⟨k1, k2, k3⟩ := PV_ok (law := law) (sn := SN w) (may := MAYw w) h.1 h.2.2.1.2.1 0
  have hS := (HV_47 h.1).2
  have k1' : ∀ m p, 0 ≤ PVf 0 (Wf w law (SN w)) (MAYw w) m p ∧ PVf 0 (Wf w law (SN w)) (MAYw w) m p ≤ 1 := fun m p => by
    have := BY_in (law := law) (sn := SN w) (may := MAYw w) h.1 h.2.2.1.2.1 m p
    unfold PVf mn
    rw [if_pos rfl]
    split <;> omega
  generalize hn : mn (w (34 + 2 * o) 3) (w 1 5) = n
  have hn' : 0 ≤ n ∧ n ≤ 5 ∧ n ≤ w 1 5 ∧ n ≤ w (34 + 2 * o) 3 ∧ (n = w 1 5 ∨ n = w (34 + 2 * o) 3) := by rw [← hn]; unfold mn; split <;> omega
  refine i_cv (l_price2 (W := Wf w law (SN w)) (may := MAYw w) (M := w 1 5) (MOK_w h) FU 0 u (by decide) (by decide) (by decide) h3 h4 (fun v v1 v2 v3 => ?_))
  refine l_most7 (v0 := PVf 0 (Wf w law (SN w)) (MAYw w)) (n := n) ⟨hn'.1, hn'.2.1, hn'.2.2.1, hn'.2.2.2.1⟩ ho.1 hz hb k1' FU 0 v (by decide) hn'.1 (by unfold FU; omega) (by rw [v1 _ (by omega)]; exact h1.r _ (by unfold SCR; omega)) (by rw [v1 _ (by omega)]; exact h1.r _ (by unfold SCR; omega)) (fun m p a b c d => ?_) (fun y y1 y2 => i_ci ?_)
  · rw [v3 m p a (by omega) b c d]
    unfold VG
    rw [if_neg (by omega)]
  · have vgb : ∀ m p, 0 ≤ VG (PVf 0 (Wf w law (SN w)) (MAYw w)) (w (35 + 2 * o)) n m p ∧ VG (PVf 0 (Wf w law (SN w)) (MAYw w)) (w (35 + 2 * o)) n m p ≤ 729 := fun m p => by
      have := k1' m p
      unfold VG
      split <;> omega
    have vgz : ∀ m p, PVf 0 (Wf w law (SN w)) (MAYw w) m p = 0 → VG (PVf 0 (Wf w law (SN w)) (MAYw w)) (w (35 + 2 * o)) n m p = 0 := fun m p z => by
      unfold VG
      rw [z]
      split <;> rfl
    refine s_reckon (v := VG (PVf 0 (Wf w law (SN w)) (MAYw w)) (w (35 + 2 * o)) n) (S := w 2 47) (M := w 1 5) (P := w 1 4) ⟨m0, m5⟩ ⟨h.2.2.1.1, h.2.2.1.2.1⟩ (fun m p _ _ _ _ => vgb m p) (fun m p _ _ _ _ q => k2 m p (fun z => q (vgz m p z))) (by rw [y1 1 (by decide), v1 1 (by decide)]; exact congrFun (h1.r 1 (by decide)) 4) (by rw [y1 1 (by decide), v1 1 (by decide)]; exact congrFun (h1.r 1 (by decide)) 5) (by rw [y1 12 (by decide), v1 12 (by decide)]; exact h5) y2 (fun z z1 z2 => ?_)
    have e := D_all (v := VG (PVf 0 (Wf w law (SN w)) (MAYw w)) (w (35 + 2 * o)) n) (b := BY (Wf w law (SN w)) (MAYw w)) (S := w 2 47) (g := 1) (M := w 1 5) m0 hS.1 (fun m p _ _ _ _ => vgb m p) (fun m p q => vgz m p (k3 m p q)) (fun m p => (vgb m p).1)
    rw [e, e_lbit]
    have zs : Same w z := h1.trans ⟨fun k hk => by rw [z1 k (by intro e; subst e; exact hk (by decide)), y1 k (by intro e; subst e; exact hk (by decide)), v1 k (by intro e; subst e; exact hk (by decide))], by rw [z1 6 (by decide), y1 6 (by decide), v1 6 (by decide)], by rw [z1 6 (by decide), y1 6 (by decide), v1 6 (by decide)], fun i _ => by rw [z1 46 (by decide), y1 46 (by decide), v1 46 (by decide)]⟩
    refine i_ci (i_some (i_some ?_))
    have q := hQ z zs
    have key : BCL (w64 (mx 1 (AG 1 (PRD (VG (PVf 0 (Wf w law (SN w)) (MAYw w)) (w (35 + 2 * o)) n) 0) (WAYS (BY (Wf w law (SN w)) (MAYw w)) (w 2 47) (w 1 5).toNat [])) - 1)) = AG 1 (rc (GG w o) (w 1 5)) (LL w law (SN w) (MAYw w)) := by
      show BCL (w64 (mx 1 (AG 1 (PRD (VG (PVf 0 (Wf w law (SN w)) (MAYw w)) (w (35 + 2 * o)) n) 0) (LL w law (SN w) (MAYw w))) - 1)) = _
      by_cases hL : LL w law (SN w) (MAYw w) = []
      · rw [hL]
        show BCL (w64 (mx 1 0 - 1)) = 0
        decide +kernel
      · have rcp : ∀ l, 0 ≤ rc (GG w o) (w 1 5) l ∧ rc (GG w o) (w 1 5) l ≤ w 1 5 := fun l => by
          have := RCT_in (h := nth l) (g := GG w o) (w 1 5).toNat 0
          unfold rc
          omega
        rw [AG_P2 (f := rc (GG w o) (w 1 5)) (fun l => (rcp l).1) _ (fun l hl => ?_) hL]
        · have ag : 0 ≤ AG 1 (rc (GG w o) (w 1 5)) (LL w law (SN w) (MAYw w)) ∧ AG 1 (rc (GG w o) (w 1 5)) (LL w law (SN w) (MAYw w)) ≤ 5 := by
            refine ⟨AG_pos (fun l => (rcp l).1) _, ?_⟩
            by_cases hp : 0 < AG 1 (rc (GG w o) (w 1 5)) (LL w law (SN w) (MAYw w))
            · obtain ⟨l, l1, l2⟩ := AG1_att _ hp
              have := (rcp l).2
              omega
            · omega
          have pin := P2_in (n := AG 1 (rc (GG w o) (w 1 5)) (LL w law (SN w) (MAYw w))) (by omega)
          have em : mx 1 (P2 (AG 1 (rc (GG w o) (w 1 5)) (LL w law (SN w) (MAYw w)))) = P2 (AG 1 (rc (GG w o) (w 1 5)) (LL w law (SN w) (MAYw w))) := by unfold mx; split <;> omega
          rw [em, w64_i (by omega) (by omega)]
          exact bcl (by omega)
        · obtain ⟨l1, l2⟩ := LL_way m0 l hl
          rw [PRD_2 (g := GG w o) l 0 (fun j j0 j1 => ?_)]
          · unfold rc
            rw [show l.length = (w 1 5).toNat by omega]
            rw [RCT_eq (h' := nth l) (g' := GG w o) (w 1 5).toNat 0 (fun i a b => ⟨by rw [Int.sub_zero], rfl⟩)]
          · rw [Int.zero_add]
            have lj := l2 j j0 (by omega)
            have bj := BY_in (law := law) (sn := SN w) (may := MAYw w) h.1 h.2.2.1.2.1 j (nth l j)
            have p1 : PVf 0 (Wf w law (SN w)) (MAYw w) j (nth l j) = 1 := by
              unfold PVf mn
              rw [if_pos rfl]
              split <;> omega
            unfold VG GG
            rw [p1]
            by_cases c : j < w (34 + 2 * o) 3
            · rw [if_pos c]
              by_cases d : nth l j = w (35 + 2 * o) j
              · rw [if_pos ⟨by omega, d⟩, if_pos d.symm]; rfl
              · rw [if_neg (fun z => d z.2), if_neg (fun z => d z.symm)]
            · rw [if_neg c, if_neg (by omega), if_neg (by omega)]
    rw [key]
    exact q
/-- the first card that can't be right -/
def FI (B : Int → Prop) (M x r : Int) : Prop := (r = -2 ∧ ∀ i, x ≤ i → i < M → ¬ B i) ∨ (x ≤ r ∧ r < M ∧ B r ∧ ∀ i, x ≤ i → i < r → ¬ B i)
theorem FI_1 {B : Int → Prop} {M x r r' : Int} (hx : 0 ≤ x) (h : FI B M x r) (h' : FI B M x r') : r = r' := by
  rcases h with ⟨h1, h2⟩ | ⟨h1, h2, h3, h4⟩ <;> rcases h' with ⟨g1, g2⟩ | ⟨g1, g2, g3, g4⟩
  · omega
  · exact absurd g3 (h2 r' g1 g2)
  · exact absurd h3 (g2 r h1 h2)
  · rcases (by omega : r < r' ∨ r = r' ∨ r' < r) with c | c | c
    · exact absurd h3 (g4 r h1 c)
    · exact c
    · exact absurd g3 (h4 r' g1 c)
def BADC (w : WD) (law : Option LINES) (o i : Int) : Prop := GG w o i ≠ -1 ∧ ∀ l ∈ LL w law (SN w) (MAYw w), nth l i ≠ GG w o i
theorem l_cards66 {w : WD} {law : Option LINES} {o : Int} {Q : Int → WD → Prop} (h : TP w law) (ho : 0 ≤ o ∧ o < 6) (hz : 0 ≤ w (34 + 2 * o) 3 ∧ w (34 + 2 * o) 3 ≤ 60) (hb : ∀ k, 0 ≤ k → k < 60 → -128 ≤ w (35 + 2 * o) k ∧ w (35 + 2 * o) k ≤ 127) : ∀ (f : Nat) (x : Int) (u : WD), 0 ≤ x → x ≤ w 1 5 → w 1 5 - x < f → TH w law (Wf w law (SN w)) (MAYw w) u → (∀ r v, Same w v → FI (BADC w law o) (w 1 5) x r → Q r v) → WI (fB_cards_l66 o f x u) Q
  | 0, x, u, _, _, h, _, _ => by exfalso; omega
  | f + 1, x, u, h0, h1, h2, hT, hQ => by
    show WI (fB_cards_l66_b (fB_cards_l66 o f) o x u) Q
    unfold fB_cards_l66_b fB_cardsOn fSh_size fHa_masks
    have m5 := h.2.2.1.2.2.2
    rw [w32_i (x := x + 1) (by omega) (by omega)]
    have es := hT.1.r (34 + 2 * o) (by unfold SCR; omega)
    have ec := hT.1.r (35 + 2 * o) (by unfold SCR; omega)
    refine i_ci (i_ci (i_some (i_ci (i_some (i_some ?_)))))
    rw [es, hT.1.r 1 (by decide)]
    refine i_if (fun q => i_some (hQ _ u hT.1 (Or.inl ⟨rfl, fun i a b c => ?_⟩))) (fun q => ?_)
    · have : ¬ i < w (34 + 2 * o) 3 := by unfold mn at q; split at q <;> omega
      exact c.1 (by unfold GG; rw [if_neg this])
    · have q' : x < w (34 + 2 * o) 3 ∧ x < w 1 5 := by unfold mn at q; split at q <;> omega
      have eg : GG w o x = w (35 + 2 * o) x := by unfold GG; rw [if_pos q'.1]
      have bx := hb x h0 (by omega)
      have next : ∀ v, TH w law (Wf w law (SN w)) (MAYw w) v → ¬ BADC w law o x → WI (bv (x + 1) fun v5 => fB_cards_l66 o f v5 v) Q := fun v hv hn => by
        refine i_bv (l_cards66 h ho hz hb f (x + 1) v (by omega) (by omega) (by omega) hv (fun r v' v1 fi => hQ r v' v1 ?_))
        rcases fi with ⟨f1, f2⟩ | ⟨f1, f2, f3, f4⟩
        · refine Or.inl ⟨f1, fun i a b => ?_⟩
          rcases (by omega : i = x ∨ x + 1 ≤ i) with e | e
          · rw [e]; exact hn
          · exact f2 i e b
        · refine Or.inr ⟨by omega, f2, f3, fun i a b => ?_⟩
          rcases (by omega : i = x ∨ x + 1 ≤ i) with e | e
          · rw [e]; exact hn
          · exact f4 i e b
      refine i_ci (s_shat (by rw [es]; omega) (i_jn ?_))
      rw [ec]
      refine i_if (fun c => next u hT (fun z => z.1 (by rw [eg]; exact c))) (fun c => i_ci (s_shat (by rw [es]; omega) ?_))
      rw [ec]
      have cn := CNL_in (m := x) (p := w (35 + 2 * o) x) (LL w law (SN w) (MAYw w))
      have bad : ∀ v, Same w v → (∀ l ∈ LL w law (SN w) (MAYw w), nth l x ≠ w (35 + 2 * o) x) → Q x v := fun v vs hl => hQ x v vs (Or.inr ⟨Int.le_refl x, q'.2, ⟨by rw [eg]; exact c, fun l hl' => by rw [eg]; exact hl l hl'⟩, fun i a b => by omega⟩)
      unfold fTh_mayBeRight
      have outw : ¬ (0 ≤ w (35 + 2 * o) x ∧ w (35 + 2 * o) x < 7) → ∀ l ∈ LL w law (SN w) (MAYw w), nth l x ≠ w (35 + 2 * o) x := fun hh l hl e => by
        have := ((LL_way h.2.2.1.2.2.1 l hl).2 x h0 q'.2).2
        omega
      refine i_ci (i_if (fun d => i_some (i_if (fun z => absurd rfl z) (fun _ => i_some (bad u hT.1 (outw (by omega)))))) (fun d => i_if (fun d' => i_some (i_if (fun z => absurd rfl z) (fun _ => i_some (bad u hT.1 (outw (by omega)))))) (fun d' => ?_)))
      rw [w32_i (by omega) (by omega)]
      refine i_ci (s_numberIf1 h hT ⟨h0, q'.2⟩ (by omega) (fun v v1 => i_if (fun e => i_some (i_if (fun z => absurd rfl z) (fun _ => i_some (bad v (TH_t hT v1).1 ?_)))) (fun e => i_some (i_if (fun _ => next v (TH_t hT v1) ?_) (fun z => absurd (by decide) z)))))
      · have e' : AG 0 (fun l => if nth l x = w (35 + 2 * o) x then 1 else 0) (LL w law (SN w) (MAYw w)) ≤ 0 := e
        exact cn.2.2.2.mp (by omega)
      · intro z
        have e' : ¬ AG 0 (fun l => if nth l x = w (35 + 2 * o) x then 1 else 0) (LL w law (SN w) (MAYw w)) ≤ 0 := e
        have := cn.2.2.2.mpr (fun l hl => by rw [← eg]; exact z.2 l hl)
        omega
theorem l_cards34 {w : WD} {o a : Int} {K : WD → Option (Int × WD)} {Q : Int → WD → Prop} (ho : 0 ≤ o ∧ o < 6) (hb : ∀ k, 0 ≤ k → k < 60 → -128 ≤ w (35 + 2 * o) k ∧ w (35 + 2 * o) k ≤ 127) {u0 : WD} (e83 : u0 83 o = w (34 + 2 * o) 3) (e84 : ∀ k, 0 ≤ k → k < 60 → u0 84 (60 * o + k) = w (35 + 2 * o) k) : ∀ (f : Nat) (x : Int) (u : WD), 0 ≤ x → x ≤ 5 → 5 - x < f → (∀ k, k ≠ 70 → u k = u0 k) → (∀ i, 0 ≤ i → i < x → u 70 i = GG w o i) →
    (∀ v, (∀ k, k ≠ 70 → v k = u0 k) → (∀ i, 0 ≤ i → i < 5 → v 70 i = GG w o i) → WI (K v) Q) → WI (fR_cards_l34 o a K f x u) Q
  | 0, x, u, _, _, h, _, _, _ => by exfalso; omega
  | f + 1, x, u, h0, h1, h2, hk, hd, hK => by
    show WI (fR_cards_l34_b (fR_cards_l34 o a K f) o a K x u) Q
    unfold fR_cards_l34_b fR_at
    rw [w32_i (x := x + 1) (by omega) (by omega), w32_i (x := 60 * o) (by omega) (by omega), w32_i (x := 60 * o + x) (by omega) (by omega), hk 83 (by decide), e83]
    have go : x < 5 → ∀ r, r = GG w o x → WI (ck (0 ≤ x ∧ x < 5) <| bw (up u 70 x r) fun u12 => bv (x + 1) fun v3 => fR_cards_l34 o a K f v3 u12) Q := fun x5 r er => by
      subst er
      refine i_ck (by omega) (i_bw (i_bv (l_cards34 ho hb e83 e84 f (x + 1) _ (by omega) (by omega) (by omega) (fun k k1 => by rw [up_k k1]; exact hk k k1) (fun i a' b => ?_) hK)))
      by_cases e : i = x
      · rw [e, up_s]
      · rw [up_i e]; exact hd i a' (by omega)
    refine i_if (fun q => hK u hk (fun i a b => hd i a (by omega))) (fun q => i_ck ho (i_jn (i_if (fun c => go (by omega) _ ?_) (fun c => i_ci (i_ck (by omega) (i_some ?_))))))
    · unfold GG; rw [if_neg (by omega)]
    · have b := hb x h0 (by omega)
      rw [hk 84 (by decide), e84 x h0 (by omega), w32_i (by omega) (by omega)]
      exact go (by omega) _ (by unfold GG; rw [if_pos (by omega)])
theorem l_cards86 {w u : WD} {law : Option LINES} {o : Int} {Q : Int → WD → Prop} (h : TP w law) (e4 : u 46 4 = w 1 5) (hg : ∀ i, 0 ≤ i → i < w 1 5 → u 70 i = GG w o i) (h41 : (0 ≤ u 46 41 ∧ u 46 41 < 128) ∧ ∀ i, 0 ≤ i → i < 7 → (tb (u 46 41) i ↔ i < w 1 5 ∧ ∃ l ∈ LL w law (SN w) (MAYw w), nth l i = GG w o i)) : ∀ (f : Nat) (x : Int), 0 ≤ x → x ≤ w 1 5 → w 1 5 - x < f → (∀ r, FI (BADC w law o) (w 1 5) x r → Q r u) → WI (fR_cards_l86 f x u) Q
  | 0, x, _, _, h, _ => by exfalso; omega
  | f + 1, x, h0, h1, h2, hQ => by
    show WI (fR_cards_l86_b (fR_cards_l86 f) x u) Q
    unfold fR_cards_l86_b
    have m5 := h.2.2.1.2.2.2
    rw [w32_i (x := x + 1) (by omega) (by omega), e4]
    refine i_if (fun q => i_some (hQ _ (Or.inl ⟨rfl, fun i a b => by omega⟩))) (fun q => i_ck (by omega) (i_jn ?_))
    rw [hg x h0 (by omega)]
    have next : ¬ BADC w law o x → WI (bv (x + 1) fun v3 => fR_cards_l86 f v3 u) Q := fun hn => by
      refine i_bv (l_cards86 h e4 hg h41 f (x + 1) (by omega) (by omega) (by omega) (fun r fi => hQ r ?_))
      rcases fi with ⟨f1, f2⟩ | ⟨f1, f2, f3, f4⟩
      · refine Or.inl ⟨f1, fun i a b => ?_⟩
        rcases (by omega : i = x ∨ x + 1 ≤ i) with e | e
        · rw [e]; exact hn
        · exact f2 i e b
      · refine Or.inr ⟨by omega, f2, f3, fun i a b => ?_⟩
        rcases (by omega : i = x ∨ x + 1 ≤ i) with e | e
        · rw [e]; exact hn
        · exact f4 i e b
    have t41 := h41.2 x h0 (by omega)
    have t01 := tb_01 (v := u 46 41) (p := x) h41.1 (by omega)
    refine i_if (fun c => next (fun z => z.1 c)) (fun c => i_if (fun d => next (fun z => ?_)) (fun d => i_some (hQ x (Or.inr ⟨Int.le_refl x, by omega, ⟨c, fun l hl e => ?_⟩, fun i a b => by omega⟩))))
    · have tt : tb (u 46 41) x := by
        rcases t01 with y | y
        · exact absurd y d
        · exact y
      obtain ⟨_, l, hl, e⟩ := t41.mp tt
      exact z.2 l hl e
    · have tt := t41.mpr ⟨by omega, l, hl, e⟩
      unfold tb at tt
      exact d (by rw [tt]; decide)
theorem op_cards : op2 Inv fB_cards fR_cards := by
  intro o a w hoI haI hI
  obtain ⟨law, tp⟩ := TP_of hI
  have hS := hI.2.2.2.2.2.2.1
  have m0 := tp.2.2.1.2.2.1
  have m5 := tp.2.2.1.2.2.2
  refine same_of ?_
  by_cases hok : (0 ≤ o ∧ o < 6) ∧ (a = 0 ∨ a = 1)
  · obtain ⟨ho, ha⟩ := hok
    have bf := BF_neg (w := w) (o := o)
    have ref : ∀ (u : WD) (r : Int), Same w u → (BF w o ≠ 0 → r = BF w o) → (BF w o = 0 → a = 0 → r = AG 1 (rc (GG w o) (w 1 5)) (LL w law (SN w) (MAYw w))) → (BF w o = 0 → a = 1 → FI (BADC w law o) (w 1 5) 0 r) → WI (fR_cards o a u) (fun r' y => r' = r ∧ Inv y) := by
      intro u r hu q1 q2 q3
      unfold fR_cards
      refine i_ci (s_isShelfR (fun _ => i_if (fun q => absurd q (by decide)) (fun _ => i_ci (s_in (fun _ => i_if (fun _ => i_ci (s_rowFault ho ?_)) (fun q => absurd (by decide) q)) (fun q => by exfalso; omega)))) (fun q => absurd ho q))
      rw [BF_same hu]
      refine i_if (fun q => ?_) (fun q => i_ci (s_rowFault ho (i_some ⟨by rw [BF_same hu]; exact (q1 (by omega)).symm, Inv_same hI hu⟩)))
      have hq : BF w o = 0 := by omega
      obtain ⟨-, h2⟩ := BF_0 hS hq
      obtain ⟨b1, b2, b3, b4, b5, b6⟩ := bytes_of hS ho h2
      refine l_cards34 (w := w) (u0 := u) ho b5 (by rw [hu.r 83 (by decide)]; exact b4) (by rw [hu.r 84 (by decide)]; exact b6) FU 0 u (by decide) (by decide) (by decide) (fun _ _ => rfl) (fun i x y => by omega) (fun v v1 v2 => i_cv ?_)
      have vs : Same w v := hu.trans ⟨fun k hk => v1 k (by intro e; subst e; exact hk (by decide)), by rw [v1 6 (by decide)], by rw [v1 6 (by decide)], fun i _ => by rw [v1 46 (by decide)]⟩
      have hR := TR_of tp vs
      refine s_findWays (g := GG w o) tp.1 tp.2.1 ⟨m0, m5, tp.2.2.2.1⟩ ⟨tp.2.2.1.1, tp.2.2.1.2.1, tp.2.2.2.2⟩ hR (fun i x y => v2 i x (by omega)) (fun y y1 y2 _ => ?_)
      have ys := vs.trans y1.same
      have iy := Inv_same hI ys
      refine i_if (fun c => ?_) (fun c => i_some ⟨?_, iy⟩)
      · refine l_cards86 (law := law) (o := o) tp (by rw [ys.f 4 (by decide)]; exact tp.2.2.2.1) (fun i x z => by rw [y1.1 70 (by decide) (by decide)]; exact v2 i x (by omega)) y2.2.2.2.2.2.2 FU 0 (by decide) m0 (by unfold FU; omega) (fun r' fi => ⟨FI_1 (Int.le_refl 0) fi (q3 hq (by omega)), iy⟩)
      · rw [q2 hq (by omega)]; exact y2.1.2.2
    unfold fB_cards
    refine i_ci (s_isShelfC (fun _ => i_if (fun q => absurd q (by decide)) (fun _ => i_ci (s_isBit (fun _ => i_if (fun _ => i_ci (s_bytesFault hS ?_)) (fun q => absurd (by decide) q)) (fun q => absurd ha q)))) (fun q => absurd ho q))
    by_cases hq : BF w o = 0
    · obtain ⟨-, h2⟩ := BF_0 hS hq
      obtain ⟨b1, b2, b3, b4, b5, b6⟩ := bytes_of hS ho h2
      refine i_if (fun _ => i_cv (t_load tp Same.rfl' (fun v v1 v2 => i_ck ho (i_if (fun c => ?_) (fun c => ?_))))) (fun z => absurd hq z)
      · exact l_cards66 tp ho b3 b5 FU 0 v (by decide) m0 (by unfold FU; omega) v2 (fun r y y1 fi => ref y r y1 (fun z => absurd hq z) (fun _ z => absurd z c) (fun _ _ => fi))
      · unfold fB_cardsOn fSh_size fHa_masks
        refine i_ci (i_ci (i_some (i_ci (i_some (i_some (i_ci ?_))))))
        rw [v2.1.r (34 + 2 * o) (by unfold SCR; omega), v2.1.r 1 (by decide)]
        exact s_mostRight tp v2 ho b3 b5 (fun y y1 => i_some (ref y _ y1 (fun z => absurd hq z) (fun _ _ => rfl) (fun _ z => by exfalso; omega)))
    · exact i_if (fun z => absurd z hq) (fun _ => i_some (ref w _ Same.rfl' (fun _ => rfl) (fun z => absurd z hq) (fun z => absurd z hq)))
  · (repeat' (first | (with_reducible refine i_some ?_) | (with_reducible refine v_some ?_) | (with_reducible refine i_ci ?_) | (with_reducible refine i_cv ?_) | (with_reducible refine v_ci ?_) | (with_reducible refine v_cv ?_) | (with_reducible refine i_bv ?_) | (with_reducible refine v_bv ?_) | (with_reducible refine i_bw ?_) | (with_reducible refine v_bw ?_) | (with_reducible refine i_jn ?_) | (with_reducible refine v_jn ?_) | (with_reducible refine i_ck ?_ ?_) | (with_reducible refine v_ck ?_ ?_) | ((with_reducible refine i_if (fun hc => ?_) (fun hc => ?_)) <;> (try simp (disch := omega) only [not_true_eq_false, not_false_eq_true, true_and, and_true, up_r, up_k, ur_s, ur_e, ur_i, cp_k, w32_i, w64_i, w8_i] at hc) <;> (try (exfalso; omega))) | ((with_reducible refine v_if (fun hc => ?_) (fun hc => ?_)) <;> (try simp (disch := omega) only [not_true_eq_false, not_false_eq_true, true_and, and_true, up_r, up_k, ur_s, ur_e, ur_i, cp_k, w32_i, w64_i, w8_i] at hc) <;> (try (exfalso; omega))) | unfold fB_cards | ((with_reducible apply s_isShelfC) <;> (try intro hvc) <;> (try simp (disch := omega) only [not_true_eq_false, not_false_eq_true, true_and, and_true, up_r, up_k, ur_s, ur_e, ur_i, cp_k, w32_i, w64_i, w8_i] at hvc) <;> (try (exfalso; omega))) | ((with_reducible apply s_isBit) <;> (try intro hvc) <;> (try simp (disch := omega) only [not_true_eq_false, not_false_eq_true, true_and, and_true, up_r, up_k, ur_s, ur_e, ur_i, cp_k, w32_i, w64_i, w8_i] at hvc) <;> (try (exfalso; omega))) | unfold fR_cards | ((with_reducible apply s_isShelfR) <;> (try intro hvc) <;> (try simp (disch := omega) only [not_true_eq_false, not_false_eq_true, true_and, and_true, up_r, up_k, ur_s, ur_e, ur_i, cp_k, w32_i, w64_i, w8_i] at hvc) <;> (try (exfalso; omega))) | ((with_reducible apply s_in) <;> (try intro hvc) <;> (try simp (disch := omega) only [not_true_eq_false, not_false_eq_true, true_and, and_true, up_r, up_k, ur_s, ur_e, ur_i, cp_k, w32_i, w64_i, w8_i] at hvc) <;> (try (exfalso; omega)))))
    all_goals first | omega | exact ⟨rfl, hI⟩
