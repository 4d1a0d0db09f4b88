def P7n : Nat → Nat
  | 0 => 1
  | n + 1 => 7 * P7n n
theorem flat_len {G : Int → List (List Int)} {c : Nat} (h : ∀ p, (G p).length ≤ c) : ∀ (k : Nat) (p : Int), ((pfrom k p).flatMap G).length ≤ k * c
  | 0, p => by rw [Nat.zero_mul]; exact Nat.le_refl _
  | k + 1, p => by
    show ((p :: pfrom k (p + 1)).flatMap G).length ≤ _
    rw [List.flatMap_cons, List.length_append, Nat.succ_mul]
    have := flat_len h k (p + 1)
    have := h p
    omega
theorem WAYS_len {b : Int → Int → Int} {S : Int} : ∀ (n : Nat) (pre : List Int), (WAYS b S n pre).length ≤ P7n n
  | 0, pre => by unfold WAYS P7n; simp
  | n + 1, pre => by
    show ((pfrom 7 0).flatMap (GW (WAYS b S n) b S pre)).length ≤ 7 * P7n n
    refine flat_len (fun p => ?_) 7 0
    by_cases h : okw S pre p ∧ b pre.length p ≠ 0
    · rw [GW_y h]; exact WAYS_len n (p :: pre)
    · rw [GW_n h]; exact Nat.zero_le _
theorem P7n_le {n : Nat} (h : n ≤ 5) : P7n n ≤ 16807 := by
  rcases (by omega : n = 0 ∨ n = 1 ∨ n = 2 ∨ n = 3 ∨ n = 4 ∨ n = 5) with rfl | rfl | rfl | rfl | rfl | rfl <;> decide
def B7 : Nat → Int
  | 0 => 1
  | n + 1 => 729 * B7 n
theorem B7_le {n : Nat} (h : n ≤ 5) : B7 n ≤ 205891132094649 := by
  rcases (by omega : n = 0 ∨ n = 1 ∨ n = 2 ∨ n = 3 ∨ n = 4 ∨ n = 5) with rfl | rfl | rfl | rfl | rfl | rfl <;> decide
theorem nth_rev_cons {pre : List Int} {p i : Int} (h0 : 0 ≤ i) (h1 : i < pre.length) : nth (p :: pre).reverse i = nth pre.reverse i := by
  unfold nth
  rw [List.reverse_cons, List.getD_eq_getElem?_getD, List.getD_eq_getElem?_getD, List.getElem?_append_left (by rw [List.length_reverse]; omega)]
theorem nth_rev_last {pre : List Int} {p : Int} : nth (p :: pre).reverse pre.length = p := by
  unfold nth
  rw [List.reverse_cons, Int.toNat_natCast, List.getD_eq_getElem?_getD, List.getElem?_append_right (by rw [List.length_reverse]; exact Nat.le_refl _), List.length_reverse, Nat.sub_self]
  rfl
/-- the cells that goWays goes by -/
def GOS (M S : Int) (b : Int → Int → Int) (g : Int → Int) (u : WD) : Prop := u 46 4 = M ∧ u 52 0 = S ∧ (∀ m p, 0 ≤ m → m < M → 0 ≤ p → p < 7 → u 65 (7 * m + p) = b m p) ∧ ∀ i, 0 ≤ i → i < M → u 70 i = g i
theorem GOS_w {M S : Int} {b : Int → Int → Int} {g : Int → Int} {u v : WD} (h : GOS M S b g u) (e : FRW u v) : GOS M S b g v := by
  obtain ⟨h1, h2, h3, h4⟩ := h
  refine ⟨?_, ?_, fun m p a b' c d => ?_, fun i a b' => ?_⟩
  · rw [e.2 4 (by decide) (by decide) (by decide) (by decide) (by decide) (by decide) (by decide)]; exact h1
  · rw [e.1 52 (by decide) (by decide) (by decide) (by decide) (by decide)]; exact h2
  · rw [e.1 65 (by decide) (by decide) (by decide) (by decide) (by decide)]; exact h3 m p a b' c d
  · rw [e.1 70 (by decide) (by decide) (by decide) (by decide) (by decide)]; exact h4 i a b'
theorem ACC_66 {P M : Int} {b : Int → Int → Int} {g : Int → Int} {done : List (List Int)} {u v : WD} (h : ACC P M b g done u) (e : ∀ k, k ≠ 66 → v k = u k) : ACC P M b g done v := by
  unfold ACC at h ⊢
  rw [e 46 (by decide), e 67 (by decide), e 68 (by decide), e 69 (by decide)]
  exact h
theorem l_goWays {P M S : Int} {b : Int → Int → Int} {g : Int → Int} (hM : 0 ≤ M ∧ M ≤ 5) (hS : 0 ≤ S ∧ S ≤ 2) (hb : ∀ m p, 0 ≤ b m p) (hv : VB b M) : ∀ (n K : Nat) (pre : List Int) (used str is : Int) (done : List (List Int)) (u : WD) (Q : WD → Prop), n < K → (pre.length : Int) + n = M → (0 ≤ used ∧ used < 128) → (∀ p, 0 ≤ p → p < 6 → (tb used p ↔ p ∈ pre)) → str = pre.count 6 → str ≤ S →
    is = PRD b 0 pre.reverse → 0 < is → is ≤ B7 pre.length → GOS M S b g u → (∀ i : Int, 0 ≤ i → i < pre.length → u 66 i = nth pre.reverse i ∧ 0 ≤ u 66 i ∧ u 66 i < 7) → ACC P M b g done u → done.length + P7n n ≤ 8000000 →
    (∀ v, FRW u v → (∀ i : Int, i < pre.length → v 66 i = u 66 i) → ACC P M b g (done ++ WAYS b S n pre) v → Q v) → WV (FR_goWays K pre.length used str is u) Q
  | _, 0, _, _, _, _, _, _, _, h, _, _, _, _, _, _, _, _, _, _, _, _, _ => by exfalso; omega
  | 0, K + 1, pre, used, str, is, done, u, Q, _, hl, hu, ht, hs, hs', hi, hp, hB, hG, hw, hA, hlen, hQ => by
    show WV (fR_goWays_o (FR_goWays K) pre.length used str is u) Q
    unfold fR_goWays_o
    obtain ⟨g1, g2, g3, g4⟩ := id hG
    rw [g1]
    have el : (pre.length : Int) = M := by omega
    refine v_if (fun q => absurd el q) (fun _ => v_cv (s_meets (l := pre.reverse) hM hb hA (by omega) hi hp g1 (fun i a b' => hw i a (by omega)) g4 (fun v v1 v2 v3 => v_some (hQ v v1 (fun i _ => by rw [v2]) v3))))
  | n + 1, K + 1, pre, used, str, is, done, u, Q, hK, hl, hu, ht, hs, hs', hi, hp, hB, hG, hw, hA, hlen, hQ => by
    show WV (fR_goWays_o (FR_goWays K) pre.length used str is u) Q
    unfold fR_goWays_o
    have hlt : (pre.length : Int) < M := by omega
    rw [hG.1]
    refine v_if (fun _ => ?_) (fun q => absurd (by omega) q)
    have loop : ∀ (k f : Nat) (p : Int) (dn : List (List Int)) (y : WD), k + p = 7 → 0 ≤ p → 7 - p < f → FRW u y → (∀ i : Int, i < pre.length → y 66 i = u 66 i) → ACC P M b g dn y → dn.length + k * P7n n ≤ 8000000 →
        (∀ v, FRW y v → (∀ i : Int, i < pre.length → v 66 i = y 66 i) → ACC P M b g (dn ++ (pfrom k p).flatMap (GW (WAYS b S n) b S pre)) v → Q v) → WV (fR_goWays_o_l18 (FR_goWays K) pre.length used str is f p y) Q := by
      intro k
      induction k with
      | zero =>
        intro f p dn y hk h0 h1 y1 y2 y3 y4 y5
        obtain ⟨f, rfl⟩ : ∃ f', f = f' + 1 := ⟨f - 1, by omega⟩
        show WV (fR_goWays_o_l18_b (fR_goWays_o_l18 (FR_goWays K) pre.length used str is f) (FR_goWays K) pre.length used str is p y) Q
        unfold fR_goWays_o_l18_b
        refine v_if (fun _ => v_some (y5 y FRW.rf (fun _ _ => rfl) ?_)) (fun q => by exfalso; omega)
        rw [show (pfrom 0 p).flatMap (GW (WAYS b S n) b S pre) = [] from rfl, List.append_nil]
        exact y3
      | succ k ih =>
        intro f p dn y hk h0 h1 y1 y2 y3 y4 y5
        obtain ⟨f, rfl⟩ : ∃ f', f = f' + 1 := ⟨f - 1, by omega⟩
        show WV (fR_goWays_o_l18_b (fR_goWays_o_l18 (FR_goWays K) pre.length used str is f) (FR_goWays K) pre.length used str is p y) Q
        unfold fR_goWays_o_l18_b
        rw [Nat.succ_mul] at y4
        have hG' := GOS_w hG y1
        obtain ⟨g1, g2, g3, g4⟩ := id hG'
        have epf : (pfrom (k + 1) p).flatMap (GW (WAYS b S n) b S pre) = GW (WAYS b S n) b S pre p ++ (pfrom k (p + 1)).flatMap (GW (WAYS b S n) b S pre) := by
          show (p :: pfrom k (p + 1)).flatMap _ = _
          rw [List.flatMap_cons]
        rw [epf] at y5
        have bp := g3 pre.length p (by omega) hlt h0 (by omega)
        rw [w32_i (x := 7 * (pre.length : Int)) (by omega) (by omega), w32_i (x := 7 * (pre.length : Int) + p) (by omega) (by omega), w32_i (x := p + 1) (by omega) (by omega), bp]
        -- the next one
        have next : ∀ (z : WD), FRW y z → (∀ i : Int, i < pre.length → z 66 i = y 66 i) → ACC P M b g (dn ++ GW (WAYS b S n) b S pre p) z → WV (bv (p + 1) fun v6 => fR_goWays_o_l18 (FR_goWays K) pre.length used str is f v6 z) Q := by
          intro z z1 z2 z3
          have gl : (GW (WAYS b S n) b S pre p).length ≤ P7n n := by
            by_cases hh : okw S pre p ∧ b pre.length p ≠ 0
            · rw [GW_y hh]; exact WAYS_len n _
            · rw [GW_n hh]; exact Nat.zero_le _
          refine v_bv (ih f (p + 1) _ z (by omega) (by omega) (by omega) (y1.tr z1) (fun i hi' => by rw [z2 i hi', y2 i hi']) z3 (by rw [List.length_append]; omega) (fun v v1 v2 v3 => y5 v (z1.tr v1) (fun i hi' => by rw [v2 i hi', z2 i hi']) (by rw [← List.append_assoc]; exact v3)))
        have skip : ¬ (okw S pre p ∧ b pre.length p ≠ 0) → WV (bv (p + 1) fun v6 => fR_goWays_o_l18 (FR_goWays K) pre.length used str is f v6 y) Q := fun hh => next y FRW.rf (fun _ _ => rfl) (by rw [GW_n hh, List.append_nil]; exact y3)
        refine v_if (fun q => by exfalso; omega) (fun _ => v_ck (by omega) (v_jn (v_if (fun q => skip (fun z => z.2 q)) (fun hbz => v_jn ?_))))
        have vb := hv pre.length p (by omega) hlt h0 (by omega)
        have take : okw S pre p → ∀ str' : Int, str' = ((p :: pre).count 6 : Int) → str' ≤ S → WV (ck (0 ≤ (7 * (pre.length : Int) + p) ∧ (7 * (pre.length : Int) + p) < 35) <| cv (FR_goWays K (w32 ((pre.length : Int) + 1)) (bOr used (bShl 1 p)) str' (w64 (is * ((up y 66 pre.length p) 65 (7 * (pre.length : Int) + p)))) (up y 66 pre.length p)) <| fun (u9 : WD) => (bv (p + 1) fun v6 => fR_goWays_o_l18 (FR_goWays K) pre.length used str is f v6 u9)) Q := by
          intro hok str' hstr hstr'
          have hlen5 : pre.length ≤ 4 := by omega
          have b7 := B7_le (n := pre.length + 1) (by omega)
          have isb := mul_in (a := is) (A := B7 pre.length) ⟨by omega, hB⟩ vb
          have e7 : B7 (pre.length + 1) = 729 * B7 pre.length := rfl
          rw [show up y 66 pre.length p 65 = y 65 by rw [up_k (by decide)], bp, w64_i (by omega) (by omega), w32_i (x := (pre.length : Int) + 1) (by omega) (by omega)]
          have ipos : 0 < is * b pre.length p := by
            have : 1 ≤ b pre.length p := by omega
            have := Int.mul_le_mul_of_nonneg_left this (by omega : (0 : Int) ≤ is)
            omega
          have ecl : ((p :: pre).length : Int) = pre.length + 1 := by rw [List.length_cons]; omega
          have T := fun q hq => tbor (v := used) (p := q) (q := p) hu hq ⟨h0, by omega⟩
          have frw66 : FRW y (up y 66 pre.length p) := ⟨fun k' a b' c d e => up_k b', fun i a b' c d e f' g' => by rw [up_k (by decide)]⟩
          have key := l_goWays (P := P) hM hS hb hv n K (p :: pre) (bOr used (bShl 1 p)) str' (is * b pre.length p) dn (up y 66 pre.length p) (fun u9 => WV (bv (p + 1) fun v6 => fR_goWays_o_l18 (FR_goWays K) pre.length used str is f v6 u9) Q) (by omega) (by omega) (T 0 (by decide)).1 (fun q q0 q1 => ?_) hstr hstr' (by rw [PRD_snoc, hi]) ipos (by rw [List.length_cons, e7]; omega) (GOS_w hG' frw66) (fun i i0 i1 => ?_) (ACC_66 y3 (fun k' hk' => up_k hk')) (by omega) (fun v v1 v2 v3 => ?_)
          · rw [ecl] at key
            exact v_ck (by omega) (v_cv key)
          · have t := (T q ⟨q0, by omega⟩).2.1
            have t2 := ht q q0 q1
            unfold tb at t2 ⊢
            rw [t, t2, List.mem_cons]
            exact ⟨fun z => z.elim Or.inr Or.inl, fun z => z.elim Or.inr Or.inl⟩
          · by_cases hi' : i = pre.length
            · subst hi'
              rw [up_s, nth_rev_last]
              exact ⟨rfl, h0, by omega⟩
            · rw [up_i hi', nth_rev_cons i0 (by omega), y2 i (by omega)]
              exact hw i i0 (by omega)
          · refine next v (frw66.tr v1) (fun i hi' => ?_) (by rw [GW_y ⟨hok, hbz⟩]; exact v3)
            rw [v2 i (by omega), up_i (by omega)]
        by_cases h6 : p = 6
        · have i6 : WV (jn (β := WD → Option WD) (fun (u5 : WD) => ck (0 ≤ (pre.length : Int) ∧ (pre.length : Int) < 5) <| bw (up u5 66 pre.length p) <| fun (u6 : WD) => jn (β := Int → WD → Option WD) (fun (s7 : Int) (u8 : WD) => ck (0 ≤ (7 * (pre.length : Int) + p) ∧ (7 * (pre.length : Int) + p) < 35) <| cv (FR_goWays K (w32 ((pre.length : Int) + 1)) (bOr used (bShl 1 p)) s7 (w64 (is * (u8 65 (7 * (pre.length : Int) + p)))) u8) <| fun (u9 : WD) => (bv (p + 1) fun v6 => fR_goWays_o_l18 (FR_goWays K) pre.length used str is f v6 u9)) <| fun J10 => if p ≠ 6 then (J10 str u6) else (J10 (w32 (str + 1)) u6)) <| fun J12 => if p ≠ 6 then (J12 y) else (if str ≠ (y 52 0) then (J12 y) else (bv (p + 1) fun v6 => fR_goWays_o_l18 (FR_goWays K) pre.length used str is f v6 y))) Q := by
            refine v_jn (v_if (fun q => absurd h6 q) (fun _ => ?_))
            rw [g2]
            refine v_if (fun q => ?_) (fun q => skip (fun z => ?_))
            · refine v_ck (by omega) (v_bw (v_jn (v_if (fun q' => absurd h6 q') (fun _ => ?_))))
              rw [w32_i (x := str + 1) (by omega) (by omega)]
              exact take (by unfold okw; rw [if_pos h6]; omega) (str + 1) (by rw [h6, List.count_cons_self]; omega) (by omega)
            · have := z.1
              unfold okw at this
              rw [if_pos h6] at this
              omega
          exact v_if (fun _ => i6) (fun q => absurd (by omega) q)
        · have t2 := ht p h0 (by omega)
          refine v_if (fun q => absurd (by omega) h6) (fun _ => v_if (fun q => skip (fun z => ?_)) (fun q => v_jn (v_if (fun _ => v_ck (by omega) (v_bw (v_jn (v_if (fun _ => ?_) (fun q' => absurd h6 q'))))) (fun q' => absurd h6 q'))))
          · have := z.1
            unfold okw at this
            rw [if_neg h6] at this
            exact this (t2.mp q)
          · exact take (by unfold okw; rw [if_neg h6]; exact fun z => q (t2.mpr z)) str (by rw [List.count_cons_of_ne h6]; exact hs) hs'
    exact loop 7 FU 0 done u (by decide) (by decide) (by decide) FRW.rf (fun _ _ => rfl) hA hlen hQ
