/-! price, reckon: the products of all ways, by the set of those behind the masks ahead -/
def BY (W : Int → Int → Int) (may : Int → Int) (m p : Int) : Int := if bAnd (bShr (may m) p) 1 = 1 then W m p else 0
def PVf (wd : Int) (W : Int → Int → Int) (may : Int → Int) (m p : Int) : Int := if wd = 0 then mn 1 (BY W may m p) else BY W may m p
theorem l_price9 {y m : Int} {W : Int → Int → Int} {may : Int → Int} {K : WD → Option WD} {P : WD → Prop} (hm : 0 ≤ m ∧ m < 5) : ∀ (f : Nat) (p : Int) (u : WD), 0 ≤ p → p ≤ 7 → 7 - p < f →
    (∀ v, (∀ k, k ≠ 16 → v k = u k) → (∀ i, ¬ (7 * m + p ≤ i ∧ i < 7 * m + 7) → v 16 i = u 16 i) → (∀ p', p ≤ p' → p' < 7 → (∀ q, 0 ≤ q → q < 7 → u 14 (7 * m + q) = W m q) → u 15 m = may m → (0 ≤ may m ∧ may m < 128) → v 16 (7 * m + p') = PVf y W may m p') → WV (K v) P) → WV (fTh_price_l9 y m K f p u) P
  | 0, p, u, _, _, h, _ => by exfalso; omega
  | f + 1, p, u, h1, h2, h3, hK => by
    show WV (fTh_price_l9_b (fTh_price_l9 y m K f) y m K p u) P
    unfold fTh_price_l9_b
    rw [w32_i (x := 7 * m) (by omega) (by omega), w32_i (x := 7 * m + p) (by omega) (by omega), w32_i (x := p + 1) (by omega) (by omega)]
    refine v_if (fun z => hK u (fun _ _ => rfl) (fun _ _ => rfl) (fun p' a b => by omega)) (fun z => v_ci ?_)
    have go : ∀ r : Int, ((∀ q, 0 ≤ q → q < 7 → u 14 (7 * m + q) = W m q) → u 15 m = may m → (0 ≤ may m ∧ may m < 128) → r = BY W may m p) → WV (jn (β := Int → WD → Option WD) (fun (s6 : Int) (u7 : WD) => ck (0 ≤ (7 * m + p) ∧ (7 * m + p) < 35) <| bw (up u7 16 (7 * m + p) s6) <| fun (u8 : WD) => bv (p + 1) <| fun (v3_9 : Int) => fTh_price_l9 y m K f v3_9 u8) <| fun J10 => if y = 0 then (J10 (mn 1 r) u) else (J10 r u)) P := by
      intro r hr
      have fin : ∀ s : Int, (s = if y = 0 then mn 1 r else r) → WV (ck (0 ≤ (7 * m + p) ∧ (7 * m + p) < 35) <| bw (up u 16 (7 * m + p) s) <| fun (u8 : WD) => bv (p + 1) <| fun (v3_9 : Int) => fTh_price_l9 y m K f v3_9 u8) P := by
        intro s hs
        refine v_ck (by omega) (v_bw (v_bv (l_price9 (W := W) (may := may) hm f (p + 1) _ (by omega) (by omega) (by omega) (fun v v1 v2 v3 => hK v (fun k hk => by rw [v1 k hk]; simp (disch := omega) only [not_true_eq_false, not_false_eq_true, true_and, and_true, up_r, up_k, ur_s, ur_e, ur_i, cp_k, w32_i, w64_i, w8_i]) (fun i hi => by rw [v2 i (by omega)]; simp (disch := omega) only [not_true_eq_false, not_false_eq_true, true_and, and_true, up_r, up_k, ur_s, ur_e, ur_i, cp_k, w32_i, w64_i, w8_i]) (fun p' a b c d e => ?_)))))
        rcases (by omega : p' = p ∨ p + 1 ≤ p') with rfl | q
        · rw [v2 _ (by omega)]
          simp (disch := omega) only [not_true_eq_false, not_false_eq_true, true_and, and_true, up_r, up_k, ur_s, ur_e, ur_i, cp_k, w32_i, w64_i, w8_i]
          rw [hs, hr c d e]
          rfl
        · exact v3 p' q b (fun q q0 q1 => by simp (disch := omega) only [not_true_eq_false, not_false_eq_true, true_and, and_true, up_r, up_k, ur_s, ur_e, ur_i, cp_k, w32_i, w64_i, w8_i]; exact c q q0 q1) (by simp (disch := omega) only [not_true_eq_false, not_false_eq_true, true_and, and_true, up_r, up_k, ur_s, ur_e, ur_i, cp_k, w32_i, w64_i, w8_i]; exact d) e
      exact v_jn (v_if (fun q => fin _ (by rw [if_pos q])) (fun q => fin _ (by rw [if_neg q])))
    unfold fTh_mayBe
    refine i_if (fun q => by exfalso; omega) (fun _ => i_if (fun q => by exfalso; omega) (fun _ => i_ck hm (i_if (fun q => i_some (v_jn (v_if (fun _ => go 0 (fun a b c => ?_)) (fun z => absurd rfl z)))) (fun q => i_some (v_jn (v_if (fun z => absurd z (by decide)) (fun _ => v_ci ?_)))))))
    · rw [b] at q
      unfold BY
      rw [if_neg (by omega)]
    · unfold fTh_weightOf
      rw [w32_i (x := 7 * m) (by omega) (by omega), w32_i (x := 7 * m + p) (by omega) (by omega)]
      refine i_jn (i_jn (i_if (fun z => by exfalso; omega) (fun _ => i_if (fun z => by exfalso; omega) (fun _ => i_if (fun z => by exfalso; omega) (fun _ => i_if (fun z => by exfalso; omega) (fun _ => i_if (fun z => absurd z (by decide)) (fun _ => i_ck (by omega) (i_some (go _ (fun a b c => ?_)))))))))) 
      have := tb_01 (p := p) c ⟨h1, by omega⟩
      rw [b] at q
      unfold BY
      rw [if_pos (by omega), a p h1 (by omega)]
theorem l_price2 {y M : Int} {W : Int → Int → Int} {may : Int → Int} {P : WD → Prop} (hmay : ∀ m, 0 ≤ m → m < M → 0 ≤ may m ∧ may m < 128) : ∀ (f : Nat) (m : Int) (u : WD), 0 ≤ m → m ≤ 5 → 5 - m < f → (∀ m p, 0 ≤ m → m < M → 0 ≤ p → p < 7 → u 14 (7 * m + p) = W m p) → (∀ m, 0 ≤ m → m < M → u 15 m = may m) →
    (∀ v, (∀ k, k ≠ 16 → v k = u k) → (∀ i, i < 7 * m → v 16 i = u 16 i) → (∀ m' p, m ≤ m' → m' < 5 → m' < M → 0 ≤ p → p < 7 → v 16 (7 * m' + p) = PVf y W may m' p) → P v) → WV (fTh_price_l2 y f m u) P
  | 0, m, u, _, _, h, _, _, _ => by exfalso; omega
  | f + 1, m, u, h1, h2, h3, hW, hM, hP => by
    show WV (fTh_price_l2_b (fTh_price_l2 y f) y m u) P
    unfold fTh_price_l2_b
    rw [w32_i (x := m + 1) (by omega) (by omega)]
    refine v_if (fun z => v_some (hP u (fun _ _ => rfl) (fun _ _ => rfl) (fun m' p a b => by omega))) (fun z => ?_)
    refine l_price9 (W := W) (may := may) ⟨h1, by omega⟩ FU 0 u (by decide) (by decide) (by decide) (fun v v1 v2 v3 => v_bv (l_price2 hmay f (m + 1) v (by omega) (by omega) (by omega) (by rw [v1 14 (by decide)]; exact hW) (by rw [v1 15 (by decide)]; exact hM) (fun x x1 x2 x3 => hP x (fun k hk => by rw [x1 k hk, v1 k hk]) (fun i hi => by rw [x2 i (by omega), v2 i (by omega)]) (fun m' p a b c d e => ?_))))
    rcases (by omega : m' = m ∨ m + 1 ≤ m') with rfl | q
    · rw [x2 _ (by omega)]
      exact v3 p d e (fun q q0 q1 => hW m' q h1 c q0 q1) (hM m' h1 c) (hmay m' h1 c)
    · exact x3 m' p q b c d e
def usd (used p : Int) : Int := if p = 6 then used else bOr used (bShl 1 p)
def WO (v : Int → Int → Int) (m used p rest : Int) : Int := if v m p = 0 then 0 else if p ≠ 6 ∧ bAnd used (bShl 1 p) ≠ 0 then 0 else v m p * rest
def AGG (g : Int) (F : Int → Int) : Nat → Int → Int → Int
  | 0, _, acc => acc
  | k + 1, p, acc => AGG g F k (p + 1) (if g = 0 then acc + F p else mx acc (F p))
def D (v : Int → Int → Int) (S g : Int) : Nat → Int → Int → Int
  | 0, m, used => if m - BC used < 0 ∨ S < m - BC used then 0 else 1
  | n + 1, m, used => if m - BC used < 0 ∨ S < m - BC used then 0 else AGG g (fun p => WO v m used p (D v S g n (m + 1) (usd used p))) 7 0 0
def BN : Nat → Int
  | 0 => 1
  | n + 1 => 5103 * BN n
theorem AGG_in {g B : Int} {F : Int → Int} : ∀ (k : Nat) (p acc : Int), (∀ q, p ≤ q → q < p + k → 0 ≤ F q ∧ F q ≤ B) → 0 ≤ acc → 0 ≤ AGG g F k p acc ∧ AGG g F k p acc ≤ acc + k * B
  | 0, p, acc, _, h => by
    show 0 ≤ acc ∧ acc ≤ acc + ((0 : Nat) : Int) * B
    have e : ((0 : Nat) : Int) * B = 0 := by rw [show ((0 : Nat) : Int) = 0 from rfl, Int.zero_mul]
    rw [e]
    omega
  | k + 1, p, acc, hF, h => by
    have f0 := hF p (by omega) (by omega)
    have e : ((k + 1 : Nat) : Int) * B = k * B + B := by rw [show ((k + 1 : Nat) : Int) = (k : Int) + 1 by omega, Int.add_mul, Int.one_mul]
    have ac : 0 ≤ (if g = 0 then acc + F p else mx acc (F p)) ∧ (if g = 0 then acc + F p else mx acc (F p)) ≤ acc + B := by
      split
      · omega
      · unfold mx; split <;> omega
    have := AGG_in (g := g) (B := B) (F := F) k (p + 1) _ (fun q a b => hF q (by omega) (by omega)) ac.1
    rw [e]
    show 0 ≤ AGG g F k (p + 1) _ ∧ AGG g F k (p + 1) _ ≤ _
    omega
/-- weights in bounds -/
def VB (v : Int → Int → Int) (M : Int) : Prop := ∀ m p, 0 ≤ m → m < M → 0 ≤ p → p < 7 → 0 ≤ v m p ∧ v m p ≤ 729
theorem BN_pos : ∀ n : Nat, 1 ≤ BN n
  | 0 => Int.le_refl 1
  | n + 1 => by show 1 ≤ 5103 * BN n; have := BN_pos n; omega
theorem D_in {v : Int → Int → Int} {S g M : Int} (hv : VB v M) : ∀ (n : Nat) (m used : Int), 0 ≤ m → m + n ≤ M → 0 ≤ D v S g n m used ∧ D v S g n m used ≤ BN n
  | 0, m, used, _, _ => by
    unfold D BN
    split <;> omega
  | n + 1, m, used, h0, h1 => by
    have ih := fun used' => D_in (S := S) (g := g) hv n (m + 1) used' (by omega) (by omega)
    have bp := BN_pos n
    unfold D
    split
    · show 0 ≤ (0 : Int) ∧ 0 ≤ 5103 * BN n
      omega
    · have := AGG_in (g := g) (B := 729 * BN n) (F := fun p => WO v m used p (D v S g n (m + 1) (usd used p))) 7 0 0 (fun q a b => ?_) (Int.le_refl 0)
      · show _ ∧ _ ≤ 5103 * BN n
        omega
      · have i := ih (usd used q)
        have vq := hv m q h0 (by omega) a (by omega)
        show 0 ≤ WO v m used q (D v S g n (m + 1) (usd used q)) ∧ WO v m used q (D v S g n (m + 1) (usd used q)) ≤ 729 * BN n
        unfold WO
        split
        · omega
        · split
          · omega
          · exact mul_in vq i
theorem BN_5 {n : Nat} (h : n ≤ 5) : BN n ≤ 3460412257114765743 := by
  rcases (by omega : n = 0 ∨ n = 1 ∨ n = 2 ∨ n = 3 ∨ n = 4 ∨ n = 5) with rfl | rfl | rfl | rfl | rfl | rfl <;> decide
theorem or_lt {used p P : Int} (hP : 0 ≤ P ∧ P ≤ 6) (hu : 0 ≤ used ∧ used < bShl 1 P) (hp : 0 ≤ p ∧ p < P) : 0 ≤ bOr used (bShl 1 p) ∧ bOr used (bShl 1 p) < bShl 1 P := by
  have h64 : bShl 1 P ≤ 64 := fin1 (n := 7) (P := fun P => bShl 1 P ≤ 64) (by decide +kernel) hP.1 (by omega)
  obtain ⟨i, rfl⟩ : ∃ i : Fin 64, used = (i.val : Int) := ⟨⟨used.toNat, by omega⟩, (Int.toNat_of_nonneg hu.1).symm⟩
  obtain ⟨j, rfl⟩ : ∃ j : Fin 6, p = (j.val : Int) := ⟨⟨p.toNat, by omega⟩, (Int.toNat_of_nonneg hp.1).symm⟩
  obtain ⟨k, rfl⟩ : ∃ k : Fin 7, P = (k.val : Int) := ⟨⟨P.toNat, by omega⟩, (Int.toNat_of_nonneg hP.1).symm⟩
  exact (by decide +kernel : ∀ (i : Fin 64) (j : Fin 6) (k : Fin 7), (i.val : Int) < bShl 1 (k.val : Int) → (j.val : Int) < (k.val : Int) → 0 ≤ bOr (i.val : Int) (bShl 1 (j.val : Int)) ∧ bOr (i.val : Int) (bShl 1 (j.val : Int)) < bShl 1 (k.val : Int)) i j k hu.2 hp.2
theorem shl_64 {P : Int} (hP : 0 ≤ P ∧ P ≤ 6) : 1 ≤ bShl 1 P ∧ bShl 1 P ≤ 64 := fin1 (n := 7) (P := fun P => 1 ≤ bShl 1 P ∧ bShl 1 P ≤ 64) (by decide +kernel) hP.1 (by omega)
/-- those who count are there -/
def VP (v : Int → Int → Int) (M P : Int) : Prop := ∀ m p, 0 ≤ m → m < M → 0 ≤ p → p < 7 → v m p ≠ 0 → p < P ∨ p = 6
theorem s_withOne {v : Int → Int → Int} {m M P used p : Int} {F : Int → Int} {u : WD} {Q : Int → WD → Prop} (hm : 0 ≤ m ∧ m < M) (hM : M ≤ 5) (hP : 0 ≤ P ∧ P ≤ 6) (hu : 0 ≤ used ∧ used < bShl 1 P) (hp : 0 ≤ p ∧ p < 7) (hv : VB v M) (hvp : VP v M P) (h16 : u 16 (7 * m + p) = v m p)
    (h17 : ∀ q, 0 ≤ q → q < bShl 1 P → u 17 (64 * (m + 1) + q) = F q ∧ 0 ≤ F q ∧ F q ≤ 678113317090881) (h : Q (WO v m used p (F (usd used p))) u) : WI (fTh_withOne m used p u) Q := by
  have h64 := shl_64 hP
  unfold fTh_withOne
  unfold WO at h
  rw [w32_i (x := 7 * m) (by omega) (by omega), w32_i (x := 7 * m + p) (by omega) (by omega), w32_i (x := m + 1) (by omega) (by omega), w32_i (x := 64 * (m + 1)) (by omega) (by omega), h16]
  have vb := hv m p hm.1 hm.2 hp.1 hp.2
  refine i_if (fun z => by exfalso; omega) (fun _ => i_if (fun z => by exfalso; omega) (fun _ => i_if (fun z => by exfalso; omega) (fun _ => i_if (fun _ => i_ck (by omega) (i_bv (i_jn ?_))) (fun z => by exfalso; omega))))
  dsimp only
  have e0 : bAnd used 0 = 0 := by
    obtain ⟨i, rfl⟩ : ∃ i : Fin 64, used = (i.val : Int) := ⟨⟨used.toNat, by omega⟩, (Int.toNat_of_nonneg hu.1).symm⟩
    exact (by decide +kernel : ∀ (i : Fin 64), bAnd (i.val : Int) 0 = 0) i
  have o0 : bOr used 0 = used := by
    obtain ⟨i, rfl⟩ : ∃ i : Fin 64, used = (i.val : Int) := ⟨⟨used.toNat, by omega⟩, (Int.toNat_of_nonneg hu.1).symm⟩
    exact (by decide +kernel : ∀ (i : Fin 64), bOr (i.val : Int) 0 = (i.val : Int)) i
  by_cases hz : v m p = 0
  · rw [if_pos hz] at h
    exact i_if (fun _ => i_if (fun _ => i_some h) (fun q => absurd hz q)) (fun _ => i_if (fun _ => i_some h) (fun q => absurd hz q))
  · rw [if_neg hz] at h
    refine i_if (fun c => ?_) (fun c => ?_)
    · have hpP : p < P := by have := hvp m p hm.1 hm.2 hp.1 hp.2 hz; omega
      have ol := or_lt hP hu ⟨hp.1, hpP⟩
      have eu : usd used p = bOr used (bShl 1 p) := by unfold usd; rw [if_neg c]
      by_cases hb : bAnd used (bShl 1 p) ≠ 0
      · rw [if_pos ⟨c, hb⟩] at h
        exact i_if (fun q => absurd q hz) (fun _ => i_if (fun _ => i_some h) (fun q => absurd hb q))
      · rw [if_neg (fun z => hb z.2), eu] at h
        obtain ⟨f1, f2, f3⟩ := h17 (bOr used (bShl 1 p)) ol.1 ol.2
        have mi := mul_in vb ⟨f2, f3⟩
        rw [w32_i (x := 64 * (m + 1) + bOr used (bShl 1 p)) (by omega) (by omega)]
        refine i_if (fun q => absurd q hz) (fun _ => i_if (fun q => absurd q hb) (fun _ => i_if (fun q => by exfalso; omega) (fun _ => i_if (fun _ => i_ck (by omega) (i_some ?_)) (fun q => by exfalso; omega))))
        rw [f1, w64_i (by omega) (by omega)]
        exact h
    · have c6 : p = 6 := by omega
      rw [if_neg (fun z => z.1 c6)] at h
      have eu : usd used p = used := by unfold usd; rw [if_pos c6]
      rw [eu] at h
      obtain ⟨f1, f2, f3⟩ := h17 used hu.1 hu.2
      have mi := mul_in vb ⟨f2, f3⟩
      rw [e0, o0, w32_i (x := 64 * (m + 1) + used) (by omega) (by omega)]
      refine i_if (fun q => absurd q hz) (fun _ => i_if (fun q => absurd rfl q) (fun _ => i_if (fun q => by exfalso; omega) (fun _ => i_if (fun _ => i_ck (by omega) (i_some ?_)) (fun q => by exfalso; omega))))
      rw [f1, w64_i (by omega) (by omega)]
      exact h
theorem l_rest37 {v : Int → Int → Int} {g m M P used : Int} {F : Int → Int} {u : WD} {Q : Int → WD → Prop} (hm : 0 ≤ m ∧ m < M) (hM : M ≤ 5) (hP : 0 ≤ P ∧ P ≤ 6) (hu : 0 ≤ used ∧ used < bShl 1 P) (hv : VB v M) (hvp : VP v M P) (h16 : ∀ p, 0 ≤ p → p < 7 → u 16 (7 * m + p) = v m p)
    (h17 : ∀ q, 0 ≤ q → q < bShl 1 P → u 17 (64 * (m + 1) + q) = F q ∧ 0 ≤ F q ∧ F q ≤ 678113317090881) : ∀ (k f : Nat) (acc p : Int), k + p = 7 → 0 ≤ p → 7 - p < f → 0 ≤ acc → acc + k * 494344608159252249 < 9223372036854775808 → Q (AGG g (fun p => WO v m used p (F (usd used p))) k p acc) u → WI (fTh_restOf_l37 m used g f acc p u) Q
  | _, 0, acc, p, _, _, h, _, _, _ => by exfalso; omega
  | 0, f + 1, acc, p, hk, h0, h1, ha, hb, h => by
    show WI (fTh_restOf_l37_b (fTh_restOf_l37 m used g f) m used g acc p u) Q
    unfold fTh_restOf_l37_b
    exact i_if (fun _ => i_some h) (fun q => by exfalso; omega)
  | k + 1, f + 1, acc, p, hk, h0, h1, ha, hb, h => by
    show WI (fTh_restOf_l37_b (fTh_restOf_l37 m used g f) m used g acc p u) Q
    unfold fTh_restOf_l37_b
    rw [w32_i (x := p + 1) (by omega) (by omega)]
    refine i_if (fun q => by exfalso; omega) (fun _ => i_ci (s_withOne hm hM hP hu ⟨h0, by omega⟩ hv hvp (h16 p h0 (by omega)) h17 (i_jn ?_)))
    have ew : (k + 1 : Nat) * (494344608159252249 : Int) = k * 494344608159252249 + 494344608159252249 := by omega
    have wo : 0 ≤ WO v m used p (F (usd used p)) ∧ WO v m used p (F (usd used p)) ≤ 494344608159252249 := by
      have vb := hv m p hm.1 hm.2 h0 (by omega)
      unfold WO
      split
      · omega
      · rename_i hz
        split
        · omega
        · rename_i hb'
          have inu : 0 ≤ usd used p ∧ usd used p < bShl 1 P := by
            unfold usd
            split
            · exact hu
            · exact or_lt hP hu ⟨h0, by have := hvp m p hm.1 hm.2 h0 (by omega) hz; omega⟩
          have := mul_in vb (h17 (usd used p) inu.1 inu.2).2
          omega
    have h' : Q (AGG g (fun p => WO v m used p (F (usd used p))) k (p + 1) (if g = 0 then acc + WO v m used p (F (usd used p)) else mx acc (WO v m used p (F (usd used p))))) u := h
    refine i_if (fun q => ?_) (fun q => ?_)
    · rw [if_pos q] at h'
      rw [w64_i (by omega) (by omega)]
      exact i_bv (l_rest37 hm hM hP hu hv hvp h16 h17 k f _ (p + 1) (by omega) (by omega) (by omega) (by omega) (by omega) h')
    · rw [if_neg q] at h'
      have : 0 ≤ mx acc (WO v m used p (F (usd used p))) ∧ mx acc (WO v m used p (F (usd used p))) ≤ acc + 494344608159252249 := by unfold mx; split <;> omega
      exact i_bv (l_rest37 hm hM hP hu hv hvp h16 h17 k f _ (p + 1) (by omega) (by omega) (by omega) (by omega) (by omega) h')
/-- from mask m on the rests are there -/
def RT (v : Int → Int → Int) (S g M P m : Int) (u : WD) : Prop := ∀ m' q, m ≤ m' → m' ≤ M → 0 ≤ q → q < bShl 1 P → u 17 (64 * m' + q) = D v S g (M - m').toNat m' q
theorem BN_4 {n : Nat} (h : n ≤ 4) : BN n ≤ 678113317090881 := by
  rcases (by omega : n = 0 ∨ n = 1 ∨ n = 2 ∨ n = 3 ∨ n = 4) with rfl | rfl | rfl | rfl | rfl <;> decide
theorem s_restOf {v : Int → Int → Int} {S g m M P used : Int} {u : WD} {Q : Int → WD → Prop} (hm : 0 ≤ m ∧ m ≤ M) (hM : M ≤ 5) (hP : 0 ≤ P ∧ P ≤ 6) (hu : 0 ≤ used ∧ used < bShl 1 P) (hv : VB v M) (hvp : VP v M P) (h12 : u 12 8 = S) (h16 : ∀ m p, 0 ≤ m → m < M → 0 ≤ p → p < 7 → u 16 (7 * m + p) = v m p) (h17 : RT v S g M P (m + 1) u)
    (h : Q (D v S g (M - m).toNat m used) u) : WI (fTh_restOf m used M g u) Q := by
  have h64 := shl_64 hP
  have hb := BC_in (v := used) (by omega)
  unfold fTh_restOf
  refine i_ci (s_bitCount (by omega) (i_bv ?_))
  rw [w32_i (x := m - BC used) (by omega) (by omega), h12]
  by_cases he : m = M
  · subst he
    rw [show (m - m).toNat = 0 by omega] at h
    unfold D at h
    refine i_if (fun q => i_some (by rw [if_pos (Or.inl q)] at h; exact h)) (fun q => i_if (fun q' => i_if (fun z => absurd rfl z) (fun _ => i_some ?_)) (fun q' => i_some (by rw [if_pos (by omega)] at h; exact h)))
    rw [if_neg (by omega)] at h
    exact h
  · obtain ⟨n, hn⟩ : ∃ n : Nat, (M - m).toNat = n + 1 := ⟨(M - m).toNat - 1, by omega⟩
    rw [hn] at h
    unfold D at h
    refine i_if (fun q => i_some (by rw [if_pos (Or.inl q)] at h; exact h)) (fun q => i_if (fun q' => i_if (fun _ => ?_) (fun z => absurd he (by omega))) (fun q' => i_some (by rw [if_pos (by omega)] at h; exact h)))
    rw [if_neg (by omega)] at h
    refine l_rest37 (v := v) (P := P) (M := M) (F := fun q => D v S g n (m + 1) q) ⟨hm.1, by omega⟩ hM hP hu hv hvp (fun p a b => h16 m p hm.1 (by omega) a b) (fun q a b => ?_) 7 FU 0 0 (by decide) (by decide) (by decide) (by decide) (by decide) h
    have e := h17 (m + 1) q (by omega) (by omega) a b
    rw [show (M - (m + 1)).toNat = n by omega] at e
    have di := D_in (S := S) (g := g) hv n (m + 1) q (by omega) (by omega)
    have := BN_4 (n := n) (by omega)
    exact ⟨e, di.1, by omega⟩
theorem l_reckon38 {v : Int → Int → Int} {S g m M P : Int} {K : WD → Option (Int × WD)} {Q : Int → WD → Prop} (hm : 0 ≤ m ∧ m ≤ M) (hM : M ≤ 5) (hP : 0 ≤ P ∧ P ≤ 6) (hv : VB v M) (hvp : VP v M P) : ∀ (f : Nat) (x : Int) (u : WD), 0 ≤ x → x ≤ bShl 1 P → bShl 1 P - x < f → u 12 8 = S → (∀ m p, 0 ≤ m → m < M → 0 ≤ p → p < 7 → u 16 (7 * m + p) = v m p) → RT v S g M P (m + 1) u → (∀ q, 0 ≤ q → q < x → u 17 (64 * m + q) = D v S g (M - m).toNat m q) →
    (∀ y, (∀ k, k ≠ 17 → y k = u k) → RT v S g M P m y → WI (K y) Q) → WI (fTh_reckon_l38 g (bShl 1 P) M m K f x u) Q
  | 0, x, u, _, _, h, _, _, _, _, _ => by exfalso; omega
  | f + 1, x, u, h0, h1, h2, h12, h16, h17, hd, hK => by
    have h64 := shl_64 hP
    show WI (fTh_reckon_l38_b (fTh_reckon_l38 g (bShl 1 P) M m K f) g (bShl 1 P) M m K x u) Q
    unfold fTh_reckon_l38_b
    rw [w32_i (x := 64 * m) (by omega) (by omega), w32_i (x := 64 * m + x) (by omega) (by omega), w32_i (x := x + 1) (by omega) (by omega)]
    refine i_if (fun q => hK u (fun _ _ => rfl) (fun m' q' a b c d => ?_)) (fun q => i_ci (s_restOf hm hM hP ⟨h0, by omega⟩ hv hvp h12 h16 h17 (i_ck (by omega) (i_bw (i_bv ?_)))))
    · rcases (by omega : m' = m ∨ m + 1 ≤ m') with rfl | z
      · exact hd q' c (by omega)
      · exact h17 m' q' z b c d
    · refine l_reckon38 hm hM hP hv hvp f (x + 1) _ (by omega) (by omega) (by omega) (by simp (disch := omega) only [not_true_eq_false, not_false_eq_true, true_and, and_true, up_r, up_k, ur_s, ur_e, ur_i, cp_k, w32_i, w64_i, w8_i]; exact h12) (by simp (disch := omega) only [not_true_eq_false, not_false_eq_true, true_and, and_true, up_r, up_k, ur_s, ur_e, ur_i, cp_k, w32_i, w64_i, w8_i]; exact h16) (fun m' q' a b c d => ?_) (fun q' a b => ?_) (fun y y1 y2 => hK y (fun k hk => by rw [y1 k hk]; simp (disch := omega) only [not_true_eq_false, not_false_eq_true, true_and, and_true, up_r, up_k, ur_s, ur_e, ur_i, cp_k, w32_i, w64_i, w8_i]) y2)
      · simp (disch := omega) only [not_true_eq_false, not_false_eq_true, true_and, and_true, up_r, up_k, ur_s, ur_e, ur_i, cp_k, w32_i, w64_i, w8_i]
        exact h17 m' q' a b c d
      · by_cases z : q' = x
        · subst z
          simp (disch := omega) only [not_true_eq_false, not_false_eq_true, true_and, and_true, up_r, up_k, ur_s, ur_e, ur_i, cp_k, w32_i, w64_i, w8_i]
        · simp (disch := omega) only [not_true_eq_false, not_false_eq_true, true_and, and_true, up_r, up_k, ur_s, ur_e, ur_i, cp_k, w32_i, w64_i, w8_i]
          exact hd q' a (by omega)
theorem l_reckon30 {v : Int → Int → Int} {S g M P : Int} {K : WD → Option (Int × WD)} {Q : Int → WD → Prop} (hM : 0 ≤ M ∧ M ≤ 5) (hP : 0 ≤ P ∧ P ≤ 6) (hv : VB v M) (hvp : VP v M P) : ∀ (f : Nat) (m : Int) (u : WD), -1 ≤ m → m ≤ M → m + 1 < f → u 12 8 = S → (∀ m p, 0 ≤ m → m < M → 0 ≤ p → p < 7 → u 16 (7 * m + p) = v m p) → RT v S g M P (m + 1) u →
    (∀ y, (∀ k, k ≠ 17 → y k = u k) → RT v S g M P 0 y → WI (K y) Q) → WI (fTh_reckon_l30 g (bShl 1 P) M K f m u) Q
  | 0, m, u, _, _, h, _, _, _, _ => by exfalso; omega
  | f + 1, m, u, h0, h1, h2, h12, h16, h17, hK => by
    have h64 := shl_64 hP
    show WI (fTh_reckon_l30_b (fTh_reckon_l30 g (bShl 1 P) M K f) g (bShl 1 P) M K m u) Q
    unfold fTh_reckon_l30_b
    rw [w32_i (x := m + (-1)) (by omega) (by omega)]
    refine i_if (fun q => hK u (fun _ _ => rfl) (by rw [show (0 : Int) = m + 1 by omega]; exact h17)) (fun q => ?_)
    refine l_reckon38 ⟨by omega, h1⟩ hM.2 hP hv hvp FU 0 u (by decide) (by omega) (by unfold FU; omega) h12 h16 h17 (fun q' a b => by omega) (fun y y1 y2 => i_bv (l_reckon30 hM hP hv hvp f _ y (by omega) (by omega) (by omega) (by rw [y1 12 (by decide)]; exact h12) (by rw [y1 16 (by decide)]; exact h16) (by rw [show m + -1 + 1 = m by omega]; exact y2) (fun z z1 z2 => hK z (fun k hk => by rw [z1 k hk, y1 k hk]) z2)))
theorem s_reckon {v : Int → Int → Int} {S g M P : Int} {u : WD} {Q : Int → WD → Prop} (hM : 0 ≤ M ∧ M ≤ 5) (hP : 0 ≤ P ∧ P ≤ 6) (hv : VB v M) (hvp : VP v M P) (e1 : u 1 4 = P) (e2 : u 1 5 = M) (h12 : u 12 8 = S) (h16 : ∀ m p, 0 ≤ m → m < M → 0 ≤ p → p < 7 → u 16 (7 * m + p) = v m p)
    (hQ : ∀ y, (∀ k, k ≠ 17 → y k = u k) → RT v S g M P 0 y → Q (D v S g M.toNat 0 0) y) : WI (fTh_reckon g u) Q := by
  have h64 := shl_64 hP
  unfold fTh_reckon fHa_persons fHa_masks
  rw [e1]
  have em : mn 6 P = P := by unfold mn; omega
  have em' : mn 5 M = M := by unfold mn; omega
  refine i_ci (i_some ?_)
  rw [em]
  refine i_bv (i_ci (i_some ?_))
  rw [e2, em']
  refine i_bv (l_reckon30 hM hP hv hvp FU M u (by omega) (Int.le_refl M) (by unfold FU; omega) h12 h16 (fun m' q' a b c d => by omega) (fun y y1 y2 => i_some ?_))
  have e := y2 0 0 (by omega) hM.1 (by omega) (by omega)
  rw [show (64 : Int) * 0 + 0 = 0 from rfl, show (M - 0).toNat = M.toNat by omega] at e
  rw [e]
  exact hQ y y1 y2
