/-- the three at place a of a SHELF are signs -/
def OK3 (w : WD) (o a : Int) : Prop := 0 ≤ a ∧ a + 3 ≤ w (34 + 2 * o) 3 ∧ SG (w (35 + 2 * o) a) (w (35 + 2 * o) (a + 1)) (w (35 + 2 * o) (a + 2))
theorem s_shat {o i : Int} {w : WD} {Q : Int → WD → Prop} (hi : 0 ≤ i ∧ i < w (34 + 2 * o) 3 ∧ w (34 + 2 * o) 3 ≤ 60) (h : Q (w (35 + 2 * o) i) w) : WI (fSh_at o i w) Q := by
  (repeat' (first | (with_reducible refine i_some ?_) | (with_reducible refine v_some ?_) | (with_reducible refine i_ci ?_) | (with_reducible refine i_cv ?_) | (with_reducible refine v_ci ?_) | (with_reducible refine v_cv ?_) | (with_reducible refine i_bv ?_) | (with_reducible refine v_bv ?_) | (with_reducible refine i_bw ?_) | (with_reducible refine v_bw ?_) | (with_reducible refine i_jn ?_) | (with_reducible refine v_jn ?_) | (with_reducible refine i_ck ?_ ?_) | (with_reducible refine v_ck ?_ ?_) | ((with_reducible refine i_if (fun hc => ?_) (fun hc => ?_)) <;> (try simp (disch := omega) only [not_true_eq_false, not_false_eq_true, true_and, and_true, up_r, up_k, ur_s, ur_e, ur_i, cp_k, w32_i, w64_i, w8_i] at hc) <;> (try (exfalso; omega))) | ((with_reducible refine v_if (fun hc => ?_) (fun hc => ?_)) <;> (try simp (disch := omega) only [not_true_eq_false, not_false_eq_true, true_and, and_true, up_r, up_k, ur_s, ur_e, ur_i, cp_k, w32_i, w64_i, w8_i] at hc) <;> (try (exfalso; omega))) | unfold fSh_at | unfold fSh_has))
  all_goals first | omega | exact h
theorem s_arriveFrom {o a : Int} {w : WD} {Q : Int → WD → Prop} (ha : -2147483648 ≤ a ∧ a < 2147483748) (hp : 0 ≤ w 1 4 ∧ w 1 4 ≤ 6) (hz : 0 ≤ w (34 + 2 * o) 3 ∧ w (34 + 2 * o) 3 ≤ 60) (hb : ∀ k, 0 ≤ k → k < 60 → -128 ≤ w (35 + 2 * o) k ∧ w (35 + 2 * o) k ≤ 127)
    (h1 : OK3 w o a → w 1 4 < 6 → Q 1 (AR w (w (35 + 2 * o) a) (w (35 + 2 * o) (a + 1)) (w (35 + 2 * o) (a + 2)))) (h0 : ¬ (OK3 w o a ∧ w 1 4 < 6) → Q 0 w) : WI (fB_arriveFrom o a w) Q := by
  unfold OK3 at h1 h0
  unfold fB_arriveFrom fSh_size
  refine i_if (fun q => i_some (h0 (by omega))) (fun q0 => i_ci (i_some (i_if (fun q => ?_) (fun q => i_some (h0 ?_)))))
  · rw [w64_i (by omega) (by omega)] at q
    have b0 := hb a (by omega) (by omega)
    have b1 := hb (a + 1) (by omega) (by omega)
    have b2 := hb (a + 2) (by omega) (by omega)
    refine i_bv ?_
    rw [w32_i (x := a) (by omega) (by omega), w32_i (x := a + 1) (by omega) (by omega), w32_i (x := a + 2) (by omega) (by omega)]
    refine i_ci (s_shat (by omega) (i_ci (s_shat (by omega) (i_ci (s_shat (by omega) ?_)))))
    rw [w32_i (by omega) (by omega), w32_i (by omega) (by omega), w32_i (by omega) (by omega)]
    refine i_ci (s_arrive hp (fun g => ?_) (fun g g' => ?_) (fun g g' => ?_))
    · exact i_if (fun _ => i_some (h0 (fun z => g z.1.2.2))) (fun q => by exfalso; omega)
    · exact i_if (fun _ => i_some (h0 (fun z => by omega))) (fun q => by exfalso; omega)
    · exact i_if (fun q => by exfalso; omega) (fun _ => i_some (h1 ⟨by omega, by omega, g⟩ g'))
  · rw [w64_i (by omega) (by omega)] at q
    omega
/-- so many who come, one behind the other, from the place of the x-th on -/
def ARs (w : WD) (o a : Int) : Nat → WD
  | 0 => w
  | j + 1 => ARs (AR w (w (35 + 2 * o) a) (w (35 + 2 * o) (a + 1)) (w (35 + 2 * o) (a + 2))) o (a + 3) j
def APs (u w : WD) (o a : Int) : Nat → WD
  | 0 => u
  | j + 1 => APs (AP u (w (35 + 2 * o) a) (w (35 + 2 * o) (a + 1)) (w (35 + 2 * o) (a + 2))) w o (a + 3) j
/-- so many come -/
def COME (w : WD) (o a n p : Int) (j : Nat) : Prop := (∀ i : Nat, i < j → OK3 w o (a + 3 * i)) ∧ p + j ≤ 6 ∧ j ≤ n ∧ (j = n ∨ p + j = 6 ∨ ¬ OK3 w o (a + 3 * j))
theorem COME_1 {w : WD} {o a n p : Int} {j j' : Nat} (h : COME w o a n p j) (h' : COME w o a n p j') : j = j' := by
  obtain ⟨h1, h2, h3, h4⟩ := h
  obtain ⟨g1, g2, g3, g4⟩ := h'
  rcases (by omega : j < j' ∨ j = j' ∨ j' < j) with q | q | q
  · exfalso
    rcases h4 with z | z | z
    · omega
    · omega
    · exact z (g1 j q)
  · exact q
  · exfalso
    rcases g4 with z | z | z
    · omega
    · omega
    · exact z (h1 j' q)
theorem COME_0 {w : WD} {o a n p : Int} (hn : 0 ≤ n) (hp : p ≤ 6) (h : n = 0 ∨ p = 6 ∨ ¬ OK3 w o a) : COME w o a n p 0 := by
  refine ⟨fun i hi => absurd hi (Nat.not_lt_zero i), by omega, by omega, ?_⟩
  rcases h with h | h | h
  · exact Or.inl (by omega)
  · exact Or.inr (Or.inl (by omega))
  · refine Or.inr (Or.inr ?_)
    rw [show a + 3 * ((0 : Nat) : Int) = a by omega]
    exact h
theorem COME_s {w v : WD} {o a n p : Int} {j : Nat} (hs : v (34 + 2 * o) = w (34 + 2 * o)) (hc : v (35 + 2 * o) = w (35 + 2 * o)) (h0 : OK3 w o a) (h : COME v o (a + 3) (n - 1) (p + 1) j) : COME w o a n p (j + 1) := by
  obtain ⟨h1, h2, h3, h4⟩ := h
  have e : ∀ b, OK3 v o b ↔ OK3 w o b := fun b => by unfold OK3; rw [hs, hc]
  refine ⟨fun i hi => ?_, by omega, by omega, ?_⟩
  · cases i with
    | zero => rw [show a + 3 * ((0 : Nat) : Int) = a by omega]; exact h0
    | succ i =>
      have := (e _).mp (h1 i (by omega))
      rw [show a + 3 * ((i + 1 : Nat) : Int) = a + 3 + 3 * i by omega]
      exact this
  · rcases h4 with z | z | z
    · exact Or.inl (by omega)
    · exact Or.inr (Or.inl (by omega))
    · refine Or.inr (Or.inr ?_)
      rw [show a + 3 * ((j + 1 : Nat) : Int) = a + 3 + 3 * j by omega]
      exact fun q => z ((e _).mpr q)
theorem eci {r : Int} {u : WD} {k : Int → WD → Option (Int × WD)} : ci (some (r, u)) k = k r u := rfl
theorem ebv {v : Int} {k : Int → Option (Int × WD)} : bv v k = k v := rfl
theorem eck {c : Prop} [Decidable c] {k : Option (Int × WD)} (h : c) : ck c k = k := by unfold ck; rw [if_pos h]
theorem AR_k {w : WD} {a b c k : Int} (h : k ≠ 1) (h' : k ≠ 2) : AR w a b c k = w k := by
  unfold AR
  simp (disch := omega) only [not_true_eq_false, not_false_eq_true, true_and, and_true, up_r, up_k, ur_s, ur_e, ur_i, cp_k, w32_i, w64_i, w8_i]
theorem AP_k {w : WD} {a b c k : Int} (h : k ≠ 46) (h' : k ≠ 47) (h'' : k ≠ 48) : AP w a b c k = w k := by
  unfold AP
  simp (disch := omega) only [not_true_eq_false, not_false_eq_true, true_and, and_true, up_r, up_k, ur_s, ur_e, ur_i, cp_k, w32_i, w64_i, w8_i]
theorem l_people {o i n : Int} (ho : 0 ≤ o ∧ o < 6) (hi : I32 i) (hn : 0 ≤ n ∧ n ≤ 6) : ∀ (f : Nat) (x : Int) (w : WD), 0 ≤ x → x ≤ n → n - x < f → (0 ≤ w 1 4 ∧ w 1 4 ≤ 6) → (0 ≤ w (34 + 2 * o) 3 ∧ w (34 + 2 * o) 3 ≤ 60) → (∀ k, 0 ≤ k → k < 60 → -128 ≤ w (35 + 2 * o) k ∧ w (35 + 2 * o) k ≤ 127) →
    ∃ j : Nat, COME w o (i + 3 * x) (n - x) (w 1 4) j ∧ fB_people_l52 i n o f x w = some (x + j, ARs w o (i + 3 * x) j)
  | 0, x, w, _, _, h, _, _, _ => by exfalso; omega
  | f + 1, x, w, h1, h2, h3, hp, hz, hb => by
    unfold I32 at hi
    show ∃ j : Nat, COME w o (i + 3 * x) (n - x) (w 1 4) j ∧ fB_people_l52_b (fB_people_l52 i n o f) i n o x w = some (x + j, ARs w o (i + 3 * x) j)
    unfold fB_people_l52_b
    by_cases hc : n ≤ x
    · rw [if_pos hc]
      refine ⟨0, COME_0 (by omega) hp.2 (Or.inl (by omega)), ?_⟩
      rw [show x + ((0 : Nat) : Int) = x by omega]
      rfl
    · rw [if_neg hc, w64_i (x := 3 * x) (by omega) (by omega), w64_i (by omega) (by omega)]
      by_cases hok : OK3 w o (i + 3 * x) ∧ w 1 4 < 6
      · have key : WI (fB_arriveFrom o (i + 3 * x) w) (fun r u => r = 1 ∧ u = AR w (w (35 + 2 * o) (i + 3 * x)) (w (35 + 2 * o) (i + 3 * x + 1)) (w (35 + 2 * o) (i + 3 * x + 2))) :=
          s_arriveFrom (by omega) hp hz hb (fun _ _ => ⟨rfl, rfl⟩) (fun q => absurd hok q)
        obtain ⟨r, u, e, rfl, rfl⟩ := key
        rw [e]
        have e4 : AR w (w (35 + 2 * o) (i + 3 * x)) (w (35 + 2 * o) (i + 3 * x + 1)) (w (35 + 2 * o) (i + 3 * x + 2)) 1 4 = w 1 4 + 1 := by unfold AR; simp (disch := omega) only [not_true_eq_false, not_false_eq_true, true_and, and_true, up_r, up_k, ur_s, ur_e, ur_i, cp_k, w32_i, w64_i, w8_i]
        obtain ⟨j, c, g⟩ := l_people ho hi hn f (x + 1) (AR w (w (35 + 2 * o) (i + 3 * x)) (w (35 + 2 * o) (i + 3 * x + 1)) (w (35 + 2 * o) (i + 3 * x + 2))) (by omega) (by omega) (by omega) (by omega) (by rw [AR_k (by omega) (by omega)]; exact hz) (by rw [AR_k (by omega) (by omega)]; exact hb)
        rw [e4] at c
        rw [show i + 3 * (x + 1) = i + 3 * x + 3 by omega] at c g
        rw [show n - (x + 1) = n - x - 1 by omega] at c
        refine ⟨j + 1, COME_s (AR_k (by omega) (by omega)) (AR_k (by omega) (by omega)) hok.1 c, ?_⟩
        rw [eci, if_neg (by decide), ebv, w32_i (by omega) (by omega), g]
        rw [show x + ((j + 1 : Nat) : Int) = x + 1 + j by omega]
        rfl
      · have key : WI (fB_arriveFrom o (i + 3 * x) w) (fun r u => r = 0 ∧ u = w) :=
          s_arriveFrom (by omega) hp hz hb (fun a b => absurd ⟨a, b⟩ hok) (fun _ => ⟨rfl, rfl⟩)
        obtain ⟨r, u, e, rfl, rfl⟩ := key
        rw [e]
        refine ⟨0, COME_0 (by omega) hp.2 ?_, ?_⟩
        · by_cases q : OK3 u o (i + 3 * x)
          · have : ¬ u 1 4 < 6 := fun z => hok ⟨q, z⟩
            exact Or.inr (Or.inl (by omega))
          · exact Or.inr (Or.inr q)
        · rw [eci, if_pos rfl, show x + ((0 : Nat) : Int) = x by omega]
          rfl
theorem l_peopleR {o i n : Int} {w : WD} (ho : 0 ≤ o ∧ o < 6) (hi : I32 i) (hn : 0 ≤ n ∧ n ≤ 6) (hz : 0 ≤ w (34 + 2 * o) 3 ∧ w (34 + 2 * o) 3 ≤ 60) (hb : ∀ k, 0 ≤ k → k < 60 → -128 ≤ w (35 + 2 * o) k ∧ w (35 + 2 * o) k ≤ 127) : ∀ (f : Nat) (x : Int) (u : WD), 0 ≤ x → x ≤ n → n - x < f → (0 ≤ u 46 1 ∧ u 46 1 ≤ 6) → u 83 o = w (34 + 2 * o) 3 → (∀ k, 0 ≤ k → k < 60 → u 84 (60 * o + k) = w (35 + 2 * o) k) →
    ∃ j : Nat, COME w o (i + 3 * x) (n - x) (u 46 1) j ∧ fR_people_l58 o i n f x u = some (x + j, APs u w o (i + 3 * x) j)
  | 0, x, w, _, _, h, _, _, _ => by exfalso; omega
  | f + 1, x, u, h1, h2, h3, hp, hu, he => by
    unfold I32 at hi
    show ∃ j : Nat, COME w o (i + 3 * x) (n - x) (u 46 1) j ∧ fR_people_l58_b (fR_people_l58 o i n f) o i n x u = some (x + j, APs u w o (i + 3 * x) j)
    unfold fR_people_l58_b
    have stop : ∀ {z : Int}, z = x → (n - x = 0 ∨ u 46 1 = 6 ∨ ¬ OK3 w o (i + 3 * x)) → ∃ j : Nat, COME w o (i + 3 * x) (n - x) (u 46 1) j ∧ some (z, u) = some (x + (j : Int), APs u w o (i + 3 * x) j) := by
      intro z ez hs
      refine ⟨0, COME_0 (by omega) hp.2 hs, ?_⟩
      rw [ez, show x + ((0 : Nat) : Int) = x by omega]
      rfl
    by_cases hc : n ≤ x
    · rw [if_pos hc]
      exact stop (by omega) (Or.inl (by omega))
    rw [if_neg hc, ebv, w32_i (x := 3 * x) (by omega) (by omega), w64_i (x := i + 3 * x) (by omega) (by omega)]
    by_cases hlow : i + 3 * x < 0
    · rw [if_pos hlow]
      exact stop rfl (Or.inr (Or.inr (fun q => by unfold OK3 at q; omega)))
    rw [if_neg hlow]
    rw [eck ho, w64_i (by omega) (by omega), hu]
    by_cases hhi : w (34 + 2 * o) 3 ≤ i + 3 * x + 2
    · rw [if_pos hhi]
      exact stop rfl (Or.inr (Or.inr (fun q => by unfold OK3 at q; omega)))
    rw [if_neg hhi]
    by_cases h6 : u 46 1 = 6
    · rw [if_neg (by omega)]
      exact stop rfl (Or.inr (Or.inl h6))
    rw [if_pos h6, ebv, w32_i (x := 60 * o) (by omega) (by omega), w32_i (x := i + 3 * x) (by omega) (by omega), w32_i (x := 60 * o + (i + 3 * x)) (by omega) (by omega), w32_i (x := 60 * o + (i + 3 * x) + 1) (by omega) (by omega), w32_i (x := 60 * o + (i + 3 * x) + 2) (by omega) (by omega)]
    rw [eck (by omega), eck (by omega), eck (by omega)]
    have b0 := hb (i + 3 * x) (by omega) (by omega)
    have b1 := hb (i + 3 * x + 1) (by omega) (by omega)
    have b2 := hb (i + 3 * x + 2) (by omega) (by omega)
    have c0 := he (i + 3 * x) (by omega) (by omega)
    have c1 := he (i + 3 * x + 1) (by omega) (by omega)
    have c2 := he (i + 3 * x + 2) (by omega) (by omega)
    rw [show 60 * o + (i + 3 * x) + 1 = 60 * o + (i + 3 * x + 1) by omega, show 60 * o + (i + 3 * x) + 2 = 60 * o + (i + 3 * x + 2) by omega, c0, c1, c2, w32_i (x := w (35 + 2 * o) (i + 3 * x)) (by omega) (by omega), w32_i (x := w (35 + 2 * o) (i + 3 * x + 1)) (by omega) (by omega), w32_i (x := w (35 + 2 * o) (i + 3 * x + 2)) (by omega) (by omega)]
    by_cases hg : SG (w (35 + 2 * o) (i + 3 * x)) (w (35 + 2 * o) (i + 3 * x + 1)) (w (35 + 2 * o) (i + 3 * x + 2))
    · have key : WI (fR_areSigns (w (35 + 2 * o) (i + 3 * x)) (w (35 + 2 * o) (i + 3 * x + 1)) (w (35 + 2 * o) (i + 3 * x + 2)) u) (fun r v => r = 1 ∧ v = u) :=
        s_areSigns (fun _ => ⟨rfl, rfl⟩) (fun q => absurd hg q)
      obtain ⟨r, v, e, rfl, rfl⟩ := key
      rw [e]
      rw [eci, if_pos (by decide), eck (by omega), eck (by omega), eck (by omega), c0, c1, c2, w32_i (x := w (35 + 2 * o) (i + 3 * x)) (by omega) (by omega), w32_i (x := w (35 + 2 * o) (i + 3 * x + 1)) (by omega) (by omega), w32_i (x := w (35 + 2 * o) (i + 3 * x + 2)) (by omega) (by omega)]
      have key : WI (fR_addPerson (w (35 + 2 * o) (i + 3 * x)) (w (35 + 2 * o) (i + 3 * x + 1)) (w (35 + 2 * o) (i + 3 * x + 2)) v) (fun r z => z = AP v (w (35 + 2 * o) (i + 3 * x)) (w (35 + 2 * o) (i + 3 * x + 1)) (w (35 + 2 * o) (i + 3 * x + 2))) :=
        s_addPerson (by omega) rfl
      obtain ⟨r, z, e, rfl⟩ := key
      rw [e]
      have e4 : AP v (w (35 + 2 * o) (i + 3 * x)) (w (35 + 2 * o) (i + 3 * x + 1)) (w (35 + 2 * o) (i + 3 * x + 2)) 46 1 = v 46 1 + 1 := by unfold AP; simp (disch := omega) only [not_true_eq_false, not_false_eq_true, true_and, and_true, up_r, up_k, ur_s, ur_e, ur_i, cp_k, w32_i, w64_i, w8_i]
      obtain ⟨j, c, g⟩ := l_peopleR ho hi hn hz hb f (x + 1) (AP v (w (35 + 2 * o) (i + 3 * x)) (w (35 + 2 * o) (i + 3 * x + 1)) (w (35 + 2 * o) (i + 3 * x + 2))) (by omega) (by omega) (by omega) (by omega) (by rw [AP_k (by decide) (by decide) (by decide)]; exact hu) (by rw [AP_k (by decide) (by decide) (by decide)]; exact he)
      rw [e4] at c
      rw [show i + 3 * (x + 1) = i + 3 * x + 3 by omega] at c g
      rw [show n - (x + 1) = n - x - 1 by omega] at c
      refine ⟨j + 1, COME_s rfl rfl ⟨by omega, by omega, hg⟩ c, ?_⟩
      rw [eci, ebv, w32_i (by omega) (by omega), g]
      rw [show x + ((j + 1 : Nat) : Int) = x + 1 + j by omega]
      rfl
    · have key : WI (fR_areSigns (w (35 + 2 * o) (i + 3 * x)) (w (35 + 2 * o) (i + 3 * x + 1)) (w (35 + 2 * o) (i + 3 * x + 2)) u) (fun r v => r = 0 ∧ v = u) :=
        s_areSigns (fun q => absurd q hg) (fun _ => ⟨rfl, rfl⟩)
      obtain ⟨r, v, e, rfl, rfl⟩ := key
      rw [e]
      rw [eci, if_neg (by decide)]
      exact stop rfl (Or.inr (Or.inr (fun q => hg q.2.2)))
theorem AR_AP {w : WD} {a b c a' b' c' : Int} : AR (AP w a b c) a' b' c' = AP (AR w a' b' c') a b c := by
  funext k i
  by_cases h1 : k = 1
  · subst h1; unfold AR AP; simp (disch := omega) only [not_true_eq_false, not_false_eq_true, true_and, and_true, up_r, up_k, ur_s, ur_e, ur_i, cp_k, w32_i, w64_i, w8_i]
  by_cases h2 : k = 2
  · subst h2; unfold AR AP; simp (disch := omega) only [not_true_eq_false, not_false_eq_true, true_and, and_true, up_r, up_k, ur_s, ur_e, ur_i, cp_k, w32_i, w64_i, w8_i]
  rw [AR_k h1 h2]
  by_cases h3 : k = 46
  · subst h3; unfold AP; simp (disch := omega) only [not_true_eq_false, not_false_eq_true, true_and, and_true, up_r, up_k, ur_s, ur_e, ur_i, cp_k, w32_i, w64_i, w8_i, AR_k]
  by_cases h4 : k = 47
  · subst h4; unfold AP; simp (disch := omega) only [not_true_eq_false, not_false_eq_true, true_and, and_true, up_r, up_k, ur_s, ur_e, ur_i, cp_k, w32_i, w64_i, w8_i, AR_k]
  by_cases h5 : k = 48
  · subst h5; unfold AP; simp (disch := omega) only [not_true_eq_false, not_false_eq_true, true_and, and_true, up_r, up_k, ur_s, ur_e, ur_i, cp_k, w32_i, w64_i, w8_i, AR_k]
  rw [AP_k h3 h4 h5, AP_k h3 h4 h5, AR_k h1 h2]
theorem ARs_AP {o a b c d : Int} : ∀ (j : Nat) (w : WD), (∀ k, k < 46 → 33 < k → True) → 0 ≤ o → o < 6 → ∀ x, ARs (AP w b c d) o x j = AP (ARs w o x j) b c d
  | 0, w, _, _, _, x => rfl
  | j + 1, w, h, h1, h2, x => by
    show ARs (AR (AP w b c d) _ _ _) o (x + 3) j = AP (ARs (AR w _ _ _) o (x + 3) j) b c d
    rw [AP_k (by omega) (by omega) (by omega), AR_AP]
    exact ARs_AP (a := a) j _ h h1 h2 _
theorem Inv_come {o n : Int} (h1 : 0 ≤ o) (h2 : o < 6) : ∀ (j : Nat) (a p : Int) (w s : WD), Inv w → COME s o a n p j → p = w 1 4 → s (34 + 2 * o) = w (34 + 2 * o) → s (35 + 2 * o) = w (35 + 2 * o) → Inv (APs (ARs w o a j) s o a j)
  | 0, a, p, w, s, hI, _, _, _, _ => hI
  | j + 1, a, p, w, s, hI, c, hp, e1, e2 => by
    obtain ⟨c1, c2, c3, c4⟩ := c
    have c0 := c1 0 (by omega)
    rw [show a + 3 * ((0 : Nat) : Int) = a by omega] at c0
    have hA := Inv_arrive (a := w (35 + 2 * o) a) (b := w (35 + 2 * o) (a + 1)) (c := w (35 + 2 * o) (a + 2)) hI (by omega) (by rw [← e2]; exact c0.2.2)
    show Inv (APs (AP (ARs (AR w _ _ _) o (a + 3) j) _ _ _) s o (a + 3) j)
    rw [e2, ← ARs_AP (a := a) j _ (fun _ _ _ => trivial) h1 h2]
    refine Inv_come (n := n - 1) h1 h2 j (a + 3) (p + 1) _ s hA ⟨fun i hi => ?_, by omega, by omega, ?_⟩ ?_ ?_ ?_
    · have := c1 (i + 1) (by omega)
      rw [show a + 3 * ((i + 1 : Nat) : Int) = a + 3 + 3 * i by omega] at this
      exact this
    · rcases c4 with z | z | z
      · exact Or.inl (by omega)
      · exact Or.inr (Or.inl (by omega))
      · refine Or.inr (Or.inr ?_)
        rw [show a + 3 * ((j + 1 : Nat) : Int) = a + 3 + 3 * j by omega] at z
        exact z
    · rw [AP_k (by decide) (by decide) (by decide), hp]
      unfold AR
      simp (disch := omega) only [not_true_eq_false, not_false_eq_true, true_and, and_true, up_r, up_k, ur_s, ur_e, ur_i, cp_k, w32_i, w64_i, w8_i]
    · rw [AP_k (by omega) (by omega) (by omega), AR_k (by omega) (by omega), e1]
    · rw [AP_k (by omega) (by omega) (by omega), AR_k (by omega) (by omega), e2]
theorem ARs_k {o k : Int} (h : k ≠ 1) (h' : k ≠ 2) : ∀ (j : Nat) (a : Int) (w : WD), ARs w o a j k = w k
  | 0, a, w => rfl
  | j + 1, a, w => by
    show ARs (AR w _ _ _) o (a + 3) j k = w k
    rw [ARs_k h h' j, AR_k h h']
theorem op_people : op3 Inv fB_people fR_people := by
  intro o i n w hoI hi hn hI
  obtain ⟨hH, hC, hT, hL, hN, hK, hS, hB⟩ := id hI
  obtain ⟨p0, p6, pr, m0, m5, mr, hV⟩ := id hH
  refine same_of ?_
  by_cases hs : (0 ≤ o ∧ o < 6) ∧ 1 ≤ n ∧ n ≤ 6
  · obtain ⟨ho, hn6⟩ := hs
    have fo := hS o ho.1 ho.2
    by_cases hb : w (34 + 2 * o) 2 = 0
    · rcases fo with c | c | ⟨c1, c2, c3, c4, c5, c6, c7, c8⟩
      · exfalso; omega
      · exfalso; omega
      · obtain ⟨j, hj, ej⟩ := l_people ho hi (n := n) (by omega) FU 0 w (by decide) (by omega) (by unfold FU; omega) (by omega) (by omega) (fun k k1 k2 => (c8 k k1 k2).2 hb)
        obtain ⟨j', hj', ej'⟩ := l_peopleR ho hi (n := n) (w := w) (by omega) (by omega) (fun k k1 k2 => (c8 k k1 k2).2 hb) FU 0 (ARs w o (i + 3 * 0) j) (by decide) (by omega) (by unfold FU; omega) (by rw [ARs_k (by decide) (by decide)]; omega) (by rw [ARs_k (by decide) (by decide)]; exact c7) (fun k k1 k2 => by rw [ARs_k (by decide) (by decide)]; exact (c8 k k1 k2).1)
        rw [ARs_k (by decide) (by decide), pr] at hj'
        have ejj := COME_1 hj hj'
        subst ejj
        (repeat' (first | (with_reducible refine i_some ?_) | (with_reducible refine v_some ?_) | (with_reducible refine i_ci ?_) | (with_reducible refine i_cv ?_) | (with_reducible refine v_ci ?_) | (with_reducible refine v_cv ?_) | (with_reducible refine i_bv ?_) | (with_reducible refine v_bv ?_) | (with_reducible refine i_bw ?_) | (with_reducible refine v_bw ?_) | (with_reducible refine i_jn ?_) | (with_reducible refine v_jn ?_) | (with_reducible refine i_ck ?_ ?_) | (with_reducible refine v_ck ?_ ?_) | ((with_reducible refine i_if (fun hc => ?_) (fun hc => ?_)) <;> (try simp (disch := omega) only [not_true_eq_false, not_false_eq_true, true_and, and_true, up_r, up_k, ur_s, ur_e, ur_i, cp_k, w32_i, w64_i, w8_i] at hc) <;> (try (exfalso; omega))) | ((with_reducible refine v_if (fun hc => ?_) (fun hc => ?_)) <;> (try simp (disch := omega) only [not_true_eq_false, not_false_eq_true, true_and, and_true, up_r, up_k, ur_s, ur_e, ur_i, cp_k, w32_i, w64_i, w8_i] at hc) <;> (try (exfalso; omega))) | unfold fB_people | unfold fB_isShelf | unfold fSh_isEmpty | unfold fSh_holdsBytes))
        all_goals first | omega | skip
        all_goals (
          refine i_eq ej ?_
          (repeat' (first | (with_reducible refine i_some ?_) | (with_reducible refine v_some ?_) | (with_reducible refine i_ci ?_) | (with_reducible refine i_cv ?_) | (with_reducible refine v_ci ?_) | (with_reducible refine v_cv ?_) | (with_reducible refine i_bv ?_) | (with_reducible refine v_bv ?_) | (with_reducible refine i_bw ?_) | (with_reducible refine v_bw ?_) | (with_reducible refine i_jn ?_) | (with_reducible refine v_jn ?_) | (with_reducible refine i_ck ?_ ?_) | (with_reducible refine v_ck ?_ ?_) | ((with_reducible refine i_if (fun hc => ?_) (fun hc => ?_)) <;> (try simp (disch := omega) only [not_true_eq_false, not_false_eq_true, true_and, and_true, up_r, up_k, ur_s, ur_e, ur_i, cp_k, w32_i, w64_i, w8_i] at hc) <;> (try (exfalso; omega))) | ((with_reducible refine v_if (fun hc => ?_) (fun hc => ?_)) <;> (try simp (disch := omega) only [not_true_eq_false, not_false_eq_true, true_and, and_true, up_r, up_k, ur_s, ur_e, ur_i, cp_k, w32_i, w64_i, w8_i] at hc) <;> (try (exfalso; omega))) | unfold fR_people | unfold fR_isShelf | ((with_reducible apply s_in) <;> (try intro hvc) <;> (try simp (disch := omega) only [not_true_eq_false, not_false_eq_true, true_and, and_true, up_r, up_k, ur_s, ur_e, ur_i, cp_k, w32_i, w64_i, w8_i] at hvc) <;> (try (exfalso; omega)))))
          all_goals (try (simp (disch := omega) only [ARs_k] at *))
          all_goals first | omega | skip
          all_goals (
            refine i_eq ej' ⟨rfl, ?_⟩
            exact Inv_come ho.1 ho.2 j _ _ w w hI hj rfl rfl rfl))
    · (repeat' (first | (with_reducible refine i_some ?_) | (with_reducible refine v_some ?_) | (with_reducible refine i_ci ?_) | (with_reducible refine i_cv ?_) | (with_reducible refine v_ci ?_) | (with_reducible refine v_cv ?_) | (with_reducible refine i_bv ?_) | (with_reducible refine v_bv ?_) | (with_reducible refine i_bw ?_) | (with_reducible refine v_bw ?_) | (with_reducible refine i_jn ?_) | (with_reducible refine v_jn ?_) | (with_reducible refine i_ck ?_ ?_) | (with_reducible refine v_ck ?_ ?_) | ((with_reducible refine i_if (fun hc => ?_) (fun hc => ?_)) <;> (try simp (disch := omega) only [not_true_eq_false, not_false_eq_true, true_and, and_true, up_r, up_k, ur_s, ur_e, ur_i, cp_k, w32_i, w64_i, w8_i] at hc) <;> (try (exfalso; omega))) | ((with_reducible refine v_if (fun hc => ?_) (fun hc => ?_)) <;> (try simp (disch := omega) only [not_true_eq_false, not_false_eq_true, true_and, and_true, up_r, up_k, ur_s, ur_e, ur_i, cp_k, w32_i, w64_i, w8_i] at hc) <;> (try (exfalso; omega))) | unfold fB_people | unfold fB_isShelf | unfold fSh_isEmpty | unfold fSh_holdsBytes | unfold fR_people | unfold fR_isShelf | ((with_reducible apply s_in) <;> (try intro hvc) <;> (try simp (disch := omega) only [not_true_eq_false, not_false_eq_true, true_and, and_true, up_r, up_k, ur_s, ur_e, ur_i, cp_k, w32_i, w64_i, w8_i] at hvc) <;> (try (exfalso; omega)))))
      all_goals first | omega | exact ⟨by omega, hI⟩
  · (repeat' (first | (with_reducible refine i_some ?_) | (with_reducible refine v_some ?_) | (with_reducible refine i_ci ?_) | (with_reducible refine i_cv ?_) | (with_reducible refine v_ci ?_) | (with_reducible refine v_cv ?_) | (with_reducible refine i_bv ?_) | (with_reducible refine v_bv ?_) | (with_reducible refine i_bw ?_) | (with_reducible refine v_bw ?_) | (with_reducible refine i_jn ?_) | (with_reducible refine v_jn ?_) | (with_reducible refine i_ck ?_ ?_) | (with_reducible refine v_ck ?_ ?_) | ((with_reducible refine i_if (fun hc => ?_) (fun hc => ?_)) <;> (try simp (disch := omega) only [not_true_eq_false, not_false_eq_true, true_and, and_true, up_r, up_k, ur_s, ur_e, ur_i, cp_k, w32_i, w64_i, w8_i] at hc) <;> (try (exfalso; omega))) | ((with_reducible refine v_if (fun hc => ?_) (fun hc => ?_)) <;> (try simp (disch := omega) only [not_true_eq_false, not_false_eq_true, true_and, and_true, up_r, up_k, ur_s, ur_e, ur_i, cp_k, w32_i, w64_i, w8_i] at hc) <;> (try (exfalso; omega))) | unfold fB_people | unfold fB_isShelf | unfold fR_people | unfold fR_isShelf | ((with_reducible apply s_in) <;> (try intro hvc) <;> (try simp (disch := omega) only [not_true_eq_false, not_false_eq_true, true_and, and_true, up_r, up_k, ur_s, ur_e, ur_i, cp_k, w32_i, w64_i, w8_i] at hvc) <;> (try (exfalso; omega)))))
    all_goals first | omega | exact ⟨by omega, hI⟩
