theorem AG1_le {f : List Int → Int} : ∀ A : List (List Int), ∀ l ∈ A, f l ≤ AG 1 f A
  | [], l, h => absurd h List.not_mem_nil
  | a :: A, l, h => by
    show f l ≤ opg 1 (f a) (AG 1 f A)
    have e : opg 1 (f a) (AG 1 f A) = mx (f a) (AG 1 f A) := by unfold opg; rw [if_neg (by decide)]
    rw [e]
    rcases List.mem_cons.mp h with rfl | h
    · unfold mx; split <;> omega
    · have := AG1_le (f := f) A l h
      unfold mx; split <;> omega
theorem AG1_att {f : List Int → Int} : ∀ A : List (List Int), 0 < AG 1 f A → ∃ l ∈ A, f l = AG 1 f A
  | [], h => by exfalso; exact absurd h (by show ¬ (0 : Int) < 0; omega)
  | a :: A, h => by
    have e : AG 1 f (a :: A) = mx (f a) (AG 1 f A) := by show opg 1 (f a) (AG 1 f A) = _; unfold opg; rw [if_neg (by decide)]
    rw [e] at h ⊢
    by_cases c : f a < AG 1 f A
    · have em : mx (f a) (AG 1 f A) = AG 1 f A := by unfold mx; rw [if_pos c]
      rw [em] at h ⊢
      obtain ⟨l, l1, l2⟩ := AG1_att A h
      exact ⟨l, List.mem_cons_of_mem a l1, l2⟩
    · have em : mx (f a) (AG 1 f A) = f a := by unfold mx; rw [if_neg c]
      rw [em]
      exact ⟨a, List.mem_cons_self, rfl⟩
theorem BEST_mem {b : Int → Int → Int} {L : List (List Int)} {t : List Int} (h : BEST b L t) : t ∈ L ∧ ∀ l ∈ L, PRD b 0 l ≤ PRD b 0 t := by
  obtain ⟨d1, d2, e, h1, h2⟩ := h
  rw [e]
  refine ⟨by simp, fun l hl => ?_⟩
  rcases List.mem_append.mp hl with hl | hl
  · have := h1 l hl; omega
  · rcases List.mem_cons.mp hl with rfl | hl
    · exact Int.le_refl _
    · exact h2 l hl
theorem BEST_AG {b : Int → Int → Int} {L : List (List Int)} {t : List Int} (h : BEST b L t) (hp : 0 < PRD b 0 t) : AG 1 (PRD b 0) L = PRD b 0 t := by
  obtain ⟨m1, m2⟩ := BEST_mem h
  have := AG1_le (f := PRD b 0) L t m1
  obtain ⟨l, l1, l2⟩ := AG1_att (f := PRD b 0) L (by omega)
  have := m2 l l1
  omega
theorem BEST_r {b : Int → Int → Int} {A B : List (List Int)} {t : List Int} (h : BEST b (A ++ B) t) (hA : ∀ l ∈ A, PRD b 0 l < PRD b 0 t) : BEST b B t := by
  obtain ⟨d1, d2, e, h1, h2⟩ := h
  rcases List.append_eq_append_iff.mp e with ⟨a', e1, e2⟩ | ⟨c', e1, e2⟩
  · exact ⟨a', d2, e2, fun l hl => h1 l (by rw [e1]; exact List.mem_append_right _ hl), h2⟩
  · cases c' with
    | nil => exact ⟨[], d2, by rw [List.nil_append] at e2; exact e2.symm, fun l hl => absurd hl List.not_mem_nil, h2⟩
    | cons x c'' =>
      rw [List.cons_append] at e2
      injection e2 with e3 e4
      have := hA t (by rw [e1, ← e3]; simp)
      omega
theorem BEST_l {b : Int → Int → Int} {A B : List (List Int)} {t : List Int} (h : BEST b (A ++ B) t) (hA : ∃ l ∈ A, PRD b 0 l = PRD b 0 t) : BEST b A t := by
  obtain ⟨d1, d2, e, h1, h2⟩ := h
  obtain ⟨l, l1, l2⟩ := hA
  rcases List.append_eq_append_iff.mp e with ⟨a', e1, e2⟩ | ⟨c', e1, e2⟩
  · have := h1 l (by rw [e1]; exact List.mem_append_left _ l1)
    omega
  · cases c' with
    | nil =>
      rw [List.append_nil] at e1
      have := h1 l (by rw [← e1]; exact l1)
      omega
    | cons x c'' =>
      rw [List.cons_append] at e2
      injection e2 with e3 e4
      exact ⟨d1, c'', by rw [e1, e3], h1, fun l hl => h2 l (by rw [e4]; exact List.mem_append_left _ hl)⟩
/-- one behind the next MASK: its block of ways -/
theorem D_blk {v b : Int → Int → Int} {S g M : Int} (hv : VB v M) (hb : ∀ m p, b m p = 0 → v m p = 0) (hpos : ∀ m p, 0 ≤ v m p) (n : Nat) (pre : List Int) (used p : Int) (hn : (pre.length : Int) + (n + 1) ≤ M) (hr : RL used pre) (hs : (pre.count 6 : Int) ≤ S) (hp : 0 ≤ p ∧ p < 7) :
    PRD v 0 pre.reverse * WO v pre.length used p (D v S g n (pre.length + 1) (usd used p)) = AG g (PRD v 0) (GW (WAYS b S n) b S pre p) := by
  obtain ⟨h1, h2, h3⟩ := id hr
  obtain ⟨p0, p1⟩ := hp
  have el : ((p :: pre).length : Int) = pre.length + 1 := by rw [List.length_cons]; omega
  unfold WO
  have ih := D_WAYS (S := S) (g := g) hv hb hpos n (p :: pre)
  rw [el] at ih
  by_cases hz : v pre.length p = 0
  · rw [if_pos hz, Int.mul_zero]
    by_cases hg : okw S pre p ∧ b pre.length p ≠ 0
    · rw [GW_y hg]
      by_cases h6 : p = 6
      · subst h6
        have hok := hg.1
        unfold okw at hok
        rw [if_pos rfl] at hok
        rw [← ih used (by omega) (RL_6 hr) (by rw [List.count_cons_self]; omega), PRD_snoc, hz, Int.mul_zero, Int.zero_mul]
      · have hok := hg.1
        unfold okw at hok
        rw [if_neg h6] at hok
        rw [← ih _ (by omega) (RL_cons hr ⟨p0, by omega⟩ hok) (by rw [List.count_cons_of_ne h6]; exact hs), PRD_snoc, hz, Int.mul_zero, Int.zero_mul]
    · rw [GW_n hg]
      rfl
  · rw [if_neg hz]
    have hbz : b pre.length p ≠ 0 := fun q => hz (hb _ _ q)
    by_cases h6 : p = 6
    · subst h6
      rw [if_neg (fun q => q.1 rfl)]
      have eu : usd used 6 = used := by unfold usd; rw [if_pos rfl]
      rw [eu]
      by_cases hc : (pre.count 6 : Int) < S
      · rw [GW_y ⟨by unfold okw; rw [if_pos rfl]; exact hc, hbz⟩, ← ih used (by omega) (RL_6 hr) (by rw [List.count_cons_self]; omega), PRD_snoc, Int.mul_assoc]
      · rw [GW_n (fun q => hc (by have := q.1; unfold okw at this; rw [if_pos rfl] at this; exact this)), D_out (by omega), Int.mul_zero, Int.mul_zero]
        rfl
    · have tt := (tbor (v := used) (p := 0) (q := p) (by omega) (by decide) (by omega)).2.2.2
      have eu : usd used p = bOr used (bShl 1 p) := by unfold usd; rw [if_neg h6]
      by_cases hu : p ∈ pre
      · have : bAnd used (bShl 1 p) ≠ 0 := tt.mpr ((h2 p p0 (by omega)).mpr hu)
        rw [if_pos ⟨h6, this⟩, GW_n (fun q => by have := q.1; unfold okw at this; rw [if_neg h6] at this; exact this hu), Int.mul_zero]
        rfl
      · have : ¬ bAnd used (bShl 1 p) ≠ 0 := fun q => hu ((h2 p p0 (by omega)).mp (tt.mp q))
        rw [if_neg (fun q => this q.2), eu, GW_y ⟨by unfold okw; rw [if_neg h6]; exact hu, hbz⟩, ← ih _ (by omega) (RL_cons hr ⟨p0, by omega⟩ hu) (by rw [List.count_cons_of_ne h6]; exact hs), PRD_snoc, Int.mul_assoc]
/-- the cells that the search for the best goes by -/
def BSC (b : Int → Int → Int) (S M P : Int) (u : WD) : Prop := u 1 5 = M ∧ RT b S 1 M P 0 u ∧ ∀ m p, 0 ≤ m → m < M → 0 ≤ p → p < 7 → u 16 (7 * m + p) = b m p
theorem l_best43 {b : Int → Int → Int} {S M P y1 : Int} {n : Nat} {pre : List Int} {used : Int} {t : List Int} {K : Int → WD → Option (Int × WD)} {Q : Int → WD → Prop} {u : WD} (hM : 0 ≤ M ∧ M ≤ 5) (hP : 0 ≤ P ∧ P ≤ 6) (hv : VB b M) (hvp : VP b M P) (hpos : ∀ m p, 0 ≤ b m p) (hB : BSC b S M P u)
    (hn : (pre.length : Int) + (n + 1) = M) (hr : RL used pre) (hs : (pre.count 6 : Int) ≤ S) (hu : used < bShl 1 P) (hC : 0 < PRD b 0 pre.reverse) (hG : PRD b 0 pre.reverse * D b S 1 (n + 1) pre.length used = PRD b 0 t)
    (hK : ∀ p, 0 ≤ p → p < 7 → BEST b (GW (WAYS b S n) b S pre p) t → WI (K p u) Q) : ∀ (k f : Nat) (p : Int), k + p = 6 → 0 ≤ p → 6 - p < f → BEST b ((pfrom (k + 1) p).flatMap (GW (WAYS b S n) b S pre)) t → WI (fTh_bestWay_l43 y1 used pre.length K f p u) Q
  | _, 0, p, _, _, h, _ => by exfalso; omega
  | k, f + 1, p, hk, h0, h1, hT => by
    show WI (fTh_bestWay_l43_b (fTh_bestWay_l43 y1 used pre.length K f) y1 used pre.length K p u) Q
    unfold fTh_bestWay_l43_b fTh_staysGreatest
    obtain ⟨b1, b2, b3⟩ := id hB
    obtain ⟨r1, r2, r3⟩ := id hr
    have h64 := shl_64 hP
    have epf : (pfrom (k + 1) p).flatMap (GW (WAYS b S n) b S pre) = GW (WAYS b S n) b S pre p ++ (pfrom k (p + 1)).flatMap (GW (WAYS b S n) b S pre) := by
      show (p :: pfrom k (p + 1)).flatMap _ = _
      rw [List.flatMap_cons]
    rw [epf] at hT
    by_cases h6 : 6 ≤ p
    · have k0 : k = 0 := by omega
      subst k0
      rw [show (pfrom 0 (p + 1)).flatMap (GW (WAYS b S n) b S pre) = [] from rfl, List.append_nil] at hT
      exact i_if (fun _ => hK p h0 (by omega) hT) (fun q => absurd h6 q)
    · have e63 : bAnd used 63 = used := by
        obtain ⟨i, rfl⟩ : ∃ i : Fin 64, used = (i.val : Int) := ⟨⟨used.toNat, by omega⟩, (Int.toNat_of_nonneg r1.1).symm⟩
        exact (by decide +kernel : ∀ (i : Fin 64), bAnd (i.val : Int) 63 = (i.val : Int)) i
      have b4 := BN_4 (n := n) (by omega)
      rw [e63, w32_i (x := p + 1) (by omega) (by omega), w32_i (x := 64 * (pre.length : Int)) (by omega) (by omega), w32_i (x := 64 * (pre.length : Int) + used) (by omega) (by omega)]
      refine i_if (fun q => absurd q h6) (fun _ => i_ci (i_ci ?_))
      refine s_withOne (v := b) (m := pre.length) (M := M) (P := P) (F := fun q => D b S 1 n (pre.length + 1) q) ⟨by omega, by omega⟩ hM.2 hP ⟨r1.1, hu⟩ ⟨h0, by omega⟩ hv hvp (b3 _ p (by omega) (by omega) h0 (by omega)) (fun q q0 q1 => ?_) (i_ck (by omega) ?_)
      · have e := b2 (pre.length + 1) q (by omega) (by omega) q0 q1
        rw [show (M - ((pre.length : Int) + 1)).toNat = n by omega] at e
        have di := D_in (S := S) (g := 1) hv n (pre.length + 1) q (by omega) (by omega)
        exact ⟨e, di.1, by omega⟩
      · have er := b2 pre.length used (by omega) (by omega) r1.1 hu
        rw [show (M - (pre.length : Int)).toNat = n + 1 by omega] at er
        rw [er]
        have blk := D_blk (v := b) (b := b) (S := S) (g := 1) (M := M) hv (fun _ _ q => q) hpos n pre used p (by omega) hr hs ⟨h0, by omega⟩
        have tm := BEST_mem hT
        have hGp : 0 < PRD b 0 t ∨ PRD b 0 t = 0 := by have := PRD_ge hpos t 0; omega
        refine i_if (fun q => i_some (i_if (fun c => absurd rfl c) (fun _ => i_bv ?_))) (fun q => i_some (i_if (fun _ => hK p h0 (by omega) ?_) (fun c => absurd (by decide) c)))
        · -- less than the greatest
          obtain ⟨k, rfl⟩ : ∃ k', k = k' + 1 := ⟨k - 1, by omega⟩
          refine l_best43 hM hP hv hvp hpos hB hn hr hs hu hC hG hK k f (p + 1) (by omega) (by omega) (by omega) (BEST_r hT (fun l hl => ?_))
          have h1' := tm.2 l (List.mem_append_left _ hl)
          have h2' := AG1_le (f := PRD b 0) _ l hl
          rw [← blk] at h2'
          rcases Int.lt_or_eq_of_le h1' with z | z
          · exact z
          · exfalso
            apply q
            have h3' : AG 1 (PRD b 0) (GW (WAYS b S n) b S pre p) ≤ PRD b 0 t := by
              rcases hGp with hg | hg
              · by_cases hz : 0 < AG 1 (PRD b 0) (GW (WAYS b S n) b S pre p)
                · obtain ⟨l', l1', l2'⟩ := AG1_att (f := PRD b 0) _ hz
                  have := tm.2 l' (List.mem_append_left _ l1')
                  omega
                · omega
              · by_cases hz : 0 < AG 1 (PRD b 0) (GW (WAYS b S n) b S pre p)
                · obtain ⟨l', l1', l2'⟩ := AG1_att (f := PRD b 0) _ hz
                  have := tm.2 l' (List.mem_append_left _ l1')
                  omega
                · omega
            rw [← blk] at h3'
            have e : PRD b 0 pre.reverse * WO b pre.length used p (D b S 1 n (pre.length + 1) (usd used p)) = PRD b 0 pre.reverse * D b S 1 (n + 1) pre.length used := by rw [hG]; omega
            exact Int.eq_of_mul_eq_mul_left (by omega) e
        · have qe : WO b pre.length used p (D b S 1 n (pre.length + 1) (usd used p)) = D b S 1 (n + 1) pre.length used := by
            exact Decidable.not_not.mp q
          rw [qe, hG] at blk
          refine BEST_l hT ?_
          rcases hGp with hg | hg
          · obtain ⟨l', l1', l2'⟩ := AG1_att (f := PRD b 0) (GW (WAYS b S n) b S pre p) (by omega)
            exact ⟨l', l1', by omega⟩
          · exfalso
            have t0 := tm.1
            have : PRD b 0 t = 0 := hg
            -- a way counts above 0
            rcases List.mem_append.mp t0 with z | z
            · have := AG1_le (f := PRD b 0) _ t z
              have hpp : ∀ (n : Nat) (pre : List Int), 0 < PRD b 0 pre.reverse → ∀ l ∈ WAYS b S n pre, 0 < PRD b 0 l := by
                intro n
                induction n with
                | zero => intro pre hp l hl; unfold WAYS at hl; rw [List.mem_singleton.mp hl]; exact hp
                | succ n ih =>
                  intro pre hp l hl
                  unfold WAYS at hl
                  obtain ⟨p', hp1, hp2⟩ := List.mem_flatMap.mp hl
                  by_cases hh : okw S pre p' ∧ b pre.length p' ≠ 0
                  · rw [GW_y hh] at hp2
                    refine ih (p' :: pre) ?_ l hp2
                    rw [PRD_snoc]
                    have := hpos pre.length p'
                    exact Int.mul_pos hp (by omega)
                  · rw [GW_n hh] at hp2; exact absurd hp2 List.not_mem_nil
              by_cases hh : okw S pre p ∧ b pre.length p ≠ 0
              · rw [GW_y hh] at z
                have := hpp n (p :: pre) (by rw [PRD_snoc]; have := hpos pre.length p; exact Int.mul_pos hC (by omega)) t z
                omega
              · rw [GW_n hh] at z; exact absurd z List.not_mem_nil
            · have hpp : ∀ (n : Nat) (pre : List Int), 0 < PRD b 0 pre.reverse → ∀ l ∈ WAYS b S n pre, 0 < PRD b 0 l := by
                intro n
                induction n with
                | zero => intro pre hp l hl; unfold WAYS at hl; rw [List.mem_singleton.mp hl]; exact hp
                | succ n ih =>
                  intro pre hp l hl
                  unfold WAYS at hl
                  obtain ⟨p', hp1, hp2⟩ := List.mem_flatMap.mp hl
                  by_cases hh : okw S pre p' ∧ b pre.length p' ≠ 0
                  · rw [GW_y hh] at hp2
                    refine ih (p' :: pre) ?_ l hp2
                    rw [PRD_snoc]
                    have := hpos pre.length p'
                    exact Int.mul_pos hp (by omega)
                  · rw [GW_n hh] at hp2; exact absurd hp2 List.not_mem_nil
              obtain ⟨p', hp1, hp2⟩ := List.mem_flatMap.mp z
              by_cases hh : okw S pre p' ∧ b pre.length p' ≠ 0
              · rw [GW_y hh] at hp2
                have := hpp n (p' :: pre) (by rw [PRD_snoc]; have := hpos pre.length p'; exact Int.mul_pos hC (by omega)) t hp2
                omega
              · rw [GW_n hh] at hp2; exact absurd hp2 List.not_mem_nil
theorem l_best16 {b : Int → Int → Int} {S M P y1 : Int} {t : List Int} {Q : Int → WD → Prop} (hM : 0 ≤ M ∧ M ≤ 5) (hP : 0 ≤ P ∧ P ≤ 6) (hv : VB b M) (hvp : VP b M P) (hpos : ∀ m p, 0 ≤ b m p) (hy : 0 < y1) (ht : 0 < PRD b 0 t) : ∀ (n f : Nat) (pre : List Int) (used : Int) (u : WD), n < f → (pre.length : Int) + n = M → RL used pre → (pre.count 6 : Int) ≤ S → used < bShl 1 P → 0 < PRD b 0 pre.reverse → PRD b 0 pre.reverse * D b S 1 n pre.length used = PRD b 0 t → BEST b (WAYS b S n pre) t → BSC b S M P u → (∀ i : Int, 0 ≤ i → i < pre.length → u 18 i = nth pre.reverse i) →
    (∀ v, (∀ k, k ≠ 18 → v k = u k) → (∀ i, 0 ≤ i → i < M → v 18 i = nth t i) → Q y1 v) → WI (fTh_bestWay_l16 y1 f used pre.length u) Q
  | _, 0, _, _, _, h, _, _, _, _, _, _, _, _, _, _ => by exfalso; omega
  | 0, f + 1, pre, used, u, hf, hn, hr, hs, hu, hC, hG, hT, hB, h18, hQ => by
    show WI (fTh_bestWay_l16_b (fTh_bestWay_l16 y1 f) y1 used pre.length u) Q
    unfold fTh_bestWay_l16_b fHa_masks
    unfold WAYS at hT
    have e := List.mem_singleton.mp (BEST_mem hT).1
    rw [hB.1]
    exact i_ci (i_some (i_if (fun _ => i_some (hQ u (fun _ _ => rfl) (fun i a c => by rw [e]; exact h18 i a (by omega)))) (fun q => by exfalso; omega)))
  | n + 1, f + 1, pre, used, u, hf, hn, hr, hs, hu, hC, hG, hT, hB, h18, hQ => by
    show WI (fTh_bestWay_l16_b (fTh_bestWay_l16 y1 f) y1 used pre.length u) Q
    unfold fTh_bestWay_l16_b fHa_masks
    rw [hB.1]
    refine i_ci (i_some (i_if (fun q => by exfalso; omega) (fun _ => i_if (fun q => by exfalso; omega) (fun _ => i_if (fun q => by exfalso; omega) (fun _ => ?_)))))
    refine l_best43 hM hP hv hvp hpos hB (by omega) hr hs hu hC hG (fun p p0 p1 hb => i_ck (by omega) (i_bw ?_)) 6 FU 0 (by decide) (by decide) (by decide) hT
    have hh : okw S pre p ∧ b pre.length p ≠ 0 := by
      rcases Classical.em (okw S pre p ∧ b pre.length p ≠ 0) with z | z
      · exact z
      · rw [GW_n z] at hb; exact absurd (BEST_mem hb).1 List.not_mem_nil
    rw [GW_y hh] at hb
    have hC' : 0 < PRD b 0 (p :: pre).reverse := by rw [PRD_snoc]; have := hpos pre.length p; exact Int.mul_pos hC (by omega)
    have el : ((p :: pre).length : Int) = pre.length + 1 := by rw [List.length_cons]; omega
    have h18' : ∀ i : Int, 0 ≤ i → i < (p :: pre).length → up u 18 pre.length p 18 i = nth (p :: pre).reverse i := fun i a c => by
      by_cases z : i = pre.length
      · subst z; rw [up_s, nth_rev_last]
      · rw [up_i z, nth_rev_cons a (by omega)]; exact h18 i a (by omega)
    have hB' : BSC b S M P (up u 18 pre.length p) := ⟨by rw [up_k (by decide)]; exact hB.1, fun m' q a c d e => by rw [up_k (by decide)]; exact hB.2.1 m' q a c d e, by rw [up_k (by decide)]; exact hB.2.2⟩
    have go : ∀ used', RL used' (p :: pre) → ((p :: pre).count 6 : Int) ≤ S → used' < bShl 1 P → WI (fTh_bestWay_l16 y1 f used' (pre.length + 1) (up u 18 pre.length p)) Q := by
      intro used' r' s' u'
      have dw := D_WAYS (v := b) (b := b) (S := S) (g := 1) (M := M) hv (fun _ _ q => q) hpos n (p :: pre) used' (by omega) r' s'
      rw [BEST_AG hb ht] at dw
      rw [← el]
      exact l_best16 hM hP hv hvp hpos hy ht n f (p :: pre) used' _ (by omega) (by omega) r' s' u' hC' dw hb hB' h18' (fun v v1 v2 => hQ v (fun k hk => by rw [v1 k hk, up_k hk]) v2)
    unfold fTh_usedWith
    rw [w32_i (x := (pre.length : Int) + 1) (by omega) (by omega)]
    have hok := hh.1
    unfold okw at hok
    refine i_ci (i_if (fun c => i_some (i_bv (go _ ?_ ?_ ?_))) (fun c => i_some (i_bv (go _ ?_ ?_ hu))))
    · rw [if_neg c] at hok
      exact RL_cons hr ⟨p0, by omega⟩ hok
    · rw [List.count_cons_of_ne c]; exact hs
    · have := hvp pre.length p (by omega) (by omega) p0 p1 hh.2
      exact (or_lt hP ⟨hr.1.1, hu⟩ ⟨p0, by omega⟩).2
    · have c6 : p = 6 := Decidable.not_not.mp c
      rw [c6]
      exact RL_6 hr
    · have c6 : p = 6 := Decidable.not_not.mp c
      rw [c6, if_pos rfl] at hok
      rw [c6, List.count_cons_self]
      omega
/-- the best of all ways -/
theorem s_bestWay {w u : WD} {law : Option LINES} {Q : Int → WD → Prop} (h : TP w law) (hT : TH w law (Wf w law (SN w)) (MAYw w) u) (h0 : LL w law (SN w) (MAYw w) = [] → ∀ v, Same w v → Q 0 v) (h1 : ∀ t v, BEST (BY (Wf w law (SN w)) (MAYw w)) (LL w law (SN w) (MAYw w)) t → 0 < PRD (BY (Wf w law (SN w)) (MAYw w)) 0 t → Same w v → v 46 = u 46 → (∀ i, 0 ≤ i → i < w 1 5 → v 18 i = nth t i) → Q (PRD (BY (Wf w law (SN w)) (MAYw w)) 0 t) v) : WI (fTh_bestWay u) Q := by
  obtain ⟨k1, k2, k3⟩ := PV_ok (law := law) (sn := SN w) (may := MAYw w) h.1 h.2.2.1.2.1 1
  have hS := (HV_47 h.1).2
  rw [PV1] at k1 k2
  have key := s_priced (wd := 1) (g := 1) (Q := fun r v => WI (fTh_bestWay_l16 r FU 0 0 v) Q) h.1 h.2.2.1 hT (MOK_w h) (fun v v1 v2 v3 => ?_)
  · unfold fTh_bestWay
    obtain ⟨r, y, e, hy⟩ := key
    unfold cv at e ⊢
    cases hp : fTh_price 1 u with
    | none => rw [hp] at e; cases e
    | some z =>
      rw [hp] at e
      exact i_ci ⟨r, y, e, hy⟩
  · rw [PV1] at v2 v3 ⊢
    have vs := hT.1.trans v1.same
    have e5 := congrFun (vs.r 1 (by decide)) 5
    by_cases hL : LL w law (SN w) (MAYw w) = []
    · rw [hL]
      show WI (fTh_bestWay_l16_b (fTh_bestWay_l16 0 1999) 0 0 0 v) Q
      unfold fTh_bestWay_l16_b fHa_masks
      exact i_ci (i_some (i_if (fun _ => i_some (h0 hL v vs)) (fun _ => i_if (fun _ => i_some (h0 hL v vs)) (fun _ => i_if (fun _ => i_some (h0 hL v vs)) (fun q => absurd (Int.le_refl 0) q)))))
    · -- the first of the greatest
      have ex : ∀ L : List (List Int), L ≠ [] → ∃ t, BEST (BY (Wf w law (SN w)) (MAYw w)) L t := by
        intro L
        induction L with
        | nil => intro q; exact absurd rfl q
        | cons a L ih =>
          intro _
          by_cases hn : L = []
          · exact ⟨a, [], [], by rw [hn]; rfl, fun l hl => absurd hl List.not_mem_nil, fun l hl => absurd hl List.not_mem_nil⟩
          · obtain ⟨t, d1, d2, e, b1, b2⟩ := ih hn
            by_cases c : PRD (BY (Wf w law (SN w)) (MAYw w)) 0 a < PRD (BY (Wf w law (SN w)) (MAYw w)) 0 t
            · exact ⟨t, a :: d1, d2, by rw [e]; rfl, fun l hl => by rcases List.mem_cons.mp hl with rfl | hl; exact c; exact b1 l hl, b2⟩
            · refine ⟨a, [], L, rfl, fun l hl => absurd hl List.not_mem_nil, fun l hl => ?_⟩
              rw [e] at hl
              rcases List.mem_append.mp hl with hl | hl
              · have := b1 l hl; omega
              · rcases List.mem_cons.mp hl with rfl | hl
                · omega
                · have := b2 l hl; omega
      obtain ⟨t, ht⟩ := ex _ hL
      have tp := LL_pos (law := law) (sn := SN w) (may := MAYw w) h.1 h.2.2.1.2.1 h.2.2.1.2.2.1 t (BEST_mem ht).1
      rw [BEST_AG ht tp]
      have da := D_all (v := BY (Wf w law (SN w)) (MAYw w)) (b := BY (Wf w law (SN w)) (MAYw w)) (S := w 2 47) (g := 1) (M := w 1 5) h.2.2.1.2.2.1 hS.1 (fun m p _ _ _ _ => k1 m p) (fun _ _ q => q) (fun m p => (k1 m p).1)
      have sh := shl_64 (P := w 1 4) ⟨h.2.2.1.1, h.2.2.1.2.1⟩
      refine l_best16 (b := BY (Wf w law (SN w)) (MAYw w)) (S := w 2 47) (M := w 1 5) (P := w 1 4) (t := t) ⟨h.2.2.1.2.2.1, h.2.2.1.2.2.2⟩ ⟨h.2.2.1.1, h.2.2.1.2.1⟩ (fun m p _ _ _ _ => k1 m p) (fun m p _ _ _ _ q => k2 m p q) (fun m p => (k1 m p).1) tp tp (w 1 5).toNat FU [] 0 v (by have := h.2.2.1.2.2.2; unfold FU; omega) (by have := h.2.2.1.2.2.1; simp; omega) RL_0 (by simp; exact hS.1) (by omega) (show (0 : Int) < 1 by omega) ?_ ht ⟨e5, v2, v3⟩ (fun i a c => by simp at c; omega) (fun y y1 y2 => h1 t y ht tp ?_ ?_ y2)
      · show 1 * D _ _ _ _ _ _ = _
        rw [Int.one_mul]
        have e := BEST_AG ht tp
        unfold LL at e
        rw [← e]
        exact da
      · exact vs.trans ⟨fun k hk => y1 k (by intro e; subst e; exact hk (by decide)), by rw [y1 6 (by decide)], by rw [y1 6 (by decide)], fun i _ => by rw [y1 46 (by decide)]⟩
      · rw [y1 46 (by decide), v1 46 (by decide) (by decide)]
theorem BEST_1 {b : Int → Int → Int} : ∀ {L : List (List Int)} {t t' : List Int}, BEST b L t → BEST b L t' → t = t' := by
  intro L t t' h h'
  have m1 := BEST_mem h
  have m2 := BEST_mem h'
  have e1 := m1.2 t' m2.1
  have e2 := m2.2 t m1.1
  obtain ⟨d1, d2, e, a1, a2⟩ := h
  obtain ⟨d1', d2', e', a1', a2'⟩ := h'
  rw [e] at e'
  rcases List.append_eq_append_iff.mp e' with ⟨c, c1, c2⟩ | ⟨c, c1, c2⟩
  · cases c with
    | nil => rw [List.nil_append] at c2; injection c2
    | cons x c =>
      rw [List.cons_append] at c2
      injection c2 with c3 c4
      have := a1' t (by rw [c1, c3]; simp)
      omega
  · cases c with
    | nil => rw [List.nil_append] at c2; injection c2 with c3 c4; exact c3.symm
    | cons x c =>
      rw [List.cons_append] at c2
      injection c2 with c3 c4
      have := a1 t' (by rw [c1, c3]; simp)
      omega
theorem op_best : op1 Inv fB_best fR_best := by
  intro m w hmI hI
  obtain ⟨law, tp⟩ := TP_of hI
  have m5 := tp.2.2.1.2.2.2
  have m0 := tp.2.2.1.2.2.1
  have r4 := tp.2.2.2.1
  refine same_of ?_
  by_cases hm : m = -1 ∨ (0 ≤ m ∧ m < w 1 5)
  · unfold fB_best
    have ref : ∀ (u : WD) (r : Int), Same w u → (LL w law (SN w) (MAYw w) = [] → r = -2) → (∀ t, BEST (BY (Wf w law (SN w)) (MAYw w)) (LL w law (SN w) (MAYw w)) t → r = if m = -1 then PRD (BY (Wf w law (SN w)) (MAYw w)) 0 t else nth t m) → WI (fR_best m u) (fun r' y => r' = r ∧ Inv y) := by
      intro u r hu q0 q1
      have u4 := hu.f 4 (by decide)
      unfold fR_best
      rw [u4, r4, w32_i (x := w 1 5 - 1) (by omega) (by omega)]
      refine i_ci (s_in (fun _ => i_if (fun _ => i_cv (t_find tp (TR_of tp hu) (fun y y1 y2 _ => ?_))) (fun q => absurd (by decide) q)) (fun q => by exfalso; omega))
      have iy := Inv_same (Inv_same hI hu) y1.same
      obtain ⟨⟨a1, -, -⟩, a2, a3, -⟩ := y2
      rw [a1]
      refine i_if (fun q => ?_) (fun q => i_some ⟨(q0 (List.length_eq_zero_iff.mp (by omega))).symm, iy⟩)
      have hne : LL w law (SN w) (MAYw w) ≠ [] := fun e => q (by rw [e]; rfl)
      obtain ⟨t, t1, t2, t3⟩ := a3 hne
      have e := q1 t t1
      refine i_if (fun c => i_ck (by omega) (i_some ⟨?_, iy⟩)) (fun c => i_some ⟨?_, iy⟩)
      · rw [e, if_neg (by omega)]
        exact t3 m c (by omega)
      · rw [e, if_pos (by omega)]
        exact t2
    have go : ∀ (K : Int → WD → Option (Int × WD)), True → WI (cv (fTh_load w) <| fun (u2 : WD) => ci (fTh_bestWay u2) <| fun (r4 : Int) (u3 : WD) => if 0 < r4 then (if m ≠ (-1) then (ci (fTh_inWay m u3) <| fun (r6 : Int) (u5 : WD) => some (r6, u5)) else (some (r4, u3))) else (some ((-2), u3))) (fun r u => WI (fR_best m u) (fun r' v => r' = r ∧ Inv v)) := by
      intro _ _
      refine i_cv (t_load tp Same.rfl' (fun v v1 v2 => i_ci (s_bestWay tp v2 (fun hL y y1 => ?_) (fun t y t1 t2 y1 _ y2 => ?_))))
      · refine i_if (fun q => absurd q (by decide)) (fun _ => i_some (ref y _ y1 (fun _ => rfl) (fun t t1 => ?_)))
        have := (BEST_mem t1).1
        rw [hL] at this
        exact absurd this List.not_mem_nil
      · have hne : LL w law (SN w) (MAYw w) ≠ [] := fun e => by have := (BEST_mem t1).1; rw [e] at this; exact absurd this List.not_mem_nil
        refine i_if (fun _ => i_if (fun q => i_ci ?_) (fun q => i_some (ref y _ y1 (fun e => absurd e hne) (fun t' t1' => ?_)))) (fun q => absurd t2 q)
        · unfold fTh_inWay
          refine i_if (fun z => by exfalso; omega) (fun _ => i_if (fun z => by exfalso; omega) (fun _ => i_ck (by omega) (i_some (i_some (ref y _ y1 (fun e => absurd e hne) (fun t' t1' => ?_))))))
          rw [if_neg q, BEST_1 t1' t1]
          exact y2 m (by omega) (by omega)
        · rw [if_pos (by omega), BEST_1 t1' t1]
    refine i_jn (i_if (fun q => go (fun _ _ => none) trivial) (fun q => i_ci (s_isMaskC (fun _ => i_if (fun _ => go (fun _ _ => none) trivial) (fun z => absurd (by decide) z)) (fun z => by exfalso; omega))))
  · have bad : ∀ a b : Int, a = w 46 4 → WI (fR_best m w) (fun r' v => r' = -9223372036854775808 ∧ Inv v) := by
      intro _ _ _
      unfold fR_best
      rw [r4, w32_i (x := w 1 5 - 1) (by omega) (by omega)]
      exact i_ci (s_in (fun z => by exfalso; omega) (fun _ => i_if (fun z => absurd rfl z) (fun _ => i_some ⟨rfl, hI⟩)))
    unfold fB_best
    refine i_jn (i_if (fun q => absurd (Or.inl q) hm) (fun q => i_ci (s_isMaskC (fun z => absurd (Or.inr z) hm) (fun _ => i_if (fun z => absurd rfl z) (fun _ => i_some (bad _ 0 rfl))))))
