/-! THE TEXT OF A LAW: the reference takes the new law -/
theorem l_cp58 {L : Int} {K : WD → Option (Int × WD)} {Q : Int → WD → Prop} : ∀ (f : Nat) (x : Int) (u : WD), 0 ≤ x → x ≤ L → L - x < f → u 46 20 = L → L ≤ 130 →
    (∀ v, (∀ k, k ≠ 58 → k ≠ 59 → v k = u k) → (∀ i, x ≤ i → i < L → v 58 i = w8 (u 58 (130 + i)) ∧ v 59 i = u 59 (130 + i)) → (∀ i, i < x ∨ L ≤ i → v 58 i = u 58 i ∧ v 59 i = u 59 i) → WI (K v) Q) → WI (fR_readText_l105 0 K f x u) Q
  | 0, x, u, h0, h1, hf, _, _, _ => absurd hf (by omega)
  | f + 1, x, u, h0, h1, hf, h2, h3, h => by
    show WI (fR_readText_l105_b (fR_readText_l105 0 K f) 0 K x u) Q
    unfold fR_readText_l105_b
    have e0 : w32 (130 * 0) = 0 := by decide
    rw [e0, w32_i (x := 130 + x) (by omega) (by omega), w32_i (x := 0 + x) (by omega) (by omega), w32_i (x := x + 1) (by omega) (by omega), show 0 + x = x by omega]
    refine i_if (fun z => h u (fun _ _ _ => rfl) (fun i i0 i1 => absurd i1 (by omega)) (fun i _ => ⟨rfl, rfl⟩)) (fun z => i_ck (by omega) (i_ck (by omega) (i_bw (i_ck (by omega) (i_ck (by omega) (i_bw (i_bv ?_)))))))
    refine l_cp58 f (x + 1) _ (by omega) (by omega) (by omega) (by rw [up_k (by omega), up_k (by omega)]; exact h2) h3 (fun v v1 v2 v3 => h v (fun k k1 k2 => by rw [v1 k k1 k2, up_k k2, up_k k1]) (fun i i0 i1 => ?_) (fun i hi => ?_))
    · by_cases ix : i = x
      · obtain ⟨y1, y2⟩ := v3 i (by omega)
        rw [y1, y2, ix]
        exact ⟨by rw [up_k (by omega), up_s], by rw [up_s, up_k (by omega)]⟩
      · obtain ⟨y1, y2⟩ := v2 i (by omega) i1
        rw [y1, y2]
        exact ⟨by rw [up_k (by omega), up_i (by omega)], by rw [up_i (by omega), up_k (by omega)]⟩
    · obtain ⟨y1, y2⟩ := v3 i (by omega)
      rw [y1, y2]
      exact ⟨by rw [up_k (by omega), up_i (by omega)], by rw [up_i (by omega), up_k (by omega)]⟩
theorem l_cp61 {M : Int} {Q : Int → WD → Prop} : ∀ (f : Nat) (x : Int) (u : WD), 0 ≤ x → x ≤ M → M - x < f → u 60 0 = M → M ≤ 61 →
    (∀ v, (∀ k, k ≠ 61 → k ≠ 62 → v k = u k) → (∀ i, x ≤ i → i < M → v 61 i = w16 (u 61 (61 + i)) ∧ v 62 i = w16 (u 62 (61 + i))) → (∀ i, i < x ∨ M ≤ i → v 61 i = u 61 i ∧ v 62 i = u 62 i) → Q (-1) v) → WI (fR_readText_l177 0 f x u) Q
  | 0, x, u, h0, h1, hf, _, _, _ => absurd hf (by omega)
  | f + 1, x, u, h0, h1, hf, h2, h3, h => by
    show WI (fR_readText_l177_b (fR_readText_l177 0 f) 0 x u) Q
    unfold fR_readText_l177_b
    have e0 : w32 (61 * 0) = 0 := by decide
    rw [e0, w32_i (x := 61 + x) (by omega) (by omega), w32_i (x := 0 + x) (by omega) (by omega), w32_i (x := x + 1) (by omega) (by omega), show 0 + x = x by omega]
    refine i_ck (by omega) (i_if (fun z => i_some (h u (fun _ _ _ => rfl) (fun i i0 i1 => absurd i1 (by omega)) (fun i _ => ⟨rfl, rfl⟩))) (fun z => i_ck (by omega) (i_ck (by omega) (i_bw (i_ck (by omega) (i_ck (by omega) (i_bw (i_bv ?_))))))))
    refine l_cp61 f (x + 1) _ (by omega) (by omega) (by omega) (by rw [up_k (by omega), up_k (by omega)]; exact h2) h3 (fun v v1 v2 v3 => h v (fun k k1 k2 => by rw [v1 k k1 k2, up_k k2, up_k k1]) (fun i i0 i1 => ?_) (fun i hi => ?_))
    · by_cases ix : i = x
      · obtain ⟨y1, y2⟩ := v3 i (by omega)
        rw [y1, y2, ix]
        exact ⟨by rw [up_k (by omega), up_s], by rw [up_s, up_k (by omega)]⟩
      · obtain ⟨y1, y2⟩ := v2 i (by omega) i1
        rw [y1, y2]
        exact ⟨by rw [up_k (by omega), up_i (by omega)], by rw [up_i (by omega), up_k (by omega)]⟩
    · obtain ⟨y1, y2⟩ := v3 i (by omega)
      rw [y1, y2]
      exact ⟨by rw [up_k (by omega), up_i (by omega)], by rw [up_i (by omega), up_k (by omega)]⟩
