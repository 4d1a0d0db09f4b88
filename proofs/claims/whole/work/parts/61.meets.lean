def RCT (h g : Int → Int) : Nat → Int → Int
  | 0, _ => 0
  | k + 1, x => (if g x = h x then 1 else 0) + RCT h g k (x + 1)
theorem RCT_in {h g : Int → Int} : ∀ (k : Nat) (x : Int), 0 ≤ RCT h g k x ∧ RCT h g k x ≤ k
  | 0, x => by unfold RCT; omega
  | k + 1, x => by
    have := RCT_in (h := h) (g := g) k (x + 1)
    unfold RCT
    split <;> omega
theorem RCT_eq {h g h' g' : Int → Int} : ∀ (k : Nat) (x : Int), (∀ i, x ≤ i → i < x + k → h i = h' i ∧ g i = g' i) → RCT h g k x = RCT h' g' k x
  | 0, x, _ => rfl
  | k + 1, x, e => by
    unfold RCT
    rw [(e x (by omega) (by omega)).1, (e x (by omega) (by omega)).2, RCT_eq k (x + 1) (fun i a b => e i (by omega) (by omega))]
/-- what a way changes, from a mask on -/
def MT (w v : WD) (M is x : Int) : Prop := (∀ k, k ≠ 46 → k ≠ 68 → k ≠ 69 → v k = w k) ∧ (∀ i, i ≠ 36 → i ≠ 37 → i ≠ 41 → v 46 i = w 46 i) ∧
  (∀ i, i < x → v 69 i = w 69 i) ∧ (∀ i, x ≤ i → i < M → v 69 i = if w 46 31 = 0 then w 66 i else w 69 i) ∧
  (∀ i p, 0 ≤ i → i < M → 0 ≤ p → p < 7 → v 68 (7 * i + p) = if x ≤ i ∧ w 66 i = p then w64 (w 68 (7 * i + p) + is) else w 68 (7 * i + p)) ∧
  ((0 ≤ v 46 36 ∧ v 46 36 < 128) ∧ ∀ i, 0 ≤ i → i < 7 → (tb (v 46 36) i ↔ tb (w 46 36) i ∧ ¬ (x ≤ i ∧ i < M ∧ w 46 31 ≠ 0 ∧ w 66 i ≠ w 69 i))) ∧
  ((0 ≤ v 46 37 ∧ v 46 37 < 128) ∧ ∀ p, 0 ≤ p → p < 7 → (tb (v 46 37) p ↔ tb (w 46 37) p ∧ ¬ ∃ i, x ≤ i ∧ i < M ∧ w 66 i = p)) ∧
  ((0 ≤ v 46 41 ∧ v 46 41 < 128) ∧ ∀ i, 0 ≤ i → i < 7 → (tb (v 46 41) i ↔ tb (w 46 41) i ∨ (x ≤ i ∧ i < M ∧ w 70 i = w 66 i)))
theorem l_meets5 {M is : Int} {K : Int → WD → Option WD} {P : WD → Prop} (hM : 0 ≤ M ∧ M ≤ 5) : ∀ (f : Nat) (r x : Int) (u : WD), 0 ≤ x → x ≤ M → M - x < f → u 46 4 = M → (∀ i, 0 ≤ i → i < M → 0 ≤ u 66 i ∧ u 66 i < 7) → (0 ≤ u 46 36 ∧ u 46 36 < 128) → (0 ≤ u 46 37 ∧ u 46 37 < 128) → (0 ≤ u 46 41 ∧ u 46 41 < 128) → (0 ≤ r ∧ r ≤ x) →
    (∀ v, MT u v M is x → WV (K (r + RCT (u 66) (u 70) (M - x).toNat x) v) P) → WV (fR_meets_l5 is K f r x u) P
  | 0, r, x, u, _, _, h, _, _, _, _, _, _, _ => by exfalso; omega
  | f + 1, r, x, u, h1, h2, h3, h4, hw, b36, b37, b41, hr, hK => by
    show WV (fR_meets_l5_b (fR_meets_l5 is K f) is K r x u) P
    unfold fR_meets_l5_b
    rw [h4, w32_i (x := 7 * x) (by omega) (by omega), w32_i (x := x + 1) (by omega) (by omega), w32_i (x := r + 1) (by omega) (by omega)]
    refine v_if (fun z => ?_) (fun z => v_jn ?_)
    · have e := hK u ⟨fun _ _ _ _ => rfl, fun _ _ _ _ => rfl, fun _ _ => rfl, fun i a b => by omega, fun i p a b c d => by rw [if_neg (by omega)], ⟨b36, fun i a b => ⟨fun q => ⟨q, fun q' => by omega⟩, fun q => q.1⟩⟩, ⟨b37, fun p a b => ⟨fun q => ⟨q, fun ⟨i, q1, q2, _⟩ => by omega⟩, fun q => q.1⟩⟩, ⟨b41, fun i a b => ⟨Or.inl, fun q => q.elim id (fun q => by omega)⟩⟩⟩
      rw [show (M - x).toNat = 0 by omega] at e
      unfold RCT at e
      rw [Int.add_zero] at e
      exact e
    · obtain ⟨k, hk⟩ : ∃ k : Nat, (M - x).toNat = k + 1 := ⟨(M - x).toNat - 1, by omega⟩
      have hk' : (M - (x + 1)).toNat = k := by omega
      rw [hk] at hK
      unfold RCT at hK
      obtain ⟨wx0, wx1⟩ := hw x h1 (by omega)
      -- one step, all told
      have step : ∀ (c : Int) (u1 u2 : WD), (∀ k, k ≠ 69 → u1 k = u k) → (∀ i, i ≠ x → u1 69 i = u 69 i) → (u1 69 x = if u 46 31 = 0 then u 66 x else u 69 x) →
          (∀ k, k ≠ 46 → u2 k = u1 k) → (∀ i, i ≠ 36 → u2 46 i = u 46 i) → ((0 ≤ u2 46 36 ∧ u2 46 36 < 128) ∧ ∀ i, 0 ≤ i → i < 7 → (tb (u2 46 36) i ↔ tb (u 46 36) i ∧ ¬ (i = x ∧ u 46 31 ≠ 0 ∧ u 66 i ≠ u 69 i))) → WV (ck (0 ≤ x ∧ x < 5) <| bw (up u2 46 37 (bAnd (u2 46 37) (bXor (bShl 1 (u2 66 x)) (-1)))) <| fun (u3 : WD) => ck (0 ≤ x ∧ x < 5) <| bv (w32 ((7 * x) + (u3 66 x))) <| fun (t4 : Int) => ck (0 ≤ t4 ∧ t4 < 35) <| ck (0 ≤ t4 ∧ t4 < 35) <| bw (up u3 68 t4 (w64 ((u3 68 t4) + is))) <| fun (u5 : WD) => ck (0 ≤ x ∧ x < 5) <| ck (0 ≤ x ∧ x < 5) <| jn (β := Int → WD → Option WD) (fun (v3_6 : Int) (u7 : WD) => bv (x + 1) <| fun (v4_8 : Int) => fR_meets_l5 is K f v3_6 v4_8 u7) <| fun J9 => if (u5 70 x) = (u5 66 x) then (bv (r + 1) <| fun (v3_10 : Int) => bw (up u5 46 41 (bOr (u5 46 41) (bShl 1 x))) <| fun (u11 : WD) => J9 v3_10 u11) else (J9 r u5)) P := by
        intro c u1 u2 a1 a2 a3 a4 a5 a6
        have e66 : u2 66 = u 66 := by rw [a4 66 (by decide), a1 66 (by decide)]
        have e68 : u2 68 = u 68 := by rw [a4 68 (by decide), a1 68 (by decide)]
        have e70 : u2 70 = u 70 := by rw [a4 70 (by decide), a1 70 (by decide)]
        have e69 : u2 69 = u1 69 := a4 69 (by decide)
        have e37 : u2 46 37 = u 46 37 := a5 37 (by decide)
        have e41 : u2 46 41 = u 46 41 := a5 41 (by decide)
        have e31 : u2 46 31 = u 46 31 := a5 31 (by decide)
        have C := fun q hq => tbcl (v := u 46 37) (p := q) (q := u 66 x) b37 hq ⟨wx0, wx1⟩
        have O := fun q hq => tbor (v := u 46 41) (p := q) (q := x) b41 hq ⟨h1, by omega⟩
        rw [e66, e37]
        refine v_ck (by omega) (v_bw (v_ck (by omega) (v_bv ?_)))
        rw [show up u2 46 37 (bAnd (u 46 37) (bXor (bShl 1 (u 66 x)) (-1))) 66 = u 66 by rw [up_k (by decide), e66], show up u2 46 37 (bAnd (u 46 37) (bXor (bShl 1 (u 66 x)) (-1))) 68 = u 68 by rw [up_k (by decide), e68], w32_i (x := 7 * x + u 66 x) (by omega) (by omega)]
        refine v_ck (by omega) (v_ck (by omega) (v_bw (v_ck (by omega) (v_ck (by omega) (v_jn ?_)))))
        generalize hu5 : up (up u2 46 37 (bAnd (u 46 37) (bXor (bShl 1 (u 66 x)) (-1)))) 68 (7 * x + u 66 x) (w64 (u 68 (7 * x + u 66 x) + is)) = u5
        have k5 : ∀ k, k ≠ 46 → k ≠ 68 → u5 k = u2 k := fun k q1 q2 => by rw [← hu5, up_k q2, up_k q1]
        have i5 : ∀ i, i ≠ 37 → u5 46 i = u2 46 i := fun i q1 => by rw [← hu5, up_k (by decide), up_i q1]
        have j5 : u5 46 37 = bAnd (u 46 37) (bXor (bShl 1 (u 66 x)) (-1)) := by rw [← hu5, up_k (by decide), up_s]
        have l5 : u5 68 = ur (u 68) (7 * x + u 66 x) (w64 (u 68 (7 * x + u 66 x) + is)) := by rw [← hu5, up_r, up_k (by decide), e68]
        have f66 : u5 66 = u 66 := by rw [k5 66 (by decide) (by decide), e66]
        have f70 : u5 70 = u 70 := by rw [k5 70 (by decide) (by decide), e70]
        rw [f66, f70]
        -- the loop goes on
        have next : ∀ (r' : Int) (y : WD), (∀ k, k ≠ 46 → y k = u5 k) → (∀ i, i ≠ 41 → y 46 i = u5 46 i) → ((0 ≤ y 46 41 ∧ y 46 41 < 128) ∧ ∀ i, 0 ≤ i → i < 7 → (tb (y 46 41) i ↔ tb (u 46 41) i ∨ (i = x ∧ u 70 i = u 66 i))) → r' = r + (if u 70 x = u 66 x then 1 else 0) → WV (fR_meets_l5 is K f r' (x + 1) y) P := by
          intro r' y y1 y2 y3 y4
          have g66 : y 66 = u 66 := by rw [y1 66 (by decide), f66]
          have g70 : y 70 = u 70 := by rw [y1 70 (by decide), f70]
          have g69 : y 69 = u1 69 := by rw [y1 69 (by decide), k5 69 (by decide) (by decide), e69]
          have g68 : y 68 = ur (u 68) (7 * x + u 66 x) (w64 (u 68 (7 * x + u 66 x) + is)) := by rw [y1 68 (by decide), l5]
          have g36 : y 46 36 = u2 46 36 := by rw [y2 36 (by decide), i5 36 (by decide)]
          have g37 : y 46 37 = bAnd (u 46 37) (bXor (bShl 1 (u 66 x)) (-1)) := by rw [y2 37 (by decide), j5]
          have g31 : y 46 31 = u 46 31 := by rw [y2 31 (by decide), i5 31 (by decide), e31]
          have g4 : y 46 4 = u 46 4 := by rw [y2 4 (by decide), i5 4 (by decide), a5 4 (by decide)]
          refine l_meets5 hM f r' (x + 1) y (by omega) (by omega) (by omega) (by rw [g4]; exact h4) (by rw [g66]; exact hw) (by rw [g36]; exact a6.1) (by rw [g37]; exact (C 0 (by decide)).1) y3.1 (by split at y4 <;> omega) (fun v hv => ?_)
          rw [hk', g66, g70, y4, Int.add_assoc]
          refine hK v ?_
          obtain ⟨v1, v2, v3, v4, v5, v6, v7, v8⟩ := hv
          refine ⟨fun k k1 k2 k3 => ?_, fun i i1 i2 i3 => ?_, fun i i1 => ?_, fun i i1 i2 => ?_, fun i p i1 i2 p1 p2 => ?_, ⟨v6.1, fun i i1 i2 => ?_⟩, ⟨v7.1, fun p p1 p2 => ?_⟩, ⟨v8.1, fun i i1 i2 => ?_⟩⟩
          · rw [v1 k k1 k2 k3, y1 k k1, k5 k k1 k2, a4 k k1, a1 k k3]
          · rw [v2 i i1 i2 i3, y2 i i3, i5 i i2, a5 i i1]
          · rw [v3 i (by omega), g69, a2 i (by omega)]
          · rcases (by omega : i = x ∨ x + 1 ≤ i) with rfl | q
            · rw [v3 i (by omega), g69, a3]
            · rw [v4 i q i2, g31, g66, g69, a2 i (by omega)]
          · rw [v5 i p i1 i2 p1 p2, g66, g68]
            by_cases q : i = x
            · subst q
              rw [if_neg (by omega)]
              by_cases q' : u 66 i = p
              · rw [if_pos ⟨by omega, q'⟩, ← q', ur_s]
              · rw [if_neg (by omega), ur_i (by omega)]
            · rw [ur_i (by omega)]
              by_cases q' : x + 1 ≤ i ∧ u 66 i = p
              · rw [if_pos q', if_pos (by omega)]
              · rw [if_neg q', if_neg (by omega)]
          · rw [v6.2 i i1 i2, g36, a6.2 i i1 i2, g31, g66, g69]
            by_cases q : i = x
            · subst q
              exact ⟨fun ⟨⟨z1, z2⟩, _⟩ => ⟨z1, fun ⟨_, _, z3, z4⟩ => z2 ⟨rfl, z3, z4⟩⟩, fun ⟨z1, z2⟩ => ⟨⟨z1, fun ⟨_, z3, z4⟩ => z2 ⟨by omega, by omega, z3, z4⟩⟩, fun ⟨z3, _⟩ => by omega⟩⟩
            · rw [a2 i q]
              exact ⟨fun ⟨⟨z1, _⟩, z2⟩ => ⟨z1, fun ⟨y1, y2, y3, y4⟩ => z2 ⟨by omega, y2, y3, y4⟩⟩, fun ⟨z1, z2⟩ => ⟨⟨z1, fun ⟨y1, _⟩ => q y1⟩, fun ⟨y1, y2, y3, y4⟩ => z2 ⟨by omega, y2, y3, y4⟩⟩⟩
          · rw [v7.2 p p1 p2, g37, g66]
            have c := (C p ⟨p1, p2⟩).2.1
            unfold tb
            rw [c]
            constructor
            · rintro ⟨⟨z1, z2⟩, z3⟩
              refine ⟨z1, fun ⟨i, t1, t2, t3⟩ => ?_⟩
              rcases (by omega : i = x ∨ x + 1 ≤ i) with q | q
              · rw [q] at t3
                exact z2 t3.symm
              · exact z3 ⟨i, q, t2, t3⟩
            · rintro ⟨z1, z2⟩
              exact ⟨⟨z1, fun e => z2 ⟨x, by omega, by omega, e.symm⟩⟩, fun ⟨i, y1, y2, y3⟩ => z2 ⟨i, by omega, y2, y3⟩⟩
          · rw [v8.2 i i1 i2, y3.2 i i1 i2, g66, g70]
            constructor
            · rintro ((z1 | ⟨z1, z2⟩) | ⟨z1, z2, z3⟩)
              · exact Or.inl z1
              · exact Or.inr ⟨by omega, by omega, z2⟩
              · exact Or.inr ⟨by omega, z2, z3⟩
            · rintro (z1 | ⟨z1, z2, z3⟩)
              · exact Or.inl (Or.inl z1)
              · rcases (by omega : i = x ∨ x + 1 ≤ i) with q | q
                · exact Or.inl (Or.inr ⟨q, z3⟩)
                · exact Or.inr ⟨q, z2, z3⟩
        have e41' : u5 46 41 = u 46 41 := by rw [i5 41 (by decide), e41]
        refine v_if (fun q => v_bv (v_bw (v_bv (next (r + 1) _ (fun k q1 => up_k q1) (fun i q1 => up_i q1) ⟨?_, fun i i1 i2 => ?_⟩ (by rw [if_pos q]))))) (fun q => v_bv (next r u5 (fun _ _ => rfl) (fun _ _ => rfl) ⟨by rw [e41']; exact b41, fun i i1 i2 => ?_⟩ (by rw [if_neg q]; omega)))
        · rw [up_s, e41']; exact (O 0 (by decide)).1
        · rw [up_s, e41']
          have o := (O i ⟨i1, i2⟩).2.1
          unfold tb
          rw [o]
          constructor
          · rintro (z | rfl)
            · exact Or.inl z
            · exact Or.inr ⟨rfl, q⟩
          · rintro (z | ⟨z, _⟩)
            · exact Or.inl z
            · exact Or.inr z
        · rw [e41']
          exact ⟨Or.inl, fun z => z.elim id (fun ⟨z1, z2⟩ => by subst z1; exact absurd z2 q)⟩
      have tested : ∀ u1 : WD, (∀ k, k ≠ 69 → u1 k = u k) → (∀ i, i ≠ x → u1 69 i = u 69 i) → (u1 69 x = if u 46 31 = 0 then u 66 x else u 69 x) → WV (ck (0 ≤ x ∧ x < 5) <| ck (0 ≤ x ∧ x < 5) <| jn (β := WD → Option WD) (fun (u2 : WD) => ck (0 ≤ x ∧ x < 5) <| bw (up u2 46 37 (bAnd (u2 46 37) (bXor (bShl 1 (u2 66 x)) (-1)))) <| fun (u3 : WD) => ck (0 ≤ x ∧ x < 5) <| bv (w32 ((7 * x) + (u3 66 x))) <| fun (t4 : Int) => ck (0 ≤ t4 ∧ t4 < 35) <| ck (0 ≤ t4 ∧ t4 < 35) <| bw (up u3 68 t4 (w64 ((u3 68 t4) + is))) <| fun (u5 : WD) => ck (0 ≤ x ∧ x < 5) <| ck (0 ≤ x ∧ x < 5) <| jn (β := Int → WD → Option WD) (fun (v3_6 : Int) (u7 : WD) => bv (x + 1) <| fun (v4_8 : Int) => fR_meets_l5 is K f v3_6 v4_8 u7) <| fun J9 => if (u5 70 x) = (u5 66 x) then (bv (r + 1) <| fun (v3_10 : Int) => bw (up u5 46 41 (bOr (u5 46 41) (bShl 1 x))) <| fun (u11 : WD) => J9 v3_10 u11) else (J9 r u5)) <| fun J13 => if (u1 66 x) = (u1 69 x) then (J13 u1) else (bw (up u1 46 36 (bAnd (u1 46 36) (bXor (bShl 1 x) (-1)))) <| fun (u14 : WD) => J13 u14)) P := by
        intro u1 a1 a2 a3
        have e66 : u1 66 = u 66 := a1 66 (by decide)
        have e36 : u1 46 = u 46 := a1 46 (by decide)
        have C := fun q hq => tbcl (v := u 46 36) (p := q) (q := x) b36 hq ⟨h1, by omega⟩
        refine v_ck (by omega) (v_ck (by omega) (v_jn (v_if (fun q => ?_) (fun q => v_bw ?_))))
        · rw [e66, a3] at q
          refine step 0 u1 u1 a1 a2 a3 (fun _ _ => rfl) (fun i _ => by rw [e36]) ⟨by rw [e36]; exact b36, fun i i1 i2 => ?_⟩
          rw [e36]
          refine ⟨fun z => ⟨z, fun ⟨z1, z2, z3⟩ => ?_⟩, fun z => z.1⟩
          subst z1
          rw [if_neg z2] at q
          exact z3 q
        · rw [e66, a3] at q
          have hz : u 46 31 ≠ 0 := fun z => by rw [if_pos z] at q; exact q rfl
          rw [if_neg hz] at q
          refine step 0 u1 _ a1 a2 a3 (fun k q1 => up_k q1) (fun i q1 => by rw [up_i q1, e36]) ⟨by rw [up_s, e36]; exact (C 0 (by decide)).1, fun i i1 i2 => ?_⟩
          rw [up_s, e36]
          have c := (C i ⟨i1, i2⟩).2.1
          unfold tb
          rw [c]
          constructor
          · rintro ⟨z1, z2⟩
            exact ⟨z1, fun z => z2 z.1⟩
          · rintro ⟨z1, z2⟩
            exact ⟨z1, fun z => z2 ⟨z, hz, by rw [z]; exact q⟩⟩
      refine v_if (fun q => tested u (fun _ _ => rfl) (fun _ _ => rfl) (by rw [if_neg q])) (fun q => v_ck (by omega) (v_ck (by omega) (v_bw (tested _ (fun k q1 => up_k q1) (fun i q1 => up_i q1) (by rw [up_s, if_pos (by omega)])))))
