theorem EndsAre_w {te le te' le' : Int → Int} : ∀ (ls : List (List Int × List Int)) (l l' b : Int), 0 ≤ b → b + (flR ls).length ≤ 1000 → EndsAre te le l b ls → (∀ i : Int, 0 ≤ i → i < ls.length → te' (l' + i) = w16 (te (l + i)) ∧ le' (l' + i) = w16 (le (l + i))) → EndsAre te' le' l' b ls
  | [], _, _, _, _, _, _, _ => trivial
  | p :: ls, l, l', b, hb, hm, ⟨a1, a2, a3⟩, h => by
    have z : ((flR (p :: ls)).length : Int) = p.1.length + p.2.length + (flR ls).length := by
      show (((p.1 ++ p.2) ++ flR ls).length : Int) = _
      simp only [List.length_append]
      omega
    obtain ⟨x1, x2⟩ := h 0 (by omega) (by rw [List.length_cons]; omega)
    rw [Int.add_zero, Int.add_zero] at x1 x2
    rw [a1, w16_i (by omega) (by omega)] at x1
    rw [a2, w16_i (by omega) (by omega)] at x2
    refine ⟨x1, x2, EndsAre_w ls (l + 1) (l' + 1) _ (by omega) (by omega) a3 (fun i i0 i1 => ?_)⟩
    have := h (i + 1) (by omega) (by rw [List.length_cons]; omega)
    rw [show l' + 1 + i = l' + (i + 1) by omega, show l + 1 + i = l + (i + 1) by omega]
    exact this
theorem flR_TK : ∀ ls : List (List Int × List Int), (∀ q ∈ ls, LINE q) → TKS (flR ls)
  | [], _ => TKS_nil
  | q :: ls, h => by
    obtain ⟨h1, h2⟩ := h q List.mem_cons_self
    refine TKS_app (TKS_app ?_ h2.2) (flR_TK ls (fun q' hq => h q' (List.mem_cons_of_mem q hq)))
    rcases h1 with z | z
    · rw [z]; exact TKS_nil
    · exact z.2
theorem TKS_at {t : List Int} (h : TKS t) {i : Nat} (hi : i < t.length) : TK (t.getD i 0) := by
  rw [List.getD_eq_getElem?_getD, List.getElem?_eq_getElem hi]
  exact h _ (List.getElem_mem hi)
theorem op_law : op0 Inv fB_law fR_law := by
  intro w hI
  have hI' := hI
  obtain ⟨hH, hC, ⟨t0, t1, t2, t3⟩, hLw, hN, hK, hS, hB⟩ := hI'
  have hL : LTR (w 7) (w 6 5) := ⟨t0, t1, fun k k0 k1 => ⟨(t3 k k0 k1).1, (t3 k k0 k1).2.1⟩⟩
  refine same_of ?_
  have cpr : Cpr (w 7) (w 6 5) (up (up w 6 6 0) 6 7 0) 0 0 := ⟨by rw [up_i (by omega), up_i (by omega)], fun k _ _ => by rw [up_k (by omega), up_k (by omega)], by rw [up_i (by omega), up_s], up_s⟩
  unfold fB_law fLa_enact
  refine i_ci (i_bw (i_bw (i_ci ?_)))
  show WI (fLa_readText_l2 KCt FU 0 (up (up w 6 6 0) 6 7 0)) _
  rcases text_ok hL ((w 6 5).toNat + 1) 0 (by omega) (by omega) t0 with ⟨lns, y1, y2, y3, y4⟩ | ⟨q, q0, q1, y3, y4⟩
  · refine y3 _ _ [] 0 FU _ cpr (Cst_rf cpr) (by show ((0 : Nat) : Int) ≤ 0; omega) (by omega) (by omega) (by unfold FU; omega) (fun r v hv => ?_)
    obtain ⟨v1, ⟨⟨v2, v2'⟩, v3, v4, v5, v6⟩, v7⟩ := hv
    rw [List.nil_append] at v4 v5 v7
    refine i_bw (i_if (fun _ => i_bw (i_ck (by omega) (i_bw (i_some (i_some ?_))))) (fun z => by exfalso; omega))
    generalize hu : cp (up (up v 6 5 0) 6 8 ((up v 6 5 0) 6 7)) 8 0 9 0 121 = u
    have hk : ∀ k, k ≠ 6 → k ≠ 8 → k ≠ 9 → u k = w k := fun k h1 h2 h3 => by rw [← hu, cp_k h3, up_k h1, up_k h1, v2 k h1 h2, up_k h1, up_k h1]
    have u8 : u 6 8 = (flC lns).length := by rw [← hu, cp_k (by omega), up_s, up_i (by omega), v4]; omega
    have u5 : u 6 5 = 0 := by rw [← hu, cp_k (by omega), up_i (by omega), up_s]
    have u9 : RowIs (u 9) 0 (flC lns) := fun i hi => by
      rw [← hu, cp_x, if_pos (by omega), up_k (by omega), up_k (by omega), show (0 : Int) + (0 + (i : Int) - 0) = 0 + i by omega]
      exact v5 i hi
    unfold fR_law
    refine i_ci (l_text t1 y4 ⟨by rw [hk 46 (by omega) (by omega) (by omega)]; exact t2, fun k k0 k1 => by rw [hk 57 (by omega) (by omega) (by omega)]; exact (t3 k k0 k1).2.2⟩ (fun z hz => ?_))
    obtain ⟨⟨z1, z2, z3, z4, z5, z6, z7, z8⟩, z9, z10⟩ := hz
    rw [List.nil_append] at z5 z6 z7 z8 z9 z10
    have zz := R5_l.tr z1
    have lR := flR_len lns
    unfold Jt
    have e18 : (up z 46 16 0) 46 18 = -1 := by rw [up_i (by omega)]; exact z3
    have e20 : (up z 46 16 0) 46 20 = (flR lns).length := by rw [up_i (by omega)]; exact z5
    refine i_bw (i_if (fun _ => ?_) (fun y => by exfalso; omega))
    refine l_cp58 FU 0 _ (by omega) (by omega) (by unfold FU; omega) e20 (by omega) (fun a a1 a2 a3 => i_ck (by omega) (i_bw ?_))
    have a60 : a 60 1 = lns.length := by rw [a1 60 (by omega) (by omega), up_k (by omega)]; exact z7
    rw [a60]
    refine l_cp61 FU 0 _ (by omega) (by omega) (by unfold FU; omega) up_s z9 (fun b b1 b2 b3 => ?_)
    refine i_if (fun _ => i_bw (i_some ⟨rfl, ?_⟩)) (fun y => by exfalso; omega)
    have fb : ∀ k, k ≠ 46 → k ≠ 58 → k ≠ 59 → k ≠ 60 → k ≠ 61 → k ≠ 62 → (up b 46 28 1) k = u k := fun k h1 h2 h3 h4 h5 h6 => by rw [up_k h1, b1 k h5 h6, up_k h4, a1 k h2 h3, up_k h1, zz.1 k h1 h2 h3 h4 h5 h6]
    have fj : ∀ j, j ≠ 28 → (up b 46 28 1) 46 j = (up z 46 16 0) 46 j := fun j h => by rw [up_i h, b1 46 (by omega) (by omega), up_k (by omega), a1 46 (by omega) (by omega)]
    have f6 : (up b 46 28 1) 6 = u 6 := fb 6 (by omega) (by omega) (by omega) (by omega) (by omega) (by omega)
    have lC := lineC_len
    refine Inv_l hI ⟨fun k h1 h2 h3 h4 h5 h6 h7 h8 h9 => ?_, fun j hj => ?_⟩ ⟨?_, ?_, ?_, fun k k0 k1 => ?_⟩ (Or.inr ⟨up_s, lns, y2, ?_, ?_, ?_, ?_, ?_, by omega, fun i hi => ?_, ?_⟩)
    · rw [fb k h4 h5 h6 h7 h8 h9, hk k h1 h2 h3]
    · rw [fj j (by omega), up_i (by omega), zz.2.1 j (by omega), hk 46 (by omega) (by omega) (by omega)]
    · rw [f6, u5]; omega
    · rw [f6, u5]; omega
    · rw [f6, u5, fj 16 (by omega), up_s]
    · rw [f6, u5] at k1; exact absurd k1 (by omega)
    · rw [f6, u8]
    · rw [f6, u8]
      cases lns with
      | nil => exact absurd rfl y1
      | cons p ls => have := lC p; rw [flC_len]; omega
    · rw [f6, u8]; exact v7
    · rw [fb 9 (by omega) (by omega) (by omega) (by omega) (by omega) (by omega)]; exact u9
    · rw [up_k (by omega), b1 60 (by omega) (by omega), up_s]
    · obtain ⟨s1, s2⟩ := z6 i hi
      obtain ⟨x1, x2⟩ := a2 i (by omega) (by omega)
      have hw : ∀ x : Int, w8 (w8 x) = w8 x := fun x => by unfold w8; omega
      have tk : TK ((flR lns).getD i 0) := TKS_at (flR_TK lns y2) hi
      rw [up_k (by omega), up_k (by omega), b1 58 (by omega) (by omega), b1 59 (by omega) (by omega), up_k (by omega), up_k (by omega), Int.zero_add, x1, x2, up_k (by omega), up_k (by omega), s1, s2]
      refine ⟨w8_i ?_ ?_, rfl⟩ <;> (unfold TK at tk; unfold AC; omega)
    · refine EndsAre_w lns 61 0 0 (by omega) (by omega) z8 (fun i i0 i1 => ?_)
      obtain ⟨x1, x2⟩ := b2 i i0 i1
      rw [Int.zero_add, up_k (by omega), up_k (by omega), x1, x2, up_k (by omega), up_k (by omega), a1 61 (by omega) (by omega), a1 62 (by omega) (by omega), up_k (by omega), up_k (by omega)]
      exact ⟨rfl, rfl⟩
  · refine y3 _ _ [] 0 FU _ cpr (Cst_rf cpr) (by show ((0 : Nat) : Int) ≤ 0; omega) (by omega) (by omega) (by unfold FU; omega) (fun r v hv => ?_)
    obtain ⟨v1, ⟨v2, v2'⟩, v3⟩ := hv
    refine i_bw (i_if (fun z => absurd v1 z) (fun _ => i_some (i_some ?_)))
    have hk : ∀ k, k ≠ 6 → k ≠ 8 → (up v 6 5 0) k = w k := fun k h1 h2 => by rw [up_k h1, v2 k h1 h2, up_k h1, up_k h1]
    have e66 : (up v 6 5 0) 6 6 = q := by rw [up_i (by omega)]; exact v3
    rw [e66]
    unfold fR_law
    refine i_ci (l_text t1 y4 ⟨by rw [hk 46 (by omega) (by omega)]; exact t2, fun k k0 k1 => by rw [hk 57 (by omega) (by omega)]; exact (t3 k k0 k1).2.2⟩ (fun z hz => ?_))
    obtain ⟨z1, z2⟩ := hz
    have zz := R5_l.tr z1
    unfold Jt
    have e18 : (up z 46 16 0) 46 18 = q := by rw [up_i (by omega)]; exact z2
    refine i_bw (i_if (fun y => by exfalso; omega) (fun _ => i_some ?_))
    rw [e18]
    refine i_if (fun y => by exfalso; omega) (fun _ => i_some ⟨rfl, Inv_l hI ⟨fun k h1 h2 h3 h4 h5 h6 h7 h8 h9 => ?_, fun j hj => ?_⟩ ⟨?_, ?_, ?_, fun k k0 k1 => ?_⟩ (ILaw_low hLw ?_ ?_ ?_ ?_ (fun i hi => ?_) (fun i hi => ?_))⟩)
    · rw [up_k h4, zz.1 k h4 h5 h6 h7 h8 h9, hk k h1 h2]
    · rw [up_i (by omega), zz.2.1 j (by omega), hk 46 (by omega) (by omega)]
    · rw [up_k (by omega), zz.1 6 (by omega) (by omega) (by omega) (by omega) (by omega) (by omega), up_s]; omega
    · rw [up_k (by omega), zz.1 6 (by omega) (by omega) (by omega) (by omega) (by omega) (by omega), up_s]; omega
    · rw [up_s, up_k (by omega), zz.1 6 (by omega) (by omega) (by omega) (by omega) (by omega) (by omega), up_s]
    · rw [up_k (by omega), zz.1 6 (by omega) (by omega) (by omega) (by omega) (by omega) (by omega), up_s] at k1; exact absurd k1 (by omega)
    · rw [up_i (by omega), zz.2.1 28 (by omega), hk 46 (by omega) (by omega)]
    · rw [up_k (by omega), zz.1 6 (by omega) (by omega) (by omega) (by omega) (by omega) (by omega), up_i (by omega), v2' 8 (by omega) (by omega), up_i (by omega), up_i (by omega)]
    · rw [up_k (by omega), zz.1 9 (by omega) (by omega) (by omega) (by omega) (by omega) (by omega), hk 9 (by omega) (by omega)]
    · rw [up_k (by omega), zz.2.2.1, hk 60 (by omega) (by omega)]
    · obtain ⟨x1, x2⟩ := zz.2.2.2.1 i hi
      rw [up_k (by omega), up_k (by omega), x1, x2, hk 58 (by omega) (by omega), hk 59 (by omega) (by omega)]
      exact ⟨rfl, rfl⟩
    · obtain ⟨x1, x2⟩ := zz.2.2.2.2 i hi
      rw [up_k (by omega), up_k (by omega), x1, x2, hk 61 (by omega) (by omega), hk 62 (by omega) (by omega)]
      exact ⟨rfl, rfl⟩
