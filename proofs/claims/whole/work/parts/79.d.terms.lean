/-! THE TEXT OF A LAW: terms, both alike -/
theorem opd_all {c : Int → Int} {n d : Int} {oI : Int → WD → Option (Int × WD)} {oS : Int → Int → WD → Option (Int × WD)} {rE rO : WD → Option WD} (hL : LTR c n)
    (h : ∀ p, 0 ≤ p → p ≤ n → CHr c n p = 40 ∨ CHr c n p = 33 ∨ CHr c n p = 45 → ∃ o, Ogd c n p 0 o ∧ CIo c n (fLa_readOperand_o oI oS d) p o ∧ RIo c n d (fR_operand_o rE rO) p o) : SUB c n d (fLa_readOperand_o oI oS d) (fR_operand_o rE rO) := by
  intro p h0 h1
  by_cases hd : 48 ≤ CHr c n p ∧ CHr c n p ≤ 57
  · exact opd_num hL h0 h1 hd
  by_cases hn : 0 ≤ NMO (CHr c n p)
  · exact opd_name hL h0 h1 hn
  by_cases hs : CHr c n p = 40 ∨ CHr c n p = 33 ∨ CHr c n p = 45
  · exact h p h0 h1 hs
  · exact opd_none hL h0 h1 hd (by omega) (by omega)
theorem lev5 {c : Int → Int} {n d : Int} {oT : Int → Int → WD → Option (Int × WD)} {oO : Int → WD → Option (Int × WD)} {rT : WD → Option WD} (hT : SUB c n d (oO d) rT) : SUB c n d (fLa_readTerm_o oT oO 5 d) rT := by
  intro p h0 h1
  obtain ⟨o, g, c1, r1⟩ := hT p h0 h1
  refine ⟨o, g, ?_, r1⟩
  intro w b Q hw b0 b1 h
  unfold fLa_readTerm_o
  exact i_if (fun z => by exfalso; omega) (fun _ => i_ci (c1 w b _ hw b0 b1 (fun r u hu => i_some (h r u hu))))
/-- from operands to terms -/
theorem levs {c : Int → Int} {n d : Int} (hL : LTR c n) (k k' : Nat) (hO : SUB c n d ((FLa_readTerm k).2.1 d) (FR_either k').2.2.2.2.2) : SUB c n d ((FLa_readTerm (k + 6)).1 0 d) (FR_either (k' + 5)).1 := by
  have s5 : SUB c n d ((FLa_readTerm (k + 1)).1 5 d) (FR_either k').2.2.2.2.2 := lev5 (oT := (FLa_readTerm k).1) hO
  have s4 : SUB c n d ((FLa_readTerm (k + 2)).1 4 d) (FR_either (k' + 1)).2.2.2.2.1 := lev (l := 4) (oT := (FLa_readTerm (k + 1)).1) (oO := (FLa_readTerm (k + 1)).2.1) hL (by omega) (by rw [w32_i (x := 4 + 1) (by omega) (by omega)]; exact s5) (rl_product hL)
  have s3 : SUB c n d ((FLa_readTerm (k + 3)).1 3 d) (FR_either (k' + 2)).2.2.2.1 := lev (l := 3) (oT := (FLa_readTerm (k + 2)).1) (oO := (FLa_readTerm (k + 2)).2.1) hL (by omega) (by rw [w32_i (x := 3 + 1) (by omega) (by omega)]; exact s4) (rl_sum hL)
  have s2 : SUB c n d ((FLa_readTerm (k + 4)).1 2 d) (FR_either (k' + 3)).2.2.1 := lev2 (oT := (FLa_readTerm (k + 3)).1) (oO := (FLa_readTerm (k + 3)).2.1) hL (by rw [w32_i (x := 2 + 1) (by omega) (by omega)]; exact s3) (rc_cmp hL)
  have s1 : SUB c n d ((FLa_readTerm (k + 5)).1 1 d) (FR_either (k' + 4)).2.1 := lev (l := 1) (oT := (FLa_readTerm (k + 4)).1) (oO := (FLa_readTerm (k + 4)).2.1) hL (by omega) (by rw [w32_i (x := 1 + 1) (by omega) (by omega)]; exact s2) (rl_both hL)
  exact lev (l := 0) (oT := (FLa_readTerm (k + 5)).1) (oO := (FLa_readTerm (k + 5)).2.1) hL (by omega) (by rw [w32_i (x := 0 + 1) (by omega) (by omega)]; exact s1) (rl_either hL)
theorem terms {c : Int → Int} {n : Int} (hL : LTR c n) : ∀ (D : Nat) (d : Int), d + D = 6 → 0 ≤ d →
    (∀ k k' : Nat, 8 * D + 1 ≤ k → 6 * D + 1 ≤ k' → SUB c n d ((FLa_readTerm k).2.1 d) (FR_either k').2.2.2.2.2) ∧ ∀ k k' : Nat, 8 * D + 7 ≤ k → 6 * D + 6 ≤ k' → SUB c n d ((FLa_readTerm k).1 0 d) (FR_either k').1
  | 0, d, hd, h0 => by
    have d6 : d = 6 := by omega
    subst d6
    have ho : ∀ k k' : Nat, 8 * 0 + 1 ≤ k → 6 * 0 + 1 ≤ k' → SUB c n 6 ((FLa_readTerm k).2.1 6) (FR_either k').2.2.2.2.2 := by
      intro k k' hk hk'
      obtain ⟨k, rfl⟩ : ∃ g, k = g + 1 := ⟨k - 1, by omega⟩
      obtain ⟨k', rfl⟩ : ∃ g, k' = g + 1 := ⟨k' - 1, by omega⟩
      exact opd_all hL (fun p p0 p1 hs => opd_deep hL p0 p1 hs)
    refine ⟨ho, fun k k' hk hk' => ?_⟩
    obtain ⟨k, rfl⟩ : ∃ g, k = g + 6 := ⟨k - 6, by omega⟩
    obtain ⟨k', rfl⟩ : ∃ g, k' = g + 5 := ⟨k' - 5, by omega⟩
    exact levs hL k k' (ho k k' (by omega) (by omega))
  | D + 1, d, hd, h0 => by
    obtain ⟨iO, iE⟩ := terms hL D (d + 1) (by omega) (by omega)
    have ho : ∀ k k' : Nat, 8 * (D + 1) + 1 ≤ k → 6 * (D + 1) + 1 ≤ k' → SUB c n d ((FLa_readTerm k).2.1 d) (FR_either k').2.2.2.2.2 := by
      intro k k' hk hk'
      obtain ⟨k, rfl⟩ : ∃ g, k = g + 1 + 1 := ⟨k - 2, by omega⟩
      obtain ⟨k', rfl⟩ : ∃ g, k' = g + 1 := ⟨k' - 1, by omega⟩
      have eE := iE k k' (by omega) (by omega)
      have eO := iO k k' (by omega) (by omega)
      refine opd_all (oI := fLa_readInside_o (FLa_readTerm k).1) (oS := fLa_readSigned_o (FLa_readTerm k).2.1) (rE := (FR_either k').1) (rO := (FR_either k').2.2.2.2.2) hL (fun p p0 p1 hs => ?_)
      by_cases h40 : CHr c n p = 40
      · exact opd_in hL p0 p1 (by omega) eE h40
      · exact opd_sg hL p0 p1 (by omega) eO (by omega)
    refine ⟨ho, fun k k' hk hk' => ?_⟩
    obtain ⟨k, rfl⟩ : ∃ g, k = g + 6 := ⟨k - 6, by omega⟩
    obtain ⟨k', rfl⟩ : ∃ g, k' = g + 5 := ⟨k' - 5, by omega⟩
    exact levs hL k k' (ho k k' (by omega) (by omega))
/-- a term -/
theorem term_ok {c : Int → Int} {n : Int} (hL : LTR c n) : SUB c n 0 (fLa_readTerm 0 0) fR_either := (terms hL 6 0 (by omega) (by omega)).2 200 200 (by omega) (by omega)
