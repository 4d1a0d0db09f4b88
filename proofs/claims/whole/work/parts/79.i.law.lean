/-! law() -/
def Lfr (w z : WD) : Prop := (∀ k, k ≠ 6 → k ≠ 8 → k ≠ 9 → k ≠ 46 → k ≠ 58 → k ≠ 59 → k ≠ 60 → k ≠ 61 → k ≠ 62 → z k = w k) ∧ ∀ j, (j < 16 ∨ (20 < j ∧ j ≠ 28)) → z 46 j = w 46 j
theorem Inv_l {w z : WD} (hI : Inv w) (e : Lfr w z) (hT : ITape z) (hL : ILaw z) : Inv z := by
  obtain ⟨hH, hC, _, _, hN, hK, hS, hB⟩ := hI
  obtain ⟨e1, e2⟩ := e
  have r : ∀ k, k ≠ 6 → k ≠ 8 → k ≠ 9 → k ≠ 46 → (k < 58 ∨ 62 < k) → z k = w k := fun k h1 h2 h3 h4 h5 => e1 k h1 h2 h3 h4 (by omega) (by omega) (by omega) (by omega) (by omega)
  refine ⟨IHall_of ⟨?_, ?_, ?_, ?_, ?_, ?_, ?_, ?_, ?_, ?_, ?_⟩ hH, ICh_of ⟨?_, ?_, ?_, ?_, ?_, ?_, ?_, ?_, ?_, ?_, ?_⟩ hC, hT, hL, INight_of ⟨?_, ?_, ?_, ?_, ?_, ?_, ?_, ?_, ?_⟩ hN, IKept_of ⟨?_, ?_, ?_, ?_, ?_, ?_, ?_, ?_, ?_, ?_, ?_, ?_, ?_, ?_⟩ hK, IShelf_of ⟨?_, ?_, ?_, ?_, ?_⟩ hS, IBody_of ⟨?_, ?_, ?_, ?_, ?_, ?_, ?_, ?_⟩ hB⟩
  all_goals first
    | exact e2 _ (by omega)
    | exact r _ (by omega) (by omega) (by omega) (by omega) (by omega)
    | exact congrFun (r _ (by omega) (by omega) (by omega) (by omega) (by omega)) _
    | (intro k h1 h2; exact r k (by omega) (by omega) (by omega) (by omega) (by omega))
theorem lineC_len (q : List Int × List Int) : q.1.length + q.2.length + 1 ≤ (lineC q).length := by
  unfold lineC
  split
  · rename_i h
    rw [h]
    simp
  · simp only [List.length_append, List.length_cons, List.length_nil]
    omega
theorem flR_len : ∀ ls : List (List Int × List Int), (flR ls).length ≤ (flC ls).length
  | [] => Nat.le_refl _
  | q :: ls => by
    have h1 := flR_len ls
    have h2 := lineC_len q
    show ((q.1 ++ q.2) ++ flR ls).length ≤ (lineC q ++ flC ls).length
    simp only [List.length_append]
    omega
/-- what lies above its half does not reach the law -/
theorem ILaw_low {w u : WD} (h : ILaw w) (e28 : u 46 28 = w 46 28) (e8 : u 6 8 = w 6 8) (e9 : u 9 = w 9) (e60 : u 60 0 = w 60 0) (e58 : ∀ i, i < 130 → u 58 i = w 58 i ∧ u 59 i = w 59 i) (e61 : ∀ i, i < 61 → u 61 i = w 61 i ∧ u 62 i = w 62 i) : ILaw u := by
  rcases h with ⟨h1, h2⟩ | ⟨h1, ls, a1, a2, a3, a4, a5, a6, a7, a8, a9⟩
  · exact Or.inl ⟨e28.trans h1, e8.trans h2⟩
  · have := flR_len ls
    exact Or.inr ⟨e28.trans h1, ls, a1, e8.trans a2, by omega, by omega, by rw [e9]; exact a5, e60.trans a6, a7, StepsAre_low a8 rfl (fun i hi => e58 i (by omega)), EndsAre_low ls 0 0 61 (by omega) a9 e61⟩
