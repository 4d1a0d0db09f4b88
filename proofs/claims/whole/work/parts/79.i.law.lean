/-! law() -/
def Lfr (w z : WD) : Prop := (∀ k, k ≠ 6 → k ≠ 8 → k ≠ 9 → k ≠ 46 → k ≠ 58 → k ≠ 59 → k ≠ 60 → k ≠ 61 → k ≠ 62 → z k = w k) ∧ ∀ j, (j < 16 ∨ (20 < j ∧ j ≠ 28)) → z 46 j = w 46 j
theorem Inv_l {w z : WD} (hI : Inv w) (e : Lfr w z) (hT : ITape z) (hL : ILaw z) : Inv z := by
  obtain ⟨hH, hC, _, _, hN, hK, hS, hB⟩ := hI
  obtain ⟨e1, e2⟩ := e
  have r : ∀ k, k ≠ 6 → k ≠ 8 → k ≠ 9 → k ≠ 46 → (k < 58 ∨ 62 < k) → z k = w k := fun k h1 h2 h3 h4 h5 => e1 k h1 h2 h3 h4 (by omega) (by omega) (by omega) (by omega) (by omega)
  refine ⟨IHall_of ⟨?_, ?_, ?_, ?_, ?_, ?_, ?_, ?_, ?_, ?_, ?_⟩ hH, ICh_of ⟨?_, ?_, ?_, ?_, ?_, ?_, ?_, ?_, ?_, ?_, ?_⟩ hC, hT, hL, INight_of ⟨?_, ?_, ?_, ?_, ?_, ?_, ?_, ?_, ?_⟩ hN, IKept_of ⟨?_, ?_, ?_, ?_, ?_, ?_, ?_, ?_, ?_, ?_, ?_, ?_, ?_, ?_⟩ hK, IShelf_of ⟨?_, ?_, ?_, ?_, ?_⟩ hS, IBody_of ⟨?_, ?_, ?_, ?_, ?_, ?_, ?_, ?_⟩ hB⟩
  all_goals first
    | exact e2 _ (by omega)
    | exact r _ (by omega) (by omega) (by omega) (by omega) (by omega)
    | exact congrFun (r _ (by omega) (by omega) (by omega) (by omega) (by omega)) _
    | (intro k h1 h2; exact r k (by omega) (by omega) (by omega) (by omega) (by omega))
