/-! worlds alike but for what is worked out anew in each call -/
abbrev SCR (k : Int) : Prop := k = 6 ∨ k = 8 ∨ (10 ≤ k ∧ k ≤ 18) ∨ (27 ≤ k ∧ k ≤ 29) ∨ k = 46 ∨ (63 ≤ k ∧ k ≤ 72) ∨ k = 85
abbrev SMF (i : Int) : Prop := i = 1 ∨ i = 4 ∨ i = 9 ∨ i = 10 ∨ i = 16 ∨ i = 28 ∨ i = 49 ∨ i = 51 ∨ i = 52 ∨ i = 53 ∨ i = 58 ∨ i = 60
def Same (w u : WD) : Prop := (∀ k, ¬ SCR k → u k = w k) ∧ u 6 5 = w 6 5 ∧ u 6 8 = w 6 8 ∧ ∀ i, SMF i → u 46 i = w 46 i
theorem Same.rfl' {w : WD} : Same w w := ⟨fun _ _ => rfl, rfl, rfl, fun _ _ => rfl⟩
theorem Same.trans {w u v : WD} (h : Same w u) (h' : Same u v) : Same w v :=
  ⟨fun k hk => (h'.1 k hk).trans (h.1 k hk), h'.2.1.trans h.2.1, h'.2.2.1.trans h.2.2.1, fun i hi => (h'.2.2.2 i hi).trans (h.2.2.2 i hi)⟩
theorem Same.symm {w u : WD} (h : Same w u) : Same u w := ⟨fun k hk => (h.1 k hk).symm, h.2.1.symm, h.2.2.1.symm, fun i hi => (h.2.2.2 i hi).symm⟩
theorem Same.r {w u : WD} (h : Same w u) (k : Int) (hk : ¬ SCR k) : u k = w k := h.1 k hk
theorem Same.f {w u : WD} (h : Same w u) (i : Int) (hi : SMF i) : u 46 i = w 46 i := h.2.2.2 i hi
theorem sm_up {w u : WD} {k i x : Int} (h : Same w u) (hk : SCR k) (h6 : k ≠ 6) (h46 : k ≠ 46) : Same w (up u k i x) := by
  refine ⟨fun k' hk' => ?_, ?_, ?_, fun j hj => ?_⟩
  · have ne : k' ≠ k := fun e => hk' (by rw [e]; exact hk)
    rw [up_k ne]; exact h.1 k' hk'
  · rw [up_k (Ne.symm h6)]; exact h.2.1
  · rw [up_k (Ne.symm h6)]; exact h.2.2.1
  · rw [up_k (Ne.symm h46)]; exact h.2.2.2 j hj
theorem sm_up6 {w u : WD} {i x : Int} (h : Same w u) (h5 : i ≠ 5) (h8 : i ≠ 8) : Same w (up u 6 i x) := by
  refine ⟨fun k' hk' => ?_, ?_, ?_, fun j hj => ?_⟩
  · rw [up_k (fun e => hk' (Or.inl e))]; exact h.1 k' hk'
  · rw [up_i (Ne.symm h5)]; exact h.2.1
  · rw [up_i (Ne.symm h8)]; exact h.2.2.1
  · rw [up_k (by decide)]; exact h.2.2.2 j hj
theorem sm_up46 {w u : WD} {i x : Int} (h : Same w u) (hi : ¬ SMF i) : Same w (up u 46 i x) := by
  refine ⟨fun k' hk' => ?_, ?_, ?_, fun j hj => ?_⟩
  · rw [up_k (fun e => hk' (by subst e; decide))]; exact h.1 k' hk'
  · rw [up_k (by decide)]; exact h.2.1
  · rw [up_k (by decide)]; exact h.2.2.1
  · have ne : j ≠ i := fun e => hi (by rw [← e]; exact hj)
    rw [up_i ne]; exact h.2.2.2 j hj
theorem Inv_same {w u : WD} (h : Inv w) (e : Same w u) : Inv u := by
  obtain ⟨hH, hC, hT, hL, hN, hK, hS, hB⟩ := h
  refine ⟨IHall_of ?_ hH, ICh_of ?_ hC, ITape_of ?_ hT, ILaw_of ?_ hL, INight_of ?_ hN, IKept_of ?_ hK, IShelf_of ?_ hS, IBody_of ?_ hB⟩
  · exact ⟨congrFun (e.r 1 (by decide)) 4, congrFun (e.r 1 (by decide)) 5, e.f 1 (by decide), e.f 4 (by decide), e.r 2 (by decide), e.r 47 (by decide), e.r 48 (by decide), e.r 49 (by decide), e.r 50 (by decide), e.r 51 (by decide), e.r 52 (by decide)⟩
  · exact ⟨congrFun (e.r 1 (by decide)) 6, congrFun (e.r 1 (by decide)) 7, e.f 9 (by decide), e.f 10 (by decide), e.r 3 (by decide), e.r 4 (by decide), e.r 5 (by decide), e.r 53 (by decide), e.r 54 (by decide), e.r 55 (by decide), e.r 56 (by decide)⟩
  · exact ⟨e.2.1, e.f 16 (by decide), e.r 7 (by decide), e.r 57 (by decide)⟩
  · exact ⟨e.f 28 (by decide), e.2.2.1, e.r 9 (by decide), e.r 58 (by decide), e.r 59 (by decide), congrFun (e.r 60 (by decide)) 0, e.r 61 (by decide), e.r 62 (by decide)⟩
  · exact ⟨congrFun (e.r 1 (by decide)) 4, congrFun (e.r 1 (by decide)) 5, e.r 20 (by decide), e.r 21 (by decide), e.r 22 (by decide), e.r 73 (by decide), e.r 74 (by decide), e.r 75 (by decide), e.f 49 (by decide)⟩
  · exact ⟨congrFun (e.r 1 (by decide)) 4, congrFun (e.r 1 (by decide)) 5, congrFun (e.r 19 (by decide)) 8, e.r 23 (by decide), e.r 24 (by decide), e.r 25 (by decide), e.r 26 (by decide), e.r 76 (by decide), e.r 77 (by decide), e.r 78 (by decide), e.r 79 (by decide), e.f 51 (by decide), e.f 52 (by decide), e.f 53 (by decide)⟩
  · exact ⟨fun k h1 h2 => e.r k (by unfold SCR; omega), e.r 82 (by decide), e.r 83 (by decide), e.r 84 (by decide), congrFun (e.r 30 (by decide)) 2⟩
  · exact ⟨congrFun (e.r 30 (by decide)) 2, congrFun (e.r 30 (by decide)) 3, e.r 31 (by decide), e.r 32 (by decide), e.f 58 (by decide), e.f 60 (by decide), e.r 80 (by decide), e.r 81 (by decide)⟩
