/-! THE TEXT OF A LAW: lines, on the reference's side -/
def Ltf (w u : WD) : Prop := (∀ j, j ≠ 46 → j ≠ 58 → j ≠ 59 → j ≠ 60 → j ≠ 61 → j ≠ 62 → u j = w j) ∧ (∀ j, (j < 17 ∨ 20 < j) → u 46 j = w 46 j) ∧ u 60 0 = w 60 0 ∧ (∀ i, i < 130 → u 58 i = w 58 i ∧ u 59 i = w 59 i) ∧ ∀ i, i < 61 → u 61 i = w 61 i ∧ u 62 i = w 62 i
theorem Ltf.rf {w : WD} : Ltf w w := ⟨fun _ _ _ _ _ _ _ => rfl, fun _ _ => rfl, rfl, fun _ _ => ⟨rfl, rfl⟩, fun _ _ => ⟨rfl, rfl⟩⟩
theorem Ltf.tr {w u v : WD} (a : Ltf w u) (b : Ltf u v) : Ltf w v := ⟨fun j h1 h2 h3 h4 h5 h6 => (b.1 j h1 h2 h3 h4 h5 h6).trans (a.1 j h1 h2 h3 h4 h5 h6), fun j h => (b.2.1 j h).trans (a.2.1 j h), b.2.2.1.trans a.2.2.1,
  fun i hi => ⟨(b.2.2.2.1 i hi).1.trans (a.2.2.2.1 i hi).1, (b.2.2.2.1 i hi).2.trans (a.2.2.2.1 i hi).2⟩, fun i hi => ⟨(b.2.2.2.2 i hi).1.trans (a.2.2.2.2 i hi).1, (b.2.2.2.2 i hi).2.trans (a.2.2.2.2 i hi).2⟩⟩
theorem Ltf_R {w u : WD} (a : Rfr w u) : Ltf w u := ⟨fun j h1 h2 h3 _ _ _ => a.1 j h1 h2 h3, a.2.1, by rw [a.1 60 (by omega) (by omega) (by omega)], a.2.2, fun i _ => by rw [a.1 61 (by omega) (by omega) (by omega), a.1 62 (by omega) (by omega) (by omega)]; exact ⟨rfl, rfl⟩⟩
theorem Ltf_61 {w : WD} {i v : Int} (h : 61 ≤ i) : Ltf w (up w 61 i v) := ⟨fun j _ _ _ _ h5 _ => up_k h5, fun j _ => by rw [up_k (by omega)], by rw [up_k (by omega)], fun j _ => by rw [up_k (by omega), up_k (by omega)]; exact ⟨rfl, rfl⟩, fun j hj => by rw [up_i (by omega), up_k (by omega)]; exact ⟨rfl, rfl⟩⟩
theorem Ltf_62 {w : WD} {i v : Int} (h : 61 ≤ i) : Ltf w (up w 62 i v) := ⟨fun j _ _ _ _ _ h6 => up_k h6, fun j _ => by rw [up_k (by omega)], by rw [up_k (by omega)], fun j _ => by rw [up_k (by omega), up_k (by omega)]; exact ⟨rfl, rfl⟩, fun j hj => by rw [up_i (by omega), up_k (by omega)]; exact ⟨rfl, rfl⟩⟩
theorem Ltf_60 {w : WD} {v : Int} : Ltf w (up w 60 1 v) := ⟨fun j _ _ _ h4 _ _ => up_k h4, fun j _ => by rw [up_k (by omega)], by rw [up_i (by omega)], fun j _ => by rw [up_k (by omega), up_k (by omega)]; exact ⟨rfl, rfl⟩, fun j hj => by rw [up_k (by omega), up_k (by omega)]; exact ⟨rfl, rfl⟩⟩
theorem Ltf_46 {w : WD} {j v : Int} (h : 17 ≤ j ∧ j ≤ 20) : Ltf w (up w 46 j v) := ⟨fun k h1 _ _ _ _ _ => up_k h1, fun k hk => by rw [up_i (by omega)], by rw [up_k (by omega)], fun k _ => by rw [up_k (by omega), up_k (by omega)]; exact ⟨rfl, rfl⟩, fun k hk => by rw [up_k (by omega), up_k (by omega)]; exact ⟨rfl, rfl⟩⟩
theorem Rtp_l {c : Int → Int} {n : Int} {w u : WD} (h : Rtp c n w) (e : Ltf w u) : Rtp c n u := ⟨by rw [e.2.1 16 (by omega)]; exact h.1, by rw [e.1 57 (by omega) (by omega) (by omega) (by omega) (by omega) (by omega)]; exact h.2⟩
theorem flR_app : ∀ (ls : List (List Int × List Int)) (q : List Int × List Int), flR (ls ++ [q]) = flR ls ++ (q.1 ++ q.2)
  | [], q => by show (q.1 ++ q.2) ++ [] = _; rw [List.append_nil]; rfl
  | p :: ls, q => by
    show (p.1 ++ p.2) ++ flR (ls ++ [q]) = ((p.1 ++ p.2) ++ flR ls) ++ _
    rw [flR_app ls q, List.append_assoc (p.1 ++ p.2)]
theorem flC_app : ∀ (ls : List (List Int × List Int)) (q : List Int × List Int), flC (ls ++ [q]) = flC ls ++ lineC q
  | [], q => by show lineC q ++ [] = _; rw [List.append_nil]; rfl
  | p :: ls, q => by
    show lineC p ++ flC (ls ++ [q]) = (lineC p ++ flC ls) ++ _
    rw [flC_app ls q, List.append_assoc (lineC p)]
theorem EndsAre_app {te le : Int → Int} (q : List Int × List Int) : ∀ (ls : List (List Int × List Int)) (l b : Int), EndsAre te le l b ls → te (l + ls.length) = b + (flR ls).length + q.1.length → le (l + ls.length) = b + (flR ls).length + q.1.length + q.2.length → EndsAre te le l b (ls ++ [q])
  | [], l, b, _, h1, h2 => by
    have z : ((flR []).length : Int) = 0 := rfl
    rw [z] at h1 h2
    simp only [List.length_nil] at h1 h2
    refine ⟨?_, ?_, trivial⟩
    · have e : l + ((0 : Nat) : Int) = l := by omega
      rw [e] at h1
      omega
    · have e : l + ((0 : Nat) : Int) = l := by omega
      rw [e] at h2
      omega
  | p :: ls, l, b, ⟨a1, a2, a3⟩, h1, h2 => by
    have z : ((flR (p :: ls)).length : Int) = p.1.length + p.2.length + (flR ls).length := by
      show (((p.1 ++ p.2) ++ flR ls).length : Int) = _
      simp only [List.length_append]
      omega
    have e : l + ((p :: ls).length : Int) = l + 1 + ls.length := by rw [List.length_cons]; omega
    rw [z, e] at h1 h2
    exact ⟨a1, a2, EndsAre_app q ls (l + 1) _ a3 (by omega) (by omega)⟩
theorem EndsAre_low {te le te' le' : Int → Int} : ∀ (ls : List (List Int × List Int)) (l b e : Int), l + ls.length ≤ e → EndsAre te le l b ls → (∀ i, i < e → te' i = te i ∧ le' i = le i) → EndsAre te' le' l b ls
  | [], _, _, _, _, _, _ => trivial
  | p :: ls, l, b, e, he, ⟨a1, a2, a3⟩, h => by
    rw [List.length_cons] at he
    obtain ⟨x1, x2⟩ := h l (by omega)
    exact ⟨x1.trans a1, x2.trans a2, EndsAre_low ls (l + 1) _ e (by omega) a3 h⟩
def Tst (w u : WD) (q : Int) (ls : List (List Int × List Int)) : Prop := Ltf w u ∧ u 46 17 = q ∧ u 46 18 = -1 ∧ u 46 19 = 0 ∧ u 46 20 = (flR ls).length ∧ StepsAre (u 58) (u 59) 130 (flR ls) ∧ u 60 1 = ls.length ∧ EndsAre (u 61) (u 62) 61 0 ls
/-- within a line -/
def Mst (w u : WD) (q : Int) (ls : List (List Int × List Int)) (t : List Int) (e : Int) : Prop := Ltf w u ∧ u 46 17 = q ∧ u 46 18 = -1 ∧ u 46 19 = 0 ∧ u 46 20 = (flR ls).length + t.length ∧ StepsAre (u 58) (u 59) 130 (flR ls ++ t) ∧ u 60 1 = ls.length ∧ EndsAre (u 61) (u 62) 61 0 ls ∧ u 61 (61 + ls.length) = (flR ls).length + e
theorem m_term {c : Int → Int} {n q : Int} {w u : WD} {ls : List (List Int × List Int)} {t : List Int} {e : Int} {o : Ous} {F : WD → Option WD} {P : WD → Prop} (hF : RIo c n 0 F q o) (hw : Rtp c n w) (hs : Mst w u q ls t e) (hq : ((flR ls).length : Int) + t.length ≤ q)
    (h1 : ∀ x, o = .inl x → ∀ z, Mst w z x.1 ls (t ++ x.2) e → P z) (h2 : ∀ x, o = .inr x → ∀ z, Ltf w z → z 46 17 = x.2 → z 46 18 = x.2 → P z) : WV (F u) P := by
  obtain ⟨a1, a2, a3, a4, a5, a6, a7, a8, a9⟩ := hs
  refine hF u _ P ⟨Rtp_l hw a1, a2, a3, a4, rfl⟩ (by omega) (by omega) (fun z hz => ?_)
  cases o with
  | inl x =>
    obtain ⟨b1, b2, b3, b4, b5, b6, b7⟩ := hz
    have l46 := Ltf_R b1
    refine h1 x rfl z ⟨a1.tr l46, b2, b3, b4, ?_, ?_, ?_, ?_, ?_⟩
    · rw [b5, a5, List.length_append]; omega
    · rw [← List.append_assoc]
      refine StepsAre_app.mpr ⟨StepsAre_low a6 rfl (fun i hi => b7 i ?_), ?_⟩
      · rw [List.length_append] at hi; omega
      · rw [List.length_append, show (130 : Int) + (((flR ls).length + t.length : Nat) : Int) = 130 + u 46 20 by omega]
        exact b6
    · rw [b1.1 60 (by omega) (by omega) (by omega)]; exact a7
    · rw [b1.1 61 (by omega) (by omega) (by omega), b1.1 62 (by omega) (by omega) (by omega)]; exact a8
    · rw [b1.1 61 (by omega) (by omega) (by omega)]; exact a9
  | inr x =>
    obtain ⟨b1, b2, b3, b4, b5⟩ := hz
    exact h2 x rfl z (a1.tr (Ltf_R b1)) b2 b3
theorem m_mark {w u : WD} {q q' e v : Int} {ls : List (List Int × List Int)} {t : List Int} (h : Mst w u q ls t e) (hq : u 46 17 = q → q' = q') (hv : v = (flR ls).length + t.length) : Mst w (up (up u 46 17 q') 61 (61 + ls.length) v) q' ls t t.length := by
  obtain ⟨a1, a2, a3, a4, a5, a6, a7, a8, a9⟩ := h
  refine ⟨(a1.tr (Ltf_46 (by omega))).tr (Ltf_61 (by omega)), ?_, ?_, ?_, ?_, ?_, ?_, ?_, ?_⟩
  · rw [up_k (by omega), up_s]
  · rw [up_k (by omega), up_i (by omega)]; exact a3
  · rw [up_k (by omega), up_i (by omega)]; exact a4
  · rw [up_k (by omega), up_i (by omega)]; exact a5
  · rw [up_k (by omega), up_k (by omega), up_k (by omega), up_k (by omega)]; exact a6
  · rw [up_k (by omega), up_k (by omega)]; exact a7
  · refine EndsAre_low ls 61 0 (61 + ls.length) (by omega) a8 (fun i hi => ?_)
    rw [up_i (by omega), up_k (by omega), up_k (by omega), up_k (by omega)]
    exact ⟨rfl, rfl⟩
  · rw [up_s]; exact hv
theorem m_begin {w u : WD} {q v : Int} {ls : List (List Int × List Int)} (h : Tst w u q ls) (hv : v = (flR ls).length) : Mst w (up u 61 (61 + ls.length) v) q ls [] 0 := by
  obtain ⟨a1, a2, a3, a4, a5, a6, a7, a8⟩ := h
  refine ⟨a1.tr (Ltf_61 (by omega)), ?_, ?_, ?_, ?_, ?_, ?_, ?_, ?_⟩
  · rw [up_k (by omega)]; exact a2
  · rw [up_k (by omega)]; exact a3
  · rw [up_k (by omega)]; exact a4
  · rw [up_k (by omega), a5]; simp
  · rw [up_k (by omega), up_k (by omega), List.append_nil]; exact a6
  · rw [up_k (by omega)]; exact a7
  · refine EndsAre_low ls 61 0 (61 + ls.length) (by omega) a8 (fun i hi => ?_)
    rw [up_i (by omega), up_k (by omega)]
    exact ⟨rfl, rfl⟩
  · rw [up_s]; omega
theorem m_end {w u : WD} {q v k : Int} {ls : List (List Int × List Int)} {ln : List Int × List Int} (h : Mst w u q ls (ln.1 ++ ln.2) ln.1.length) (hv : v = (flR ls).length + (ln.1 ++ ln.2).length) (hk : k = ls.length + 1) : Tst w (up (up u 62 (61 + ls.length) v) 60 1 k) q (ls ++ [ln]) := by
  obtain ⟨a1, a2, a3, a4, a5, a6, a7, a8, a9⟩ := h
  rw [List.length_append] at hv
  refine ⟨(a1.tr (Ltf_62 (by omega))).tr Ltf_60, ?_, ?_, ?_, ?_, ?_, ?_, ?_⟩
  · rw [up_k (by omega), up_k (by omega)]; exact a2
  · rw [up_k (by omega), up_k (by omega)]; exact a3
  · rw [up_k (by omega), up_k (by omega)]; exact a4
  · rw [up_k (by omega), up_k (by omega), a5, flR_app]; simp only [List.length_append]; omega
  · rw [up_k (by omega), up_k (by omega), up_k (by omega), up_k (by omega), flR_app]; exact a6
  · rw [up_s, hk, List.length_append]; simp
  · refine EndsAre_app ln ls 61 0 (EndsAre_low ls 61 0 (61 + ls.length) (by omega) a8 (fun i hi => ?_)) ?_ ?_
    · rw [up_k (by omega), up_k (by omega), up_k (by omega), up_i (by omega)]
      exact ⟨rfl, rfl⟩
    · rw [up_k (by omega), up_k (by omega), a9]; omega
    · rw [up_k (by omega), up_s, hv]; omega
