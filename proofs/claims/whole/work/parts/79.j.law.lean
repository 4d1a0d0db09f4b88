theorem EndsAre_mv {te le te' le' : Int → Int} : ∀ (ls : List (List Int × List Int)) (l l' b : Int), EndsAre te le l b ls → (∀ i : Int, 0 ≤ i → i < ls.length → te' (l' + i) = te (l + i) ∧ le' (l' + i) = le (l + i)) → EndsAre te' le' l' b ls
  | [], _, _, _, _, _ => trivial
  | p :: ls, l, l', b, ⟨a1, a2, a3⟩, h => by
    obtain ⟨x1, x2⟩ := h 0 (by omega) (by rw [List.length_cons]; omega)
    rw [Int.add_zero, Int.add_zero] at x1 x2
    refine ⟨x1.trans a1, x2.trans a2, EndsAre_mv ls (l + 1) (l' + 1) _ a3 (fun i i0 i1 => ?_)⟩
    have := h (i + 1) (by omega) (by rw [List.length_cons]; omega)
    rw [show l' + 1 + i = l' + (i + 1) by omega, show l + 1 + i = l + (i + 1) by omega]
    exact this
def Jt (u15 : WD) : Option (Int × WD) := bw (up u15 46 16 0) <| fun (u16 : WD) => if (u16 46 18) < 0 then (fR_readText_l105 0 (fun (u21 : WD) => ck ((0 : Int) ≤ 0 ∧ (0 : Int) < 2) <| bw (up u21 60 0 (u21 60 1)) <| fun (u22 : WD) => fR_readText_l177 0 FU 0 u22) FU 0 u16) else (some ((u16 46 18), u16))
def R5 (u : WD) : WD := up (up (up (up (up u 46 17 0) 46 18 (-1)) 46 19 0) 46 20 0) 60 1 0
theorem R5_l {u : WD} : Ltf u (R5 u) := ((((Ltf_46 (by omega)).tr (Ltf_46 (by omega))).tr (Ltf_46 (by omega))).tr (Ltf_46 (by omega))).tr Ltf_60
theorem l_text {c : Int → Int} {n : Int} {G : List (List Int × List Int) → WD → WD → Prop} {u : WD} {Q : Int → WD → Prop} (hn : n ≤ 120) (hG : TXR c n 0 G) (hu : Rtp c n u) (h : ∀ v, G [] (R5 u) v → WI (Jt v) Q) : WI (fR_readText 0 u) Q := by
  unfold fR_readText
  refine i_bw (i_bw (i_bw (i_bw (i_bw (i_cv ?_)))))
  refine hG (R5 u) (R5 u) [] 0 FU Jt Q (Rtp_l hu R5_l) ⟨Ltf.rf, ?_, ?_, ?_, ?_, StepsAre_nil, ?_, trivial⟩ (by simp) (by show ((0 : Nat) : Int) ≤ 0; omega) (by unfold FU; omega) h
  · rfl
  · rfl
  · rfl
  · rfl
  · rfl
