/-! THE LAW worked out: codes on a stack -/
def JO (c a b : Int) : Int := if c = -124 then (if a ≠ 0 then 1 else if b = 0 then 0 else 1) else if c = -62 then (if a ≤ b then 0 else 1) else if c = -61 then (if a ≠ b then 0 else 1) else if c = -60 then (if b ≤ a then 0 else 1) else if c = -47 then (if b ≠ 0 then w32 (Int.tdiv a b) else 0) else if c = -45 then w32 (a - b) else if c = -43 then w32 (a + b) else if c = -42 then w32 (a * b) else if c = -38 then (if a = 0 then 0 else if b = 0 then 0 else 1) else if c = -37 then (if b ≠ 0 then Int.tmod a b else 0) else 0
theorem s_joined {c a b : Int} {w : WD} {Q : Int → WD → Prop} (h : Q (JO c a b) w) : WI (fLa_joined c a b w) Q := by
  unfold JO at h
  unfold fLa_joined
  repeat' (first | (with_reducible refine i_ck ?_ ?_) | (with_reducible refine i_some ?_) | (with_reducible refine i_if (fun hc => ?_) (fun hc => ?_)) <;> (first | rw [if_pos hc] at h | rw [if_neg hc] at h))
  all_goals first | exact h | assumption
/-- a sign between two -/
def TK2 (c : Int) : Prop := c = -124 ∨ c = -38 ∨ c = -60 ∨ c = -61 ∨ c = -62 ∨ c = -43 ∨ c = -45 ∨ c = -42 ∨ c = -47 ∨ c = -37
theorem tdiv_m1 (a : Int) : Int.tdiv a (-1) = -a := by rw [Int.tdiv_neg, Int.tdiv_one]
theorem tmod_m1 (a : Int) : Int.tmod a (-1) = 0 := by rw [Int.tmod_neg, Int.tmod_one]
theorem s_twoOf {c a b : Int} {w : WD} {Q : Int → WD → Prop} (hc : TK2 c) (h : Q (JO c a b) w) : WI (fR_twoOf (-c) a b w) Q := by
  rcases hc with rfl | rfl | rfl | rfl | rfl | rfl | rfl | rfl | rfl | rfl
  all_goals (
    unfold JO at h
    simp only [Int.reduceNeg, Int.reduceEq, if_true, if_false] at h
    unfold fR_twoOf
    simp only [Int.reduceNeg, Int.reduceEq, if_true, if_false, or_false, false_or])
  · by_cases h1 : a ≠ 0
    · rw [if_pos h1] at h ⊢; exact i_some h
    · rw [if_neg h1] at h ⊢
      by_cases h2 : b = 0
      · rw [if_pos h2] at h ⊢; exact i_some h
      · rw [if_neg h2] at h ⊢; exact i_some h
  · by_cases h1 : a = 0
    · rw [if_pos h1] at h ⊢; exact i_some h
    · rw [if_neg h1] at h ⊢
      by_cases h2 : b = 0
      · rw [if_pos h2] at h ⊢; exact i_some h
      · rw [if_neg h2] at h ⊢; exact i_some h
  · by_cases h1 : b ≤ a
    · rw [if_pos h1] at h ⊢; exact i_some h
    · rw [if_neg h1] at h ⊢; exact i_some h
  · by_cases h1 : a ≠ b
    · rw [if_pos h1] at h ⊢; exact i_some h
    · rw [if_neg h1] at h ⊢; exact i_some h
  · by_cases h1 : a ≤ b
    · rw [if_pos h1] at h ⊢; exact i_some h
    · rw [if_neg h1] at h ⊢; exact i_some h
  · exact i_some h
  · exact i_some h
  · exact i_some h
  · by_cases h1 : b ≠ 0
    · rw [if_pos h1] at h ⊢
      by_cases h2 : b ≠ -1
      · rw [if_pos h2]; exact i_ck h1 (i_some h)
      · rw [if_neg h2]
        have e : b = -1 := by omega
        rw [e, tdiv_m1] at h
        exact i_some h
    · rw [if_neg h1] at h ⊢; exact i_some h
  · by_cases h1 : b = 0
    · rw [if_pos h1]
      rw [if_neg (by omega)] at h
      exact i_some h
    · rw [if_neg h1]
      rw [if_pos h1] at h
      by_cases h2 : b ≠ -1
      · rw [if_pos h2]; exact i_ck h1 (i_some h)
      · rw [if_neg h2]
        have e : b = -1 := by omega
        rw [e, tmod_m1] at h
        exact i_some h
def ex1 (nm : Int → Int) (c : Int) (st : List Int) : List Int :=
  if 10000 ≤ c then nm (c - 10000) :: st else if 0 ≤ c then c :: st else match st with
    | [] => []
    | a :: s => if c = -1 then w32 (-a) :: s else if c = -33 then (if a ≠ 0 then 0 else 1) :: s else match s with
      | [] => []
      | b :: s' => JO c b a :: s'
def exl (nm : Int → Int) : List Int → List Int → List Int
  | [], st => st
  | c :: t, st => exl nm t (ex1 nm c st)
/-- a row holds a stack, the last on top -/
def StIs (r : Int → Int) : List Int → Prop
  | [] => True
  | a :: s => r s.length = a ∧ StIs r s
theorem StIs_of {r r' : Int → Int} : ∀ {st : List Int}, StIs r st → (∀ i : Int, 0 ≤ i → i < st.length → r' i = r i) → StIs r' st
  | [], _, _ => trivial
  | a :: s, h, e => ⟨by rw [e _ (by omega) (by rw [List.length_cons]; omega)]; exact h.1, StIs_of h.2 (fun i i0 i1 => e i i0 (by rw [List.length_cons]; omega))⟩
/-- what a code wants on the stack, so many -/
def need (c : Int) : Nat := if 0 ≤ c then 0 else if c = -1 ∨ c = -33 then 1 else 2
theorem okp_cons {c : Int} {t : List Int} {n m : Nat} (h : okp (c :: t) n = some m) : need c ≤ n ∧ ((0 ≤ c ∧ okp t (n + 1) = some m) ∨ (c < 0 ∧ (c = -1 ∨ c = -33) ∧ okp t n = some m) ∨ (c < 0 ∧ ¬ (c = -1 ∨ c = -33) ∧ okp t (n - 1) = some m)) := by
  unfold okp at h
  unfold need
  by_cases h0 : 0 ≤ c
  · rw [if_pos h0] at h ⊢
    exact ⟨Nat.zero_le _, Or.inl ⟨h0, h⟩⟩
  · rw [if_neg h0] at h ⊢
    by_cases h1 : c = -1 ∨ c = -33
    · rw [if_pos h1] at h ⊢
      by_cases h2 : 1 ≤ n
      · rw [if_pos h2] at h
        exact ⟨h2, Or.inr (Or.inl ⟨by omega, h1, h⟩)⟩
      · rw [if_neg h2] at h; cases h
    · rw [if_neg h1] at h ⊢
      by_cases h2 : 2 ≤ n
      · rw [if_pos h2] at h
        exact ⟨h2, Or.inr (Or.inr ⟨by omega, h1, h⟩)⟩
      · rw [if_neg h2] at h; cases h
theorem ex1_len {nm : Int → Int} {c : Int} {st : List Int} (h : need c ≤ st.length) : (ex1 nm c st).length = if 0 ≤ c then st.length + 1 else if c = -1 ∨ c = -33 then st.length else st.length - 1 := by
  unfold need at h
  unfold ex1
  by_cases h1 : 10000 ≤ c
  · rw [if_pos h1, if_pos (by omega)]; rfl
  · rw [if_neg h1]
    by_cases h0 : 0 ≤ c
    · rw [if_pos h0, if_pos h0]; rfl
    · rw [if_neg h0, if_neg h0]
      rw [if_neg h0] at h
      cases st with
      | nil =>
        exfalso
        by_cases q : c = -1 ∨ c = -33
        · rw [if_pos q] at h; simp at h
        · rw [if_neg q] at h; simp at h
      | cons a s =>
        by_cases q1 : c = -1
        · rw [if_pos (Or.inl q1)]
          simp only [if_pos q1]
          rfl
        · by_cases q2 : c = -33
          · rw [if_pos (Or.inr q2)]
            simp only [if_neg q1, if_pos q2]
            rfl
          · have q : ¬ (c = -1 ∨ c = -33) := by omega
            rw [if_neg q] at h ⊢
            simp only [if_neg q1, if_neg q2]
            cases s with
            | nil => simp at h
            | cons b s' => simp
/-- the class's stack -/
def SKC (w : WD) (st : List Int) : Prop := w 6 9 = st.length ∧ StIs (w 10) st
def NMS (nm : Int → Int) (r : Int → Int) : Prop := ∀ i, 0 ≤ i → i < 6 → r i = nm i
/-- all but the class's stack -/
def FRK (w u : WD) : Prop := (∀ k, k ≠ 6 → k ≠ 10 → u k = w k) ∧ ∀ i, i ≠ 9 → u 6 i = w 6 i
theorem FRK.rf {w : WD} : FRK w w := ⟨fun _ _ _ => rfl, fun _ _ => rfl⟩
theorem FRK.tr {w u v : WD} (h : FRK w u) (h' : FRK u v) : FRK w v := ⟨fun k k1 k2 => (h'.1 k k1 k2).trans (h.1 k k1 k2), fun i i1 => (h'.2 i i1).trans (h.2 i i1)⟩
theorem s_push {a : Int} {st : List Int} {w : WD} {P : WD → Prop} (hs : SKC w st) (hl : st.length < 121) (h : ∀ u, FRK w u → SKC u (a :: st) → P u) : WV (fLa_push a w) P := by
  obtain ⟨s1, s2⟩ := hs
  unfold fLa_push
  refine v_if (fun q => by exfalso; omega) (fun _ => v_if (fun q => by exfalso; omega) (fun _ => v_ck (by omega) (v_bw (v_bw (v_some (h _ ⟨fun k k1 k2 => ?_, fun i i1 => ?_⟩ ⟨?_, ?_, ?_⟩))))))
  · simp (disch := omega) only [not_true_eq_false, not_false_eq_true, true_and, and_true, up_r, up_k, ur_s, ur_e, ur_i, cp_k, w32_i, w64_i, w8_i]
  · simp (disch := omega) only [not_true_eq_false, not_false_eq_true, true_and, and_true, up_r, up_k, ur_s, ur_e, ur_i, cp_k, w32_i, w64_i, w8_i]
  · simp (disch := omega) only [not_true_eq_false, not_false_eq_true, true_and, and_true, up_r, up_k, ur_s, ur_e, ur_i, cp_k, w32_i, w64_i, w8_i]
    rw [s1, List.length_cons]
    omega
  · simp (disch := omega) only [not_true_eq_false, not_false_eq_true, true_and, and_true, up_r, up_k, ur_s, ur_e, ur_i, cp_k, w32_i, w64_i, w8_i]
  · refine StIs_of s2 (fun i i0 i1 => ?_)
    simp (disch := omega) only [not_true_eq_false, not_false_eq_true, true_and, and_true, up_r, up_k, ur_s, ur_e, ur_i, cp_k, w32_i, w64_i, w8_i]
theorem s_pop {a : Int} {st : List Int} {w : WD} {Q : Int → WD → Prop} (hs : SKC w (a :: st)) (hl : st.length < 121) (h : ∀ u, FRK w u → SKC u st → Q a u) : WI (fLa_pop w) Q := by
  obtain ⟨s1, s2, s3⟩ := hs
  rw [List.length_cons] at s1
  unfold fLa_pop
  rw [w32_i (x := w 6 9 - 1) (by omega) (by omega)]
  refine i_if (fun q => by exfalso; omega) (fun _ => i_if (fun _ => i_bw (i_ck (by simp (disch := omega) only [not_true_eq_false, not_false_eq_true, true_and, and_true, up_r, up_k, ur_s, ur_e, ur_i, cp_k, w32_i, w64_i, w8_i]; omega) (i_some ?_))) (fun q => by exfalso; omega))
  have e : up w 6 9 (w 6 9 - 1) 6 9 = st.length := by simp (disch := omega) only [not_true_eq_false, not_false_eq_true, true_and, and_true, up_r, up_k, ur_s, ur_e, ur_i, cp_k, w32_i, w64_i, w8_i]; omega
  rw [e, up_k (by decide), s2]
  refine h _ ⟨fun k k1 k2 => ?_, fun i i1 => ?_⟩ ⟨e, ?_⟩
  · simp (disch := omega) only [not_true_eq_false, not_false_eq_true, true_and, and_true, up_r, up_k, ur_s, ur_e, ur_i, cp_k, w32_i, w64_i, w8_i]
  · simp (disch := omega) only [not_true_eq_false, not_false_eq_true, true_and, and_true, up_r, up_k, ur_s, ur_e, ur_i, cp_k, w32_i, w64_i, w8_i]
  · simp (disch := omega) only [not_true_eq_false, not_false_eq_true, true_and, and_true, up_r, up_k, ur_s, ur_e, ur_i, cp_k, w32_i, w64_i, w8_i]
    exact s3
theorem s_stepC {c : Int} {nm : Int → Int} {st : List Int} {w : WD} {P : WD → Prop} (hc : TK c) (hn : need c ≤ st.length) (hs : SKC w st) (hl : st.length < 121) (hm : NMS nm (w 11)) (h : ∀ u, FRK w u → SKC u (ex1 nm c st) → P u) : WV (fLa_step c w) P := by
  unfold fLa_step
  unfold ex1 at h
  unfold need at hn
  unfold TK at hc
  by_cases h1 : 10000 ≤ c
  · rw [if_pos h1] at h
    rw [w32_i (x := c - 10000) (by omega) (by omega)]
    refine v_if (fun q => by exfalso; omega) (fun _ => v_jn (v_if (fun q => by exfalso; omega) (fun _ => v_ck (by omega) ?_)))
    rw [hm _ (by omega) (by omega)]
    exact v_cv (s_push hs hl (fun u u1 u2 => v_some (h u u1 u2)))
  · rw [if_neg h1] at h
    refine v_if (fun _ => ?_) (fun q => by exfalso; omega)
    by_cases h0 : 0 ≤ c
    · rw [if_pos h0] at h
      exact v_if (fun q => by exfalso; omega) (fun _ => v_cv (s_push hs hl (fun u u1 u2 => v_some (h u u1 u2))))
    · rw [if_neg h0] at h hn
      refine v_if (fun _ => ?_) (fun q => by exfalso; omega)
      cases st with
      | nil =>
        exfalso
        by_cases q : c = -1 ∨ c = -33
        · rw [if_pos q] at hn; simp at hn
        · rw [if_neg q] at hn; simp at hn
      | cons a s =>
        rw [List.length_cons] at hl
        by_cases q1 : c = -1
        · simp only [if_pos q1] at h
          exact v_if (fun q => absurd q1 q) (fun _ => v_ci (s_pop hs (by omega) (fun u u1 u2 => v_cv (s_push u2 (by omega) (fun v v1 v2 => v_some (h v (u1.tr v1) v2))))))
        · refine v_if (fun _ => ?_) (fun q => absurd q1 q)
          by_cases q2 : c = -33
          · simp only [if_neg q1, if_pos q2] at h
            refine v_if (fun q => absurd q2 q) (fun _ => v_ci (s_pop hs (by omega) (fun u u1 u2 => v_jn (v_if (fun z => ?_) (fun z => ?_)))))
            · rw [if_pos z] at h
              exact v_cv (s_push u2 (by omega) (fun v v1 v2 => v_some (h v (u1.tr v1) v2)))
            · rw [if_neg z] at h
              exact v_cv (s_push u2 (by omega) (fun v v1 v2 => v_some (h v (u1.tr v1) v2)))
          · simp only [if_neg q1, if_neg q2] at h
            rw [if_neg (by omega)] at hn
            refine v_if (fun _ => ?_) (fun q => absurd q2 q)
            cases s with
            | nil => simp at hn
            | cons b s' =>
              rw [List.length_cons] at hl
              exact v_ci (s_pop hs (by rw [List.length_cons]; omega) (fun u u1 u2 => v_ci (s_pop u2 (by omega) (fun v v1 v2 => v_ci (s_joined (v_cv (s_push v2 (by omega) (fun z z1 z2 => v_some (h z ((u1.tr v1).tr z1) z2)))))))))
