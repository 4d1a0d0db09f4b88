theorem RowIs_cons {r : Int → Int} {b c : Int} {t : List Int} : RowIs r b (c :: t) ↔ r b = c ∧ RowIs r (b + 1) t := by
  constructor
  · intro h
    refine ⟨?_, fun i hi => ?_⟩
    · have := h 0 (by simp)
      rw [show b + ((0 : Nat) : Int) = b by omega] at this
      exact this
    · have := h (i + 1) (by rw [List.length_cons]; omega)
      rw [show b + ((i + 1 : Nat) : Int) = b + 1 + i by omega] at this
      exact this
  · intro ⟨h0, h⟩ i hi
    cases i with
    | zero => rw [show b + ((0 : Nat) : Int) = b by omega]; exact h0
    | succ i =>
      have := h i (by rw [List.length_cons] at hi; omega)
      rw [show b + ((i + 1 : Nat) : Int) = b + 1 + i by omega]
      exact this
theorem RowIs_app {r : Int → Int} {t : List Int} : ∀ {s : List Int} {b : Int}, RowIs r b (s ++ t) ↔ RowIs r b s ∧ RowIs r (b + s.length) t
  | [], b => by
    rw [List.nil_append, List.length_nil, show b + ((0 : Nat) : Int) = b by omega]
    exact ⟨fun h => ⟨fun i hi => absurd hi (Nat.not_lt_zero i), h⟩, fun h => h.2⟩
  | c :: s, b => by
    rw [List.cons_append, RowIs_cons, RowIs_cons, RowIs_app, List.length_cons, show b + ((s.length + 1 : Nat) : Int) = b + 1 + s.length by omega]
    exact ⟨fun ⟨a, b, c⟩ => ⟨⟨a, b⟩, c⟩, fun ⟨⟨a, b⟩, c⟩ => ⟨a, b, c⟩⟩
theorem StepsAre_cons {a v : Int → Int} {b c : Int} {t : List Int} : StepsAre a v b (c :: t) ↔ (a b = AC c ∧ v b = AV c) ∧ StepsAre a v (b + 1) t := by
  constructor
  · intro h
    refine ⟨?_, fun i hi => ?_⟩
    · have := h 0 (by simp)
      rw [show b + ((0 : Nat) : Int) = b by omega] at this
      exact this
    · have := h (i + 1) (by rw [List.length_cons]; omega)
      rw [show b + ((i + 1 : Nat) : Int) = b + 1 + i by omega] at this
      exact this
  · intro ⟨h0, h⟩ i hi
    cases i with
    | zero => rw [show b + ((0 : Nat) : Int) = b by omega]; exact h0
    | succ i =>
      have := h i (by rw [List.length_cons] at hi; omega)
      rw [show b + ((i + 1 : Nat) : Int) = b + 1 + i by omega]
      exact this
theorem StepsAre_app {a v : Int → Int} {t : List Int} : ∀ {s : List Int} {b : Int}, StepsAre a v b (s ++ t) ↔ StepsAre a v b s ∧ StepsAre a v (b + s.length) t
  | [], b => by
    rw [List.nil_append, List.length_nil, show b + ((0 : Nat) : Int) = b by omega]
    exact ⟨fun h => ⟨fun i hi => absurd hi (Nat.not_lt_zero i), h⟩, fun h => h.2⟩
  | c :: s, b => by
    rw [List.cons_append, StepsAre_cons, StepsAre_cons, StepsAre_app, List.length_cons, show b + ((s.length + 1 : Nat) : Int) = b + 1 + s.length by omega]
    exact ⟨fun ⟨a, b, c⟩ => ⟨⟨a, b⟩, c⟩, fun ⟨⟨a, b⟩, c⟩ => ⟨a, b, c⟩⟩
def TKS (t : List Int) : Prop := ∀ c ∈ t, TK c
theorem TKS_cons {c : Int} {t : List Int} (h : TKS (c :: t)) : TK c ∧ TKS t := ⟨h c List.mem_cons_self, fun d hd => h d (List.mem_cons_of_mem c hd)⟩
theorem TK_ne {c : Int} (h : TK c) : c ≠ -63 ∧ c ≠ -59 := by unfold TK at h; omega
/-- the class works a term -/
theorem l_runT {nm : Int → Int} {y : Int} {Q : Int → WD → Prop} : ∀ (t : List Int) (f : Nat) (x : Int) (st : List Int) (m : Nat) (w : WD), TKS t → okp t st.length = some m → RowIs (w 9) x t → 0 ≤ x → x + t.length ≤ w 6 8 → w 6 8 ≤ 121 → st.length + t.length ≤ 121 → SKC w st → NMS nm (w 11) →
    (∀ u, FRK w u → SKC u (exl nm t st) → (exl nm t st).length = m → WI (fLa_run_l9 f y (x + t.length) u) Q) → WI (fLa_run_l9 (f + t.length) y x w) Q
  | [], f, x, st, m, w, _, hk, _, _, _, _, _, hs, _, h => by
    have e := h w FRK.rf hs (by unfold okp at hk; cases hk; rfl)
    rw [List.length_nil, show x + ((0 : Nat) : Int) = x by omega] at e
    exact e
  | c :: t, f, x, st, m, w, hT, hk, hr, h0, h1, h2, h3, hs, hm, h => by
    obtain ⟨c0, cT⟩ := TKS_cons hT
    obtain ⟨r0, r1⟩ := RowIs_cons.mp hr
    obtain ⟨k0, k1⟩ := okp_cons hk
    rw [List.length_cons] at h1 h3
    show WI (fLa_run_l9_b (fLa_run_l9 (f + t.length)) y x w) Q
    unfold fLa_run_l9_b
    rw [r0, w32_i (x := x + 1) (by omega) (by omega)]
    have el := ex1_len (nm := nm) k0
    have hk' : okp t (ex1 nm c st).length = some m := by
      rw [el]
      rcases k1 with ⟨z1, z2⟩ | ⟨z1, z2, z3⟩ | ⟨z1, z2, z3⟩
      · rw [if_pos z1]; exact z2
      · rw [if_neg (by omega), if_pos z2]; exact z3
      · rw [if_neg (by omega), if_neg z2]; exact z3
    have hl' : (ex1 nm c st).length ≤ st.length + 1 := by
      rw [el]
      split
      · omega
      · split <;> omega
    refine i_if (fun q => by exfalso; omega) (fun _ => i_if (fun q => by exfalso; omega) (fun _ => i_ck (by omega) (i_bv (i_jn (i_if (fun _ => i_if (fun _ => i_cv ?_) (fun q => absurd q (by have := TK_ne c0; omega))) (fun q => absurd q (by have := TK_ne c0; omega)))))))
    refine s_stepC c0 k0 hs (by omega) hm (fun u u1 u2 => i_bv ?_)
    refine l_runT t f (x + 1) (ex1 nm c st) m u cT hk' (by rw [u1.1 9 (by decide) (by decide)]; exact r1) (by omega) (by rw [u1.2 8 (by decide)]; omega) (by rw [u1.2 8 (by decide)]; omega) (by omega) u2 (by rw [u1.1 11 (by decide) (by decide)]; exact hm) (fun v v1 v2 v3 => ?_)
    have e := h v (u1.tr v1) v2 v3
    rw [List.length_cons, show x + ((t.length + 1 : Nat) : Int) = x + 1 + t.length by omega] at e
    exact e
def evT (nm : Int → Int) (t : List Int) : Int := (exl nm t []).headD 0
def evL (nm : Int → Int) : List (List Int × List Int) → Int
  | [] => 0
  | q :: ls => if q.1 = [] ∨ evT nm q.1 ≠ 0 then evT nm q.2 else evL nm ls
theorem one_of {l : List Int} (h : l.length = 1) : l = [l.headD 0] := by
  cases l with
  | nil => simp at h
  | cons a s =>
    cases s with
    | nil => rfl
    | cons b s => simp at h
theorem flC_len : ∀ (q : List Int × List Int) (ls : List (List Int × List Int)), (flC (q :: ls)).length = (lineC q).length + (flC ls).length := fun q ls => by
  show (lineC q ++ flC ls).length = _
  rw [List.length_append]
theorem l_runL {nm : Int → Int} {Q : Int → WD → Prop} : ∀ (ls : List (List Int × List Int)) (f : Nat) (x : Int) (w : WD), (∀ q ∈ ls, LINE q) → RowIs (w 9) x (flC ls) → 0 ≤ x → x + (flC ls).length = w 6 8 → w 6 8 ≤ 121 → SKC w [] → NMS nm (w 11) → (flC ls).length < f →
    (∀ u, FRK w u → Q (evL nm ls) u) → WI (fLa_run_l9 f 1 x w) Q
  | [], f, x, w, _, _, _, h1, _, _, _, hf, h => by
    obtain ⟨f, rfl⟩ : ∃ g, f = g + 1 := ⟨f - 1, by omega⟩
    show WI (fLa_run_l9_b (fLa_run_l9 f) 1 x w) Q
    unfold fLa_run_l9_b
    have e0 : (flC []).length = 0 := rfl
    rw [e0] at h1
    exact i_if (fun _ => i_some (h w FRK.rf)) (fun q => by exfalso; omega)
  | q :: ls, f, x, w, hL, hr, h0, h1, h2, hs, hm, hf, h => by
    obtain ⟨l1, l2⟩ := hL q List.mem_cons_self
    have hL' : ∀ q' ∈ ls, LINE q' := fun q' hq => hL q' (List.mem_cons_of_mem q hq)
    rw [flC_len] at h1 hf
    obtain ⟨ra, rb⟩ := RowIs_app.mp (show RowIs (w 9) x (lineC q ++ flC ls) from hr)
    -- the END of a line
    have fin : ∀ (y : Int) (f : Nat) (b : Int) (u : WD), (y = 0 ∨ y = 1) → FRK w u → RowIs (u 9) b (q.2 ++ [-59]) → 0 ≤ b → b + q.2.length + 1 + (flC ls).length = u 6 8 → q.2.length + 1 + (flC ls).length < f → SKC u [] → RowIs (u 9) (b + q.2.length + 1) (flC ls) →
        (y = 1 → ∀ v, FRK w v → Q (evT nm q.2) v) → (y = 0 → ∀ v, FRK w v → Q (evL nm ls) v) → WI (fLa_run_l9 f y b u) Q := by
      intro y f b u hy hu hr b0 b1 bf us ur' q1 q0
      obtain ⟨g, rfl⟩ : ∃ g, f = (g + 1) + q.2.length := ⟨f - q.2.length - 1, by omega⟩
      obtain ⟨rc, rd⟩ := RowIs_app.mp hr
      have rd0 := (RowIs_cons.mp rd).1
      have e8 : u 6 8 = w 6 8 := hu.2 8 (by decide)
      refine l_runT (nm := nm) q.2 (g + 1) b [] 1 u l2.2 l2.1 rc b0 (by omega) (by omega) (by simp; omega) us (by rw [hu.1 11 (by decide) (by decide)]; exact hm) (fun v v1 v2 v3 => ?_)
      rw [one_of v3] at v2
      show WI (fLa_run_l9_b (fLa_run_l9 g) y (b + q.2.length) v) Q
      unfold fLa_run_l9_b
      have e9 : v 9 = u 9 := v1.1 9 (by decide) (by decide)
      have e8' : v 6 8 = u 6 8 := v1.2 8 (by decide)
      rw [e9, rd0, w32_i (x := b + q.2.length + 1) (by omega) (by omega), e8']
      refine i_if (fun q => by exfalso; omega) (fun _ => i_if (fun q => by exfalso; omega) (fun _ => i_ck (by omega) (i_bv (i_jn (i_if (fun _ => i_if (fun q => absurd rfl q) (fun _ => i_ci ?_)) (fun q => absurd (by decide) q))))))
      refine s_pop v2 (by simp) (fun z z1 z2 => i_if (fun hz => i_bv ?_) (fun hz => i_some (q1 (by omega) z ((hu.tr v1).tr z1))))
      refine l_runL ls g _ z hL' ?_ (by omega) ?_ ?_ z2 ?_ (by omega) (fun s s1 => q0 hz s (((hu.tr v1).tr z1).tr s1))
      · rw [z1.1 9 (by decide) (by decide), e9]; exact ur'
      · rw [z1.2 8 (by decide), e8']; omega
      · rw [z1.2 8 (by decide), e8']; omega
      · rw [z1.1 11 (by decide) (by decide), v1.1 11 (by decide) (by decide), hu.1 11 (by decide) (by decide)]; exact hm
    unfold evL at h
    by_cases hq : q.1 = []
    · have e : lineC q = q.2 ++ [-59] := by unfold lineC; rw [if_pos hq]; rfl
      rw [e] at ra rb h1 hf
      rw [List.length_append, List.length_singleton] at h1 hf rb
      rw [if_pos (Or.inl hq)] at h
      refine fin 1 f x w (Or.inr rfl) FRK.rf ra h0 (by omega) (by omega) hs ?_ (fun _ => h) (fun z => by exfalso; omega)
      rw [show x + (q.2.length : Int) + 1 = x + ((q.2.length + 1 : Nat) : Int) by omega]
      exact rb
    · have e : lineC q = q.1 ++ [-63] ++ (q.2 ++ [-59]) := by unfold lineC; rw [if_neg hq]
      rw [e] at ra rb h1 hf
      rw [List.length_append, List.length_append, List.length_append, List.length_singleton, List.length_singleton] at h1 hf rb
      obtain ⟨ra1, ra2⟩ := RowIs_app.mp ra
      obtain ⟨ra3, ra4⟩ := RowIs_app.mp ra1
      rw [List.length_append, List.length_singleton] at ra2
      have rt := (RowIs_cons.mp ra4).1
      rcases l1 with l1 | l1
      · exact absurd l1 hq
      obtain ⟨g, rfl⟩ : ∃ g, f = (g + 1) + q.1.length := ⟨f - q.1.length - 1, by omega⟩
      refine l_runT (nm := nm) q.1 (g + 1) x [] 1 w l1.2 l1.1 ra3 h0 (by omega) h2 (by simp; omega) hs hm (fun v v1 v2 v3 => ?_)
      rw [one_of v3] at v2
      show WI (fLa_run_l9_b (fLa_run_l9 g) 1 (x + q.1.length) v) Q
      unfold fLa_run_l9_b
      have e9 : v 9 = w 9 := v1.1 9 (by decide) (by decide)
      have e8' : v 6 8 = w 6 8 := v1.2 8 (by decide)
      rw [e9, rt, w32_i (x := x + q.1.length + 1) (by omega) (by omega), e8']
      refine i_if (fun q => by exfalso; omega) (fun _ => i_if (fun q => by exfalso; omega) (fun _ => i_ck (by omega) (i_bv (i_jn (i_if (fun q => absurd rfl q) (fun _ => i_ci ?_))))))
      refine s_pop v2 (by simp) (fun z z1 z2 => i_jn ?_)
      have go : ∀ y : Int, (y = 0 ∨ y = 1) → (y = 1 → ∀ v, FRK w v → Q (evT nm q.2) v) → (y = 0 → ∀ v, FRK w v → Q (evL nm ls) v) → WI (fLa_run_l9 g y (x + q.1.length + 1) z) Q := by
        intro y hy q1 q0
        have z9 : z 9 = w 9 := by rw [z1.1 9 (by decide) (by decide), e9]
        have z8 : z 6 8 = w 6 8 := by rw [z1.2 8 (by decide), e8']
        refine fin y g _ z hy (v1.tr z1) ?_ (by omega) (by omega) (by omega) z2 ?_ q1 q0
        · rw [z9, show x + (q.1.length : Int) + 1 = x + ((q.1.length + 1 : Nat) : Int) by omega]; exact ra2
        · rw [z9, show x + (q.1.length : Int) + 1 + (q.2.length : Int) + 1 = x + ((q.1.length + 1 + (q.2.length + 1) : Nat) : Int) by omega]; exact rb
      refine i_if (fun hz => i_bv (go 0 (Or.inl rfl) (fun y => by exfalso; omega) (fun _ => ?_))) (fun hz => i_bv (go 1 (Or.inr rfl) (fun _ => ?_) (fun y => by exfalso; omega)))
      · rw [if_neg (by intro y; rcases y with y | y; exact hq y; exact y hz)] at h; exact h
      · have hz' : evT nm q.1 ≠ 0 := hz
        rw [if_pos (Or.inr hz')] at h; exact h
