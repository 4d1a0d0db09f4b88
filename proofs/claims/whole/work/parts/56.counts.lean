/-! how much a SIGN counts for one -/
abbrev LINES : Type := List (List Int × List Int)
def LW (w : WD) (law : Option LINES) : Prop := match law with
  | none => w 46 28 = 0 ∧ w 6 8 = 0
  | some ls => w 46 28 = 1 ∧ LawIs w ls
theorem LW_of {w : WD} (h : ILaw w) : ∃ law, LW w law := by
  rcases h with h | ⟨h, ls, hl⟩
  · exact ⟨none, h⟩
  · exact ⟨some ls, h, hl⟩
def NM (s t x f k i : Int) : Int := if i = 0 then s else if i = 1 then t else if i = 2 then x else if i = 3 then f else if i = 4 then k else if x = t then 1 else 0
def CTV (law : Option LINES) (s t x f k : Int) : Int := match law with
  | none => if x = t then 9 else f
  | some ls => mx 0 (mn 9 (evL (NM s t x f k) ls))
def CT (w : WD) (law : Option LINES) (p s x : Int) : Int := if p = 6 then w 2 48 else CTV law s (w 2 (4 * p + s)) x (w 2 (4 * p + 3)) (w 2 (44 + s))
/-- one of the list, or a stranger -/
def ONE (w : WD) (p : Int) : Prop := (0 ≤ p ∧ p < w 1 4) ∨ p = 6
theorem HV_48 {w : WD} (h : HV w) : w 52 1 = w 2 48 ∧ 0 ≤ w 2 48 ∧ w 2 48 ≤ 9 := h 10 0 ⟨by omega, by omega, by omega, by omega, by omega, by omega, by omega⟩
theorem HV_f {w : WD} (h : HV w) {p : Int} (hp : 0 ≤ p ∧ p < 6) : w 48 p = w 2 (4 * p + 3) ∧ 0 ≤ w 2 (4 * p + 3) ∧ w 2 (4 * p + 3) ≤ 9 := h 3 p ⟨by omega, by omega, by omega, by omega, by omega, by omega, by omega⟩
theorem HV_k {w : WD} (h : HV w) {s : Int} (hs : 0 ≤ s ∧ s < 3) : w 51 s = w 2 (44 + s) ∧ 0 ≤ w 2 (44 + s) ∧ w 2 (44 + s) ≤ 9 := h 8 s ⟨by omega, by omega, by omega, by omega, by omega, by omega, by omega⟩
theorem HV_s {w : WD} (h : HV w) {p s : Int} (hp : 0 ≤ p ∧ p < 6) (hs : 0 ≤ s ∧ s < 3) : w 47 (3 * p + s) = w 2 (4 * p + s) ∧ 0 ≤ w 2 (4 * p + s) ∧ w 2 (4 * p + s) ≤ 3 := by
  have := h s p ⟨by omega, by omega, by omega, by omega, by omega, by omega, by omega⟩
  rw [PL_sign hs] at this
  unfold PR PI LO HI at this
  rw [if_pos hs.2, if_pos hs.2, if_neg (by omega), if_neg (by omega), if_pos hs.2] at this
  exact this
theorem CT_in {w : WD} {law : Option LINES} {p s x : Int} (h : HV w) (hp : (0 ≤ p ∧ p < 6) ∨ p = 6) (hs : 0 ≤ s ∧ s < 3) : 0 ≤ CT w law p s x ∧ CT w law p s x ≤ 9 := by
  unfold CT
  by_cases h6 : p = 6
  · rw [if_pos h6]
    exact (HV_48 h).2
  · rw [if_neg h6]
    have hp' : 0 ≤ p ∧ p < 6 := by omega
    have hf := (HV_f h hp').2
    unfold CTV
    cases law with
    | none =>
      show 0 ≤ (if x = _ then (9 : Int) else _) ∧ (if x = _ then (9 : Int) else _) ≤ 9
      split
      · omega
      · exact hf
    | some ls =>
      show 0 ≤ mx 0 (mn 9 _) ∧ mx 0 (mn 9 _) ≤ 9
      unfold mx mn
      split <;> split <;> omega
/-- what the class's law touches -/
def FRC (w u : WD) : Prop := (∀ k, k ≠ 6 → k ≠ 10 → k ≠ 11 → u k = w k) ∧ ∀ i, i ≠ 9 → u 6 i = w 6 i
theorem FRC.rf {w : WD} : FRC w w := ⟨fun _ _ _ _ => rfl, fun _ _ => rfl⟩
theorem FRC.tr {w u v : WD} (h : FRC w u) (h' : FRC u v) : FRC w v := ⟨fun k k1 k2 k3 => (h'.1 k k1 k2 k3).trans (h.1 k k1 k2 k3), fun i i1 => (h'.2 i i1).trans (h.2 i i1)⟩
theorem FRC.same {w u : WD} (h : FRC w u) : Same w u := ⟨fun k hk => h.1 k (by intro e; subst e; exact hk (by decide)) (by intro e; subst e; exact hk (by decide)) (by intro e; subst e; exact hk (by decide)), h.2 5 (by decide), h.2 8 (by decide), fun i _ => congrFun (h.1 46 (by decide) (by decide) (by decide)) i⟩
def FRG (w u : WD) : Prop := ∀ k, k ≠ 63 → k ≠ 64 → u k = w k
theorem FRG.rf {w : WD} : FRG w w := fun _ _ _ => rfl
theorem FRG.tr {w u v : WD} (h : FRG w u) (h' : FRG u v) : FRG w v := fun k k1 k2 => (h' k k1 k2).trans (h k k1 k2)
theorem FRG.same {w u : WD} (h : FRG w u) : Same w u := ⟨fun k hk => h k (by intro e; subst e; exact hk (by decide)) (by intro e; subst e; exact hk (by decide)), congrFun (h 6 (by decide) (by decide)) 5, congrFun (h 6 (by decide) (by decide)) 8, fun i _ => congrFun (h 46 (by decide) (by decide)) i⟩
theorem s_weightOf {law : Option LINES} {s t x f k : Int} {w : WD} {Q : Int → WD → Prop} (hL : LW w law) (h : ∀ u, FRC w u → Q (CTV law s t x f k) u) : WI (fLa_weightOf s t x f k w) Q := by
  unfold fLa_weightOf
  cases law with
  | none =>
    obtain ⟨h1, h2⟩ := hL
    refine i_if (fun q => absurd h2 q) (fun _ => i_if (fun q => i_some ?_) (fun q => i_some ?_))
    · have e := h w FRC.rf
      unfold CTV at e
      simp only [if_neg q] at e
      exact e
    · have e := h w FRC.rf
      unfold CTV at e
      have q' : x = t := by omega
      simp only [if_pos q'] at e
      exact e
  | some ls =>
    obtain ⟨h1, l1, l2, l3, l4, l5, -⟩ := hL
    refine i_if (fun _ => i_bw (i_bw (i_bw (i_bw (i_bw (i_jn ?_)))))) (fun q => by exfalso; omega)
    have go : ∀ b : Int, b = (if x = t then 1 else 0) → WI (bw (up (up (up (up (up (up w 11 0 s) 11 1 t) 11 2 x) 11 3 f) 11 4 k) 11 5 b) fun u8 => ci (fLa_run u8) fun r10 u9 => some (mx 0 (mn 9 r10), u9)) Q := by
      intro b hb
      unfold fLa_run
      refine i_bw (i_ci (i_bw ?_))
      refine l_runL (nm := NM s t x f k) ls FU 0 _ l1 (by simp (disch := omega) only [not_true_eq_false, not_false_eq_true, true_and, and_true, up_r, up_k, ur_s, ur_e, ur_i, cp_k, w32_i, w64_i, w8_i]; exact l5) (by decide) (by simp (disch := omega) only [not_true_eq_false, not_false_eq_true, true_and, and_true, up_r, up_k, ur_s, ur_e, ur_i, cp_k, w32_i, w64_i, w8_i]; omega) (by simp (disch := omega) only [not_true_eq_false, not_false_eq_true, true_and, and_true, up_r, up_k, ur_s, ur_e, ur_i, cp_k, w32_i, w64_i, w8_i]; exact l4) ⟨by simp (disch := omega) only [not_true_eq_false, not_false_eq_true, true_and, and_true, up_r, up_k, ur_s, ur_e, ur_i, cp_k, w32_i, w64_i, w8_i]; rfl, trivial⟩ (fun i i0 i1 => ?_) (by unfold FU; omega) (fun u u1 => i_some (h u ⟨fun k k1 k2 k3 => ?_, fun i i1 => ?_⟩))
      · rw [up_k (by decide)]
        unfold NM
        rcases (by omega : i = 0 ∨ i = 1 ∨ i = 2 ∨ i = 3 ∨ i = 4 ∨ i = 5) with rfl | rfl | rfl | rfl | rfl | rfl <;> simp (disch := omega) only [not_true_eq_false, not_false_eq_true, true_and, and_true, up_r, up_k, ur_s, ur_e, ur_i, cp_k, w32_i, w64_i, w8_i] <;> first | rfl | exact hb
      · rw [u1.1 k k1 k2]; simp (disch := omega) only [not_true_eq_false, not_false_eq_true, true_and, and_true, up_r, up_k, ur_s, ur_e, ur_i, cp_k, w32_i, w64_i, w8_i]
      · rw [u1.2 i i1]; simp (disch := omega) only [not_true_eq_false, not_false_eq_true, true_and, and_true, up_r, up_k, ur_s, ur_e, ur_i, cp_k, w32_i, w64_i, w8_i]
    refine i_if (fun q => go 0 (by rw [if_neg q])) (fun q => go 1 (by rw [if_pos (by omega)]))
theorem LW_same {w u : WD} {law : Option LINES} (h : LW w law) (e : Same w u) : LW u law := by
  cases law with
  | none => exact ⟨(e.f 28 (by decide)).trans h.1, e.2.2.1.trans h.2⟩
  | some ls => exact ⟨(e.f 28 (by decide)).trans h.1, LawIs_of ⟨e.2.2.1, e.r 9 (by decide), e.r 58 (by decide), e.r 59 (by decide), congrFun (e.r 60 (by decide)) 0, e.r 61 (by decide), e.r 62 (by decide)⟩ h.2⟩
theorem CT_same {w u : WD} {law : Option LINES} {p s x : Int} (e : Same w u) : CT u law p s x = CT w law p s x := by
  unfold CT
  rw [e.r 2 (by decide)]
theorem s_worthOf {law : Option LINES} {p s x : Int} {w : WD} {Q : Int → WD → Prop} (hL : LW w law) (hw : 0 ≤ w 1 4 ∧ w 1 4 ≤ 6 ∧ 0 ≤ w 1 5 ∧ w 1 5 ≤ 5) (hp : ONE w p) (hs : 0 ≤ s ∧ s < 3) (h : ∀ u, FRC w u → Q (CT w law p s x) u) : WI (fTh_worthOf p s x w) Q := by
  unfold fTh_worthOf
  unfold ONE at hp
  unfold CT at h
  by_cases h6 : p = 6
  · rw [if_pos h6] at h
    refine i_if (fun q => absurd h6 q) (fun _ => i_ci (s_at hw (fun _ => i_some (h w FRC.rf)) (fun q => absurd (show OKp _ _ _ _ from ⟨by omega, by omega, by omega, by omega, by omega, by omega, by omega⟩) q)))
  · rw [if_neg h6] at h
    have o1 : OKp (w 1 4) (w 1 5) p s := ⟨by omega, by omega, by omega, by omega, by omega, by omega, by omega⟩
    have o2 : OKp (w 1 4) (w 1 5) p 3 := ⟨by omega, by omega, by omega, by omega, by omega, by omega, by omega⟩
    have o3 : OKp (w 1 4) (w 1 5) s 8 := ⟨by omega, by omega, by omega, by omega, by omega, by omega, by omega⟩
    refine i_if (fun _ => i_ci (s_at hw (fun _ => i_ci (s_at hw (fun _ => i_ci (s_at hw (fun _ => i_ci ?_) (fun q => absurd o3 q))) (fun q => absurd o2 q))) (fun q => absurd o1 q))) (fun q => absurd h6 q)
    rw [PL_sign hs, show PL 3 p = 4 * p + 3 from rfl, show PL 8 s = 44 + s from rfl]
    exact s_weightOf hL (fun u u1 => i_some (h u u1))
theorem s_gives {ls : LINES} {nm : Int → Int} {w : WD} {Q : Int → WD → Prop} (hL : LawIs w ls) (hm : NMS nm (w 63)) (h : ∀ u, FRP w u → Q (evL nm ls) u) : WI (fR_gives 0 w) Q := by
  obtain ⟨l1, l2, l3, l4, l5, l6, l7, l8, l9⟩ := hL
  have hlen : ∀ ls : LINES, (∀ q ∈ ls, LINE q) → (flR ls).length ≤ (flC ls).length := by
    intro ls
    induction ls with
    | nil => intro _; exact Nat.le_refl _
    | cons q ls ih =>
      intro hq
      have := ih (fun q' h' => hq q' (List.mem_cons_of_mem q h'))
      rw [flC_len]
      show (q.1 ++ q.2 ++ flR ls).length ≤ _
      rw [List.length_append, List.length_append]
      unfold lineC
      by_cases e : q.1 = []
      · rw [if_pos e, e]; simp; omega
      · rw [if_neg e]; simp; omega
  have := hlen ls l1
  unfold fR_gives
  rw [w32_i (x := 61 * 0) (by omega) (by omega)]
  exact i_bv (l_gives (nm := nm) ls FU 0 0 w l1 l8 (by decide) (by omega) (by decide) (by omega) (by omega) l9 hm (by unfold FU; omega) h)
theorem s_countsBy {law : Option LINES} {p s x : Int} {w0 w : WD} {Q : Int → WD → Prop} (hL : LW w law) (hV : HV w0) (e2 : ∀ k, 47 ≤ k → k ≤ 52 → k ≠ 49 → k ≠ 50 → w k = w0 k) (hp : (0 ≤ p ∧ p < 6) ∨ p = 6) (hs : 0 ≤ s ∧ s < 3) (h : ∀ u, FRG w u → Q (CT w0 law p s x) u) : WI (fR_countsBy p s x w) Q := by
  unfold fR_countsBy
  have hin := CT_in (law := law) (p := p) (s := s) (x := x) hV hp hs
  by_cases h6 : p = 6
  · refine i_if (fun q => absurd h6 q) (fun _ => i_some ?_)
    have e := h w FRG.rf
    unfold CT at e
    rw [if_pos h6] at e
    rw [e2 52 (by decide) (by decide) (by decide) (by decide), (HV_48 hV).1]
    exact e
  · have hp' : 0 ≤ p ∧ p < 6 := by omega
    have es := HV_s hV hp' hs
    have ef := HV_f hV hp'
    have ek := HV_k hV hs
    unfold CT at h hin
    rw [if_neg h6] at h hin
    generalize ht : w0 2 (4 * p + s) = t at *
    generalize hf : w0 2 (4 * p + 3) = f at *
    generalize hk : w0 2 (44 + s) = k at *
    refine i_if (fun _ => ?_) (fun q => absurd h6 q)
    rw [w32_i (x := 3 * p) (by omega) (by omega), w32_i (x := 3 * p + s) (by omega) (by omega), e2 47 (by decide) (by decide) (by decide) (by decide), es.1]
    refine i_ck (by omega) (i_bv (i_jn ?_))
    have last : ∀ (v : Int) (u : WD), (∀ r, (0 ≤ v ∧ v ≤ 9 → r = v) → (¬ 0 ≤ v → r = 0) → (9 < v → r = 9) → Q r u) → WI (if 0 ≤ v then (if v ≤ 9 then (some (v, u)) else (some (9, u))) else (some (0, u))) Q := by
      intro v u hq
      refine i_if (fun q => i_if (fun q' => i_some (hq v ?_ ?_ ?_)) (fun q' => i_some (hq 9 ?_ ?_ ?_))) (fun q => i_some (hq 0 ?_ ?_ ?_)) <;> omega
    have mid : ∀ a : Int, a = (if x = t then 9 else f) → WI (jn (β := Int → WD → Option (Int × WD)) (fun (v5_4 : Int) (u5 : WD) => if 0 ≤ v5_4 then (if v5_4 ≤ 9 then (some (v5_4, u5)) else (some (9, u5))) else (some (0, u5))) <| fun J8 => if (w 46 28) = 0 then (J8 a w) else (bw (up w 63 0 s) <| fun (u9 : WD) => bw (up u9 63 1 t) <| fun (u10 : WD) => bw (up u10 63 2 x) <| fun (u11 : WD) => ck (0 ≤ p ∧ p < 6) <| bw (up u11 63 3 (u11 48 p)) <| fun (u12 : WD) => ck (0 ≤ s ∧ s < 3) <| bw (up u12 63 4 (u12 51 s)) <| fun (u13 : WD) => jn (β := Int → WD → Option (Int × WD)) (fun (s14 : Int) (u15 : WD) => bw (up u15 63 5 s14) <| fun (u16 : WD) => ci (fR_gives 0 u16) <| fun (r18 : Int) (u17 : WD) => J8 r18 u17) <| fun J20 => if t ≠ x then (J20 0 u13) else (J20 1 u13))) Q := by
      intro a ea
      refine i_jn ?_
      cases law with
      | none =>
        obtain ⟨h1, h2⟩ := hL
        have e : CTV none s t x f k = a := ea.symm
        rw [e] at hin h
        refine i_if (fun _ => last a w (fun r r1 r2 r3 => ?_)) (fun q => absurd h1 q)
        rw [r1 hin]
        exact h w FRG.rf
      | some ls =>
        obtain ⟨h1, hl⟩ := hL
        refine i_if (fun q => by exfalso; omega) (fun _ => i_bw (i_bw (i_bw (i_ck hp' (i_bw (i_ck hs (i_bw (i_jn ?_))))))))
        simp (disch := omega) only [not_true_eq_false, not_false_eq_true, true_and, and_true, up_r, up_k, ur_s, ur_e, ur_i, cp_k, w32_i, w64_i, w8_i]
        rw [e2 48 (by decide) (by decide) (by decide) (by decide), e2 51 (by decide) (by decide) (by decide) (by decide), ef.1, ek.1]
        have go : ∀ b : Int, b = (if x = t then 1 else 0) → WI (bw (up (up (up (up (up (up w 63 0 s) 63 1 t) 63 2 x) 63 3 f) 63 4 k) 63 5 b) fun u16 => ci (fR_gives 0 u16) fun v5_4 u5 => if 0 ≤ v5_4 then (if v5_4 ≤ 9 then (some (v5_4, u5)) else (some (9, u5))) else (some (0, u5))) Q := by
          intro b hb
          refine i_bw (i_ci (s_gives (nm := NM s t x f k) (LawIs_of ⟨?_, ?_, ?_, ?_, ?_, ?_, ?_⟩ hl) (fun i i0 i1 => ?_) (fun u u1 => last _ u (fun r r1 r2 r3 => ?_))))
          · simp (disch := omega) only [not_true_eq_false, not_false_eq_true, true_and, and_true, up_r, up_k, ur_s, ur_e, ur_i, cp_k, w32_i, w64_i, w8_i]
          · simp (disch := omega) only [not_true_eq_false, not_false_eq_true, true_and, and_true, up_r, up_k, ur_s, ur_e, ur_i, cp_k, w32_i, w64_i, w8_i]
          · simp (disch := omega) only [not_true_eq_false, not_false_eq_true, true_and, and_true, up_r, up_k, ur_s, ur_e, ur_i, cp_k, w32_i, w64_i, w8_i]
          · simp (disch := omega) only [not_true_eq_false, not_false_eq_true, true_and, and_true, up_r, up_k, ur_s, ur_e, ur_i, cp_k, w32_i, w64_i, w8_i]
          · simp (disch := omega) only [not_true_eq_false, not_false_eq_true, true_and, and_true, up_r, up_k, ur_s, ur_e, ur_i, cp_k, w32_i, w64_i, w8_i]
          · simp (disch := omega) only [not_true_eq_false, not_false_eq_true, true_and, and_true, up_r, up_k, ur_s, ur_e, ur_i, cp_k, w32_i, w64_i, w8_i]
          · simp (disch := omega) only [not_true_eq_false, not_false_eq_true, true_and, and_true, up_r, up_k, ur_s, ur_e, ur_i, cp_k, w32_i, w64_i, w8_i]
          · unfold NM
            rcases (by omega : i = 0 ∨ i = 1 ∨ i = 2 ∨ i = 3 ∨ i = 4 ∨ i = 5) with rfl | rfl | rfl | rfl | rfl | rfl <;> simp (disch := omega) only [not_true_eq_false, not_false_eq_true, true_and, and_true, up_r, up_k, ur_s, ur_e, ur_i, cp_k, w32_i, w64_i, w8_i] <;> first | rfl | exact hb
          · have er : r = CTV (some ls) s t x f k := by
              show r = mx 0 (mn 9 _)
              unfold mx mn
              split <;> split <;> omega
            rw [er]
            refine h u (fun k k1 k2 => ?_)
            rw [u1 k k2]
            simp (disch := omega) only [not_true_eq_false, not_false_eq_true, true_and, and_true, up_r, up_k, ur_s, ur_e, ur_i, cp_k, w32_i, w64_i, w8_i]
        refine i_if (fun q => go 0 (by rw [if_neg (by omega)])) (fun q => go 1 (by rw [if_pos (by omega)]))
    refine i_if (fun q => i_ck hp' ?_) (fun q => mid 9 (by rw [if_pos (by omega)]))
    rw [e2 48 (by decide) (by decide) (by decide) (by decide), ef.1]
    exact mid f (by rw [if_neg (by omega)])
theorem op_counts : op2 Inv fB_counts fR_counts := by
  intro p c w hpI hcI hI
  obtain ⟨hH, hC, hT, hL, hN, hK, hS, hB⟩ := id hI
  obtain ⟨p0, p6, pr, m0, m5, mr, hV⟩ := id hH
  obtain ⟨law, hl⟩ := LW_of hL
  have hp : 0 ≤ w 1 4 ∧ w 1 4 ≤ 6 ∧ 0 ≤ w 1 5 ∧ w 1 5 ≤ 5 := ⟨p0, p6, m0, m5⟩
  unfold I32 at hcI
  refine same_of ?_
  unfold fB_counts fR_counts
  by_cases hok : ONE w p ∧ 0 ≤ c ∧ c / 10 < 3 ∧ c % 10 < 4
  · obtain ⟨h1, h2, h3, h4⟩ := hok
    rw [Int.tdiv_eq_ediv_of_nonneg h2, Int.tmod_eq_emod_of_nonneg h2, w32_i (x := c / 10) (by omega) (by omega)]
    refine i_bv (i_bv (i_ci (s_isOneC (fun _ => i_if (fun q => absurd q (by decide)) (fun _ => i_if (fun q => by exfalso; omega) (fun _ => i_if (fun q => by exfalso; omega) (fun _ => i_if (fun _ => i_ci ?_) (fun q => by exfalso; omega))))) (fun q => absurd h1 q))))
    refine s_worthOf hl hp h1 (by omega) (fun u u1 => i_some ?_)
    have us := u1.same
    refine i_ci (s_isWhoR (by rw [us.f 1 (by decide)]; omega) (fun _ => i_if (fun q => absurd q (by decide)) (fun _ => i_if (fun q => by exfalso; omega) (fun _ => i_if (fun q => by exfalso; omega) (fun _ => i_if (fun q => by exfalso; omega) (fun _ => i_ci ?_))))) (fun q => by exfalso; rw [us.f 1 (by decide), pr] at q; exact q h1))
    refine s_countsBy (w0 := w) (LW_same hl us) hV (fun k k1 k2 k3 k4 => us.r k (by unfold SCR; omega)) (by unfold ONE at h1; omega) (by omega) (fun v v1 => i_some ⟨rfl, Inv_same (Inv_same hI us) v1.same⟩)
  · unfold ONE at hok
    by_cases hc : 0 ≤ c
    · rw [Int.tdiv_eq_ediv_of_nonneg hc, Int.tmod_eq_emod_of_nonneg hc, w32_i (x := c / 10) (by omega) (by omega)]
      generalize c / 10 = y at *
      generalize c % 10 = z at *
      (repeat' (first | (with_reducible refine i_some ?_) | (with_reducible refine v_some ?_) | (with_reducible refine i_ci ?_) | (with_reducible refine i_cv ?_) | (with_reducible refine v_ci ?_) | (with_reducible refine v_cv ?_) | (with_reducible refine i_bv ?_) | (with_reducible refine v_bv ?_) | (with_reducible refine i_bw ?_) | (with_reducible refine v_bw ?_) | (with_reducible refine i_jn ?_) | (with_reducible refine v_jn ?_) | (with_reducible refine i_ck ?_ ?_) | (with_reducible refine v_ck ?_ ?_) | ((with_reducible refine i_if (fun hc => ?_) (fun hc => ?_)) <;> (try simp (disch := omega) only [not_true_eq_false, not_false_eq_true, true_and, and_true, up_r, up_k, ur_s, ur_e, ur_i, cp_k, w32_i, w64_i, w8_i] at hc) <;> (try (exfalso; omega))) | ((with_reducible refine v_if (fun hc => ?_) (fun hc => ?_)) <;> (try simp (disch := omega) only [not_true_eq_false, not_false_eq_true, true_and, and_true, up_r, up_k, ur_s, ur_e, ur_i, cp_k, w32_i, w64_i, w8_i] at hc) <;> (try (exfalso; omega))) | ((with_reducible apply s_isOneC) <;> (try intro hvc) <;> (try simp (disch := omega) only [not_true_eq_false, not_false_eq_true, true_and, and_true, up_r, up_k, ur_s, ur_e, ur_i, cp_k, w32_i, w64_i, w8_i] at hvc) <;> (try (exfalso; omega))) | ((with_reducible apply s_isWhoR) <;> (try intro hvc) <;> (try simp (disch := omega) only [not_true_eq_false, not_false_eq_true, true_and, and_true, up_r, up_k, ur_s, ur_e, ur_i, cp_k, w32_i, w64_i, w8_i] at hvc) <;> (try (exfalso; omega)))))
      all_goals first
        | omega
        | exact ⟨rfl, hI⟩
    · (repeat' (first | (with_reducible refine i_some ?_) | (with_reducible refine v_some ?_) | (with_reducible refine i_ci ?_) | (with_reducible refine i_cv ?_) | (with_reducible refine v_ci ?_) | (with_reducible refine v_cv ?_) | (with_reducible refine i_bv ?_) | (with_reducible refine v_bv ?_) | (with_reducible refine i_bw ?_) | (with_reducible refine v_bw ?_) | (with_reducible refine i_jn ?_) | (with_reducible refine v_jn ?_) | (with_reducible refine i_ck ?_ ?_) | (with_reducible refine v_ck ?_ ?_) | ((with_reducible refine i_if (fun hc => ?_) (fun hc => ?_)) <;> (try simp (disch := omega) only [not_true_eq_false, not_false_eq_true, true_and, and_true, up_r, up_k, ur_s, ur_e, ur_i, cp_k, w32_i, w64_i, w8_i] at hc) <;> (try (exfalso; omega))) | ((with_reducible refine v_if (fun hc => ?_) (fun hc => ?_)) <;> (try simp (disch := omega) only [not_true_eq_false, not_false_eq_true, true_and, and_true, up_r, up_k, ur_s, ur_e, ur_i, cp_k, w32_i, w64_i, w8_i] at hc) <;> (try (exfalso; omega))) | ((with_reducible apply s_isOneC) <;> (try intro hvc) <;> (try simp (disch := omega) only [not_true_eq_false, not_false_eq_true, true_and, and_true, up_r, up_k, ur_s, ur_e, ur_i, cp_k, w32_i, w64_i, w8_i] at hvc) <;> (try (exfalso; omega))) | ((with_reducible apply s_isWhoR) <;> (try intro hvc) <;> (try simp (disch := omega) only [not_true_eq_false, not_false_eq_true, true_and, and_true, up_r, up_k, ur_s, ur_e, ur_i, cp_k, w32_i, w64_i, w8_i] at hvc) <;> (try (exfalso; omega)))))
      all_goals first
        | omega
        | exact ⟨rfl, hI⟩
