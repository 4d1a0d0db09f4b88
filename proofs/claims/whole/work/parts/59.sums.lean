/-! all ways in their order, and what is summed over them -/
def pfrom : Nat → Int → List Int
  | 0, _ => []
  | k + 1, p => p :: pfrom k (p + 1)
def okw (S : Int) (pre : List Int) (p : Int) : Prop := if p = 6 then (pre.count 6 : Int) < S else p ∉ pre
theorem okw_dec (S : Int) (pre : List Int) (p : Int) : okw S pre p ∨ ¬ okw S pre p := Classical.em _
noncomputable def GW (E : List Int → List (List Int)) (v : Int → Int → Int) (S : Int) (pre : List Int) (p : Int) : List (List Int) :=
  @ite _ (okw S pre p ∧ v pre.length p ≠ 0) (Classical.propDecidable _) (E (p :: pre)) []
theorem GW_y {E : List Int → List (List Int)} {v : Int → Int → Int} {S : Int} {pre : List Int} {p : Int} (h : okw S pre p ∧ v pre.length p ≠ 0) : GW E v S pre p = E (p :: pre) := by
  unfold GW
  rw [if_pos h]
theorem GW_n {E : List Int → List (List Int)} {v : Int → Int → Int} {S : Int} {pre : List Int} {p : Int} (h : ¬ (okw S pre p ∧ v pre.length p ≠ 0)) : GW E v S pre p = [] := by
  unfold GW
  rw [if_neg h]
noncomputable def WAYS (v : Int → Int → Int) (S : Int) : Nat → List Int → List (List Int)
  | 0, pre => [pre.reverse]
  | n + 1, pre => (pfrom 7 0).flatMap (GW (WAYS v S n) v S pre)
def PRD (v : Int → Int → Int) : Int → List Int → Int
  | _, [] => 1
  | m, p :: l => v m p * PRD v (m + 1) l
theorem PRD_app {v : Int → Int → Int} {l' : List Int} : ∀ (l : List Int) (m : Int), PRD v m (l ++ l') = PRD v m l * PRD v (m + l.length) l'
  | [], m => by
    rw [List.nil_append, List.length_nil, show m + ((0 : Nat) : Int) = m by omega]
    show _ = 1 * _
    rw [Int.one_mul]
  | p :: l, m => by
    show v m p * PRD v (m + 1) (l ++ l') = v m p * PRD v (m + 1) l * _
    rw [PRD_app l (m + 1), List.length_cons, Int.mul_assoc, show m + 1 + (l.length : Int) = m + ((l.length + 1 : Nat) : Int) by omega]
theorem PRD_snoc {v : Int → Int → Int} {pre : List Int} {p : Int} : PRD v 0 (p :: pre).reverse = PRD v 0 pre.reverse * v pre.length p := by
  rw [List.reverse_cons, PRD_app, List.length_reverse]
  show _ * (v (0 + (pre.length : Int)) p * 1) = _
  rw [Int.mul_one, Int.zero_add]
def opg (g a b : Int) : Int := if g = 0 then a + b else mx a b
def AG (g : Int) (f : List Int → Int) : List (List Int) → Int
  | [] => 0
  | a :: l => opg g (f a) (AG g f l)
theorem mx_assoc (a b c : Int) : mx (mx a b) c = mx a (mx b c) := by unfold mx; repeat' split; all_goals omega
theorem opg_assoc (g a b c : Int) : opg g (opg g a b) c = opg g a (opg g b c) := by
  unfold opg
  split
  · omega
  · exact mx_assoc a b c
theorem AG_pos {g : Int} {f : List Int → Int} (hf : ∀ l, 0 ≤ f l) : ∀ ls, 0 ≤ AG g f ls
  | [] => Int.le_refl 0
  | a :: l => by
    have h1 := hf a
    have h2 := AG_pos (g := g) hf l
    show 0 ≤ opg g (f a) (AG g f l)
    unfold opg mx
    split
    · omega
    · split <;> omega
theorem opg_0 {g a : Int} (h : 0 ≤ a) : opg g 0 a = a := by
  unfold opg mx
  split
  · omega
  · split <;> omega
theorem opg_0' {g a : Int} (h : 0 ≤ a) : opg g a 0 = a := by
  unfold opg mx
  split
  · omega
  · split <;> omega
theorem AG_app {g : Int} {f : List Int → Int} (hf : ∀ l, 0 ≤ f l) {l' : List (List Int)} : ∀ l, AG g f (l ++ l') = opg g (AG g f l) (AG g f l')
  | [] => (opg_0 (AG_pos hf l')).symm
  | a :: l => by
    show opg g (f a) (AG g f (l ++ l')) = opg g (opg g (f a) (AG g f l)) (AG g f l')
    rw [AG_app hf l, opg_assoc]
theorem mul_opg {c g a b : Int} (hc : 0 ≤ c) : c * opg g a b = opg g (c * a) (c * b) := by
  unfold opg
  split
  · exact Int.mul_add c a b
  · unfold mx
    by_cases h : a < b
    · rw [if_pos h]
      have := Int.mul_le_mul_of_nonneg_left (Int.le_of_lt h) hc
      split <;> omega
    · rw [if_neg h]
      have := Int.mul_le_mul_of_nonneg_left (Int.not_lt.mp h) hc
      split <;> omega
theorem AGG_AG {g C : Int} {F : Int → Int} {f : List Int → Int} {G : Int → List (List Int)} (hC : 0 ≤ C) (hf : ∀ l, 0 ≤ f l) : ∀ (k : Nat) (p acc : Int), (∀ q, p ≤ q → q < p + k → C * F q = AG g f (G q)) → 0 ≤ acc → C * AGG g F k p acc = opg g (C * acc) (AG g f ((pfrom k p).flatMap G))
  | 0, p, acc, _, ha => by
    show C * acc = opg g (C * acc) 0
    rw [opg_0' (Int.mul_nonneg hC ha)]
  | k + 1, p, acc, h, ha => by
    have ep : (pfrom (k + 1) p).flatMap G = G p ++ (pfrom k (p + 1)).flatMap G := by
      show (p :: pfrom k (p + 1)).flatMap G = _
      rw [List.flatMap_cons]
    rw [ep, AG_app hf, ← opg_assoc, ← h p (by omega) (by omega), ← mul_opg hC]
    show C * AGG g F k (p + 1) (opg g acc (F p)) = _
    by_cases hq : 0 ≤ opg g acc (F p)
    · exact AGG_AG hC hf k (p + 1) _ (fun q a b => h q (by omega) (by omega)) hq
    · -- C is 0 then
      have h1 := h p (by omega) (by omega)
      have h2 := AG_pos (g := g) hf (G p)
      have hF : F p < 0 := by
        unfold opg mx at hq
        split at hq
        · omega
        · split at hq <;> omega
      have c0 : C = 0 := by
        rcases Int.lt_or_eq_of_le hC with q | q
        · have := Int.mul_neg_of_pos_of_neg q hF
          omega
        · exact q.symm
      subst c0
      rw [Int.zero_mul, Int.zero_mul, opg_0 (AG_pos hf _)]
      have z : ∀ (k : Nat) (p : Int), (∀ q, p ≤ q → q < p + k → (0 : Int) * F q = AG g f (G q)) → AG g f ((pfrom k p).flatMap G) = 0 := by
        intro k
        induction k with
        | zero => intro p _; rfl
        | succ k ih =>
          intro p hh
          show AG g f ((p :: pfrom k (p + 1)).flatMap G) = 0
          rw [List.flatMap_cons, AG_app hf, ← hh p (by omega) (by omega), Int.zero_mul, ih (p + 1) (fun q a b => hh q (by omega) (by omega))]
          exact opg_0 (Int.le_refl 0)
      exact (z k (p + 1) (fun q a b => h q (by omega) (by omega))).symm
/-- a set is those of the list who are ahead -/
def RL (used : Int) (pre : List Int) : Prop := (0 ≤ used ∧ used < 64) ∧ (∀ p, 0 ≤ p → p < 6 → (tb used p ↔ p ∈ pre)) ∧ BC used + (pre.count 6 : Int) = pre.length
theorem RL_cons {used p : Int} {pre : List Int} (h : RL used pre) (hp : 0 ≤ p ∧ p < 6) (hn : p ∉ pre) : RL (bOr used (bShl 1 p)) (p :: pre) := by
  obtain ⟨h1, h2, h3⟩ := h
  have hnb : ¬ tb used p := fun q => hn ((h2 p hp.1 hp.2).mp q)
  have t := fun q hq => tbor (v := used) (p := q) (q := p) (by omega) hq (by omega)
  refine ⟨⟨(t 0 (by decide)).1.1, (t 0 (by decide)).2.2.1 h1.2 hp.2⟩, fun q q0 q1 => ?_, ?_⟩
  · have e := (t q ⟨q0, by omega⟩).2.1
    have e2 := h2 q q0 q1
    unfold tb at e2 ⊢
    rw [e, e2, List.mem_cons]
    exact ⟨fun z => z.elim Or.inr Or.inl, fun z => z.elim Or.inr Or.inl⟩
  · rw [BC_or (by omega) (by omega) hnb, List.count_cons_of_ne (by omega), List.length_cons]
    omega
theorem RL_6 {used : Int} {pre : List Int} (h : RL used pre) : RL used (6 :: pre) := by
  obtain ⟨h1, h2, h3⟩ := h
  refine ⟨h1, fun q q0 q1 => ?_, ?_⟩
  · rw [h2 q q0 q1, List.mem_cons]
    exact ⟨Or.inr, fun z => z.elim (fun e => by omega) id⟩
  · rw [List.count_cons_self, List.length_cons]
    omega
theorem D_out {v : Int → Int → Int} {S g m used : Int} (h : S < m - BC used) : ∀ n : Nat, D v S g n m used = 0
  | 0 => by unfold D; rw [if_pos (Or.inr h)]
  | n + 1 => by unfold D; rw [if_pos (Or.inr h)]
/-- the table is the fold over all ways from there on -/
theorem D_WAYS {v b : Int → Int → Int} {S g M : Int} (hv : VB v M) (hb : ∀ m p, b m p = 0 → v m p = 0) (hpos : ∀ m p, 0 ≤ v m p) : ∀ (n : Nat) (pre : List Int) (used : Int), (pre.length : Int) + n ≤ M → RL used pre → (pre.count 6 : Int) ≤ S → PRD v 0 pre.reverse * D v S g n pre.length used = AG g (PRD v 0) (WAYS b S n pre)
  | 0, pre, used, hn, hr, hs => by
    obtain ⟨h1, h2, h3⟩ := hr
    unfold D
    rw [if_neg (by omega), Int.mul_one]
    show _ = opg g (PRD v 0 pre.reverse) 0
    rw [opg_0']
    have : ∀ (l : List Int) (m : Int), 0 ≤ PRD v m l := by
      intro l
      induction l with
      | nil => intro m; show (0 : Int) ≤ 1; omega
      | cons a l ih => intro m; exact Int.mul_nonneg (hpos m a) (ih (m + 1))
    exact this _ 0
  | n + 1, pre, used, hn, hr, hs => by
    have prp : ∀ (l : List Int) (m : Int), 0 ≤ PRD v m l := by
      intro l
      induction l with
      | nil => intro m; show (0 : Int) ≤ 1; omega
      | cons a l ih => intro m; exact Int.mul_nonneg (hpos m a) (ih (m + 1))
    obtain ⟨h1, h2, h3⟩ := id hr
    unfold D
    rw [if_neg (by omega)]
    have key := AGG_AG (g := g) (C := PRD v 0 pre.reverse) (F := fun p => WO v pre.length used p (D v S g n (pre.length + 1) (usd used p))) (f := PRD v 0) (G := GW (WAYS b S n) b S pre) (prp _ 0) (fun l => prp l 0) 7 0 0 (fun p p0 p1 => ?_) (Int.le_refl 0)
    · rw [key, Int.mul_zero, opg_0 (AG_pos (fun l => prp l 0) _)]
      rfl
    · have el : ((p :: pre).length : Int) = pre.length + 1 := by rw [List.length_cons]; omega
      show PRD v 0 pre.reverse * WO v pre.length used p (D v S g n (pre.length + 1) (usd used p)) = _
      unfold WO
      have ih := D_WAYS (S := S) (g := g) hv hb hpos n (p :: pre)
      rw [el] at ih
      by_cases hz : v pre.length p = 0
      · rw [if_pos hz, Int.mul_zero]
        by_cases hg : okw S pre p ∧ b pre.length p ≠ 0
        · rw [GW_y hg]
          by_cases h6 : p = 6
          · subst h6
            have hok := hg.1
            unfold okw at hok
            rw [if_pos rfl] at hok
            rw [← ih used (by omega) (RL_6 hr) (by rw [List.count_cons_self]; omega), PRD_snoc, hz, Int.mul_zero, Int.zero_mul]
          · have hok := hg.1
            unfold okw at hok
            rw [if_neg h6] at hok
            rw [← ih _ (by omega) (RL_cons hr ⟨p0, by omega⟩ hok) (by rw [List.count_cons_of_ne h6]; exact hs), PRD_snoc, hz, Int.mul_zero, Int.zero_mul]
        · rw [GW_n hg]
          rfl
      · rw [if_neg hz]
        have hbz : b pre.length p ≠ 0 := fun q => hz (hb _ _ q)
        by_cases h6 : p = 6
        · subst h6
          rw [if_neg (fun q => q.1 rfl)]
          have eu : usd used 6 = used := by unfold usd; rw [if_pos rfl]
          rw [eu]
          by_cases hc : (pre.count 6 : Int) < S
          · rw [GW_y ⟨by unfold okw; rw [if_pos rfl]; exact hc, hbz⟩, ← ih used (by omega) (RL_6 hr) (by rw [List.count_cons_self]; omega), PRD_snoc, Int.mul_assoc]
          · rw [GW_n (fun q => hc (by have := q.1; unfold okw at this; rw [if_pos rfl] at this; exact this)), D_out (by omega), Int.mul_zero, Int.mul_zero]
            rfl
        · have tt := (tbor (v := used) (p := 0) (q := p) (by omega) (by decide) (by omega)).2.2.2
          have eu : usd used p = bOr used (bShl 1 p) := by unfold usd; rw [if_neg h6]
          by_cases hu : p ∈ pre
          · have : bAnd used (bShl 1 p) ≠ 0 := tt.mpr ((h2 p p0 (by omega)).mpr hu)
            rw [if_pos ⟨h6, this⟩, GW_n (fun q => by have := q.1; unfold okw at this; rw [if_neg h6] at this; exact this hu), Int.mul_zero]
            rfl
          · have : ¬ bAnd used (bShl 1 p) ≠ 0 := fun q => hu ((h2 p p0 (by omega)).mp (tt.mp q))
            rw [if_neg (fun q => this q.2), eu, GW_y ⟨by unfold okw; rw [if_neg h6]; exact hu, hbz⟩, ← ih _ (by omega) (RL_cons hr ⟨p0, by omega⟩ hu) (by rw [List.count_cons_of_ne h6]; exact hs), PRD_snoc, Int.mul_assoc]
theorem RL_0 : RL 0 [] := by
  refine ⟨by decide, fun p p0 p1 => ⟨fun q => absurd q (tb_0 ⟨p0, by omega⟩), fun q => absurd q (List.not_mem_nil)⟩, ?_⟩
  decide +kernel
theorem D_all {v b : Int → Int → Int} {S g M : Int} (hM : 0 ≤ M) (hS : 0 ≤ S) (hv : VB v M) (hb : ∀ m p, b m p = 0 → v m p = 0) (hpos : ∀ m p, 0 ≤ v m p) : D v S g M.toNat 0 0 = AG g (PRD v 0) (WAYS b S M.toNat []) := by
  have := D_WAYS (S := S) (g := g) hv hb hpos M.toNat [] 0 (by simp; omega) RL_0 (by simp; exact hS)
  rw [← this]
  show _ = PRD v 0 [] * D v S g M.toNat ((([] : List Int).length : Nat) : Int) 0
  show _ = 1 * _
  rw [Int.one_mul]
  rfl
