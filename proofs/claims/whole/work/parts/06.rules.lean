/-! ===== pure programs: what a method does, as an Option ===== -/
def ck {α : Type} (c : Prop) [Decidable c] (k : Option α) : Option α := if c then k else none
def bv {α : Type} (v : Int) (k : Int → Option α) : Option α := k v
def bw {α : Type} (w : WD) (k : WD → Option α) : Option α := k w
def ci {α : Type} (m : Option (Int × WD)) (k : Int → WD → Option α) : Option α := match m with
  | none => none
  | some r => k r.1 r.2
def cv {α : Type} (m : Option WD) (k : WD → Option α) : Option α := match m with
  | none => none
  | some r => k r
def jn {α β : Type} (R : β) (k : β → α) : α := k R
def FU : Nat := 2000
theorem jn_e {α β : Type} {R : β} {k : β → Option α} {r : α} {P : Prop} (X : β → Prop) (h : jn R k = some r) (hR : X R) (g : ∀ J, X J → k J = some r → P) : P := g R hR h
theorem bw_e {α : Type} {w : WD} {K : WD → Option α} {r : α} {X : WD → Prop} (h : bw w K = some r) (g : ∀ w, K w = some r → X w) : X w := g w h
theorem no_e {α : Type} {r : α} {P : Prop} (h : none = some r) : P := by cases h
theorem po_s {j : Int} (h : 0 ≤ j ∧ j < 6) : PO (34 + 2 * j) NN 5 4 := by
  refine ⟨by omega, by show _ < (86 : Int); omega, ?_⟩
  rcases (by omega : j = 0 ∨ j = 1 ∨ j = 2 ∨ j = 3 ∨ j = 4 ∨ j = 5) with rfl | rfl | rfl | rfl | rfl | rfl <;> rfl
theorem pa_s {j : Int} (h : 0 ≤ j ∧ j < 6) : PA (35 + 2 * j) NN 4 60 := by
  refine ⟨by omega, by show _ < (86 : Int); omega, ?_⟩
  rcases (by omega : j = 0 ∨ j = 1 ∨ j = 2 ∨ j = 3 ∨ j = 4 ∨ j = 5) with rfl | rfl | rfl | rfl | rfl | rfl <;> rfl
theorem rf_s {j : Int} (h : 0 ≤ j ∧ j < 6) : RF (34 + 2 * j) 0 = 35 + 2 * j := by
  rcases (by omega : j = 0 ∨ j = 1 ∨ j = 2 ∨ j = 3 ∨ j = 4 ∨ j = 5) with rfl | rfl | rfl | rfl | rfl | rfl <;> rfl
theorem rf_33 {j : Int} (h : 0 ≤ j ∧ j < 6) : RF 33 j = 34 + 2 * j := by
  rcases (by omega : j = 0 ∨ j = 1 ∨ j = 2 ∨ j = 3 ∨ j = 4 ∨ j = 5) with rfl | rfl | rfl | rfl | rfl | rfl <;> rfl
theorem toInt_and1 (x : Int32) : (x &&& 1).toInt = x.toInt % 2 := by
  have h1 : (x &&& 1).toBitVec.toNat = x.toBitVec.toNat % 2 := by
    rw [Int32.toBitVec_and, BitVec.toNat_and]
    exact Nat.and_one_is_mod _
  have h2 : (x &&& 1).toInt = (x &&& 1).toBitVec.toInt := rfl
  have h3 : x.toInt = x.toBitVec.toInt := rfl
  rw [h2, h3, BitVec.toInt_eq_toNat_cond, BitVec.toInt_eq_toNat_cond, h1]
  have h4 := x.toBitVec.isLt
  split <;> split <;> omega
section HRULES
variable {E : Nat × (Int → Int)} {M : MR} {d pc : Nat} {l : List (Nat × PV)} {st : List PV} {w : WD} {res : Option PV × WD × WD × Nat} {α : Type} {r : α}
theorem h_if_eq {a : Int} {off : Int} {tgt : Nat} {X Y : Option α} [inst : Decidable (a = 0)] (hd : decode (mB M) pc = .ok (.ifCond .eq off, 3)) (ht : (pc : Int) + off = (tgt : Int)) (h : (if a = 0 then X else Y) = some r) (kt : a = 0 → X = some r → G E M d tgt l st w RF NN 0 0 res) (kf : ¬ (a = 0) → Y = some r → G E M d (pc + 3) l st w RF NN 0 0 res) : G E M d pc l (pI a :: st) w RF NN 0 0 res :=
  g_if_eq (b := 0) hd ht (fun q => kt q (by rw [if_pos q] at h; exact h)) (fun q => kf q (by rw [if_neg q] at h; exact h))
theorem h_icmp_eq {a b : Int} {off : Int} {tgt : Nat} {X Y : Option α} [inst : Decidable (a = b)] (hd : decode (mB M) pc = .ok (.if_icmp .eq off, 3)) (ht : (pc : Int) + off = (tgt : Int)) (h : (if a = b then X else Y) = some r) (kt : a = b → X = some r → G E M d tgt l st w RF NN 0 0 res) (kf : ¬ (a = b) → Y = some r → G E M d (pc + 3) l st w RF NN 0 0 res) : G E M d pc l (pI b :: pI a :: st) w RF NN 0 0 res :=
  g_icmp_eq hd ht (fun q => kt q (by rw [if_pos q] at h; exact h)) (fun q => kf q (by rw [if_neg q] at h; exact h))
theorem h_lcmp_eq {a b : Int} {off : Int} {tgt : Nat} {X Y : Option α} [inst : Decidable (a = b)] (hd0 : decode (mB M) pc = .ok (.lcmp, 1)) (hd : decode (mB M) (pc + 1) = .ok (.ifCond .eq off, 3)) (ht : ((pc + 1 : Nat) : Int) + off = (tgt : Int)) (h : (if a = b then X else Y) = some r) (kt : a = b → X = some r → G E M d tgt l st w RF NN 0 0 res) (kf : ¬ (a = b) → Y = some r → G E M d (pc + 4) l st w RF NN 0 0 res) : G E M d pc l (pL b :: pL a :: st) w RF NN 0 0 res :=
  g_lcmp_eq hd0 hd ht (fun q => kt q (by rw [if_pos q] at h; exact h)) (fun q => kf q (by rw [if_neg q] at h; exact h))
theorem h_if_ne {a : Int} {off : Int} {tgt : Nat} {X Y : Option α} [inst : Decidable (a ≠ 0)] (hd : decode (mB M) pc = .ok (.ifCond .ne off, 3)) (ht : (pc : Int) + off = (tgt : Int)) (h : (if a ≠ 0 then X else Y) = some r) (kt : a ≠ 0 → X = some r → G E M d tgt l st w RF NN 0 0 res) (kf : ¬ (a ≠ 0) → Y = some r → G E M d (pc + 3) l st w RF NN 0 0 res) : G E M d pc l (pI a :: st) w RF NN 0 0 res :=
  g_if_ne (b := 0) hd ht (fun q => kt q (by rw [if_pos q] at h; exact h)) (fun q => kf q (by rw [if_neg q] at h; exact h))
theorem h_icmp_ne {a b : Int} {off : Int} {tgt : Nat} {X Y : Option α} [inst : Decidable (a ≠ b)] (hd : decode (mB M) pc = .ok (.if_icmp .ne off, 3)) (ht : (pc : Int) + off = (tgt : Int)) (h : (if a ≠ b then X else Y) = some r) (kt : a ≠ b → X = some r → G E M d tgt l st w RF NN 0 0 res) (kf : ¬ (a ≠ b) → Y = some r → G E M d (pc + 3) l st w RF NN 0 0 res) : G E M d pc l (pI b :: pI a :: st) w RF NN 0 0 res :=
  g_icmp_ne hd ht (fun q => kt q (by rw [if_pos q] at h; exact h)) (fun q => kf q (by rw [if_neg q] at h; exact h))
theorem h_lcmp_ne {a b : Int} {off : Int} {tgt : Nat} {X Y : Option α} [inst : Decidable (a ≠ b)] (hd0 : decode (mB M) pc = .ok (.lcmp, 1)) (hd : decode (mB M) (pc + 1) = .ok (.ifCond .ne off, 3)) (ht : ((pc + 1 : Nat) : Int) + off = (tgt : Int)) (h : (if a ≠ b then X else Y) = some r) (kt : a ≠ b → X = some r → G E M d tgt l st w RF NN 0 0 res) (kf : ¬ (a ≠ b) → Y = some r → G E M d (pc + 4) l st w RF NN 0 0 res) : G E M d pc l (pL b :: pL a :: st) w RF NN 0 0 res :=
  g_lcmp_ne hd0 hd ht (fun q => kt q (by rw [if_pos q] at h; exact h)) (fun q => kf q (by rw [if_neg q] at h; exact h))
theorem h_if_lt {a : Int} {off : Int} {tgt : Nat} {X Y : Option α} [inst : Decidable (a < 0)] (hd : decode (mB M) pc = .ok (.ifCond .lt off, 3)) (ht : (pc : Int) + off = (tgt : Int)) (h : (if a < 0 then X else Y) = some r) (kt : a < 0 → X = some r → G E M d tgt l st w RF NN 0 0 res) (kf : ¬ (a < 0) → Y = some r → G E M d (pc + 3) l st w RF NN 0 0 res) : G E M d pc l (pI a :: st) w RF NN 0 0 res :=
  g_if_lt (b := 0) hd ht (fun q => kt q (by rw [if_pos q] at h; exact h)) (fun q => kf q (by rw [if_neg q] at h; exact h))
theorem h_icmp_lt {a b : Int} {off : Int} {tgt : Nat} {X Y : Option α} [inst : Decidable (a < b)] (hd : decode (mB M) pc = .ok (.if_icmp .lt off, 3)) (ht : (pc : Int) + off = (tgt : Int)) (h : (if a < b then X else Y) = some r) (kt : a < b → X = some r → G E M d tgt l st w RF NN 0 0 res) (kf : ¬ (a < b) → Y = some r → G E M d (pc + 3) l st w RF NN 0 0 res) : G E M d pc l (pI b :: pI a :: st) w RF NN 0 0 res :=
  g_icmp_lt hd ht (fun q => kt q (by rw [if_pos q] at h; exact h)) (fun q => kf q (by rw [if_neg q] at h; exact h))
theorem h_lcmp_lt {a b : Int} {off : Int} {tgt : Nat} {X Y : Option α} [inst : Decidable (a < b)] (hd0 : decode (mB M) pc = .ok (.lcmp, 1)) (hd : decode (mB M) (pc + 1) = .ok (.ifCond .lt off, 3)) (ht : ((pc + 1 : Nat) : Int) + off = (tgt : Int)) (h : (if a < b then X else Y) = some r) (kt : a < b → X = some r → G E M d tgt l st w RF NN 0 0 res) (kf : ¬ (a < b) → Y = some r → G E M d (pc + 4) l st w RF NN 0 0 res) : G E M d pc l (pL b :: pL a :: st) w RF NN 0 0 res :=
  g_lcmp_lt hd0 hd ht (fun q => kt q (by rw [if_pos q] at h; exact h)) (fun q => kf q (by rw [if_neg q] at h; exact h))
theorem h_if_ge {a : Int} {off : Int} {tgt : Nat} {X Y : Option α} [inst : Decidable (0 ≤ a)] (hd : decode (mB M) pc = .ok (.ifCond .ge off, 3)) (ht : (pc : Int) + off = (tgt : Int)) (h : (if 0 ≤ a then X else Y) = some r) (kt : 0 ≤ a → X = some r → G E M d tgt l st w RF NN 0 0 res) (kf : ¬ (0 ≤ a) → Y = some r → G E M d (pc + 3) l st w RF NN 0 0 res) : G E M d pc l (pI a :: st) w RF NN 0 0 res :=
  g_if_ge (b := 0) hd ht (fun q => kt q (by rw [if_pos q] at h; exact h)) (fun q => kf q (by rw [if_neg q] at h; exact h))
theorem h_icmp_ge {a b : Int} {off : Int} {tgt : Nat} {X Y : Option α} [inst : Decidable (b ≤ a)] (hd : decode (mB M) pc = .ok (.if_icmp .ge off, 3)) (ht : (pc : Int) + off = (tgt : Int)) (h : (if b ≤ a then X else Y) = some r) (kt : b ≤ a → X = some r → G E M d tgt l st w RF NN 0 0 res) (kf : ¬ (b ≤ a) → Y = some r → G E M d (pc + 3) l st w RF NN 0 0 res) : G E M d pc l (pI b :: pI a :: st) w RF NN 0 0 res :=
  g_icmp_ge hd ht (fun q => kt q (by rw [if_pos q] at h; exact h)) (fun q => kf q (by rw [if_neg q] at h; exact h))
theorem h_lcmp_ge {a b : Int} {off : Int} {tgt : Nat} {X Y : Option α} [inst : Decidable (b ≤ a)] (hd0 : decode (mB M) pc = .ok (.lcmp, 1)) (hd : decode (mB M) (pc + 1) = .ok (.ifCond .ge off, 3)) (ht : ((pc + 1 : Nat) : Int) + off = (tgt : Int)) (h : (if b ≤ a then X else Y) = some r) (kt : b ≤ a → X = some r → G E M d tgt l st w RF NN 0 0 res) (kf : ¬ (b ≤ a) → Y = some r → G E M d (pc + 4) l st w RF NN 0 0 res) : G E M d pc l (pL b :: pL a :: st) w RF NN 0 0 res :=
  g_lcmp_ge hd0 hd ht (fun q => kt q (by rw [if_pos q] at h; exact h)) (fun q => kf q (by rw [if_neg q] at h; exact h))
theorem h_if_gt {a : Int} {off : Int} {tgt : Nat} {X Y : Option α} [inst : Decidable (0 < a)] (hd : decode (mB M) pc = .ok (.ifCond .gt off, 3)) (ht : (pc : Int) + off = (tgt : Int)) (h : (if 0 < a then X else Y) = some r) (kt : 0 < a → X = some r → G E M d tgt l st w RF NN 0 0 res) (kf : ¬ (0 < a) → Y = some r → G E M d (pc + 3) l st w RF NN 0 0 res) : G E M d pc l (pI a :: st) w RF NN 0 0 res :=
  g_if_gt (b := 0) hd ht (fun q => kt q (by rw [if_pos q] at h; exact h)) (fun q => kf q (by rw [if_neg q] at h; exact h))
theorem h_icmp_gt {a b : Int} {off : Int} {tgt : Nat} {X Y : Option α} [inst : Decidable (b < a)] (hd : decode (mB M) pc = .ok (.if_icmp .gt off, 3)) (ht : (pc : Int) + off = (tgt : Int)) (h : (if b < a then X else Y) = some r) (kt : b < a → X = some r → G E M d tgt l st w RF NN 0 0 res) (kf : ¬ (b < a) → Y = some r → G E M d (pc + 3) l st w RF NN 0 0 res) : G E M d pc l (pI b :: pI a :: st) w RF NN 0 0 res :=
  g_icmp_gt hd ht (fun q => kt q (by rw [if_pos q] at h; exact h)) (fun q => kf q (by rw [if_neg q] at h; exact h))
theorem h_lcmp_gt {a b : Int} {off : Int} {tgt : Nat} {X Y : Option α} [inst : Decidable (b < a)] (hd0 : decode (mB M) pc = .ok (.lcmp, 1)) (hd : decode (mB M) (pc + 1) = .ok (.ifCond .gt off, 3)) (ht : ((pc + 1 : Nat) : Int) + off = (tgt : Int)) (h : (if b < a then X else Y) = some r) (kt : b < a → X = some r → G E M d tgt l st w RF NN 0 0 res) (kf : ¬ (b < a) → Y = some r → G E M d (pc + 4) l st w RF NN 0 0 res) : G E M d pc l (pL b :: pL a :: st) w RF NN 0 0 res :=
  g_lcmp_gt hd0 hd ht (fun q => kt q (by rw [if_pos q] at h; exact h)) (fun q => kf q (by rw [if_neg q] at h; exact h))
theorem h_if_le {a : Int} {off : Int} {tgt : Nat} {X Y : Option α} [inst : Decidable (a ≤ 0)] (hd : decode (mB M) pc = .ok (.ifCond .le off, 3)) (ht : (pc : Int) + off = (tgt : Int)) (h : (if a ≤ 0 then X else Y) = some r) (kt : a ≤ 0 → X = some r → G E M d tgt l st w RF NN 0 0 res) (kf : ¬ (a ≤ 0) → Y = some r → G E M d (pc + 3) l st w RF NN 0 0 res) : G E M d pc l (pI a :: st) w RF NN 0 0 res :=
  g_if_le (b := 0) hd ht (fun q => kt q (by rw [if_pos q] at h; exact h)) (fun q => kf q (by rw [if_neg q] at h; exact h))
theorem h_icmp_le {a b : Int} {off : Int} {tgt : Nat} {X Y : Option α} [inst : Decidable (a ≤ b)] (hd : decode (mB M) pc = .ok (.if_icmp .le off, 3)) (ht : (pc : Int) + off = (tgt : Int)) (h : (if a ≤ b then X else Y) = some r) (kt : a ≤ b → X = some r → G E M d tgt l st w RF NN 0 0 res) (kf : ¬ (a ≤ b) → Y = some r → G E M d (pc + 3) l st w RF NN 0 0 res) : G E M d pc l (pI b :: pI a :: st) w RF NN 0 0 res :=
  g_icmp_le hd ht (fun q => kt q (by rw [if_pos q] at h; exact h)) (fun q => kf q (by rw [if_neg q] at h; exact h))
theorem h_lcmp_le {a b : Int} {off : Int} {tgt : Nat} {X Y : Option α} [inst : Decidable (a ≤ b)] (hd0 : decode (mB M) pc = .ok (.lcmp, 1)) (hd : decode (mB M) (pc + 1) = .ok (.ifCond .le off, 3)) (ht : ((pc + 1 : Nat) : Int) + off = (tgt : Int)) (h : (if a ≤ b then X else Y) = some r) (kt : a ≤ b → X = some r → G E M d tgt l st w RF NN 0 0 res) (kf : ¬ (a ≤ b) → Y = some r → G E M d (pc + 4) l st w RF NN 0 0 res) : G E M d pc l (pL b :: pL a :: st) w RF NN 0 0 res :=
  g_lcmp_le hd0 hd ht (fun q => kt q (by rw [if_pos q] at h; exact h)) (fun q => kf q (by rw [if_neg q] at h; exact h))
theorem h_iald {N : Nat} {k i : Int} {X : Option α} {B : Int} [inst : Decidable (0 ≤ i ∧ i < B)] (hp2 : PA k NN 0 N) (hB : (N : Int) = B) (hd : decode (mB M) pc = .ok (.iaload, 1)) (h : ck (0 ≤ i ∧ i < B) X = some r) (kk : X = some r → G E M d (pc + 1) l (pI (w k i) :: st) w RF NN 0 0 res) : G E M d pc l (pI i :: pR k :: st) w RF NN 0 0 res := by
  subst hB
  unfold ck at h
  exact br h (fun q h => g_iald hp2 hd q (kk h)) (fun q h => by cases h)
theorem h_bald {N : Nat} {k i : Int} {X : Option α} {B : Int} [inst : Decidable (0 ≤ i ∧ i < B)] (hp2 : PA k NN 1 N) (hB : (N : Int) = B) (hd : decode (mB M) pc = .ok (.baload, 1)) (h : ck (0 ≤ i ∧ i < B) X = some r) (kk : X = some r → G E M d (pc + 1) l (pI (w k i) :: st) w RF NN 0 0 res) : G E M d pc l (pI i :: pR k :: st) w RF NN 0 0 res := by
  subst hB
  unfold ck at h
  exact br h (fun q h => g_bald hp2 hd q (kk h)) (fun q h => by cases h)
theorem h_zald {N : Nat} {k i : Int} {X : Option α} {B : Int} [inst : Decidable (0 ≤ i ∧ i < B)] (hp2 : PA k NN 2 N) (hB : (N : Int) = B) (hd : decode (mB M) pc = .ok (.baload, 1)) (h : ck (0 ≤ i ∧ i < B) X = some r) (kk : X = some r → G E M d (pc + 1) l (pI (w k i) :: st) w RF NN 0 0 res) : G E M d pc l (pI i :: pR k :: st) w RF NN 0 0 res := by
  subst hB
  unfold ck at h
  exact br h (fun q h => g_zald hp2 hd q (kk h)) (fun q h => by cases h)
theorem h_sald {N : Nat} {k i : Int} {X : Option α} {B : Int} [inst : Decidable (0 ≤ i ∧ i < B)] (hp2 : PA k NN 3 N) (hB : (N : Int) = B) (hd : decode (mB M) pc = .ok (.saload, 1)) (h : ck (0 ≤ i ∧ i < B) X = some r) (kk : X = some r → G E M d (pc + 1) l (pI (w k i) :: st) w RF NN 0 0 res) : G E M d pc l (pI i :: pR k :: st) w RF NN 0 0 res := by
  subst hB
  unfold ck at h
  exact br h (fun q h => g_sald hp2 hd q (kk h)) (fun q h => by cases h)
theorem h_lald {N : Nat} {k i : Int} {X : Option α} {B : Int} [inst : Decidable (0 ≤ i ∧ i < B)] (hp2 : PA k NN 4 N) (hB : (N : Int) = B) (hd : decode (mB M) pc = .ok (.laload, 1)) (h : ck (0 ≤ i ∧ i < B) X = some r) (kk : X = some r → G E M d (pc + 1) l (pL (w k i) :: st) w RF NN 0 0 res) : G E M d pc l (pI i :: pR k :: st) w RF NN 0 0 res := by
  subst hB
  unfold ck at h
  exact br h (fun q h => g_lald hp2 hd q (kk h)) (fun q h => by cases h)
theorem h_iast {N : Nat} {k i v : Int} {K : WD → Option α} {B : Int} [inst : Decidable (0 ≤ i ∧ i < B)] (hp2 : PA k NN 0 N) (hB : (N : Int) = B) (hd : decode (mB M) pc = .ok (.iastore, 1)) (h : ck (0 ≤ i ∧ i < B) (bw (up w k i v) K) = some r) (kk : ∀ w, K w = some r → G E M d (pc + 1) l st w RF NN 0 0 res) : G E M d pc l (pI v :: pI i :: pR k :: st) w RF NN 0 0 res := by
  subst hB
  unfold ck at h
  exact br h (fun q h => g_iast hp2 hd q (kk _ h)) (fun q h => by cases h)
theorem h_iast0 {N : Nat} {k i v : Int} {K : WD → Option α} (hp2 : PA k NN 0 N) (hd : decode (mB M) pc = .ok (.iastore, 1)) (hi : 0 ≤ i ∧ i < (N : Int)) (h : bw (up w k i v) K = some r) (kk : ∀ w, K w = some r → G E M d (pc + 1) l st w RF NN 0 0 res) : G E M d pc l (pI v :: pI i :: pR k :: st) w RF NN 0 0 res := g_iast hp2 hd hi (kk _ h)
theorem h_bast {N : Nat} {k i v : Int} {K : WD → Option α} {B : Int} [inst : Decidable (0 ≤ i ∧ i < B)] (hp2 : PA k NN 1 N) (hB : (N : Int) = B) (hd : decode (mB M) pc = .ok (.bastore, 1)) (h : ck (0 ≤ i ∧ i < B) (bw (up w k i (w8 v)) K) = some r) (kk : ∀ w, K w = some r → G E M d (pc + 1) l st w RF NN 0 0 res) : G E M d pc l (pI v :: pI i :: pR k :: st) w RF NN 0 0 res := by
  subst hB
  unfold ck at h
  exact br h (fun q h => g_bast hp2 hd q (kk _ h)) (fun q h => by cases h)
theorem h_bast0 {N : Nat} {k i v : Int} {K : WD → Option α} (hp2 : PA k NN 1 N) (hd : decode (mB M) pc = .ok (.bastore, 1)) (hi : 0 ≤ i ∧ i < (N : Int)) (h : bw (up w k i (w8 v)) K = some r) (kk : ∀ w, K w = some r → G E M d (pc + 1) l st w RF NN 0 0 res) : G E M d pc l (pI v :: pI i :: pR k :: st) w RF NN 0 0 res := g_bast hp2 hd hi (kk _ h)
theorem h_sast {N : Nat} {k i v : Int} {K : WD → Option α} {B : Int} [inst : Decidable (0 ≤ i ∧ i < B)] (hp2 : PA k NN 3 N) (hB : (N : Int) = B) (hd : decode (mB M) pc = .ok (.sastore, 1)) (h : ck (0 ≤ i ∧ i < B) (bw (up w k i (w16 v)) K) = some r) (kk : ∀ w, K w = some r → G E M d (pc + 1) l st w RF NN 0 0 res) : G E M d pc l (pI v :: pI i :: pR k :: st) w RF NN 0 0 res := by
  subst hB
  unfold ck at h
  exact br h (fun q h => g_sast hp2 hd q (kk _ h)) (fun q h => by cases h)
theorem h_sast0 {N : Nat} {k i v : Int} {K : WD → Option α} (hp2 : PA k NN 3 N) (hd : decode (mB M) pc = .ok (.sastore, 1)) (hi : 0 ≤ i ∧ i < (N : Int)) (h : bw (up w k i (w16 v)) K = some r) (kk : ∀ w, K w = some r → G E M d (pc + 1) l st w RF NN 0 0 res) : G E M d pc l (pI v :: pI i :: pR k :: st) w RF NN 0 0 res := g_sast hp2 hd hi (kk _ h)
theorem h_last {N : Nat} {k i v : Int} {K : WD → Option α} {B : Int} [inst : Decidable (0 ≤ i ∧ i < B)] (hp2 : PA k NN 4 N) (hB : (N : Int) = B) (hd : decode (mB M) pc = .ok (.lastore, 1)) (h : ck (0 ≤ i ∧ i < B) (bw (up w k i v) K) = some r) (kk : ∀ w, K w = some r → G E M d (pc + 1) l st w RF NN 0 0 res) : G E M d pc l (pL v :: pI i :: pR k :: st) w RF NN 0 0 res := by
  subst hB
  unfold ck at h
  exact br h (fun q h => g_last hp2 hd q (kk _ h)) (fun q h => by cases h)
theorem h_last0 {N : Nat} {k i v : Int} {K : WD → Option α} (hp2 : PA k NN 4 N) (hd : decode (mB M) pc = .ok (.lastore, 1)) (hi : 0 ≤ i ∧ i < (N : Int)) (h : bw (up w k i v) K = some r) (kk : ∀ w, K w = some r → G E M d (pc + 1) l st w RF NN 0 0 res) : G E M d pc l (pL v :: pI i :: pR k :: st) w RF NN 0 0 res := g_last hp2 hd hi (kk _ h)
theorem g_zast2 {N : Nat} {k i v : Int} (hp2 : PA k NN 2 N) (hd : decode (mB M) pc = .ok (.bastore, 1)) (hi : 0 ≤ i ∧ i < (N : Int)) (kk : G E M d (pc + 1) l st (up w k i (v % 2)) RF NN 0 0 res) : G E M d pc l (pI v :: pI i :: pR k :: st) w RF NN 0 0 res := by
  intro ad0 n0 l0 D ty ro p e R s m args below meth cc A Q C hE ad ws H locs ls lv sm I hl hp hs
  obtain ⟨x, sm, rfl, hxv, hs⟩ := sR_I hs
  obtain ⟨ix0, sm, rfl, hix, hs⟩ := sR_I hs
  obtain ⟨p0, p1, p2⟩ := hp2
  obtain ⟨kn, sm, rfl, rfl, hk, hs⟩ := sR_R hs p0
  obtain ⟨hP, hD, hS, ⟨hlen, hcs⟩, hn0, had⟩ := id I
  obtain ⟨e0, he, hcr⟩ := hcs kn hk
  obtain ⟨f, rfl, hf⟩ := cR_int hcr (by omega) p2
  obtain ⟨i1, i2⟩ := ixn hix hi
  refine va_zast C.1 C.2.1 C.2.2.2.2.2.2.1 hP hD hS kn 2 he rfl (vpin hix hi) hd (fun H1 locs1 hP1 hD1 hS1 => ?_)
  have hnar : vp_nar .boolean x = x &&& 1 := rfl
  exact kk ad0 n0 l0 D ty ro p e R s m args below meth cc A Q C hE ad _ H1 locs1 ls lv _ (IV_set I hk hP1 hD1 hS1 (mk_int (by omega) p2 (by rw [← i2]; exact upd_r hf (by rw [hnar, toInt_and1, hxv]))) (fun _ _ h => up_ne h) (fun _ _ _ => rfl)) hl hp hs
theorem h_zast {N : Nat} {k i v : Int} {K : WD → Option α} {B : Int} [inst : Decidable (0 ≤ i ∧ i < B)] (hp2 : PA k NN 2 N) (hB : (N : Int) = B) (hd : decode (mB M) pc = .ok (.bastore, 1)) (h : ck (0 ≤ i ∧ i < B) (bw (up w k i (v % 2)) K) = some r) (kk : ∀ w, K w = some r → G E M d (pc + 1) l st w RF NN 0 0 res) : G E M d pc l (pI v :: pI i :: pR k :: st) w RF NN 0 0 res := by
  subst hB
  unfold ck at h
  exact br h (fun q h => g_zast2 hp2 hd q (kk _ h)) (fun q h => by cases h)
theorem h_aald {i : Int} {X : Option α} [inst : Decidable (0 ≤ i ∧ i < 6)] (hd : decode (mB M) pc = .ok (.aaload, 1)) (h : ck (0 ≤ i ∧ i < 6) X = some r) (kk : 0 ≤ i ∧ i < 6 → X = some r → G E M d (pc + 1) l (pR (34 + 2 * i) :: st) w RF NN 0 0 res) : G E M d pc l (pI i :: pR 33 :: st) w RF NN 0 0 res := by
  unfold ck at h
  exact br h (fun q h => g_aald ⟨by omega, by decide, rfl⟩ hd q (rf_33 q) (kk q h)) (fun q h => by cases h)
def roC (q : Nat) (i : Int) : Int := if i < 0 then 0 else (roT.getD q []).getD i.toNat 0
theorem h_roald {q : Nat} {a i B : Int} {X : Option α} [inst : Decidable (0 ≤ i ∧ i < B)] (h2 : 2 ≤ q ∧ q ≤ 5) (ha : a = -(q : Int)) (hB : ((roT.getD q []).length : Int) = B) (hd : decode (mB M) pc = .ok (.iaload, 1)) (h : ck (0 ≤ i ∧ i < B) X = some r) (kk : X = some r → G E M d (pc + 1) l (pI (roC q i) :: st) w RF NN 0 0 res) : G E M d pc l (pI i :: pR a :: st) w RF NN 0 0 res := by
  have e1 : roN E q = (roT.getD q []).length := if_neg (by omega)
  have e2 : roV E q i = roC q i := if_neg (by omega)
  unfold ck at h
  exact br h (fun z h => g_roald ⟨by omega, h2.2⟩ ha (by rw [e1, hB]; exact z) hd (by rw [e2]; exact kk h)) (fun z h => by cases h)
theorem h_rolen {q : Nat} {a B : Int} (h2 : 2 ≤ q ∧ q ≤ 5) (ha : a = -(q : Int)) (hB : ((roT.getD q []).length : Int) = B) (hd : decode (mB M) pc = .ok (.arraylength, 1)) (kk : G E M d (pc + 1) l (pI B :: st) w RF NN 0 0 res) : G E M d pc l (pR a :: st) w RF NN 0 0 res := by
  have e1 : roN E q = (roT.getD q []).length := if_neg (by omega)
  exact g_rolen ⟨by omega, h2.2⟩ ha hd (by rw [e1, hB]; exact kk)
theorem h_alen {N : Nat} {k B : Int} (hp2 : PA k NN 0 N) (hN : N < 1000) (hB : (N : Int) = B) (hd : decode (mB M) pc = .ok (.arraylength, 1)) (kk : G E M d (pc + 1) l (pI B :: st) w RF NN 0 0 res) : G E M d pc l (pR k :: st) w RF NN 0 0 res := by
  subst hB
  exact g_alen hp2 hN hd kk
theorem h_idiv {a b : Int} {X : Option α} [inst : Decidable (b ≠ 0)] (hd : decode (mB M) pc = .ok (.idiv, 1)) (h : ck (b ≠ 0) X = some r) (kk : X = some r → G E M d (pc + 1) l (pI (w32 (a.tdiv b)) :: st) w RF NN 0 0 res) : G E M d pc l (pI b :: pI a :: st) w RF NN 0 0 res := by
  unfold ck at h
  exact br h (fun q h => g_idiv hd q (kk h)) (fun q h => by cases h)
theorem h_irem {a b : Int} {X : Option α} [inst : Decidable (b ≠ 0)] (hd : decode (mB M) pc = .ok (.irem, 1)) (h : ck (b ≠ 0) X = some r) (kk : X = some r → G E M d (pc + 1) l (pI (a.tmod b) :: st) w RF NN 0 0 res) : G E M d pc l (pI b :: pI a :: st) w RF NN 0 0 res := by
  unfold ck at h
  exact br h (fun q h => g_irem hd q (kk h)) (fun q h => by cases h)
theorem h_ldiv {a b : Int} {X : Option α} [inst : Decidable (b ≠ 0)] (hd : decode (mB M) pc = .ok (.ldiv, 1)) (h : ck (b ≠ 0) X = some r) (kk : X = some r → G E M d (pc + 1) l (pL (w64 (a.tdiv b)) :: st) w RF NN 0 0 res) : G E M d pc l (pL b :: pL a :: st) w RF NN 0 0 res := by
  unfold ck at h
  exact br h (fun q h => g_ldiv hd q (kk h)) (fun q h => by cases h)
theorem h_lrem {a b : Int} {X : Option α} [inst : Decidable (b ≠ 0)] (hd : decode (mB M) pc = .ok (.lrem, 1)) (h : ck (b ≠ 0) X = some r) (kk : X = some r → G E M d (pc + 1) l (pL (w64 (a - w64 (w64 (a.tdiv b) * b))) :: st) w RF NN 0 0 res) : G E M d pc l (pL b :: pL a :: st) w RF NN 0 0 res := by
  unfold ck at h
  exact br h (fun q h => g_lrem hd q (kk h)) (fun q h => by cases h)
theorem h_putI {ix ci j N : Nat} {k v : Int} {K : WD → Option α} (hf : FP (mY M).cls ix ci j 0 N false) (hp2 : PO k NN ci N) (hd : decode (mB M) pc = .ok (.putfield ix, 3)) (h : bw (up w k j v) K = some r) (kk : ∀ w, K w = some r → G E M d (pc + 3) l st w RF NN 0 0 res) : G E M d pc l (pI v :: pR k :: st) w RF NN 0 0 res := g_putI hf hp2 hd (kk _ h)
theorem h_putL {ix ci j N : Nat} {k v : Int} {K : WD → Option α} (hf : FP (mY M).cls ix ci j 1 N false) (hp2 : PO k NN ci N) (hd : decode (mB M) pc = .ok (.putfield ix, 3)) (h : bw (up w k j v) K = some r) (kk : ∀ w, K w = some r → G E M d (pc + 3) l st w RF NN 0 0 res) : G E M d pc l (pL v :: pR k :: st) w RF NN 0 0 res := g_putL hf hp2 hd (kk _ h)
theorem h_putZ {ix ci j N : Nat} {k v : Int} {K : WD → Option α} (hf : FP (mY M).cls ix ci j 3 N false) (hp2 : PO k NN ci N) (hv : v = 0 ∨ v = 1) (hd : decode (mB M) pc = .ok (.putfield ix, 3)) (h : bw (up w k j v) K = some r) (kk : ∀ w, K w = some r → G E M d (pc + 3) l st w RF NN 0 0 res) : G E M d pc l (pI v :: pR k :: st) w RF NN 0 0 res := g_putZ hf hp2 hv hd (kk _ h)
theorem h_copyI {ix N0 N1 : Nat} {k0 k1 sp dp q B0 B1 : Int} {K : WD → Option α} [inst : Decidable (0 ≤ sp ∧ 0 ≤ dp ∧ 0 ≤ q ∧ sp + q ≤ B0 ∧ dp + q ≤ B1)] (hw : ACP (mY M).cls ix) (hp0 : PA k0 NN 0 N0) (hp1 : PA k1 NN 0 N1) (hB0 : (N0 : Int) = B0) (hB1 : (N1 : Int) = B1) (hd : decode (mB M) pc = .ok (.invokestatic ix, 3)) (hcat : (st.map pcat).sum ≤ 8) (hdd : 1 ≤ d) (h : ck (0 ≤ sp ∧ 0 ≤ dp ∧ 0 ≤ q ∧ sp + q ≤ B0 ∧ dp + q ≤ B1) (bw (cp w k0 sp k1 dp q) K) = some r) (kk : ∀ w, K w = some r → G E M d (pc + 3) l st w RF NN 0 0 res) : G E M d pc l (pI q :: pI dp :: pR k1 :: pI sp :: pR k0 :: st) w RF NN 0 0 res := by
  subst hB0 hB1
  unfold ck at h
  exact br h (fun z h => g_copyI hw hp0 hp1 hd z hcat hdd (kk _ h)) (fun z h => by cases h)
theorem h_copyL {ix N0 N1 : Nat} {k0 k1 sp dp q B0 B1 : Int} {K : WD → Option α} [inst : Decidable (0 ≤ sp ∧ 0 ≤ dp ∧ 0 ≤ q ∧ sp + q ≤ B0 ∧ dp + q ≤ B1)] (hw : ACP (mY M).cls ix) (hp0 : PA k0 NN 4 N0) (hp1 : PA k1 NN 4 N1) (hB0 : (N0 : Int) = B0) (hB1 : (N1 : Int) = B1) (hd : decode (mB M) pc = .ok (.invokestatic ix, 3)) (hcat : (st.map pcat).sum ≤ 8) (hdd : 1 ≤ d) (h : ck (0 ≤ sp ∧ 0 ≤ dp ∧ 0 ≤ q ∧ sp + q ≤ B0 ∧ dp + q ≤ B1) (bw (cp w k0 sp k1 dp q) K) = some r) (kk : ∀ w, K w = some r → G E M d (pc + 3) l st w RF NN 0 0 res) : G E M d pc l (pI q :: pI dp :: pR k1 :: pI sp :: pR k0 :: st) w RF NN 0 0 res := by
  subst hB0 hB1
  unfold ck at h
  exact br h (fun z h => g_copyL hw hp0 hp1 hd z hcat hdd (kk _ h)) (fun z h => by cases h)
def mx (a b : Int) : Int := if a < b then b else a
def mn (a b : Int) : Int := if b < a then b else a
def MmaxI (own : String) (ix : Nat) : Prop := Cond.methodLink own ix Lib.Math.max.name ∈ lw_g ∧ Cond.static Lib.Math.max.name ∈ lw_g ∧ Cond.initialized "java/lang/Math" ∈ lw_g ∧ Cond.code Lib.Math.max.name Lib.Math.max.code 2 (some .int) ∈ lw_g
theorem g_mmaxI {ix : Nat} {a b : Int} (hw : MmaxI (mY M).cls ix) (hcat : (st.map pcat).sum ≤ 8) (hdd : 1 ≤ d) (hd : decode (mB M) pc = .ok (.invokestatic ix, 3)) (k : G E M d (pc + 3) l (pI (mx a b) :: st) w RF NN 0 0 res) : G E M d pc l (pI b :: pI a :: st) w RF NN 0 0 res := by
  intro ad0 n0 l0 D ty ro p e R s m args below meth cc A Q C hE ad ws H locs ls lv sm I hl hp hs
  obtain ⟨y, sm, rfl, hy, hs⟩ := sR_I hs
  obtain ⟨x, sm, rfl, hx2, hs⟩ := sR_I hs
  have hc8 := cat_le hs hcat
  have hRm := C.2.2.2.2.2.2.2.2.2.1
  refine va_mmax C.1 C.2.1 (C.2.2.1.trans hl.1.symm) C.2.2.2.2.1 (C.2.2.2.2.2.1 _ hw.1) (C.2.2.2.2.2.1 _ hw.2.1) (C.2.2.2.2.2.1 _ hw.2.2.1) (C.2.2.2.2.2.1 _ hw.2.2.2) (by omega) (by omega) (Nat.zero_le _) (Nat.zero_le _) hd (k ad0 n0 l0 D ty ro p e R s m args below meth cc A Q C hE ad ws H locs ls lv _ I hl hp ⟨⟨_, rfl, ?_⟩, hs⟩)
  · unfold mx
    by_cases q : x < y
    · rw [if_pos q, if_pos ((i32l hx2 hy).mp q)]; exact hy
    · rw [if_neg q, if_neg (fun z => q ((i32l hx2 hy).mpr z))]; exact hx2
def MminI (own : String) (ix : Nat) : Prop := Cond.methodLink own ix Lib.Math.min.name ∈ lw_g ∧ Cond.static Lib.Math.min.name ∈ lw_g ∧ Cond.initialized "java/lang/Math" ∈ lw_g ∧ Cond.code Lib.Math.min.name Lib.Math.min.code 2 (some .int) ∈ lw_g
theorem g_mminI {ix : Nat} {a b : Int} (hw : MminI (mY M).cls ix) (hcat : (st.map pcat).sum ≤ 8) (hdd : 1 ≤ d) (hd : decode (mB M) pc = .ok (.invokestatic ix, 3)) (k : G E M d (pc + 3) l (pI (mn a b) :: st) w RF NN 0 0 res) : G E M d pc l (pI b :: pI a :: st) w RF NN 0 0 res := by
  intro ad0 n0 l0 D ty ro p e R s m args below meth cc A Q C hE ad ws H locs ls lv sm I hl hp hs
  obtain ⟨y, sm, rfl, hy, hs⟩ := sR_I hs
  obtain ⟨x, sm, rfl, hx2, hs⟩ := sR_I hs
  have hc8 := cat_le hs hcat
  have hRm := C.2.2.2.2.2.2.2.2.2.1
  refine va_mmin C.1 C.2.1 (C.2.2.1.trans hl.1.symm) C.2.2.2.2.1 (C.2.2.2.2.2.1 _ hw.1) (C.2.2.2.2.2.1 _ hw.2.1) (C.2.2.2.2.2.1 _ hw.2.2.1) (C.2.2.2.2.2.1 _ hw.2.2.2) (by omega) (by omega) (Nat.zero_le _) (Nat.zero_le _) hd (k ad0 n0 l0 D ty ro p e R s m args below meth cc A Q C hE ad ws H locs ls lv _ I hl hp ⟨⟨_, rfl, ?_⟩, hs⟩)
  · unfold mn
    by_cases q : y < x
    · rw [if_pos q, if_pos ((i32l hy hx2).mp q)]; exact hy
    · rw [if_neg q, if_neg (fun z => q ((i32l hy hx2).mpr z))]; exact hx2
def MmaxL (own : String) (ix : Nat) : Prop := Cond.methodLink own ix Lib.MathLoose.max_long.x ∈ lw_g ∧ Cond.static Lib.MathLoose.max_long.x ∈ lw_g ∧ Cond.initialized "java/lang/Math" ∈ lw_g ∧ Cond.code Lib.MathLoose.max_long.x Lib.MathLoose.max_long.code 4 (some .long) ∈ lw_g
theorem g_mmaxL {ix : Nat} {a b : Int} (hw : MmaxL (mY M).cls ix) (hcat : (st.map pcat).sum ≤ 8) (hdd : 1 ≤ d) (hd : decode (mB M) pc = .ok (.invokestatic ix, 3)) (k : G E M d (pc + 3) l (pL (mx a b) :: st) w RF NN 0 0 res) : G E M d pc l (pL b :: pL a :: st) w RF NN 0 0 res := by
  intro ad0 n0 l0 D ty ro p e R s m args below meth cc A Q C hE ad ws H locs ls lv sm I hl hp hs
  obtain ⟨y, sm, rfl, hy, hs⟩ := sR_L hs
  obtain ⟨x, sm, rfl, hx2, hs⟩ := sR_L hs
  have hc8 := cat_le hs hcat
  have hRm := C.2.2.2.2.2.2.2.2.2.1
  refine va_mmax_long C.1 C.2.1 (C.2.2.1.trans hl.1.symm) C.2.2.2.2.1 (C.2.2.2.2.2.1 _ hw.1) (C.2.2.2.2.2.1 _ hw.2.1) (C.2.2.2.2.2.1 _ hw.2.2.1) (C.2.2.2.2.2.1 _ hw.2.2.2) (by omega) (by omega) (Nat.zero_le _) (Nat.zero_le _) hd (k ad0 n0 l0 D ty ro p e R s m args below meth cc A Q C hE ad ws H locs ls lv _ I hl hp ⟨⟨_, rfl, ?_⟩, hs⟩)
  · unfold mx
    by_cases q : y < x
    · rw [if_pos q, if_neg (by have := (i64l hy hx2).mp q; omega)]; exact hx2
    · rw [if_neg q]
      have q2 : ¬ b < a := fun z => q ((i64l hy hx2).mpr z)
      by_cases q3 : a < b
      · rw [if_pos q3]; exact hy
      · rw [if_neg q3]; rw [hy]; omega
def MminL (own : String) (ix : Nat) : Prop := Cond.methodLink own ix Lib.MathLoose.min_long.x ∈ lw_g ∧ Cond.static Lib.MathLoose.min_long.x ∈ lw_g ∧ Cond.initialized "java/lang/Math" ∈ lw_g ∧ Cond.code Lib.MathLoose.min_long.x Lib.MathLoose.min_long.code 4 (some .long) ∈ lw_g
theorem g_mminL {ix : Nat} {a b : Int} (hw : MminL (mY M).cls ix) (hcat : (st.map pcat).sum ≤ 8) (hdd : 1 ≤ d) (hd : decode (mB M) pc = .ok (.invokestatic ix, 3)) (k : G E M d (pc + 3) l (pL (mn a b) :: st) w RF NN 0 0 res) : G E M d pc l (pL b :: pL a :: st) w RF NN 0 0 res := by
  intro ad0 n0 l0 D ty ro p e R s m args below meth cc A Q C hE ad ws H locs ls lv sm I hl hp hs
  obtain ⟨y, sm, rfl, hy, hs⟩ := sR_L hs
  obtain ⟨x, sm, rfl, hx2, hs⟩ := sR_L hs
  have hc8 := cat_le hs hcat
  have hRm := C.2.2.2.2.2.2.2.2.2.1
  refine va_mmin_long C.1 C.2.1 (C.2.2.1.trans hl.1.symm) C.2.2.2.2.1 (C.2.2.2.2.2.1 _ hw.1) (C.2.2.2.2.2.1 _ hw.2.1) (C.2.2.2.2.2.1 _ hw.2.2.1) (C.2.2.2.2.2.1 _ hw.2.2.2) (by omega) (by omega) (Nat.zero_le _) (Nat.zero_le _) hd (k ad0 n0 l0 D ty ro p e R s m args below meth cc A Q C hE ad ws H locs ls lv _ I hl hp ⟨⟨_, rfl, ?_⟩, hs⟩)
  · unfold mn
    by_cases q : y < x
    · rw [if_pos q, if_pos ((i64l hy hx2).mp q)]; exact hy
    · rw [if_neg q, if_neg (fun z => q ((i64l hy hx2).mpr z))]; exact hx2
theorem h_bvI {a : Int} {K : Int → Option α} (h : bv a K = some r) (kk : ∀ x, K x = some r → G E M d pc l (pI x :: st) w RF NN 0 0 res) : G E M d pc l (pI a :: st) w RF NN 0 0 res := kk a h
theorem h_bvL {a : Int} {K : Int → Option α} (h : bv a K = some r) (kk : ∀ x, K x = some r → G E M d pc l (pL x :: st) w RF NN 0 0 res) : G E M d pc l (pL a :: st) w RF NN 0 0 res := kk a h
def noK : List (Int × Int) → Int → Prop
  | [], _ => True
  | p :: t, a => p.1 ≠ a ∧ noK t a
theorem look_d : ∀ (l : List (Int × Int)) (d a : Int), noK l a → Op.lookupswitch.offset l d a = d
  | [], _, _, _ => rfl
  | p :: t, d, a, h => by
    obtain ⟨p1, p2⟩ := p
    rw [Op.lookupswitch.offset_cons, if_neg h.1]
    exact look_d t d a h.2
theorem h_iinc {i j : Nat} {v a : Int} {K : Int → Option α} (hd : decode (mB M) pc = .ok (.iinc i v, 3)) (hj : l[j]? = some (i, pI a)) (hv : -2147483648 ≤ v ∧ v < 2147483648) (hq : i < mL M) (h : bv (w32 (a + v)) K = some r) (kk : ∀ x, K x = some r → G E M d (pc + 3) (setL1 i (pI x) l) st w RF NN 0 0 res) : G E M d pc l st w RF NN 0 0 res := g_iinc hd hj hv hq rfl (kk _ h)
theorem g_loc {l' : List (Nat × PV)} (e : l = l') (kk : G E M d pc l' st w RF NN 0 0 res) : G E M d pc l st w RF NN 0 0 res := by
  rw [e]
  exact kk
end HRULES
section HRET
variable {E : Nat × (Int → Int)} {M : MR} {d pc : Nat} {l : List (Nat × PV)} {w : WD}
theorem h_iret {a : Int} {r : Int × WD} (hT : mT M = some .int) (hd : decode (mB M) pc = .ok (.ireturn, 1)) (h : some (a, w) = some r) : G E M d pc l [pI a] w RF NN 0 0 (some (pI r.1), r.2, RF, NN) := by
  cases h
  exact g_ireturn hd (fun q => by rw [hT] at q; cases q) (Nat.zero_le _) (Nat.zero_le _)
theorem h_zret {a : Int} {r : Int × WD} (hv : a = 0 ∨ a = 1) (hd : decode (mB M) pc = .ok (.ireturn, 1)) (h : some (a, w) = some r) : G E M d pc l [pI a] w RF NN 0 0 (some (pI r.1), r.2, RF, NN) := by
  cases h
  exact g_ireturn hd (fun _ => hv) (Nat.zero_le _) (Nat.zero_le _)
theorem h_lret {a : Int} {r : Int × WD} (hd : decode (mB M) pc = .ok (.lreturn, 1)) (h : some (a, w) = some r) : G E M d pc l [pL a] w RF NN 0 0 (some (pL r.1), r.2, RF, NN) := by
  cases h
  exact g_lreturn hd (Nat.zero_le _) (Nat.zero_le _)
theorem h_vret {r : WD} (hd : decode (mB M) pc = .ok (.return_, 1)) (h : some w = some r) : G E M d pc l [] w RF NN 0 0 (none, r, RF, NN) := by
  cases h
  exact g_return hd (Nat.zero_le _) (Nat.zero_le _)
end HRET
section HCALL
variable {E : Nat × (Int → Int)} {M : MR} {d pc : Nat} {l : List (Nat × PV)} {st : List PV} {w : WD} {res : Option PV × WD × WD × Nat} {α : Type} {r : α}
theorem h_callVi {ix na : Nat} {M2 : MR} {av S : List PV} {m : Option (Int × WD)} {K : Int → WD → Option α} {k0 : Int} {ci1 N : Nat} (hp2 : PO k0 NN ci1 N) (hcl : ∃ T, classes[ci1]? = some ((mY M2).cls, T, N)) (hz : mC M2 = 0 ∧ mS M2 = 0) (hd : decode (mB M) pc = .ok (.invokevirtual ix, 3)) (hlk : Cond.methodLink (mY M).cls ix (mY M2) ∈ lw_g) (hv : VM M2 na) (hna : av.length = na) (hst : S = av.reverse ++ pR k0 :: st) (hcat : (st.map pcat).sum ≤ 8) (h : ci m K = some r) (hct : ∀ x w1, m = some (x, w1) → CTi E M2 d (pR k0 :: av) w RF NN x w1 RF NN) (kk : ∀ x w1, (mT M2 = some .boolean → x = 0 ∨ x = 1) → K x w1 = some r → G E M (d + 1) (pc + 3) l (pI x :: st) w1 RF NN 0 0 res) : G E M (d + 1) pc l S w RF NN 0 0 res := by
  cases m with
  | none => cases h
  | some q => exact g_callVi hp2 hcl hd hlk hv hna (hct _ _ rfl) hst hcat ⟨by rw [hz.1]; exact Nat.zero_le _, by rw [hz.2]; exact Nat.zero_le _⟩ (fun hb => by rw [hz.1, hz.2]; exact kk _ _ hb h)
theorem h_callVl {ix na : Nat} {M2 : MR} {av S : List PV} {m : Option (Int × WD)} {K : Int → WD → Option α} {k0 : Int} {ci1 N : Nat} (hp2 : PO k0 NN ci1 N) (hcl : ∃ T, classes[ci1]? = some ((mY M2).cls, T, N)) (hz : mC M2 = 0 ∧ mS M2 = 0) (hd : decode (mB M) pc = .ok (.invokevirtual ix, 3)) (hlk : Cond.methodLink (mY M).cls ix (mY M2) ∈ lw_g) (hv : VM M2 na) (hna : av.length = na) (hst : S = av.reverse ++ pR k0 :: st) (hcat : (st.map pcat).sum ≤ 8) (h : ci m K = some r) (hct : ∀ x w1, m = some (x, w1) → CTl E M2 d (pR k0 :: av) w RF NN x w1 RF NN) (kk : ∀ x w1, K x w1 = some r → G E M (d + 1) (pc + 3) l (pL x :: st) w1 RF NN 0 0 res) : G E M (d + 1) pc l S w RF NN 0 0 res := by
  cases m with
  | none => cases h
  | some q => exact g_callVl hp2 hcl hd hlk hv hna (hct _ _ rfl) hst hcat ⟨by rw [hz.1]; exact Nat.zero_le _, by rw [hz.2]; exact Nat.zero_le _⟩ (by rw [hz.1, hz.2]; exact kk _ _ h)
theorem h_callVv {ix na : Nat} {M2 : MR} {av S : List PV} {m : Option WD} {K : WD → Option α} {k0 : Int} {ci1 N : Nat} (hp2 : PO k0 NN ci1 N) (hcl : ∃ T, classes[ci1]? = some ((mY M2).cls, T, N)) (hz : mC M2 = 0 ∧ mS M2 = 0) (hd : decode (mB M) pc = .ok (.invokevirtual ix, 3)) (hlk : Cond.methodLink (mY M).cls ix (mY M2) ∈ lw_g) (hv : VM M2 na) (hna : av.length = na) (hst : S = av.reverse ++ pR k0 :: st) (hcat : (st.map pcat).sum ≤ 8) (h : cv m K = some r) (hct : ∀ w1, m = some w1 → CTv E M2 d (pR k0 :: av) w RF NN w1 RF NN) (kk : ∀ w1, K w1 = some r → G E M (d + 1) (pc + 3) l st w1 RF NN 0 0 res) : G E M (d + 1) pc l S w RF NN 0 0 res := by
  cases m with
  | none => cases h
  | some q => exact g_callVv hp2 hcl hd hlk hv hna (hct _ rfl) hst hcat ⟨by rw [hz.1]; exact Nat.zero_le _, by rw [hz.2]; exact Nat.zero_le _⟩ (by rw [hz.1, hz.2]; exact kk _ h)
theorem h_callSi {ix na : Nat} {M2 : MR} {av S : List PV} {m : Option (Int × WD)} {K : Int → WD → Option α} (hz : mC M2 = 0 ∧ mS M2 = 0) (hd : decode (mB M) pc = .ok (.invokestatic ix, 3)) (hlk : Cond.methodLink (mY M).cls ix (mY M2) ∈ lw_g) (hv : SM M2 na) (hna : av.length = na) (hst : S = av.reverse ++ st) (hcat : (st.map pcat).sum ≤ 8) (h : ci m K = some r) (hct : ∀ x w1, m = some (x, w1) → CTi E M2 d av w RF NN x w1 RF NN) (kk : ∀ x w1, (mT M2 = some .boolean → x = 0 ∨ x = 1) → K x w1 = some r → G E M (d + 1) (pc + 3) l (pI x :: st) w1 RF NN 0 0 res) : G E M (d + 1) pc l S w RF NN 0 0 res := by
  cases m with
  | none => cases h
  | some q => exact g_callSi hd hlk hv hna (hct _ _ rfl) hst hcat ⟨by rw [hz.1]; exact Nat.zero_le _, by rw [hz.2]; exact Nat.zero_le _⟩ (fun hb => by rw [hz.1, hz.2]; exact kk _ _ hb h)
theorem h_callSl {ix na : Nat} {M2 : MR} {av S : List PV} {m : Option (Int × WD)} {K : Int → WD → Option α} (hz : mC M2 = 0 ∧ mS M2 = 0) (hd : decode (mB M) pc = .ok (.invokestatic ix, 3)) (hlk : Cond.methodLink (mY M).cls ix (mY M2) ∈ lw_g) (hv : SM M2 na) (hna : av.length = na) (hst : S = av.reverse ++ st) (hcat : (st.map pcat).sum ≤ 8) (h : ci m K = some r) (hct : ∀ x w1, m = some (x, w1) → CTl E M2 d av w RF NN x w1 RF NN) (kk : ∀ x w1, K x w1 = some r → G E M (d + 1) (pc + 3) l (pL x :: st) w1 RF NN 0 0 res) : G E M (d + 1) pc l S w RF NN 0 0 res := by
  cases m with
  | none => cases h
  | some q => exact g_callSl hd hlk hv hna (hct _ _ rfl) hst hcat ⟨by rw [hz.1]; exact Nat.zero_le _, by rw [hz.2]; exact Nat.zero_le _⟩ (by rw [hz.1, hz.2]; exact kk _ _ h)
theorem h_callSv {ix na : Nat} {M2 : MR} {av S : List PV} {m : Option WD} {K : WD → Option α} (hz : mC M2 = 0 ∧ mS M2 = 0) (hd : decode (mB M) pc = .ok (.invokestatic ix, 3)) (hlk : Cond.methodLink (mY M).cls ix (mY M2) ∈ lw_g) (hv : SM M2 na) (hna : av.length = na) (hst : S = av.reverse ++ st) (hcat : (st.map pcat).sum ≤ 8) (h : cv m K = some r) (hct : ∀ w1, m = some w1 → CTv E M2 d av w RF NN w1 RF NN) (kk : ∀ w1, K w1 = some r → G E M (d + 1) (pc + 3) l st w1 RF NN 0 0 res) : G E M (d + 1) pc l S w RF NN 0 0 res := by
  cases m with
  | none => cases h
  | some q => exact g_callSv hd hlk hv hna (hct _ rfl) hst hcat ⟨by rw [hz.1]; exact Nat.zero_le _, by rw [hz.2]; exact Nat.zero_le _⟩ (by rw [hz.1, hz.2]; exact kk _ h)
end HCALL
theorem mm_La_91 : MminI RX3 91 := ⟨lk_La_91, vm_mJM_min_III.2, vm_mJM_min_III.1.2.2.2.1, vm_mJM_min_III.1.2.2.2.2⟩
theorem mm_La_97 : MmaxI RX3 97 := ⟨lk_La_97, vm_mJM_max_III.2, vm_mJM_max_III.1.2.2.2.1, vm_mJM_max_III.1.2.2.2.2⟩
theorem mm_Th_74 : MminL RX6 74 := ⟨lk_Th_74, vm_mJM_min_JJJ.2, vm_mJM_min_JJJ.1.2.2.2.1, vm_mJM_min_JJJ.1.2.2.2.2⟩
theorem mm_Th_84 : MminI RX6 84 := ⟨lk_Th_84, vm_mJM_min_III.2, vm_mJM_min_III.1.2.2.2.1, vm_mJM_min_III.1.2.2.2.2⟩
theorem mm_Th_103 : MmaxL RX6 103 := ⟨lk_Th_103, vm_mJM_max_JJJ.2, vm_mJM_max_JJJ.1.2.2.2.1, vm_mJM_max_JJJ.1.2.2.2.2⟩
theorem mm_B_168 : MmaxL RX7 168 := ⟨lk_B_168, vm_mJM_max_JJJ.2, vm_mJM_max_JJJ.1.2.2.2.1, vm_mJM_max_JJJ.1.2.2.2.2⟩
theorem mm_B_188 : MminI RX7 188 := ⟨lk_B_188, vm_mJM_min_III.2, vm_mJM_min_III.1.2.2.2.1, vm_mJM_min_III.1.2.2.2.2⟩
theorem mm_Fl_22 : MminI RX1 22 := ⟨lk_Fl_22, vm_mJM_min_III.2, vm_mJM_min_III.1.2.2.2.1, vm_mJM_min_III.1.2.2.2.2⟩
theorem mm_B_252 : MmaxI RX7 252 := ⟨lk_B_252, vm_mJM_max_III.2, vm_mJM_max_III.1.2.2.2.1, vm_mJM_max_III.1.2.2.2.2⟩
theorem mm_Sh_23 : MminI RX5 23 := ⟨lk_Sh_23, vm_mJM_min_III.2, vm_mJM_min_III.1.2.2.2.1, vm_mJM_min_III.1.2.2.2.2⟩
theorem mm_Sh_29 : MmaxI RX5 29 := ⟨lk_Sh_29, vm_mJM_max_III.2, vm_mJM_max_III.1.2.2.2.1, vm_mJM_max_III.1.2.2.2.2⟩
theorem pa_A {x : Int} (h : x = 3 ∨ x = 4 ∨ x = 5) : PA x NN 0 40 := by rcases h with rfl | rfl | rfl <;> exact ⟨by decide, by decide, rfl⟩
theorem po_0 : PO 0 NN 7 7 := ⟨by decide, by decide, rfl⟩
theorem po_1 : PO 1 NN 2 8 := ⟨by decide, by decide, rfl⟩
theorem pa_2 : PA 2 NN 0 51 := ⟨by decide, by decide, rfl⟩
theorem pa_3 : PA 3 NN 0 40 := ⟨by decide, by decide, rfl⟩
theorem pa_4 : PA 4 NN 0 40 := ⟨by decide, by decide, rfl⟩
theorem pa_5 : PA 5 NN 0 40 := ⟨by decide, by decide, rfl⟩
theorem po_6 : PO 6 NN 3 10 := ⟨by decide, by decide, rfl⟩
theorem pa_7 : PA 7 NN 0 120 := ⟨by decide, by decide, rfl⟩
theorem pa_8 : PA 8 NN 0 121 := ⟨by decide, by decide, rfl⟩
theorem pa_9 : PA 9 NN 0 121 := ⟨by decide, by decide, rfl⟩
theorem pa_10 : PA 10 NN 0 121 := ⟨by decide, by decide, rfl⟩
theorem pa_11 : PA 11 NN 0 6 := ⟨by decide, by decide, rfl⟩
theorem po_12 : PO 12 NN 6 9 := ⟨by decide, by decide, rfl⟩
theorem pa_13 : PA 13 NN 0 84 := ⟨by decide, by decide, rfl⟩
theorem pa_14 : PA 14 NN 4 35 := ⟨by decide, by decide, rfl⟩
theorem pa_15 : PA 15 NN 0 5 := ⟨by decide, by decide, rfl⟩
theorem pa_16 : PA 16 NN 4 35 := ⟨by decide, by decide, rfl⟩
theorem pa_17 : PA 17 NN 4 384 := ⟨by decide, by decide, rfl⟩
theorem pa_18 : PA 18 NN 0 5 := ⟨by decide, by decide, rfl⟩
theorem po_19 : PO 19 NN 4 9 := ⟨by decide, by decide, rfl⟩
theorem pa_20 : PA 20 NN 0 5 := ⟨by decide, by decide, rfl⟩
theorem pa_21 : PA 21 NN 0 5 := ⟨by decide, by decide, rfl⟩
theorem pa_22 : PA 22 NN 0 5 := ⟨by decide, by decide, rfl⟩
theorem pa_23 : PA 23 NN 0 5 := ⟨by decide, by decide, rfl⟩
theorem pa_24 : PA 24 NN 0 5 := ⟨by decide, by decide, rfl⟩
theorem pa_25 : PA 25 NN 0 5 := ⟨by decide, by decide, rfl⟩
theorem pa_26 : PA 26 NN 0 15 := ⟨by decide, by decide, rfl⟩
theorem po_27 : PO 27 NN 1 4 := ⟨by decide, by decide, rfl⟩
theorem pa_28 : PA 28 NN 0 25 := ⟨by decide, by decide, rfl⟩
theorem pa_29 : PA 29 NN 0 5 := ⟨by decide, by decide, rfl⟩
theorem po_30 : PO 30 NN 0 5 := ⟨by decide, by decide, rfl⟩
theorem pa_31 : PA 31 NN 0 50 := ⟨by decide, by decide, rfl⟩
theorem pa_32 : PA 32 NN 0 24 := ⟨by decide, by decide, rfl⟩
theorem pa_33 : PA 33 NN 5 6 := ⟨by decide, by decide, rfl⟩
theorem po_34 : PO 34 NN 5 4 := ⟨by decide, by decide, rfl⟩
theorem pa_35 : PA 35 NN 4 60 := ⟨by decide, by decide, rfl⟩
theorem po_36 : PO 36 NN 5 4 := ⟨by decide, by decide, rfl⟩
theorem pa_37 : PA 37 NN 4 60 := ⟨by decide, by decide, rfl⟩
theorem po_38 : PO 38 NN 5 4 := ⟨by decide, by decide, rfl⟩
theorem pa_39 : PA 39 NN 4 60 := ⟨by decide, by decide, rfl⟩
theorem po_40 : PO 40 NN 5 4 := ⟨by decide, by decide, rfl⟩
theorem pa_41 : PA 41 NN 4 60 := ⟨by decide, by decide, rfl⟩
theorem po_42 : PO 42 NN 5 4 := ⟨by decide, by decide, rfl⟩
theorem pa_43 : PA 43 NN 4 60 := ⟨by decide, by decide, rfl⟩
theorem po_44 : PO 44 NN 5 4 := ⟨by decide, by decide, rfl⟩
theorem pa_45 : PA 45 NN 4 60 := ⟨by decide, by decide, rfl⟩
theorem po_46 : PO 46 NN 8 66 := ⟨by decide, by decide, rfl⟩
theorem pa_47 : PA 47 NN 0 18 := ⟨by decide, by decide, rfl⟩
theorem pa_48 : PA 48 NN 0 6 := ⟨by decide, by decide, rfl⟩
theorem pa_49 : PA 49 NN 0 15 := ⟨by decide, by decide, rfl⟩
theorem pa_50 : PA 50 NN 0 5 := ⟨by decide, by decide, rfl⟩
theorem pa_51 : PA 51 NN 0 3 := ⟨by decide, by decide, rfl⟩
theorem pa_52 : PA 52 NN 0 4 := ⟨by decide, by decide, rfl⟩
theorem pa_53 : PA 53 NN 0 40 := ⟨by decide, by decide, rfl⟩
theorem pa_54 : PA 54 NN 0 40 := ⟨by decide, by decide, rfl⟩
theorem pa_55 : PA 55 NN 0 40 := ⟨by decide, by decide, rfl⟩
theorem pa_56 : PA 56 NN 0 40 := ⟨by decide, by decide, rfl⟩
theorem pa_57 : PA 57 NN 1 120 := ⟨by decide, by decide, rfl⟩
theorem pa_58 : PA 58 NN 1 260 := ⟨by decide, by decide, rfl⟩
theorem pa_59 : PA 59 NN 0 260 := ⟨by decide, by decide, rfl⟩
theorem pa_60 : PA 60 NN 0 2 := ⟨by decide, by decide, rfl⟩
theorem pa_61 : PA 61 NN 3 122 := ⟨by decide, by decide, rfl⟩
theorem pa_62 : PA 62 NN 3 122 := ⟨by decide, by decide, rfl⟩
theorem pa_63 : PA 63 NN 0 6 := ⟨by decide, by decide, rfl⟩
theorem pa_64 : PA 64 NN 0 130 := ⟨by decide, by decide, rfl⟩
theorem pa_65 : PA 65 NN 4 35 := ⟨by decide, by decide, rfl⟩
theorem pa_66 : PA 66 NN 0 5 := ⟨by decide, by decide, rfl⟩
theorem pa_67 : PA 67 NN 0 5 := ⟨by decide, by decide, rfl⟩
theorem pa_68 : PA 68 NN 4 35 := ⟨by decide, by decide, rfl⟩
theorem pa_69 : PA 69 NN 0 5 := ⟨by decide, by decide, rfl⟩
theorem pa_70 : PA 70 NN 0 5 := ⟨by decide, by decide, rfl⟩
theorem pa_71 : PA 71 NN 0 5 := ⟨by decide, by decide, rfl⟩
theorem pa_72 : PA 72 NN 0 25 := ⟨by decide, by decide, rfl⟩
theorem pa_73 : PA 73 NN 0 5 := ⟨by decide, by decide, rfl⟩
theorem pa_74 : PA 74 NN 2 5 := ⟨by decide, by decide, rfl⟩
theorem pa_75 : PA 75 NN 0 4 := ⟨by decide, by decide, rfl⟩
theorem pa_76 : PA 76 NN 0 15 := ⟨by decide, by decide, rfl⟩
theorem pa_77 : PA 77 NN 0 5 := ⟨by decide, by decide, rfl⟩
theorem pa_78 : PA 78 NN 2 5 := ⟨by decide, by decide, rfl⟩
theorem pa_79 : PA 79 NN 0 4 := ⟨by decide, by decide, rfl⟩
theorem pa_80 : PA 80 NN 0 50 := ⟨by decide, by decide, rfl⟩
theorem pa_81 : PA 81 NN 0 24 := ⟨by decide, by decide, rfl⟩
theorem pa_82 : PA 82 NN 0 6 := ⟨by decide, by decide, rfl⟩
theorem pa_83 : PA 83 NN 0 6 := ⟨by decide, by decide, rfl⟩
theorem pa_84 : PA 84 NN 4 360 := ⟨by decide, by decide, rfl⟩
theorem pa_85 : PA 85 NN 4 60 := ⟨by decide, by decide, rfl⟩
