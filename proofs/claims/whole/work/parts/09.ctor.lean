section CTOR
variable {E : Nat × (Int → Int)} {M : MR} {d pc : Nat} {l : List (Nat × PV)} {st : List PV} {w rf : WD} {n c z : Nat} {res : Option PV × WD × WD × Nat}
theorem c_newa_int {N n2 : Nat} {v k : Int} (hd : decode (mB M) pc = .ok (.newarray .int, 2)) (hk : (n : Int) = k) (hn : n + 1 = n2) (hsh : SH k = (0, N)) (hv : v = (N : Int)) (hN : N < 1000) (hroom : c + 1 ≤ mC M ∧ z + N ≤ mS M) (kk : G E M d (pc + 2) l (pR k :: st) (zr w k) (nl rf k) n2 (c + 1) (z + N) res) : G E M d pc l (pI v :: st) w rf n c z res := by
  subst hk hn
  exact g_newa_int hd ar_int hsh hv hN hroom kk
theorem c_newa_byte {N n2 : Nat} {v k : Int} (hd : decode (mB M) pc = .ok (.newarray .byte, 2)) (hk : (n : Int) = k) (hn : n + 1 = n2) (hsh : SH k = (1, N)) (hv : v = (N : Int)) (hN : N < 1000) (hroom : c + 1 ≤ mC M ∧ z + N ≤ mS M) (kk : G E M d (pc + 2) l (pR k :: st) (zr w k) (nl rf k) n2 (c + 1) (z + N) res) : G E M d pc l (pI v :: st) w rf n c z res := by
  subst hk hn
  exact g_newa_byte hd ar_byte hsh hv hN hroom kk
theorem c_newa_boolean {N n2 : Nat} {v k : Int} (hd : decode (mB M) pc = .ok (.newarray .boolean, 2)) (hk : (n : Int) = k) (hn : n + 1 = n2) (hsh : SH k = (2, N)) (hv : v = (N : Int)) (hN : N < 1000) (hroom : c + 1 ≤ mC M ∧ z + N ≤ mS M) (kk : G E M d (pc + 2) l (pR k :: st) (zr w k) (nl rf k) n2 (c + 1) (z + N) res) : G E M d pc l (pI v :: st) w rf n c z res := by
  subst hk hn
  exact g_newa_boolean hd ar_boolean hsh hv hN hroom kk
theorem c_newa_short {N n2 : Nat} {v k : Int} (hd : decode (mB M) pc = .ok (.newarray .short, 2)) (hk : (n : Int) = k) (hn : n + 1 = n2) (hsh : SH k = (3, N)) (hv : v = (N : Int)) (hN : N < 1000) (hroom : c + 1 ≤ mC M ∧ z + N ≤ mS M) (kk : G E M d (pc + 2) l (pR k :: st) (zr w k) (nl rf k) n2 (c + 1) (z + N) res) : G E M d pc l (pI v :: st) w rf n c z res := by
  subst hk hn
  exact g_newa_short hd ar_short hsh hv hN hroom kk
theorem c_newa_long {N n2 : Nat} {v k : Int} (hd : decode (mB M) pc = .ok (.newarray .long, 2)) (hk : (n : Int) = k) (hn : n + 1 = n2) (hsh : SH k = (4, N)) (hv : v = (N : Int)) (hN : N < 1000) (hroom : c + 1 ≤ mC M ∧ z + N ≤ mS M) (kk : G E M d (pc + 2) l (pR k :: st) (zr w k) (nl rf k) n2 (c + 1) (z + N) res) : G E M d pc l (pI v :: st) w rf n c z res := by
  subst hk hn
  exact g_newa_long hd ar_long hsh hv hN hroom kk
theorem c_newq {ix N n2 : Nat} {v k : Int} (hd : decode (mB M) pc = .ok (.anewarray ix, 3)) (hf : Cond.classLink (mY M).cls ix "BehindTheMask$Shelf" ∈ lw_g) (hk : (n : Int) = k) (hn : n + 1 = n2) (hsh : SH k = (5, N)) (hv : v = (N : Int)) (hN : N < 1000) (hroom : c + 1 ≤ mC M ∧ z + N ≤ mS M) (kk : G E M d (pc + 3) l (pR k :: st) (zr w k) (nl rf k) n2 (c + 1) (z + N) res) : G E M d pc l (pI v :: st) w rf n c z res := by
  subst hk hn
  exact g_newq hd hf hsh hv hN hroom kk
theorem c_new {ix ci N n2 : Nat} {k : Int} (hd : decode (mB M) pc = .ok (.new ix, 3)) (hf : NP (mY M).cls ix ci N) (hk : (n : Int) = k) (hn : n + 1 = n2) (hsh : SH k = (10 + ci, N)) (hfk : ((List.range N).all fun j => decide (FK ci j < 4)) = true) (hroom : c + 1 ≤ mC M ∧ z + N ≤ mS M) (kk : G E M d (pc + 3) l (pR k :: st) (zr w k) (nl rf k) n2 (c + 1) (z + N) res) : G E M d pc l st w rf n c z res := by
  subst hk hn
  exact g_new hd hf hsh (fun j hj => of_decide_eq_true (List.all_eq_true.mp hfk j (List.mem_range.mpr hj))) hroom kk
theorem c_putF {ix ci j N : Nat} {k a : Int} (hf : FP (mY M).cls ix ci j 2 N true) (hp2 : PO k n ci N) (hown2 : ∃ T2, classes[ci]? = some ((mY M).cls, T2, N)) (hini : (mY M).name = "<init>") (ha : 0 ≤ a) (hd : decode (mB M) pc = .ok (.putfield ix, 3)) (kk : G E M d (pc + 3) l st w (up rf k j a) n c z res) : G E M d pc l (pR a :: pR k :: st) w rf n c z res := g_putF hf hp2 hown2 hini ha hd kk
end CTOR
def wHa_init_1 (w : WD) : WD := (up (up (up (zr (zr (zr (zr w 2) 3) 4) 5) 2 48 3) 2 49 30) 2 50 3)
def rHa_init_1 (rf : WD) : WD := (up (nl (up (nl (up (nl (up (nl rf 2) 1 0 2) 3) 1 1 3) 4) 1 2 4) 5) 1 3 5)
set_option maxRecDepth 100000 in
set_option maxHeartbeats 4000000 in
theorem kHa_init_1 (E : Nat × (Int → Int)) (d : Nat) (w rf : WD) : CTv E mHa_init (d + 1) [pR 1] w rf 2 (wHa_init_1 w) (rHa_init_1 rf) 6 := by
  refine CTv_of (by decide +kernel) (Nat.le_of_ble_eq_true rfl) rfl ?_
  refine g_aload_n (pc := 0) (j := 0) (dk d_mHa_init 0 rfl) rfl (by decide) ?_
  refine g_objinit (d := d + 0) (pc := 1) (dk d_mHa_init 1 rfl) oi_Ha_3 (by decide) (Nat.le_of_ble_eq_true rfl) ?_
  refine g_aload_n (pc := 4) (j := 0) (dk d_mHa_init 2 rfl) rfl (by decide) ?_
  refine g_bipush (pc := 5) (dk d_mHa_init 3 rfl) (by decide) ?_
  refine c_newa_int (pc := 7) (k := 2) (n2 := 3) (N := 51) (dk d_mHa_init 4 rfl) rfl rfl rfl rfl (by decide) ⟨Nat.le_of_ble_eq_true rfl, Nat.le_of_ble_eq_true rfl⟩ ?_
  refine c_putF (pc := 9) fp_Ha_11 ⟨by decide, by decide, rfl⟩ ⟨_, rfl⟩ rfl (by decide) (dk d_mHa_init 5 rfl) ?_
  refine g_aload_n (pc := 12) (j := 0) (dk d_mHa_init 6 rfl) rfl (by decide) ?_
  refine g_bipush (pc := 13) (dk d_mHa_init 7 rfl) (by decide) ?_
  refine c_newa_int (pc := 15) (k := 3) (n2 := 4) (N := 40) (dk d_mHa_init 8 rfl) rfl rfl rfl rfl (by decide) ⟨Nat.le_of_ble_eq_true rfl, Nat.le_of_ble_eq_true rfl⟩ ?_
  refine c_putF (pc := 17) fp_Ha_15 ⟨by decide, by decide, rfl⟩ ⟨_, rfl⟩ rfl (by decide) (dk d_mHa_init 9 rfl) ?_
  refine g_aload_n (pc := 20) (j := 0) (dk d_mHa_init 10 rfl) rfl (by decide) ?_
  refine g_bipush (pc := 21) (dk d_mHa_init 11 rfl) (by decide) ?_
  refine c_newa_int (pc := 23) (k := 4) (n2 := 5) (N := 40) (dk d_mHa_init 12 rfl) rfl rfl rfl rfl (by decide) ⟨Nat.le_of_ble_eq_true rfl, Nat.le_of_ble_eq_true rfl⟩ ?_
  refine c_putF (pc := 25) fp_Ha_18 ⟨by decide, by decide, rfl⟩ ⟨_, rfl⟩ rfl (by decide) (dk d_mHa_init 13 rfl) ?_
  refine g_aload_n (pc := 28) (j := 0) (dk d_mHa_init 14 rfl) rfl (by decide) ?_
  refine g_bipush (pc := 29) (dk d_mHa_init 15 rfl) (by decide) ?_
  refine c_newa_int (pc := 31) (k := 5) (n2 := 6) (N := 40) (dk d_mHa_init 16 rfl) rfl rfl rfl rfl (by decide) ⟨Nat.le_of_ble_eq_true rfl, Nat.le_of_ble_eq_true rfl⟩ ?_
  refine c_putF (pc := 33) fp_Ha_21 ⟨by decide, by decide, rfl⟩ ⟨_, rfl⟩ rfl (by decide) (dk d_mHa_init 17 rfl) ?_
  refine g_aload_n (pc := 36) (j := 0) (dk d_mHa_init 18 rfl) rfl (by decide) ?_
  refine g_getR (pc := 37) (a := 2) rfl fp_Ha_11 ⟨by decide, by decide, rfl⟩ (dk d_mHa_init 19 rfl) ?_
  refine g_bipush (pc := 40) (dk d_mHa_init 20 rfl) (by decide) ?_
  refine g_iconst (pc := 42) (dk d_mHa_init 21 rfl) (by decide) ?_
  refine g_iast (pc := 43) ⟨by decide, by decide, rfl⟩ (dk d_mHa_init 22 rfl) (by decide) ?_
  refine g_aload_n (pc := 44) (j := 0) (dk d_mHa_init 23 rfl) rfl (by decide) ?_
  refine g_getR (pc := 45) (a := 2) rfl fp_Ha_11 ⟨by decide, by decide, rfl⟩ (dk d_mHa_init 24 rfl) ?_
  refine g_bipush (pc := 48) (dk d_mHa_init 25 rfl) (by decide) ?_
  refine g_bipush (pc := 50) (dk d_mHa_init 26 rfl) (by decide) ?_
  refine g_iast (pc := 52) ⟨by decide, by decide, rfl⟩ (dk d_mHa_init 27 rfl) (by decide) ?_
  refine g_aload_n (pc := 53) (j := 0) (dk d_mHa_init 28 rfl) rfl (by decide) ?_
  refine g_getR (pc := 54) (a := 2) rfl fp_Ha_11 ⟨by decide, by decide, rfl⟩ (dk d_mHa_init 29 rfl) ?_
  refine g_bipush (pc := 57) (dk d_mHa_init 30 rfl) (by decide) ?_
  refine g_iconst (pc := 59) (dk d_mHa_init 31 rfl) (by decide) ?_
  refine g_iast (pc := 60) ⟨by decide, by decide, rfl⟩ (dk d_mHa_init 32 rfl) (by decide) ?_
  exact g_return (pc := 61) (dk d_mHa_init 33 rfl) (Nat.le_of_ble_eq_true rfl) (Nat.le_of_ble_eq_true rfl)
def wLa_init_6 (w : WD) : WD := (zr (zr (zr (zr (zr w 7) 8) 9) 10) 11)
def rLa_init_6 (rf : WD) : WD := (up (nl (up (nl (up (nl (up (nl (up (nl rf 7) 6 0 7) 8) 6 1 8) 9) 6 2 9) 10) 6 3 10) 11) 6 4 11)
set_option maxRecDepth 100000 in
set_option maxHeartbeats 4000000 in
theorem kLa_init_6 (E : Nat × (Int → Int)) (d : Nat) (w rf : WD) : CTv E mLa_init (d + 1) [pR 6] w rf 7 (wLa_init_6 w) (rLa_init_6 rf) 12 := by
  refine CTv_of (by decide +kernel) (Nat.le_of_ble_eq_true rfl) rfl ?_
  refine g_aload_n (pc := 0) (j := 0) (dk d_mLa_init 0 rfl) rfl (by decide) ?_
  refine g_objinit (d := d + 0) (pc := 1) (dk d_mLa_init 1 rfl) oi_La_3 (by decide) (Nat.le_of_ble_eq_true rfl) ?_
  refine g_aload_n (pc := 4) (j := 0) (dk d_mLa_init 2 rfl) rfl (by decide) ?_
  refine g_bipush (pc := 5) (dk d_mLa_init 3 rfl) (by decide) ?_
  refine c_newa_int (pc := 7) (k := 7) (n2 := 8) (N := 120) (dk d_mLa_init 4 rfl) rfl rfl rfl rfl (by decide) ⟨Nat.le_of_ble_eq_true rfl, Nat.le_of_ble_eq_true rfl⟩ ?_
  refine c_putF (pc := 9) fp_La_11 ⟨by decide, by decide, rfl⟩ ⟨_, rfl⟩ rfl (by decide) (dk d_mLa_init 5 rfl) ?_
  refine g_aload_n (pc := 12) (j := 0) (dk d_mLa_init 6 rfl) rfl (by decide) ?_
  refine g_bipush (pc := 13) (dk d_mLa_init 7 rfl) (by decide) ?_
  refine c_newa_int (pc := 15) (k := 8) (n2 := 9) (N := 121) (dk d_mLa_init 8 rfl) rfl rfl rfl rfl (by decide) ⟨Nat.le_of_ble_eq_true rfl, Nat.le_of_ble_eq_true rfl⟩ ?_
  refine c_putF (pc := 17) fp_La_15 ⟨by decide, by decide, rfl⟩ ⟨_, rfl⟩ rfl (by decide) (dk d_mLa_init 9 rfl) ?_
  refine g_aload_n (pc := 20) (j := 0) (dk d_mLa_init 10 rfl) rfl (by decide) ?_
  refine g_bipush (pc := 21) (dk d_mLa_init 11 rfl) (by decide) ?_
  refine c_newa_int (pc := 23) (k := 9) (n2 := 10) (N := 121) (dk d_mLa_init 12 rfl) rfl rfl rfl rfl (by decide) ⟨Nat.le_of_ble_eq_true rfl, Nat.le_of_ble_eq_true rfl⟩ ?_
  refine c_putF (pc := 25) fp_La_18 ⟨by decide, by decide, rfl⟩ ⟨_, rfl⟩ rfl (by decide) (dk d_mLa_init 13 rfl) ?_
  refine g_aload_n (pc := 28) (j := 0) (dk d_mLa_init 14 rfl) rfl (by decide) ?_
  refine g_bipush (pc := 29) (dk d_mLa_init 15 rfl) (by decide) ?_
  refine c_newa_int (pc := 31) (k := 10) (n2 := 11) (N := 121) (dk d_mLa_init 16 rfl) rfl rfl rfl rfl (by decide) ⟨Nat.le_of_ble_eq_true rfl, Nat.le_of_ble_eq_true rfl⟩ ?_
  refine c_putF (pc := 33) fp_La_21 ⟨by decide, by decide, rfl⟩ ⟨_, rfl⟩ rfl (by decide) (dk d_mLa_init 17 rfl) ?_
  refine g_aload_n (pc := 36) (j := 0) (dk d_mLa_init 18 rfl) rfl (by decide) ?_
  refine g_bipush (pc := 37) (dk d_mLa_init 19 rfl) (by decide) ?_
  refine c_newa_int (pc := 39) (k := 11) (n2 := 12) (N := 6) (dk d_mLa_init 20 rfl) rfl rfl rfl rfl (by decide) ⟨Nat.le_of_ble_eq_true rfl, Nat.le_of_ble_eq_true rfl⟩ ?_
  refine c_putF (pc := 41) fp_La_24 ⟨by decide, by decide, rfl⟩ ⟨_, rfl⟩ rfl (by decide) (dk d_mLa_init 21 rfl) ?_
  exact g_return (pc := 44) (dk d_mLa_init 22 rfl) (Nat.le_of_ble_eq_true rfl) (Nat.le_of_ble_eq_true rfl)
def wTh_init_12 (w : WD) : WD := (zr (zr (zr (zr (zr (zr w 13) 14) 15) 16) 17) 18)
def rTh_init_12 (rf : WD) : WD := (up (up (up (nl (up (nl (up (nl (up (nl (up (nl (up (nl rf 13) 12 2 13) 14) 12 3 14) 15) 12 4 15) 16) 12 5 16) 17) 12 6 17) 18) 12 7 18) 12 0 1) 12 1 6)
set_option maxRecDepth 100000 in
set_option maxHeartbeats 4000000 in
theorem kTh_init_12 (E : Nat × (Int → Int)) (d : Nat) (w rf : WD) : CTv E mTh_init (d + 1) [pR 12, pR 1, pR 6] w rf 13 (wTh_init_12 w) (rTh_init_12 rf) 19 := by
  refine CTv_of (by decide +kernel) (Nat.le_of_ble_eq_true rfl) rfl ?_
  refine g_aload_n (pc := 0) (j := 0) (dk d_mTh_init 0 rfl) rfl (by decide) ?_
  refine g_objinit (d := d + 0) (pc := 1) (dk d_mTh_init 1 rfl) oi_Th_3 (by decide) (Nat.le_of_ble_eq_true rfl) ?_
  refine g_aload_n (pc := 4) (j := 0) (dk d_mTh_init 2 rfl) rfl (by decide) ?_
  refine g_bipush (pc := 5) (dk d_mTh_init 3 rfl) (by decide) ?_
  refine c_newa_int (pc := 7) (k := 13) (n2 := 14) (N := 84) (dk d_mTh_init 4 rfl) rfl rfl rfl rfl (by decide) ⟨Nat.le_of_ble_eq_true rfl, Nat.le_of_ble_eq_true rfl⟩ ?_
  refine c_putF (pc := 9) fp_Th_11 ⟨by decide, by decide, rfl⟩ ⟨_, rfl⟩ rfl (by decide) (dk d_mTh_init 5 rfl) ?_
  refine g_aload_n (pc := 12) (j := 0) (dk d_mTh_init 6 rfl) rfl (by decide) ?_
  refine g_bipush (pc := 13) (dk d_mTh_init 7 rfl) (by decide) ?_
  refine c_newa_long (pc := 15) (k := 14) (n2 := 15) (N := 35) (dk d_mTh_init 8 rfl) rfl rfl rfl rfl (by decide) ⟨Nat.le_of_ble_eq_true rfl, Nat.le_of_ble_eq_true rfl⟩ ?_
  refine c_putF (pc := 17) fp_Th_15 ⟨by decide, by decide, rfl⟩ ⟨_, rfl⟩ rfl (by decide) (dk d_mTh_init 9 rfl) ?_
  refine g_aload_n (pc := 20) (j := 0) (dk d_mTh_init 10 rfl) rfl (by decide) ?_
  refine g_iconst (pc := 21) (dk d_mTh_init 11 rfl) (by decide) ?_
  refine c_newa_int (pc := 22) (k := 15) (n2 := 16) (N := 5) (dk d_mTh_init 12 rfl) rfl rfl rfl rfl (by decide) ⟨Nat.le_of_ble_eq_true rfl, Nat.le_of_ble_eq_true rfl⟩ ?_
  refine c_putF (pc := 24) fp_Th_19 ⟨by decide, by decide, rfl⟩ ⟨_, rfl⟩ rfl (by decide) (dk d_mTh_init 13 rfl) ?_
  refine g_aload_n (pc := 27) (j := 0) (dk d_mTh_init 14 rfl) rfl (by decide) ?_
  refine g_bipush (pc := 28) (dk d_mTh_init 15 rfl) (by decide) ?_
  refine c_newa_long (pc := 30) (k := 16) (n2 := 17) (N := 35) (dk d_mTh_init 16 rfl) rfl rfl rfl rfl (by decide) ⟨Nat.le_of_ble_eq_true rfl, Nat.le_of_ble_eq_true rfl⟩ ?_
  refine c_putF (pc := 32) fp_Th_22 ⟨by decide, by decide, rfl⟩ ⟨_, rfl⟩ rfl (by decide) (dk d_mTh_init 17 rfl) ?_
  refine g_aload_n (pc := 35) (j := 0) (dk d_mTh_init 18 rfl) rfl (by decide) ?_
  refine g_sipush (pc := 36) (dk d_mTh_init 19 rfl) (by decide) ?_
  refine c_newa_long (pc := 39) (k := 17) (n2 := 18) (N := 384) (dk d_mTh_init 20 rfl) rfl rfl rfl rfl (by decide) ⟨Nat.le_of_ble_eq_true rfl, Nat.le_of_ble_eq_true rfl⟩ ?_
  refine c_putF (pc := 41) fp_Th_25 ⟨by decide, by decide, rfl⟩ ⟨_, rfl⟩ rfl (by decide) (dk d_mTh_init 21 rfl) ?_
  refine g_aload_n (pc := 44) (j := 0) (dk d_mTh_init 22 rfl) rfl (by decide) ?_
  refine g_iconst (pc := 45) (dk d_mTh_init 23 rfl) (by decide) ?_
  refine c_newa_int (pc := 46) (k := 18) (n2 := 19) (N := 5) (dk d_mTh_init 24 rfl) rfl rfl rfl rfl (by decide) ⟨Nat.le_of_ble_eq_true rfl, Nat.le_of_ble_eq_true rfl⟩ ?_
  refine c_putF (pc := 48) fp_Th_28 ⟨by decide, by decide, rfl⟩ ⟨_, rfl⟩ rfl (by decide) (dk d_mTh_init 25 rfl) ?_
  refine g_aload_n (pc := 51) (j := 0) (dk d_mTh_init 26 rfl) rfl (by decide) ?_
  refine g_aload_n (pc := 52) (j := 1) (dk d_mTh_init 27 rfl) rfl (by decide) ?_
  refine c_putF (pc := 53) fp_Th_31 ⟨by decide, by decide, rfl⟩ ⟨_, rfl⟩ rfl (by decide) (dk d_mTh_init 28 rfl) ?_
  refine g_aload_n (pc := 56) (j := 0) (dk d_mTh_init 29 rfl) rfl (by decide) ?_
  refine g_aload_n (pc := 57) (j := 2) (dk d_mTh_init 30 rfl) rfl (by decide) ?_
  refine c_putF (pc := 58) fp_Th_35 ⟨by decide, by decide, rfl⟩ ⟨_, rfl⟩ rfl (by decide) (dk d_mTh_init 31 rfl) ?_
  exact g_return (pc := 61) (dk d_mTh_init 32 rfl) (Nat.le_of_ble_eq_true rfl) (Nat.le_of_ble_eq_true rfl)
def wNi_init_19 (w : WD) : WD := (up (up (up (up (up (up (zr (zr (zr (zr (zr (zr (zr w 20) 21) 22) 23) 24) 25) 26) 19 8 (-1)) 20 0 (-2)) 20 1 (-2)) 20 2 (-2)) 20 3 (-2)) 20 4 (-2))
def rNi_init_19 (rf : WD) : WD := (up (up (nl (up (nl (up (nl (up (nl (up (nl (up (nl (up (nl rf 20) 19 1 20) 21) 19 2 21) 22) 19 3 22) 23) 19 4 23) 24) 19 5 24) 25) 19 6 25) 26) 19 7 26) 19 0 1)
set_option maxRecDepth 100000 in
set_option maxHeartbeats 4000000 in
theorem kNi_init_19 (E : Nat × (Int → Int)) (d : Nat) (w rf : WD) : CTv E mNi_init (d + 1) [pR 19, pR 1] w rf 20 (wNi_init_19 w) (rNi_init_19 rf) 27 := by
  refine CTv_of (by decide +kernel) (Nat.le_of_ble_eq_true rfl) rfl ?_
  refine g_aload_n (pc := 0) (j := 0) (dk d_mNi_init 0 rfl) rfl (by decide) ?_
  refine g_objinit (d := d + 0) (pc := 1) (dk d_mNi_init 1 rfl) oi_Ni_3 (by decide) (Nat.le_of_ble_eq_true rfl) ?_
  refine g_aload_n (pc := 4) (j := 0) (dk d_mNi_init 2 rfl) rfl (by decide) ?_
  refine g_iconst (pc := 5) (dk d_mNi_init 3 rfl) (by decide) ?_
  refine c_newa_int (pc := 6) (k := 20) (n2 := 21) (N := 5) (dk d_mNi_init 4 rfl) rfl rfl rfl rfl (by decide) ⟨Nat.le_of_ble_eq_true rfl, Nat.le_of_ble_eq_true rfl⟩ ?_
  refine c_putF (pc := 8) fp_Ni_9 ⟨by decide, by decide, rfl⟩ ⟨_, rfl⟩ rfl (by decide) (dk d_mNi_init 5 rfl) ?_
  refine g_aload_n (pc := 11) (j := 0) (dk d_mNi_init 6 rfl) rfl (by decide) ?_
  refine g_iconst (pc := 12) (dk d_mNi_init 7 rfl) (by decide) ?_
  refine c_newa_int (pc := 13) (k := 21) (n2 := 22) (N := 5) (dk d_mNi_init 8 rfl) rfl rfl rfl rfl (by decide) ⟨Nat.le_of_ble_eq_true rfl, Nat.le_of_ble_eq_true rfl⟩ ?_
  refine c_putF (pc := 15) fp_Ni_15 ⟨by decide, by decide, rfl⟩ ⟨_, rfl⟩ rfl (by decide) (dk d_mNi_init 9 rfl) ?_
  refine g_aload_n (pc := 18) (j := 0) (dk d_mNi_init 10 rfl) rfl (by decide) ?_
  refine g_iconst (pc := 19) (dk d_mNi_init 11 rfl) (by decide) ?_
  refine c_newa_int (pc := 20) (k := 22) (n2 := 23) (N := 5) (dk d_mNi_init 12 rfl) rfl rfl rfl rfl (by decide) ⟨Nat.le_of_ble_eq_true rfl, Nat.le_of_ble_eq_true rfl⟩ ?_
  refine c_putF (pc := 22) fp_Ni_18 ⟨by decide, by decide, rfl⟩ ⟨_, rfl⟩ rfl (by decide) (dk d_mNi_init 13 rfl) ?_
  refine g_aload_n (pc := 25) (j := 0) (dk d_mNi_init 14 rfl) rfl (by decide) ?_
  refine g_iconst (pc := 26) (dk d_mNi_init 15 rfl) (by decide) ?_
  refine c_newa_int (pc := 27) (k := 23) (n2 := 24) (N := 5) (dk d_mNi_init 16 rfl) rfl rfl rfl rfl (by decide) ⟨Nat.le_of_ble_eq_true rfl, Nat.le_of_ble_eq_true rfl⟩ ?_
  refine c_putF (pc := 29) fp_Ni_21 ⟨by decide, by decide, rfl⟩ ⟨_, rfl⟩ rfl (by decide) (dk d_mNi_init 17 rfl) ?_
  refine g_aload_n (pc := 32) (j := 0) (dk d_mNi_init 18 rfl) rfl (by decide) ?_
  refine g_iconst (pc := 33) (dk d_mNi_init 19 rfl) (by decide) ?_
  refine c_newa_int (pc := 34) (k := 24) (n2 := 25) (N := 5) (dk d_mNi_init 20 rfl) rfl rfl rfl rfl (by decide) ⟨Nat.le_of_ble_eq_true rfl, Nat.le_of_ble_eq_true rfl⟩ ?_
  refine c_putF (pc := 36) fp_Ni_24 ⟨by decide, by decide, rfl⟩ ⟨_, rfl⟩ rfl (by decide) (dk d_mNi_init 21 rfl) ?_
  refine g_aload_n (pc := 39) (j := 0) (dk d_mNi_init 22 rfl) rfl (by decide) ?_
  refine g_iconst (pc := 40) (dk d_mNi_init 23 rfl) (by decide) ?_
  refine c_newa_int (pc := 41) (k := 25) (n2 := 26) (N := 5) (dk d_mNi_init 24 rfl) rfl rfl rfl rfl (by decide) ⟨Nat.le_of_ble_eq_true rfl, Nat.le_of_ble_eq_true rfl⟩ ?_
  refine c_putF (pc := 43) fp_Ni_27 ⟨by decide, by decide, rfl⟩ ⟨_, rfl⟩ rfl (by decide) (dk d_mNi_init 25 rfl) ?_
  refine g_aload_n (pc := 46) (j := 0) (dk d_mNi_init 26 rfl) rfl (by decide) ?_
  refine g_bipush (pc := 47) (dk d_mNi_init 27 rfl) (by decide) ?_
  refine c_newa_int (pc := 49) (k := 26) (n2 := 27) (N := 15) (dk d_mNi_init 28 rfl) rfl rfl rfl rfl (by decide) ⟨Nat.le_of_ble_eq_true rfl, Nat.le_of_ble_eq_true rfl⟩ ?_
  refine c_putF (pc := 51) fp_Ni_30 ⟨by decide, by decide, rfl⟩ ⟨_, rfl⟩ rfl (by decide) (dk d_mNi_init 29 rfl) ?_
  refine g_aload_n (pc := 54) (j := 0) (dk d_mNi_init 30 rfl) rfl (by decide) ?_
  refine g_iconst (pc := 55) (dk d_mNi_init 31 rfl) (by decide) ?_
  refine g_putI (pc := 56) fp_Ni_33 ⟨by decide, by decide, rfl⟩ (dk d_mNi_init 32 rfl) ?_
  refine g_aload_n (pc := 59) (j := 0) (dk d_mNi_init 33 rfl) rfl (by decide) ?_
  refine g_aload_n (pc := 60) (j := 1) (dk d_mNi_init 34 rfl) rfl (by decide) ?_
  refine c_putF (pc := 61) fp_Ni_37 ⟨by decide, by decide, rfl⟩ ⟨_, rfl⟩ rfl (by decide) (dk d_mNi_init 35 rfl) ?_
  refine g_iconst (pc := 64) (dk d_mNi_init 36 rfl) (by decide) ?_
  refine g_istore_n (pc := 65) (l' := [(2, pI 0), (0, pR 19), (1, pR 1)]) (dk d_mNi_init 37 rfl) (Nat.le_of_ble_eq_true rfl) rfl ?_
  refine g_iload_n (pc := 66) (j := 0) (dk d_mNi_init 38 rfl) rfl ?_
  refine g_iconst (pc := 67) (dk d_mNi_init 39 rfl) (by decide) ?_
  refine g_icmp_ge (pc := 68) (tgt := 85) (dk d_mNi_init 40 rfl) rfl (fun q => absurd q (by decide)) (fun _ => ?_)
  refine g_aload_n (pc := 71) (j := 1) (dk d_mNi_init 41 rfl) rfl (by decide) ?_
  refine g_getR (pc := 72) (a := 20) rfl fp_Ni_9 ⟨by decide, by decide, rfl⟩ (dk d_mNi_init 42 rfl) ?_
  refine g_iload_n (pc := 75) (j := 0) (dk d_mNi_init 43 rfl) rfl ?_
  refine g_bipush (pc := 76) (dk d_mNi_init 44 rfl) (by decide) ?_
  refine g_iast (pc := 78) ⟨by decide, by decide, rfl⟩ (dk d_mNi_init 45 rfl) (by decide) ?_
  refine g_iinc (pc := 79) (j := 0) (l' := [(2, pI 1), (0, pR 19), (1, pR 1)]) (dk d_mNi_init 46 rfl) rfl (by decide) (Nat.le_of_ble_eq_true rfl) rfl ?_
  refine g_goto (pc := 82) (tgt := 66) (dk d_mNi_init 47 rfl) rfl ?_
  refine g_iload_n (pc := 66) (j := 0) (dk d_mNi_init 38 rfl) rfl ?_
  refine g_iconst (pc := 67) (dk d_mNi_init 39 rfl) (by decide) ?_
  refine g_icmp_ge (pc := 68) (tgt := 85) (dk d_mNi_init 40 rfl) rfl (fun q => absurd q (by decide)) (fun _ => ?_)
  refine g_aload_n (pc := 71) (j := 1) (dk d_mNi_init 41 rfl) rfl (by decide) ?_
  refine g_getR (pc := 72) (a := 20) rfl fp_Ni_9 ⟨by decide, by decide, rfl⟩ (dk d_mNi_init 42 rfl) ?_
  refine g_iload_n (pc := 75) (j := 0) (dk d_mNi_init 43 rfl) rfl ?_
  refine g_bipush (pc := 76) (dk d_mNi_init 44 rfl) (by decide) ?_
  refine g_iast (pc := 78) ⟨by decide, by decide, rfl⟩ (dk d_mNi_init 45 rfl) (by decide) ?_
  refine g_iinc (pc := 79) (j := 0) (l' := [(2, pI 2), (0, pR 19), (1, pR 1)]) (dk d_mNi_init 46 rfl) rfl (by decide) (Nat.le_of_ble_eq_true rfl) rfl ?_
  refine g_goto (pc := 82) (tgt := 66) (dk d_mNi_init 47 rfl) rfl ?_
  refine g_iload_n (pc := 66) (j := 0) (dk d_mNi_init 38 rfl) rfl ?_
  refine g_iconst (pc := 67) (dk d_mNi_init 39 rfl) (by decide) ?_
  refine g_icmp_ge (pc := 68) (tgt := 85) (dk d_mNi_init 40 rfl) rfl (fun q => absurd q (by decide)) (fun _ => ?_)
  refine g_aload_n (pc := 71) (j := 1) (dk d_mNi_init 41 rfl) rfl (by decide) ?_
  refine g_getR (pc := 72) (a := 20) rfl fp_Ni_9 ⟨by decide, by decide, rfl⟩ (dk d_mNi_init 42 rfl) ?_
  refine g_iload_n (pc := 75) (j := 0) (dk d_mNi_init 43 rfl) rfl ?_
  refine g_bipush (pc := 76) (dk d_mNi_init 44 rfl) (by decide) ?_
  refine g_iast (pc := 78) ⟨by decide, by decide, rfl⟩ (dk d_mNi_init 45 rfl) (by decide) ?_
  refine g_iinc (pc := 79) (j := 0) (l' := [(2, pI 3), (0, pR 19), (1, pR 1)]) (dk d_mNi_init 46 rfl) rfl (by decide) (Nat.le_of_ble_eq_true rfl) rfl ?_
  refine g_goto (pc := 82) (tgt := 66) (dk d_mNi_init 47 rfl) rfl ?_
  refine g_iload_n (pc := 66) (j := 0) (dk d_mNi_init 38 rfl) rfl ?_
  refine g_iconst (pc := 67) (dk d_mNi_init 39 rfl) (by decide) ?_
  refine g_icmp_ge (pc := 68) (tgt := 85) (dk d_mNi_init 40 rfl) rfl (fun q => absurd q (by decide)) (fun _ => ?_)
  refine g_aload_n (pc := 71) (j := 1) (dk d_mNi_init 41 rfl) rfl (by decide) ?_
  refine g_getR (pc := 72) (a := 20) rfl fp_Ni_9 ⟨by decide, by decide, rfl⟩ (dk d_mNi_init 42 rfl) ?_
  refine g_iload_n (pc := 75) (j := 0) (dk d_mNi_init 43 rfl) rfl ?_
  refine g_bipush (pc := 76) (dk d_mNi_init 44 rfl) (by decide) ?_
  refine g_iast (pc := 78) ⟨by decide, by decide, rfl⟩ (dk d_mNi_init 45 rfl) (by decide) ?_
  refine g_iinc (pc := 79) (j := 0) (l' := [(2, pI 4), (0, pR 19), (1, pR 1)]) (dk d_mNi_init 46 rfl) rfl (by decide) (Nat.le_of_ble_eq_true rfl) rfl ?_
  refine g_goto (pc := 82) (tgt := 66) (dk d_mNi_init 47 rfl) rfl ?_
  refine g_iload_n (pc := 66) (j := 0) (dk d_mNi_init 38 rfl) rfl ?_
  refine g_iconst (pc := 67) (dk d_mNi_init 39 rfl) (by decide) ?_
  refine g_icmp_ge (pc := 68) (tgt := 85) (dk d_mNi_init 40 rfl) rfl (fun q => absurd q (by decide)) (fun _ => ?_)
  refine g_aload_n (pc := 71) (j := 1) (dk d_mNi_init 41 rfl) rfl (by decide) ?_
  refine g_getR (pc := 72) (a := 20) rfl fp_Ni_9 ⟨by decide, by decide, rfl⟩ (dk d_mNi_init 42 rfl) ?_
  refine g_iload_n (pc := 75) (j := 0) (dk d_mNi_init 43 rfl) rfl ?_
  refine g_bipush (pc := 76) (dk d_mNi_init 44 rfl) (by decide) ?_
  refine g_iast (pc := 78) ⟨by decide, by decide, rfl⟩ (dk d_mNi_init 45 rfl) (by decide) ?_
  refine g_iinc (pc := 79) (j := 0) (l' := [(2, pI 5), (0, pR 19), (1, pR 1)]) (dk d_mNi_init 46 rfl) rfl (by decide) (Nat.le_of_ble_eq_true rfl) rfl ?_
  refine g_goto (pc := 82) (tgt := 66) (dk d_mNi_init 47 rfl) rfl ?_
  refine g_iload_n (pc := 66) (j := 0) (dk d_mNi_init 38 rfl) rfl ?_
  refine g_iconst (pc := 67) (dk d_mNi_init 39 rfl) (by decide) ?_
  refine g_icmp_ge (pc := 68) (tgt := 85) (dk d_mNi_init 40 rfl) rfl (fun _ => ?_) (fun q => absurd (by decide) q)
  exact g_return (pc := 85) (dk d_mNi_init 48 rfl) (Nat.le_of_ble_eq_true rfl) (Nat.le_of_ble_eq_true rfl)
def wFl_init_27 (w : WD) : WD := (zr (zr w 28) 29)
def rFl_init_27 (rf : WD) : WD := (up (nl (up (nl rf 28) 27 0 28) 29) 27 1 29)
set_option maxRecDepth 100000 in
set_option maxHeartbeats 4000000 in
theorem kFl_init_27 (E : Nat × (Int → Int)) (d : Nat) (w rf : WD) : CTv E mFl_init (d + 1) [pR 27] w rf 28 (wFl_init_27 w) (rFl_init_27 rf) 30 := by
  refine CTv_of (by decide +kernel) (Nat.le_of_ble_eq_true rfl) rfl ?_
  refine g_aload_n (pc := 0) (j := 0) (dk d_mFl_init 0 rfl) rfl (by decide) ?_
  refine g_objinit (d := d + 0) (pc := 1) (dk d_mFl_init 1 rfl) oi_Fl_3 (by decide) (Nat.le_of_ble_eq_true rfl) ?_
  refine g_aload_n (pc := 4) (j := 0) (dk d_mFl_init 2 rfl) rfl (by decide) ?_
  refine g_bipush (pc := 5) (dk d_mFl_init 3 rfl) (by decide) ?_
  refine c_newa_int (pc := 7) (k := 28) (n2 := 29) (N := 25) (dk d_mFl_init 4 rfl) rfl rfl rfl rfl (by decide) ⟨Nat.le_of_ble_eq_true rfl, Nat.le_of_ble_eq_true rfl⟩ ?_
  refine c_putF (pc := 9) fp_Fl_9 ⟨by decide, by decide, rfl⟩ ⟨_, rfl⟩ rfl (by decide) (dk d_mFl_init 5 rfl) ?_
  refine g_aload_n (pc := 12) (j := 0) (dk d_mFl_init 6 rfl) rfl (by decide) ?_
  refine g_iconst (pc := 13) (dk d_mFl_init 7 rfl) (by decide) ?_
  refine c_newa_int (pc := 14) (k := 29) (n2 := 30) (N := 5) (dk d_mFl_init 8 rfl) rfl rfl rfl rfl (by decide) ⟨Nat.le_of_ble_eq_true rfl, Nat.le_of_ble_eq_true rfl⟩ ?_
  refine c_putF (pc := 16) fp_Fl_15 ⟨by decide, by decide, rfl⟩ ⟨_, rfl⟩ rfl (by decide) (dk d_mFl_init 9 rfl) ?_
  exact g_return (pc := 19) (dk d_mFl_init 10 rfl) (Nat.le_of_ble_eq_true rfl) (Nat.le_of_ble_eq_true rfl)
def wBo_init_30 (w : WD) : WD := (zr (zr w 31) 32)
def rBo_init_30 (rf : WD) : WD := (up (nl (up (nl rf 31) 30 0 31) 32) 30 1 32)
set_option maxRecDepth 100000 in
set_option maxHeartbeats 4000000 in
theorem kBo_init_30 (E : Nat × (Int → Int)) (d : Nat) (w rf : WD) : CTv E mBo_init (d + 1) [pR 30] w rf 31 (wBo_init_30 w) (rBo_init_30 rf) 33 := by
  refine CTv_of (by decide +kernel) (Nat.le_of_ble_eq_true rfl) rfl ?_
  refine g_aload_n (pc := 0) (j := 0) (dk d_mBo_init 0 rfl) rfl (by decide) ?_
  refine g_objinit (d := d + 0) (pc := 1) (dk d_mBo_init 1 rfl) oi_Bo_3 (by decide) (Nat.le_of_ble_eq_true rfl) ?_
  refine g_aload_n (pc := 4) (j := 0) (dk d_mBo_init 2 rfl) rfl (by decide) ?_
  refine g_bipush (pc := 5) (dk d_mBo_init 3 rfl) (by decide) ?_
  refine c_newa_int (pc := 7) (k := 31) (n2 := 32) (N := 50) (dk d_mBo_init 4 rfl) rfl rfl rfl rfl (by decide) ⟨Nat.le_of_ble_eq_true rfl, Nat.le_of_ble_eq_true rfl⟩ ?_
  refine c_putF (pc := 9) fp_Bo_11 ⟨by decide, by decide, rfl⟩ ⟨_, rfl⟩ rfl (by decide) (dk d_mBo_init 5 rfl) ?_
  refine g_aload_n (pc := 12) (j := 0) (dk d_mBo_init 6 rfl) rfl (by decide) ?_
  refine g_bipush (pc := 13) (dk d_mBo_init 7 rfl) (by decide) ?_
  refine c_newa_int (pc := 15) (k := 32) (n2 := 33) (N := 24) (dk d_mBo_init 8 rfl) rfl rfl rfl rfl (by decide) ⟨Nat.le_of_ble_eq_true rfl, Nat.le_of_ble_eq_true rfl⟩ ?_
  refine c_putF (pc := 17) fp_Bo_15 ⟨by decide, by decide, rfl⟩ ⟨_, rfl⟩ rfl (by decide) (dk d_mBo_init 9 rfl) ?_
  exact g_return (pc := 20) (dk d_mBo_init 10 rfl) (Nat.le_of_ble_eq_true rfl) (Nat.le_of_ble_eq_true rfl)
def wSh_init_34 (w : WD) : WD := (up (up (zr w 35) 34 1 (-1)) 34 2 (-1))
def rSh_init_34 (rf : WD) : WD := (up (nl rf 35) 34 0 35)
set_option maxRecDepth 100000 in
set_option maxHeartbeats 4000000 in
theorem kSh_init_34 (E : Nat × (Int → Int)) (d : Nat) (w rf : WD) : CTv E mSh_init (d + 1) [pR 34] w rf 35 (wSh_init_34 w) (rSh_init_34 rf) 36 := by
  refine CTv_of (by decide +kernel) (Nat.le_of_ble_eq_true rfl) rfl ?_
  refine g_aload_n (pc := 0) (j := 0) (dk d_mSh_init 0 rfl) rfl (by decide) ?_
  refine g_objinit (d := d + 0) (pc := 1) (dk d_mSh_init 1 rfl) oi_Sh_1 (by decide) (Nat.le_of_ble_eq_true rfl) ?_
  refine g_aload_n (pc := 4) (j := 0) (dk d_mSh_init 2 rfl) rfl (by decide) ?_
  refine g_bipush (pc := 5) (dk d_mSh_init 3 rfl) (by decide) ?_
  refine c_newa_long (pc := 7) (k := 35) (n2 := 36) (N := 60) (dk d_mSh_init 4 rfl) rfl rfl rfl rfl (by decide) ⟨Nat.le_of_ble_eq_true rfl, Nat.le_of_ble_eq_true rfl⟩ ?_
  refine c_putF (pc := 9) fp_Sh_9 ⟨by decide, by decide, rfl⟩ ⟨_, rfl⟩ rfl (by decide) (dk d_mSh_init 5 rfl) ?_
  refine g_aload_n (pc := 12) (j := 0) (dk d_mSh_init 6 rfl) rfl (by decide) ?_
  refine g_iconst (pc := 13) (dk d_mSh_init 7 rfl) (by decide) ?_
  refine g_putI (pc := 14) fp_Sh_13 ⟨by decide, by decide, rfl⟩ (dk d_mSh_init 8 rfl) ?_
  refine g_aload_n (pc := 17) (j := 0) (dk d_mSh_init 9 rfl) rfl (by decide) ?_
  refine g_iconst (pc := 18) (dk d_mSh_init 10 rfl) (by decide) ?_
  refine g_putI (pc := 19) fp_Sh_17 ⟨by decide, by decide, rfl⟩ (dk d_mSh_init 11 rfl) ?_
  exact g_return (pc := 22) (dk d_mSh_init 12 rfl) (Nat.le_of_ble_eq_true rfl) (Nat.le_of_ble_eq_true rfl)
def wSh_init_36 (w : WD) : WD := (up (up (zr w 37) 36 1 (-1)) 36 2 (-1))
def rSh_init_36 (rf : WD) : WD := (up (nl rf 37) 36 0 37)
set_option maxRecDepth 100000 in
set_option maxHeartbeats 4000000 in
theorem kSh_init_36 (E : Nat × (Int → Int)) (d : Nat) (w rf : WD) : CTv E mSh_init (d + 1) [pR 36] w rf 37 (wSh_init_36 w) (rSh_init_36 rf) 38 := by
  refine CTv_of (by decide +kernel) (Nat.le_of_ble_eq_true rfl) rfl ?_
  refine g_aload_n (pc := 0) (j := 0) (dk d_mSh_init 0 rfl) rfl (by decide) ?_
  refine g_objinit (d := d + 0) (pc := 1) (dk d_mSh_init 1 rfl) oi_Sh_1 (by decide) (Nat.le_of_ble_eq_true rfl) ?_
  refine g_aload_n (pc := 4) (j := 0) (dk d_mSh_init 2 rfl) rfl (by decide) ?_
  refine g_bipush (pc := 5) (dk d_mSh_init 3 rfl) (by decide) ?_
  refine c_newa_long (pc := 7) (k := 37) (n2 := 38) (N := 60) (dk d_mSh_init 4 rfl) rfl rfl rfl rfl (by decide) ⟨Nat.le_of_ble_eq_true rfl, Nat.le_of_ble_eq_true rfl⟩ ?_
  refine c_putF (pc := 9) fp_Sh_9 ⟨by decide, by decide, rfl⟩ ⟨_, rfl⟩ rfl (by decide) (dk d_mSh_init 5 rfl) ?_
  refine g_aload_n (pc := 12) (j := 0) (dk d_mSh_init 6 rfl) rfl (by decide) ?_
  refine g_iconst (pc := 13) (dk d_mSh_init 7 rfl) (by decide) ?_
  refine g_putI (pc := 14) fp_Sh_13 ⟨by decide, by decide, rfl⟩ (dk d_mSh_init 8 rfl) ?_
  refine g_aload_n (pc := 17) (j := 0) (dk d_mSh_init 9 rfl) rfl (by decide) ?_
  refine g_iconst (pc := 18) (dk d_mSh_init 10 rfl) (by decide) ?_
  refine g_putI (pc := 19) fp_Sh_17 ⟨by decide, by decide, rfl⟩ (dk d_mSh_init 11 rfl) ?_
  exact g_return (pc := 22) (dk d_mSh_init 12 rfl) (Nat.le_of_ble_eq_true rfl) (Nat.le_of_ble_eq_true rfl)
def wSh_init_38 (w : WD) : WD := (up (up (zr w 39) 38 1 (-1)) 38 2 (-1))
def rSh_init_38 (rf : WD) : WD := (up (nl rf 39) 38 0 39)
set_option maxRecDepth 100000 in
set_option maxHeartbeats 4000000 in
theorem kSh_init_38 (E : Nat × (Int → Int)) (d : Nat) (w rf : WD) : CTv E mSh_init (d + 1) [pR 38] w rf 39 (wSh_init_38 w) (rSh_init_38 rf) 40 := by
  refine CTv_of (by decide +kernel) (Nat.le_of_ble_eq_true rfl) rfl ?_
  refine g_aload_n (pc := 0) (j := 0) (dk d_mSh_init 0 rfl) rfl (by decide) ?_
  refine g_objinit (d := d + 0) (pc := 1) (dk d_mSh_init 1 rfl) oi_Sh_1 (by decide) (Nat.le_of_ble_eq_true rfl) ?_
  refine g_aload_n (pc := 4) (j := 0) (dk d_mSh_init 2 rfl) rfl (by decide) ?_
  refine g_bipush (pc := 5) (dk d_mSh_init 3 rfl) (by decide) ?_
  refine c_newa_long (pc := 7) (k := 39) (n2 := 40) (N := 60) (dk d_mSh_init 4 rfl) rfl rfl rfl rfl (by decide) ⟨Nat.le_of_ble_eq_true rfl, Nat.le_of_ble_eq_true rfl⟩ ?_
  refine c_putF (pc := 9) fp_Sh_9 ⟨by decide, by decide, rfl⟩ ⟨_, rfl⟩ rfl (by decide) (dk d_mSh_init 5 rfl) ?_
  refine g_aload_n (pc := 12) (j := 0) (dk d_mSh_init 6 rfl) rfl (by decide) ?_
  refine g_iconst (pc := 13) (dk d_mSh_init 7 rfl) (by decide) ?_
  refine g_putI (pc := 14) fp_Sh_13 ⟨by decide, by decide, rfl⟩ (dk d_mSh_init 8 rfl) ?_
  refine g_aload_n (pc := 17) (j := 0) (dk d_mSh_init 9 rfl) rfl (by decide) ?_
  refine g_iconst (pc := 18) (dk d_mSh_init 10 rfl) (by decide) ?_
  refine g_putI (pc := 19) fp_Sh_17 ⟨by decide, by decide, rfl⟩ (dk d_mSh_init 11 rfl) ?_
  exact g_return (pc := 22) (dk d_mSh_init 12 rfl) (Nat.le_of_ble_eq_true rfl) (Nat.le_of_ble_eq_true rfl)
def wSh_init_40 (w : WD) : WD := (up (up (zr w 41) 40 1 (-1)) 40 2 (-1))
def rSh_init_40 (rf : WD) : WD := (up (nl rf 41) 40 0 41)
set_option maxRecDepth 100000 in
set_option maxHeartbeats 4000000 in
theorem kSh_init_40 (E : Nat × (Int → Int)) (d : Nat) (w rf : WD) : CTv E mSh_init (d + 1) [pR 40] w rf 41 (wSh_init_40 w) (rSh_init_40 rf) 42 := by
  refine CTv_of (by decide +kernel) (Nat.le_of_ble_eq_true rfl) rfl ?_
  refine g_aload_n (pc := 0) (j := 0) (dk d_mSh_init 0 rfl) rfl (by decide) ?_
  refine g_objinit (d := d + 0) (pc := 1) (dk d_mSh_init 1 rfl) oi_Sh_1 (by decide) (Nat.le_of_ble_eq_true rfl) ?_
  refine g_aload_n (pc := 4) (j := 0) (dk d_mSh_init 2 rfl) rfl (by decide) ?_
  refine g_bipush (pc := 5) (dk d_mSh_init 3 rfl) (by decide) ?_
  refine c_newa_long (pc := 7) (k := 41) (n2 := 42) (N := 60) (dk d_mSh_init 4 rfl) rfl rfl rfl rfl (by decide) ⟨Nat.le_of_ble_eq_true rfl, Nat.le_of_ble_eq_true rfl⟩ ?_
  refine c_putF (pc := 9) fp_Sh_9 ⟨by decide, by decide, rfl⟩ ⟨_, rfl⟩ rfl (by decide) (dk d_mSh_init 5 rfl) ?_
  refine g_aload_n (pc := 12) (j := 0) (dk d_mSh_init 6 rfl) rfl (by decide) ?_
  refine g_iconst (pc := 13) (dk d_mSh_init 7 rfl) (by decide) ?_
  refine g_putI (pc := 14) fp_Sh_13 ⟨by decide, by decide, rfl⟩ (dk d_mSh_init 8 rfl) ?_
  refine g_aload_n (pc := 17) (j := 0) (dk d_mSh_init 9 rfl) rfl (by decide) ?_
  refine g_iconst (pc := 18) (dk d_mSh_init 10 rfl) (by decide) ?_
  refine g_putI (pc := 19) fp_Sh_17 ⟨by decide, by decide, rfl⟩ (dk d_mSh_init 11 rfl) ?_
  exact g_return (pc := 22) (dk d_mSh_init 12 rfl) (Nat.le_of_ble_eq_true rfl) (Nat.le_of_ble_eq_true rfl)
def wSh_init_42 (w : WD) : WD := (up (up (zr w 43) 42 1 (-1)) 42 2 (-1))
def rSh_init_42 (rf : WD) : WD := (up (nl rf 43) 42 0 43)
set_option maxRecDepth 100000 in
set_option maxHeartbeats 4000000 in
theorem kSh_init_42 (E : Nat × (Int → Int)) (d : Nat) (w rf : WD) : CTv E mSh_init (d + 1) [pR 42] w rf 43 (wSh_init_42 w) (rSh_init_42 rf) 44 := by
  refine CTv_of (by decide +kernel) (Nat.le_of_ble_eq_true rfl) rfl ?_
  refine g_aload_n (pc := 0) (j := 0) (dk d_mSh_init 0 rfl) rfl (by decide) ?_
  refine g_objinit (d := d + 0) (pc := 1) (dk d_mSh_init 1 rfl) oi_Sh_1 (by decide) (Nat.le_of_ble_eq_true rfl) ?_
  refine g_aload_n (pc := 4) (j := 0) (dk d_mSh_init 2 rfl) rfl (by decide) ?_
  refine g_bipush (pc := 5) (dk d_mSh_init 3 rfl) (by decide) ?_
  refine c_newa_long (pc := 7) (k := 43) (n2 := 44) (N := 60) (dk d_mSh_init 4 rfl) rfl rfl rfl rfl (by decide) ⟨Nat.le_of_ble_eq_true rfl, Nat.le_of_ble_eq_true rfl⟩ ?_
  refine c_putF (pc := 9) fp_Sh_9 ⟨by decide, by decide, rfl⟩ ⟨_, rfl⟩ rfl (by decide) (dk d_mSh_init 5 rfl) ?_
  refine g_aload_n (pc := 12) (j := 0) (dk d_mSh_init 6 rfl) rfl (by decide) ?_
  refine g_iconst (pc := 13) (dk d_mSh_init 7 rfl) (by decide) ?_
  refine g_putI (pc := 14) fp_Sh_13 ⟨by decide, by decide, rfl⟩ (dk d_mSh_init 8 rfl) ?_
  refine g_aload_n (pc := 17) (j := 0) (dk d_mSh_init 9 rfl) rfl (by decide) ?_
  refine g_iconst (pc := 18) (dk d_mSh_init 10 rfl) (by decide) ?_
  refine g_putI (pc := 19) fp_Sh_17 ⟨by decide, by decide, rfl⟩ (dk d_mSh_init 11 rfl) ?_
  exact g_return (pc := 22) (dk d_mSh_init 12 rfl) (Nat.le_of_ble_eq_true rfl) (Nat.le_of_ble_eq_true rfl)
def wSh_init_44 (w : WD) : WD := (up (up (zr w 45) 44 1 (-1)) 44 2 (-1))
def rSh_init_44 (rf : WD) : WD := (up (nl rf 45) 44 0 45)
set_option maxRecDepth 100000 in
set_option maxHeartbeats 4000000 in
theorem kSh_init_44 (E : Nat × (Int → Int)) (d : Nat) (w rf : WD) : CTv E mSh_init (d + 1) [pR 44] w rf 45 (wSh_init_44 w) (rSh_init_44 rf) 46 := by
  refine CTv_of (by decide +kernel) (Nat.le_of_ble_eq_true rfl) rfl ?_
  refine g_aload_n (pc := 0) (j := 0) (dk d_mSh_init 0 rfl) rfl (by decide) ?_
  refine g_objinit (d := d + 0) (pc := 1) (dk d_mSh_init 1 rfl) oi_Sh_1 (by decide) (Nat.le_of_ble_eq_true rfl) ?_
  refine g_aload_n (pc := 4) (j := 0) (dk d_mSh_init 2 rfl) rfl (by decide) ?_
  refine g_bipush (pc := 5) (dk d_mSh_init 3 rfl) (by decide) ?_
  refine c_newa_long (pc := 7) (k := 45) (n2 := 46) (N := 60) (dk d_mSh_init 4 rfl) rfl rfl rfl rfl (by decide) ⟨Nat.le_of_ble_eq_true rfl, Nat.le_of_ble_eq_true rfl⟩ ?_
  refine c_putF (pc := 9) fp_Sh_9 ⟨by decide, by decide, rfl⟩ ⟨_, rfl⟩ rfl (by decide) (dk d_mSh_init 5 rfl) ?_
  refine g_aload_n (pc := 12) (j := 0) (dk d_mSh_init 6 rfl) rfl (by decide) ?_
  refine g_iconst (pc := 13) (dk d_mSh_init 7 rfl) (by decide) ?_
  refine g_putI (pc := 14) fp_Sh_13 ⟨by decide, by decide, rfl⟩ (dk d_mSh_init 8 rfl) ?_
  refine g_aload_n (pc := 17) (j := 0) (dk d_mSh_init 9 rfl) rfl (by decide) ?_
  refine g_iconst (pc := 18) (dk d_mSh_init 10 rfl) (by decide) ?_
  refine g_putI (pc := 19) fp_Sh_17 ⟨by decide, by decide, rfl⟩ (dk d_mSh_init 11 rfl) ?_
  exact g_return (pc := 22) (dk d_mSh_init 12 rfl) (Nat.le_of_ble_eq_true rfl) (Nat.le_of_ble_eq_true rfl)
def wB_init_0 (w : WD) : WD := (wSh_init_44 (zr (wSh_init_42 (zr (wSh_init_40 (zr (wSh_init_38 (zr (wSh_init_36 (zr (wSh_init_34 (zr (zr (wBo_init_30 (zr (wFl_init_27 (zr (wNi_init_19 (zr (wTh_init_12 (zr (wLa_init_6 (zr (wHa_init_1 (zr w 1)) 6)) 12)) 19)) 27)) 30)) 33) 34)) 36)) 38)) 40)) 42)) 44))
def rB_init_0 (rf : WD) : WD := (up (rSh_init_44 (nl (up (rSh_init_42 (nl (up (rSh_init_40 (nl (up (rSh_init_38 (nl (up (rSh_init_36 (nl (up (rSh_init_34 (nl (up (nl (up (rBo_init_30 (nl (up (rFl_init_27 (nl (up (rNi_init_19 (nl (up (rTh_init_12 (nl (up (rLa_init_6 (nl (up (rHa_init_1 (nl rf 1)) 0 0 1) 6)) 0 1 6) 12)) 0 2 12) 19)) 0 3 19) 27)) 0 4 27) 30)) 0 6 30) 33) 0 5 33) 34)) 33 0 34) 36)) 33 1 36) 38)) 33 2 38) 40)) 33 3 40) 42)) 33 4 42) 44)) 33 5 44)
set_option maxRecDepth 100000 in
set_option maxHeartbeats 4000000 in
theorem kB_init_0 (E : Nat × (Int → Int)) (d : Nat) (w rf : WD) : CTv E mB_init (d + 2) [pR 0] w rf 1 (wB_init_0 w) (rB_init_0 rf) 46 := by
  refine CTv_of (by decide +kernel) (Nat.le_of_ble_eq_true rfl) rfl ?_
  refine g_aload_n (pc := 0) (j := 0) (dk d_mB_init 0 rfl) rfl (by decide) ?_
  refine g_objinit (d := d + 1) (pc := 1) (dk d_mB_init 1 rfl) oi_B_1 (by decide) (Nat.le_of_ble_eq_true rfl) ?_
  refine g_aload_n (pc := 4) (j := 0) (dk d_mB_init 2 rfl) rfl (by decide) ?_
  refine c_new (pc := 5) (k := 1) (n2 := 2) (dk d_mB_init 3 rfl) np_B_7 rfl rfl rfl (by decide) ⟨Nat.le_of_ble_eq_true rfl, Nat.le_of_ble_eq_true rfl⟩ ?_
  refine g_dup (pc := 8) (dk d_mB_init 4 rfl) rfl ?_
  refine g_callI (d := d + 1) (pc := 9) (na := 0) (av := []) (k0 := 1) (ci := 2) (N := 8) ⟨by decide, by decide, rfl⟩ (dk d_mB_init 5 rfl) lk_B_9 vm_mHa_init rfl (kHa_init_1 E (d + 0) _ _) rfl (Nat.le_of_ble_eq_true rfl) ⟨Nat.le_of_ble_eq_true rfl, Nat.le_of_ble_eq_true rfl⟩ ?_
  refine c_putF (pc := 12) fp_B_10 ⟨by decide, by decide, rfl⟩ ⟨_, rfl⟩ rfl (by decide) (dk d_mB_init 6 rfl) ?_
  refine g_aload_n (pc := 15) (j := 0) (dk d_mB_init 7 rfl) rfl (by decide) ?_
  refine c_new (pc := 16) (k := 6) (n2 := 7) (dk d_mB_init 8 rfl) np_B_16 rfl rfl rfl (by decide) ⟨Nat.le_of_ble_eq_true rfl, Nat.le_of_ble_eq_true rfl⟩ ?_
  refine g_dup (pc := 19) (dk d_mB_init 9 rfl) rfl ?_
  refine g_callN (d := d + 1) (pc := 20) (na := 0) (av := []) (k0 := 6) (ci := 3) (N := 10) ⟨by decide, by decide, rfl⟩ (dk d_mB_init 10 rfl) lk_B_18 vm_mLa_init rfl (kLa_init_6 E (d + 0) _ _) rfl (Nat.le_of_ble_eq_true rfl) ⟨Nat.le_of_ble_eq_true rfl, Nat.le_of_ble_eq_true rfl⟩ ?_
  refine c_putF (pc := 23) fp_B_19 ⟨by decide, by decide, rfl⟩ ⟨_, rfl⟩ rfl (by decide) (dk d_mB_init 11 rfl) ?_
  refine g_aload_n (pc := 26) (j := 0) (dk d_mB_init 12 rfl) rfl (by decide) ?_
  refine c_new (pc := 27) (k := 12) (n2 := 13) (dk d_mB_init 13 rfl) np_B_23 rfl rfl rfl (by decide) ⟨Nat.le_of_ble_eq_true rfl, Nat.le_of_ble_eq_true rfl⟩ ?_
  refine g_dup (pc := 30) (dk d_mB_init 14 rfl) rfl ?_
  refine g_aload_n (pc := 31) (j := 0) (dk d_mB_init 15 rfl) rfl (by decide) ?_
  refine g_getR (pc := 32) (a := 1) rfl fp_B_10 ⟨by decide, by decide, rfl⟩ (dk d_mB_init 16 rfl) ?_
  refine g_aload_n (pc := 35) (j := 0) (dk d_mB_init 17 rfl) rfl (by decide) ?_
  refine g_getR (pc := 36) (a := 6) rfl fp_B_19 ⟨by decide, by decide, rfl⟩ (dk d_mB_init 18 rfl) ?_
  refine g_callI (d := d + 1) (pc := 39) (na := 2) (av := [pR 1, pR 6]) (k0 := 12) (ci := 6) (N := 9) ⟨by decide, by decide, rfl⟩ (dk d_mB_init 19 rfl) lk_B_25 vm_mTh_init rfl (kTh_init_12 E (d + 0) _ _) rfl (Nat.le_of_ble_eq_true rfl) ⟨Nat.le_of_ble_eq_true rfl, Nat.le_of_ble_eq_true rfl⟩ ?_
  refine c_putF (pc := 42) fp_B_28 ⟨by decide, by decide, rfl⟩ ⟨_, rfl⟩ rfl (by decide) (dk d_mB_init 20 rfl) ?_
  refine g_aload_n (pc := 45) (j := 0) (dk d_mB_init 21 rfl) rfl (by decide) ?_
  refine c_new (pc := 46) (k := 19) (n2 := 20) (dk d_mB_init 22 rfl) np_B_32 rfl rfl rfl (by decide) ⟨Nat.le_of_ble_eq_true rfl, Nat.le_of_ble_eq_true rfl⟩ ?_
  refine g_dup (pc := 49) (dk d_mB_init 23 rfl) rfl ?_
  refine g_aload_n (pc := 50) (j := 0) (dk d_mB_init 24 rfl) rfl (by decide) ?_
  refine g_getR (pc := 51) (a := 1) rfl fp_B_10 ⟨by decide, by decide, rfl⟩ (dk d_mB_init 25 rfl) ?_
  refine g_callI (d := d + 1) (pc := 54) (na := 1) (av := [pR 1]) (k0 := 19) (ci := 4) (N := 9) ⟨by decide, by decide, rfl⟩ (dk d_mB_init 26 rfl) lk_B_34 vm_mNi_init rfl (kNi_init_19 E (d + 0) _ _) rfl (Nat.le_of_ble_eq_true rfl) ⟨Nat.le_of_ble_eq_true rfl, Nat.le_of_ble_eq_true rfl⟩ ?_
  refine c_putF (pc := 57) fp_B_37 ⟨by decide, by decide, rfl⟩ ⟨_, rfl⟩ rfl (by decide) (dk d_mB_init 27 rfl) ?_
  refine g_aload_n (pc := 60) (j := 0) (dk d_mB_init 28 rfl) rfl (by decide) ?_
  refine c_new (pc := 61) (k := 27) (n2 := 28) (dk d_mB_init 29 rfl) np_B_41 rfl rfl rfl (by decide) ⟨Nat.le_of_ble_eq_true rfl, Nat.le_of_ble_eq_true rfl⟩ ?_
  refine g_dup (pc := 64) (dk d_mB_init 30 rfl) rfl ?_
  refine g_callN (d := d + 1) (pc := 65) (na := 0) (av := []) (k0 := 27) (ci := 1) (N := 4) ⟨by decide, by decide, rfl⟩ (dk d_mB_init 31 rfl) lk_B_43 vm_mFl_init rfl (kFl_init_27 E (d + 0) _ _) rfl (Nat.le_of_ble_eq_true rfl) ⟨Nat.le_of_ble_eq_true rfl, Nat.le_of_ble_eq_true rfl⟩ ?_
  refine c_putF (pc := 68) fp_B_44 ⟨by decide, by decide, rfl⟩ ⟨_, rfl⟩ rfl (by decide) (dk d_mB_init 32 rfl) ?_
  refine g_aload_n (pc := 71) (j := 0) (dk d_mB_init 33 rfl) rfl (by decide) ?_
  refine c_new (pc := 72) (k := 30) (n2 := 31) (dk d_mB_init 34 rfl) np_B_48 rfl rfl rfl (by decide) ⟨Nat.le_of_ble_eq_true rfl, Nat.le_of_ble_eq_true rfl⟩ ?_
  refine g_dup (pc := 75) (dk d_mB_init 35 rfl) rfl ?_
  refine g_callN (d := d + 1) (pc := 76) (na := 0) (av := []) (k0 := 30) (ci := 0) (N := 5) ⟨by decide, by decide, rfl⟩ (dk d_mB_init 36 rfl) lk_B_50 vm_mBo_init rfl (kBo_init_30 E (d + 0) _ _) rfl (Nat.le_of_ble_eq_true rfl) ⟨Nat.le_of_ble_eq_true rfl, Nat.le_of_ble_eq_true rfl⟩ ?_
  refine c_putF (pc := 79) fp_B_51 ⟨by decide, by decide, rfl⟩ ⟨_, rfl⟩ rfl (by decide) (dk d_mB_init 37 rfl) ?_
  refine g_aload_n (pc := 82) (j := 0) (dk d_mB_init 38 rfl) rfl (by decide) ?_
  refine g_bipush (pc := 83) (dk d_mB_init 39 rfl) (by decide) ?_
  refine c_newq (pc := 85) (k := 33) (n2 := 34) (N := 6) (dk d_mB_init 40 rfl) cw_B_55 rfl rfl rfl rfl (by decide) ⟨Nat.le_of_ble_eq_true rfl, Nat.le_of_ble_eq_true rfl⟩ ?_
  refine c_putF (pc := 88) fp_B_57 ⟨by decide, by decide, rfl⟩ ⟨_, rfl⟩ rfl (by decide) (dk d_mB_init 41 rfl) ?_
  refine g_iconst (pc := 91) (dk d_mB_init 42 rfl) (by decide) ?_
  refine g_istore_n (pc := 92) (l' := [(1, pI 0), (0, pR 0)]) (dk d_mB_init 43 rfl) (Nat.le_of_ble_eq_true rfl) rfl ?_
  refine g_iload_n (pc := 93) (j := 0) (dk d_mB_init 44 rfl) rfl ?_
  refine g_bipush (pc := 94) (dk d_mB_init 45 rfl) (by decide) ?_
  refine g_icmp_ge (pc := 96) (tgt := 118) (dk d_mB_init 46 rfl) rfl (fun q => absurd q (by decide)) (fun _ => ?_)
  refine g_aload_n (pc := 99) (j := 1) (dk d_mB_init 47 rfl) rfl (by decide) ?_
  refine g_getR (pc := 100) (a := 33) rfl fp_B_57 ⟨by decide, by decide, rfl⟩ (dk d_mB_init 48 rfl) ?_
  refine g_iload_n (pc := 103) (j := 0) (dk d_mB_init 49 rfl) rfl ?_
  refine c_new (pc := 104) (k := 34) (n2 := 35) (dk d_mB_init 50 rfl) np_B_55 rfl rfl rfl (by decide) ⟨Nat.le_of_ble_eq_true rfl, Nat.le_of_ble_eq_true rfl⟩ ?_
  refine g_dup (pc := 107) (dk d_mB_init 51 rfl) rfl ?_
  refine g_callN (d := d + 1) (pc := 108) (na := 0) (av := []) (k0 := 34) (ci := 5) (N := 4) ⟨by decide, by decide, rfl⟩ (dk d_mB_init 52 rfl) lk_B_61 vm_mSh_init rfl (kSh_init_34 E (d + 0) _ _) rfl (Nat.le_of_ble_eq_true rfl) ⟨Nat.le_of_ble_eq_true rfl, Nat.le_of_ble_eq_true rfl⟩ ?_
  refine g_aast (pc := 111) (ci := 5) (N2 := 4) ⟨by decide, by decide, rfl⟩ ⟨by decide, by decide, rfl⟩ ⟨_, rfl⟩ (dk d_mB_init 53 rfl) (by decide) ?_
  refine g_iinc (pc := 112) (j := 0) (l' := [(1, pI 1), (0, pR 0)]) (dk d_mB_init 54 rfl) rfl (by decide) (Nat.le_of_ble_eq_true rfl) rfl ?_
  refine g_goto (pc := 115) (tgt := 93) (dk d_mB_init 55 rfl) rfl ?_
  refine g_iload_n (pc := 93) (j := 0) (dk d_mB_init 44 rfl) rfl ?_
  refine g_bipush (pc := 94) (dk d_mB_init 45 rfl) (by decide) ?_
  refine g_icmp_ge (pc := 96) (tgt := 118) (dk d_mB_init 46 rfl) rfl (fun q => absurd q (by decide)) (fun _ => ?_)
  refine g_aload_n (pc := 99) (j := 1) (dk d_mB_init 47 rfl) rfl (by decide) ?_
  refine g_getR (pc := 100) (a := 33) rfl fp_B_57 ⟨by decide, by decide, rfl⟩ (dk d_mB_init 48 rfl) ?_
  refine g_iload_n (pc := 103) (j := 0) (dk d_mB_init 49 rfl) rfl ?_
  refine c_new (pc := 104) (k := 36) (n2 := 37) (dk d_mB_init 50 rfl) np_B_55 rfl rfl rfl (by decide) ⟨Nat.le_of_ble_eq_true rfl, Nat.le_of_ble_eq_true rfl⟩ ?_
  refine g_dup (pc := 107) (dk d_mB_init 51 rfl) rfl ?_
  refine g_callN (d := d + 1) (pc := 108) (na := 0) (av := []) (k0 := 36) (ci := 5) (N := 4) ⟨by decide, by decide, rfl⟩ (dk d_mB_init 52 rfl) lk_B_61 vm_mSh_init rfl (kSh_init_36 E (d + 0) _ _) rfl (Nat.le_of_ble_eq_true rfl) ⟨Nat.le_of_ble_eq_true rfl, Nat.le_of_ble_eq_true rfl⟩ ?_
  refine g_aast (pc := 111) (ci := 5) (N2 := 4) ⟨by decide, by decide, rfl⟩ ⟨by decide, by decide, rfl⟩ ⟨_, rfl⟩ (dk d_mB_init 53 rfl) (by decide) ?_
  refine g_iinc (pc := 112) (j := 0) (l' := [(1, pI 2), (0, pR 0)]) (dk d_mB_init 54 rfl) rfl (by decide) (Nat.le_of_ble_eq_true rfl) rfl ?_
  refine g_goto (pc := 115) (tgt := 93) (dk d_mB_init 55 rfl) rfl ?_
  refine g_iload_n (pc := 93) (j := 0) (dk d_mB_init 44 rfl) rfl ?_
  refine g_bipush (pc := 94) (dk d_mB_init 45 rfl) (by decide) ?_
  refine g_icmp_ge (pc := 96) (tgt := 118) (dk d_mB_init 46 rfl) rfl (fun q => absurd q (by decide)) (fun _ => ?_)
  refine g_aload_n (pc := 99) (j := 1) (dk d_mB_init 47 rfl) rfl (by decide) ?_
  refine g_getR (pc := 100) (a := 33) rfl fp_B_57 ⟨by decide, by decide, rfl⟩ (dk d_mB_init 48 rfl) ?_
  refine g_iload_n (pc := 103) (j := 0) (dk d_mB_init 49 rfl) rfl ?_
  refine c_new (pc := 104) (k := 38) (n2 := 39) (dk d_mB_init 50 rfl) np_B_55 rfl rfl rfl (by decide) ⟨Nat.le_of_ble_eq_true rfl, Nat.le_of_ble_eq_true rfl⟩ ?_
  refine g_dup (pc := 107) (dk d_mB_init 51 rfl) rfl ?_
  refine g_callN (d := d + 1) (pc := 108) (na := 0) (av := []) (k0 := 38) (ci := 5) (N := 4) ⟨by decide, by decide, rfl⟩ (dk d_mB_init 52 rfl) lk_B_61 vm_mSh_init rfl (kSh_init_38 E (d + 0) _ _) rfl (Nat.le_of_ble_eq_true rfl) ⟨Nat.le_of_ble_eq_true rfl, Nat.le_of_ble_eq_true rfl⟩ ?_
  refine g_aast (pc := 111) (ci := 5) (N2 := 4) ⟨by decide, by decide, rfl⟩ ⟨by decide, by decide, rfl⟩ ⟨_, rfl⟩ (dk d_mB_init 53 rfl) (by decide) ?_
  refine g_iinc (pc := 112) (j := 0) (l' := [(1, pI 3), (0, pR 0)]) (dk d_mB_init 54 rfl) rfl (by decide) (Nat.le_of_ble_eq_true rfl) rfl ?_
  refine g_goto (pc := 115) (tgt := 93) (dk d_mB_init 55 rfl) rfl ?_
  refine g_iload_n (pc := 93) (j := 0) (dk d_mB_init 44 rfl) rfl ?_
  refine g_bipush (pc := 94) (dk d_mB_init 45 rfl) (by decide) ?_
  refine g_icmp_ge (pc := 96) (tgt := 118) (dk d_mB_init 46 rfl) rfl (fun q => absurd q (by decide)) (fun _ => ?_)
  refine g_aload_n (pc := 99) (j := 1) (dk d_mB_init 47 rfl) rfl (by decide) ?_
  refine g_getR (pc := 100) (a := 33) rfl fp_B_57 ⟨by decide, by decide, rfl⟩ (dk d_mB_init 48 rfl) ?_
  refine g_iload_n (pc := 103) (j := 0) (dk d_mB_init 49 rfl) rfl ?_
  refine c_new (pc := 104) (k := 40) (n2 := 41) (dk d_mB_init 50 rfl) np_B_55 rfl rfl rfl (by decide) ⟨Nat.le_of_ble_eq_true rfl, Nat.le_of_ble_eq_true rfl⟩ ?_
  refine g_dup (pc := 107) (dk d_mB_init 51 rfl) rfl ?_
  refine g_callN (d := d + 1) (pc := 108) (na := 0) (av := []) (k0 := 40) (ci := 5) (N := 4) ⟨by decide, by decide, rfl⟩ (dk d_mB_init 52 rfl) lk_B_61 vm_mSh_init rfl (kSh_init_40 E (d + 0) _ _) rfl (Nat.le_of_ble_eq_true rfl) ⟨Nat.le_of_ble_eq_true rfl, Nat.le_of_ble_eq_true rfl⟩ ?_
  refine g_aast (pc := 111) (ci := 5) (N2 := 4) ⟨by decide, by decide, rfl⟩ ⟨by decide, by decide, rfl⟩ ⟨_, rfl⟩ (dk d_mB_init 53 rfl) (by decide) ?_
  refine g_iinc (pc := 112) (j := 0) (l' := [(1, pI 4), (0, pR 0)]) (dk d_mB_init 54 rfl) rfl (by decide) (Nat.le_of_ble_eq_true rfl) rfl ?_
  refine g_goto (pc := 115) (tgt := 93) (dk d_mB_init 55 rfl) rfl ?_
  refine g_iload_n (pc := 93) (j := 0) (dk d_mB_init 44 rfl) rfl ?_
  refine g_bipush (pc := 94) (dk d_mB_init 45 rfl) (by decide) ?_
  refine g_icmp_ge (pc := 96) (tgt := 118) (dk d_mB_init 46 rfl) rfl (fun q => absurd q (by decide)) (fun _ => ?_)
  refine g_aload_n (pc := 99) (j := 1) (dk d_mB_init 47 rfl) rfl (by decide) ?_
  refine g_getR (pc := 100) (a := 33) rfl fp_B_57 ⟨by decide, by decide, rfl⟩ (dk d_mB_init 48 rfl) ?_
  refine g_iload_n (pc := 103) (j := 0) (dk d_mB_init 49 rfl) rfl ?_
  refine c_new (pc := 104) (k := 42) (n2 := 43) (dk d_mB_init 50 rfl) np_B_55 rfl rfl rfl (by decide) ⟨Nat.le_of_ble_eq_true rfl, Nat.le_of_ble_eq_true rfl⟩ ?_
  refine g_dup (pc := 107) (dk d_mB_init 51 rfl) rfl ?_
  refine g_callN (d := d + 1) (pc := 108) (na := 0) (av := []) (k0 := 42) (ci := 5) (N := 4) ⟨by decide, by decide, rfl⟩ (dk d_mB_init 52 rfl) lk_B_61 vm_mSh_init rfl (kSh_init_42 E (d + 0) _ _) rfl (Nat.le_of_ble_eq_true rfl) ⟨Nat.le_of_ble_eq_true rfl, Nat.le_of_ble_eq_true rfl⟩ ?_
  refine g_aast (pc := 111) (ci := 5) (N2 := 4) ⟨by decide, by decide, rfl⟩ ⟨by decide, by decide, rfl⟩ ⟨_, rfl⟩ (dk d_mB_init 53 rfl) (by decide) ?_
  refine g_iinc (pc := 112) (j := 0) (l' := [(1, pI 5), (0, pR 0)]) (dk d_mB_init 54 rfl) rfl (by decide) (Nat.le_of_ble_eq_true rfl) rfl ?_
  refine g_goto (pc := 115) (tgt := 93) (dk d_mB_init 55 rfl) rfl ?_
  refine g_iload_n (pc := 93) (j := 0) (dk d_mB_init 44 rfl) rfl ?_
  refine g_bipush (pc := 94) (dk d_mB_init 45 rfl) (by decide) ?_
  refine g_icmp_ge (pc := 96) (tgt := 118) (dk d_mB_init 46 rfl) rfl (fun q => absurd q (by decide)) (fun _ => ?_)
  refine g_aload_n (pc := 99) (j := 1) (dk d_mB_init 47 rfl) rfl (by decide) ?_
  refine g_getR (pc := 100) (a := 33) rfl fp_B_57 ⟨by decide, by decide, rfl⟩ (dk d_mB_init 48 rfl) ?_
  refine g_iload_n (pc := 103) (j := 0) (dk d_mB_init 49 rfl) rfl ?_
  refine c_new (pc := 104) (k := 44) (n2 := 45) (dk d_mB_init 50 rfl) np_B_55 rfl rfl rfl (by decide) ⟨Nat.le_of_ble_eq_true rfl, Nat.le_of_ble_eq_true rfl⟩ ?_
  refine g_dup (pc := 107) (dk d_mB_init 51 rfl) rfl ?_
  refine g_callN (d := d + 1) (pc := 108) (na := 0) (av := []) (k0 := 44) (ci := 5) (N := 4) ⟨by decide, by decide, rfl⟩ (dk d_mB_init 52 rfl) lk_B_61 vm_mSh_init rfl (kSh_init_44 E (d + 0) _ _) rfl (Nat.le_of_ble_eq_true rfl) ⟨Nat.le_of_ble_eq_true rfl, Nat.le_of_ble_eq_true rfl⟩ ?_
  refine g_aast (pc := 111) (ci := 5) (N2 := 4) ⟨by decide, by decide, rfl⟩ ⟨by decide, by decide, rfl⟩ ⟨_, rfl⟩ (dk d_mB_init 53 rfl) (by decide) ?_
  refine g_iinc (pc := 112) (j := 0) (l' := [(1, pI 6), (0, pR 0)]) (dk d_mB_init 54 rfl) rfl (by decide) (Nat.le_of_ble_eq_true rfl) rfl ?_
  refine g_goto (pc := 115) (tgt := 93) (dk d_mB_init 55 rfl) rfl ?_
  refine g_iload_n (pc := 93) (j := 0) (dk d_mB_init 44 rfl) rfl ?_
  refine g_bipush (pc := 94) (dk d_mB_init 45 rfl) (by decide) ?_
  refine g_icmp_ge (pc := 96) (tgt := 118) (dk d_mB_init 46 rfl) rfl (fun _ => ?_) (fun q => absurd (by decide) q)
  exact g_return (pc := 118) (dk d_mB_init 56 rfl) (Nat.le_of_ble_eq_true rfl) (Nat.le_of_ble_eq_true rfl)
def wR_init_46 (w : WD) : WD := (zr (zr (zr (up (up (up (up (up (up (zr (zr (zr (zr (zr (zr (zr (zr (zr (zr (zr (zr (zr (zr (zr (zr (zr (zr (zr (zr (zr (zr (zr (zr (zr (zr (zr (zr (zr (zr (up (up (up (up (zr (up (up (up (zr (zr (zr (zr (zr w 47) 48) 49) 50) 51) 51 0 0) 51 1 0) 51 2 0) 52) 52 0 0) 52 1 3) 52 2 30) 52 3 3) 53) 54) 55) 56) 57) 58) 59) 60) 61) 62) 63) 64) 65) 66) 67) 68) 69) 70) 71) 72) 73) 74) 75) 76) 77) 78) 79) 80) 81) 82) 82 0 (-1)) 82 1 (-1)) 82 2 (-1)) 82 3 (-1)) 82 4 (-1)) 82 5 (-1)) 83) 84) 85)
def rR_init_46 (rf : WD) : WD := (up (nl (up (nl (up (nl (up (nl (up (nl (up (nl (up (nl (up (nl (up (nl (up (nl (up (nl (up (nl (up (nl (up (nl (up (nl (up (nl (up (nl (up (nl (up (nl (up (nl (up (nl (up (nl (up (nl (up (nl (up (nl (up (nl (up (nl (up (nl (up (nl (up (nl (up (nl (up (nl (up (nl (up (nl (up (nl (up (nl (up (nl (up (nl (up (nl rf 47) 46 2 47) 48) 46 3 48) 49) 46 5 49) 50) 46 6 50) 51) 46 7 51) 52) 46 8 52) 53) 46 11 53) 54) 46 12 54) 55) 46 13 55) 56) 46 14 56) 57) 46 15 57) 58) 46 21 58) 59) 46 22 59) 60) 46 23 60) 61) 46 24 61) 62) 46 25 62) 63) 46 26 63) 64) 46 27 64) 65) 46 29 65) 66) 46 30 66) 67) 46 34 67) 68) 46 35 68) 69) 46 38 69) 70) 46 39 70) 71) 46 44 71) 72) 46 45 72) 73) 46 47 73) 74) 46 48 74) 75) 46 50 75) 76) 46 54 76) 77) 46 55 77) 78) 46 56 78) 79) 46 57 79) 80) 46 59 80) 81) 46 61 81) 82) 46 62 82) 83) 46 63 83) 84) 46 64 84) 85) 46 65 85)
set_option maxRecDepth 100000 in
set_option maxHeartbeats 4000000 in
theorem kR_init_46 (E : Nat × (Int → Int)) (d : Nat) (w rf : WD) : CTv E mR_init (d + 1) [pR 46] w rf 47 (wR_init_46 w) (rR_init_46 rf) 86 := by
  refine CTv_of (by decide +kernel) (Nat.le_of_ble_eq_true rfl) rfl ?_
  refine g_aload_n (pc := 0) (j := 0) (dk d_mR_init 0 rfl) rfl (by decide) ?_
  refine g_objinit (d := d + 0) (pc := 1) (dk d_mR_init 1 rfl) oi_R_3 (by decide) (Nat.le_of_ble_eq_true rfl) ?_
  refine g_aload_n (pc := 4) (j := 0) (dk d_mR_init 2 rfl) rfl (by decide) ?_
  refine g_bipush (pc := 5) (dk d_mR_init 3 rfl) (by decide) ?_
  refine c_newa_int (pc := 7) (k := 47) (n2 := 48) (N := 18) (dk d_mR_init 4 rfl) rfl rfl rfl rfl (by decide) ⟨Nat.le_of_ble_eq_true rfl, Nat.le_of_ble_eq_true rfl⟩ ?_
  refine c_putF (pc := 9) fp_R_9 ⟨by decide, by decide, rfl⟩ ⟨_, rfl⟩ rfl (by decide) (dk d_mR_init 5 rfl) ?_
  refine g_aload_n (pc := 12) (j := 0) (dk d_mR_init 6 rfl) rfl (by decide) ?_
  refine g_bipush (pc := 13) (dk d_mR_init 7 rfl) (by decide) ?_
  refine c_newa_int (pc := 15) (k := 48) (n2 := 49) (N := 6) (dk d_mR_init 8 rfl) rfl rfl rfl rfl (by decide) ⟨Nat.le_of_ble_eq_true rfl, Nat.le_of_ble_eq_true rfl⟩ ?_
  refine c_putF (pc := 17) fp_R_15 ⟨by decide, by decide, rfl⟩ ⟨_, rfl⟩ rfl (by decide) (dk d_mR_init 9 rfl) ?_
  refine g_aload_n (pc := 20) (j := 0) (dk d_mR_init 10 rfl) rfl (by decide) ?_
  refine g_bipush (pc := 21) (dk d_mR_init 11 rfl) (by decide) ?_
  refine c_newa_int (pc := 23) (k := 49) (n2 := 50) (N := 15) (dk d_mR_init 12 rfl) rfl rfl rfl rfl (by decide) ⟨Nat.le_of_ble_eq_true rfl, Nat.le_of_ble_eq_true rfl⟩ ?_
  refine c_putF (pc := 25) fp_R_18 ⟨by decide, by decide, rfl⟩ ⟨_, rfl⟩ rfl (by decide) (dk d_mR_init 13 rfl) ?_
  refine g_aload_n (pc := 28) (j := 0) (dk d_mR_init 14 rfl) rfl (by decide) ?_
  refine g_iconst (pc := 29) (dk d_mR_init 15 rfl) (by decide) ?_
  refine c_newa_int (pc := 30) (k := 50) (n2 := 51) (N := 5) (dk d_mR_init 16 rfl) rfl rfl rfl rfl (by decide) ⟨Nat.le_of_ble_eq_true rfl, Nat.le_of_ble_eq_true rfl⟩ ?_
  refine c_putF (pc := 32) fp_R_21 ⟨by decide, by decide, rfl⟩ ⟨_, rfl⟩ rfl (by decide) (dk d_mR_init 17 rfl) ?_
  refine g_aload_n (pc := 35) (j := 0) (dk d_mR_init 18 rfl) rfl (by decide) ?_
  refine g_iconst (pc := 36) (dk d_mR_init 19 rfl) (by decide) ?_
  refine c_newa_int (pc := 37) (k := 51) (n2 := 52) (N := 3) (dk d_mR_init 20 rfl) rfl rfl rfl rfl (by decide) ⟨Nat.le_of_ble_eq_true rfl, Nat.le_of_ble_eq_true rfl⟩ ?_
  refine g_dup (pc := 39) (dk d_mR_init 21 rfl) rfl ?_
  refine g_iconst (pc := 40) (dk d_mR_init 22 rfl) (by decide) ?_
  refine g_iconst (pc := 41) (dk d_mR_init 23 rfl) (by decide) ?_
  refine g_iast (pc := 42) ⟨by decide, by decide, rfl⟩ (dk d_mR_init 24 rfl) (by decide) ?_
  refine g_dup (pc := 43) (dk d_mR_init 25 rfl) rfl ?_
  refine g_iconst (pc := 44) (dk d_mR_init 26 rfl) (by decide) ?_
  refine g_iconst (pc := 45) (dk d_mR_init 27 rfl) (by decide) ?_
  refine g_iast (pc := 46) ⟨by decide, by decide, rfl⟩ (dk d_mR_init 28 rfl) (by decide) ?_
  refine g_dup (pc := 47) (dk d_mR_init 29 rfl) rfl ?_
  refine g_iconst (pc := 48) (dk d_mR_init 30 rfl) (by decide) ?_
  refine g_iconst (pc := 49) (dk d_mR_init 31 rfl) (by decide) ?_
  refine g_iast (pc := 50) ⟨by decide, by decide, rfl⟩ (dk d_mR_init 32 rfl) (by decide) ?_
  refine c_putF (pc := 51) fp_R_24 ⟨by decide, by decide, rfl⟩ ⟨_, rfl⟩ rfl (by decide) (dk d_mR_init 33 rfl) ?_
  refine g_aload_n (pc := 54) (j := 0) (dk d_mR_init 34 rfl) rfl (by decide) ?_
  refine g_iconst (pc := 55) (dk d_mR_init 35 rfl) (by decide) ?_
  refine c_newa_int (pc := 56) (k := 52) (n2 := 53) (N := 4) (dk d_mR_init 36 rfl) rfl rfl rfl rfl (by decide) ⟨Nat.le_of_ble_eq_true rfl, Nat.le_of_ble_eq_true rfl⟩ ?_
  refine g_dup (pc := 58) (dk d_mR_init 37 rfl) rfl ?_
  refine g_iconst (pc := 59) (dk d_mR_init 38 rfl) (by decide) ?_
  refine g_iconst (pc := 60) (dk d_mR_init 39 rfl) (by decide) ?_
  refine g_iast (pc := 61) ⟨by decide, by decide, rfl⟩ (dk d_mR_init 40 rfl) (by decide) ?_
  refine g_dup (pc := 62) (dk d_mR_init 41 rfl) rfl ?_
  refine g_iconst (pc := 63) (dk d_mR_init 42 rfl) (by decide) ?_
  refine g_iconst (pc := 64) (dk d_mR_init 43 rfl) (by decide) ?_
  refine g_iast (pc := 65) ⟨by decide, by decide, rfl⟩ (dk d_mR_init 44 rfl) (by decide) ?_
  refine g_dup (pc := 66) (dk d_mR_init 45 rfl) rfl ?_
  refine g_iconst (pc := 67) (dk d_mR_init 46 rfl) (by decide) ?_
  refine g_bipush (pc := 68) (dk d_mR_init 47 rfl) (by decide) ?_
  refine g_iast (pc := 70) ⟨by decide, by decide, rfl⟩ (dk d_mR_init 48 rfl) (by decide) ?_
  refine g_dup (pc := 71) (dk d_mR_init 49 rfl) rfl ?_
  refine g_iconst (pc := 72) (dk d_mR_init 50 rfl) (by decide) ?_
  refine g_iconst (pc := 73) (dk d_mR_init 51 rfl) (by decide) ?_
  refine g_iast (pc := 74) ⟨by decide, by decide, rfl⟩ (dk d_mR_init 52 rfl) (by decide) ?_
  refine c_putF (pc := 75) fp_R_27 ⟨by decide, by decide, rfl⟩ ⟨_, rfl⟩ rfl (by decide) (dk d_mR_init 53 rfl) ?_
  refine g_aload_n (pc := 78) (j := 0) (dk d_mR_init 54 rfl) rfl (by decide) ?_
  refine g_bipush (pc := 79) (dk d_mR_init 55 rfl) (by decide) ?_
  refine c_newa_int (pc := 81) (k := 53) (n2 := 54) (N := 40) (dk d_mR_init 56 rfl) rfl rfl rfl rfl (by decide) ⟨Nat.le_of_ble_eq_true rfl, Nat.le_of_ble_eq_true rfl⟩ ?_
  refine c_putF (pc := 83) fp_R_30 ⟨by decide, by decide, rfl⟩ ⟨_, rfl⟩ rfl (by decide) (dk d_mR_init 57 rfl) ?_
  refine g_aload_n (pc := 86) (j := 0) (dk d_mR_init 58 rfl) rfl (by decide) ?_
  refine g_bipush (pc := 87) (dk d_mR_init 59 rfl) (by decide) ?_
  refine c_newa_int (pc := 89) (k := 54) (n2 := 55) (N := 40) (dk d_mR_init 60 rfl) rfl rfl rfl rfl (by decide) ⟨Nat.le_of_ble_eq_true rfl, Nat.le_of_ble_eq_true rfl⟩ ?_
  refine c_putF (pc := 91) fp_R_33 ⟨by decide, by decide, rfl⟩ ⟨_, rfl⟩ rfl (by decide) (dk d_mR_init 61 rfl) ?_
  refine g_aload_n (pc := 94) (j := 0) (dk d_mR_init 62 rfl) rfl (by decide) ?_
  refine g_bipush (pc := 95) (dk d_mR_init 63 rfl) (by decide) ?_
  refine c_newa_int (pc := 97) (k := 55) (n2 := 56) (N := 40) (dk d_mR_init 64 rfl) rfl rfl rfl rfl (by decide) ⟨Nat.le_of_ble_eq_true rfl, Nat.le_of_ble_eq_true rfl⟩ ?_
  refine c_putF (pc := 99) fp_R_36 ⟨by decide, by decide, rfl⟩ ⟨_, rfl⟩ rfl (by decide) (dk d_mR_init 65 rfl) ?_
  refine g_aload_n (pc := 102) (j := 0) (dk d_mR_init 66 rfl) rfl (by decide) ?_
  refine g_bipush (pc := 103) (dk d_mR_init 67 rfl) (by decide) ?_
  refine c_newa_int (pc := 105) (k := 56) (n2 := 57) (N := 40) (dk d_mR_init 68 rfl) rfl rfl rfl rfl (by decide) ⟨Nat.le_of_ble_eq_true rfl, Nat.le_of_ble_eq_true rfl⟩ ?_
  refine c_putF (pc := 107) fp_R_39 ⟨by decide, by decide, rfl⟩ ⟨_, rfl⟩ rfl (by decide) (dk d_mR_init 69 rfl) ?_
  refine g_aload_n (pc := 110) (j := 0) (dk d_mR_init 70 rfl) rfl (by decide) ?_
  refine g_bipush (pc := 111) (dk d_mR_init 71 rfl) (by decide) ?_
  refine c_newa_byte (pc := 113) (k := 57) (n2 := 58) (N := 120) (dk d_mR_init 72 rfl) rfl rfl rfl rfl (by decide) ⟨Nat.le_of_ble_eq_true rfl, Nat.le_of_ble_eq_true rfl⟩ ?_
  refine c_putF (pc := 115) fp_R_42 ⟨by decide, by decide, rfl⟩ ⟨_, rfl⟩ rfl (by decide) (dk d_mR_init 73 rfl) ?_
  refine g_aload_n (pc := 118) (j := 0) (dk d_mR_init 74 rfl) rfl (by decide) ?_
  refine g_sipush (pc := 119) (dk d_mR_init 75 rfl) (by decide) ?_
  refine c_newa_byte (pc := 122) (k := 58) (n2 := 59) (N := 260) (dk d_mR_init 76 rfl) rfl rfl rfl rfl (by decide) ⟨Nat.le_of_ble_eq_true rfl, Nat.le_of_ble_eq_true rfl⟩ ?_
  refine c_putF (pc := 124) fp_R_46 ⟨by decide, by decide, rfl⟩ ⟨_, rfl⟩ rfl (by decide) (dk d_mR_init 77 rfl) ?_
  refine g_aload_n (pc := 127) (j := 0) (dk d_mR_init 78 rfl) rfl (by decide) ?_
  refine g_sipush (pc := 128) (dk d_mR_init 79 rfl) (by decide) ?_
  refine c_newa_int (pc := 131) (k := 59) (n2 := 60) (N := 260) (dk d_mR_init 80 rfl) rfl rfl rfl rfl (by decide) ⟨Nat.le_of_ble_eq_true rfl, Nat.le_of_ble_eq_true rfl⟩ ?_
  refine c_putF (pc := 133) fp_R_49 ⟨by decide, by decide, rfl⟩ ⟨_, rfl⟩ rfl (by decide) (dk d_mR_init 81 rfl) ?_
  refine g_aload_n (pc := 136) (j := 0) (dk d_mR_init 82 rfl) rfl (by decide) ?_
  refine g_iconst (pc := 137) (dk d_mR_init 83 rfl) (by decide) ?_
  refine c_newa_int (pc := 138) (k := 60) (n2 := 61) (N := 2) (dk d_mR_init 84 rfl) rfl rfl rfl rfl (by decide) ⟨Nat.le_of_ble_eq_true rfl, Nat.le_of_ble_eq_true rfl⟩ ?_
  refine c_putF (pc := 140) fp_R_52 ⟨by decide, by decide, rfl⟩ ⟨_, rfl⟩ rfl (by decide) (dk d_mR_init 85 rfl) ?_
  refine g_aload_n (pc := 143) (j := 0) (dk d_mR_init 86 rfl) rfl (by decide) ?_
  refine g_bipush (pc := 144) (dk d_mR_init 87 rfl) (by decide) ?_
  refine c_newa_short (pc := 146) (k := 61) (n2 := 62) (N := 122) (dk d_mR_init 88 rfl) rfl rfl rfl rfl (by decide) ⟨Nat.le_of_ble_eq_true rfl, Nat.le_of_ble_eq_true rfl⟩ ?_
  refine c_putF (pc := 148) fp_R_55 ⟨by decide, by decide, rfl⟩ ⟨_, rfl⟩ rfl (by decide) (dk d_mR_init 89 rfl) ?_
  refine g_aload_n (pc := 151) (j := 0) (dk d_mR_init 90 rfl) rfl (by decide) ?_
  refine g_bipush (pc := 152) (dk d_mR_init 91 rfl) (by decide) ?_
  refine c_newa_short (pc := 154) (k := 62) (n2 := 63) (N := 122) (dk d_mR_init 92 rfl) rfl rfl rfl rfl (by decide) ⟨Nat.le_of_ble_eq_true rfl, Nat.le_of_ble_eq_true rfl⟩ ?_
  refine c_putF (pc := 156) fp_R_59 ⟨by decide, by decide, rfl⟩ ⟨_, rfl⟩ rfl (by decide) (dk d_mR_init 93 rfl) ?_
  refine g_aload_n (pc := 159) (j := 0) (dk d_mR_init 94 rfl) rfl (by decide) ?_
  refine g_bipush (pc := 160) (dk d_mR_init 95 rfl) (by decide) ?_
  refine c_newa_int (pc := 162) (k := 63) (n2 := 64) (N := 6) (dk d_mR_init 96 rfl) rfl rfl rfl rfl (by decide) ⟨Nat.le_of_ble_eq_true rfl, Nat.le_of_ble_eq_true rfl⟩ ?_
  refine c_putF (pc := 164) fp_R_62 ⟨by decide, by decide, rfl⟩ ⟨_, rfl⟩ rfl (by decide) (dk d_mR_init 97 rfl) ?_
  refine g_aload_n (pc := 167) (j := 0) (dk d_mR_init 98 rfl) rfl (by decide) ?_
  refine g_sipush (pc := 168) (dk d_mR_init 99 rfl) (by decide) ?_
  refine c_newa_int (pc := 171) (k := 64) (n2 := 65) (N := 130) (dk d_mR_init 100 rfl) rfl rfl rfl rfl (by decide) ⟨Nat.le_of_ble_eq_true rfl, Nat.le_of_ble_eq_true rfl⟩ ?_
  refine c_putF (pc := 173) fp_R_65 ⟨by decide, by decide, rfl⟩ ⟨_, rfl⟩ rfl (by decide) (dk d_mR_init 101 rfl) ?_
  refine g_aload_n (pc := 176) (j := 0) (dk d_mR_init 102 rfl) rfl (by decide) ?_
  refine g_bipush (pc := 177) (dk d_mR_init 103 rfl) (by decide) ?_
  refine c_newa_long (pc := 179) (k := 65) (n2 := 66) (N := 35) (dk d_mR_init 104 rfl) rfl rfl rfl rfl (by decide) ⟨Nat.le_of_ble_eq_true rfl, Nat.le_of_ble_eq_true rfl⟩ ?_
  refine c_putF (pc := 181) fp_R_68 ⟨by decide, by decide, rfl⟩ ⟨_, rfl⟩ rfl (by decide) (dk d_mR_init 105 rfl) ?_
  refine g_aload_n (pc := 184) (j := 0) (dk d_mR_init 106 rfl) rfl (by decide) ?_
  refine g_iconst (pc := 185) (dk d_mR_init 107 rfl) (by decide) ?_
  refine c_newa_int (pc := 186) (k := 66) (n2 := 67) (N := 5) (dk d_mR_init 108 rfl) rfl rfl rfl rfl (by decide) ⟨Nat.le_of_ble_eq_true rfl, Nat.le_of_ble_eq_true rfl⟩ ?_
  refine c_putF (pc := 188) fp_R_72 ⟨by decide, by decide, rfl⟩ ⟨_, rfl⟩ rfl (by decide) (dk d_mR_init 109 rfl) ?_
  refine g_aload_n (pc := 191) (j := 0) (dk d_mR_init 110 rfl) rfl (by decide) ?_
  refine g_iconst (pc := 192) (dk d_mR_init 111 rfl) (by decide) ?_
  refine c_newa_int (pc := 193) (k := 67) (n2 := 68) (N := 5) (dk d_mR_init 112 rfl) rfl rfl rfl rfl (by decide) ⟨Nat.le_of_ble_eq_true rfl, Nat.le_of_ble_eq_true rfl⟩ ?_
  refine c_putF (pc := 195) fp_R_75 ⟨by decide, by decide, rfl⟩ ⟨_, rfl⟩ rfl (by decide) (dk d_mR_init 113 rfl) ?_
  refine g_aload_n (pc := 198) (j := 0) (dk d_mR_init 114 rfl) rfl (by decide) ?_
  refine g_bipush (pc := 199) (dk d_mR_init 115 rfl) (by decide) ?_
  refine c_newa_long (pc := 201) (k := 68) (n2 := 69) (N := 35) (dk d_mR_init 116 rfl) rfl rfl rfl rfl (by decide) ⟨Nat.le_of_ble_eq_true rfl, Nat.le_of_ble_eq_true rfl⟩ ?_
  refine c_putF (pc := 203) fp_R_78 ⟨by decide, by decide, rfl⟩ ⟨_, rfl⟩ rfl (by decide) (dk d_mR_init 117 rfl) ?_
  refine g_aload_n (pc := 206) (j := 0) (dk d_mR_init 118 rfl) rfl (by decide) ?_
  refine g_iconst (pc := 207) (dk d_mR_init 119 rfl) (by decide) ?_
  refine c_newa_int (pc := 208) (k := 69) (n2 := 70) (N := 5) (dk d_mR_init_1 0 rfl) rfl rfl rfl rfl (by decide) ⟨Nat.le_of_ble_eq_true rfl, Nat.le_of_ble_eq_true rfl⟩ ?_
  refine c_putF (pc := 210) fp_R_81 ⟨by decide, by decide, rfl⟩ ⟨_, rfl⟩ rfl (by decide) (dk d_mR_init_1 1 rfl) ?_
  refine g_aload_n (pc := 213) (j := 0) (dk d_mR_init_1 2 rfl) rfl (by decide) ?_
  refine g_iconst (pc := 214) (dk d_mR_init_1 3 rfl) (by decide) ?_
  refine c_newa_int (pc := 215) (k := 70) (n2 := 71) (N := 5) (dk d_mR_init_1 4 rfl) rfl rfl rfl rfl (by decide) ⟨Nat.le_of_ble_eq_true rfl, Nat.le_of_ble_eq_true rfl⟩ ?_
  refine c_putF (pc := 217) fp_R_84 ⟨by decide, by decide, rfl⟩ ⟨_, rfl⟩ rfl (by decide) (dk d_mR_init_1 5 rfl) ?_
  refine g_aload_n (pc := 220) (j := 0) (dk d_mR_init_1 6 rfl) rfl (by decide) ?_
  refine g_iconst (pc := 221) (dk d_mR_init_1 7 rfl) (by decide) ?_
  refine c_newa_int (pc := 222) (k := 71) (n2 := 72) (N := 5) (dk d_mR_init_1 8 rfl) rfl rfl rfl rfl (by decide) ⟨Nat.le_of_ble_eq_true rfl, Nat.le_of_ble_eq_true rfl⟩ ?_
  refine c_putF (pc := 224) fp_R_87 ⟨by decide, by decide, rfl⟩ ⟨_, rfl⟩ rfl (by decide) (dk d_mR_init_1 9 rfl) ?_
  refine g_aload_n (pc := 227) (j := 0) (dk d_mR_init_1 10 rfl) rfl (by decide) ?_
  refine g_bipush (pc := 228) (dk d_mR_init_1 11 rfl) (by decide) ?_
  refine c_newa_int (pc := 230) (k := 72) (n2 := 73) (N := 25) (dk d_mR_init_1 12 rfl) rfl rfl rfl rfl (by decide) ⟨Nat.le_of_ble_eq_true rfl, Nat.le_of_ble_eq_true rfl⟩ ?_
  refine c_putF (pc := 232) fp_R_90 ⟨by decide, by decide, rfl⟩ ⟨_, rfl⟩ rfl (by decide) (dk d_mR_init_1 13 rfl) ?_
  refine g_aload_n (pc := 235) (j := 0) (dk d_mR_init_1 14 rfl) rfl (by decide) ?_
  refine g_iconst (pc := 236) (dk d_mR_init_1 15 rfl) (by decide) ?_
  refine c_newa_int (pc := 237) (k := 73) (n2 := 74) (N := 5) (dk d_mR_init_1 16 rfl) rfl rfl rfl rfl (by decide) ⟨Nat.le_of_ble_eq_true rfl, Nat.le_of_ble_eq_true rfl⟩ ?_
  refine c_putF (pc := 239) fp_R_93 ⟨by decide, by decide, rfl⟩ ⟨_, rfl⟩ rfl (by decide) (dk d_mR_init_1 17 rfl) ?_
  refine g_aload_n (pc := 242) (j := 0) (dk d_mR_init_1 18 rfl) rfl (by decide) ?_
  refine g_iconst (pc := 243) (dk d_mR_init_1 19 rfl) (by decide) ?_
  refine c_newa_boolean (pc := 244) (k := 74) (n2 := 75) (N := 5) (dk d_mR_init_1 20 rfl) rfl rfl rfl rfl (by decide) ⟨Nat.le_of_ble_eq_true rfl, Nat.le_of_ble_eq_true rfl⟩ ?_
  refine c_putF (pc := 246) fp_R_96 ⟨by decide, by decide, rfl⟩ ⟨_, rfl⟩ rfl (by decide) (dk d_mR_init_1 21 rfl) ?_
  refine g_aload_n (pc := 249) (j := 0) (dk d_mR_init_1 22 rfl) rfl (by decide) ?_
  refine g_iconst (pc := 250) (dk d_mR_init_1 23 rfl) (by decide) ?_
  refine c_newa_int (pc := 251) (k := 75) (n2 := 76) (N := 4) (dk d_mR_init_1 24 rfl) rfl rfl rfl rfl (by decide) ⟨Nat.le_of_ble_eq_true rfl, Nat.le_of_ble_eq_true rfl⟩ ?_
  refine c_putF (pc := 253) fp_R_100 ⟨by decide, by decide, rfl⟩ ⟨_, rfl⟩ rfl (by decide) (dk d_mR_init_1 25 rfl) ?_
  refine g_aload_n (pc := 256) (j := 0) (dk d_mR_init_1 26 rfl) rfl (by decide) ?_
  refine g_bipush (pc := 257) (dk d_mR_init_1 27 rfl) (by decide) ?_
  refine c_newa_int (pc := 259) (k := 76) (n2 := 77) (N := 15) (dk d_mR_init_1 28 rfl) rfl rfl rfl rfl (by decide) ⟨Nat.le_of_ble_eq_true rfl, Nat.le_of_ble_eq_true rfl⟩ ?_
  refine c_putF (pc := 261) fp_R_103 ⟨by decide, by decide, rfl⟩ ⟨_, rfl⟩ rfl (by decide) (dk d_mR_init_1 29 rfl) ?_
  refine g_aload_n (pc := 264) (j := 0) (dk d_mR_init_1 30 rfl) rfl (by decide) ?_
  refine g_iconst (pc := 265) (dk d_mR_init_1 31 rfl) (by decide) ?_
  refine c_newa_int (pc := 266) (k := 77) (n2 := 78) (N := 5) (dk d_mR_init_1 32 rfl) rfl rfl rfl rfl (by decide) ⟨Nat.le_of_ble_eq_true rfl, Nat.le_of_ble_eq_true rfl⟩ ?_
  refine c_putF (pc := 268) fp_R_106 ⟨by decide, by decide, rfl⟩ ⟨_, rfl⟩ rfl (by decide) (dk d_mR_init_1 33 rfl) ?_
  refine g_aload_n (pc := 271) (j := 0) (dk d_mR_init_1 34 rfl) rfl (by decide) ?_
  refine g_iconst (pc := 272) (dk d_mR_init_1 35 rfl) (by decide) ?_
  refine c_newa_boolean (pc := 273) (k := 78) (n2 := 79) (N := 5) (dk d_mR_init_1 36 rfl) rfl rfl rfl rfl (by decide) ⟨Nat.le_of_ble_eq_true rfl, Nat.le_of_ble_eq_true rfl⟩ ?_
  refine c_putF (pc := 275) fp_R_109 ⟨by decide, by decide, rfl⟩ ⟨_, rfl⟩ rfl (by decide) (dk d_mR_init_1 37 rfl) ?_
  refine g_aload_n (pc := 278) (j := 0) (dk d_mR_init_1 38 rfl) rfl (by decide) ?_
  refine g_iconst (pc := 279) (dk d_mR_init_1 39 rfl) (by decide) ?_
  refine c_newa_int (pc := 280) (k := 79) (n2 := 80) (N := 4) (dk d_mR_init_1 40 rfl) rfl rfl rfl rfl (by decide) ⟨Nat.le_of_ble_eq_true rfl, Nat.le_of_ble_eq_true rfl⟩ ?_
  refine c_putF (pc := 282) fp_R_112 ⟨by decide, by decide, rfl⟩ ⟨_, rfl⟩ rfl (by decide) (dk d_mR_init_1 41 rfl) ?_
  refine g_aload_n (pc := 285) (j := 0) (dk d_mR_init_1 42 rfl) rfl (by decide) ?_
  refine g_bipush (pc := 286) (dk d_mR_init_1 43 rfl) (by decide) ?_
  refine c_newa_int (pc := 288) (k := 80) (n2 := 81) (N := 50) (dk d_mR_init_1 44 rfl) rfl rfl rfl rfl (by decide) ⟨Nat.le_of_ble_eq_true rfl, Nat.le_of_ble_eq_true rfl⟩ ?_
  refine c_putF (pc := 290) fp_R_115 ⟨by decide, by decide, rfl⟩ ⟨_, rfl⟩ rfl (by decide) (dk d_mR_init_1 45 rfl) ?_
  refine g_aload_n (pc := 293) (j := 0) (dk d_mR_init_1 46 rfl) rfl (by decide) ?_
  refine g_bipush (pc := 294) (dk d_mR_init_1 47 rfl) (by decide) ?_
  refine c_newa_int (pc := 296) (k := 81) (n2 := 82) (N := 24) (dk d_mR_init_1 48 rfl) rfl rfl rfl rfl (by decide) ⟨Nat.le_of_ble_eq_true rfl, Nat.le_of_ble_eq_true rfl⟩ ?_
  refine c_putF (pc := 298) fp_R_118 ⟨by decide, by decide, rfl⟩ ⟨_, rfl⟩ rfl (by decide) (dk d_mR_init_1 49 rfl) ?_
  refine g_aload_n (pc := 301) (j := 0) (dk d_mR_init_1 50 rfl) rfl (by decide) ?_
  refine g_bipush (pc := 302) (dk d_mR_init_1 51 rfl) (by decide) ?_
  refine c_newa_int (pc := 304) (k := 82) (n2 := 83) (N := 6) (dk d_mR_init_1 52 rfl) rfl rfl rfl rfl (by decide) ⟨Nat.le_of_ble_eq_true rfl, Nat.le_of_ble_eq_true rfl⟩ ?_
  refine g_dup (pc := 306) (dk d_mR_init_1 53 rfl) rfl ?_
  refine g_iconst (pc := 307) (dk d_mR_init_1 54 rfl) (by decide) ?_
  refine g_iconst (pc := 308) (dk d_mR_init_1 55 rfl) (by decide) ?_
  refine g_iast (pc := 309) ⟨by decide, by decide, rfl⟩ (dk d_mR_init_1 56 rfl) (by decide) ?_
  refine g_dup (pc := 310) (dk d_mR_init_1 57 rfl) rfl ?_
  refine g_iconst (pc := 311) (dk d_mR_init_1 58 rfl) (by decide) ?_
  refine g_iconst (pc := 312) (dk d_mR_init_1 59 rfl) (by decide) ?_
  refine g_iast (pc := 313) ⟨by decide, by decide, rfl⟩ (dk d_mR_init_1 60 rfl) (by decide) ?_
  refine g_dup (pc := 314) (dk d_mR_init_1 61 rfl) rfl ?_
  refine g_iconst (pc := 315) (dk d_mR_init_1 62 rfl) (by decide) ?_
  refine g_iconst (pc := 316) (dk d_mR_init_1 63 rfl) (by decide) ?_
  refine g_iast (pc := 317) ⟨by decide, by decide, rfl⟩ (dk d_mR_init_1 64 rfl) (by decide) ?_
  refine g_dup (pc := 318) (dk d_mR_init_1 65 rfl) rfl ?_
  refine g_iconst (pc := 319) (dk d_mR_init_1 66 rfl) (by decide) ?_
  refine g_iconst (pc := 320) (dk d_mR_init_1 67 rfl) (by decide) ?_
  refine g_iast (pc := 321) ⟨by decide, by decide, rfl⟩ (dk d_mR_init_1 68 rfl) (by decide) ?_
  refine g_dup (pc := 322) (dk d_mR_init_1 69 rfl) rfl ?_
  refine g_iconst (pc := 323) (dk d_mR_init_1 70 rfl) (by decide) ?_
  refine g_iconst (pc := 324) (dk d_mR_init_1 71 rfl) (by decide) ?_
  refine g_iast (pc := 325) ⟨by decide, by decide, rfl⟩ (dk d_mR_init_1 72 rfl) (by decide) ?_
  refine g_dup (pc := 326) (dk d_mR_init_1 73 rfl) rfl ?_
  refine g_iconst (pc := 327) (dk d_mR_init_1 74 rfl) (by decide) ?_
  refine g_iconst (pc := 328) (dk d_mR_init_1 75 rfl) (by decide) ?_
  refine g_iast (pc := 329) ⟨by decide, by decide, rfl⟩ (dk d_mR_init_1 76 rfl) (by decide) ?_
  refine c_putF (pc := 330) fp_R_121 ⟨by decide, by decide, rfl⟩ ⟨_, rfl⟩ rfl (by decide) (dk d_mR_init_1 77 rfl) ?_
  refine g_aload_n (pc := 333) (j := 0) (dk d_mR_init_1 78 rfl) rfl (by decide) ?_
  refine g_bipush (pc := 334) (dk d_mR_init_1 79 rfl) (by decide) ?_
  refine c_newa_int (pc := 336) (k := 83) (n2 := 84) (N := 6) (dk d_mR_init_1 80 rfl) rfl rfl rfl rfl (by decide) ⟨Nat.le_of_ble_eq_true rfl, Nat.le_of_ble_eq_true rfl⟩ ?_
  refine c_putF (pc := 338) fp_R_124 ⟨by decide, by decide, rfl⟩ ⟨_, rfl⟩ rfl (by decide) (dk d_mR_init_1 81 rfl) ?_
  refine g_aload_n (pc := 341) (j := 0) (dk d_mR_init_1 82 rfl) rfl (by decide) ?_
  refine g_sipush (pc := 342) (dk d_mR_init_1 83 rfl) (by decide) ?_
  refine c_newa_long (pc := 345) (k := 84) (n2 := 85) (N := 360) (dk d_mR_init_1 84 rfl) rfl rfl rfl rfl (by decide) ⟨Nat.le_of_ble_eq_true rfl, Nat.le_of_ble_eq_true rfl⟩ ?_
  refine c_putF (pc := 347) fp_R_127 ⟨by decide, by decide, rfl⟩ ⟨_, rfl⟩ rfl (by decide) (dk d_mR_init_1 85 rfl) ?_
  refine g_aload_n (pc := 350) (j := 0) (dk d_mR_init_1 86 rfl) rfl (by decide) ?_
  refine g_bipush (pc := 351) (dk d_mR_init_1 87 rfl) (by decide) ?_
  refine c_newa_long (pc := 353) (k := 85) (n2 := 86) (N := 60) (dk d_mR_init_1 88 rfl) rfl rfl rfl rfl (by decide) ⟨Nat.le_of_ble_eq_true rfl, Nat.le_of_ble_eq_true rfl⟩ ?_
  refine c_putF (pc := 355) fp_R_130 ⟨by decide, by decide, rfl⟩ ⟨_, rfl⟩ rfl (by decide) (dk d_mR_init_1 89 rfl) ?_
  exact g_return (pc := 358) (dk d_mR_init_1 90 rfl) (Nat.le_of_ble_eq_true rfl) (Nat.le_of_ble_eq_true rfl)
/-- another world and other references, alike where it counts -/
theorem g_alike {E : Nat × (Int → Int)} {M : MR} {d pc : Nat} {l : List (Nat × PV)} {st : List PV} {w rf w2 rf2 : WD} {n c z : Nat} {res : Option PV × WD × WD × Nat} (h : ((List.range n).all fun k => (List.range (SH k).2).all fun j => decide (w2 k j = w k j) && decide (rf2 k j = rf k j)) = true) (kk : G E M d pc l st w2 rf2 n c z res) : G E M d pc l st w rf n c z res := by
  intro ad0 n0 l0 D ty ro p e R s m args below meth cc A Q C hE ad ws H locs ls lv sm I hl hp hs
  refine kk ad0 n0 l0 D ty ro p e R s m args below meth cc A Q C hE ad ws H locs ls lv sm ?_ hl hp hs
  obtain ⟨h1, h2, h3, ⟨h4, h5⟩, h6, h7⟩ := I
  refine ⟨h1, h2, h3, ⟨h4, fun j hj => ?_⟩, h6, h7⟩
  obtain ⟨e, q1, q2⟩ := h5 j hj
  refine ⟨e, q1, ?_⟩
  have hk : ∀ i : Nat, i < (SH j).2 → w2 j i = w j i ∧ rf2 j i = rf j i := by
    intro i hi
    have a := List.all_eq_true.mp (List.all_eq_true.mp h j (List.mem_range.mpr hj)) i (List.mem_range.mpr hi)
    rw [Bool.and_eq_true, decide_eq_true_eq, decide_eq_true_eq] at a
    exact a
  rcases q2 with ⟨t, g1, g2, f, g3, g4⟩ | ⟨g1, f, g3, g4⟩ | ⟨g1, f, g3, g4⟩ | ⟨c, g1, fs, g3, g5, g4⟩
  · exact Or.inl ⟨t, g1, g2, f, g3, fun i hi => by rw [(hk i hi).1]; exact g4 i hi⟩
  · exact Or.inr (Or.inl ⟨g1, f, g3, fun i hi => by rw [(hk i hi).1]; exact g4 i hi⟩)
  · exact Or.inr (Or.inr (Or.inl ⟨g1, f, g3, fun i hi => by rw [(hk i hi).2]; exact g4 i hi⟩))
  · refine Or.inr (Or.inr (Or.inr ⟨c, g1, fs, g3, g5, fun i hi => ?_⟩))
    obtain ⟨v, z1, z2⟩ := g4 i hi
    refine ⟨v, z1, ?_⟩
    unfold pvF at z2 ⊢
    rw [(hk i hi).1, (hk i hi).2]
    exact z2
/-- the world that the constructors lay -/
def W0 : WD := fun k i => if k = 2 ∧ i = 48 then 3 else if k = 2 ∧ i = 49 then 30 else if k = 2 ∧ i = 50 then 3 else if k = 19 ∧ i = 8 then -1 else if k = 20 ∧ i = 0 then -2 else if k = 20 ∧ i = 1 then -2 else if k = 20 ∧ i = 2 then -2 else if k = 20 ∧ i = 3 then -2 else if k = 20 ∧ i = 4 then -2 else if k = 34 ∧ i = 1 then -1 else if k = 34 ∧ i = 2 then -1 else if k = 36 ∧ i = 1 then -1 else if k = 36 ∧ i = 2 then -1 else if k = 38 ∧ i = 1 then -1 else if k = 38 ∧ i = 2 then -1 else if k = 40 ∧ i = 1 then -1 else if k = 40 ∧ i = 2 then -1 else if k = 42 ∧ i = 1 then -1 else if k = 42 ∧ i = 2 then -1 else if k = 44 ∧ i = 1 then -1 else if k = 44 ∧ i = 2 then -1 else if k = 52 ∧ i = 1 then 3 else if k = 52 ∧ i = 2 then 30 else if k = 52 ∧ i = 3 then 3 else if k = 82 ∧ i = 0 then -1 else if k = 82 ∧ i = 1 then -1 else if k = 82 ∧ i = 2 then -1 else if k = 82 ∧ i = 3 then -1 else if k = 82 ∧ i = 4 then -1 else if k = 82 ∧ i = 5 then -1 else 0
def wLaw : WD := wR_init_46 (zr (wB_init_0 (zr (fun _ _ => 0) 0)) 46)
def rLaw : WD := rR_init_46 (nl (rB_init_0 (nl (fun _ _ => -9) 0)) 46)
set_option maxRecDepth 100000 in
theorem W0_ok : ((List.range 86).all fun k => (List.range (SH k).2).all fun j => decide (W0 k j = wLaw k j) && decide (RF k j = rLaw k j)) = true := by decide +kernel
