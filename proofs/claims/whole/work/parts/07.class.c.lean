def fFl_read_l16_b (rec : Int → WD → Option WD) (y1 : Int) (K0 : WD → Option WD) (x3 : Int) (w : WD) : Option WD := if 25 ≤ x3 then (K0 w) else (ck (0 ≤ x3 ∧ x3 < 25) <| bw (up w 28 x3 0) <| fun (u3 : WD) => bv (w32 (x3 + 1)) <| fun (v3_4 : Int) => rec v3_4 u3)
def fFl_read_l16 (y1 : Int) (K0 : WD → Option WD) : Nat → Int → WD → Option WD
  | 0 => fun _ _ => none
  | k + 1 => fFl_read_l16_b ( fFl_read_l16 y1 K0 k) y1 K0
set_option maxRecDepth 100000 in
set_option maxHeartbeats 4000000 in
theorem fFl_read_l16_b_ok (E : Nat × (Int → Int)) (d : Nat) {res : WD} {rec : Int → WD → Option WD} (y1 : Int) (hy1 : 0 ≤ y1 ∧ y1 < 6) (K0 : WD → Option WD) (hrec : ∀ (x3 : Int) (w : WD), rec x3 w = some res → G E mFl_read (d + 3) 16 [(0, pR 27), (1, pR (34 + 2 * y1)), (3, pI x3)] [] w RF NN 0 0 (none, res, RF, NN)) (hK0 : ∀ (w : WD), K0 w = some res → G E mFl_read (d + 3) 38 [(0, pR 27), (1, pR (34 + 2 * y1))] [] w RF NN 0 0 (none, res, RF, NN)) (x3 : Int) (w : WD) (h : fFl_read_l16_b rec y1 K0 x3 w = some res) : G E mFl_read (d + 3) 16 [(0, pR 27), (1, pR (34 + 2 * y1)), (3, pI x3)] [] w RF NN 0 0 (none, res, RF, NN) := by
  unfold fFl_read_l16_b at h
  refine g_iload_n (pc := 16) (j := 2) (dk d_mFl_read 10 rfl) rfl ?_
  refine g_aload_n (pc := 17) (j := 0) (dk d_mFl_read 11 rfl) rfl (by decide) ?_
  refine g_getR (pc := 18) (a := 28) rfl fp_Fl_9 po_27 (dk d_mFl_read 12 rfl) ?_
  refine h_alen (pc := 21) (B := 25) pa_28 (by decide) rfl (dk d_mFl_read 13 rfl) ?_
  refine h_icmp_ge (pc := 22) (tgt := 38) (dk d_mFl_read 14 rfl) rfl h (fun hc5 h => ?_) (fun hc5 h => ?_)
  · refine g_pick [0, 1] rfl (l' := [(0, pR 27), (1, pR (34 + 2 * y1))]) rfl ?_
    exact hK0 _ h
  · refine g_aload_n (pc := 25) (j := 0) (dk d_mFl_read 15 rfl) rfl (by decide) ?_
    refine g_getR (pc := 26) (a := 28) rfl fp_Fl_9 po_27 (dk d_mFl_read 16 rfl) ?_
    refine g_iload_n (pc := 29) (j := 2) (dk d_mFl_read 17 rfl) rfl ?_
    refine g_iconst (pc := 30) (dk d_mFl_read 18 rfl) (by decide) ?_
    refine h_iast (pc := 31) (B := 25) pa_28 rfl (dk d_mFl_read 19 rfl) h (fun u3 h => ?_)
    refine h_iinc (pc := 32) (j := 2) (dk d_mFl_read 20 rfl) rfl (by decide) (Nat.le_of_ble_eq_true rfl) h (fun v3_4 h => ?_)
    refine g_loc (l' := [(3, pI v3_4), (0, pR 27), (1, pR (34 + 2 * y1))]) rfl ?_
    refine g_goto (pc := 35) (tgt := 16) (dk d_mFl_read 21 rfl) rfl ?_
    refine g_pick [1, 2, 0] rfl (l' := [(0, pR 27), (1, pR (34 + 2 * y1)), (3, pI v3_4)]) rfl ?_
    exact hrec _ _ h
set_option maxRecDepth 100000 in
set_option maxHeartbeats 4000000 in
theorem fFl_read_l16_ok (E : Nat × (Int → Int)) (d : Nat) {res : WD} (y1 : Int) (hy1 : 0 ≤ y1 ∧ y1 < 6) (K0 : WD → Option WD) (hK0 : ∀ (w : WD), K0 w = some res → G E mFl_read (d + 3) 38 [(0, pR 27), (1, pR (34 + 2 * y1))] [] w RF NN 0 0 (none, res, RF, NN)) : ∀ (k : Nat) (x3 : Int) (w : WD), fFl_read_l16 y1 K0 k x3 w = some res → G E mFl_read (d + 3) 16 [(0, pR 27), (1, pR (34 + 2 * y1)), (3, pI x3)] [] w RF NN 0 0 (none, res, RF, NN) := by
  intro k
  induction k with
  | zero =>
    intro x3 w h
    exact no_e h
  | succ k ih =>
    intro x3 w h
    exact fFl_read_l16_b_ok E d y1 hy1 K0 ih hK0 x3 w h
def fFl_read_l40_b (rec : Int → WD → Option WD) (y1 : Int) (K0 : WD → Option WD) (x3 : Int) (w : WD) : Option WD := if 5 ≤ x3 then (K0 w) else (ck (0 ≤ x3 ∧ x3 < 5) <| bw (up w 29 x3 0) <| fun (u7 : WD) => bv (w32 (x3 + 1)) <| fun (v3_8 : Int) => rec v3_8 u7)
def fFl_read_l40 (y1 : Int) (K0 : WD → Option WD) : Nat → Int → WD → Option WD
  | 0 => fun _ _ => none
  | k + 1 => fFl_read_l40_b ( fFl_read_l40 y1 K0 k) y1 K0
set_option maxRecDepth 100000 in
set_option maxHeartbeats 4000000 in
theorem fFl_read_l40_b_ok (E : Nat × (Int → Int)) (d : Nat) {res : WD} {rec : Int → WD → Option WD} (y1 : Int) (hy1 : 0 ≤ y1 ∧ y1 < 6) (K0 : WD → Option WD) (hrec : ∀ (x3 : Int) (w : WD), rec x3 w = some res → G E mFl_read (d + 3) 40 [(0, pR 27), (1, pR (34 + 2 * y1)), (3, pI x3)] [] w RF NN 0 0 (none, res, RF, NN)) (hK0 : ∀ (w : WD), K0 w = some res → G E mFl_read (d + 3) 62 [(0, pR 27), (1, pR (34 + 2 * y1))] [] w RF NN 0 0 (none, res, RF, NN)) (x3 : Int) (w : WD) (h : fFl_read_l40_b rec y1 K0 x3 w = some res) : G E mFl_read (d + 3) 40 [(0, pR 27), (1, pR (34 + 2 * y1)), (3, pI x3)] [] w RF NN 0 0 (none, res, RF, NN) := by
  unfold fFl_read_l40_b at h
  refine g_iload_n (pc := 40) (j := 2) (dk d_mFl_read 24 rfl) rfl ?_
  refine g_aload_n (pc := 41) (j := 0) (dk d_mFl_read 25 rfl) rfl (by decide) ?_
  refine g_getR (pc := 42) (a := 29) rfl fp_Fl_15 po_27 (dk d_mFl_read 26 rfl) ?_
  refine h_alen (pc := 45) (B := 5) pa_29 (by decide) rfl (dk d_mFl_read 27 rfl) ?_
  refine h_icmp_ge (pc := 46) (tgt := 62) (dk d_mFl_read 28 rfl) rfl h (fun hc9 h => ?_) (fun hc9 h => ?_)
  · refine g_pick [0, 1] rfl (l' := [(0, pR 27), (1, pR (34 + 2 * y1))]) rfl ?_
    exact hK0 _ h
  · refine g_aload_n (pc := 49) (j := 0) (dk d_mFl_read 29 rfl) rfl (by decide) ?_
    refine g_getR (pc := 50) (a := 29) rfl fp_Fl_15 po_27 (dk d_mFl_read 30 rfl) ?_
    refine g_iload_n (pc := 53) (j := 2) (dk d_mFl_read 31 rfl) rfl ?_
    refine g_iconst (pc := 54) (dk d_mFl_read 32 rfl) (by decide) ?_
    refine h_iast (pc := 55) (B := 5) pa_29 rfl (dk d_mFl_read 33 rfl) h (fun u7 h => ?_)
    refine h_iinc (pc := 56) (j := 2) (dk d_mFl_read 34 rfl) rfl (by decide) (Nat.le_of_ble_eq_true rfl) h (fun v3_8 h => ?_)
    refine g_loc (l' := [(3, pI v3_8), (0, pR 27), (1, pR (34 + 2 * y1))]) rfl ?_
    refine g_goto (pc := 59) (tgt := 40) (dk d_mFl_read 35 rfl) rfl ?_
    refine g_pick [1, 2, 0] rfl (l' := [(0, pR 27), (1, pR (34 + 2 * y1)), (3, pI v3_8)]) rfl ?_
    exact hrec _ _ h
set_option maxRecDepth 100000 in
set_option maxHeartbeats 4000000 in
theorem fFl_read_l40_ok (E : Nat × (Int → Int)) (d : Nat) {res : WD} (y1 : Int) (hy1 : 0 ≤ y1 ∧ y1 < 6) (K0 : WD → Option WD) (hK0 : ∀ (w : WD), K0 w = some res → G E mFl_read (d + 3) 62 [(0, pR 27), (1, pR (34 + 2 * y1))] [] w RF NN 0 0 (none, res, RF, NN)) : ∀ (k : Nat) (x3 : Int) (w : WD), fFl_read_l40 y1 K0 k x3 w = some res → G E mFl_read (d + 3) 40 [(0, pR 27), (1, pR (34 + 2 * y1)), (3, pI x3)] [] w RF NN 0 0 (none, res, RF, NN) := by
  intro k
  induction k with
  | zero =>
    intro x3 w h
    exact no_e h
  | succ k ih =>
    intro x3 w h
    exact fFl_read_l40_b_ok E d y1 hy1 K0 ih hK0 x3 w h
def fFl_read_l64_b (rec : Int → WD → Option WD) (y1 : Int) (x3 : Int) (w : WD) : Option WD := ci (fSh_size y1 w) <| fun (r12 : Int) (u11 : WD) => if r12 ≤ (w32 (x3 + 1)) then (some u11) else (ci (fSh_at y1 x3 u11) <| fun (r15 : Int) (u14 : WD) => ci (fSh_at y1 (w32 (x3 + 1)) u14) <| fun (r17 : Int) (u16 : WD) => ci (fFl_join (w32 r15) (w32 r17) u16) <| fun (r19 : Int) (u18 : WD) => if r19 ≠ 0 then (bv (w32 (x3 + 2)) <| fun (v3_21 : Int) => rec v3_21 u18) else (some u18))
def fFl_read_l64 (y1 : Int) : Nat → Int → WD → Option WD
  | 0 => fun _ _ => none
  | k + 1 => fFl_read_l64_b ( fFl_read_l64 y1 k) y1
set_option maxRecDepth 100000 in
set_option maxHeartbeats 4000000 in
theorem fFl_read_l64_b_ok (E : Nat × (Int → Int)) (d : Nat) {res : WD} {rec : Int → WD → Option WD} (y1 : Int) (hy1 : 0 ≤ y1 ∧ y1 < 6) (hrec : ∀ (x3 : Int) (w : WD), rec x3 w = some res → G E mFl_read (d + 3) 64 [(0, pR 27), (1, pR (34 + 2 * y1)), (3, pI x3)] [] w RF NN 0 0 (none, res, RF, NN)) (x3 : Int) (w : WD) (h : fFl_read_l64_b rec y1 x3 w = some res) : G E mFl_read (d + 3) 64 [(0, pR 27), (1, pR (34 + 2 * y1)), (3, pI x3)] [] w RF NN 0 0 (none, res, RF, NN) := by
  unfold fFl_read_l64_b at h
  refine g_iload_n (pc := 64) (j := 2) (dk d_mFl_read 38 rfl) rfl ?_
  refine g_iconst (pc := 65) (dk d_mFl_read 39 rfl) (by decide) ?_
  refine g_iadd (pc := 66) (dk d_mFl_read 40 rfl) ?_
  refine g_aload_n (pc := 67) (j := 1) (dk d_mFl_read 41 rfl) rfl (by have := hy1; omega) ?_
  refine h_callVi (d := d + 2) (pc := 68) (na := 0) (av := []) (k0 := (34 + 2 * y1)) (po_s hy1) ⟨_, rfl⟩ ⟨rfl, rfl⟩ (dk d_mFl_read 42 rfl) lk_Fl_31 vm_mSh_size rfl rfl (Nat.le_of_ble_eq_true rfl) h (fun r12 u11 hq => kSh_size E (d + 1) hy1 hq) (fun r12 u11 hb13 h => ?_)
  refine h_icmp_ge (pc := 71) (tgt := 102) (dk d_mFl_read 43 rfl) rfl h (fun hc23 h => ?_) (fun hc23 h => ?_)
  · exact h_vret (pc := 102) (dk d_mFl_read 60 rfl) h
  · refine g_aload_n (pc := 74) (j := 0) (dk d_mFl_read 44 rfl) rfl (by decide) ?_
    refine g_aload_n (pc := 75) (j := 1) (dk d_mFl_read 45 rfl) rfl (by have := hy1; omega) ?_
    refine g_iload_n (pc := 76) (j := 2) (dk d_mFl_read 46 rfl) rfl ?_
    refine h_callVl (d := d + 2) (pc := 77) (na := 1) (av := [pI x3]) (k0 := (34 + 2 * y1)) (po_s hy1) ⟨_, rfl⟩ ⟨rfl, rfl⟩ (dk d_mFl_read 47 rfl) lk_Fl_37 vm_mSh_at rfl rfl (Nat.le_of_ble_eq_true rfl) h (fun r15 u14 hq => kSh_at E (d + 0) hy1 hq) (fun r15 u14 h => ?_)
    refine g_l2i (pc := 80) (dk d_mFl_read 48 rfl) ?_
    refine g_aload_n (pc := 81) (j := 1) (dk d_mFl_read 49 rfl) rfl (by have := hy1; omega) ?_
    refine g_iload_n (pc := 82) (j := 2) (dk d_mFl_read 50 rfl) rfl ?_
    refine g_iconst (pc := 83) (dk d_mFl_read 51 rfl) (by decide) ?_
    refine g_iadd (pc := 84) (dk d_mFl_read 52 rfl) ?_
    refine h_callVl (d := d + 2) (pc := 85) (na := 1) (av := [pI (w32 (x3 + 1))]) (k0 := (34 + 2 * y1)) (po_s hy1) ⟨_, rfl⟩ ⟨rfl, rfl⟩ (dk d_mFl_read 53 rfl) lk_Fl_37 vm_mSh_at rfl rfl (Nat.le_of_ble_eq_true rfl) h (fun r17 u16 hq => kSh_at E (d + 0) hy1 hq) (fun r17 u16 h => ?_)
    refine g_l2i (pc := 88) (dk d_mFl_read 54 rfl) ?_
    refine h_callVi (d := d + 2) (pc := 89) (na := 2) (av := [pI (w32 r15), pI (w32 r17)]) (k0 := 27) po_27 ⟨_, rfl⟩ ⟨rfl, rfl⟩ (dk d_mFl_read 55 rfl) lk_Fl_41 vm_mFl_join rfl rfl (Nat.le_of_ble_eq_true rfl) h (fun r19 u18 hq => kFl_join E (d + 0) hq) (fun r19 u18 hb20 h => ?_)
    refine h_if_ne (pc := 92) (tgt := 96) (dk d_mFl_read 56 rfl) rfl h (fun hc22 h => ?_) (fun hc22 h => ?_)
    · refine h_iinc (pc := 96) (j := 2) (dk d_mFl_read 58 rfl) rfl (by decide) (Nat.le_of_ble_eq_true rfl) h (fun v3_21 h => ?_)
      refine g_loc (l' := [(3, pI v3_21), (0, pR 27), (1, pR (34 + 2 * y1))]) rfl ?_
      refine g_goto (pc := 99) (tgt := 64) (dk d_mFl_read 59 rfl) rfl ?_
      refine g_pick [1, 2, 0] rfl (l' := [(0, pR 27), (1, pR (34 + 2 * y1)), (3, pI v3_21)]) rfl ?_
      exact hrec _ _ h
    · exact h_vret (pc := 95) (dk d_mFl_read 57 rfl) h
set_option maxRecDepth 100000 in
set_option maxHeartbeats 4000000 in
theorem fFl_read_l64_ok (E : Nat × (Int → Int)) (d : Nat) {res : WD} (y1 : Int) (hy1 : 0 ≤ y1 ∧ y1 < 6) : ∀ (k : Nat) (x3 : Int) (w : WD), fFl_read_l64 y1 k x3 w = some res → G E mFl_read (d + 3) 64 [(0, pR 27), (1, pR (34 + 2 * y1)), (3, pI x3)] [] w RF NN 0 0 (none, res, RF, NN) := by
  intro k
  induction k with
  | zero =>
    intro x3 w h
    exact no_e h
  | succ k ih =>
    intro x3 w h
    exact fFl_read_l64_b_ok E d y1 hy1 ih x3 w h
def fFl_read (a1 : Int) (a2 : Int) (w : WD) : Option WD := bw (up w 27 2 (mn 5 a2)) <| fun (u1 : WD) => bw (up u1 27 3 0) <| fun (u2 : WD) => fFl_read_l16 a1 (fun (u6 : WD) => fFl_read_l40 a1 (fun (u10 : WD) => fFl_read_l64 a1 FU 0 u10) FU 0 u6) FU 0 u2
set_option maxRecDepth 100000 in
set_option maxHeartbeats 4000000 in
theorem gFl_read (E : Nat × (Int → Int)) (d : Nat) {res : WD} (a1 : Int) (a2 : Int) (ha1 : 0 ≤ a1 ∧ a1 < 6) (w : WD) (h : fFl_read a1 a2 w = some res) : G E mFl_read (d + 3) 0 [(0, pR 27), (1, pR (34 + 2 * a1)), (2, pI a2)] [] w RF NN 0 0 (none, res, RF, NN) := by
  unfold fFl_read at h
  refine g_aload_n (pc := 0) (j := 0) (dk d_mFl_read 0 rfl) rfl (by decide) ?_
  refine g_iconst (pc := 1) (dk d_mFl_read 1 rfl) (by decide) ?_
  refine g_iload_n (pc := 2) (j := 2) (dk d_mFl_read 2 rfl) rfl ?_
  refine g_mminI (pc := 3) mm_Fl_22 (Nat.le_of_ble_eq_true rfl) (by omega) (dk d_mFl_read 3 rfl) ?_
  refine h_putI (pc := 6) fp_Fl_28 po_27 (dk d_mFl_read 4 rfl) h (fun u1 h => ?_)
  refine g_aload_n (pc := 9) (j := 0) (dk d_mFl_read 5 rfl) rfl (by decide) ?_
  refine g_iconst (pc := 10) (dk d_mFl_read 6 rfl) (by decide) ?_
  refine h_putI (pc := 11) fp_Fl_18 po_27 (dk d_mFl_read 7 rfl) h (fun u2 h => ?_)
  refine g_iconst (pc := 14) (dk d_mFl_read 8 rfl) (by decide) ?_
  refine g_istore_n (pc := 15) (l' := [(3, pI 0), (0, pR 27), (1, pR (34 + 2 * a1)), (2, pI a2)]) (dk d_mFl_read 9 rfl) (Nat.le_of_ble_eq_true rfl) rfl ?_
  refine g_pick [1, 2, 0] rfl (l' := [(0, pR 27), (1, pR (34 + 2 * a1)), (3, pI 0)]) rfl ?_
  refine fFl_read_l16_ok E d a1 ha1 _  (fun u6 h => ?_) FU _  _ h
  · refine g_iconst (pc := 38) (dk d_mFl_read 22 rfl) (by decide) ?_
    refine g_istore_n (pc := 39) (l' := [(3, pI 0), (0, pR 27), (1, pR (34 + 2 * a1))]) (dk d_mFl_read 23 rfl) (Nat.le_of_ble_eq_true rfl) rfl ?_
    refine g_pick [1, 2, 0] rfl (l' := [(0, pR 27), (1, pR (34 + 2 * a1)), (3, pI 0)]) rfl ?_
    refine fFl_read_l40_ok E d a1 ha1 _  (fun u10 h => ?_) FU _  _ h
    · refine g_iconst (pc := 62) (dk d_mFl_read 36 rfl) (by decide) ?_
      refine g_istore_n (pc := 63) (l' := [(3, pI 0), (0, pR 27), (1, pR (34 + 2 * a1))]) (dk d_mFl_read 37 rfl) (Nat.le_of_ble_eq_true rfl) rfl ?_
      refine g_pick [1, 2, 0] rfl (l' := [(0, pR 27), (1, pR (34 + 2 * a1)), (3, pI 0)]) rfl ?_
      refine fFl_read_l64_ok E d a1 ha1 FU _  _ h
set_option maxRecDepth 100000 in
set_option maxHeartbeats 4000000 in
theorem kFl_read (E : Nat × (Int → Int)) (d : Nat) {a1 : Int} {a2 : Int} (ha1 : 0 ≤ a1 ∧ a1 < 6) {w w1 : WD} (h : fFl_read a1 a2 w = some w1) : CTv E mFl_read (d + 3) [pR 27, pR (34 + 2 * a1), pI a2] w RF NN w1 RF NN := by
  exact CTv_of (by decide +kernel) (Nat.le_of_ble_eq_true rfl) rfl (gFl_read (res := w1) E d a1 a2 ha1 w h)
def fB_readFloor (a1 : Int) (w : WD) : Option (Int × WD) := ci (fB_bytesFault a1 w) <| fun (r2 : Int) (u1 : WD) => if r2 ≠ 0 then (some (r2, u1)) else (ck (0 ≤ a1 ∧ a1 < 6) <| ci (fHa_masks u1) <| fun (r6 : Int) (u5 : WD) => cv (fFl_read a1 r6 u5) <| fun (u8 : WD) => some (r2, u8))
set_option maxRecDepth 100000 in
set_option maxHeartbeats 4000000 in
theorem gB_readFloor (E : Nat × (Int → Int)) (d : Nat) {res : Int × WD} (a1 : Int) (w : WD) (h : fB_readFloor a1 w = some res) : G E mB_readFloor (d + 4) 0 [(0, pR 0), (1, pI a1)] [] w RF NN 0 0 (some (pI res.1), res.2, RF, NN) := by
  unfold fB_readFloor at h
  refine g_aload_n (pc := 0) (j := 0) (dk d_mB_readFloor 0 rfl) rfl (by decide) ?_
  refine g_iload_n (pc := 1) (j := 1) (dk d_mB_readFloor 1 rfl) rfl ?_
  refine h_callVi (d := d + 3) (pc := 2) (na := 1) (av := [pI a1]) (k0 := 0) po_0 ⟨_, rfl⟩ ⟨rfl, rfl⟩ (dk d_mB_readFloor 2 rfl) lk_B_202 vm_mB_bytesFault rfl rfl (Nat.le_of_ble_eq_true rfl) h (fun r2 u1 hq => kB_bytesFault E (d + 1) hq) (fun r2 u1 hb3 h => ?_)
  refine g_istore_n (pc := 5) (l' := [(2, pI r2), (0, pR 0), (1, pI a1)]) (dk d_mB_readFloor 3 rfl) (Nat.le_of_ble_eq_true rfl) rfl ?_
  refine g_iload_n (pc := 6) (j := 0) (dk d_mB_readFloor 4 rfl) rfl ?_
  refine h_if_ne (pc := 7) (tgt := 30) (dk d_mB_readFloor 5 rfl) rfl h (fun hc9 h => ?_) (fun hc9 h => ?_)
  · refine g_iload_n (pc := 30) (j := 0) (dk d_mB_readFloor 16 rfl) rfl ?_
    exact h_iret (pc := 31) rfl (dk d_mB_readFloor 17 rfl) h
  · refine g_aload_n (pc := 10) (j := 1) (dk d_mB_readFloor 6 rfl) rfl (by decide) ?_
    refine g_getR (pc := 11) (a := 27) rfl fp_B_44 po_0 (dk d_mB_readFloor 7 rfl) ?_
    refine g_aload_n (pc := 14) (j := 1) (dk d_mB_readFloor 8 rfl) rfl (by decide) ?_
    refine g_getR (pc := 15) (a := 33) rfl fp_B_57 po_0 (dk d_mB_readFloor 9 rfl) ?_
    refine g_iload_n (pc := 18) (j := 2) (dk d_mB_readFloor 10 rfl) rfl ?_
    refine h_aald (pc := 19) (dk d_mB_readFloor 11 rfl) h (fun hi4 h => ?_)
    refine g_aload_n (pc := 20) (j := 1) (dk d_mB_readFloor 12 rfl) rfl (by decide) ?_
    refine g_getR (pc := 21) (a := 1) rfl fp_B_10 po_0 (dk d_mB_readFloor 13 rfl) ?_
    refine h_callVi (d := d + 3) (pc := 24) (na := 0) (av := []) (k0 := 1) po_1 ⟨_, rfl⟩ ⟨rfl, rfl⟩ (dk d_mB_readFloor 14 rfl) lk_B_159 vm_mHa_masks rfl rfl (Nat.le_of_ble_eq_true rfl) h (fun r6 u5 hq => kHa_masks E (d + 2) hq) (fun r6 u5 hb7 h => ?_)
    refine h_callVv (d := d + 3) (pc := 27) (na := 2) (av := [pR (34 + 2 * a1), pI r6]) (k0 := 27) po_27 ⟨_, rfl⟩ ⟨rfl, rfl⟩ (dk d_mB_readFloor 15 rfl) lk_B_360 vm_mFl_read rfl rfl (Nat.le_of_ble_eq_true rfl) h (fun u8 hq => kFl_read E (d + 0) hi4 hq) (fun u8 h => ?_)
    refine g_iload_n (pc := 30) (j := 0) (dk d_mB_readFloor 16 rfl) rfl ?_
    exact h_iret (pc := 31) rfl (dk d_mB_readFloor 17 rfl) h
set_option maxRecDepth 100000 in
set_option maxHeartbeats 4000000 in
theorem kB_readFloor (E : Nat × (Int → Int)) (d : Nat) {a1 : Int} {w w1 : WD} {r : Int} (h : fB_readFloor a1 w = some (r, w1)) : CTi E mB_readFloor (d + 4) [pR 0, pI a1] w RF NN r w1 RF NN := by
  exact CTi_of (by decide +kernel) (Nat.le_of_ble_eq_true rfl) (Or.inl rfl) (gB_readFloor (res := (r, w1)) E d a1 w h)
def fFl_all (w : WD) : Option (Int × WD) := some ((w 27 3), w)
set_option maxRecDepth 100000 in
set_option maxHeartbeats 4000000 in
theorem gFl_all (E : Nat × (Int → Int)) (d : Nat) {res : Int × WD} (w : WD) (h : fFl_all w = some res) : G E mFl_all (d + 1) 0 [(0, pR 27)] [] w RF NN 0 0 (some (pI res.1), res.2, RF, NN) := by
  unfold fFl_all at h
  refine g_aload_n (pc := 0) (j := 0) (dk d_mFl_all 0 rfl) rfl (by decide) ?_
  refine g_getI (pc := 1) fp_Fl_18 po_27 (dk d_mFl_all 1 rfl) ?_
  exact h_iret (pc := 4) rfl (dk d_mFl_all 2 rfl) h
set_option maxRecDepth 100000 in
set_option maxHeartbeats 4000000 in
theorem kFl_all (E : Nat × (Int → Int)) (d : Nat) {w w1 : WD} {r : Int} (h : fFl_all w = some (r, w1)) : CTi E mFl_all (d + 1) [pR 27] w RF NN r w1 RF NN := by
  exact CTi_of (by decide +kernel) (Nat.le_of_ble_eq_true rfl) (Or.inl rfl) (gFl_all (res := (r, w1)) E d w h)
def fB_dances (a1 : Int) (a2 : Int) (w : WD) : Option (Int × WD) := ci (fB_isShelf a1 w) <| fun (r2 : Int) (u1 : WD) => if r2 = 0 then (some ((-1), u1)) else (ci (fB_isMinute a2 u1) <| fun (r5 : Int) (u4 : WD) => if r5 ≠ 0 then (ci (fB_readFloor a1 u4) <| fun (r8 : Int) (u7 : WD) => if r8 = 0 then (ci (fHa_at 0 12 u7) <| fun (r11 : Int) (u10 : WD) => bv (mx 1 r11) <| fun (v4_13 : Int) => ci (fFl_all u10) <| fun (r15 : Int) (u14 : WD) => ck (v4_13 ≠ 0) <| some ((mn r15 (w32 (Int.tdiv a2 v4_13))), u14)) else (some (r8, u7))) else (some ((-1), u4)))
set_option maxRecDepth 100000 in
set_option maxHeartbeats 4000000 in
theorem gB_dances (E : Nat × (Int → Int)) (d : Nat) {res : Int × WD} (a1 : Int) (a2 : Int) (w : WD) (h : fB_dances a1 a2 w = some res) : G E mB_dances (d + 5) 0 [(0, pR 0), (1, pI a1), (2, pI a2)] [] w RF NN 0 0 (some (pI res.1), res.2, RF, NN) := by
  unfold fB_dances at h
  refine g_iload_n (pc := 0) (j := 1) (dk d_mB_dances 0 rfl) rfl ?_
  refine h_callSi (d := d + 4) (pc := 1) (na := 1) (av := [pI a1]) ⟨rfl, rfl⟩ (dk d_mB_dances 1 rfl) lk_B_66 vm_mB_isShelf rfl rfl (Nat.le_of_ble_eq_true rfl) h (fun r2 u1 hq => kB_isShelf E (d + 3) hq) (fun r2 u1 hb3 h => ?_)
  refine h_if_eq (pc := 4) (tgt := 14) (dk d_mB_dances 2 rfl) rfl h (fun hc19 h => ?_) (fun hc19 h => ?_)
  · refine g_iconst (pc := 14) (dk d_mB_dances 6 rfl) (by decide) ?_
    exact h_iret (pc := 15) rfl (dk d_mB_dances 7 rfl) h
  · refine g_iload_n (pc := 7) (j := 2) (dk d_mB_dances 3 rfl) rfl ?_
    refine h_callSi (d := d + 4) (pc := 8) (na := 1) (av := [pI a2]) ⟨rfl, rfl⟩ (dk d_mB_dances 4 rfl) lk_B_173 vm_mB_isMinute rfl rfl (Nat.le_of_ble_eq_true rfl) h (fun r5 u4 hq => kB_isMinute E (d + 3) hq) (fun r5 u4 hb6 h => ?_)
    refine h_if_ne (pc := 11) (tgt := 16) (dk d_mB_dances 5 rfl) rfl h (fun hc18 h => ?_) (fun hc18 h => ?_)
    · refine g_aload_n (pc := 16) (j := 0) (dk d_mB_dances 8 rfl) rfl (by decide) ?_
      refine g_iload_n (pc := 17) (j := 1) (dk d_mB_dances 9 rfl) rfl ?_
      refine h_callVi (d := d + 4) (pc := 18) (na := 1) (av := [pI a1]) (k0 := 0) po_0 ⟨_, rfl⟩ ⟨rfl, rfl⟩ (dk d_mB_dances 10 rfl) lk_B_249 vm_mB_readFloor rfl rfl (Nat.le_of_ble_eq_true rfl) h (fun r8 u7 hq => kB_readFloor E (d + 0) hq) (fun r8 u7 hb9 h => ?_)
      refine g_istore_n (pc := 21) (l' := [(3, pI r8), (0, pR 0), (1, pI a1), (2, pI a2)]) (dk d_mB_dances 11 rfl) (Nat.le_of_ble_eq_true rfl) rfl ?_
      refine g_iload_n (pc := 22) (j := 0) (dk d_mB_dances 12 rfl) rfl ?_
      refine h_if_eq (pc := 23) (tgt := 28) (dk d_mB_dances 13 rfl) rfl h (fun hc17 h => ?_) (fun hc17 h => ?_)
      · refine g_iconst (pc := 28) (dk d_mB_dances 16 rfl) (by decide) ?_
        refine g_aload_n (pc := 29) (j := 1) (dk d_mB_dances 17 rfl) rfl (by decide) ?_
        refine g_getR (pc := 30) (a := 1) rfl fp_B_10 po_0 (dk d_mB_dances 18 rfl) ?_
        refine g_iconst (pc := 33) (dk d_mB_dances 19 rfl) (by decide) ?_
        refine g_bipush (pc := 34) (dk d_mB_dances 20 rfl) (by decide) ?_
        refine h_callVi (d := d + 4) (pc := 36) (na := 2) (av := [pI 0, pI 12]) (k0 := 1) po_1 ⟨_, rfl⟩ ⟨rfl, rfl⟩ (dk d_mB_dances 21 rfl) lk_B_105 vm_mHa_at rfl rfl (Nat.le_of_ble_eq_true rfl) h (fun r11 u10 hq => kHa_at E (d + 2) hq) (fun r11 u10 hb12 h => ?_)
        refine g_mmaxI (pc := 39) mm_B_252 (Nat.le_of_ble_eq_true rfl) (by omega) (dk d_mB_dances 22 rfl) ?_
        refine h_bvI h (fun v4_13 h => ?_)
        refine g_istore (pc := 42) (l' := [(4, pI v4_13), (3, pI r8), (0, pR 0), (1, pI a1), (2, pI a2)]) (dk d_mB_dances 23 rfl) (Nat.le_of_ble_eq_true rfl) rfl ?_
        refine g_aload_n (pc := 44) (j := 2) (dk d_mB_dances 24 rfl) rfl (by decide) ?_
        refine g_getR (pc := 45) (a := 27) rfl fp_B_44 po_0 (dk d_mB_dances 25 rfl) ?_
        refine h_callVi (d := d + 4) (pc := 48) (na := 0) (av := []) (k0 := 27) po_27 ⟨_, rfl⟩ ⟨rfl, rfl⟩ (dk d_mB_dances 26 rfl) lk_B_254 vm_mFl_all rfl rfl (Nat.le_of_ble_eq_true rfl) h (fun r15 u14 hq => kFl_all E (d + 3) hq) (fun r15 u14 hb16 h => ?_)
        refine g_iload_n (pc := 51) (j := 4) (dk d_mB_dances 27 rfl) rfl ?_
        refine g_iload (pc := 52) (j := 0) (dk d_mB_dances 28 rfl) rfl ?_
        refine h_idiv (pc := 54) (dk d_mB_dances 29 rfl) h (fun h => ?_)
        refine g_mminI (pc := 55) mm_B_188 (Nat.le_of_ble_eq_true rfl) (by omega) (dk d_mB_dances 30 rfl) ?_
        exact h_iret (pc := 58) rfl (dk d_mB_dances 31 rfl) h
      · refine g_iload_n (pc := 26) (j := 0) (dk d_mB_dances 14 rfl) rfl ?_
        exact h_iret (pc := 27) rfl (dk d_mB_dances 15 rfl) h
    · refine g_iconst (pc := 14) (dk d_mB_dances 6 rfl) (by decide) ?_
      exact h_iret (pc := 15) rfl (dk d_mB_dances 7 rfl) h
set_option maxRecDepth 100000 in
set_option maxHeartbeats 4000000 in
theorem kB_dances (E : Nat × (Int → Int)) (d : Nat) {a1 : Int} {a2 : Int} {w w1 : WD} {r : Int} (h : fB_dances a1 a2 w = some (r, w1)) : CTi E mB_dances (d + 5) [pR 0, pI a1, pI a2] w RF NN r w1 RF NN := by
  exact CTi_of (by decide +kernel) (Nat.le_of_ble_eq_true rfl) (Or.inl rfl) (gB_dances (res := (r, w1)) E d a1 a2 w h)
def fFl_avoiding_l19_b (rec : Int → WD → Option (Int × WD)) (y1 : Int) (y2 : Int) (K0 : WD → Option (Int × WD)) (K1 : Int → WD → Option (Int × WD)) (x3 : Int) (w : WD) : Option (Int × WD) := if (w 27 2) ≤ x3 then (K0 w) else (if 5 ≤ x3 then (K0 w) else (ck (0 ≤ (w32 ((w32 (5 * y2)) + x3)) ∧ (w32 ((w32 (5 * y2)) + x3)) < 25) <| jn (β := WD → Option (Int × WD)) (fun (u2 : WD) => bv (w32 (x3 + 1)) <| fun (v3_3 : Int) => rec v3_3 u2) <| fun J4 => if (w 28 (w32 ((w32 (5 * y2)) + x3))) ≠ 0 then (J4 w) else (ck (0 ≤ y2 ∧ y2 < 5) <| if (w 29 y2) < y1 then (J4 w) else (ck (0 ≤ x3 ∧ x3 < 5) <| if (w 29 x3) < y1 then (J4 w) else (K1 x3 w)))))
def fFl_avoiding_l19 (y1 : Int) (y2 : Int) (K0 : WD → Option (Int × WD)) (K1 : Int → WD → Option (Int × WD)) : Nat → Int → WD → Option (Int × WD)
  | 0 => fun _ _ => none
  | k + 1 => fFl_avoiding_l19_b ( fFl_avoiding_l19 y1 y2 K0 K1 k) y1 y2 K0 K1
set_option maxRecDepth 100000 in
set_option maxHeartbeats 4000000 in
theorem fFl_avoiding_l19_b_ok (E : Nat × (Int → Int)) (d : Nat) {res : Int × WD} {rec : Int → WD → Option (Int × WD)} (y1 : Int) (y2 : Int) (K0 : WD → Option (Int × WD)) (K1 : Int → WD → Option (Int × WD)) (hrec : ∀ (x3 : Int) (w : WD), rec x3 w = some res → G E mFl_avoiding (d + 1) 19 [(0, pR 27), (1, pI y1), (2, pI y2), (3, pI x3)] [] w RF NN 0 0 (some (pI res.1), res.2, RF, NN)) (hK0 : ∀ (w : WD), K0 w = some res → G E mFl_avoiding (d + 1) 78 [(0, pR 27), (1, pI y1), (2, pI y2)] [] w RF NN 0 0 (some (pI res.1), res.2, RF, NN)) (hK1 : ∀ (x3 : Int) (w : WD), K1 x3 w = some res → G E mFl_avoiding (d + 1) 65 [(2, pI y2), (3, pI x3)] [] w RF NN 0 0 (some (pI res.1), res.2, RF, NN)) (x3 : Int) (w : WD) (h : fFl_avoiding_l19_b rec y1 y2 K0 K1 x3 w = some res) : G E mFl_avoiding (d + 1) 19 [(0, pR 27), (1, pI y1), (2, pI y2), (3, pI x3)] [] w RF NN 0 0 (some (pI res.1), res.2, RF, NN) := by
  unfold fFl_avoiding_l19_b at h
  refine g_iload_n (pc := 19) (j := 3) (dk d_mFl_avoiding 13 rfl) rfl ?_
  refine g_aload_n (pc := 20) (j := 0) (dk d_mFl_avoiding 14 rfl) rfl (by decide) ?_
  refine g_getI (pc := 21) fp_Fl_28 po_27 (dk d_mFl_avoiding 15 rfl) ?_
  refine h_icmp_ge (pc := 24) (tgt := 78) (dk d_mFl_avoiding 16 rfl) rfl h (fun hc9 h => ?_) (fun hc9 h => ?_)
  · refine g_pick [0, 1, 2] rfl (l' := [(0, pR 27), (1, pI y1), (2, pI y2)]) rfl ?_
    exact hK0 _ h
  · refine g_iload_n (pc := 27) (j := 3) (dk d_mFl_avoiding 17 rfl) rfl ?_
    refine g_iconst (pc := 28) (dk d_mFl_avoiding 18 rfl) (by decide) ?_
    refine h_icmp_ge (pc := 29) (tgt := 78) (dk d_mFl_avoiding 19 rfl) rfl h (fun hc8 h => ?_) (fun hc8 h => ?_)
    · refine g_pick [0, 1, 2] rfl (l' := [(0, pR 27), (1, pI y1), (2, pI y2)]) rfl ?_
      exact hK0 _ h
    · refine g_aload_n (pc := 32) (j := 0) (dk d_mFl_avoiding 20 rfl) rfl (by decide) ?_
      refine g_getR (pc := 33) (a := 28) rfl fp_Fl_9 po_27 (dk d_mFl_avoiding 21 rfl) ?_
      refine g_iconst (pc := 36) (dk d_mFl_avoiding 22 rfl) (by decide) ?_
      refine g_iload_n (pc := 37) (j := 2) (dk d_mFl_avoiding 23 rfl) rfl ?_
      refine g_imul (pc := 38) (dk d_mFl_avoiding 24 rfl) ?_
      refine g_iload_n (pc := 39) (j := 3) (dk d_mFl_avoiding 25 rfl) rfl ?_
      refine g_iadd (pc := 40) (dk d_mFl_avoiding 26 rfl) ?_
      refine h_iald (pc := 41) (B := 25) pa_28 rfl (dk d_mFl_avoiding 27 rfl) h (fun h => ?_)
      refine jn_e (fun J => ∀ (u2 : WD), J u2 = some res → G E mFl_avoiding (d + 1) 72 [(0, pR 27), (1, pI y1), (2, pI y2), (3, pI x3)] [] u2 RF NN 0 0 (some (pI res.1), res.2, RF, NN)) h (fun u2 h => ?_) (fun J4 hJ4 h => ?_)
      · refine h_iinc (pc := 72) (j := 3) (dk d_mFl_avoiding 47 rfl) rfl (by decide) (Nat.le_of_ble_eq_true rfl) h (fun v3_3 h => ?_)
        refine g_loc (l' := [(3, pI v3_3), (0, pR 27), (1, pI y1), (2, pI y2)]) rfl ?_
        refine g_goto (pc := 75) (tgt := 19) (dk d_mFl_avoiding 48 rfl) rfl ?_
        refine g_pick [1, 2, 3, 0] rfl (l' := [(0, pR 27), (1, pI y1), (2, pI y2), (3, pI v3_3)]) rfl ?_
        exact hrec _ _ h
      · refine h_if_ne (pc := 42) (tgt := 72) (dk d_mFl_avoiding 28 rfl) rfl h (fun hc7 h => ?_) (fun hc7 h => ?_)
        · exact hJ4 _ h
        · refine g_aload_n (pc := 45) (j := 0) (dk d_mFl_avoiding 29 rfl) rfl (by decide) ?_
          refine g_getR (pc := 46) (a := 29) rfl fp_Fl_15 po_27 (dk d_mFl_avoiding 30 rfl) ?_
          refine g_iload_n (pc := 49) (j := 2) (dk d_mFl_avoiding 31 rfl) rfl ?_
          refine h_iald (pc := 50) (B := 5) pa_29 rfl (dk d_mFl_avoiding 32 rfl) h (fun h => ?_)
          refine g_iload_n (pc := 51) (j := 1) (dk d_mFl_avoiding 33 rfl) rfl ?_
          refine h_icmp_lt (pc := 52) (tgt := 72) (dk d_mFl_avoiding 34 rfl) rfl h (fun hc6 h => ?_) (fun hc6 h => ?_)
          · exact hJ4 _ h
          · refine g_aload_n (pc := 55) (j := 0) (dk d_mFl_avoiding 35 rfl) rfl (by decide) ?_
            refine g_getR (pc := 56) (a := 29) rfl fp_Fl_15 po_27 (dk d_mFl_avoiding 36 rfl) ?_
            refine g_iload_n (pc := 59) (j := 3) (dk d_mFl_avoiding 37 rfl) rfl ?_
            refine h_iald (pc := 60) (B := 5) pa_29 rfl (dk d_mFl_avoiding 38 rfl) h (fun h => ?_)
            refine g_iload_n (pc := 61) (j := 1) (dk d_mFl_avoiding 39 rfl) rfl ?_
            refine h_icmp_lt (pc := 62) (tgt := 72) (dk d_mFl_avoiding 40 rfl) rfl h (fun hc5 h => ?_) (fun hc5 h => ?_)
            · exact hJ4 _ h
            · refine g_pick [2, 3] rfl (l' := [(2, pI y2), (3, pI x3)]) rfl ?_
              exact hK1 _ _ h
set_option maxRecDepth 100000 in
set_option maxHeartbeats 4000000 in
theorem fFl_avoiding_l19_ok (E : Nat × (Int → Int)) (d : Nat) {res : Int × WD} (y1 : Int) (y2 : Int) (K0 : WD → Option (Int × WD)) (K1 : Int → WD → Option (Int × WD)) (hK0 : ∀ (w : WD), K0 w = some res → G E mFl_avoiding (d + 1) 78 [(0, pR 27), (1, pI y1), (2, pI y2)] [] w RF NN 0 0 (some (pI res.1), res.2, RF, NN)) (hK1 : ∀ (x3 : Int) (w : WD), K1 x3 w = some res → G E mFl_avoiding (d + 1) 65 [(2, pI y2), (3, pI x3)] [] w RF NN 0 0 (some (pI res.1), res.2, RF, NN)) : ∀ (k : Nat) (x3 : Int) (w : WD), fFl_avoiding_l19 y1 y2 K0 K1 k x3 w = some res → G E mFl_avoiding (d + 1) 19 [(0, pR 27), (1, pI y1), (2, pI y2), (3, pI x3)] [] w RF NN 0 0 (some (pI res.1), res.2, RF, NN) := by
  intro k
  induction k with
  | zero =>
    intro x3 w h
    exact no_e h
  | succ k ih =>
    intro x3 w h
    exact fFl_avoiding_l19_b_ok E d y1 y2 K0 K1 ih hK0 hK1 x3 w h
def fFl_avoiding_l2_b (rec : Int → WD → Option (Int × WD)) (y1 : Int) (K0 : Int → Int → WD → Option (Int × WD)) (x2 : Int) (w : WD) : Option (Int × WD) := if (w 27 2) ≤ x2 then (some ((-2), w)) else (if 5 ≤ x2 then (some ((-2), w)) else (bv (w32 (x2 + 1)) <| fun (v3_1 : Int) => fFl_avoiding_l19 y1 x2 (fun (u10 : WD) => bv (w32 (x2 + 1)) <| fun (v2_11 : Int) => rec v2_11 u10) (fun (v3_12 : Int) (u13 : WD) => K0 x2 v3_12 u13) FU v3_1 w))
def fFl_avoiding_l2 (y1 : Int) (K0 : Int → Int → WD → Option (Int × WD)) : Nat → Int → WD → Option (Int × WD)
  | 0 => fun _ _ => none
  | k + 1 => fFl_avoiding_l2_b ( fFl_avoiding_l2 y1 K0 k) y1 K0
set_option maxRecDepth 100000 in
set_option maxHeartbeats 4000000 in
theorem fFl_avoiding_l2_b_ok (E : Nat × (Int → Int)) (d : Nat) {res : Int × WD} {rec : Int → WD → Option (Int × WD)} (y1 : Int) (K0 : Int → Int → WD → Option (Int × WD)) (hrec : ∀ (x2 : Int) (w : WD), rec x2 w = some res → G E mFl_avoiding (d + 1) 2 [(0, pR 27), (1, pI y1), (2, pI x2)] [] w RF NN 0 0 (some (pI res.1), res.2, RF, NN)) (hK0 : ∀ (x2 : Int) (x3 : Int) (w : WD), K0 x2 x3 w = some res → G E mFl_avoiding (d + 1) 65 [(2, pI x2), (3, pI x3)] [] w RF NN 0 0 (some (pI res.1), res.2, RF, NN)) (x2 : Int) (w : WD) (h : fFl_avoiding_l2_b rec y1 K0 x2 w = some res) : G E mFl_avoiding (d + 1) 2 [(0, pR 27), (1, pI y1), (2, pI x2)] [] w RF NN 0 0 (some (pI res.1), res.2, RF, NN) := by
  unfold fFl_avoiding_l2_b at h
  refine g_iload_n (pc := 2) (j := 2) (dk d_mFl_avoiding 2 rfl) rfl ?_
  refine g_aload_n (pc := 3) (j := 0) (dk d_mFl_avoiding 3 rfl) rfl (by decide) ?_
  refine g_getI (pc := 4) fp_Fl_28 po_27 (dk d_mFl_avoiding 4 rfl) ?_
  refine h_icmp_ge (pc := 7) (tgt := 84) (dk d_mFl_avoiding 5 rfl) rfl h (fun hc15 h => ?_) (fun hc15 h => ?_)
  · refine g_bipush (pc := 84) (dk d_mFl_avoiding 51 rfl) (by decide) ?_
    exact h_iret (pc := 86) rfl (dk d_mFl_avoiding 52 rfl) h
  · refine g_iload_n (pc := 10) (j := 2) (dk d_mFl_avoiding 6 rfl) rfl ?_
    refine g_iconst (pc := 11) (dk d_mFl_avoiding 7 rfl) (by decide) ?_
    refine h_icmp_ge (pc := 12) (tgt := 84) (dk d_mFl_avoiding 8 rfl) rfl h (fun hc14 h => ?_) (fun hc14 h => ?_)
    · refine g_bipush (pc := 84) (dk d_mFl_avoiding 51 rfl) (by decide) ?_
      exact h_iret (pc := 86) rfl (dk d_mFl_avoiding 52 rfl) h
    · refine g_iload_n (pc := 15) (j := 2) (dk d_mFl_avoiding 9 rfl) rfl ?_
      refine g_iconst (pc := 16) (dk d_mFl_avoiding 10 rfl) (by decide) ?_
      refine g_iadd (pc := 17) (dk d_mFl_avoiding 11 rfl) ?_
      refine h_bvI h (fun v3_1 h => ?_)
      refine g_istore_n (pc := 18) (l' := [(3, pI v3_1), (0, pR 27), (1, pI y1), (2, pI x2)]) (dk d_mFl_avoiding 12 rfl) (Nat.le_of_ble_eq_true rfl) rfl ?_
      refine g_pick [1, 2, 3, 0] rfl (l' := [(0, pR 27), (1, pI y1), (2, pI x2), (3, pI v3_1)]) rfl ?_
      refine fFl_avoiding_l19_ok E d y1 x2 _ _  (fun u10 h => ?_) (fun v3_12 u13 h => ?_) FU _  _ h
      · refine h_iinc (pc := 78) (j := 2) (dk d_mFl_avoiding 49 rfl) rfl (by decide) (Nat.le_of_ble_eq_true rfl) h (fun v2_11 h => ?_)
        refine g_loc (l' := [(2, pI v2_11), (0, pR 27), (1, pI y1)]) rfl ?_
        refine g_goto (pc := 81) (tgt := 2) (dk d_mFl_avoiding 50 rfl) rfl ?_
        refine g_pick [1, 2, 0] rfl (l' := [(0, pR 27), (1, pI y1), (2, pI v2_11)]) rfl ?_
        exact hrec _ _ h
      · exact hK0 _ _ _ h
set_option maxRecDepth 100000 in
set_option maxHeartbeats 4000000 in
theorem fFl_avoiding_l2_ok (E : Nat × (Int → Int)) (d : Nat) {res : Int × WD} (y1 : Int) (K0 : Int → Int → WD → Option (Int × WD)) (hK0 : ∀ (x2 : Int) (x3 : Int) (w : WD), K0 x2 x3 w = some res → G E mFl_avoiding (d + 1) 65 [(2, pI x2), (3, pI x3)] [] w RF NN 0 0 (some (pI res.1), res.2, RF, NN)) : ∀ (k : Nat) (x2 : Int) (w : WD), fFl_avoiding_l2 y1 K0 k x2 w = some res → G E mFl_avoiding (d + 1) 2 [(0, pR 27), (1, pI y1), (2, pI x2)] [] w RF NN 0 0 (some (pI res.1), res.2, RF, NN) := by
  intro k
  induction k with
  | zero =>
    intro x2 w h
    exact no_e h
  | succ k ih =>
    intro x2 w h
    exact fFl_avoiding_l2_b_ok E d y1 K0 ih hK0 x2 w h
def fFl_avoiding (a1 : Int) (w : WD) : Option (Int × WD) := fFl_avoiding_l2 a1 (fun (v2_16 : Int) (v3_17 : Int) (u18 : WD) => some ((w32 ((w32 (10 * v2_16)) + v3_17)), u18)) FU 0 w
set_option maxRecDepth 100000 in
set_option maxHeartbeats 4000000 in
theorem gFl_avoiding (E : Nat × (Int → Int)) (d : Nat) {res : Int × WD} (a1 : Int) (w : WD) (h : fFl_avoiding a1 w = some res) : G E mFl_avoiding (d + 1) 0 [(0, pR 27), (1, pI a1)] [] w RF NN 0 0 (some (pI res.1), res.2, RF, NN) := by
  unfold fFl_avoiding at h
  refine g_iconst (pc := 0) (dk d_mFl_avoiding 0 rfl) (by decide) ?_
  refine g_istore_n (pc := 1) (l' := [(2, pI 0), (0, pR 27), (1, pI a1)]) (dk d_mFl_avoiding 1 rfl) (Nat.le_of_ble_eq_true rfl) rfl ?_
  refine g_pick [1, 2, 0] rfl (l' := [(0, pR 27), (1, pI a1), (2, pI 0)]) rfl ?_
  refine fFl_avoiding_l2_ok E d a1 _  (fun v2_16 v3_17 u18 h => ?_) FU _  _ h
  · refine g_bipush (pc := 65) (dk d_mFl_avoiding 41 rfl) (by decide) ?_
    refine g_iload_n (pc := 67) (j := 0) (dk d_mFl_avoiding 42 rfl) rfl ?_
    refine g_imul (pc := 68) (dk d_mFl_avoiding 43 rfl) ?_
    refine g_iload_n (pc := 69) (j := 1) (dk d_mFl_avoiding 44 rfl) rfl ?_
    refine g_iadd (pc := 70) (dk d_mFl_avoiding 45 rfl) ?_
    exact h_iret (pc := 71) rfl (dk d_mFl_avoiding 46 rfl) h
set_option maxRecDepth 100000 in
set_option maxHeartbeats 4000000 in
theorem kFl_avoiding (E : Nat × (Int → Int)) (d : Nat) {a1 : Int} {w w1 : WD} {r : Int} (h : fFl_avoiding a1 w = some (r, w1)) : CTi E mFl_avoiding (d + 1) [pR 27, pI a1] w RF NN r w1 RF NN := by
  exact CTi_of (by decide +kernel) (Nat.le_of_ble_eq_true rfl) (Or.inl rfl) (gFl_avoiding (res := (r, w1)) E d a1 w h)
def fB_avoid (a1 : Int) (a2 : Int) (w : WD) : Option (Int × WD) := ci (fB_isShelf a1 w) <| fun (r2 : Int) (u1 : WD) => if r2 = 0 then (some ((-1), u1)) else (if a2 < 1 then (some ((-1), u1)) else (if a2 ≤ 9 then (ci (fB_readFloor a1 u1) <| fun (r5 : Int) (u4 : WD) => if r5 = 0 then (ci (fFl_avoiding a2 u4) <| fun (r8 : Int) (u7 : WD) => some (r8, u7)) else (some (r5, u4))) else (some ((-1), u1))))
set_option maxRecDepth 100000 in
set_option maxHeartbeats 4000000 in
theorem gB_avoid (E : Nat × (Int → Int)) (d : Nat) {res : Int × WD} (a1 : Int) (a2 : Int) (w : WD) (h : fB_avoid a1 a2 w = some res) : G E mB_avoid (d + 5) 0 [(0, pR 0), (1, pI a1), (2, pI a2)] [] w RF NN 0 0 (some (pI res.1), res.2, RF, NN) := by
  unfold fB_avoid at h
  refine g_iload_n (pc := 0) (j := 1) (dk d_mB_avoid 0 rfl) rfl ?_
  refine h_callSi (d := d + 4) (pc := 1) (na := 1) (av := [pI a1]) ⟨rfl, rfl⟩ (dk d_mB_avoid 1 rfl) lk_B_66 vm_mB_isShelf rfl rfl (Nat.le_of_ble_eq_true rfl) h (fun r2 u1 hq => kB_isShelf E (d + 3) hq) (fun r2 u1 hb3 h => ?_)
  refine h_if_eq (pc := 4) (tgt := 18) (dk d_mB_avoid 2 rfl) rfl h (fun hc13 h => ?_) (fun hc13 h => ?_)
  · refine g_iconst (pc := 18) (dk d_mB_avoid 9 rfl) (by decide) ?_
    exact h_iret (pc := 19) rfl (dk d_mB_avoid 10 rfl) h
  · refine g_iload_n (pc := 7) (j := 2) (dk d_mB_avoid 3 rfl) rfl ?_
    refine g_iconst (pc := 8) (dk d_mB_avoid 4 rfl) (by decide) ?_
    refine h_icmp_lt (pc := 9) (tgt := 18) (dk d_mB_avoid 5 rfl) rfl h (fun hc12 h => ?_) (fun hc12 h => ?_)
    · refine g_iconst (pc := 18) (dk d_mB_avoid 9 rfl) (by decide) ?_
      exact h_iret (pc := 19) rfl (dk d_mB_avoid 10 rfl) h
    · refine g_iload_n (pc := 12) (j := 2) (dk d_mB_avoid 6 rfl) rfl ?_
      refine g_bipush (pc := 13) (dk d_mB_avoid 7 rfl) (by decide) ?_
      refine h_icmp_le (pc := 15) (tgt := 20) (dk d_mB_avoid 8 rfl) rfl h (fun hc11 h => ?_) (fun hc11 h => ?_)
      · refine g_aload_n (pc := 20) (j := 0) (dk d_mB_avoid 11 rfl) rfl (by decide) ?_
        refine g_iload_n (pc := 21) (j := 1) (dk d_mB_avoid 12 rfl) rfl ?_
        refine h_callVi (d := d + 4) (pc := 22) (na := 1) (av := [pI a1]) (k0 := 0) po_0 ⟨_, rfl⟩ ⟨rfl, rfl⟩ (dk d_mB_avoid 13 rfl) lk_B_249 vm_mB_readFloor rfl rfl (Nat.le_of_ble_eq_true rfl) h (fun r5 u4 hq => kB_readFloor E (d + 0) hq) (fun r5 u4 hb6 h => ?_)
        refine g_istore_n (pc := 25) (l' := [(3, pI r5), (0, pR 0), (1, pI a1), (2, pI a2)]) (dk d_mB_avoid 14 rfl) (Nat.le_of_ble_eq_true rfl) rfl ?_
        refine g_iload_n (pc := 26) (j := 0) (dk d_mB_avoid 15 rfl) rfl ?_
        refine h_if_eq (pc := 27) (tgt := 34) (dk d_mB_avoid 16 rfl) rfl h (fun hc10 h => ?_) (fun hc10 h => ?_)
        · refine g_aload_n (pc := 34) (j := 1) (dk d_mB_avoid 19 rfl) rfl (by decide) ?_
          refine g_getR (pc := 35) (a := 27) rfl fp_B_44 po_0 (dk d_mB_avoid 20 rfl) ?_
          refine g_iload_n (pc := 38) (j := 3) (dk d_mB_avoid 21 rfl) rfl ?_
          refine h_callVi (d := d + 4) (pc := 39) (na := 1) (av := [pI a2]) (k0 := 27) po_27 ⟨_, rfl⟩ ⟨rfl, rfl⟩ (dk d_mB_avoid 22 rfl) lk_B_257 vm_mFl_avoiding rfl rfl (Nat.le_of_ble_eq_true rfl) h (fun r8 u7 hq => kFl_avoiding E (d + 3) hq) (fun r8 u7 hb9 h => ?_)
          exact h_iret (pc := 42) rfl (dk d_mB_avoid 23 rfl) h
        · refine g_iload_n (pc := 30) (j := 0) (dk d_mB_avoid 17 rfl) rfl ?_
          refine g_goto (pc := 31) (tgt := 42) (dk d_mB_avoid 18 rfl) rfl ?_
          exact h_iret (pc := 42) rfl (dk d_mB_avoid 23 rfl) h
      · refine g_iconst (pc := 18) (dk d_mB_avoid 9 rfl) (by decide) ?_
        exact h_iret (pc := 19) rfl (dk d_mB_avoid 10 rfl) h
set_option maxRecDepth 100000 in
set_option maxHeartbeats 4000000 in
theorem kB_avoid (E : Nat × (Int → Int)) (d : Nat) {a1 : Int} {a2 : Int} {w w1 : WD} {r : Int} (h : fB_avoid a1 a2 w = some (r, w1)) : CTi E mB_avoid (d + 5) [pR 0, pI a1, pI a2] w RF NN r w1 RF NN := by
  exact CTi_of (by decide +kernel) (Nat.le_of_ble_eq_true rfl) (Or.inl rfl) (gB_avoid (res := (r, w1)) E d a1 a2 w h)
def fFl_mostWith_l8_b (rec : Int → Int → Int → WD → Option (Int × WD)) (y1 : Int) (x2 : Int) (x3 : Int) (x4 : Int) (w : WD) : Option (Int × WD) := if (w 27 2) ≤ x4 then (some (x2, w)) else (ci (fFl_isOn y1 w) <| fun (r2 : Int) (u1 : WD) => if r2 = 0 then (some (x2, u1)) else (ci (fFl_isOn x4 u1) <| fun (r5 : Int) (u4 : WD) => if r5 = 0 then (some (x2, u4)) else (ck (0 ≤ (w32 ((w32 (5 * y1)) + x4)) ∧ (w32 ((w32 (5 * y1)) + x4)) < 25) <| jn (β := Int → Int → WD → Option (Int × WD)) (fun (v2_7 : Int) (v3_8 : Int) (u9 : WD) => bv (w32 (x4 + 1)) <| fun (v4_10 : Int) => rec v2_7 v3_8 v4_10 u9) <| fun J11 => if (u4 28 (w32 ((w32 (5 * y1)) + x4))) ≤ x3 then (J11 x2 x3 u4) else (ck (0 ≤ (w32 ((w32 (5 * y1)) + x4)) ∧ (w32 ((w32 (5 * y1)) + x4)) < 25) <| bv (u4 28 (w32 ((w32 (5 * y1)) + x4))) <| fun (v3_12 : Int) => J11 x4 v3_12 u4))))
def fFl_mostWith_l8 (y1 : Int) : Nat → Int → Int → Int → WD → Option (Int × WD)
  | 0 => fun _ _ _ _ => none
  | k + 1 => fFl_mostWith_l8_b ( fFl_mostWith_l8 y1 k) y1
set_option maxRecDepth 100000 in
set_option maxHeartbeats 4000000 in
theorem fFl_mostWith_l8_b_ok (E : Nat × (Int → Int)) (d : Nat) {res : Int × WD} {rec : Int → Int → Int → WD → Option (Int × WD)} (y1 : Int) (hrec : ∀ (x2 : Int) (x3 : Int) (x4 : Int) (w : WD), rec x2 x3 x4 w = some res → G E mFl_mostWith (d + 2) 8 [(0, pR 27), (1, pI y1), (2, pI x2), (3, pI x3), (4, pI x4)] [] w RF NN 0 0 (some (pI res.1), res.2, RF, NN)) (x2 : Int) (x3 : Int) (x4 : Int) (w : WD) (h : fFl_mostWith_l8_b rec y1 x2 x3 x4 w = some res) : G E mFl_mostWith (d + 2) 8 [(0, pR 27), (1, pI y1), (2, pI x2), (3, pI x3), (4, pI x4)] [] w RF NN 0 0 (some (pI res.1), res.2, RF, NN) := by
  unfold fFl_mostWith_l8_b at h
  refine g_iload (pc := 8) (j := 4) (dk d_mFl_mostWith 6 rfl) rfl ?_
  refine g_aload_n (pc := 10) (j := 0) (dk d_mFl_mostWith 7 rfl) rfl (by decide) ?_
  refine g_getI (pc := 11) fp_Fl_28 po_27 (dk d_mFl_mostWith 8 rfl) ?_
  refine h_icmp_ge (pc := 14) (tgt := 70) (dk d_mFl_mostWith 9 rfl) rfl h (fun hc16 h => ?_) (fun hc16 h => ?_)
  · refine g_iload_n (pc := 70) (j := 2) (dk d_mFl_mostWith 41 rfl) rfl ?_
    exact h_iret (pc := 71) rfl (dk d_mFl_mostWith 42 rfl) h
  · refine g_aload_n (pc := 17) (j := 0) (dk d_mFl_mostWith 10 rfl) rfl (by decide) ?_
    refine g_iload_n (pc := 18) (j := 1) (dk d_mFl_mostWith 11 rfl) rfl ?_
    refine h_callVi (d := d + 1) (pc := 19) (na := 1) (av := [pI y1]) (k0 := 27) po_27 ⟨_, rfl⟩ ⟨rfl, rfl⟩ (dk d_mFl_mostWith 12 rfl) lk_Fl_45 vm_mFl_isOn rfl rfl (Nat.le_of_ble_eq_true rfl) h (fun r2 u1 hq => kFl_isOn E (d + 0) hq) (fun r2 u1 hb3 h => ?_)
    refine h_if_eq (pc := 22) (tgt := 70) (dk d_mFl_mostWith 13 rfl) rfl h (fun hc15 h => ?_) (fun hc15 h => ?_)
    · refine g_iload_n (pc := 70) (j := 2) (dk d_mFl_mostWith 41 rfl) rfl ?_
      exact h_iret (pc := 71) rfl (dk d_mFl_mostWith 42 rfl) h
    · refine g_aload_n (pc := 25) (j := 0) (dk d_mFl_mostWith 14 rfl) rfl (by decide) ?_
      refine g_iload (pc := 26) (j := 4) (dk d_mFl_mostWith 15 rfl) rfl ?_
      refine h_callVi (d := d + 1) (pc := 28) (na := 1) (av := [pI x4]) (k0 := 27) po_27 ⟨_, rfl⟩ ⟨rfl, rfl⟩ (dk d_mFl_mostWith 16 rfl) lk_Fl_45 vm_mFl_isOn rfl rfl (Nat.le_of_ble_eq_true rfl) h (fun r5 u4 hq => kFl_isOn E (d + 0) hq) (fun r5 u4 hb6 h => ?_)
      refine h_if_eq (pc := 31) (tgt := 70) (dk d_mFl_mostWith 17 rfl) rfl h (fun hc14 h => ?_) (fun hc14 h => ?_)
      · refine g_iload_n (pc := 70) (j := 2) (dk d_mFl_mostWith 41 rfl) rfl ?_
        exact h_iret (pc := 71) rfl (dk d_mFl_mostWith 42 rfl) h
      · refine g_aload_n (pc := 34) (j := 0) (dk d_mFl_mostWith 18 rfl) rfl (by decide) ?_
        refine g_getR (pc := 35) (a := 28) rfl fp_Fl_9 po_27 (dk d_mFl_mostWith 19 rfl) ?_
        refine g_iconst (pc := 38) (dk d_mFl_mostWith 20 rfl) (by decide) ?_
        refine g_iload_n (pc := 39) (j := 1) (dk d_mFl_mostWith 21 rfl) rfl ?_
        refine g_imul (pc := 40) (dk d_mFl_mostWith 22 rfl) ?_
        refine g_iload (pc := 41) (j := 4) (dk d_mFl_mostWith 23 rfl) rfl ?_
        refine g_iadd (pc := 43) (dk d_mFl_mostWith 24 rfl) ?_
        refine h_iald (pc := 44) (B := 25) pa_28 rfl (dk d_mFl_mostWith 25 rfl) h (fun h => ?_)
        refine g_iload_n (pc := 45) (j := 3) (dk d_mFl_mostWith 26 rfl) rfl ?_
        refine jn_e (fun J => ∀ (v2_7 : Int) (v3_8 : Int) (u9 : WD), J v2_7 v3_8 u9 = some res → G E mFl_mostWith (d + 2) 64 [(0, pR 27), (1, pI y1), (2, pI v2_7), (3, pI v3_8), (4, pI x4)] [] u9 RF NN 0 0 (some (pI res.1), res.2, RF, NN)) h (fun v2_7 v3_8 u9 h => ?_) (fun J11 hJ11 h => ?_)
        · refine h_iinc (pc := 64) (j := 4) (dk d_mFl_mostWith 39 rfl) rfl (by decide) (Nat.le_of_ble_eq_true rfl) h (fun v4_10 h => ?_)
          refine g_loc (l' := [(4, pI v4_10), (0, pR 27), (1, pI y1), (2, pI v2_7), (3, pI v3_8)]) rfl ?_
          refine g_goto (pc := 67) (tgt := 8) (dk d_mFl_mostWith 40 rfl) rfl ?_
          refine g_pick [1, 2, 3, 4, 0] rfl (l' := [(0, pR 27), (1, pI y1), (2, pI v2_7), (3, pI v3_8), (4, pI v4_10)]) rfl ?_
          exact hrec _ _ _ _ h
        · refine h_icmp_le (pc := 46) (tgt := 64) (dk d_mFl_mostWith 27 rfl) rfl h (fun hc13 h => ?_) (fun hc13 h => ?_)
          · exact hJ11 _ _ _ h
          · refine g_iload (pc := 49) (j := 4) (dk d_mFl_mostWith 28 rfl) rfl ?_
            refine g_istore_n (pc := 51) (l' := [(2, pI x4), (0, pR 27), (1, pI y1), (3, pI x3), (4, pI x4)]) (dk d_mFl_mostWith 29 rfl) (Nat.le_of_ble_eq_true rfl) rfl ?_
            refine g_aload_n (pc := 52) (j := 1) (dk d_mFl_mostWith 30 rfl) rfl (by decide) ?_
            refine g_getR (pc := 53) (a := 28) rfl fp_Fl_9 po_27 (dk d_mFl_mostWith 31 rfl) ?_
            refine g_iconst (pc := 56) (dk d_mFl_mostWith 32 rfl) (by decide) ?_
            refine g_iload_n (pc := 57) (j := 2) (dk d_mFl_mostWith 33 rfl) rfl ?_
            refine g_imul (pc := 58) (dk d_mFl_mostWith 34 rfl) ?_
            refine g_iload (pc := 59) (j := 4) (dk d_mFl_mostWith 35 rfl) rfl ?_
            refine g_iadd (pc := 61) (dk d_mFl_mostWith 36 rfl) ?_
            refine h_iald (pc := 62) (B := 25) pa_28 rfl (dk d_mFl_mostWith 37 rfl) h (fun h => ?_)
            refine h_bvI h (fun v3_12 h => ?_)
            refine g_istore_n (pc := 63) (l' := [(3, pI v3_12), (2, pI x4), (0, pR 27), (1, pI y1), (4, pI x4)]) (dk d_mFl_mostWith 38 rfl) (Nat.le_of_ble_eq_true rfl) rfl ?_
            refine g_pick [2, 3, 1, 0, 4] rfl (l' := [(0, pR 27), (1, pI y1), (2, pI x4), (3, pI v3_12), (4, pI x4)]) rfl ?_
            exact hJ11 _ _ _ h
set_option maxRecDepth 100000 in
set_option maxHeartbeats 4000000 in
theorem fFl_mostWith_l8_ok (E : Nat × (Int → Int)) (d : Nat) {res : Int × WD} (y1 : Int) : ∀ (k : Nat) (x2 : Int) (x3 : Int) (x4 : Int) (w : WD), fFl_mostWith_l8 y1 k x2 x3 x4 w = some res → G E mFl_mostWith (d + 2) 8 [(0, pR 27), (1, pI y1), (2, pI x2), (3, pI x3), (4, pI x4)] [] w RF NN 0 0 (some (pI res.1), res.2, RF, NN) := by
  intro k
  induction k with
  | zero =>
    intro x2 x3 x4 w h
    exact no_e h
  | succ k ih =>
    intro x2 x3 x4 w h
    exact fFl_mostWith_l8_b_ok E d y1 ih x2 x3 x4 w h
def fFl_mostWith (a1 : Int) (w : WD) : Option (Int × WD) := fFl_mostWith_l8 a1 FU (-2) 0 0 w
set_option maxRecDepth 100000 in
set_option maxHeartbeats 4000000 in
theorem gFl_mostWith (E : Nat × (Int → Int)) (d : Nat) {res : Int × WD} (a1 : Int) (w : WD) (h : fFl_mostWith a1 w = some res) : G E mFl_mostWith (d + 2) 0 [(0, pR 27), (1, pI a1)] [] w RF NN 0 0 (some (pI res.1), res.2, RF, NN) := by
  unfold fFl_mostWith at h
  refine g_bipush (pc := 0) (dk d_mFl_mostWith 0 rfl) (by decide) ?_
  refine g_istore_n (pc := 2) (l' := [(2, pI (-2)), (0, pR 27), (1, pI a1)]) (dk d_mFl_mostWith 1 rfl) (Nat.le_of_ble_eq_true rfl) rfl ?_
  refine g_iconst (pc := 3) (dk d_mFl_mostWith 2 rfl) (by decide) ?_
  refine g_istore_n (pc := 4) (l' := [(3, pI 0), (2, pI (-2)), (0, pR 27), (1, pI a1)]) (dk d_mFl_mostWith 3 rfl) (Nat.le_of_ble_eq_true rfl) rfl ?_
  refine g_iconst (pc := 5) (dk d_mFl_mostWith 4 rfl) (by decide) ?_
  refine g_istore (pc := 6) (l' := [(4, pI 0), (3, pI 0), (2, pI (-2)), (0, pR 27), (1, pI a1)]) (dk d_mFl_mostWith 5 rfl) (Nat.le_of_ble_eq_true rfl) rfl ?_
  refine g_pick [3, 4, 2, 1, 0] rfl (l' := [(0, pR 27), (1, pI a1), (2, pI (-2)), (3, pI 0), (4, pI 0)]) rfl ?_
  refine fFl_mostWith_l8_ok E d a1 FU _ _ _  _ h
set_option maxRecDepth 100000 in
set_option maxHeartbeats 4000000 in
theorem kFl_mostWith (E : Nat × (Int → Int)) (d : Nat) {a1 : Int} {w w1 : WD} {r : Int} (h : fFl_mostWith a1 w = some (r, w1)) : CTi E mFl_mostWith (d + 2) [pR 27, pI a1] w RF NN r w1 RF NN := by
  exact CTi_of (by decide +kernel) (Nat.le_of_ble_eq_true rfl) (Or.inl rfl) (gFl_mostWith (res := (r, w1)) E d a1 w h)
def fB_favourite (a1 : Int) (a2 : Int) (w : WD) : Option (Int × WD) := ci (fB_isShelf a1 w) <| fun (r2 : Int) (u1 : WD) => if r2 = 0 then (some ((-1), u1)) else (ci (fHa_isMask a2 u1) <| fun (r5 : Int) (u4 : WD) => if r5 ≠ 0 then (ci (fB_readFloor a1 u4) <| fun (r8 : Int) (u7 : WD) => if r8 = 0 then (ci (fFl_mostWith a2 u7) <| fun (r11 : Int) (u10 : WD) => some (r11, u10)) else (some (r8, u7))) else (some ((-1), u4)))
set_option maxRecDepth 100000 in
set_option maxHeartbeats 4000000 in
theorem gB_favourite (E : Nat × (Int → Int)) (d : Nat) {res : Int × WD} (a1 : Int) (a2 : Int) (w : WD) (h : fB_favourite a1 a2 w = some res) : G E mB_favourite (d + 5) 0 [(0, pR 0), (1, pI a1), (2, pI a2)] [] w RF NN 0 0 (some (pI res.1), res.2, RF, NN) := by
  unfold fB_favourite at h
  refine g_iload_n (pc := 0) (j := 1) (dk d_mB_favourite 0 rfl) rfl ?_
  refine h_callSi (d := d + 4) (pc := 1) (na := 1) (av := [pI a1]) ⟨rfl, rfl⟩ (dk d_mB_favourite 1 rfl) lk_B_66 vm_mB_isShelf rfl rfl (Nat.le_of_ble_eq_true rfl) h (fun r2 u1 hq => kB_isShelf E (d + 3) hq) (fun r2 u1 hb3 h => ?_)
  refine h_if_eq (pc := 4) (tgt := 18) (dk d_mB_favourite 2 rfl) rfl h (fun hc15 h => ?_) (fun hc15 h => ?_)
  · refine g_iconst (pc := 18) (dk d_mB_favourite 8 rfl) (by decide) ?_
    exact h_iret (pc := 19) rfl (dk d_mB_favourite 9 rfl) h
  · refine g_aload_n (pc := 7) (j := 0) (dk d_mB_favourite 3 rfl) rfl (by decide) ?_
    refine g_getR (pc := 8) (a := 1) rfl fp_B_10 po_0 (dk d_mB_favourite 4 rfl) ?_
    refine g_iload_n (pc := 11) (j := 2) (dk d_mB_favourite 5 rfl) rfl ?_
    refine h_callVi (d := d + 4) (pc := 12) (na := 1) (av := [pI a2]) (k0 := 1) po_1 ⟨_, rfl⟩ ⟨rfl, rfl⟩ (dk d_mB_favourite 6 rfl) lk_B_90 vm_mHa_isMask rfl rfl (Nat.le_of_ble_eq_true rfl) h (fun r5 u4 hq => kHa_isMask E (d + 3) hq) (fun r5 u4 hb6 h => ?_)
    refine h_if_ne (pc := 15) (tgt := 20) (dk d_mB_favourite 7 rfl) rfl h (fun hc14 h => ?_) (fun hc14 h => ?_)
    · refine g_aload_n (pc := 20) (j := 0) (dk d_mB_favourite 10 rfl) rfl (by decide) ?_
      refine g_iload_n (pc := 21) (j := 1) (dk d_mB_favourite 11 rfl) rfl ?_
      refine h_callVi (d := d + 4) (pc := 22) (na := 1) (av := [pI a1]) (k0 := 0) po_0 ⟨_, rfl⟩ ⟨rfl, rfl⟩ (dk d_mB_favourite 12 rfl) lk_B_249 vm_mB_readFloor rfl rfl (Nat.le_of_ble_eq_true rfl) h (fun r8 u7 hq => kB_readFloor E (d + 0) hq) (fun r8 u7 hb9 h => ?_)
      refine g_istore_n (pc := 25) (l' := [(3, pI r8), (0, pR 0), (1, pI a1), (2, pI a2)]) (dk d_mB_favourite 13 rfl) (Nat.le_of_ble_eq_true rfl) rfl ?_
      refine g_iload_n (pc := 26) (j := 0) (dk d_mB_favourite 14 rfl) rfl ?_
      refine h_if_eq (pc := 27) (tgt := 34) (dk d_mB_favourite 15 rfl) rfl h (fun hc13 h => ?_) (fun hc13 h => ?_)
      · refine g_aload_n (pc := 34) (j := 1) (dk d_mB_favourite 18 rfl) rfl (by decide) ?_
        refine g_getR (pc := 35) (a := 27) rfl fp_B_44 po_0 (dk d_mB_favourite 19 rfl) ?_
        refine g_iload_n (pc := 38) (j := 3) (dk d_mB_favourite 20 rfl) rfl ?_
        refine h_callVi (d := d + 4) (pc := 39) (na := 1) (av := [pI a2]) (k0 := 27) po_27 ⟨_, rfl⟩ ⟨rfl, rfl⟩ (dk d_mB_favourite 21 rfl) lk_B_260 vm_mFl_mostWith rfl rfl (Nat.le_of_ble_eq_true rfl) h (fun r11 u10 hq => kFl_mostWith E (d + 2) hq) (fun r11 u10 hb12 h => ?_)
        exact h_iret (pc := 42) rfl (dk d_mB_favourite 22 rfl) h
      · refine g_iload_n (pc := 30) (j := 0) (dk d_mB_favourite 16 rfl) rfl ?_
        refine g_goto (pc := 31) (tgt := 42) (dk d_mB_favourite 17 rfl) rfl ?_
        exact h_iret (pc := 42) rfl (dk d_mB_favourite 22 rfl) h
    · refine g_iconst (pc := 18) (dk d_mB_favourite 8 rfl) (by decide) ?_
      exact h_iret (pc := 19) rfl (dk d_mB_favourite 9 rfl) h
set_option maxRecDepth 100000 in
set_option maxHeartbeats 4000000 in
theorem kB_favourite (E : Nat × (Int → Int)) (d : Nat) {a1 : Int} {a2 : Int} {w w1 : WD} {r : Int} (h : fB_favourite a1 a2 w = some (r, w1)) : CTi E mB_favourite (d + 5) [pR 0, pI a1, pI a2] w RF NN r w1 RF NN := by
  exact CTi_of (by decide +kernel) (Nat.le_of_ble_eq_true rfl) (Or.inl rfl) (gB_favourite (res := (r, w1)) E d a1 a2 w h)
def fTh_guessAll_l2_b (rec : Int → WD → Option WD) (x1 : Int) (w : WD) : Option WD := ci (fHa_masks w) <| fun (r2 : Int) (u1 : WD) => if r2 ≤ x1 then (some u1) else (if 5 ≤ x1 then (some u1) else (ci (fTh_likeliest x1 u1) <| fun (r5 : Int) (u4 : WD) => ck (0 ≤ x1 ∧ x1 < 5) <| bw (up u4 18 x1 r5) <| fun (u7 : WD) => bv (w32 (x1 + 1)) <| fun (v1_8 : Int) => rec v1_8 u7))
def fTh_guessAll_l2 : Nat → Int → WD → Option WD
  | 0 => fun _ _ => none
  | k + 1 => fTh_guessAll_l2_b ( fTh_guessAll_l2 k)
set_option maxRecDepth 100000 in
set_option maxHeartbeats 4000000 in
theorem fTh_guessAll_l2_b_ok (E : Nat × (Int → Int)) (d : Nat) {res : WD} {rec : Int → WD → Option WD} (hrec : ∀ (x1 : Int) (w : WD), rec x1 w = some res → G E mTh_guessAll (d + 7) 2 [(0, pR 12), (1, pI x1)] [] w RF NN 0 0 (none, res, RF, NN)) (x1 : Int) (w : WD) (h : fTh_guessAll_l2_b rec x1 w = some res) : G E mTh_guessAll (d + 7) 2 [(0, pR 12), (1, pI x1)] [] w RF NN 0 0 (none, res, RF, NN) := by
  unfold fTh_guessAll_l2_b at h
  refine g_iload_n (pc := 2) (j := 1) (dk d_mTh_guessAll 2 rfl) rfl ?_
  refine g_aload_n (pc := 3) (j := 0) (dk d_mTh_guessAll 3 rfl) rfl (by decide) ?_
  refine g_getR (pc := 4) (a := 1) rfl fp_Th_31 po_12 (dk d_mTh_guessAll 4 rfl) ?_
  refine h_callVi (d := d + 6) (pc := 7) (na := 0) (av := []) (k0 := 1) po_1 ⟨_, rfl⟩ ⟨rfl, rfl⟩ (dk d_mTh_guessAll 5 rfl) lk_Th_86 vm_mHa_masks rfl rfl (Nat.le_of_ble_eq_true rfl) h (fun r2 u1 hq => kHa_masks E (d + 5) hq) (fun r2 u1 hb3 h => ?_)
  refine h_icmp_ge (pc := 10) (tgt := 35) (dk d_mTh_guessAll 6 rfl) rfl h (fun hc10 h => ?_) (fun hc10 h => ?_)
  · exact h_vret (pc := 35) (dk d_mTh_guessAll 19 rfl) h
  · refine g_iload_n (pc := 13) (j := 1) (dk d_mTh_guessAll 7 rfl) rfl ?_
    refine g_iconst (pc := 14) (dk d_mTh_guessAll 8 rfl) (by decide) ?_
    refine h_icmp_ge (pc := 15) (tgt := 35) (dk d_mTh_guessAll 9 rfl) rfl h (fun hc9 h => ?_) (fun hc9 h => ?_)
    · exact h_vret (pc := 35) (dk d_mTh_guessAll 19 rfl) h
    · refine g_aload_n (pc := 18) (j := 0) (dk d_mTh_guessAll 10 rfl) rfl (by decide) ?_
      refine g_getR (pc := 19) (a := 18) rfl fp_Th_28 po_12 (dk d_mTh_guessAll 11 rfl) ?_
      refine g_iload_n (pc := 22) (j := 1) (dk d_mTh_guessAll 12 rfl) rfl ?_
      refine g_aload_n (pc := 23) (j := 0) (dk d_mTh_guessAll 13 rfl) rfl (by decide) ?_
      refine g_iload_n (pc := 24) (j := 1) (dk d_mTh_guessAll 14 rfl) rfl ?_
      refine h_callVi (d := d + 6) (pc := 25) (na := 1) (av := [pI x1]) (k0 := 12) po_12 ⟨_, rfl⟩ ⟨rfl, rfl⟩ (dk d_mTh_guessAll 15 rfl) lk_Th_141 vm_mTh_likeliest rfl rfl (Nat.le_of_ble_eq_true rfl) h (fun r5 u4 hq => kTh_likeliest E (d + 0) hq) (fun r5 u4 hb6 h => ?_)
      refine h_iast (pc := 28) (B := 5) pa_18 rfl (dk d_mTh_guessAll 16 rfl) h (fun u7 h => ?_)
      refine h_iinc (pc := 29) (j := 1) (dk d_mTh_guessAll 17 rfl) rfl (by decide) (Nat.le_of_ble_eq_true rfl) h (fun v1_8 h => ?_)
      refine g_loc (l' := [(1, pI v1_8), (0, pR 12)]) rfl ?_
      refine g_goto (pc := 32) (tgt := 2) (dk d_mTh_guessAll 18 rfl) rfl ?_
      refine g_pick [1, 0] rfl (l' := [(0, pR 12), (1, pI v1_8)]) rfl ?_
      exact hrec _ _ h
set_option maxRecDepth 100000 in
set_option maxHeartbeats 4000000 in
theorem fTh_guessAll_l2_ok (E : Nat × (Int → Int)) (d : Nat) {res : WD} : ∀ (k : Nat) (x1 : Int) (w : WD), fTh_guessAll_l2 k x1 w = some res → G E mTh_guessAll (d + 7) 2 [(0, pR 12), (1, pI x1)] [] w RF NN 0 0 (none, res, RF, NN) := by
  intro k
  induction k with
  | zero =>
    intro x1 w h
    exact no_e h
  | succ k ih =>
    intro x1 w h
    exact fTh_guessAll_l2_b_ok E d ih x1 w h
def fTh_guessAll (w : WD) : Option WD := fTh_guessAll_l2 FU 0 w
set_option maxRecDepth 100000 in
set_option maxHeartbeats 4000000 in
theorem gTh_guessAll (E : Nat × (Int → Int)) (d : Nat) {res : WD} (w : WD) (h : fTh_guessAll w = some res) : G E mTh_guessAll (d + 7) 0 [(0, pR 12)] [] w RF NN 0 0 (none, res, RF, NN) := by
  unfold fTh_guessAll at h
  refine g_iconst (pc := 0) (dk d_mTh_guessAll 0 rfl) (by decide) ?_
  refine g_istore_n (pc := 1) (l' := [(1, pI 0), (0, pR 12)]) (dk d_mTh_guessAll 1 rfl) (Nat.le_of_ble_eq_true rfl) rfl ?_
  refine g_pick [1, 0] rfl (l' := [(0, pR 12), (1, pI 0)]) rfl ?_
  refine fTh_guessAll_l2_ok E d FU _  _ h
set_option maxRecDepth 100000 in
set_option maxHeartbeats 4000000 in
theorem kTh_guessAll (E : Nat × (Int → Int)) (d : Nat) {w w1 : WD} (h : fTh_guessAll w = some w1) : CTv E mTh_guessAll (d + 7) [pR 12] w RF NN w1 RF NN := by
  exact CTv_of (by decide +kernel) (Nat.le_of_ble_eq_true rfl) rfl (gTh_guessAll (res := w1) E d w h)
def fTh_pick_l28_b (rec : Int → Int → WD → Option (Int × WD)) (y1 : Int) (x4 : Int) (x5 : Int) (w : WD) : Option (Int × WD) := ci (fHa_persons w) <| fun (r10 : Int) (u9 : WD) => if r10 ≤ x5 then (some (6, u9)) else (jn (β := Int → WD → Option (Int × WD)) (fun (v4_12 : Int) (u13 : WD) => bv (w32 (x5 + 1)) <| fun (v5_14 : Int) => rec v4_12 v5_14 u13) <| fun J15 => if (bAnd (bShr y1 x5) 1) ≠ 0 then (J15 x4 u9) else (if x4 ≠ 0 then (bv (w32 (x4 + (-1))) <| fun (v4_16 : Int) => J15 v4_16 u9) else (some (x5, u9))))
def fTh_pick_l28 (y1 : Int) : Nat → Int → Int → WD → Option (Int × WD)
  | 0 => fun _ _ _ => none
  | k + 1 => fTh_pick_l28_b ( fTh_pick_l28 y1 k) y1
set_option maxRecDepth 100000 in
set_option maxHeartbeats 4000000 in
theorem fTh_pick_l28_b_ok (E : Nat × (Int → Int)) (d : Nat) {res : Int × WD} {rec : Int → Int → WD → Option (Int × WD)} (y1 : Int) (hrec : ∀ (x4 : Int) (x5 : Int) (w : WD), rec x4 x5 w = some res → G E mTh_pick (d + 2) 28 [(0, pR 12), (1, pI y1), (4, pI x4), (5, pI x5)] [] w RF NN 0 0 (some (pI res.1), res.2, RF, NN)) (x4 : Int) (x5 : Int) (w : WD) (h : fTh_pick_l28_b rec y1 x4 x5 w = some res) : G E mTh_pick (d + 2) 28 [(0, pR 12), (1, pI y1), (4, pI x4), (5, pI x5)] [] w RF NN 0 0 (some (pI res.1), res.2, RF, NN) := by
  unfold fTh_pick_l28_b at h
  refine g_iload (pc := 28) (j := 3) (dk d_mTh_pick 17 rfl) rfl ?_
  refine g_aload_n (pc := 30) (j := 0) (dk d_mTh_pick 18 rfl) rfl (by decide) ?_
  refine g_getR (pc := 31) (a := 1) rfl fp_Th_31 po_12 (dk d_mTh_pick 19 rfl) ?_
  refine h_callVi (d := d + 1) (pc := 34) (na := 0) (av := []) (k0 := 1) po_1 ⟨_, rfl⟩ ⟨rfl, rfl⟩ (dk d_mTh_pick 20 rfl) lk_Th_80 vm_mHa_persons rfl rfl (Nat.le_of_ble_eq_true rfl) h (fun r10 u9 hq => kHa_persons E (d + 0) hq) (fun r10 u9 hb11 h => ?_)
  refine h_icmp_ge (pc := 37) (tgt := 66) (dk d_mTh_pick 21 rfl) rfl h (fun hc19 h => ?_) (fun hc19 h => ?_)
  · refine g_bipush (pc := 66) (dk d_mTh_pick 35 rfl) (by decide) ?_
    exact h_iret (pc := 68) rfl (dk d_mTh_pick 36 rfl) h
  · refine g_iload_n (pc := 40) (j := 1) (dk d_mTh_pick 22 rfl) rfl ?_
    refine g_iload (pc := 41) (j := 3) (dk d_mTh_pick 23 rfl) rfl ?_
    refine g_ishr (pc := 43) (dk d_mTh_pick 24 rfl) ?_
    refine g_iconst (pc := 44) (dk d_mTh_pick 25 rfl) (by decide) ?_
    refine g_iand (pc := 45) (dk d_mTh_pick 26 rfl) ?_
    refine jn_e (fun J => ∀ (v4_12 : Int) (u13 : WD), J v4_12 u13 = some res → G E mTh_pick (d + 2) 60 [(0, pR 12), (1, pI y1), (4, pI v4_12), (5, pI x5)] [] u13 RF NN 0 0 (some (pI res.1), res.2, RF, NN)) h (fun v4_12 u13 h => ?_) (fun J15 hJ15 h => ?_)
    · refine h_iinc (pc := 60) (j := 3) (dk d_mTh_pick 33 rfl) rfl (by decide) (Nat.le_of_ble_eq_true rfl) h (fun v5_14 h => ?_)
      refine g_loc (l' := [(5, pI v5_14), (0, pR 12), (1, pI y1), (4, pI v4_12)]) rfl ?_
      refine g_goto (pc := 63) (tgt := 28) (dk d_mTh_pick 34 rfl) rfl ?_
      refine g_pick [1, 2, 3, 0] rfl (l' := [(0, pR 12), (1, pI y1), (4, pI v4_12), (5, pI v5_14)]) rfl ?_
      exact hrec _ _ _ h
    · refine h_if_ne (pc := 46) (tgt := 60) (dk d_mTh_pick 27 rfl) rfl h (fun hc18 h => ?_) (fun hc18 h => ?_)
      · exact hJ15 _ _ h
      · refine g_iload (pc := 49) (j := 2) (dk d_mTh_pick 28 rfl) rfl ?_
        refine h_if_ne (pc := 51) (tgt := 57) (dk d_mTh_pick 29 rfl) rfl h (fun hc17 h => ?_) (fun hc17 h => ?_)
        · refine h_iinc (pc := 57) (j := 2) (dk d_mTh_pick 32 rfl) rfl (by decide) (Nat.le_of_ble_eq_true rfl) h (fun v4_16 h => ?_)
          refine g_loc (l' := [(4, pI v4_16), (0, pR 12), (1, pI y1), (5, pI x5)]) rfl ?_
          refine g_pick [1, 2, 0, 3] rfl (l' := [(0, pR 12), (1, pI y1), (4, pI v4_16), (5, pI x5)]) rfl ?_
          exact hJ15 _ _ h
        · refine g_iload (pc := 54) (j := 3) (dk d_mTh_pick 30 rfl) rfl ?_
          exact h_iret (pc := 56) rfl (dk d_mTh_pick 31 rfl) h
set_option maxRecDepth 100000 in
set_option maxHeartbeats 4000000 in
theorem fTh_pick_l28_ok (E : Nat × (Int → Int)) (d : Nat) {res : Int × WD} (y1 : Int) : ∀ (k : Nat) (x4 : Int) (x5 : Int) (w : WD), fTh_pick_l28 y1 k x4 x5 w = some res → G E mTh_pick (d + 2) 28 [(0, pR 12), (1, pI y1), (4, pI x4), (5, pI x5)] [] w RF NN 0 0 (some (pI res.1), res.2, RF, NN) := by
  intro k
  induction k with
  | zero =>
    intro x4 x5 w h
    exact no_e h
  | succ k ih =>
    intro x4 x5 w h
    exact fTh_pick_l28_b_ok E d y1 ih x4 x5 w h
def fTh_pick (a1 : Int) (a2 : Int) (w : WD) : Option (Int × WD) := ci (fHa_persons w) <| fun (r2 : Int) (u1 : WD) => ci (fJI_bitCount a1 u1) <| fun (r5 : Int) (u4 : WD) => bv (w32 (r2 - r5)) <| fun (v3_7 : Int) => if 0 < v3_7 then (ck (v3_7 ≠ 0) <| bv (Int.tmod a2 v3_7) <| fun (v4_8 : Int) => fTh_pick_l28 a1 FU v4_8 0 u4) else (some (6, u4))
set_option maxRecDepth 100000 in
set_option maxHeartbeats 4000000 in
theorem gTh_pick (E : Nat × (Int → Int)) (d : Nat) {res : Int × WD} (a1 : Int) (a2 : Int) (w : WD) (h : fTh_pick a1 a2 w = some res) : G E mTh_pick (d + 2) 0 [(0, pR 12), (1, pI a1), (2, pI a2)] [] w RF NN 0 0 (some (pI res.1), res.2, RF, NN) := by
  unfold fTh_pick at h
  refine g_aload_n (pc := 0) (j := 0) (dk d_mTh_pick 0 rfl) rfl (by decide) ?_
  refine g_getR (pc := 1) (a := 1) rfl fp_Th_31 po_12 (dk d_mTh_pick 1 rfl) ?_
  refine h_callVi (d := d + 1) (pc := 4) (na := 0) (av := []) (k0 := 1) po_1 ⟨_, rfl⟩ ⟨rfl, rfl⟩ (dk d_mTh_pick 2 rfl) lk_Th_80 vm_mHa_persons rfl rfl (Nat.le_of_ble_eq_true rfl) h (fun r2 u1 hq => kHa_persons E (d + 0) hq) (fun r2 u1 hb3 h => ?_)
  refine g_iload_n (pc := 7) (j := 1) (dk d_mTh_pick 3 rfl) rfl ?_
  refine h_callSi (d := d + 1) (pc := 8) (na := 1) (av := [pI a1]) ⟨rfl, rfl⟩ (dk d_mTh_pick 4 rfl) lk_Th_93 vm_mJI_bitCount rfl rfl (Nat.le_of_ble_eq_true rfl) h (fun r5 u4 hq => kJI_bitCount E (d + 0) hq) (fun r5 u4 hb6 h => ?_)
  refine g_isub (pc := 11) (dk d_mTh_pick 5 rfl) ?_
  refine h_bvI h (fun v3_7 h => ?_)
  refine g_istore_n (pc := 12) (l' := [(3, pI v3_7), (0, pR 12), (1, pI a1), (2, pI a2)]) (dk d_mTh_pick 6 rfl) (Nat.le_of_ble_eq_true rfl) rfl ?_
  refine g_iload_n (pc := 13) (j := 0) (dk d_mTh_pick 7 rfl) rfl ?_
  refine h_if_gt (pc := 14) (tgt := 20) (dk d_mTh_pick 8 rfl) rfl h (fun hc20 h => ?_) (fun hc20 h => ?_)
  · refine g_iload_n (pc := 20) (j := 3) (dk d_mTh_pick 11 rfl) rfl ?_
    refine g_iload_n (pc := 21) (j := 0) (dk d_mTh_pick 12 rfl) rfl ?_
    refine h_irem (pc := 22) (dk d_mTh_pick 13 rfl) h (fun h => ?_)
    refine h_bvI h (fun v4_8 h => ?_)
    refine g_istore (pc := 23) (l' := [(4, pI v4_8), (3, pI v3_7), (0, pR 12), (1, pI a1), (2, pI a2)]) (dk d_mTh_pick 14 rfl) (Nat.le_of_ble_eq_true rfl) rfl ?_
    refine g_iconst (pc := 25) (dk d_mTh_pick 15 rfl) (by decide) ?_
    refine g_istore (pc := 26) (l' := [(5, pI 0), (4, pI v4_8), (3, pI v3_7), (0, pR 12), (1, pI a1), (2, pI a2)]) (dk d_mTh_pick 16 rfl) (Nat.le_of_ble_eq_true rfl) rfl ?_
    refine g_pick [3, 4, 1, 0] rfl (l' := [(0, pR 12), (1, pI a1), (4, pI v4_8), (5, pI 0)]) rfl ?_
    refine fTh_pick_l28_ok E d a1 FU _ _  _ h
  · refine g_bipush (pc := 17) (dk d_mTh_pick 9 rfl) (by decide) ?_
    exact h_iret (pc := 19) rfl (dk d_mTh_pick 10 rfl) h
set_option maxRecDepth 100000 in
set_option maxHeartbeats 4000000 in
theorem kTh_pick (E : Nat × (Int → Int)) (d : Nat) {a1 : Int} {a2 : Int} {w w1 : WD} {r : Int} (h : fTh_pick a1 a2 w = some (r, w1)) : CTi E mTh_pick (d + 2) [pR 12, pI a1, pI a2] w RF NN r w1 RF NN := by
  exact CTi_of (by decide +kernel) (Nat.le_of_ble_eq_true rfl) (Or.inl rfl) (gTh_pick (res := (r, w1)) E d a1 a2 w h)
def fTh_rightInNights_l21_b (rec : Int → Int → Int → Int → WD → Option (Int × WD)) (y2 : Int) (y3 : Int) (y6 : Int) (K0 : Int → Int → WD → Option (Int × WD)) (x4 : Int) (x5 : Int) (x7 : Int) (x8 : Int) (w : WD) : Option (Int × WD) := ci (fHa_masks w) <| fun (r2 : Int) (u1 : WD) => if r2 ≤ x8 then (K0 x4 x5 u1) else (bv (w32 ((w32 (x4 * 1103515245)) + 12345)) <| fun (v4_4 : Int) => ci (fTh_pick x7 (bUshr v4_4 8) u1) <| fun (r6 : Int) (u5 : WD) => ci (fTh_usedWith x7 r6 u5) <| fun (r9 : Int) (u8 : WD) => jn (β := Int → WD → Option (Int × WD)) (fun (v5_11 : Int) (u12 : WD) => bv (w32 (x8 + 1)) <| fun (v8_13 : Int) => rec v4_4 v5_11 r9 v8_13 u12) <| fun J14 => jn (β := WD → Option (Int × WD)) (fun (u15 : WD) => ci (fTh_inWay x8 u15) <| fun (r17 : Int) (u16 : WD) => if r17 ≠ r6 then (J14 x5 u16) else (bv (w32 (x5 + 1)) <| fun (v5_19 : Int) => J14 v5_19 u16)) <| fun J21 => if y3 = (-1) then (J21 u8) else (if y3 ≠ x8 then (J14 x5 u8) else (J21 u8)))
def fTh_rightInNights_l21 (y2 : Int) (y3 : Int) (y6 : Int) (K0 : Int → Int → WD → Option (Int × WD)) : Nat → Int → Int → Int → Int → WD → Option (Int × WD)
  | 0 => fun _ _ _ _ _ => none
  | k + 1 => fTh_rightInNights_l21_b ( fTh_rightInNights_l21 y2 y3 y6 K0 k) y2 y3 y6 K0
set_option maxRecDepth 100000 in
set_option maxHeartbeats 4000000 in
theorem fTh_rightInNights_l21_b_ok (E : Nat × (Int → Int)) (d : Nat) {res : Int × WD} {rec : Int → Int → Int → Int → WD → Option (Int × WD)} (y2 : Int) (y3 : Int) (y6 : Int) (K0 : Int → Int → WD → Option (Int × WD)) (hrec : ∀ (x4 : Int) (x5 : Int) (x7 : Int) (x8 : Int) (w : WD), rec x4 x5 x7 x8 w = some res → G E mTh_rightInNights (d + 3) 21 [(0, pR 12), (2, pI y2), (3, pI y3), (4, pI x4), (5, pI x5), (6, pI y6), (7, pI x7), (8, pI x8)] [] w RF NN 0 0 (some (pI res.1), res.2, RF, NN)) (hK0 : ∀ (x4 : Int) (x5 : Int) (w : WD), K0 x4 x5 w = some res → G E mTh_rightInNights (d + 3) 97 [(0, pR 12), (2, pI y2), (3, pI y3), (4, pI x4), (5, pI x5), (6, pI y6)] [] w RF NN 0 0 (some (pI res.1), res.2, RF, NN)) (x4 : Int) (x5 : Int) (x7 : Int) (x8 : Int) (w : WD) (h : fTh_rightInNights_l21_b rec y2 y3 y6 K0 x4 x5 x7 x8 w = some res) : G E mTh_rightInNights (d + 3) 21 [(0, pR 12), (2, pI y2), (3, pI y3), (4, pI x4), (5, pI x5), (6, pI y6), (7, pI x7), (8, pI x8)] [] w RF NN 0 0 (some (pI res.1), res.2, RF, NN) := by
  unfold fTh_rightInNights_l21_b at h
  refine g_iload (pc := 21) (j := 7) (dk d_mTh_rightInNights 13 rfl) rfl ?_
  refine g_aload_n (pc := 23) (j := 0) (dk d_mTh_rightInNights 14 rfl) rfl (by decide) ?_
  refine g_getR (pc := 24) (a := 1) rfl fp_Th_31 po_12 (dk d_mTh_rightInNights 15 rfl) ?_
  refine h_callVi (d := d + 2) (pc := 27) (na := 0) (av := []) (k0 := 1) po_1 ⟨_, rfl⟩ ⟨rfl, rfl⟩ (dk d_mTh_rightInNights 16 rfl) lk_Th_86 vm_mHa_masks rfl rfl (Nat.le_of_ble_eq_true rfl) h (fun r2 u1 hq => kHa_masks E (d + 1) hq) (fun r2 u1 hb3 h => ?_)
  refine h_icmp_ge (pc := 30) (tgt := 97) (dk d_mTh_rightInNights 17 rfl) rfl h (fun hc24 h => ?_) (fun hc24 h => ?_)
  · refine g_pick [0, 1, 2, 3, 4, 5] rfl (l' := [(0, pR 12), (2, pI y2), (3, pI y3), (4, pI x4), (5, pI x5), (6, pI y6)]) rfl ?_
    exact hK0 _ _ _ h
  · refine g_iload (pc := 33) (j := 3) (dk d_mTh_rightInNights 18 rfl) rfl ?_
    refine g_ldc (pc := 35) (u := 1103515245) ck_Th_173 (by decide) (dk d_mTh_rightInNights 19 rfl) ?_
    refine g_imul (pc := 37) (dk d_mTh_rightInNights 20 rfl) ?_
    refine g_sipush (pc := 38) (dk d_mTh_rightInNights 21 rfl) (by decide) ?_
    refine g_iadd (pc := 41) (dk d_mTh_rightInNights 22 rfl) ?_
    refine h_bvI h (fun v4_4 h => ?_)
    refine g_istore (pc := 42) (l' := [(4, pI v4_4), (0, pR 12), (2, pI y2), (3, pI y3), (5, pI x5), (6, pI y6), (7, pI x7), (8, pI x8)]) (dk d_mTh_rightInNights 23 rfl) (Nat.le_of_ble_eq_true rfl) rfl ?_
    refine g_aload_n (pc := 44) (j := 1) (dk d_mTh_rightInNights 24 rfl) rfl (by decide) ?_
    refine g_iload (pc := 45) (j := 6) (dk d_mTh_rightInNights 25 rfl) rfl ?_
    refine g_iload (pc := 47) (j := 0) (dk d_mTh_rightInNights 26 rfl) rfl ?_
    refine g_bipush (pc := 49) (dk d_mTh_rightInNights 27 rfl) (by decide) ?_
    refine g_iushr (pc := 51) (dk d_mTh_rightInNights 28 rfl) ?_
    refine h_callVi (d := d + 2) (pc := 52) (na := 2) (av := [pI x7, pI (bUshr v4_4 8)]) (k0 := 12) po_12 ⟨_, rfl⟩ ⟨rfl, rfl⟩ (dk d_mTh_rightInNights 29 rfl) lk_Th_174 vm_mTh_pick rfl rfl (Nat.le_of_ble_eq_true rfl) h (fun r6 u5 hq => kTh_pick E (d + 0) hq) (fun r6 u5 hb7 h => ?_)
    refine g_istore (pc := 55) (l' := [(9, pI r6), (4, pI v4_4), (0, pR 12), (2, pI y2), (3, pI y3), (5, pI x5), (6, pI y6), (7, pI x7), (8, pI x8)]) (dk d_mTh_rightInNights 30 rfl) (Nat.le_of_ble_eq_true rfl) rfl ?_
    refine g_iload (pc := 57) (j := 7) (dk d_mTh_rightInNights 31 rfl) rfl ?_
    refine g_iload (pc := 59) (j := 0) (dk d_mTh_rightInNights 32 rfl) rfl ?_
    refine h_callSi (d := d + 2) (pc := 61) (na := 2) (av := [pI x7, pI r6]) ⟨rfl, rfl⟩ (dk d_mTh_rightInNights 33 rfl) lk_Th_122 vm_mTh_usedWith rfl rfl (Nat.le_of_ble_eq_true rfl) h (fun r9 u8 hq => kTh_usedWith E (d + 1) hq) (fun r9 u8 hb10 h => ?_)
    refine g_istore (pc := 64) (l' := [(7, pI r9), (9, pI r6), (4, pI v4_4), (0, pR 12), (2, pI y2), (3, pI y3), (5, pI x5), (6, pI y6), (8, pI x8)]) (dk d_mTh_rightInNights 34 rfl) (Nat.le_of_ble_eq_true rfl) rfl ?_
    refine g_iload_n (pc := 66) (j := 5) (dk d_mTh_rightInNights 35 rfl) rfl ?_
    refine g_iconst (pc := 67) (dk d_mTh_rightInNights 36 rfl) (by decide) ?_
    refine jn_e (fun J => ∀ (v5_11 : Int) (u12 : WD), J v5_11 u12 = some res → G E mTh_rightInNights (d + 3) 91 [(0, pR 12), (2, pI y2), (3, pI y3), (4, pI v4_4), (5, pI v5_11), (6, pI y6), (7, pI r9), (8, pI x8)] [] u12 RF NN 0 0 (some (pI res.1), res.2, RF, NN)) h (fun v5_11 u12 h => ?_) (fun J14 hJ14 h => ?_)
    · refine h_iinc (pc := 91) (j := 7) (dk d_mTh_rightInNights 47 rfl) rfl (by decide) (Nat.le_of_ble_eq_true rfl) h (fun v8_13 h => ?_)
      refine g_loc (l' := [(8, pI v8_13), (0, pR 12), (2, pI y2), (3, pI y3), (4, pI v4_4), (5, pI v5_11), (6, pI y6), (7, pI r9)]) rfl ?_
      refine g_goto (pc := 94) (tgt := 21) (dk d_mTh_rightInNights 48 rfl) rfl ?_
      refine g_pick [1, 2, 3, 4, 5, 6, 7, 0] rfl (l' := [(0, pR 12), (2, pI y2), (3, pI y3), (4, pI v4_4), (5, pI v5_11), (6, pI y6), (7, pI r9), (8, pI v8_13)]) rfl ?_
      exact hrec _ _ _ _ _ h
    · refine jn_e (fun J => ∀ (u15 : WD), J u15 = some res → G E mTh_rightInNights (d + 3) 77 [(0, pR 12), (2, pI y2), (3, pI y3), (4, pI v4_4), (5, pI x5), (6, pI y6), (7, pI r9), (8, pI x8), (9, pI r6)] [] u15 RF NN 0 0 (some (pI res.1), res.2, RF, NN)) h (fun u15 h => ?_) (fun J21 hJ21 h => ?_)
      · refine g_aload_n (pc := 77) (j := 0) (dk d_mTh_rightInNights 41 rfl) rfl (by decide) ?_
        refine g_iload (pc := 78) (j := 7) (dk d_mTh_rightInNights 42 rfl) rfl ?_
        refine h_callVi (d := d + 2) (pc := 80) (na := 1) (av := [pI x8]) (k0 := 12) po_12 ⟨_, rfl⟩ ⟨rfl, rfl⟩ (dk d_mTh_rightInNights 43 rfl) lk_Th_125 vm_mTh_inWay rfl rfl (Nat.le_of_ble_eq_true rfl) h (fun r17 u16 hq => kTh_inWay E (d + 1) hq) (fun r17 u16 hb18 h => ?_)
        refine g_iload (pc := 83) (j := 8) (dk d_mTh_rightInNights 44 rfl) rfl ?_
        refine h_icmp_ne (pc := 85) (tgt := 91) (dk d_mTh_rightInNights 45 rfl) rfl h (fun hc20 h => ?_) (fun hc20 h => ?_)
        · refine g_pick [0, 1, 2, 3, 4, 5, 6, 7] rfl (l' := [(0, pR 12), (2, pI y2), (3, pI y3), (4, pI v4_4), (5, pI x5), (6, pI y6), (7, pI r9), (8, pI x8)]) rfl ?_
          exact hJ14 _ _ h
        · refine h_iinc (pc := 88) (j := 4) (dk d_mTh_rightInNights 46 rfl) rfl (by decide) (Nat.le_of_ble_eq_true rfl) h (fun v5_19 h => ?_)
          refine g_loc (l' := [(5, pI v5_19), (0, pR 12), (2, pI y2), (3, pI y3), (4, pI v4_4), (6, pI y6), (7, pI r9), (8, pI x8), (9, pI r6)]) rfl ?_
          refine g_pick [1, 2, 3, 4, 0, 5, 6, 7] rfl (l' := [(0, pR 12), (2, pI y2), (3, pI y3), (4, pI v4_4), (5, pI v5_19), (6, pI y6), (7, pI r9), (8, pI x8)]) rfl ?_
          exact hJ14 _ _ h
      · refine h_icmp_eq (pc := 68) (tgt := 77) (dk d_mTh_rightInNights 37 rfl) rfl h (fun hc23 h => ?_) (fun hc23 h => ?_)
        · refine g_pick [3, 4, 5, 2, 6, 7, 0, 8, 1] rfl (l' := [(0, pR 12), (2, pI y2), (3, pI y3), (4, pI v4_4), (5, pI x5), (6, pI y6), (7, pI r9), (8, pI x8), (9, pI r6)]) rfl ?_
          exact hJ21 _ h
        · refine g_iload_n (pc := 71) (j := 5) (dk d_mTh_rightInNights 38 rfl) rfl ?_
          refine g_iload (pc := 72) (j := 8) (dk d_mTh_rightInNights 39 rfl) rfl ?_
          refine h_icmp_ne (pc := 74) (tgt := 91) (dk d_mTh_rightInNights 40 rfl) rfl h (fun hc22 h => ?_) (fun hc22 h => ?_)
          · refine g_pick [3, 4, 5, 2, 6, 7, 0, 8] rfl (l' := [(0, pR 12), (2, pI y2), (3, pI y3), (4, pI v4_4), (5, pI x5), (6, pI y6), (7, pI r9), (8, pI x8)]) rfl ?_
            exact hJ14 _ _ h
          · refine g_pick [3, 4, 5, 2, 6, 7, 0, 8, 1] rfl (l' := [(0, pR 12), (2, pI y2), (3, pI y3), (4, pI v4_4), (5, pI x5), (6, pI y6), (7, pI r9), (8, pI x8), (9, pI r6)]) rfl ?_
            exact hJ21 _ h
set_option maxRecDepth 100000 in
set_option maxHeartbeats 4000000 in
theorem fTh_rightInNights_l21_ok (E : Nat × (Int → Int)) (d : Nat) {res : Int × WD} (y2 : Int) (y3 : Int) (y6 : Int) (K0 : Int → Int → WD → Option (Int × WD)) (hK0 : ∀ (x4 : Int) (x5 : Int) (w : WD), K0 x4 x5 w = some res → G E mTh_rightInNights (d + 3) 97 [(0, pR 12), (2, pI y2), (3, pI y3), (4, pI x4), (5, pI x5), (6, pI y6)] [] w RF NN 0 0 (some (pI res.1), res.2, RF, NN)) : ∀ (k : Nat) (x4 : Int) (x5 : Int) (x7 : Int) (x8 : Int) (w : WD), fTh_rightInNights_l21 y2 y3 y6 K0 k x4 x5 x7 x8 w = some res → G E mTh_rightInNights (d + 3) 21 [(0, pR 12), (2, pI y2), (3, pI y3), (4, pI x4), (5, pI x5), (6, pI y6), (7, pI x7), (8, pI x8)] [] w RF NN 0 0 (some (pI res.1), res.2, RF, NN) := by
  intro k
  induction k with
  | zero =>
    intro x4 x5 x7 x8 w h
    exact no_e h
  | succ k ih =>
    intro x4 x5 x7 x8 w h
    exact fTh_rightInNights_l21_b_ok E d y2 y3 y6 K0 ih hK0 x4 x5 x7 x8 w h
def fTh_rightInNights_l9_b (rec : Int → Int → Int → WD → Option (Int × WD)) (y2 : Int) (y3 : Int) (x4 : Int) (x5 : Int) (x6 : Int) (w : WD) : Option (Int × WD) := if y2 ≤ x6 then (some (x5, w)) else (fTh_rightInNights_l21 y2 y3 x6 (fun (v4_25 : Int) (v5_26 : Int) (u27 : WD) => bv (w32 (x6 + 1)) <| fun (v6_28 : Int) => rec v4_25 v5_26 v6_28 u27) FU x4 x5 0 0 w)
def fTh_rightInNights_l9 (y2 : Int) (y3 : Int) : Nat → Int → Int → Int → WD → Option (Int × WD)
  | 0 => fun _ _ _ _ => none
  | k + 1 => fTh_rightInNights_l9_b ( fTh_rightInNights_l9 y2 y3 k) y2 y3
set_option maxRecDepth 100000 in
set_option maxHeartbeats 4000000 in
theorem fTh_rightInNights_l9_b_ok (E : Nat × (Int → Int)) (d : Nat) {res : Int × WD} {rec : Int → Int → Int → WD → Option (Int × WD)} (y2 : Int) (y3 : Int) (hrec : ∀ (x4 : Int) (x5 : Int) (x6 : Int) (w : WD), rec x4 x5 x6 w = some res → G E mTh_rightInNights (d + 3) 9 [(0, pR 12), (2, pI y2), (3, pI y3), (4, pI x4), (5, pI x5), (6, pI x6)] [] w RF NN 0 0 (some (pI res.1), res.2, RF, NN)) (x4 : Int) (x5 : Int) (x6 : Int) (w : WD) (h : fTh_rightInNights_l9_b rec y2 y3 x4 x5 x6 w = some res) : G E mTh_rightInNights (d + 3) 9 [(0, pR 12), (2, pI y2), (3, pI y3), (4, pI x4), (5, pI x5), (6, pI x6)] [] w RF NN 0 0 (some (pI res.1), res.2, RF, NN) := by
  unfold fTh_rightInNights_l9_b at h
  refine g_iload (pc := 9) (j := 5) (dk d_mTh_rightInNights 6 rfl) rfl ?_
  refine g_iload_n (pc := 11) (j := 1) (dk d_mTh_rightInNights 7 rfl) rfl ?_
  refine h_icmp_ge (pc := 12) (tgt := 103) (dk d_mTh_rightInNights 8 rfl) rfl h (fun hc29 h => ?_) (fun hc29 h => ?_)
  · refine g_iload (pc := 103) (j := 4) (dk d_mTh_rightInNights 51 rfl) rfl ?_
    exact h_iret (pc := 105) rfl (dk d_mTh_rightInNights 52 rfl) h
  · refine g_iconst (pc := 15) (dk d_mTh_rightInNights 9 rfl) (by decide) ?_
    refine g_istore (pc := 16) (l' := [(7, pI 0), (0, pR 12), (2, pI y2), (3, pI y3), (4, pI x4), (5, pI x5), (6, pI x6)]) (dk d_mTh_rightInNights 10 rfl) (Nat.le_of_ble_eq_true rfl) rfl ?_
    refine g_iconst (pc := 18) (dk d_mTh_rightInNights 11 rfl) (by decide) ?_
    refine g_istore (pc := 19) (l' := [(8, pI 0), (7, pI 0), (0, pR 12), (2, pI y2), (3, pI y3), (4, pI x4), (5, pI x5), (6, pI x6)]) (dk d_mTh_rightInNights 12 rfl) (Nat.le_of_ble_eq_true rfl) rfl ?_
    refine g_pick [2, 3, 4, 5, 6, 7, 1, 0] rfl (l' := [(0, pR 12), (2, pI y2), (3, pI y3), (4, pI x4), (5, pI x5), (6, pI x6), (7, pI 0), (8, pI 0)]) rfl ?_
    refine fTh_rightInNights_l21_ok E d y2 y3 x6 _  (fun v4_25 v5_26 u27 h => ?_) FU _ _ _ _  _ h
    · refine h_iinc (pc := 97) (j := 5) (dk d_mTh_rightInNights 49 rfl) rfl (by decide) (Nat.le_of_ble_eq_true rfl) h (fun v6_28 h => ?_)
      refine g_loc (l' := [(6, pI v6_28), (0, pR 12), (2, pI y2), (3, pI y3), (4, pI v4_25), (5, pI v5_26)]) rfl ?_
      refine g_goto (pc := 100) (tgt := 9) (dk d_mTh_rightInNights 50 rfl) rfl ?_
      refine g_pick [1, 2, 3, 4, 5, 0] rfl (l' := [(0, pR 12), (2, pI y2), (3, pI y3), (4, pI v4_25), (5, pI v5_26), (6, pI v6_28)]) rfl ?_
      exact hrec _ _ _ _ h
set_option maxRecDepth 100000 in
set_option maxHeartbeats 4000000 in
theorem fTh_rightInNights_l9_ok (E : Nat × (Int → Int)) (d : Nat) {res : Int × WD} (y2 : Int) (y3 : Int) : ∀ (k : Nat) (x4 : Int) (x5 : Int) (x6 : Int) (w : WD), fTh_rightInNights_l9 y2 y3 k x4 x5 x6 w = some res → G E mTh_rightInNights (d + 3) 9 [(0, pR 12), (2, pI y2), (3, pI y3), (4, pI x4), (5, pI x5), (6, pI x6)] [] w RF NN 0 0 (some (pI res.1), res.2, RF, NN) := by
  intro k
  induction k with
  | zero =>
    intro x4 x5 x6 w h
    exact no_e h
  | succ k ih =>
    intro x4 x5 x6 w h
    exact fTh_rightInNights_l9_b_ok E d y2 y3 ih x4 x5 x6 w h
def fTh_rightInNights (a1 : Int) (a2 : Int) (a3 : Int) (w : WD) : Option (Int × WD) := fTh_rightInNights_l9 a2 a3 FU a1 0 0 w
set_option maxRecDepth 100000 in
set_option maxHeartbeats 4000000 in
theorem gTh_rightInNights (E : Nat × (Int → Int)) (d : Nat) {res : Int × WD} (a1 : Int) (a2 : Int) (a3 : Int) (w : WD) (h : fTh_rightInNights a1 a2 a3 w = some res) : G E mTh_rightInNights (d + 3) 0 [(0, pR 12), (1, pI a1), (2, pI a2), (3, pI a3)] [] w RF NN 0 0 (some (pI res.1), res.2, RF, NN) := by
  unfold fTh_rightInNights at h
  refine g_iload_n (pc := 0) (j := 1) (dk d_mTh_rightInNights 0 rfl) rfl ?_
  refine g_istore (pc := 1) (l' := [(4, pI a1), (0, pR 12), (1, pI a1), (2, pI a2), (3, pI a3)]) (dk d_mTh_rightInNights 1 rfl) (Nat.le_of_ble_eq_true rfl) rfl ?_
  refine g_iconst (pc := 3) (dk d_mTh_rightInNights 2 rfl) (by decide) ?_
  refine g_istore (pc := 4) (l' := [(5, pI 0), (4, pI a1), (0, pR 12), (1, pI a1), (2, pI a2), (3, pI a3)]) (dk d_mTh_rightInNights 3 rfl) (Nat.le_of_ble_eq_true rfl) rfl ?_
  refine g_iconst (pc := 6) (dk d_mTh_rightInNights 4 rfl) (by decide) ?_
  refine g_istore (pc := 7) (l' := [(6, pI 0), (5, pI 0), (4, pI a1), (0, pR 12), (1, pI a1), (2, pI a2), (3, pI a3)]) (dk d_mTh_rightInNights 5 rfl) (Nat.le_of_ble_eq_true rfl) rfl ?_
  refine g_pick [3, 5, 6, 2, 1, 0] rfl (l' := [(0, pR 12), (2, pI a2), (3, pI a3), (4, pI a1), (5, pI 0), (6, pI 0)]) rfl ?_
  refine fTh_rightInNights_l9_ok E d a2 a3 FU _ _ _  _ h
set_option maxRecDepth 100000 in
set_option maxHeartbeats 4000000 in
theorem kTh_rightInNights (E : Nat × (Int → Int)) (d : Nat) {a1 : Int} {a2 : Int} {a3 : Int} {w w1 : WD} {r : Int} (h : fTh_rightInNights a1 a2 a3 w = some (r, w1)) : CTi E mTh_rightInNights (d + 3) [pR 12, pI a1, pI a2, pI a3] w RF NN r w1 RF NN := by
  exact CTi_of (by decide +kernel) (Nat.le_of_ble_eq_true rfl) (Or.inl rfl) (gTh_rightInNights (res := (r, w1)) E d a1 a2 a3 w h)
def fB_drawn (a1 : Int) (a2 : Int) (a3 : Int) (a4 : Int) (w : WD) : Option (Int × WD) := bv (w32 (Int.tdiv a2 1000)) <| fun (v5_1 : Int) => jn (β := Int → WD → Option (Int × WD)) (fun (s2 : Int) (u3 : WD) => if a2 < 0 then (some ((-1), u3)) else (if v5_1 < 1 then (some ((-1), u3)) else (if 30 < v5_1 then (some ((-1), u3)) else (if s2 ≠ 0 then (cv (fTh_load u3) <| fun (u4 : WD) => if a3 ≠ 0 then (ci (fTh_bestWay u4) <| fun (r6 : Int) (u5 : WD) => if 0 < r6 then (ci (fTh_rightInNights a1 v5_1 a4 u5) <| fun (r8 : Int) (u7 : WD) => some (r8, u7)) else (some (0, u5))) else (cv (fTh_guessAll u4) <| fun (u11 : WD) => ci (fTh_rightInNights a1 v5_1 (-1) u11) <| fun (r13 : Int) (u12 : WD) => ci (fHa_pointsAt (Int.tmod a2 1000) u12) <| fun (r16 : Int) (u15 : WD) => some ((w32 (r13 * r16)), u15))) else (some ((-1), u3)))))) <| fun J23 => jn (β := WD → Option (Int × WD)) (fun (u24 : WD) => J23 1 u24) <| fun J25 => if a3 = 0 then (J25 w) else (jn (β := WD → Option (Int × WD)) (fun (u26 : WD) => J23 0 u26) <| fun J27 => if a3 ≠ 1 then (J27 w) else (ci (fHa_isMask a4 w) <| fun (r29 : Int) (u28 : WD) => if r29 = 0 then (J27 u28) else (J25 u28)))
set_option maxRecDepth 100000 in
set_option maxHeartbeats 4000000 in
theorem gB_drawn (E : Nat × (Int → Int)) (d : Nat) {res : Int × WD} (a1 : Int) (a2 : Int) (a3 : Int) (a4 : Int) (w : WD) (h : fB_drawn a1 a2 a3 a4 w = some res) : G E mB_drawn (d + 8) 0 [(0, pR 0), (1, pI a1), (2, pI a2), (3, pI a3), (4, pI a4)] [] w RF NN 0 0 (some (pI res.1), res.2, RF, NN) := by
  unfold fB_drawn at h
  refine g_iload_n (pc := 0) (j := 2) (dk d_mB_drawn 0 rfl) rfl ?_
  refine g_sipush (pc := 1) (dk d_mB_drawn 1 rfl) (by decide) ?_
  refine g_idiv (pc := 4) (dk d_mB_drawn 2 rfl) (by decide) ?_
  refine h_bvI h (fun v5_1 h => ?_)
  refine g_istore (pc := 5) (l' := [(5, pI v5_1), (0, pR 0), (1, pI a1), (2, pI a2), (3, pI a3), (4, pI a4)]) (dk d_mB_drawn 3 rfl) (Nat.le_of_ble_eq_true rfl) rfl ?_
  refine g_iload_n (pc := 7) (j := 4) (dk d_mB_drawn 4 rfl) rfl ?_
  refine jn_e (fun J => ∀ (s2 : Int) (u3 : WD), J s2 u3 = some res → G E mB_drawn (d + 8) 33 [(0, pR 0), (1, pI a1), (2, pI a2), (3, pI a3), (4, pI a4), (5, pI v5_1)] [pI s2] u3 RF NN 0 0 (some (pI res.1), res.2, RF, NN)) h (fun s2 u3 h => ?_) (fun J23 hJ23 h => ?_)
  · refine g_istore (pc := 33) (l' := [(6, pI s2), (0, pR 0), (1, pI a1), (2, pI a2), (3, pI a3), (4, pI a4), (5, pI v5_1)]) (dk d_mB_drawn 17 rfl) (Nat.le_of_ble_eq_true rfl) rfl ?_
    refine g_iload_n (pc := 35) (j := 3) (dk d_mB_drawn 18 rfl) rfl ?_
    refine h_if_lt (pc := 36) (tgt := 57) (dk d_mB_drawn 19 rfl) rfl h (fun hc22 h => ?_) (fun hc22 h => ?_)
    · refine g_iconst (pc := 57) (dk d_mB_drawn 28 rfl) (by decide) ?_
      exact h_iret (pc := 58) rfl (dk d_mB_drawn 29 rfl) h
    · refine g_iload (pc := 39) (j := 6) (dk d_mB_drawn 20 rfl) rfl ?_
      refine g_iconst (pc := 41) (dk d_mB_drawn 21 rfl) (by decide) ?_
      refine h_icmp_lt (pc := 42) (tgt := 57) (dk d_mB_drawn 22 rfl) rfl h (fun hc21 h => ?_) (fun hc21 h => ?_)
      · refine g_iconst (pc := 57) (dk d_mB_drawn 28 rfl) (by decide) ?_
        exact h_iret (pc := 58) rfl (dk d_mB_drawn 29 rfl) h
      · refine g_iload (pc := 45) (j := 6) (dk d_mB_drawn 23 rfl) rfl ?_
        refine g_bipush (pc := 47) (dk d_mB_drawn 24 rfl) (by decide) ?_
        refine h_icmp_gt (pc := 49) (tgt := 57) (dk d_mB_drawn 25 rfl) rfl h (fun hc20 h => ?_) (fun hc20 h => ?_)
        · refine g_iconst (pc := 57) (dk d_mB_drawn 28 rfl) (by decide) ?_
          exact h_iret (pc := 58) rfl (dk d_mB_drawn 29 rfl) h
        · refine g_iload (pc := 52) (j := 0) (dk d_mB_drawn 26 rfl) rfl ?_
          refine h_if_ne (pc := 54) (tgt := 59) (dk d_mB_drawn 27 rfl) rfl h (fun hc19 h => ?_) (fun hc19 h => ?_)
          · refine g_aload_n (pc := 59) (j := 1) (dk d_mB_drawn 30 rfl) rfl (by decide) ?_
            refine g_getR (pc := 60) (a := 12) rfl fp_B_28 po_0 (dk d_mB_drawn 31 rfl) ?_
            refine h_callVv (d := d + 7) (pc := 63) (na := 0) (av := []) (k0 := 12) po_12 ⟨_, rfl⟩ ⟨rfl, rfl⟩ (dk d_mB_drawn 32 rfl) lk_B_127 vm_mTh_load rfl rfl (Nat.le_of_ble_eq_true rfl) h (fun u4 hq => kTh_load E (d + 1) hq) (fun u4 h => ?_)
            refine g_iload_n (pc := 66) (j := 4) (dk d_mB_drawn 33 rfl) rfl ?_
            refine h_if_ne (pc := 67) (tgt := 102) (dk d_mB_drawn 34 rfl) rfl h (fun hc18 h => ?_) (fun hc18 h => ?_)
            · refine g_aload_n (pc := 102) (j := 1) (dk d_mB_drawn 52 rfl) rfl (by decide) ?_
              refine g_getR (pc := 103) (a := 12) rfl fp_B_28 po_0 (dk d_mB_drawn 53 rfl) ?_
              refine h_callVl (d := d + 7) (pc := 106) (na := 0) (av := []) (k0 := 12) po_12 ⟨_, rfl⟩ ⟨rfl, rfl⟩ (dk d_mB_drawn 54 rfl) lk_B_145 vm_mTh_bestWay rfl rfl (Nat.le_of_ble_eq_true rfl) h (fun r6 u5 hq => kTh_bestWay E (d + 3) hq) (fun r6 u5 h => ?_)
              refine g_lconst0 (pc := 109) (dk d_mB_drawn 55 rfl) ?_
              refine h_lcmp_gt (pc := 110) (tgt := 116) (dk d_mB_drawn 56 rfl) (dk d_mB_drawn 57 rfl) rfl h (fun hc10 h => ?_) (fun hc10 h => ?_)
              · refine g_aload_n (pc := 116) (j := 1) (dk d_mB_drawn 60 rfl) rfl (by decide) ?_
                refine g_getR (pc := 117) (a := 12) rfl fp_B_28 po_0 (dk d_mB_drawn 61 rfl) ?_
                refine g_iload_n (pc := 120) (j := 2) (dk d_mB_drawn 62 rfl) rfl ?_
                refine g_iload (pc := 121) (j := 6) (dk d_mB_drawn 63 rfl) rfl ?_
                refine g_iload (pc := 123) (j := 5) (dk d_mB_drawn 64 rfl) rfl ?_
                refine h_callVi (d := d + 7) (pc := 125) (na := 3) (av := [pI a1, pI v5_1, pI a4]) (k0 := 12) po_12 ⟨_, rfl⟩ ⟨rfl, rfl⟩ (dk d_mB_drawn 65 rfl) lk_B_266 vm_mTh_rightInNights rfl rfl (Nat.le_of_ble_eq_true rfl) h (fun r8 u7 hq => kTh_rightInNights E (d + 4) hq) (fun r8 u7 hb9 h => ?_)
                exact h_iret (pc := 128) rfl (dk d_mB_drawn 66 rfl) h
              · refine g_iconst (pc := 114) (dk d_mB_drawn 58 rfl) (by decide) ?_
                exact h_iret (pc := 115) rfl (dk d_mB_drawn 59 rfl) h
            · refine g_aload_n (pc := 70) (j := 1) (dk d_mB_drawn 35 rfl) rfl (by decide) ?_
              refine g_getR (pc := 71) (a := 12) rfl fp_B_28 po_0 (dk d_mB_drawn 36 rfl) ?_
              refine h_callVv (d := d + 7) (pc := 74) (na := 0) (av := []) (k0 := 12) po_12 ⟨_, rfl⟩ ⟨rfl, rfl⟩ (dk d_mB_drawn 37 rfl) lk_B_263 vm_mTh_guessAll rfl rfl (Nat.le_of_ble_eq_true rfl) h (fun u11 hq => kTh_guessAll E (d + 0) hq) (fun u11 h => ?_)
              refine g_aload_n (pc := 77) (j := 1) (dk d_mB_drawn 38 rfl) rfl (by decide) ?_
              refine g_getR (pc := 78) (a := 12) rfl fp_B_28 po_0 (dk d_mB_drawn 39 rfl) ?_
              refine g_iload_n (pc := 81) (j := 2) (dk d_mB_drawn 40 rfl) rfl ?_
              refine g_iload (pc := 82) (j := 6) (dk d_mB_drawn 41 rfl) rfl ?_
              refine g_iconst (pc := 84) (dk d_mB_drawn 42 rfl) (by decide) ?_
              refine h_callVi (d := d + 7) (pc := 85) (na := 3) (av := [pI a1, pI v5_1, pI (-1)]) (k0 := 12) po_12 ⟨_, rfl⟩ ⟨rfl, rfl⟩ (dk d_mB_drawn 43 rfl) lk_B_266 vm_mTh_rightInNights rfl rfl (Nat.le_of_ble_eq_true rfl) h (fun r13 u12 hq => kTh_rightInNights E (d + 4) hq) (fun r13 u12 hb14 h => ?_)
              refine g_aload_n (pc := 88) (j := 1) (dk d_mB_drawn 44 rfl) rfl (by decide) ?_
              refine g_getR (pc := 89) (a := 1) rfl fp_B_10 po_0 (dk d_mB_drawn 45 rfl) ?_
              refine g_iload_n (pc := 92) (j := 3) (dk d_mB_drawn 46 rfl) rfl ?_
              refine g_sipush (pc := 93) (dk d_mB_drawn 47 rfl) (by decide) ?_
              refine g_irem (pc := 96) (dk d_mB_drawn 48 rfl) (by decide) ?_
              refine h_callVi (d := d + 7) (pc := 97) (na := 1) (av := [pI (Int.tmod a2 1000)]) (k0 := 1) po_1 ⟨_, rfl⟩ ⟨rfl, rfl⟩ (dk d_mB_drawn 49 rfl) lk_B_179 vm_mHa_pointsAt rfl rfl (Nat.le_of_ble_eq_true rfl) h (fun r16 u15 hq => kHa_pointsAt E (d + 4) hq) (fun r16 u15 hb17 h => ?_)
              refine g_imul (pc := 100) (dk d_mB_drawn 50 rfl) ?_
              exact h_iret (pc := 101) rfl (dk d_mB_drawn 51 rfl) h
          · refine g_iconst (pc := 57) (dk d_mB_drawn 28 rfl) (by decide) ?_
            exact h_iret (pc := 58) rfl (dk d_mB_drawn 29 rfl) h
  · refine jn_e (fun J => ∀ (u24 : WD), J u24 = some res → G E mB_drawn (d + 8) 28 [(0, pR 0), (1, pI a1), (2, pI a2), (3, pI a3), (4, pI a4), (5, pI v5_1)] [] u24 RF NN 0 0 (some (pI res.1), res.2, RF, NN)) h (fun u24 h => ?_) (fun J25 hJ25 h => ?_)
    · refine g_iconst (pc := 28) (dk d_mB_drawn 14 rfl) (by decide) ?_
      refine g_goto (pc := 29) (tgt := 33) (dk d_mB_drawn 15 rfl) rfl ?_
      exact hJ23 _ _ h
    · refine h_if_eq (pc := 8) (tgt := 28) (dk d_mB_drawn 5 rfl) rfl h (fun hc33 h => ?_) (fun hc33 h => ?_)
      · refine g_pick [1, 2, 3, 4, 5, 0] rfl (l' := [(0, pR 0), (1, pI a1), (2, pI a2), (3, pI a3), (4, pI a4), (5, pI v5_1)]) rfl ?_
        exact hJ25 _ h
      · refine g_iload_n (pc := 11) (j := 4) (dk d_mB_drawn 6 rfl) rfl ?_
        refine g_iconst (pc := 12) (dk d_mB_drawn 7 rfl) (by decide) ?_
        refine jn_e (fun J => ∀ (u26 : WD), J u26 = some res → G E mB_drawn (d + 8) 32 [(0, pR 0), (1, pI a1), (2, pI a2), (3, pI a3), (4, pI a4), (5, pI v5_1)] [] u26 RF NN 0 0 (some (pI res.1), res.2, RF, NN)) h (fun u26 h => ?_) (fun J27 hJ27 h => ?_)
        · refine g_iconst (pc := 32) (dk d_mB_drawn 16 rfl) (by decide) ?_
          exact hJ23 _ _ h
        · refine h_icmp_ne (pc := 13) (tgt := 32) (dk d_mB_drawn 8 rfl) rfl h (fun hc32 h => ?_) (fun hc32 h => ?_)
          · refine g_pick [1, 2, 3, 4, 5, 0] rfl (l' := [(0, pR 0), (1, pI a1), (2, pI a2), (3, pI a3), (4, pI a4), (5, pI v5_1)]) rfl ?_
            exact hJ27 _ h
          · refine g_aload_n (pc := 16) (j := 1) (dk d_mB_drawn 9 rfl) rfl (by decide) ?_
            refine g_getR (pc := 17) (a := 1) rfl fp_B_10 po_0 (dk d_mB_drawn 10 rfl) ?_
            refine g_iload (pc := 20) (j := 5) (dk d_mB_drawn 11 rfl) rfl ?_
            refine h_callVi (d := d + 7) (pc := 22) (na := 1) (av := [pI a4]) (k0 := 1) po_1 ⟨_, rfl⟩ ⟨rfl, rfl⟩ (dk d_mB_drawn 12 rfl) lk_B_90 vm_mHa_isMask rfl rfl (Nat.le_of_ble_eq_true rfl) h (fun r29 u28 hq => kHa_isMask E (d + 6) hq) (fun r29 u28 hb30 h => ?_)
            refine h_if_eq (pc := 25) (tgt := 32) (dk d_mB_drawn 13 rfl) rfl h (fun hc31 h => ?_) (fun hc31 h => ?_)
            · refine g_pick [1, 2, 3, 4, 5, 0] rfl (l' := [(0, pR 0), (1, pI a1), (2, pI a2), (3, pI a3), (4, pI a4), (5, pI v5_1)]) rfl ?_
              exact hJ27 _ h
            · refine g_pick [1, 2, 3, 4, 5, 0] rfl (l' := [(0, pR 0), (1, pI a1), (2, pI a2), (3, pI a3), (4, pI a4), (5, pI v5_1)]) rfl ?_
              exact hJ25 _ h
set_option maxRecDepth 100000 in
set_option maxHeartbeats 4000000 in
theorem kB_drawn (E : Nat × (Int → Int)) (d : Nat) {a1 : Int} {a2 : Int} {a3 : Int} {a4 : Int} {w w1 : WD} {r : Int} (h : fB_drawn a1 a2 a3 a4 w = some (r, w1)) : CTi E mB_drawn (d + 8) [pR 0, pI a1, pI a2, pI a3, pI a4] w RF NN r w1 RF NN := by
  exact CTi_of (by decide +kernel) (Nat.le_of_ble_eq_true rfl) (Or.inl rfl) (gB_drawn (res := (r, w1)) E d a1 a2 a3 a4 w h)
def fNi_seat_l2_b (rec : Int → WD → Option (Int × WD)) (y1 : Int) (y2 : Int) (K0 : WD → Option (Int × WD)) (x3 : Int) (w : WD) : Option (Int × WD) := if 5 ≤ x3 then (K0 w) else (jn (β := WD → Option (Int × WD)) (fun (u1 : WD) => bv (w32 (x3 + 1)) <| fun (v3_2 : Int) => rec v3_2 u1) <| fun J3 => if y2 = 6 then (J3 w) else (if x3 = y1 then (J3 w) else (ck (0 ≤ x3 ∧ x3 < 5) <| if (w 20 x3) ≠ y2 then (J3 w) else (some ((-5), w)))))
def fNi_seat_l2 (y1 : Int) (y2 : Int) (K0 : WD → Option (Int × WD)) : Nat → Int → WD → Option (Int × WD)
  | 0 => fun _ _ => none
  | k + 1 => fNi_seat_l2_b ( fNi_seat_l2 y1 y2 K0 k) y1 y2 K0
set_option maxRecDepth 100000 in
set_option maxHeartbeats 4000000 in
theorem fNi_seat_l2_b_ok (E : Nat × (Int → Int)) (d : Nat) {res : Int × WD} {rec : Int → WD → Option (Int × WD)} (y1 : Int) (y2 : Int) (K0 : WD → Option (Int × WD)) (hrec : ∀ (x3 : Int) (w : WD), rec x3 w = some res → G E mNi_seat (d + 3) 2 [(0, pR 19), (1, pI y1), (2, pI y2), (3, pI x3)] [] w RF NN 0 0 (some (pI res.1), res.2, RF, NN)) (hK0 : ∀ (w : WD), K0 w = some res → G E mNi_seat (d + 3) 37 [(0, pR 19), (1, pI y1), (2, pI y2)] [] w RF NN 0 0 (some (pI res.1), res.2, RF, NN)) (x3 : Int) (w : WD) (h : fNi_seat_l2_b rec y1 y2 K0 x3 w = some res) : G E mNi_seat (d + 3) 2 [(0, pR 19), (1, pI y1), (2, pI y2), (3, pI x3)] [] w RF NN 0 0 (some (pI res.1), res.2, RF, NN) := by
  unfold fNi_seat_l2_b at h
  refine g_iload_n (pc := 2) (j := 3) (dk d_mNi_seat 2 rfl) rfl ?_
  refine g_iconst (pc := 3) (dk d_mNi_seat 3 rfl) (by decide) ?_
  refine h_icmp_ge (pc := 4) (tgt := 37) (dk d_mNi_seat 4 rfl) rfl h (fun hc7 h => ?_) (fun hc7 h => ?_)
  · refine g_pick [0, 1, 2] rfl (l' := [(0, pR 19), (1, pI y1), (2, pI y2)]) rfl ?_
    exact hK0 _ h
  · refine g_iload_n (pc := 7) (j := 2) (dk d_mNi_seat 5 rfl) rfl ?_
    refine g_bipush (pc := 8) (dk d_mNi_seat 6 rfl) (by decide) ?_
    refine jn_e (fun J => ∀ (u1 : WD), J u1 = some res → G E mNi_seat (d + 3) 31 [(0, pR 19), (1, pI y1), (2, pI y2), (3, pI x3)] [] u1 RF NN 0 0 (some (pI res.1), res.2, RF, NN)) h (fun u1 h => ?_) (fun J3 hJ3 h => ?_)
    · refine h_iinc (pc := 31) (j := 3) (dk d_mNi_seat 19 rfl) rfl (by decide) (Nat.le_of_ble_eq_true rfl) h (fun v3_2 h => ?_)
      refine g_loc (l' := [(3, pI v3_2), (0, pR 19), (1, pI y1), (2, pI y2)]) rfl ?_
      refine g_goto (pc := 34) (tgt := 2) (dk d_mNi_seat 20 rfl) rfl ?_
      refine g_pick [1, 2, 3, 0] rfl (l' := [(0, pR 19), (1, pI y1), (2, pI y2), (3, pI v3_2)]) rfl ?_
      exact hrec _ _ h
    · refine h_icmp_eq (pc := 10) (tgt := 31) (dk d_mNi_seat 7 rfl) rfl h (fun hc6 h => ?_) (fun hc6 h => ?_)
      · exact hJ3 _ h
      · refine g_iload_n (pc := 13) (j := 3) (dk d_mNi_seat 8 rfl) rfl ?_
        refine g_iload_n (pc := 14) (j := 1) (dk d_mNi_seat 9 rfl) rfl ?_
        refine h_icmp_eq (pc := 15) (tgt := 31) (dk d_mNi_seat 10 rfl) rfl h (fun hc5 h => ?_) (fun hc5 h => ?_)
        · exact hJ3 _ h
        · refine g_aload_n (pc := 18) (j := 0) (dk d_mNi_seat 11 rfl) rfl (by decide) ?_
          refine g_getR (pc := 19) (a := 20) rfl fp_Ni_9 po_19 (dk d_mNi_seat 12 rfl) ?_
          refine g_iload_n (pc := 22) (j := 3) (dk d_mNi_seat 13 rfl) rfl ?_
          refine h_iald (pc := 23) (B := 5) pa_20 rfl (dk d_mNi_seat 14 rfl) h (fun h => ?_)
          refine g_iload_n (pc := 24) (j := 2) (dk d_mNi_seat 15 rfl) rfl ?_
          refine h_icmp_ne (pc := 25) (tgt := 31) (dk d_mNi_seat 16 rfl) rfl h (fun hc4 h => ?_) (fun hc4 h => ?_)
          · exact hJ3 _ h
          · refine g_bipush (pc := 28) (dk d_mNi_seat 17 rfl) (by decide) ?_
            exact h_iret (pc := 30) rfl (dk d_mNi_seat 18 rfl) h
set_option maxRecDepth 100000 in
set_option maxHeartbeats 4000000 in
theorem fNi_seat_l2_ok (E : Nat × (Int → Int)) (d : Nat) {res : Int × WD} (y1 : Int) (y2 : Int) (K0 : WD → Option (Int × WD)) (hK0 : ∀ (w : WD), K0 w = some res → G E mNi_seat (d + 3) 37 [(0, pR 19), (1, pI y1), (2, pI y2)] [] w RF NN 0 0 (some (pI res.1), res.2, RF, NN)) : ∀ (k : Nat) (x3 : Int) (w : WD), fNi_seat_l2 y1 y2 K0 k x3 w = some res → G E mNi_seat (d + 3) 2 [(0, pR 19), (1, pI y1), (2, pI y2), (3, pI x3)] [] w RF NN 0 0 (some (pI res.1), res.2, RF, NN) := by
  intro k
  induction k with
  | zero =>
    intro x3 w h
    exact no_e h
  | succ k ih =>
    intro x3 w h
    exact fNi_seat_l2_b_ok E d y1 y2 K0 ih hK0 x3 w h
def fNi_seat (a1 : Int) (a2 : Int) (w : WD) : Option (Int × WD) := fNi_seat_l2 a1 a2 (fun (u8 : WD) => ci (fNi_whoIs a1 u8) <| fun (r10 : Int) (u9 : WD) => ci (fNi_isIn a1 u9) <| fun (r13 : Int) (u12 : WD) => if r13 = 0 then (some (r10, u12)) else (ck (0 ≤ a1 ∧ a1 < 5) <| bw (up u12 20 a1 a2) <| fun (u15 : WD) => some (r10, u15))) FU 0 w
set_option maxRecDepth 100000 in
set_option maxHeartbeats 4000000 in
theorem gNi_seat (E : Nat × (Int → Int)) (d : Nat) {res : Int × WD} (a1 : Int) (a2 : Int) (w : WD) (h : fNi_seat a1 a2 w = some res) : G E mNi_seat (d + 3) 0 [(0, pR 19), (1, pI a1), (2, pI a2)] [] w RF NN 0 0 (some (pI res.1), res.2, RF, NN) := by
  unfold fNi_seat at h
  refine g_iconst (pc := 0) (dk d_mNi_seat 0 rfl) (by decide) ?_
  refine g_istore_n (pc := 1) (l' := [(3, pI 0), (0, pR 19), (1, pI a1), (2, pI a2)]) (dk d_mNi_seat 1 rfl) (Nat.le_of_ble_eq_true rfl) rfl ?_
  refine g_pick [1, 2, 3, 0] rfl (l' := [(0, pR 19), (1, pI a1), (2, pI a2), (3, pI 0)]) rfl ?_
  refine fNi_seat_l2_ok E d a1 a2 _  (fun u8 h => ?_) FU _  _ h
  · refine g_aload_n (pc := 37) (j := 0) (dk d_mNi_seat 21 rfl) rfl (by decide) ?_
    refine g_iload_n (pc := 38) (j := 1) (dk d_mNi_seat 22 rfl) rfl ?_
    refine h_callVi (d := d + 2) (pc := 39) (na := 1) (av := [pI a1]) (k0 := 19) po_19 ⟨_, rfl⟩ ⟨rfl, rfl⟩ (dk d_mNi_seat 23 rfl) lk_Ni_45 vm_mNi_whoIs rfl rfl (Nat.le_of_ble_eq_true rfl) h (fun r10 u9 hq => kNi_whoIs E (d + 0) hq) (fun r10 u9 hb11 h => ?_)
    refine g_istore_n (pc := 42) (l' := [(3, pI r10), (0, pR 19), (1, pI a1), (2, pI a2)]) (dk d_mNi_seat 24 rfl) (Nat.le_of_ble_eq_true rfl) rfl ?_
    refine g_iload_n (pc := 43) (j := 2) (dk d_mNi_seat 25 rfl) rfl ?_
    refine h_callSi (d := d + 2) (pc := 44) (na := 1) (av := [pI a1]) ⟨rfl, rfl⟩ (dk d_mNi_seat 26 rfl) lk_Ni_41 vm_mNi_isIn rfl rfl (Nat.le_of_ble_eq_true rfl) h (fun r13 u12 hq => kNi_isIn E (d + 1) hq) (fun r13 u12 hb14 h => ?_)
    refine h_if_eq (pc := 47) (tgt := 57) (dk d_mNi_seat 27 rfl) rfl h (fun hc16 h => ?_) (fun hc16 h => ?_)
    · refine g_iload_n (pc := 57) (j := 0) (dk d_mNi_seat 33 rfl) rfl ?_
      exact h_iret (pc := 58) rfl (dk d_mNi_seat 34 rfl) h
    · refine g_aload_n (pc := 50) (j := 1) (dk d_mNi_seat 28 rfl) rfl (by decide) ?_
      refine g_getR (pc := 51) (a := 20) rfl fp_Ni_9 po_19 (dk d_mNi_seat 29 rfl) ?_
      refine g_iload_n (pc := 54) (j := 2) (dk d_mNi_seat 30 rfl) rfl ?_
      refine g_iload_n (pc := 55) (j := 3) (dk d_mNi_seat 31 rfl) rfl ?_
      refine h_iast (pc := 56) (B := 5) pa_20 rfl (dk d_mNi_seat 32 rfl) h (fun u15 h => ?_)
      refine g_iload_n (pc := 57) (j := 0) (dk d_mNi_seat 33 rfl) rfl ?_
      exact h_iret (pc := 58) rfl (dk d_mNi_seat 34 rfl) h
set_option maxRecDepth 100000 in
set_option maxHeartbeats 4000000 in
theorem kNi_seat (E : Nat × (Int → Int)) (d : Nat) {a1 : Int} {a2 : Int} {w w1 : WD} {r : Int} (h : fNi_seat a1 a2 w = some (r, w1)) : CTi E mNi_seat (d + 3) [pR 19, pI a1, pI a2] w RF NN r w1 RF NN := by
  exact CTi_of (by decide +kernel) (Nat.le_of_ble_eq_true rfl) (Or.inl rfl) (gNi_seat (res := (r, w1)) E d a1 a2 w h)
def fB_behind (a1 : Int) (a2 : Int) (w : WD) : Option (Int × WD) := ci (fHa_isMask a1 w) <| fun (r2 : Int) (u1 : WD) => if r2 = 0 then (some ((-2000000000), u1)) else (ci (fHa_isOne a2 u1) <| fun (r5 : Int) (u4 : WD) => if r5 = 0 then (some ((-2000000000), u4)) else (ci (fNi_seat a1 a2 u4) <| fun (r8 : Int) (u7 : WD) => some (r8, u7)))
set_option maxRecDepth 100000 in
set_option maxHeartbeats 4000000 in
theorem gB_behind (E : Nat × (Int → Int)) (d : Nat) {res : Int × WD} (a1 : Int) (a2 : Int) (w : WD) (h : fB_behind a1 a2 w = some res) : G E mB_behind (d + 4) 0 [(0, pR 0), (1, pI a1), (2, pI a2)] [] w RF NN 0 0 (some (pI res.1), res.2, RF, NN) := by
  unfold fB_behind at h
  refine g_aload_n (pc := 0) (j := 0) (dk d_mB_behind 0 rfl) rfl (by decide) ?_
  refine g_getR (pc := 1) (a := 1) rfl fp_B_10 po_0 (dk d_mB_behind 1 rfl) ?_
  refine g_iload_n (pc := 4) (j := 1) (dk d_mB_behind 2 rfl) rfl ?_
  refine h_callVi (d := d + 3) (pc := 5) (na := 1) (av := [pI a1]) (k0 := 1) po_1 ⟨_, rfl⟩ ⟨rfl, rfl⟩ (dk d_mB_behind 3 rfl) lk_B_90 vm_mHa_isMask rfl rfl (Nat.le_of_ble_eq_true rfl) h (fun r2 u1 hq => kHa_isMask E (d + 2) hq) (fun r2 u1 hb3 h => ?_)
  refine h_if_eq (pc := 8) (tgt := 34) (dk d_mB_behind 4 rfl) rfl h (fun hc11 h => ?_) (fun hc11 h => ?_)
  · refine g_ldc (pc := 34) (u := (-2000000000)) ck_B_93 (by decide) (dk d_mB_behind 16 rfl) ?_
    exact h_iret (pc := 36) rfl (dk d_mB_behind 17 rfl) h
  · refine g_aload_n (pc := 11) (j := 0) (dk d_mB_behind 5 rfl) rfl (by decide) ?_
    refine g_getR (pc := 12) (a := 1) rfl fp_B_10 po_0 (dk d_mB_behind 6 rfl) ?_
    refine g_iload_n (pc := 15) (j := 2) (dk d_mB_behind 7 rfl) rfl ?_
    refine h_callVi (d := d + 3) (pc := 16) (na := 1) (av := [pI a2]) (k0 := 1) po_1 ⟨_, rfl⟩ ⟨rfl, rfl⟩ (dk d_mB_behind 8 rfl) lk_B_114 vm_mHa_isOne rfl rfl (Nat.le_of_ble_eq_true rfl) h (fun r5 u4 hq => kHa_isOne E (d + 2) hq) (fun r5 u4 hb6 h => ?_)
    refine h_if_eq (pc := 19) (tgt := 34) (dk d_mB_behind 9 rfl) rfl h (fun hc10 h => ?_) (fun hc10 h => ?_)
    · refine g_ldc (pc := 34) (u := (-2000000000)) ck_B_93 (by decide) (dk d_mB_behind 16 rfl) ?_
      exact h_iret (pc := 36) rfl (dk d_mB_behind 17 rfl) h
    · refine g_aload_n (pc := 22) (j := 0) (dk d_mB_behind 10 rfl) rfl (by decide) ?_
      refine g_getR (pc := 23) (a := 19) rfl fp_B_37 po_0 (dk d_mB_behind 11 rfl) ?_
      refine g_iload_n (pc := 26) (j := 1) (dk d_mB_behind 12 rfl) rfl ?_
      refine g_iload_n (pc := 27) (j := 2) (dk d_mB_behind 13 rfl) rfl ?_
      refine h_callVi (d := d + 3) (pc := 28) (na := 2) (av := [pI a1, pI a2]) (k0 := 19) po_19 ⟨_, rfl⟩ ⟨rfl, rfl⟩ (dk d_mB_behind 14 rfl) lk_B_269 vm_mNi_seat rfl rfl (Nat.le_of_ble_eq_true rfl) h (fun r8 u7 hq => kNi_seat E (d + 0) hq) (fun r8 u7 hb9 h => ?_)
      refine g_goto (pc := 31) (tgt := 36) (dk d_mB_behind 15 rfl) rfl ?_
      exact h_iret (pc := 36) rfl (dk d_mB_behind 17 rfl) h
set_option maxRecDepth 100000 in
set_option maxHeartbeats 4000000 in
theorem kB_behind (E : Nat × (Int → Int)) (d : Nat) {a1 : Int} {a2 : Int} {w w1 : WD} {r : Int} (h : fB_behind a1 a2 w = some (r, w1)) : CTi E mB_behind (d + 4) [pR 0, pI a1, pI a2] w RF NN r w1 RF NN := by
  exact CTi_of (by decide +kernel) (Nat.le_of_ble_eq_true rfl) (Or.inl rfl) (gB_behind (res := (r, w1)) E d a1 a2 w h)
def fNi_danceWith_l57_b (rec : Int → WD → Option (Int × WD)) (y1 : Int) (K0 : Int → WD → Option (Int × WD)) (x3 : Int) (w : WD) : Option (Int × WD) := if 3 ≤ x3 then (some ((-2), w)) else (ci (fHa_at y1 (w32 (4 + x3)) w) <| fun (r11 : Int) (u10 : WD) => if 0 ≤ r11 then (bv (w32 (x3 + 1)) <| fun (v3_13 : Int) => rec v3_13 u10) else (K0 x3 u10))
def fNi_danceWith_l57 (y1 : Int) (K0 : Int → WD → Option (Int × WD)) : Nat → Int → WD → Option (Int × WD)
  | 0 => fun _ _ => none
  | k + 1 => fNi_danceWith_l57_b ( fNi_danceWith_l57 y1 K0 k) y1 K0
set_option maxRecDepth 100000 in
set_option maxHeartbeats 4000000 in
theorem fNi_danceWith_l57_b_ok (E : Nat × (Int → Int)) (d : Nat) {res : Int × WD} {rec : Int → WD → Option (Int × WD)} (y1 : Int) (K0 : Int → WD → Option (Int × WD)) (hrec : ∀ (x3 : Int) (w : WD), rec x3 w = some res → G E mNi_danceWith (d + 3) 57 [(0, pR 19), (1, pI y1), (3, pI x3)] [] w RF NN 0 0 (some (pI res.1), res.2, RF, NN)) (hK0 : ∀ (x3 : Int) (w : WD), K0 x3 w = some res → G E mNi_danceWith (d + 3) 76 [(0, pR 19), (1, pI y1), (3, pI x3)] [] w RF NN 0 0 (some (pI res.1), res.2, RF, NN)) (x3 : Int) (w : WD) (h : fNi_danceWith_l57_b rec y1 K0 x3 w = some res) : G E mNi_danceWith (d + 3) 57 [(0, pR 19), (1, pI y1), (3, pI x3)] [] w RF NN 0 0 (some (pI res.1), res.2, RF, NN) := by
  unfold fNi_danceWith_l57_b at h
  refine g_iload_n (pc := 57) (j := 2) (dk d_mNi_danceWith 36 rfl) rfl ?_
  refine g_iconst (pc := 58) (dk d_mNi_danceWith 37 rfl) (by decide) ?_
  refine h_icmp_ge (pc := 59) (tgt := 127) (dk d_mNi_danceWith 38 rfl) rfl h (fun hc15 h => ?_) (fun hc15 h => ?_)
  · refine g_bipush (pc := 127) (dk d_mNi_danceWith 74 rfl) (by decide) ?_
    exact h_iret (pc := 129) rfl (dk d_mNi_danceWith 75 rfl) h
  · refine g_aload_n (pc := 62) (j := 0) (dk d_mNi_danceWith 39 rfl) rfl (by decide) ?_
    refine g_getR (pc := 63) (a := 1) rfl fp_Ni_37 po_19 (dk d_mNi_danceWith 40 rfl) ?_
    refine g_iload_n (pc := 66) (j := 1) (dk d_mNi_danceWith 41 rfl) rfl ?_
    refine g_iconst (pc := 67) (dk d_mNi_danceWith 42 rfl) (by decide) ?_
    refine g_iload_n (pc := 68) (j := 2) (dk d_mNi_danceWith 43 rfl) rfl ?_
    refine g_iadd (pc := 69) (dk d_mNi_danceWith 44 rfl) ?_
    refine h_callVi (d := d + 2) (pc := 70) (na := 2) (av := [pI y1, pI (w32 (4 + x3))]) (k0 := 1) po_1 ⟨_, rfl⟩ ⟨rfl, rfl⟩ (dk d_mNi_danceWith 45 rfl) lk_Ni_51 vm_mHa_at rfl rfl (Nat.le_of_ble_eq_true rfl) h (fun r11 u10 hq => kHa_at E (d + 0) hq) (fun r11 u10 hb12 h => ?_)
    refine h_if_ge (pc := 73) (tgt := 121) (dk d_mNi_danceWith 46 rfl) rfl h (fun hc14 h => ?_) (fun hc14 h => ?_)
    · refine h_iinc (pc := 121) (j := 2) (dk d_mNi_danceWith 72 rfl) rfl (by decide) (Nat.le_of_ble_eq_true rfl) h (fun v3_13 h => ?_)
      refine g_loc (l' := [(3, pI v3_13), (0, pR 19), (1, pI y1)]) rfl ?_
      refine g_goto (pc := 124) (tgt := 57) (dk d_mNi_danceWith 73 rfl) rfl ?_
      refine g_pick [1, 2, 0] rfl (l' := [(0, pR 19), (1, pI y1), (3, pI v3_13)]) rfl ?_
      exact hrec _ _ h
    · exact hK0 _ _ h
set_option maxRecDepth 100000 in
set_option maxHeartbeats 4000000 in
theorem fNi_danceWith_l57_ok (E : Nat × (Int → Int)) (d : Nat) {res : Int × WD} (y1 : Int) (K0 : Int → WD → Option (Int × WD)) (hK0 : ∀ (x3 : Int) (w : WD), K0 x3 w = some res → G E mNi_danceWith (d + 3) 76 [(0, pR 19), (1, pI y1), (3, pI x3)] [] w RF NN 0 0 (some (pI res.1), res.2, RF, NN)) : ∀ (k : Nat) (x3 : Int) (w : WD), fNi_danceWith_l57 y1 K0 k x3 w = some res → G E mNi_danceWith (d + 3) 57 [(0, pR 19), (1, pI y1), (3, pI x3)] [] w RF NN 0 0 (some (pI res.1), res.2, RF, NN) := by
  intro k
  induction k with
  | zero =>
    intro x3 w h
    exact no_e h
  | succ k ih =>
    intro x3 w h
    exact fNi_danceWith_l57_b_ok E d y1 K0 ih hK0 x3 w h
def fNi_danceWith (a1 : Int) (w : WD) : Option (Int × WD) := ci (fHa_at 0 12 w) <| fun (r2 : Int) (u1 : WD) => bv (w32 ((w 22 0) + r2)) <| fun (v2_4 : Int) => ci (fNi_whoIs a1 u1) <| fun (r6 : Int) (u5 : WD) => if r6 = (-2) then (some ((-5), u5)) else (if v2_4 ≤ 999 then (bw (up u5 22 0 v2_4) <| fun (u8 : WD) => bw (up u8 22 1 (w32 ((u8 22 1) + 1))) <| fun (u9 : WD) => fNi_danceWith_l57 a1 (fun (v3_16 : Int) (u17 : WD) => ci (fNi_whoIs a1 u17) <| fun (r19 : Int) (u18 : WD) => jn (β := Int → WD → Option (Int × WD)) (fun (s21 : Int) (u22 : WD) => cv (fHa_note a1 (w32 (4 + v3_16)) s21 u22) <| fun (u23 : WD) => some (s21, u23)) <| fun J24 => if r19 ≠ 6 then (ci (fNi_whoIs a1 u18) <| fun (r26 : Int) (u25 : WD) => ci (fHa_at r26 v3_16 u25) <| fun (r29 : Int) (u28 : WD) => J24 r29 u28) else (J24 3 u18)) FU 0 u9) else (some ((-5), u5)))
set_option maxRecDepth 100000 in
set_option maxHeartbeats 4000000 in
theorem gNi_danceWith (E : Nat × (Int → Int)) (d : Nat) {res : Int × WD} (a1 : Int) (w : WD) (h : fNi_danceWith a1 w = some res) : G E mNi_danceWith (d + 3) 0 [(0, pR 19), (1, pI a1)] [] w RF NN 0 0 (some (pI res.1), res.2, RF, NN) := by
  unfold fNi_danceWith at h
  refine g_aload_n (pc := 0) (j := 0) (dk d_mNi_danceWith 0 rfl) rfl (by decide) ?_
  refine g_getR (pc := 1) (a := 22) rfl fp_Ni_18 po_19 (dk d_mNi_danceWith 1 rfl) ?_
  refine g_iconst (pc := 4) (dk d_mNi_danceWith 2 rfl) (by decide) ?_
  refine g_iald (pc := 5) pa_22 (dk d_mNi_danceWith 3 rfl) (by decide) ?_
  refine g_aload_n (pc := 6) (j := 0) (dk d_mNi_danceWith 4 rfl) rfl (by decide) ?_
  refine g_getR (pc := 7) (a := 1) rfl fp_Ni_37 po_19 (dk d_mNi_danceWith 5 rfl) ?_
  refine g_iconst (pc := 10) (dk d_mNi_danceWith 6 rfl) (by decide) ?_
  refine g_bipush (pc := 11) (dk d_mNi_danceWith 7 rfl) (by decide) ?_
  refine h_callVi (d := d + 2) (pc := 13) (na := 2) (av := [pI 0, pI 12]) (k0 := 1) po_1 ⟨_, rfl⟩ ⟨rfl, rfl⟩ (dk d_mNi_danceWith 8 rfl) lk_Ni_51 vm_mHa_at rfl rfl (Nat.le_of_ble_eq_true rfl) h (fun r2 u1 hq => kHa_at E (d + 0) hq) (fun r2 u1 hb3 h => ?_)
  refine g_iadd (pc := 16) (dk d_mNi_danceWith 9 rfl) ?_
  refine h_bvI h (fun v2_4 h => ?_)
  refine g_istore_n (pc := 17) (l' := [(2, pI v2_4), (0, pR 19), (1, pI a1)]) (dk d_mNi_danceWith 10 rfl) (Nat.le_of_ble_eq_true rfl) rfl ?_
  refine g_aload_n (pc := 18) (j := 1) (dk d_mNi_danceWith 11 rfl) rfl (by decide) ?_
  refine g_iload_n (pc := 19) (j := 2) (dk d_mNi_danceWith 12 rfl) rfl ?_
  refine h_callVi (d := d + 2) (pc := 20) (na := 1) (av := [pI a1]) (k0 := 19) po_19 ⟨_, rfl⟩ ⟨rfl, rfl⟩ (dk d_mNi_danceWith 13 rfl) lk_Ni_45 vm_mNi_whoIs rfl rfl (Nat.le_of_ble_eq_true rfl) h (fun r6 u5 hq => kNi_whoIs E (d + 0) hq) (fun r6 u5 hb7 h => ?_)
  refine g_bipush (pc := 23) (dk d_mNi_danceWith 14 rfl) (by decide) ?_
  refine h_icmp_eq (pc := 25) (tgt := 35) (dk d_mNi_danceWith 15 rfl) rfl h (fun hc33 h => ?_) (fun hc33 h => ?_)
  · refine g_bipush (pc := 35) (dk d_mNi_danceWith 19 rfl) (by decide) ?_
    exact h_iret (pc := 37) rfl (dk d_mNi_danceWith 20 rfl) h
  · refine g_iload_n (pc := 28) (j := 0) (dk d_mNi_danceWith 16 rfl) rfl ?_
    refine g_sipush (pc := 29) (dk d_mNi_danceWith 17 rfl) (by decide) ?_
    refine h_icmp_le (pc := 32) (tgt := 38) (dk d_mNi_danceWith 18 rfl) rfl h (fun hc32 h => ?_) (fun hc32 h => ?_)
    · refine g_aload_n (pc := 38) (j := 1) (dk d_mNi_danceWith 21 rfl) rfl (by decide) ?_
      refine g_getR (pc := 39) (a := 22) rfl fp_Ni_18 po_19 (dk d_mNi_danceWith 22 rfl) ?_
      refine g_iconst (pc := 42) (dk d_mNi_danceWith 23 rfl) (by decide) ?_
      refine g_iload_n (pc := 43) (j := 0) (dk d_mNi_danceWith 24 rfl) rfl ?_
      refine h_iast0 (pc := 44) pa_22 (dk d_mNi_danceWith 25 rfl) (by decide) h (fun u8 h => ?_)
      refine g_aload_n (pc := 45) (j := 1) (dk d_mNi_danceWith 26 rfl) rfl (by decide) ?_
      refine g_getR (pc := 46) (a := 22) rfl fp_Ni_18 po_19 (dk d_mNi_danceWith 27 rfl) ?_
      refine g_iconst (pc := 49) (dk d_mNi_danceWith 28 rfl) (by decide) ?_
      refine g_dup2 (pc := 50) (dk d_mNi_danceWith 29 rfl) rfl rfl ?_
      refine g_iald (pc := 51) pa_22 (dk d_mNi_danceWith 30 rfl) (by decide) ?_
      refine g_iconst (pc := 52) (dk d_mNi_danceWith 31 rfl) (by decide) ?_
      refine g_iadd (pc := 53) (dk d_mNi_danceWith 32 rfl) ?_
      refine h_iast0 (pc := 54) pa_22 (dk d_mNi_danceWith 33 rfl) (by decide) h (fun u9 h => ?_)
      refine g_iconst (pc := 55) (dk d_mNi_danceWith 34 rfl) (by decide) ?_
      refine g_istore_n (pc := 56) (l' := [(3, pI 0), (2, pI v2_4), (0, pR 19), (1, pI a1)]) (dk d_mNi_danceWith 35 rfl) (Nat.le_of_ble_eq_true rfl) rfl ?_
      refine g_pick [2, 3, 0] rfl (l' := [(0, pR 19), (1, pI a1), (3, pI 0)]) rfl ?_
      refine fNi_danceWith_l57_ok E d a1 _  (fun v3_16 u17 h => ?_) FU _  _ h
      · refine g_aload_n (pc := 76) (j := 0) (dk d_mNi_danceWith 47 rfl) rfl (by decide) ?_
        refine g_iload_n (pc := 77) (j := 1) (dk d_mNi_danceWith 48 rfl) rfl ?_
        refine h_callVi (d := d + 2) (pc := 78) (na := 1) (av := [pI a1]) (k0 := 19) po_19 ⟨_, rfl⟩ ⟨rfl, rfl⟩ (dk d_mNi_danceWith 49 rfl) lk_Ni_45 vm_mNi_whoIs rfl rfl (Nat.le_of_ble_eq_true rfl) h (fun r19 u18 hq => kNi_whoIs E (d + 0) hq) (fun r19 u18 hb20 h => ?_)
        refine g_bipush (pc := 81) (dk d_mNi_danceWith 50 rfl) (by decide) ?_
        refine jn_e (fun J => ∀ (s21 : Int) (u22 : WD), J s21 u22 = some res → G E mNi_danceWith (d + 3) 103 [(0, pR 19), (1, pI a1), (3, pI v3_16)] [pI s21] u22 RF NN 0 0 (some (pI res.1), res.2, RF, NN)) h (fun s21 u22 h => ?_) (fun J24 hJ24 h => ?_)
        · refine g_istore (pc := 103) (l' := [(4, pI s21), (0, pR 19), (1, pI a1), (3, pI v3_16)]) (dk d_mNi_danceWith 61 rfl) (Nat.le_of_ble_eq_true rfl) rfl ?_
          refine g_aload_n (pc := 105) (j := 1) (dk d_mNi_danceWith 62 rfl) rfl (by decide) ?_
          refine g_getR (pc := 106) (a := 1) rfl fp_Ni_37 po_19 (dk d_mNi_danceWith 63 rfl) ?_
          refine g_iload_n (pc := 109) (j := 2) (dk d_mNi_danceWith 64 rfl) rfl ?_
          refine g_iconst (pc := 110) (dk d_mNi_danceWith 65 rfl) (by decide) ?_
          refine g_iload_n (pc := 111) (j := 3) (dk d_mNi_danceWith 66 rfl) rfl ?_
          refine g_iadd (pc := 112) (dk d_mNi_danceWith 67 rfl) ?_
          refine g_iload (pc := 113) (j := 0) (dk d_mNi_danceWith 68 rfl) rfl ?_
          refine h_callVv (d := d + 2) (pc := 115) (na := 3) (av := [pI a1, pI (w32 (4 + v3_16)), pI s21]) (k0 := 1) po_1 ⟨_, rfl⟩ ⟨rfl, rfl⟩ (dk d_mNi_danceWith 69 rfl) lk_Ni_55 vm_mHa_note rfl rfl (Nat.le_of_ble_eq_true rfl) h (fun u23 hq => kHa_note E (d + 0) hq) (fun u23 h => ?_)
          refine g_iload (pc := 118) (j := 0) (dk d_mNi_danceWith 70 rfl) rfl ?_
          exact h_iret (pc := 120) rfl (dk d_mNi_danceWith 71 rfl) h
        · refine h_icmp_ne (pc := 83) (tgt := 90) (dk d_mNi_danceWith 51 rfl) rfl h (fun hc31 h => ?_) (fun hc31 h => ?_)
          · refine g_aload_n (pc := 90) (j := 0) (dk d_mNi_danceWith 54 rfl) rfl (by decide) ?_
            refine g_getR (pc := 91) (a := 1) rfl fp_Ni_37 po_19 (dk d_mNi_danceWith 55 rfl) ?_
            refine g_aload_n (pc := 94) (j := 0) (dk d_mNi_danceWith 56 rfl) rfl (by decide) ?_
            refine g_iload_n (pc := 95) (j := 1) (dk d_mNi_danceWith 57 rfl) rfl ?_
            refine h_callVi (d := d + 2) (pc := 96) (na := 1) (av := [pI a1]) (k0 := 19) po_19 ⟨_, rfl⟩ ⟨rfl, rfl⟩ (dk d_mNi_danceWith 58 rfl) lk_Ni_45 vm_mNi_whoIs rfl rfl (Nat.le_of_ble_eq_true rfl) h (fun r26 u25 hq => kNi_whoIs E (d + 0) hq) (fun r26 u25 hb27 h => ?_)
            refine g_iload_n (pc := 99) (j := 2) (dk d_mNi_danceWith 59 rfl) rfl ?_
            refine h_callVi (d := d + 2) (pc := 100) (na := 2) (av := [pI r26, pI v3_16]) (k0 := 1) po_1 ⟨_, rfl⟩ ⟨rfl, rfl⟩ (dk d_mNi_danceWith 60 rfl) lk_Ni_51 vm_mHa_at rfl rfl (Nat.le_of_ble_eq_true rfl) h (fun r29 u28 hq => kHa_at E (d + 0) hq) (fun r29 u28 hb30 h => ?_)
            exact hJ24 _ _ h
          · refine g_iconst (pc := 86) (dk d_mNi_danceWith 52 rfl) (by decide) ?_
            refine g_goto (pc := 87) (tgt := 103) (dk d_mNi_danceWith 53 rfl) rfl ?_
            exact hJ24 _ _ h
    · refine g_bipush (pc := 35) (dk d_mNi_danceWith 19 rfl) (by decide) ?_
      exact h_iret (pc := 37) rfl (dk d_mNi_danceWith 20 rfl) h
set_option maxRecDepth 100000 in
set_option maxHeartbeats 4000000 in
theorem kNi_danceWith (E : Nat × (Int → Int)) (d : Nat) {a1 : Int} {w w1 : WD} {r : Int} (h : fNi_danceWith a1 w = some (r, w1)) : CTi E mNi_danceWith (d + 3) [pR 19, pI a1] w RF NN r w1 RF NN := by
  exact CTi_of (by decide +kernel) (Nat.le_of_ble_eq_true rfl) (Or.inl rfl) (gNi_danceWith (res := (r, w1)) E d a1 w h)
def fB_dance (a1 : Int) (w : WD) : Option (Int × WD) := ci (fHa_isMask a1 w) <| fun (r2 : Int) (u1 : WD) => if r2 = 0 then (some ((-1), u1)) else (ci (fNi_danceWith a1 u1) <| fun (r5 : Int) (u4 : WD) => some (r5, u4))
set_option maxRecDepth 100000 in
set_option maxHeartbeats 4000000 in
theorem gB_dance (E : Nat × (Int → Int)) (d : Nat) {res : Int × WD} (a1 : Int) (w : WD) (h : fB_dance a1 w = some res) : G E mB_dance (d + 4) 0 [(0, pR 0), (1, pI a1)] [] w RF NN 0 0 (some (pI res.1), res.2, RF, NN) := by
  unfold fB_dance at h
  refine g_aload_n (pc := 0) (j := 0) (dk d_mB_dance 0 rfl) rfl (by decide) ?_
  refine g_getR (pc := 1) (a := 1) rfl fp_B_10 po_0 (dk d_mB_dance 1 rfl) ?_
  refine g_iload_n (pc := 4) (j := 1) (dk d_mB_dance 2 rfl) rfl ?_
  refine h_callVi (d := d + 3) (pc := 5) (na := 1) (av := [pI a1]) (k0 := 1) po_1 ⟨_, rfl⟩ ⟨rfl, rfl⟩ (dk d_mB_dance 3 rfl) lk_B_90 vm_mHa_isMask rfl rfl (Nat.le_of_ble_eq_true rfl) h (fun r2 u1 hq => kHa_isMask E (d + 2) hq) (fun r2 u1 hb3 h => ?_)
  refine h_if_eq (pc := 8) (tgt := 22) (dk d_mB_dance 4 rfl) rfl h (fun hc7 h => ?_) (fun hc7 h => ?_)
  · refine g_iconst (pc := 22) (dk d_mB_dance 10 rfl) (by decide) ?_
    exact h_iret (pc := 23) rfl (dk d_mB_dance 11 rfl) h
  · refine g_aload_n (pc := 11) (j := 0) (dk d_mB_dance 5 rfl) rfl (by decide) ?_
    refine g_getR (pc := 12) (a := 19) rfl fp_B_37 po_0 (dk d_mB_dance 6 rfl) ?_
    refine g_iload_n (pc := 15) (j := 1) (dk d_mB_dance 7 rfl) rfl ?_
    refine h_callVi (d := d + 3) (pc := 16) (na := 1) (av := [pI a1]) (k0 := 19) po_19 ⟨_, rfl⟩ ⟨rfl, rfl⟩ (dk d_mB_dance 8 rfl) lk_B_272 vm_mNi_danceWith rfl rfl (Nat.le_of_ble_eq_true rfl) h (fun r5 u4 hq => kNi_danceWith E (d + 0) hq) (fun r5 u4 hb6 h => ?_)
    refine g_goto (pc := 19) (tgt := 23) (dk d_mB_dance 9 rfl) rfl ?_
    exact h_iret (pc := 23) rfl (dk d_mB_dance 11 rfl) h
set_option maxRecDepth 100000 in
set_option maxHeartbeats 4000000 in
theorem kB_dance (E : Nat × (Int → Int)) (d : Nat) {a1 : Int} {w w1 : WD} {r : Int} (h : fB_dance a1 w = some (r, w1)) : CTi E mB_dance (d + 4) [pR 0, pI a1] w RF NN r w1 RF NN := by
  exact CTi_of (by decide +kernel) (Nat.le_of_ble_eq_true rfl) (Or.inl rfl) (gB_dance (res := (r, w1)) E d a1 w h)
def fNi_trade (a1 : Int) (a2 : Int) (w : WD) : Option (Int × WD) := ci (fNi_isIn a1 w) <| fun (r2 : Int) (u1 : WD) => if r2 = 0 then (some ((-5), u1)) else (ci (fNi_isIn a2 u1) <| fun (r5 : Int) (u4 : WD) => if r5 = 0 then (some ((-5), u4)) else (ck (0 ≤ a1 ∧ a1 < 5) <| if (u4 20 a1) = (-2) then (some ((-5), u4)) else (ck (0 ≤ a2 ∧ a2 < 5) <| if (u4 20 a2) ≠ (-2) then (ck (0 ≤ a1 ∧ a1 < 5) <| bv (u4 20 a1) <| fun (v3_7 : Int) => ck (0 ≤ a2 ∧ a2 < 5) <| ck (0 ≤ a1 ∧ a1 < 5) <| bw (up u4 20 a1 (u4 20 a2)) <| fun (u8 : WD) => ck (0 ≤ a2 ∧ a2 < 5) <| bw (up u8 20 a2 v3_7) <| fun (u9 : WD) => bw (up u9 22 4 (w32 ((u9 22 4) + 1))) <| fun (u10 : WD) => some ((u10 22 4), u10)) else (some ((-5), u4)))))
set_option maxRecDepth 100000 in
set_option maxHeartbeats 4000000 in
theorem gNi_trade (E : Nat × (Int → Int)) (d : Nat) {res : Int × WD} (a1 : Int) (a2 : Int) (w : WD) (h : fNi_trade a1 a2 w = some res) : G E mNi_trade (d + 2) 0 [(0, pR 19), (1, pI a1), (2, pI a2)] [] w RF NN 0 0 (some (pI res.1), res.2, RF, NN) := by
  unfold fNi_trade at h
  refine g_iload_n (pc := 0) (j := 1) (dk d_mNi_trade 0 rfl) rfl ?_
  refine h_callSi (d := d + 1) (pc := 1) (na := 1) (av := [pI a1]) ⟨rfl, rfl⟩ (dk d_mNi_trade 1 rfl) lk_Ni_41 vm_mNi_isIn rfl rfl (Nat.le_of_ble_eq_true rfl) h (fun r2 u1 hq => kNi_isIn E (d + 0) hq) (fun r2 u1 hb3 h => ?_)
  refine h_if_eq (pc := 4) (tgt := 36) (dk d_mNi_trade 2 rfl) rfl h (fun hc14 h => ?_) (fun hc14 h => ?_)
  · refine g_bipush (pc := 36) (dk d_mNi_trade 18 rfl) (by decide) ?_
    exact h_iret (pc := 38) rfl (dk d_mNi_trade 19 rfl) h
  · refine g_iload_n (pc := 7) (j := 2) (dk d_mNi_trade 3 rfl) rfl ?_
    refine h_callSi (d := d + 1) (pc := 8) (na := 1) (av := [pI a2]) ⟨rfl, rfl⟩ (dk d_mNi_trade 4 rfl) lk_Ni_41 vm_mNi_isIn rfl rfl (Nat.le_of_ble_eq_true rfl) h (fun r5 u4 hq => kNi_isIn E (d + 0) hq) (fun r5 u4 hb6 h => ?_)
    refine h_if_eq (pc := 11) (tgt := 36) (dk d_mNi_trade 5 rfl) rfl h (fun hc13 h => ?_) (fun hc13 h => ?_)
    · refine g_bipush (pc := 36) (dk d_mNi_trade 18 rfl) (by decide) ?_
      exact h_iret (pc := 38) rfl (dk d_mNi_trade 19 rfl) h
    · refine g_aload_n (pc := 14) (j := 0) (dk d_mNi_trade 6 rfl) rfl (by decide) ?_
      refine g_getR (pc := 15) (a := 20) rfl fp_Ni_9 po_19 (dk d_mNi_trade 7 rfl) ?_
      refine g_iload_n (pc := 18) (j := 1) (dk d_mNi_trade 8 rfl) rfl ?_
      refine h_iald (pc := 19) (B := 5) pa_20 rfl (dk d_mNi_trade 9 rfl) h (fun h => ?_)
      refine g_bipush (pc := 20) (dk d_mNi_trade 10 rfl) (by decide) ?_
      refine h_icmp_eq (pc := 22) (tgt := 36) (dk d_mNi_trade 11 rfl) rfl h (fun hc12 h => ?_) (fun hc12 h => ?_)
      · refine g_bipush (pc := 36) (dk d_mNi_trade 18 rfl) (by decide) ?_
        exact h_iret (pc := 38) rfl (dk d_mNi_trade 19 rfl) h
      · refine g_aload_n (pc := 25) (j := 0) (dk d_mNi_trade 12 rfl) rfl (by decide) ?_
        refine g_getR (pc := 26) (a := 20) rfl fp_Ni_9 po_19 (dk d_mNi_trade 13 rfl) ?_
        refine g_iload_n (pc := 29) (j := 2) (dk d_mNi_trade 14 rfl) rfl ?_
        refine h_iald (pc := 30) (B := 5) pa_20 rfl (dk d_mNi_trade 15 rfl) h (fun h => ?_)
        refine g_bipush (pc := 31) (dk d_mNi_trade 16 rfl) (by decide) ?_
        refine h_icmp_ne (pc := 33) (tgt := 39) (dk d_mNi_trade 17 rfl) rfl h (fun hc11 h => ?_) (fun hc11 h => ?_)
        · refine g_aload_n (pc := 39) (j := 0) (dk d_mNi_trade 20 rfl) rfl (by decide) ?_
          refine g_getR (pc := 40) (a := 20) rfl fp_Ni_9 po_19 (dk d_mNi_trade 21 rfl) ?_
          refine g_iload_n (pc := 43) (j := 1) (dk d_mNi_trade 22 rfl) rfl ?_
          refine h_iald (pc := 44) (B := 5) pa_20 rfl (dk d_mNi_trade 23 rfl) h (fun h => ?_)
          refine h_bvI h (fun v3_7 h => ?_)
          refine g_istore_n (pc := 45) (l' := [(3, pI v3_7), (0, pR 19), (1, pI a1), (2, pI a2)]) (dk d_mNi_trade 24 rfl) (Nat.le_of_ble_eq_true rfl) rfl ?_
          refine g_aload_n (pc := 46) (j := 1) (dk d_mNi_trade 25 rfl) rfl (by decide) ?_
          refine g_getR (pc := 47) (a := 20) rfl fp_Ni_9 po_19 (dk d_mNi_trade 26 rfl) ?_
          refine g_iload_n (pc := 50) (j := 2) (dk d_mNi_trade 27 rfl) rfl ?_
          refine g_aload_n (pc := 51) (j := 1) (dk d_mNi_trade 28 rfl) rfl (by decide) ?_
          refine g_getR (pc := 52) (a := 20) rfl fp_Ni_9 po_19 (dk d_mNi_trade 29 rfl) ?_
          refine g_iload_n (pc := 55) (j := 3) (dk d_mNi_trade 30 rfl) rfl ?_
          refine h_iald (pc := 56) (B := 5) pa_20 rfl (dk d_mNi_trade 31 rfl) h (fun h => ?_)
          refine h_iast (pc := 57) (B := 5) pa_20 rfl (dk d_mNi_trade 32 rfl) h (fun u8 h => ?_)
          refine g_aload_n (pc := 58) (j := 1) (dk d_mNi_trade 33 rfl) rfl (by decide) ?_
          refine g_getR (pc := 59) (a := 20) rfl fp_Ni_9 po_19 (dk d_mNi_trade 34 rfl) ?_
          refine g_iload_n (pc := 62) (j := 3) (dk d_mNi_trade 35 rfl) rfl ?_
          refine g_iload_n (pc := 63) (j := 0) (dk d_mNi_trade 36 rfl) rfl ?_
          refine h_iast (pc := 64) (B := 5) pa_20 rfl (dk d_mNi_trade 37 rfl) h (fun u9 h => ?_)
          refine g_aload_n (pc := 65) (j := 1) (dk d_mNi_trade 38 rfl) rfl (by decide) ?_
          refine g_getR (pc := 66) (a := 22) rfl fp_Ni_18 po_19 (dk d_mNi_trade 39 rfl) ?_
          refine g_iconst (pc := 69) (dk d_mNi_trade 40 rfl) (by decide) ?_
          refine g_dup2 (pc := 70) (dk d_mNi_trade 41 rfl) rfl rfl ?_
          refine g_iald (pc := 71) pa_22 (dk d_mNi_trade 42 rfl) (by decide) ?_
          refine g_iconst (pc := 72) (dk d_mNi_trade 43 rfl) (by decide) ?_
          refine g_iadd (pc := 73) (dk d_mNi_trade 44 rfl) ?_
          refine h_iast0 (pc := 74) pa_22 (dk d_mNi_trade 45 rfl) (by decide) h (fun u10 h => ?_)
          refine g_aload_n (pc := 75) (j := 1) (dk d_mNi_trade 46 rfl) rfl (by decide) ?_
          refine g_getR (pc := 76) (a := 22) rfl fp_Ni_18 po_19 (dk d_mNi_trade 47 rfl) ?_
          refine g_iconst (pc := 79) (dk d_mNi_trade 48 rfl) (by decide) ?_
          refine g_iald (pc := 80) pa_22 (dk d_mNi_trade 49 rfl) (by decide) ?_
          exact h_iret (pc := 81) rfl (dk d_mNi_trade 50 rfl) h
        · refine g_bipush (pc := 36) (dk d_mNi_trade 18 rfl) (by decide) ?_
          exact h_iret (pc := 38) rfl (dk d_mNi_trade 19 rfl) h
set_option maxRecDepth 100000 in
set_option maxHeartbeats 4000000 in
theorem kNi_trade (E : Nat × (Int → Int)) (d : Nat) {a1 : Int} {a2 : Int} {w w1 : WD} {r : Int} (h : fNi_trade a1 a2 w = some (r, w1)) : CTi E mNi_trade (d + 2) [pR 19, pI a1, pI a2] w RF NN r w1 RF NN := by
  exact CTi_of (by decide +kernel) (Nat.le_of_ble_eq_true rfl) (Or.inl rfl) (gNi_trade (res := (r, w1)) E d a1 a2 w h)
def fB_swap (a1 : Int) (w : WD) : Option (Int × WD) := bv (w32 (Int.tdiv a1 10)) <| fun (v2_1 : Int) => bv (Int.tmod a1 10) <| fun (v3_2 : Int) => if a1 < 0 then (some ((-1), w)) else (if v2_1 = v3_2 then (some ((-1), w)) else (ci (fHa_isMask v2_1 w) <| fun (r4 : Int) (u3 : WD) => if r4 = 0 then (some ((-1), u3)) else (ci (fHa_isMask v3_2 u3) <| fun (r7 : Int) (u6 : WD) => if r7 ≠ 0 then (ci (fNi_trade v2_1 v3_2 u6) <| fun (r10 : Int) (u9 : WD) => some (r10, u9)) else (some ((-1), u6)))))
set_option maxRecDepth 100000 in
set_option maxHeartbeats 4000000 in
theorem gB_swap (E : Nat × (Int → Int)) (d : Nat) {res : Int × WD} (a1 : Int) (w : WD) (h : fB_swap a1 w = some res) : G E mB_swap (d + 3) 0 [(0, pR 0), (1, pI a1)] [] w RF NN 0 0 (some (pI res.1), res.2, RF, NN) := by
  unfold fB_swap at h
  refine g_iload_n (pc := 0) (j := 1) (dk d_mB_swap 0 rfl) rfl ?_
  refine g_bipush (pc := 1) (dk d_mB_swap 1 rfl) (by decide) ?_
  refine g_idiv (pc := 3) (dk d_mB_swap 2 rfl) (by decide) ?_
  refine h_bvI h (fun v2_1 h => ?_)
  refine g_istore_n (pc := 4) (l' := [(2, pI v2_1), (0, pR 0), (1, pI a1)]) (dk d_mB_swap 3 rfl) (Nat.le_of_ble_eq_true rfl) rfl ?_
  refine g_iload_n (pc := 5) (j := 2) (dk d_mB_swap 4 rfl) rfl ?_
  refine g_bipush (pc := 6) (dk d_mB_swap 5 rfl) (by decide) ?_
  refine g_irem (pc := 8) (dk d_mB_swap 6 rfl) (by decide) ?_
  refine h_bvI h (fun v3_2 h => ?_)
  refine g_istore_n (pc := 9) (l' := [(3, pI v3_2), (2, pI v2_1), (0, pR 0), (1, pI a1)]) (dk d_mB_swap 7 rfl) (Nat.le_of_ble_eq_true rfl) rfl ?_
  refine g_iload_n (pc := 10) (j := 3) (dk d_mB_swap 8 rfl) rfl ?_
  refine h_if_lt (pc := 11) (tgt := 41) (dk d_mB_swap 9 rfl) rfl h (fun hc15 h => ?_) (fun hc15 h => ?_)
  · refine g_iconst (pc := 41) (dk d_mB_swap 23 rfl) (by decide) ?_
    exact h_iret (pc := 42) rfl (dk d_mB_swap 24 rfl) h
  · refine g_iload_n (pc := 14) (j := 1) (dk d_mB_swap 10 rfl) rfl ?_
    refine g_iload_n (pc := 15) (j := 0) (dk d_mB_swap 11 rfl) rfl ?_
    refine h_icmp_eq (pc := 16) (tgt := 41) (dk d_mB_swap 12 rfl) rfl h (fun hc14 h => ?_) (fun hc14 h => ?_)
    · refine g_iconst (pc := 41) (dk d_mB_swap 23 rfl) (by decide) ?_
      exact h_iret (pc := 42) rfl (dk d_mB_swap 24 rfl) h
    · refine g_aload_n (pc := 19) (j := 2) (dk d_mB_swap 13 rfl) rfl (by decide) ?_
      refine g_getR (pc := 20) (a := 1) rfl fp_B_10 po_0 (dk d_mB_swap 14 rfl) ?_
      refine g_iload_n (pc := 23) (j := 1) (dk d_mB_swap 15 rfl) rfl ?_
      refine h_callVi (d := d + 2) (pc := 24) (na := 1) (av := [pI v2_1]) (k0 := 1) po_1 ⟨_, rfl⟩ ⟨rfl, rfl⟩ (dk d_mB_swap 16 rfl) lk_B_90 vm_mHa_isMask rfl rfl (Nat.le_of_ble_eq_true rfl) h (fun r4 u3 hq => kHa_isMask E (d + 1) hq) (fun r4 u3 hb5 h => ?_)
      refine h_if_eq (pc := 27) (tgt := 41) (dk d_mB_swap 17 rfl) rfl h (fun hc13 h => ?_) (fun hc13 h => ?_)
      · refine g_iconst (pc := 41) (dk d_mB_swap 23 rfl) (by decide) ?_
        exact h_iret (pc := 42) rfl (dk d_mB_swap 24 rfl) h
      · refine g_aload_n (pc := 30) (j := 2) (dk d_mB_swap 18 rfl) rfl (by decide) ?_
        refine g_getR (pc := 31) (a := 1) rfl fp_B_10 po_0 (dk d_mB_swap 19 rfl) ?_
        refine g_iload_n (pc := 34) (j := 0) (dk d_mB_swap 20 rfl) rfl ?_
        refine h_callVi (d := d + 2) (pc := 35) (na := 1) (av := [pI v3_2]) (k0 := 1) po_1 ⟨_, rfl⟩ ⟨rfl, rfl⟩ (dk d_mB_swap 21 rfl) lk_B_90 vm_mHa_isMask rfl rfl (Nat.le_of_ble_eq_true rfl) h (fun r7 u6 hq => kHa_isMask E (d + 1) hq) (fun r7 u6 hb8 h => ?_)
        refine h_if_ne (pc := 38) (tgt := 43) (dk d_mB_swap 22 rfl) rfl h (fun hc12 h => ?_) (fun hc12 h => ?_)
        · refine g_aload_n (pc := 43) (j := 2) (dk d_mB_swap 25 rfl) rfl (by decide) ?_
          refine g_getR (pc := 44) (a := 19) rfl fp_B_37 po_0 (dk d_mB_swap 26 rfl) ?_
          refine g_iload_n (pc := 47) (j := 1) (dk d_mB_swap 27 rfl) rfl ?_
          refine g_iload_n (pc := 48) (j := 0) (dk d_mB_swap 28 rfl) rfl ?_
          refine h_callVi (d := d + 2) (pc := 49) (na := 2) (av := [pI v2_1, pI v3_2]) (k0 := 19) po_19 ⟨_, rfl⟩ ⟨rfl, rfl⟩ (dk d_mB_swap 29 rfl) lk_B_275 vm_mNi_trade rfl rfl (Nat.le_of_ble_eq_true rfl) h (fun r10 u9 hq => kNi_trade E (d + 0) hq) (fun r10 u9 hb11 h => ?_)
          exact h_iret (pc := 52) rfl (dk d_mB_swap 30 rfl) h
        · refine g_iconst (pc := 41) (dk d_mB_swap 23 rfl) (by decide) ?_
          exact h_iret (pc := 42) rfl (dk d_mB_swap 24 rfl) h
set_option maxRecDepth 100000 in
set_option maxHeartbeats 4000000 in
theorem kB_swap (E : Nat × (Int → Int)) (d : Nat) {a1 : Int} {w w1 : WD} {r : Int} (h : fB_swap a1 w = some (r, w1)) : CTi E mB_swap (d + 3) [pR 0, pI a1] w RF NN r w1 RF NN := by
  exact CTi_of (by decide +kernel) (Nat.le_of_ble_eq_true rfl) (Or.inl rfl) (gB_swap (res := (r, w1)) E d a1 w h)
def fNi_wager (a1 : Int) (a2 : Int) (w : WD) : Option (Int × WD) := ci (fNi_isIn a1 w) <| fun (r2 : Int) (u1 : WD) => if r2 = 0 then (some ((-5), u1)) else (ck (0 ≤ a1 ∧ a1 < 5) <| if (u1 21 a1) ≠ 0 then (some ((-5), u1)) else (ck (0 ≤ a1 ∧ a1 < 5) <| if (u1 20 a1) ≠ (-2) then (ck (0 ≤ a1 ∧ a1 < 5) <| jn (β := Int → WD → Option (Int × WD)) (fun (s4 : Int) (u5 : WD) => ck (0 ≤ a1 ∧ a1 < 5) <| bw (up u5 21 a1 1) <| fun (u6 : WD) => bw (up u6 22 3 (w32 ((u6 22 3) + 1))) <| fun (u7 : WD) => bw (up u7 22 2 (w32 ((u7 22 2) + s4))) <| fun (u8 : WD) => some (s4, u8)) <| fun J9 => if (u1 20 a1) ≠ a2 then (J9 0 u1) else (ci (fHa_pointsAt (u1 22 0) u1) <| fun (r11 : Int) (u10 : WD) => J9 r11 u10)) else (some ((-5), u1))))
set_option maxRecDepth 100000 in
set_option maxHeartbeats 4000000 in
theorem gNi_wager (E : Nat × (Int → Int)) (d : Nat) {res : Int × WD} (a1 : Int) (a2 : Int) (w : WD) (h : fNi_wager a1 a2 w = some res) : G E mNi_wager (d + 4) 0 [(0, pR 19), (1, pI a1), (2, pI a2)] [] w RF NN 0 0 (some (pI res.1), res.2, RF, NN) := by
  unfold fNi_wager at h
  refine g_iload_n (pc := 0) (j := 1) (dk d_mNi_wager 0 rfl) rfl ?_
  refine h_callSi (d := d + 3) (pc := 1) (na := 1) (av := [pI a1]) ⟨rfl, rfl⟩ (dk d_mNi_wager 1 rfl) lk_Ni_41 vm_mNi_isIn rfl rfl (Nat.le_of_ble_eq_true rfl) h (fun r2 u1 hq => kNi_isIn E (d + 2) hq) (fun r2 u1 hb3 h => ?_)
  refine h_if_eq (pc := 4) (tgt := 27) (dk d_mNi_wager 2 rfl) rfl h (fun hc16 h => ?_) (fun hc16 h => ?_)
  · refine g_bipush (pc := 27) (dk d_mNi_wager 14 rfl) (by decide) ?_
    exact h_iret (pc := 29) rfl (dk d_mNi_wager 15 rfl) h
  · refine g_aload_n (pc := 7) (j := 0) (dk d_mNi_wager 3 rfl) rfl (by decide) ?_
    refine g_getR (pc := 8) (a := 21) rfl fp_Ni_15 po_19 (dk d_mNi_wager 4 rfl) ?_
    refine g_iload_n (pc := 11) (j := 1) (dk d_mNi_wager 5 rfl) rfl ?_
    refine h_iald (pc := 12) (B := 5) pa_21 rfl (dk d_mNi_wager 6 rfl) h (fun h => ?_)
    refine h_if_ne (pc := 13) (tgt := 27) (dk d_mNi_wager 7 rfl) rfl h (fun hc15 h => ?_) (fun hc15 h => ?_)
    · refine g_bipush (pc := 27) (dk d_mNi_wager 14 rfl) (by decide) ?_
      exact h_iret (pc := 29) rfl (dk d_mNi_wager 15 rfl) h
    · refine g_aload_n (pc := 16) (j := 0) (dk d_mNi_wager 8 rfl) rfl (by decide) ?_
      refine g_getR (pc := 17) (a := 20) rfl fp_Ni_9 po_19 (dk d_mNi_wager 9 rfl) ?_
      refine g_iload_n (pc := 20) (j := 1) (dk d_mNi_wager 10 rfl) rfl ?_
      refine h_iald (pc := 21) (B := 5) pa_20 rfl (dk d_mNi_wager 11 rfl) h (fun h => ?_)
      refine g_bipush (pc := 22) (dk d_mNi_wager 12 rfl) (by decide) ?_
      refine h_icmp_ne (pc := 24) (tgt := 30) (dk d_mNi_wager 13 rfl) rfl h (fun hc14 h => ?_) (fun hc14 h => ?_)
      · refine g_aload_n (pc := 30) (j := 0) (dk d_mNi_wager 16 rfl) rfl (by decide) ?_
        refine g_getR (pc := 31) (a := 20) rfl fp_Ni_9 po_19 (dk d_mNi_wager 17 rfl) ?_
        refine g_iload_n (pc := 34) (j := 1) (dk d_mNi_wager 18 rfl) rfl ?_
        refine h_iald (pc := 35) (B := 5) pa_20 rfl (dk d_mNi_wager 19 rfl) h (fun h => ?_)
        refine g_iload_n (pc := 36) (j := 2) (dk d_mNi_wager 20 rfl) rfl ?_
        refine jn_e (fun J => ∀ (s4 : Int) (u5 : WD), J s4 u5 = some res → G E mNi_wager (d + 4) 57 [(0, pR 19), (1, pI a1)] [pI s4] u5 RF NN 0 0 (some (pI res.1), res.2, RF, NN)) h (fun s4 u5 h => ?_) (fun J9 hJ9 h => ?_)
        · refine g_istore_n (pc := 57) (l' := [(3, pI s4), (0, pR 19), (1, pI a1)]) (dk d_mNi_wager 31 rfl) (Nat.le_of_ble_eq_true rfl) rfl ?_
          refine g_aload_n (pc := 58) (j := 1) (dk d_mNi_wager 32 rfl) rfl (by decide) ?_
          refine g_getR (pc := 59) (a := 21) rfl fp_Ni_15 po_19 (dk d_mNi_wager 33 rfl) ?_
          refine g_iload_n (pc := 62) (j := 2) (dk d_mNi_wager 34 rfl) rfl ?_
          refine g_iconst (pc := 63) (dk d_mNi_wager 35 rfl) (by decide) ?_
          refine h_iast (pc := 64) (B := 5) pa_21 rfl (dk d_mNi_wager 36 rfl) h (fun u6 h => ?_)
          refine g_aload_n (pc := 65) (j := 1) (dk d_mNi_wager 37 rfl) rfl (by decide) ?_
          refine g_getR (pc := 66) (a := 22) rfl fp_Ni_18 po_19 (dk d_mNi_wager 38 rfl) ?_
          refine g_iconst (pc := 69) (dk d_mNi_wager 39 rfl) (by decide) ?_
          refine g_dup2 (pc := 70) (dk d_mNi_wager 40 rfl) rfl rfl ?_
          refine g_iald (pc := 71) pa_22 (dk d_mNi_wager 41 rfl) (by decide) ?_
          refine g_iconst (pc := 72) (dk d_mNi_wager 42 rfl) (by decide) ?_
          refine g_iadd (pc := 73) (dk d_mNi_wager 43 rfl) ?_
          refine h_iast0 (pc := 74) pa_22 (dk d_mNi_wager 44 rfl) (by decide) h (fun u7 h => ?_)
          refine g_aload_n (pc := 75) (j := 1) (dk d_mNi_wager 45 rfl) rfl (by decide) ?_
          refine g_getR (pc := 76) (a := 22) rfl fp_Ni_18 po_19 (dk d_mNi_wager 46 rfl) ?_
          refine g_iconst (pc := 79) (dk d_mNi_wager 47 rfl) (by decide) ?_
          refine g_dup2 (pc := 80) (dk d_mNi_wager 48 rfl) rfl rfl ?_
          refine g_iald (pc := 81) pa_22 (dk d_mNi_wager 49 rfl) (by decide) ?_
          refine g_iload_n (pc := 82) (j := 0) (dk d_mNi_wager 50 rfl) rfl ?_
          refine g_iadd (pc := 83) (dk d_mNi_wager 51 rfl) ?_
          refine h_iast0 (pc := 84) pa_22 (dk d_mNi_wager 52 rfl) (by decide) h (fun u8 h => ?_)
          refine g_iload_n (pc := 85) (j := 0) (dk d_mNi_wager 53 rfl) rfl ?_
          exact h_iret (pc := 86) rfl (dk d_mNi_wager 54 rfl) h
        · refine h_icmp_ne (pc := 37) (tgt := 56) (dk d_mNi_wager 21 rfl) rfl h (fun hc13 h => ?_) (fun hc13 h => ?_)
          · refine g_iconst (pc := 56) (dk d_mNi_wager 30 rfl) (by decide) ?_
            refine g_pick [0, 1] rfl (l' := [(0, pR 19), (1, pI a1)]) rfl ?_
            exact hJ9 _ _ h
          · refine g_aload_n (pc := 40) (j := 0) (dk d_mNi_wager 22 rfl) rfl (by decide) ?_
            refine g_getR (pc := 41) (a := 1) rfl fp_Ni_37 po_19 (dk d_mNi_wager 23 rfl) ?_
            refine g_aload_n (pc := 44) (j := 0) (dk d_mNi_wager 24 rfl) rfl (by decide) ?_
            refine g_getR (pc := 45) (a := 22) rfl fp_Ni_18 po_19 (dk d_mNi_wager 25 rfl) ?_
            refine g_iconst (pc := 48) (dk d_mNi_wager 26 rfl) (by decide) ?_
            refine g_iald (pc := 49) pa_22 (dk d_mNi_wager 27 rfl) (by decide) ?_
            refine h_callVi (d := d + 3) (pc := 50) (na := 1) (av := [pI (u1 22 0)]) (k0 := 1) po_1 ⟨_, rfl⟩ ⟨rfl, rfl⟩ (dk d_mNi_wager 28 rfl) lk_Ni_59 vm_mHa_pointsAt rfl rfl (Nat.le_of_ble_eq_true rfl) h (fun r11 u10 hq => kHa_pointsAt E (d + 0) hq) (fun r11 u10 hb12 h => ?_)
            refine g_goto (pc := 53) (tgt := 57) (dk d_mNi_wager 29 rfl) rfl ?_
            refine g_pick [0, 1] rfl (l' := [(0, pR 19), (1, pI a1)]) rfl ?_
            exact hJ9 _ _ h
      · refine g_bipush (pc := 27) (dk d_mNi_wager 14 rfl) (by decide) ?_
        exact h_iret (pc := 29) rfl (dk d_mNi_wager 15 rfl) h
set_option maxRecDepth 100000 in
set_option maxHeartbeats 4000000 in
theorem kNi_wager (E : Nat × (Int → Int)) (d : Nat) {a1 : Int} {a2 : Int} {w w1 : WD} {r : Int} (h : fNi_wager a1 a2 w = some (r, w1)) : CTi E mNi_wager (d + 4) [pR 19, pI a1, pI a2] w RF NN r w1 RF NN := by
  exact CTi_of (by decide +kernel) (Nat.le_of_ble_eq_true rfl) (Or.inl rfl) (gNi_wager (res := (r, w1)) E d a1 a2 w h)
def fB_bet (a1 : Int) (a2 : Int) (w : WD) : Option (Int × WD) := ci (fHa_isMask a1 w) <| fun (r2 : Int) (u1 : WD) => if r2 = 0 then (some ((-1), u1)) else (ci (fHa_isOne a2 u1) <| fun (r5 : Int) (u4 : WD) => if r5 = 0 then (some ((-1), u4)) else (ci (fNi_wager a1 a2 u4) <| fun (r8 : Int) (u7 : WD) => some (r8, u7)))
set_option maxRecDepth 100000 in
set_option maxHeartbeats 4000000 in
theorem gB_bet (E : Nat × (Int → Int)) (d : Nat) {res : Int × WD} (a1 : Int) (a2 : Int) (w : WD) (h : fB_bet a1 a2 w = some res) : G E mB_bet (d + 5) 0 [(0, pR 0), (1, pI a1), (2, pI a2)] [] w RF NN 0 0 (some (pI res.1), res.2, RF, NN) := by
  unfold fB_bet at h
  refine g_aload_n (pc := 0) (j := 0) (dk d_mB_bet 0 rfl) rfl (by decide) ?_
  refine g_getR (pc := 1) (a := 1) rfl fp_B_10 po_0 (dk d_mB_bet 1 rfl) ?_
  refine g_iload_n (pc := 4) (j := 1) (dk d_mB_bet 2 rfl) rfl ?_
  refine h_callVi (d := d + 4) (pc := 5) (na := 1) (av := [pI a1]) (k0 := 1) po_1 ⟨_, rfl⟩ ⟨rfl, rfl⟩ (dk d_mB_bet 3 rfl) lk_B_90 vm_mHa_isMask rfl rfl (Nat.le_of_ble_eq_true rfl) h (fun r2 u1 hq => kHa_isMask E (d + 3) hq) (fun r2 u1 hb3 h => ?_)
  refine h_if_eq (pc := 8) (tgt := 34) (dk d_mB_bet 4 rfl) rfl h (fun hc11 h => ?_) (fun hc11 h => ?_)
  · refine g_iconst (pc := 34) (dk d_mB_bet 16 rfl) (by decide) ?_
    exact h_iret (pc := 35) rfl (dk d_mB_bet 17 rfl) h
  · refine g_aload_n (pc := 11) (j := 0) (dk d_mB_bet 5 rfl) rfl (by decide) ?_
    refine g_getR (pc := 12) (a := 1) rfl fp_B_10 po_0 (dk d_mB_bet 6 rfl) ?_
    refine g_iload_n (pc := 15) (j := 2) (dk d_mB_bet 7 rfl) rfl ?_
    refine h_callVi (d := d + 4) (pc := 16) (na := 1) (av := [pI a2]) (k0 := 1) po_1 ⟨_, rfl⟩ ⟨rfl, rfl⟩ (dk d_mB_bet 8 rfl) lk_B_114 vm_mHa_isOne rfl rfl (Nat.le_of_ble_eq_true rfl) h (fun r5 u4 hq => kHa_isOne E (d + 3) hq) (fun r5 u4 hb6 h => ?_)
    refine h_if_eq (pc := 19) (tgt := 34) (dk d_mB_bet 9 rfl) rfl h (fun hc10 h => ?_) (fun hc10 h => ?_)
    · refine g_iconst (pc := 34) (dk d_mB_bet 16 rfl) (by decide) ?_
      exact h_iret (pc := 35) rfl (dk d_mB_bet 17 rfl) h
    · refine g_aload_n (pc := 22) (j := 0) (dk d_mB_bet 10 rfl) rfl (by decide) ?_
      refine g_getR (pc := 23) (a := 19) rfl fp_B_37 po_0 (dk d_mB_bet 11 rfl) ?_
      refine g_iload_n (pc := 26) (j := 1) (dk d_mB_bet 12 rfl) rfl ?_
      refine g_iload_n (pc := 27) (j := 2) (dk d_mB_bet 13 rfl) rfl ?_
      refine h_callVi (d := d + 4) (pc := 28) (na := 2) (av := [pI a1, pI a2]) (k0 := 19) po_19 ⟨_, rfl⟩ ⟨rfl, rfl⟩ (dk d_mB_bet 14 rfl) lk_B_278 vm_mNi_wager rfl rfl (Nat.le_of_ble_eq_true rfl) h (fun r8 u7 hq => kNi_wager E (d + 0) hq) (fun r8 u7 hb9 h => ?_)
      refine g_goto (pc := 31) (tgt := 35) (dk d_mB_bet 15 rfl) rfl ?_
      exact h_iret (pc := 35) rfl (dk d_mB_bet 17 rfl) h
set_option maxRecDepth 100000 in
set_option maxHeartbeats 4000000 in
theorem kB_bet (E : Nat × (Int → Int)) (d : Nat) {a1 : Int} {a2 : Int} {w w1 : WD} {r : Int} (h : fB_bet a1 a2 w = some (r, w1)) : CTi E mB_bet (d + 5) [pR 0, pI a1, pI a2] w RF NN r w1 RF NN := by
  exact CTi_of (by decide +kernel) (Nat.le_of_ble_eq_true rfl) (Or.inl rfl) (gB_bet (res := (r, w1)) E d a1 a2 w h)
def fNi_told (a1 : Int) (w : WD) : Option (Int × WD) := if a1 < 0 then (some ((-1), w)) else (if 5 ≤ a1 then (some ((-1), w)) else (ck (0 ≤ a1 ∧ a1 < 5) <| some ((w 22 a1), w)))
set_option maxRecDepth 100000 in
set_option maxHeartbeats 4000000 in
theorem gNi_told (E : Nat × (Int → Int)) (d : Nat) {res : Int × WD} (a1 : Int) (w : WD) (h : fNi_told a1 w = some res) : G E mNi_told (d + 1) 0 [(0, pR 19), (1, pI a1)] [] w RF NN 0 0 (some (pI res.1), res.2, RF, NN) := by
  unfold fNi_told at h
  refine g_iload_n (pc := 0) (j := 1) (dk d_mNi_told 0 rfl) rfl ?_
  refine h_if_lt (pc := 1) (tgt := 18) (dk d_mNi_told 1 rfl) rfl h (fun hc2 h => ?_) (fun hc2 h => ?_)
  · refine g_iconst (pc := 18) (dk d_mNi_told 10 rfl) (by decide) ?_
    exact h_iret (pc := 19) rfl (dk d_mNi_told 11 rfl) h
  · refine g_iload_n (pc := 4) (j := 1) (dk d_mNi_told 2 rfl) rfl ?_
    refine g_iconst (pc := 5) (dk d_mNi_told 3 rfl) (by decide) ?_
    refine h_icmp_ge (pc := 6) (tgt := 18) (dk d_mNi_told 4 rfl) rfl h (fun hc1 h => ?_) (fun hc1 h => ?_)
    · refine g_iconst (pc := 18) (dk d_mNi_told 10 rfl) (by decide) ?_
      exact h_iret (pc := 19) rfl (dk d_mNi_told 11 rfl) h
    · refine g_aload_n (pc := 9) (j := 0) (dk d_mNi_told 5 rfl) rfl (by decide) ?_
      refine g_getR (pc := 10) (a := 22) rfl fp_Ni_18 po_19 (dk d_mNi_told 6 rfl) ?_
      refine g_iload_n (pc := 13) (j := 1) (dk d_mNi_told 7 rfl) rfl ?_
      refine h_iald (pc := 14) (B := 5) pa_22 rfl (dk d_mNi_told 8 rfl) h (fun h => ?_)
      refine g_goto (pc := 15) (tgt := 19) (dk d_mNi_told 9 rfl) rfl ?_
      exact h_iret (pc := 19) rfl (dk d_mNi_told 11 rfl) h
set_option maxRecDepth 100000 in
set_option maxHeartbeats 4000000 in
theorem kNi_told (E : Nat × (Int → Int)) (d : Nat) {a1 : Int} {w w1 : WD} {r : Int} (h : fNi_told a1 w = some (r, w1)) : CTi E mNi_told (d + 1) [pR 19, pI a1] w RF NN r w1 RF NN := by
  exact CTi_of (by decide +kernel) (Nat.le_of_ble_eq_true rfl) (Or.inl rfl) (gNi_told (res := (r, w1)) E d a1 w h)
def fB_led (a1 : Int) (w : WD) : Option (Int × WD) := if a1 < 0 then (some ((-1), w)) else (if a1 ≤ 4 then (ci (fNi_told a1 w) <| fun (r2 : Int) (u1 : WD) => some (r2, u1)) else (some ((-1), w)))
set_option maxRecDepth 100000 in
set_option maxHeartbeats 4000000 in
theorem gB_led (E : Nat × (Int → Int)) (d : Nat) {res : Int × WD} (a1 : Int) (w : WD) (h : fB_led a1 w = some res) : G E mB_led (d + 2) 0 [(0, pR 0), (1, pI a1)] [] w RF NN 0 0 (some (pI res.1), res.2, RF, NN) := by
  unfold fB_led at h
  refine g_iload_n (pc := 0) (j := 1) (dk d_mB_led 0 rfl) rfl ?_
  refine h_if_lt (pc := 1) (tgt := 9) (dk d_mB_led 1 rfl) rfl h (fun hc5 h => ?_) (fun hc5 h => ?_)
  · refine g_iconst (pc := 9) (dk d_mB_led 5 rfl) (by decide) ?_
    refine g_goto (pc := 10) (tgt := 21) (dk d_mB_led 6 rfl) rfl ?_
    exact h_iret (pc := 21) rfl (dk d_mB_led 11 rfl) h
  · refine g_iload_n (pc := 4) (j := 1) (dk d_mB_led 2 rfl) rfl ?_
    refine g_iconst (pc := 5) (dk d_mB_led 3 rfl) (by decide) ?_
    refine h_icmp_le (pc := 6) (tgt := 13) (dk d_mB_led 4 rfl) rfl h (fun hc4 h => ?_) (fun hc4 h => ?_)
    · refine g_aload_n (pc := 13) (j := 0) (dk d_mB_led 7 rfl) rfl (by decide) ?_
      refine g_getR (pc := 14) (a := 19) rfl fp_B_37 po_0 (dk d_mB_led 8 rfl) ?_
      refine g_iload_n (pc := 17) (j := 1) (dk d_mB_led 9 rfl) rfl ?_
      refine h_callVi (d := d + 1) (pc := 18) (na := 1) (av := [pI a1]) (k0 := 19) po_19 ⟨_, rfl⟩ ⟨rfl, rfl⟩ (dk d_mB_led 10 rfl) lk_B_281 vm_mNi_told rfl rfl (Nat.le_of_ble_eq_true rfl) h (fun r2 u1 hq => kNi_told E (d + 0) hq) (fun r2 u1 hb3 h => ?_)
      exact h_iret (pc := 21) rfl (dk d_mB_led 11 rfl) h
    · refine g_iconst (pc := 9) (dk d_mB_led 5 rfl) (by decide) ?_
      refine g_goto (pc := 10) (tgt := 21) (dk d_mB_led 6 rfl) rfl ?_
      exact h_iret (pc := 21) rfl (dk d_mB_led 11 rfl) h
set_option maxRecDepth 100000 in
set_option maxHeartbeats 4000000 in
theorem kB_led (E : Nat × (Int → Int)) (d : Nat) {a1 : Int} {w w1 : WD} {r : Int} (h : fB_led a1 w = some (r, w1)) : CTi E mB_led (d + 2) [pR 0, pI a1] w RF NN r w1 RF NN := by
  exact CTi_of (by decide +kernel) (Nat.le_of_ble_eq_true rfl) (Or.inl rfl) (gB_led (res := (r, w1)) E d a1 w h)
def fNi_remember_l55_b (rec : Int → WD → Option (Int × WD)) (K0 : WD → Option (Int × WD)) (x1 : Int) (w : WD) : Option (Int × WD) := if 15 ≤ x1 then (K0 w) else (ci (fHa_at (w32 (Int.tdiv x1 3)) (w32 (4 + (Int.tmod x1 3))) w) <| fun (r9 : Int) (u8 : WD) => ck (0 ≤ x1 ∧ x1 < 15) <| bw (up u8 26 x1 r9) <| fun (u11 : WD) => bv (w32 (x1 + 1)) <| fun (v1_12 : Int) => rec v1_12 u11)
def fNi_remember_l55 (K0 : WD → Option (Int × WD)) : Nat → Int → WD → Option (Int × WD)
  | 0 => fun _ _ => none
  | k + 1 => fNi_remember_l55_b ( fNi_remember_l55 K0 k) K0
set_option maxRecDepth 100000 in
set_option maxHeartbeats 4000000 in
theorem fNi_remember_l55_b_ok (E : Nat × (Int → Int)) (d : Nat) {res : Int × WD} {rec : Int → WD → Option (Int × WD)} (K0 : WD → Option (Int × WD)) (hrec : ∀ (x1 : Int) (w : WD), rec x1 w = some res → G E mNi_remember (d + 3) 55 [(0, pR 19), (1, pI x1)] [] w RF NN 0 0 (some (pI res.1), res.2, RF, NN)) (hK0 : ∀ (w : WD), K0 w = some res → G E mNi_remember (d + 3) 91 [(0, pR 19)] [] w RF NN 0 0 (some (pI res.1), res.2, RF, NN)) (x1 : Int) (w : WD) (h : fNi_remember_l55_b rec K0 x1 w = some res) : G E mNi_remember (d + 3) 55 [(0, pR 19), (1, pI x1)] [] w RF NN 0 0 (some (pI res.1), res.2, RF, NN) := by
  unfold fNi_remember_l55_b at h
  refine g_iload_n (pc := 55) (j := 1) (dk d_mNi_remember 31 rfl) rfl ?_
  refine g_aload_n (pc := 56) (j := 0) (dk d_mNi_remember 32 rfl) rfl (by decide) ?_
  refine g_getR (pc := 57) (a := 26) rfl fp_Ni_30 po_19 (dk d_mNi_remember 33 rfl) ?_
  refine h_alen (pc := 60) (B := 15) pa_26 (by decide) rfl (dk d_mNi_remember 34 rfl) ?_
  refine h_icmp_ge (pc := 61) (tgt := 91) (dk d_mNi_remember 35 rfl) rfl h (fun hc13 h => ?_) (fun hc13 h => ?_)
  · refine g_pick [0] rfl (l' := [(0, pR 19)]) rfl ?_
    exact hK0 _ h
  · refine g_aload_n (pc := 64) (j := 0) (dk d_mNi_remember 36 rfl) rfl (by decide) ?_
    refine g_getR (pc := 65) (a := 26) rfl fp_Ni_30 po_19 (dk d_mNi_remember 37 rfl) ?_
    refine g_iload_n (pc := 68) (j := 1) (dk d_mNi_remember 38 rfl) rfl ?_
    refine g_aload_n (pc := 69) (j := 0) (dk d_mNi_remember 39 rfl) rfl (by decide) ?_
    refine g_getR (pc := 70) (a := 1) rfl fp_Ni_37 po_19 (dk d_mNi_remember 40 rfl) ?_
    refine g_iload_n (pc := 73) (j := 1) (dk d_mNi_remember 41 rfl) rfl ?_
    refine g_iconst (pc := 74) (dk d_mNi_remember 42 rfl) (by decide) ?_
    refine g_idiv (pc := 75) (dk d_mNi_remember 43 rfl) (by decide) ?_
    refine g_iconst (pc := 76) (dk d_mNi_remember 44 rfl) (by decide) ?_
    refine g_iload_n (pc := 77) (j := 1) (dk d_mNi_remember 45 rfl) rfl ?_
    refine g_iconst (pc := 78) (dk d_mNi_remember 46 rfl) (by decide) ?_
    refine g_irem (pc := 79) (dk d_mNi_remember 47 rfl) (by decide) ?_
    refine g_iadd (pc := 80) (dk d_mNi_remember 48 rfl) ?_
    refine h_callVi (d := d + 2) (pc := 81) (na := 2) (av := [pI (w32 (Int.tdiv x1 3)), pI (w32 (4 + (Int.tmod x1 3)))]) (k0 := 1) po_1 ⟨_, rfl⟩ ⟨rfl, rfl⟩ (dk d_mNi_remember 49 rfl) lk_Ni_51 vm_mHa_at rfl rfl (Nat.le_of_ble_eq_true rfl) h (fun r9 u8 hq => kHa_at E (d + 0) hq) (fun r9 u8 hb10 h => ?_)
    refine h_iast (pc := 84) (B := 15) pa_26 rfl (dk d_mNi_remember 50 rfl) h (fun u11 h => ?_)
    refine h_iinc (pc := 85) (j := 1) (dk d_mNi_remember 51 rfl) rfl (by decide) (Nat.le_of_ble_eq_true rfl) h (fun v1_12 h => ?_)
    refine g_loc (l' := [(1, pI v1_12), (0, pR 19)]) rfl ?_
    refine g_goto (pc := 88) (tgt := 55) (dk d_mNi_remember 52 rfl) rfl ?_
    refine g_pick [1, 0] rfl (l' := [(0, pR 19), (1, pI v1_12)]) rfl ?_
    exact hrec _ _ h
set_option maxRecDepth 100000 in
set_option maxHeartbeats 4000000 in
theorem fNi_remember_l55_ok (E : Nat × (Int → Int)) (d : Nat) {res : Int × WD} (K0 : WD → Option (Int × WD)) (hK0 : ∀ (w : WD), K0 w = some res → G E mNi_remember (d + 3) 91 [(0, pR 19)] [] w RF NN 0 0 (some (pI res.1), res.2, RF, NN)) : ∀ (k : Nat) (x1 : Int) (w : WD), fNi_remember_l55 K0 k x1 w = some res → G E mNi_remember (d + 3) 55 [(0, pR 19), (1, pI x1)] [] w RF NN 0 0 (some (pI res.1), res.2, RF, NN) := by
  intro k
  induction k with
  | zero =>
    intro x1 w h
    exact no_e h
  | succ k ih =>
    intro x1 w h
    exact fNi_remember_l55_b_ok E d K0 ih hK0 x1 w h
def fNi_remember (w : WD) : Option (Int × WD) := ci (fHa_masks w) <| fun (r2 : Int) (u1 : WD) => bw (up u1 19 8 r2) <| fun (u4 : WD) => ck ((0 : Int) ≤ 0 ∧ (0 : Int) ≤ 0 ∧ (0 : Int) ≤ 5 ∧ (0 + 5 : Int) ≤ 5 ∧ (0 + 5 : Int) ≤ 5) <| bw (cp u4 20 0 23 0 5) <| fun (u5 : WD) => ck ((0 : Int) ≤ 0 ∧ (0 : Int) ≤ 0 ∧ (0 : Int) ≤ 5 ∧ (0 + 5 : Int) ≤ 5 ∧ (0 + 5 : Int) ≤ 5) <| bw (cp u5 21 0 24 0 5) <| fun (u6 : WD) => ck ((0 : Int) ≤ 0 ∧ (0 : Int) ≤ 0 ∧ (0 : Int) ≤ 5 ∧ (0 + 5 : Int) ≤ 5 ∧ (0 + 5 : Int) ≤ 5) <| bw (cp u6 22 0 25 0 5) <| fun (u7 : WD) => fNi_remember_l55 (fun (u14 : WD) => some ((u14 22 0), u14)) FU 0 u7
set_option maxRecDepth 100000 in
set_option maxHeartbeats 4000000 in
theorem gNi_remember (E : Nat × (Int → Int)) (d : Nat) {res : Int × WD} (w : WD) (h : fNi_remember w = some res) : G E mNi_remember (d + 3) 0 [(0, pR 19)] [] w RF NN 0 0 (some (pI res.1), res.2, RF, NN) := by
  unfold fNi_remember at h
  refine g_aload_n (pc := 0) (j := 0) (dk d_mNi_remember 0 rfl) rfl (by decide) ?_
  refine g_aload_n (pc := 1) (j := 0) (dk d_mNi_remember 1 rfl) rfl (by decide) ?_
  refine g_getR (pc := 2) (a := 1) rfl fp_Ni_37 po_19 (dk d_mNi_remember 2 rfl) ?_
  refine h_callVi (d := d + 2) (pc := 5) (na := 0) (av := []) (k0 := 1) po_1 ⟨_, rfl⟩ ⟨rfl, rfl⟩ (dk d_mNi_remember 3 rfl) lk_Ni_62 vm_mHa_masks rfl rfl (Nat.le_of_ble_eq_true rfl) h (fun r2 u1 hq => kHa_masks E (d + 1) hq) (fun r2 u1 hb3 h => ?_)
  refine h_putI (pc := 8) fp_Ni_33 po_19 (dk d_mNi_remember 4 rfl) h (fun u4 h => ?_)
  refine g_aload_n (pc := 11) (j := 0) (dk d_mNi_remember 5 rfl) rfl (by decide) ?_
  refine g_getR (pc := 12) (a := 20) rfl fp_Ni_9 po_19 (dk d_mNi_remember 6 rfl) ?_
  refine g_iconst (pc := 15) (dk d_mNi_remember 7 rfl) (by decide) ?_
  refine g_aload_n (pc := 16) (j := 0) (dk d_mNi_remember 8 rfl) rfl (by decide) ?_
  refine g_getR (pc := 17) (a := 23) rfl fp_Ni_21 po_19 (dk d_mNi_remember 9 rfl) ?_
  refine g_iconst (pc := 20) (dk d_mNi_remember 10 rfl) (by decide) ?_
  refine g_iconst (pc := 21) (dk d_mNi_remember 11 rfl) (by decide) ?_
  refine h_copyI (pc := 22) (B0 := 5) (B1 := 5) ac_Ni_66 pa_20 pa_23 rfl rfl (dk d_mNi_remember 12 rfl) (Nat.le_of_ble_eq_true rfl) (by omega) h (fun u5 h => ?_)
  refine g_aload_n (pc := 25) (j := 0) (dk d_mNi_remember 13 rfl) rfl (by decide) ?_
  refine g_getR (pc := 26) (a := 21) rfl fp_Ni_15 po_19 (dk d_mNi_remember 14 rfl) ?_
  refine g_iconst (pc := 29) (dk d_mNi_remember 15 rfl) (by decide) ?_
  refine g_aload_n (pc := 30) (j := 0) (dk d_mNi_remember 16 rfl) rfl (by decide) ?_
  refine g_getR (pc := 31) (a := 24) rfl fp_Ni_24 po_19 (dk d_mNi_remember 17 rfl) ?_
  refine g_iconst (pc := 34) (dk d_mNi_remember 18 rfl) (by decide) ?_
  refine g_iconst (pc := 35) (dk d_mNi_remember 19 rfl) (by decide) ?_
  refine h_copyI (pc := 36) (B0 := 5) (B1 := 5) ac_Ni_66 pa_21 pa_24 rfl rfl (dk d_mNi_remember 20 rfl) (Nat.le_of_ble_eq_true rfl) (by omega) h (fun u6 h => ?_)
  refine g_aload_n (pc := 39) (j := 0) (dk d_mNi_remember 21 rfl) rfl (by decide) ?_
  refine g_getR (pc := 40) (a := 22) rfl fp_Ni_18 po_19 (dk d_mNi_remember 22 rfl) ?_
  refine g_iconst (pc := 43) (dk d_mNi_remember 23 rfl) (by decide) ?_
  refine g_aload_n (pc := 44) (j := 0) (dk d_mNi_remember 24 rfl) rfl (by decide) ?_
  refine g_getR (pc := 45) (a := 25) rfl fp_Ni_27 po_19 (dk d_mNi_remember 25 rfl) ?_
  refine g_iconst (pc := 48) (dk d_mNi_remember 26 rfl) (by decide) ?_
  refine g_iconst (pc := 49) (dk d_mNi_remember 27 rfl) (by decide) ?_
  refine h_copyI (pc := 50) (B0 := 5) (B1 := 5) ac_Ni_66 pa_22 pa_25 rfl rfl (dk d_mNi_remember 28 rfl) (Nat.le_of_ble_eq_true rfl) (by omega) h (fun u7 h => ?_)
  refine g_iconst (pc := 53) (dk d_mNi_remember 29 rfl) (by decide) ?_
  refine g_istore_n (pc := 54) (l' := [(1, pI 0), (0, pR 19)]) (dk d_mNi_remember 30 rfl) (Nat.le_of_ble_eq_true rfl) rfl ?_
  refine g_pick [1, 0] rfl (l' := [(0, pR 19), (1, pI 0)]) rfl ?_
  refine fNi_remember_l55_ok E d _  (fun u14 h => ?_) FU _  _ h
  · refine g_aload_n (pc := 91) (j := 0) (dk d_mNi_remember 53 rfl) rfl (by decide) ?_
    refine g_getR (pc := 92) (a := 22) rfl fp_Ni_18 po_19 (dk d_mNi_remember 54 rfl) ?_
    refine g_iconst (pc := 95) (dk d_mNi_remember 55 rfl) (by decide) ?_
    refine g_iald (pc := 96) pa_22 (dk d_mNi_remember 56 rfl) (by decide) ?_
    exact h_iret (pc := 97) rfl (dk d_mNi_remember 57 rfl) h
set_option maxRecDepth 100000 in
set_option maxHeartbeats 4000000 in
theorem kNi_remember (E : Nat × (Int → Int)) (d : Nat) {w w1 : WD} {r : Int} (h : fNi_remember w = some (r, w1)) : CTi E mNi_remember (d + 3) [pR 19] w RF NN r w1 RF NN := by
  exact CTi_of (by decide +kernel) (Nat.le_of_ble_eq_true rfl) (Or.inl rfl) (gNi_remember (res := (r, w1)) E d w h)
def fB_image (w : WD) : Option (Int × WD) := ci (fNi_remember w) <| fun (r2 : Int) (u1 : WD) => some (r2, u1)
set_option maxRecDepth 100000 in
set_option maxHeartbeats 4000000 in
theorem gB_image (E : Nat × (Int → Int)) (d : Nat) {res : Int × WD} (w : WD) (h : fB_image w = some res) : G E mB_image (d + 4) 0 [(0, pR 0)] [] w RF NN 0 0 (some (pI res.1), res.2, RF, NN) := by
  unfold fB_image at h
  refine g_aload_n (pc := 0) (j := 0) (dk d_mB_image 0 rfl) rfl (by decide) ?_
  refine g_getR (pc := 1) (a := 19) rfl fp_B_37 po_0 (dk d_mB_image 1 rfl) ?_
  refine h_callVi (d := d + 3) (pc := 4) (na := 0) (av := []) (k0 := 19) po_19 ⟨_, rfl⟩ ⟨rfl, rfl⟩ (dk d_mB_image 2 rfl) lk_B_284 vm_mNi_remember rfl rfl (Nat.le_of_ble_eq_true rfl) h (fun r2 u1 hq => kNi_remember E (d + 0) hq) (fun r2 u1 hb3 h => ?_)
  exact h_iret (pc := 7) rfl (dk d_mB_image 3 rfl) h
set_option maxRecDepth 100000 in
set_option maxHeartbeats 4000000 in
theorem kB_image (E : Nat × (Int → Int)) (d : Nat) {w w1 : WD} {r : Int} (h : fB_image w = some (r, w1)) : CTi E mB_image (d + 4) [pR 0] w RF NN r w1 RF NN := by
  exact CTi_of (by decide +kernel) (Nat.le_of_ble_eq_true rfl) (Or.inl rfl) (gB_image (res := (r, w1)) E d w h)
def fNi_recall_l55_b (rec : Int → WD → Option (Int × WD)) (K0 : WD → Option (Int × WD)) (x1 : Int) (w : WD) : Option (Int × WD) := if 15 ≤ x1 then (K0 w) else (if (w32 ((w 19 8) * 3)) ≤ x1 then (K0 w) else (ck (0 ≤ x1 ∧ x1 < 15) <| cv (fHa_note (w32 (Int.tdiv x1 3)) (w32 (4 + (Int.tmod x1 3))) (w 26 x1) w) <| fun (u4 : WD) => bv (w32 (x1 + 1)) <| fun (v1_5 : Int) => rec v1_5 u4))
def fNi_recall_l55 (K0 : WD → Option (Int × WD)) : Nat → Int → WD → Option (Int × WD)
  | 0 => fun _ _ => none
  | k + 1 => fNi_recall_l55_b ( fNi_recall_l55 K0 k) K0
set_option maxRecDepth 100000 in
set_option maxHeartbeats 4000000 in
theorem fNi_recall_l55_b_ok (E : Nat × (Int → Int)) (d : Nat) {res : Int × WD} {rec : Int → WD → Option (Int × WD)} (K0 : WD → Option (Int × WD)) (hrec : ∀ (x1 : Int) (w : WD), rec x1 w = some res → G E mNi_recall (d + 3) 55 [(0, pR 19), (1, pI x1)] [] w RF NN 0 0 (some (pI res.1), res.2, RF, NN)) (hK0 : ∀ (w : WD), K0 w = some res → G E mNi_recall (d + 3) 101 [(0, pR 19)] [] w RF NN 0 0 (some (pI res.1), res.2, RF, NN)) (x1 : Int) (w : WD) (h : fNi_recall_l55_b rec K0 x1 w = some res) : G E mNi_recall (d + 3) 55 [(0, pR 19), (1, pI x1)] [] w RF NN 0 0 (some (pI res.1), res.2, RF, NN) := by
  unfold fNi_recall_l55_b at h
  refine g_iload_n (pc := 55) (j := 1) (dk d_mNi_recall 32 rfl) rfl ?_
  refine g_aload_n (pc := 56) (j := 0) (dk d_mNi_recall 33 rfl) rfl (by decide) ?_
  refine g_getR (pc := 57) (a := 26) rfl fp_Ni_30 po_19 (dk d_mNi_recall 34 rfl) ?_
  refine h_alen (pc := 60) (B := 15) pa_26 (by decide) rfl (dk d_mNi_recall 35 rfl) ?_
  refine h_icmp_ge (pc := 61) (tgt := 101) (dk d_mNi_recall 36 rfl) rfl h (fun hc7 h => ?_) (fun hc7 h => ?_)
  · refine g_pick [0] rfl (l' := [(0, pR 19)]) rfl ?_
    exact hK0 _ h
  · refine g_iload_n (pc := 64) (j := 1) (dk d_mNi_recall 37 rfl) rfl ?_
    refine g_aload_n (pc := 65) (j := 0) (dk d_mNi_recall 38 rfl) rfl (by decide) ?_
    refine g_getI (pc := 66) fp_Ni_33 po_19 (dk d_mNi_recall 39 rfl) ?_
    refine g_iconst (pc := 69) (dk d_mNi_recall 40 rfl) (by decide) ?_
    refine g_imul (pc := 70) (dk d_mNi_recall 41 rfl) ?_
    refine h_icmp_ge (pc := 71) (tgt := 101) (dk d_mNi_recall 42 rfl) rfl h (fun hc6 h => ?_) (fun hc6 h => ?_)
    · refine g_pick [0] rfl (l' := [(0, pR 19)]) rfl ?_
      exact hK0 _ h
    · refine g_aload_n (pc := 74) (j := 0) (dk d_mNi_recall 43 rfl) rfl (by decide) ?_
      refine g_getR (pc := 75) (a := 1) rfl fp_Ni_37 po_19 (dk d_mNi_recall 44 rfl) ?_
      refine g_iload_n (pc := 78) (j := 1) (dk d_mNi_recall 45 rfl) rfl ?_
      refine g_iconst (pc := 79) (dk d_mNi_recall 46 rfl) (by decide) ?_
      refine g_idiv (pc := 80) (dk d_mNi_recall 47 rfl) (by decide) ?_
      refine g_iconst (pc := 81) (dk d_mNi_recall 48 rfl) (by decide) ?_
      refine g_iload_n (pc := 82) (j := 1) (dk d_mNi_recall 49 rfl) rfl ?_
      refine g_iconst (pc := 83) (dk d_mNi_recall 50 rfl) (by decide) ?_
      refine g_irem (pc := 84) (dk d_mNi_recall 51 rfl) (by decide) ?_
      refine g_iadd (pc := 85) (dk d_mNi_recall 52 rfl) ?_
      refine g_aload_n (pc := 86) (j := 0) (dk d_mNi_recall 53 rfl) rfl (by decide) ?_
      refine g_getR (pc := 87) (a := 26) rfl fp_Ni_30 po_19 (dk d_mNi_recall 54 rfl) ?_
      refine g_iload_n (pc := 90) (j := 1) (dk d_mNi_recall 55 rfl) rfl ?_
      refine h_iald (pc := 91) (B := 15) pa_26 rfl (dk d_mNi_recall 56 rfl) h (fun h => ?_)
      refine h_callVv (d := d + 2) (pc := 92) (na := 3) (av := [pI (w32 (Int.tdiv x1 3)), pI (w32 (4 + (Int.tmod x1 3))), pI (w 26 x1)]) (k0 := 1) po_1 ⟨_, rfl⟩ ⟨rfl, rfl⟩ (dk d_mNi_recall 57 rfl) lk_Ni_55 vm_mHa_note rfl rfl (Nat.le_of_ble_eq_true rfl) h (fun u4 hq => kHa_note E (d + 0) hq) (fun u4 h => ?_)
      refine h_iinc (pc := 95) (j := 1) (dk d_mNi_recall 58 rfl) rfl (by decide) (Nat.le_of_ble_eq_true rfl) h (fun v1_5 h => ?_)
      refine g_loc (l' := [(1, pI v1_5), (0, pR 19)]) rfl ?_
      refine g_goto (pc := 98) (tgt := 55) (dk d_mNi_recall 59 rfl) rfl ?_
      refine g_pick [1, 0] rfl (l' := [(0, pR 19), (1, pI v1_5)]) rfl ?_
      exact hrec _ _ h
set_option maxRecDepth 100000 in
set_option maxHeartbeats 4000000 in
theorem fNi_recall_l55_ok (E : Nat × (Int → Int)) (d : Nat) {res : Int × WD} (K0 : WD → Option (Int × WD)) (hK0 : ∀ (w : WD), K0 w = some res → G E mNi_recall (d + 3) 101 [(0, pR 19)] [] w RF NN 0 0 (some (pI res.1), res.2, RF, NN)) : ∀ (k : Nat) (x1 : Int) (w : WD), fNi_recall_l55 K0 k x1 w = some res → G E mNi_recall (d + 3) 55 [(0, pR 19), (1, pI x1)] [] w RF NN 0 0 (some (pI res.1), res.2, RF, NN) := by
  intro k
  induction k with
  | zero =>
    intro x1 w h
    exact no_e h
  | succ k ih =>
    intro x1 w h
    exact fNi_recall_l55_b_ok E d K0 ih hK0 x1 w h
def fNi_recall (w : WD) : Option (Int × WD) := if (w 19 8) ≠ (-1) then (ck ((0 : Int) ≤ 0 ∧ (0 : Int) ≤ 0 ∧ (0 : Int) ≤ 5 ∧ (0 + 5 : Int) ≤ 5 ∧ (0 + 5 : Int) ≤ 5) <| bw (cp w 23 0 20 0 5) <| fun (u1 : WD) => ck ((0 : Int) ≤ 0 ∧ (0 : Int) ≤ 0 ∧ (0 : Int) ≤ 5 ∧ (0 + 5 : Int) ≤ 5 ∧ (0 + 5 : Int) ≤ 5) <| bw (cp u1 24 0 21 0 5) <| fun (u2 : WD) => ck ((0 : Int) ≤ 0 ∧ (0 : Int) ≤ 0 ∧ (0 : Int) ≤ 5 ∧ (0 + 5 : Int) ≤ 5 ∧ (0 + 5 : Int) ≤ 5) <| bw (cp u2 25 0 22 0 5) <| fun (u3 : WD) => fNi_recall_l55 (fun (u8 : WD) => some ((u8 22 0), u8)) FU 0 u3) else (some ((-5), w))
set_option maxRecDepth 100000 in
set_option maxHeartbeats 4000000 in
theorem gNi_recall (E : Nat × (Int → Int)) (d : Nat) {res : Int × WD} (w : WD) (h : fNi_recall w = some res) : G E mNi_recall (d + 3) 0 [(0, pR 19)] [] w RF NN 0 0 (some (pI res.1), res.2, RF, NN) := by
  unfold fNi_recall at h
  refine g_aload_n (pc := 0) (j := 0) (dk d_mNi_recall 0 rfl) rfl (by decide) ?_
  refine g_getI (pc := 1) fp_Ni_33 po_19 (dk d_mNi_recall 1 rfl) ?_
  refine g_iconst (pc := 4) (dk d_mNi_recall 2 rfl) (by decide) ?_
  refine h_icmp_ne (pc := 5) (tgt := 11) (dk d_mNi_recall 3 rfl) rfl h (fun hc9 h => ?_) (fun hc9 h => ?_)
  · refine g_aload_n (pc := 11) (j := 0) (dk d_mNi_recall 6 rfl) rfl (by decide) ?_
    refine g_getR (pc := 12) (a := 23) rfl fp_Ni_21 po_19 (dk d_mNi_recall 7 rfl) ?_
    refine g_iconst (pc := 15) (dk d_mNi_recall 8 rfl) (by decide) ?_
    refine g_aload_n (pc := 16) (j := 0) (dk d_mNi_recall 9 rfl) rfl (by decide) ?_
    refine g_getR (pc := 17) (a := 20) rfl fp_Ni_9 po_19 (dk d_mNi_recall 10 rfl) ?_
    refine g_iconst (pc := 20) (dk d_mNi_recall 11 rfl) (by decide) ?_
    refine g_iconst (pc := 21) (dk d_mNi_recall 12 rfl) (by decide) ?_
    refine h_copyI (pc := 22) (B0 := 5) (B1 := 5) ac_Ni_66 pa_23 pa_20 rfl rfl (dk d_mNi_recall 13 rfl) (Nat.le_of_ble_eq_true rfl) (by omega) h (fun u1 h => ?_)
    refine g_aload_n (pc := 25) (j := 0) (dk d_mNi_recall 14 rfl) rfl (by decide) ?_
    refine g_getR (pc := 26) (a := 24) rfl fp_Ni_24 po_19 (dk d_mNi_recall 15 rfl) ?_
    refine g_iconst (pc := 29) (dk d_mNi_recall 16 rfl) (by decide) ?_
    refine g_aload_n (pc := 30) (j := 0) (dk d_mNi_recall 17 rfl) rfl (by decide) ?_
    refine g_getR (pc := 31) (a := 21) rfl fp_Ni_15 po_19 (dk d_mNi_recall 18 rfl) ?_
    refine g_iconst (pc := 34) (dk d_mNi_recall 19 rfl) (by decide) ?_
    refine g_iconst (pc := 35) (dk d_mNi_recall 20 rfl) (by decide) ?_
    refine h_copyI (pc := 36) (B0 := 5) (B1 := 5) ac_Ni_66 pa_24 pa_21 rfl rfl (dk d_mNi_recall 21 rfl) (Nat.le_of_ble_eq_true rfl) (by omega) h (fun u2 h => ?_)
    refine g_aload_n (pc := 39) (j := 0) (dk d_mNi_recall 22 rfl) rfl (by decide) ?_
    refine g_getR (pc := 40) (a := 25) rfl fp_Ni_27 po_19 (dk d_mNi_recall 23 rfl) ?_
    refine g_iconst (pc := 43) (dk d_mNi_recall 24 rfl) (by decide) ?_
    refine g_aload_n (pc := 44) (j := 0) (dk d_mNi_recall 25 rfl) rfl (by decide) ?_
    refine g_getR (pc := 45) (a := 22) rfl fp_Ni_18 po_19 (dk d_mNi_recall 26 rfl) ?_
    refine g_iconst (pc := 48) (dk d_mNi_recall 27 rfl) (by decide) ?_
    refine g_iconst (pc := 49) (dk d_mNi_recall 28 rfl) (by decide) ?_
    refine h_copyI (pc := 50) (B0 := 5) (B1 := 5) ac_Ni_66 pa_25 pa_22 rfl rfl (dk d_mNi_recall 29 rfl) (Nat.le_of_ble_eq_true rfl) (by omega) h (fun u3 h => ?_)
    refine g_iconst (pc := 53) (dk d_mNi_recall 30 rfl) (by decide) ?_
    refine g_istore_n (pc := 54) (l' := [(1, pI 0), (0, pR 19)]) (dk d_mNi_recall 31 rfl) (Nat.le_of_ble_eq_true rfl) rfl ?_
    refine g_pick [1, 0] rfl (l' := [(0, pR 19), (1, pI 0)]) rfl ?_
    refine fNi_recall_l55_ok E d _  (fun u8 h => ?_) FU _  _ h
    · refine g_aload_n (pc := 101) (j := 0) (dk d_mNi_recall 60 rfl) rfl (by decide) ?_
      refine g_getR (pc := 102) (a := 22) rfl fp_Ni_18 po_19 (dk d_mNi_recall 61 rfl) ?_
      refine g_iconst (pc := 105) (dk d_mNi_recall 62 rfl) (by decide) ?_
      refine g_iald (pc := 106) pa_22 (dk d_mNi_recall 63 rfl) (by decide) ?_
      exact h_iret (pc := 107) rfl (dk d_mNi_recall 64 rfl) h
  · refine g_bipush (pc := 8) (dk d_mNi_recall 4 rfl) (by decide) ?_
    exact h_iret (pc := 10) rfl (dk d_mNi_recall 5 rfl) h
set_option maxRecDepth 100000 in
set_option maxHeartbeats 4000000 in
theorem kNi_recall (E : Nat × (Int → Int)) (d : Nat) {w w1 : WD} {r : Int} (h : fNi_recall w = some (r, w1)) : CTi E mNi_recall (d + 3) [pR 19] w RF NN r w1 RF NN := by
  exact CTi_of (by decide +kernel) (Nat.le_of_ble_eq_true rfl) (Or.inl rfl) (gNi_recall (res := (r, w1)) E d w h)
def fB_back (w : WD) : Option (Int × WD) := ci (fNi_recall w) <| fun (r2 : Int) (u1 : WD) => some (r2, u1)
set_option maxRecDepth 100000 in
set_option maxHeartbeats 4000000 in
theorem gB_back (E : Nat × (Int → Int)) (d : Nat) {res : Int × WD} (w : WD) (h : fB_back w = some res) : G E mB_back (d + 4) 0 [(0, pR 0)] [] w RF NN 0 0 (some (pI res.1), res.2, RF, NN) := by
  unfold fB_back at h
  refine g_aload_n (pc := 0) (j := 0) (dk d_mB_back 0 rfl) rfl (by decide) ?_
  refine g_getR (pc := 1) (a := 19) rfl fp_B_37 po_0 (dk d_mB_back 1 rfl) ?_
  refine h_callVi (d := d + 3) (pc := 4) (na := 0) (av := []) (k0 := 19) po_19 ⟨_, rfl⟩ ⟨rfl, rfl⟩ (dk d_mB_back 2 rfl) lk_B_287 vm_mNi_recall rfl rfl (Nat.le_of_ble_eq_true rfl) h (fun r2 u1 hq => kNi_recall E (d + 0) hq) (fun r2 u1 hb3 h => ?_)
  exact h_iret (pc := 7) rfl (dk d_mB_back 3 rfl) h
set_option maxRecDepth 100000 in
set_option maxHeartbeats 4000000 in
theorem kB_back (E : Nat × (Int → Int)) (d : Nat) {w w1 : WD} {r : Int} (h : fB_back w = some (r, w1)) : CTi E mB_back (d + 4) [pR 0] w RF NN r w1 RF NN := by
  exact CTi_of (by decide +kernel) (Nat.le_of_ble_eq_true rfl) (Or.inl rfl) (gB_back (res := (r, w1)) E d w h)
def fHa_takeBack (w : WD) : Option (Int × WD) := if (w 1 6) ≤ 0 then (some ((-5), w)) else (if (w 1 6) ≤ 40 then (bw (up w 1 6 (w32 ((w 1 6) - 1))) <| fun (u1 : WD) => bw (up u1 1 7 (w32 ((u1 1 7) + 1))) <| fun (u2 : WD) => ck (0 ≤ (u2 1 6) ∧ (u2 1 6) < 40) <| ck (0 ≤ (u2 1 6) ∧ (u2 1 6) < 40) <| cv (fHa_set (u2 3 (u2 1 6)) (u2 4 (u2 1 6)) u2) <| fun (u3 : WD) => some ((u3 1 6), u3)) else (some ((-5), w)))
set_option maxRecDepth 100000 in
set_option maxHeartbeats 4000000 in
theorem gHa_takeBack (E : Nat × (Int → Int)) (d : Nat) {res : Int × WD} (w : WD) (h : fHa_takeBack w = some res) : G E mHa_takeBack (d + 2) 0 [(0, pR 1)] [] w RF NN 0 0 (some (pI res.1), res.2, RF, NN) := by
  unfold fHa_takeBack at h
  refine g_aload_n (pc := 0) (j := 0) (dk d_mHa_takeBack 0 rfl) rfl (by decide) ?_
  refine g_getI (pc := 1) fp_Ha_31 po_1 (dk d_mHa_takeBack 1 rfl) ?_
  refine h_if_le (pc := 4) (tgt := 16) (dk d_mHa_takeBack 2 rfl) rfl h (fun hc5 h => ?_) (fun hc5 h => ?_)
  · refine g_bipush (pc := 16) (dk d_mHa_takeBack 7 rfl) (by decide) ?_
    exact h_iret (pc := 18) rfl (dk d_mHa_takeBack 8 rfl) h
  · refine g_aload_n (pc := 7) (j := 0) (dk d_mHa_takeBack 3 rfl) rfl (by decide) ?_
    refine g_getI (pc := 8) fp_Ha_31 po_1 (dk d_mHa_takeBack 4 rfl) ?_
    refine g_bipush (pc := 11) (dk d_mHa_takeBack 5 rfl) (by decide) ?_
    refine h_icmp_le (pc := 13) (tgt := 19) (dk d_mHa_takeBack 6 rfl) rfl h (fun hc4 h => ?_) (fun hc4 h => ?_)
    · refine g_aload_n (pc := 19) (j := 0) (dk d_mHa_takeBack 9 rfl) rfl (by decide) ?_
      refine g_dup (pc := 20) (dk d_mHa_takeBack 10 rfl) rfl ?_
      refine g_getI (pc := 21) fp_Ha_31 po_1 (dk d_mHa_takeBack 11 rfl) ?_
      refine g_iconst (pc := 24) (dk d_mHa_takeBack 12 rfl) (by decide) ?_
      refine g_isub (pc := 25) (dk d_mHa_takeBack 13 rfl) ?_
      refine h_putI (pc := 26) fp_Ha_31 po_1 (dk d_mHa_takeBack 14 rfl) h (fun u1 h => ?_)
      refine g_aload_n (pc := 29) (j := 0) (dk d_mHa_takeBack 15 rfl) rfl (by decide) ?_
      refine g_dup (pc := 30) (dk d_mHa_takeBack 16 rfl) rfl ?_
      refine g_getI (pc := 31) fp_Ha_64 po_1 (dk d_mHa_takeBack 17 rfl) ?_
      refine g_iconst (pc := 34) (dk d_mHa_takeBack 18 rfl) (by decide) ?_
      refine g_iadd (pc := 35) (dk d_mHa_takeBack 19 rfl) ?_
      refine h_putI (pc := 36) fp_Ha_64 po_1 (dk d_mHa_takeBack 20 rfl) h (fun u2 h => ?_)
      refine g_aload_n (pc := 39) (j := 0) (dk d_mHa_takeBack 21 rfl) rfl (by decide) ?_
      refine g_aload_n (pc := 40) (j := 0) (dk d_mHa_takeBack 22 rfl) rfl (by decide) ?_
      refine g_getR (pc := 41) (a := 3) rfl fp_Ha_15 po_1 (dk d_mHa_takeBack 23 rfl) ?_
      refine g_aload_n (pc := 44) (j := 0) (dk d_mHa_takeBack 24 rfl) rfl (by decide) ?_
      refine g_getI (pc := 45) fp_Ha_31 po_1 (dk d_mHa_takeBack 25 rfl) ?_
      refine h_iald (pc := 48) (B := 40) pa_3 rfl (dk d_mHa_takeBack 26 rfl) h (fun h => ?_)
      refine g_aload_n (pc := 49) (j := 0) (dk d_mHa_takeBack 27 rfl) rfl (by decide) ?_
      refine g_getR (pc := 50) (a := 4) rfl fp_Ha_18 po_1 (dk d_mHa_takeBack 28 rfl) ?_
      refine g_aload_n (pc := 53) (j := 0) (dk d_mHa_takeBack 29 rfl) rfl (by decide) ?_
      refine g_getI (pc := 54) fp_Ha_31 po_1 (dk d_mHa_takeBack 30 rfl) ?_
      refine h_iald (pc := 57) (B := 40) pa_4 rfl (dk d_mHa_takeBack 31 rfl) h (fun h => ?_)
      refine h_callVv (d := d + 1) (pc := 58) (na := 2) (av := [pI (u2 3 (u2 1 6)), pI (u2 4 (u2 1 6))]) (k0 := 1) po_1 ⟨_, rfl⟩ ⟨rfl, rfl⟩ (dk d_mHa_takeBack 32 rfl) lk_Ha_50 vm_mHa_set rfl rfl (Nat.le_of_ble_eq_true rfl) h (fun u3 hq => kHa_set E (d + 0) hq) (fun u3 h => ?_)
      refine g_aload_n (pc := 61) (j := 0) (dk d_mHa_takeBack 33 rfl) rfl (by decide) ?_
      refine g_getI (pc := 62) fp_Ha_31 po_1 (dk d_mHa_takeBack 34 rfl) ?_
      exact h_iret (pc := 65) rfl (dk d_mHa_takeBack 35 rfl) h
    · refine g_bipush (pc := 16) (dk d_mHa_takeBack 7 rfl) (by decide) ?_
      exact h_iret (pc := 18) rfl (dk d_mHa_takeBack 8 rfl) h
set_option maxRecDepth 100000 in
set_option maxHeartbeats 4000000 in
theorem kHa_takeBack (E : Nat × (Int → Int)) (d : Nat) {w w1 : WD} {r : Int} (h : fHa_takeBack w = some (r, w1)) : CTi E mHa_takeBack (d + 2) [pR 1] w RF NN r w1 RF NN := by
  exact CTi_of (by decide +kernel) (Nat.le_of_ble_eq_true rfl) (Or.inl rfl) (gHa_takeBack (res := (r, w1)) E d w h)
def fB_undo (w : WD) : Option (Int × WD) := ci (fHa_takeBack w) <| fun (r2 : Int) (u1 : WD) => some (r2, u1)
set_option maxRecDepth 100000 in
set_option maxHeartbeats 4000000 in
theorem gB_undo (E : Nat × (Int → Int)) (d : Nat) {res : Int × WD} (w : WD) (h : fB_undo w = some res) : G E mB_undo (d + 3) 0 [(0, pR 0)] [] w RF NN 0 0 (some (pI res.1), res.2, RF, NN) := by
  unfold fB_undo at h
  refine g_aload_n (pc := 0) (j := 0) (dk d_mB_undo 0 rfl) rfl (by decide) ?_
  refine g_getR (pc := 1) (a := 1) rfl fp_B_10 po_0 (dk d_mB_undo 1 rfl) ?_
  refine h_callVi (d := d + 2) (pc := 4) (na := 0) (av := []) (k0 := 1) po_1 ⟨_, rfl⟩ ⟨rfl, rfl⟩ (dk d_mB_undo 2 rfl) lk_B_290 vm_mHa_takeBack rfl rfl (Nat.le_of_ble_eq_true rfl) h (fun r2 u1 hq => kHa_takeBack E (d + 0) hq) (fun r2 u1 hb3 h => ?_)
  exact h_iret (pc := 7) rfl (dk d_mB_undo 3 rfl) h
set_option maxRecDepth 100000 in
set_option maxHeartbeats 4000000 in
theorem kB_undo (E : Nat × (Int → Int)) (d : Nat) {w w1 : WD} {r : Int} (h : fB_undo w = some (r, w1)) : CTi E mB_undo (d + 3) [pR 0] w RF NN r w1 RF NN := by
  exact CTi_of (by decide +kernel) (Nat.le_of_ble_eq_true rfl) (Or.inl rfl) (gB_undo (res := (r, w1)) E d w h)
def fHa_doAgain (w : WD) : Option (Int × WD) := if (w 1 7) ≤ 0 then (some ((-5), w)) else (if (w 1 6) < 0 then (some ((-5), w)) else (if (w 1 6) < 40 then (ck (0 ≤ (w 1 6) ∧ (w 1 6) < 40) <| ck (0 ≤ (w 1 6) ∧ (w 1 6) < 40) <| cv (fHa_set (w 3 (w 1 6)) (w 5 (w 1 6)) w) <| fun (u1 : WD) => bw (up u1 1 6 (w32 ((u1 1 6) + 1))) <| fun (u2 : WD) => bw (up u2 1 7 (w32 ((u2 1 7) - 1))) <| fun (u3 : WD) => some ((u3 1 7), u3)) else (some ((-5), w))))
set_option maxRecDepth 100000 in
set_option maxHeartbeats 4000000 in
theorem gHa_doAgain (E : Nat × (Int → Int)) (d : Nat) {res : Int × WD} (w : WD) (h : fHa_doAgain w = some res) : G E mHa_doAgain (d + 2) 0 [(0, pR 1)] [] w RF NN 0 0 (some (pI res.1), res.2, RF, NN) := by
  unfold fHa_doAgain at h
  refine g_aload_n (pc := 0) (j := 0) (dk d_mHa_doAgain 0 rfl) rfl (by decide) ?_
  refine g_getI (pc := 1) fp_Ha_64 po_1 (dk d_mHa_doAgain 1 rfl) ?_
  refine h_if_le (pc := 4) (tgt := 23) (dk d_mHa_doAgain 2 rfl) rfl h (fun hc6 h => ?_) (fun hc6 h => ?_)
  · refine g_bipush (pc := 23) (dk d_mHa_doAgain 10 rfl) (by decide) ?_
    exact h_iret (pc := 25) rfl (dk d_mHa_doAgain 11 rfl) h
  · refine g_aload_n (pc := 7) (j := 0) (dk d_mHa_doAgain 3 rfl) rfl (by decide) ?_
    refine g_getI (pc := 8) fp_Ha_31 po_1 (dk d_mHa_doAgain 4 rfl) ?_
    refine h_if_lt (pc := 11) (tgt := 23) (dk d_mHa_doAgain 5 rfl) rfl h (fun hc5 h => ?_) (fun hc5 h => ?_)
    · refine g_bipush (pc := 23) (dk d_mHa_doAgain 10 rfl) (by decide) ?_
      exact h_iret (pc := 25) rfl (dk d_mHa_doAgain 11 rfl) h
    · refine g_aload_n (pc := 14) (j := 0) (dk d_mHa_doAgain 6 rfl) rfl (by decide) ?_
      refine g_getI (pc := 15) fp_Ha_31 po_1 (dk d_mHa_doAgain 7 rfl) ?_
      refine g_bipush (pc := 18) (dk d_mHa_doAgain 8 rfl) (by decide) ?_
      refine h_icmp_lt (pc := 20) (tgt := 26) (dk d_mHa_doAgain 9 rfl) rfl h (fun hc4 h => ?_) (fun hc4 h => ?_)
      · refine g_aload_n (pc := 26) (j := 0) (dk d_mHa_doAgain 12 rfl) rfl (by decide) ?_
        refine g_aload_n (pc := 27) (j := 0) (dk d_mHa_doAgain 13 rfl) rfl (by decide) ?_
        refine g_getR (pc := 28) (a := 3) rfl fp_Ha_15 po_1 (dk d_mHa_doAgain 14 rfl) ?_
        refine g_aload_n (pc := 31) (j := 0) (dk d_mHa_doAgain 15 rfl) rfl (by decide) ?_
        refine g_getI (pc := 32) fp_Ha_31 po_1 (dk d_mHa_doAgain 16 rfl) ?_
        refine h_iald (pc := 35) (B := 40) pa_3 rfl (dk d_mHa_doAgain 17 rfl) h (fun h => ?_)
        refine g_aload_n (pc := 36) (j := 0) (dk d_mHa_doAgain 18 rfl) rfl (by decide) ?_
        refine g_getR (pc := 37) (a := 5) rfl fp_Ha_21 po_1 (dk d_mHa_doAgain 19 rfl) ?_
        refine g_aload_n (pc := 40) (j := 0) (dk d_mHa_doAgain 20 rfl) rfl (by decide) ?_
        refine g_getI (pc := 41) fp_Ha_31 po_1 (dk d_mHa_doAgain 21 rfl) ?_
        refine h_iald (pc := 44) (B := 40) pa_5 rfl (dk d_mHa_doAgain 22 rfl) h (fun h => ?_)
        refine h_callVv (d := d + 1) (pc := 45) (na := 2) (av := [pI (w 3 (w 1 6)), pI (w 5 (w 1 6))]) (k0 := 1) po_1 ⟨_, rfl⟩ ⟨rfl, rfl⟩ (dk d_mHa_doAgain 23 rfl) lk_Ha_50 vm_mHa_set rfl rfl (Nat.le_of_ble_eq_true rfl) h (fun u1 hq => kHa_set E (d + 0) hq) (fun u1 h => ?_)
        refine g_aload_n (pc := 48) (j := 0) (dk d_mHa_doAgain 24 rfl) rfl (by decide) ?_
        refine g_dup (pc := 49) (dk d_mHa_doAgain 25 rfl) rfl ?_
        refine g_getI (pc := 50) fp_Ha_31 po_1 (dk d_mHa_doAgain 26 rfl) ?_
        refine g_iconst (pc := 53) (dk d_mHa_doAgain 27 rfl) (by decide) ?_
        refine g_iadd (pc := 54) (dk d_mHa_doAgain 28 rfl) ?_
        refine h_putI (pc := 55) fp_Ha_31 po_1 (dk d_mHa_doAgain 29 rfl) h (fun u2 h => ?_)
        refine g_aload_n (pc := 58) (j := 0) (dk d_mHa_doAgain 30 rfl) rfl (by decide) ?_
        refine g_dup (pc := 59) (dk d_mHa_doAgain 31 rfl) rfl ?_
        refine g_getI (pc := 60) fp_Ha_64 po_1 (dk d_mHa_doAgain 32 rfl) ?_
        refine g_iconst (pc := 63) (dk d_mHa_doAgain 33 rfl) (by decide) ?_
        refine g_isub (pc := 64) (dk d_mHa_doAgain 34 rfl) ?_
        refine h_putI (pc := 65) fp_Ha_64 po_1 (dk d_mHa_doAgain 35 rfl) h (fun u3 h => ?_)
        refine g_aload_n (pc := 68) (j := 0) (dk d_mHa_doAgain 36 rfl) rfl (by decide) ?_
        refine g_getI (pc := 69) fp_Ha_64 po_1 (dk d_mHa_doAgain 37 rfl) ?_
        exact h_iret (pc := 72) rfl (dk d_mHa_doAgain 38 rfl) h
      · refine g_bipush (pc := 23) (dk d_mHa_doAgain 10 rfl) (by decide) ?_
        exact h_iret (pc := 25) rfl (dk d_mHa_doAgain 11 rfl) h
set_option maxRecDepth 100000 in
set_option maxHeartbeats 4000000 in
theorem kHa_doAgain (E : Nat × (Int → Int)) (d : Nat) {w w1 : WD} {r : Int} (h : fHa_doAgain w = some (r, w1)) : CTi E mHa_doAgain (d + 2) [pR 1] w RF NN r w1 RF NN := by
  exact CTi_of (by decide +kernel) (Nat.le_of_ble_eq_true rfl) (Or.inl rfl) (gHa_doAgain (res := (r, w1)) E d w h)
def fB_redo (w : WD) : Option (Int × WD) := ci (fHa_doAgain w) <| fun (r2 : Int) (u1 : WD) => some (r2, u1)
set_option maxRecDepth 100000 in
set_option maxHeartbeats 4000000 in
theorem gB_redo (E : Nat × (Int → Int)) (d : Nat) {res : Int × WD} (w : WD) (h : fB_redo w = some res) : G E mB_redo (d + 3) 0 [(0, pR 0)] [] w RF NN 0 0 (some (pI res.1), res.2, RF, NN) := by
  unfold fB_redo at h
  refine g_aload_n (pc := 0) (j := 0) (dk d_mB_redo 0 rfl) rfl (by decide) ?_
  refine g_getR (pc := 1) (a := 1) rfl fp_B_10 po_0 (dk d_mB_redo 1 rfl) ?_
  refine h_callVi (d := d + 2) (pc := 4) (na := 0) (av := []) (k0 := 1) po_1 ⟨_, rfl⟩ ⟨rfl, rfl⟩ (dk d_mB_redo 2 rfl) lk_B_293 vm_mHa_doAgain rfl rfl (Nat.le_of_ble_eq_true rfl) h (fun r2 u1 hq => kHa_doAgain E (d + 0) hq) (fun r2 u1 hb3 h => ?_)
  exact h_iret (pc := 7) rfl (dk d_mB_redo 3 rfl) h
set_option maxRecDepth 100000 in
set_option maxHeartbeats 4000000 in
theorem kB_redo (E : Nat × (Int → Int)) (d : Nat) {w w1 : WD} {r : Int} (h : fB_redo w = some (r, w1)) : CTi E mB_redo (d + 3) [pR 0] w RF NN r w1 RF NN := by
  exact CTi_of (by decide +kernel) (Nat.le_of_ble_eq_true rfl) (Or.inl rfl) (gB_redo (res := (r, w1)) E d w h)
def fBo_make (a1 : Int) (w : WD) : Option (Int × WD) := if a1 < 0 then (some ((-1), w)) else (if a1 < 8 then (if (w 30 2) < 0 then (some ((-3), w)) else (if (w 30 2) < 50 then (ck (0 ≤ (w 30 2) ∧ (w 30 2) < 50) <| bw (up w 31 (w 30 2) a1) <| fun (u1 : WD) => bv (u1 30 2) <| fun (t2 : Int) => bw (up u1 30 2 (w32 (t2 + 1))) <| fun (u3 : WD) => some (t2, u3)) else (some ((-3), w)))) else (some ((-1), w)))
set_option maxRecDepth 100000 in
set_option maxHeartbeats 4000000 in
theorem gBo_make (E : Nat × (Int → Int)) (d : Nat) {res : Int × WD} (a1 : Int) (w : WD) (h : fBo_make a1 w = some res) : G E mBo_make (d + 1) 0 [(0, pR 30), (1, pI a1)] [] w RF NN 0 0 (some (pI res.1), res.2, RF, NN) := by
  unfold fBo_make at h
  refine g_iload_n (pc := 0) (j := 1) (dk d_mBo_make 0 rfl) rfl ?_
  refine h_if_lt (pc := 1) (tgt := 10) (dk d_mBo_make 1 rfl) rfl h (fun hc7 h => ?_) (fun hc7 h => ?_)
  · refine g_iconst (pc := 10) (dk d_mBo_make 5 rfl) (by decide) ?_
    exact h_iret (pc := 11) rfl (dk d_mBo_make 6 rfl) h
  · refine g_iload_n (pc := 4) (j := 1) (dk d_mBo_make 2 rfl) rfl ?_
    refine g_bipush (pc := 5) (dk d_mBo_make 3 rfl) (by decide) ?_
    refine h_icmp_lt (pc := 7) (tgt := 12) (dk d_mBo_make 4 rfl) rfl h (fun hc6 h => ?_) (fun hc6 h => ?_)
    · refine g_aload_n (pc := 12) (j := 0) (dk d_mBo_make 7 rfl) rfl (by decide) ?_
      refine g_getI (pc := 13) fp_Bo_18 po_30 (dk d_mBo_make 8 rfl) ?_
      refine h_if_lt (pc := 16) (tgt := 28) (dk d_mBo_make 9 rfl) rfl h (fun hc5 h => ?_) (fun hc5 h => ?_)
      · refine g_bipush (pc := 28) (dk d_mBo_make 14 rfl) (by decide) ?_
        exact h_iret (pc := 30) rfl (dk d_mBo_make 15 rfl) h
      · refine g_aload_n (pc := 19) (j := 0) (dk d_mBo_make 10 rfl) rfl (by decide) ?_
        refine g_getI (pc := 20) fp_Bo_18 po_30 (dk d_mBo_make 11 rfl) ?_
        refine g_bipush (pc := 23) (dk d_mBo_make 12 rfl) (by decide) ?_
        refine h_icmp_lt (pc := 25) (tgt := 31) (dk d_mBo_make 13 rfl) rfl h (fun hc4 h => ?_) (fun hc4 h => ?_)
        · refine g_aload_n (pc := 31) (j := 0) (dk d_mBo_make 16 rfl) rfl (by decide) ?_
          refine g_getR (pc := 32) (a := 31) rfl fp_Bo_11 po_30 (dk d_mBo_make 17 rfl) ?_
          refine g_aload_n (pc := 35) (j := 0) (dk d_mBo_make 18 rfl) rfl (by decide) ?_
          refine g_getI (pc := 36) fp_Bo_18 po_30 (dk d_mBo_make 19 rfl) ?_
          refine g_iload_n (pc := 39) (j := 1) (dk d_mBo_make 20 rfl) rfl ?_
          refine h_iast (pc := 40) (B := 50) pa_31 rfl (dk d_mBo_make 21 rfl) h (fun u1 h => ?_)
          refine g_aload_n (pc := 41) (j := 0) (dk d_mBo_make 22 rfl) rfl (by decide) ?_
          refine g_dup (pc := 42) (dk d_mBo_make 23 rfl) rfl ?_
          refine g_getI (pc := 43) fp_Bo_18 po_30 (dk d_mBo_make 24 rfl) ?_
          refine h_bvI h (fun t2 h => ?_)
          refine g_dup_x1 (pc := 46) (dk d_mBo_make 25 rfl) rfl rfl ?_
          refine g_iconst (pc := 47) (dk d_mBo_make 26 rfl) (by decide) ?_
          refine g_iadd (pc := 48) (dk d_mBo_make 27 rfl) ?_
          refine h_putI (pc := 49) fp_Bo_18 po_30 (dk d_mBo_make 28 rfl) h (fun u3 h => ?_)
          exact h_iret (pc := 52) rfl (dk d_mBo_make 29 rfl) h
        · refine g_bipush (pc := 28) (dk d_mBo_make 14 rfl) (by decide) ?_
          exact h_iret (pc := 30) rfl (dk d_mBo_make 15 rfl) h
    · refine g_iconst (pc := 10) (dk d_mBo_make 5 rfl) (by decide) ?_
      exact h_iret (pc := 11) rfl (dk d_mBo_make 6 rfl) h
set_option maxRecDepth 100000 in
set_option maxHeartbeats 4000000 in
theorem kBo_make (E : Nat × (Int → Int)) (d : Nat) {a1 : Int} {w w1 : WD} {r : Int} (h : fBo_make a1 w = some (r, w1)) : CTi E mBo_make (d + 1) [pR 30, pI a1] w RF NN r w1 RF NN := by
  exact CTi_of (by decide +kernel) (Nat.le_of_ble_eq_true rfl) (Or.inl rfl) (gBo_make (res := (r, w1)) E d a1 w h)
def fB_body (a1 : Int) (w : WD) : Option (Int × WD) := ci (fBo_make a1 w) <| fun (r2 : Int) (u1 : WD) => some (r2, u1)
set_option maxRecDepth 100000 in
set_option maxHeartbeats 4000000 in
theorem gB_body (E : Nat × (Int → Int)) (d : Nat) {res : Int × WD} (a1 : Int) (w : WD) (h : fB_body a1 w = some res) : G E mB_body (d + 2) 0 [(0, pR 0), (1, pI a1)] [] w RF NN 0 0 (some (pI res.1), res.2, RF, NN) := by
  unfold fB_body at h
  refine g_aload_n (pc := 0) (j := 0) (dk d_mB_body 0 rfl) rfl (by decide) ?_
  refine g_getR (pc := 1) (a := 30) rfl fp_B_51 po_0 (dk d_mB_body 1 rfl) ?_
  refine g_iload_n (pc := 4) (j := 1) (dk d_mB_body 2 rfl) rfl ?_
  refine h_callVi (d := d + 1) (pc := 5) (na := 1) (av := [pI a1]) (k0 := 30) po_30 ⟨_, rfl⟩ ⟨rfl, rfl⟩ (dk d_mB_body 3 rfl) lk_B_296 vm_mBo_make rfl rfl (Nat.le_of_ble_eq_true rfl) h (fun r2 u1 hq => kBo_make E (d + 0) hq) (fun r2 u1 hb3 h => ?_)
  exact h_iret (pc := 8) rfl (dk d_mB_body 4 rfl) h
set_option maxRecDepth 100000 in
set_option maxHeartbeats 4000000 in
theorem kB_body (E : Nat × (Int → Int)) (d : Nat) {a1 : Int} {w w1 : WD} {r : Int} (h : fB_body a1 w = some (r, w1)) : CTi E mB_body (d + 2) [pR 0, pI a1] w RF NN r w1 RF NN := by
  exact CTi_of (by decide +kernel) (Nat.le_of_ble_eq_true rfl) (Or.inl rfl) (gB_body (res := (r, w1)) E d a1 w h)
def fBo_isBody (a1 : Int) (w : WD) : Option (Int × WD) := if a1 < 0 then (some (0, w)) else (if (w 30 2) ≤ a1 then (some (0, w)) else (if 50 ≤ a1 then (some (0, w)) else (some (1, w))))
set_option maxRecDepth 100000 in
set_option maxHeartbeats 4000000 in
theorem gBo_isBody (E : Nat × (Int → Int)) (d : Nat) {res : Int × WD} (a1 : Int) (w : WD) (h : fBo_isBody a1 w = some res) : G E mBo_isBody (d + 1) 0 [(0, pR 30), (1, pI a1)] [] w RF NN 0 0 (some (pI res.1), res.2, RF, NN) := by
  unfold fBo_isBody at h
  refine g_iload_n (pc := 0) (j := 1) (dk d_mBo_isBody 0 rfl) rfl ?_
  refine h_if_lt (pc := 1) (tgt := 22) (dk d_mBo_isBody 1 rfl) rfl h (fun hc3 h => ?_) (fun hc3 h => ?_)
  · refine g_iconst (pc := 22) (dk d_mBo_isBody 11 rfl) (by decide) ?_
    exact h_zret (pc := 23) (Or.inl rfl) (dk d_mBo_isBody 12 rfl) h
  · refine g_iload_n (pc := 4) (j := 1) (dk d_mBo_isBody 2 rfl) rfl ?_
    refine g_aload_n (pc := 5) (j := 0) (dk d_mBo_isBody 3 rfl) rfl (by decide) ?_
    refine g_getI (pc := 6) fp_Bo_18 po_30 (dk d_mBo_isBody 4 rfl) ?_
    refine h_icmp_ge (pc := 9) (tgt := 22) (dk d_mBo_isBody 5 rfl) rfl h (fun hc2 h => ?_) (fun hc2 h => ?_)
    · refine g_iconst (pc := 22) (dk d_mBo_isBody 11 rfl) (by decide) ?_
      exact h_zret (pc := 23) (Or.inl rfl) (dk d_mBo_isBody 12 rfl) h
    · refine g_iload_n (pc := 12) (j := 1) (dk d_mBo_isBody 6 rfl) rfl ?_
      refine g_bipush (pc := 13) (dk d_mBo_isBody 7 rfl) (by decide) ?_
      refine h_icmp_ge (pc := 15) (tgt := 22) (dk d_mBo_isBody 8 rfl) rfl h (fun hc1 h => ?_) (fun hc1 h => ?_)
      · refine g_iconst (pc := 22) (dk d_mBo_isBody 11 rfl) (by decide) ?_
        exact h_zret (pc := 23) (Or.inl rfl) (dk d_mBo_isBody 12 rfl) h
      · refine g_iconst (pc := 18) (dk d_mBo_isBody 9 rfl) (by decide) ?_
        refine g_goto (pc := 19) (tgt := 23) (dk d_mBo_isBody 10 rfl) rfl ?_
        exact h_zret (pc := 23) (Or.inr rfl) (dk d_mBo_isBody 12 rfl) h
set_option maxRecDepth 100000 in
set_option maxHeartbeats 4000000 in
theorem kBo_isBody (E : Nat × (Int → Int)) (d : Nat) {a1 : Int} {w w1 : WD} {r : Int} (h : fBo_isBody a1 w = some (r, w1)) : CTi E mBo_isBody (d + 1) [pR 30, pI a1] w RF NN r w1 RF NN := by
  exact CTi_of (by decide +kernel) (Nat.le_of_ble_eq_true rfl) (Or.inr rfl) (gBo_isBody (res := (r, w1)) E d a1 w h)
def fBo_above (a0 : Int) (w : WD) : Option (Int × WD) := if a0 < 0 then (some ((-1), w)) else (if 8 ≤ a0 then (some ((-1), w)) else (ck (0 ≤ a0 ∧ a0 < 8) <| some ((roC 5 a0), w)))
set_option maxRecDepth 100000 in
set_option maxHeartbeats 4000000 in
theorem gBo_above (E : Nat × (Int → Int)) (d : Nat) {res : Int × WD} (a0 : Int) (w : WD) (h : fBo_above a0 w = some res) : G E mBo_above (d + 1) 0 [(0, pI a0)] [] w RF NN 0 0 (some (pI res.1), res.2, RF, NN) := by
  unfold fBo_above at h
  refine g_iload_n (pc := 0) (j := 0) (dk d_mBo_above 0 rfl) rfl ?_
  refine h_if_lt (pc := 1) (tgt := 18) (dk d_mBo_above 1 rfl) rfl h (fun hc2 h => ?_) (fun hc2 h => ?_)
  · refine g_iconst (pc := 18) (dk d_mBo_above 9 rfl) (by decide) ?_
    exact h_iret (pc := 19) rfl (dk d_mBo_above 10 rfl) h
  · refine g_iload_n (pc := 4) (j := 0) (dk d_mBo_above 2 rfl) rfl ?_
    refine g_bipush (pc := 5) (dk d_mBo_above 3 rfl) (by decide) ?_
    refine h_icmp_ge (pc := 7) (tgt := 18) (dk d_mBo_above 4 rfl) rfl h (fun hc1 h => ?_) (fun hc1 h => ?_)
    · refine g_iconst (pc := 18) (dk d_mBo_above 9 rfl) (by decide) ?_
      exact h_iret (pc := 19) rfl (dk d_mBo_above 10 rfl) h
    · refine g_gets (pc := 10) (q := 5) (a := (-5)) (by decide) rfl fs_Bo_29 (dk d_mBo_above 5 rfl) ?_
      refine g_iload_n (pc := 13) (j := 0) (dk d_mBo_above 6 rfl) rfl ?_
      refine h_roald (pc := 14) (q := 5) (B := 8) (by decide) rfl rfl (dk d_mBo_above 7 rfl) h (fun h => ?_)
      refine g_goto (pc := 15) (tgt := 19) (dk d_mBo_above 8 rfl) rfl ?_
      exact h_iret (pc := 19) rfl (dk d_mBo_above 10 rfl) h
set_option maxRecDepth 100000 in
set_option maxHeartbeats 4000000 in
theorem kBo_above (E : Nat × (Int → Int)) (d : Nat) {a0 : Int} {w w1 : WD} {r : Int} (h : fBo_above a0 w = some (r, w1)) : CTi E mBo_above (d + 1) [pI a0] w RF NN r w1 RF NN := by
  exact CTi_of (by decide +kernel) (Nat.le_of_ble_eq_true rfl) (Or.inl rfl) (gBo_above (res := (r, w1)) E d a0 w h)
def fBo_note (a1 : Int) (w : WD) : Option WD := jn (β := WD → Option WD) (fun (u1 : WD) => bw (up u1 30 3 (w32 ((u1 30 3) + 1))) <| fun (u2 : WD) => some u2) <| fun J3 => if (w 30 3) < 0 then (J3 w) else (if 24 ≤ (w 30 3) then (J3 w) else (ck (0 ≤ (w 30 3) ∧ (w 30 3) < 24) <| bw (up w 32 (w 30 3) a1) <| fun (u4 : WD) => J3 u4))
set_option maxRecDepth 100000 in
set_option maxHeartbeats 4000000 in
theorem gBo_note (E : Nat × (Int → Int)) (d : Nat) {res : WD} (a1 : Int) (w : WD) (h : fBo_note a1 w = some res) : G E mBo_note (d + 1) 0 [(0, pR 30), (1, pI a1)] [] w RF NN 0 0 (none, res, RF, NN) := by
  unfold fBo_note at h
  refine g_aload_n (pc := 0) (j := 0) (dk d_mBo_note 0 rfl) rfl (by decide) ?_
  refine g_getI (pc := 1) fp_Bo_22 po_30 (dk d_mBo_note 1 rfl) ?_
  refine jn_e (fun J => ∀ (u1 : WD), J u1 = some res → G E mBo_note (d + 1) 26 [(0, pR 30)] [] u1 RF NN 0 0 (none, res, RF, NN)) h (fun u1 h => ?_) (fun J3 hJ3 h => ?_)
  · refine g_aload_n (pc := 26) (j := 0) (dk d_mBo_note 13 rfl) rfl (by decide) ?_
    refine g_dup (pc := 27) (dk d_mBo_note 14 rfl) rfl ?_
    refine g_getI (pc := 28) fp_Bo_22 po_30 (dk d_mBo_note 15 rfl) ?_
    refine g_iconst (pc := 31) (dk d_mBo_note 16 rfl) (by decide) ?_
    refine g_iadd (pc := 32) (dk d_mBo_note 17 rfl) ?_
    refine h_putI (pc := 33) fp_Bo_22 po_30 (dk d_mBo_note 18 rfl) h (fun u2 h => ?_)
    exact h_vret (pc := 36) (dk d_mBo_note 19 rfl) h
  · refine h_if_lt (pc := 4) (tgt := 26) (dk d_mBo_note 2 rfl) rfl h (fun hc6 h => ?_) (fun hc6 h => ?_)
    · refine g_pick [0] rfl (l' := [(0, pR 30)]) rfl ?_
      exact hJ3 _ h
    · refine g_aload_n (pc := 7) (j := 0) (dk d_mBo_note 3 rfl) rfl (by decide) ?_
      refine g_getI (pc := 8) fp_Bo_22 po_30 (dk d_mBo_note 4 rfl) ?_
      refine g_bipush (pc := 11) (dk d_mBo_note 5 rfl) (by decide) ?_
      refine h_icmp_ge (pc := 13) (tgt := 26) (dk d_mBo_note 6 rfl) rfl h (fun hc5 h => ?_) (fun hc5 h => ?_)
      · refine g_pick [0] rfl (l' := [(0, pR 30)]) rfl ?_
        exact hJ3 _ h
      · refine g_aload_n (pc := 16) (j := 0) (dk d_mBo_note 7 rfl) rfl (by decide) ?_
        refine g_getR (pc := 17) (a := 32) rfl fp_Bo_15 po_30 (dk d_mBo_note 8 rfl) ?_
        refine g_aload_n (pc := 20) (j := 0) (dk d_mBo_note 9 rfl) rfl (by decide) ?_
        refine g_getI (pc := 21) fp_Bo_22 po_30 (dk d_mBo_note 10 rfl) ?_
        refine g_iload_n (pc := 24) (j := 1) (dk d_mBo_note 11 rfl) rfl ?_
        refine h_iast (pc := 25) (B := 24) pa_32 rfl (dk d_mBo_note 12 rfl) h (fun u4 h => ?_)
        refine g_pick [0] rfl (l' := [(0, pR 30)]) rfl ?_
        exact hJ3 _ h
set_option maxRecDepth 100000 in
set_option maxHeartbeats 4000000 in
theorem kBo_note (E : Nat × (Int → Int)) (d : Nat) {a1 : Int} {w w1 : WD} (h : fBo_note a1 w = some w1) : CTv E mBo_note (d + 1) [pR 30, pI a1] w RF NN w1 RF NN := by
  exact CTv_of (by decide +kernel) (Nat.le_of_ble_eq_true rfl) rfl (gBo_note (res := w1) E d a1 w h)
def fBo_ownOf (a0 : Int) (a1 : Int) (w : WD) : Option (Int × WD) := jn (β := Int → WD → Option (Int × WD)) (fun (s1 : Int) (u2 : WD) => if s1 = 0 then (some (0, u2)) else (ck (0 ≤ (w32 ((w32 (4 * a0)) + a1)) ∧ (w32 ((w32 (4 * a0)) + a1)) < 32) <| some ((roC 4 (w32 ((w32 (4 * a0)) + a1))), u2))) <| fun J4 => jn (β := WD → Option (Int × WD)) (fun (u5 : WD) => J4 0 u5) <| fun J6 => if a0 < 0 then (J6 w) else (if 8 ≤ a0 then (J6 w) else (if a1 < 0 then (J6 w) else (if 4 ≤ a1 then (J6 w) else (J4 1 w))))
set_option maxRecDepth 100000 in
set_option maxHeartbeats 4000000 in
theorem gBo_ownOf (E : Nat × (Int → Int)) (d : Nat) {res : Int × WD} (a0 : Int) (a1 : Int) (w : WD) (h : fBo_ownOf a0 a1 w = some res) : G E mBo_ownOf (d + 1) 0 [(0, pI a0), (1, pI a1)] [] w RF NN 0 0 (some (pI res.1), res.2, RF, NN) := by
  unfold fBo_ownOf at h
  refine g_iload_n (pc := 0) (j := 0) (dk d_mBo_ownOf 0 rfl) rfl ?_
  refine jn_e (fun J => ∀ (s1 : Int) (u2 : WD), J s1 u2 = some res → G E mBo_ownOf (d + 1) 24 [(0, pI a0), (1, pI a1)] [pI s1] u2 RF NN 0 0 (some (pI res.1), res.2, RF, NN)) h (fun s1 u2 h => ?_) (fun J4 hJ4 h => ?_)
  · refine g_istore_n (pc := 24) (l' := [(2, pI s1), (0, pI a0), (1, pI a1)]) (dk d_mBo_ownOf 13 rfl) (Nat.le_of_ble_eq_true rfl) rfl ?_
    refine g_iload_n (pc := 25) (j := 0) (dk d_mBo_ownOf 14 rfl) rfl ?_
    refine h_if_eq (pc := 26) (tgt := 41) (dk d_mBo_ownOf 15 rfl) rfl h (fun hc3 h => ?_) (fun hc3 h => ?_)
    · refine g_iconst (pc := 41) (dk d_mBo_ownOf 24 rfl) (by decide) ?_
      exact h_iret (pc := 42) rfl (dk d_mBo_ownOf 25 rfl) h
    · refine g_gets (pc := 29) (q := 4) (a := (-4)) (by decide) rfl fs_Bo_43 (dk d_mBo_ownOf 16 rfl) ?_
      refine g_iconst (pc := 32) (dk d_mBo_ownOf 17 rfl) (by decide) ?_
      refine g_iload_n (pc := 33) (j := 1) (dk d_mBo_ownOf 18 rfl) rfl ?_
      refine g_imul (pc := 34) (dk d_mBo_ownOf 19 rfl) ?_
      refine g_iload_n (pc := 35) (j := 2) (dk d_mBo_ownOf 20 rfl) rfl ?_
      refine g_iadd (pc := 36) (dk d_mBo_ownOf 21 rfl) ?_
      refine h_roald (pc := 37) (q := 4) (B := 32) (by decide) rfl rfl (dk d_mBo_ownOf 22 rfl) h (fun h => ?_)
      refine g_goto (pc := 38) (tgt := 42) (dk d_mBo_ownOf 23 rfl) rfl ?_
      exact h_iret (pc := 42) rfl (dk d_mBo_ownOf 25 rfl) h
  · refine jn_e (fun J => ∀ (u5 : WD), J u5 = some res → G E mBo_ownOf (d + 1) 23 [(0, pI a0), (1, pI a1)] [] u5 RF NN 0 0 (some (pI res.1), res.2, RF, NN)) h (fun u5 h => ?_) (fun J6 hJ6 h => ?_)
    · refine g_iconst (pc := 23) (dk d_mBo_ownOf 12 rfl) (by decide) ?_
      exact hJ4 _ _ h
    · refine h_if_lt (pc := 1) (tgt := 23) (dk d_mBo_ownOf 1 rfl) rfl h (fun hc10 h => ?_) (fun hc10 h => ?_)
      · exact hJ6 _ h
      · refine g_iload_n (pc := 4) (j := 0) (dk d_mBo_ownOf 2 rfl) rfl ?_
        refine g_bipush (pc := 5) (dk d_mBo_ownOf 3 rfl) (by decide) ?_
        refine h_icmp_ge (pc := 7) (tgt := 23) (dk d_mBo_ownOf 4 rfl) rfl h (fun hc9 h => ?_) (fun hc9 h => ?_)
        · exact hJ6 _ h
        · refine g_iload_n (pc := 10) (j := 1) (dk d_mBo_ownOf 5 rfl) rfl ?_
          refine h_if_lt (pc := 11) (tgt := 23) (dk d_mBo_ownOf 6 rfl) rfl h (fun hc8 h => ?_) (fun hc8 h => ?_)
          · exact hJ6 _ h
          · refine g_iload_n (pc := 14) (j := 1) (dk d_mBo_ownOf 7 rfl) rfl ?_
            refine g_iconst (pc := 15) (dk d_mBo_ownOf 8 rfl) (by decide) ?_
            refine h_icmp_ge (pc := 16) (tgt := 23) (dk d_mBo_ownOf 9 rfl) rfl h (fun hc7 h => ?_) (fun hc7 h => ?_)
            · exact hJ6 _ h
            · refine g_iconst (pc := 19) (dk d_mBo_ownOf 10 rfl) (by decide) ?_
              refine g_goto (pc := 20) (tgt := 24) (dk d_mBo_ownOf 11 rfl) rfl ?_
              exact hJ4 _ _ h
set_option maxRecDepth 100000 in
set_option maxHeartbeats 4000000 in
theorem kBo_ownOf (E : Nat × (Int → Int)) (d : Nat) {a0 : Int} {a1 : Int} {w w1 : WD} {r : Int} (h : fBo_ownOf a0 a1 w = some (r, w1)) : CTi E mBo_ownOf (d + 1) [pI a0, pI a1] w RF NN r w1 RF NN := by
  exact CTi_of (by decide +kernel) (Nat.le_of_ble_eq_true rfl) (Or.inl rfl) (gBo_ownOf (res := (r, w1)) E d a0 a1 w h)
def fBo_kindOf (a1 : Int) (w : WD) : Option (Int × WD) := ci (fBo_isBody a1 w) <| fun (r2 : Int) (u1 : WD) => if r2 = 0 then (some ((-1), u1)) else (ck (0 ≤ a1 ∧ a1 < 50) <| some ((u1 31 a1), u1))
set_option maxRecDepth 100000 in
set_option maxHeartbeats 4000000 in
theorem gBo_kindOf (E : Nat × (Int → Int)) (d : Nat) {res : Int × WD} (a1 : Int) (w : WD) (h : fBo_kindOf a1 w = some res) : G E mBo_kindOf (d + 2) 0 [(0, pR 30), (1, pI a1)] [] w RF NN 0 0 (some (pI res.1), res.2, RF, NN) := by
  unfold fBo_kindOf at h
  refine g_aload_n (pc := 0) (j := 0) (dk d_mBo_kindOf 0 rfl) rfl (by decide) ?_
  refine g_iload_n (pc := 1) (j := 1) (dk d_mBo_kindOf 1 rfl) rfl ?_
  refine h_callVi (d := d + 1) (pc := 2) (na := 1) (av := [pI a1]) (k0 := 30) po_30 ⟨_, rfl⟩ ⟨rfl, rfl⟩ (dk d_mBo_kindOf 2 rfl) lk_Bo_25 vm_mBo_isBody rfl rfl (Nat.le_of_ble_eq_true rfl) h (fun r2 u1 hq => kBo_isBody E (d + 0) hq) (fun r2 u1 hb3 h => ?_)
  refine h_if_eq (pc := 5) (tgt := 17) (dk d_mBo_kindOf 3 rfl) rfl h (fun hc4 h => ?_) (fun hc4 h => ?_)
  · refine g_iconst (pc := 17) (dk d_mBo_kindOf 9 rfl) (by decide) ?_
    exact h_iret (pc := 18) rfl (dk d_mBo_kindOf 10 rfl) h
  · refine g_aload_n (pc := 8) (j := 0) (dk d_mBo_kindOf 4 rfl) rfl (by decide) ?_
    refine g_getR (pc := 9) (a := 31) rfl fp_Bo_11 po_30 (dk d_mBo_kindOf 5 rfl) ?_
    refine g_iload_n (pc := 12) (j := 1) (dk d_mBo_kindOf 6 rfl) rfl ?_
    refine h_iald (pc := 13) (B := 50) pa_31 rfl (dk d_mBo_kindOf 7 rfl) h (fun h => ?_)
    refine g_goto (pc := 14) (tgt := 18) (dk d_mBo_kindOf 8 rfl) rfl ?_
    exact h_iret (pc := 18) rfl (dk d_mBo_kindOf 10 rfl) h
set_option maxRecDepth 100000 in
set_option maxHeartbeats 4000000 in
theorem kBo_kindOf (E : Nat × (Int → Int)) (d : Nat) {a1 : Int} {w w1 : WD} {r : Int} (h : fBo_kindOf a1 w = some (r, w1)) : CTi E mBo_kindOf (d + 2) [pR 30, pI a1] w RF NN r w1 RF NN := by
  exact CTi_of (by decide +kernel) (Nat.le_of_ble_eq_true rfl) (Or.inl rfl) (gBo_kindOf (res := (r, w1)) E d a1 w h)
def fBo_own_o (o_begin : Int → Int → Int → Int → WD → Option (Int × WD)) (a1 : Int) (a2 : Int) (a3 : Int) (w : WD) : Option (Int × WD) := ci (fBo_kindOf (w 30 4) w) <| fun (r2 : Int) (u1 : WD) => ci (o_begin r2 a1 a2 (w32 (a3 + 1)) u1) <| fun (r5 : Int) (u4 : WD) => some (r5, u4)
set_option maxRecDepth 100000 in
set_option maxHeartbeats 4000000 in
theorem gBo_own_o (E : Nat × (Int → Int)) (d : Nat) {res : Int × WD} (o_begin : Int → Int → Int → Int → WD → Option (Int × WD)) (hO_Bo_begin : ∀ {a0 : Int} {a1 : Int} {a2 : Int} {a3 : Int} {w w1 : WD} {r : Int}, o_begin a0 a1 a2 a3 w = some (r, w1) → CTi E mBo_begin (d + 3) [pR 30, pI a0, pI a1, pI a2, pI a3] w RF NN r w1 RF NN) (a1 : Int) (a2 : Int) (a3 : Int) (w : WD) (h : fBo_own_o o_begin a1 a2 a3 w = some res) : G E mBo_own (d + 4) 0 [(0, pR 30), (1, pI a1), (2, pI a2), (3, pI a3)] [] w RF NN 0 0 (some (pI res.1), res.2, RF, NN) := by
  unfold fBo_own_o at h
  refine g_aload_n (pc := 0) (j := 0) (dk d_mBo_own 0 rfl) rfl (by decide) ?_
  refine g_aload_n (pc := 1) (j := 0) (dk d_mBo_own 1 rfl) rfl (by decide) ?_
  refine g_aload_n (pc := 2) (j := 0) (dk d_mBo_own 2 rfl) rfl (by decide) ?_
  refine g_getI (pc := 3) fp_Bo_36 po_30 (dk d_mBo_own 3 rfl) ?_
  refine h_callVi (d := d + 3) (pc := 6) (na := 1) (av := [pI (w 30 4)]) (k0 := 30) po_30 ⟨_, rfl⟩ ⟨rfl, rfl⟩ (dk d_mBo_own 4 rfl) lk_Bo_46 vm_mBo_kindOf rfl rfl (Nat.le_of_ble_eq_true rfl) h (fun r2 u1 hq => kBo_kindOf E (d + 1) hq) (fun r2 u1 hb3 h => ?_)
  refine g_iload_n (pc := 9) (j := 1) (dk d_mBo_own 5 rfl) rfl ?_
  refine g_iload_n (pc := 10) (j := 2) (dk d_mBo_own 6 rfl) rfl ?_
  refine g_iload_n (pc := 11) (j := 3) (dk d_mBo_own 7 rfl) rfl ?_
  refine g_iconst (pc := 12) (dk d_mBo_own 8 rfl) (by decide) ?_
  refine g_iadd (pc := 13) (dk d_mBo_own 9 rfl) ?_
  refine h_callVi (d := d + 3) (pc := 14) (na := 4) (av := [pI r2, pI a1, pI a2, pI (w32 (a3 + 1))]) (k0 := 30) po_30 ⟨_, rfl⟩ ⟨rfl, rfl⟩ (dk d_mBo_own 10 rfl) lk_Bo_49 vm_mBo_begin rfl rfl (Nat.le_of_ble_eq_true rfl) h (fun r5 u4 hq => hO_Bo_begin hq) (fun r5 u4 hb6 h => ?_)
  exact h_iret (pc := 17) rfl (dk d_mBo_own 11 rfl) h
set_option maxRecDepth 100000 in
set_option maxHeartbeats 4000000 in
theorem kBo_own_o (E : Nat × (Int → Int)) (d : Nat) (o_begin : Int → Int → Int → Int → WD → Option (Int × WD)) (hO_Bo_begin : ∀ {a0 : Int} {a1 : Int} {a2 : Int} {a3 : Int} {w w1 : WD} {r : Int}, o_begin a0 a1 a2 a3 w = some (r, w1) → CTi E mBo_begin (d + 3) [pR 30, pI a0, pI a1, pI a2, pI a3] w RF NN r w1 RF NN) {a1 : Int} {a2 : Int} {a3 : Int} {w w1 : WD} {r : Int} (h : fBo_own_o o_begin a1 a2 a3 w = some (r, w1)) : CTi E mBo_own (d + 4) [pR 30, pI a1, pI a2, pI a3] w RF NN r w1 RF NN := by
  exact CTi_of (by decide +kernel) (Nat.le_of_ble_eq_true rfl) (Or.inl rfl) (gBo_own_o (res := (r, w1)) E d o_begin hO_Bo_begin a1 a2 a3 w h)
def fBo_begin_o_l6_b (rec : Int → Int → WD → Option (Int × WD)) (o_work : Int → Int → Int → Int → WD → Option (Int × WD)) (y2 : Int) (y3 : Int) (y4 : Int) (K0 : Int → WD → Option (Int × WD)) (x5 : Int) (x6 : Int) (w : WD) : Option (Int × WD) := if 8 ≤ x6 then (K0 x5 w) else (if x5 = (-1) then (K0 x5 w) else (ci (fBo_ownOf x5 y2 w) <| fun (r2 : Int) (u1 : WD) => if r2 ≠ 0 then (K0 x5 u1) else (ci (fBo_above x5 u1) <| fun (r5 : Int) (u4 : WD) => bv (w32 (x6 + 1)) <| fun (v6_7 : Int) => rec r5 v6_7 u4)))
def fBo_begin_o_l6 (o_work : Int → Int → Int → Int → WD → Option (Int × WD)) (y2 : Int) (y3 : Int) (y4 : Int) (K0 : Int → WD → Option (Int × WD)) : Nat → Int → Int → WD → Option (Int × WD)
  | 0 => fun _ _ _ => none
  | k + 1 => fBo_begin_o_l6_b ( fBo_begin_o_l6 o_work y2 y3 y4 K0 k) o_work y2 y3 y4 K0
set_option maxRecDepth 100000 in
set_option maxHeartbeats 4000000 in
theorem fBo_begin_o_l6_b_ok (E : Nat × (Int → Int)) (d : Nat) {res : Int × WD} {rec : Int → Int → WD → Option (Int × WD)} (o_work : Int → Int → Int → Int → WD → Option (Int × WD)) (hO_Bo_work : ∀ {a0 : Int} {a1 : Int} {a2 : Int} {a3 : Int} {w w1 : WD} {r : Int}, o_work a0 a1 a2 a3 w = some (r, w1) → CTi E mBo_work (d + 3) [pR 30, pI a0, pI a1, pI a2, pI a3] w RF NN r w1 RF NN) (y2 : Int) (y3 : Int) (y4 : Int) (K0 : Int → WD → Option (Int × WD)) (hrec : ∀ (x5 : Int) (x6 : Int) (w : WD), rec x5 x6 w = some res → G E mBo_begin (d + 4) 6 [(0, pR 30), (2, pI y2), (3, pI y3), (4, pI y4), (5, pI x5), (6, pI x6)] [] w RF NN 0 0 (some (pI res.1), res.2, RF, NN)) (hK0 : ∀ (x5 : Int) (w : WD), K0 x5 w = some res → G E mBo_begin (d + 4) 41 [(0, pR 30), (2, pI y2), (3, pI y3), (4, pI y4), (5, pI x5)] [] w RF NN 0 0 (some (pI res.1), res.2, RF, NN)) (x5 : Int) (x6 : Int) (w : WD) (h : fBo_begin_o_l6_b rec o_work y2 y3 y4 K0 x5 x6 w = some res) : G E mBo_begin (d + 4) 6 [(0, pR 30), (2, pI y2), (3, pI y3), (4, pI y4), (5, pI x5), (6, pI x6)] [] w RF NN 0 0 (some (pI res.1), res.2, RF, NN) := by
  unfold fBo_begin_o_l6_b at h
  refine g_iload (pc := 6) (j := 5) (dk d_mBo_begin 4 rfl) rfl ?_
  refine g_bipush (pc := 8) (dk d_mBo_begin 5 rfl) (by decide) ?_
  refine h_icmp_ge (pc := 10) (tgt := 41) (dk d_mBo_begin 6 rfl) rfl h (fun hc10 h => ?_) (fun hc10 h => ?_)
  · refine g_pick [0, 1, 2, 3, 4] rfl (l' := [(0, pR 30), (2, pI y2), (3, pI y3), (4, pI y4), (5, pI x5)]) rfl ?_
    exact hK0 _ _ h
  · refine g_iload (pc := 13) (j := 4) (dk d_mBo_begin 7 rfl) rfl ?_
    refine g_iconst (pc := 15) (dk d_mBo_begin 8 rfl) (by decide) ?_
    refine h_icmp_eq (pc := 16) (tgt := 41) (dk d_mBo_begin 9 rfl) rfl h (fun hc9 h => ?_) (fun hc9 h => ?_)
    · refine g_pick [0, 1, 2, 3, 4] rfl (l' := [(0, pR 30), (2, pI y2), (3, pI y3), (4, pI y4), (5, pI x5)]) rfl ?_
      exact hK0 _ _ h
    · refine g_iload (pc := 19) (j := 4) (dk d_mBo_begin 10 rfl) rfl ?_
      refine g_iload_n (pc := 21) (j := 1) (dk d_mBo_begin 11 rfl) rfl ?_
      refine h_callSi (d := d + 3) (pc := 22) (na := 2) (av := [pI x5, pI y2]) ⟨rfl, rfl⟩ (dk d_mBo_begin 12 rfl) lk_Bo_53 vm_mBo_ownOf rfl rfl (Nat.le_of_ble_eq_true rfl) h (fun r2 u1 hq => kBo_ownOf E (d + 2) hq) (fun r2 u1 hb3 h => ?_)
      refine h_if_ne (pc := 25) (tgt := 41) (dk d_mBo_begin 13 rfl) rfl h (fun hc8 h => ?_) (fun hc8 h => ?_)
      · refine g_pick [0, 1, 2, 3, 4] rfl (l' := [(0, pR 30), (2, pI y2), (3, pI y3), (4, pI y4), (5, pI x5)]) rfl ?_
        exact hK0 _ _ h
      · refine g_iload (pc := 28) (j := 4) (dk d_mBo_begin 14 rfl) rfl ?_
        refine h_callSi (d := d + 3) (pc := 30) (na := 1) (av := [pI x5]) ⟨rfl, rfl⟩ (dk d_mBo_begin 15 rfl) lk_Bo_32 vm_mBo_above rfl rfl (Nat.le_of_ble_eq_true rfl) h (fun r5 u4 hq => kBo_above E (d + 2) hq) (fun r5 u4 hb6 h => ?_)
        refine g_istore (pc := 33) (l' := [(5, pI r5), (0, pR 30), (2, pI y2), (3, pI y3), (4, pI y4), (6, pI x6)]) (dk d_mBo_begin 16 rfl) (Nat.le_of_ble_eq_true rfl) rfl ?_
        refine h_iinc (pc := 35) (j := 5) (dk d_mBo_begin 17 rfl) rfl (by decide) (Nat.le_of_ble_eq_true rfl) h (fun v6_7 h => ?_)
        refine g_loc (l' := [(6, pI v6_7), (5, pI r5), (0, pR 30), (2, pI y2), (3, pI y3), (4, pI y4)]) rfl ?_
        refine g_goto (pc := 38) (tgt := 6) (dk d_mBo_begin 18 rfl) rfl ?_
        refine g_pick [2, 3, 4, 5, 1, 0] rfl (l' := [(0, pR 30), (2, pI y2), (3, pI y3), (4, pI y4), (5, pI r5), (6, pI v6_7)]) rfl ?_
        exact hrec _ _ _ h
set_option maxRecDepth 100000 in
set_option maxHeartbeats 4000000 in
theorem fBo_begin_o_l6_ok (E : Nat × (Int → Int)) (d : Nat) {res : Int × WD} (o_work : Int → Int → Int → Int → WD → Option (Int × WD)) (hO_Bo_work : ∀ {a0 : Int} {a1 : Int} {a2 : Int} {a3 : Int} {w w1 : WD} {r : Int}, o_work a0 a1 a2 a3 w = some (r, w1) → CTi E mBo_work (d + 3) [pR 30, pI a0, pI a1, pI a2, pI a3] w RF NN r w1 RF NN) (y2 : Int) (y3 : Int) (y4 : Int) (K0 : Int → WD → Option (Int × WD)) (hK0 : ∀ (x5 : Int) (w : WD), K0 x5 w = some res → G E mBo_begin (d + 4) 41 [(0, pR 30), (2, pI y2), (3, pI y3), (4, pI y4), (5, pI x5)] [] w RF NN 0 0 (some (pI res.1), res.2, RF, NN)) : ∀ (k : Nat) (x5 : Int) (x6 : Int) (w : WD), fBo_begin_o_l6 o_work y2 y3 y4 K0 k x5 x6 w = some res → G E mBo_begin (d + 4) 6 [(0, pR 30), (2, pI y2), (3, pI y3), (4, pI y4), (5, pI x5), (6, pI x6)] [] w RF NN 0 0 (some (pI res.1), res.2, RF, NN) := by
  intro k
  induction k with
  | zero =>
    intro x5 x6 w h
    exact no_e h
  | succ k ih =>
    intro x5 x6 w h
    exact fBo_begin_o_l6_b_ok E d o_work hO_Bo_work y2 y3 y4 K0 ih hK0 x5 x6 w h
def fBo_begin_o (o_work : Int → Int → Int → Int → WD → Option (Int × WD)) (a1 : Int) (a2 : Int) (a3 : Int) (a4 : Int) (w : WD) : Option (Int × WD) := fBo_begin_o_l6 o_work a2 a3 a4 (fun (v5_11 : Int) (u12 : WD) => ci (fBo_ownOf v5_11 a2 u12) <| fun (r14 : Int) (u13 : WD) => if r14 = 0 then (some (0, u13)) else (if a4 ≤ 40 then (cv (fBo_note r14 u13) <| fun (u16 : WD) => ci (o_work r14 v5_11 a3 a4 u16) <| fun (r18 : Int) (u17 : WD) => some (r18, u17)) else (some (0, u13)))) FU a1 0 w
set_option maxRecDepth 100000 in
set_option maxHeartbeats 4000000 in
theorem gBo_begin_o (E : Nat × (Int → Int)) (d : Nat) {res : Int × WD} (o_work : Int → Int → Int → Int → WD → Option (Int × WD)) (hO_Bo_work : ∀ {a0 : Int} {a1 : Int} {a2 : Int} {a3 : Int} {w w1 : WD} {r : Int}, o_work a0 a1 a2 a3 w = some (r, w1) → CTi E mBo_work (d + 3) [pR 30, pI a0, pI a1, pI a2, pI a3] w RF NN r w1 RF NN) (a1 : Int) (a2 : Int) (a3 : Int) (a4 : Int) (w : WD) (h : fBo_begin_o o_work a1 a2 a3 a4 w = some res) : G E mBo_begin (d + 4) 0 [(0, pR 30), (1, pI a1), (2, pI a2), (3, pI a3), (4, pI a4)] [] w RF NN 0 0 (some (pI res.1), res.2, RF, NN) := by
  unfold fBo_begin_o at h
  refine g_iload_n (pc := 0) (j := 1) (dk d_mBo_begin 0 rfl) rfl ?_
  refine g_istore (pc := 1) (l' := [(5, pI a1), (0, pR 30), (1, pI a1), (2, pI a2), (3, pI a3), (4, pI a4)]) (dk d_mBo_begin 1 rfl) (Nat.le_of_ble_eq_true rfl) rfl ?_
  refine g_iconst (pc := 3) (dk d_mBo_begin 2 rfl) (by decide) ?_
  refine g_istore (pc := 4) (l' := [(6, pI 0), (5, pI a1), (0, pR 30), (1, pI a1), (2, pI a2), (3, pI a3), (4, pI a4)]) (dk d_mBo_begin 3 rfl) (Nat.le_of_ble_eq_true rfl) rfl ?_
  refine g_pick [2, 4, 5, 6, 1, 0] rfl (l' := [(0, pR 30), (2, pI a2), (3, pI a3), (4, pI a4), (5, pI a1), (6, pI 0)]) rfl ?_
  refine fBo_begin_o_l6_ok E d o_work hO_Bo_work a2 a3 a4 _  (fun v5_11 u12 h => ?_) FU _ _  _ h
  · refine g_iload (pc := 41) (j := 4) (dk d_mBo_begin 19 rfl) rfl ?_
    refine g_iload_n (pc := 43) (j := 1) (dk d_mBo_begin 20 rfl) rfl ?_
    refine h_callSi (d := d + 3) (pc := 44) (na := 2) (av := [pI v5_11, pI a2]) ⟨rfl, rfl⟩ (dk d_mBo_begin 21 rfl) lk_Bo_53 vm_mBo_ownOf rfl rfl (Nat.le_of_ble_eq_true rfl) h (fun r14 u13 hq => kBo_ownOf E (d + 2) hq) (fun r14 u13 hb15 h => ?_)
    refine g_istore (pc := 47) (l' := [(6, pI r14), (0, pR 30), (2, pI a2), (3, pI a3), (4, pI a4), (5, pI v5_11)]) (dk d_mBo_begin 22 rfl) (Nat.le_of_ble_eq_true rfl) rfl ?_
    refine g_iload (pc := 49) (j := 0) (dk d_mBo_begin 23 rfl) rfl ?_
    refine h_if_eq (pc := 51) (tgt := 61) (dk d_mBo_begin 24 rfl) rfl h (fun hc21 h => ?_) (fun hc21 h => ?_)
    · refine g_iconst (pc := 61) (dk d_mBo_begin 28 rfl) (by decide) ?_
      exact h_iret (pc := 62) rfl (dk d_mBo_begin 29 rfl) h
    · refine g_iload (pc := 54) (j := 4) (dk d_mBo_begin 25 rfl) rfl ?_
      refine g_bipush (pc := 56) (dk d_mBo_begin 26 rfl) (by decide) ?_
      refine h_icmp_le (pc := 58) (tgt := 63) (dk d_mBo_begin 27 rfl) rfl h (fun hc20 h => ?_) (fun hc20 h => ?_)
      · refine g_aload_n (pc := 63) (j := 1) (dk d_mBo_begin 30 rfl) rfl (by decide) ?_
        refine g_iload (pc := 64) (j := 0) (dk d_mBo_begin 31 rfl) rfl ?_
        refine h_callVv (d := d + 3) (pc := 66) (na := 1) (av := [pI r14]) (k0 := 30) po_30 ⟨_, rfl⟩ ⟨rfl, rfl⟩ (dk d_mBo_begin 32 rfl) lk_Bo_57 vm_mBo_note rfl rfl (Nat.le_of_ble_eq_true rfl) h (fun u16 hq => kBo_note E (d + 2) hq) (fun u16 h => ?_)
        refine g_aload_n (pc := 69) (j := 1) (dk d_mBo_begin 33 rfl) rfl (by decide) ?_
        refine g_iload (pc := 70) (j := 0) (dk d_mBo_begin 34 rfl) rfl ?_
        refine g_iload (pc := 72) (j := 5) (dk d_mBo_begin 35 rfl) rfl ?_
        refine g_iload_n (pc := 74) (j := 3) (dk d_mBo_begin 36 rfl) rfl ?_
        refine g_iload (pc := 75) (j := 4) (dk d_mBo_begin 37 rfl) rfl ?_
        refine h_callVi (d := d + 3) (pc := 77) (na := 4) (av := [pI r14, pI v5_11, pI a3, pI a4]) (k0 := 30) po_30 ⟨_, rfl⟩ ⟨rfl, rfl⟩ (dk d_mBo_begin 38 rfl) lk_Bo_61 vm_mBo_work rfl rfl (Nat.le_of_ble_eq_true rfl) h (fun r18 u17 hq => hO_Bo_work hq) (fun r18 u17 hb19 h => ?_)
        exact h_iret (pc := 80) rfl (dk d_mBo_begin 39 rfl) h
      · refine g_iconst (pc := 61) (dk d_mBo_begin 28 rfl) (by decide) ?_
        exact h_iret (pc := 62) rfl (dk d_mBo_begin 29 rfl) h
set_option maxRecDepth 100000 in
set_option maxHeartbeats 4000000 in
theorem kBo_begin_o (E : Nat × (Int → Int)) (d : Nat) (o_work : Int → Int → Int → Int → WD → Option (Int × WD)) (hO_Bo_work : ∀ {a0 : Int} {a1 : Int} {a2 : Int} {a3 : Int} {w w1 : WD} {r : Int}, o_work a0 a1 a2 a3 w = some (r, w1) → CTi E mBo_work (d + 3) [pR 30, pI a0, pI a1, pI a2, pI a3] w RF NN r w1 RF NN) {a1 : Int} {a2 : Int} {a3 : Int} {a4 : Int} {w w1 : WD} {r : Int} (h : fBo_begin_o o_work a1 a2 a3 a4 w = some (r, w1)) : CTi E mBo_begin (d + 4) [pR 30, pI a1, pI a2, pI a3, pI a4] w RF NN r w1 RF NN := by
  exact CTi_of (by decide +kernel) (Nat.le_of_ble_eq_true rfl) (Or.inl rfl) (gBo_begin_o (res := (r, w1)) E d o_work hO_Bo_work a1 a2 a3 a4 w h)
def fBo_work_o (o_own : Int → Int → Int → WD → Option (Int × WD)) (o_higher : Int → Int → Int → Int → WD → Option (Int × WD)) (a1 : Int) (a2 : Int) (a3 : Int) (a4 : Int) (w : WD) : Option (Int × WD) := if a1 = 1 then (some ((w32 (a3 + (w 30 4))), w)) else (if a1 = 2 then (ci (o_own 1 a3 a4 w) <| fun (r3 : Int) (u2 : WD) => ci (o_own 2 1 a4 u2) <| fun (r6 : Int) (u5 : WD) => some ((w32 (r3 - r6)), u5)) else (if a1 = 10 then (ci (o_own 0 a3 a4 w) <| fun (r10 : Int) (u9 : WD) => some ((w32 (r10 * 2)), u9)) else (if a1 = 11 then (some ((bXor a3 (w 30 4)), w)) else (if a1 = 20 then (ci (o_higher a2 0 a3 a4 w) <| fun (r15 : Int) (u14 : WD) => some ((w32 (r15 + 3)), u14)) else (if a1 = 30 then (ci (o_higher a2 1 a3 a4 w) <| fun (r19 : Int) (u18 : WD) => some ((w32 (-r19)), u18)) else (if a1 = 40 then (ci (o_higher a2 2 a3 a4 w) <| fun (r23 : Int) (u22 : WD) => some ((w32 (r23 * 3)), u22)) else (if a1 = 41 then (ci (o_higher a2 1 (w32 (a3 + 1)) a4 w) <| fun (r27 : Int) (u26 : WD) => some (r27, u26)) else (if a1 = 50 then (ci (o_higher a2 3 a3 a4 w) <| fun (r31 : Int) (u30 : WD) => some ((bXor r31 5), u30)) else (if a1 = 60 then (ci (o_higher a2 2 a3 a4 w) <| fun (r35 : Int) (u34 : WD) => ci (o_own 0 2 a4 u34) <| fun (r38 : Int) (u37 : WD) => some ((w32 (r35 - r38)), u37)) else (if a1 = 61 then (ci (o_higher a2 3 a3 a4 w) <| fun (r42 : Int) (u41 : WD) => some ((w32 (r42 + 1)), u41)) else (if a1 = 70 then (ci (o_higher a2 0 a3 a4 w) <| fun (r46 : Int) (u45 : WD) => some ((w32 (r46 * 2)), u45)) else (if a1 = 80 then (ci (o_higher a2 1 a3 a4 w) <| fun (r50 : Int) (u49 : WD) => ci (o_own 2 2 a4 u49) <| fun (r53 : Int) (u52 : WD) => some ((w32 (r50 + r53)), u52)) else (if a1 = 81 then (ci (o_higher a2 0 a3 a4 w) <| fun (r57 : Int) (u56 : WD) => some ((w32 (r57 - 1)), u56)) else ((some (0, w))))))))))))))))
set_option maxRecDepth 100000 in
set_option maxHeartbeats 4000000 in
theorem gBo_work_o (E : Nat × (Int → Int)) (d : Nat) {res : Int × WD} (o_own : Int → Int → Int → WD → Option (Int × WD)) (o_higher : Int → Int → Int → Int → WD → Option (Int × WD)) (hO_Bo_own : ∀ {a0 : Int} {a1 : Int} {a2 : Int} {w w1 : WD} {r : Int}, o_own a0 a1 a2 w = some (r, w1) → CTi E mBo_own (d + 3) [pR 30, pI a0, pI a1, pI a2] w RF NN r w1 RF NN) (hO_Bo_higher : ∀ {a0 : Int} {a1 : Int} {a2 : Int} {a3 : Int} {w w1 : WD} {r : Int}, o_higher a0 a1 a2 a3 w = some (r, w1) → CTi E mBo_higher (d + 3) [pR 30, pI a0, pI a1, pI a2, pI a3] w RF NN r w1 RF NN) (a1 : Int) (a2 : Int) (a3 : Int) (a4 : Int) (w : WD) (h : fBo_work_o o_own o_higher a1 a2 a3 a4 w = some res) : G E mBo_work (d + 4) 0 [(0, pR 30), (1, pI a1), (2, pI a2), (3, pI a3), (4, pI a4)] [] w RF NN 0 0 (some (pI res.1), res.2, RF, NN) := by
  unfold fBo_work_o at h
  refine g_iload_n (pc := 0) (j := 1) (dk d_mBo_work 0 rfl) rfl ?_
  refine br h (fun hc1 h => ?_) (fun hc1 h => ?_)
  · refine g_look (pc := 1) (off := 123) (tgt := 124) (dk d_mBo_work 1 rfl) rfl (by rw [hc1]; rfl) rfl ?_
    refine g_iload_n (pc := 124) (j := 3) (dk d_mBo_work 2 rfl) rfl ?_
    refine g_aload_n (pc := 125) (j := 0) (dk d_mBo_work 3 rfl) rfl (by decide) ?_
    refine g_getI (pc := 126) fp_Bo_36 po_30 (dk d_mBo_work 4 rfl) ?_
    refine g_iadd (pc := 129) (dk d_mBo_work 5 rfl) ?_
    exact h_iret (pc := 130) rfl (dk d_mBo_work 6 rfl) h
  · refine br h (fun hc8 h => ?_) (fun hc8 h => ?_)
    · refine g_look (pc := 1) (off := 130) (tgt := 131) (dk d_mBo_work 1 rfl) rfl (by rw [hc8]; rfl) rfl ?_
      refine g_aload_n (pc := 131) (j := 0) (dk d_mBo_work 7 rfl) rfl (by decide) ?_
      refine g_iconst (pc := 132) (dk d_mBo_work 8 rfl) (by decide) ?_
      refine g_iload_n (pc := 133) (j := 3) (dk d_mBo_work 9 rfl) rfl ?_
      refine g_iload (pc := 134) (j := 4) (dk d_mBo_work 10 rfl) rfl ?_
      refine h_callVi (d := d + 3) (pc := 136) (na := 3) (av := [pI 1, pI a3, pI a4]) (k0 := 30) po_30 ⟨_, rfl⟩ ⟨rfl, rfl⟩ (dk d_mBo_work 11 rfl) lk_Bo_39 vm_mBo_own rfl rfl (Nat.le_of_ble_eq_true rfl) h (fun r3 u2 hq => hO_Bo_own hq) (fun r3 u2 hb4 h => ?_)
      refine g_aload_n (pc := 139) (j := 0) (dk d_mBo_work 12 rfl) rfl (by decide) ?_
      refine g_iconst (pc := 140) (dk d_mBo_work 13 rfl) (by decide) ?_
      refine g_iconst (pc := 141) (dk d_mBo_work 14 rfl) (by decide) ?_
      refine g_iload (pc := 142) (j := 4) (dk d_mBo_work 15 rfl) rfl ?_
      refine h_callVi (d := d + 3) (pc := 144) (na := 3) (av := [pI 2, pI 1, pI a4]) (k0 := 30) po_30 ⟨_, rfl⟩ ⟨rfl, rfl⟩ (dk d_mBo_work 16 rfl) lk_Bo_39 vm_mBo_own rfl rfl (Nat.le_of_ble_eq_true rfl) h (fun r6 u5 hq => hO_Bo_own hq) (fun r6 u5 hb7 h => ?_)
      refine g_isub (pc := 147) (dk d_mBo_work 17 rfl) ?_
      exact h_iret (pc := 148) rfl (dk d_mBo_work 18 rfl) h
    · refine br h (fun hc12 h => ?_) (fun hc12 h => ?_)
      · refine g_look (pc := 1) (off := 148) (tgt := 149) (dk d_mBo_work 1 rfl) rfl (by rw [hc12]; rfl) rfl ?_
        refine g_aload_n (pc := 149) (j := 0) (dk d_mBo_work 19 rfl) rfl (by decide) ?_
        refine g_iconst (pc := 150) (dk d_mBo_work 20 rfl) (by decide) ?_
        refine g_iload_n (pc := 151) (j := 3) (dk d_mBo_work 21 rfl) rfl ?_
        refine g_iload (pc := 152) (j := 4) (dk d_mBo_work 22 rfl) rfl ?_
        refine h_callVi (d := d + 3) (pc := 154) (na := 3) (av := [pI 0, pI a3, pI a4]) (k0 := 30) po_30 ⟨_, rfl⟩ ⟨rfl, rfl⟩ (dk d_mBo_work 23 rfl) lk_Bo_39 vm_mBo_own rfl rfl (Nat.le_of_ble_eq_true rfl) h (fun r10 u9 hq => hO_Bo_own hq) (fun r10 u9 hb11 h => ?_)
        refine g_iconst (pc := 157) (dk d_mBo_work 24 rfl) (by decide) ?_
        refine g_imul (pc := 158) (dk d_mBo_work 25 rfl) ?_
        exact h_iret (pc := 159) rfl (dk d_mBo_work 26 rfl) h
      · refine br h (fun hc13 h => ?_) (fun hc13 h => ?_)
        · refine g_look (pc := 1) (off := 159) (tgt := 160) (dk d_mBo_work 1 rfl) rfl (by rw [hc13]; rfl) rfl ?_
          refine g_iload_n (pc := 160) (j := 3) (dk d_mBo_work 27 rfl) rfl ?_
          refine g_aload_n (pc := 161) (j := 0) (dk d_mBo_work 28 rfl) rfl (by decide) ?_
          refine g_getI (pc := 162) fp_Bo_36 po_30 (dk d_mBo_work 29 rfl) ?_
          refine g_ixor (pc := 165) (dk d_mBo_work 30 rfl) ?_
          exact h_iret (pc := 166) rfl (dk d_mBo_work 31 rfl) h
        · refine br h (fun hc17 h => ?_) (fun hc17 h => ?_)
          · refine g_look (pc := 1) (off := 166) (tgt := 167) (dk d_mBo_work 1 rfl) rfl (by rw [hc17]; rfl) rfl ?_
            refine g_aload_n (pc := 167) (j := 0) (dk d_mBo_work 32 rfl) rfl (by decide) ?_
            refine g_iload_n (pc := 168) (j := 2) (dk d_mBo_work 33 rfl) rfl ?_
            refine g_iconst (pc := 169) (dk d_mBo_work 34 rfl) (by decide) ?_
            refine g_iload_n (pc := 170) (j := 3) (dk d_mBo_work 35 rfl) rfl ?_
            refine g_iload (pc := 171) (j := 4) (dk d_mBo_work 36 rfl) rfl ?_
            refine h_callVi (d := d + 3) (pc := 173) (na := 4) (av := [pI a2, pI 0, pI a3, pI a4]) (k0 := 30) po_30 ⟨_, rfl⟩ ⟨rfl, rfl⟩ (dk d_mBo_work 37 rfl) lk_Bo_64 vm_mBo_higher rfl rfl (Nat.le_of_ble_eq_true rfl) h (fun r15 u14 hq => hO_Bo_higher hq) (fun r15 u14 hb16 h => ?_)
            refine g_iconst (pc := 176) (dk d_mBo_work 38 rfl) (by decide) ?_
            refine g_iadd (pc := 177) (dk d_mBo_work 39 rfl) ?_
            exact h_iret (pc := 178) rfl (dk d_mBo_work 40 rfl) h
          · refine br h (fun hc21 h => ?_) (fun hc21 h => ?_)
            · refine g_look (pc := 1) (off := 178) (tgt := 179) (dk d_mBo_work 1 rfl) rfl (by rw [hc21]; rfl) rfl ?_
              refine g_aload_n (pc := 179) (j := 0) (dk d_mBo_work 41 rfl) rfl (by decide) ?_
              refine g_iload_n (pc := 180) (j := 2) (dk d_mBo_work 42 rfl) rfl ?_
              refine g_iconst (pc := 181) (dk d_mBo_work 43 rfl) (by decide) ?_
              refine g_iload_n (pc := 182) (j := 3) (dk d_mBo_work 44 rfl) rfl ?_
              refine g_iload (pc := 183) (j := 4) (dk d_mBo_work 45 rfl) rfl ?_
              refine h_callVi (d := d + 3) (pc := 185) (na := 4) (av := [pI a2, pI 1, pI a3, pI a4]) (k0 := 30) po_30 ⟨_, rfl⟩ ⟨rfl, rfl⟩ (dk d_mBo_work 46 rfl) lk_Bo_64 vm_mBo_higher rfl rfl (Nat.le_of_ble_eq_true rfl) h (fun r19 u18 hq => hO_Bo_higher hq) (fun r19 u18 hb20 h => ?_)
              refine g_ineg (pc := 188) (dk d_mBo_work 47 rfl) ?_
              exact h_iret (pc := 189) rfl (dk d_mBo_work 48 rfl) h
            · refine br h (fun hc25 h => ?_) (fun hc25 h => ?_)
              · refine g_look (pc := 1) (off := 189) (tgt := 190) (dk d_mBo_work 1 rfl) rfl (by rw [hc25]; rfl) rfl ?_
                refine g_aload_n (pc := 190) (j := 0) (dk d_mBo_work 49 rfl) rfl (by decide) ?_
                refine g_iload_n (pc := 191) (j := 2) (dk d_mBo_work 50 rfl) rfl ?_
                refine g_iconst (pc := 192) (dk d_mBo_work 51 rfl) (by decide) ?_
                refine g_iload_n (pc := 193) (j := 3) (dk d_mBo_work 52 rfl) rfl ?_
                refine g_iload (pc := 194) (j := 4) (dk d_mBo_work 53 rfl) rfl ?_
                refine h_callVi (d := d + 3) (pc := 196) (na := 4) (av := [pI a2, pI 2, pI a3, pI a4]) (k0 := 30) po_30 ⟨_, rfl⟩ ⟨rfl, rfl⟩ (dk d_mBo_work 54 rfl) lk_Bo_64 vm_mBo_higher rfl rfl (Nat.le_of_ble_eq_true rfl) h (fun r23 u22 hq => hO_Bo_higher hq) (fun r23 u22 hb24 h => ?_)
                refine g_iconst (pc := 199) (dk d_mBo_work 55 rfl) (by decide) ?_
                refine g_imul (pc := 200) (dk d_mBo_work 56 rfl) ?_
                exact h_iret (pc := 201) rfl (dk d_mBo_work 57 rfl) h
              · refine br h (fun hc29 h => ?_) (fun hc29 h => ?_)
                · refine g_look (pc := 1) (off := 201) (tgt := 202) (dk d_mBo_work 1 rfl) rfl (by rw [hc29]; rfl) rfl ?_
                  refine g_aload_n (pc := 202) (j := 0) (dk d_mBo_work 58 rfl) rfl (by decide) ?_
                  refine g_iload_n (pc := 203) (j := 2) (dk d_mBo_work 59 rfl) rfl ?_
                  refine g_iconst (pc := 204) (dk d_mBo_work 60 rfl) (by decide) ?_
                  refine g_iload_n (pc := 205) (j := 3) (dk d_mBo_work 61 rfl) rfl ?_
                  refine g_iconst (pc := 206) (dk d_mBo_work 62 rfl) (by decide) ?_
                  refine g_iadd (pc := 207) (dk d_mBo_work 63 rfl) ?_
                  refine g_iload (pc := 208) (j := 4) (dk d_mBo_work 64 rfl) rfl ?_
                  refine h_callVi (d := d + 3) (pc := 210) (na := 4) (av := [pI a2, pI 1, pI (w32 (a3 + 1)), pI a4]) (k0 := 30) po_30 ⟨_, rfl⟩ ⟨rfl, rfl⟩ (dk d_mBo_work 65 rfl) lk_Bo_64 vm_mBo_higher rfl rfl (Nat.le_of_ble_eq_true rfl) h (fun r27 u26 hq => hO_Bo_higher hq) (fun r27 u26 hb28 h => ?_)
                  exact h_iret (pc := 213) rfl (dk d_mBo_work 66 rfl) h
                · refine br h (fun hc33 h => ?_) (fun hc33 h => ?_)
                  · refine g_look (pc := 1) (off := 213) (tgt := 214) (dk d_mBo_work 1 rfl) rfl (by rw [hc33]; rfl) rfl ?_
                    refine g_aload_n (pc := 214) (j := 0) (dk d_mBo_work 67 rfl) rfl (by decide) ?_
                    refine g_iload_n (pc := 215) (j := 2) (dk d_mBo_work 68 rfl) rfl ?_
                    refine g_iconst (pc := 216) (dk d_mBo_work 69 rfl) (by decide) ?_
                    refine g_iload_n (pc := 217) (j := 3) (dk d_mBo_work 70 rfl) rfl ?_
                    refine g_iload (pc := 218) (j := 4) (dk d_mBo_work 71 rfl) rfl ?_
                    refine h_callVi (d := d + 3) (pc := 220) (na := 4) (av := [pI a2, pI 3, pI a3, pI a4]) (k0 := 30) po_30 ⟨_, rfl⟩ ⟨rfl, rfl⟩ (dk d_mBo_work 72 rfl) lk_Bo_64 vm_mBo_higher rfl rfl (Nat.le_of_ble_eq_true rfl) h (fun r31 u30 hq => hO_Bo_higher hq) (fun r31 u30 hb32 h => ?_)
                    refine g_iconst (pc := 223) (dk d_mBo_work 73 rfl) (by decide) ?_
                    refine g_ixor (pc := 224) (dk d_mBo_work 74 rfl) ?_
                    exact h_iret (pc := 225) rfl (dk d_mBo_work 75 rfl) h
                  · refine br h (fun hc40 h => ?_) (fun hc40 h => ?_)
                    · refine g_look (pc := 1) (off := 225) (tgt := 226) (dk d_mBo_work 1 rfl) rfl (by rw [hc40]; rfl) rfl ?_
                      refine g_aload_n (pc := 226) (j := 0) (dk d_mBo_work 76 rfl) rfl (by decide) ?_
                      refine g_iload_n (pc := 227) (j := 2) (dk d_mBo_work 77 rfl) rfl ?_
                      refine g_iconst (pc := 228) (dk d_mBo_work 78 rfl) (by decide) ?_
                      refine g_iload_n (pc := 229) (j := 3) (dk d_mBo_work 79 rfl) rfl ?_
                      refine g_iload (pc := 230) (j := 4) (dk d_mBo_work 80 rfl) rfl ?_
                      refine h_callVi (d := d + 3) (pc := 232) (na := 4) (av := [pI a2, pI 2, pI a3, pI a4]) (k0 := 30) po_30 ⟨_, rfl⟩ ⟨rfl, rfl⟩ (dk d_mBo_work 81 rfl) lk_Bo_64 vm_mBo_higher rfl rfl (Nat.le_of_ble_eq_true rfl) h (fun r35 u34 hq => hO_Bo_higher hq) (fun r35 u34 hb36 h => ?_)
                      refine g_aload_n (pc := 235) (j := 0) (dk d_mBo_work 82 rfl) rfl (by decide) ?_
                      refine g_iconst (pc := 236) (dk d_mBo_work 83 rfl) (by decide) ?_
                      refine g_iconst (pc := 237) (dk d_mBo_work 84 rfl) (by decide) ?_
                      refine g_iload (pc := 238) (j := 4) (dk d_mBo_work 85 rfl) rfl ?_
                      refine h_callVi (d := d + 3) (pc := 240) (na := 3) (av := [pI 0, pI 2, pI a4]) (k0 := 30) po_30 ⟨_, rfl⟩ ⟨rfl, rfl⟩ (dk d_mBo_work 86 rfl) lk_Bo_39 vm_mBo_own rfl rfl (Nat.le_of_ble_eq_true rfl) h (fun r38 u37 hq => hO_Bo_own hq) (fun r38 u37 hb39 h => ?_)
                      refine g_isub (pc := 243) (dk d_mBo_work 87 rfl) ?_
                      exact h_iret (pc := 244) rfl (dk d_mBo_work 88 rfl) h
                    · refine br h (fun hc44 h => ?_) (fun hc44 h => ?_)
                      · refine g_look (pc := 1) (off := 244) (tgt := 245) (dk d_mBo_work 1 rfl) rfl (by rw [hc44]; rfl) rfl ?_
                        refine g_aload_n (pc := 245) (j := 0) (dk d_mBo_work 89 rfl) rfl (by decide) ?_
                        refine g_iload_n (pc := 246) (j := 2) (dk d_mBo_work 90 rfl) rfl ?_
                        refine g_iconst (pc := 247) (dk d_mBo_work 91 rfl) (by decide) ?_
                        refine g_iload_n (pc := 248) (j := 3) (dk d_mBo_work 92 rfl) rfl ?_
                        refine g_iload (pc := 249) (j := 4) (dk d_mBo_work 93 rfl) rfl ?_
                        refine h_callVi (d := d + 3) (pc := 251) (na := 4) (av := [pI a2, pI 3, pI a3, pI a4]) (k0 := 30) po_30 ⟨_, rfl⟩ ⟨rfl, rfl⟩ (dk d_mBo_work 94 rfl) lk_Bo_64 vm_mBo_higher rfl rfl (Nat.le_of_ble_eq_true rfl) h (fun r42 u41 hq => hO_Bo_higher hq) (fun r42 u41 hb43 h => ?_)
                        refine g_iconst (pc := 254) (dk d_mBo_work 95 rfl) (by decide) ?_
                        refine g_iadd (pc := 255) (dk d_mBo_work 96 rfl) ?_
                        exact h_iret (pc := 256) rfl (dk d_mBo_work 97 rfl) h
                      · refine br h (fun hc48 h => ?_) (fun hc48 h => ?_)
                        · refine g_look (pc := 1) (off := 256) (tgt := 257) (dk d_mBo_work 1 rfl) rfl (by rw [hc48]; rfl) rfl ?_
                          refine g_aload_n (pc := 257) (j := 0) (dk d_mBo_work 98 rfl) rfl (by decide) ?_
                          refine g_iload_n (pc := 258) (j := 2) (dk d_mBo_work 99 rfl) rfl ?_
                          refine g_iconst (pc := 259) (dk d_mBo_work 100 rfl) (by decide) ?_
                          refine g_iload_n (pc := 260) (j := 3) (dk d_mBo_work 101 rfl) rfl ?_
                          refine g_iload (pc := 261) (j := 4) (dk d_mBo_work 102 rfl) rfl ?_
                          refine h_callVi (d := d + 3) (pc := 263) (na := 4) (av := [pI a2, pI 0, pI a3, pI a4]) (k0 := 30) po_30 ⟨_, rfl⟩ ⟨rfl, rfl⟩ (dk d_mBo_work 103 rfl) lk_Bo_64 vm_mBo_higher rfl rfl (Nat.le_of_ble_eq_true rfl) h (fun r46 u45 hq => hO_Bo_higher hq) (fun r46 u45 hb47 h => ?_)
                          refine g_iconst (pc := 266) (dk d_mBo_work 104 rfl) (by decide) ?_
                          refine g_imul (pc := 267) (dk d_mBo_work 105 rfl) ?_
                          exact h_iret (pc := 268) rfl (dk d_mBo_work 106 rfl) h
                        · refine br h (fun hc55 h => ?_) (fun hc55 h => ?_)
                          · refine g_look (pc := 1) (off := 268) (tgt := 269) (dk d_mBo_work 1 rfl) rfl (by rw [hc55]; rfl) rfl ?_
                            refine g_aload_n (pc := 269) (j := 0) (dk d_mBo_work 107 rfl) rfl (by decide) ?_
                            refine g_iload_n (pc := 270) (j := 2) (dk d_mBo_work 108 rfl) rfl ?_
                            refine g_iconst (pc := 271) (dk d_mBo_work 109 rfl) (by decide) ?_
                            refine g_iload_n (pc := 272) (j := 3) (dk d_mBo_work 110 rfl) rfl ?_
                            refine g_iload (pc := 273) (j := 4) (dk d_mBo_work 111 rfl) rfl ?_
                            refine h_callVi (d := d + 3) (pc := 275) (na := 4) (av := [pI a2, pI 1, pI a3, pI a4]) (k0 := 30) po_30 ⟨_, rfl⟩ ⟨rfl, rfl⟩ (dk d_mBo_work 112 rfl) lk_Bo_64 vm_mBo_higher rfl rfl (Nat.le_of_ble_eq_true rfl) h (fun r50 u49 hq => hO_Bo_higher hq) (fun r50 u49 hb51 h => ?_)
                            refine g_aload_n (pc := 278) (j := 0) (dk d_mBo_work 113 rfl) rfl (by decide) ?_
                            refine g_iconst (pc := 279) (dk d_mBo_work 114 rfl) (by decide) ?_
                            refine g_iconst (pc := 280) (dk d_mBo_work 115 rfl) (by decide) ?_
                            refine g_iload (pc := 281) (j := 4) (dk d_mBo_work 116 rfl) rfl ?_
                            refine h_callVi (d := d + 3) (pc := 283) (na := 3) (av := [pI 2, pI 2, pI a4]) (k0 := 30) po_30 ⟨_, rfl⟩ ⟨rfl, rfl⟩ (dk d_mBo_work 117 rfl) lk_Bo_39 vm_mBo_own rfl rfl (Nat.le_of_ble_eq_true rfl) h (fun r53 u52 hq => hO_Bo_own hq) (fun r53 u52 hb54 h => ?_)
                            refine g_iadd (pc := 286) (dk d_mBo_work 118 rfl) ?_
                            exact h_iret (pc := 287) rfl (dk d_mBo_work 119 rfl) h
                          · refine br h (fun hc59 h => ?_) (fun hc59 h => ?_)
                            · refine g_look (pc := 1) (off := 287) (tgt := 288) (dk d_mBo_work 1 rfl) rfl (by rw [hc59]; rfl) rfl ?_
                              refine g_aload_n (pc := 288) (j := 0) (dk d_mBo_work_1 0 rfl) rfl (by decide) ?_
                              refine g_iload_n (pc := 289) (j := 2) (dk d_mBo_work_1 1 rfl) rfl ?_
                              refine g_iconst (pc := 290) (dk d_mBo_work_1 2 rfl) (by decide) ?_
                              refine g_iload_n (pc := 291) (j := 3) (dk d_mBo_work_1 3 rfl) rfl ?_
                              refine g_iload (pc := 292) (j := 4) (dk d_mBo_work_1 4 rfl) rfl ?_
                              refine h_callVi (d := d + 3) (pc := 294) (na := 4) (av := [pI a2, pI 0, pI a3, pI a4]) (k0 := 30) po_30 ⟨_, rfl⟩ ⟨rfl, rfl⟩ (dk d_mBo_work_1 5 rfl) lk_Bo_64 vm_mBo_higher rfl rfl (Nat.le_of_ble_eq_true rfl) h (fun r57 u56 hq => hO_Bo_higher hq) (fun r57 u56 hb58 h => ?_)
                              refine g_iconst (pc := 297) (dk d_mBo_work_1 6 rfl) (by decide) ?_
                              refine g_isub (pc := 298) (dk d_mBo_work_1 7 rfl) ?_
                              exact h_iret (pc := 299) rfl (dk d_mBo_work_1 8 rfl) h
                            · refine g_look (pc := 1) (off := 299) (tgt := 300) (dk d_mBo_work 1 rfl) rfl (look_d _ _ _ ⟨by simp only; omega, by simp only; omega, by simp only; omega, by simp only; omega, by simp only; omega, by simp only; omega, by simp only; omega, by simp only; omega, by simp only; omega, by simp only; omega, by simp only; omega, by simp only; omega, by simp only; omega, by simp only; omega, trivial⟩) rfl ?_
                              refine g_iconst (pc := 300) (dk d_mBo_work_1 9 rfl) (by decide) ?_
                              exact h_iret (pc := 301) rfl (dk d_mBo_work_1 10 rfl) h
set_option maxRecDepth 100000 in
set_option maxHeartbeats 4000000 in
theorem kBo_work_o (E : Nat × (Int → Int)) (d : Nat) (o_own : Int → Int → Int → WD → Option (Int × WD)) (o_higher : Int → Int → Int → Int → WD → Option (Int × WD)) (hO_Bo_own : ∀ {a0 : Int} {a1 : Int} {a2 : Int} {w w1 : WD} {r : Int}, o_own a0 a1 a2 w = some (r, w1) → CTi E mBo_own (d + 3) [pR 30, pI a0, pI a1, pI a2] w RF NN r w1 RF NN) (hO_Bo_higher : ∀ {a0 : Int} {a1 : Int} {a2 : Int} {a3 : Int} {w w1 : WD} {r : Int}, o_higher a0 a1 a2 a3 w = some (r, w1) → CTi E mBo_higher (d + 3) [pR 30, pI a0, pI a1, pI a2, pI a3] w RF NN r w1 RF NN) {a1 : Int} {a2 : Int} {a3 : Int} {a4 : Int} {w w1 : WD} {r : Int} (h : fBo_work_o o_own o_higher a1 a2 a3 a4 w = some (r, w1)) : CTi E mBo_work (d + 4) [pR 30, pI a1, pI a2, pI a3, pI a4] w RF NN r w1 RF NN := by
  exact CTi_of (by decide +kernel) (Nat.le_of_ble_eq_true rfl) (Or.inl rfl) (gBo_work_o (res := (r, w1)) E d o_own o_higher hO_Bo_own hO_Bo_higher a1 a2 a3 a4 w h)
def fBo_higher_o (o_begin : Int → Int → Int → Int → WD → Option (Int × WD)) (a1 : Int) (a2 : Int) (a3 : Int) (a4 : Int) (w : WD) : Option (Int × WD) := ci (fBo_above a1 w) <| fun (r2 : Int) (u1 : WD) => ci (o_begin r2 a2 a3 (w32 (a4 + 1)) u1) <| fun (r5 : Int) (u4 : WD) => some (r5, u4)
set_option maxRecDepth 100000 in
set_option maxHeartbeats 4000000 in
theorem gBo_higher_o (E : Nat × (Int → Int)) (d : Nat) {res : Int × WD} (o_begin : Int → Int → Int → Int → WD → Option (Int × WD)) (hO_Bo_begin : ∀ {a0 : Int} {a1 : Int} {a2 : Int} {a3 : Int} {w w1 : WD} {r : Int}, o_begin a0 a1 a2 a3 w = some (r, w1) → CTi E mBo_begin (d + 3) [pR 30, pI a0, pI a1, pI a2, pI a3] w RF NN r w1 RF NN) (a1 : Int) (a2 : Int) (a3 : Int) (a4 : Int) (w : WD) (h : fBo_higher_o o_begin a1 a2 a3 a4 w = some res) : G E mBo_higher (d + 4) 0 [(0, pR 30), (1, pI a1), (2, pI a2), (3, pI a3), (4, pI a4)] [] w RF NN 0 0 (some (pI res.1), res.2, RF, NN) := by
  unfold fBo_higher_o at h
  refine g_aload_n (pc := 0) (j := 0) (dk d_mBo_higher 0 rfl) rfl (by decide) ?_
  refine g_iload_n (pc := 1) (j := 1) (dk d_mBo_higher 1 rfl) rfl ?_
  refine h_callSi (d := d + 3) (pc := 2) (na := 1) (av := [pI a1]) ⟨rfl, rfl⟩ (dk d_mBo_higher 2 rfl) lk_Bo_32 vm_mBo_above rfl rfl (Nat.le_of_ble_eq_true rfl) h (fun r2 u1 hq => kBo_above E (d + 2) hq) (fun r2 u1 hb3 h => ?_)
  refine g_iload_n (pc := 5) (j := 2) (dk d_mBo_higher 3 rfl) rfl ?_
  refine g_iload_n (pc := 6) (j := 3) (dk d_mBo_higher 4 rfl) rfl ?_
  refine g_iload (pc := 7) (j := 4) (dk d_mBo_higher 5 rfl) rfl ?_
  refine g_iconst (pc := 9) (dk d_mBo_higher 6 rfl) (by decide) ?_
  refine g_iadd (pc := 10) (dk d_mBo_higher 7 rfl) ?_
  refine h_callVi (d := d + 3) (pc := 11) (na := 4) (av := [pI r2, pI a2, pI a3, pI (w32 (a4 + 1))]) (k0 := 30) po_30 ⟨_, rfl⟩ ⟨rfl, rfl⟩ (dk d_mBo_higher 8 rfl) lk_Bo_49 vm_mBo_begin rfl rfl (Nat.le_of_ble_eq_true rfl) h (fun r5 u4 hq => hO_Bo_begin hq) (fun r5 u4 hb6 h => ?_)
  exact h_iret (pc := 14) rfl (dk d_mBo_higher 9 rfl) h
set_option maxRecDepth 100000 in
set_option maxHeartbeats 4000000 in
theorem kBo_higher_o (E : Nat × (Int → Int)) (d : Nat) (o_begin : Int → Int → Int → Int → WD → Option (Int × WD)) (hO_Bo_begin : ∀ {a0 : Int} {a1 : Int} {a2 : Int} {a3 : Int} {w w1 : WD} {r : Int}, o_begin a0 a1 a2 a3 w = some (r, w1) → CTi E mBo_begin (d + 3) [pR 30, pI a0, pI a1, pI a2, pI a3] w RF NN r w1 RF NN) {a1 : Int} {a2 : Int} {a3 : Int} {a4 : Int} {w w1 : WD} {r : Int} (h : fBo_higher_o o_begin a1 a2 a3 a4 w = some (r, w1)) : CTi E mBo_higher (d + 4) [pR 30, pI a1, pI a2, pI a3, pI a4] w RF NN r w1 RF NN := by
  exact CTi_of (by decide +kernel) (Nat.le_of_ble_eq_true rfl) (Or.inl rfl) (gBo_higher_o (res := (r, w1)) E d o_begin hO_Bo_begin a1 a2 a3 a4 w h)
def FBo_own : Nat → (Int → Int → Int → WD → Option (Int × WD)) × (Int → Int → Int → Int → WD → Option (Int × WD)) × (Int → Int → Int → Int → WD → Option (Int × WD)) × (Int → Int → Int → Int → WD → Option (Int × WD))
  | 0 => (fun _ _ _ _ => none, fun _ _ _ _ _ => none, fun _ _ _ _ _ => none, fun _ _ _ _ _ => none)
  | k + 1 => (fBo_own_o (FBo_own k).2.1, fBo_begin_o (FBo_own k).2.2.1, fBo_work_o (FBo_own k).1 (FBo_own k).2.2.2, fBo_higher_o (FBo_own k).2.1)
set_option maxHeartbeats 4000000 in
theorem FBo_own_ok (E : Nat × (Int → Int)) (d : Nat) : ∀ k : Nat, (∀ {a0 : Int} {a1 : Int} {a2 : Int} {w w1 : WD} {r : Int}, (FBo_own k).1 a0 a1 a2 w = some (r, w1) → CTi E mBo_own (d + k + 3) [pR 30, pI a0, pI a1, pI a2] w RF NN r w1 RF NN) ∧ (∀ {a0 : Int} {a1 : Int} {a2 : Int} {a3 : Int} {w w1 : WD} {r : Int}, (FBo_own k).2.1 a0 a1 a2 a3 w = some (r, w1) → CTi E mBo_begin (d + k + 3) [pR 30, pI a0, pI a1, pI a2, pI a3] w RF NN r w1 RF NN) ∧ (∀ {a0 : Int} {a1 : Int} {a2 : Int} {a3 : Int} {w w1 : WD} {r : Int}, (FBo_own k).2.2.1 a0 a1 a2 a3 w = some (r, w1) → CTi E mBo_work (d + k + 3) [pR 30, pI a0, pI a1, pI a2, pI a3] w RF NN r w1 RF NN) ∧ (∀ {a0 : Int} {a1 : Int} {a2 : Int} {a3 : Int} {w w1 : WD} {r : Int}, (FBo_own k).2.2.2 a0 a1 a2 a3 w = some (r, w1) → CTi E mBo_higher (d + k + 3) [pR 30, pI a0, pI a1, pI a2, pI a3] w RF NN r w1 RF NN) := by
  intro k
  induction k with
  | zero =>
    exact ⟨fun h => no_e h, fun h => no_e h, fun h => no_e h, fun h => no_e h⟩
  | succ k ih =>
    have e : d + (k + 1) + 3 = d + k + 4 := by omega
    rw [e]
    exact ⟨by intro a0 a1 a2 w w1 r h; exact kBo_own_o E (d + k) (FBo_own k).2.1 (fun h => (ih).2.1 h) h, by intro a0 a1 a2 a3 w w1 r h; exact kBo_begin_o E (d + k) (FBo_own k).2.2.1 (fun h => (ih).2.2.1 h) h, by intro a0 a1 a2 a3 w w1 r h; exact kBo_work_o E (d + k) (FBo_own k).1 (FBo_own k).2.2.2 (fun h => (ih).1 h) (fun h => (ih).2.2.2 h) h, by intro a0 a1 a2 a3 w w1 r h; exact kBo_higher_o E (d + k) (FBo_own k).2.1 (fun h => (ih).2.1 h) h⟩
def fBo_own : Int → Int → Int → WD → Option (Int × WD) := (FBo_own 200).1
theorem kBo_own (E : Nat × (Int → Int)) (d : Nat) {a0 : Int} {a1 : Int} {a2 : Int} {w w1 : WD} {r : Int} (h : fBo_own a0 a1 a2 w = some (r, w1)) : CTi E mBo_own (d + 203) [pR 30, pI a0, pI a1, pI a2] w RF NN r w1 RF NN := (FBo_own_ok E d 200).1 h
def fBo_begin : Int → Int → Int → Int → WD → Option (Int × WD) := (FBo_own 200).2.1
theorem kBo_begin (E : Nat × (Int → Int)) (d : Nat) {a0 : Int} {a1 : Int} {a2 : Int} {a3 : Int} {w w1 : WD} {r : Int} (h : fBo_begin a0 a1 a2 a3 w = some (r, w1)) : CTi E mBo_begin (d + 203) [pR 30, pI a0, pI a1, pI a2, pI a3] w RF NN r w1 RF NN := (FBo_own_ok E d 200).2.1 h
def fBo_work : Int → Int → Int → Int → WD → Option (Int × WD) := (FBo_own 200).2.2.1
theorem kBo_work (E : Nat × (Int → Int)) (d : Nat) {a0 : Int} {a1 : Int} {a2 : Int} {a3 : Int} {w w1 : WD} {r : Int} (h : fBo_work a0 a1 a2 a3 w = some (r, w1)) : CTi E mBo_work (d + 203) [pR 30, pI a0, pI a1, pI a2, pI a3] w RF NN r w1 RF NN := (FBo_own_ok E d 200).2.2.1 h
def fBo_higher : Int → Int → Int → Int → WD → Option (Int × WD) := (FBo_own 200).2.2.2
theorem kBo_higher (E : Nat × (Int → Int)) (d : Nat) {a0 : Int} {a1 : Int} {a2 : Int} {a3 : Int} {w w1 : WD} {r : Int} (h : fBo_higher a0 a1 a2 a3 w = some (r, w1)) : CTi E mBo_higher (d + 203) [pR 30, pI a0, pI a1, pI a2, pI a3] w RF NN r w1 RF NN := (FBo_own_ok E d 200).2.2.2 h
def fBo_perform (a1 : Int) (a2 : Int) (a3 : Int) (w : WD) : Option (Int × WD) := bw (up w 30 3 0) <| fun (u1 : WD) => ci (fBo_isBody a1 u1) <| fun (r3 : Int) (u2 : WD) => if r3 = 0 then (some (0, u2)) else (if a2 < 0 then (some (0, u2)) else (if a2 < 4 then (bw (up u2 30 4 a1) <| fun (u5 : WD) => ci (fBo_own a2 a3 0 u5) <| fun (r7 : Int) (u6 : WD) => some (r7, u6)) else (some (0, u2))))
set_option maxRecDepth 100000 in
set_option maxHeartbeats 4000000 in
theorem gBo_perform (E : Nat × (Int → Int)) (d : Nat) {res : Int × WD} (a1 : Int) (a2 : Int) (a3 : Int) (w : WD) (h : fBo_perform a1 a2 a3 w = some res) : G E mBo_perform (d + 204) 0 [(0, pR 30), (1, pI a1), (2, pI a2), (3, pI a3)] [] w RF NN 0 0 (some (pI res.1), res.2, RF, NN) := by
  unfold fBo_perform at h
  refine g_aload_n (pc := 0) (j := 0) (dk d_mBo_perform 0 rfl) rfl (by decide) ?_
  refine g_iconst (pc := 1) (dk d_mBo_perform 1 rfl) (by decide) ?_
  refine h_putI (pc := 2) fp_Bo_22 po_30 (dk d_mBo_perform 2 rfl) h (fun u1 h => ?_)
  refine g_aload_n (pc := 5) (j := 0) (dk d_mBo_perform 3 rfl) rfl (by decide) ?_
  refine g_iload_n (pc := 6) (j := 1) (dk d_mBo_perform 4 rfl) rfl ?_
  refine h_callVi (d := d + 203) (pc := 7) (na := 1) (av := [pI a1]) (k0 := 30) po_30 ⟨_, rfl⟩ ⟨rfl, rfl⟩ (dk d_mBo_perform 5 rfl) lk_Bo_25 vm_mBo_isBody rfl rfl (Nat.le_of_ble_eq_true rfl) h (fun r3 u2 hq => kBo_isBody E (d + 202) hq) (fun r3 u2 hb4 h => ?_)
  refine h_if_eq (pc := 10) (tgt := 22) (dk d_mBo_perform 6 rfl) rfl h (fun hc11 h => ?_) (fun hc11 h => ?_)
  · refine g_iconst (pc := 22) (dk d_mBo_perform 12 rfl) (by decide) ?_
    exact h_iret (pc := 23) rfl (dk d_mBo_perform 13 rfl) h
  · refine g_iload_n (pc := 13) (j := 2) (dk d_mBo_perform 7 rfl) rfl ?_
    refine h_if_lt (pc := 14) (tgt := 22) (dk d_mBo_perform 8 rfl) rfl h (fun hc10 h => ?_) (fun hc10 h => ?_)
    · refine g_iconst (pc := 22) (dk d_mBo_perform 12 rfl) (by decide) ?_
      exact h_iret (pc := 23) rfl (dk d_mBo_perform 13 rfl) h
    · refine g_iload_n (pc := 17) (j := 2) (dk d_mBo_perform 9 rfl) rfl ?_
      refine g_iconst (pc := 18) (dk d_mBo_perform 10 rfl) (by decide) ?_
      refine h_icmp_lt (pc := 19) (tgt := 24) (dk d_mBo_perform 11 rfl) rfl h (fun hc9 h => ?_) (fun hc9 h => ?_)
      · refine g_aload_n (pc := 24) (j := 0) (dk d_mBo_perform 14 rfl) rfl (by decide) ?_
        refine g_iload_n (pc := 25) (j := 1) (dk d_mBo_perform 15 rfl) rfl ?_
        refine h_putI (pc := 26) fp_Bo_36 po_30 (dk d_mBo_perform 16 rfl) h (fun u5 h => ?_)
        refine g_aload_n (pc := 29) (j := 0) (dk d_mBo_perform 17 rfl) rfl (by decide) ?_
        refine g_iload_n (pc := 30) (j := 2) (dk d_mBo_perform 18 rfl) rfl ?_
        refine g_iload_n (pc := 31) (j := 3) (dk d_mBo_perform 19 rfl) rfl ?_
        refine g_iconst (pc := 32) (dk d_mBo_perform 20 rfl) (by decide) ?_
        refine h_callVi (d := d + 203) (pc := 33) (na := 3) (av := [pI a2, pI a3, pI 0]) (k0 := 30) po_30 ⟨_, rfl⟩ ⟨rfl, rfl⟩ (dk d_mBo_perform 21 rfl) lk_Bo_39 vm_mBo_own rfl rfl (Nat.le_of_ble_eq_true rfl) h (fun r7 u6 hq => kBo_own E (d + 0) hq) (fun r7 u6 hb8 h => ?_)
        exact h_iret (pc := 36) rfl (dk d_mBo_perform 22 rfl) h
      · refine g_iconst (pc := 22) (dk d_mBo_perform 12 rfl) (by decide) ?_
        exact h_iret (pc := 23) rfl (dk d_mBo_perform 13 rfl) h
set_option maxRecDepth 100000 in
set_option maxHeartbeats 4000000 in
theorem kBo_perform (E : Nat × (Int → Int)) (d : Nat) {a1 : Int} {a2 : Int} {a3 : Int} {w w1 : WD} {r : Int} (h : fBo_perform a1 a2 a3 w = some (r, w1)) : CTi E mBo_perform (d + 204) [pR 30, pI a1, pI a2, pI a3] w RF NN r w1 RF NN := by
  exact CTi_of (by decide +kernel) (Nat.le_of_ble_eq_true rfl) (Or.inl rfl) (gBo_perform (res := (r, w1)) E d a1 a2 a3 w h)
def fB_act (a1 : Int) (a2 : Int) (a3 : Int) (w : WD) : Option (Int × WD) := ci (fBo_perform a1 a2 a3 w) <| fun (r2 : Int) (u1 : WD) => some (r2, u1)
set_option maxRecDepth 100000 in
set_option maxHeartbeats 4000000 in
theorem gB_act (E : Nat × (Int → Int)) (d : Nat) {res : Int × WD} (a1 : Int) (a2 : Int) (a3 : Int) (w : WD) (h : fB_act a1 a2 a3 w = some res) : G E mB_act (d + 205) 0 [(0, pR 0), (1, pI a1), (2, pI a2), (3, pI a3)] [] w RF NN 0 0 (some (pI res.1), res.2, RF, NN) := by
  unfold fB_act at h
  refine g_aload_n (pc := 0) (j := 0) (dk d_mB_act 0 rfl) rfl (by decide) ?_
  refine g_getR (pc := 1) (a := 30) rfl fp_B_51 po_0 (dk d_mB_act 1 rfl) ?_
  refine g_iload_n (pc := 4) (j := 1) (dk d_mB_act 2 rfl) rfl ?_
  refine g_iload_n (pc := 5) (j := 2) (dk d_mB_act 3 rfl) rfl ?_
  refine g_iload_n (pc := 6) (j := 3) (dk d_mB_act 4 rfl) rfl ?_
  refine h_callVi (d := d + 204) (pc := 7) (na := 3) (av := [pI a1, pI a2, pI a3]) (k0 := 30) po_30 ⟨_, rfl⟩ ⟨rfl, rfl⟩ (dk d_mB_act 5 rfl) lk_B_299 vm_mBo_perform rfl rfl (Nat.le_of_ble_eq_true rfl) h (fun r2 u1 hq => kBo_perform E (d + 0) hq) (fun r2 u1 hb3 h => ?_)
  exact h_iret (pc := 10) rfl (dk d_mB_act 6 rfl) h
set_option maxRecDepth 100000 in
set_option maxHeartbeats 4000000 in
theorem kB_act (E : Nat × (Int → Int)) (d : Nat) {a1 : Int} {a2 : Int} {a3 : Int} {w w1 : WD} {r : Int} (h : fB_act a1 a2 a3 w = some (r, w1)) : CTi E mB_act (d + 205) [pR 0, pI a1, pI a2, pI a3] w RF NN r w1 RF NN := by
  exact CTi_of (by decide +kernel) (Nat.le_of_ble_eq_true rfl) (Or.inl rfl) (gB_act (res := (r, w1)) E d a1 a2 a3 w h)
def fBo_traced (a1 : Int) (w : WD) : Option (Int × WD) := if a1 < 0 then (some ((-1), w)) else (if (w 30 3) ≤ a1 then (some ((-1), w)) else (if 24 ≤ a1 then (some ((-1), w)) else (ck (0 ≤ a1 ∧ a1 < 24) <| some ((w 32 a1), w))))
set_option maxRecDepth 100000 in
set_option maxHeartbeats 4000000 in
theorem gBo_traced (E : Nat × (Int → Int)) (d : Nat) {res : Int × WD} (a1 : Int) (w : WD) (h : fBo_traced a1 w = some res) : G E mBo_traced (d + 1) 0 [(0, pR 30), (1, pI a1)] [] w RF NN 0 0 (some (pI res.1), res.2, RF, NN) := by
  unfold fBo_traced at h
  refine g_iload_n (pc := 0) (j := 1) (dk d_mBo_traced 0 rfl) rfl ?_
  refine h_if_lt (pc := 1) (tgt := 27) (dk d_mBo_traced 1 rfl) rfl h (fun hc3 h => ?_) (fun hc3 h => ?_)
  · refine g_iconst (pc := 27) (dk d_mBo_traced 14 rfl) (by decide) ?_
    exact h_iret (pc := 28) rfl (dk d_mBo_traced 15 rfl) h
  · refine g_iload_n (pc := 4) (j := 1) (dk d_mBo_traced 2 rfl) rfl ?_
    refine g_aload_n (pc := 5) (j := 0) (dk d_mBo_traced 3 rfl) rfl (by decide) ?_
    refine g_getI (pc := 6) fp_Bo_22 po_30 (dk d_mBo_traced 4 rfl) ?_
    refine h_icmp_ge (pc := 9) (tgt := 27) (dk d_mBo_traced 5 rfl) rfl h (fun hc2 h => ?_) (fun hc2 h => ?_)
    · refine g_iconst (pc := 27) (dk d_mBo_traced 14 rfl) (by decide) ?_
      exact h_iret (pc := 28) rfl (dk d_mBo_traced 15 rfl) h
    · refine g_iload_n (pc := 12) (j := 1) (dk d_mBo_traced 6 rfl) rfl ?_
      refine g_bipush (pc := 13) (dk d_mBo_traced 7 rfl) (by decide) ?_
      refine h_icmp_ge (pc := 15) (tgt := 27) (dk d_mBo_traced 8 rfl) rfl h (fun hc1 h => ?_) (fun hc1 h => ?_)
      · refine g_iconst (pc := 27) (dk d_mBo_traced 14 rfl) (by decide) ?_
        exact h_iret (pc := 28) rfl (dk d_mBo_traced 15 rfl) h
      · refine g_aload_n (pc := 18) (j := 0) (dk d_mBo_traced 9 rfl) rfl (by decide) ?_
        refine g_getR (pc := 19) (a := 32) rfl fp_Bo_15 po_30 (dk d_mBo_traced 10 rfl) ?_
        refine g_iload_n (pc := 22) (j := 1) (dk d_mBo_traced 11 rfl) rfl ?_
        refine h_iald (pc := 23) (B := 24) pa_32 rfl (dk d_mBo_traced 12 rfl) h (fun h => ?_)
        refine g_goto (pc := 24) (tgt := 28) (dk d_mBo_traced 13 rfl) rfl ?_
        exact h_iret (pc := 28) rfl (dk d_mBo_traced 15 rfl) h
set_option maxRecDepth 100000 in
set_option maxHeartbeats 4000000 in
theorem kBo_traced (E : Nat × (Int → Int)) (d : Nat) {a1 : Int} {w w1 : WD} {r : Int} (h : fBo_traced a1 w = some (r, w1)) : CTi E mBo_traced (d + 1) [pR 30, pI a1] w RF NN r w1 RF NN := by
  exact CTi_of (by decide +kernel) (Nat.le_of_ble_eq_true rfl) (Or.inl rfl) (gBo_traced (res := (r, w1)) E d a1 w h)
def fB_trace (a1 : Int) (w : WD) : Option (Int × WD) := ci (fBo_traced a1 w) <| fun (r2 : Int) (u1 : WD) => some (r2, u1)
set_option maxRecDepth 100000 in
set_option maxHeartbeats 4000000 in
theorem gB_trace (E : Nat × (Int → Int)) (d : Nat) {res : Int × WD} (a1 : Int) (w : WD) (h : fB_trace a1 w = some res) : G E mB_trace (d + 2) 0 [(0, pR 0), (1, pI a1)] [] w RF NN 0 0 (some (pI res.1), res.2, RF, NN) := by
  unfold fB_trace at h
  refine g_aload_n (pc := 0) (j := 0) (dk d_mB_trace 0 rfl) rfl (by decide) ?_
  refine g_getR (pc := 1) (a := 30) rfl fp_B_51 po_0 (dk d_mB_trace 1 rfl) ?_
  refine g_iload_n (pc := 4) (j := 1) (dk d_mB_trace 2 rfl) rfl ?_
  refine h_callVi (d := d + 1) (pc := 5) (na := 1) (av := [pI a1]) (k0 := 30) po_30 ⟨_, rfl⟩ ⟨rfl, rfl⟩ (dk d_mB_trace 3 rfl) lk_B_302 vm_mBo_traced rfl rfl (Nat.le_of_ble_eq_true rfl) h (fun r2 u1 hq => kBo_traced E (d + 0) hq) (fun r2 u1 hb3 h => ?_)
  exact h_iret (pc := 8) rfl (dk d_mB_trace 4 rfl) h
set_option maxRecDepth 100000 in
set_option maxHeartbeats 4000000 in
theorem kB_trace (E : Nat × (Int → Int)) (d : Nat) {a1 : Int} {w w1 : WD} {r : Int} (h : fB_trace a1 w = some (r, w1)) : CTi E mB_trace (d + 2) [pR 0, pI a1] w RF NN r w1 RF NN := by
  exact CTi_of (by decide +kernel) (Nat.le_of_ble_eq_true rfl) (Or.inl rfl) (gB_trace (res := (r, w1)) E d a1 w h)
def fSh_hold (o : Int) (a1 : Int) (w : WD) : Option WD := bw (up w (34 + 2 * o) 1 a1) <| fun (u1 : WD) => bw (up u1 (34 + 2 * o) 2 (-1)) <| fun (u2 : WD) => bw (up u2 (34 + 2 * o) 3 0) <| fun (u3 : WD) => some u3
set_option maxRecDepth 100000 in
set_option maxHeartbeats 4000000 in
theorem gSh_hold (E : Nat × (Int → Int)) (d : Nat) {res : WD} (o : Int) (a1 : Int) (ho : 0 ≤ o ∧ o < 6) (w : WD) (h : fSh_hold o a1 w = some res) : G E mSh_hold (d + 1) 0 [(0, pR (34 + 2 * o)), (1, pI a1)] [] w RF NN 0 0 (none, res, RF, NN) := by
  unfold fSh_hold at h
  refine g_aload_n (pc := 0) (j := 0) (dk d_mSh_hold 0 rfl) rfl (by have := ho; omega) ?_
  refine g_iload_n (pc := 1) (j := 1) (dk d_mSh_hold 1 rfl) rfl ?_
  refine h_putI (pc := 2) fp_Sh_13 (po_s ho) (dk d_mSh_hold 2 rfl) h (fun u1 h => ?_)
  refine g_aload_n (pc := 5) (j := 0) (dk d_mSh_hold 3 rfl) rfl (by have := ho; omega) ?_
  refine g_iconst (pc := 6) (dk d_mSh_hold 4 rfl) (by decide) ?_
  refine h_putI (pc := 7) fp_Sh_17 (po_s ho) (dk d_mSh_hold 5 rfl) h (fun u2 h => ?_)
  refine g_aload_n (pc := 10) (j := 0) (dk d_mSh_hold 6 rfl) rfl (by have := ho; omega) ?_
  refine g_iconst (pc := 11) (dk d_mSh_hold 7 rfl) (by decide) ?_
  refine h_putI (pc := 12) fp_Sh_20 (po_s ho) (dk d_mSh_hold 8 rfl) h (fun u3 h => ?_)
  exact h_vret (pc := 15) (dk d_mSh_hold 9 rfl) h
set_option maxRecDepth 100000 in
set_option maxHeartbeats 4000000 in
theorem kSh_hold (E : Nat × (Int → Int)) (d : Nat) {o : Int} {a1 : Int} (ho : 0 ≤ o ∧ o < 6) {w w1 : WD} (h : fSh_hold o a1 w = some w1) : CTv E mSh_hold (d + 1) [pR (34 + 2 * o), pI a1] w RF NN w1 RF NN := by
  exact CTv_of (by decide +kernel) (Nat.le_of_ble_eq_true rfl) rfl (gSh_hold (res := w1) E d o a1 ho w h)
def fB_keep (a1 : Int) (a2 : Int) (w : WD) : Option (Int × WD) := ci (fB_isShelf a1 w) <| fun (r2 : Int) (u1 : WD) => if r2 = 0 then (some ((-1), u1)) else (jn (β := WD → Option (Int × WD)) (fun (u4 : WD) => ck (0 ≤ a1 ∧ a1 < 6) <| cv (fSh_hold a1 a2 u4) <| fun (u6 : WD) => some (1, u6)) <| fun J7 => if a2 = (-1) then (J7 u1) else (ci (fBo_isBody a2 u1) <| fun (r9 : Int) (u8 : WD) => if r9 ≠ 0 then (J7 u8) else (some ((-1), u8))))
set_option maxRecDepth 100000 in
set_option maxHeartbeats 4000000 in
theorem gB_keep (E : Nat × (Int → Int)) (d : Nat) {res : Int × WD} (a1 : Int) (a2 : Int) (w : WD) (h : fB_keep a1 a2 w = some res) : G E mB_keep (d + 2) 0 [(0, pR 0), (1, pI a1), (2, pI a2)] [] w RF NN 0 0 (some (pI res.1), res.2, RF, NN) := by
  unfold fB_keep at h
  refine g_iload_n (pc := 0) (j := 1) (dk d_mB_keep 0 rfl) rfl ?_
  refine h_callSi (d := d + 1) (pc := 1) (na := 1) (av := [pI a1]) ⟨rfl, rfl⟩ (dk d_mB_keep 1 rfl) lk_B_66 vm_mB_isShelf rfl rfl (Nat.le_of_ble_eq_true rfl) h (fun r2 u1 hq => kB_isShelf E (d + 0) hq) (fun r2 u1 hb3 h => ?_)
  refine h_if_eq (pc := 4) (tgt := 23) (dk d_mB_keep 2 rfl) rfl h (fun hc13 h => ?_) (fun hc13 h => ?_)
  · refine g_iconst (pc := 23) (dk d_mB_keep 11 rfl) (by decide) ?_
    exact h_iret (pc := 24) rfl (dk d_mB_keep 12 rfl) h
  · refine g_iload_n (pc := 7) (j := 2) (dk d_mB_keep 3 rfl) rfl ?_
    refine g_iconst (pc := 8) (dk d_mB_keep 4 rfl) (by decide) ?_
    refine jn_e (fun J => ∀ (u4 : WD), J u4 = some res → G E mB_keep (d + 2) 25 [(0, pR 0), (1, pI a1), (2, pI a2)] [] u4 RF NN 0 0 (some (pI res.1), res.2, RF, NN)) h (fun u4 h => ?_) (fun J7 hJ7 h => ?_)
    · refine g_aload_n (pc := 25) (j := 0) (dk d_mB_keep 13 rfl) rfl (by decide) ?_
      refine g_getR (pc := 26) (a := 33) rfl fp_B_57 po_0 (dk d_mB_keep 14 rfl) ?_
      refine g_iload_n (pc := 29) (j := 1) (dk d_mB_keep 15 rfl) rfl ?_
      refine h_aald (pc := 30) (dk d_mB_keep 16 rfl) h (fun hi5 h => ?_)
      refine g_iload_n (pc := 31) (j := 2) (dk d_mB_keep 17 rfl) rfl ?_
      refine h_callVv (d := d + 1) (pc := 32) (na := 1) (av := [pI a2]) (k0 := (34 + 2 * a1)) (po_s hi5) ⟨_, rfl⟩ ⟨rfl, rfl⟩ (dk d_mB_keep 18 rfl) lk_B_308 vm_mSh_hold rfl rfl (Nat.le_of_ble_eq_true rfl) h (fun u6 hq => kSh_hold E (d + 0) hi5 hq) (fun u6 h => ?_)
      refine g_iconst (pc := 35) (dk d_mB_keep 19 rfl) (by decide) ?_
      exact h_iret (pc := 36) rfl (dk d_mB_keep 20 rfl) h
    · refine h_icmp_eq (pc := 9) (tgt := 25) (dk d_mB_keep 5 rfl) rfl h (fun hc12 h => ?_) (fun hc12 h => ?_)
      · exact hJ7 _ h
      · refine g_aload_n (pc := 12) (j := 0) (dk d_mB_keep 6 rfl) rfl (by decide) ?_
        refine g_getR (pc := 13) (a := 30) rfl fp_B_51 po_0 (dk d_mB_keep 7 rfl) ?_
        refine g_iload_n (pc := 16) (j := 2) (dk d_mB_keep 8 rfl) rfl ?_
        refine h_callVi (d := d + 1) (pc := 17) (na := 1) (av := [pI a2]) (k0 := 30) po_30 ⟨_, rfl⟩ ⟨rfl, rfl⟩ (dk d_mB_keep 9 rfl) lk_B_305 vm_mBo_isBody rfl rfl (Nat.le_of_ble_eq_true rfl) h (fun r9 u8 hq => kBo_isBody E (d + 0) hq) (fun r9 u8 hb10 h => ?_)
        refine h_if_ne (pc := 20) (tgt := 25) (dk d_mB_keep 10 rfl) rfl h (fun hc11 h => ?_) (fun hc11 h => ?_)
        · exact hJ7 _ h
        · refine g_iconst (pc := 23) (dk d_mB_keep 11 rfl) (by decide) ?_
          exact h_iret (pc := 24) rfl (dk d_mB_keep 12 rfl) h
set_option maxRecDepth 100000 in
set_option maxHeartbeats 4000000 in
theorem kB_keep (E : Nat × (Int → Int)) (d : Nat) {a1 : Int} {a2 : Int} {w w1 : WD} {r : Int} (h : fB_keep a1 a2 w = some (r, w1)) : CTi E mB_keep (d + 2) [pR 0, pI a1, pI a2] w RF NN r w1 RF NN := by
  exact CTi_of (by decide +kernel) (Nat.le_of_ble_eq_true rfl) (Or.inl rfl) (gB_keep (res := (r, w1)) E d a1 a2 w h)
def fSh_lay_l26_b (rec : Int → WD → Option WD) (y0 : Int) (x3 : Int) (w : WD) : Option WD := if 60 ≤ x3 then (some w) else (ck (0 ≤ x3 ∧ x3 < 60) <| bw (up w (35 + 2 * y0) x3 0) <| fun (u4 : WD) => bv (w32 (x3 + 1)) <| fun (v3_5 : Int) => rec v3_5 u4)
def fSh_lay_l26 (y0 : Int) : Nat → Int → WD → Option WD
  | 0 => fun _ _ => none
  | k + 1 => fSh_lay_l26_b ( fSh_lay_l26 y0 k) y0
set_option maxRecDepth 100000 in
set_option maxHeartbeats 4000000 in
theorem fSh_lay_l26_b_ok (E : Nat × (Int → Int)) (d : Nat) {res : WD} {rec : Int → WD → Option WD} (y0 : Int) (hy0 : 0 ≤ y0 ∧ y0 < 6) (hrec : ∀ (x3 : Int) (w : WD), rec x3 w = some res → G E mSh_lay (d + 1) 26 [(0, pR (34 + 2 * y0)), (3, pI x3)] [] w RF NN 0 0 (none, res, RF, NN)) (x3 : Int) (w : WD) (h : fSh_lay_l26_b rec y0 x3 w = some res) : G E mSh_lay (d + 1) 26 [(0, pR (34 + 2 * y0)), (3, pI x3)] [] w RF NN 0 0 (none, res, RF, NN) := by
  unfold fSh_lay_l26_b at h
  refine g_iload_n (pc := 26) (j := 1) (dk d_mSh_lay 15 rfl) rfl ?_
  refine g_bipush (pc := 27) (dk d_mSh_lay 16 rfl) (by decide) ?_
  refine h_icmp_ge (pc := 29) (tgt := 45) (dk d_mSh_lay 17 rfl) rfl h (fun hc6 h => ?_) (fun hc6 h => ?_)
  · exact h_vret (pc := 45) (dk d_mSh_lay 25 rfl) h
  · refine g_aload_n (pc := 32) (j := 0) (dk d_mSh_lay 18 rfl) rfl (by have := hy0; omega) ?_
    refine g_getR (pc := 33) (a := (35 + 2 * y0)) (rf_s hy0) fp_Sh_9 (po_s hy0) (dk d_mSh_lay 19 rfl) ?_
    refine g_iload_n (pc := 36) (j := 1) (dk d_mSh_lay 20 rfl) rfl ?_
    refine g_lconst0 (pc := 37) (dk d_mSh_lay 21 rfl) ?_
    refine h_last (pc := 38) (B := 60) (pa_s hy0) rfl (dk d_mSh_lay 22 rfl) h (fun u4 h => ?_)
    refine h_iinc (pc := 39) (j := 1) (dk d_mSh_lay 23 rfl) rfl (by decide) (Nat.le_of_ble_eq_true rfl) h (fun v3_5 h => ?_)
    refine g_loc (l' := [(3, pI v3_5), (0, pR (34 + 2 * y0))]) rfl ?_
    refine g_goto (pc := 42) (tgt := 26) (dk d_mSh_lay 24 rfl) rfl ?_
    refine g_pick [1, 0] rfl (l' := [(0, pR (34 + 2 * y0)), (3, pI v3_5)]) rfl ?_
    exact hrec _ _ h
set_option maxRecDepth 100000 in
set_option maxHeartbeats 4000000 in
theorem fSh_lay_l26_ok (E : Nat × (Int → Int)) (d : Nat) {res : WD} (y0 : Int) (hy0 : 0 ≤ y0 ∧ y0 < 6) : ∀ (k : Nat) (x3 : Int) (w : WD), fSh_lay_l26 y0 k x3 w = some res → G E mSh_lay (d + 1) 26 [(0, pR (34 + 2 * y0)), (3, pI x3)] [] w RF NN 0 0 (none, res, RF, NN) := by
  intro k
  induction k with
  | zero =>
    intro x3 w h
    exact no_e h
  | succ k ih =>
    intro x3 w h
    exact fSh_lay_l26_b_ok E d y0 hy0 ih x3 w h
def fSh_lay (o : Int) (a1 : Int) (a2 : Int) (w : WD) : Option WD := bw (up w (34 + 2 * o) 1 (-1)) <| fun (u1 : WD) => bw (up u1 (34 + 2 * o) 2 a1) <| fun (u2 : WD) => bw (up u2 (34 + 2 * o) 3 (mx 0 (mn 60 a2))) <| fun (u3 : WD) => fSh_lay_l26 o FU 0 u3
set_option maxRecDepth 100000 in
set_option maxHeartbeats 4000000 in
theorem gSh_lay (E : Nat × (Int → Int)) (d : Nat) {res : WD} (o : Int) (a1 : Int) (a2 : Int) (ho : 0 ≤ o ∧ o < 6) (w : WD) (h : fSh_lay o a1 a2 w = some res) : G E mSh_lay (d + 1) 0 [(0, pR (34 + 2 * o)), (1, pI a1), (2, pI a2)] [] w RF NN 0 0 (none, res, RF, NN) := by
  unfold fSh_lay at h
  refine g_aload_n (pc := 0) (j := 0) (dk d_mSh_lay 0 rfl) rfl (by have := ho; omega) ?_
  refine g_iconst (pc := 1) (dk d_mSh_lay 1 rfl) (by decide) ?_
  refine h_putI (pc := 2) fp_Sh_13 (po_s ho) (dk d_mSh_lay 2 rfl) h (fun u1 h => ?_)
  refine g_aload_n (pc := 5) (j := 0) (dk d_mSh_lay 3 rfl) rfl (by have := ho; omega) ?_
  refine g_iload_n (pc := 6) (j := 1) (dk d_mSh_lay 4 rfl) rfl ?_
  refine h_putI (pc := 7) fp_Sh_17 (po_s ho) (dk d_mSh_lay 5 rfl) h (fun u2 h => ?_)
  refine g_aload_n (pc := 10) (j := 0) (dk d_mSh_lay 6 rfl) rfl (by have := ho; omega) ?_
  refine g_iconst (pc := 11) (dk d_mSh_lay 7 rfl) (by decide) ?_
  refine g_bipush (pc := 12) (dk d_mSh_lay 8 rfl) (by decide) ?_
  refine g_iload_n (pc := 14) (j := 2) (dk d_mSh_lay 9 rfl) rfl ?_
  refine g_mminI (pc := 15) mm_Sh_23 (Nat.le_of_ble_eq_true rfl) (by omega) (dk d_mSh_lay 10 rfl) ?_
  refine g_mmaxI (pc := 18) mm_Sh_29 (Nat.le_of_ble_eq_true rfl) (by omega) (dk d_mSh_lay 11 rfl) ?_
  refine h_putI (pc := 21) fp_Sh_20 (po_s ho) (dk d_mSh_lay 12 rfl) h (fun u3 h => ?_)
  refine g_iconst (pc := 24) (dk d_mSh_lay 13 rfl) (by decide) ?_
  refine g_istore_n (pc := 25) (l' := [(3, pI 0), (0, pR (34 + 2 * o)), (1, pI a1), (2, pI a2)]) (dk d_mSh_lay 14 rfl) (Nat.le_of_ble_eq_true rfl) rfl ?_
  refine g_pick [1, 0] rfl (l' := [(0, pR (34 + 2 * o)), (3, pI 0)]) rfl ?_
  refine fSh_lay_l26_ok E d o ho FU _  _ h
set_option maxRecDepth 100000 in
set_option maxHeartbeats 4000000 in
theorem kSh_lay (E : Nat × (Int → Int)) (d : Nat) {o : Int} {a1 : Int} {a2 : Int} (ho : 0 ≤ o ∧ o < 6) {w w1 : WD} (h : fSh_lay o a1 a2 w = some w1) : CTv E mSh_lay (d + 1) [pR (34 + 2 * o), pI a1, pI a2] w RF NN w1 RF NN := by
  exact CTv_of (by decide +kernel) (Nat.le_of_ble_eq_true rfl) rfl (gSh_lay (res := w1) E d o a1 a2 ho w h)
def fB_row (a1 : Int) (a2 : Int) (a3 : Int) (w : WD) : Option (Int × WD) := ci (fB_isShelf a1 w) <| fun (r2 : Int) (u1 : WD) => if r2 = 0 then (some ((-1), u1)) else (if a2 < 0 then (some ((-1), u1)) else (if 5 ≤ a2 then (some ((-1), u1)) else (if a3 ≤ 60 then (if 0 ≤ a3 then (ck (0 ≤ a1 ∧ a1 < 6) <| cv (fSh_lay a1 a2 a3 u1) <| fun (u5 : WD) => some (1, u5)) else (some ((-14), u1))) else (some ((-1), u1)))))
set_option maxRecDepth 100000 in
set_option maxHeartbeats 4000000 in
theorem gB_row (E : Nat × (Int → Int)) (d : Nat) {res : Int × WD} (a1 : Int) (a2 : Int) (a3 : Int) (w : WD) (h : fB_row a1 a2 a3 w = some res) : G E mB_row (d + 2) 0 [(0, pR 0), (1, pI a1), (2, pI a2), (3, pI a3)] [] w RF NN 0 0 (some (pI res.1), res.2, RF, NN) := by
  unfold fB_row at h
  refine g_iload_n (pc := 0) (j := 1) (dk d_mB_row 0 rfl) rfl ?_
  refine h_callSi (d := d + 1) (pc := 1) (na := 1) (av := [pI a1]) ⟨rfl, rfl⟩ (dk d_mB_row 1 rfl) lk_B_66 vm_mB_isShelf rfl rfl (Nat.le_of_ble_eq_true rfl) h (fun r2 u1 hq => kB_isShelf E (d + 0) hq) (fun r2 u1 hb3 h => ?_)
  refine h_if_eq (pc := 4) (tgt := 22) (dk d_mB_row 2 rfl) rfl h (fun hc10 h => ?_) (fun hc10 h => ?_)
  · refine g_iconst (pc := 22) (dk d_mB_row 11 rfl) (by decide) ?_
    exact h_iret (pc := 23) rfl (dk d_mB_row 12 rfl) h
  · refine g_iload_n (pc := 7) (j := 2) (dk d_mB_row 3 rfl) rfl ?_
    refine h_if_lt (pc := 8) (tgt := 22) (dk d_mB_row 4 rfl) rfl h (fun hc9 h => ?_) (fun hc9 h => ?_)
    · refine g_iconst (pc := 22) (dk d_mB_row 11 rfl) (by decide) ?_
      exact h_iret (pc := 23) rfl (dk d_mB_row 12 rfl) h
    · refine g_iload_n (pc := 11) (j := 2) (dk d_mB_row 5 rfl) rfl ?_
      refine g_iconst (pc := 12) (dk d_mB_row 6 rfl) (by decide) ?_
      refine h_icmp_ge (pc := 13) (tgt := 22) (dk d_mB_row 7 rfl) rfl h (fun hc8 h => ?_) (fun hc8 h => ?_)
      · refine g_iconst (pc := 22) (dk d_mB_row 11 rfl) (by decide) ?_
        exact h_iret (pc := 23) rfl (dk d_mB_row 12 rfl) h
      · refine g_iload_n (pc := 16) (j := 3) (dk d_mB_row 8 rfl) rfl ?_
        refine g_bipush (pc := 17) (dk d_mB_row 9 rfl) (by decide) ?_
        refine h_icmp_le (pc := 19) (tgt := 24) (dk d_mB_row 10 rfl) rfl h (fun hc7 h => ?_) (fun hc7 h => ?_)
        · refine g_iload_n (pc := 24) (j := 3) (dk d_mB_row 13 rfl) rfl ?_
          refine h_if_ge (pc := 25) (tgt := 31) (dk d_mB_row 14 rfl) rfl h (fun hc6 h => ?_) (fun hc6 h => ?_)
          · refine g_aload_n (pc := 31) (j := 0) (dk d_mB_row 17 rfl) rfl (by decide) ?_
            refine g_getR (pc := 32) (a := 33) rfl fp_B_57 po_0 (dk d_mB_row 18 rfl) ?_
            refine g_iload_n (pc := 35) (j := 1) (dk d_mB_row 19 rfl) rfl ?_
            refine h_aald (pc := 36) (dk d_mB_row 20 rfl) h (fun hi4 h => ?_)
            refine g_iload_n (pc := 37) (j := 2) (dk d_mB_row 21 rfl) rfl ?_
            refine g_iload_n (pc := 38) (j := 3) (dk d_mB_row 22 rfl) rfl ?_
            refine h_callVv (d := d + 1) (pc := 39) (na := 2) (av := [pI a2, pI a3]) (k0 := (34 + 2 * a1)) (po_s hi4) ⟨_, rfl⟩ ⟨rfl, rfl⟩ (dk d_mB_row 23 rfl) lk_B_312 vm_mSh_lay rfl rfl (Nat.le_of_ble_eq_true rfl) h (fun u5 hq => kSh_lay E (d + 0) hi4 hq) (fun u5 h => ?_)
            refine g_iconst (pc := 42) (dk d_mB_row 24 rfl) (by decide) ?_
            exact h_iret (pc := 43) rfl (dk d_mB_row 25 rfl) h
          · refine g_bipush (pc := 28) (dk d_mB_row 15 rfl) (by decide) ?_
            exact h_iret (pc := 30) rfl (dk d_mB_row 16 rfl) h
        · refine g_iconst (pc := 22) (dk d_mB_row 11 rfl) (by decide) ?_
          exact h_iret (pc := 23) rfl (dk d_mB_row 12 rfl) h
set_option maxRecDepth 100000 in
set_option maxHeartbeats 4000000 in
theorem kB_row (E : Nat × (Int → Int)) (d : Nat) {a1 : Int} {a2 : Int} {a3 : Int} {w w1 : WD} {r : Int} (h : fB_row a1 a2 a3 w = some (r, w1)) : CTi E mB_row (d + 2) [pR 0, pI a1, pI a2, pI a3] w RF NN r w1 RF NN := by
  exact CTi_of (by decide +kernel) (Nat.le_of_ble_eq_true rfl) (Or.inl rfl) (gB_row (res := (r, w1)) E d a1 a2 a3 w h)
def fSh_isRow (o : Int) (w : WD) : Option (Int × WD) := if (w (34 + 2 * o) 2) = (-1) then (some (0, w)) else (some (1, w))
set_option maxRecDepth 100000 in
set_option maxHeartbeats 4000000 in
theorem gSh_isRow (E : Nat × (Int → Int)) (d : Nat) {res : Int × WD} (o : Int) (ho : 0 ≤ o ∧ o < 6) (w : WD) (h : fSh_isRow o w = some res) : G E mSh_isRow (d + 1) 0 [(0, pR (34 + 2 * o))] [] w RF NN 0 0 (some (pI res.1), res.2, RF, NN) := by
  unfold fSh_isRow at h
  refine g_aload_n (pc := 0) (j := 0) (dk d_mSh_isRow 0 rfl) rfl (by have := ho; omega) ?_
  refine g_getI (pc := 1) fp_Sh_17 (po_s ho) (dk d_mSh_isRow 1 rfl) ?_
  refine g_iconst (pc := 4) (dk d_mSh_isRow 2 rfl) (by decide) ?_
  refine h_icmp_eq (pc := 5) (tgt := 12) (dk d_mSh_isRow 3 rfl) rfl h (fun hc1 h => ?_) (fun hc1 h => ?_)
  · refine g_iconst (pc := 12) (dk d_mSh_isRow 6 rfl) (by decide) ?_
    exact h_zret (pc := 13) (Or.inl rfl) (dk d_mSh_isRow 7 rfl) h
  · refine g_iconst (pc := 8) (dk d_mSh_isRow 4 rfl) (by decide) ?_
    refine g_goto (pc := 9) (tgt := 13) (dk d_mSh_isRow 5 rfl) rfl ?_
    exact h_zret (pc := 13) (Or.inr rfl) (dk d_mSh_isRow 7 rfl) h
set_option maxRecDepth 100000 in
set_option maxHeartbeats 4000000 in
theorem kSh_isRow (E : Nat × (Int → Int)) (d : Nat) {o : Int} (ho : 0 ≤ o ∧ o < 6) {w w1 : WD} {r : Int} (h : fSh_isRow o w = some (r, w1)) : CTi E mSh_isRow (d + 1) [pR (34 + 2 * o)] w RF NN r w1 RF NN := by
  exact CTi_of (by decide +kernel) (Nat.le_of_ble_eq_true rfl) (Or.inr rfl) (gSh_isRow (res := (r, w1)) E d o ho w h)
def fB_cellFault (a1 : Int) (a2 : Int) (w : WD) : Option (Int × WD) := ci (fB_isShelf a1 w) <| fun (r2 : Int) (u1 : WD) => if r2 ≠ 0 then (ck (0 ≤ a1 ∧ a1 < 6) <| ci (fSh_isEmpty a1 u1) <| fun (r6 : Int) (u5 : WD) => if r6 = 0 then (ci (fSh_isRow a1 u5) <| fun (r9 : Int) (u8 : WD) => if r9 ≠ 0 then (if a2 < 0 then (some ((-13), u8)) else (ci (fSh_size a1 u8) <| fun (r12 : Int) (u11 : WD) => if r12 ≤ a2 then (some ((-13), u11)) else (some (0, u11)))) else (some ((-12), u8))) else (some ((-11), u5))) else (some ((-1), u1))
set_option maxRecDepth 100000 in
set_option maxHeartbeats 4000000 in
theorem gB_cellFault (E : Nat × (Int → Int)) (d : Nat) {res : Int × WD} (a1 : Int) (a2 : Int) (w : WD) (h : fB_cellFault a1 a2 w = some res) : G E mB_cellFault (d + 2) 0 [(0, pR 0), (1, pI a1), (2, pI a2)] [] w RF NN 0 0 (some (pI res.1), res.2, RF, NN) := by
  unfold fB_cellFault at h
  refine g_iload_n (pc := 0) (j := 1) (dk d_mB_cellFault 0 rfl) rfl ?_
  refine h_callSi (d := d + 1) (pc := 1) (na := 1) (av := [pI a1]) ⟨rfl, rfl⟩ (dk d_mB_cellFault 1 rfl) lk_B_66 vm_mB_isShelf rfl rfl (Nat.le_of_ble_eq_true rfl) h (fun r2 u1 hq => kB_isShelf E (d + 0) hq) (fun r2 u1 hb3 h => ?_)
  refine h_if_ne (pc := 4) (tgt := 9) (dk d_mB_cellFault 2 rfl) rfl h (fun hc18 h => ?_) (fun hc18 h => ?_)
  · refine g_aload_n (pc := 9) (j := 0) (dk d_mB_cellFault 5 rfl) rfl (by decide) ?_
    refine g_getR (pc := 10) (a := 33) rfl fp_B_57 po_0 (dk d_mB_cellFault 6 rfl) ?_
    refine g_iload_n (pc := 13) (j := 1) (dk d_mB_cellFault 7 rfl) rfl ?_
    refine h_aald (pc := 14) (dk d_mB_cellFault 8 rfl) h (fun hi4 h => ?_)
    refine g_astore_n (pc := 15) (l' := [(3, pR (34 + 2 * a1)), (0, pR 0), (1, pI a1), (2, pI a2)]) (dk d_mB_cellFault 9 rfl) (Nat.le_of_ble_eq_true rfl) (by have := hi4; omega) rfl ?_
    refine g_aload_n (pc := 16) (j := 0) (dk d_mB_cellFault 10 rfl) rfl (by have := hi4; omega) ?_
    refine h_callVi (d := d + 1) (pc := 17) (na := 0) (av := []) (k0 := (34 + 2 * a1)) (po_s hi4) ⟨_, rfl⟩ ⟨rfl, rfl⟩ (dk d_mB_cellFault 11 rfl) lk_B_70 vm_mSh_isEmpty rfl rfl (Nat.le_of_ble_eq_true rfl) h (fun r6 u5 hq => kSh_isEmpty E (d + 0) hi4 hq) (fun r6 u5 hb7 h => ?_)
    refine h_if_eq (pc := 20) (tgt := 26) (dk d_mB_cellFault 12 rfl) rfl h (fun hc17 h => ?_) (fun hc17 h => ?_)
    · refine g_aload_n (pc := 26) (j := 0) (dk d_mB_cellFault 15 rfl) rfl (by have := hi4; omega) ?_
      refine h_callVi (d := d + 1) (pc := 27) (na := 0) (av := []) (k0 := (34 + 2 * a1)) (po_s hi4) ⟨_, rfl⟩ ⟨rfl, rfl⟩ (dk d_mB_cellFault 16 rfl) lk_B_322 vm_mSh_isRow rfl rfl (Nat.le_of_ble_eq_true rfl) h (fun r9 u8 hq => kSh_isRow E (d + 0) hi4 hq) (fun r9 u8 hb10 h => ?_)
      refine h_if_ne (pc := 30) (tgt := 36) (dk d_mB_cellFault 17 rfl) rfl h (fun hc16 h => ?_) (fun hc16 h => ?_)
      · refine g_iload_n (pc := 36) (j := 3) (dk d_mB_cellFault 20 rfl) rfl ?_
        refine h_if_lt (pc := 37) (tgt := 52) (dk d_mB_cellFault 21 rfl) rfl h (fun hc15 h => ?_) (fun hc15 h => ?_)
        · refine g_bipush (pc := 52) (dk d_mB_cellFault 28 rfl) (by decide) ?_
          exact h_iret (pc := 54) rfl (dk d_mB_cellFault 29 rfl) h
        · refine g_iload_n (pc := 40) (j := 3) (dk d_mB_cellFault 22 rfl) rfl ?_
          refine g_aload_n (pc := 41) (j := 0) (dk d_mB_cellFault 23 rfl) rfl (by have := hi4; omega) ?_
          refine h_callVi (d := d + 1) (pc := 42) (na := 0) (av := []) (k0 := (34 + 2 * a1)) (po_s hi4) ⟨_, rfl⟩ ⟨rfl, rfl⟩ (dk d_mB_cellFault 24 rfl) lk_B_357 vm_mSh_size rfl rfl (Nat.le_of_ble_eq_true rfl) h (fun r12 u11 hq => kSh_size E (d + 0) hi4 hq) (fun r12 u11 hb13 h => ?_)
          refine h_icmp_ge (pc := 45) (tgt := 52) (dk d_mB_cellFault 25 rfl) rfl h (fun hc14 h => ?_) (fun hc14 h => ?_)
          · refine g_bipush (pc := 52) (dk d_mB_cellFault 28 rfl) (by decide) ?_
            exact h_iret (pc := 54) rfl (dk d_mB_cellFault 29 rfl) h
          · refine g_iconst (pc := 48) (dk d_mB_cellFault 26 rfl) (by decide) ?_
            refine g_goto (pc := 49) (tgt := 54) (dk d_mB_cellFault 27 rfl) rfl ?_
            exact h_iret (pc := 54) rfl (dk d_mB_cellFault 29 rfl) h
      · refine g_bipush (pc := 33) (dk d_mB_cellFault 18 rfl) (by decide) ?_
        exact h_iret (pc := 35) rfl (dk d_mB_cellFault 19 rfl) h
    · refine g_bipush (pc := 23) (dk d_mB_cellFault 13 rfl) (by decide) ?_
      exact h_iret (pc := 25) rfl (dk d_mB_cellFault 14 rfl) h
  · refine g_iconst (pc := 7) (dk d_mB_cellFault 3 rfl) (by decide) ?_
    exact h_iret (pc := 8) rfl (dk d_mB_cellFault 4 rfl) h
set_option maxRecDepth 100000 in
set_option maxHeartbeats 4000000 in
theorem kB_cellFault (E : Nat × (Int → Int)) (d : Nat) {a1 : Int} {a2 : Int} {w w1 : WD} {r : Int} (h : fB_cellFault a1 a2 w = some (r, w1)) : CTi E mB_cellFault (d + 2) [pR 0, pI a1, pI a2] w RF NN r w1 RF NN := by
  exact CTi_of (by decide +kernel) (Nat.le_of_ble_eq_true rfl) (Or.inl rfl) (gB_cellFault (res := (r, w1)) E d a1 a2 w h)
def fSh_fitted (o : Int) (a1 : Int) (w : WD) : Option (Int × WD) := bv (w (34 + 2 * o) 2) <| fun (t1 : Int) => if t1 = 0 then (some ((w8 (w32 a1)), w)) else (if t1 = 1 then (some ((w16 (w32 a1)), w)) else (if t1 = 2 then (some ((w32 a1), w)) else (if t1 = 3 then (some (a1, w)) else ((if a1 = 0 then (some (0, w)) else (some (1, w)))))))
set_option maxRecDepth 100000 in
set_option maxHeartbeats 4000000 in
theorem gSh_fitted (E : Nat × (Int → Int)) (d : Nat) {res : Int × WD} (o : Int) (a1 : Int) (ho : 0 ≤ o ∧ o < 6) (w : WD) (h : fSh_fitted o a1 w = some res) : G E mSh_fitted (d + 1) 0 [(0, pR (34 + 2 * o)), (1, pL a1)] [] w RF NN 0 0 (some (pL res.1), res.2, RF, NN) := by
  unfold fSh_fitted at h
  refine g_aload_n (pc := 0) (j := 0) (dk d_mSh_fitted 0 rfl) rfl (by have := ho; omega) ?_
  refine g_getI (pc := 1) fp_Sh_17 (po_s ho) (dk d_mSh_fitted 1 rfl) ?_
  refine h_bvI h (fun t1 h => ?_)
  refine br h (fun hc2 h => ?_) (fun hc2 h => ?_)
  · refine g_tin (pc := 4) (off := 32) (tgt := 36) (dk d_mSh_fitted 2 rfl) (by omega) (by omega) (by rw [hc2]; rfl) rfl ?_
    refine g_lload_n (pc := 36) (j := 1) (dk d_mSh_fitted 3 rfl) rfl ?_
    refine g_l2i (pc := 37) (dk d_mSh_fitted 4 rfl) ?_
    refine g_i2b (pc := 38) (dk d_mSh_fitted 5 rfl) ?_
    refine g_i2l (pc := 39) (dk d_mSh_fitted 6 rfl) ?_
    exact h_lret (pc := 40) (dk d_mSh_fitted 7 rfl) h
  · refine br h (fun hc3 h => ?_) (fun hc3 h => ?_)
    · refine g_tin (pc := 4) (off := 37) (tgt := 41) (dk d_mSh_fitted 2 rfl) (by omega) (by omega) (by rw [hc3]; rfl) rfl ?_
      refine g_lload_n (pc := 41) (j := 1) (dk d_mSh_fitted 8 rfl) rfl ?_
      refine g_l2i (pc := 42) (dk d_mSh_fitted 9 rfl) ?_
      refine g_i2s (pc := 43) (dk d_mSh_fitted 10 rfl) ?_
      refine g_i2l (pc := 44) (dk d_mSh_fitted 11 rfl) ?_
      exact h_lret (pc := 45) (dk d_mSh_fitted 12 rfl) h
    · refine br h (fun hc4 h => ?_) (fun hc4 h => ?_)
      · refine g_tin (pc := 4) (off := 42) (tgt := 46) (dk d_mSh_fitted 2 rfl) (by omega) (by omega) (by rw [hc4]; rfl) rfl ?_
        refine g_lload_n (pc := 46) (j := 1) (dk d_mSh_fitted 13 rfl) rfl ?_
        refine g_l2i (pc := 47) (dk d_mSh_fitted 14 rfl) ?_
        refine g_i2l (pc := 48) (dk d_mSh_fitted 15 rfl) ?_
        exact h_lret (pc := 49) (dk d_mSh_fitted 16 rfl) h
      · refine br h (fun hc5 h => ?_) (fun hc5 h => ?_)
        · refine g_tin (pc := 4) (off := 46) (tgt := 50) (dk d_mSh_fitted 2 rfl) (by omega) (by omega) (by rw [hc5]; rfl) rfl ?_
          refine g_lload_n (pc := 50) (j := 1) (dk d_mSh_fitted 17 rfl) rfl ?_
          exact h_lret (pc := 51) (dk d_mSh_fitted 18 rfl) h
        · refine g_tout (pc := 4) (tgt := 52) (dk d_mSh_fitted 2 rfl) (by omega) rfl ?_
          refine g_lload_n (pc := 52) (j := 1) (dk d_mSh_fitted 19 rfl) rfl ?_
          refine g_lconst0 (pc := 53) (dk d_mSh_fitted 20 rfl) ?_
          refine h_lcmp_eq (pc := 54) (tgt := 62) (dk d_mSh_fitted 21 rfl) (dk d_mSh_fitted 22 rfl) rfl h (fun hc6 h => ?_) (fun hc6 h => ?_)
          · refine g_lconst0 (pc := 62) (dk d_mSh_fitted 25 rfl) ?_
            exact h_lret (pc := 63) (dk d_mSh_fitted 26 rfl) h
          · refine g_lconst1 (pc := 58) (dk d_mSh_fitted 23 rfl) ?_
            refine g_goto (pc := 59) (tgt := 63) (dk d_mSh_fitted 24 rfl) rfl ?_
            exact h_lret (pc := 63) (dk d_mSh_fitted 26 rfl) h
set_option maxRecDepth 100000 in
set_option maxHeartbeats 4000000 in
theorem kSh_fitted (E : Nat × (Int → Int)) (d : Nat) {o : Int} {a1 : Int} (ho : 0 ≤ o ∧ o < 6) {w w1 : WD} {r : Int} (h : fSh_fitted o a1 w = some (r, w1)) : CTl E mSh_fitted (d + 1) [pR (34 + 2 * o), pL a1] w RF NN r w1 RF NN := by
  exact CTl_of (by decide +kernel) (Nat.le_of_ble_eq_true rfl) rfl (gSh_fitted (res := (r, w1)) E d o a1 ho w h)
def fSh_set (o : Int) (a1 : Int) (a2 : Int) (w : WD) : Option WD := ci (fSh_has o a1 w) <| fun (r2 : Int) (u1 : WD) => if r2 = 0 then (some u1) else (ci (fSh_fitted o a2 u1) <| fun (r5 : Int) (u4 : WD) => ck (0 ≤ a1 ∧ a1 < 60) <| bw (up u4 (35 + 2 * o) a1 r5) <| fun (u6 : WD) => some u6)
set_option maxRecDepth 100000 in
set_option maxHeartbeats 4000000 in
theorem gSh_set (E : Nat × (Int → Int)) (d : Nat) {res : WD} (o : Int) (a1 : Int) (a2 : Int) (ho : 0 ≤ o ∧ o < 6) (w : WD) (h : fSh_set o a1 a2 w = some res) : G E mSh_set (d + 2) 0 [(0, pR (34 + 2 * o)), (1, pI a1), (2, pL a2)] [] w RF NN 0 0 (none, res, RF, NN) := by
  unfold fSh_set at h
  refine g_aload_n (pc := 0) (j := 0) (dk d_mSh_set 0 rfl) rfl (by have := ho; omega) ?_
  refine g_iload_n (pc := 1) (j := 1) (dk d_mSh_set 1 rfl) rfl ?_
  refine h_callVi (d := d + 1) (pc := 2) (na := 1) (av := [pI a1]) (k0 := (34 + 2 * o)) (po_s ho) ⟨_, rfl⟩ ⟨rfl, rfl⟩ (dk d_mSh_set 2 rfl) lk_Sh_32 vm_mSh_has rfl rfl (Nat.le_of_ble_eq_true rfl) h (fun r2 u1 hq => kSh_has E (d + 0) ho hq) (fun r2 u1 hb3 h => ?_)
  refine h_if_eq (pc := 5) (tgt := 19) (dk d_mSh_set 3 rfl) rfl h (fun hc7 h => ?_) (fun hc7 h => ?_)
  · exact h_vret (pc := 19) (dk d_mSh_set 11 rfl) h
  · refine g_aload_n (pc := 8) (j := 0) (dk d_mSh_set 4 rfl) rfl (by have := ho; omega) ?_
    refine g_getR (pc := 9) (a := (35 + 2 * o)) (rf_s ho) fp_Sh_9 (po_s ho) (dk d_mSh_set 5 rfl) ?_
    refine g_iload_n (pc := 12) (j := 1) (dk d_mSh_set 6 rfl) rfl ?_
    refine g_aload_n (pc := 13) (j := 0) (dk d_mSh_set 7 rfl) rfl (by have := ho; omega) ?_
    refine g_lload_n (pc := 14) (j := 2) (dk d_mSh_set 8 rfl) rfl ?_
    refine h_callVl (d := d + 1) (pc := 15) (na := 1) (av := [pL a2]) (k0 := (34 + 2 * o)) (po_s ho) ⟨_, rfl⟩ ⟨rfl, rfl⟩ (dk d_mSh_set 9 rfl) lk_Sh_36 vm_mSh_fitted rfl rfl (Nat.le_of_ble_eq_true rfl) h (fun r5 u4 hq => kSh_fitted E (d + 0) ho hq) (fun r5 u4 h => ?_)
    refine h_last (pc := 18) (B := 60) (pa_s ho) rfl (dk d_mSh_set 10 rfl) h (fun u6 h => ?_)
    exact h_vret (pc := 19) (dk d_mSh_set 11 rfl) h
set_option maxRecDepth 100000 in
set_option maxHeartbeats 4000000 in
theorem kSh_set (E : Nat × (Int → Int)) (d : Nat) {o : Int} {a1 : Int} {a2 : Int} (ho : 0 ≤ o ∧ o < 6) {w w1 : WD} (h : fSh_set o a1 a2 w = some w1) : CTv E mSh_set (d + 2) [pR (34 + 2 * o), pI a1, pL a2] w RF NN w1 RF NN := by
  exact CTv_of (by decide +kernel) (Nat.le_of_ble_eq_true rfl) rfl (gSh_set (res := w1) E d o a1 a2 ho w h)
def fB_put (a1 : Int) (a2 : Int) (a3 : Int) (w : WD) : Option (Int × WD) := ci (fB_cellFault a1 a2 w) <| fun (r2 : Int) (u1 : WD) => if r2 = 0 then (ck (0 ≤ a1 ∧ a1 < 6) <| cv (fSh_set a1 a2 a3 u1) <| fun (u5 : WD) => some (1, u5)) else (some (r2, u1))
set_option maxRecDepth 100000 in
set_option maxHeartbeats 4000000 in
theorem gB_put (E : Nat × (Int → Int)) (d : Nat) {res : Int × WD} (a1 : Int) (a2 : Int) (a3 : Int) (w : WD) (h : fB_put a1 a2 a3 w = some res) : G E mB_put (d + 3) 0 [(0, pR 0), (1, pI a1), (2, pI a2), (3, pL a3)] [] w RF NN 0 0 (some (pI res.1), res.2, RF, NN) := by
  unfold fB_put at h
  refine g_aload_n (pc := 0) (j := 0) (dk d_mB_put 0 rfl) rfl (by decide) ?_
  refine g_iload_n (pc := 1) (j := 1) (dk d_mB_put 1 rfl) rfl ?_
  refine g_iload_n (pc := 2) (j := 2) (dk d_mB_put 2 rfl) rfl ?_
  refine h_callVi (d := d + 2) (pc := 3) (na := 2) (av := [pI a1, pI a2]) (k0 := 0) po_0 ⟨_, rfl⟩ ⟨rfl, rfl⟩ (dk d_mB_put 3 rfl) lk_B_315 vm_mB_cellFault rfl rfl (Nat.le_of_ble_eq_true rfl) h (fun r2 u1 hq => kB_cellFault E (d + 0) hq) (fun r2 u1 hb3 h => ?_)
  refine g_istore (pc := 6) (l' := [(5, pI r2), (0, pR 0), (1, pI a1), (2, pI a2), (3, pL a3)]) (dk d_mB_put 4 rfl) (Nat.le_of_ble_eq_true rfl) rfl ?_
  refine g_iload (pc := 8) (j := 0) (dk d_mB_put 5 rfl) rfl ?_
  refine h_if_eq (pc := 10) (tgt := 16) (dk d_mB_put 6 rfl) rfl h (fun hc6 h => ?_) (fun hc6 h => ?_)
  · refine g_aload_n (pc := 16) (j := 1) (dk d_mB_put 9 rfl) rfl (by decide) ?_
    refine g_getR (pc := 17) (a := 33) rfl fp_B_57 po_0 (dk d_mB_put 10 rfl) ?_
    refine g_iload_n (pc := 20) (j := 2) (dk d_mB_put 11 rfl) rfl ?_
    refine h_aald (pc := 21) (dk d_mB_put 12 rfl) h (fun hi4 h => ?_)
    refine g_iload_n (pc := 22) (j := 3) (dk d_mB_put 13 rfl) rfl ?_
    refine g_lload_n (pc := 23) (j := 4) (dk d_mB_put 14 rfl) rfl ?_
    refine h_callVv (d := d + 2) (pc := 24) (na := 2) (av := [pI a2, pL a3]) (k0 := (34 + 2 * a1)) (po_s hi4) ⟨_, rfl⟩ ⟨rfl, rfl⟩ (dk d_mB_put 15 rfl) lk_B_318 vm_mSh_set rfl rfl (Nat.le_of_ble_eq_true rfl) h (fun u5 hq => kSh_set E (d + 0) hi4 hq) (fun u5 h => ?_)
    refine g_iconst (pc := 27) (dk d_mB_put 16 rfl) (by decide) ?_
    exact h_iret (pc := 28) rfl (dk d_mB_put 17 rfl) h
  · refine g_iload (pc := 13) (j := 0) (dk d_mB_put 7 rfl) rfl ?_
    exact h_iret (pc := 15) rfl (dk d_mB_put 8 rfl) h
set_option maxRecDepth 100000 in
set_option maxHeartbeats 4000000 in
theorem kB_put (E : Nat × (Int → Int)) (d : Nat) {a1 : Int} {a2 : Int} {a3 : Int} {w w1 : WD} {r : Int} (h : fB_put a1 a2 a3 w = some (r, w1)) : CTi E mB_put (d + 3) [pR 0, pI a1, pI a2, pL a3] w RF NN r w1 RF NN := by
  exact CTi_of (by decide +kernel) (Nat.le_of_ble_eq_true rfl) (Or.inl rfl) (gB_put (res := (r, w1)) E d a1 a2 a3 w h)
def fB_element (a1 : Int) (a2 : Int) (w : WD) : Option (Int × WD) := ci (fB_cellFault a1 a2 w) <| fun (r2 : Int) (u1 : WD) => if r2 ≠ 0 then (some ((-9223372036854775808), u1)) else (ck (0 ≤ a1 ∧ a1 < 6) <| ci (fSh_at a1 a2 u1) <| fun (r6 : Int) (u5 : WD) => some (r6, u5))
set_option maxRecDepth 100000 in
set_option maxHeartbeats 4000000 in
theorem gB_element (E : Nat × (Int → Int)) (d : Nat) {res : Int × WD} (a1 : Int) (a2 : Int) (w : WD) (h : fB_element a1 a2 w = some res) : G E mB_element (d + 3) 0 [(0, pR 0), (1, pI a1), (2, pI a2)] [] w RF NN 0 0 (some (pL res.1), res.2, RF, NN) := by
  unfold fB_element at h
  refine g_aload_n (pc := 0) (j := 0) (dk d_mB_element 0 rfl) rfl (by decide) ?_
  refine g_iload_n (pc := 1) (j := 1) (dk d_mB_element 1 rfl) rfl ?_
  refine g_iload_n (pc := 2) (j := 2) (dk d_mB_element 2 rfl) rfl ?_
  refine h_callVi (d := d + 2) (pc := 3) (na := 2) (av := [pI a1, pI a2]) (k0 := 0) po_0 ⟨_, rfl⟩ ⟨rfl, rfl⟩ (dk d_mB_element 3 rfl) lk_B_315 vm_mB_cellFault rfl rfl (Nat.le_of_ble_eq_true rfl) h (fun r2 u1 hq => kB_cellFault E (d + 0) hq) (fun r2 u1 hb3 h => ?_)
  refine h_if_ne (pc := 6) (tgt := 22) (dk d_mB_element 4 rfl) rfl h (fun hc7 h => ?_) (fun hc7 h => ?_)
  · refine g_ldc2 (pc := 22) (u := (-9223372036854775808)) ck_B_125 (by decide) (dk d_mB_element 12 rfl) ?_
    exact h_lret (pc := 25) (dk d_mB_element 13 rfl) h
  · refine g_aload_n (pc := 9) (j := 0) (dk d_mB_element 5 rfl) rfl (by decide) ?_
    refine g_getR (pc := 10) (a := 33) rfl fp_B_57 po_0 (dk d_mB_element 6 rfl) ?_
    refine g_iload_n (pc := 13) (j := 1) (dk d_mB_element 7 rfl) rfl ?_
    refine h_aald (pc := 14) (dk d_mB_element 8 rfl) h (fun hi4 h => ?_)
    refine g_iload_n (pc := 15) (j := 2) (dk d_mB_element 9 rfl) rfl ?_
    refine h_callVl (d := d + 2) (pc := 16) (na := 1) (av := [pI a2]) (k0 := (34 + 2 * a1)) (po_s hi4) ⟨_, rfl⟩ ⟨rfl, rfl⟩ (dk d_mB_element 10 rfl) lk_B_236 vm_mSh_at rfl rfl (Nat.le_of_ble_eq_true rfl) h (fun r6 u5 hq => kSh_at E (d + 0) hi4 hq) (fun r6 u5 h => ?_)
    refine g_goto (pc := 19) (tgt := 25) (dk d_mB_element 11 rfl) rfl ?_
    exact h_lret (pc := 25) (dk d_mB_element 13 rfl) h
set_option maxRecDepth 100000 in
set_option maxHeartbeats 4000000 in
theorem kB_element (E : Nat × (Int → Int)) (d : Nat) {a1 : Int} {a2 : Int} {w w1 : WD} {r : Int} (h : fB_element a1 a2 w = some (r, w1)) : CTl E mB_element (d + 3) [pR 0, pI a1, pI a2] w RF NN r w1 RF NN := by
  exact CTl_of (by decide +kernel) (Nat.le_of_ble_eq_true rfl) rfl (gB_element (res := (r, w1)) E d a1 a2 w h)
def fSh_hasPart (o : Int) (a1 : Int) (a2 : Int) (w : WD) : Option (Int × WD) := if a1 < 0 then (some (0, w)) else (if a2 < 0 then (some (0, w)) else (if (w (34 + 2 * o) 3) < (w64 (a1 + a2)) then (some (0, w)) else (some (1, w))))
set_option maxRecDepth 100000 in
set_option maxHeartbeats 4000000 in
theorem gSh_hasPart (E : Nat × (Int → Int)) (d : Nat) {res : Int × WD} (o : Int) (a1 : Int) (a2 : Int) (ho : 0 ≤ o ∧ o < 6) (w : WD) (h : fSh_hasPart o a1 a2 w = some res) : G E mSh_hasPart (d + 1) 0 [(0, pR (34 + 2 * o)), (1, pI a1), (2, pI a2)] [] w RF NN 0 0 (some (pI res.1), res.2, RF, NN) := by
  unfold fSh_hasPart at h
  refine g_iload_n (pc := 0) (j := 1) (dk d_mSh_hasPart 0 rfl) rfl ?_
  refine h_if_lt (pc := 1) (tgt := 26) (dk d_mSh_hasPart 1 rfl) rfl h (fun hc3 h => ?_) (fun hc3 h => ?_)
  · refine g_iconst (pc := 26) (dk d_mSh_hasPart 16 rfl) (by decide) ?_
    exact h_zret (pc := 27) (Or.inl rfl) (dk d_mSh_hasPart 17 rfl) h
  · refine g_iload_n (pc := 4) (j := 2) (dk d_mSh_hasPart 2 rfl) rfl ?_
    refine h_if_lt (pc := 5) (tgt := 26) (dk d_mSh_hasPart 3 rfl) rfl h (fun hc2 h => ?_) (fun hc2 h => ?_)
    · refine g_iconst (pc := 26) (dk d_mSh_hasPart 16 rfl) (by decide) ?_
      exact h_zret (pc := 27) (Or.inl rfl) (dk d_mSh_hasPart 17 rfl) h
    · refine g_iload_n (pc := 8) (j := 1) (dk d_mSh_hasPart 4 rfl) rfl ?_
      refine g_i2l (pc := 9) (dk d_mSh_hasPart 5 rfl) ?_
      refine g_iload_n (pc := 10) (j := 2) (dk d_mSh_hasPart 6 rfl) rfl ?_
      refine g_i2l (pc := 11) (dk d_mSh_hasPart 7 rfl) ?_
      refine g_ladd (pc := 12) (dk d_mSh_hasPart 8 rfl) ?_
      refine g_aload_n (pc := 13) (j := 0) (dk d_mSh_hasPart 9 rfl) rfl (by have := ho; omega) ?_
      refine g_getI (pc := 14) fp_Sh_20 (po_s ho) (dk d_mSh_hasPart 10 rfl) ?_
      refine g_i2l (pc := 17) (dk d_mSh_hasPart 11 rfl) ?_
      refine h_lcmp_gt (pc := 18) (tgt := 26) (dk d_mSh_hasPart 12 rfl) (dk d_mSh_hasPart 13 rfl) rfl h (fun hc1 h => ?_) (fun hc1 h => ?_)
      · refine g_iconst (pc := 26) (dk d_mSh_hasPart 16 rfl) (by decide) ?_
        exact h_zret (pc := 27) (Or.inl rfl) (dk d_mSh_hasPart 17 rfl) h
      · refine g_iconst (pc := 22) (dk d_mSh_hasPart 14 rfl) (by decide) ?_
        refine g_goto (pc := 23) (tgt := 27) (dk d_mSh_hasPart 15 rfl) rfl ?_
        exact h_zret (pc := 27) (Or.inr rfl) (dk d_mSh_hasPart 17 rfl) h
set_option maxRecDepth 100000 in
set_option maxHeartbeats 4000000 in
theorem kSh_hasPart (E : Nat × (Int → Int)) (d : Nat) {o : Int} {a1 : Int} {a2 : Int} (ho : 0 ≤ o ∧ o < 6) {w w1 : WD} {r : Int} (h : fSh_hasPart o a1 a2 w = some (r, w1)) : CTi E mSh_hasPart (d + 1) [pR (34 + 2 * o), pI a1, pI a2] w RF NN r w1 RF NN := by
  exact CTi_of (by decide +kernel) (Nat.le_of_ble_eq_true rfl) (Or.inr rfl) (gSh_hasPart (res := (r, w1)) E d o a1 a2 ho w h)
def fSh_copyTo (o : Int) (a1 : Int) (a2 : Int) (a3 : Int) (a4 : Int) (w : WD) : Option WD := ci (fSh_hasPart o a1 a4 w) <| fun (r2 : Int) (u1 : WD) => if r2 = 0 then (some u1) else (ci (fSh_hasPart a2 a3 a4 u1) <| fun (r5 : Int) (u4 : WD) => if r5 = 0 then (some u4) else (ck ((0 : Int) ≤ a1 ∧ (0 : Int) ≤ a3 ∧ (0 : Int) ≤ a4 ∧ (a1 + a4 : Int) ≤ 60 ∧ (a3 + a4 : Int) ≤ 60) <| bw (cp u4 (35 + 2 * o) a1 (35 + 2 * a2) a3 a4) <| fun (u7 : WD) => some u7))
set_option maxRecDepth 100000 in
set_option maxHeartbeats 4000000 in
theorem gSh_copyTo (E : Nat × (Int → Int)) (d : Nat) {res : WD} (o : Int) (a1 : Int) (a2 : Int) (a3 : Int) (a4 : Int) (ho : 0 ≤ o ∧ o < 6) (ha2 : 0 ≤ a2 ∧ a2 < 6) (w : WD) (h : fSh_copyTo o a1 a2 a3 a4 w = some res) : G E mSh_copyTo (d + 2) 0 [(0, pR (34 + 2 * o)), (1, pI a1), (2, pR (34 + 2 * a2)), (3, pI a3), (4, pI a4)] [] w RF NN 0 0 (none, res, RF, NN) := by
  unfold fSh_copyTo at h
  refine g_aload_n (pc := 0) (j := 0) (dk d_mSh_copyTo 0 rfl) rfl (by have := ho; omega) ?_
  refine g_iload_n (pc := 1) (j := 1) (dk d_mSh_copyTo 1 rfl) rfl ?_
  refine g_iload (pc := 2) (j := 4) (dk d_mSh_copyTo 2 rfl) rfl ?_
  refine h_callVi (d := d + 1) (pc := 4) (na := 2) (av := [pI a1, pI a4]) (k0 := (34 + 2 * o)) (po_s ho) ⟨_, rfl⟩ ⟨rfl, rfl⟩ (dk d_mSh_copyTo 3 rfl) lk_Sh_40 vm_mSh_hasPart rfl rfl (Nat.le_of_ble_eq_true rfl) h (fun r2 u1 hq => kSh_hasPart E (d + 0) ho hq) (fun r2 u1 hb3 h => ?_)
  refine h_if_eq (pc := 7) (tgt := 35) (dk d_mSh_copyTo 4 rfl) rfl h (fun hc9 h => ?_) (fun hc9 h => ?_)
  · exact h_vret (pc := 35) (dk d_mSh_copyTo 18 rfl) h
  · refine g_aload_n (pc := 10) (j := 2) (dk d_mSh_copyTo 5 rfl) rfl (by have := ha2; omega) ?_
    refine g_iload_n (pc := 11) (j := 3) (dk d_mSh_copyTo 6 rfl) rfl ?_
    refine g_iload (pc := 12) (j := 4) (dk d_mSh_copyTo 7 rfl) rfl ?_
    refine h_callVi (d := d + 1) (pc := 14) (na := 2) (av := [pI a3, pI a4]) (k0 := (34 + 2 * a2)) (po_s ha2) ⟨_, rfl⟩ ⟨rfl, rfl⟩ (dk d_mSh_copyTo 8 rfl) lk_Sh_40 vm_mSh_hasPart rfl rfl (Nat.le_of_ble_eq_true rfl) h (fun r5 u4 hq => kSh_hasPart E (d + 0) ha2 hq) (fun r5 u4 hb6 h => ?_)
    refine h_if_eq (pc := 17) (tgt := 35) (dk d_mSh_copyTo 9 rfl) rfl h (fun hc8 h => ?_) (fun hc8 h => ?_)
    · exact h_vret (pc := 35) (dk d_mSh_copyTo 18 rfl) h
    · refine g_aload_n (pc := 20) (j := 0) (dk d_mSh_copyTo 10 rfl) rfl (by have := ho; omega) ?_
      refine g_getR (pc := 21) (a := (35 + 2 * o)) (rf_s ho) fp_Sh_9 (po_s ho) (dk d_mSh_copyTo 11 rfl) ?_
      refine g_iload_n (pc := 24) (j := 1) (dk d_mSh_copyTo 12 rfl) rfl ?_
      refine g_aload_n (pc := 25) (j := 2) (dk d_mSh_copyTo 13 rfl) rfl (by have := ha2; omega) ?_
      refine g_getR (pc := 26) (a := (35 + 2 * a2)) (rf_s ha2) fp_Sh_9 (po_s ha2) (dk d_mSh_copyTo 14 rfl) ?_
      refine g_iload_n (pc := 29) (j := 3) (dk d_mSh_copyTo 15 rfl) rfl ?_
      refine g_iload (pc := 30) (j := 4) (dk d_mSh_copyTo 16 rfl) rfl ?_
      refine h_copyL (pc := 32) (B0 := 60) (B1 := 60) ac_Sh_44 (pa_s ho) (pa_s ha2) rfl rfl (dk d_mSh_copyTo 17 rfl) (Nat.le_of_ble_eq_true rfl) (by omega) h (fun u7 h => ?_)
      exact h_vret (pc := 35) (dk d_mSh_copyTo 18 rfl) h
set_option maxRecDepth 100000 in
set_option maxHeartbeats 4000000 in
theorem kSh_copyTo (E : Nat × (Int → Int)) (d : Nat) {o : Int} {a1 : Int} {a2 : Int} {a3 : Int} {a4 : Int} (ho : 0 ≤ o ∧ o < 6) (ha2 : 0 ≤ a2 ∧ a2 < 6) {w w1 : WD} (h : fSh_copyTo o a1 a2 a3 a4 w = some w1) : CTv E mSh_copyTo (d + 2) [pR (34 + 2 * o), pI a1, pR (34 + 2 * a2), pI a3, pI a4] w RF NN w1 RF NN := by
  exact CTv_of (by decide +kernel) (Nat.le_of_ble_eq_true rfl) rfl (gSh_copyTo (res := w1) E d o a1 a2 a3 a4 ho ha2 w h)
def fSh_sort (o : Int) (w : WD) : Option (Int × WD) := some ((w (34 + 2 * o) 2), w)
set_option maxRecDepth 100000 in
set_option maxHeartbeats 4000000 in
theorem gSh_sort (E : Nat × (Int → Int)) (d : Nat) {res : Int × WD} (o : Int) (ho : 0 ≤ o ∧ o < 6) (w : WD) (h : fSh_sort o w = some res) : G E mSh_sort (d + 1) 0 [(0, pR (34 + 2 * o))] [] w RF NN 0 0 (some (pI res.1), res.2, RF, NN) := by
  unfold fSh_sort at h
  refine g_aload_n (pc := 0) (j := 0) (dk d_mSh_sort 0 rfl) rfl (by have := ho; omega) ?_
  refine g_getI (pc := 1) fp_Sh_17 (po_s ho) (dk d_mSh_sort 1 rfl) ?_
  exact h_iret (pc := 4) rfl (dk d_mSh_sort 2 rfl) h
set_option maxRecDepth 100000 in
set_option maxHeartbeats 4000000 in
theorem kSh_sort (E : Nat × (Int → Int)) (d : Nat) {o : Int} (ho : 0 ≤ o ∧ o < 6) {w w1 : WD} {r : Int} (h : fSh_sort o w = some (r, w1)) : CTi E mSh_sort (d + 1) [pR (34 + 2 * o)] w RF NN r w1 RF NN := by
  exact CTi_of (by decide +kernel) (Nat.le_of_ble_eq_true rfl) (Or.inl rfl) (gSh_sort (res := (r, w1)) E d o ho w h)
def fB_shift (a1 : Int) (a2 : Int) (a3 : Int) (a4 : Int) (a5 : Int) (w : WD) : Option (Int × WD) := ci (fB_isShelf a1 w) <| fun (r2 : Int) (u1 : WD) => if r2 = 0 then (some ((-1), u1)) else (ci (fB_isShelf a3 u1) <| fun (r5 : Int) (u4 : WD) => if r5 ≠ 0 then (ck (0 ≤ a1 ∧ a1 < 6) <| ck (0 ≤ a3 ∧ a3 < 6) <| ci (fSh_isEmpty a1 u4) <| fun (r10 : Int) (u9 : WD) => if r10 ≠ 0 then (some ((-11), u9)) else (ci (fSh_isEmpty a3 u9) <| fun (r13 : Int) (u12 : WD) => if r13 = 0 then (ci (fSh_isRow a1 u12) <| fun (r16 : Int) (u15 : WD) => if r16 = 0 then (some ((-12), u15)) else (ci (fSh_sort a1 u15) <| fun (r19 : Int) (u18 : WD) => ci (fSh_sort a3 u18) <| fun (r22 : Int) (u21 : WD) => if r19 = r22 then (ci (fSh_hasPart a1 a2 a5 u21) <| fun (r25 : Int) (u24 : WD) => if r25 = 0 then (some ((-13), u24)) else (ci (fSh_hasPart a3 a4 a5 u24) <| fun (r28 : Int) (u27 : WD) => if r28 ≠ 0 then (cv (fSh_copyTo a1 a2 a3 a4 a5 u27) <| fun (u30 : WD) => some (a5, u30)) else (some ((-13), u27)))) else (some ((-12), u21)))) else (some ((-11), u12)))) else (some ((-1), u4)))
set_option maxRecDepth 100000 in
set_option maxHeartbeats 4000000 in
theorem gB_shift (E : Nat × (Int → Int)) (d : Nat) {res : Int × WD} (a1 : Int) (a2 : Int) (a3 : Int) (a4 : Int) (a5 : Int) (w : WD) (h : fB_shift a1 a2 a3 a4 a5 w = some res) : G E mB_shift (d + 3) 0 [(0, pR 0), (1, pI a1), (2, pI a2), (3, pI a3), (4, pI a4), (5, pI a5)] [] w RF NN 0 0 (some (pI res.1), res.2, RF, NN) := by
  unfold fB_shift at h
  refine g_iload_n (pc := 0) (j := 1) (dk d_mB_shift 0 rfl) rfl ?_
  refine h_callSi (d := d + 2) (pc := 1) (na := 1) (av := [pI a1]) ⟨rfl, rfl⟩ (dk d_mB_shift 1 rfl) lk_B_66 vm_mB_isShelf rfl rfl (Nat.le_of_ble_eq_true rfl) h (fun r2 u1 hq => kB_isShelf E (d + 1) hq) (fun r2 u1 hb3 h => ?_)
  refine h_if_eq (pc := 4) (tgt := 14) (dk d_mB_shift 2 rfl) rfl h (fun hc38 h => ?_) (fun hc38 h => ?_)
  · refine g_iconst (pc := 14) (dk d_mB_shift 6 rfl) (by decide) ?_
    exact h_iret (pc := 15) rfl (dk d_mB_shift 7 rfl) h
  · refine g_iload_n (pc := 7) (j := 3) (dk d_mB_shift 3 rfl) rfl ?_
    refine h_callSi (d := d + 2) (pc := 8) (na := 1) (av := [pI a3]) ⟨rfl, rfl⟩ (dk d_mB_shift 4 rfl) lk_B_66 vm_mB_isShelf rfl rfl (Nat.le_of_ble_eq_true rfl) h (fun r5 u4 hq => kB_isShelf E (d + 1) hq) (fun r5 u4 hb6 h => ?_)
    refine h_if_ne (pc := 11) (tgt := 16) (dk d_mB_shift 5 rfl) rfl h (fun hc37 h => ?_) (fun hc37 h => ?_)
    · refine g_aload_n (pc := 16) (j := 0) (dk d_mB_shift 8 rfl) rfl (by decide) ?_
      refine g_getR (pc := 17) (a := 33) rfl fp_B_57 po_0 (dk d_mB_shift 9 rfl) ?_
      refine g_iload_n (pc := 20) (j := 1) (dk d_mB_shift 10 rfl) rfl ?_
      refine h_aald (pc := 21) (dk d_mB_shift 11 rfl) h (fun hi7 h => ?_)
      refine g_astore (pc := 22) (l' := [(6, pR (34 + 2 * a1)), (0, pR 0), (1, pI a1), (2, pI a2), (3, pI a3), (4, pI a4), (5, pI a5)]) (dk d_mB_shift 12 rfl) (Nat.le_of_ble_eq_true rfl) (by have := hi7; omega) rfl ?_
      refine g_aload_n (pc := 24) (j := 1) (dk d_mB_shift 13 rfl) rfl (by decide) ?_
      refine g_getR (pc := 25) (a := 33) rfl fp_B_57 po_0 (dk d_mB_shift 14 rfl) ?_
      refine g_iload_n (pc := 28) (j := 4) (dk d_mB_shift 15 rfl) rfl ?_
      refine h_aald (pc := 29) (dk d_mB_shift 16 rfl) h (fun hi8 h => ?_)
      refine g_astore (pc := 30) (l' := [(7, pR (34 + 2 * a3)), (6, pR (34 + 2 * a1)), (0, pR 0), (1, pI a1), (2, pI a2), (3, pI a3), (4, pI a4), (5, pI a5)]) (dk d_mB_shift 17 rfl) (Nat.le_of_ble_eq_true rfl) (by have := hi8; omega) rfl ?_
      refine g_aload (pc := 32) (j := 1) (dk d_mB_shift 18 rfl) rfl (by have := hi7; omega) ?_
      refine h_callVi (d := d + 2) (pc := 34) (na := 0) (av := []) (k0 := (34 + 2 * a1)) (po_s hi7) ⟨_, rfl⟩ ⟨rfl, rfl⟩ (dk d_mB_shift 19 rfl) lk_B_70 vm_mSh_isEmpty rfl rfl (Nat.le_of_ble_eq_true rfl) h (fun r10 u9 hq => kSh_isEmpty E (d + 1) hi7 hq) (fun r10 u9 hb11 h => ?_)
      refine h_if_ne (pc := 37) (tgt := 48) (dk d_mB_shift 20 rfl) rfl h (fun hc36 h => ?_) (fun hc36 h => ?_)
      · refine g_bipush (pc := 48) (dk d_mB_shift 24 rfl) (by decide) ?_
        exact h_iret (pc := 50) rfl (dk d_mB_shift 25 rfl) h
      · refine g_aload (pc := 40) (j := 0) (dk d_mB_shift 21 rfl) rfl (by have := hi8; omega) ?_
        refine h_callVi (d := d + 2) (pc := 42) (na := 0) (av := []) (k0 := (34 + 2 * a3)) (po_s hi8) ⟨_, rfl⟩ ⟨rfl, rfl⟩ (dk d_mB_shift 22 rfl) lk_B_70 vm_mSh_isEmpty rfl rfl (Nat.le_of_ble_eq_true rfl) h (fun r13 u12 hq => kSh_isEmpty E (d + 1) hi8 hq) (fun r13 u12 hb14 h => ?_)
        refine h_if_eq (pc := 45) (tgt := 51) (dk d_mB_shift 23 rfl) rfl h (fun hc35 h => ?_) (fun hc35 h => ?_)
        · refine g_aload (pc := 51) (j := 1) (dk d_mB_shift 26 rfl) rfl (by have := hi7; omega) ?_
          refine h_callVi (d := d + 2) (pc := 53) (na := 0) (av := []) (k0 := (34 + 2 * a1)) (po_s hi7) ⟨_, rfl⟩ ⟨rfl, rfl⟩ (dk d_mB_shift 27 rfl) lk_B_322 vm_mSh_isRow rfl rfl (Nat.le_of_ble_eq_true rfl) h (fun r16 u15 hq => kSh_isRow E (d + 1) hi7 hq) (fun r16 u15 hb17 h => ?_)
          refine h_if_eq (pc := 56) (tgt := 72) (dk d_mB_shift 28 rfl) rfl h (fun hc34 h => ?_) (fun hc34 h => ?_)
          · refine g_bipush (pc := 72) (dk d_mB_shift 34 rfl) (by decide) ?_
            exact h_iret (pc := 74) rfl (dk d_mB_shift 35 rfl) h
          · refine g_aload (pc := 59) (j := 1) (dk d_mB_shift 29 rfl) rfl (by have := hi7; omega) ?_
            refine h_callVi (d := d + 2) (pc := 61) (na := 0) (av := []) (k0 := (34 + 2 * a1)) (po_s hi7) ⟨_, rfl⟩ ⟨rfl, rfl⟩ (dk d_mB_shift 30 rfl) lk_B_325 vm_mSh_sort rfl rfl (Nat.le_of_ble_eq_true rfl) h (fun r19 u18 hq => kSh_sort E (d + 1) hi7 hq) (fun r19 u18 hb20 h => ?_)
            refine g_aload (pc := 64) (j := 0) (dk d_mB_shift 31 rfl) rfl (by have := hi8; omega) ?_
            refine h_callVi (d := d + 2) (pc := 66) (na := 0) (av := []) (k0 := (34 + 2 * a3)) (po_s hi8) ⟨_, rfl⟩ ⟨rfl, rfl⟩ (dk d_mB_shift 32 rfl) lk_B_325 vm_mSh_sort rfl rfl (Nat.le_of_ble_eq_true rfl) h (fun r22 u21 hq => kSh_sort E (d + 1) hi8 hq) (fun r22 u21 hb23 h => ?_)
            refine h_icmp_eq (pc := 69) (tgt := 75) (dk d_mB_shift 33 rfl) rfl h (fun hc33 h => ?_) (fun hc33 h => ?_)
            · refine g_aload (pc := 75) (j := 1) (dk d_mB_shift 36 rfl) rfl (by have := hi7; omega) ?_
              refine g_iload_n (pc := 77) (j := 4) (dk d_mB_shift 37 rfl) rfl ?_
              refine g_iload (pc := 78) (j := 7) (dk d_mB_shift 38 rfl) rfl ?_
              refine h_callVi (d := d + 2) (pc := 80) (na := 2) (av := [pI a2, pI a5]) (k0 := (34 + 2 * a1)) (po_s hi7) ⟨_, rfl⟩ ⟨rfl, rfl⟩ (dk d_mB_shift 39 rfl) lk_B_328 vm_mSh_hasPart rfl rfl (Nat.le_of_ble_eq_true rfl) h (fun r25 u24 hq => kSh_hasPart E (d + 1) hi7 hq) (fun r25 u24 hb26 h => ?_)
              refine h_if_eq (pc := 83) (tgt := 98) (dk d_mB_shift 40 rfl) rfl h (fun hc32 h => ?_) (fun hc32 h => ?_)
              · refine g_bipush (pc := 98) (dk d_mB_shift 46 rfl) (by decide) ?_
                exact h_iret (pc := 100) rfl (dk d_mB_shift 47 rfl) h
              · refine g_aload (pc := 86) (j := 0) (dk d_mB_shift 41 rfl) rfl (by have := hi8; omega) ?_
                refine g_iload (pc := 88) (j := 6) (dk d_mB_shift 42 rfl) rfl ?_
                refine g_iload (pc := 90) (j := 7) (dk d_mB_shift 43 rfl) rfl ?_
                refine h_callVi (d := d + 2) (pc := 92) (na := 2) (av := [pI a4, pI a5]) (k0 := (34 + 2 * a3)) (po_s hi8) ⟨_, rfl⟩ ⟨rfl, rfl⟩ (dk d_mB_shift 44 rfl) lk_B_328 vm_mSh_hasPart rfl rfl (Nat.le_of_ble_eq_true rfl) h (fun r28 u27 hq => kSh_hasPart E (d + 1) hi8 hq) (fun r28 u27 hb29 h => ?_)
                refine h_if_ne (pc := 95) (tgt := 101) (dk d_mB_shift 45 rfl) rfl h (fun hc31 h => ?_) (fun hc31 h => ?_)
                · refine g_aload (pc := 101) (j := 1) (dk d_mB_shift 48 rfl) rfl (by have := hi7; omega) ?_
                  refine g_iload_n (pc := 103) (j := 4) (dk d_mB_shift 49 rfl) rfl ?_
                  refine g_aload (pc := 104) (j := 0) (dk d_mB_shift 50 rfl) rfl (by have := hi8; omega) ?_
                  refine g_iload (pc := 106) (j := 6) (dk d_mB_shift 51 rfl) rfl ?_
                  refine g_iload (pc := 108) (j := 7) (dk d_mB_shift 52 rfl) rfl ?_
                  refine h_callVv (d := d + 2) (pc := 110) (na := 4) (av := [pI a2, pR (34 + 2 * a3), pI a4, pI a5]) (k0 := (34 + 2 * a1)) (po_s hi7) ⟨_, rfl⟩ ⟨rfl, rfl⟩ (dk d_mB_shift 53 rfl) lk_B_332 vm_mSh_copyTo rfl rfl (Nat.le_of_ble_eq_true rfl) h (fun u30 hq => kSh_copyTo E (d + 0) hi7 hi8 hq) (fun u30 h => ?_)
                  refine g_iload (pc := 113) (j := 7) (dk d_mB_shift 54 rfl) rfl ?_
                  exact h_iret (pc := 115) rfl (dk d_mB_shift 55 rfl) h
                · refine g_bipush (pc := 98) (dk d_mB_shift 46 rfl) (by decide) ?_
                  exact h_iret (pc := 100) rfl (dk d_mB_shift 47 rfl) h
            · refine g_bipush (pc := 72) (dk d_mB_shift 34 rfl) (by decide) ?_
              exact h_iret (pc := 74) rfl (dk d_mB_shift 35 rfl) h
        · refine g_bipush (pc := 48) (dk d_mB_shift 24 rfl) (by decide) ?_
          exact h_iret (pc := 50) rfl (dk d_mB_shift 25 rfl) h
    · refine g_iconst (pc := 14) (dk d_mB_shift 6 rfl) (by decide) ?_
      exact h_iret (pc := 15) rfl (dk d_mB_shift 7 rfl) h
set_option maxRecDepth 100000 in
set_option maxHeartbeats 4000000 in
theorem kB_shift (E : Nat × (Int → Int)) (d : Nat) {a1 : Int} {a2 : Int} {a3 : Int} {a4 : Int} {a5 : Int} {w w1 : WD} {r : Int} (h : fB_shift a1 a2 a3 a4 a5 w = some (r, w1)) : CTi E mB_shift (d + 3) [pR 0, pI a1, pI a2, pI a3, pI a4, pI a5] w RF NN r w1 RF NN := by
  exact CTi_of (by decide +kernel) (Nat.le_of_ble_eq_true rfl) (Or.inl rfl) (gB_shift (res := (r, w1)) E d a1 a2 a3 a4 a5 w h)
def fBo_isUnder_l4_b (rec : Int → Int → WD → Option (Int × WD)) (y1 : Int) (x2 : Int) (x3 : Int) (w : WD) : Option (Int × WD) := if 8 ≤ x3 then (some (0, w)) else (if x2 = (-1) then (some (0, w)) else (if x2 ≠ y1 then (ci (fBo_above x2 w) <| fun (r2 : Int) (u1 : WD) => bv (w32 (x3 + 1)) <| fun (v3_4 : Int) => rec r2 v3_4 u1) else (some (1, w))))
def fBo_isUnder_l4 (y1 : Int) : Nat → Int → Int → WD → Option (Int × WD)
  | 0 => fun _ _ _ => none
  | k + 1 => fBo_isUnder_l4_b ( fBo_isUnder_l4 y1 k) y1
set_option maxRecDepth 100000 in
set_option maxHeartbeats 4000000 in
theorem fBo_isUnder_l4_b_ok (E : Nat × (Int → Int)) (d : Nat) {res : Int × WD} {rec : Int → Int → WD → Option (Int × WD)} (y1 : Int) (hrec : ∀ (x2 : Int) (x3 : Int) (w : WD), rec x2 x3 w = some res → G E mBo_isUnder (d + 2) 4 [(1, pI y1), (2, pI x2), (3, pI x3)] [] w RF NN 0 0 (some (pI res.1), res.2, RF, NN)) (x2 : Int) (x3 : Int) (w : WD) (h : fBo_isUnder_l4_b rec y1 x2 x3 w = some res) : G E mBo_isUnder (d + 2) 4 [(1, pI y1), (2, pI x2), (3, pI x3)] [] w RF NN 0 0 (some (pI res.1), res.2, RF, NN) := by
  unfold fBo_isUnder_l4_b at h
  refine g_iload_n (pc := 4) (j := 2) (dk d_mBo_isUnder 4 rfl) rfl ?_
  refine g_bipush (pc := 5) (dk d_mBo_isUnder 5 rfl) (by decide) ?_
  refine h_icmp_ge (pc := 7) (tgt := 33) (dk d_mBo_isUnder 6 rfl) rfl h (fun hc7 h => ?_) (fun hc7 h => ?_)
  · refine g_iconst (pc := 33) (dk d_mBo_isUnder 20 rfl) (by decide) ?_
    exact h_zret (pc := 34) (Or.inl rfl) (dk d_mBo_isUnder 21 rfl) h
  · refine g_iload_n (pc := 10) (j := 1) (dk d_mBo_isUnder 7 rfl) rfl ?_
    refine g_iconst (pc := 11) (dk d_mBo_isUnder 8 rfl) (by decide) ?_
    refine h_icmp_eq (pc := 12) (tgt := 33) (dk d_mBo_isUnder 9 rfl) rfl h (fun hc6 h => ?_) (fun hc6 h => ?_)
    · refine g_iconst (pc := 33) (dk d_mBo_isUnder 20 rfl) (by decide) ?_
      exact h_zret (pc := 34) (Or.inl rfl) (dk d_mBo_isUnder 21 rfl) h
    · refine g_iload_n (pc := 15) (j := 1) (dk d_mBo_isUnder 10 rfl) rfl ?_
      refine g_iload_n (pc := 16) (j := 0) (dk d_mBo_isUnder 11 rfl) rfl ?_
      refine h_icmp_ne (pc := 17) (tgt := 22) (dk d_mBo_isUnder 12 rfl) rfl h (fun hc5 h => ?_) (fun hc5 h => ?_)
      · refine g_iload_n (pc := 22) (j := 1) (dk d_mBo_isUnder 15 rfl) rfl ?_
        refine h_callSi (d := d + 1) (pc := 23) (na := 1) (av := [pI x2]) ⟨rfl, rfl⟩ (dk d_mBo_isUnder 16 rfl) lk_Bo_32 vm_mBo_above rfl rfl (Nat.le_of_ble_eq_true rfl) h (fun r2 u1 hq => kBo_above E (d + 0) hq) (fun r2 u1 hb3 h => ?_)
        refine g_istore_n (pc := 26) (l' := [(2, pI r2), (1, pI y1), (3, pI x3)]) (dk d_mBo_isUnder 17 rfl) (Nat.le_of_ble_eq_true rfl) rfl ?_
        refine h_iinc (pc := 27) (j := 2) (dk d_mBo_isUnder 18 rfl) rfl (by decide) (Nat.le_of_ble_eq_true rfl) h (fun v3_4 h => ?_)
        refine g_loc (l' := [(3, pI v3_4), (2, pI r2), (1, pI y1)]) rfl ?_
        refine g_goto (pc := 30) (tgt := 4) (dk d_mBo_isUnder 19 rfl) rfl ?_
        refine g_pick [2, 1, 0] rfl (l' := [(1, pI y1), (2, pI r2), (3, pI v3_4)]) rfl ?_
        exact hrec _ _ _ h
      · refine g_iconst (pc := 20) (dk d_mBo_isUnder 13 rfl) (by decide) ?_
        exact h_zret (pc := 21) (Or.inr rfl) (dk d_mBo_isUnder 14 rfl) h
set_option maxRecDepth 100000 in
set_option maxHeartbeats 4000000 in
theorem fBo_isUnder_l4_ok (E : Nat × (Int → Int)) (d : Nat) {res : Int × WD} (y1 : Int) : ∀ (k : Nat) (x2 : Int) (x3 : Int) (w : WD), fBo_isUnder_l4 y1 k x2 x3 w = some res → G E mBo_isUnder (d + 2) 4 [(1, pI y1), (2, pI x2), (3, pI x3)] [] w RF NN 0 0 (some (pI res.1), res.2, RF, NN) := by
  intro k
  induction k with
  | zero =>
    intro x2 x3 w h
    exact no_e h
  | succ k ih =>
    intro x2 x3 w h
    exact fBo_isUnder_l4_b_ok E d y1 ih x2 x3 w h
def fBo_isUnder (a0 : Int) (a1 : Int) (w : WD) : Option (Int × WD) := fBo_isUnder_l4 a1 FU a0 0 w
set_option maxRecDepth 100000 in
set_option maxHeartbeats 4000000 in
theorem gBo_isUnder (E : Nat × (Int → Int)) (d : Nat) {res : Int × WD} (a0 : Int) (a1 : Int) (w : WD) (h : fBo_isUnder a0 a1 w = some res) : G E mBo_isUnder (d + 2) 0 [(0, pI a0), (1, pI a1)] [] w RF NN 0 0 (some (pI res.1), res.2, RF, NN) := by
  unfold fBo_isUnder at h
  refine g_iload_n (pc := 0) (j := 0) (dk d_mBo_isUnder 0 rfl) rfl ?_
  refine g_istore_n (pc := 1) (l' := [(2, pI a0), (0, pI a0), (1, pI a1)]) (dk d_mBo_isUnder 1 rfl) (Nat.le_of_ble_eq_true rfl) rfl ?_
  refine g_iconst (pc := 2) (dk d_mBo_isUnder 2 rfl) (by decide) ?_
  refine g_istore_n (pc := 3) (l' := [(3, pI 0), (2, pI a0), (0, pI a0), (1, pI a1)]) (dk d_mBo_isUnder 3 rfl) (Nat.le_of_ble_eq_true rfl) rfl ?_
  refine g_pick [3, 1, 0] rfl (l' := [(1, pI a1), (2, pI a0), (3, pI 0)]) rfl ?_
  refine fBo_isUnder_l4_ok E d a1 FU _ _  _ h
set_option maxRecDepth 100000 in
set_option maxHeartbeats 4000000 in
theorem kBo_isUnder (E : Nat × (Int → Int)) (d : Nat) {a0 : Int} {a1 : Int} {w w1 : WD} {r : Int} (h : fBo_isUnder a0 a1 w = some (r, w1)) : CTi E mBo_isUnder (d + 2) [pI a0, pI a1] w RF NN r w1 RF NN := by
  exact CTi_of (by decide +kernel) (Nat.le_of_ble_eq_true rfl) (Or.inr rfl) (gBo_isUnder (res := (r, w1)) E d a0 a1 w h)
def fSh_held (o : Int) (w : WD) : Option (Int × WD) := some ((w (34 + 2 * o) 1), w)
set_option maxRecDepth 100000 in
set_option maxHeartbeats 4000000 in
theorem gSh_held (E : Nat × (Int → Int)) (d : Nat) {res : Int × WD} (o : Int) (ho : 0 ≤ o ∧ o < 6) (w : WD) (h : fSh_held o w = some res) : G E mSh_held (d + 1) 0 [(0, pR (34 + 2 * o))] [] w RF NN 0 0 (some (pI res.1), res.2, RF, NN) := by
  unfold fSh_held at h
  refine g_aload_n (pc := 0) (j := 0) (dk d_mSh_held 0 rfl) rfl (by have := ho; omega) ?_
  refine g_getI (pc := 1) fp_Sh_13 (po_s ho) (dk d_mSh_held 1 rfl) ?_
  exact h_iret (pc := 4) rfl (dk d_mSh_held 2 rfl) h
set_option maxRecDepth 100000 in
set_option maxHeartbeats 4000000 in
theorem kSh_held (E : Nat × (Int → Int)) (d : Nat) {o : Int} (ho : 0 ≤ o ∧ o < 6) {w w1 : WD} {r : Int} (h : fSh_held o w = some (r, w1)) : CTi E mSh_held (d + 1) [pR (34 + 2 * o)] w RF NN r w1 RF NN := by
  exact CTi_of (by decide +kernel) (Nat.le_of_ble_eq_true rfl) (Or.inl rfl) (gSh_held (res := (r, w1)) E d o ho w h)
def fB_taken (a1 : Int) (a2 : Int) (w : WD) : Option (Int × WD) := ci (fB_isShelf a1 w) <| fun (r2 : Int) (u1 : WD) => if r2 = 0 then (some ((-1), u1)) else (if a2 < 0 then (some ((-1), u1)) else (if a2 < 8 then (ck (0 ≤ a1 ∧ a1 < 6) <| ci (fSh_isEmpty a1 u1) <| fun (r6 : Int) (u5 : WD) => if r6 = 0 then (ci (fSh_held a1 u5) <| fun (r9 : Int) (u8 : WD) => ci (fBo_kindOf r9 u8) <| fun (r12 : Int) (u11 : WD) => ci (fSh_isRow a1 u11) <| fun (r15 : Int) (u14 : WD) => if r15 ≠ 0 then (some ((-12), u14)) else (ci (fBo_isUnder r12 a2 u14) <| fun (r18 : Int) (u17 : WD) => if r18 ≠ 0 then (some (r12, u17)) else (some ((-12), u17)))) else (some ((-11), u5))) else (some ((-1), u1))))
set_option maxRecDepth 100000 in
set_option maxHeartbeats 4000000 in
theorem gB_taken (E : Nat × (Int → Int)) (d : Nat) {res : Int × WD} (a1 : Int) (a2 : Int) (w : WD) (h : fB_taken a1 a2 w = some res) : G E mB_taken (d + 3) 0 [(0, pR 0), (1, pI a1), (2, pI a2)] [] w RF NN 0 0 (some (pI res.1), res.2, RF, NN) := by
  unfold fB_taken at h
  refine g_iload_n (pc := 0) (j := 1) (dk d_mB_taken 0 rfl) rfl ?_
  refine h_callSi (d := d + 2) (pc := 1) (na := 1) (av := [pI a1]) ⟨rfl, rfl⟩ (dk d_mB_taken 1 rfl) lk_B_66 vm_mB_isShelf rfl rfl (Nat.le_of_ble_eq_true rfl) h (fun r2 u1 hq => kB_isShelf E (d + 1) hq) (fun r2 u1 hb3 h => ?_)
  refine h_if_eq (pc := 4) (tgt := 17) (dk d_mB_taken 2 rfl) rfl h (fun hc25 h => ?_) (fun hc25 h => ?_)
  · refine g_iconst (pc := 17) (dk d_mB_taken 8 rfl) (by decide) ?_
    exact h_iret (pc := 18) rfl (dk d_mB_taken 9 rfl) h
  · refine g_iload_n (pc := 7) (j := 2) (dk d_mB_taken 3 rfl) rfl ?_
    refine h_if_lt (pc := 8) (tgt := 17) (dk d_mB_taken 4 rfl) rfl h (fun hc24 h => ?_) (fun hc24 h => ?_)
    · refine g_iconst (pc := 17) (dk d_mB_taken 8 rfl) (by decide) ?_
      exact h_iret (pc := 18) rfl (dk d_mB_taken 9 rfl) h
    · refine g_iload_n (pc := 11) (j := 2) (dk d_mB_taken 5 rfl) rfl ?_
      refine g_bipush (pc := 12) (dk d_mB_taken 6 rfl) (by decide) ?_
      refine h_icmp_lt (pc := 14) (tgt := 19) (dk d_mB_taken 7 rfl) rfl h (fun hc23 h => ?_) (fun hc23 h => ?_)
      · refine g_aload_n (pc := 19) (j := 0) (dk d_mB_taken 10 rfl) rfl (by decide) ?_
        refine g_getR (pc := 20) (a := 33) rfl fp_B_57 po_0 (dk d_mB_taken 11 rfl) ?_
        refine g_iload_n (pc := 23) (j := 1) (dk d_mB_taken 12 rfl) rfl ?_
        refine h_aald (pc := 24) (dk d_mB_taken 13 rfl) h (fun hi4 h => ?_)
        refine g_astore_n (pc := 25) (l' := [(3, pR (34 + 2 * a1)), (0, pR 0), (1, pI a1), (2, pI a2)]) (dk d_mB_taken 14 rfl) (Nat.le_of_ble_eq_true rfl) (by have := hi4; omega) rfl ?_
        refine g_aload_n (pc := 26) (j := 0) (dk d_mB_taken 15 rfl) rfl (by have := hi4; omega) ?_
        refine h_callVi (d := d + 2) (pc := 27) (na := 0) (av := []) (k0 := (34 + 2 * a1)) (po_s hi4) ⟨_, rfl⟩ ⟨rfl, rfl⟩ (dk d_mB_taken 16 rfl) lk_B_70 vm_mSh_isEmpty rfl rfl (Nat.le_of_ble_eq_true rfl) h (fun r6 u5 hq => kSh_isEmpty E (d + 1) hi4 hq) (fun r6 u5 hb7 h => ?_)
        refine h_if_eq (pc := 30) (tgt := 36) (dk d_mB_taken 17 rfl) rfl h (fun hc22 h => ?_) (fun hc22 h => ?_)
        · refine g_aload_n (pc := 36) (j := 1) (dk d_mB_taken 20 rfl) rfl (by decide) ?_
          refine g_getR (pc := 37) (a := 30) rfl fp_B_51 po_0 (dk d_mB_taken 21 rfl) ?_
          refine g_aload_n (pc := 40) (j := 0) (dk d_mB_taken 22 rfl) rfl (by have := hi4; omega) ?_
          refine h_callVi (d := d + 2) (pc := 41) (na := 0) (av := []) (k0 := (34 + 2 * a1)) (po_s hi4) ⟨_, rfl⟩ ⟨rfl, rfl⟩ (dk d_mB_taken 23 rfl) lk_B_336 vm_mSh_held rfl rfl (Nat.le_of_ble_eq_true rfl) h (fun r9 u8 hq => kSh_held E (d + 1) hi4 hq) (fun r9 u8 hb10 h => ?_)
          refine h_callVi (d := d + 2) (pc := 44) (na := 1) (av := [pI r9]) (k0 := 30) po_30 ⟨_, rfl⟩ ⟨rfl, rfl⟩ (dk d_mB_taken 24 rfl) lk_B_339 vm_mBo_kindOf rfl rfl (Nat.le_of_ble_eq_true rfl) h (fun r12 u11 hq => kBo_kindOf E (d + 0) hq) (fun r12 u11 hb13 h => ?_)
          refine g_istore (pc := 47) (l' := [(4, pI r12), (3, pR (34 + 2 * a1)), (0, pR 0), (1, pI a1), (2, pI a2)]) (dk d_mB_taken 25 rfl) (Nat.le_of_ble_eq_true rfl) rfl ?_
          refine g_aload_n (pc := 49) (j := 1) (dk d_mB_taken 26 rfl) rfl (by have := hi4; omega) ?_
          refine h_callVi (d := d + 2) (pc := 50) (na := 0) (av := []) (k0 := (34 + 2 * a1)) (po_s hi4) ⟨_, rfl⟩ ⟨rfl, rfl⟩ (dk d_mB_taken 27 rfl) lk_B_322 vm_mSh_isRow rfl rfl (Nat.le_of_ble_eq_true rfl) h (fun r15 u14 hq => kSh_isRow E (d + 1) hi4 hq) (fun r15 u14 hb16 h => ?_)
          refine h_if_ne (pc := 53) (tgt := 65) (dk d_mB_taken 28 rfl) rfl h (fun hc21 h => ?_) (fun hc21 h => ?_)
          · refine g_bipush (pc := 65) (dk d_mB_taken 33 rfl) (by decide) ?_
            refine g_goto (pc := 67) (tgt := 72) (dk d_mB_taken 34 rfl) rfl ?_
            exact h_iret (pc := 72) rfl (dk d_mB_taken 36 rfl) h
          · refine g_iload (pc := 56) (j := 0) (dk d_mB_taken 29 rfl) rfl ?_
            refine g_iload_n (pc := 58) (j := 4) (dk d_mB_taken 30 rfl) rfl ?_
            refine h_callSi (d := d + 2) (pc := 59) (na := 2) (av := [pI r12, pI a2]) ⟨rfl, rfl⟩ (dk d_mB_taken 31 rfl) lk_B_342 vm_mBo_isUnder rfl rfl (Nat.le_of_ble_eq_true rfl) h (fun r18 u17 hq => kBo_isUnder E (d + 0) hq) (fun r18 u17 hb19 h => ?_)
            refine h_if_ne (pc := 62) (tgt := 70) (dk d_mB_taken 32 rfl) rfl h (fun hc20 h => ?_) (fun hc20 h => ?_)
            · refine g_iload (pc := 70) (j := 0) (dk d_mB_taken 35 rfl) rfl ?_
              exact h_iret (pc := 72) rfl (dk d_mB_taken 36 rfl) h
            · refine g_bipush (pc := 65) (dk d_mB_taken 33 rfl) (by decide) ?_
              refine g_goto (pc := 67) (tgt := 72) (dk d_mB_taken 34 rfl) rfl ?_
              exact h_iret (pc := 72) rfl (dk d_mB_taken 36 rfl) h
        · refine g_bipush (pc := 33) (dk d_mB_taken 18 rfl) (by decide) ?_
          exact h_iret (pc := 35) rfl (dk d_mB_taken 19 rfl) h
      · refine g_iconst (pc := 17) (dk d_mB_taken 8 rfl) (by decide) ?_
        exact h_iret (pc := 18) rfl (dk d_mB_taken 9 rfl) h
set_option maxRecDepth 100000 in
set_option maxHeartbeats 4000000 in
theorem kB_taken (E : Nat × (Int → Int)) (d : Nat) {a1 : Int} {a2 : Int} {w w1 : WD} {r : Int} (h : fB_taken a1 a2 w = some (r, w1)) : CTi E mB_taken (d + 3) [pR 0, pI a1, pI a2] w RF NN r w1 RF NN := by
  exact CTi_of (by decide +kernel) (Nat.le_of_ble_eq_true rfl) (Or.inl rfl) (gB_taken (res := (r, w1)) E d a1 a2 w h)
def fBo_made (w : WD) : Option (Int × WD) := some ((w 30 2), w)
set_option maxRecDepth 100000 in
set_option maxHeartbeats 4000000 in
theorem gBo_made (E : Nat × (Int → Int)) (d : Nat) {res : Int × WD} (w : WD) (h : fBo_made w = some res) : G E mBo_made (d + 1) 0 [(0, pR 30)] [] w RF NN 0 0 (some (pI res.1), res.2, RF, NN) := by
  unfold fBo_made at h
  refine g_aload_n (pc := 0) (j := 0) (dk d_mBo_made 0 rfl) rfl (by decide) ?_
  refine g_getI (pc := 1) fp_Bo_18 po_30 (dk d_mBo_made 1 rfl) ?_
  exact h_iret (pc := 4) rfl (dk d_mBo_made 2 rfl) h
set_option maxRecDepth 100000 in
set_option maxHeartbeats 4000000 in
theorem kBo_made (E : Nat × (Int → Int)) (d : Nat) {w w1 : WD} {r : Int} (h : fBo_made w = some (r, w1)) : CTi E mBo_made (d + 1) [pR 30] w RF NN r w1 RF NN := by
  exact CTi_of (by decide +kernel) (Nat.le_of_ble_eq_true rfl) (Or.inl rfl) (gBo_made (res := (r, w1)) E d w h)
def fBo_ran (w : WD) : Option (Int × WD) := some ((w 30 3), w)
set_option maxRecDepth 100000 in
set_option maxHeartbeats 4000000 in
theorem gBo_ran (E : Nat × (Int → Int)) (d : Nat) {res : Int × WD} (w : WD) (h : fBo_ran w = some res) : G E mBo_ran (d + 1) 0 [(0, pR 30)] [] w RF NN 0 0 (some (pI res.1), res.2, RF, NN) := by
  unfold fBo_ran at h
  refine g_aload_n (pc := 0) (j := 0) (dk d_mBo_ran 0 rfl) rfl (by decide) ?_
  refine g_getI (pc := 1) fp_Bo_22 po_30 (dk d_mBo_ran 1 rfl) ?_
  exact h_iret (pc := 4) rfl (dk d_mBo_ran 2 rfl) h
set_option maxRecDepth 100000 in
set_option maxHeartbeats 4000000 in
theorem kBo_ran (E : Nat × (Int → Int)) (d : Nat) {w w1 : WD} {r : Int} (h : fBo_ran w = some (r, w1)) : CTi E mBo_ran (d + 1) [pR 30] w RF NN r w1 RF NN := by
  exact CTi_of (by decide +kernel) (Nat.le_of_ble_eq_true rfl) (Or.inl rfl) (gBo_ran (res := (r, w1)) E d w h)
def fHa_undoable (w : WD) : Option (Int × WD) := some ((w 1 6), w)
set_option maxRecDepth 100000 in
set_option maxHeartbeats 4000000 in
theorem gHa_undoable (E : Nat × (Int → Int)) (d : Nat) {res : Int × WD} (w : WD) (h : fHa_undoable w = some res) : G E mHa_undoable (d + 1) 0 [(0, pR 1)] [] w RF NN 0 0 (some (pI res.1), res.2, RF, NN) := by
  unfold fHa_undoable at h
  refine g_aload_n (pc := 0) (j := 0) (dk d_mHa_undoable 0 rfl) rfl (by decide) ?_
  refine g_getI (pc := 1) fp_Ha_31 po_1 (dk d_mHa_undoable 1 rfl) ?_
  exact h_iret (pc := 4) rfl (dk d_mHa_undoable 2 rfl) h
set_option maxRecDepth 100000 in
set_option maxHeartbeats 4000000 in
theorem kHa_undoable (E : Nat × (Int → Int)) (d : Nat) {w w1 : WD} {r : Int} (h : fHa_undoable w = some (r, w1)) : CTi E mHa_undoable (d + 1) [pR 1] w RF NN r w1 RF NN := by
  exact CTi_of (by decide +kernel) (Nat.le_of_ble_eq_true rfl) (Or.inl rfl) (gHa_undoable (res := (r, w1)) E d w h)
def fLa_fed (w : WD) : Option (Int × WD) := some ((w 6 5), w)
set_option maxRecDepth 100000 in
set_option maxHeartbeats 4000000 in
theorem gLa_fed (E : Nat × (Int → Int)) (d : Nat) {res : Int × WD} (w : WD) (h : fLa_fed w = some res) : G E mLa_fed (d + 1) 0 [(0, pR 6)] [] w RF NN 0 0 (some (pI res.1), res.2, RF, NN) := by
  unfold fLa_fed at h
  refine g_aload_n (pc := 0) (j := 0) (dk d_mLa_fed 0 rfl) rfl (by decide) ?_
  refine g_getI (pc := 1) fp_La_27 po_6 (dk d_mLa_fed 1 rfl) ?_
  exact h_iret (pc := 4) rfl (dk d_mLa_fed 2 rfl) h
set_option maxRecDepth 100000 in
set_option maxHeartbeats 4000000 in
theorem kLa_fed (E : Nat × (Int → Int)) (d : Nat) {w w1 : WD} {r : Int} (h : fLa_fed w = some (r, w1)) : CTi E mLa_fed (d + 1) [pR 6] w RF NN r w1 RF NN := by
  exact CTi_of (by decide +kernel) (Nat.le_of_ble_eq_true rfl) (Or.inl rfl) (gLa_fed (res := (r, w1)) E d w h)
def fB_count (a1 : Int) (w : WD) : Option (Int × WD) := if a1 = 0 then (ci (fHa_persons w) <| fun (r2 : Int) (u1 : WD) => some (r2, u1)) else (if a1 = 1 then (ci (fHa_masks w) <| fun (r6 : Int) (u5 : WD) => some (r6, u5)) else (if a1 = 2 then (ci (fLa_fed w) <| fun (r10 : Int) (u9 : WD) => some (r10, u9)) else (if a1 = 3 then (ci (fHa_undoable w) <| fun (r14 : Int) (u13 : WD) => some (r14, u13)) else (if a1 = 4 then (ci (fBo_made w) <| fun (r18 : Int) (u17 : WD) => some (r18, u17)) else (if a1 = 5 then (ci (fBo_ran w) <| fun (r22 : Int) (u21 : WD) => some (r22, u21)) else ((some ((-1), w))))))))
set_option maxRecDepth 100000 in
set_option maxHeartbeats 4000000 in
theorem gB_count (E : Nat × (Int → Int)) (d : Nat) {res : Int × WD} (a1 : Int) (w : WD) (h : fB_count a1 w = some res) : G E mB_count (d + 2) 0 [(0, pR 0), (1, pI a1)] [] w RF NN 0 0 (some (pI res.1), res.2, RF, NN) := by
  unfold fB_count at h
  refine g_iload_n (pc := 0) (j := 1) (dk d_mB_count 0 rfl) rfl ?_
  refine br h (fun hc4 h => ?_) (fun hc4 h => ?_)
  · refine g_tin (pc := 1) (off := 39) (tgt := 40) (dk d_mB_count 1 rfl) (by omega) (by omega) (by rw [hc4]; rfl) rfl ?_
    refine g_aload_n (pc := 40) (j := 0) (dk d_mB_count 2 rfl) rfl (by decide) ?_
    refine g_getR (pc := 41) (a := 1) rfl fp_B_10 po_0 (dk d_mB_count 3 rfl) ?_
    refine h_callVi (d := d + 1) (pc := 44) (na := 0) (av := []) (k0 := 1) po_1 ⟨_, rfl⟩ ⟨rfl, rfl⟩ (dk d_mB_count 4 rfl) lk_B_215 vm_mHa_persons rfl rfl (Nat.le_of_ble_eq_true rfl) h (fun r2 u1 hq => kHa_persons E (d + 0) hq) (fun r2 u1 hb3 h => ?_)
    exact h_iret (pc := 47) rfl (dk d_mB_count 5 rfl) h
  · refine br h (fun hc8 h => ?_) (fun hc8 h => ?_)
    · refine g_tin (pc := 1) (off := 47) (tgt := 48) (dk d_mB_count 1 rfl) (by omega) (by omega) (by rw [hc8]; rfl) rfl ?_
      refine g_aload_n (pc := 48) (j := 0) (dk d_mB_count 6 rfl) rfl (by decide) ?_
      refine g_getR (pc := 49) (a := 1) rfl fp_B_10 po_0 (dk d_mB_count 7 rfl) ?_
      refine h_callVi (d := d + 1) (pc := 52) (na := 0) (av := []) (k0 := 1) po_1 ⟨_, rfl⟩ ⟨rfl, rfl⟩ (dk d_mB_count 8 rfl) lk_B_159 vm_mHa_masks rfl rfl (Nat.le_of_ble_eq_true rfl) h (fun r6 u5 hq => kHa_masks E (d + 0) hq) (fun r6 u5 hb7 h => ?_)
      exact h_iret (pc := 55) rfl (dk d_mB_count 9 rfl) h
    · refine br h (fun hc12 h => ?_) (fun hc12 h => ?_)
      · refine g_tin (pc := 1) (off := 55) (tgt := 56) (dk d_mB_count 1 rfl) (by omega) (by omega) (by rw [hc12]; rfl) rfl ?_
        refine g_aload_n (pc := 56) (j := 0) (dk d_mB_count 10 rfl) rfl (by decide) ?_
        refine g_getR (pc := 57) (a := 6) rfl fp_B_19 po_0 (dk d_mB_count 11 rfl) ?_
        refine h_callVi (d := d + 1) (pc := 60) (na := 0) (av := []) (k0 := 6) po_6 ⟨_, rfl⟩ ⟨rfl, rfl⟩ (dk d_mB_count 12 rfl) lk_B_345 vm_mLa_fed rfl rfl (Nat.le_of_ble_eq_true rfl) h (fun r10 u9 hq => kLa_fed E (d + 0) hq) (fun r10 u9 hb11 h => ?_)
        exact h_iret (pc := 63) rfl (dk d_mB_count 13 rfl) h
      · refine br h (fun hc16 h => ?_) (fun hc16 h => ?_)
        · refine g_tin (pc := 1) (off := 63) (tgt := 64) (dk d_mB_count 1 rfl) (by omega) (by omega) (by rw [hc16]; rfl) rfl ?_
          refine g_aload_n (pc := 64) (j := 0) (dk d_mB_count 14 rfl) rfl (by decide) ?_
          refine g_getR (pc := 65) (a := 1) rfl fp_B_10 po_0 (dk d_mB_count 15 rfl) ?_
          refine h_callVi (d := d + 1) (pc := 68) (na := 0) (av := []) (k0 := 1) po_1 ⟨_, rfl⟩ ⟨rfl, rfl⟩ (dk d_mB_count 16 rfl) lk_B_348 vm_mHa_undoable rfl rfl (Nat.le_of_ble_eq_true rfl) h (fun r14 u13 hq => kHa_undoable E (d + 0) hq) (fun r14 u13 hb15 h => ?_)
          exact h_iret (pc := 71) rfl (dk d_mB_count 17 rfl) h
        · refine br h (fun hc20 h => ?_) (fun hc20 h => ?_)
          · refine g_tin (pc := 1) (off := 71) (tgt := 72) (dk d_mB_count 1 rfl) (by omega) (by omega) (by rw [hc20]; rfl) rfl ?_
            refine g_aload_n (pc := 72) (j := 0) (dk d_mB_count 18 rfl) rfl (by decide) ?_
            refine g_getR (pc := 73) (a := 30) rfl fp_B_51 po_0 (dk d_mB_count 19 rfl) ?_
            refine h_callVi (d := d + 1) (pc := 76) (na := 0) (av := []) (k0 := 30) po_30 ⟨_, rfl⟩ ⟨rfl, rfl⟩ (dk d_mB_count 20 rfl) lk_B_351 vm_mBo_made rfl rfl (Nat.le_of_ble_eq_true rfl) h (fun r18 u17 hq => kBo_made E (d + 0) hq) (fun r18 u17 hb19 h => ?_)
            exact h_iret (pc := 79) rfl (dk d_mB_count 21 rfl) h
          · refine br h (fun hc24 h => ?_) (fun hc24 h => ?_)
            · refine g_tin (pc := 1) (off := 79) (tgt := 80) (dk d_mB_count 1 rfl) (by omega) (by omega) (by rw [hc24]; rfl) rfl ?_
              refine g_aload_n (pc := 80) (j := 0) (dk d_mB_count 22 rfl) rfl (by decide) ?_
              refine g_getR (pc := 81) (a := 30) rfl fp_B_51 po_0 (dk d_mB_count 23 rfl) ?_
              refine h_callVi (d := d + 1) (pc := 84) (na := 0) (av := []) (k0 := 30) po_30 ⟨_, rfl⟩ ⟨rfl, rfl⟩ (dk d_mB_count 24 rfl) lk_B_354 vm_mBo_ran rfl rfl (Nat.le_of_ble_eq_true rfl) h (fun r22 u21 hq => kBo_ran E (d + 0) hq) (fun r22 u21 hb23 h => ?_)
              exact h_iret (pc := 87) rfl (dk d_mB_count 25 rfl) h
            · refine g_tout (pc := 1) (tgt := 88) (dk d_mB_count 1 rfl) (by omega) rfl ?_
              refine g_iconst (pc := 88) (dk d_mB_count 26 rfl) (by decide) ?_
              exact h_iret (pc := 89) rfl (dk d_mB_count 27 rfl) h
set_option maxRecDepth 100000 in
set_option maxHeartbeats 4000000 in
theorem kB_count (E : Nat × (Int → Int)) (d : Nat) {a1 : Int} {w w1 : WD} {r : Int} (h : fB_count a1 w = some (r, w1)) : CTi E mB_count (d + 2) [pR 0, pI a1] w RF NN r w1 RF NN := by
  exact CTi_of (by decide +kernel) (Nat.le_of_ble_eq_true rfl) (Or.inl rfl) (gB_count (res := (r, w1)) E d a1 w h)
