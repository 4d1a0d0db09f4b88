def fB_ways (a1 : Int) (w : WD) : Option (Int × WD) := ci (fB_isBit a1 w) <| fun (r2 : Int) (u1 : WD) => if r2 ≠ 0 then (cv (fTh_load u1) <| fun (u4 : WD) => if a1 ≠ 0 then (ci (fTh_together u4) <| fun (r6 : Int) (u5 : WD) => some (r6, u5)) else (ci (fTh_number u4) <| fun (r8 : Int) (u7 : WD) => some (r8, u7))) else (some ((-9223372036854775808), u1))
set_option maxRecDepth 100000 in
set_option maxHeartbeats 4000000 in
theorem gB_ways (E : Nat × (Int → Int)) (d : Nat) {res : Int × WD} (a1 : Int) (w : WD) (h : fB_ways a1 w = some res) : G E mB_ways (d + 7) 0 [(0, pR 0), (1, pI a1)] [] w RF NN 0 0 (some (pL res.1), res.2, RF, NN) := by
  unfold fB_ways at h
  refine g_iload_n (pc := 0) (j := 1) (dk d_mB_ways 0 rfl) rfl ?_
  refine h_callSi (d := d + 6) (pc := 1) (na := 1) (av := [pI a1]) ⟨rfl, rfl⟩ (dk d_mB_ways 1 rfl) lk_B_120 vm_mB_isBit rfl rfl (Nat.le_of_ble_eq_true rfl) h (fun r2 u1 hq => kB_isBit E (d + 5) hq) (fun r2 u1 hb3 h => ?_)
  refine h_if_ne (pc := 4) (tgt := 11) (dk d_mB_ways 2 rfl) rfl h (fun hc10 h => ?_) (fun hc10 h => ?_)
  · refine g_aload_n (pc := 11) (j := 0) (dk d_mB_ways 5 rfl) rfl (by decide) ?_
    refine g_getR (pc := 12) (a := 12) rfl fp_B_28 po_0 (dk d_mB_ways 6 rfl) ?_
    refine h_callVv (d := d + 6) (pc := 15) (na := 0) (av := []) (k0 := 12) po_12 ⟨_, rfl⟩ ⟨rfl, rfl⟩ (dk d_mB_ways 7 rfl) lk_B_127 vm_mTh_load rfl rfl (Nat.le_of_ble_eq_true rfl) h (fun u4 hq => kTh_load E (d + 0) hq) (fun u4 h => ?_)
    refine g_iload_n (pc := 18) (j := 1) (dk d_mB_ways 8 rfl) rfl ?_
    refine h_if_ne (pc := 19) (tgt := 32) (dk d_mB_ways 9 rfl) rfl h (fun hc9 h => ?_) (fun hc9 h => ?_)
    · refine g_aload_n (pc := 32) (j := 0) (dk d_mB_ways 14 rfl) rfl (by decide) ?_
      refine g_getR (pc := 33) (a := 12) rfl fp_B_28 po_0 (dk d_mB_ways 15 rfl) ?_
      refine h_callVl (d := d + 6) (pc := 36) (na := 0) (av := []) (k0 := 12) po_12 ⟨_, rfl⟩ ⟨rfl, rfl⟩ (dk d_mB_ways 16 rfl) lk_B_134 vm_mTh_together rfl rfl (Nat.le_of_ble_eq_true rfl) h (fun r6 u5 hq => kTh_together E (d + 2) hq) (fun r6 u5 h => ?_)
      exact h_lret (pc := 39) (dk d_mB_ways 17 rfl) h
    · refine g_aload_n (pc := 22) (j := 0) (dk d_mB_ways 10 rfl) rfl (by decide) ?_
      refine g_getR (pc := 23) (a := 12) rfl fp_B_28 po_0 (dk d_mB_ways 11 rfl) ?_
      refine h_callVl (d := d + 6) (pc := 26) (na := 0) (av := []) (k0 := 12) po_12 ⟨_, rfl⟩ ⟨rfl, rfl⟩ (dk d_mB_ways 12 rfl) lk_B_130 vm_mTh_number rfl rfl (Nat.le_of_ble_eq_true rfl) h (fun r8 u7 hq => kTh_number E (d + 2) hq) (fun r8 u7 h => ?_)
      refine g_goto (pc := 29) (tgt := 39) (dk d_mB_ways 13 rfl) rfl ?_
      exact h_lret (pc := 39) (dk d_mB_ways 17 rfl) h
  · refine g_ldc2 (pc := 7) (u := (-9223372036854775808)) ck_B_125 (by decide) (dk d_mB_ways 3 rfl) ?_
    exact h_lret (pc := 10) (dk d_mB_ways 4 rfl) h
set_option maxRecDepth 100000 in
set_option maxHeartbeats 4000000 in
theorem kB_ways (E : Nat × (Int → Int)) (d : Nat) {a1 : Int} {w w1 : WD} {r : Int} (h : fB_ways a1 w = some (r, w1)) : CTl E mB_ways (d + 7) [pR 0, pI a1] w RF NN r w1 RF NN := by
  exact CTl_of (by decide +kernel) (Nat.le_of_ble_eq_true rfl) rfl (gB_ways (res := (r, w1)) E d a1 w h)
def fB_commonDivisor_l3_b (rec : Int → Int → Int → WD → Option (Int × WD)) (K0 : Int → WD → Option (Int × WD)) (x0 : Int) (x2 : Int) (x4 : Int) (w : WD) : Option (Int × WD) := if 200 ≤ x4 then (K0 x0 w) else (if x2 ≤ 0 then (K0 x0 w) else (ck (x2 ≠ 0) <| bv (w64 (x0 - w64 (w64 (Int.tdiv x0 x2) * x2))) <| fun (v5_1 : Int) => bv (w32 (x4 + 1)) <| fun (v4_2 : Int) => rec x2 v5_1 v4_2 w))
def fB_commonDivisor_l3 (K0 : Int → WD → Option (Int × WD)) : Nat → Int → Int → Int → WD → Option (Int × WD)
  | 0 => fun _ _ _ _ => none
  | k + 1 => fB_commonDivisor_l3_b ( fB_commonDivisor_l3 K0 k) K0
set_option maxRecDepth 100000 in
set_option maxHeartbeats 4000000 in
theorem fB_commonDivisor_l3_b_ok (E : Nat × (Int → Int)) (d : Nat) {res : Int × WD} {rec : Int → Int → Int → WD → Option (Int × WD)} (K0 : Int → WD → Option (Int × WD)) (hrec : ∀ (x0 : Int) (x2 : Int) (x4 : Int) (w : WD), rec x0 x2 x4 w = some res → G E mB_commonDivisor (d + 1) 3 [(0, pL x0), (2, pL x2), (4, pI x4)] [] w RF NN 0 0 (some (pL res.1), res.2, RF, NN)) (hK0 : ∀ (x0 : Int) (w : WD), K0 x0 w = some res → G E mB_commonDivisor (d + 1) 33 [(0, pL x0)] [] w RF NN 0 0 (some (pL res.1), res.2, RF, NN)) (x0 : Int) (x2 : Int) (x4 : Int) (w : WD) (h : fB_commonDivisor_l3_b rec K0 x0 x2 x4 w = some res) : G E mB_commonDivisor (d + 1) 3 [(0, pL x0), (2, pL x2), (4, pI x4)] [] w RF NN 0 0 (some (pL res.1), res.2, RF, NN) := by
  unfold fB_commonDivisor_l3_b at h
  refine g_iload (pc := 3) (j := 2) (dk d_mB_commonDivisor 2 rfl) rfl ?_
  refine g_sipush (pc := 5) (dk d_mB_commonDivisor 3 rfl) (by decide) ?_
  refine h_icmp_ge (pc := 8) (tgt := 33) (dk d_mB_commonDivisor 4 rfl) rfl h (fun hc4 h => ?_) (fun hc4 h => ?_)
  · refine g_pick [0] rfl (l' := [(0, pL x0)]) rfl ?_
    exact hK0 _ _ h
  · refine g_lload_n (pc := 11) (j := 1) (dk d_mB_commonDivisor 5 rfl) rfl ?_
    refine g_lconst0 (pc := 12) (dk d_mB_commonDivisor 6 rfl) ?_
    refine h_lcmp_le (pc := 13) (tgt := 33) (dk d_mB_commonDivisor 7 rfl) (dk d_mB_commonDivisor 8 rfl) rfl h (fun hc3 h => ?_) (fun hc3 h => ?_)
    · refine g_pick [0] rfl (l' := [(0, pL x0)]) rfl ?_
      exact hK0 _ _ h
    · refine g_lload_n (pc := 17) (j := 0) (dk d_mB_commonDivisor 9 rfl) rfl ?_
      refine g_lload_n (pc := 18) (j := 1) (dk d_mB_commonDivisor 10 rfl) rfl ?_
      refine h_lrem (pc := 19) (dk d_mB_commonDivisor 11 rfl) h (fun h => ?_)
      refine h_bvL h (fun v5_1 h => ?_)
      refine g_lstore (pc := 20) (l' := [(5, pL v5_1), (0, pL x0), (2, pL x2), (4, pI x4)]) (dk d_mB_commonDivisor 12 rfl) (Nat.le_of_ble_eq_true rfl) rfl ?_
      refine g_lload_n (pc := 22) (j := 2) (dk d_mB_commonDivisor 13 rfl) rfl ?_
      refine g_lstore_n (pc := 23) (l' := [(0, pL x2), (5, pL v5_1), (2, pL x2), (4, pI x4)]) (dk d_mB_commonDivisor 14 rfl) (Nat.le_of_ble_eq_true rfl) rfl ?_
      refine g_lload (pc := 24) (j := 1) (dk d_mB_commonDivisor 15 rfl) rfl ?_
      refine g_lstore_n (pc := 26) (l' := [(2, pL v5_1), (0, pL x2), (5, pL v5_1), (4, pI x4)]) (dk d_mB_commonDivisor 16 rfl) (Nat.le_of_ble_eq_true rfl) rfl ?_
      refine h_iinc (pc := 27) (j := 3) (dk d_mB_commonDivisor 17 rfl) rfl (by decide) (Nat.le_of_ble_eq_true rfl) h (fun v4_2 h => ?_)
      refine g_loc (l' := [(4, pI v4_2), (2, pL v5_1), (0, pL x2), (5, pL v5_1)]) rfl ?_
      refine g_goto (pc := 30) (tgt := 3) (dk d_mB_commonDivisor 18 rfl) rfl ?_
      refine g_pick [2, 1, 0] rfl (l' := [(0, pL x2), (2, pL v5_1), (4, pI v4_2)]) rfl ?_
      exact hrec _ _ _ _ h
set_option maxRecDepth 100000 in
set_option maxHeartbeats 4000000 in
theorem fB_commonDivisor_l3_ok (E : Nat × (Int → Int)) (d : Nat) {res : Int × WD} (K0 : Int → WD → Option (Int × WD)) (hK0 : ∀ (x0 : Int) (w : WD), K0 x0 w = some res → G E mB_commonDivisor (d + 1) 33 [(0, pL x0)] [] w RF NN 0 0 (some (pL res.1), res.2, RF, NN)) : ∀ (k : Nat) (x0 : Int) (x2 : Int) (x4 : Int) (w : WD), fB_commonDivisor_l3 K0 k x0 x2 x4 w = some res → G E mB_commonDivisor (d + 1) 3 [(0, pL x0), (2, pL x2), (4, pI x4)] [] w RF NN 0 0 (some (pL res.1), res.2, RF, NN) := by
  intro k
  induction k with
  | zero =>
    intro x0 x2 x4 w h
    exact no_e h
  | succ k ih =>
    intro x0 x2 x4 w h
    exact fB_commonDivisor_l3_b_ok E d K0 ih hK0 x0 x2 x4 w h
def fB_commonDivisor (a0 : Int) (a2 : Int) (w : WD) : Option (Int × WD) := fB_commonDivisor_l3 (fun (v0_5 : Int) (u6 : WD) => some ((mx 1 v0_5), u6)) FU a0 a2 0 w
set_option maxRecDepth 100000 in
set_option maxHeartbeats 4000000 in
theorem gB_commonDivisor (E : Nat × (Int → Int)) (d : Nat) {res : Int × WD} (a0 : Int) (a2 : Int) (w : WD) (h : fB_commonDivisor a0 a2 w = some res) : G E mB_commonDivisor (d + 1) 0 [(0, pL a0), (2, pL a2)] [] w RF NN 0 0 (some (pL res.1), res.2, RF, NN) := by
  unfold fB_commonDivisor at h
  refine g_iconst (pc := 0) (dk d_mB_commonDivisor 0 rfl) (by decide) ?_
  refine g_istore (pc := 1) (l' := [(4, pI 0), (0, pL a0), (2, pL a2)]) (dk d_mB_commonDivisor 1 rfl) (Nat.le_of_ble_eq_true rfl) rfl ?_
  refine g_pick [1, 2, 0] rfl (l' := [(0, pL a0), (2, pL a2), (4, pI 0)]) rfl ?_
  refine fB_commonDivisor_l3_ok E d _  (fun v0_5 u6 h => ?_) FU _ _ _  _ h
  · refine g_lconst1 (pc := 33) (dk d_mB_commonDivisor 19 rfl) ?_
    refine g_lload_n (pc := 34) (j := 0) (dk d_mB_commonDivisor 20 rfl) rfl ?_
    refine g_mmaxL (pc := 35) mm_B_168 (Nat.le_of_ble_eq_true rfl) (by omega) (dk d_mB_commonDivisor 21 rfl) ?_
    exact h_lret (pc := 38) (dk d_mB_commonDivisor 22 rfl) h
set_option maxRecDepth 100000 in
set_option maxHeartbeats 4000000 in
theorem kB_commonDivisor (E : Nat × (Int → Int)) (d : Nat) {a0 : Int} {a2 : Int} {w w1 : WD} {r : Int} (h : fB_commonDivisor a0 a2 w = some (r, w1)) : CTl E mB_commonDivisor (d + 1) [pL a0, pL a2] w RF NN r w1 RF NN := by
  exact CTl_of (by decide +kernel) (Nat.le_of_ble_eq_true rfl) rfl (gB_commonDivisor (res := (r, w1)) E d a0 a2 w h)
def fTh_narrowed (a1 : Int) (a2 : Int) (a3 : Int) (w : WD) : Option (Int × WD) := if a1 < 0 then (some (0, w)) else (if a1 < 5 then (ck (0 ≤ a1 ∧ a1 < 5) <| bv (w 15 a1) <| fun (v4_1 : Int) => ck (0 ≤ a1 ∧ a1 < 5) <| bw (up w 15 a1 (bAnd v4_1 a2)) <| fun (u2 : WD) => cv (fTh_price a3 u2) <| fun (u3 : WD) => ci (fTh_reckon 0 u3) <| fun (r5 : Int) (u4 : WD) => ck (0 ≤ a1 ∧ a1 < 5) <| bw (up u4 15 a1 v4_1) <| fun (u6 : WD) => some (r5, u6)) else (some (0, w)))
set_option maxRecDepth 100000 in
set_option maxHeartbeats 4000000 in
theorem gTh_narrowed (E : Nat × (Int → Int)) (d : Nat) {res : Int × WD} (a1 : Int) (a2 : Int) (a3 : Int) (w : WD) (h : fTh_narrowed a1 a2 a3 w = some res) : G E mTh_narrowed (d + 4) 0 [(0, pR 12), (1, pI a1), (2, pI a2), (3, pI a3)] [] w RF NN 0 0 (some (pL res.1), res.2, RF, NN) := by
  unfold fTh_narrowed at h
  refine g_iload_n (pc := 0) (j := 1) (dk d_mTh_narrowed 0 rfl) rfl ?_
  refine h_if_lt (pc := 1) (tgt := 9) (dk d_mTh_narrowed 1 rfl) rfl h (fun hc8 h => ?_) (fun hc8 h => ?_)
  · refine g_lconst0 (pc := 9) (dk d_mTh_narrowed 5 rfl) ?_
    exact h_lret (pc := 10) (dk d_mTh_narrowed 6 rfl) h
  · refine g_iload_n (pc := 4) (j := 1) (dk d_mTh_narrowed 2 rfl) rfl ?_
    refine g_iconst (pc := 5) (dk d_mTh_narrowed 3 rfl) (by decide) ?_
    refine h_icmp_lt (pc := 6) (tgt := 11) (dk d_mTh_narrowed 4 rfl) rfl h (fun hc7 h => ?_) (fun hc7 h => ?_)
    · refine g_aload_n (pc := 11) (j := 0) (dk d_mTh_narrowed 7 rfl) rfl (by decide) ?_
      refine g_getR (pc := 12) (a := 15) rfl fp_Th_19 po_12 (dk d_mTh_narrowed 8 rfl) ?_
      refine g_iload_n (pc := 15) (j := 1) (dk d_mTh_narrowed 9 rfl) rfl ?_
      refine h_iald (pc := 16) (B := 5) pa_15 rfl (dk d_mTh_narrowed 10 rfl) h (fun h => ?_)
      refine h_bvI h (fun v4_1 h => ?_)
      refine g_istore (pc := 17) (l' := [(4, pI v4_1), (0, pR 12), (1, pI a1), (2, pI a2), (3, pI a3)]) (dk d_mTh_narrowed 11 rfl) (Nat.le_of_ble_eq_true rfl) rfl ?_
      refine g_aload_n (pc := 19) (j := 1) (dk d_mTh_narrowed 12 rfl) rfl (by decide) ?_
      refine g_getR (pc := 20) (a := 15) rfl fp_Th_19 po_12 (dk d_mTh_narrowed 13 rfl) ?_
      refine g_iload_n (pc := 23) (j := 2) (dk d_mTh_narrowed 14 rfl) rfl ?_
      refine g_iload (pc := 24) (j := 0) (dk d_mTh_narrowed 15 rfl) rfl ?_
      refine g_iload_n (pc := 26) (j := 3) (dk d_mTh_narrowed 16 rfl) rfl ?_
      refine g_iand (pc := 27) (dk d_mTh_narrowed 17 rfl) ?_
      refine h_iast (pc := 28) (B := 5) pa_15 rfl (dk d_mTh_narrowed 18 rfl) h (fun u2 h => ?_)
      refine g_aload_n (pc := 29) (j := 1) (dk d_mTh_narrowed 19 rfl) rfl (by decide) ?_
      refine g_iload_n (pc := 30) (j := 4) (dk d_mTh_narrowed 20 rfl) rfl ?_
      refine h_callVv (d := d + 3) (pc := 31) (na := 1) (av := [pI a3]) (k0 := 12) po_12 ⟨_, rfl⟩ ⟨rfl, rfl⟩ (dk d_mTh_narrowed 21 rfl) lk_Th_106 vm_mTh_price rfl rfl (Nat.le_of_ble_eq_true rfl) h (fun u3 hq => kTh_price E (d + 1) hq) (fun u3 h => ?_)
      refine g_aload_n (pc := 34) (j := 1) (dk d_mTh_narrowed 22 rfl) rfl (by decide) ?_
      refine g_iconst (pc := 35) (dk d_mTh_narrowed 23 rfl) (by decide) ?_
      refine h_callVl (d := d + 3) (pc := 36) (na := 1) (av := [pI 0]) (k0 := 12) po_12 ⟨_, rfl⟩ ⟨rfl, rfl⟩ (dk d_mTh_narrowed 24 rfl) lk_Th_110 vm_mTh_reckon rfl rfl (Nat.le_of_ble_eq_true rfl) h (fun r5 u4 hq => kTh_reckon E (d + 0) hq) (fun r5 u4 h => ?_)
      refine g_lstore (pc := 39) (l' := [(5, pL r5), (4, pI v4_1), (0, pR 12), (1, pI a1), (2, pI a2), (3, pI a3)]) (dk d_mTh_narrowed 25 rfl) (Nat.le_of_ble_eq_true rfl) rfl ?_
      refine g_aload_n (pc := 41) (j := 2) (dk d_mTh_narrowed 26 rfl) rfl (by decide) ?_
      refine g_getR (pc := 42) (a := 15) rfl fp_Th_19 po_12 (dk d_mTh_narrowed 27 rfl) ?_
      refine g_iload_n (pc := 45) (j := 3) (dk d_mTh_narrowed 28 rfl) rfl ?_
      refine g_iload (pc := 46) (j := 1) (dk d_mTh_narrowed 29 rfl) rfl ?_
      refine h_iast (pc := 48) (B := 5) pa_15 rfl (dk d_mTh_narrowed 30 rfl) h (fun u6 h => ?_)
      refine g_lload (pc := 49) (j := 0) (dk d_mTh_narrowed 31 rfl) rfl ?_
      exact h_lret (pc := 51) (dk d_mTh_narrowed 32 rfl) h
    · refine g_lconst0 (pc := 9) (dk d_mTh_narrowed 5 rfl) ?_
      exact h_lret (pc := 10) (dk d_mTh_narrowed 6 rfl) h
set_option maxRecDepth 100000 in
set_option maxHeartbeats 4000000 in
theorem kTh_narrowed (E : Nat × (Int → Int)) (d : Nat) {a1 : Int} {a2 : Int} {a3 : Int} {w w1 : WD} {r : Int} (h : fTh_narrowed a1 a2 a3 w = some (r, w1)) : CTl E mTh_narrowed (d + 4) [pR 12, pI a1, pI a2, pI a3] w RF NN r w1 RF NN := by
  exact CTl_of (by decide +kernel) (Nat.le_of_ble_eq_true rfl) rfl (gTh_narrowed (res := (r, w1)) E d a1 a2 a3 w h)
def fTh_togetherIf (a1 : Int) (a2 : Int) (w : WD) : Option (Int × WD) := ci (fTh_narrowed a1 a2 1 w) <| fun (r2 : Int) (u1 : WD) => some (r2, u1)
set_option maxRecDepth 100000 in
set_option maxHeartbeats 4000000 in
theorem gTh_togetherIf (E : Nat × (Int → Int)) (d : Nat) {res : Int × WD} (a1 : Int) (a2 : Int) (w : WD) (h : fTh_togetherIf a1 a2 w = some res) : G E mTh_togetherIf (d + 5) 0 [(0, pR 12), (1, pI a1), (2, pI a2)] [] w RF NN 0 0 (some (pL res.1), res.2, RF, NN) := by
  unfold fTh_togetherIf at h
  refine g_aload_n (pc := 0) (j := 0) (dk d_mTh_togetherIf 0 rfl) rfl (by decide) ?_
  refine g_iload_n (pc := 1) (j := 1) (dk d_mTh_togetherIf 1 rfl) rfl ?_
  refine g_iload_n (pc := 2) (j := 2) (dk d_mTh_togetherIf 2 rfl) rfl ?_
  refine g_iconst (pc := 3) (dk d_mTh_togetherIf 3 rfl) (by decide) ?_
  refine h_callVl (d := d + 4) (pc := 4) (na := 3) (av := [pI a1, pI a2, pI 1]) (k0 := 12) po_12 ⟨_, rfl⟩ ⟨rfl, rfl⟩ (dk d_mTh_togetherIf 4 rfl) lk_Th_114 vm_mTh_narrowed rfl rfl (Nat.le_of_ble_eq_true rfl) h (fun r2 u1 hq => kTh_narrowed E (d + 0) hq) (fun r2 u1 h => ?_)
  exact h_lret (pc := 7) (dk d_mTh_togetherIf 5 rfl) h
set_option maxRecDepth 100000 in
set_option maxHeartbeats 4000000 in
theorem kTh_togetherIf (E : Nat × (Int → Int)) (d : Nat) {a1 : Int} {a2 : Int} {w w1 : WD} {r : Int} (h : fTh_togetherIf a1 a2 w = some (r, w1)) : CTl E mTh_togetherIf (d + 5) [pR 12, pI a1, pI a2] w RF NN r w1 RF NN := by
  exact CTl_of (by decide +kernel) (Nat.le_of_ble_eq_true rfl) rfl (gTh_togetherIf (res := (r, w1)) E d a1 a2 w h)
def fB_likely (a1 : Int) (a2 : Int) (a3 : Int) (w : WD) : Option (Int × WD) := ci (fHa_isMask a1 w) <| fun (r2 : Int) (u1 : WD) => if r2 = 0 then (some ((-9223372036854775808), u1)) else (ci (fHa_isOne a2 u1) <| fun (r5 : Int) (u4 : WD) => if r5 = 0 then (some ((-9223372036854775808), u4)) else (ci (fB_isBit a3 u4) <| fun (r8 : Int) (u7 : WD) => if r8 ≠ 0 then (cv (fTh_load u7) <| fun (u10 : WD) => ci (fTh_together u10) <| fun (r12 : Int) (u11 : WD) => if 0 < r12 then (ci (fTh_togetherIf a1 (bShl 1 a2) u11) <| fun (r14 : Int) (u13 : WD) => ci (fB_commonDivisor r12 r14 u13) <| fun (r16 : Int) (u15 : WD) => jn (β := Int → WD → Option (Int × WD)) (fun (s17 : Int) (u18 : WD) => ck (r16 ≠ 0) <| some ((w64 (Int.tdiv s17 r16)), u18)) <| fun J19 => if a3 ≠ 0 then (J19 r12 u15) else (J19 r14 u15)) else (some (a3, u11))) else (some ((-9223372036854775808), u7))))
set_option maxRecDepth 100000 in
set_option maxHeartbeats 4000000 in
theorem gB_likely (E : Nat × (Int → Int)) (d : Nat) {res : Int × WD} (a1 : Int) (a2 : Int) (a3 : Int) (w : WD) (h : fB_likely a1 a2 a3 w = some res) : G E mB_likely (d + 7) 0 [(0, pR 0), (1, pI a1), (2, pI a2), (3, pI a3)] [] w RF NN 0 0 (some (pL res.1), res.2, RF, NN) := by
  unfold fB_likely at h
  refine g_aload_n (pc := 0) (j := 0) (dk d_mB_likely 0 rfl) rfl (by decide) ?_
  refine g_getR (pc := 1) (a := 1) rfl fp_B_10 po_0 (dk d_mB_likely 1 rfl) ?_
  refine g_iload_n (pc := 4) (j := 1) (dk d_mB_likely 2 rfl) rfl ?_
  refine h_callVi (d := d + 6) (pc := 5) (na := 1) (av := [pI a1]) (k0 := 1) po_1 ⟨_, rfl⟩ ⟨rfl, rfl⟩ (dk d_mB_likely 3 rfl) lk_B_90 vm_mHa_isMask rfl rfl (Nat.le_of_ble_eq_true rfl) h (fun r2 u1 hq => kHa_isMask E (d + 5) hq) (fun r2 u1 hb3 h => ?_)
  refine h_if_eq (pc := 8) (tgt := 29) (dk d_mB_likely 4 rfl) rfl h (fun hc24 h => ?_) (fun hc24 h => ?_)
  · refine g_ldc2 (pc := 29) (u := (-9223372036854775808)) ck_B_125 (by decide) (dk d_mB_likely 13 rfl) ?_
    exact h_lret (pc := 32) (dk d_mB_likely 14 rfl) h
  · refine g_aload_n (pc := 11) (j := 0) (dk d_mB_likely 5 rfl) rfl (by decide) ?_
    refine g_getR (pc := 12) (a := 1) rfl fp_B_10 po_0 (dk d_mB_likely 6 rfl) ?_
    refine g_iload_n (pc := 15) (j := 2) (dk d_mB_likely 7 rfl) rfl ?_
    refine h_callVi (d := d + 6) (pc := 16) (na := 1) (av := [pI a2]) (k0 := 1) po_1 ⟨_, rfl⟩ ⟨rfl, rfl⟩ (dk d_mB_likely 8 rfl) lk_B_114 vm_mHa_isOne rfl rfl (Nat.le_of_ble_eq_true rfl) h (fun r5 u4 hq => kHa_isOne E (d + 5) hq) (fun r5 u4 hb6 h => ?_)
    refine h_if_eq (pc := 19) (tgt := 29) (dk d_mB_likely 9 rfl) rfl h (fun hc23 h => ?_) (fun hc23 h => ?_)
    · refine g_ldc2 (pc := 29) (u := (-9223372036854775808)) ck_B_125 (by decide) (dk d_mB_likely 13 rfl) ?_
      exact h_lret (pc := 32) (dk d_mB_likely 14 rfl) h
    · refine g_iload_n (pc := 22) (j := 3) (dk d_mB_likely 10 rfl) rfl ?_
      refine h_callSi (d := d + 6) (pc := 23) (na := 1) (av := [pI a3]) ⟨rfl, rfl⟩ (dk d_mB_likely 11 rfl) lk_B_120 vm_mB_isBit rfl rfl (Nat.le_of_ble_eq_true rfl) h (fun r8 u7 hq => kB_isBit E (d + 5) hq) (fun r8 u7 hb9 h => ?_)
      refine h_if_ne (pc := 26) (tgt := 33) (dk d_mB_likely 12 rfl) rfl h (fun hc22 h => ?_) (fun hc22 h => ?_)
      · refine g_aload_n (pc := 33) (j := 0) (dk d_mB_likely 15 rfl) rfl (by decide) ?_
        refine g_getR (pc := 34) (a := 12) rfl fp_B_28 po_0 (dk d_mB_likely 16 rfl) ?_
        refine h_callVv (d := d + 6) (pc := 37) (na := 0) (av := []) (k0 := 12) po_12 ⟨_, rfl⟩ ⟨rfl, rfl⟩ (dk d_mB_likely 17 rfl) lk_B_127 vm_mTh_load rfl rfl (Nat.le_of_ble_eq_true rfl) h (fun u10 hq => kTh_load E (d + 0) hq) (fun u10 h => ?_)
        refine g_aload_n (pc := 40) (j := 0) (dk d_mB_likely 18 rfl) rfl (by decide) ?_
        refine g_getR (pc := 41) (a := 12) rfl fp_B_28 po_0 (dk d_mB_likely 19 rfl) ?_
        refine h_callVl (d := d + 6) (pc := 44) (na := 0) (av := []) (k0 := 12) po_12 ⟨_, rfl⟩ ⟨rfl, rfl⟩ (dk d_mB_likely 20 rfl) lk_B_134 vm_mTh_together rfl rfl (Nat.le_of_ble_eq_true rfl) h (fun r12 u11 hq => kTh_together E (d + 2) hq) (fun r12 u11 h => ?_)
        refine g_lstore (pc := 47) (l' := [(4, pL r12), (0, pR 0), (1, pI a1), (2, pI a2), (3, pI a3)]) (dk d_mB_likely 21 rfl) (Nat.le_of_ble_eq_true rfl) rfl ?_
        refine g_lload (pc := 49) (j := 0) (dk d_mB_likely 22 rfl) rfl ?_
        refine g_lconst0 (pc := 51) (dk d_mB_likely 23 rfl) ?_
        refine h_lcmp_gt (pc := 52) (tgt := 59) (dk d_mB_likely 24 rfl) (dk d_mB_likely 25 rfl) rfl h (fun hc21 h => ?_) (fun hc21 h => ?_)
        · refine g_aload_n (pc := 59) (j := 1) (dk d_mB_likely 29 rfl) rfl (by decide) ?_
          refine g_getR (pc := 60) (a := 12) rfl fp_B_28 po_0 (dk d_mB_likely 30 rfl) ?_
          refine g_iload_n (pc := 63) (j := 2) (dk d_mB_likely 31 rfl) rfl ?_
          refine g_iconst (pc := 64) (dk d_mB_likely 32 rfl) (by decide) ?_
          refine g_iload_n (pc := 65) (j := 3) (dk d_mB_likely 33 rfl) rfl ?_
          refine g_ishl (pc := 66) (dk d_mB_likely 34 rfl) ?_
          refine h_callVl (d := d + 6) (pc := 67) (na := 2) (av := [pI a1, pI (bShl 1 a2)]) (k0 := 12) po_12 ⟨_, rfl⟩ ⟨rfl, rfl⟩ (dk d_mB_likely 35 rfl) lk_B_137 vm_mTh_togetherIf rfl rfl (Nat.le_of_ble_eq_true rfl) h (fun r14 u13 hq => kTh_togetherIf E (d + 1) hq) (fun r14 u13 h => ?_)
          refine g_lstore (pc := 70) (l' := [(6, pL r14), (4, pL r12), (0, pR 0), (1, pI a1), (2, pI a2), (3, pI a3)]) (dk d_mB_likely 36 rfl) (Nat.le_of_ble_eq_true rfl) rfl ?_
          refine g_lload (pc := 72) (j := 1) (dk d_mB_likely 37 rfl) rfl ?_
          refine g_lload (pc := 74) (j := 0) (dk d_mB_likely 38 rfl) rfl ?_
          refine h_callSl (d := d + 6) (pc := 76) (na := 2) (av := [pL r12, pL r14]) ⟨rfl, rfl⟩ (dk d_mB_likely 39 rfl) lk_B_141 vm_mB_commonDivisor rfl rfl (Nat.le_of_ble_eq_true rfl) h (fun r16 u15 hq => kB_commonDivisor E (d + 5) hq) (fun r16 u15 h => ?_)
          refine g_lstore (pc := 79) (l' := [(8, pL r16), (6, pL r14), (4, pL r12), (0, pR 0), (1, pI a1), (2, pI a2), (3, pI a3)]) (dk d_mB_likely 40 rfl) (Nat.le_of_ble_eq_true rfl) rfl ?_
          refine g_iload_n (pc := 81) (j := 6) (dk d_mB_likely 41 rfl) rfl ?_
          refine jn_e (fun J => ∀ (s17 : Int) (u18 : WD), J s17 u18 = some res → G E mB_likely (d + 7) 92 [(8, pL r16)] [pL s17] u18 RF NN 0 0 (some (pL res.1), res.2, RF, NN)) h (fun s17 u18 h => ?_) (fun J19 hJ19 h => ?_)
          · refine g_lload (pc := 92) (j := 0) (dk d_mB_likely 46 rfl) rfl ?_
            refine h_ldiv (pc := 94) (dk d_mB_likely 47 rfl) h (fun h => ?_)
            exact h_lret (pc := 95) (dk d_mB_likely 48 rfl) h
          · refine h_if_ne (pc := 82) (tgt := 90) (dk d_mB_likely 42 rfl) rfl h (fun hc20 h => ?_) (fun hc20 h => ?_)
            · refine g_lload (pc := 90) (j := 2) (dk d_mB_likely 45 rfl) rfl ?_
              refine g_pick [0] rfl (l' := [(8, pL r16)]) rfl ?_
              exact hJ19 _ _ h
            · refine g_lload (pc := 85) (j := 1) (dk d_mB_likely 43 rfl) rfl ?_
              refine g_goto (pc := 87) (tgt := 92) (dk d_mB_likely 44 rfl) rfl ?_
              refine g_pick [0] rfl (l' := [(8, pL r16)]) rfl ?_
              exact hJ19 _ _ h
        · refine g_iload_n (pc := 56) (j := 4) (dk d_mB_likely 26 rfl) rfl ?_
          refine g_i2l (pc := 57) (dk d_mB_likely 27 rfl) ?_
          exact h_lret (pc := 58) (dk d_mB_likely 28 rfl) h
      · refine g_ldc2 (pc := 29) (u := (-9223372036854775808)) ck_B_125 (by decide) (dk d_mB_likely 13 rfl) ?_
        exact h_lret (pc := 32) (dk d_mB_likely 14 rfl) h
set_option maxRecDepth 100000 in
set_option maxHeartbeats 4000000 in
theorem kB_likely (E : Nat × (Int → Int)) (d : Nat) {a1 : Int} {a2 : Int} {a3 : Int} {w w1 : WD} {r : Int} (h : fB_likely a1 a2 a3 w = some (r, w1)) : CTl E mB_likely (d + 7) [pR 0, pI a1, pI a2, pI a3] w RF NN r w1 RF NN := by
  exact CTl_of (by decide +kernel) (Nat.le_of_ble_eq_true rfl) rfl (gB_likely (res := (r, w1)) E d a1 a2 a3 w h)
def fTh_staysGreatest (a1 : Int) (a2 : Int) (a3 : Int) (w : WD) : Option (Int × WD) := ci (fTh_withOne a1 a2 a3 w) <| fun (r2 : Int) (u1 : WD) => ck (0 ≤ (w32 ((w32 (64 * a1)) + (bAnd a2 63))) ∧ (w32 ((w32 (64 * a1)) + (bAnd a2 63))) < 384) <| if r2 ≠ (u1 17 (w32 ((w32 (64 * a1)) + (bAnd a2 63)))) then (some (0, u1)) else (some (1, u1))
set_option maxRecDepth 100000 in
set_option maxHeartbeats 4000000 in
theorem gTh_staysGreatest (E : Nat × (Int → Int)) (d : Nat) {res : Int × WD} (a1 : Int) (a2 : Int) (a3 : Int) (w : WD) (h : fTh_staysGreatest a1 a2 a3 w = some res) : G E mTh_staysGreatest (d + 2) 0 [(0, pR 12), (1, pI a1), (2, pI a2), (3, pI a3)] [] w RF NN 0 0 (some (pI res.1), res.2, RF, NN) := by
  unfold fTh_staysGreatest at h
  refine g_aload_n (pc := 0) (j := 0) (dk d_mTh_staysGreatest 0 rfl) rfl (by decide) ?_
  refine g_iload_n (pc := 1) (j := 1) (dk d_mTh_staysGreatest 1 rfl) rfl ?_
  refine g_iload_n (pc := 2) (j := 2) (dk d_mTh_staysGreatest 2 rfl) rfl ?_
  refine g_iload_n (pc := 3) (j := 3) (dk d_mTh_staysGreatest 3 rfl) rfl ?_
  refine h_callVl (d := d + 1) (pc := 4) (na := 3) (av := [pI a1, pI a2, pI a3]) (k0 := 12) po_12 ⟨_, rfl⟩ ⟨rfl, rfl⟩ (dk d_mTh_staysGreatest 4 rfl) lk_Th_99 vm_mTh_withOne rfl rfl (Nat.le_of_ble_eq_true rfl) h (fun r2 u1 hq => kTh_withOne E (d + 0) hq) (fun r2 u1 h => ?_)
  refine g_aload_n (pc := 7) (j := 0) (dk d_mTh_staysGreatest 5 rfl) rfl (by decide) ?_
  refine g_getR (pc := 8) (a := 17) rfl fp_Th_25 po_12 (dk d_mTh_staysGreatest 6 rfl) ?_
  refine g_bipush (pc := 11) (dk d_mTh_staysGreatest 7 rfl) (by decide) ?_
  refine g_iload_n (pc := 13) (j := 1) (dk d_mTh_staysGreatest 8 rfl) rfl ?_
  refine g_imul (pc := 14) (dk d_mTh_staysGreatest 9 rfl) ?_
  refine g_iload_n (pc := 15) (j := 2) (dk d_mTh_staysGreatest 10 rfl) rfl ?_
  refine g_bipush (pc := 16) (dk d_mTh_staysGreatest 11 rfl) (by decide) ?_
  refine g_iand (pc := 18) (dk d_mTh_staysGreatest 12 rfl) ?_
  refine g_iadd (pc := 19) (dk d_mTh_staysGreatest 13 rfl) ?_
  refine h_lald (pc := 20) (B := 384) pa_17 rfl (dk d_mTh_staysGreatest 14 rfl) h (fun h => ?_)
  refine h_lcmp_ne (pc := 21) (tgt := 29) (dk d_mTh_staysGreatest 15 rfl) (dk d_mTh_staysGreatest 16 rfl) rfl h (fun hc3 h => ?_) (fun hc3 h => ?_)
  · refine g_iconst (pc := 29) (dk d_mTh_staysGreatest 19 rfl) (by decide) ?_
    exact h_zret (pc := 30) (Or.inl rfl) (dk d_mTh_staysGreatest 20 rfl) h
  · refine g_iconst (pc := 25) (dk d_mTh_staysGreatest 17 rfl) (by decide) ?_
    refine g_goto (pc := 26) (tgt := 30) (dk d_mTh_staysGreatest 18 rfl) rfl ?_
    exact h_zret (pc := 30) (Or.inr rfl) (dk d_mTh_staysGreatest 20 rfl) h
set_option maxRecDepth 100000 in
set_option maxHeartbeats 4000000 in
theorem kTh_staysGreatest (E : Nat × (Int → Int)) (d : Nat) {a1 : Int} {a2 : Int} {a3 : Int} {w w1 : WD} {r : Int} (h : fTh_staysGreatest a1 a2 a3 w = some (r, w1)) : CTi E mTh_staysGreatest (d + 2) [pR 12, pI a1, pI a2, pI a3] w RF NN r w1 RF NN := by
  exact CTi_of (by decide +kernel) (Nat.le_of_ble_eq_true rfl) (Or.inr rfl) (gTh_staysGreatest (res := (r, w1)) E d a1 a2 a3 w h)
def fTh_usedWith (a0 : Int) (a1 : Int) (w : WD) : Option (Int × WD) := if a1 ≠ 6 then (some ((bOr a0 (bShl 1 a1)), w)) else (some (a0, w))
set_option maxRecDepth 100000 in
set_option maxHeartbeats 4000000 in
theorem gTh_usedWith (E : Nat × (Int → Int)) (d : Nat) {res : Int × WD} (a0 : Int) (a1 : Int) (w : WD) (h : fTh_usedWith a0 a1 w = some res) : G E mTh_usedWith (d + 1) 0 [(0, pI a0), (1, pI a1)] [] w RF NN 0 0 (some (pI res.1), res.2, RF, NN) := by
  unfold fTh_usedWith at h
  refine g_iload_n (pc := 0) (j := 1) (dk d_mTh_usedWith 0 rfl) rfl ?_
  refine g_bipush (pc := 1) (dk d_mTh_usedWith 1 rfl) (by decide) ?_
  refine h_icmp_ne (pc := 3) (tgt := 10) (dk d_mTh_usedWith 2 rfl) rfl h (fun hc1 h => ?_) (fun hc1 h => ?_)
  · refine g_iload_n (pc := 10) (j := 0) (dk d_mTh_usedWith 5 rfl) rfl ?_
    refine g_iconst (pc := 11) (dk d_mTh_usedWith 6 rfl) (by decide) ?_
    refine g_iload_n (pc := 12) (j := 1) (dk d_mTh_usedWith 7 rfl) rfl ?_
    refine g_ishl (pc := 13) (dk d_mTh_usedWith 8 rfl) ?_
    refine g_ior (pc := 14) (dk d_mTh_usedWith 9 rfl) ?_
    exact h_iret (pc := 15) rfl (dk d_mTh_usedWith 10 rfl) h
  · refine g_iload_n (pc := 6) (j := 0) (dk d_mTh_usedWith 3 rfl) rfl ?_
    refine g_goto (pc := 7) (tgt := 15) (dk d_mTh_usedWith 4 rfl) rfl ?_
    exact h_iret (pc := 15) rfl (dk d_mTh_usedWith 10 rfl) h
set_option maxRecDepth 100000 in
set_option maxHeartbeats 4000000 in
theorem kTh_usedWith (E : Nat × (Int → Int)) (d : Nat) {a0 : Int} {a1 : Int} {w w1 : WD} {r : Int} (h : fTh_usedWith a0 a1 w = some (r, w1)) : CTi E mTh_usedWith (d + 1) [pI a0, pI a1] w RF NN r w1 RF NN := by
  exact CTi_of (by decide +kernel) (Nat.le_of_ble_eq_true rfl) (Or.inl rfl) (gTh_usedWith (res := (r, w1)) E d a0 a1 w h)
def fTh_bestWay_l43_b (rec : Int → WD → Option (Int × WD)) (y1 : Int) (y3 : Int) (y4 : Int) (K0 : Int → WD → Option (Int × WD)) (x5 : Int) (w : WD) : Option (Int × WD) := if 6 ≤ x5 then (K0 x5 w) else (ci (fTh_staysGreatest y4 y3 x5 w) <| fun (r8 : Int) (u7 : WD) => if r8 ≠ 0 then (K0 x5 u7) else (bv (w32 (x5 + 1)) <| fun (v5_10 : Int) => rec v5_10 u7))
def fTh_bestWay_l43 (y1 : Int) (y3 : Int) (y4 : Int) (K0 : Int → WD → Option (Int × WD)) : Nat → Int → WD → Option (Int × WD)
  | 0 => fun _ _ => none
  | k + 1 => fTh_bestWay_l43_b ( fTh_bestWay_l43 y1 y3 y4 K0 k) y1 y3 y4 K0
set_option maxRecDepth 100000 in
set_option maxHeartbeats 4000000 in
theorem fTh_bestWay_l43_b_ok (E : Nat × (Int → Int)) (d : Nat) {res : Int × WD} {rec : Int → WD → Option (Int × WD)} (y1 : Int) (y3 : Int) (y4 : Int) (K0 : Int → WD → Option (Int × WD)) (hrec : ∀ (x5 : Int) (w : WD), rec x5 w = some res → G E mTh_bestWay (d + 4) 43 [(0, pR 12), (1, pL y1), (3, pI y3), (4, pI y4), (5, pI x5)] [] w RF NN 0 0 (some (pL res.1), res.2, RF, NN)) (hK0 : ∀ (x5 : Int) (w : WD), K0 x5 w = some res → G E mTh_bestWay (d + 4) 68 [(0, pR 12), (1, pL y1), (3, pI y3), (4, pI y4), (5, pI x5)] [] w RF NN 0 0 (some (pL res.1), res.2, RF, NN)) (x5 : Int) (w : WD) (h : fTh_bestWay_l43_b rec y1 y3 y4 K0 x5 w = some res) : G E mTh_bestWay (d + 4) 43 [(0, pR 12), (1, pL y1), (3, pI y3), (4, pI y4), (5, pI x5)] [] w RF NN 0 0 (some (pL res.1), res.2, RF, NN) := by
  unfold fTh_bestWay_l43_b at h
  refine g_iload (pc := 43) (j := 4) (dk d_mTh_bestWay 25 rfl) rfl ?_
  refine g_bipush (pc := 45) (dk d_mTh_bestWay 26 rfl) (by decide) ?_
  refine h_icmp_ge (pc := 47) (tgt := 68) (dk d_mTh_bestWay 27 rfl) rfl h (fun hc12 h => ?_) (fun hc12 h => ?_)
  · exact hK0 _ _ h
  · refine g_aload_n (pc := 50) (j := 0) (dk d_mTh_bestWay 28 rfl) rfl (by decide) ?_
    refine g_iload (pc := 51) (j := 3) (dk d_mTh_bestWay 29 rfl) rfl ?_
    refine g_iload_n (pc := 53) (j := 2) (dk d_mTh_bestWay 30 rfl) rfl ?_
    refine g_iload (pc := 54) (j := 4) (dk d_mTh_bestWay 31 rfl) rfl ?_
    refine h_callVi (d := d + 3) (pc := 56) (na := 3) (av := [pI y4, pI y3, pI x5]) (k0 := 12) po_12 ⟨_, rfl⟩ ⟨rfl, rfl⟩ (dk d_mTh_bestWay 32 rfl) lk_Th_118 vm_mTh_staysGreatest rfl rfl (Nat.le_of_ble_eq_true rfl) h (fun r8 u7 hq => kTh_staysGreatest E (d + 1) hq) (fun r8 u7 hb9 h => ?_)
    refine h_if_ne (pc := 59) (tgt := 68) (dk d_mTh_bestWay 33 rfl) rfl h (fun hc11 h => ?_) (fun hc11 h => ?_)
    · exact hK0 _ _ h
    · refine h_iinc (pc := 62) (j := 4) (dk d_mTh_bestWay 34 rfl) rfl (by decide) (Nat.le_of_ble_eq_true rfl) h (fun v5_10 h => ?_)
      refine g_loc (l' := [(5, pI v5_10), (0, pR 12), (1, pL y1), (3, pI y3), (4, pI y4)]) rfl ?_
      refine g_goto (pc := 65) (tgt := 43) (dk d_mTh_bestWay 35 rfl) rfl ?_
      refine g_pick [1, 2, 3, 4, 0] rfl (l' := [(0, pR 12), (1, pL y1), (3, pI y3), (4, pI y4), (5, pI v5_10)]) rfl ?_
      exact hrec _ _ h
set_option maxRecDepth 100000 in
set_option maxHeartbeats 4000000 in
theorem fTh_bestWay_l43_ok (E : Nat × (Int → Int)) (d : Nat) {res : Int × WD} (y1 : Int) (y3 : Int) (y4 : Int) (K0 : Int → WD → Option (Int × WD)) (hK0 : ∀ (x5 : Int) (w : WD), K0 x5 w = some res → G E mTh_bestWay (d + 4) 68 [(0, pR 12), (1, pL y1), (3, pI y3), (4, pI y4), (5, pI x5)] [] w RF NN 0 0 (some (pL res.1), res.2, RF, NN)) : ∀ (k : Nat) (x5 : Int) (w : WD), fTh_bestWay_l43 y1 y3 y4 K0 k x5 w = some res → G E mTh_bestWay (d + 4) 43 [(0, pR 12), (1, pL y1), (3, pI y3), (4, pI y4), (5, pI x5)] [] w RF NN 0 0 (some (pL res.1), res.2, RF, NN) := by
  intro k
  induction k with
  | zero =>
    intro x5 w h
    exact no_e h
  | succ k ih =>
    intro x5 w h
    exact fTh_bestWay_l43_b_ok E d y1 y3 y4 K0 ih hK0 x5 w h
def fTh_bestWay_l16_b (rec : Int → Int → WD → Option (Int × WD)) (y1 : Int) (x3 : Int) (x4 : Int) (w : WD) : Option (Int × WD) := ci (fHa_masks w) <| fun (r5 : Int) (u4 : WD) => if r5 ≤ x4 then (some (y1, u4)) else (if 5 ≤ x4 then (some (y1, u4)) else (if y1 ≤ 0 then (some (y1, u4)) else (fTh_bestWay_l43 y1 x3 x4 (fun (v5_13 : Int) (u14 : WD) => ck (0 ≤ x4 ∧ x4 < 5) <| bw (up u14 18 x4 v5_13) <| fun (u15 : WD) => ci (fTh_usedWith x3 v5_13 u15) <| fun (r17 : Int) (u16 : WD) => bv (w32 (x4 + 1)) <| fun (v4_19 : Int) => rec r17 v4_19 u16) FU 0 u4)))
def fTh_bestWay_l16 (y1 : Int) : Nat → Int → Int → WD → Option (Int × WD)
  | 0 => fun _ _ _ => none
  | k + 1 => fTh_bestWay_l16_b ( fTh_bestWay_l16 y1 k) y1
set_option maxRecDepth 100000 in
set_option maxHeartbeats 4000000 in
theorem fTh_bestWay_l16_b_ok (E : Nat × (Int → Int)) (d : Nat) {res : Int × WD} {rec : Int → Int → WD → Option (Int × WD)} (y1 : Int) (hrec : ∀ (x3 : Int) (x4 : Int) (w : WD), rec x3 x4 w = some res → G E mTh_bestWay (d + 4) 16 [(0, pR 12), (1, pL y1), (3, pI x3), (4, pI x4)] [] w RF NN 0 0 (some (pL res.1), res.2, RF, NN)) (x3 : Int) (x4 : Int) (w : WD) (h : fTh_bestWay_l16_b rec y1 x3 x4 w = some res) : G E mTh_bestWay (d + 4) 16 [(0, pR 12), (1, pL y1), (3, pI x3), (4, pI x4)] [] w RF NN 0 0 (some (pL res.1), res.2, RF, NN) := by
  unfold fTh_bestWay_l16_b at h
  refine g_iload (pc := 16) (j := 3) (dk d_mTh_bestWay 11 rfl) rfl ?_
  refine g_aload_n (pc := 18) (j := 0) (dk d_mTh_bestWay 12 rfl) rfl (by decide) ?_
  refine g_getR (pc := 19) (a := 1) rfl fp_Th_31 po_12 (dk d_mTh_bestWay 13 rfl) ?_
  refine h_callVi (d := d + 3) (pc := 22) (na := 0) (av := []) (k0 := 1) po_1 ⟨_, rfl⟩ ⟨rfl, rfl⟩ (dk d_mTh_bestWay 14 rfl) lk_Th_86 vm_mHa_masks rfl rfl (Nat.le_of_ble_eq_true rfl) h (fun r5 u4 hq => kHa_masks E (d + 2) hq) (fun r5 u4 hb6 h => ?_)
  refine h_icmp_ge (pc := 25) (tgt := 90) (dk d_mTh_bestWay 15 rfl) rfl h (fun hc22 h => ?_) (fun hc22 h => ?_)
  · refine g_lload_n (pc := 90) (j := 1) (dk d_mTh_bestWay 47 rfl) rfl ?_
    exact h_lret (pc := 91) (dk d_mTh_bestWay 48 rfl) h
  · refine g_iload (pc := 28) (j := 3) (dk d_mTh_bestWay 16 rfl) rfl ?_
    refine g_iconst (pc := 30) (dk d_mTh_bestWay 17 rfl) (by decide) ?_
    refine h_icmp_ge (pc := 31) (tgt := 90) (dk d_mTh_bestWay 18 rfl) rfl h (fun hc21 h => ?_) (fun hc21 h => ?_)
    · refine g_lload_n (pc := 90) (j := 1) (dk d_mTh_bestWay 47 rfl) rfl ?_
      exact h_lret (pc := 91) (dk d_mTh_bestWay 48 rfl) h
    · refine g_lload_n (pc := 34) (j := 1) (dk d_mTh_bestWay 19 rfl) rfl ?_
      refine g_lconst0 (pc := 35) (dk d_mTh_bestWay 20 rfl) ?_
      refine h_lcmp_le (pc := 36) (tgt := 90) (dk d_mTh_bestWay 21 rfl) (dk d_mTh_bestWay 22 rfl) rfl h (fun hc20 h => ?_) (fun hc20 h => ?_)
      · refine g_lload_n (pc := 90) (j := 1) (dk d_mTh_bestWay 47 rfl) rfl ?_
        exact h_lret (pc := 91) (dk d_mTh_bestWay 48 rfl) h
      · refine g_iconst (pc := 40) (dk d_mTh_bestWay 23 rfl) (by decide) ?_
        refine g_istore (pc := 41) (l' := [(5, pI 0), (0, pR 12), (1, pL y1), (3, pI x3), (4, pI x4)]) (dk d_mTh_bestWay 24 rfl) (Nat.le_of_ble_eq_true rfl) rfl ?_
        refine g_pick [1, 2, 3, 4, 0] rfl (l' := [(0, pR 12), (1, pL y1), (3, pI x3), (4, pI x4), (5, pI 0)]) rfl ?_
        refine fTh_bestWay_l43_ok E d y1 x3 x4 _  (fun v5_13 u14 h => ?_) FU _  _ h
        · refine g_aload_n (pc := 68) (j := 0) (dk d_mTh_bestWay 36 rfl) rfl (by decide) ?_
          refine g_getR (pc := 69) (a := 18) rfl fp_Th_28 po_12 (dk d_mTh_bestWay 37 rfl) ?_
          refine g_iload (pc := 72) (j := 3) (dk d_mTh_bestWay 38 rfl) rfl ?_
          refine g_iload (pc := 74) (j := 4) (dk d_mTh_bestWay 39 rfl) rfl ?_
          refine h_iast (pc := 76) (B := 5) pa_18 rfl (dk d_mTh_bestWay 40 rfl) h (fun u15 h => ?_)
          refine g_iload_n (pc := 77) (j := 2) (dk d_mTh_bestWay 41 rfl) rfl ?_
          refine g_iload (pc := 78) (j := 4) (dk d_mTh_bestWay 42 rfl) rfl ?_
          refine h_callSi (d := d + 3) (pc := 80) (na := 2) (av := [pI x3, pI v5_13]) ⟨rfl, rfl⟩ (dk d_mTh_bestWay 43 rfl) lk_Th_122 vm_mTh_usedWith rfl rfl (Nat.le_of_ble_eq_true rfl) h (fun r17 u16 hq => kTh_usedWith E (d + 2) hq) (fun r17 u16 hb18 h => ?_)
          refine g_istore_n (pc := 83) (l' := [(3, pI r17), (0, pR 12), (1, pL y1), (4, pI x4), (5, pI v5_13)]) (dk d_mTh_bestWay 44 rfl) (Nat.le_of_ble_eq_true rfl) rfl ?_
          refine h_iinc (pc := 84) (j := 3) (dk d_mTh_bestWay 45 rfl) rfl (by decide) (Nat.le_of_ble_eq_true rfl) h (fun v4_19 h => ?_)
          refine g_loc (l' := [(4, pI v4_19), (3, pI r17), (0, pR 12), (1, pL y1), (5, pI v5_13)]) rfl ?_
          refine g_goto (pc := 87) (tgt := 16) (dk d_mTh_bestWay 46 rfl) rfl ?_
          refine g_pick [2, 3, 1, 0] rfl (l' := [(0, pR 12), (1, pL y1), (3, pI r17), (4, pI v4_19)]) rfl ?_
          exact hrec _ _ _ h
set_option maxRecDepth 100000 in
set_option maxHeartbeats 4000000 in
theorem fTh_bestWay_l16_ok (E : Nat × (Int → Int)) (d : Nat) {res : Int × WD} (y1 : Int) : ∀ (k : Nat) (x3 : Int) (x4 : Int) (w : WD), fTh_bestWay_l16 y1 k x3 x4 w = some res → G E mTh_bestWay (d + 4) 16 [(0, pR 12), (1, pL y1), (3, pI x3), (4, pI x4)] [] w RF NN 0 0 (some (pL res.1), res.2, RF, NN) := by
  intro k
  induction k with
  | zero =>
    intro x3 x4 w h
    exact no_e h
  | succ k ih =>
    intro x3 x4 w h
    exact fTh_bestWay_l16_b_ok E d y1 ih x3 x4 w h
def fTh_bestWay (w : WD) : Option (Int × WD) := cv (fTh_price 1 w) <| fun (u1 : WD) => ci (fTh_reckon 1 u1) <| fun (r3 : Int) (u2 : WD) => fTh_bestWay_l16 r3 FU 0 0 u2
set_option maxRecDepth 100000 in
set_option maxHeartbeats 4000000 in
theorem gTh_bestWay (E : Nat × (Int → Int)) (d : Nat) {res : Int × WD} (w : WD) (h : fTh_bestWay w = some res) : G E mTh_bestWay (d + 4) 0 [(0, pR 12)] [] w RF NN 0 0 (some (pL res.1), res.2, RF, NN) := by
  unfold fTh_bestWay at h
  refine g_aload_n (pc := 0) (j := 0) (dk d_mTh_bestWay 0 rfl) rfl (by decide) ?_
  refine g_iconst (pc := 1) (dk d_mTh_bestWay 1 rfl) (by decide) ?_
  refine h_callVv (d := d + 3) (pc := 2) (na := 1) (av := [pI 1]) (k0 := 12) po_12 ⟨_, rfl⟩ ⟨rfl, rfl⟩ (dk d_mTh_bestWay 2 rfl) lk_Th_106 vm_mTh_price rfl rfl (Nat.le_of_ble_eq_true rfl) h (fun u1 hq => kTh_price E (d + 1) hq) (fun u1 h => ?_)
  refine g_aload_n (pc := 5) (j := 0) (dk d_mTh_bestWay 3 rfl) rfl (by decide) ?_
  refine g_iconst (pc := 6) (dk d_mTh_bestWay 4 rfl) (by decide) ?_
  refine h_callVl (d := d + 3) (pc := 7) (na := 1) (av := [pI 1]) (k0 := 12) po_12 ⟨_, rfl⟩ ⟨rfl, rfl⟩ (dk d_mTh_bestWay 5 rfl) lk_Th_110 vm_mTh_reckon rfl rfl (Nat.le_of_ble_eq_true rfl) h (fun r3 u2 hq => kTh_reckon E (d + 0) hq) (fun r3 u2 h => ?_)
  refine g_lstore_n (pc := 10) (l' := [(1, pL r3), (0, pR 12)]) (dk d_mTh_bestWay 6 rfl) (Nat.le_of_ble_eq_true rfl) rfl ?_
  refine g_iconst (pc := 11) (dk d_mTh_bestWay 7 rfl) (by decide) ?_
  refine g_istore_n (pc := 12) (l' := [(3, pI 0), (1, pL r3), (0, pR 12)]) (dk d_mTh_bestWay 8 rfl) (Nat.le_of_ble_eq_true rfl) rfl ?_
  refine g_iconst (pc := 13) (dk d_mTh_bestWay 9 rfl) (by decide) ?_
  refine g_istore (pc := 14) (l' := [(4, pI 0), (3, pI 0), (1, pL r3), (0, pR 12)]) (dk d_mTh_bestWay 10 rfl) (Nat.le_of_ble_eq_true rfl) rfl ?_
  refine g_pick [3, 2, 1, 0] rfl (l' := [(0, pR 12), (1, pL r3), (3, pI 0), (4, pI 0)]) rfl ?_
  refine fTh_bestWay_l16_ok E d r3 FU _ _  _ h
set_option maxRecDepth 100000 in
set_option maxHeartbeats 4000000 in
theorem kTh_bestWay (E : Nat × (Int → Int)) (d : Nat) {w w1 : WD} {r : Int} (h : fTh_bestWay w = some (r, w1)) : CTl E mTh_bestWay (d + 4) [pR 12] w RF NN r w1 RF NN := by
  exact CTl_of (by decide +kernel) (Nat.le_of_ble_eq_true rfl) rfl (gTh_bestWay (res := (r, w1)) E d w h)
def fTh_inWay (a1 : Int) (w : WD) : Option (Int × WD) := if a1 < 0 then (some ((-2), w)) else (if 5 ≤ a1 then (some ((-2), w)) else (ck (0 ≤ a1 ∧ a1 < 5) <| some ((w 18 a1), w)))
set_option maxRecDepth 100000 in
set_option maxHeartbeats 4000000 in
theorem gTh_inWay (E : Nat × (Int → Int)) (d : Nat) {res : Int × WD} (a1 : Int) (w : WD) (h : fTh_inWay a1 w = some res) : G E mTh_inWay (d + 1) 0 [(0, pR 12), (1, pI a1)] [] w RF NN 0 0 (some (pI res.1), res.2, RF, NN) := by
  unfold fTh_inWay at h
  refine g_iload_n (pc := 0) (j := 1) (dk d_mTh_inWay 0 rfl) rfl ?_
  refine h_if_lt (pc := 1) (tgt := 18) (dk d_mTh_inWay 1 rfl) rfl h (fun hc2 h => ?_) (fun hc2 h => ?_)
  · refine g_bipush (pc := 18) (dk d_mTh_inWay 10 rfl) (by decide) ?_
    exact h_iret (pc := 20) rfl (dk d_mTh_inWay 11 rfl) h
  · refine g_iload_n (pc := 4) (j := 1) (dk d_mTh_inWay 2 rfl) rfl ?_
    refine g_iconst (pc := 5) (dk d_mTh_inWay 3 rfl) (by decide) ?_
    refine h_icmp_ge (pc := 6) (tgt := 18) (dk d_mTh_inWay 4 rfl) rfl h (fun hc1 h => ?_) (fun hc1 h => ?_)
    · refine g_bipush (pc := 18) (dk d_mTh_inWay 10 rfl) (by decide) ?_
      exact h_iret (pc := 20) rfl (dk d_mTh_inWay 11 rfl) h
    · refine g_aload_n (pc := 9) (j := 0) (dk d_mTh_inWay 5 rfl) rfl (by decide) ?_
      refine g_getR (pc := 10) (a := 18) rfl fp_Th_28 po_12 (dk d_mTh_inWay 6 rfl) ?_
      refine g_iload_n (pc := 13) (j := 1) (dk d_mTh_inWay 7 rfl) rfl ?_
      refine h_iald (pc := 14) (B := 5) pa_18 rfl (dk d_mTh_inWay 8 rfl) h (fun h => ?_)
      refine g_goto (pc := 15) (tgt := 20) (dk d_mTh_inWay 9 rfl) rfl ?_
      exact h_iret (pc := 20) rfl (dk d_mTh_inWay 11 rfl) h
set_option maxRecDepth 100000 in
set_option maxHeartbeats 4000000 in
theorem kTh_inWay (E : Nat × (Int → Int)) (d : Nat) {a1 : Int} {w w1 : WD} {r : Int} (h : fTh_inWay a1 w = some (r, w1)) : CTi E mTh_inWay (d + 1) [pR 12, pI a1] w RF NN r w1 RF NN := by
  exact CTi_of (by decide +kernel) (Nat.le_of_ble_eq_true rfl) (Or.inl rfl) (gTh_inWay (res := (r, w1)) E d a1 w h)
def fB_best (a1 : Int) (w : WD) : Option (Int × WD) := jn (β := WD → Option (Int × WD)) (fun (u1 : WD) => cv (fTh_load u1) <| fun (u2 : WD) => ci (fTh_bestWay u2) <| fun (r4 : Int) (u3 : WD) => if 0 < r4 then (if a1 ≠ (-1) then (ci (fTh_inWay a1 u3) <| fun (r6 : Int) (u5 : WD) => some (r6, u5)) else (some (r4, u3))) else (some ((-2), u3))) <| fun J10 => if a1 = (-1) then (J10 w) else (ci (fHa_isMask a1 w) <| fun (r12 : Int) (u11 : WD) => if r12 ≠ 0 then (J10 u11) else (some ((-9223372036854775808), u11)))
set_option maxRecDepth 100000 in
set_option maxHeartbeats 4000000 in
theorem gB_best (E : Nat × (Int → Int)) (d : Nat) {res : Int × WD} (a1 : Int) (w : WD) (h : fB_best a1 w = some res) : G E mB_best (d + 7) 0 [(0, pR 0), (1, pI a1)] [] w RF NN 0 0 (some (pL res.1), res.2, RF, NN) := by
  unfold fB_best at h
  refine g_iload_n (pc := 0) (j := 1) (dk d_mB_best 0 rfl) rfl ?_
  refine g_iconst (pc := 1) (dk d_mB_best 1 rfl) (by decide) ?_
  refine jn_e (fun J => ∀ (u1 : WD), J u1 = some res → G E mB_best (d + 7) 20 [(0, pR 0), (1, pI a1)] [] u1 RF NN 0 0 (some (pL res.1), res.2, RF, NN)) h (fun u1 h => ?_) (fun J10 hJ10 h => ?_)
  · refine g_aload_n (pc := 20) (j := 0) (dk d_mB_best 10 rfl) rfl (by decide) ?_
    refine g_getR (pc := 21) (a := 12) rfl fp_B_28 po_0 (dk d_mB_best 11 rfl) ?_
    refine h_callVv (d := d + 6) (pc := 24) (na := 0) (av := []) (k0 := 12) po_12 ⟨_, rfl⟩ ⟨rfl, rfl⟩ (dk d_mB_best 12 rfl) lk_B_127 vm_mTh_load rfl rfl (Nat.le_of_ble_eq_true rfl) h (fun u2 hq => kTh_load E (d + 0) hq) (fun u2 h => ?_)
    refine g_aload_n (pc := 27) (j := 0) (dk d_mB_best 13 rfl) rfl (by decide) ?_
    refine g_getR (pc := 28) (a := 12) rfl fp_B_28 po_0 (dk d_mB_best 14 rfl) ?_
    refine h_callVl (d := d + 6) (pc := 31) (na := 0) (av := []) (k0 := 12) po_12 ⟨_, rfl⟩ ⟨rfl, rfl⟩ (dk d_mB_best 15 rfl) lk_B_145 vm_mTh_bestWay rfl rfl (Nat.le_of_ble_eq_true rfl) h (fun r4 u3 hq => kTh_bestWay E (d + 2) hq) (fun r4 u3 h => ?_)
    refine g_lstore_n (pc := 34) (l' := [(2, pL r4), (0, pR 0), (1, pI a1)]) (dk d_mB_best 16 rfl) (Nat.le_of_ble_eq_true rfl) rfl ?_
    refine g_lload_n (pc := 35) (j := 0) (dk d_mB_best 17 rfl) rfl ?_
    refine g_lconst0 (pc := 36) (dk d_mB_best 18 rfl) ?_
    refine h_lcmp_gt (pc := 37) (tgt := 45) (dk d_mB_best 19 rfl) (dk d_mB_best 20 rfl) rfl h (fun hc9 h => ?_) (fun hc9 h => ?_)
    · refine g_iload_n (pc := 45) (j := 2) (dk d_mB_best 23 rfl) rfl ?_
      refine g_iconst (pc := 46) (dk d_mB_best 24 rfl) (by decide) ?_
      refine h_icmp_ne (pc := 47) (tgt := 54) (dk d_mB_best 25 rfl) rfl h (fun hc8 h => ?_) (fun hc8 h => ?_)
      · refine g_aload_n (pc := 54) (j := 1) (dk d_mB_best 28 rfl) rfl (by decide) ?_
        refine g_getR (pc := 55) (a := 12) rfl fp_B_28 po_0 (dk d_mB_best 29 rfl) ?_
        refine g_iload_n (pc := 58) (j := 2) (dk d_mB_best 30 rfl) rfl ?_
        refine h_callVi (d := d + 6) (pc := 59) (na := 1) (av := [pI a1]) (k0 := 12) po_12 ⟨_, rfl⟩ ⟨rfl, rfl⟩ (dk d_mB_best 31 rfl) lk_B_150 vm_mTh_inWay rfl rfl (Nat.le_of_ble_eq_true rfl) h (fun r6 u5 hq => kTh_inWay E (d + 5) hq) (fun r6 u5 hb7 h => ?_)
        refine g_i2l (pc := 62) (dk d_mB_best 32 rfl) ?_
        exact h_lret (pc := 63) (dk d_mB_best 33 rfl) h
      · refine g_lload_n (pc := 50) (j := 0) (dk d_mB_best 26 rfl) rfl ?_
        refine g_goto (pc := 51) (tgt := 63) (dk d_mB_best 27 rfl) rfl ?_
        exact h_lret (pc := 63) (dk d_mB_best 33 rfl) h
    · refine g_ldc2 (pc := 41) (u := (-2)) ck_B_148 (by decide) (dk d_mB_best 21 rfl) ?_
      exact h_lret (pc := 44) (dk d_mB_best 22 rfl) h
  · refine h_icmp_eq (pc := 2) (tgt := 20) (dk d_mB_best 2 rfl) rfl h (fun hc15 h => ?_) (fun hc15 h => ?_)
    · exact hJ10 _ h
    · refine g_aload_n (pc := 5) (j := 0) (dk d_mB_best 3 rfl) rfl (by decide) ?_
      refine g_getR (pc := 6) (a := 1) rfl fp_B_10 po_0 (dk d_mB_best 4 rfl) ?_
      refine g_iload_n (pc := 9) (j := 1) (dk d_mB_best 5 rfl) rfl ?_
      refine h_callVi (d := d + 6) (pc := 10) (na := 1) (av := [pI a1]) (k0 := 1) po_1 ⟨_, rfl⟩ ⟨rfl, rfl⟩ (dk d_mB_best 6 rfl) lk_B_90 vm_mHa_isMask rfl rfl (Nat.le_of_ble_eq_true rfl) h (fun r12 u11 hq => kHa_isMask E (d + 5) hq) (fun r12 u11 hb13 h => ?_)
      refine h_if_ne (pc := 13) (tgt := 20) (dk d_mB_best 7 rfl) rfl h (fun hc14 h => ?_) (fun hc14 h => ?_)
      · exact hJ10 _ h
      · refine g_ldc2 (pc := 16) (u := (-9223372036854775808)) ck_B_125 (by decide) (dk d_mB_best 8 rfl) ?_
        exact h_lret (pc := 19) (dk d_mB_best 9 rfl) h
set_option maxRecDepth 100000 in
set_option maxHeartbeats 4000000 in
theorem kB_best (E : Nat × (Int → Int)) (d : Nat) {a1 : Int} {w w1 : WD} {r : Int} (h : fB_best a1 w = some (r, w1)) : CTl E mB_best (d + 7) [pR 0, pI a1] w RF NN r w1 RF NN := by
  exact CTl_of (by decide +kernel) (Nat.le_of_ble_eq_true rfl) rfl (gB_best (res := (r, w1)) E d a1 w h)
def fTh_numberIf (a1 : Int) (a2 : Int) (w : WD) : Option (Int × WD) := ci (fTh_narrowed a1 a2 0 w) <| fun (r2 : Int) (u1 : WD) => some (r2, u1)
set_option maxRecDepth 100000 in
set_option maxHeartbeats 4000000 in
theorem gTh_numberIf (E : Nat × (Int → Int)) (d : Nat) {res : Int × WD} (a1 : Int) (a2 : Int) (w : WD) (h : fTh_numberIf a1 a2 w = some res) : G E mTh_numberIf (d + 5) 0 [(0, pR 12), (1, pI a1), (2, pI a2)] [] w RF NN 0 0 (some (pL res.1), res.2, RF, NN) := by
  unfold fTh_numberIf at h
  refine g_aload_n (pc := 0) (j := 0) (dk d_mTh_numberIf 0 rfl) rfl (by decide) ?_
  refine g_iload_n (pc := 1) (j := 1) (dk d_mTh_numberIf 1 rfl) rfl ?_
  refine g_iload_n (pc := 2) (j := 2) (dk d_mTh_numberIf 2 rfl) rfl ?_
  refine g_iconst (pc := 3) (dk d_mTh_numberIf 3 rfl) (by decide) ?_
  refine h_callVl (d := d + 4) (pc := 4) (na := 3) (av := [pI a1, pI a2, pI 0]) (k0 := 12) po_12 ⟨_, rfl⟩ ⟨rfl, rfl⟩ (dk d_mTh_numberIf 4 rfl) lk_Th_114 vm_mTh_narrowed rfl rfl (Nat.le_of_ble_eq_true rfl) h (fun r2 u1 hq => kTh_narrowed E (d + 0) hq) (fun r2 u1 h => ?_)
  exact h_lret (pc := 7) (dk d_mTh_numberIf 5 rfl) h
set_option maxRecDepth 100000 in
set_option maxHeartbeats 4000000 in
theorem kTh_numberIf (E : Nat × (Int → Int)) (d : Nat) {a1 : Int} {a2 : Int} {w w1 : WD} {r : Int} (h : fTh_numberIf a1 a2 w = some (r, w1)) : CTl E mTh_numberIf (d + 5) [pR 12, pI a1, pI a2] w RF NN r w1 RF NN := by
  exact CTl_of (by decide +kernel) (Nat.le_of_ble_eq_true rfl) rfl (gTh_numberIf (res := (r, w1)) E d a1 a2 w h)
def fTh_isOut_l2_b (rec : Int → WD → Option (Int × WD)) (y1 : Int) (x2 : Int) (w : WD) : Option (Int × WD) := ci (fHa_masks w) <| fun (r2 : Int) (u1 : WD) => if r2 ≤ x2 then (some (1, u1)) else (ci (fTh_numberIf x2 (bShl 1 y1) u1) <| fun (r5 : Int) (u4 : WD) => if r5 ≤ 0 then (bv (w32 (x2 + 1)) <| fun (v2_6 : Int) => rec v2_6 u4) else (some (0, u4)))
def fTh_isOut_l2 (y1 : Int) : Nat → Int → WD → Option (Int × WD)
  | 0 => fun _ _ => none
  | k + 1 => fTh_isOut_l2_b ( fTh_isOut_l2 y1 k) y1
set_option maxRecDepth 100000 in
set_option maxHeartbeats 4000000 in
theorem fTh_isOut_l2_b_ok (E : Nat × (Int → Int)) (d : Nat) {res : Int × WD} {rec : Int → WD → Option (Int × WD)} (y1 : Int) (hrec : ∀ (x2 : Int) (w : WD), rec x2 w = some res → G E mTh_isOut (d + 6) 2 [(0, pR 12), (1, pI y1), (2, pI x2)] [] w RF NN 0 0 (some (pI res.1), res.2, RF, NN)) (x2 : Int) (w : WD) (h : fTh_isOut_l2_b rec y1 x2 w = some res) : G E mTh_isOut (d + 6) 2 [(0, pR 12), (1, pI y1), (2, pI x2)] [] w RF NN 0 0 (some (pI res.1), res.2, RF, NN) := by
  unfold fTh_isOut_l2_b at h
  refine g_iload_n (pc := 2) (j := 2) (dk d_mTh_isOut 2 rfl) rfl ?_
  refine g_aload_n (pc := 3) (j := 0) (dk d_mTh_isOut 3 rfl) rfl (by decide) ?_
  refine g_getR (pc := 4) (a := 1) rfl fp_Th_31 po_12 (dk d_mTh_isOut 4 rfl) ?_
  refine h_callVi (d := d + 5) (pc := 7) (na := 0) (av := []) (k0 := 1) po_1 ⟨_, rfl⟩ ⟨rfl, rfl⟩ (dk d_mTh_isOut 5 rfl) lk_Th_86 vm_mHa_masks rfl rfl (Nat.le_of_ble_eq_true rfl) h (fun r2 u1 hq => kHa_masks E (d + 4) hq) (fun r2 u1 hb3 h => ?_)
  refine h_icmp_ge (pc := 10) (tgt := 34) (dk d_mTh_isOut 6 rfl) rfl h (fun hc8 h => ?_) (fun hc8 h => ?_)
  · refine g_iconst (pc := 34) (dk d_mTh_isOut 20 rfl) (by decide) ?_
    exact h_zret (pc := 35) (Or.inr rfl) (dk d_mTh_isOut 21 rfl) h
  · refine g_aload_n (pc := 13) (j := 0) (dk d_mTh_isOut 7 rfl) rfl (by decide) ?_
    refine g_iload_n (pc := 14) (j := 2) (dk d_mTh_isOut 8 rfl) rfl ?_
    refine g_iconst (pc := 15) (dk d_mTh_isOut 9 rfl) (by decide) ?_
    refine g_iload_n (pc := 16) (j := 1) (dk d_mTh_isOut 10 rfl) rfl ?_
    refine g_ishl (pc := 17) (dk d_mTh_isOut 11 rfl) ?_
    refine h_callVl (d := d + 5) (pc := 18) (na := 2) (av := [pI x2, pI (bShl 1 y1)]) (k0 := 12) po_12 ⟨_, rfl⟩ ⟨rfl, rfl⟩ (dk d_mTh_isOut 12 rfl) lk_Th_132 vm_mTh_numberIf rfl rfl (Nat.le_of_ble_eq_true rfl) h (fun r5 u4 hq => kTh_numberIf E (d + 0) hq) (fun r5 u4 h => ?_)
    refine g_lconst0 (pc := 21) (dk d_mTh_isOut 13 rfl) ?_
    refine h_lcmp_le (pc := 22) (tgt := 28) (dk d_mTh_isOut 14 rfl) (dk d_mTh_isOut 15 rfl) rfl h (fun hc7 h => ?_) (fun hc7 h => ?_)
    · refine h_iinc (pc := 28) (j := 2) (dk d_mTh_isOut 18 rfl) rfl (by decide) (Nat.le_of_ble_eq_true rfl) h (fun v2_6 h => ?_)
      refine g_loc (l' := [(2, pI v2_6), (0, pR 12), (1, pI y1)]) rfl ?_
      refine g_goto (pc := 31) (tgt := 2) (dk d_mTh_isOut 19 rfl) rfl ?_
      refine g_pick [1, 2, 0] rfl (l' := [(0, pR 12), (1, pI y1), (2, pI v2_6)]) rfl ?_
      exact hrec _ _ h
    · refine g_iconst (pc := 26) (dk d_mTh_isOut 16 rfl) (by decide) ?_
      exact h_zret (pc := 27) (Or.inl rfl) (dk d_mTh_isOut 17 rfl) h
set_option maxRecDepth 100000 in
set_option maxHeartbeats 4000000 in
theorem fTh_isOut_l2_ok (E : Nat × (Int → Int)) (d : Nat) {res : Int × WD} (y1 : Int) : ∀ (k : Nat) (x2 : Int) (w : WD), fTh_isOut_l2 y1 k x2 w = some res → G E mTh_isOut (d + 6) 2 [(0, pR 12), (1, pI y1), (2, pI x2)] [] w RF NN 0 0 (some (pI res.1), res.2, RF, NN) := by
  intro k
  induction k with
  | zero =>
    intro x2 w h
    exact no_e h
  | succ k ih =>
    intro x2 w h
    exact fTh_isOut_l2_b_ok E d y1 ih x2 w h
def fTh_isOut (a1 : Int) (w : WD) : Option (Int × WD) := fTh_isOut_l2 a1 FU 0 w
set_option maxRecDepth 100000 in
set_option maxHeartbeats 4000000 in
theorem gTh_isOut (E : Nat × (Int → Int)) (d : Nat) {res : Int × WD} (a1 : Int) (w : WD) (h : fTh_isOut a1 w = some res) : G E mTh_isOut (d + 6) 0 [(0, pR 12), (1, pI a1)] [] w RF NN 0 0 (some (pI res.1), res.2, RF, NN) := by
  unfold fTh_isOut at h
  refine g_iconst (pc := 0) (dk d_mTh_isOut 0 rfl) (by decide) ?_
  refine g_istore_n (pc := 1) (l' := [(2, pI 0), (0, pR 12), (1, pI a1)]) (dk d_mTh_isOut 1 rfl) (Nat.le_of_ble_eq_true rfl) rfl ?_
  refine g_pick [1, 2, 0] rfl (l' := [(0, pR 12), (1, pI a1), (2, pI 0)]) rfl ?_
  refine fTh_isOut_l2_ok E d a1 FU _  _ h
set_option maxRecDepth 100000 in
set_option maxHeartbeats 4000000 in
theorem kTh_isOut (E : Nat × (Int → Int)) (d : Nat) {a1 : Int} {w w1 : WD} {r : Int} (h : fTh_isOut a1 w = some (r, w1)) : CTi E mTh_isOut (d + 6) [pR 12, pI a1] w RF NN r w1 RF NN := by
  exact CTi_of (by decide +kernel) (Nat.le_of_ble_eq_true rfl) (Or.inr rfl) (gTh_isOut (res := (r, w1)) E d a1 w h)
def fTh_outOnes_l4_b (rec : Int → Int → WD → Option (Int × WD)) (x1 : Int) (x2 : Int) (w : WD) : Option (Int × WD) := if 7 ≤ x2 then (some (x1, w)) else (ci (fHa_isOne x2 w) <| fun (r2 : Int) (u1 : WD) => jn (β := Int → WD → Option (Int × WD)) (fun (v1_4 : Int) (u5 : WD) => bv (w32 (x2 + 1)) <| fun (v2_6 : Int) => rec v1_4 v2_6 u5) <| fun J7 => if r2 = 0 then (J7 x1 u1) else (ci (fTh_isOut x2 u1) <| fun (r9 : Int) (u8 : WD) => if r9 = 0 then (J7 x1 u8) else (bv (bOr x1 (bShl 1 x2)) <| fun (v1_11 : Int) => J7 v1_11 u8)))
def fTh_outOnes_l4 : Nat → Int → Int → WD → Option (Int × WD)
  | 0 => fun _ _ _ => none
  | k + 1 => fTh_outOnes_l4_b ( fTh_outOnes_l4 k)
set_option maxRecDepth 100000 in
set_option maxHeartbeats 4000000 in
theorem fTh_outOnes_l4_b_ok (E : Nat × (Int → Int)) (d : Nat) {res : Int × WD} {rec : Int → Int → WD → Option (Int × WD)} (hrec : ∀ (x1 : Int) (x2 : Int) (w : WD), rec x1 x2 w = some res → G E mTh_outOnes (d + 7) 4 [(0, pR 12), (1, pI x1), (2, pI x2)] [] w RF NN 0 0 (some (pI res.1), res.2, RF, NN)) (x1 : Int) (x2 : Int) (w : WD) (h : fTh_outOnes_l4_b rec x1 x2 w = some res) : G E mTh_outOnes (d + 7) 4 [(0, pR 12), (1, pI x1), (2, pI x2)] [] w RF NN 0 0 (some (pI res.1), res.2, RF, NN) := by
  unfold fTh_outOnes_l4_b at h
  refine g_iload_n (pc := 4) (j := 2) (dk d_mTh_outOnes 4 rfl) rfl ?_
  refine g_bipush (pc := 5) (dk d_mTh_outOnes 5 rfl) (by decide) ?_
  refine h_icmp_ge (pc := 7) (tgt := 41) (dk d_mTh_outOnes 6 rfl) rfl h (fun hc14 h => ?_) (fun hc14 h => ?_)
  · refine g_iload_n (pc := 41) (j := 1) (dk d_mTh_outOnes 24 rfl) rfl ?_
    exact h_iret (pc := 42) rfl (dk d_mTh_outOnes 25 rfl) h
  · refine g_aload_n (pc := 10) (j := 0) (dk d_mTh_outOnes 7 rfl) rfl (by decide) ?_
    refine g_getR (pc := 11) (a := 1) rfl fp_Th_31 po_12 (dk d_mTh_outOnes 8 rfl) ?_
    refine g_iload_n (pc := 14) (j := 2) (dk d_mTh_outOnes 9 rfl) rfl ?_
    refine h_callVi (d := d + 6) (pc := 15) (na := 1) (av := [pI x2]) (k0 := 1) po_1 ⟨_, rfl⟩ ⟨rfl, rfl⟩ (dk d_mTh_outOnes 10 rfl) lk_Th_55 vm_mHa_isOne rfl rfl (Nat.le_of_ble_eq_true rfl) h (fun r2 u1 hq => kHa_isOne E (d + 5) hq) (fun r2 u1 hb3 h => ?_)
    refine jn_e (fun J => ∀ (v1_4 : Int) (u5 : WD), J v1_4 u5 = some res → G E mTh_outOnes (d + 7) 35 [(0, pR 12), (1, pI v1_4), (2, pI x2)] [] u5 RF NN 0 0 (some (pI res.1), res.2, RF, NN)) h (fun v1_4 u5 h => ?_) (fun J7 hJ7 h => ?_)
    · refine h_iinc (pc := 35) (j := 2) (dk d_mTh_outOnes 22 rfl) rfl (by decide) (Nat.le_of_ble_eq_true rfl) h (fun v2_6 h => ?_)
      refine g_loc (l' := [(2, pI v2_6), (0, pR 12), (1, pI v1_4)]) rfl ?_
      refine g_goto (pc := 38) (tgt := 4) (dk d_mTh_outOnes 23 rfl) rfl ?_
      refine g_pick [1, 2, 0] rfl (l' := [(0, pR 12), (1, pI v1_4), (2, pI v2_6)]) rfl ?_
      exact hrec _ _ _ h
    · refine h_if_eq (pc := 18) (tgt := 35) (dk d_mTh_outOnes 11 rfl) rfl h (fun hc13 h => ?_) (fun hc13 h => ?_)
      · exact hJ7 _ _ h
      · refine g_aload_n (pc := 21) (j := 0) (dk d_mTh_outOnes 12 rfl) rfl (by decide) ?_
        refine g_iload_n (pc := 22) (j := 2) (dk d_mTh_outOnes 13 rfl) rfl ?_
        refine h_callVi (d := d + 6) (pc := 23) (na := 1) (av := [pI x2]) (k0 := 12) po_12 ⟨_, rfl⟩ ⟨rfl, rfl⟩ (dk d_mTh_outOnes 14 rfl) lk_Th_135 vm_mTh_isOut rfl rfl (Nat.le_of_ble_eq_true rfl) h (fun r9 u8 hq => kTh_isOut E (d + 0) hq) (fun r9 u8 hb10 h => ?_)
        refine h_if_eq (pc := 26) (tgt := 35) (dk d_mTh_outOnes 15 rfl) rfl h (fun hc12 h => ?_) (fun hc12 h => ?_)
        · exact hJ7 _ _ h
        · refine g_iload_n (pc := 29) (j := 1) (dk d_mTh_outOnes 16 rfl) rfl ?_
          refine g_iconst (pc := 30) (dk d_mTh_outOnes 17 rfl) (by decide) ?_
          refine g_iload_n (pc := 31) (j := 2) (dk d_mTh_outOnes 18 rfl) rfl ?_
          refine g_ishl (pc := 32) (dk d_mTh_outOnes 19 rfl) ?_
          refine g_ior (pc := 33) (dk d_mTh_outOnes 20 rfl) ?_
          refine h_bvI h (fun v1_11 h => ?_)
          refine g_istore_n (pc := 34) (l' := [(1, pI v1_11), (0, pR 12), (2, pI x2)]) (dk d_mTh_outOnes 21 rfl) (Nat.le_of_ble_eq_true rfl) rfl ?_
          refine g_pick [1, 0, 2] rfl (l' := [(0, pR 12), (1, pI v1_11), (2, pI x2)]) rfl ?_
          exact hJ7 _ _ h
set_option maxRecDepth 100000 in
set_option maxHeartbeats 4000000 in
theorem fTh_outOnes_l4_ok (E : Nat × (Int → Int)) (d : Nat) {res : Int × WD} : ∀ (k : Nat) (x1 : Int) (x2 : Int) (w : WD), fTh_outOnes_l4 k x1 x2 w = some res → G E mTh_outOnes (d + 7) 4 [(0, pR 12), (1, pI x1), (2, pI x2)] [] w RF NN 0 0 (some (pI res.1), res.2, RF, NN) := by
  intro k
  induction k with
  | zero =>
    intro x1 x2 w h
    exact no_e h
  | succ k ih =>
    intro x1 x2 w h
    exact fTh_outOnes_l4_b_ok E d ih x1 x2 w h
def fTh_outOnes (w : WD) : Option (Int × WD) := fTh_outOnes_l4 FU 0 0 w
set_option maxRecDepth 100000 in
set_option maxHeartbeats 4000000 in
theorem gTh_outOnes (E : Nat × (Int → Int)) (d : Nat) {res : Int × WD} (w : WD) (h : fTh_outOnes w = some res) : G E mTh_outOnes (d + 7) 0 [(0, pR 12)] [] w RF NN 0 0 (some (pI res.1), res.2, RF, NN) := by
  unfold fTh_outOnes at h
  refine g_iconst (pc := 0) (dk d_mTh_outOnes 0 rfl) (by decide) ?_
  refine g_istore_n (pc := 1) (l' := [(1, pI 0), (0, pR 12)]) (dk d_mTh_outOnes 1 rfl) (Nat.le_of_ble_eq_true rfl) rfl ?_
  refine g_iconst (pc := 2) (dk d_mTh_outOnes 2 rfl) (by decide) ?_
  refine g_istore_n (pc := 3) (l' := [(2, pI 0), (1, pI 0), (0, pR 12)]) (dk d_mTh_outOnes 3 rfl) (Nat.le_of_ble_eq_true rfl) rfl ?_
  refine g_pick [2, 1, 0] rfl (l' := [(0, pR 12), (1, pI 0), (2, pI 0)]) rfl ?_
  refine fTh_outOnes_l4_ok E d FU _ _  _ h
set_option maxRecDepth 100000 in
set_option maxHeartbeats 4000000 in
theorem kTh_outOnes (E : Nat × (Int → Int)) (d : Nat) {w w1 : WD} {r : Int} (h : fTh_outOnes w = some (r, w1)) : CTi E mTh_outOnes (d + 7) [pR 12] w RF NN r w1 RF NN := by
  exact CTi_of (by decide +kernel) (Nat.le_of_ble_eq_true rfl) (Or.inl rfl) (gTh_outOnes (res := (r, w1)) E d w h)
def fTh_sureMasks_l31_b (rec : Int → Int → WD → Option (Int × WD)) (y2 : Int) (y4 : Int) (K0 : Int → WD → Option (Int × WD)) (x1 : Int) (x5 : Int) (w : WD) : Option (Int × WD) := if 7 ≤ x5 then (K0 x1 w) else (ci (fTh_numberIf y4 (bShl 1 x5) w) <| fun (r7 : Int) (u6 : WD) => jn (β := Int → WD → Option (Int × WD)) (fun (v1_8 : Int) (u9 : WD) => bv (w32 (x5 + 1)) <| fun (v5_10 : Int) => rec v1_8 v5_10 u9) <| fun J11 => if r7 ≠ y2 then (J11 x1 u6) else (bv (bOr x1 (bShl 1 y4)) <| fun (v1_12 : Int) => J11 v1_12 u6))
def fTh_sureMasks_l31 (y2 : Int) (y4 : Int) (K0 : Int → WD → Option (Int × WD)) : Nat → Int → Int → WD → Option (Int × WD)
  | 0 => fun _ _ _ => none
  | k + 1 => fTh_sureMasks_l31_b ( fTh_sureMasks_l31 y2 y4 K0 k) y2 y4 K0
set_option maxRecDepth 100000 in
set_option maxHeartbeats 4000000 in
theorem fTh_sureMasks_l31_b_ok (E : Nat × (Int → Int)) (d : Nat) {res : Int × WD} {rec : Int → Int → WD → Option (Int × WD)} (y2 : Int) (y4 : Int) (K0 : Int → WD → Option (Int × WD)) (hrec : ∀ (x1 : Int) (x5 : Int) (w : WD), rec x1 x5 w = some res → G E mTh_sureMasks (d + 6) 31 [(0, pR 12), (1, pI x1), (2, pL y2), (4, pI y4), (5, pI x5)] [] w RF NN 0 0 (some (pI res.1), res.2, RF, NN)) (hK0 : ∀ (x1 : Int) (w : WD), K0 x1 w = some res → G E mTh_sureMasks (d + 6) 66 [(0, pR 12), (1, pI x1), (2, pL y2), (4, pI y4)] [] w RF NN 0 0 (some (pI res.1), res.2, RF, NN)) (x1 : Int) (x5 : Int) (w : WD) (h : fTh_sureMasks_l31_b rec y2 y4 K0 x1 x5 w = some res) : G E mTh_sureMasks (d + 6) 31 [(0, pR 12), (1, pI x1), (2, pL y2), (4, pI y4), (5, pI x5)] [] w RF NN 0 0 (some (pI res.1), res.2, RF, NN) := by
  unfold fTh_sureMasks_l31_b at h
  refine g_iload (pc := 31) (j := 4) (dk d_mTh_sureMasks 18 rfl) rfl ?_
  refine g_bipush (pc := 33) (dk d_mTh_sureMasks 19 rfl) (by decide) ?_
  refine h_icmp_ge (pc := 35) (tgt := 66) (dk d_mTh_sureMasks 20 rfl) rfl h (fun hc14 h => ?_) (fun hc14 h => ?_)
  · refine g_pick [0, 1, 2, 3] rfl (l' := [(0, pR 12), (1, pI x1), (2, pL y2), (4, pI y4)]) rfl ?_
    exact hK0 _ _ h
  · refine g_aload_n (pc := 38) (j := 0) (dk d_mTh_sureMasks 21 rfl) rfl (by decide) ?_
    refine g_iload (pc := 39) (j := 3) (dk d_mTh_sureMasks 22 rfl) rfl ?_
    refine g_iconst (pc := 41) (dk d_mTh_sureMasks 23 rfl) (by decide) ?_
    refine g_iload (pc := 42) (j := 4) (dk d_mTh_sureMasks 24 rfl) rfl ?_
    refine g_ishl (pc := 44) (dk d_mTh_sureMasks 25 rfl) ?_
    refine h_callVl (d := d + 5) (pc := 45) (na := 2) (av := [pI y4, pI (bShl 1 x5)]) (k0 := 12) po_12 ⟨_, rfl⟩ ⟨rfl, rfl⟩ (dk d_mTh_sureMasks 26 rfl) lk_Th_132 vm_mTh_numberIf rfl rfl (Nat.le_of_ble_eq_true rfl) h (fun r7 u6 hq => kTh_numberIf E (d + 0) hq) (fun r7 u6 h => ?_)
    refine g_lload_n (pc := 48) (j := 2) (dk d_mTh_sureMasks 27 rfl) rfl ?_
    refine jn_e (fun J => ∀ (v1_8 : Int) (u9 : WD), J v1_8 u9 = some res → G E mTh_sureMasks (d + 6) 60 [(0, pR 12), (1, pI v1_8), (2, pL y2), (4, pI y4), (5, pI x5)] [] u9 RF NN 0 0 (some (pI res.1), res.2, RF, NN)) h (fun v1_8 u9 h => ?_) (fun J11 hJ11 h => ?_)
    · refine h_iinc (pc := 60) (j := 4) (dk d_mTh_sureMasks 36 rfl) rfl (by decide) (Nat.le_of_ble_eq_true rfl) h (fun v5_10 h => ?_)
      refine g_loc (l' := [(5, pI v5_10), (0, pR 12), (1, pI v1_8), (2, pL y2), (4, pI y4)]) rfl ?_
      refine g_goto (pc := 63) (tgt := 31) (dk d_mTh_sureMasks 37 rfl) rfl ?_
      refine g_pick [1, 2, 3, 4, 0] rfl (l' := [(0, pR 12), (1, pI v1_8), (2, pL y2), (4, pI y4), (5, pI v5_10)]) rfl ?_
      exact hrec _ _ _ h
    · refine h_lcmp_ne (pc := 49) (tgt := 60) (dk d_mTh_sureMasks 28 rfl) (dk d_mTh_sureMasks 29 rfl) rfl h (fun hc13 h => ?_) (fun hc13 h => ?_)
      · exact hJ11 _ _ h
      · refine g_iload_n (pc := 53) (j := 1) (dk d_mTh_sureMasks 30 rfl) rfl ?_
        refine g_iconst (pc := 54) (dk d_mTh_sureMasks 31 rfl) (by decide) ?_
        refine g_iload (pc := 55) (j := 3) (dk d_mTh_sureMasks 32 rfl) rfl ?_
        refine g_ishl (pc := 57) (dk d_mTh_sureMasks 33 rfl) ?_
        refine g_ior (pc := 58) (dk d_mTh_sureMasks 34 rfl) ?_
        refine h_bvI h (fun v1_12 h => ?_)
        refine g_istore_n (pc := 59) (l' := [(1, pI v1_12), (0, pR 12), (2, pL y2), (4, pI y4), (5, pI x5)]) (dk d_mTh_sureMasks 35 rfl) (Nat.le_of_ble_eq_true rfl) rfl ?_
        refine g_pick [1, 0, 2, 3, 4] rfl (l' := [(0, pR 12), (1, pI v1_12), (2, pL y2), (4, pI y4), (5, pI x5)]) rfl ?_
        exact hJ11 _ _ h
set_option maxRecDepth 100000 in
set_option maxHeartbeats 4000000 in
theorem fTh_sureMasks_l31_ok (E : Nat × (Int → Int)) (d : Nat) {res : Int × WD} (y2 : Int) (y4 : Int) (K0 : Int → WD → Option (Int × WD)) (hK0 : ∀ (x1 : Int) (w : WD), K0 x1 w = some res → G E mTh_sureMasks (d + 6) 66 [(0, pR 12), (1, pI x1), (2, pL y2), (4, pI y4)] [] w RF NN 0 0 (some (pI res.1), res.2, RF, NN)) : ∀ (k : Nat) (x1 : Int) (x5 : Int) (w : WD), fTh_sureMasks_l31 y2 y4 K0 k x1 x5 w = some res → G E mTh_sureMasks (d + 6) 31 [(0, pR 12), (1, pI x1), (2, pL y2), (4, pI y4), (5, pI x5)] [] w RF NN 0 0 (some (pI res.1), res.2, RF, NN) := by
  intro k
  induction k with
  | zero =>
    intro x1 x5 w h
    exact no_e h
  | succ k ih =>
    intro x1 x5 w h
    exact fTh_sureMasks_l31_b_ok E d y2 y4 K0 ih hK0 x1 x5 w h
def fTh_sureMasks_l10_b (rec : Int → Int → WD → Option (Int × WD)) (y2 : Int) (x1 : Int) (x4 : Int) (w : WD) : Option (Int × WD) := ci (fHa_masks w) <| fun (r4 : Int) (u3 : WD) => if r4 ≤ x4 then (some (x1, u3)) else (if y2 ≤ 0 then (some (x1, u3)) else (fTh_sureMasks_l31 y2 x4 (fun (v1_15 : Int) (u16 : WD) => bv (w32 (x4 + 1)) <| fun (v4_17 : Int) => rec v1_15 v4_17 u16) FU x1 0 u3))
def fTh_sureMasks_l10 (y2 : Int) : Nat → Int → Int → WD → Option (Int × WD)
  | 0 => fun _ _ _ => none
  | k + 1 => fTh_sureMasks_l10_b ( fTh_sureMasks_l10 y2 k) y2
set_option maxRecDepth 100000 in
set_option maxHeartbeats 4000000 in
theorem fTh_sureMasks_l10_b_ok (E : Nat × (Int → Int)) (d : Nat) {res : Int × WD} {rec : Int → Int → WD → Option (Int × WD)} (y2 : Int) (hrec : ∀ (x1 : Int) (x4 : Int) (w : WD), rec x1 x4 w = some res → G E mTh_sureMasks (d + 6) 10 [(0, pR 12), (1, pI x1), (2, pL y2), (4, pI x4)] [] w RF NN 0 0 (some (pI res.1), res.2, RF, NN)) (x1 : Int) (x4 : Int) (w : WD) (h : fTh_sureMasks_l10_b rec y2 x1 x4 w = some res) : G E mTh_sureMasks (d + 6) 10 [(0, pR 12), (1, pI x1), (2, pL y2), (4, pI x4)] [] w RF NN 0 0 (some (pI res.1), res.2, RF, NN) := by
  unfold fTh_sureMasks_l10_b at h
  refine g_iload (pc := 10) (j := 3) (dk d_mTh_sureMasks 7 rfl) rfl ?_
  refine g_aload_n (pc := 12) (j := 0) (dk d_mTh_sureMasks 8 rfl) rfl (by decide) ?_
  refine g_getR (pc := 13) (a := 1) rfl fp_Th_31 po_12 (dk d_mTh_sureMasks 9 rfl) ?_
  refine h_callVi (d := d + 5) (pc := 16) (na := 0) (av := []) (k0 := 1) po_1 ⟨_, rfl⟩ ⟨rfl, rfl⟩ (dk d_mTh_sureMasks 10 rfl) lk_Th_86 vm_mHa_masks rfl rfl (Nat.le_of_ble_eq_true rfl) h (fun r4 u3 hq => kHa_masks E (d + 4) hq) (fun r4 u3 hb5 h => ?_)
  refine h_icmp_ge (pc := 19) (tgt := 72) (dk d_mTh_sureMasks 11 rfl) rfl h (fun hc19 h => ?_) (fun hc19 h => ?_)
  · refine g_iload_n (pc := 72) (j := 1) (dk d_mTh_sureMasks 40 rfl) rfl ?_
    exact h_iret (pc := 73) rfl (dk d_mTh_sureMasks 41 rfl) h
  · refine g_lload_n (pc := 22) (j := 2) (dk d_mTh_sureMasks 12 rfl) rfl ?_
    refine g_lconst0 (pc := 23) (dk d_mTh_sureMasks 13 rfl) ?_
    refine h_lcmp_le (pc := 24) (tgt := 72) (dk d_mTh_sureMasks 14 rfl) (dk d_mTh_sureMasks 15 rfl) rfl h (fun hc18 h => ?_) (fun hc18 h => ?_)
    · refine g_iload_n (pc := 72) (j := 1) (dk d_mTh_sureMasks 40 rfl) rfl ?_
      exact h_iret (pc := 73) rfl (dk d_mTh_sureMasks 41 rfl) h
    · refine g_iconst (pc := 28) (dk d_mTh_sureMasks 16 rfl) (by decide) ?_
      refine g_istore (pc := 29) (l' := [(5, pI 0), (0, pR 12), (1, pI x1), (2, pL y2), (4, pI x4)]) (dk d_mTh_sureMasks 17 rfl) (Nat.le_of_ble_eq_true rfl) rfl ?_
      refine g_pick [1, 2, 3, 4, 0] rfl (l' := [(0, pR 12), (1, pI x1), (2, pL y2), (4, pI x4), (5, pI 0)]) rfl ?_
      refine fTh_sureMasks_l31_ok E d y2 x4 _  (fun v1_15 u16 h => ?_) FU _ _  _ h
      · refine h_iinc (pc := 66) (j := 3) (dk d_mTh_sureMasks 38 rfl) rfl (by decide) (Nat.le_of_ble_eq_true rfl) h (fun v4_17 h => ?_)
        refine g_loc (l' := [(4, pI v4_17), (0, pR 12), (1, pI v1_15), (2, pL y2)]) rfl ?_
        refine g_goto (pc := 69) (tgt := 10) (dk d_mTh_sureMasks 39 rfl) rfl ?_
        refine g_pick [1, 2, 3, 0] rfl (l' := [(0, pR 12), (1, pI v1_15), (2, pL y2), (4, pI v4_17)]) rfl ?_
        exact hrec _ _ _ h
set_option maxRecDepth 100000 in
set_option maxHeartbeats 4000000 in
theorem fTh_sureMasks_l10_ok (E : Nat × (Int → Int)) (d : Nat) {res : Int × WD} (y2 : Int) : ∀ (k : Nat) (x1 : Int) (x4 : Int) (w : WD), fTh_sureMasks_l10 y2 k x1 x4 w = some res → G E mTh_sureMasks (d + 6) 10 [(0, pR 12), (1, pI x1), (2, pL y2), (4, pI x4)] [] w RF NN 0 0 (some (pI res.1), res.2, RF, NN) := by
  intro k
  induction k with
  | zero =>
    intro x1 x4 w h
    exact no_e h
  | succ k ih =>
    intro x1 x4 w h
    exact fTh_sureMasks_l10_b_ok E d y2 ih x1 x4 w h
def fTh_sureMasks (w : WD) : Option (Int × WD) := ci (fTh_number w) <| fun (r2 : Int) (u1 : WD) => fTh_sureMasks_l10 r2 FU 0 0 u1
set_option maxRecDepth 100000 in
set_option maxHeartbeats 4000000 in
theorem gTh_sureMasks (E : Nat × (Int → Int)) (d : Nat) {res : Int × WD} (w : WD) (h : fTh_sureMasks w = some res) : G E mTh_sureMasks (d + 6) 0 [(0, pR 12)] [] w RF NN 0 0 (some (pI res.1), res.2, RF, NN) := by
  unfold fTh_sureMasks at h
  refine g_iconst (pc := 0) (dk d_mTh_sureMasks 0 rfl) (by decide) ?_
  refine g_istore_n (pc := 1) (l' := [(1, pI 0), (0, pR 12)]) (dk d_mTh_sureMasks 1 rfl) (Nat.le_of_ble_eq_true rfl) rfl ?_
  refine g_aload_n (pc := 2) (j := 1) (dk d_mTh_sureMasks 2 rfl) rfl (by decide) ?_
  refine h_callVl (d := d + 5) (pc := 3) (na := 0) (av := []) (k0 := 12) po_12 ⟨_, rfl⟩ ⟨rfl, rfl⟩ (dk d_mTh_sureMasks 3 rfl) lk_Th_128 vm_mTh_number rfl rfl (Nat.le_of_ble_eq_true rfl) h (fun r2 u1 hq => kTh_number E (d + 1) hq) (fun r2 u1 h => ?_)
  refine g_lstore_n (pc := 6) (l' := [(2, pL r2), (1, pI 0), (0, pR 12)]) (dk d_mTh_sureMasks 4 rfl) (Nat.le_of_ble_eq_true rfl) rfl ?_
  refine g_iconst (pc := 7) (dk d_mTh_sureMasks 5 rfl) (by decide) ?_
  refine g_istore (pc := 8) (l' := [(4, pI 0), (2, pL r2), (1, pI 0), (0, pR 12)]) (dk d_mTh_sureMasks 6 rfl) (Nat.le_of_ble_eq_true rfl) rfl ?_
  refine g_pick [3, 2, 1, 0] rfl (l' := [(0, pR 12), (1, pI 0), (2, pL r2), (4, pI 0)]) rfl ?_
  refine fTh_sureMasks_l10_ok E d r2 FU _ _  _ h
set_option maxRecDepth 100000 in
set_option maxHeartbeats 4000000 in
theorem kTh_sureMasks (E : Nat × (Int → Int)) (d : Nat) {w w1 : WD} {r : Int} (h : fTh_sureMasks w = some (r, w1)) : CTi E mTh_sureMasks (d + 6) [pR 12] w RF NN r w1 RF NN := by
  exact CTi_of (by decide +kernel) (Nat.le_of_ble_eq_true rfl) (Or.inl rfl) (gTh_sureMasks (res := (r, w1)) E d w h)
def fB_sure (a1 : Int) (w : WD) : Option (Int × WD) := ci (fB_isBit a1 w) <| fun (r2 : Int) (u1 : WD) => if r2 ≠ 0 then (cv (fTh_load u1) <| fun (u4 : WD) => if a1 ≠ 0 then (ci (fTh_outOnes u4) <| fun (r6 : Int) (u5 : WD) => some (r6, u5)) else (ci (fTh_sureMasks u4) <| fun (r9 : Int) (u8 : WD) => some (r9, u8))) else (some ((-1), u1))
set_option maxRecDepth 100000 in
set_option maxHeartbeats 4000000 in
theorem gB_sure (E : Nat × (Int → Int)) (d : Nat) {res : Int × WD} (a1 : Int) (w : WD) (h : fB_sure a1 w = some res) : G E mB_sure (d + 8) 0 [(0, pR 0), (1, pI a1)] [] w RF NN 0 0 (some (pI res.1), res.2, RF, NN) := by
  unfold fB_sure at h
  refine g_iload_n (pc := 0) (j := 1) (dk d_mB_sure 0 rfl) rfl ?_
  refine h_callSi (d := d + 7) (pc := 1) (na := 1) (av := [pI a1]) ⟨rfl, rfl⟩ (dk d_mB_sure 1 rfl) lk_B_120 vm_mB_isBit rfl rfl (Nat.le_of_ble_eq_true rfl) h (fun r2 u1 hq => kB_isBit E (d + 6) hq) (fun r2 u1 hb3 h => ?_)
  refine h_if_ne (pc := 4) (tgt := 9) (dk d_mB_sure 2 rfl) rfl h (fun hc12 h => ?_) (fun hc12 h => ?_)
  · refine g_aload_n (pc := 9) (j := 0) (dk d_mB_sure 5 rfl) rfl (by decide) ?_
    refine g_getR (pc := 10) (a := 12) rfl fp_B_28 po_0 (dk d_mB_sure 6 rfl) ?_
    refine h_callVv (d := d + 7) (pc := 13) (na := 0) (av := []) (k0 := 12) po_12 ⟨_, rfl⟩ ⟨rfl, rfl⟩ (dk d_mB_sure 7 rfl) lk_B_127 vm_mTh_load rfl rfl (Nat.le_of_ble_eq_true rfl) h (fun u4 hq => kTh_load E (d + 1) hq) (fun u4 h => ?_)
    refine g_iload_n (pc := 16) (j := 1) (dk d_mB_sure 8 rfl) rfl ?_
    refine h_if_ne (pc := 17) (tgt := 30) (dk d_mB_sure 9 rfl) rfl h (fun hc11 h => ?_) (fun hc11 h => ?_)
    · refine g_aload_n (pc := 30) (j := 0) (dk d_mB_sure 14 rfl) rfl (by decide) ?_
      refine g_getR (pc := 31) (a := 12) rfl fp_B_28 po_0 (dk d_mB_sure 15 rfl) ?_
      refine h_callVi (d := d + 7) (pc := 34) (na := 0) (av := []) (k0 := 12) po_12 ⟨_, rfl⟩ ⟨rfl, rfl⟩ (dk d_mB_sure 16 rfl) lk_B_156 vm_mTh_outOnes rfl rfl (Nat.le_of_ble_eq_true rfl) h (fun r6 u5 hq => kTh_outOnes E (d + 0) hq) (fun r6 u5 hb7 h => ?_)
      exact h_iret (pc := 37) rfl (dk d_mB_sure 17 rfl) h
    · refine g_aload_n (pc := 20) (j := 0) (dk d_mB_sure 10 rfl) rfl (by decide) ?_
      refine g_getR (pc := 21) (a := 12) rfl fp_B_28 po_0 (dk d_mB_sure 11 rfl) ?_
      refine h_callVi (d := d + 7) (pc := 24) (na := 0) (av := []) (k0 := 12) po_12 ⟨_, rfl⟩ ⟨rfl, rfl⟩ (dk d_mB_sure 12 rfl) lk_B_153 vm_mTh_sureMasks rfl rfl (Nat.le_of_ble_eq_true rfl) h (fun r9 u8 hq => kTh_sureMasks E (d + 1) hq) (fun r9 u8 hb10 h => ?_)
      refine g_goto (pc := 27) (tgt := 37) (dk d_mB_sure 13 rfl) rfl ?_
      exact h_iret (pc := 37) rfl (dk d_mB_sure 17 rfl) h
  · refine g_iconst (pc := 7) (dk d_mB_sure 3 rfl) (by decide) ?_
    exact h_iret (pc := 8) rfl (dk d_mB_sure 4 rfl) h
set_option maxRecDepth 100000 in
set_option maxHeartbeats 4000000 in
theorem kB_sure (E : Nat × (Int → Int)) (d : Nat) {a1 : Int} {w w1 : WD} {r : Int} (h : fB_sure a1 w = some (r, w1)) : CTi E mB_sure (d + 8) [pR 0, pI a1] w RF NN r w1 RF NN := by
  exact CTi_of (by decide +kernel) (Nat.le_of_ble_eq_true rfl) (Or.inl rfl) (gB_sure (res := (r, w1)) E d a1 w h)
def fTh_mostLeft_l5_b (rec : Int → Int → WD → Option (Int × WD)) (y1 : Int) (y2 : Int) (K0 : Int → WD → Option (Int × WD)) (x3 : Int) (x5 : Int) (w : WD) : Option (Int × WD) := if 4 ≤ x5 then (K0 x3 w) else (cv (fTh_weigh y1 y2 x5 w) <| fun (u1 : WD) => ci (fTh_number u1) <| fun (r3 : Int) (u2 : WD) => bv (mx x3 r3) <| fun (v3_4 : Int) => bv (w32 (x5 + 1)) <| fun (v5_5 : Int) => rec v3_4 v5_5 u2)
def fTh_mostLeft_l5 (y1 : Int) (y2 : Int) (K0 : Int → WD → Option (Int × WD)) : Nat → Int → Int → WD → Option (Int × WD)
  | 0 => fun _ _ _ => none
  | k + 1 => fTh_mostLeft_l5_b ( fTh_mostLeft_l5 y1 y2 K0 k) y1 y2 K0
set_option maxRecDepth 100000 in
set_option maxHeartbeats 4000000 in
theorem fTh_mostLeft_l5_b_ok (E : Nat × (Int → Int)) (d : Nat) {res : Int × WD} {rec : Int → Int → WD → Option (Int × WD)} (y1 : Int) (y2 : Int) (K0 : Int → WD → Option (Int × WD)) (hrec : ∀ (x3 : Int) (x5 : Int) (w : WD), rec x3 x5 w = some res → G E mTh_mostLeft (d + 5) 5 [(0, pR 12), (1, pI y1), (2, pI y2), (3, pL x3), (5, pI x5)] [] w RF NN 0 0 (some (pL res.1), res.2, RF, NN)) (hK0 : ∀ (x3 : Int) (w : WD), K0 x3 w = some res → G E mTh_mostLeft (d + 5) 34 [(0, pR 12), (1, pI y1), (3, pL x3)] [] w RF NN 0 0 (some (pL res.1), res.2, RF, NN)) (x3 : Int) (x5 : Int) (w : WD) (h : fTh_mostLeft_l5_b rec y1 y2 K0 x3 x5 w = some res) : G E mTh_mostLeft (d + 5) 5 [(0, pR 12), (1, pI y1), (2, pI y2), (3, pL x3), (5, pI x5)] [] w RF NN 0 0 (some (pL res.1), res.2, RF, NN) := by
  unfold fTh_mostLeft_l5_b at h
  refine g_iload (pc := 5) (j := 4) (dk d_mTh_mostLeft 4 rfl) rfl ?_
  refine g_iconst (pc := 7) (dk d_mTh_mostLeft 5 rfl) (by decide) ?_
  refine h_icmp_ge (pc := 8) (tgt := 34) (dk d_mTh_mostLeft 6 rfl) rfl h (fun hc6 h => ?_) (fun hc6 h => ?_)
  · refine g_pick [0, 1, 3] rfl (l' := [(0, pR 12), (1, pI y1), (3, pL x3)]) rfl ?_
    exact hK0 _ _ h
  · refine g_aload_n (pc := 11) (j := 0) (dk d_mTh_mostLeft 7 rfl) rfl (by decide) ?_
    refine g_iload_n (pc := 12) (j := 1) (dk d_mTh_mostLeft 8 rfl) rfl ?_
    refine g_iload_n (pc := 13) (j := 2) (dk d_mTh_mostLeft 9 rfl) rfl ?_
    refine g_iload (pc := 14) (j := 4) (dk d_mTh_mostLeft 10 rfl) rfl ?_
    refine h_callVv (d := d + 4) (pc := 16) (na := 3) (av := [pI y1, pI y2, pI x5]) (k0 := 12) po_12 ⟨_, rfl⟩ ⟨rfl, rfl⟩ (dk d_mTh_mostLeft 11 rfl) lk_Th_63 vm_mTh_weigh rfl rfl (Nat.le_of_ble_eq_true rfl) h (fun u1 hq => kTh_weigh E (d + 1) hq) (fun u1 h => ?_)
    refine g_lload_n (pc := 19) (j := 3) (dk d_mTh_mostLeft 12 rfl) rfl ?_
    refine g_aload_n (pc := 20) (j := 0) (dk d_mTh_mostLeft 13 rfl) rfl (by decide) ?_
    refine h_callVl (d := d + 4) (pc := 21) (na := 0) (av := []) (k0 := 12) po_12 ⟨_, rfl⟩ ⟨rfl, rfl⟩ (dk d_mTh_mostLeft 14 rfl) lk_Th_128 vm_mTh_number rfl rfl (Nat.le_of_ble_eq_true rfl) h (fun r3 u2 hq => kTh_number E (d + 0) hq) (fun r3 u2 h => ?_)
    refine g_mmaxL (pc := 24) mm_Th_103 (Nat.le_of_ble_eq_true rfl) (by omega) (dk d_mTh_mostLeft 15 rfl) ?_
    refine h_bvL h (fun v3_4 h => ?_)
    refine g_lstore_n (pc := 27) (l' := [(3, pL v3_4), (0, pR 12), (1, pI y1), (2, pI y2), (5, pI x5)]) (dk d_mTh_mostLeft 16 rfl) (Nat.le_of_ble_eq_true rfl) rfl ?_
    refine h_iinc (pc := 28) (j := 4) (dk d_mTh_mostLeft 17 rfl) rfl (by decide) (Nat.le_of_ble_eq_true rfl) h (fun v5_5 h => ?_)
    refine g_loc (l' := [(5, pI v5_5), (3, pL v3_4), (0, pR 12), (1, pI y1), (2, pI y2)]) rfl ?_
    refine g_goto (pc := 31) (tgt := 5) (dk d_mTh_mostLeft 18 rfl) rfl ?_
    refine g_pick [2, 3, 4, 1, 0] rfl (l' := [(0, pR 12), (1, pI y1), (2, pI y2), (3, pL v3_4), (5, pI v5_5)]) rfl ?_
    exact hrec _ _ _ h
set_option maxRecDepth 100000 in
set_option maxHeartbeats 4000000 in
theorem fTh_mostLeft_l5_ok (E : Nat × (Int → Int)) (d : Nat) {res : Int × WD} (y1 : Int) (y2 : Int) (K0 : Int → WD → Option (Int × WD)) (hK0 : ∀ (x3 : Int) (w : WD), K0 x3 w = some res → G E mTh_mostLeft (d + 5) 34 [(0, pR 12), (1, pI y1), (3, pL x3)] [] w RF NN 0 0 (some (pL res.1), res.2, RF, NN)) : ∀ (k : Nat) (x3 : Int) (x5 : Int) (w : WD), fTh_mostLeft_l5 y1 y2 K0 k x3 x5 w = some res → G E mTh_mostLeft (d + 5) 5 [(0, pR 12), (1, pI y1), (2, pI y2), (3, pL x3), (5, pI x5)] [] w RF NN 0 0 (some (pL res.1), res.2, RF, NN) := by
  intro k
  induction k with
  | zero =>
    intro x3 x5 w h
    exact no_e h
  | succ k ih =>
    intro x3 x5 w h
    exact fTh_mostLeft_l5_b_ok E d y1 y2 K0 ih hK0 x3 x5 w h
def fTh_mostLeft (a1 : Int) (a2 : Int) (w : WD) : Option (Int × WD) := fTh_mostLeft_l5 a1 a2 (fun (v3_7 : Int) (u8 : WD) => cv (fTh_weigh a1 (-1) 0 u8) <| fun (u9 : WD) => some (v3_7, u9)) FU 0 0 w
set_option maxRecDepth 100000 in
set_option maxHeartbeats 4000000 in
theorem gTh_mostLeft (E : Nat × (Int → Int)) (d : Nat) {res : Int × WD} (a1 : Int) (a2 : Int) (w : WD) (h : fTh_mostLeft a1 a2 w = some res) : G E mTh_mostLeft (d + 5) 0 [(0, pR 12), (1, pI a1), (2, pI a2)] [] w RF NN 0 0 (some (pL res.1), res.2, RF, NN) := by
  unfold fTh_mostLeft at h
  refine g_lconst0 (pc := 0) (dk d_mTh_mostLeft 0 rfl) ?_
  refine g_lstore_n (pc := 1) (l' := [(3, pL 0), (0, pR 12), (1, pI a1), (2, pI a2)]) (dk d_mTh_mostLeft 1 rfl) (Nat.le_of_ble_eq_true rfl) rfl ?_
  refine g_iconst (pc := 2) (dk d_mTh_mostLeft 2 rfl) (by decide) ?_
  refine g_istore (pc := 3) (l' := [(5, pI 0), (3, pL 0), (0, pR 12), (1, pI a1), (2, pI a2)]) (dk d_mTh_mostLeft 3 rfl) (Nat.le_of_ble_eq_true rfl) rfl ?_
  refine g_pick [2, 3, 4, 1, 0] rfl (l' := [(0, pR 12), (1, pI a1), (2, pI a2), (3, pL 0), (5, pI 0)]) rfl ?_
  refine fTh_mostLeft_l5_ok E d a1 a2 _  (fun v3_7 u8 h => ?_) FU _ _  _ h
  · refine g_aload_n (pc := 34) (j := 0) (dk d_mTh_mostLeft 19 rfl) rfl (by decide) ?_
    refine g_iload_n (pc := 35) (j := 1) (dk d_mTh_mostLeft 20 rfl) rfl ?_
    refine g_iconst (pc := 36) (dk d_mTh_mostLeft 21 rfl) (by decide) ?_
    refine g_iconst (pc := 37) (dk d_mTh_mostLeft 22 rfl) (by decide) ?_
    refine h_callVv (d := d + 4) (pc := 38) (na := 3) (av := [pI a1, pI (-1), pI 0]) (k0 := 12) po_12 ⟨_, rfl⟩ ⟨rfl, rfl⟩ (dk d_mTh_mostLeft 23 rfl) lk_Th_63 vm_mTh_weigh rfl rfl (Nat.le_of_ble_eq_true rfl) h (fun u9 hq => kTh_weigh E (d + 1) hq) (fun u9 h => ?_)
    refine g_lload_n (pc := 41) (j := 2) (dk d_mTh_mostLeft 24 rfl) rfl ?_
    exact h_lret (pc := 42) (dk d_mTh_mostLeft 25 rfl) h
set_option maxRecDepth 100000 in
set_option maxHeartbeats 4000000 in
theorem kTh_mostLeft (E : Nat × (Int → Int)) (d : Nat) {a1 : Int} {a2 : Int} {w w1 : WD} {r : Int} (h : fTh_mostLeft a1 a2 w = some (r, w1)) : CTl E mTh_mostLeft (d + 5) [pR 12, pI a1, pI a2] w RF NN r w1 RF NN := by
  exact CTl_of (by decide +kernel) (Nat.le_of_ble_eq_true rfl) rfl (gTh_mostLeft (res := (r, w1)) E d a1 a2 w h)
def fB_look_l39_b (rec : Int → Int → Int → WD → Option (Int × WD)) (y1 : Int) (y5 : Int) (K0 : Int → Int → WD → Option (Int × WD)) (x2 : Int) (x3 : Int) (x6 : Int) (w : WD) : Option (Int × WD) := if 3 ≤ x6 then (K0 x2 x3 w) else (ci (fHa_at y5 (w32 (4 + x6)) w) <| fun (r9 : Int) (u8 : WD) => jn (β := Int → Int → WD → Option (Int × WD)) (fun (v2_11 : Int) (v3_12 : Int) (u13 : WD) => bv (w32 (x6 + 1)) <| fun (v6_14 : Int) => rec v2_11 v3_12 v6_14 u13) <| fun J15 => if 0 ≤ r9 then (J15 x2 x3 u8) else (ci (fTh_mostLeft y5 x6 u8) <| fun (r17 : Int) (u16 : WD) => jn (β := WD → Option (Int × WD)) (fun (u18 : WD) => bv (w32 ((w32 (10 * y5)) + x6)) <| fun (v2_19 : Int) => J15 v2_19 r17 u18) <| fun J20 => if x2 = (-2) then (J20 u16) else (if x3 ≤ r17 then (J15 x2 x3 u16) else (J20 u16))))
def fB_look_l39 (y1 : Int) (y5 : Int) (K0 : Int → Int → WD → Option (Int × WD)) : Nat → Int → Int → Int → WD → Option (Int × WD)
  | 0 => fun _ _ _ _ => none
  | k + 1 => fB_look_l39_b ( fB_look_l39 y1 y5 K0 k) y1 y5 K0
set_option maxRecDepth 100000 in
set_option maxHeartbeats 4000000 in
theorem fB_look_l39_b_ok (E : Nat × (Int → Int)) (d : Nat) {res : Int × WD} {rec : Int → Int → Int → WD → Option (Int × WD)} (y1 : Int) (y5 : Int) (K0 : Int → Int → WD → Option (Int × WD)) (hrec : ∀ (x2 : Int) (x3 : Int) (x6 : Int) (w : WD), rec x2 x3 x6 w = some res → G E mB_look (d + 7) 39 [(0, pR 0), (1, pI y1), (2, pI x2), (3, pL x3), (5, pI y5), (6, pI x6)] [] w RF NN 0 0 (some (pI res.1), res.2, RF, NN)) (hK0 : ∀ (x2 : Int) (x3 : Int) (w : WD), K0 x2 x3 w = some res → G E mB_look (d + 7) 105 [(0, pR 0), (1, pI y1), (2, pI x2), (3, pL x3), (5, pI y5)] [] w RF NN 0 0 (some (pI res.1), res.2, RF, NN)) (x2 : Int) (x3 : Int) (x6 : Int) (w : WD) (h : fB_look_l39_b rec y1 y5 K0 x2 x3 x6 w = some res) : G E mB_look (d + 7) 39 [(0, pR 0), (1, pI y1), (2, pI x2), (3, pL x3), (5, pI y5), (6, pI x6)] [] w RF NN 0 0 (some (pI res.1), res.2, RF, NN) := by
  unfold fB_look_l39_b at h
  refine g_iload (pc := 39) (j := 5) (dk d_mB_look 21 rfl) rfl ?_
  refine g_iconst (pc := 41) (dk d_mB_look 22 rfl) (by decide) ?_
  refine h_icmp_ge (pc := 42) (tgt := 105) (dk d_mB_look 23 rfl) rfl h (fun hc24 h => ?_) (fun hc24 h => ?_)
  · refine g_pick [0, 1, 2, 3, 4] rfl (l' := [(0, pR 0), (1, pI y1), (2, pI x2), (3, pL x3), (5, pI y5)]) rfl ?_
    exact hK0 _ _ _ h
  · refine g_aload_n (pc := 45) (j := 0) (dk d_mB_look 24 rfl) rfl (by decide) ?_
    refine g_getR (pc := 46) (a := 1) rfl fp_B_10 po_0 (dk d_mB_look 25 rfl) ?_
    refine g_iload (pc := 49) (j := 4) (dk d_mB_look 26 rfl) rfl ?_
    refine g_iconst (pc := 51) (dk d_mB_look 27 rfl) (by decide) ?_
    refine g_iload (pc := 52) (j := 5) (dk d_mB_look 28 rfl) rfl ?_
    refine g_iadd (pc := 54) (dk d_mB_look 29 rfl) ?_
    refine h_callVi (d := d + 6) (pc := 55) (na := 2) (av := [pI y5, pI (w32 (4 + x6))]) (k0 := 1) po_1 ⟨_, rfl⟩ ⟨rfl, rfl⟩ (dk d_mB_look 30 rfl) lk_B_105 vm_mHa_at rfl rfl (Nat.le_of_ble_eq_true rfl) h (fun r9 u8 hq => kHa_at E (d + 4) hq) (fun r9 u8 hb10 h => ?_)
    refine jn_e (fun J => ∀ (v2_11 : Int) (v3_12 : Int) (u13 : WD), J v2_11 v3_12 u13 = some res → G E mB_look (d + 7) 99 [(0, pR 0), (1, pI y1), (2, pI v2_11), (3, pL v3_12), (5, pI y5), (6, pI x6)] [] u13 RF NN 0 0 (some (pI res.1), res.2, RF, NN)) h (fun v2_11 v3_12 u13 h => ?_) (fun J15 hJ15 h => ?_)
    · refine h_iinc (pc := 99) (j := 5) (dk d_mB_look 53 rfl) rfl (by decide) (Nat.le_of_ble_eq_true rfl) h (fun v6_14 h => ?_)
      refine g_loc (l' := [(6, pI v6_14), (0, pR 0), (1, pI y1), (2, pI v2_11), (3, pL v3_12), (5, pI y5)]) rfl ?_
      refine g_goto (pc := 102) (tgt := 39) (dk d_mB_look 54 rfl) rfl ?_
      refine g_pick [1, 2, 3, 4, 5, 0] rfl (l' := [(0, pR 0), (1, pI y1), (2, pI v2_11), (3, pL v3_12), (5, pI y5), (6, pI v6_14)]) rfl ?_
      exact hrec _ _ _ _ h
    · refine h_if_ge (pc := 58) (tgt := 99) (dk d_mB_look 31 rfl) rfl h (fun hc23 h => ?_) (fun hc23 h => ?_)
      · exact hJ15 _ _ _ h
      · refine g_aload_n (pc := 61) (j := 0) (dk d_mB_look 32 rfl) rfl (by decide) ?_
        refine g_getR (pc := 62) (a := 12) rfl fp_B_28 po_0 (dk d_mB_look 33 rfl) ?_
        refine g_iload (pc := 65) (j := 4) (dk d_mB_look 34 rfl) rfl ?_
        refine g_iload (pc := 67) (j := 5) (dk d_mB_look 35 rfl) rfl ?_
        refine h_callVl (d := d + 6) (pc := 69) (na := 2) (av := [pI y5, pI x6]) (k0 := 12) po_12 ⟨_, rfl⟩ ⟨rfl, rfl⟩ (dk d_mB_look 36 rfl) lk_B_162 vm_mTh_mostLeft rfl rfl (Nat.le_of_ble_eq_true rfl) h (fun r17 u16 hq => kTh_mostLeft E (d + 1) hq) (fun r17 u16 h => ?_)
        refine g_lstore (pc := 72) (l' := [(7, pL r17), (0, pR 0), (1, pI y1), (2, pI x2), (3, pL x3), (5, pI y5), (6, pI x6)]) (dk d_mB_look 37 rfl) (Nat.le_of_ble_eq_true rfl) rfl ?_
        refine g_iload_n (pc := 74) (j := 3) (dk d_mB_look 38 rfl) rfl ?_
        refine g_bipush (pc := 75) (dk d_mB_look 39 rfl) (by decide) ?_
        refine jn_e (fun J => ∀ (u18 : WD), J u18 = some res → G E mB_look (d + 7) 87 [(0, pR 0), (1, pI y1), (5, pI y5), (6, pI x6), (7, pL r17)] [] u18 RF NN 0 0 (some (pI res.1), res.2, RF, NN)) h (fun u18 h => ?_) (fun J20 hJ20 h => ?_)
        · refine g_bipush (pc := 87) (dk d_mB_look 45 rfl) (by decide) ?_
          refine g_iload (pc := 89) (j := 2) (dk d_mB_look 46 rfl) rfl ?_
          refine g_imul (pc := 91) (dk d_mB_look 47 rfl) ?_
          refine g_iload (pc := 92) (j := 3) (dk d_mB_look 48 rfl) rfl ?_
          refine g_iadd (pc := 94) (dk d_mB_look 49 rfl) ?_
          refine h_bvI h (fun v2_19 h => ?_)
          refine g_istore_n (pc := 95) (l' := [(2, pI v2_19), (0, pR 0), (1, pI y1), (5, pI y5), (6, pI x6), (7, pL r17)]) (dk d_mB_look 50 rfl) (Nat.le_of_ble_eq_true rfl) rfl ?_
          refine g_lload (pc := 96) (j := 5) (dk d_mB_look 51 rfl) rfl ?_
          refine g_lstore_n (pc := 98) (l' := [(3, pL r17), (2, pI v2_19), (0, pR 0), (1, pI y1), (5, pI y5), (6, pI x6), (7, pL r17)]) (dk d_mB_look 52 rfl) (Nat.le_of_ble_eq_true rfl) rfl ?_
          refine g_pick [2, 3, 1, 0, 4, 5] rfl (l' := [(0, pR 0), (1, pI y1), (2, pI v2_19), (3, pL r17), (5, pI y5), (6, pI x6)]) rfl ?_
          exact hJ15 _ _ _ h
        · refine h_icmp_eq (pc := 77) (tgt := 87) (dk d_mB_look 40 rfl) rfl h (fun hc22 h => ?_) (fun hc22 h => ?_)
          · refine g_pick [1, 2, 5, 6, 0] rfl (l' := [(0, pR 0), (1, pI y1), (5, pI y5), (6, pI x6), (7, pL r17)]) rfl ?_
            exact hJ20 _ h
          · refine g_lload (pc := 80) (j := 0) (dk d_mB_look 41 rfl) rfl ?_
            refine g_lload_n (pc := 82) (j := 4) (dk d_mB_look 42 rfl) rfl ?_
            refine h_lcmp_ge (pc := 83) (tgt := 99) (dk d_mB_look 43 rfl) (dk d_mB_look 44 rfl) rfl h (fun hc21 h => ?_) (fun hc21 h => ?_)
            · refine g_pick [1, 2, 3, 4, 5, 6] rfl (l' := [(0, pR 0), (1, pI y1), (2, pI x2), (3, pL x3), (5, pI y5), (6, pI x6)]) rfl ?_
              exact hJ15 _ _ _ h
            · refine g_pick [1, 2, 5, 6, 0] rfl (l' := [(0, pR 0), (1, pI y1), (5, pI y5), (6, pI x6), (7, pL r17)]) rfl ?_
              exact hJ20 _ h
set_option maxRecDepth 100000 in
set_option maxHeartbeats 4000000 in
theorem fB_look_l39_ok (E : Nat × (Int → Int)) (d : Nat) {res : Int × WD} (y1 : Int) (y5 : Int) (K0 : Int → Int → WD → Option (Int × WD)) (hK0 : ∀ (x2 : Int) (x3 : Int) (w : WD), K0 x2 x3 w = some res → G E mB_look (d + 7) 105 [(0, pR 0), (1, pI y1), (2, pI x2), (3, pL x3), (5, pI y5)] [] w RF NN 0 0 (some (pI res.1), res.2, RF, NN)) : ∀ (k : Nat) (x2 : Int) (x3 : Int) (x6 : Int) (w : WD), fB_look_l39 y1 y5 K0 k x2 x3 x6 w = some res → G E mB_look (d + 7) 39 [(0, pR 0), (1, pI y1), (2, pI x2), (3, pL x3), (5, pI y5), (6, pI x6)] [] w RF NN 0 0 (some (pI res.1), res.2, RF, NN) := by
  intro k
  induction k with
  | zero =>
    intro x2 x3 x6 w h
    exact no_e h
  | succ k ih =>
    intro x2 x3 x6 w h
    exact fB_look_l39_b_ok E d y1 y5 K0 ih hK0 x2 x3 x6 w h
def fB_look_l24_b (rec : Int → Int → Int → WD → Option (Int × WD)) (y1 : Int) (K0 : Int → Int → WD → Option (Int × WD)) (x2 : Int) (x3 : Int) (x5 : Int) (w : WD) : Option (Int × WD) := ci (fHa_masks w) <| fun (r6 : Int) (u5 : WD) => if r6 ≤ x5 then (K0 x2 x3 u5) else (fB_look_l39 y1 x5 (fun (v2_25 : Int) (v3_26 : Int) (u27 : WD) => bv (w32 (x5 + 1)) <| fun (v5_28 : Int) => rec v2_25 v3_26 v5_28 u27) FU x2 x3 0 u5)
def fB_look_l24 (y1 : Int) (K0 : Int → Int → WD → Option (Int × WD)) : Nat → Int → Int → Int → WD → Option (Int × WD)
  | 0 => fun _ _ _ _ => none
  | k + 1 => fB_look_l24_b ( fB_look_l24 y1 K0 k) y1 K0
set_option maxRecDepth 100000 in
set_option maxHeartbeats 4000000 in
theorem fB_look_l24_b_ok (E : Nat × (Int → Int)) (d : Nat) {res : Int × WD} {rec : Int → Int → Int → WD → Option (Int × WD)} (y1 : Int) (K0 : Int → Int → WD → Option (Int × WD)) (hrec : ∀ (x2 : Int) (x3 : Int) (x5 : Int) (w : WD), rec x2 x3 x5 w = some res → G E mB_look (d + 7) 24 [(0, pR 0), (1, pI y1), (2, pI x2), (3, pL x3), (5, pI x5)] [] w RF NN 0 0 (some (pI res.1), res.2, RF, NN)) (hK0 : ∀ (x2 : Int) (x3 : Int) (w : WD), K0 x2 x3 w = some res → G E mB_look (d + 7) 111 [(1, pI y1), (2, pI x2), (3, pL x3)] [] w RF NN 0 0 (some (pI res.1), res.2, RF, NN)) (x2 : Int) (x3 : Int) (x5 : Int) (w : WD) (h : fB_look_l24_b rec y1 K0 x2 x3 x5 w = some res) : G E mB_look (d + 7) 24 [(0, pR 0), (1, pI y1), (2, pI x2), (3, pL x3), (5, pI x5)] [] w RF NN 0 0 (some (pI res.1), res.2, RF, NN) := by
  unfold fB_look_l24_b at h
  refine g_iload (pc := 24) (j := 4) (dk d_mB_look 14 rfl) rfl ?_
  refine g_aload_n (pc := 26) (j := 0) (dk d_mB_look 15 rfl) rfl (by decide) ?_
  refine g_getR (pc := 27) (a := 1) rfl fp_B_10 po_0 (dk d_mB_look 16 rfl) ?_
  refine h_callVi (d := d + 6) (pc := 30) (na := 0) (av := []) (k0 := 1) po_1 ⟨_, rfl⟩ ⟨rfl, rfl⟩ (dk d_mB_look 17 rfl) lk_B_159 vm_mHa_masks rfl rfl (Nat.le_of_ble_eq_true rfl) h (fun r6 u5 hq => kHa_masks E (d + 5) hq) (fun r6 u5 hb7 h => ?_)
  refine h_icmp_ge (pc := 33) (tgt := 111) (dk d_mB_look 18 rfl) rfl h (fun hc29 h => ?_) (fun hc29 h => ?_)
  · refine g_pick [1, 2, 3] rfl (l' := [(1, pI y1), (2, pI x2), (3, pL x3)]) rfl ?_
    exact hK0 _ _ _ h
  · refine g_iconst (pc := 36) (dk d_mB_look 19 rfl) (by decide) ?_
    refine g_istore (pc := 37) (l' := [(6, pI 0), (0, pR 0), (1, pI y1), (2, pI x2), (3, pL x3), (5, pI x5)]) (dk d_mB_look 20 rfl) (Nat.le_of_ble_eq_true rfl) rfl ?_
    refine g_pick [1, 2, 3, 4, 5, 0] rfl (l' := [(0, pR 0), (1, pI y1), (2, pI x2), (3, pL x3), (5, pI x5), (6, pI 0)]) rfl ?_
    refine fB_look_l39_ok E d y1 x5 _  (fun v2_25 v3_26 u27 h => ?_) FU _ _ _  _ h
    · refine h_iinc (pc := 105) (j := 4) (dk d_mB_look 55 rfl) rfl (by decide) (Nat.le_of_ble_eq_true rfl) h (fun v5_28 h => ?_)
      refine g_loc (l' := [(5, pI v5_28), (0, pR 0), (1, pI y1), (2, pI v2_25), (3, pL v3_26)]) rfl ?_
      refine g_goto (pc := 108) (tgt := 24) (dk d_mB_look 56 rfl) rfl ?_
      refine g_pick [1, 2, 3, 4, 0] rfl (l' := [(0, pR 0), (1, pI y1), (2, pI v2_25), (3, pL v3_26), (5, pI v5_28)]) rfl ?_
      exact hrec _ _ _ _ h
set_option maxRecDepth 100000 in
set_option maxHeartbeats 4000000 in
theorem fB_look_l24_ok (E : Nat × (Int → Int)) (d : Nat) {res : Int × WD} (y1 : Int) (K0 : Int → Int → WD → Option (Int × WD)) (hK0 : ∀ (x2 : Int) (x3 : Int) (w : WD), K0 x2 x3 w = some res → G E mB_look (d + 7) 111 [(1, pI y1), (2, pI x2), (3, pL x3)] [] w RF NN 0 0 (some (pI res.1), res.2, RF, NN)) : ∀ (k : Nat) (x2 : Int) (x3 : Int) (x5 : Int) (w : WD), fB_look_l24 y1 K0 k x2 x3 x5 w = some res → G E mB_look (d + 7) 24 [(0, pR 0), (1, pI y1), (2, pI x2), (3, pL x3), (5, pI x5)] [] w RF NN 0 0 (some (pI res.1), res.2, RF, NN) := by
  intro k
  induction k with
  | zero =>
    intro x2 x3 x5 w h
    exact no_e h
  | succ k ih =>
    intro x2 x3 x5 w h
    exact fB_look_l24_b_ok E d y1 K0 ih hK0 x2 x3 x5 w h
def fB_look (a1 : Int) (w : WD) : Option (Int × WD) := ci (fB_isBit a1 w) <| fun (r2 : Int) (u1 : WD) => if r2 ≠ 0 then (cv (fTh_load u1) <| fun (u4 : WD) => fB_look_l24 a1 (fun (v2_30 : Int) (v3_31 : Int) (u32 : WD) => if v2_30 = (-2) then (some (v2_30, u32)) else (if a1 ≠ 0 then (some ((w32 v3_31), u32)) else (some (v2_30, u32)))) FU (-2) 0 0 u4) else (some ((-1), u1))
set_option maxRecDepth 100000 in
set_option maxHeartbeats 4000000 in
theorem gB_look (E : Nat × (Int → Int)) (d : Nat) {res : Int × WD} (a1 : Int) (w : WD) (h : fB_look a1 w = some res) : G E mB_look (d + 7) 0 [(0, pR 0), (1, pI a1)] [] w RF NN 0 0 (some (pI res.1), res.2, RF, NN) := by
  unfold fB_look at h
  refine g_iload_n (pc := 0) (j := 1) (dk d_mB_look 0 rfl) rfl ?_
  refine h_callSi (d := d + 6) (pc := 1) (na := 1) (av := [pI a1]) ⟨rfl, rfl⟩ (dk d_mB_look 1 rfl) lk_B_120 vm_mB_isBit rfl rfl (Nat.le_of_ble_eq_true rfl) h (fun r2 u1 hq => kB_isBit E (d + 5) hq) (fun r2 u1 hb3 h => ?_)
  refine h_if_ne (pc := 4) (tgt := 9) (dk d_mB_look 2 rfl) rfl h (fun hc35 h => ?_) (fun hc35 h => ?_)
  · refine g_aload_n (pc := 9) (j := 0) (dk d_mB_look 5 rfl) rfl (by decide) ?_
    refine g_getR (pc := 10) (a := 12) rfl fp_B_28 po_0 (dk d_mB_look 6 rfl) ?_
    refine h_callVv (d := d + 6) (pc := 13) (na := 0) (av := []) (k0 := 12) po_12 ⟨_, rfl⟩ ⟨rfl, rfl⟩ (dk d_mB_look 7 rfl) lk_B_127 vm_mTh_load rfl rfl (Nat.le_of_ble_eq_true rfl) h (fun u4 hq => kTh_load E (d + 0) hq) (fun u4 h => ?_)
    refine g_bipush (pc := 16) (dk d_mB_look 8 rfl) (by decide) ?_
    refine g_istore_n (pc := 18) (l' := [(2, pI (-2)), (0, pR 0), (1, pI a1)]) (dk d_mB_look 9 rfl) (Nat.le_of_ble_eq_true rfl) rfl ?_
    refine g_lconst0 (pc := 19) (dk d_mB_look 10 rfl) ?_
    refine g_lstore_n (pc := 20) (l' := [(3, pL 0), (2, pI (-2)), (0, pR 0), (1, pI a1)]) (dk d_mB_look 11 rfl) (Nat.le_of_ble_eq_true rfl) rfl ?_
    refine g_iconst (pc := 21) (dk d_mB_look 12 rfl) (by decide) ?_
    refine g_istore (pc := 22) (l' := [(5, pI 0), (3, pL 0), (2, pI (-2)), (0, pR 0), (1, pI a1)]) (dk d_mB_look 13 rfl) (Nat.le_of_ble_eq_true rfl) rfl ?_
    refine g_pick [3, 4, 2, 1, 0] rfl (l' := [(0, pR 0), (1, pI a1), (2, pI (-2)), (3, pL 0), (5, pI 0)]) rfl ?_
    refine fB_look_l24_ok E d a1 _  (fun v2_30 v3_31 u32 h => ?_) FU _ _ _  _ h
    · refine g_iload_n (pc := 111) (j := 1) (dk d_mB_look 57 rfl) rfl ?_
      refine g_bipush (pc := 112) (dk d_mB_look 58 rfl) (by decide) ?_
      refine h_icmp_eq (pc := 114) (tgt := 121) (dk d_mB_look 59 rfl) rfl h (fun hc34 h => ?_) (fun hc34 h => ?_)
      · refine g_iload_n (pc := 121) (j := 1) (dk d_mB_look 62 rfl) rfl ?_
        refine g_goto (pc := 122) (tgt := 127) (dk d_mB_look 63 rfl) rfl ?_
        exact h_iret (pc := 127) rfl (dk d_mB_look 66 rfl) h
      · refine g_iload_n (pc := 117) (j := 0) (dk d_mB_look 60 rfl) rfl ?_
        refine h_if_ne (pc := 118) (tgt := 125) (dk d_mB_look 61 rfl) rfl h (fun hc33 h => ?_) (fun hc33 h => ?_)
        · refine g_lload_n (pc := 125) (j := 2) (dk d_mB_look 64 rfl) rfl ?_
          refine g_l2i (pc := 126) (dk d_mB_look 65 rfl) ?_
          exact h_iret (pc := 127) rfl (dk d_mB_look 66 rfl) h
        · refine g_iload_n (pc := 121) (j := 1) (dk d_mB_look 62 rfl) rfl ?_
          refine g_goto (pc := 122) (tgt := 127) (dk d_mB_look 63 rfl) rfl ?_
          exact h_iret (pc := 127) rfl (dk d_mB_look 66 rfl) h
  · refine g_iconst (pc := 7) (dk d_mB_look 3 rfl) (by decide) ?_
    exact h_iret (pc := 8) rfl (dk d_mB_look 4 rfl) h
set_option maxRecDepth 100000 in
set_option maxHeartbeats 4000000 in
theorem kB_look (E : Nat × (Int → Int)) (d : Nat) {a1 : Int} {w w1 : WD} {r : Int} (h : fB_look a1 w = some (r, w1)) : CTi E mB_look (d + 7) [pR 0, pI a1] w RF NN r w1 RF NN := by
  exact CTi_of (by decide +kernel) (Nat.le_of_ble_eq_true rfl) (Or.inl rfl) (gB_look (res := (r, w1)) E d a1 w h)
def fB_question (a1 : Int) (a2 : Int) (a3 : Int) (w : WD) : Option (Int × WD) := ci (fHa_isMask a1 w) <| fun (r2 : Int) (u1 : WD) => if r2 = 0 then (some ((-1), u1)) else (if a2 < 0 then (some ((-1), u1)) else (if 128 ≤ a2 then (some ((-1), u1)) else (ci (fB_isBit a3 u1) <| fun (r5 : Int) (u4 : WD) => if r5 ≠ 0 then (cv (fTh_load u4) <| fun (u7 : WD) => jn (β := Int → WD → Option (Int × WD)) (fun (s8 : Int) (u9 : WD) => ci (fTh_numberIf a1 s8 u9) <| fun (r11 : Int) (u10 : WD) => some ((w32 r11), u10)) <| fun J12 => if a3 ≠ 1 then (J12 (bXor a2 (-1)) u7) else (J12 a2 u7)) else (some ((-1), u4)))))
set_option maxRecDepth 100000 in
set_option maxHeartbeats 4000000 in
theorem gB_question (E : Nat × (Int → Int)) (d : Nat) {res : Int × WD} (a1 : Int) (a2 : Int) (a3 : Int) (w : WD) (h : fB_question a1 a2 a3 w = some res) : G E mB_question (d + 7) 0 [(0, pR 0), (1, pI a1), (2, pI a2), (3, pI a3)] [] w RF NN 0 0 (some (pI res.1), res.2, RF, NN) := by
  unfold fB_question at h
  refine g_aload_n (pc := 0) (j := 0) (dk d_mB_question 0 rfl) rfl (by decide) ?_
  refine g_getR (pc := 1) (a := 1) rfl fp_B_10 po_0 (dk d_mB_question 1 rfl) ?_
  refine g_iload_n (pc := 4) (j := 1) (dk d_mB_question 2 rfl) rfl ?_
  refine h_callVi (d := d + 6) (pc := 5) (na := 1) (av := [pI a1]) (k0 := 1) po_1 ⟨_, rfl⟩ ⟨rfl, rfl⟩ (dk d_mB_question 3 rfl) lk_B_90 vm_mHa_isMask rfl rfl (Nat.le_of_ble_eq_true rfl) h (fun r2 u1 hq => kHa_isMask E (d + 5) hq) (fun r2 u1 hb3 h => ?_)
  refine h_if_eq (pc := 8) (tgt := 29) (dk d_mB_question 4 rfl) rfl h (fun hc17 h => ?_) (fun hc17 h => ?_)
  · refine g_iconst (pc := 29) (dk d_mB_question 13 rfl) (by decide) ?_
    exact h_iret (pc := 30) rfl (dk d_mB_question 14 rfl) h
  · refine g_iload_n (pc := 11) (j := 2) (dk d_mB_question 5 rfl) rfl ?_
    refine h_if_lt (pc := 12) (tgt := 29) (dk d_mB_question 6 rfl) rfl h (fun hc16 h => ?_) (fun hc16 h => ?_)
    · refine g_iconst (pc := 29) (dk d_mB_question 13 rfl) (by decide) ?_
      exact h_iret (pc := 30) rfl (dk d_mB_question 14 rfl) h
    · refine g_iload_n (pc := 15) (j := 2) (dk d_mB_question 7 rfl) rfl ?_
      refine g_sipush (pc := 16) (dk d_mB_question 8 rfl) (by decide) ?_
      refine h_icmp_ge (pc := 19) (tgt := 29) (dk d_mB_question 9 rfl) rfl h (fun hc15 h => ?_) (fun hc15 h => ?_)
      · refine g_iconst (pc := 29) (dk d_mB_question 13 rfl) (by decide) ?_
        exact h_iret (pc := 30) rfl (dk d_mB_question 14 rfl) h
      · refine g_iload_n (pc := 22) (j := 3) (dk d_mB_question 10 rfl) rfl ?_
        refine h_callSi (d := d + 6) (pc := 23) (na := 1) (av := [pI a3]) ⟨rfl, rfl⟩ (dk d_mB_question 11 rfl) lk_B_120 vm_mB_isBit rfl rfl (Nat.le_of_ble_eq_true rfl) h (fun r5 u4 hq => kB_isBit E (d + 5) hq) (fun r5 u4 hb6 h => ?_)
        refine h_if_ne (pc := 26) (tgt := 31) (dk d_mB_question 12 rfl) rfl h (fun hc14 h => ?_) (fun hc14 h => ?_)
        · refine g_aload_n (pc := 31) (j := 0) (dk d_mB_question 15 rfl) rfl (by decide) ?_
          refine g_getR (pc := 32) (a := 12) rfl fp_B_28 po_0 (dk d_mB_question 16 rfl) ?_
          refine h_callVv (d := d + 6) (pc := 35) (na := 0) (av := []) (k0 := 12) po_12 ⟨_, rfl⟩ ⟨rfl, rfl⟩ (dk d_mB_question 17 rfl) lk_B_127 vm_mTh_load rfl rfl (Nat.le_of_ble_eq_true rfl) h (fun u7 hq => kTh_load E (d + 0) hq) (fun u7 h => ?_)
          refine g_aload_n (pc := 38) (j := 0) (dk d_mB_question 18 rfl) rfl (by decide) ?_
          refine g_getR (pc := 39) (a := 12) rfl fp_B_28 po_0 (dk d_mB_question 19 rfl) ?_
          refine g_iload_n (pc := 42) (j := 1) (dk d_mB_question 20 rfl) rfl ?_
          refine g_iload_n (pc := 43) (j := 3) (dk d_mB_question 21 rfl) rfl ?_
          refine g_iconst (pc := 44) (dk d_mB_question 22 rfl) (by decide) ?_
          refine jn_e (fun J => ∀ (s8 : Int) (u9 : WD), J s8 u9 = some res → G E mB_question (d + 7) 55 [] [pI s8, pI a1, pR 12] u9 RF NN 0 0 (some (pI res.1), res.2, RF, NN)) h (fun s8 u9 h => ?_) (fun J12 hJ12 h => ?_)
          · refine h_callVl (d := d + 6) (pc := 55) (na := 2) (av := [pI a1, pI s8]) (k0 := 12) po_12 ⟨_, rfl⟩ ⟨rfl, rfl⟩ (dk d_mB_question 29 rfl) lk_B_165 vm_mTh_numberIf rfl rfl (Nat.le_of_ble_eq_true rfl) h (fun r11 u10 hq => kTh_numberIf E (d + 1) hq) (fun r11 u10 h => ?_)
            refine g_l2i (pc := 58) (dk d_mB_question 30 rfl) ?_
            exact h_iret (pc := 59) rfl (dk d_mB_question 31 rfl) h
          · refine h_icmp_ne (pc := 45) (tgt := 52) (dk d_mB_question 23 rfl) rfl h (fun hc13 h => ?_) (fun hc13 h => ?_)
            · refine g_iload_n (pc := 52) (j := 2) (dk d_mB_question 26 rfl) rfl ?_
              refine g_iconst (pc := 53) (dk d_mB_question 27 rfl) (by decide) ?_
              refine g_ixor (pc := 54) (dk d_mB_question 28 rfl) ?_
              refine g_pick [] rfl (l' := []) rfl ?_
              exact hJ12 _ _ h
            · refine g_iload_n (pc := 48) (j := 2) (dk d_mB_question 24 rfl) rfl ?_
              refine g_goto (pc := 49) (tgt := 55) (dk d_mB_question 25 rfl) rfl ?_
              refine g_pick [] rfl (l' := []) rfl ?_
              exact hJ12 _ _ h
        · refine g_iconst (pc := 29) (dk d_mB_question 13 rfl) (by decide) ?_
          exact h_iret (pc := 30) rfl (dk d_mB_question 14 rfl) h
set_option maxRecDepth 100000 in
set_option maxHeartbeats 4000000 in
theorem kB_question (E : Nat × (Int → Int)) (d : Nat) {a1 : Int} {a2 : Int} {a3 : Int} {w w1 : WD} {r : Int} (h : fB_question a1 a2 a3 w = some (r, w1)) : CTi E mB_question (d + 7) [pR 0, pI a1, pI a2, pI a3] w RF NN r w1 RF NN := by
  exact CTi_of (by decide +kernel) (Nat.le_of_ble_eq_true rfl) (Or.inl rfl) (gB_question (res := (r, w1)) E d a1 a2 a3 w h)
def fB_whom_l28_b (rec : Int → Int → Int → WD → Option (Int × WD)) (y1 : Int) (x2 : Int) (x3 : Int) (x5 : Int) (w : WD) : Option (Int × WD) := ci (fHa_masks w) <| fun (r3 : Int) (u2 : WD) => if r3 ≤ x5 then (some (x2, u2)) else (ci (fTh_numberIf x5 y1 u2) <| fun (r6 : Int) (u5 : WD) => ci (fTh_numberIf x5 (bXor y1 (-1)) u5) <| fun (r8 : Int) (u7 : WD) => bv (mx r6 r8) <| fun (v6_9 : Int) => jn (β := Int → Int → WD → Option (Int × WD)) (fun (v2_10 : Int) (v3_11 : Int) (u12 : WD) => bv (w32 (x5 + 1)) <| fun (v5_13 : Int) => rec v2_10 v3_11 v5_13 u12) <| fun J14 => jn (β := WD → Option (Int × WD)) (fun (u15 : WD) => J14 x5 v6_9 u15) <| fun J16 => if x2 = (-2) then (J16 u7) else (if x3 ≤ v6_9 then (J14 x2 x3 u7) else (J16 u7)))
def fB_whom_l28 (y1 : Int) : Nat → Int → Int → Int → WD → Option (Int × WD)
  | 0 => fun _ _ _ _ => none
  | k + 1 => fB_whom_l28_b ( fB_whom_l28 y1 k) y1
set_option maxRecDepth 100000 in
set_option maxHeartbeats 4000000 in
theorem fB_whom_l28_b_ok (E : Nat × (Int → Int)) (d : Nat) {res : Int × WD} {rec : Int → Int → Int → WD → Option (Int × WD)} (y1 : Int) (hrec : ∀ (x2 : Int) (x3 : Int) (x5 : Int) (w : WD), rec x2 x3 x5 w = some res → G E mB_whom (d + 7) 28 [(0, pR 0), (1, pI y1), (2, pI x2), (3, pL x3), (5, pI x5)] [] w RF NN 0 0 (some (pI res.1), res.2, RF, NN)) (x2 : Int) (x3 : Int) (x5 : Int) (w : WD) (h : fB_whom_l28_b rec y1 x2 x3 x5 w = some res) : G E mB_whom (d + 7) 28 [(0, pR 0), (1, pI y1), (2, pI x2), (3, pL x3), (5, pI x5)] [] w RF NN 0 0 (some (pI res.1), res.2, RF, NN) := by
  unfold fB_whom_l28_b at h
  refine g_iload (pc := 28) (j := 4) (dk d_mB_whom 16 rfl) rfl ?_
  refine g_aload_n (pc := 30) (j := 0) (dk d_mB_whom 17 rfl) rfl (by decide) ?_
  refine g_getR (pc := 31) (a := 1) rfl fp_B_10 po_0 (dk d_mB_whom 18 rfl) ?_
  refine h_callVi (d := d + 6) (pc := 34) (na := 0) (av := []) (k0 := 1) po_1 ⟨_, rfl⟩ ⟨rfl, rfl⟩ (dk d_mB_whom 19 rfl) lk_B_159 vm_mHa_masks rfl rfl (Nat.le_of_ble_eq_true rfl) h (fun r3 u2 hq => kHa_masks E (d + 5) hq) (fun r3 u2 hb4 h => ?_)
  refine h_icmp_ge (pc := 37) (tgt := 92) (dk d_mB_whom 20 rfl) rfl h (fun hc19 h => ?_) (fun hc19 h => ?_)
  · refine g_iload_n (pc := 92) (j := 2) (dk d_mB_whom 48 rfl) rfl ?_
    exact h_iret (pc := 93) rfl (dk d_mB_whom 49 rfl) h
  · refine g_aload_n (pc := 40) (j := 0) (dk d_mB_whom 21 rfl) rfl (by decide) ?_
    refine g_getR (pc := 41) (a := 12) rfl fp_B_28 po_0 (dk d_mB_whom 22 rfl) ?_
    refine g_iload (pc := 44) (j := 4) (dk d_mB_whom 23 rfl) rfl ?_
    refine g_iload_n (pc := 46) (j := 1) (dk d_mB_whom 24 rfl) rfl ?_
    refine h_callVl (d := d + 6) (pc := 47) (na := 2) (av := [pI x5, pI y1]) (k0 := 12) po_12 ⟨_, rfl⟩ ⟨rfl, rfl⟩ (dk d_mB_whom 25 rfl) lk_B_165 vm_mTh_numberIf rfl rfl (Nat.le_of_ble_eq_true rfl) h (fun r6 u5 hq => kTh_numberIf E (d + 1) hq) (fun r6 u5 h => ?_)
    refine g_aload_n (pc := 50) (j := 0) (dk d_mB_whom 26 rfl) rfl (by decide) ?_
    refine g_getR (pc := 51) (a := 12) rfl fp_B_28 po_0 (dk d_mB_whom 27 rfl) ?_
    refine g_iload (pc := 54) (j := 4) (dk d_mB_whom 28 rfl) rfl ?_
    refine g_iload_n (pc := 56) (j := 1) (dk d_mB_whom 29 rfl) rfl ?_
    refine g_iconst (pc := 57) (dk d_mB_whom 30 rfl) (by decide) ?_
    refine g_ixor (pc := 58) (dk d_mB_whom 31 rfl) ?_
    refine h_callVl (d := d + 6) (pc := 59) (na := 2) (av := [pI x5, pI (bXor y1 (-1))]) (k0 := 12) po_12 ⟨_, rfl⟩ ⟨rfl, rfl⟩ (dk d_mB_whom 32 rfl) lk_B_165 vm_mTh_numberIf rfl rfl (Nat.le_of_ble_eq_true rfl) h (fun r8 u7 hq => kTh_numberIf E (d + 1) hq) (fun r8 u7 h => ?_)
    refine g_mmaxL (pc := 62) mm_B_168 (Nat.le_of_ble_eq_true rfl) (by omega) (dk d_mB_whom 33 rfl) ?_
    refine h_bvL h (fun v6_9 h => ?_)
    refine g_lstore (pc := 65) (l' := [(6, pL v6_9), (0, pR 0), (1, pI y1), (2, pI x2), (3, pL x3), (5, pI x5)]) (dk d_mB_whom 34 rfl) (Nat.le_of_ble_eq_true rfl) rfl ?_
    refine g_iload_n (pc := 67) (j := 3) (dk d_mB_whom 35 rfl) rfl ?_
    refine g_bipush (pc := 68) (dk d_mB_whom 36 rfl) (by decide) ?_
    refine jn_e (fun J => ∀ (v2_10 : Int) (v3_11 : Int) (u12 : WD), J v2_10 v3_11 u12 = some res → G E mB_whom (d + 7) 86 [(0, pR 0), (1, pI y1), (2, pI v2_10), (3, pL v3_11), (5, pI x5)] [] u12 RF NN 0 0 (some (pI res.1), res.2, RF, NN)) h (fun v2_10 v3_11 u12 h => ?_) (fun J14 hJ14 h => ?_)
    · refine h_iinc (pc := 86) (j := 4) (dk d_mB_whom 46 rfl) rfl (by decide) (Nat.le_of_ble_eq_true rfl) h (fun v5_13 h => ?_)
      refine g_loc (l' := [(5, pI v5_13), (0, pR 0), (1, pI y1), (2, pI v2_10), (3, pL v3_11)]) rfl ?_
      refine g_goto (pc := 89) (tgt := 28) (dk d_mB_whom 47 rfl) rfl ?_
      refine g_pick [1, 2, 3, 4, 0] rfl (l' := [(0, pR 0), (1, pI y1), (2, pI v2_10), (3, pL v3_11), (5, pI v5_13)]) rfl ?_
      exact hrec _ _ _ _ h
    · refine jn_e (fun J => ∀ (u15 : WD), J u15 = some res → G E mB_whom (d + 7) 80 [(0, pR 0), (1, pI y1), (5, pI x5), (6, pL v6_9)] [] u15 RF NN 0 0 (some (pI res.1), res.2, RF, NN)) h (fun u15 h => ?_) (fun J16 hJ16 h => ?_)
      · refine g_iload (pc := 80) (j := 2) (dk d_mB_whom 42 rfl) rfl ?_
        refine g_istore_n (pc := 82) (l' := [(2, pI x5), (0, pR 0), (1, pI y1), (5, pI x5), (6, pL v6_9)]) (dk d_mB_whom 43 rfl) (Nat.le_of_ble_eq_true rfl) rfl ?_
        refine g_lload (pc := 83) (j := 4) (dk d_mB_whom 44 rfl) rfl ?_
        refine g_lstore_n (pc := 85) (l' := [(3, pL v6_9), (2, pI x5), (0, pR 0), (1, pI y1), (5, pI x5), (6, pL v6_9)]) (dk d_mB_whom 45 rfl) (Nat.le_of_ble_eq_true rfl) rfl ?_
        refine g_pick [2, 3, 1, 0, 4] rfl (l' := [(0, pR 0), (1, pI y1), (2, pI x5), (3, pL v6_9), (5, pI x5)]) rfl ?_
        exact hJ14 _ _ _ h
      · refine h_icmp_eq (pc := 70) (tgt := 80) (dk d_mB_whom 37 rfl) rfl h (fun hc18 h => ?_) (fun hc18 h => ?_)
        · refine g_pick [1, 2, 5, 0] rfl (l' := [(0, pR 0), (1, pI y1), (5, pI x5), (6, pL v6_9)]) rfl ?_
          exact hJ16 _ h
        · refine g_lload (pc := 73) (j := 0) (dk d_mB_whom 38 rfl) rfl ?_
          refine g_lload_n (pc := 75) (j := 4) (dk d_mB_whom 39 rfl) rfl ?_
          refine h_lcmp_ge (pc := 76) (tgt := 86) (dk d_mB_whom 40 rfl) (dk d_mB_whom 41 rfl) rfl h (fun hc17 h => ?_) (fun hc17 h => ?_)
          · refine g_pick [1, 2, 3, 4, 5] rfl (l' := [(0, pR 0), (1, pI y1), (2, pI x2), (3, pL x3), (5, pI x5)]) rfl ?_
            exact hJ14 _ _ _ h
          · refine g_pick [1, 2, 5, 0] rfl (l' := [(0, pR 0), (1, pI y1), (5, pI x5), (6, pL v6_9)]) rfl ?_
            exact hJ16 _ h
set_option maxRecDepth 100000 in
set_option maxHeartbeats 4000000 in
theorem fB_whom_l28_ok (E : Nat × (Int → Int)) (d : Nat) {res : Int × WD} (y1 : Int) : ∀ (k : Nat) (x2 : Int) (x3 : Int) (x5 : Int) (w : WD), fB_whom_l28 y1 k x2 x3 x5 w = some res → G E mB_whom (d + 7) 28 [(0, pR 0), (1, pI y1), (2, pI x2), (3, pL x3), (5, pI x5)] [] w RF NN 0 0 (some (pI res.1), res.2, RF, NN) := by
  intro k
  induction k with
  | zero =>
    intro x2 x3 x5 w h
    exact no_e h
  | succ k ih =>
    intro x2 x3 x5 w h
    exact fB_whom_l28_b_ok E d y1 ih x2 x3 x5 w h
def fB_whom (a1 : Int) (w : WD) : Option (Int × WD) := if a1 < 0 then (some ((-1), w)) else (if a1 < 128 then (cv (fTh_load w) <| fun (u1 : WD) => fB_whom_l28 a1 FU (-2) 0 0 u1) else (some ((-1), w)))
set_option maxRecDepth 100000 in
set_option maxHeartbeats 4000000 in
theorem gB_whom (E : Nat × (Int → Int)) (d : Nat) {res : Int × WD} (a1 : Int) (w : WD) (h : fB_whom a1 w = some res) : G E mB_whom (d + 7) 0 [(0, pR 0), (1, pI a1)] [] w RF NN 0 0 (some (pI res.1), res.2, RF, NN) := by
  unfold fB_whom at h
  refine g_iload_n (pc := 0) (j := 1) (dk d_mB_whom 0 rfl) rfl ?_
  refine h_if_lt (pc := 1) (tgt := 11) (dk d_mB_whom 1 rfl) rfl h (fun hc21 h => ?_) (fun hc21 h => ?_)
  · refine g_iconst (pc := 11) (dk d_mB_whom 5 rfl) (by decide) ?_
    exact h_iret (pc := 12) rfl (dk d_mB_whom 6 rfl) h
  · refine g_iload_n (pc := 4) (j := 1) (dk d_mB_whom 2 rfl) rfl ?_
    refine g_sipush (pc := 5) (dk d_mB_whom 3 rfl) (by decide) ?_
    refine h_icmp_lt (pc := 8) (tgt := 13) (dk d_mB_whom 4 rfl) rfl h (fun hc20 h => ?_) (fun hc20 h => ?_)
    · refine g_aload_n (pc := 13) (j := 0) (dk d_mB_whom 7 rfl) rfl (by decide) ?_
      refine g_getR (pc := 14) (a := 12) rfl fp_B_28 po_0 (dk d_mB_whom 8 rfl) ?_
      refine h_callVv (d := d + 6) (pc := 17) (na := 0) (av := []) (k0 := 12) po_12 ⟨_, rfl⟩ ⟨rfl, rfl⟩ (dk d_mB_whom 9 rfl) lk_B_127 vm_mTh_load rfl rfl (Nat.le_of_ble_eq_true rfl) h (fun u1 hq => kTh_load E (d + 0) hq) (fun u1 h => ?_)
      refine g_bipush (pc := 20) (dk d_mB_whom 10 rfl) (by decide) ?_
      refine g_istore_n (pc := 22) (l' := [(2, pI (-2)), (0, pR 0), (1, pI a1)]) (dk d_mB_whom 11 rfl) (Nat.le_of_ble_eq_true rfl) rfl ?_
      refine g_lconst0 (pc := 23) (dk d_mB_whom 12 rfl) ?_
      refine g_lstore_n (pc := 24) (l' := [(3, pL 0), (2, pI (-2)), (0, pR 0), (1, pI a1)]) (dk d_mB_whom 13 rfl) (Nat.le_of_ble_eq_true rfl) rfl ?_
      refine g_iconst (pc := 25) (dk d_mB_whom 14 rfl) (by decide) ?_
      refine g_istore (pc := 26) (l' := [(5, pI 0), (3, pL 0), (2, pI (-2)), (0, pR 0), (1, pI a1)]) (dk d_mB_whom 15 rfl) (Nat.le_of_ble_eq_true rfl) rfl ?_
      refine g_pick [3, 4, 2, 1, 0] rfl (l' := [(0, pR 0), (1, pI a1), (2, pI (-2)), (3, pL 0), (5, pI 0)]) rfl ?_
      refine fB_whom_l28_ok E d a1 FU _ _ _  _ h
    · refine g_iconst (pc := 11) (dk d_mB_whom 5 rfl) (by decide) ?_
      exact h_iret (pc := 12) rfl (dk d_mB_whom 6 rfl) h
set_option maxRecDepth 100000 in
set_option maxHeartbeats 4000000 in
theorem kB_whom (E : Nat × (Int → Int)) (d : Nat) {a1 : Int} {w w1 : WD} {r : Int} (h : fB_whom a1 w = some (r, w1)) : CTi E mB_whom (d + 7) [pR 0, pI a1] w RF NN r w1 RF NN := by
  exact CTi_of (by decide +kernel) (Nat.le_of_ble_eq_true rfl) (Or.inl rfl) (gB_whom (res := (r, w1)) E d a1 w h)
def fB_isMinute (a0 : Int) (w : WD) : Option (Int × WD) := if a0 < 0 then (some (0, w)) else (if 1000 ≤ a0 then (some (0, w)) else (some (1, w)))
set_option maxRecDepth 100000 in
set_option maxHeartbeats 4000000 in
theorem gB_isMinute (E : Nat × (Int → Int)) (d : Nat) {res : Int × WD} (a0 : Int) (w : WD) (h : fB_isMinute a0 w = some res) : G E mB_isMinute (d + 1) 0 [(0, pI a0)] [] w RF NN 0 0 (some (pI res.1), res.2, RF, NN) := by
  unfold fB_isMinute at h
  refine g_iload_n (pc := 0) (j := 0) (dk d_mB_isMinute 0 rfl) rfl ?_
  refine h_if_lt (pc := 1) (tgt := 15) (dk d_mB_isMinute 1 rfl) rfl h (fun hc2 h => ?_) (fun hc2 h => ?_)
  · refine g_iconst (pc := 15) (dk d_mB_isMinute 7 rfl) (by decide) ?_
    exact h_zret (pc := 16) (Or.inl rfl) (dk d_mB_isMinute 8 rfl) h
  · refine g_iload_n (pc := 4) (j := 0) (dk d_mB_isMinute 2 rfl) rfl ?_
    refine g_sipush (pc := 5) (dk d_mB_isMinute 3 rfl) (by decide) ?_
    refine h_icmp_ge (pc := 8) (tgt := 15) (dk d_mB_isMinute 4 rfl) rfl h (fun hc1 h => ?_) (fun hc1 h => ?_)
    · refine g_iconst (pc := 15) (dk d_mB_isMinute 7 rfl) (by decide) ?_
      exact h_zret (pc := 16) (Or.inl rfl) (dk d_mB_isMinute 8 rfl) h
    · refine g_iconst (pc := 11) (dk d_mB_isMinute 5 rfl) (by decide) ?_
      refine g_goto (pc := 12) (tgt := 16) (dk d_mB_isMinute 6 rfl) rfl ?_
      exact h_zret (pc := 16) (Or.inr rfl) (dk d_mB_isMinute 8 rfl) h
set_option maxRecDepth 100000 in
set_option maxHeartbeats 4000000 in
theorem kB_isMinute (E : Nat × (Int → Int)) (d : Nat) {a0 : Int} {w w1 : WD} {r : Int} (h : fB_isMinute a0 w = some (r, w1)) : CTi E mB_isMinute (d + 1) [pI a0] w RF NN r w1 RF NN := by
  exact CTi_of (by decide +kernel) (Nat.le_of_ble_eq_true rfl) (Or.inr rfl) (gB_isMinute (res := (r, w1)) E d a0 w h)
def fHa_pointsAt (a1 : Int) (w : WD) : Option (Int × WD) := ci (fHa_at 0 11 w) <| fun (r2 : Int) (u1 : WD) => if r2 ≤ a1 then (some (1, u1)) else (some (2, u1))
set_option maxRecDepth 100000 in
set_option maxHeartbeats 4000000 in
theorem gHa_pointsAt (E : Nat × (Int → Int)) (d : Nat) {res : Int × WD} (a1 : Int) (w : WD) (h : fHa_pointsAt a1 w = some res) : G E mHa_pointsAt (d + 3) 0 [(0, pR 1), (1, pI a1)] [] w RF NN 0 0 (some (pI res.1), res.2, RF, NN) := by
  unfold fHa_pointsAt at h
  refine g_iload_n (pc := 0) (j := 1) (dk d_mHa_pointsAt 0 rfl) rfl ?_
  refine g_aload_n (pc := 1) (j := 0) (dk d_mHa_pointsAt 1 rfl) rfl (by decide) ?_
  refine g_iconst (pc := 2) (dk d_mHa_pointsAt 2 rfl) (by decide) ?_
  refine g_bipush (pc := 3) (dk d_mHa_pointsAt 3 rfl) (by decide) ?_
  refine h_callVi (d := d + 2) (pc := 5) (na := 2) (av := [pI 0, pI 11]) (k0 := 1) po_1 ⟨_, rfl⟩ ⟨rfl, rfl⟩ (dk d_mHa_pointsAt 4 rfl) lk_Ha_77 vm_mHa_at rfl rfl (Nat.le_of_ble_eq_true rfl) h (fun r2 u1 hq => kHa_at E (d + 0) hq) (fun r2 u1 hb3 h => ?_)
  refine h_icmp_ge (pc := 8) (tgt := 15) (dk d_mHa_pointsAt 5 rfl) rfl h (fun hc4 h => ?_) (fun hc4 h => ?_)
  · refine g_iconst (pc := 15) (dk d_mHa_pointsAt 8 rfl) (by decide) ?_
    exact h_iret (pc := 16) rfl (dk d_mHa_pointsAt 9 rfl) h
  · refine g_iconst (pc := 11) (dk d_mHa_pointsAt 6 rfl) (by decide) ?_
    refine g_goto (pc := 12) (tgt := 16) (dk d_mHa_pointsAt 7 rfl) rfl ?_
    exact h_iret (pc := 16) rfl (dk d_mHa_pointsAt 9 rfl) h
set_option maxRecDepth 100000 in
set_option maxHeartbeats 4000000 in
theorem kHa_pointsAt (E : Nat × (Int → Int)) (d : Nat) {a1 : Int} {w w1 : WD} {r : Int} (h : fHa_pointsAt a1 w = some (r, w1)) : CTi E mHa_pointsAt (d + 3) [pR 1, pI a1] w RF NN r w1 RF NN := by
  exact CTi_of (by decide +kernel) (Nat.le_of_ble_eq_true rfl) (Or.inl rfl) (gHa_pointsAt (res := (r, w1)) E d a1 w h)
def fTh_likeliest_l8_b (rec : Int → Int → Int → WD → Option (Int × WD)) (y1 : Int) (x2 : Int) (x3 : Int) (x5 : Int) (w : WD) : Option (Int × WD) := if 7 ≤ x5 then (some (x2, w)) else (ci (fHa_isOne x5 w) <| fun (r2 : Int) (u1 : WD) => jn (β := Int → Int → WD → Option (Int × WD)) (fun (v2_4 : Int) (v3_5 : Int) (u6 : WD) => bv (w32 (x5 + 1)) <| fun (v5_7 : Int) => rec v2_4 v3_5 v5_7 u6) <| fun J8 => if r2 = 0 then (J8 x2 x3 u1) else (ci (fTh_togetherIf y1 (bShl 1 x5) u1) <| fun (r10 : Int) (u9 : WD) => jn (β := WD → Option (Int × WD)) (fun (u11 : WD) => J8 x5 r10 u11) <| fun J12 => if x2 = (-2) then (J12 u9) else (if r10 ≤ x3 then (J8 x2 x3 u9) else (J12 u9))))
def fTh_likeliest_l8 (y1 : Int) : Nat → Int → Int → Int → WD → Option (Int × WD)
  | 0 => fun _ _ _ _ => none
  | k + 1 => fTh_likeliest_l8_b ( fTh_likeliest_l8 y1 k) y1
set_option maxRecDepth 100000 in
set_option maxHeartbeats 4000000 in
theorem fTh_likeliest_l8_b_ok (E : Nat × (Int → Int)) (d : Nat) {res : Int × WD} {rec : Int → Int → Int → WD → Option (Int × WD)} (y1 : Int) (hrec : ∀ (x2 : Int) (x3 : Int) (x5 : Int) (w : WD), rec x2 x3 x5 w = some res → G E mTh_likeliest (d + 6) 8 [(0, pR 12), (1, pI y1), (2, pI x2), (3, pL x3), (5, pI x5)] [] w RF NN 0 0 (some (pI res.1), res.2, RF, NN)) (x2 : Int) (x3 : Int) (x5 : Int) (w : WD) (h : fTh_likeliest_l8_b rec y1 x2 x3 x5 w = some res) : G E mTh_likeliest (d + 6) 8 [(0, pR 12), (1, pI y1), (2, pI x2), (3, pL x3), (5, pI x5)] [] w RF NN 0 0 (some (pI res.1), res.2, RF, NN) := by
  unfold fTh_likeliest_l8_b at h
  refine g_iload (pc := 8) (j := 4) (dk d_mTh_likeliest 6 rfl) rfl ?_
  refine g_bipush (pc := 10) (dk d_mTh_likeliest 7 rfl) (by decide) ?_
  refine h_icmp_ge (pc := 12) (tgt := 63) (dk d_mTh_likeliest 8 rfl) rfl h (fun hc16 h => ?_) (fun hc16 h => ?_)
  · refine g_iload_n (pc := 63) (j := 2) (dk d_mTh_likeliest 34 rfl) rfl ?_
    exact h_iret (pc := 64) rfl (dk d_mTh_likeliest 35 rfl) h
  · refine g_aload_n (pc := 15) (j := 0) (dk d_mTh_likeliest 9 rfl) rfl (by decide) ?_
    refine g_getR (pc := 16) (a := 1) rfl fp_Th_31 po_12 (dk d_mTh_likeliest 10 rfl) ?_
    refine g_iload (pc := 19) (j := 4) (dk d_mTh_likeliest 11 rfl) rfl ?_
    refine h_callVi (d := d + 5) (pc := 21) (na := 1) (av := [pI x5]) (k0 := 1) po_1 ⟨_, rfl⟩ ⟨rfl, rfl⟩ (dk d_mTh_likeliest 12 rfl) lk_Th_55 vm_mHa_isOne rfl rfl (Nat.le_of_ble_eq_true rfl) h (fun r2 u1 hq => kHa_isOne E (d + 4) hq) (fun r2 u1 hb3 h => ?_)
    refine jn_e (fun J => ∀ (v2_4 : Int) (v3_5 : Int) (u6 : WD), J v2_4 v3_5 u6 = some res → G E mTh_likeliest (d + 6) 57 [(0, pR 12), (1, pI y1), (2, pI v2_4), (3, pL v3_5), (5, pI x5)] [] u6 RF NN 0 0 (some (pI res.1), res.2, RF, NN)) h (fun v2_4 v3_5 u6 h => ?_) (fun J8 hJ8 h => ?_)
    · refine h_iinc (pc := 57) (j := 4) (dk d_mTh_likeliest 32 rfl) rfl (by decide) (Nat.le_of_ble_eq_true rfl) h (fun v5_7 h => ?_)
      refine g_loc (l' := [(5, pI v5_7), (0, pR 12), (1, pI y1), (2, pI v2_4), (3, pL v3_5)]) rfl ?_
      refine g_goto (pc := 60) (tgt := 8) (dk d_mTh_likeliest 33 rfl) rfl ?_
      refine g_pick [1, 2, 3, 4, 0] rfl (l' := [(0, pR 12), (1, pI y1), (2, pI v2_4), (3, pL v3_5), (5, pI v5_7)]) rfl ?_
      exact hrec _ _ _ _ h
    · refine h_if_eq (pc := 24) (tgt := 57) (dk d_mTh_likeliest 13 rfl) rfl h (fun hc15 h => ?_) (fun hc15 h => ?_)
      · exact hJ8 _ _ _ h
      · refine g_aload_n (pc := 27) (j := 0) (dk d_mTh_likeliest 14 rfl) rfl (by decide) ?_
        refine g_iload_n (pc := 28) (j := 1) (dk d_mTh_likeliest 15 rfl) rfl ?_
        refine g_iconst (pc := 29) (dk d_mTh_likeliest 16 rfl) (by decide) ?_
        refine g_iload (pc := 30) (j := 4) (dk d_mTh_likeliest 17 rfl) rfl ?_
        refine g_ishl (pc := 32) (dk d_mTh_likeliest 18 rfl) ?_
        refine h_callVl (d := d + 5) (pc := 33) (na := 2) (av := [pI y1, pI (bShl 1 x5)]) (k0 := 12) po_12 ⟨_, rfl⟩ ⟨rfl, rfl⟩ (dk d_mTh_likeliest 19 rfl) lk_Th_138 vm_mTh_togetherIf rfl rfl (Nat.le_of_ble_eq_true rfl) h (fun r10 u9 hq => kTh_togetherIf E (d + 0) hq) (fun r10 u9 h => ?_)
        refine g_lstore (pc := 36) (l' := [(6, pL r10), (0, pR 12), (1, pI y1), (2, pI x2), (3, pL x3), (5, pI x5)]) (dk d_mTh_likeliest 20 rfl) (Nat.le_of_ble_eq_true rfl) rfl ?_
        refine g_iload_n (pc := 38) (j := 3) (dk d_mTh_likeliest 21 rfl) rfl ?_
        refine g_bipush (pc := 39) (dk d_mTh_likeliest 22 rfl) (by decide) ?_
        refine jn_e (fun J => ∀ (u11 : WD), J u11 = some res → G E mTh_likeliest (d + 6) 51 [(0, pR 12), (1, pI y1), (5, pI x5), (6, pL r10)] [] u11 RF NN 0 0 (some (pI res.1), res.2, RF, NN)) h (fun u11 h => ?_) (fun J12 hJ12 h => ?_)
        · refine g_iload (pc := 51) (j := 2) (dk d_mTh_likeliest 28 rfl) rfl ?_
          refine g_istore_n (pc := 53) (l' := [(2, pI x5), (0, pR 12), (1, pI y1), (5, pI x5), (6, pL r10)]) (dk d_mTh_likeliest 29 rfl) (Nat.le_of_ble_eq_true rfl) rfl ?_
          refine g_lload (pc := 54) (j := 4) (dk d_mTh_likeliest 30 rfl) rfl ?_
          refine g_lstore_n (pc := 56) (l' := [(3, pL r10), (2, pI x5), (0, pR 12), (1, pI y1), (5, pI x5), (6, pL r10)]) (dk d_mTh_likeliest 31 rfl) (Nat.le_of_ble_eq_true rfl) rfl ?_
          refine g_pick [2, 3, 1, 0, 4] rfl (l' := [(0, pR 12), (1, pI y1), (2, pI x5), (3, pL r10), (5, pI x5)]) rfl ?_
          exact hJ8 _ _ _ h
        · refine h_icmp_eq (pc := 41) (tgt := 51) (dk d_mTh_likeliest 23 rfl) rfl h (fun hc14 h => ?_) (fun hc14 h => ?_)
          · refine g_pick [1, 2, 5, 0] rfl (l' := [(0, pR 12), (1, pI y1), (5, pI x5), (6, pL r10)]) rfl ?_
            exact hJ12 _ h
          · refine g_lload (pc := 44) (j := 0) (dk d_mTh_likeliest 24 rfl) rfl ?_
            refine g_lload_n (pc := 46) (j := 4) (dk d_mTh_likeliest 25 rfl) rfl ?_
            refine h_lcmp_le (pc := 47) (tgt := 57) (dk d_mTh_likeliest 26 rfl) (dk d_mTh_likeliest 27 rfl) rfl h (fun hc13 h => ?_) (fun hc13 h => ?_)
            · refine g_pick [1, 2, 3, 4, 5] rfl (l' := [(0, pR 12), (1, pI y1), (2, pI x2), (3, pL x3), (5, pI x5)]) rfl ?_
              exact hJ8 _ _ _ h
            · refine g_pick [1, 2, 5, 0] rfl (l' := [(0, pR 12), (1, pI y1), (5, pI x5), (6, pL r10)]) rfl ?_
              exact hJ12 _ h
set_option maxRecDepth 100000 in
set_option maxHeartbeats 4000000 in
theorem fTh_likeliest_l8_ok (E : Nat × (Int → Int)) (d : Nat) {res : Int × WD} (y1 : Int) : ∀ (k : Nat) (x2 : Int) (x3 : Int) (x5 : Int) (w : WD), fTh_likeliest_l8 y1 k x2 x3 x5 w = some res → G E mTh_likeliest (d + 6) 8 [(0, pR 12), (1, pI y1), (2, pI x2), (3, pL x3), (5, pI x5)] [] w RF NN 0 0 (some (pI res.1), res.2, RF, NN) := by
  intro k
  induction k with
  | zero =>
    intro x2 x3 x5 w h
    exact no_e h
  | succ k ih =>
    intro x2 x3 x5 w h
    exact fTh_likeliest_l8_b_ok E d y1 ih x2 x3 x5 w h
def fTh_likeliest (a1 : Int) (w : WD) : Option (Int × WD) := fTh_likeliest_l8 a1 FU (-2) 0 0 w
set_option maxRecDepth 100000 in
set_option maxHeartbeats 4000000 in
theorem gTh_likeliest (E : Nat × (Int → Int)) (d : Nat) {res : Int × WD} (a1 : Int) (w : WD) (h : fTh_likeliest a1 w = some res) : G E mTh_likeliest (d + 6) 0 [(0, pR 12), (1, pI a1)] [] w RF NN 0 0 (some (pI res.1), res.2, RF, NN) := by
  unfold fTh_likeliest at h
  refine g_bipush (pc := 0) (dk d_mTh_likeliest 0 rfl) (by decide) ?_
  refine g_istore_n (pc := 2) (l' := [(2, pI (-2)), (0, pR 12), (1, pI a1)]) (dk d_mTh_likeliest 1 rfl) (Nat.le_of_ble_eq_true rfl) rfl ?_
  refine g_lconst0 (pc := 3) (dk d_mTh_likeliest 2 rfl) ?_
  refine g_lstore_n (pc := 4) (l' := [(3, pL 0), (2, pI (-2)), (0, pR 12), (1, pI a1)]) (dk d_mTh_likeliest 3 rfl) (Nat.le_of_ble_eq_true rfl) rfl ?_
  refine g_iconst (pc := 5) (dk d_mTh_likeliest 4 rfl) (by decide) ?_
  refine g_istore (pc := 6) (l' := [(5, pI 0), (3, pL 0), (2, pI (-2)), (0, pR 12), (1, pI a1)]) (dk d_mTh_likeliest 5 rfl) (Nat.le_of_ble_eq_true rfl) rfl ?_
  refine g_pick [3, 4, 2, 1, 0] rfl (l' := [(0, pR 12), (1, pI a1), (2, pI (-2)), (3, pL 0), (5, pI 0)]) rfl ?_
  refine fTh_likeliest_l8_ok E d a1 FU _ _ _  _ h
set_option maxRecDepth 100000 in
set_option maxHeartbeats 4000000 in
theorem kTh_likeliest (E : Nat × (Int → Int)) (d : Nat) {a1 : Int} {w w1 : WD} {r : Int} (h : fTh_likeliest a1 w = some (r, w1)) : CTi E mTh_likeliest (d + 6) [pR 12, pI a1] w RF NN r w1 RF NN := by
  exact CTi_of (by decide +kernel) (Nat.le_of_ble_eq_true rfl) (Or.inl rfl) (gTh_likeliest (res := (r, w1)) E d a1 w h)
def fTh_cut_l21_b (rec : Int → Int → Int → WD → Option (Int × WD)) (y2 : Int) (y4 : Int) (K0 : Int → WD → Option (Int × WD)) (x5 : Int) (x7 : Int) (x9 : Int) (w : WD) : Option (Int × WD) := if y4 ≤ x9 then (K0 x5 w) else (bv (w64 (x7 * 10)) <| fun (v7_3 : Int) => ck (y2 ≠ 0) <| bv (w64 ((w64 (10 * x5)) + (w64 (Int.tdiv v7_3 y2)))) <| fun (v5_4 : Int) => ck (y2 ≠ 0) <| bv (w64 (v7_3 - w64 (w64 (Int.tdiv v7_3 y2) * y2))) <| fun (v7_5 : Int) => bv (w32 (x9 + 1)) <| fun (v9_6 : Int) => rec v5_4 v7_5 v9_6 w)
def fTh_cut_l21 (y2 : Int) (y4 : Int) (K0 : Int → WD → Option (Int × WD)) : Nat → Int → Int → Int → WD → Option (Int × WD)
  | 0 => fun _ _ _ _ => none
  | k + 1 => fTh_cut_l21_b ( fTh_cut_l21 y2 y4 K0 k) y2 y4 K0
set_option maxRecDepth 100000 in
set_option maxHeartbeats 4000000 in
theorem fTh_cut_l21_b_ok (E : Nat × (Int → Int)) (d : Nat) {res : Int × WD} {rec : Int → Int → Int → WD → Option (Int × WD)} (y2 : Int) (y4 : Int) (K0 : Int → WD → Option (Int × WD)) (hrec : ∀ (x5 : Int) (x7 : Int) (x9 : Int) (w : WD), rec x5 x7 x9 w = some res → G E mTh_cut (d + 1) 21 [(2, pL y2), (4, pI y4), (5, pL x5), (7, pL x7), (9, pI x9)] [] w RF NN 0 0 (some (pI res.1), res.2, RF, NN)) (hK0 : ∀ (x5 : Int) (w : WD), K0 x5 w = some res → G E mTh_cut (d + 1) 61 [(5, pL x5)] [] w RF NN 0 0 (some (pI res.1), res.2, RF, NN)) (x5 : Int) (x7 : Int) (x9 : Int) (w : WD) (h : fTh_cut_l21_b rec y2 y4 K0 x5 x7 x9 w = some res) : G E mTh_cut (d + 1) 21 [(2, pL y2), (4, pI y4), (5, pL x5), (7, pL x7), (9, pI x9)] [] w RF NN 0 0 (some (pI res.1), res.2, RF, NN) := by
  unfold fTh_cut_l21_b at h
  refine g_iload (pc := 21) (j := 4) (dk d_mTh_cut 16 rfl) rfl ?_
  refine g_iload (pc := 23) (j := 1) (dk d_mTh_cut 17 rfl) rfl ?_
  refine h_icmp_ge (pc := 25) (tgt := 61) (dk d_mTh_cut 18 rfl) rfl h (fun hc7 h => ?_) (fun hc7 h => ?_)
  · refine g_pick [2] rfl (l' := [(5, pL x5)]) rfl ?_
    exact hK0 _ _ h
  · refine g_lload (pc := 28) (j := 3) (dk d_mTh_cut 19 rfl) rfl ?_
    refine g_ldc2 (pc := 30) (u := 10) ck_Th_151 (by decide) (dk d_mTh_cut 20 rfl) ?_
    refine g_lmul (pc := 33) (dk d_mTh_cut 21 rfl) ?_
    refine h_bvL h (fun v7_3 h => ?_)
    refine g_lstore (pc := 34) (l' := [(7, pL v7_3), (2, pL y2), (4, pI y4), (5, pL x5), (9, pI x9)]) (dk d_mTh_cut 22 rfl) (Nat.le_of_ble_eq_true rfl) rfl ?_
    refine g_ldc2 (pc := 36) (u := 10) ck_Th_151 (by decide) (dk d_mTh_cut 23 rfl) ?_
    refine g_lload (pc := 39) (j := 3) (dk d_mTh_cut 24 rfl) rfl ?_
    refine g_lmul (pc := 41) (dk d_mTh_cut 25 rfl) ?_
    refine g_lload (pc := 42) (j := 0) (dk d_mTh_cut 26 rfl) rfl ?_
    refine g_lload_n (pc := 44) (j := 1) (dk d_mTh_cut 27 rfl) rfl ?_
    refine h_ldiv (pc := 45) (dk d_mTh_cut 28 rfl) h (fun h => ?_)
    refine g_ladd (pc := 46) (dk d_mTh_cut 29 rfl) ?_
    refine h_bvL h (fun v5_4 h => ?_)
    refine g_lstore (pc := 47) (l' := [(5, pL v5_4), (7, pL v7_3), (2, pL y2), (4, pI y4), (9, pI x9)]) (dk d_mTh_cut 30 rfl) (Nat.le_of_ble_eq_true rfl) rfl ?_
    refine g_lload (pc := 49) (j := 1) (dk d_mTh_cut 31 rfl) rfl ?_
    refine g_lload_n (pc := 51) (j := 2) (dk d_mTh_cut 32 rfl) rfl ?_
    refine h_lrem (pc := 52) (dk d_mTh_cut 33 rfl) h (fun h => ?_)
    refine h_bvL h (fun v7_5 h => ?_)
    refine g_lstore (pc := 53) (l' := [(7, pL v7_5), (5, pL v5_4), (2, pL y2), (4, pI y4), (9, pI x9)]) (dk d_mTh_cut 34 rfl) (Nat.le_of_ble_eq_true rfl) rfl ?_
    refine h_iinc (pc := 55) (j := 4) (dk d_mTh_cut 35 rfl) rfl (by decide) (Nat.le_of_ble_eq_true rfl) h (fun v9_6 h => ?_)
    refine g_loc (l' := [(9, pI v9_6), (7, pL v7_5), (5, pL v5_4), (2, pL y2), (4, pI y4)]) rfl ?_
    refine g_goto (pc := 58) (tgt := 21) (dk d_mTh_cut 36 rfl) rfl ?_
    refine g_pick [3, 4, 2, 1, 0] rfl (l' := [(2, pL y2), (4, pI y4), (5, pL v5_4), (7, pL v7_5), (9, pI v9_6)]) rfl ?_
    exact hrec _ _ _ _ h
set_option maxRecDepth 100000 in
set_option maxHeartbeats 4000000 in
theorem fTh_cut_l21_ok (E : Nat × (Int → Int)) (d : Nat) {res : Int × WD} (y2 : Int) (y4 : Int) (K0 : Int → WD → Option (Int × WD)) (hK0 : ∀ (x5 : Int) (w : WD), K0 x5 w = some res → G E mTh_cut (d + 1) 61 [(5, pL x5)] [] w RF NN 0 0 (some (pI res.1), res.2, RF, NN)) : ∀ (k : Nat) (x5 : Int) (x7 : Int) (x9 : Int) (w : WD), fTh_cut_l21 y2 y4 K0 k x5 x7 x9 w = some res → G E mTh_cut (d + 1) 21 [(2, pL y2), (4, pI y4), (5, pL x5), (7, pL x7), (9, pI x9)] [] w RF NN 0 0 (some (pI res.1), res.2, RF, NN) := by
  intro k
  induction k with
  | zero =>
    intro x5 x7 x9 w h
    exact no_e h
  | succ k ih =>
    intro x5 x7 x9 w h
    exact fTh_cut_l21_b_ok E d y2 y4 K0 ih hK0 x5 x7 x9 w h
def fTh_cut (a0 : Int) (a2 : Int) (a4 : Int) (w : WD) : Option (Int × WD) := if 0 < a2 then (ck (a2 ≠ 0) <| bv (w64 (Int.tdiv a0 a2)) <| fun (v5_1 : Int) => ck (a2 ≠ 0) <| bv (w64 (a0 - w64 (w64 (Int.tdiv a0 a2) * a2))) <| fun (v7_2 : Int) => fTh_cut_l21 a2 a4 (fun (v5_8 : Int) (u9 : WD) => some ((w32 v5_8), u9)) FU v5_1 v7_2 0 w) else (some (0, w))
set_option maxRecDepth 100000 in
set_option maxHeartbeats 4000000 in
theorem gTh_cut (E : Nat × (Int → Int)) (d : Nat) {res : Int × WD} (a0 : Int) (a2 : Int) (a4 : Int) (w : WD) (h : fTh_cut a0 a2 a4 w = some res) : G E mTh_cut (d + 1) 0 [(0, pL a0), (2, pL a2), (4, pI a4)] [] w RF NN 0 0 (some (pI res.1), res.2, RF, NN) := by
  unfold fTh_cut at h
  refine g_lload_n (pc := 0) (j := 1) (dk d_mTh_cut 0 rfl) rfl ?_
  refine g_lconst0 (pc := 1) (dk d_mTh_cut 1 rfl) ?_
  refine h_lcmp_gt (pc := 2) (tgt := 8) (dk d_mTh_cut 2 rfl) (dk d_mTh_cut 3 rfl) rfl h (fun hc10 h => ?_) (fun hc10 h => ?_)
  · refine g_lload_n (pc := 8) (j := 0) (dk d_mTh_cut 6 rfl) rfl ?_
    refine g_lload_n (pc := 9) (j := 1) (dk d_mTh_cut 7 rfl) rfl ?_
    refine h_ldiv (pc := 10) (dk d_mTh_cut 8 rfl) h (fun h => ?_)
    refine h_bvL h (fun v5_1 h => ?_)
    refine g_lstore (pc := 11) (l' := [(5, pL v5_1), (0, pL a0), (2, pL a2), (4, pI a4)]) (dk d_mTh_cut 9 rfl) (Nat.le_of_ble_eq_true rfl) rfl ?_
    refine g_lload_n (pc := 13) (j := 1) (dk d_mTh_cut 10 rfl) rfl ?_
    refine g_lload_n (pc := 14) (j := 2) (dk d_mTh_cut 11 rfl) rfl ?_
    refine h_lrem (pc := 15) (dk d_mTh_cut 12 rfl) h (fun h => ?_)
    refine h_bvL h (fun v7_2 h => ?_)
    refine g_lstore (pc := 16) (l' := [(7, pL v7_2), (5, pL v5_1), (0, pL a0), (2, pL a2), (4, pI a4)]) (dk d_mTh_cut 13 rfl) (Nat.le_of_ble_eq_true rfl) rfl ?_
    refine g_iconst (pc := 18) (dk d_mTh_cut 14 rfl) (by decide) ?_
    refine g_istore (pc := 19) (l' := [(9, pI 0), (7, pL v7_2), (5, pL v5_1), (0, pL a0), (2, pL a2), (4, pI a4)]) (dk d_mTh_cut 15 rfl) (Nat.le_of_ble_eq_true rfl) rfl ?_
    refine g_pick [4, 5, 2, 1, 0] rfl (l' := [(2, pL a2), (4, pI a4), (5, pL v5_1), (7, pL v7_2), (9, pI 0)]) rfl ?_
    refine fTh_cut_l21_ok E d a2 a4 _  (fun v5_8 u9 h => ?_) FU _ _ _  _ h
    · refine g_lload (pc := 61) (j := 0) (dk d_mTh_cut 37 rfl) rfl ?_
      refine g_l2i (pc := 63) (dk d_mTh_cut 38 rfl) ?_
      exact h_iret (pc := 64) rfl (dk d_mTh_cut 39 rfl) h
  · refine g_iconst (pc := 6) (dk d_mTh_cut 4 rfl) (by decide) ?_
    exact h_iret (pc := 7) rfl (dk d_mTh_cut 5 rfl) h
set_option maxRecDepth 100000 in
set_option maxHeartbeats 4000000 in
theorem kTh_cut (E : Nat × (Int → Int)) (d : Nat) {a0 : Int} {a2 : Int} {a4 : Int} {w w1 : WD} {r : Int} (h : fTh_cut a0 a2 a4 w = some (r, w1)) : CTi E mTh_cut (d + 1) [pL a0, pL a2, pI a4] w RF NN r w1 RF NN := by
  exact CTi_of (by decide +kernel) (Nat.le_of_ble_eq_true rfl) (Or.inl rfl) (gTh_cut (res := (r, w1)) E d a0 a2 a4 w h)
def fTh_worthOfGuess (a1 : Int) (a2 : Int) (w : WD) : Option (Int × WD) := ci (fTh_likeliest a1 w) <| fun (r2 : Int) (u1 : WD) => ci (fTh_togetherIf a1 (bShl 1 r2) u1) <| fun (r5 : Int) (u4 : WD) => ci (fTh_together u4) <| fun (r7 : Int) (u6 : WD) => ci (fTh_cut (w64 (a2 * r5)) r7 3 u6) <| fun (r9 : Int) (u8 : WD) => some (r9, u8)
set_option maxRecDepth 100000 in
set_option maxHeartbeats 4000000 in
theorem gTh_worthOfGuess (E : Nat × (Int → Int)) (d : Nat) {res : Int × WD} (a1 : Int) (a2 : Int) (w : WD) (h : fTh_worthOfGuess a1 a2 w = some res) : G E mTh_worthOfGuess (d + 7) 0 [(0, pR 12), (1, pI a1), (2, pI a2)] [] w RF NN 0 0 (some (pI res.1), res.2, RF, NN) := by
  unfold fTh_worthOfGuess at h
  refine g_aload_n (pc := 0) (j := 0) (dk d_mTh_worthOfGuess 0 rfl) rfl (by decide) ?_
  refine g_iload_n (pc := 1) (j := 1) (dk d_mTh_worthOfGuess 1 rfl) rfl ?_
  refine g_iconst (pc := 2) (dk d_mTh_worthOfGuess 2 rfl) (by decide) ?_
  refine g_aload_n (pc := 3) (j := 0) (dk d_mTh_worthOfGuess 3 rfl) rfl (by decide) ?_
  refine g_iload_n (pc := 4) (j := 1) (dk d_mTh_worthOfGuess 4 rfl) rfl ?_
  refine h_callVi (d := d + 6) (pc := 5) (na := 1) (av := [pI a1]) (k0 := 12) po_12 ⟨_, rfl⟩ ⟨rfl, rfl⟩ (dk d_mTh_worthOfGuess 5 rfl) lk_Th_141 vm_mTh_likeliest rfl rfl (Nat.le_of_ble_eq_true rfl) h (fun r2 u1 hq => kTh_likeliest E (d + 0) hq) (fun r2 u1 hb3 h => ?_)
  refine g_ishl (pc := 8) (dk d_mTh_worthOfGuess 6 rfl) ?_
  refine h_callVl (d := d + 6) (pc := 9) (na := 2) (av := [pI a1, pI (bShl 1 r2)]) (k0 := 12) po_12 ⟨_, rfl⟩ ⟨rfl, rfl⟩ (dk d_mTh_worthOfGuess 7 rfl) lk_Th_138 vm_mTh_togetherIf rfl rfl (Nat.le_of_ble_eq_true rfl) h (fun r5 u4 hq => kTh_togetherIf E (d + 1) hq) (fun r5 u4 h => ?_)
  refine g_lstore_n (pc := 12) (l' := [(3, pL r5), (0, pR 12), (1, pI a1), (2, pI a2)]) (dk d_mTh_worthOfGuess 8 rfl) (Nat.le_of_ble_eq_true rfl) rfl ?_
  refine g_iload_n (pc := 13) (j := 3) (dk d_mTh_worthOfGuess 9 rfl) rfl ?_
  refine g_i2l (pc := 14) (dk d_mTh_worthOfGuess 10 rfl) ?_
  refine g_lload_n (pc := 15) (j := 0) (dk d_mTh_worthOfGuess 11 rfl) rfl ?_
  refine g_lmul (pc := 16) (dk d_mTh_worthOfGuess 12 rfl) ?_
  refine g_aload_n (pc := 17) (j := 1) (dk d_mTh_worthOfGuess 13 rfl) rfl (by decide) ?_
  refine h_callVl (d := d + 6) (pc := 18) (na := 0) (av := []) (k0 := 12) po_12 ⟨_, rfl⟩ ⟨rfl, rfl⟩ (dk d_mTh_worthOfGuess 14 rfl) lk_Th_144 vm_mTh_together rfl rfl (Nat.le_of_ble_eq_true rfl) h (fun r7 u6 hq => kTh_together E (d + 2) hq) (fun r7 u6 h => ?_)
  refine g_iconst (pc := 21) (dk d_mTh_worthOfGuess 15 rfl) (by decide) ?_
  refine h_callSi (d := d + 6) (pc := 22) (na := 3) (av := [pL (w64 (a2 * r5)), pL r7, pI 3]) ⟨rfl, rfl⟩ (dk d_mTh_worthOfGuess 16 rfl) lk_Th_147 vm_mTh_cut rfl rfl (Nat.le_of_ble_eq_true rfl) h (fun r9 u8 hq => kTh_cut E (d + 5) hq) (fun r9 u8 hb10 h => ?_)
  exact h_iret (pc := 25) rfl (dk d_mTh_worthOfGuess 17 rfl) h
set_option maxRecDepth 100000 in
set_option maxHeartbeats 4000000 in
theorem kTh_worthOfGuess (E : Nat × (Int → Int)) (d : Nat) {a1 : Int} {a2 : Int} {w w1 : WD} {r : Int} (h : fTh_worthOfGuess a1 a2 w = some (r, w1)) : CTi E mTh_worthOfGuess (d + 7) [pR 12, pI a1, pI a2] w RF NN r w1 RF NN := by
  exact CTi_of (by decide +kernel) (Nat.le_of_ble_eq_true rfl) (Or.inl rfl) (gTh_worthOfGuess (res := (r, w1)) E d a1 a2 w h)
def fB_guess_l108_b (rec : Int → Int → WD → Option (Int × WD)) (y5 : Int) (x6 : Int) (x7 : Int) (w : WD) : Option (Int × WD) := ci (fHa_masks w) <| fun (r11 : Int) (u10 : WD) => if r11 ≤ x7 then (some (x6, u10)) else (ci (fTh_worthOfGuess x7 y5 u10) <| fun (r14 : Int) (u13 : WD) => bv (w32 (x6 + r14)) <| fun (v6_16 : Int) => bv (w32 (x7 + 1)) <| fun (v7_17 : Int) => rec v6_16 v7_17 u13)
def fB_guess_l108 (y5 : Int) : Nat → Int → Int → WD → Option (Int × WD)
  | 0 => fun _ _ _ => none
  | k + 1 => fB_guess_l108_b ( fB_guess_l108 y5 k) y5
set_option maxRecDepth 100000 in
set_option maxHeartbeats 4000000 in
theorem fB_guess_l108_b_ok (E : Nat × (Int → Int)) (d : Nat) {res : Int × WD} {rec : Int → Int → WD → Option (Int × WD)} (y5 : Int) (hrec : ∀ (x6 : Int) (x7 : Int) (w : WD), rec x6 x7 w = some res → G E mB_guess (d + 8) 108 [(0, pR 0), (5, pI y5), (6, pI x6), (7, pI x7)] [] w RF NN 0 0 (some (pI res.1), res.2, RF, NN)) (x6 : Int) (x7 : Int) (w : WD) (h : fB_guess_l108_b rec y5 x6 x7 w = some res) : G E mB_guess (d + 8) 108 [(0, pR 0), (5, pI y5), (6, pI x6), (7, pI x7)] [] w RF NN 0 0 (some (pI res.1), res.2, RF, NN) := by
  unfold fB_guess_l108_b at h
  refine g_iload (pc := 108) (j := 3) (dk d_mB_guess 56 rfl) rfl ?_
  refine g_aload_n (pc := 110) (j := 0) (dk d_mB_guess 57 rfl) rfl (by decide) ?_
  refine g_getR (pc := 111) (a := 1) rfl fp_B_10 po_0 (dk d_mB_guess 58 rfl) ?_
  refine h_callVi (d := d + 7) (pc := 114) (na := 0) (av := []) (k0 := 1) po_1 ⟨_, rfl⟩ ⟨rfl, rfl⟩ (dk d_mB_guess 59 rfl) lk_B_159 vm_mHa_masks rfl rfl (Nat.le_of_ble_eq_true rfl) h (fun r11 u10 hq => kHa_masks E (d + 6) hq) (fun r11 u10 hb12 h => ?_)
  refine h_icmp_ge (pc := 117) (tgt := 142) (dk d_mB_guess 60 rfl) rfl h (fun hc18 h => ?_) (fun hc18 h => ?_)
  · refine g_iload (pc := 142) (j := 2) (dk d_mB_guess 71 rfl) rfl ?_
    exact h_iret (pc := 144) rfl (dk d_mB_guess 72 rfl) h
  · refine g_iload (pc := 120) (j := 2) (dk d_mB_guess 61 rfl) rfl ?_
    refine g_aload_n (pc := 122) (j := 0) (dk d_mB_guess 62 rfl) rfl (by decide) ?_
    refine g_getR (pc := 123) (a := 12) rfl fp_B_28 po_0 (dk d_mB_guess 63 rfl) ?_
    refine g_iload (pc := 126) (j := 3) (dk d_mB_guess 64 rfl) rfl ?_
    refine g_iload (pc := 128) (j := 1) (dk d_mB_guess 65 rfl) rfl ?_
    refine h_callVi (d := d + 7) (pc := 130) (na := 2) (av := [pI x7, pI y5]) (k0 := 12) po_12 ⟨_, rfl⟩ ⟨rfl, rfl⟩ (dk d_mB_guess 66 rfl) lk_B_182 vm_mTh_worthOfGuess rfl rfl (Nat.le_of_ble_eq_true rfl) h (fun r14 u13 hq => kTh_worthOfGuess E (d + 0) hq) (fun r14 u13 hb15 h => ?_)
    refine g_iadd (pc := 133) (dk d_mB_guess 67 rfl) ?_
    refine h_bvI h (fun v6_16 h => ?_)
    refine g_istore (pc := 134) (l' := [(6, pI v6_16), (0, pR 0), (5, pI y5), (7, pI x7)]) (dk d_mB_guess 68 rfl) (Nat.le_of_ble_eq_true rfl) rfl ?_
    refine h_iinc (pc := 136) (j := 3) (dk d_mB_guess 69 rfl) rfl (by decide) (Nat.le_of_ble_eq_true rfl) h (fun v7_17 h => ?_)
    refine g_loc (l' := [(7, pI v7_17), (6, pI v6_16), (0, pR 0), (5, pI y5)]) rfl ?_
    refine g_goto (pc := 139) (tgt := 108) (dk d_mB_guess 70 rfl) rfl ?_
    refine g_pick [2, 3, 1, 0] rfl (l' := [(0, pR 0), (5, pI y5), (6, pI v6_16), (7, pI v7_17)]) rfl ?_
    exact hrec _ _ _ h
set_option maxRecDepth 100000 in
set_option maxHeartbeats 4000000 in
theorem fB_guess_l108_ok (E : Nat × (Int → Int)) (d : Nat) {res : Int × WD} (y5 : Int) : ∀ (k : Nat) (x6 : Int) (x7 : Int) (w : WD), fB_guess_l108 y5 k x6 x7 w = some res → G E mB_guess (d + 8) 108 [(0, pR 0), (5, pI y5), (6, pI x6), (7, pI x7)] [] w RF NN 0 0 (some (pI res.1), res.2, RF, NN) := by
  intro k
  induction k with
  | zero =>
    intro x6 x7 w h
    exact no_e h
  | succ k ih =>
    intro x6 x7 w h
    exact fB_guess_l108_b_ok E d y5 ih x6 x7 w h
def fB_guess (a1 : Int) (a2 : Int) (a3 : Int) (w : WD) : Option (Int × WD) := jn (β := Int → WD → Option (Int × WD)) (fun (s1 : Int) (u2 : WD) => if s1 = 0 then (some ((-1), u2)) else (ci (fB_isMinute a2 u2) <| fun (r4 : Int) (u3 : WD) => if r4 ≠ 0 then (cv (fTh_load u3) <| fun (u6 : WD) => if a3 ≠ 0 then (ci (fHa_pointsAt a2 u6) <| fun (r8 : Int) (u7 : WD) => if a3 ≠ 1 then (fB_guess_l108 r8 FU 0 0 u7) else (ci (fTh_worthOfGuess a1 r8 u7) <| fun (r20 : Int) (u19 : WD) => some (r20, u19))) else (ci (fTh_likeliest a1 u6) <| fun (r24 : Int) (u23 : WD) => some (r24, u23))) else (some ((-1), u3)))) <| fun J29 => if a3 ≠ 2 then (ci (fB_isBit a3 w) <| fun (r31 : Int) (u30 : WD) => jn (β := WD → Option (Int × WD)) (fun (u33 : WD) => J29 0 u33) <| fun J34 => if r31 = 0 then (J34 u30) else (ci (fHa_isMask a1 u30) <| fun (r36 : Int) (u35 : WD) => if r36 = 0 then (J34 u35) else (J29 1 u35))) else (if a1 ≠ 0 then (J29 0 w) else (J29 1 w))
set_option maxRecDepth 100000 in
set_option maxHeartbeats 4000000 in
theorem gB_guess (E : Nat × (Int → Int)) (d : Nat) {res : Int × WD} (a1 : Int) (a2 : Int) (a3 : Int) (w : WD) (h : fB_guess a1 a2 a3 w = some res) : G E mB_guess (d + 8) 0 [(0, pR 0), (1, pI a1), (2, pI a2), (3, pI a3)] [] w RF NN 0 0 (some (pI res.1), res.2, RF, NN) := by
  unfold fB_guess at h
  refine g_iload_n (pc := 0) (j := 3) (dk d_mB_guess 0 rfl) rfl ?_
  refine g_iconst (pc := 1) (dk d_mB_guess 1 rfl) (by decide) ?_
  refine jn_e (fun J => ∀ (s1 : Int) (u2 : WD), J s1 u2 = some res → G E mB_guess (d + 8) 40 [(0, pR 0), (1, pI a1), (2, pI a2), (3, pI a3)] [pI s1] u2 RF NN 0 0 (some (pI res.1), res.2, RF, NN)) h (fun s1 u2 h => ?_) (fun J29 hJ29 h => ?_)
  · refine g_istore (pc := 40) (l' := [(4, pI s1), (0, pR 0), (1, pI a1), (2, pI a2), (3, pI a3)]) (dk d_mB_guess 20 rfl) (Nat.le_of_ble_eq_true rfl) rfl ?_
    refine g_iload (pc := 42) (j := 0) (dk d_mB_guess 21 rfl) rfl ?_
    refine h_if_eq (pc := 44) (tgt := 54) (dk d_mB_guess 22 rfl) rfl h (fun hc28 h => ?_) (fun hc28 h => ?_)
    · refine g_iconst (pc := 54) (dk d_mB_guess 26 rfl) (by decide) ?_
      exact h_iret (pc := 55) rfl (dk d_mB_guess 27 rfl) h
    · refine g_iload_n (pc := 47) (j := 3) (dk d_mB_guess 23 rfl) rfl ?_
      refine h_callSi (d := d + 7) (pc := 48) (na := 1) (av := [pI a2]) ⟨rfl, rfl⟩ (dk d_mB_guess 24 rfl) lk_B_173 vm_mB_isMinute rfl rfl (Nat.le_of_ble_eq_true rfl) h (fun r4 u3 hq => kB_isMinute E (d + 6) hq) (fun r4 u3 hb5 h => ?_)
      refine h_if_ne (pc := 51) (tgt := 56) (dk d_mB_guess 25 rfl) rfl h (fun hc27 h => ?_) (fun hc27 h => ?_)
      · refine g_aload_n (pc := 56) (j := 1) (dk d_mB_guess 28 rfl) rfl (by decide) ?_
        refine g_getR (pc := 57) (a := 12) rfl fp_B_28 po_0 (dk d_mB_guess 29 rfl) ?_
        refine h_callVv (d := d + 7) (pc := 60) (na := 0) (av := []) (k0 := 12) po_12 ⟨_, rfl⟩ ⟨rfl, rfl⟩ (dk d_mB_guess 30 rfl) lk_B_127 vm_mTh_load rfl rfl (Nat.le_of_ble_eq_true rfl) h (fun u6 hq => kTh_load E (d + 1) hq) (fun u6 h => ?_)
        refine g_iload_n (pc := 63) (j := 4) (dk d_mB_guess 31 rfl) rfl ?_
        refine h_if_ne (pc := 64) (tgt := 76) (dk d_mB_guess 32 rfl) rfl h (fun hc26 h => ?_) (fun hc26 h => ?_)
        · refine g_aload_n (pc := 76) (j := 1) (dk d_mB_guess 38 rfl) rfl (by decide) ?_
          refine g_getR (pc := 77) (a := 1) rfl fp_B_10 po_0 (dk d_mB_guess 39 rfl) ?_
          refine g_iload_n (pc := 80) (j := 3) (dk d_mB_guess 40 rfl) rfl ?_
          refine h_callVi (d := d + 7) (pc := 81) (na := 1) (av := [pI a2]) (k0 := 1) po_1 ⟨_, rfl⟩ ⟨rfl, rfl⟩ (dk d_mB_guess 41 rfl) lk_B_179 vm_mHa_pointsAt rfl rfl (Nat.le_of_ble_eq_true rfl) h (fun r8 u7 hq => kHa_pointsAt E (d + 4) hq) (fun r8 u7 hb9 h => ?_)
          refine g_istore (pc := 84) (l' := [(5, pI r8), (4, pI s1), (0, pR 0), (1, pI a1), (2, pI a2), (3, pI a3)]) (dk d_mB_guess 42 rfl) (Nat.le_of_ble_eq_true rfl) rfl ?_
          refine g_iload_n (pc := 86) (j := 5) (dk d_mB_guess 43 rfl) rfl ?_
          refine g_iconst (pc := 87) (dk d_mB_guess 44 rfl) (by decide) ?_
          refine h_icmp_ne (pc := 88) (tgt := 102) (dk d_mB_guess 45 rfl) rfl h (fun hc22 h => ?_) (fun hc22 h => ?_)
          · refine g_iconst (pc := 102) (dk d_mB_guess 52 rfl) (by decide) ?_
            refine g_istore (pc := 103) (l' := [(6, pI 0), (5, pI r8), (4, pI s1), (0, pR 0), (1, pI a1), (2, pI a2), (3, pI a3)]) (dk d_mB_guess 53 rfl) (Nat.le_of_ble_eq_true rfl) rfl ?_
            refine g_iconst (pc := 105) (dk d_mB_guess 54 rfl) (by decide) ?_
            refine g_istore (pc := 106) (l' := [(7, pI 0), (6, pI 0), (5, pI r8), (4, pI s1), (0, pR 0), (1, pI a1), (2, pI a2), (3, pI a3)]) (dk d_mB_guess 55 rfl) (Nat.le_of_ble_eq_true rfl) rfl ?_
            refine g_pick [4, 2, 1, 0] rfl (l' := [(0, pR 0), (5, pI r8), (6, pI 0), (7, pI 0)]) rfl ?_
            refine fB_guess_l108_ok E d r8 FU _ _  _ h
          · refine g_aload_n (pc := 91) (j := 2) (dk d_mB_guess 46 rfl) rfl (by decide) ?_
            refine g_getR (pc := 92) (a := 12) rfl fp_B_28 po_0 (dk d_mB_guess 47 rfl) ?_
            refine g_iload_n (pc := 95) (j := 3) (dk d_mB_guess 48 rfl) rfl ?_
            refine g_iload (pc := 96) (j := 0) (dk d_mB_guess 49 rfl) rfl ?_
            refine h_callVi (d := d + 7) (pc := 98) (na := 2) (av := [pI a1, pI r8]) (k0 := 12) po_12 ⟨_, rfl⟩ ⟨rfl, rfl⟩ (dk d_mB_guess 50 rfl) lk_B_182 vm_mTh_worthOfGuess rfl rfl (Nat.le_of_ble_eq_true rfl) h (fun r20 u19 hq => kTh_worthOfGuess E (d + 0) hq) (fun r20 u19 hb21 h => ?_)
            exact h_iret (pc := 101) rfl (dk d_mB_guess 51 rfl) h
        · refine g_aload_n (pc := 67) (j := 1) (dk d_mB_guess 33 rfl) rfl (by decide) ?_
          refine g_getR (pc := 68) (a := 12) rfl fp_B_28 po_0 (dk d_mB_guess 34 rfl) ?_
          refine g_iload_n (pc := 71) (j := 2) (dk d_mB_guess 35 rfl) rfl ?_
          refine h_callVi (d := d + 7) (pc := 72) (na := 1) (av := [pI a1]) (k0 := 12) po_12 ⟨_, rfl⟩ ⟨rfl, rfl⟩ (dk d_mB_guess 36 rfl) lk_B_176 vm_mTh_likeliest rfl rfl (Nat.le_of_ble_eq_true rfl) h (fun r24 u23 hq => kTh_likeliest E (d + 1) hq) (fun r24 u23 hb25 h => ?_)
          exact h_iret (pc := 75) rfl (dk d_mB_guess 37 rfl) h
      · refine g_iconst (pc := 54) (dk d_mB_guess 26 rfl) (by decide) ?_
        exact h_iret (pc := 55) rfl (dk d_mB_guess 27 rfl) h
  · refine h_icmp_ne (pc := 2) (tgt := 17) (dk d_mB_guess 2 rfl) rfl h (fun hc41 h => ?_) (fun hc41 h => ?_)
    · refine g_iload_n (pc := 17) (j := 3) (dk d_mB_guess 9 rfl) rfl ?_
      refine h_callSi (d := d + 7) (pc := 18) (na := 1) (av := [pI a3]) ⟨rfl, rfl⟩ (dk d_mB_guess 10 rfl) lk_B_120 vm_mB_isBit rfl rfl (Nat.le_of_ble_eq_true rfl) h (fun r31 u30 hq => kB_isBit E (d + 6) hq) (fun r31 u30 hb32 h => ?_)
      refine jn_e (fun J => ∀ (u33 : WD), J u33 = some res → G E mB_guess (d + 8) 39 [(0, pR 0), (1, pI a1), (2, pI a2), (3, pI a3)] [] u33 RF NN 0 0 (some (pI res.1), res.2, RF, NN)) h (fun u33 h => ?_) (fun J34 hJ34 h => ?_)
      · refine g_iconst (pc := 39) (dk d_mB_guess 19 rfl) (by decide) ?_
        exact hJ29 _ _ h
      · refine h_if_eq (pc := 21) (tgt := 39) (dk d_mB_guess 11 rfl) rfl h (fun hc39 h => ?_) (fun hc39 h => ?_)
        · exact hJ34 _ h
        · refine g_aload_n (pc := 24) (j := 0) (dk d_mB_guess 12 rfl) rfl (by decide) ?_
          refine g_getR (pc := 25) (a := 1) rfl fp_B_10 po_0 (dk d_mB_guess 13 rfl) ?_
          refine g_iload_n (pc := 28) (j := 1) (dk d_mB_guess 14 rfl) rfl ?_
          refine h_callVi (d := d + 7) (pc := 29) (na := 1) (av := [pI a1]) (k0 := 1) po_1 ⟨_, rfl⟩ ⟨rfl, rfl⟩ (dk d_mB_guess 15 rfl) lk_B_90 vm_mHa_isMask rfl rfl (Nat.le_of_ble_eq_true rfl) h (fun r36 u35 hq => kHa_isMask E (d + 6) hq) (fun r36 u35 hb37 h => ?_)
          refine h_if_eq (pc := 32) (tgt := 39) (dk d_mB_guess 16 rfl) rfl h (fun hc38 h => ?_) (fun hc38 h => ?_)
          · exact hJ34 _ h
          · refine g_iconst (pc := 35) (dk d_mB_guess 17 rfl) (by decide) ?_
            refine g_goto (pc := 36) (tgt := 40) (dk d_mB_guess 18 rfl) rfl ?_
            exact hJ29 _ _ h
    · refine g_iload_n (pc := 5) (j := 1) (dk d_mB_guess 3 rfl) rfl ?_
      refine h_if_ne (pc := 6) (tgt := 13) (dk d_mB_guess 4 rfl) rfl h (fun hc40 h => ?_) (fun hc40 h => ?_)
      · refine g_iconst (pc := 13) (dk d_mB_guess 7 rfl) (by decide) ?_
        refine g_goto (pc := 14) (tgt := 40) (dk d_mB_guess 8 rfl) rfl ?_
        exact hJ29 _ _ h
      · refine g_iconst (pc := 9) (dk d_mB_guess 5 rfl) (by decide) ?_
        refine g_goto (pc := 10) (tgt := 40) (dk d_mB_guess 6 rfl) rfl ?_
        exact hJ29 _ _ h
set_option maxRecDepth 100000 in
set_option maxHeartbeats 4000000 in
theorem kB_guess (E : Nat × (Int → Int)) (d : Nat) {a1 : Int} {a2 : Int} {a3 : Int} {w w1 : WD} {r : Int} (h : fB_guess a1 a2 a3 w = some (r, w1)) : CTi E mB_guess (d + 8) [pR 0, pI a1, pI a2, pI a3] w RF NN r w1 RF NN := by
  exact CTi_of (by decide +kernel) (Nat.le_of_ble_eq_true rfl) (Or.inl rfl) (gB_guess (res := (r, w1)) E d a1 a2 a3 w h)
def fTh_thousandths (a1 : Int) (a2 : Int) (w : WD) : Option (Int × WD) := ci (fTh_togetherIf a1 (bShl 1 a2) w) <| fun (r2 : Int) (u1 : WD) => ci (fTh_together u1) <| fun (r4 : Int) (u3 : WD) => ci (fTh_cut r2 r4 3 u3) <| fun (r6 : Int) (u5 : WD) => some (r6, u5)
set_option maxRecDepth 100000 in
set_option maxHeartbeats 4000000 in
theorem gTh_thousandths (E : Nat × (Int → Int)) (d : Nat) {res : Int × WD} (a1 : Int) (a2 : Int) (w : WD) (h : fTh_thousandths a1 a2 w = some res) : G E mTh_thousandths (d + 6) 0 [(0, pR 12), (1, pI a1), (2, pI a2)] [] w RF NN 0 0 (some (pI res.1), res.2, RF, NN) := by
  unfold fTh_thousandths at h
  refine g_aload_n (pc := 0) (j := 0) (dk d_mTh_thousandths 0 rfl) rfl (by decide) ?_
  refine g_iload_n (pc := 1) (j := 1) (dk d_mTh_thousandths 1 rfl) rfl ?_
  refine g_iconst (pc := 2) (dk d_mTh_thousandths 2 rfl) (by decide) ?_
  refine g_iload_n (pc := 3) (j := 2) (dk d_mTh_thousandths 3 rfl) rfl ?_
  refine g_ishl (pc := 4) (dk d_mTh_thousandths 4 rfl) ?_
  refine h_callVl (d := d + 5) (pc := 5) (na := 2) (av := [pI a1, pI (bShl 1 a2)]) (k0 := 12) po_12 ⟨_, rfl⟩ ⟨rfl, rfl⟩ (dk d_mTh_thousandths 5 rfl) lk_Th_138 vm_mTh_togetherIf rfl rfl (Nat.le_of_ble_eq_true rfl) h (fun r2 u1 hq => kTh_togetherIf E (d + 0) hq) (fun r2 u1 h => ?_)
  refine g_aload_n (pc := 8) (j := 0) (dk d_mTh_thousandths 6 rfl) rfl (by decide) ?_
  refine h_callVl (d := d + 5) (pc := 9) (na := 0) (av := []) (k0 := 12) po_12 ⟨_, rfl⟩ ⟨rfl, rfl⟩ (dk d_mTh_thousandths 7 rfl) lk_Th_144 vm_mTh_together rfl rfl (Nat.le_of_ble_eq_true rfl) h (fun r4 u3 hq => kTh_together E (d + 1) hq) (fun r4 u3 h => ?_)
  refine g_iconst (pc := 12) (dk d_mTh_thousandths 8 rfl) (by decide) ?_
  refine h_callSi (d := d + 5) (pc := 13) (na := 3) (av := [pL r2, pL r4, pI 3]) ⟨rfl, rfl⟩ (dk d_mTh_thousandths 9 rfl) lk_Th_147 vm_mTh_cut rfl rfl (Nat.le_of_ble_eq_true rfl) h (fun r6 u5 hq => kTh_cut E (d + 4) hq) (fun r6 u5 hb7 h => ?_)
  exact h_iret (pc := 16) rfl (dk d_mTh_thousandths 10 rfl) h
set_option maxRecDepth 100000 in
set_option maxHeartbeats 4000000 in
theorem kTh_thousandths (E : Nat × (Int → Int)) (d : Nat) {a1 : Int} {a2 : Int} {w w1 : WD} {r : Int} (h : fTh_thousandths a1 a2 w = some (r, w1)) : CTi E mTh_thousandths (d + 6) [pR 12, pI a1, pI a2] w RF NN r w1 RF NN := by
  exact CTi_of (by decide +kernel) (Nat.le_of_ble_eq_true rfl) (Or.inl rfl) (gTh_thousandths (res := (r, w1)) E d a1 a2 w h)
def fB_lacks (a1 : Int) (a2 : Int) (w : WD) : Option (Int × WD) := ci (fHa_isMask a1 w) <| fun (r2 : Int) (u1 : WD) => if r2 = 0 then (some ((-1), u1)) else (ci (fB_isMinute a2 u1) <| fun (r5 : Int) (u4 : WD) => if r5 ≠ 0 then (ci (fHa_at 0 11 u4) <| fun (r8 : Int) (u7 : WD) => if a2 < r8 then (cv (fTh_load u7) <| fun (u10 : WD) => ci (fTh_likeliest a1 u10) <| fun (r12 : Int) (u11 : WD) => ci (fTh_thousandths a1 r12 u11) <| fun (r15 : Int) (u14 : WD) => some ((mn r15 (w32 (1000 - r15))), u14)) else (some (0, u7))) else (some ((-1), u4)))
set_option maxRecDepth 100000 in
set_option maxHeartbeats 4000000 in
theorem gB_lacks (E : Nat × (Int → Int)) (d : Nat) {res : Int × WD} (a1 : Int) (a2 : Int) (w : WD) (h : fB_lacks a1 a2 w = some res) : G E mB_lacks (d + 7) 0 [(0, pR 0), (1, pI a1), (2, pI a2)] [] w RF NN 0 0 (some (pI res.1), res.2, RF, NN) := by
  unfold fB_lacks at h
  refine g_aload_n (pc := 0) (j := 0) (dk d_mB_lacks 0 rfl) rfl (by decide) ?_
  refine g_getR (pc := 1) (a := 1) rfl fp_B_10 po_0 (dk d_mB_lacks 1 rfl) ?_
  refine g_iload_n (pc := 4) (j := 1) (dk d_mB_lacks 2 rfl) rfl ?_
  refine h_callVi (d := d + 6) (pc := 5) (na := 1) (av := [pI a1]) (k0 := 1) po_1 ⟨_, rfl⟩ ⟨rfl, rfl⟩ (dk d_mB_lacks 3 rfl) lk_B_90 vm_mHa_isMask rfl rfl (Nat.le_of_ble_eq_true rfl) h (fun r2 u1 hq => kHa_isMask E (d + 5) hq) (fun r2 u1 hb3 h => ?_)
  refine h_if_eq (pc := 8) (tgt := 18) (dk d_mB_lacks 4 rfl) rfl h (fun hc19 h => ?_) (fun hc19 h => ?_)
  · refine g_iconst (pc := 18) (dk d_mB_lacks 8 rfl) (by decide) ?_
    exact h_iret (pc := 19) rfl (dk d_mB_lacks 9 rfl) h
  · refine g_iload_n (pc := 11) (j := 2) (dk d_mB_lacks 5 rfl) rfl ?_
    refine h_callSi (d := d + 6) (pc := 12) (na := 1) (av := [pI a2]) ⟨rfl, rfl⟩ (dk d_mB_lacks 6 rfl) lk_B_173 vm_mB_isMinute rfl rfl (Nat.le_of_ble_eq_true rfl) h (fun r5 u4 hq => kB_isMinute E (d + 5) hq) (fun r5 u4 hb6 h => ?_)
    refine h_if_ne (pc := 15) (tgt := 20) (dk d_mB_lacks 7 rfl) rfl h (fun hc18 h => ?_) (fun hc18 h => ?_)
    · refine g_iload_n (pc := 20) (j := 2) (dk d_mB_lacks 10 rfl) rfl ?_
      refine g_aload_n (pc := 21) (j := 0) (dk d_mB_lacks 11 rfl) rfl (by decide) ?_
      refine g_getR (pc := 22) (a := 1) rfl fp_B_10 po_0 (dk d_mB_lacks 12 rfl) ?_
      refine g_iconst (pc := 25) (dk d_mB_lacks 13 rfl) (by decide) ?_
      refine g_bipush (pc := 26) (dk d_mB_lacks 14 rfl) (by decide) ?_
      refine h_callVi (d := d + 6) (pc := 28) (na := 2) (av := [pI 0, pI 11]) (k0 := 1) po_1 ⟨_, rfl⟩ ⟨rfl, rfl⟩ (dk d_mB_lacks 15 rfl) lk_B_105 vm_mHa_at rfl rfl (Nat.le_of_ble_eq_true rfl) h (fun r8 u7 hq => kHa_at E (d + 4) hq) (fun r8 u7 hb9 h => ?_)
      refine h_icmp_lt (pc := 31) (tgt := 36) (dk d_mB_lacks 16 rfl) rfl h (fun hc17 h => ?_) (fun hc17 h => ?_)
      · refine g_aload_n (pc := 36) (j := 0) (dk d_mB_lacks 19 rfl) rfl (by decide) ?_
        refine g_getR (pc := 37) (a := 12) rfl fp_B_28 po_0 (dk d_mB_lacks 20 rfl) ?_
        refine h_callVv (d := d + 6) (pc := 40) (na := 0) (av := []) (k0 := 12) po_12 ⟨_, rfl⟩ ⟨rfl, rfl⟩ (dk d_mB_lacks 21 rfl) lk_B_127 vm_mTh_load rfl rfl (Nat.le_of_ble_eq_true rfl) h (fun u10 hq => kTh_load E (d + 0) hq) (fun u10 h => ?_)
        refine g_aload_n (pc := 43) (j := 0) (dk d_mB_lacks 22 rfl) rfl (by decide) ?_
        refine g_getR (pc := 44) (a := 12) rfl fp_B_28 po_0 (dk d_mB_lacks 23 rfl) ?_
        refine g_iload_n (pc := 47) (j := 1) (dk d_mB_lacks 24 rfl) rfl ?_
        refine g_aload_n (pc := 48) (j := 0) (dk d_mB_lacks 25 rfl) rfl (by decide) ?_
        refine g_getR (pc := 49) (a := 12) rfl fp_B_28 po_0 (dk d_mB_lacks 26 rfl) ?_
        refine g_iload_n (pc := 52) (j := 1) (dk d_mB_lacks 27 rfl) rfl ?_
        refine h_callVi (d := d + 6) (pc := 53) (na := 1) (av := [pI a1]) (k0 := 12) po_12 ⟨_, rfl⟩ ⟨rfl, rfl⟩ (dk d_mB_lacks 28 rfl) lk_B_176 vm_mTh_likeliest rfl rfl (Nat.le_of_ble_eq_true rfl) h (fun r12 u11 hq => kTh_likeliest E (d + 0) hq) (fun r12 u11 hb13 h => ?_)
        refine h_callVi (d := d + 6) (pc := 56) (na := 2) (av := [pI a1, pI r12]) (k0 := 12) po_12 ⟨_, rfl⟩ ⟨rfl, rfl⟩ (dk d_mB_lacks 29 rfl) lk_B_185 vm_mTh_thousandths rfl rfl (Nat.le_of_ble_eq_true rfl) h (fun r15 u14 hq => kTh_thousandths E (d + 0) hq) (fun r15 u14 hb16 h => ?_)
        refine g_istore_n (pc := 59) (l' := [(3, pI r15), (0, pR 0), (1, pI a1), (2, pI a2)]) (dk d_mB_lacks 30 rfl) (Nat.le_of_ble_eq_true rfl) rfl ?_
        refine g_iload_n (pc := 60) (j := 0) (dk d_mB_lacks 31 rfl) rfl ?_
        refine g_sipush (pc := 61) (dk d_mB_lacks 32 rfl) (by decide) ?_
        refine g_iload_n (pc := 64) (j := 0) (dk d_mB_lacks 33 rfl) rfl ?_
        refine g_isub (pc := 65) (dk d_mB_lacks 34 rfl) ?_
        refine g_mminI (pc := 66) mm_B_188 (Nat.le_of_ble_eq_true rfl) (by omega) (dk d_mB_lacks 35 rfl) ?_
        exact h_iret (pc := 69) rfl (dk d_mB_lacks 36 rfl) h
      · refine g_iconst (pc := 34) (dk d_mB_lacks 17 rfl) (by decide) ?_
        exact h_iret (pc := 35) rfl (dk d_mB_lacks 18 rfl) h
    · refine g_iconst (pc := 18) (dk d_mB_lacks 8 rfl) (by decide) ?_
      exact h_iret (pc := 19) rfl (dk d_mB_lacks 9 rfl) h
set_option maxRecDepth 100000 in
set_option maxHeartbeats 4000000 in
theorem kB_lacks (E : Nat × (Int → Int)) (d : Nat) {a1 : Int} {a2 : Int} {w w1 : WD} {r : Int} (h : fB_lacks a1 a2 w = some (r, w1)) : CTi E mB_lacks (d + 7) [pR 0, pI a1, pI a2] w RF NN r w1 RF NN := by
  exact CTi_of (by decide +kernel) (Nat.le_of_ble_eq_true rfl) (Or.inl rfl) (gB_lacks (res := (r, w1)) E d a1 a2 w h)
def fHa_alike_l3_b (rec : Int → WD → Option (Int × WD)) (y1 : Int) (y2 : Int) (y3 : Int) (x4 : Int) (w : WD) : Option (Int × WD) := if 3 ≤ x4 then (some (1, w)) else (jn (β := WD → Option (Int × WD)) (fun (u1 : WD) => bv (w32 (x4 + 1)) <| fun (v4_2 : Int) => rec v4_2 u1) <| fun J3 => if (bAnd (bShr y3 x4) 1) = 0 then (J3 w) else (ci (fHa_at y1 x4 w) <| fun (r5 : Int) (u4 : WD) => ci (fHa_at y2 x4 u4) <| fun (r8 : Int) (u7 : WD) => if r5 = r8 then (J3 u7) else (some (0, u7))))
def fHa_alike_l3 (y1 : Int) (y2 : Int) (y3 : Int) : Nat → Int → WD → Option (Int × WD)
  | 0 => fun _ _ => none
  | k + 1 => fHa_alike_l3_b ( fHa_alike_l3 y1 y2 y3 k) y1 y2 y3
set_option maxRecDepth 100000 in
set_option maxHeartbeats 4000000 in
theorem fHa_alike_l3_b_ok (E : Nat × (Int → Int)) (d : Nat) {res : Int × WD} {rec : Int → WD → Option (Int × WD)} (y1 : Int) (y2 : Int) (y3 : Int) (hrec : ∀ (x4 : Int) (w : WD), rec x4 w = some res → G E mHa_alike (d + 3) 3 [(0, pR 1), (1, pI y1), (2, pI y2), (3, pI y3), (4, pI x4)] [] w RF NN 0 0 (some (pI res.1), res.2, RF, NN)) (x4 : Int) (w : WD) (h : fHa_alike_l3_b rec y1 y2 y3 x4 w = some res) : G E mHa_alike (d + 3) 3 [(0, pR 1), (1, pI y1), (2, pI y2), (3, pI y3), (4, pI x4)] [] w RF NN 0 0 (some (pI res.1), res.2, RF, NN) := by
  unfold fHa_alike_l3_b at h
  refine g_iload (pc := 3) (j := 4) (dk d_mHa_alike 2 rfl) rfl ?_
  refine g_iconst (pc := 5) (dk d_mHa_alike 3 rfl) (by decide) ?_
  refine h_icmp_ge (pc := 6) (tgt := 43) (dk d_mHa_alike 4 rfl) rfl h (fun hc12 h => ?_) (fun hc12 h => ?_)
  · refine g_iconst (pc := 43) (dk d_mHa_alike 24 rfl) (by decide) ?_
    exact h_zret (pc := 44) (Or.inr rfl) (dk d_mHa_alike 25 rfl) h
  · refine g_iload_n (pc := 9) (j := 3) (dk d_mHa_alike 5 rfl) rfl ?_
    refine g_iload (pc := 10) (j := 4) (dk d_mHa_alike 6 rfl) rfl ?_
    refine g_ishr (pc := 12) (dk d_mHa_alike 7 rfl) ?_
    refine g_iconst (pc := 13) (dk d_mHa_alike 8 rfl) (by decide) ?_
    refine g_iand (pc := 14) (dk d_mHa_alike 9 rfl) ?_
    refine jn_e (fun J => ∀ (u1 : WD), J u1 = some res → G E mHa_alike (d + 3) 37 [(0, pR 1), (1, pI y1), (2, pI y2), (3, pI y3), (4, pI x4)] [] u1 RF NN 0 0 (some (pI res.1), res.2, RF, NN)) h (fun u1 h => ?_) (fun J3 hJ3 h => ?_)
    · refine h_iinc (pc := 37) (j := 4) (dk d_mHa_alike 22 rfl) rfl (by decide) (Nat.le_of_ble_eq_true rfl) h (fun v4_2 h => ?_)
      refine g_loc (l' := [(4, pI v4_2), (0, pR 1), (1, pI y1), (2, pI y2), (3, pI y3)]) rfl ?_
      refine g_goto (pc := 40) (tgt := 3) (dk d_mHa_alike 23 rfl) rfl ?_
      refine g_pick [1, 2, 3, 4, 0] rfl (l' := [(0, pR 1), (1, pI y1), (2, pI y2), (3, pI y3), (4, pI v4_2)]) rfl ?_
      exact hrec _ _ h
    · refine h_if_eq (pc := 15) (tgt := 37) (dk d_mHa_alike 10 rfl) rfl h (fun hc11 h => ?_) (fun hc11 h => ?_)
      · exact hJ3 _ h
      · refine g_aload_n (pc := 18) (j := 0) (dk d_mHa_alike 11 rfl) rfl (by decide) ?_
        refine g_iload_n (pc := 19) (j := 1) (dk d_mHa_alike 12 rfl) rfl ?_
        refine g_iload (pc := 20) (j := 4) (dk d_mHa_alike 13 rfl) rfl ?_
        refine h_callVi (d := d + 2) (pc := 22) (na := 2) (av := [pI y1, pI x4]) (k0 := 1) po_1 ⟨_, rfl⟩ ⟨rfl, rfl⟩ (dk d_mHa_alike 14 rfl) lk_Ha_77 vm_mHa_at rfl rfl (Nat.le_of_ble_eq_true rfl) h (fun r5 u4 hq => kHa_at E (d + 0) hq) (fun r5 u4 hb6 h => ?_)
        refine g_aload_n (pc := 25) (j := 0) (dk d_mHa_alike 15 rfl) rfl (by decide) ?_
        refine g_iload_n (pc := 26) (j := 2) (dk d_mHa_alike 16 rfl) rfl ?_
        refine g_iload (pc := 27) (j := 4) (dk d_mHa_alike 17 rfl) rfl ?_
        refine h_callVi (d := d + 2) (pc := 29) (na := 2) (av := [pI y2, pI x4]) (k0 := 1) po_1 ⟨_, rfl⟩ ⟨rfl, rfl⟩ (dk d_mHa_alike 18 rfl) lk_Ha_77 vm_mHa_at rfl rfl (Nat.le_of_ble_eq_true rfl) h (fun r8 u7 hq => kHa_at E (d + 0) hq) (fun r8 u7 hb9 h => ?_)
        refine h_icmp_eq (pc := 32) (tgt := 37) (dk d_mHa_alike 19 rfl) rfl h (fun hc10 h => ?_) (fun hc10 h => ?_)
        · exact hJ3 _ h
        · refine g_iconst (pc := 35) (dk d_mHa_alike 20 rfl) (by decide) ?_
          exact h_zret (pc := 36) (Or.inl rfl) (dk d_mHa_alike 21 rfl) h
set_option maxRecDepth 100000 in
set_option maxHeartbeats 4000000 in
theorem fHa_alike_l3_ok (E : Nat × (Int → Int)) (d : Nat) {res : Int × WD} (y1 : Int) (y2 : Int) (y3 : Int) : ∀ (k : Nat) (x4 : Int) (w : WD), fHa_alike_l3 y1 y2 y3 k x4 w = some res → G E mHa_alike (d + 3) 3 [(0, pR 1), (1, pI y1), (2, pI y2), (3, pI y3), (4, pI x4)] [] w RF NN 0 0 (some (pI res.1), res.2, RF, NN) := by
  intro k
  induction k with
  | zero =>
    intro x4 w h
    exact no_e h
  | succ k ih =>
    intro x4 w h
    exact fHa_alike_l3_b_ok E d y1 y2 y3 ih x4 w h
def fHa_alike (a1 : Int) (a2 : Int) (a3 : Int) (w : WD) : Option (Int × WD) := fHa_alike_l3 a1 a2 a3 FU 0 w
set_option maxRecDepth 100000 in
set_option maxHeartbeats 4000000 in
theorem gHa_alike (E : Nat × (Int → Int)) (d : Nat) {res : Int × WD} (a1 : Int) (a2 : Int) (a3 : Int) (w : WD) (h : fHa_alike a1 a2 a3 w = some res) : G E mHa_alike (d + 3) 0 [(0, pR 1), (1, pI a1), (2, pI a2), (3, pI a3)] [] w RF NN 0 0 (some (pI res.1), res.2, RF, NN) := by
  unfold fHa_alike at h
  refine g_iconst (pc := 0) (dk d_mHa_alike 0 rfl) (by decide) ?_
  refine g_istore (pc := 1) (l' := [(4, pI 0), (0, pR 1), (1, pI a1), (2, pI a2), (3, pI a3)]) (dk d_mHa_alike 1 rfl) (Nat.le_of_ble_eq_true rfl) rfl ?_
  refine g_pick [1, 2, 3, 4, 0] rfl (l' := [(0, pR 1), (1, pI a1), (2, pI a2), (3, pI a3), (4, pI 0)]) rfl ?_
  refine fHa_alike_l3_ok E d a1 a2 a3 FU _  _ h
set_option maxRecDepth 100000 in
set_option maxHeartbeats 4000000 in
theorem kHa_alike (E : Nat × (Int → Int)) (d : Nat) {a1 : Int} {a2 : Int} {a3 : Int} {w w1 : WD} {r : Int} (h : fHa_alike a1 a2 a3 w = some (r, w1)) : CTi E mHa_alike (d + 3) [pR 1, pI a1, pI a2, pI a3] w RF NN r w1 RF NN := by
  exact CTi_of (by decide +kernel) (Nat.le_of_ble_eq_true rfl) (Or.inr rfl) (gHa_alike (res := (r, w1)) E d a1 a2 a3 w h)
def fHa_partedBy_l14_b (rec : Int → WD → Option (Int × WD)) (y1 : Int) (y2 : Int) (K0 : WD → Option (Int × WD)) (x3 : Int) (w : WD) : Option (Int × WD) := if (w 1 4) ≤ x3 then (K0 w) else (ci (fHa_alike y2 x3 y1 w) <| fun (r3 : Int) (u2 : WD) => if r3 = 0 then (bv (w32 (x3 + 1)) <| fun (v3_5 : Int) => rec v3_5 u2) else (some (0, u2)))
def fHa_partedBy_l14 (y1 : Int) (y2 : Int) (K0 : WD → Option (Int × WD)) : Nat → Int → WD → Option (Int × WD)
  | 0 => fun _ _ => none
  | k + 1 => fHa_partedBy_l14_b ( fHa_partedBy_l14 y1 y2 K0 k) y1 y2 K0
set_option maxRecDepth 100000 in
set_option maxHeartbeats 4000000 in
theorem fHa_partedBy_l14_b_ok (E : Nat × (Int → Int)) (d : Nat) {res : Int × WD} {rec : Int → WD → Option (Int × WD)} (y1 : Int) (y2 : Int) (K0 : WD → Option (Int × WD)) (hrec : ∀ (x3 : Int) (w : WD), rec x3 w = some res → G E mHa_partedBy (d + 4) 14 [(0, pR 1), (1, pI y1), (2, pI y2), (3, pI x3)] [] w RF NN 0 0 (some (pI res.1), res.2, RF, NN)) (hK0 : ∀ (w : WD), K0 w = some res → G E mHa_partedBy (d + 4) 40 [(0, pR 1), (1, pI y1), (2, pI y2)] [] w RF NN 0 0 (some (pI res.1), res.2, RF, NN)) (x3 : Int) (w : WD) (h : fHa_partedBy_l14_b rec y1 y2 K0 x3 w = some res) : G E mHa_partedBy (d + 4) 14 [(0, pR 1), (1, pI y1), (2, pI y2), (3, pI x3)] [] w RF NN 0 0 (some (pI res.1), res.2, RF, NN) := by
  unfold fHa_partedBy_l14_b at h
  refine g_iload_n (pc := 14) (j := 3) (dk d_mHa_partedBy 10 rfl) rfl ?_
  refine g_aload_n (pc := 15) (j := 0) (dk d_mHa_partedBy 11 rfl) rfl (by decide) ?_
  refine g_getI (pc := 16) fp_Ha_24 po_1 (dk d_mHa_partedBy 12 rfl) ?_
  refine h_icmp_ge (pc := 19) (tgt := 40) (dk d_mHa_partedBy 13 rfl) rfl h (fun hc7 h => ?_) (fun hc7 h => ?_)
  · refine g_pick [0, 1, 2] rfl (l' := [(0, pR 1), (1, pI y1), (2, pI y2)]) rfl ?_
    exact hK0 _ h
  · refine g_aload_n (pc := 22) (j := 0) (dk d_mHa_partedBy 14 rfl) rfl (by decide) ?_
    refine g_iload_n (pc := 23) (j := 2) (dk d_mHa_partedBy 15 rfl) rfl ?_
    refine g_iload_n (pc := 24) (j := 3) (dk d_mHa_partedBy 16 rfl) rfl ?_
    refine g_iload_n (pc := 25) (j := 1) (dk d_mHa_partedBy 17 rfl) rfl ?_
    refine h_callVi (d := d + 3) (pc := 26) (na := 3) (av := [pI y2, pI x3, pI y1]) (k0 := 1) po_1 ⟨_, rfl⟩ ⟨rfl, rfl⟩ (dk d_mHa_partedBy 18 rfl) lk_Ha_80 vm_mHa_alike rfl rfl (Nat.le_of_ble_eq_true rfl) h (fun r3 u2 hq => kHa_alike E (d + 0) hq) (fun r3 u2 hb4 h => ?_)
    refine h_if_eq (pc := 29) (tgt := 34) (dk d_mHa_partedBy 19 rfl) rfl h (fun hc6 h => ?_) (fun hc6 h => ?_)
    · refine h_iinc (pc := 34) (j := 3) (dk d_mHa_partedBy 22 rfl) rfl (by decide) (Nat.le_of_ble_eq_true rfl) h (fun v3_5 h => ?_)
      refine g_loc (l' := [(3, pI v3_5), (0, pR 1), (1, pI y1), (2, pI y2)]) rfl ?_
      refine g_goto (pc := 37) (tgt := 14) (dk d_mHa_partedBy 23 rfl) rfl ?_
      refine g_pick [1, 2, 3, 0] rfl (l' := [(0, pR 1), (1, pI y1), (2, pI y2), (3, pI v3_5)]) rfl ?_
      exact hrec _ _ h
    · refine g_iconst (pc := 32) (dk d_mHa_partedBy 20 rfl) (by decide) ?_
      exact h_zret (pc := 33) (Or.inl rfl) (dk d_mHa_partedBy 21 rfl) h
set_option maxRecDepth 100000 in
set_option maxHeartbeats 4000000 in
theorem fHa_partedBy_l14_ok (E : Nat × (Int → Int)) (d : Nat) {res : Int × WD} (y1 : Int) (y2 : Int) (K0 : WD → Option (Int × WD)) (hK0 : ∀ (w : WD), K0 w = some res → G E mHa_partedBy (d + 4) 40 [(0, pR 1), (1, pI y1), (2, pI y2)] [] w RF NN 0 0 (some (pI res.1), res.2, RF, NN)) : ∀ (k : Nat) (x3 : Int) (w : WD), fHa_partedBy_l14 y1 y2 K0 k x3 w = some res → G E mHa_partedBy (d + 4) 14 [(0, pR 1), (1, pI y1), (2, pI y2), (3, pI x3)] [] w RF NN 0 0 (some (pI res.1), res.2, RF, NN) := by
  intro k
  induction k with
  | zero =>
    intro x3 w h
    exact no_e h
  | succ k ih =>
    intro x3 w h
    exact fHa_partedBy_l14_b_ok E d y1 y2 K0 ih hK0 x3 w h
def fHa_partedBy_l2_b (rec : Int → WD → Option (Int × WD)) (y1 : Int) (x2 : Int) (w : WD) : Option (Int × WD) := if (w 1 4) ≤ x2 then (some (1, w)) else (bv (w32 (x2 + 1)) <| fun (v3_1 : Int) => fHa_partedBy_l14 y1 x2 (fun (u8 : WD) => bv (w32 (x2 + 1)) <| fun (v2_9 : Int) => rec v2_9 u8) FU v3_1 w)
def fHa_partedBy_l2 (y1 : Int) : Nat → Int → WD → Option (Int × WD)
  | 0 => fun _ _ => none
  | k + 1 => fHa_partedBy_l2_b ( fHa_partedBy_l2 y1 k) y1
set_option maxRecDepth 100000 in
set_option maxHeartbeats 4000000 in
theorem fHa_partedBy_l2_b_ok (E : Nat × (Int → Int)) (d : Nat) {res : Int × WD} {rec : Int → WD → Option (Int × WD)} (y1 : Int) (hrec : ∀ (x2 : Int) (w : WD), rec x2 w = some res → G E mHa_partedBy (d + 4) 2 [(0, pR 1), (1, pI y1), (2, pI x2)] [] w RF NN 0 0 (some (pI res.1), res.2, RF, NN)) (x2 : Int) (w : WD) (h : fHa_partedBy_l2_b rec y1 x2 w = some res) : G E mHa_partedBy (d + 4) 2 [(0, pR 1), (1, pI y1), (2, pI x2)] [] w RF NN 0 0 (some (pI res.1), res.2, RF, NN) := by
  unfold fHa_partedBy_l2_b at h
  refine g_iload_n (pc := 2) (j := 2) (dk d_mHa_partedBy 2 rfl) rfl ?_
  refine g_aload_n (pc := 3) (j := 0) (dk d_mHa_partedBy 3 rfl) rfl (by decide) ?_
  refine g_getI (pc := 4) fp_Ha_24 po_1 (dk d_mHa_partedBy 4 rfl) ?_
  refine h_icmp_ge (pc := 7) (tgt := 46) (dk d_mHa_partedBy 5 rfl) rfl h (fun hc10 h => ?_) (fun hc10 h => ?_)
  · refine g_iconst (pc := 46) (dk d_mHa_partedBy 26 rfl) (by decide) ?_
    exact h_zret (pc := 47) (Or.inr rfl) (dk d_mHa_partedBy 27 rfl) h
  · refine g_iload_n (pc := 10) (j := 2) (dk d_mHa_partedBy 6 rfl) rfl ?_
    refine g_iconst (pc := 11) (dk d_mHa_partedBy 7 rfl) (by decide) ?_
    refine g_iadd (pc := 12) (dk d_mHa_partedBy 8 rfl) ?_
    refine h_bvI h (fun v3_1 h => ?_)
    refine g_istore_n (pc := 13) (l' := [(3, pI v3_1), (0, pR 1), (1, pI y1), (2, pI x2)]) (dk d_mHa_partedBy 9 rfl) (Nat.le_of_ble_eq_true rfl) rfl ?_
    refine g_pick [1, 2, 3, 0] rfl (l' := [(0, pR 1), (1, pI y1), (2, pI x2), (3, pI v3_1)]) rfl ?_
    refine fHa_partedBy_l14_ok E d y1 x2 _  (fun u8 h => ?_) FU _  _ h
    · refine h_iinc (pc := 40) (j := 2) (dk d_mHa_partedBy 24 rfl) rfl (by decide) (Nat.le_of_ble_eq_true rfl) h (fun v2_9 h => ?_)
      refine g_loc (l' := [(2, pI v2_9), (0, pR 1), (1, pI y1)]) rfl ?_
      refine g_goto (pc := 43) (tgt := 2) (dk d_mHa_partedBy 25 rfl) rfl ?_
      refine g_pick [1, 2, 0] rfl (l' := [(0, pR 1), (1, pI y1), (2, pI v2_9)]) rfl ?_
      exact hrec _ _ h
set_option maxRecDepth 100000 in
set_option maxHeartbeats 4000000 in
theorem fHa_partedBy_l2_ok (E : Nat × (Int → Int)) (d : Nat) {res : Int × WD} (y1 : Int) : ∀ (k : Nat) (x2 : Int) (w : WD), fHa_partedBy_l2 y1 k x2 w = some res → G E mHa_partedBy (d + 4) 2 [(0, pR 1), (1, pI y1), (2, pI x2)] [] w RF NN 0 0 (some (pI res.1), res.2, RF, NN) := by
  intro k
  induction k with
  | zero =>
    intro x2 w h
    exact no_e h
  | succ k ih =>
    intro x2 w h
    exact fHa_partedBy_l2_b_ok E d y1 ih x2 w h
def fHa_partedBy (a1 : Int) (w : WD) : Option (Int × WD) := fHa_partedBy_l2 a1 FU 0 w
set_option maxRecDepth 100000 in
set_option maxHeartbeats 4000000 in
theorem gHa_partedBy (E : Nat × (Int → Int)) (d : Nat) {res : Int × WD} (a1 : Int) (w : WD) (h : fHa_partedBy a1 w = some res) : G E mHa_partedBy (d + 4) 0 [(0, pR 1), (1, pI a1)] [] w RF NN 0 0 (some (pI res.1), res.2, RF, NN) := by
  unfold fHa_partedBy at h
  refine g_iconst (pc := 0) (dk d_mHa_partedBy 0 rfl) (by decide) ?_
  refine g_istore_n (pc := 1) (l' := [(2, pI 0), (0, pR 1), (1, pI a1)]) (dk d_mHa_partedBy 1 rfl) (Nat.le_of_ble_eq_true rfl) rfl ?_
  refine g_pick [1, 2, 0] rfl (l' := [(0, pR 1), (1, pI a1), (2, pI 0)]) rfl ?_
  refine fHa_partedBy_l2_ok E d a1 FU _  _ h
set_option maxRecDepth 100000 in
set_option maxHeartbeats 4000000 in
theorem kHa_partedBy (E : Nat × (Int → Int)) (d : Nat) {a1 : Int} {w w1 : WD} {r : Int} (h : fHa_partedBy a1 w = some (r, w1)) : CTi E mHa_partedBy (d + 4) [pR 1, pI a1] w RF NN r w1 RF NN := by
  exact CTi_of (by decide +kernel) (Nat.le_of_ble_eq_true rfl) (Or.inr rfl) (gHa_partedBy (res := (r, w1)) E d a1 w h)
def fHa_twins_l16_b (rec : Int → Int → WD → Option (Int × WD)) (y2 : Int) (K0 : Int → WD → Option (Int × WD)) (x1 : Int) (x3 : Int) (w : WD) : Option (Int × WD) := if (w 1 4) ≤ x3 then (K0 x1 w) else (ci (fHa_alike y2 x3 7 w) <| fun (r3 : Int) (u2 : WD) => jn (β := Int → WD → Option (Int × WD)) (fun (v1_5 : Int) (u6 : WD) => bv (w32 (x3 + 1)) <| fun (v3_7 : Int) => rec v1_5 v3_7 u6) <| fun J8 => if r3 = 0 then (J8 x1 u2) else (bv (bOr x1 (bOr (bShl 1 y2) (bShl 1 x3))) <| fun (v1_9 : Int) => J8 v1_9 u2))
def fHa_twins_l16 (y2 : Int) (K0 : Int → WD → Option (Int × WD)) : Nat → Int → Int → WD → Option (Int × WD)
  | 0 => fun _ _ _ => none
  | k + 1 => fHa_twins_l16_b ( fHa_twins_l16 y2 K0 k) y2 K0
set_option maxRecDepth 100000 in
set_option maxHeartbeats 4000000 in
theorem fHa_twins_l16_b_ok (E : Nat × (Int → Int)) (d : Nat) {res : Int × WD} {rec : Int → Int → WD → Option (Int × WD)} (y2 : Int) (K0 : Int → WD → Option (Int × WD)) (hrec : ∀ (x1 : Int) (x3 : Int) (w : WD), rec x1 x3 w = some res → G E mHa_twins (d + 4) 16 [(0, pR 1), (1, pI x1), (2, pI y2), (3, pI x3)] [] w RF NN 0 0 (some (pI res.1), res.2, RF, NN)) (hK0 : ∀ (x1 : Int) (w : WD), K0 x1 w = some res → G E mHa_twins (d + 4) 51 [(0, pR 1), (1, pI x1), (2, pI y2)] [] w RF NN 0 0 (some (pI res.1), res.2, RF, NN)) (x1 : Int) (x3 : Int) (w : WD) (h : fHa_twins_l16_b rec y2 K0 x1 x3 w = some res) : G E mHa_twins (d + 4) 16 [(0, pR 1), (1, pI x1), (2, pI y2), (3, pI x3)] [] w RF NN 0 0 (some (pI res.1), res.2, RF, NN) := by
  unfold fHa_twins_l16_b at h
  refine g_iload_n (pc := 16) (j := 3) (dk d_mHa_twins 12 rfl) rfl ?_
  refine g_aload_n (pc := 17) (j := 0) (dk d_mHa_twins 13 rfl) rfl (by decide) ?_
  refine g_getI (pc := 18) fp_Ha_24 po_1 (dk d_mHa_twins 14 rfl) ?_
  refine h_icmp_ge (pc := 21) (tgt := 51) (dk d_mHa_twins 15 rfl) rfl h (fun hc11 h => ?_) (fun hc11 h => ?_)
  · refine g_pick [0, 1, 2] rfl (l' := [(0, pR 1), (1, pI x1), (2, pI y2)]) rfl ?_
    exact hK0 _ _ h
  · refine g_aload_n (pc := 24) (j := 0) (dk d_mHa_twins 16 rfl) rfl (by decide) ?_
    refine g_iload_n (pc := 25) (j := 2) (dk d_mHa_twins 17 rfl) rfl ?_
    refine g_iload_n (pc := 26) (j := 3) (dk d_mHa_twins 18 rfl) rfl ?_
    refine g_bipush (pc := 27) (dk d_mHa_twins 19 rfl) (by decide) ?_
    refine h_callVi (d := d + 3) (pc := 29) (na := 3) (av := [pI y2, pI x3, pI 7]) (k0 := 1) po_1 ⟨_, rfl⟩ ⟨rfl, rfl⟩ (dk d_mHa_twins 20 rfl) lk_Ha_80 vm_mHa_alike rfl rfl (Nat.le_of_ble_eq_true rfl) h (fun r3 u2 hq => kHa_alike E (d + 0) hq) (fun r3 u2 hb4 h => ?_)
    refine jn_e (fun J => ∀ (v1_5 : Int) (u6 : WD), J v1_5 u6 = some res → G E mHa_twins (d + 4) 45 [(0, pR 1), (1, pI v1_5), (2, pI y2), (3, pI x3)] [] u6 RF NN 0 0 (some (pI res.1), res.2, RF, NN)) h (fun v1_5 u6 h => ?_) (fun J8 hJ8 h => ?_)
    · refine h_iinc (pc := 45) (j := 3) (dk d_mHa_twins 32 rfl) rfl (by decide) (Nat.le_of_ble_eq_true rfl) h (fun v3_7 h => ?_)
      refine g_loc (l' := [(3, pI v3_7), (0, pR 1), (1, pI v1_5), (2, pI y2)]) rfl ?_
      refine g_goto (pc := 48) (tgt := 16) (dk d_mHa_twins 33 rfl) rfl ?_
      refine g_pick [1, 2, 3, 0] rfl (l' := [(0, pR 1), (1, pI v1_5), (2, pI y2), (3, pI v3_7)]) rfl ?_
      exact hrec _ _ _ h
    · refine h_if_eq (pc := 32) (tgt := 45) (dk d_mHa_twins 21 rfl) rfl h (fun hc10 h => ?_) (fun hc10 h => ?_)
      · exact hJ8 _ _ h
      · refine g_iload_n (pc := 35) (j := 1) (dk d_mHa_twins 22 rfl) rfl ?_
        refine g_iconst (pc := 36) (dk d_mHa_twins 23 rfl) (by decide) ?_
        refine g_iload_n (pc := 37) (j := 2) (dk d_mHa_twins 24 rfl) rfl ?_
        refine g_ishl (pc := 38) (dk d_mHa_twins 25 rfl) ?_
        refine g_iconst (pc := 39) (dk d_mHa_twins 26 rfl) (by decide) ?_
        refine g_iload_n (pc := 40) (j := 3) (dk d_mHa_twins 27 rfl) rfl ?_
        refine g_ishl (pc := 41) (dk d_mHa_twins 28 rfl) ?_
        refine g_ior (pc := 42) (dk d_mHa_twins 29 rfl) ?_
        refine g_ior (pc := 43) (dk d_mHa_twins 30 rfl) ?_
        refine h_bvI h (fun v1_9 h => ?_)
        refine g_istore_n (pc := 44) (l' := [(1, pI v1_9), (0, pR 1), (2, pI y2), (3, pI x3)]) (dk d_mHa_twins 31 rfl) (Nat.le_of_ble_eq_true rfl) rfl ?_
        refine g_pick [1, 0, 2, 3] rfl (l' := [(0, pR 1), (1, pI v1_9), (2, pI y2), (3, pI x3)]) rfl ?_
        exact hJ8 _ _ h
set_option maxRecDepth 100000 in
set_option maxHeartbeats 4000000 in
theorem fHa_twins_l16_ok (E : Nat × (Int → Int)) (d : Nat) {res : Int × WD} (y2 : Int) (K0 : Int → WD → Option (Int × WD)) (hK0 : ∀ (x1 : Int) (w : WD), K0 x1 w = some res → G E mHa_twins (d + 4) 51 [(0, pR 1), (1, pI x1), (2, pI y2)] [] w RF NN 0 0 (some (pI res.1), res.2, RF, NN)) : ∀ (k : Nat) (x1 : Int) (x3 : Int) (w : WD), fHa_twins_l16 y2 K0 k x1 x3 w = some res → G E mHa_twins (d + 4) 16 [(0, pR 1), (1, pI x1), (2, pI y2), (3, pI x3)] [] w RF NN 0 0 (some (pI res.1), res.2, RF, NN) := by
  intro k
  induction k with
  | zero =>
    intro x1 x3 w h
    exact no_e h
  | succ k ih =>
    intro x1 x3 w h
    exact fHa_twins_l16_b_ok E d y2 K0 ih hK0 x1 x3 w h
def fHa_twins_l4_b (rec : Int → Int → WD → Option (Int × WD)) (x1 : Int) (x2 : Int) (w : WD) : Option (Int × WD) := if (w 1 4) ≤ x2 then (some (x1, w)) else (bv (w32 (x2 + 1)) <| fun (v3_1 : Int) => fHa_twins_l16 x2 (fun (v1_12 : Int) (u13 : WD) => bv (w32 (x2 + 1)) <| fun (v2_14 : Int) => rec v1_12 v2_14 u13) FU x1 v3_1 w)
def fHa_twins_l4 : Nat → Int → Int → WD → Option (Int × WD)
  | 0 => fun _ _ _ => none
  | k + 1 => fHa_twins_l4_b ( fHa_twins_l4 k)
set_option maxRecDepth 100000 in
set_option maxHeartbeats 4000000 in
theorem fHa_twins_l4_b_ok (E : Nat × (Int → Int)) (d : Nat) {res : Int × WD} {rec : Int → Int → WD → Option (Int × WD)} (hrec : ∀ (x1 : Int) (x2 : Int) (w : WD), rec x1 x2 w = some res → G E mHa_twins (d + 4) 4 [(0, pR 1), (1, pI x1), (2, pI x2)] [] w RF NN 0 0 (some (pI res.1), res.2, RF, NN)) (x1 : Int) (x2 : Int) (w : WD) (h : fHa_twins_l4_b rec x1 x2 w = some res) : G E mHa_twins (d + 4) 4 [(0, pR 1), (1, pI x1), (2, pI x2)] [] w RF NN 0 0 (some (pI res.1), res.2, RF, NN) := by
  unfold fHa_twins_l4_b at h
  refine g_iload_n (pc := 4) (j := 2) (dk d_mHa_twins 4 rfl) rfl ?_
  refine g_aload_n (pc := 5) (j := 0) (dk d_mHa_twins 5 rfl) rfl (by decide) ?_
  refine g_getI (pc := 6) fp_Ha_24 po_1 (dk d_mHa_twins 6 rfl) ?_
  refine h_icmp_ge (pc := 9) (tgt := 57) (dk d_mHa_twins 7 rfl) rfl h (fun hc15 h => ?_) (fun hc15 h => ?_)
  · refine g_iload_n (pc := 57) (j := 1) (dk d_mHa_twins 36 rfl) rfl ?_
    exact h_iret (pc := 58) rfl (dk d_mHa_twins 37 rfl) h
  · refine g_iload_n (pc := 12) (j := 2) (dk d_mHa_twins 8 rfl) rfl ?_
    refine g_iconst (pc := 13) (dk d_mHa_twins 9 rfl) (by decide) ?_
    refine g_iadd (pc := 14) (dk d_mHa_twins 10 rfl) ?_
    refine h_bvI h (fun v3_1 h => ?_)
    refine g_istore_n (pc := 15) (l' := [(3, pI v3_1), (0, pR 1), (1, pI x1), (2, pI x2)]) (dk d_mHa_twins 11 rfl) (Nat.le_of_ble_eq_true rfl) rfl ?_
    refine g_pick [1, 2, 3, 0] rfl (l' := [(0, pR 1), (1, pI x1), (2, pI x2), (3, pI v3_1)]) rfl ?_
    refine fHa_twins_l16_ok E d x2 _  (fun v1_12 u13 h => ?_) FU _ _  _ h
    · refine h_iinc (pc := 51) (j := 2) (dk d_mHa_twins 34 rfl) rfl (by decide) (Nat.le_of_ble_eq_true rfl) h (fun v2_14 h => ?_)
      refine g_loc (l' := [(2, pI v2_14), (0, pR 1), (1, pI v1_12)]) rfl ?_
      refine g_goto (pc := 54) (tgt := 4) (dk d_mHa_twins 35 rfl) rfl ?_
      refine g_pick [1, 2, 0] rfl (l' := [(0, pR 1), (1, pI v1_12), (2, pI v2_14)]) rfl ?_
      exact hrec _ _ _ h
set_option maxRecDepth 100000 in
set_option maxHeartbeats 4000000 in
theorem fHa_twins_l4_ok (E : Nat × (Int → Int)) (d : Nat) {res : Int × WD} : ∀ (k : Nat) (x1 : Int) (x2 : Int) (w : WD), fHa_twins_l4 k x1 x2 w = some res → G E mHa_twins (d + 4) 4 [(0, pR 1), (1, pI x1), (2, pI x2)] [] w RF NN 0 0 (some (pI res.1), res.2, RF, NN) := by
  intro k
  induction k with
  | zero =>
    intro x1 x2 w h
    exact no_e h
  | succ k ih =>
    intro x1 x2 w h
    exact fHa_twins_l4_b_ok E d ih x1 x2 w h
def fHa_twins (w : WD) : Option (Int × WD) := fHa_twins_l4 FU 0 0 w
set_option maxRecDepth 100000 in
set_option maxHeartbeats 4000000 in
theorem gHa_twins (E : Nat × (Int → Int)) (d : Nat) {res : Int × WD} (w : WD) (h : fHa_twins w = some res) : G E mHa_twins (d + 4) 0 [(0, pR 1)] [] w RF NN 0 0 (some (pI res.1), res.2, RF, NN) := by
  unfold fHa_twins at h
  refine g_iconst (pc := 0) (dk d_mHa_twins 0 rfl) (by decide) ?_
  refine g_istore_n (pc := 1) (l' := [(1, pI 0), (0, pR 1)]) (dk d_mHa_twins 1 rfl) (Nat.le_of_ble_eq_true rfl) rfl ?_
  refine g_iconst (pc := 2) (dk d_mHa_twins 2 rfl) (by decide) ?_
  refine g_istore_n (pc := 3) (l' := [(2, pI 0), (1, pI 0), (0, pR 1)]) (dk d_mHa_twins 3 rfl) (Nat.le_of_ble_eq_true rfl) rfl ?_
  refine g_pick [2, 1, 0] rfl (l' := [(0, pR 1), (1, pI 0), (2, pI 0)]) rfl ?_
  refine fHa_twins_l4_ok E d FU _ _  _ h
set_option maxRecDepth 100000 in
set_option maxHeartbeats 4000000 in
theorem kHa_twins (E : Nat × (Int → Int)) (d : Nat) {w w1 : WD} {r : Int} (h : fHa_twins w = some (r, w1)) : CTi E mHa_twins (d + 4) [pR 1] w RF NN r w1 RF NN := by
  exact CTi_of (by decide +kernel) (Nat.le_of_ble_eq_true rfl) (Or.inl rfl) (gHa_twins (res := (r, w1)) E d w h)
def fB_parts_l27_b (rec : Int → Int → WD → Option (Int × WD)) (y1 : Int) (K0 : Int → WD → Option (Int × WD)) (x2 : Int) (x3 : Int) (w : WD) : Option (Int × WD) := if 8 ≤ x3 then (K0 x2 w) else (jn (β := Int → WD → Option (Int × WD)) (fun (s4 : Int) (u5 : WD) => jn (β := Int → WD → Option (Int × WD)) (fun (v2_6 : Int) (u7 : WD) => bv (w32 (x3 + 1)) <| fun (v3_8 : Int) => rec v2_6 v3_8 u7) <| fun J9 => if s4 = 0 then (J9 x2 u5) else (ci (fHa_partedBy x3 u5) <| fun (r11 : Int) (u10 : WD) => if r11 = 0 then (J9 x2 u10) else (J9 x3 u10))) <| fun J15 => jn (β := WD → Option (Int × WD)) (fun (u16 : WD) => J15 1 u16) <| fun J17 => if x2 = (-2) then (J17 w) else (ci (fJI_bitCount x3 w) <| fun (r19 : Int) (u18 : WD) => ci (fJI_bitCount x2 u18) <| fun (r22 : Int) (u21 : WD) => if r22 ≤ r19 then (J15 0 u21) else (J17 u21)))
def fB_parts_l27 (y1 : Int) (K0 : Int → WD → Option (Int × WD)) : Nat → Int → Int → WD → Option (Int × WD)
  | 0 => fun _ _ _ => none
  | k + 1 => fB_parts_l27_b ( fB_parts_l27 y1 K0 k) y1 K0
set_option maxRecDepth 100000 in
set_option maxHeartbeats 4000000 in
theorem fB_parts_l27_b_ok (E : Nat × (Int → Int)) (d : Nat) {res : Int × WD} {rec : Int → Int → WD → Option (Int × WD)} (y1 : Int) (K0 : Int → WD → Option (Int × WD)) (hrec : ∀ (x2 : Int) (x3 : Int) (w : WD), rec x2 x3 w = some res → G E mB_parts (d + 5) 27 [(0, pR 0), (1, pI y1), (2, pI x2), (3, pI x3)] [] w RF NN 0 0 (some (pI res.1), res.2, RF, NN)) (hK0 : ∀ (x2 : Int) (w : WD), K0 x2 w = some res → G E mB_parts (d + 5) 81 [(1, pI y1), (2, pI x2)] [] w RF NN 0 0 (some (pI res.1), res.2, RF, NN)) (x2 : Int) (x3 : Int) (w : WD) (h : fB_parts_l27_b rec y1 K0 x2 x3 w = some res) : G E mB_parts (d + 5) 27 [(0, pR 0), (1, pI y1), (2, pI x2), (3, pI x3)] [] w RF NN 0 0 (some (pI res.1), res.2, RF, NN) := by
  unfold fB_parts_l27_b at h
  refine g_iload_n (pc := 27) (j := 3) (dk d_mB_parts 16 rfl) rfl ?_
  refine g_bipush (pc := 28) (dk d_mB_parts 17 rfl) (by decide) ?_
  refine h_icmp_ge (pc := 30) (tgt := 81) (dk d_mB_parts 18 rfl) rfl h (fun hc26 h => ?_) (fun hc26 h => ?_)
  · refine g_pick [1, 2] rfl (l' := [(1, pI y1), (2, pI x2)]) rfl ?_
    exact hK0 _ _ h
  · refine g_iload_n (pc := 33) (j := 2) (dk d_mB_parts 19 rfl) rfl ?_
    refine g_bipush (pc := 34) (dk d_mB_parts 20 rfl) (by decide) ?_
    refine jn_e (fun J => ∀ (s4 : Int) (u5 : WD), J s4 u5 = some res → G E mB_parts (d + 5) 55 [(0, pR 0), (1, pI y1), (2, pI x2), (3, pI x3)] [pI s4] u5 RF NN 0 0 (some (pI res.1), res.2, RF, NN)) h (fun s4 u5 h => ?_) (fun J15 hJ15 h => ?_)
    · refine g_istore (pc := 55) (l' := [(4, pI s4), (0, pR 0), (1, pI y1), (2, pI x2), (3, pI x3)]) (dk d_mB_parts 30 rfl) (Nat.le_of_ble_eq_true rfl) rfl ?_
      refine g_iload (pc := 57) (j := 0) (dk d_mB_parts 31 rfl) rfl ?_
      refine jn_e (fun J => ∀ (v2_6 : Int) (u7 : WD), J v2_6 u7 = some res → G E mB_parts (d + 5) 75 [(0, pR 0), (1, pI y1), (2, pI v2_6), (3, pI x3)] [] u7 RF NN 0 0 (some (pI res.1), res.2, RF, NN)) h (fun v2_6 u7 h => ?_) (fun J9 hJ9 h => ?_)
      · refine h_iinc (pc := 75) (j := 3) (dk d_mB_parts 40 rfl) rfl (by decide) (Nat.le_of_ble_eq_true rfl) h (fun v3_8 h => ?_)
        refine g_loc (l' := [(3, pI v3_8), (0, pR 0), (1, pI y1), (2, pI v2_6)]) rfl ?_
        refine g_goto (pc := 78) (tgt := 27) (dk d_mB_parts 41 rfl) rfl ?_
        refine g_pick [1, 2, 3, 0] rfl (l' := [(0, pR 0), (1, pI y1), (2, pI v2_6), (3, pI v3_8)]) rfl ?_
        exact hrec _ _ _ h
      · refine h_if_eq (pc := 59) (tgt := 75) (dk d_mB_parts 32 rfl) rfl h (fun hc14 h => ?_) (fun hc14 h => ?_)
        · refine g_pick [1, 2, 3, 4] rfl (l' := [(0, pR 0), (1, pI y1), (2, pI x2), (3, pI x3)]) rfl ?_
          exact hJ9 _ _ h
        · refine g_aload_n (pc := 62) (j := 1) (dk d_mB_parts 33 rfl) rfl (by decide) ?_
          refine g_getR (pc := 63) (a := 1) rfl fp_B_10 po_0 (dk d_mB_parts 34 rfl) ?_
          refine g_iload_n (pc := 66) (j := 4) (dk d_mB_parts 35 rfl) rfl ?_
          refine h_callVi (d := d + 4) (pc := 67) (na := 1) (av := [pI x3]) (k0 := 1) po_1 ⟨_, rfl⟩ ⟨rfl, rfl⟩ (dk d_mB_parts 36 rfl) lk_B_199 vm_mHa_partedBy rfl rfl (Nat.le_of_ble_eq_true rfl) h (fun r11 u10 hq => kHa_partedBy E (d + 0) hq) (fun r11 u10 hb12 h => ?_)
          refine h_if_eq (pc := 70) (tgt := 75) (dk d_mB_parts 37 rfl) rfl h (fun hc13 h => ?_) (fun hc13 h => ?_)
          · refine g_pick [1, 2, 3, 4] rfl (l' := [(0, pR 0), (1, pI y1), (2, pI x2), (3, pI x3)]) rfl ?_
            exact hJ9 _ _ h
          · refine g_iload_n (pc := 73) (j := 4) (dk d_mB_parts 38 rfl) rfl ?_
            refine g_istore_n (pc := 74) (l' := [(2, pI x3), (4, pI s4), (0, pR 0), (1, pI y1), (3, pI x3)]) (dk d_mB_parts 39 rfl) (Nat.le_of_ble_eq_true rfl) rfl ?_
            refine g_pick [2, 3, 0, 4] rfl (l' := [(0, pR 0), (1, pI y1), (2, pI x3), (3, pI x3)]) rfl ?_
            exact hJ9 _ _ h
    · refine jn_e (fun J => ∀ (u16 : WD), J u16 = some res → G E mB_parts (d + 5) 50 [(0, pR 0), (1, pI y1), (2, pI x2), (3, pI x3)] [] u16 RF NN 0 0 (some (pI res.1), res.2, RF, NN)) h (fun u16 h => ?_) (fun J17 hJ17 h => ?_)
      · refine g_iconst (pc := 50) (dk d_mB_parts 27 rfl) (by decide) ?_
        refine g_goto (pc := 51) (tgt := 55) (dk d_mB_parts 28 rfl) rfl ?_
        exact hJ15 _ _ h
      · refine h_icmp_eq (pc := 36) (tgt := 50) (dk d_mB_parts 21 rfl) rfl h (fun hc25 h => ?_) (fun hc25 h => ?_)
        · exact hJ17 _ h
        · refine g_iload_n (pc := 39) (j := 3) (dk d_mB_parts 22 rfl) rfl ?_
          refine h_callSi (d := d + 4) (pc := 40) (na := 1) (av := [pI x3]) ⟨rfl, rfl⟩ (dk d_mB_parts 23 rfl) lk_B_194 vm_mJI_bitCount rfl rfl (Nat.le_of_ble_eq_true rfl) h (fun r19 u18 hq => kJI_bitCount E (d + 3) hq) (fun r19 u18 hb20 h => ?_)
          refine g_iload_n (pc := 43) (j := 2) (dk d_mB_parts 24 rfl) rfl ?_
          refine h_callSi (d := d + 4) (pc := 44) (na := 1) (av := [pI x2]) ⟨rfl, rfl⟩ (dk d_mB_parts 25 rfl) lk_B_194 vm_mJI_bitCount rfl rfl (Nat.le_of_ble_eq_true rfl) h (fun r22 u21 hq => kJI_bitCount E (d + 3) hq) (fun r22 u21 hb23 h => ?_)
          refine h_icmp_ge (pc := 47) (tgt := 54) (dk d_mB_parts 26 rfl) rfl h (fun hc24 h => ?_) (fun hc24 h => ?_)
          · refine g_iconst (pc := 54) (dk d_mB_parts 29 rfl) (by decide) ?_
            exact hJ15 _ _ h
          · exact hJ17 _ h
set_option maxRecDepth 100000 in
set_option maxHeartbeats 4000000 in
theorem fB_parts_l27_ok (E : Nat × (Int → Int)) (d : Nat) {res : Int × WD} (y1 : Int) (K0 : Int → WD → Option (Int × WD)) (hK0 : ∀ (x2 : Int) (w : WD), K0 x2 w = some res → G E mB_parts (d + 5) 81 [(1, pI y1), (2, pI x2)] [] w RF NN 0 0 (some (pI res.1), res.2, RF, NN)) : ∀ (k : Nat) (x2 : Int) (x3 : Int) (w : WD), fB_parts_l27 y1 K0 k x2 x3 w = some res → G E mB_parts (d + 5) 27 [(0, pR 0), (1, pI y1), (2, pI x2), (3, pI x3)] [] w RF NN 0 0 (some (pI res.1), res.2, RF, NN) := by
  intro k
  induction k with
  | zero =>
    intro x2 x3 w h
    exact no_e h
  | succ k ih =>
    intro x2 x3 w h
    exact fB_parts_l27_b_ok E d y1 K0 ih hK0 x2 x3 w h
def fB_parts (a1 : Int) (w : WD) : Option (Int × WD) := if a1 ≠ 2 then (ci (fB_isBit a1 w) <| fun (r2 : Int) (u1 : WD) => if r2 ≠ 0 then (fB_parts_l27 a1 (fun (v2_27 : Int) (u28 : WD) => if v2_27 = (-2) then (some (v2_27, u28)) else (if a1 ≠ 1 then (ci (fJI_bitCount v2_27 u28) <| fun (r30 : Int) (u29 : WD) => some (r30, u29)) else (some (v2_27, u28)))) FU (-2) 0 u1) else (some ((-1), u1))) else (ci (fHa_twins w) <| fun (r36 : Int) (u35 : WD) => some (r36, u35))
set_option maxRecDepth 100000 in
set_option maxHeartbeats 4000000 in
theorem gB_parts (E : Nat × (Int → Int)) (d : Nat) {res : Int × WD} (a1 : Int) (w : WD) (h : fB_parts a1 w = some res) : G E mB_parts (d + 5) 0 [(0, pR 0), (1, pI a1)] [] w RF NN 0 0 (some (pI res.1), res.2, RF, NN) := by
  unfold fB_parts at h
  refine g_iload_n (pc := 0) (j := 1) (dk d_mB_parts 0 rfl) rfl ?_
  refine g_iconst (pc := 1) (dk d_mB_parts 1 rfl) (by decide) ?_
  refine h_icmp_ne (pc := 2) (tgt := 13) (dk d_mB_parts 2 rfl) rfl h (fun hc38 h => ?_) (fun hc38 h => ?_)
  · refine g_iload_n (pc := 13) (j := 1) (dk d_mB_parts 7 rfl) rfl ?_
    refine h_callSi (d := d + 4) (pc := 14) (na := 1) (av := [pI a1]) ⟨rfl, rfl⟩ (dk d_mB_parts 8 rfl) lk_B_120 vm_mB_isBit rfl rfl (Nat.le_of_ble_eq_true rfl) h (fun r2 u1 hq => kB_isBit E (d + 3) hq) (fun r2 u1 hb3 h => ?_)
    refine h_if_ne (pc := 17) (tgt := 22) (dk d_mB_parts 9 rfl) rfl h (fun hc34 h => ?_) (fun hc34 h => ?_)
    · refine g_bipush (pc := 22) (dk d_mB_parts 12 rfl) (by decide) ?_
      refine g_istore_n (pc := 24) (l' := [(2, pI (-2)), (0, pR 0), (1, pI a1)]) (dk d_mB_parts 13 rfl) (Nat.le_of_ble_eq_true rfl) rfl ?_
      refine g_iconst (pc := 25) (dk d_mB_parts 14 rfl) (by decide) ?_
      refine g_istore_n (pc := 26) (l' := [(3, pI 0), (2, pI (-2)), (0, pR 0), (1, pI a1)]) (dk d_mB_parts 15 rfl) (Nat.le_of_ble_eq_true rfl) rfl ?_
      refine g_pick [2, 3, 1, 0] rfl (l' := [(0, pR 0), (1, pI a1), (2, pI (-2)), (3, pI 0)]) rfl ?_
      refine fB_parts_l27_ok E d a1 _  (fun v2_27 u28 h => ?_) FU _ _  _ h
      · refine g_iload_n (pc := 81) (j := 1) (dk d_mB_parts 42 rfl) rfl ?_
        refine g_bipush (pc := 82) (dk d_mB_parts 43 rfl) (by decide) ?_
        refine h_icmp_eq (pc := 84) (tgt := 92) (dk d_mB_parts 44 rfl) rfl h (fun hc33 h => ?_) (fun hc33 h => ?_)
        · refine g_iload_n (pc := 92) (j := 1) (dk d_mB_parts 48 rfl) rfl ?_
          refine g_goto (pc := 93) (tgt := 100) (dk d_mB_parts 49 rfl) rfl ?_
          exact h_iret (pc := 100) rfl (dk d_mB_parts 52 rfl) h
        · refine g_iload_n (pc := 87) (j := 0) (dk d_mB_parts 45 rfl) rfl ?_
          refine g_iconst (pc := 88) (dk d_mB_parts 46 rfl) (by decide) ?_
          refine h_icmp_ne (pc := 89) (tgt := 96) (dk d_mB_parts 47 rfl) rfl h (fun hc32 h => ?_) (fun hc32 h => ?_)
          · refine g_iload_n (pc := 96) (j := 1) (dk d_mB_parts 50 rfl) rfl ?_
            refine h_callSi (d := d + 4) (pc := 97) (na := 1) (av := [pI v2_27]) ⟨rfl, rfl⟩ (dk d_mB_parts 51 rfl) lk_B_194 vm_mJI_bitCount rfl rfl (Nat.le_of_ble_eq_true rfl) h (fun r30 u29 hq => kJI_bitCount E (d + 3) hq) (fun r30 u29 hb31 h => ?_)
            exact h_iret (pc := 100) rfl (dk d_mB_parts 52 rfl) h
          · refine g_iload_n (pc := 92) (j := 1) (dk d_mB_parts 48 rfl) rfl ?_
            refine g_goto (pc := 93) (tgt := 100) (dk d_mB_parts 49 rfl) rfl ?_
            exact h_iret (pc := 100) rfl (dk d_mB_parts 52 rfl) h
    · refine g_iconst (pc := 20) (dk d_mB_parts 10 rfl) (by decide) ?_
      exact h_iret (pc := 21) rfl (dk d_mB_parts 11 rfl) h
  · refine g_aload_n (pc := 5) (j := 0) (dk d_mB_parts 3 rfl) rfl (by decide) ?_
    refine g_getR (pc := 6) (a := 1) rfl fp_B_10 po_0 (dk d_mB_parts 4 rfl) ?_
    refine h_callVi (d := d + 4) (pc := 9) (na := 0) (av := []) (k0 := 1) po_1 ⟨_, rfl⟩ ⟨rfl, rfl⟩ (dk d_mB_parts 5 rfl) lk_B_191 vm_mHa_twins rfl rfl (Nat.le_of_ble_eq_true rfl) h (fun r36 u35 hq => kHa_twins E (d + 0) hq) (fun r36 u35 hb37 h => ?_)
    exact h_iret (pc := 12) rfl (dk d_mB_parts 6 rfl) h
set_option maxRecDepth 100000 in
set_option maxHeartbeats 4000000 in
theorem kB_parts (E : Nat × (Int → Int)) (d : Nat) {a1 : Int} {w w1 : WD} {r : Int} (h : fB_parts a1 w = some (r, w1)) : CTi E mB_parts (d + 5) [pR 0, pI a1] w RF NN r w1 RF NN := by
  exact CTi_of (by decide +kernel) (Nat.le_of_ble_eq_true rfl) (Or.inl rfl) (gB_parts (res := (r, w1)) E d a1 w h)
def fB_bytesFault (a1 : Int) (w : WD) : Option (Int × WD) := ci (fB_isShelf a1 w) <| fun (r2 : Int) (u1 : WD) => if r2 ≠ 0 then (ck (0 ≤ a1 ∧ a1 < 6) <| ci (fSh_isEmpty a1 u1) <| fun (r6 : Int) (u5 : WD) => if r6 = 0 then (ck (0 ≤ a1 ∧ a1 < 6) <| ci (fSh_holdsBytes a1 u5) <| fun (r10 : Int) (u9 : WD) => if r10 = 0 then (some ((-12), u9)) else (some (0, u9))) else (some ((-11), u5))) else (some ((-1), u1))
set_option maxRecDepth 100000 in
set_option maxHeartbeats 4000000 in
theorem gB_bytesFault (E : Nat × (Int → Int)) (d : Nat) {res : Int × WD} (a1 : Int) (w : WD) (h : fB_bytesFault a1 w = some res) : G E mB_bytesFault (d + 2) 0 [(0, pR 0), (1, pI a1)] [] w RF NN 0 0 (some (pI res.1), res.2, RF, NN) := by
  unfold fB_bytesFault at h
  refine g_iload_n (pc := 0) (j := 1) (dk d_mB_bytesFault 0 rfl) rfl ?_
  refine h_callSi (d := d + 1) (pc := 1) (na := 1) (av := [pI a1]) ⟨rfl, rfl⟩ (dk d_mB_bytesFault 1 rfl) lk_B_66 vm_mB_isShelf rfl rfl (Nat.le_of_ble_eq_true rfl) h (fun r2 u1 hq => kB_isShelf E (d + 0) hq) (fun r2 u1 hb3 h => ?_)
  refine h_if_ne (pc := 4) (tgt := 9) (dk d_mB_bytesFault 2 rfl) rfl h (fun hc14 h => ?_) (fun hc14 h => ?_)
  · refine g_aload_n (pc := 9) (j := 0) (dk d_mB_bytesFault 5 rfl) rfl (by decide) ?_
    refine g_getR (pc := 10) (a := 33) rfl fp_B_57 po_0 (dk d_mB_bytesFault 6 rfl) ?_
    refine g_iload_n (pc := 13) (j := 1) (dk d_mB_bytesFault 7 rfl) rfl ?_
    refine h_aald (pc := 14) (dk d_mB_bytesFault 8 rfl) h (fun hi4 h => ?_)
    refine h_callVi (d := d + 1) (pc := 15) (na := 0) (av := []) (k0 := (34 + 2 * a1)) (po_s hi4) ⟨_, rfl⟩ ⟨rfl, rfl⟩ (dk d_mB_bytesFault 9 rfl) lk_B_70 vm_mSh_isEmpty rfl rfl (Nat.le_of_ble_eq_true rfl) h (fun r6 u5 hq => kSh_isEmpty E (d + 0) hi4 hq) (fun r6 u5 hb7 h => ?_)
    refine h_if_eq (pc := 18) (tgt := 24) (dk d_mB_bytesFault 10 rfl) rfl h (fun hc13 h => ?_) (fun hc13 h => ?_)
    · refine g_aload_n (pc := 24) (j := 0) (dk d_mB_bytesFault 13 rfl) rfl (by decide) ?_
      refine g_getR (pc := 25) (a := 33) rfl fp_B_57 po_0 (dk d_mB_bytesFault 14 rfl) ?_
      refine g_iload_n (pc := 28) (j := 1) (dk d_mB_bytesFault 15 rfl) rfl ?_
      refine h_aald (pc := 29) (dk d_mB_bytesFault 16 rfl) h (fun hi8 h => ?_)
      refine h_callVi (d := d + 1) (pc := 30) (na := 0) (av := []) (k0 := (34 + 2 * a1)) (po_s hi8) ⟨_, rfl⟩ ⟨rfl, rfl⟩ (dk d_mB_bytesFault 17 rfl) lk_B_74 vm_mSh_holdsBytes rfl rfl (Nat.le_of_ble_eq_true rfl) h (fun r10 u9 hq => kSh_holdsBytes E (d + 0) hi8 hq) (fun r10 u9 hb11 h => ?_)
      refine h_if_eq (pc := 33) (tgt := 40) (dk d_mB_bytesFault 18 rfl) rfl h (fun hc12 h => ?_) (fun hc12 h => ?_)
      · refine g_bipush (pc := 40) (dk d_mB_bytesFault 21 rfl) (by decide) ?_
        exact h_iret (pc := 42) rfl (dk d_mB_bytesFault 22 rfl) h
      · refine g_iconst (pc := 36) (dk d_mB_bytesFault 19 rfl) (by decide) ?_
        refine g_goto (pc := 37) (tgt := 42) (dk d_mB_bytesFault 20 rfl) rfl ?_
        exact h_iret (pc := 42) rfl (dk d_mB_bytesFault 22 rfl) h
    · refine g_bipush (pc := 21) (dk d_mB_bytesFault 11 rfl) (by decide) ?_
      exact h_iret (pc := 23) rfl (dk d_mB_bytesFault 12 rfl) h
  · refine g_iconst (pc := 7) (dk d_mB_bytesFault 3 rfl) (by decide) ?_
    exact h_iret (pc := 8) rfl (dk d_mB_bytesFault 4 rfl) h
set_option maxRecDepth 100000 in
set_option maxHeartbeats 4000000 in
theorem kB_bytesFault (E : Nat × (Int → Int)) (d : Nat) {a1 : Int} {w w1 : WD} {r : Int} (h : fB_bytesFault a1 w = some (r, w1)) : CTi E mB_bytesFault (d + 2) [pR 0, pI a1] w RF NN r w1 RF NN := by
  exact CTi_of (by decide +kernel) (Nat.le_of_ble_eq_true rfl) (Or.inl rfl) (gB_bytesFault (res := (r, w1)) E d a1 w h)
def fTh_countOfWay_l7_b (rec : Int → Int → Int → WD → Option (Int × WD)) (K0 : Int → Int → WD → Option (Int × WD)) (x1 : Int) (x3 : Int) (x4 : Int) (w : WD) : Option (Int × WD) := ci (fHa_masks w) <| fun (r2 : Int) (u1 : WD) => if r2 ≤ x4 then (K0 x1 x3 u1) else (ci (fTh_inWay x4 u1) <| fun (r5 : Int) (u4 : WD) => ci (fTh_mayBe x4 r5 u4) <| fun (r8 : Int) (u7 : WD) => jn (β := Int → WD → Option (Int × WD)) (fun (s10 : Int) (u11 : WD) => bv (w64 (x1 * s10)) <| fun (v1_12 : Int) => jn (β := Int → WD → Option (Int × WD)) (fun (s13 : Int) (u14 : WD) => bv (w32 (x3 + s13)) <| fun (v3_15 : Int) => bv (w32 (x4 + 1)) <| fun (v4_16 : Int) => rec v1_12 v3_15 v4_16 u14) <| fun J17 => if r5 ≠ 6 then (J17 0 u11) else (J17 1 u11)) <| fun J19 => if r8 = 0 then (J19 0 u7) else (ci (fTh_weightOf x4 r5 u7) <| fun (r21 : Int) (u20 : WD) => J19 r21 u20))
def fTh_countOfWay_l7 (K0 : Int → Int → WD → Option (Int × WD)) : Nat → Int → Int → Int → WD → Option (Int × WD)
  | 0 => fun _ _ _ _ => none
  | k + 1 => fTh_countOfWay_l7_b ( fTh_countOfWay_l7 K0 k) K0
set_option maxRecDepth 100000 in
set_option maxHeartbeats 4000000 in
theorem fTh_countOfWay_l7_b_ok (E : Nat × (Int → Int)) (d : Nat) {res : Int × WD} {rec : Int → Int → Int → WD → Option (Int × WD)} (K0 : Int → Int → WD → Option (Int × WD)) (hrec : ∀ (x1 : Int) (x3 : Int) (x4 : Int) (w : WD), rec x1 x3 x4 w = some res → G E mTh_countOfWay (d + 2) 7 [(0, pR 12), (1, pL x1), (3, pI x3), (4, pI x4)] [] w RF NN 0 0 (some (pL res.1), res.2, RF, NN)) (hK0 : ∀ (x1 : Int) (x3 : Int) (w : WD), K0 x1 x3 w = some res → G E mTh_countOfWay (d + 2) 74 [(0, pR 12), (1, pL x1), (3, pI x3)] [] w RF NN 0 0 (some (pL res.1), res.2, RF, NN)) (x1 : Int) (x3 : Int) (x4 : Int) (w : WD) (h : fTh_countOfWay_l7_b rec K0 x1 x3 x4 w = some res) : G E mTh_countOfWay (d + 2) 7 [(0, pR 12), (1, pL x1), (3, pI x3), (4, pI x4)] [] w RF NN 0 0 (some (pL res.1), res.2, RF, NN) := by
  unfold fTh_countOfWay_l7_b at h
  refine g_iload (pc := 7) (j := 3) (dk d_mTh_countOfWay 6 rfl) rfl ?_
  refine g_aload_n (pc := 9) (j := 0) (dk d_mTh_countOfWay 7 rfl) rfl (by decide) ?_
  refine g_getR (pc := 10) (a := 1) rfl fp_Th_31 po_12 (dk d_mTh_countOfWay 8 rfl) ?_
  refine h_callVi (d := d + 1) (pc := 13) (na := 0) (av := []) (k0 := 1) po_1 ⟨_, rfl⟩ ⟨rfl, rfl⟩ (dk d_mTh_countOfWay 9 rfl) lk_Th_86 vm_mHa_masks rfl rfl (Nat.le_of_ble_eq_true rfl) h (fun r2 u1 hq => kHa_masks E (d + 0) hq) (fun r2 u1 hb3 h => ?_)
  refine h_icmp_ge (pc := 16) (tgt := 74) (dk d_mTh_countOfWay 10 rfl) rfl h (fun hc23 h => ?_) (fun hc23 h => ?_)
  · refine g_pick [0, 1, 2] rfl (l' := [(0, pR 12), (1, pL x1), (3, pI x3)]) rfl ?_
    exact hK0 _ _ _ h
  · refine g_aload_n (pc := 19) (j := 0) (dk d_mTh_countOfWay 11 rfl) rfl (by decide) ?_
    refine g_iload (pc := 20) (j := 3) (dk d_mTh_countOfWay 12 rfl) rfl ?_
    refine h_callVi (d := d + 1) (pc := 22) (na := 1) (av := [pI x4]) (k0 := 12) po_12 ⟨_, rfl⟩ ⟨rfl, rfl⟩ (dk d_mTh_countOfWay 13 rfl) lk_Th_125 vm_mTh_inWay rfl rfl (Nat.le_of_ble_eq_true rfl) h (fun r5 u4 hq => kTh_inWay E (d + 0) hq) (fun r5 u4 hb6 h => ?_)
    refine g_istore (pc := 25) (l' := [(5, pI r5), (0, pR 12), (1, pL x1), (3, pI x3), (4, pI x4)]) (dk d_mTh_countOfWay 14 rfl) (Nat.le_of_ble_eq_true rfl) rfl ?_
    refine g_lload_n (pc := 27) (j := 2) (dk d_mTh_countOfWay 15 rfl) rfl ?_
    refine g_aload_n (pc := 28) (j := 1) (dk d_mTh_countOfWay 16 rfl) rfl (by decide) ?_
    refine g_iload (pc := 29) (j := 4) (dk d_mTh_countOfWay 17 rfl) rfl ?_
    refine g_iload (pc := 31) (j := 0) (dk d_mTh_countOfWay 18 rfl) rfl ?_
    refine h_callVi (d := d + 1) (pc := 33) (na := 2) (av := [pI x4, pI r5]) (k0 := 12) po_12 ⟨_, rfl⟩ ⟨rfl, rfl⟩ (dk d_mTh_countOfWay 19 rfl) lk_Th_67 vm_mTh_mayBe rfl rfl (Nat.le_of_ble_eq_true rfl) h (fun r8 u7 hq => kTh_mayBe E (d + 0) hq) (fun r8 u7 hb9 h => ?_)
    refine jn_e (fun J => ∀ (s10 : Int) (u11 : WD), J s10 u11 = some res → G E mTh_countOfWay (d + 2) 51 [(0, pR 12), (3, pI x3), (4, pI x4), (5, pI r5)] [pL s10, pL x1] u11 RF NN 0 0 (some (pL res.1), res.2, RF, NN)) h (fun s10 u11 h => ?_) (fun J19 hJ19 h => ?_)
    · refine g_lmul (pc := 51) (dk d_mTh_countOfWay 27 rfl) ?_
      refine h_bvL h (fun v1_12 h => ?_)
      refine g_lstore_n (pc := 52) (l' := [(1, pL v1_12), (0, pR 12), (3, pI x3), (4, pI x4), (5, pI r5)]) (dk d_mTh_countOfWay 28 rfl) (Nat.le_of_ble_eq_true rfl) rfl ?_
      refine g_iload_n (pc := 53) (j := 2) (dk d_mTh_countOfWay 29 rfl) rfl ?_
      refine g_iload (pc := 54) (j := 4) (dk d_mTh_countOfWay 30 rfl) rfl ?_
      refine g_bipush (pc := 56) (dk d_mTh_countOfWay 31 rfl) (by decide) ?_
      refine jn_e (fun J => ∀ (s13 : Int) (u14 : WD), J s13 u14 = some res → G E mTh_countOfWay (d + 2) 66 [(0, pR 12), (1, pL v1_12), (4, pI x4)] [pI s13, pI x3] u14 RF NN 0 0 (some (pL res.1), res.2, RF, NN)) h (fun s13 u14 h => ?_) (fun J17 hJ17 h => ?_)
      · refine g_iadd (pc := 66) (dk d_mTh_countOfWay 36 rfl) ?_
        refine h_bvI h (fun v3_15 h => ?_)
        refine g_istore_n (pc := 67) (l' := [(3, pI v3_15), (0, pR 12), (1, pL v1_12), (4, pI x4)]) (dk d_mTh_countOfWay 37 rfl) (Nat.le_of_ble_eq_true rfl) rfl ?_
        refine h_iinc (pc := 68) (j := 3) (dk d_mTh_countOfWay 38 rfl) rfl (by decide) (Nat.le_of_ble_eq_true rfl) h (fun v4_16 h => ?_)
        refine g_loc (l' := [(4, pI v4_16), (3, pI v3_15), (0, pR 12), (1, pL v1_12)]) rfl ?_
        refine g_goto (pc := 71) (tgt := 7) (dk d_mTh_countOfWay 39 rfl) rfl ?_
        refine g_pick [2, 3, 1, 0] rfl (l' := [(0, pR 12), (1, pL v1_12), (3, pI v3_15), (4, pI v4_16)]) rfl ?_
        exact hrec _ _ _ _ h
      · refine h_icmp_ne (pc := 58) (tgt := 65) (dk d_mTh_countOfWay 32 rfl) rfl h (fun hc18 h => ?_) (fun hc18 h => ?_)
        · refine g_iconst (pc := 65) (dk d_mTh_countOfWay 35 rfl) (by decide) ?_
          refine g_pick [1, 0, 3] rfl (l' := [(0, pR 12), (1, pL v1_12), (4, pI x4)]) rfl ?_
          exact hJ17 _ _ h
        · refine g_iconst (pc := 61) (dk d_mTh_countOfWay 33 rfl) (by decide) ?_
          refine g_goto (pc := 62) (tgt := 66) (dk d_mTh_countOfWay 34 rfl) rfl ?_
          refine g_pick [1, 0, 3] rfl (l' := [(0, pR 12), (1, pL v1_12), (4, pI x4)]) rfl ?_
          exact hJ17 _ _ h
    · refine h_if_eq (pc := 36) (tgt := 50) (dk d_mTh_countOfWay 20 rfl) rfl h (fun hc22 h => ?_) (fun hc22 h => ?_)
      · refine g_lconst0 (pc := 50) (dk d_mTh_countOfWay 26 rfl) ?_
        refine g_pick [1, 3, 4, 0] rfl (l' := [(0, pR 12), (3, pI x3), (4, pI x4), (5, pI r5)]) rfl ?_
        exact hJ19 _ _ h
      · refine g_aload_n (pc := 39) (j := 1) (dk d_mTh_countOfWay 21 rfl) rfl (by decide) ?_
        refine g_iload (pc := 40) (j := 4) (dk d_mTh_countOfWay 22 rfl) rfl ?_
        refine g_iload (pc := 42) (j := 0) (dk d_mTh_countOfWay 23 rfl) rfl ?_
        refine h_callVl (d := d + 1) (pc := 44) (na := 2) (av := [pI x4, pI r5]) (k0 := 12) po_12 ⟨_, rfl⟩ ⟨rfl, rfl⟩ (dk d_mTh_countOfWay 24 rfl) lk_Th_71 vm_mTh_weightOf rfl rfl (Nat.le_of_ble_eq_true rfl) h (fun r21 u20 hq => kTh_weightOf E (d + 0) hq) (fun r21 u20 h => ?_)
        refine g_goto (pc := 47) (tgt := 51) (dk d_mTh_countOfWay 25 rfl) rfl ?_
        refine g_pick [1, 3, 4, 0] rfl (l' := [(0, pR 12), (3, pI x3), (4, pI x4), (5, pI r5)]) rfl ?_
        exact hJ19 _ _ h
set_option maxRecDepth 100000 in
set_option maxHeartbeats 4000000 in
theorem fTh_countOfWay_l7_ok (E : Nat × (Int → Int)) (d : Nat) {res : Int × WD} (K0 : Int → Int → WD → Option (Int × WD)) (hK0 : ∀ (x1 : Int) (x3 : Int) (w : WD), K0 x1 x3 w = some res → G E mTh_countOfWay (d + 2) 74 [(0, pR 12), (1, pL x1), (3, pI x3)] [] w RF NN 0 0 (some (pL res.1), res.2, RF, NN)) : ∀ (k : Nat) (x1 : Int) (x3 : Int) (x4 : Int) (w : WD), fTh_countOfWay_l7 K0 k x1 x3 x4 w = some res → G E mTh_countOfWay (d + 2) 7 [(0, pR 12), (1, pL x1), (3, pI x3), (4, pI x4)] [] w RF NN 0 0 (some (pL res.1), res.2, RF, NN) := by
  intro k
  induction k with
  | zero =>
    intro x1 x3 x4 w h
    exact no_e h
  | succ k ih =>
    intro x1 x3 x4 w h
    exact fTh_countOfWay_l7_b_ok E d K0 ih hK0 x1 x3 x4 w h
def fTh_countOfWay (w : WD) : Option (Int × WD) := fTh_countOfWay_l7 (fun (v1_24 : Int) (v3_25 : Int) (u26 : WD) => if v3_25 ≤ (u26 12 8) then (some (v1_24, u26)) else (some (0, u26))) FU 1 0 0 w
set_option maxRecDepth 100000 in
set_option maxHeartbeats 4000000 in
theorem gTh_countOfWay (E : Nat × (Int → Int)) (d : Nat) {res : Int × WD} (w : WD) (h : fTh_countOfWay w = some res) : G E mTh_countOfWay (d + 2) 0 [(0, pR 12)] [] w RF NN 0 0 (some (pL res.1), res.2, RF, NN) := by
  unfold fTh_countOfWay at h
  refine g_lconst1 (pc := 0) (dk d_mTh_countOfWay 0 rfl) ?_
  refine g_lstore_n (pc := 1) (l' := [(1, pL 1), (0, pR 12)]) (dk d_mTh_countOfWay 1 rfl) (Nat.le_of_ble_eq_true rfl) rfl ?_
  refine g_iconst (pc := 2) (dk d_mTh_countOfWay 2 rfl) (by decide) ?_
  refine g_istore_n (pc := 3) (l' := [(3, pI 0), (1, pL 1), (0, pR 12)]) (dk d_mTh_countOfWay 3 rfl) (Nat.le_of_ble_eq_true rfl) rfl ?_
  refine g_iconst (pc := 4) (dk d_mTh_countOfWay 4 rfl) (by decide) ?_
  refine g_istore (pc := 5) (l' := [(4, pI 0), (3, pI 0), (1, pL 1), (0, pR 12)]) (dk d_mTh_countOfWay 5 rfl) (Nat.le_of_ble_eq_true rfl) rfl ?_
  refine g_pick [3, 2, 1, 0] rfl (l' := [(0, pR 12), (1, pL 1), (3, pI 0), (4, pI 0)]) rfl ?_
  refine fTh_countOfWay_l7_ok E d _  (fun v1_24 v3_25 u26 h => ?_) FU _ _ _  _ h
  · refine g_iload_n (pc := 74) (j := 2) (dk d_mTh_countOfWay 40 rfl) rfl ?_
    refine g_aload_n (pc := 75) (j := 0) (dk d_mTh_countOfWay 41 rfl) rfl (by decide) ?_
    refine g_getI (pc := 76) fp_Th_51 po_12 (dk d_mTh_countOfWay 42 rfl) ?_
    refine h_icmp_le (pc := 79) (tgt := 86) (dk d_mTh_countOfWay 43 rfl) rfl h (fun hc27 h => ?_) (fun hc27 h => ?_)
    · refine g_lload_n (pc := 86) (j := 1) (dk d_mTh_countOfWay 46 rfl) rfl ?_
      exact h_lret (pc := 87) (dk d_mTh_countOfWay 47 rfl) h
    · refine g_lconst0 (pc := 82) (dk d_mTh_countOfWay 44 rfl) ?_
      refine g_goto (pc := 83) (tgt := 87) (dk d_mTh_countOfWay 45 rfl) rfl ?_
      exact h_lret (pc := 87) (dk d_mTh_countOfWay 47 rfl) h
set_option maxRecDepth 100000 in
set_option maxHeartbeats 4000000 in
theorem kTh_countOfWay (E : Nat × (Int → Int)) (d : Nat) {w w1 : WD} {r : Int} (h : fTh_countOfWay w = some (r, w1)) : CTl E mTh_countOfWay (d + 2) [pR 12] w RF NN r w1 RF NN := by
  exact CTl_of (by decide +kernel) (Nat.le_of_ble_eq_true rfl) rfl (gTh_countOfWay (res := (r, w1)) E d w h)
def fTh_foundOut (w : WD) : Option (Int × WD) := ci (fTh_countOfWay w) <| fun (r2 : Int) (u1 : WD) => ci (fTh_together u1) <| fun (r4 : Int) (u3 : WD) => ci (fTh_cut r2 r4 6 u3) <| fun (r6 : Int) (u5 : WD) => some (r6, u5)
set_option maxRecDepth 100000 in
set_option maxHeartbeats 4000000 in
theorem gTh_foundOut (E : Nat × (Int → Int)) (d : Nat) {res : Int × WD} (w : WD) (h : fTh_foundOut w = some res) : G E mTh_foundOut (d + 5) 0 [(0, pR 12)] [] w RF NN 0 0 (some (pI res.1), res.2, RF, NN) := by
  unfold fTh_foundOut at h
  refine g_aload_n (pc := 0) (j := 0) (dk d_mTh_foundOut 0 rfl) rfl (by decide) ?_
  refine h_callVl (d := d + 4) (pc := 1) (na := 0) (av := []) (k0 := 12) po_12 ⟨_, rfl⟩ ⟨rfl, rfl⟩ (dk d_mTh_foundOut 1 rfl) lk_Th_161 vm_mTh_countOfWay rfl rfl (Nat.le_of_ble_eq_true rfl) h (fun r2 u1 hq => kTh_countOfWay E (d + 2) hq) (fun r2 u1 h => ?_)
  refine g_aload_n (pc := 4) (j := 0) (dk d_mTh_foundOut 2 rfl) rfl (by decide) ?_
  refine h_callVl (d := d + 4) (pc := 5) (na := 0) (av := []) (k0 := 12) po_12 ⟨_, rfl⟩ ⟨rfl, rfl⟩ (dk d_mTh_foundOut 3 rfl) lk_Th_144 vm_mTh_together rfl rfl (Nat.le_of_ble_eq_true rfl) h (fun r4 u3 hq => kTh_together E (d + 0) hq) (fun r4 u3 h => ?_)
  refine g_bipush (pc := 8) (dk d_mTh_foundOut 4 rfl) (by decide) ?_
  refine h_callSi (d := d + 4) (pc := 10) (na := 3) (av := [pL r2, pL r4, pI 6]) ⟨rfl, rfl⟩ (dk d_mTh_foundOut 5 rfl) lk_Th_147 vm_mTh_cut rfl rfl (Nat.le_of_ble_eq_true rfl) h (fun r6 u5 hq => kTh_cut E (d + 3) hq) (fun r6 u5 hb7 h => ?_)
  exact h_iret (pc := 13) rfl (dk d_mTh_foundOut 6 rfl) h
set_option maxRecDepth 100000 in
set_option maxHeartbeats 4000000 in
theorem kTh_foundOut (E : Nat × (Int → Int)) (d : Nat) {w w1 : WD} {r : Int} (h : fTh_foundOut w = some (r, w1)) : CTi E mTh_foundOut (d + 5) [pR 12] w RF NN r w1 RF NN := by
  exact CTi_of (by decide +kernel) (Nat.le_of_ble_eq_true rfl) (Or.inl rfl) (gTh_foundOut (res := (r, w1)) E d w h)
def fTh_readTruth_l4_b (rec : Int → Int → WD → Option (Int × WD)) (y1 : Int) (x2 : Int) (x3 : Int) (w : WD) : Option (Int × WD) := ci (fHa_masks w) <| fun (r2 : Int) (u1 : WD) => if r2 ≤ x3 then (some (1, u1)) else (if 5 ≤ x3 then (some (1, u1)) else (ci (fSh_size y1 u1) <| fun (r5 : Int) (u4 : WD) => jn (β := Int → WD → Option (Int × WD)) (fun (s7 : Int) (u8 : WD) => ci (fHa_isOne s7 u8) <| fun (r10 : Int) (u9 : WD) => if r10 = 0 then (some (0, u9)) else (if (bAnd (bShr x2 s7) 1) = 0 then (ci (fTh_usedWith x2 s7 u9) <| fun (r13 : Int) (u12 : WD) => ck (0 ≤ x3 ∧ x3 < 5) <| bw (up u12 18 x3 s7) <| fun (u15 : WD) => bv (w32 (x3 + 1)) <| fun (v3_16 : Int) => rec r13 v3_16 u15) else (some (0, u9)))) <| fun J19 => if r5 ≤ x3 then (J19 (-2) u4) else (ci (fSh_at y1 x3 u4) <| fun (r21 : Int) (u20 : WD) => J19 (w32 r21) u20)))
def fTh_readTruth_l4 (y1 : Int) : Nat → Int → Int → WD → Option (Int × WD)
  | 0 => fun _ _ _ => none
  | k + 1 => fTh_readTruth_l4_b ( fTh_readTruth_l4 y1 k) y1
set_option maxRecDepth 100000 in
set_option maxHeartbeats 4000000 in
theorem fTh_readTruth_l4_b_ok (E : Nat × (Int → Int)) (d : Nat) {res : Int × WD} {rec : Int → Int → WD → Option (Int × WD)} (y1 : Int) (hy1 : 0 ≤ y1 ∧ y1 < 6) (hrec : ∀ (x2 : Int) (x3 : Int) (w : WD), rec x2 x3 w = some res → G E mTh_readTruth (d + 3) 4 [(0, pR 12), (1, pR (34 + 2 * y1)), (2, pI x2), (3, pI x3)] [] w RF NN 0 0 (some (pI res.1), res.2, RF, NN)) (x2 : Int) (x3 : Int) (w : WD) (h : fTh_readTruth_l4_b rec y1 x2 x3 w = some res) : G E mTh_readTruth (d + 3) 4 [(0, pR 12), (1, pR (34 + 2 * y1)), (2, pI x2), (3, pI x3)] [] w RF NN 0 0 (some (pI res.1), res.2, RF, NN) := by
  unfold fTh_readTruth_l4_b at h
  refine g_iload_n (pc := 4) (j := 3) (dk d_mTh_readTruth 4 rfl) rfl ?_
  refine g_aload_n (pc := 5) (j := 0) (dk d_mTh_readTruth 5 rfl) rfl (by decide) ?_
  refine g_getR (pc := 6) (a := 1) rfl fp_Th_31 po_12 (dk d_mTh_readTruth 6 rfl) ?_
  refine h_callVi (d := d + 2) (pc := 9) (na := 0) (av := []) (k0 := 1) po_1 ⟨_, rfl⟩ ⟨rfl, rfl⟩ (dk d_mTh_readTruth 7 rfl) lk_Th_86 vm_mHa_masks rfl rfl (Nat.le_of_ble_eq_true rfl) h (fun r2 u1 hq => kHa_masks E (d + 1) hq) (fun r2 u1 hb3 h => ?_)
  refine h_icmp_ge (pc := 12) (tgt := 85) (dk d_mTh_readTruth 8 rfl) rfl h (fun hc24 h => ?_) (fun hc24 h => ?_)
  · refine g_iconst (pc := 85) (dk d_mTh_readTruth 47 rfl) (by decide) ?_
    exact h_zret (pc := 86) (Or.inr rfl) (dk d_mTh_readTruth 48 rfl) h
  · refine g_iload_n (pc := 15) (j := 3) (dk d_mTh_readTruth 9 rfl) rfl ?_
    refine g_iconst (pc := 16) (dk d_mTh_readTruth 10 rfl) (by decide) ?_
    refine h_icmp_ge (pc := 17) (tgt := 85) (dk d_mTh_readTruth 11 rfl) rfl h (fun hc23 h => ?_) (fun hc23 h => ?_)
    · refine g_iconst (pc := 85) (dk d_mTh_readTruth 47 rfl) (by decide) ?_
      exact h_zret (pc := 86) (Or.inr rfl) (dk d_mTh_readTruth 48 rfl) h
    · refine g_iload_n (pc := 20) (j := 3) (dk d_mTh_readTruth 12 rfl) rfl ?_
      refine g_aload_n (pc := 21) (j := 1) (dk d_mTh_readTruth 13 rfl) rfl (by have := hy1; omega) ?_
      refine h_callVi (d := d + 2) (pc := 22) (na := 0) (av := []) (k0 := (34 + 2 * y1)) (po_s hy1) ⟨_, rfl⟩ ⟨rfl, rfl⟩ (dk d_mTh_readTruth 14 rfl) lk_Th_153 vm_mSh_size rfl rfl (Nat.le_of_ble_eq_true rfl) h (fun r5 u4 hq => kSh_size E (d + 1) hy1 hq) (fun r5 u4 hb6 h => ?_)
      refine jn_e (fun J => ∀ (s7 : Int) (u8 : WD), J s7 u8 = some res → G E mTh_readTruth (d + 3) 39 [(0, pR 12), (1, pR (34 + 2 * y1)), (2, pI x2), (3, pI x3)] [pI s7] u8 RF NN 0 0 (some (pI res.1), res.2, RF, NN)) h (fun s7 u8 h => ?_) (fun J19 hJ19 h => ?_)
      · refine g_istore (pc := 39) (l' := [(4, pI s7), (0, pR 12), (1, pR (34 + 2 * y1)), (2, pI x2), (3, pI x3)]) (dk d_mTh_readTruth 22 rfl) (Nat.le_of_ble_eq_true rfl) rfl ?_
        refine g_aload_n (pc := 41) (j := 1) (dk d_mTh_readTruth 23 rfl) rfl (by decide) ?_
        refine g_getR (pc := 42) (a := 1) rfl fp_Th_31 po_12 (dk d_mTh_readTruth 24 rfl) ?_
        refine g_iload (pc := 45) (j := 0) (dk d_mTh_readTruth 25 rfl) rfl ?_
        refine h_callVi (d := d + 2) (pc := 47) (na := 1) (av := [pI s7]) (k0 := 1) po_1 ⟨_, rfl⟩ ⟨rfl, rfl⟩ (dk d_mTh_readTruth 26 rfl) lk_Th_55 vm_mHa_isOne rfl rfl (Nat.le_of_ble_eq_true rfl) h (fun r10 u9 hq => kHa_isOne E (d + 1) hq) (fun r10 u9 hb11 h => ?_)
        refine h_if_eq (pc := 50) (tgt := 62) (dk d_mTh_readTruth 27 rfl) rfl h (fun hc18 h => ?_) (fun hc18 h => ?_)
        · refine g_iconst (pc := 62) (dk d_mTh_readTruth 34 rfl) (by decide) ?_
          exact h_zret (pc := 63) (Or.inl rfl) (dk d_mTh_readTruth 35 rfl) h
        · refine g_iload_n (pc := 53) (j := 3) (dk d_mTh_readTruth 28 rfl) rfl ?_
          refine g_iload (pc := 54) (j := 0) (dk d_mTh_readTruth 29 rfl) rfl ?_
          refine g_ishr (pc := 56) (dk d_mTh_readTruth 30 rfl) ?_
          refine g_iconst (pc := 57) (dk d_mTh_readTruth 31 rfl) (by decide) ?_
          refine g_iand (pc := 58) (dk d_mTh_readTruth 32 rfl) ?_
          refine h_if_eq (pc := 59) (tgt := 64) (dk d_mTh_readTruth 33 rfl) rfl h (fun hc17 h => ?_) (fun hc17 h => ?_)
          · refine g_iload_n (pc := 64) (j := 3) (dk d_mTh_readTruth 36 rfl) rfl ?_
            refine g_iload (pc := 65) (j := 0) (dk d_mTh_readTruth 37 rfl) rfl ?_
            refine h_callSi (d := d + 2) (pc := 67) (na := 2) (av := [pI x2, pI s7]) ⟨rfl, rfl⟩ (dk d_mTh_readTruth 38 rfl) lk_Th_122 vm_mTh_usedWith rfl rfl (Nat.le_of_ble_eq_true rfl) h (fun r13 u12 hq => kTh_usedWith E (d + 1) hq) (fun r13 u12 hb14 h => ?_)
            refine g_istore_n (pc := 70) (l' := [(2, pI r13), (4, pI s7), (0, pR 12), (1, pR (34 + 2 * y1)), (3, pI x3)]) (dk d_mTh_readTruth 39 rfl) (Nat.le_of_ble_eq_true rfl) rfl ?_
            refine g_aload_n (pc := 71) (j := 2) (dk d_mTh_readTruth 40 rfl) rfl (by decide) ?_
            refine g_getR (pc := 72) (a := 18) rfl fp_Th_28 po_12 (dk d_mTh_readTruth 41 rfl) ?_
            refine g_iload_n (pc := 75) (j := 4) (dk d_mTh_readTruth 42 rfl) rfl ?_
            refine g_iload (pc := 76) (j := 1) (dk d_mTh_readTruth 43 rfl) rfl ?_
            refine h_iast (pc := 78) (B := 5) pa_18 rfl (dk d_mTh_readTruth 44 rfl) h (fun u15 h => ?_)
            refine h_iinc (pc := 79) (j := 4) (dk d_mTh_readTruth 45 rfl) rfl (by decide) (Nat.le_of_ble_eq_true rfl) h (fun v3_16 h => ?_)
            refine g_loc (l' := [(3, pI v3_16), (2, pI r13), (4, pI s7), (0, pR 12), (1, pR (34 + 2 * y1))]) rfl ?_
            refine g_goto (pc := 82) (tgt := 4) (dk d_mTh_readTruth 46 rfl) rfl ?_
            refine g_pick [3, 4, 1, 0] rfl (l' := [(0, pR 12), (1, pR (34 + 2 * y1)), (2, pI r13), (3, pI v3_16)]) rfl ?_
            exact hrec _ _ _ h
          · refine g_iconst (pc := 62) (dk d_mTh_readTruth 34 rfl) (by decide) ?_
            exact h_zret (pc := 63) (Or.inl rfl) (dk d_mTh_readTruth 35 rfl) h
      · refine h_icmp_ge (pc := 25) (tgt := 37) (dk d_mTh_readTruth 15 rfl) rfl h (fun hc22 h => ?_) (fun hc22 h => ?_)
        · refine g_bipush (pc := 37) (dk d_mTh_readTruth 21 rfl) (by decide) ?_
          exact hJ19 _ _ h
        · refine g_aload_n (pc := 28) (j := 1) (dk d_mTh_readTruth 16 rfl) rfl (by have := hy1; omega) ?_
          refine g_iload_n (pc := 29) (j := 3) (dk d_mTh_readTruth 17 rfl) rfl ?_
          refine h_callVl (d := d + 2) (pc := 30) (na := 1) (av := [pI x3]) (k0 := (34 + 2 * y1)) (po_s hy1) ⟨_, rfl⟩ ⟨rfl, rfl⟩ (dk d_mTh_readTruth 18 rfl) lk_Th_158 vm_mSh_at rfl rfl (Nat.le_of_ble_eq_true rfl) h (fun r21 u20 hq => kSh_at E (d + 0) hy1 hq) (fun r21 u20 h => ?_)
          refine g_l2i (pc := 33) (dk d_mTh_readTruth 19 rfl) ?_
          refine g_goto (pc := 34) (tgt := 39) (dk d_mTh_readTruth 20 rfl) rfl ?_
          exact hJ19 _ _ h
set_option maxRecDepth 100000 in
set_option maxHeartbeats 4000000 in
theorem fTh_readTruth_l4_ok (E : Nat × (Int → Int)) (d : Nat) {res : Int × WD} (y1 : Int) (hy1 : 0 ≤ y1 ∧ y1 < 6) : ∀ (k : Nat) (x2 : Int) (x3 : Int) (w : WD), fTh_readTruth_l4 y1 k x2 x3 w = some res → G E mTh_readTruth (d + 3) 4 [(0, pR 12), (1, pR (34 + 2 * y1)), (2, pI x2), (3, pI x3)] [] w RF NN 0 0 (some (pI res.1), res.2, RF, NN) := by
  intro k
  induction k with
  | zero =>
    intro x2 x3 w h
    exact no_e h
  | succ k ih =>
    intro x2 x3 w h
    exact fTh_readTruth_l4_b_ok E d y1 hy1 ih x2 x3 w h
def fTh_readTruth (a1 : Int) (w : WD) : Option (Int × WD) := fTh_readTruth_l4 a1 FU 0 0 w
set_option maxRecDepth 100000 in
set_option maxHeartbeats 4000000 in
theorem gTh_readTruth (E : Nat × (Int → Int)) (d : Nat) {res : Int × WD} (a1 : Int) (ha1 : 0 ≤ a1 ∧ a1 < 6) (w : WD) (h : fTh_readTruth a1 w = some res) : G E mTh_readTruth (d + 3) 0 [(0, pR 12), (1, pR (34 + 2 * a1))] [] w RF NN 0 0 (some (pI res.1), res.2, RF, NN) := by
  unfold fTh_readTruth at h
  refine g_iconst (pc := 0) (dk d_mTh_readTruth 0 rfl) (by decide) ?_
  refine g_istore_n (pc := 1) (l' := [(2, pI 0), (0, pR 12), (1, pR (34 + 2 * a1))]) (dk d_mTh_readTruth 1 rfl) (Nat.le_of_ble_eq_true rfl) rfl ?_
  refine g_iconst (pc := 2) (dk d_mTh_readTruth 2 rfl) (by decide) ?_
  refine g_istore_n (pc := 3) (l' := [(3, pI 0), (2, pI 0), (0, pR 12), (1, pR (34 + 2 * a1))]) (dk d_mTh_readTruth 3 rfl) (Nat.le_of_ble_eq_true rfl) rfl ?_
  refine g_pick [2, 3, 1, 0] rfl (l' := [(0, pR 12), (1, pR (34 + 2 * a1)), (2, pI 0), (3, pI 0)]) rfl ?_
  refine fTh_readTruth_l4_ok E d a1 ha1 FU _ _  _ h
set_option maxRecDepth 100000 in
set_option maxHeartbeats 4000000 in
theorem kTh_readTruth (E : Nat × (Int → Int)) (d : Nat) {a1 : Int} (ha1 : 0 ≤ a1 ∧ a1 < 6) {w w1 : WD} {r : Int} (h : fTh_readTruth a1 w = some (r, w1)) : CTi E mTh_readTruth (d + 3) [pR 12, pR (34 + 2 * a1)] w RF NN r w1 RF NN := by
  exact CTi_of (by decide +kernel) (Nat.le_of_ble_eq_true rfl) (Or.inr rfl) (gTh_readTruth (res := (r, w1)) E d a1 ha1 w h)
def fB_truth (a1 : Int) (a2 : Int) (w : WD) : Option (Int × WD) := ci (fB_bytesFault a1 w) <| fun (r2 : Int) (u1 : WD) => if r2 ≠ 0 then (some ((-9223372036854775808), u1)) else (ci (fB_isBit a2 u1) <| fun (r5 : Int) (u4 : WD) => if r5 ≠ 0 then (ck (0 ≤ a1 ∧ a1 < 6) <| ci (fTh_readTruth a1 u4) <| fun (r9 : Int) (u8 : WD) => if r9 ≠ 0 then (cv (fTh_load u8) <| fun (u11 : WD) => if a2 ≠ 0 then (ci (fTh_foundOut u11) <| fun (r13 : Int) (u12 : WD) => some (r13, u12)) else (ci (fTh_countOfWay u11) <| fun (r16 : Int) (u15 : WD) => some (r16, u15))) else (some ((-2), u8))) else (some ((-9223372036854775808), u4)))
set_option maxRecDepth 100000 in
set_option maxHeartbeats 4000000 in
theorem gB_truth (E : Nat × (Int → Int)) (d : Nat) {res : Int × WD} (a1 : Int) (a2 : Int) (w : WD) (h : fB_truth a1 a2 w = some res) : G E mB_truth (d + 7) 0 [(0, pR 0), (1, pI a1), (2, pI a2)] [] w RF NN 0 0 (some (pL res.1), res.2, RF, NN) := by
  unfold fB_truth at h
  refine g_aload_n (pc := 0) (j := 0) (dk d_mB_truth 0 rfl) rfl (by decide) ?_
  refine g_iload_n (pc := 1) (j := 1) (dk d_mB_truth 1 rfl) rfl ?_
  refine h_callVi (d := d + 6) (pc := 2) (na := 1) (av := [pI a1]) (k0 := 0) po_0 ⟨_, rfl⟩ ⟨rfl, rfl⟩ (dk d_mB_truth 2 rfl) lk_B_202 vm_mB_bytesFault rfl rfl (Nat.le_of_ble_eq_true rfl) h (fun r2 u1 hq => kB_bytesFault E (d + 4) hq) (fun r2 u1 hb3 h => ?_)
  refine h_if_ne (pc := 5) (tgt := 15) (dk d_mB_truth 3 rfl) rfl h (fun hc20 h => ?_) (fun hc20 h => ?_)
  · refine g_ldc2 (pc := 15) (u := (-9223372036854775808)) ck_B_125 (by decide) (dk d_mB_truth 7 rfl) ?_
    exact h_lret (pc := 18) (dk d_mB_truth 8 rfl) h
  · refine g_iload_n (pc := 8) (j := 2) (dk d_mB_truth 4 rfl) rfl ?_
    refine h_callSi (d := d + 6) (pc := 9) (na := 1) (av := [pI a2]) ⟨rfl, rfl⟩ (dk d_mB_truth 5 rfl) lk_B_120 vm_mB_isBit rfl rfl (Nat.le_of_ble_eq_true rfl) h (fun r5 u4 hq => kB_isBit E (d + 5) hq) (fun r5 u4 hb6 h => ?_)
    refine h_if_ne (pc := 12) (tgt := 19) (dk d_mB_truth 6 rfl) rfl h (fun hc19 h => ?_) (fun hc19 h => ?_)
    · refine g_aload_n (pc := 19) (j := 0) (dk d_mB_truth 9 rfl) rfl (by decide) ?_
      refine g_getR (pc := 20) (a := 12) rfl fp_B_28 po_0 (dk d_mB_truth 10 rfl) ?_
      refine g_aload_n (pc := 23) (j := 0) (dk d_mB_truth 11 rfl) rfl (by decide) ?_
      refine g_getR (pc := 24) (a := 33) rfl fp_B_57 po_0 (dk d_mB_truth 12 rfl) ?_
      refine g_iload_n (pc := 27) (j := 1) (dk d_mB_truth 13 rfl) rfl ?_
      refine h_aald (pc := 28) (dk d_mB_truth 14 rfl) h (fun hi7 h => ?_)
      refine h_callVi (d := d + 6) (pc := 29) (na := 1) (av := [pR (34 + 2 * a1)]) (k0 := 12) po_12 ⟨_, rfl⟩ ⟨rfl, rfl⟩ (dk d_mB_truth 15 rfl) lk_B_205 vm_mTh_readTruth rfl rfl (Nat.le_of_ble_eq_true rfl) h (fun r9 u8 hq => kTh_readTruth E (d + 3) hi7 hq) (fun r9 u8 hb10 h => ?_)
      refine h_if_ne (pc := 32) (tgt := 39) (dk d_mB_truth 16 rfl) rfl h (fun hc18 h => ?_) (fun hc18 h => ?_)
      · refine g_aload_n (pc := 39) (j := 0) (dk d_mB_truth 19 rfl) rfl (by decide) ?_
        refine g_getR (pc := 40) (a := 12) rfl fp_B_28 po_0 (dk d_mB_truth 20 rfl) ?_
        refine h_callVv (d := d + 6) (pc := 43) (na := 0) (av := []) (k0 := 12) po_12 ⟨_, rfl⟩ ⟨rfl, rfl⟩ (dk d_mB_truth 21 rfl) lk_B_127 vm_mTh_load rfl rfl (Nat.le_of_ble_eq_true rfl) h (fun u11 hq => kTh_load E (d + 0) hq) (fun u11 h => ?_)
        refine g_iload_n (pc := 46) (j := 2) (dk d_mB_truth 22 rfl) rfl ?_
        refine h_if_ne (pc := 47) (tgt := 60) (dk d_mB_truth 23 rfl) rfl h (fun hc17 h => ?_) (fun hc17 h => ?_)
        · refine g_aload_n (pc := 60) (j := 0) (dk d_mB_truth 28 rfl) rfl (by decide) ?_
          refine g_getR (pc := 61) (a := 12) rfl fp_B_28 po_0 (dk d_mB_truth 29 rfl) ?_
          refine h_callVi (d := d + 6) (pc := 64) (na := 0) (av := []) (k0 := 12) po_12 ⟨_, rfl⟩ ⟨rfl, rfl⟩ (dk d_mB_truth 30 rfl) lk_B_212 vm_mTh_foundOut rfl rfl (Nat.le_of_ble_eq_true rfl) h (fun r13 u12 hq => kTh_foundOut E (d + 1) hq) (fun r13 u12 hb14 h => ?_)
          refine g_i2l (pc := 67) (dk d_mB_truth 31 rfl) ?_
          exact h_lret (pc := 68) (dk d_mB_truth 32 rfl) h
        · refine g_aload_n (pc := 50) (j := 0) (dk d_mB_truth 24 rfl) rfl (by decide) ?_
          refine g_getR (pc := 51) (a := 12) rfl fp_B_28 po_0 (dk d_mB_truth 25 rfl) ?_
          refine h_callVl (d := d + 6) (pc := 54) (na := 0) (av := []) (k0 := 12) po_12 ⟨_, rfl⟩ ⟨rfl, rfl⟩ (dk d_mB_truth 26 rfl) lk_B_209 vm_mTh_countOfWay rfl rfl (Nat.le_of_ble_eq_true rfl) h (fun r16 u15 hq => kTh_countOfWay E (d + 4) hq) (fun r16 u15 h => ?_)
          refine g_goto (pc := 57) (tgt := 68) (dk d_mB_truth 27 rfl) rfl ?_
          exact h_lret (pc := 68) (dk d_mB_truth 32 rfl) h
      · refine g_ldc2 (pc := 35) (u := (-2)) ck_B_148 (by decide) (dk d_mB_truth 17 rfl) ?_
        exact h_lret (pc := 38) (dk d_mB_truth 18 rfl) h
    · refine g_ldc2 (pc := 15) (u := (-9223372036854775808)) ck_B_125 (by decide) (dk d_mB_truth 7 rfl) ?_
      exact h_lret (pc := 18) (dk d_mB_truth 8 rfl) h
set_option maxRecDepth 100000 in
set_option maxHeartbeats 4000000 in
theorem kB_truth (E : Nat × (Int → Int)) (d : Nat) {a1 : Int} {a2 : Int} {w w1 : WD} {r : Int} (h : fB_truth a1 a2 w = some (r, w1)) : CTl E mB_truth (d + 7) [pR 0, pI a1, pI a2] w RF NN r w1 RF NN := by
  exact CTl_of (by decide +kernel) (Nat.le_of_ble_eq_true rfl) rfl (gB_truth (res := (r, w1)) E d a1 a2 w h)
def fB_truthFault (a1 : Int) (w : WD) : Option (Int × WD) := ci (fB_bytesFault a1 w) <| fun (r2 : Int) (u1 : WD) => if r2 = 0 then (ck (0 ≤ a1 ∧ a1 < 6) <| ci (fTh_readTruth a1 u1) <| fun (r6 : Int) (u5 : WD) => if r6 = 0 then (some ((-2), u5)) else (some (0, u5))) else (some (r2, u1))
set_option maxRecDepth 100000 in
set_option maxHeartbeats 4000000 in
theorem gB_truthFault (E : Nat × (Int → Int)) (d : Nat) {res : Int × WD} (a1 : Int) (w : WD) (h : fB_truthFault a1 w = some res) : G E mB_truthFault (d + 4) 0 [(0, pR 0), (1, pI a1)] [] w RF NN 0 0 (some (pI res.1), res.2, RF, NN) := by
  unfold fB_truthFault at h
  refine g_aload_n (pc := 0) (j := 0) (dk d_mB_truthFault 0 rfl) rfl (by decide) ?_
  refine g_iload_n (pc := 1) (j := 1) (dk d_mB_truthFault 1 rfl) rfl ?_
  refine h_callVi (d := d + 3) (pc := 2) (na := 1) (av := [pI a1]) (k0 := 0) po_0 ⟨_, rfl⟩ ⟨rfl, rfl⟩ (dk d_mB_truthFault 2 rfl) lk_B_202 vm_mB_bytesFault rfl rfl (Nat.le_of_ble_eq_true rfl) h (fun r2 u1 hq => kB_bytesFault E (d + 1) hq) (fun r2 u1 hb3 h => ?_)
  refine g_istore_n (pc := 5) (l' := [(2, pI r2), (0, pR 0), (1, pI a1)]) (dk d_mB_truthFault 3 rfl) (Nat.le_of_ble_eq_true rfl) rfl ?_
  refine g_iload_n (pc := 6) (j := 0) (dk d_mB_truthFault 4 rfl) rfl ?_
  refine h_if_eq (pc := 7) (tgt := 12) (dk d_mB_truthFault 5 rfl) rfl h (fun hc9 h => ?_) (fun hc9 h => ?_)
  · refine g_aload_n (pc := 12) (j := 1) (dk d_mB_truthFault 8 rfl) rfl (by decide) ?_
    refine g_getR (pc := 13) (a := 12) rfl fp_B_28 po_0 (dk d_mB_truthFault 9 rfl) ?_
    refine g_aload_n (pc := 16) (j := 1) (dk d_mB_truthFault 10 rfl) rfl (by decide) ?_
    refine g_getR (pc := 17) (a := 33) rfl fp_B_57 po_0 (dk d_mB_truthFault 11 rfl) ?_
    refine g_iload_n (pc := 20) (j := 2) (dk d_mB_truthFault 12 rfl) rfl ?_
    refine h_aald (pc := 21) (dk d_mB_truthFault 13 rfl) h (fun hi4 h => ?_)
    refine h_callVi (d := d + 3) (pc := 22) (na := 1) (av := [pR (34 + 2 * a1)]) (k0 := 12) po_12 ⟨_, rfl⟩ ⟨rfl, rfl⟩ (dk d_mB_truthFault 14 rfl) lk_B_205 vm_mTh_readTruth rfl rfl (Nat.le_of_ble_eq_true rfl) h (fun r6 u5 hq => kTh_readTruth E (d + 0) hi4 hq) (fun r6 u5 hb7 h => ?_)
    refine h_if_eq (pc := 25) (tgt := 32) (dk d_mB_truthFault 15 rfl) rfl h (fun hc8 h => ?_) (fun hc8 h => ?_)
    · refine g_bipush (pc := 32) (dk d_mB_truthFault 18 rfl) (by decide) ?_
      exact h_iret (pc := 34) rfl (dk d_mB_truthFault 19 rfl) h
    · refine g_iconst (pc := 28) (dk d_mB_truthFault 16 rfl) (by decide) ?_
      refine g_goto (pc := 29) (tgt := 34) (dk d_mB_truthFault 17 rfl) rfl ?_
      exact h_iret (pc := 34) rfl (dk d_mB_truthFault 19 rfl) h
  · refine g_iload_n (pc := 10) (j := 0) (dk d_mB_truthFault 6 rfl) rfl ?_
    exact h_iret (pc := 11) rfl (dk d_mB_truthFault 7 rfl) h
set_option maxRecDepth 100000 in
set_option maxHeartbeats 4000000 in
theorem kB_truthFault (E : Nat × (Int → Int)) (d : Nat) {a1 : Int} {w w1 : WD} {r : Int} (h : fB_truthFault a1 w = some (r, w1)) : CTi E mB_truthFault (d + 4) [pR 0, pI a1] w RF NN r w1 RF NN := by
  exact CTi_of (by decide +kernel) (Nat.le_of_ble_eq_true rfl) (Or.inl rfl) (gB_truthFault (res := (r, w1)) E d a1 w h)
def fTh_maskInWay_l2_b (rec : Int → WD → Option (Int × WD)) (y1 : Int) (x2 : Int) (w : WD) : Option (Int × WD) := ci (fHa_masks w) <| fun (r2 : Int) (u1 : WD) => if r2 ≤ x2 then (some ((-1), u1)) else (ci (fTh_inWay x2 u1) <| fun (r5 : Int) (u4 : WD) => if r5 ≠ y1 then (bv (w32 (x2 + 1)) <| fun (v2_7 : Int) => rec v2_7 u4) else (some (x2, u4)))
def fTh_maskInWay_l2 (y1 : Int) : Nat → Int → WD → Option (Int × WD)
  | 0 => fun _ _ => none
  | k + 1 => fTh_maskInWay_l2_b ( fTh_maskInWay_l2 y1 k) y1
set_option maxRecDepth 100000 in
set_option maxHeartbeats 4000000 in
theorem fTh_maskInWay_l2_b_ok (E : Nat × (Int → Int)) (d : Nat) {res : Int × WD} {rec : Int → WD → Option (Int × WD)} (y1 : Int) (hrec : ∀ (x2 : Int) (w : WD), rec x2 w = some res → G E mTh_maskInWay (d + 2) 2 [(0, pR 12), (1, pI y1), (2, pI x2)] [] w RF NN 0 0 (some (pI res.1), res.2, RF, NN)) (x2 : Int) (w : WD) (h : fTh_maskInWay_l2_b rec y1 x2 w = some res) : G E mTh_maskInWay (d + 2) 2 [(0, pR 12), (1, pI y1), (2, pI x2)] [] w RF NN 0 0 (some (pI res.1), res.2, RF, NN) := by
  unfold fTh_maskInWay_l2_b at h
  refine g_iload_n (pc := 2) (j := 2) (dk d_mTh_maskInWay 2 rfl) rfl ?_
  refine g_aload_n (pc := 3) (j := 0) (dk d_mTh_maskInWay 3 rfl) rfl (by decide) ?_
  refine g_getR (pc := 4) (a := 1) rfl fp_Th_31 po_12 (dk d_mTh_maskInWay 4 rfl) ?_
  refine h_callVi (d := d + 1) (pc := 7) (na := 0) (av := []) (k0 := 1) po_1 ⟨_, rfl⟩ ⟨rfl, rfl⟩ (dk d_mTh_maskInWay 5 rfl) lk_Th_86 vm_mHa_masks rfl rfl (Nat.le_of_ble_eq_true rfl) h (fun r2 u1 hq => kHa_masks E (d + 0) hq) (fun r2 u1 hb3 h => ?_)
  refine h_icmp_ge (pc := 10) (tgt := 30) (dk d_mTh_maskInWay 6 rfl) rfl h (fun hc9 h => ?_) (fun hc9 h => ?_)
  · refine g_iconst (pc := 30) (dk d_mTh_maskInWay 16 rfl) (by decide) ?_
    exact h_iret (pc := 31) rfl (dk d_mTh_maskInWay 17 rfl) h
  · refine g_aload_n (pc := 13) (j := 0) (dk d_mTh_maskInWay 7 rfl) rfl (by decide) ?_
    refine g_iload_n (pc := 14) (j := 2) (dk d_mTh_maskInWay 8 rfl) rfl ?_
    refine h_callVi (d := d + 1) (pc := 15) (na := 1) (av := [pI x2]) (k0 := 12) po_12 ⟨_, rfl⟩ ⟨rfl, rfl⟩ (dk d_mTh_maskInWay 9 rfl) lk_Th_125 vm_mTh_inWay rfl rfl (Nat.le_of_ble_eq_true rfl) h (fun r5 u4 hq => kTh_inWay E (d + 0) hq) (fun r5 u4 hb6 h => ?_)
    refine g_iload_n (pc := 18) (j := 1) (dk d_mTh_maskInWay 10 rfl) rfl ?_
    refine h_icmp_ne (pc := 19) (tgt := 24) (dk d_mTh_maskInWay 11 rfl) rfl h (fun hc8 h => ?_) (fun hc8 h => ?_)
    · refine h_iinc (pc := 24) (j := 2) (dk d_mTh_maskInWay 14 rfl) rfl (by decide) (Nat.le_of_ble_eq_true rfl) h (fun v2_7 h => ?_)
      refine g_loc (l' := [(2, pI v2_7), (0, pR 12), (1, pI y1)]) rfl ?_
      refine g_goto (pc := 27) (tgt := 2) (dk d_mTh_maskInWay 15 rfl) rfl ?_
      refine g_pick [1, 2, 0] rfl (l' := [(0, pR 12), (1, pI y1), (2, pI v2_7)]) rfl ?_
      exact hrec _ _ h
    · refine g_iload_n (pc := 22) (j := 2) (dk d_mTh_maskInWay 12 rfl) rfl ?_
      exact h_iret (pc := 23) rfl (dk d_mTh_maskInWay 13 rfl) h
set_option maxRecDepth 100000 in
set_option maxHeartbeats 4000000 in
theorem fTh_maskInWay_l2_ok (E : Nat × (Int → Int)) (d : Nat) {res : Int × WD} (y1 : Int) : ∀ (k : Nat) (x2 : Int) (w : WD), fTh_maskInWay_l2 y1 k x2 w = some res → G E mTh_maskInWay (d + 2) 2 [(0, pR 12), (1, pI y1), (2, pI x2)] [] w RF NN 0 0 (some (pI res.1), res.2, RF, NN) := by
  intro k
  induction k with
  | zero =>
    intro x2 w h
    exact no_e h
  | succ k ih =>
    intro x2 w h
    exact fTh_maskInWay_l2_b_ok E d y1 ih x2 w h
def fTh_maskInWay (a1 : Int) (w : WD) : Option (Int × WD) := fTh_maskInWay_l2 a1 FU 0 w
set_option maxRecDepth 100000 in
set_option maxHeartbeats 4000000 in
theorem gTh_maskInWay (E : Nat × (Int → Int)) (d : Nat) {res : Int × WD} (a1 : Int) (w : WD) (h : fTh_maskInWay a1 w = some res) : G E mTh_maskInWay (d + 2) 0 [(0, pR 12), (1, pI a1)] [] w RF NN 0 0 (some (pI res.1), res.2, RF, NN) := by
  unfold fTh_maskInWay at h
  refine g_iconst (pc := 0) (dk d_mTh_maskInWay 0 rfl) (by decide) ?_
  refine g_istore_n (pc := 1) (l' := [(2, pI 0), (0, pR 12), (1, pI a1)]) (dk d_mTh_maskInWay 1 rfl) (Nat.le_of_ble_eq_true rfl) rfl ?_
  refine g_pick [1, 2, 0] rfl (l' := [(0, pR 12), (1, pI a1), (2, pI 0)]) rfl ?_
  refine fTh_maskInWay_l2_ok E d a1 FU _  _ h
set_option maxRecDepth 100000 in
set_option maxHeartbeats 4000000 in
theorem kTh_maskInWay (E : Nat × (Int → Int)) (d : Nat) {a1 : Int} {w w1 : WD} {r : Int} (h : fTh_maskInWay a1 w = some (r, w1)) : CTi E mTh_maskInWay (d + 2) [pR 12, pI a1] w RF NN r w1 RF NN := by
  exact CTi_of (by decide +kernel) (Nat.le_of_ble_eq_true rfl) (Or.inl rfl) (gTh_maskInWay (res := (r, w1)) E d a1 w h)
def fB_feign_l99_b (rec : Int → Int → Int → WD → Option (Int × WD)) (y2 : Int) (y3 : Int) (y5 : Int) (y8 : Int) (K0 : Int → Int → WD → Option (Int × WD)) (x6 : Int) (x7 : Int) (x9 : Int) (w : WD) : Option (Int × WD) := if 4 ≤ x9 then (K0 x6 x7 w) else (cv (fTh_weigh y5 y8 x9 w) <| fun (u20 : WD) => ci (fTh_thousandths y5 y2 u20) <| fun (r22 : Int) (u21 : WD) => jn (β := Int → Int → WD → Option (Int × WD)) (fun (v6_24 : Int) (v7_25 : Int) (u26 : WD) => bv (w32 (x9 + 1)) <| fun (v9_27 : Int) => rec v6_24 v7_25 v9_27 u26) <| fun J28 => if x6 ≤ r22 then (J28 x6 x7 u21) else (bv (w32 ((w32 (10 * y8)) + x9)) <| fun (v7_29 : Int) => J28 r22 v7_29 u21))
def fB_feign_l99 (y2 : Int) (y3 : Int) (y5 : Int) (y8 : Int) (K0 : Int → Int → WD → Option (Int × WD)) : Nat → Int → Int → Int → WD → Option (Int × WD)
  | 0 => fun _ _ _ _ => none
  | k + 1 => fB_feign_l99_b ( fB_feign_l99 y2 y3 y5 y8 K0 k) y2 y3 y5 y8 K0
set_option maxRecDepth 100000 in
set_option maxHeartbeats 4000000 in
theorem fB_feign_l99_b_ok (E : Nat × (Int → Int)) (d : Nat) {res : Int × WD} {rec : Int → Int → Int → WD → Option (Int × WD)} (y2 : Int) (y3 : Int) (y5 : Int) (y8 : Int) (K0 : Int → Int → WD → Option (Int × WD)) (hrec : ∀ (x6 : Int) (x7 : Int) (x9 : Int) (w : WD), rec x6 x7 x9 w = some res → G E mB_feign (d + 7) 99 [(0, pR 0), (2, pI y2), (3, pI y3), (5, pI y5), (6, pI x6), (7, pI x7), (8, pI y8), (9, pI x9)] [] w RF NN 0 0 (some (pI res.1), res.2, RF, NN)) (hK0 : ∀ (x6 : Int) (x7 : Int) (w : WD), K0 x6 x7 w = some res → G E mB_feign (d + 7) 157 [(0, pR 0), (2, pI y2), (3, pI y3), (5, pI y5), (6, pI x6), (7, pI x7), (8, pI y8)] [] w RF NN 0 0 (some (pI res.1), res.2, RF, NN)) (x6 : Int) (x7 : Int) (x9 : Int) (w : WD) (h : fB_feign_l99_b rec y2 y3 y5 y8 K0 x6 x7 x9 w = some res) : G E mB_feign (d + 7) 99 [(0, pR 0), (2, pI y2), (3, pI y3), (5, pI y5), (6, pI x6), (7, pI x7), (8, pI y8), (9, pI x9)] [] w RF NN 0 0 (some (pI res.1), res.2, RF, NN) := by
  unfold fB_feign_l99_b at h
  refine g_iload (pc := 99) (j := 7) (dk d_mB_feign 50 rfl) rfl ?_
  refine g_iconst (pc := 101) (dk d_mB_feign 51 rfl) (by decide) ?_
  refine h_icmp_ge (pc := 102) (tgt := 157) (dk d_mB_feign 52 rfl) rfl h (fun hc31 h => ?_) (fun hc31 h => ?_)
  · refine g_pick [0, 1, 2, 3, 4, 5, 6] rfl (l' := [(0, pR 0), (2, pI y2), (3, pI y3), (5, pI y5), (6, pI x6), (7, pI x7), (8, pI y8)]) rfl ?_
    exact hK0 _ _ _ h
  · refine g_aload_n (pc := 105) (j := 0) (dk d_mB_feign 53 rfl) rfl (by decide) ?_
    refine g_getR (pc := 106) (a := 12) rfl fp_B_28 po_0 (dk d_mB_feign 54 rfl) ?_
    refine g_iload (pc := 109) (j := 3) (dk d_mB_feign 55 rfl) rfl ?_
    refine g_iload (pc := 111) (j := 6) (dk d_mB_feign 56 rfl) rfl ?_
    refine g_iload (pc := 113) (j := 7) (dk d_mB_feign 57 rfl) rfl ?_
    refine h_callVv (d := d + 6) (pc := 115) (na := 3) (av := [pI y5, pI y8, pI x9]) (k0 := 12) po_12 ⟨_, rfl⟩ ⟨rfl, rfl⟩ (dk d_mB_feign 58 rfl) lk_B_224 vm_mTh_weigh rfl rfl (Nat.le_of_ble_eq_true rfl) h (fun u20 hq => kTh_weigh E (d + 3) hq) (fun u20 h => ?_)
    refine g_aload_n (pc := 118) (j := 0) (dk d_mB_feign 59 rfl) rfl (by decide) ?_
    refine g_getR (pc := 119) (a := 12) rfl fp_B_28 po_0 (dk d_mB_feign 60 rfl) ?_
    refine g_iload (pc := 122) (j := 3) (dk d_mB_feign 61 rfl) rfl ?_
    refine g_iload_n (pc := 124) (j := 1) (dk d_mB_feign 62 rfl) rfl ?_
    refine h_callVi (d := d + 6) (pc := 125) (na := 2) (av := [pI y5, pI y2]) (k0 := 12) po_12 ⟨_, rfl⟩ ⟨rfl, rfl⟩ (dk d_mB_feign 63 rfl) lk_B_185 vm_mTh_thousandths rfl rfl (Nat.le_of_ble_eq_true rfl) h (fun r22 u21 hq => kTh_thousandths E (d + 0) hq) (fun r22 u21 hb23 h => ?_)
    refine g_istore (pc := 128) (l' := [(10, pI r22), (0, pR 0), (2, pI y2), (3, pI y3), (5, pI y5), (6, pI x6), (7, pI x7), (8, pI y8), (9, pI x9)]) (dk d_mB_feign 64 rfl) (Nat.le_of_ble_eq_true rfl) rfl ?_
    refine g_iload (pc := 130) (j := 0) (dk d_mB_feign 65 rfl) rfl ?_
    refine g_iload (pc := 132) (j := 5) (dk d_mB_feign 66 rfl) rfl ?_
    refine jn_e (fun J => ∀ (v6_24 : Int) (v7_25 : Int) (u26 : WD), J v6_24 v7_25 u26 = some res → G E mB_feign (d + 7) 151 [(0, pR 0), (2, pI y2), (3, pI y3), (5, pI y5), (6, pI v6_24), (7, pI v7_25), (8, pI y8), (9, pI x9)] [] u26 RF NN 0 0 (some (pI res.1), res.2, RF, NN)) h (fun v6_24 v7_25 u26 h => ?_) (fun J28 hJ28 h => ?_)
    · refine h_iinc (pc := 151) (j := 7) (dk d_mB_feign 76 rfl) rfl (by decide) (Nat.le_of_ble_eq_true rfl) h (fun v9_27 h => ?_)
      refine g_loc (l' := [(9, pI v9_27), (0, pR 0), (2, pI y2), (3, pI y3), (5, pI y5), (6, pI v6_24), (7, pI v7_25), (8, pI y8)]) rfl ?_
      refine g_goto (pc := 154) (tgt := 99) (dk d_mB_feign 77 rfl) rfl ?_
      refine g_pick [1, 2, 3, 4, 5, 6, 7, 0] rfl (l' := [(0, pR 0), (2, pI y2), (3, pI y3), (5, pI y5), (6, pI v6_24), (7, pI v7_25), (8, pI y8), (9, pI v9_27)]) rfl ?_
      exact hrec _ _ _ _ h
    · refine h_icmp_ge (pc := 134) (tgt := 151) (dk d_mB_feign 67 rfl) rfl h (fun hc30 h => ?_) (fun hc30 h => ?_)
      · refine g_pick [1, 2, 3, 4, 5, 6, 7, 8] rfl (l' := [(0, pR 0), (2, pI y2), (3, pI y3), (5, pI y5), (6, pI x6), (7, pI x7), (8, pI y8), (9, pI x9)]) rfl ?_
        exact hJ28 _ _ _ h
      · refine g_bipush (pc := 137) (dk d_mB_feign 68 rfl) (by decide) ?_
        refine g_iload (pc := 139) (j := 7) (dk d_mB_feign 69 rfl) rfl ?_
        refine g_imul (pc := 141) (dk d_mB_feign 70 rfl) ?_
        refine g_iload (pc := 142) (j := 8) (dk d_mB_feign 71 rfl) rfl ?_
        refine g_iadd (pc := 144) (dk d_mB_feign 72 rfl) ?_
        refine h_bvI h (fun v7_29 h => ?_)
        refine g_istore (pc := 145) (l' := [(7, pI v7_29), (10, pI r22), (0, pR 0), (2, pI y2), (3, pI y3), (5, pI y5), (6, pI x6), (8, pI y8), (9, pI x9)]) (dk d_mB_feign 73 rfl) (Nat.le_of_ble_eq_true rfl) rfl ?_
        refine g_iload (pc := 147) (j := 1) (dk d_mB_feign 74 rfl) rfl ?_
        refine g_istore (pc := 149) (l' := [(6, pI r22), (7, pI v7_29), (10, pI r22), (0, pR 0), (2, pI y2), (3, pI y3), (5, pI y5), (8, pI y8), (9, pI x9)]) (dk d_mB_feign 75 rfl) (Nat.le_of_ble_eq_true rfl) rfl ?_
        refine g_pick [3, 4, 5, 6, 0, 1, 7, 8] rfl (l' := [(0, pR 0), (2, pI y2), (3, pI y3), (5, pI y5), (6, pI r22), (7, pI v7_29), (8, pI y8), (9, pI x9)]) rfl ?_
        exact hJ28 _ _ _ h
set_option maxRecDepth 100000 in
set_option maxHeartbeats 4000000 in
theorem fB_feign_l99_ok (E : Nat × (Int → Int)) (d : Nat) {res : Int × WD} (y2 : Int) (y3 : Int) (y5 : Int) (y8 : Int) (K0 : Int → Int → WD → Option (Int × WD)) (hK0 : ∀ (x6 : Int) (x7 : Int) (w : WD), K0 x6 x7 w = some res → G E mB_feign (d + 7) 157 [(0, pR 0), (2, pI y2), (3, pI y3), (5, pI y5), (6, pI x6), (7, pI x7), (8, pI y8)] [] w RF NN 0 0 (some (pI res.1), res.2, RF, NN)) : ∀ (k : Nat) (x6 : Int) (x7 : Int) (x9 : Int) (w : WD), fB_feign_l99 y2 y3 y5 y8 K0 k x6 x7 x9 w = some res → G E mB_feign (d + 7) 99 [(0, pR 0), (2, pI y2), (3, pI y3), (5, pI y5), (6, pI x6), (7, pI x7), (8, pI y8), (9, pI x9)] [] w RF NN 0 0 (some (pI res.1), res.2, RF, NN) := by
  intro k
  induction k with
  | zero =>
    intro x6 x7 x9 w h
    exact no_e h
  | succ k ih =>
    intro x6 x7 x9 w h
    exact fB_feign_l99_b_ok E d y2 y3 y5 y8 K0 ih hK0 x6 x7 x9 w h
def fB_feign_l90_b (rec : Int → Int → Int → WD → Option (Int × WD)) (y2 : Int) (y3 : Int) (y5 : Int) (K0 : Int → Int → WD → Option (Int × WD)) (x6 : Int) (x7 : Int) (x8 : Int) (w : WD) : Option (Int × WD) := if 3 ≤ x8 then (K0 x6 x7 w) else (fB_feign_l99 y2 y3 y5 x8 (fun (v6_32 : Int) (v7_33 : Int) (u34 : WD) => bv (w32 (x8 + 1)) <| fun (v8_35 : Int) => rec v6_32 v7_33 v8_35 u34) FU x6 x7 0 w)
def fB_feign_l90 (y2 : Int) (y3 : Int) (y5 : Int) (K0 : Int → Int → WD → Option (Int × WD)) : Nat → Int → Int → Int → WD → Option (Int × WD)
  | 0 => fun _ _ _ _ => none
  | k + 1 => fB_feign_l90_b ( fB_feign_l90 y2 y3 y5 K0 k) y2 y3 y5 K0
set_option maxRecDepth 100000 in
set_option maxHeartbeats 4000000 in
theorem fB_feign_l90_b_ok (E : Nat × (Int → Int)) (d : Nat) {res : Int × WD} {rec : Int → Int → Int → WD → Option (Int × WD)} (y2 : Int) (y3 : Int) (y5 : Int) (K0 : Int → Int → WD → Option (Int × WD)) (hrec : ∀ (x6 : Int) (x7 : Int) (x8 : Int) (w : WD), rec x6 x7 x8 w = some res → G E mB_feign (d + 7) 90 [(0, pR 0), (2, pI y2), (3, pI y3), (5, pI y5), (6, pI x6), (7, pI x7), (8, pI x8)] [] w RF NN 0 0 (some (pI res.1), res.2, RF, NN)) (hK0 : ∀ (x6 : Int) (x7 : Int) (w : WD), K0 x6 x7 w = some res → G E mB_feign (d + 7) 163 [(3, pI y3), (6, pI x6), (7, pI x7)] [] w RF NN 0 0 (some (pI res.1), res.2, RF, NN)) (x6 : Int) (x7 : Int) (x8 : Int) (w : WD) (h : fB_feign_l90_b rec y2 y3 y5 K0 x6 x7 x8 w = some res) : G E mB_feign (d + 7) 90 [(0, pR 0), (2, pI y2), (3, pI y3), (5, pI y5), (6, pI x6), (7, pI x7), (8, pI x8)] [] w RF NN 0 0 (some (pI res.1), res.2, RF, NN) := by
  unfold fB_feign_l90_b at h
  refine g_iload (pc := 90) (j := 6) (dk d_mB_feign 45 rfl) rfl ?_
  refine g_iconst (pc := 92) (dk d_mB_feign 46 rfl) (by decide) ?_
  refine h_icmp_ge (pc := 93) (tgt := 163) (dk d_mB_feign 47 rfl) rfl h (fun hc36 h => ?_) (fun hc36 h => ?_)
  · refine g_pick [2, 4, 5] rfl (l' := [(3, pI y3), (6, pI x6), (7, pI x7)]) rfl ?_
    exact hK0 _ _ _ h
  · refine g_iconst (pc := 96) (dk d_mB_feign 48 rfl) (by decide) ?_
    refine g_istore (pc := 97) (l' := [(9, pI 0), (0, pR 0), (2, pI y2), (3, pI y3), (5, pI y5), (6, pI x6), (7, pI x7), (8, pI x8)]) (dk d_mB_feign 49 rfl) (Nat.le_of_ble_eq_true rfl) rfl ?_
    refine g_pick [1, 2, 3, 4, 5, 6, 7, 0] rfl (l' := [(0, pR 0), (2, pI y2), (3, pI y3), (5, pI y5), (6, pI x6), (7, pI x7), (8, pI x8), (9, pI 0)]) rfl ?_
    refine fB_feign_l99_ok E d y2 y3 y5 x8 _  (fun v6_32 v7_33 u34 h => ?_) FU _ _ _  _ h
    · refine h_iinc (pc := 157) (j := 6) (dk d_mB_feign 78 rfl) rfl (by decide) (Nat.le_of_ble_eq_true rfl) h (fun v8_35 h => ?_)
      refine g_loc (l' := [(8, pI v8_35), (0, pR 0), (2, pI y2), (3, pI y3), (5, pI y5), (6, pI v6_32), (7, pI v7_33)]) rfl ?_
      refine g_goto (pc := 160) (tgt := 90) (dk d_mB_feign 79 rfl) rfl ?_
      refine g_pick [1, 2, 3, 4, 5, 6, 0] rfl (l' := [(0, pR 0), (2, pI y2), (3, pI y3), (5, pI y5), (6, pI v6_32), (7, pI v7_33), (8, pI v8_35)]) rfl ?_
      exact hrec _ _ _ _ h
set_option maxRecDepth 100000 in
set_option maxHeartbeats 4000000 in
theorem fB_feign_l90_ok (E : Nat × (Int → Int)) (d : Nat) {res : Int × WD} (y2 : Int) (y3 : Int) (y5 : Int) (K0 : Int → Int → WD → Option (Int × WD)) (hK0 : ∀ (x6 : Int) (x7 : Int) (w : WD), K0 x6 x7 w = some res → G E mB_feign (d + 7) 163 [(3, pI y3), (6, pI x6), (7, pI x7)] [] w RF NN 0 0 (some (pI res.1), res.2, RF, NN)) : ∀ (k : Nat) (x6 : Int) (x7 : Int) (x8 : Int) (w : WD), fB_feign_l90 y2 y3 y5 K0 k x6 x7 x8 w = some res → G E mB_feign (d + 7) 90 [(0, pR 0), (2, pI y2), (3, pI y3), (5, pI y5), (6, pI x6), (7, pI x7), (8, pI x8)] [] w RF NN 0 0 (some (pI res.1), res.2, RF, NN) := by
  intro k
  induction k with
  | zero =>
    intro x6 x7 x8 w h
    exact no_e h
  | succ k ih =>
    intro x6 x7 x8 w h
    exact fB_feign_l90_b_ok E d y2 y3 y5 K0 ih hK0 x6 x7 x8 w h
def fB_feign (a1 : Int) (a2 : Int) (a3 : Int) (w : WD) : Option (Int × WD) := ci (fB_isShelf a1 w) <| fun (r2 : Int) (u1 : WD) => if r2 = 0 then (some ((-1), u1)) else (if a2 < 0 then (some ((-1), u1)) else (ci (fHa_persons u1) <| fun (r5 : Int) (u4 : WD) => if r5 ≤ a2 then (some ((-1), u4)) else (ci (fB_isBit a3 u4) <| fun (r8 : Int) (u7 : WD) => if r8 ≠ 0 then (ci (fB_truthFault a1 u7) <| fun (r11 : Int) (u10 : WD) => if r11 = 0 then (ci (fTh_maskInWay a2 u10) <| fun (r14 : Int) (u13 : WD) => if 0 ≤ r14 then (cv (fTh_load u13) <| fun (u16 : WD) => ci (fTh_thousandths r14 a2 u16) <| fun (r18 : Int) (u17 : WD) => fB_feign_l90 a2 a3 r14 (fun (v6_37 : Int) (v7_38 : Int) (u39 : WD) => if v7_38 = (-2) then (some (v7_38, u39)) else (if a3 ≠ 0 then (some (v6_37, u39)) else (some (v7_38, u39)))) FU r18 (-2) 0 u17) else (some ((-2), u13))) else (some (r11, u10))) else (some ((-1), u7)))))
set_option maxRecDepth 100000 in
set_option maxHeartbeats 4000000 in
theorem gB_feign (E : Nat × (Int → Int)) (d : Nat) {res : Int × WD} (a1 : Int) (a2 : Int) (a3 : Int) (w : WD) (h : fB_feign a1 a2 a3 w = some res) : G E mB_feign (d + 7) 0 [(0, pR 0), (1, pI a1), (2, pI a2), (3, pI a3)] [] w RF NN 0 0 (some (pI res.1), res.2, RF, NN) := by
  unfold fB_feign at h
  refine g_iload_n (pc := 0) (j := 1) (dk d_mB_feign 0 rfl) rfl ?_
  refine h_callSi (d := d + 6) (pc := 1) (na := 1) (av := [pI a1]) ⟨rfl, rfl⟩ (dk d_mB_feign 1 rfl) lk_B_66 vm_mB_isShelf rfl rfl (Nat.le_of_ble_eq_true rfl) h (fun r2 u1 hq => kB_isShelf E (d + 5) hq) (fun r2 u1 hb3 h => ?_)
  refine h_if_eq (pc := 4) (tgt := 29) (dk d_mB_feign 2 rfl) rfl h (fun hc47 h => ?_) (fun hc47 h => ?_)
  · refine g_iconst (pc := 29) (dk d_mB_feign 13 rfl) (by decide) ?_
    exact h_iret (pc := 30) rfl (dk d_mB_feign 14 rfl) h
  · refine g_iload_n (pc := 7) (j := 2) (dk d_mB_feign 3 rfl) rfl ?_
    refine h_if_lt (pc := 8) (tgt := 29) (dk d_mB_feign 4 rfl) rfl h (fun hc46 h => ?_) (fun hc46 h => ?_)
    · refine g_iconst (pc := 29) (dk d_mB_feign 13 rfl) (by decide) ?_
      exact h_iret (pc := 30) rfl (dk d_mB_feign 14 rfl) h
    · refine g_iload_n (pc := 11) (j := 2) (dk d_mB_feign 5 rfl) rfl ?_
      refine g_aload_n (pc := 12) (j := 0) (dk d_mB_feign 6 rfl) rfl (by decide) ?_
      refine g_getR (pc := 13) (a := 1) rfl fp_B_10 po_0 (dk d_mB_feign 7 rfl) ?_
      refine h_callVi (d := d + 6) (pc := 16) (na := 0) (av := []) (k0 := 1) po_1 ⟨_, rfl⟩ ⟨rfl, rfl⟩ (dk d_mB_feign 8 rfl) lk_B_215 vm_mHa_persons rfl rfl (Nat.le_of_ble_eq_true rfl) h (fun r5 u4 hq => kHa_persons E (d + 5) hq) (fun r5 u4 hb6 h => ?_)
      refine h_icmp_ge (pc := 19) (tgt := 29) (dk d_mB_feign 9 rfl) rfl h (fun hc45 h => ?_) (fun hc45 h => ?_)
      · refine g_iconst (pc := 29) (dk d_mB_feign 13 rfl) (by decide) ?_
        exact h_iret (pc := 30) rfl (dk d_mB_feign 14 rfl) h
      · refine g_iload_n (pc := 22) (j := 3) (dk d_mB_feign 10 rfl) rfl ?_
        refine h_callSi (d := d + 6) (pc := 23) (na := 1) (av := [pI a3]) ⟨rfl, rfl⟩ (dk d_mB_feign 11 rfl) lk_B_120 vm_mB_isBit rfl rfl (Nat.le_of_ble_eq_true rfl) h (fun r8 u7 hq => kB_isBit E (d + 5) hq) (fun r8 u7 hb9 h => ?_)
        refine h_if_ne (pc := 26) (tgt := 31) (dk d_mB_feign 12 rfl) rfl h (fun hc44 h => ?_) (fun hc44 h => ?_)
        · refine g_aload_n (pc := 31) (j := 0) (dk d_mB_feign 15 rfl) rfl (by decide) ?_
          refine g_iload_n (pc := 32) (j := 1) (dk d_mB_feign 16 rfl) rfl ?_
          refine h_callVi (d := d + 6) (pc := 33) (na := 1) (av := [pI a1]) (k0 := 0) po_0 ⟨_, rfl⟩ ⟨rfl, rfl⟩ (dk d_mB_feign 17 rfl) lk_B_218 vm_mB_truthFault rfl rfl (Nat.le_of_ble_eq_true rfl) h (fun r11 u10 hq => kB_truthFault E (d + 2) hq) (fun r11 u10 hb12 h => ?_)
          refine g_istore (pc := 36) (l' := [(4, pI r11), (0, pR 0), (1, pI a1), (2, pI a2), (3, pI a3)]) (dk d_mB_feign 18 rfl) (Nat.le_of_ble_eq_true rfl) rfl ?_
          refine g_iload (pc := 38) (j := 0) (dk d_mB_feign 19 rfl) rfl ?_
          refine h_if_eq (pc := 40) (tgt := 46) (dk d_mB_feign 20 rfl) rfl h (fun hc43 h => ?_) (fun hc43 h => ?_)
          · refine g_aload_n (pc := 46) (j := 1) (dk d_mB_feign 23 rfl) rfl (by decide) ?_
            refine g_getR (pc := 47) (a := 12) rfl fp_B_28 po_0 (dk d_mB_feign 24 rfl) ?_
            refine g_iload_n (pc := 50) (j := 3) (dk d_mB_feign 25 rfl) rfl ?_
            refine h_callVi (d := d + 6) (pc := 51) (na := 1) (av := [pI a2]) (k0 := 12) po_12 ⟨_, rfl⟩ ⟨rfl, rfl⟩ (dk d_mB_feign 26 rfl) lk_B_221 vm_mTh_maskInWay rfl rfl (Nat.le_of_ble_eq_true rfl) h (fun r14 u13 hq => kTh_maskInWay E (d + 4) hq) (fun r14 u13 hb15 h => ?_)
            refine g_istore (pc := 54) (l' := [(5, pI r14), (4, pI r11), (0, pR 0), (1, pI a1), (2, pI a2), (3, pI a3)]) (dk d_mB_feign 27 rfl) (Nat.le_of_ble_eq_true rfl) rfl ?_
            refine g_iload (pc := 56) (j := 0) (dk d_mB_feign 28 rfl) rfl ?_
            refine h_if_ge (pc := 58) (tgt := 64) (dk d_mB_feign 29 rfl) rfl h (fun hc42 h => ?_) (fun hc42 h => ?_)
            · refine g_aload_n (pc := 64) (j := 2) (dk d_mB_feign 32 rfl) rfl (by decide) ?_
              refine g_getR (pc := 65) (a := 12) rfl fp_B_28 po_0 (dk d_mB_feign 33 rfl) ?_
              refine h_callVv (d := d + 6) (pc := 68) (na := 0) (av := []) (k0 := 12) po_12 ⟨_, rfl⟩ ⟨rfl, rfl⟩ (dk d_mB_feign 34 rfl) lk_B_127 vm_mTh_load rfl rfl (Nat.le_of_ble_eq_true rfl) h (fun u16 hq => kTh_load E (d + 0) hq) (fun u16 h => ?_)
              refine g_aload_n (pc := 71) (j := 2) (dk d_mB_feign 35 rfl) rfl (by decide) ?_
              refine g_getR (pc := 72) (a := 12) rfl fp_B_28 po_0 (dk d_mB_feign 36 rfl) ?_
              refine g_iload (pc := 75) (j := 0) (dk d_mB_feign 37 rfl) rfl ?_
              refine g_iload_n (pc := 77) (j := 4) (dk d_mB_feign 38 rfl) rfl ?_
              refine h_callVi (d := d + 6) (pc := 78) (na := 2) (av := [pI r14, pI a2]) (k0 := 12) po_12 ⟨_, rfl⟩ ⟨rfl, rfl⟩ (dk d_mB_feign 39 rfl) lk_B_185 vm_mTh_thousandths rfl rfl (Nat.le_of_ble_eq_true rfl) h (fun r18 u17 hq => kTh_thousandths E (d + 0) hq) (fun r18 u17 hb19 h => ?_)
              refine g_istore (pc := 81) (l' := [(6, pI r18), (5, pI r14), (4, pI r11), (0, pR 0), (1, pI a1), (2, pI a2), (3, pI a3)]) (dk d_mB_feign 40 rfl) (Nat.le_of_ble_eq_true rfl) rfl ?_
              refine g_bipush (pc := 83) (dk d_mB_feign 41 rfl) (by decide) ?_
              refine g_istore (pc := 85) (l' := [(7, pI (-2)), (6, pI r18), (5, pI r14), (4, pI r11), (0, pR 0), (1, pI a1), (2, pI a2), (3, pI a3)]) (dk d_mB_feign 42 rfl) (Nat.le_of_ble_eq_true rfl) rfl ?_
              refine g_iconst (pc := 87) (dk d_mB_feign 43 rfl) (by decide) ?_
              refine g_istore (pc := 88) (l' := [(8, pI 0), (7, pI (-2)), (6, pI r18), (5, pI r14), (4, pI r11), (0, pR 0), (1, pI a1), (2, pI a2), (3, pI a3)]) (dk d_mB_feign 44 rfl) (Nat.le_of_ble_eq_true rfl) rfl ?_
              refine g_pick [5, 7, 8, 3, 2, 1, 0] rfl (l' := [(0, pR 0), (2, pI a2), (3, pI a3), (5, pI r14), (6, pI r18), (7, pI (-2)), (8, pI 0)]) rfl ?_
              refine fB_feign_l90_ok E d a2 a3 r14 _  (fun v6_37 v7_38 u39 h => ?_) FU _ _ _  _ h
              · refine g_iload (pc := 163) (j := 2) (dk d_mB_feign 80 rfl) rfl ?_
                refine g_bipush (pc := 165) (dk d_mB_feign 81 rfl) (by decide) ?_
                refine h_icmp_eq (pc := 167) (tgt := 174) (dk d_mB_feign 82 rfl) rfl h (fun hc41 h => ?_) (fun hc41 h => ?_)
                · refine g_iload (pc := 174) (j := 2) (dk d_mB_feign 85 rfl) rfl ?_
                  refine g_goto (pc := 176) (tgt := 181) (dk d_mB_feign 86 rfl) rfl ?_
                  exact h_iret (pc := 181) rfl (dk d_mB_feign 88 rfl) h
                · refine g_iload_n (pc := 170) (j := 0) (dk d_mB_feign 83 rfl) rfl ?_
                  refine h_if_ne (pc := 171) (tgt := 179) (dk d_mB_feign 84 rfl) rfl h (fun hc40 h => ?_) (fun hc40 h => ?_)
                  · refine g_iload (pc := 179) (j := 1) (dk d_mB_feign 87 rfl) rfl ?_
                    exact h_iret (pc := 181) rfl (dk d_mB_feign 88 rfl) h
                  · refine g_iload (pc := 174) (j := 2) (dk d_mB_feign 85 rfl) rfl ?_
                    refine g_goto (pc := 176) (tgt := 181) (dk d_mB_feign 86 rfl) rfl ?_
                    exact h_iret (pc := 181) rfl (dk d_mB_feign 88 rfl) h
            · refine g_bipush (pc := 61) (dk d_mB_feign 30 rfl) (by decide) ?_
              exact h_iret (pc := 63) rfl (dk d_mB_feign 31 rfl) h
          · refine g_iload (pc := 43) (j := 0) (dk d_mB_feign 21 rfl) rfl ?_
            exact h_iret (pc := 45) rfl (dk d_mB_feign 22 rfl) h
        · refine g_iconst (pc := 29) (dk d_mB_feign 13 rfl) (by decide) ?_
          exact h_iret (pc := 30) rfl (dk d_mB_feign 14 rfl) h
set_option maxRecDepth 100000 in
set_option maxHeartbeats 4000000 in
theorem kB_feign (E : Nat × (Int → Int)) (d : Nat) {a1 : Int} {a2 : Int} {a3 : Int} {w w1 : WD} {r : Int} (h : fB_feign a1 a2 a3 w = some (r, w1)) : CTi E mB_feign (d + 7) [pR 0, pI a1, pI a2, pI a3] w RF NN r w1 RF NN := by
  exact CTi_of (by decide +kernel) (Nat.le_of_ble_eq_true rfl) (Or.inl rfl) (gB_feign (res := (r, w1)) E d a1 a2 a3 w h)
def fTh_exchange_l48_b (rec : Int → WD → Option WD) (y1 : Int) (y2 : Int) (x4 : Int) (w : WD) : Option WD := if 7 ≤ x4 then (some w) else (ck (0 ≤ (w32 ((w32 (7 * y1)) + x4)) ∧ (w32 ((w32 (7 * y1)) + x4)) < 35) <| bv (w 14 (w32 ((w32 (7 * y1)) + x4))) <| fun (v5_4 : Int) => ck (0 ≤ (w32 ((w32 (7 * y2)) + x4)) ∧ (w32 ((w32 (7 * y2)) + x4)) < 35) <| ck (0 ≤ (w32 ((w32 (7 * y1)) + x4)) ∧ (w32 ((w32 (7 * y1)) + x4)) < 35) <| bw (up w 14 (w32 ((w32 (7 * y1)) + x4)) (w 14 (w32 ((w32 (7 * y2)) + x4)))) <| fun (u5 : WD) => ck (0 ≤ (w32 ((w32 (7 * y2)) + x4)) ∧ (w32 ((w32 (7 * y2)) + x4)) < 35) <| bw (up u5 14 (w32 ((w32 (7 * y2)) + x4)) v5_4) <| fun (u6 : WD) => bv (w32 (x4 + 1)) <| fun (v4_7 : Int) => rec v4_7 u6)
def fTh_exchange_l48 (y1 : Int) (y2 : Int) : Nat → Int → WD → Option WD
  | 0 => fun _ _ => none
  | k + 1 => fTh_exchange_l48_b ( fTh_exchange_l48 y1 y2 k) y1 y2
set_option maxRecDepth 100000 in
set_option maxHeartbeats 4000000 in
theorem fTh_exchange_l48_b_ok (E : Nat × (Int → Int)) (d : Nat) {res : WD} {rec : Int → WD → Option WD} (y1 : Int) (y2 : Int) (hrec : ∀ (x4 : Int) (w : WD), rec x4 w = some res → G E mTh_exchange (d + 1) 48 [(0, pR 12), (1, pI y1), (2, pI y2), (4, pI x4)] [] w RF NN 0 0 (none, res, RF, NN)) (x4 : Int) (w : WD) (h : fTh_exchange_l48_b rec y1 y2 x4 w = some res) : G E mTh_exchange (d + 1) 48 [(0, pR 12), (1, pI y1), (2, pI y2), (4, pI x4)] [] w RF NN 0 0 (none, res, RF, NN) := by
  unfold fTh_exchange_l48_b at h
  refine g_iload (pc := 48) (j := 3) (dk d_mTh_exchange 31 rfl) rfl ?_
  refine g_bipush (pc := 50) (dk d_mTh_exchange 32 rfl) (by decide) ?_
  refine h_icmp_ge (pc := 52) (tgt := 113) (dk d_mTh_exchange 33 rfl) rfl h (fun hc8 h => ?_) (fun hc8 h => ?_)
  · exact h_vret (pc := 113) (dk d_mTh_exchange 70 rfl) h
  · refine g_aload_n (pc := 55) (j := 0) (dk d_mTh_exchange 34 rfl) rfl (by decide) ?_
    refine g_getR (pc := 56) (a := 14) rfl fp_Th_15 po_12 (dk d_mTh_exchange 35 rfl) ?_
    refine g_bipush (pc := 59) (dk d_mTh_exchange 36 rfl) (by decide) ?_
    refine g_iload_n (pc := 61) (j := 1) (dk d_mTh_exchange 37 rfl) rfl ?_
    refine g_imul (pc := 62) (dk d_mTh_exchange 38 rfl) ?_
    refine g_iload (pc := 63) (j := 3) (dk d_mTh_exchange 39 rfl) rfl ?_
    refine g_iadd (pc := 65) (dk d_mTh_exchange 40 rfl) ?_
    refine h_lald (pc := 66) (B := 35) pa_14 rfl (dk d_mTh_exchange 41 rfl) h (fun h => ?_)
    refine h_bvL h (fun v5_4 h => ?_)
    refine g_lstore (pc := 67) (l' := [(5, pL v5_4), (0, pR 12), (1, pI y1), (2, pI y2), (4, pI x4)]) (dk d_mTh_exchange 42 rfl) (Nat.le_of_ble_eq_true rfl) rfl ?_
    refine g_aload_n (pc := 69) (j := 1) (dk d_mTh_exchange 43 rfl) rfl (by decide) ?_
    refine g_getR (pc := 70) (a := 14) rfl fp_Th_15 po_12 (dk d_mTh_exchange 44 rfl) ?_
    refine g_bipush (pc := 73) (dk d_mTh_exchange 45 rfl) (by decide) ?_
    refine g_iload_n (pc := 75) (j := 2) (dk d_mTh_exchange 46 rfl) rfl ?_
    refine g_imul (pc := 76) (dk d_mTh_exchange 47 rfl) ?_
    refine g_iload (pc := 77) (j := 4) (dk d_mTh_exchange 48 rfl) rfl ?_
    refine g_iadd (pc := 79) (dk d_mTh_exchange 49 rfl) ?_
    refine g_aload_n (pc := 80) (j := 1) (dk d_mTh_exchange 50 rfl) rfl (by decide) ?_
    refine g_getR (pc := 81) (a := 14) rfl fp_Th_15 po_12 (dk d_mTh_exchange 51 rfl) ?_
    refine g_bipush (pc := 84) (dk d_mTh_exchange 52 rfl) (by decide) ?_
    refine g_iload_n (pc := 86) (j := 3) (dk d_mTh_exchange 53 rfl) rfl ?_
    refine g_imul (pc := 87) (dk d_mTh_exchange 54 rfl) ?_
    refine g_iload (pc := 88) (j := 4) (dk d_mTh_exchange 55 rfl) rfl ?_
    refine g_iadd (pc := 90) (dk d_mTh_exchange 56 rfl) ?_
    refine h_lald (pc := 91) (B := 35) pa_14 rfl (dk d_mTh_exchange 57 rfl) h (fun h => ?_)
    refine h_last (pc := 92) (B := 35) pa_14 rfl (dk d_mTh_exchange 58 rfl) h (fun u5 h => ?_)
    refine g_aload_n (pc := 93) (j := 1) (dk d_mTh_exchange 59 rfl) rfl (by decide) ?_
    refine g_getR (pc := 94) (a := 14) rfl fp_Th_15 po_12 (dk d_mTh_exchange 60 rfl) ?_
    refine g_bipush (pc := 97) (dk d_mTh_exchange 61 rfl) (by decide) ?_
    refine g_iload_n (pc := 99) (j := 3) (dk d_mTh_exchange 62 rfl) rfl ?_
    refine g_imul (pc := 100) (dk d_mTh_exchange 63 rfl) ?_
    refine g_iload (pc := 101) (j := 4) (dk d_mTh_exchange 64 rfl) rfl ?_
    refine g_iadd (pc := 103) (dk d_mTh_exchange 65 rfl) ?_
    refine g_lload (pc := 104) (j := 0) (dk d_mTh_exchange 66 rfl) rfl ?_
    refine h_last (pc := 106) (B := 35) pa_14 rfl (dk d_mTh_exchange 67 rfl) h (fun u6 h => ?_)
    refine h_iinc (pc := 107) (j := 4) (dk d_mTh_exchange 68 rfl) rfl (by decide) (Nat.le_of_ble_eq_true rfl) h (fun v4_7 h => ?_)
    refine g_loc (l' := [(4, pI v4_7), (5, pL v5_4), (0, pR 12), (1, pI y1), (2, pI y2)]) rfl ?_
    refine g_goto (pc := 110) (tgt := 48) (dk d_mTh_exchange 69 rfl) rfl ?_
    refine g_pick [2, 3, 4, 0] rfl (l' := [(0, pR 12), (1, pI y1), (2, pI y2), (4, pI v4_7)]) rfl ?_
    exact hrec _ _ h
set_option maxRecDepth 100000 in
set_option maxHeartbeats 4000000 in
theorem fTh_exchange_l48_ok (E : Nat × (Int → Int)) (d : Nat) {res : WD} (y1 : Int) (y2 : Int) : ∀ (k : Nat) (x4 : Int) (w : WD), fTh_exchange_l48 y1 y2 k x4 w = some res → G E mTh_exchange (d + 1) 48 [(0, pR 12), (1, pI y1), (2, pI y2), (4, pI x4)] [] w RF NN 0 0 (none, res, RF, NN) := by
  intro k
  induction k with
  | zero =>
    intro x4 w h
    exact no_e h
  | succ k ih =>
    intro x4 w h
    exact fTh_exchange_l48_b_ok E d y1 y2 ih x4 w h
def fTh_exchange (a1 : Int) (a2 : Int) (w : WD) : Option WD := if a1 < 0 then (some w) else (if a2 < 0 then (some w) else (if 5 ≤ a1 then (some w) else (if a2 < 5 then (ck (0 ≤ a1 ∧ a1 < 5) <| bv (w 18 a1) <| fun (v3_1 : Int) => ck (0 ≤ a2 ∧ a2 < 5) <| ck (0 ≤ a1 ∧ a1 < 5) <| bw (up w 18 a1 (w 18 a2)) <| fun (u2 : WD) => ck (0 ≤ a2 ∧ a2 < 5) <| bw (up u2 18 a2 v3_1) <| fun (u3 : WD) => fTh_exchange_l48 a1 a2 FU 0 u3) else (some w))))
set_option maxRecDepth 100000 in
set_option maxHeartbeats 4000000 in
theorem gTh_exchange (E : Nat × (Int → Int)) (d : Nat) {res : WD} (a1 : Int) (a2 : Int) (w : WD) (h : fTh_exchange a1 a2 w = some res) : G E mTh_exchange (d + 1) 0 [(0, pR 12), (1, pI a1), (2, pI a2)] [] w RF NN 0 0 (none, res, RF, NN) := by
  unfold fTh_exchange at h
  refine g_iload_n (pc := 0) (j := 1) (dk d_mTh_exchange 0 rfl) rfl ?_
  refine h_if_lt (pc := 1) (tgt := 18) (dk d_mTh_exchange 1 rfl) rfl h (fun hc12 h => ?_) (fun hc12 h => ?_)
  · exact h_vret (pc := 18) (dk d_mTh_exchange 10 rfl) h
  · refine g_iload_n (pc := 4) (j := 2) (dk d_mTh_exchange 2 rfl) rfl ?_
    refine h_if_lt (pc := 5) (tgt := 18) (dk d_mTh_exchange 3 rfl) rfl h (fun hc11 h => ?_) (fun hc11 h => ?_)
    · exact h_vret (pc := 18) (dk d_mTh_exchange 10 rfl) h
    · refine g_iload_n (pc := 8) (j := 1) (dk d_mTh_exchange 4 rfl) rfl ?_
      refine g_iconst (pc := 9) (dk d_mTh_exchange 5 rfl) (by decide) ?_
      refine h_icmp_ge (pc := 10) (tgt := 18) (dk d_mTh_exchange 6 rfl) rfl h (fun hc10 h => ?_) (fun hc10 h => ?_)
      · exact h_vret (pc := 18) (dk d_mTh_exchange 10 rfl) h
      · refine g_iload_n (pc := 13) (j := 2) (dk d_mTh_exchange 7 rfl) rfl ?_
        refine g_iconst (pc := 14) (dk d_mTh_exchange 8 rfl) (by decide) ?_
        refine h_icmp_lt (pc := 15) (tgt := 19) (dk d_mTh_exchange 9 rfl) rfl h (fun hc9 h => ?_) (fun hc9 h => ?_)
        · refine g_aload_n (pc := 19) (j := 0) (dk d_mTh_exchange 11 rfl) rfl (by decide) ?_
          refine g_getR (pc := 20) (a := 18) rfl fp_Th_28 po_12 (dk d_mTh_exchange 12 rfl) ?_
          refine g_iload_n (pc := 23) (j := 1) (dk d_mTh_exchange 13 rfl) rfl ?_
          refine h_iald (pc := 24) (B := 5) pa_18 rfl (dk d_mTh_exchange 14 rfl) h (fun h => ?_)
          refine h_bvI h (fun v3_1 h => ?_)
          refine g_istore_n (pc := 25) (l' := [(3, pI v3_1), (0, pR 12), (1, pI a1), (2, pI a2)]) (dk d_mTh_exchange 15 rfl) (Nat.le_of_ble_eq_true rfl) rfl ?_
          refine g_aload_n (pc := 26) (j := 1) (dk d_mTh_exchange 16 rfl) rfl (by decide) ?_
          refine g_getR (pc := 27) (a := 18) rfl fp_Th_28 po_12 (dk d_mTh_exchange 17 rfl) ?_
          refine g_iload_n (pc := 30) (j := 2) (dk d_mTh_exchange 18 rfl) rfl ?_
          refine g_aload_n (pc := 31) (j := 1) (dk d_mTh_exchange 19 rfl) rfl (by decide) ?_
          refine g_getR (pc := 32) (a := 18) rfl fp_Th_28 po_12 (dk d_mTh_exchange 20 rfl) ?_
          refine g_iload_n (pc := 35) (j := 3) (dk d_mTh_exchange 21 rfl) rfl ?_
          refine h_iald (pc := 36) (B := 5) pa_18 rfl (dk d_mTh_exchange 22 rfl) h (fun h => ?_)
          refine h_iast (pc := 37) (B := 5) pa_18 rfl (dk d_mTh_exchange 23 rfl) h (fun u2 h => ?_)
          refine g_aload_n (pc := 38) (j := 1) (dk d_mTh_exchange 24 rfl) rfl (by decide) ?_
          refine g_getR (pc := 39) (a := 18) rfl fp_Th_28 po_12 (dk d_mTh_exchange 25 rfl) ?_
          refine g_iload_n (pc := 42) (j := 3) (dk d_mTh_exchange 26 rfl) rfl ?_
          refine g_iload_n (pc := 43) (j := 0) (dk d_mTh_exchange 27 rfl) rfl ?_
          refine h_iast (pc := 44) (B := 5) pa_18 rfl (dk d_mTh_exchange 28 rfl) h (fun u3 h => ?_)
          refine g_iconst (pc := 45) (dk d_mTh_exchange 29 rfl) (by decide) ?_
          refine g_istore (pc := 46) (l' := [(4, pI 0), (3, pI v3_1), (0, pR 12), (1, pI a1), (2, pI a2)]) (dk d_mTh_exchange 30 rfl) (Nat.le_of_ble_eq_true rfl) rfl ?_
          refine g_pick [2, 3, 4, 0] rfl (l' := [(0, pR 12), (1, pI a1), (2, pI a2), (4, pI 0)]) rfl ?_
          refine fTh_exchange_l48_ok E d a1 a2 FU _  _ h
        · exact h_vret (pc := 18) (dk d_mTh_exchange 10 rfl) h
set_option maxRecDepth 100000 in
set_option maxHeartbeats 4000000 in
theorem kTh_exchange (E : Nat × (Int → Int)) (d : Nat) {a1 : Int} {a2 : Int} {w w1 : WD} (h : fTh_exchange a1 a2 w = some w1) : CTv E mTh_exchange (d + 1) [pR 12, pI a1, pI a2] w RF NN w1 RF NN := by
  exact CTv_of (by decide +kernel) (Nat.le_of_ble_eq_true rfl) rfl (gTh_exchange (res := w1) E d a1 a2 w h)
def fB_change_l61_b (rec : Int → Int → Int → WD → Option (Int × WD)) (y5 : Int) (K0 : Int → Int → WD → Option (Int × WD)) (x3 : Int) (x4 : Int) (x6 : Int) (w : WD) : Option (Int × WD) := ci (fHa_masks w) <| fun (r16 : Int) (u15 : WD) => if r16 ≤ x6 then (K0 x3 x4 u15) else (cv (fTh_exchange y5 x6 u15) <| fun (u18 : WD) => ci (fTh_foundOut u18) <| fun (r20 : Int) (u19 : WD) => cv (fTh_exchange y5 x6 u19) <| fun (u22 : WD) => jn (β := Int → Int → WD → Option (Int × WD)) (fun (v3_23 : Int) (v4_24 : Int) (u25 : WD) => bv (w32 (x6 + 1)) <| fun (v6_26 : Int) => rec v3_23 v4_24 v6_26 u25) <| fun J27 => if x3 ≤ r20 then (J27 x3 x4 u22) else (bv (w32 ((w32 (10 * y5)) + x6)) <| fun (v4_28 : Int) => J27 r20 v4_28 u22))
def fB_change_l61 (y5 : Int) (K0 : Int → Int → WD → Option (Int × WD)) : Nat → Int → Int → Int → WD → Option (Int × WD)
  | 0 => fun _ _ _ _ => none
  | k + 1 => fB_change_l61_b ( fB_change_l61 y5 K0 k) y5 K0
set_option maxRecDepth 100000 in
set_option maxHeartbeats 4000000 in
theorem fB_change_l61_b_ok (E : Nat × (Int → Int)) (d : Nat) {res : Int × WD} {rec : Int → Int → Int → WD → Option (Int × WD)} (y5 : Int) (K0 : Int → Int → WD → Option (Int × WD)) (hrec : ∀ (x3 : Int) (x4 : Int) (x6 : Int) (w : WD), rec x3 x4 x6 w = some res → G E mB_change (d + 7) 61 [(0, pR 0), (3, pI x3), (4, pI x4), (5, pI y5), (6, pI x6)] [] w RF NN 0 0 (some (pI res.1), res.2, RF, NN)) (hK0 : ∀ (x3 : Int) (x4 : Int) (w : WD), K0 x3 x4 w = some res → G E mB_change (d + 7) 129 [(0, pR 0), (3, pI x3), (4, pI x4), (5, pI y5)] [] w RF NN 0 0 (some (pI res.1), res.2, RF, NN)) (x3 : Int) (x4 : Int) (x6 : Int) (w : WD) (h : fB_change_l61_b rec y5 K0 x3 x4 x6 w = some res) : G E mB_change (d + 7) 61 [(0, pR 0), (3, pI x3), (4, pI x4), (5, pI y5), (6, pI x6)] [] w RF NN 0 0 (some (pI res.1), res.2, RF, NN) := by
  unfold fB_change_l61_b at h
  refine g_iload (pc := 61) (j := 4) (dk d_mB_change 33 rfl) rfl ?_
  refine g_aload_n (pc := 63) (j := 0) (dk d_mB_change 34 rfl) rfl (by decide) ?_
  refine g_getR (pc := 64) (a := 1) rfl fp_B_10 po_0 (dk d_mB_change 35 rfl) ?_
  refine h_callVi (d := d + 6) (pc := 67) (na := 0) (av := []) (k0 := 1) po_1 ⟨_, rfl⟩ ⟨rfl, rfl⟩ (dk d_mB_change 36 rfl) lk_B_159 vm_mHa_masks rfl rfl (Nat.le_of_ble_eq_true rfl) h (fun r16 u15 hq => kHa_masks E (d + 5) hq) (fun r16 u15 hb17 h => ?_)
  refine h_icmp_ge (pc := 70) (tgt := 129) (dk d_mB_change 37 rfl) rfl h (fun hc30 h => ?_) (fun hc30 h => ?_)
  · refine g_pick [0, 1, 2, 3] rfl (l' := [(0, pR 0), (3, pI x3), (4, pI x4), (5, pI y5)]) rfl ?_
    exact hK0 _ _ _ h
  · refine g_aload_n (pc := 73) (j := 0) (dk d_mB_change 38 rfl) rfl (by decide) ?_
    refine g_getR (pc := 74) (a := 12) rfl fp_B_28 po_0 (dk d_mB_change 39 rfl) ?_
    refine g_iload (pc := 77) (j := 3) (dk d_mB_change 40 rfl) rfl ?_
    refine g_iload (pc := 79) (j := 4) (dk d_mB_change 41 rfl) rfl ?_
    refine h_callVv (d := d + 6) (pc := 81) (na := 2) (av := [pI y5, pI x6]) (k0 := 12) po_12 ⟨_, rfl⟩ ⟨rfl, rfl⟩ (dk d_mB_change 42 rfl) lk_B_228 vm_mTh_exchange rfl rfl (Nat.le_of_ble_eq_true rfl) h (fun u18 hq => kTh_exchange E (d + 5) hq) (fun u18 h => ?_)
    refine g_aload_n (pc := 84) (j := 0) (dk d_mB_change 43 rfl) rfl (by decide) ?_
    refine g_getR (pc := 85) (a := 12) rfl fp_B_28 po_0 (dk d_mB_change 44 rfl) ?_
    refine h_callVi (d := d + 6) (pc := 88) (na := 0) (av := []) (k0 := 12) po_12 ⟨_, rfl⟩ ⟨rfl, rfl⟩ (dk d_mB_change 45 rfl) lk_B_212 vm_mTh_foundOut rfl rfl (Nat.le_of_ble_eq_true rfl) h (fun r20 u19 hq => kTh_foundOut E (d + 1) hq) (fun r20 u19 hb21 h => ?_)
    refine g_istore (pc := 91) (l' := [(7, pI r20), (0, pR 0), (3, pI x3), (4, pI x4), (5, pI y5), (6, pI x6)]) (dk d_mB_change 46 rfl) (Nat.le_of_ble_eq_true rfl) rfl ?_
    refine g_aload_n (pc := 93) (j := 1) (dk d_mB_change 47 rfl) rfl (by decide) ?_
    refine g_getR (pc := 94) (a := 12) rfl fp_B_28 po_0 (dk d_mB_change 48 rfl) ?_
    refine g_iload (pc := 97) (j := 4) (dk d_mB_change 49 rfl) rfl ?_
    refine g_iload (pc := 99) (j := 5) (dk d_mB_change 50 rfl) rfl ?_
    refine h_callVv (d := d + 6) (pc := 101) (na := 2) (av := [pI y5, pI x6]) (k0 := 12) po_12 ⟨_, rfl⟩ ⟨rfl, rfl⟩ (dk d_mB_change 51 rfl) lk_B_228 vm_mTh_exchange rfl rfl (Nat.le_of_ble_eq_true rfl) h (fun u22 hq => kTh_exchange E (d + 5) hq) (fun u22 h => ?_)
    refine g_iload (pc := 104) (j := 0) (dk d_mB_change 52 rfl) rfl ?_
    refine g_iload_n (pc := 106) (j := 2) (dk d_mB_change 53 rfl) rfl ?_
    refine jn_e (fun J => ∀ (v3_23 : Int) (v4_24 : Int) (u25 : WD), J v3_23 v4_24 u25 = some res → G E mB_change (d + 7) 123 [(0, pR 0), (3, pI v3_23), (4, pI v4_24), (5, pI y5), (6, pI x6)] [] u25 RF NN 0 0 (some (pI res.1), res.2, RF, NN)) h (fun v3_23 v4_24 u25 h => ?_) (fun J27 hJ27 h => ?_)
    · refine h_iinc (pc := 123) (j := 4) (dk d_mB_change 63 rfl) rfl (by decide) (Nat.le_of_ble_eq_true rfl) h (fun v6_26 h => ?_)
      refine g_loc (l' := [(6, pI v6_26), (0, pR 0), (3, pI v3_23), (4, pI v4_24), (5, pI y5)]) rfl ?_
      refine g_goto (pc := 126) (tgt := 61) (dk d_mB_change 64 rfl) rfl ?_
      refine g_pick [1, 2, 3, 4, 0] rfl (l' := [(0, pR 0), (3, pI v3_23), (4, pI v4_24), (5, pI y5), (6, pI v6_26)]) rfl ?_
      exact hrec _ _ _ _ h
    · refine h_icmp_ge (pc := 107) (tgt := 123) (dk d_mB_change 54 rfl) rfl h (fun hc29 h => ?_) (fun hc29 h => ?_)
      · refine g_pick [1, 2, 3, 4, 5] rfl (l' := [(0, pR 0), (3, pI x3), (4, pI x4), (5, pI y5), (6, pI x6)]) rfl ?_
        exact hJ27 _ _ _ h
      · refine g_bipush (pc := 110) (dk d_mB_change 55 rfl) (by decide) ?_
        refine g_iload (pc := 112) (j := 4) (dk d_mB_change 56 rfl) rfl ?_
        refine g_imul (pc := 114) (dk d_mB_change 57 rfl) ?_
        refine g_iload (pc := 115) (j := 5) (dk d_mB_change 58 rfl) rfl ?_
        refine g_iadd (pc := 117) (dk d_mB_change 59 rfl) ?_
        refine h_bvI h (fun v4_28 h => ?_)
        refine g_istore (pc := 118) (l' := [(4, pI v4_28), (7, pI r20), (0, pR 0), (3, pI x3), (5, pI y5), (6, pI x6)]) (dk d_mB_change 60 rfl) (Nat.le_of_ble_eq_true rfl) rfl ?_
        refine g_iload (pc := 120) (j := 1) (dk d_mB_change 61 rfl) rfl ?_
        refine g_istore_n (pc := 122) (l' := [(3, pI r20), (4, pI v4_28), (7, pI r20), (0, pR 0), (5, pI y5), (6, pI x6)]) (dk d_mB_change 62 rfl) (Nat.le_of_ble_eq_true rfl) rfl ?_
        refine g_pick [3, 0, 1, 4, 5] rfl (l' := [(0, pR 0), (3, pI r20), (4, pI v4_28), (5, pI y5), (6, pI x6)]) rfl ?_
        exact hJ27 _ _ _ h
set_option maxRecDepth 100000 in
set_option maxHeartbeats 4000000 in
theorem fB_change_l61_ok (E : Nat × (Int → Int)) (d : Nat) {res : Int × WD} (y5 : Int) (K0 : Int → Int → WD → Option (Int × WD)) (hK0 : ∀ (x3 : Int) (x4 : Int) (w : WD), K0 x3 x4 w = some res → G E mB_change (d + 7) 129 [(0, pR 0), (3, pI x3), (4, pI x4), (5, pI y5)] [] w RF NN 0 0 (some (pI res.1), res.2, RF, NN)) : ∀ (k : Nat) (x3 : Int) (x4 : Int) (x6 : Int) (w : WD), fB_change_l61 y5 K0 k x3 x4 x6 w = some res → G E mB_change (d + 7) 61 [(0, pR 0), (3, pI x3), (4, pI x4), (5, pI y5), (6, pI x6)] [] w RF NN 0 0 (some (pI res.1), res.2, RF, NN) := by
  intro k
  induction k with
  | zero =>
    intro x3 x4 x6 w h
    exact no_e h
  | succ k ih =>
    intro x3 x4 x6 w h
    exact fB_change_l61_b_ok E d y5 K0 ih hK0 x3 x4 x6 w h
def fB_change_l43_b (rec : Int → Int → Int → WD → Option (Int × WD)) (x3 : Int) (x4 : Int) (x5 : Int) (w : WD) : Option (Int × WD) := ci (fHa_masks w) <| fun (r12 : Int) (u11 : WD) => if r12 ≤ x5 then (some (x4, u11)) else (bv (w32 (x5 + 1)) <| fun (v6_14 : Int) => fB_change_l61 x5 (fun (v3_31 : Int) (v4_32 : Int) (u33 : WD) => bv (w32 (x5 + 1)) <| fun (v5_34 : Int) => rec v3_31 v4_32 v5_34 u33) FU x3 x4 v6_14 u11)
def fB_change_l43 : Nat → Int → Int → Int → WD → Option (Int × WD)
  | 0 => fun _ _ _ _ => none
  | k + 1 => fB_change_l43_b ( fB_change_l43 k)
set_option maxRecDepth 100000 in
set_option maxHeartbeats 4000000 in
theorem fB_change_l43_b_ok (E : Nat × (Int → Int)) (d : Nat) {res : Int × WD} {rec : Int → Int → Int → WD → Option (Int × WD)} (hrec : ∀ (x3 : Int) (x4 : Int) (x5 : Int) (w : WD), rec x3 x4 x5 w = some res → G E mB_change (d + 7) 43 [(0, pR 0), (3, pI x3), (4, pI x4), (5, pI x5)] [] w RF NN 0 0 (some (pI res.1), res.2, RF, NN)) (x3 : Int) (x4 : Int) (x5 : Int) (w : WD) (h : fB_change_l43_b rec x3 x4 x5 w = some res) : G E mB_change (d + 7) 43 [(0, pR 0), (3, pI x3), (4, pI x4), (5, pI x5)] [] w RF NN 0 0 (some (pI res.1), res.2, RF, NN) := by
  unfold fB_change_l43_b at h
  refine g_iload (pc := 43) (j := 3) (dk d_mB_change 24 rfl) rfl ?_
  refine g_aload_n (pc := 45) (j := 0) (dk d_mB_change 25 rfl) rfl (by decide) ?_
  refine g_getR (pc := 46) (a := 1) rfl fp_B_10 po_0 (dk d_mB_change 26 rfl) ?_
  refine h_callVi (d := d + 6) (pc := 49) (na := 0) (av := []) (k0 := 1) po_1 ⟨_, rfl⟩ ⟨rfl, rfl⟩ (dk d_mB_change 27 rfl) lk_B_159 vm_mHa_masks rfl rfl (Nat.le_of_ble_eq_true rfl) h (fun r12 u11 hq => kHa_masks E (d + 5) hq) (fun r12 u11 hb13 h => ?_)
  refine h_icmp_ge (pc := 52) (tgt := 135) (dk d_mB_change 28 rfl) rfl h (fun hc35 h => ?_) (fun hc35 h => ?_)
  · refine g_iload (pc := 135) (j := 2) (dk d_mB_change 67 rfl) rfl ?_
    exact h_iret (pc := 137) rfl (dk d_mB_change 68 rfl) h
  · refine g_iload (pc := 55) (j := 3) (dk d_mB_change 29 rfl) rfl ?_
    refine g_iconst (pc := 57) (dk d_mB_change 30 rfl) (by decide) ?_
    refine g_iadd (pc := 58) (dk d_mB_change 31 rfl) ?_
    refine h_bvI h (fun v6_14 h => ?_)
    refine g_istore (pc := 59) (l' := [(6, pI v6_14), (0, pR 0), (3, pI x3), (4, pI x4), (5, pI x5)]) (dk d_mB_change 32 rfl) (Nat.le_of_ble_eq_true rfl) rfl ?_
    refine g_pick [1, 2, 3, 4, 0] rfl (l' := [(0, pR 0), (3, pI x3), (4, pI x4), (5, pI x5), (6, pI v6_14)]) rfl ?_
    refine fB_change_l61_ok E d x5 _  (fun v3_31 v4_32 u33 h => ?_) FU _ _ _  _ h
    · refine h_iinc (pc := 129) (j := 3) (dk d_mB_change 65 rfl) rfl (by decide) (Nat.le_of_ble_eq_true rfl) h (fun v5_34 h => ?_)
      refine g_loc (l' := [(5, pI v5_34), (0, pR 0), (3, pI v3_31), (4, pI v4_32)]) rfl ?_
      refine g_goto (pc := 132) (tgt := 43) (dk d_mB_change 66 rfl) rfl ?_
      refine g_pick [1, 2, 3, 0] rfl (l' := [(0, pR 0), (3, pI v3_31), (4, pI v4_32), (5, pI v5_34)]) rfl ?_
      exact hrec _ _ _ _ h
set_option maxRecDepth 100000 in
set_option maxHeartbeats 4000000 in
theorem fB_change_l43_ok (E : Nat × (Int → Int)) (d : Nat) {res : Int × WD} : ∀ (k : Nat) (x3 : Int) (x4 : Int) (x5 : Int) (w : WD), fB_change_l43 k x3 x4 x5 w = some res → G E mB_change (d + 7) 43 [(0, pR 0), (3, pI x3), (4, pI x4), (5, pI x5)] [] w RF NN 0 0 (some (pI res.1), res.2, RF, NN) := by
  intro k
  induction k with
  | zero =>
    intro x3 x4 x5 w h
    exact no_e h
  | succ k ih =>
    intro x3 x4 x5 w h
    exact fB_change_l43_b_ok E d ih x3 x4 x5 w h
def fB_change (a1 : Int) (w : WD) : Option (Int × WD) := ci (fB_isShelf a1 w) <| fun (r2 : Int) (u1 : WD) => if r2 ≠ 0 then (ci (fB_truthFault a1 u1) <| fun (r5 : Int) (u4 : WD) => if r5 = 0 then (cv (fTh_load u4) <| fun (u7 : WD) => ci (fTh_foundOut u7) <| fun (r9 : Int) (u8 : WD) => fB_change_l43 FU r9 (-2) 0 u8) else (some (r5, u4))) else (some ((-1), u1))
set_option maxRecDepth 100000 in
set_option maxHeartbeats 4000000 in
theorem gB_change (E : Nat × (Int → Int)) (d : Nat) {res : Int × WD} (a1 : Int) (w : WD) (h : fB_change a1 w = some res) : G E mB_change (d + 7) 0 [(0, pR 0), (1, pI a1)] [] w RF NN 0 0 (some (pI res.1), res.2, RF, NN) := by
  unfold fB_change at h
  refine g_iload_n (pc := 0) (j := 1) (dk d_mB_change 0 rfl) rfl ?_
  refine h_callSi (d := d + 6) (pc := 1) (na := 1) (av := [pI a1]) ⟨rfl, rfl⟩ (dk d_mB_change 1 rfl) lk_B_66 vm_mB_isShelf rfl rfl (Nat.le_of_ble_eq_true rfl) h (fun r2 u1 hq => kB_isShelf E (d + 5) hq) (fun r2 u1 hb3 h => ?_)
  refine h_if_ne (pc := 4) (tgt := 9) (dk d_mB_change 2 rfl) rfl h (fun hc37 h => ?_) (fun hc37 h => ?_)
  · refine g_aload_n (pc := 9) (j := 0) (dk d_mB_change 5 rfl) rfl (by decide) ?_
    refine g_iload_n (pc := 10) (j := 1) (dk d_mB_change 6 rfl) rfl ?_
    refine h_callVi (d := d + 6) (pc := 11) (na := 1) (av := [pI a1]) (k0 := 0) po_0 ⟨_, rfl⟩ ⟨rfl, rfl⟩ (dk d_mB_change 7 rfl) lk_B_218 vm_mB_truthFault rfl rfl (Nat.le_of_ble_eq_true rfl) h (fun r5 u4 hq => kB_truthFault E (d + 2) hq) (fun r5 u4 hb6 h => ?_)
    refine g_istore_n (pc := 14) (l' := [(2, pI r5), (0, pR 0), (1, pI a1)]) (dk d_mB_change 8 rfl) (Nat.le_of_ble_eq_true rfl) rfl ?_
    refine g_iload_n (pc := 15) (j := 0) (dk d_mB_change 9 rfl) rfl ?_
    refine h_if_eq (pc := 16) (tgt := 21) (dk d_mB_change 10 rfl) rfl h (fun hc36 h => ?_) (fun hc36 h => ?_)
    · refine g_aload_n (pc := 21) (j := 1) (dk d_mB_change 13 rfl) rfl (by decide) ?_
      refine g_getR (pc := 22) (a := 12) rfl fp_B_28 po_0 (dk d_mB_change 14 rfl) ?_
      refine h_callVv (d := d + 6) (pc := 25) (na := 0) (av := []) (k0 := 12) po_12 ⟨_, rfl⟩ ⟨rfl, rfl⟩ (dk d_mB_change 15 rfl) lk_B_127 vm_mTh_load rfl rfl (Nat.le_of_ble_eq_true rfl) h (fun u7 hq => kTh_load E (d + 0) hq) (fun u7 h => ?_)
      refine g_aload_n (pc := 28) (j := 1) (dk d_mB_change 16 rfl) rfl (by decide) ?_
      refine g_getR (pc := 29) (a := 12) rfl fp_B_28 po_0 (dk d_mB_change 17 rfl) ?_
      refine h_callVi (d := d + 6) (pc := 32) (na := 0) (av := []) (k0 := 12) po_12 ⟨_, rfl⟩ ⟨rfl, rfl⟩ (dk d_mB_change 18 rfl) lk_B_212 vm_mTh_foundOut rfl rfl (Nat.le_of_ble_eq_true rfl) h (fun r9 u8 hq => kTh_foundOut E (d + 1) hq) (fun r9 u8 hb10 h => ?_)
      refine g_istore_n (pc := 35) (l' := [(3, pI r9), (2, pI r5), (0, pR 0), (1, pI a1)]) (dk d_mB_change 19 rfl) (Nat.le_of_ble_eq_true rfl) rfl ?_
      refine g_bipush (pc := 36) (dk d_mB_change 20 rfl) (by decide) ?_
      refine g_istore (pc := 38) (l' := [(4, pI (-2)), (3, pI r9), (2, pI r5), (0, pR 0), (1, pI a1)]) (dk d_mB_change 21 rfl) (Nat.le_of_ble_eq_true rfl) rfl ?_
      refine g_iconst (pc := 40) (dk d_mB_change 22 rfl) (by decide) ?_
      refine g_istore (pc := 41) (l' := [(5, pI 0), (4, pI (-2)), (3, pI r9), (2, pI r5), (0, pR 0), (1, pI a1)]) (dk d_mB_change 23 rfl) (Nat.le_of_ble_eq_true rfl) rfl ?_
      refine g_pick [4, 2, 1, 0] rfl (l' := [(0, pR 0), (3, pI r9), (4, pI (-2)), (5, pI 0)]) rfl ?_
      refine fB_change_l43_ok E d FU _ _ _  _ h
    · refine g_iload_n (pc := 19) (j := 0) (dk d_mB_change 11 rfl) rfl ?_
      exact h_iret (pc := 20) rfl (dk d_mB_change 12 rfl) h
  · refine g_iconst (pc := 7) (dk d_mB_change 3 rfl) (by decide) ?_
    exact h_iret (pc := 8) rfl (dk d_mB_change 4 rfl) h
set_option maxRecDepth 100000 in
set_option maxHeartbeats 4000000 in
theorem kB_change (E : Nat × (Int → Int)) (d : Nat) {a1 : Int} {w w1 : WD} {r : Int} (h : fB_change a1 w = some (r, w1)) : CTi E mB_change (d + 7) [pR 0, pI a1] w RF NN r w1 RF NN := by
  exact CTi_of (by decide +kernel) (Nat.le_of_ble_eq_true rfl) (Or.inl rfl) (gB_change (res := (r, w1)) E d a1 w h)
def fB_cardsOn (a1 : Int) (w : WD) : Option (Int × WD) := ci (fSh_size a1 w) <| fun (r2 : Int) (u1 : WD) => ci (fHa_masks u1) <| fun (r5 : Int) (u4 : WD) => some ((mn r2 r5), u4)
set_option maxRecDepth 100000 in
set_option maxHeartbeats 4000000 in
theorem gB_cardsOn (E : Nat × (Int → Int)) (d : Nat) {res : Int × WD} (a1 : Int) (ha1 : 0 ≤ a1 ∧ a1 < 6) (w : WD) (h : fB_cardsOn a1 w = some res) : G E mB_cardsOn (d + 2) 0 [(0, pR 0), (1, pR (34 + 2 * a1))] [] w RF NN 0 0 (some (pI res.1), res.2, RF, NN) := by
  unfold fB_cardsOn at h
  refine g_aload_n (pc := 0) (j := 1) (dk d_mB_cardsOn 0 rfl) rfl (by have := ha1; omega) ?_
  refine h_callVi (d := d + 1) (pc := 1) (na := 0) (av := []) (k0 := (34 + 2 * a1)) (po_s ha1) ⟨_, rfl⟩ ⟨rfl, rfl⟩ (dk d_mB_cardsOn 1 rfl) lk_B_357 vm_mSh_size rfl rfl (Nat.le_of_ble_eq_true rfl) h (fun r2 u1 hq => kSh_size E (d + 0) ha1 hq) (fun r2 u1 hb3 h => ?_)
  refine g_aload_n (pc := 4) (j := 0) (dk d_mB_cardsOn 2 rfl) rfl (by decide) ?_
  refine g_getR (pc := 5) (a := 1) rfl fp_B_10 po_0 (dk d_mB_cardsOn 3 rfl) ?_
  refine h_callVi (d := d + 1) (pc := 8) (na := 0) (av := []) (k0 := 1) po_1 ⟨_, rfl⟩ ⟨rfl, rfl⟩ (dk d_mB_cardsOn 4 rfl) lk_B_159 vm_mHa_masks rfl rfl (Nat.le_of_ble_eq_true rfl) h (fun r5 u4 hq => kHa_masks E (d + 0) hq) (fun r5 u4 hb6 h => ?_)
  refine g_mminI (pc := 11) mm_B_188 (Nat.le_of_ble_eq_true rfl) (by omega) (dk d_mB_cardsOn 5 rfl) ?_
  exact h_iret (pc := 14) rfl (dk d_mB_cardsOn 6 rfl) h
set_option maxRecDepth 100000 in
set_option maxHeartbeats 4000000 in
theorem kB_cardsOn (E : Nat × (Int → Int)) (d : Nat) {a1 : Int} (ha1 : 0 ≤ a1 ∧ a1 < 6) {w w1 : WD} {r : Int} (h : fB_cardsOn a1 w = some (r, w1)) : CTi E mB_cardsOn (d + 2) [pR 0, pR (34 + 2 * a1)] w RF NN r w1 RF NN := by
  exact CTi_of (by decide +kernel) (Nat.le_of_ble_eq_true rfl) (Or.inl rfl) (gB_cardsOn (res := (r, w1)) E d a1 ha1 w h)
def fB_right_l94_b (rec : Int → Int → WD → Option (Int × WD)) (y2 : Int) (x5 : Int) (x6 : Int) (w : WD) : Option (Int × WD) := ck (0 ≤ y2 ∧ y2 < 6) <| ci (fB_cardsOn y2 w) <| fun (r24 : Int) (u23 : WD) => if r24 ≤ x6 then (some (x5, u23)) else (ck (0 ≤ y2 ∧ y2 < 6) <| ci (fSh_at y2 x6 u23) <| fun (r28 : Int) (u27 : WD) => ci (fTh_inWay x6 u27) <| fun (r30 : Int) (u29 : WD) => jn (β := Int → WD → Option (Int × WD)) (fun (v5_32 : Int) (u33 : WD) => bv (w32 (x6 + 1)) <| fun (v6_34 : Int) => rec v5_32 v6_34 u33) <| fun J35 => if r28 ≠ r30 then (J35 x5 u29) else (bv (w32 (x5 + 1)) <| fun (v5_36 : Int) => J35 v5_36 u29))
def fB_right_l94 (y2 : Int) : Nat → Int → Int → WD → Option (Int × WD)
  | 0 => fun _ _ _ => none
  | k + 1 => fB_right_l94_b ( fB_right_l94 y2 k) y2
set_option maxRecDepth 100000 in
set_option maxHeartbeats 4000000 in
theorem fB_right_l94_b_ok (E : Nat × (Int → Int)) (d : Nat) {res : Int × WD} {rec : Int → Int → WD → Option (Int × WD)} (y2 : Int) (hrec : ∀ (x5 : Int) (x6 : Int) (w : WD), rec x5 x6 w = some res → G E mB_right (d + 5) 94 [(0, pR 0), (2, pI y2), (5, pI x5), (6, pI x6)] [] w RF NN 0 0 (some (pI res.1), res.2, RF, NN)) (x5 : Int) (x6 : Int) (w : WD) (h : fB_right_l94_b rec y2 x5 x6 w = some res) : G E mB_right (d + 5) 94 [(0, pR 0), (2, pI y2), (5, pI x5), (6, pI x6)] [] w RF NN 0 0 (some (pI res.1), res.2, RF, NN) := by
  unfold fB_right_l94_b at h
  refine g_iload (pc := 94) (j := 3) (dk d_mB_right 52 rfl) rfl ?_
  refine g_aload_n (pc := 96) (j := 0) (dk d_mB_right 53 rfl) rfl (by decide) ?_
  refine g_aload_n (pc := 97) (j := 0) (dk d_mB_right 54 rfl) rfl (by decide) ?_
  refine g_getR (pc := 98) (a := 33) rfl fp_B_57 po_0 (dk d_mB_right 55 rfl) ?_
  refine g_iload_n (pc := 101) (j := 1) (dk d_mB_right 56 rfl) rfl ?_
  refine h_aald (pc := 102) (dk d_mB_right 57 rfl) h (fun hi22 h => ?_)
  refine h_callVi (d := d + 4) (pc := 103) (na := 1) (av := [pR (34 + 2 * y2)]) (k0 := 0) po_0 ⟨_, rfl⟩ ⟨rfl, rfl⟩ (dk d_mB_right 58 rfl) lk_B_232 vm_mB_cardsOn rfl rfl (Nat.le_of_ble_eq_true rfl) h (fun r24 u23 hq => kB_cardsOn E (d + 2) hi22 hq) (fun r24 u23 hb25 h => ?_)
  refine h_icmp_ge (pc := 106) (tgt := 143) (dk d_mB_right 59 rfl) rfl h (fun hc38 h => ?_) (fun hc38 h => ?_)
  · refine g_iload (pc := 143) (j := 2) (dk d_mB_right 76 rfl) rfl ?_
    exact h_iret (pc := 145) rfl (dk d_mB_right 77 rfl) h
  · refine g_aload_n (pc := 109) (j := 0) (dk d_mB_right 60 rfl) rfl (by decide) ?_
    refine g_getR (pc := 110) (a := 33) rfl fp_B_57 po_0 (dk d_mB_right 61 rfl) ?_
    refine g_iload_n (pc := 113) (j := 1) (dk d_mB_right 62 rfl) rfl ?_
    refine h_aald (pc := 114) (dk d_mB_right 63 rfl) h (fun hi26 h => ?_)
    refine g_iload (pc := 115) (j := 3) (dk d_mB_right 64 rfl) rfl ?_
    refine h_callVl (d := d + 4) (pc := 117) (na := 1) (av := [pI x6]) (k0 := (34 + 2 * y2)) (po_s hi26) ⟨_, rfl⟩ ⟨rfl, rfl⟩ (dk d_mB_right 65 rfl) lk_B_236 vm_mSh_at rfl rfl (Nat.le_of_ble_eq_true rfl) h (fun r28 u27 hq => kSh_at E (d + 2) hi26 hq) (fun r28 u27 h => ?_)
    refine g_aload_n (pc := 120) (j := 0) (dk d_mB_right 66 rfl) rfl (by decide) ?_
    refine g_getR (pc := 121) (a := 12) rfl fp_B_28 po_0 (dk d_mB_right 67 rfl) ?_
    refine g_iload (pc := 124) (j := 3) (dk d_mB_right 68 rfl) rfl ?_
    refine h_callVi (d := d + 4) (pc := 126) (na := 1) (av := [pI x6]) (k0 := 12) po_12 ⟨_, rfl⟩ ⟨rfl, rfl⟩ (dk d_mB_right 69 rfl) lk_B_150 vm_mTh_inWay rfl rfl (Nat.le_of_ble_eq_true rfl) h (fun r30 u29 hq => kTh_inWay E (d + 3) hq) (fun r30 u29 hb31 h => ?_)
    refine g_i2l (pc := 129) (dk d_mB_right 70 rfl) ?_
    refine jn_e (fun J => ∀ (v5_32 : Int) (u33 : WD), J v5_32 u33 = some res → G E mB_right (d + 5) 137 [(0, pR 0), (2, pI y2), (5, pI v5_32), (6, pI x6)] [] u33 RF NN 0 0 (some (pI res.1), res.2, RF, NN)) h (fun v5_32 u33 h => ?_) (fun J35 hJ35 h => ?_)
    · refine h_iinc (pc := 137) (j := 3) (dk d_mB_right 74 rfl) rfl (by decide) (Nat.le_of_ble_eq_true rfl) h (fun v6_34 h => ?_)
      refine g_loc (l' := [(6, pI v6_34), (0, pR 0), (2, pI y2), (5, pI v5_32)]) rfl ?_
      refine g_goto (pc := 140) (tgt := 94) (dk d_mB_right 75 rfl) rfl ?_
      refine g_pick [1, 2, 3, 0] rfl (l' := [(0, pR 0), (2, pI y2), (5, pI v5_32), (6, pI v6_34)]) rfl ?_
      exact hrec _ _ _ h
    · refine h_lcmp_ne (pc := 130) (tgt := 137) (dk d_mB_right 71 rfl) (dk d_mB_right 72 rfl) rfl h (fun hc37 h => ?_) (fun hc37 h => ?_)
      · exact hJ35 _ _ h
      · refine h_iinc (pc := 134) (j := 2) (dk d_mB_right 73 rfl) rfl (by decide) (Nat.le_of_ble_eq_true rfl) h (fun v5_36 h => ?_)
        refine g_loc (l' := [(5, pI v5_36), (0, pR 0), (2, pI y2), (6, pI x6)]) rfl ?_
        refine g_pick [1, 2, 0, 3] rfl (l' := [(0, pR 0), (2, pI y2), (5, pI v5_36), (6, pI x6)]) rfl ?_
        exact hJ35 _ _ h
set_option maxRecDepth 100000 in
set_option maxHeartbeats 4000000 in
theorem fB_right_l94_ok (E : Nat × (Int → Int)) (d : Nat) {res : Int × WD} (y2 : Int) : ∀ (k : Nat) (x5 : Int) (x6 : Int) (w : WD), fB_right_l94 y2 k x5 x6 w = some res → G E mB_right (d + 5) 94 [(0, pR 0), (2, pI y2), (5, pI x5), (6, pI x6)] [] w RF NN 0 0 (some (pI res.1), res.2, RF, NN) := by
  intro k
  induction k with
  | zero =>
    intro x5 x6 w h
    exact no_e h
  | succ k ih =>
    intro x5 x6 w h
    exact fB_right_l94_b_ok E d y2 ih x5 x6 w h
def fB_right (a1 : Int) (w : WD) : Option (Int × WD) := bv (w32 (Int.tdiv a1 10)) <| fun (v2_1 : Int) => bv (Int.tmod a1 10) <| fun (v3_2 : Int) => if a1 < 0 then (some ((-1), w)) else (ci (fB_isShelf v2_1 w) <| fun (r4 : Int) (u3 : WD) => if r4 = 0 then (some ((-1), u3)) else (ci (fB_isShelf v3_2 u3) <| fun (r7 : Int) (u6 : WD) => if r7 ≠ 0 then (ck (0 ≤ v2_1 ∧ v2_1 < 6) <| ci (fSh_isEmpty v2_1 u6) <| fun (r11 : Int) (u10 : WD) => if r11 ≠ 0 then (some ((-11), u10)) else (ck (0 ≤ v3_2 ∧ v3_2 < 6) <| ci (fSh_isEmpty v3_2 u10) <| fun (r15 : Int) (u14 : WD) => if r15 = 0 then (ci (fB_bytesFault v2_1 u14) <| fun (r18 : Int) (u17 : WD) => jn (β := Int → WD → Option (Int × WD)) (fun (s20 : Int) (u21 : WD) => if s20 = 0 then (fB_right_l94 v2_1 FU 0 0 u21) else (some (s20, u21))) <| fun J40 => if r18 = 0 then (ci (fB_truthFault v3_2 u17) <| fun (r42 : Int) (u41 : WD) => J40 r42 u41) else (ci (fB_bytesFault v2_1 u17) <| fun (r45 : Int) (u44 : WD) => J40 r45 u44)) else (some ((-11), u14)))) else (some ((-1), u6))))
set_option maxRecDepth 100000 in
set_option maxHeartbeats 4000000 in
theorem gB_right (E : Nat × (Int → Int)) (d : Nat) {res : Int × WD} (a1 : Int) (w : WD) (h : fB_right a1 w = some res) : G E mB_right (d + 5) 0 [(0, pR 0), (1, pI a1)] [] w RF NN 0 0 (some (pI res.1), res.2, RF, NN) := by
  unfold fB_right at h
  refine g_iload_n (pc := 0) (j := 1) (dk d_mB_right 0 rfl) rfl ?_
  refine g_bipush (pc := 1) (dk d_mB_right 1 rfl) (by decide) ?_
  refine g_idiv (pc := 3) (dk d_mB_right 2 rfl) (by decide) ?_
  refine h_bvI h (fun v2_1 h => ?_)
  refine g_istore_n (pc := 4) (l' := [(2, pI v2_1), (0, pR 0), (1, pI a1)]) (dk d_mB_right 3 rfl) (Nat.le_of_ble_eq_true rfl) rfl ?_
  refine g_iload_n (pc := 5) (j := 2) (dk d_mB_right 4 rfl) rfl ?_
  refine g_bipush (pc := 6) (dk d_mB_right 5 rfl) (by decide) ?_
  refine g_irem (pc := 8) (dk d_mB_right 6 rfl) (by decide) ?_
  refine h_bvI h (fun v3_2 h => ?_)
  refine g_istore_n (pc := 9) (l' := [(3, pI v3_2), (2, pI v2_1), (0, pR 0), (1, pI a1)]) (dk d_mB_right 7 rfl) (Nat.le_of_ble_eq_true rfl) rfl ?_
  refine g_iload_n (pc := 10) (j := 3) (dk d_mB_right 8 rfl) rfl ?_
  refine h_if_lt (pc := 11) (tgt := 28) (dk d_mB_right 9 rfl) rfl h (fun hc52 h => ?_) (fun hc52 h => ?_)
  · refine g_iconst (pc := 28) (dk d_mB_right 16 rfl) (by decide) ?_
    exact h_iret (pc := 29) rfl (dk d_mB_right 17 rfl) h
  · refine g_iload_n (pc := 14) (j := 1) (dk d_mB_right 10 rfl) rfl ?_
    refine h_callSi (d := d + 4) (pc := 15) (na := 1) (av := [pI v2_1]) ⟨rfl, rfl⟩ (dk d_mB_right 11 rfl) lk_B_66 vm_mB_isShelf rfl rfl (Nat.le_of_ble_eq_true rfl) h (fun r4 u3 hq => kB_isShelf E (d + 3) hq) (fun r4 u3 hb5 h => ?_)
    refine h_if_eq (pc := 18) (tgt := 28) (dk d_mB_right 12 rfl) rfl h (fun hc51 h => ?_) (fun hc51 h => ?_)
    · refine g_iconst (pc := 28) (dk d_mB_right 16 rfl) (by decide) ?_
      exact h_iret (pc := 29) rfl (dk d_mB_right 17 rfl) h
    · refine g_iload_n (pc := 21) (j := 0) (dk d_mB_right 13 rfl) rfl ?_
      refine h_callSi (d := d + 4) (pc := 22) (na := 1) (av := [pI v3_2]) ⟨rfl, rfl⟩ (dk d_mB_right 14 rfl) lk_B_66 vm_mB_isShelf rfl rfl (Nat.le_of_ble_eq_true rfl) h (fun r7 u6 hq => kB_isShelf E (d + 3) hq) (fun r7 u6 hb8 h => ?_)
      refine h_if_ne (pc := 25) (tgt := 30) (dk d_mB_right 15 rfl) rfl h (fun hc50 h => ?_) (fun hc50 h => ?_)
      · refine g_aload_n (pc := 30) (j := 2) (dk d_mB_right 18 rfl) rfl (by decide) ?_
        refine g_getR (pc := 31) (a := 33) rfl fp_B_57 po_0 (dk d_mB_right 19 rfl) ?_
        refine g_iload_n (pc := 34) (j := 1) (dk d_mB_right 20 rfl) rfl ?_
        refine h_aald (pc := 35) (dk d_mB_right 21 rfl) h (fun hi9 h => ?_)
        refine h_callVi (d := d + 4) (pc := 36) (na := 0) (av := []) (k0 := (34 + 2 * v2_1)) (po_s hi9) ⟨_, rfl⟩ ⟨rfl, rfl⟩ (dk d_mB_right 22 rfl) lk_B_70 vm_mSh_isEmpty rfl rfl (Nat.le_of_ble_eq_true rfl) h (fun r11 u10 hq => kSh_isEmpty E (d + 3) hi9 hq) (fun r11 u10 hb12 h => ?_)
        refine h_if_ne (pc := 39) (tgt := 54) (dk d_mB_right 23 rfl) rfl h (fun hc49 h => ?_) (fun hc49 h => ?_)
        · refine g_bipush (pc := 54) (dk d_mB_right 30 rfl) (by decide) ?_
          exact h_iret (pc := 56) rfl (dk d_mB_right 31 rfl) h
        · refine g_aload_n (pc := 42) (j := 2) (dk d_mB_right 24 rfl) rfl (by decide) ?_
          refine g_getR (pc := 43) (a := 33) rfl fp_B_57 po_0 (dk d_mB_right 25 rfl) ?_
          refine g_iload_n (pc := 46) (j := 0) (dk d_mB_right 26 rfl) rfl ?_
          refine h_aald (pc := 47) (dk d_mB_right 27 rfl) h (fun hi13 h => ?_)
          refine h_callVi (d := d + 4) (pc := 48) (na := 0) (av := []) (k0 := (34 + 2 * v3_2)) (po_s hi13) ⟨_, rfl⟩ ⟨rfl, rfl⟩ (dk d_mB_right 28 rfl) lk_B_70 vm_mSh_isEmpty rfl rfl (Nat.le_of_ble_eq_true rfl) h (fun r15 u14 hq => kSh_isEmpty E (d + 3) hi13 hq) (fun r15 u14 hb16 h => ?_)
          refine h_if_eq (pc := 51) (tgt := 57) (dk d_mB_right 29 rfl) rfl h (fun hc48 h => ?_) (fun hc48 h => ?_)
          · refine g_aload_n (pc := 57) (j := 2) (dk d_mB_right 32 rfl) rfl (by decide) ?_
            refine g_iload_n (pc := 58) (j := 1) (dk d_mB_right 33 rfl) rfl ?_
            refine h_callVi (d := d + 4) (pc := 59) (na := 1) (av := [pI v2_1]) (k0 := 0) po_0 ⟨_, rfl⟩ ⟨rfl, rfl⟩ (dk d_mB_right 34 rfl) lk_B_202 vm_mB_bytesFault rfl rfl (Nat.le_of_ble_eq_true rfl) h (fun r18 u17 hq => kB_bytesFault E (d + 2) hq) (fun r18 u17 hb19 h => ?_)
            refine jn_e (fun J => ∀ (s20 : Int) (u21 : WD), J s20 u21 = some res → G E mB_right (d + 5) 78 [(0, pR 0), (2, pI v2_1)] [pI s20] u21 RF NN 0 0 (some (pI res.1), res.2, RF, NN)) h (fun s20 u21 h => ?_) (fun J40 hJ40 h => ?_)
            · refine g_istore (pc := 78) (l' := [(4, pI s20), (0, pR 0), (2, pI v2_1)]) (dk d_mB_right 43 rfl) (Nat.le_of_ble_eq_true rfl) rfl ?_
              refine g_iload (pc := 80) (j := 0) (dk d_mB_right 44 rfl) rfl ?_
              refine h_if_eq (pc := 82) (tgt := 88) (dk d_mB_right 45 rfl) rfl h (fun hc39 h => ?_) (fun hc39 h => ?_)
              · refine g_iconst (pc := 88) (dk d_mB_right 48 rfl) (by decide) ?_
                refine g_istore (pc := 89) (l' := [(5, pI 0), (4, pI s20), (0, pR 0), (2, pI v2_1)]) (dk d_mB_right 49 rfl) (Nat.le_of_ble_eq_true rfl) rfl ?_
                refine g_iconst (pc := 91) (dk d_mB_right 50 rfl) (by decide) ?_
                refine g_istore (pc := 92) (l' := [(6, pI 0), (5, pI 0), (4, pI s20), (0, pR 0), (2, pI v2_1)]) (dk d_mB_right 51 rfl) (Nat.le_of_ble_eq_true rfl) rfl ?_
                refine g_pick [3, 4, 1, 0] rfl (l' := [(0, pR 0), (2, pI v2_1), (5, pI 0), (6, pI 0)]) rfl ?_
                refine fB_right_l94_ok E d v2_1 FU _ _  _ h
              · refine g_iload (pc := 85) (j := 0) (dk d_mB_right 46 rfl) rfl ?_
                exact h_iret (pc := 87) rfl (dk d_mB_right 47 rfl) h
            · refine h_if_eq (pc := 62) (tgt := 73) (dk d_mB_right 35 rfl) rfl h (fun hc47 h => ?_) (fun hc47 h => ?_)
              · refine g_aload_n (pc := 73) (j := 2) (dk d_mB_right 40 rfl) rfl (by decide) ?_
                refine g_iload_n (pc := 74) (j := 0) (dk d_mB_right 41 rfl) rfl ?_
                refine h_callVi (d := d + 4) (pc := 75) (na := 1) (av := [pI v3_2]) (k0 := 0) po_0 ⟨_, rfl⟩ ⟨rfl, rfl⟩ (dk d_mB_right 42 rfl) lk_B_218 vm_mB_truthFault rfl rfl (Nat.le_of_ble_eq_true rfl) h (fun r42 u41 hq => kB_truthFault E (d + 0) hq) (fun r42 u41 hb43 h => ?_)
                refine g_pick [2, 1] rfl (l' := [(0, pR 0), (2, pI v2_1)]) rfl ?_
                exact hJ40 _ _ h
              · refine g_aload_n (pc := 65) (j := 2) (dk d_mB_right 36 rfl) rfl (by decide) ?_
                refine g_iload_n (pc := 66) (j := 1) (dk d_mB_right 37 rfl) rfl ?_
                refine h_callVi (d := d + 4) (pc := 67) (na := 1) (av := [pI v2_1]) (k0 := 0) po_0 ⟨_, rfl⟩ ⟨rfl, rfl⟩ (dk d_mB_right 38 rfl) lk_B_202 vm_mB_bytesFault rfl rfl (Nat.le_of_ble_eq_true rfl) h (fun r45 u44 hq => kB_bytesFault E (d + 2) hq) (fun r45 u44 hb46 h => ?_)
                refine g_goto (pc := 70) (tgt := 78) (dk d_mB_right 39 rfl) rfl ?_
                refine g_pick [2, 1] rfl (l' := [(0, pR 0), (2, pI v2_1)]) rfl ?_
                exact hJ40 _ _ h
          · refine g_bipush (pc := 54) (dk d_mB_right 30 rfl) (by decide) ?_
            exact h_iret (pc := 56) rfl (dk d_mB_right 31 rfl) h
      · refine g_iconst (pc := 28) (dk d_mB_right 16 rfl) (by decide) ?_
        exact h_iret (pc := 29) rfl (dk d_mB_right 17 rfl) h
set_option maxRecDepth 100000 in
set_option maxHeartbeats 4000000 in
theorem kB_right (E : Nat × (Int → Int)) (d : Nat) {a1 : Int} {w w1 : WD} {r : Int} (h : fB_right a1 w = some (r, w1)) : CTi E mB_right (d + 5) [pR 0, pI a1] w RF NN r w1 RF NN := by
  exact CTi_of (by decide +kernel) (Nat.le_of_ble_eq_true rfl) (Or.inl rfl) (gB_right (res := (r, w1)) E d a1 w h)
def fTh_mayBeRight (a1 : Int) (a2 : Int) (w : WD) : Option (Int × WD) := if a2 < 0 then (some (0, w)) else (if 7 ≤ a2 then (some (0, w)) else (ci (fTh_numberIf a1 (bShl 1 (w32 a2)) w) <| fun (r2 : Int) (u1 : WD) => if r2 ≤ 0 then (some (0, u1)) else (some (1, u1))))
set_option maxRecDepth 100000 in
set_option maxHeartbeats 4000000 in
theorem gTh_mayBeRight (E : Nat × (Int → Int)) (d : Nat) {res : Int × WD} (a1 : Int) (a2 : Int) (w : WD) (h : fTh_mayBeRight a1 a2 w = some res) : G E mTh_mayBeRight (d + 6) 0 [(0, pR 12), (1, pI a1), (2, pL a2)] [] w RF NN 0 0 (some (pI res.1), res.2, RF, NN) := by
  unfold fTh_mayBeRight at h
  refine g_lload_n (pc := 0) (j := 2) (dk d_mTh_mayBeRight 0 rfl) rfl ?_
  refine g_lconst0 (pc := 1) (dk d_mTh_mayBeRight 1 rfl) ?_
  refine h_lcmp_lt (pc := 2) (tgt := 32) (dk d_mTh_mayBeRight 2 rfl) (dk d_mTh_mayBeRight 3 rfl) rfl h (fun hc5 h => ?_) (fun hc5 h => ?_)
  · refine g_iconst (pc := 32) (dk d_mTh_mayBeRight 20 rfl) (by decide) ?_
    exact h_zret (pc := 33) (Or.inl rfl) (dk d_mTh_mayBeRight 21 rfl) h
  · refine g_lload_n (pc := 6) (j := 2) (dk d_mTh_mayBeRight 4 rfl) rfl ?_
    refine g_ldc2 (pc := 7) (u := 7) ck_Th_164 (by decide) (dk d_mTh_mayBeRight 5 rfl) ?_
    refine h_lcmp_ge (pc := 10) (tgt := 32) (dk d_mTh_mayBeRight 6 rfl) (dk d_mTh_mayBeRight 7 rfl) rfl h (fun hc4 h => ?_) (fun hc4 h => ?_)
    · refine g_iconst (pc := 32) (dk d_mTh_mayBeRight 20 rfl) (by decide) ?_
      exact h_zret (pc := 33) (Or.inl rfl) (dk d_mTh_mayBeRight 21 rfl) h
    · refine g_aload_n (pc := 14) (j := 0) (dk d_mTh_mayBeRight 8 rfl) rfl (by decide) ?_
      refine g_iload_n (pc := 15) (j := 1) (dk d_mTh_mayBeRight 9 rfl) rfl ?_
      refine g_iconst (pc := 16) (dk d_mTh_mayBeRight 10 rfl) (by decide) ?_
      refine g_lload_n (pc := 17) (j := 2) (dk d_mTh_mayBeRight 11 rfl) rfl ?_
      refine g_l2i (pc := 18) (dk d_mTh_mayBeRight 12 rfl) ?_
      refine g_ishl (pc := 19) (dk d_mTh_mayBeRight 13 rfl) ?_
      refine h_callVl (d := d + 5) (pc := 20) (na := 2) (av := [pI a1, pI (bShl 1 (w32 a2))]) (k0 := 12) po_12 ⟨_, rfl⟩ ⟨rfl, rfl⟩ (dk d_mTh_mayBeRight 14 rfl) lk_Th_132 vm_mTh_numberIf rfl rfl (Nat.le_of_ble_eq_true rfl) h (fun r2 u1 hq => kTh_numberIf E (d + 0) hq) (fun r2 u1 h => ?_)
      refine g_lconst0 (pc := 23) (dk d_mTh_mayBeRight 15 rfl) ?_
      refine h_lcmp_le (pc := 24) (tgt := 32) (dk d_mTh_mayBeRight 16 rfl) (dk d_mTh_mayBeRight 17 rfl) rfl h (fun hc3 h => ?_) (fun hc3 h => ?_)
      · refine g_iconst (pc := 32) (dk d_mTh_mayBeRight 20 rfl) (by decide) ?_
        exact h_zret (pc := 33) (Or.inl rfl) (dk d_mTh_mayBeRight 21 rfl) h
      · refine g_iconst (pc := 28) (dk d_mTh_mayBeRight 18 rfl) (by decide) ?_
        refine g_goto (pc := 29) (tgt := 33) (dk d_mTh_mayBeRight 19 rfl) rfl ?_
        exact h_zret (pc := 33) (Or.inr rfl) (dk d_mTh_mayBeRight 21 rfl) h
set_option maxRecDepth 100000 in
set_option maxHeartbeats 4000000 in
theorem kTh_mayBeRight (E : Nat × (Int → Int)) (d : Nat) {a1 : Int} {a2 : Int} {w w1 : WD} {r : Int} (h : fTh_mayBeRight a1 a2 w = some (r, w1)) : CTi E mTh_mayBeRight (d + 6) [pR 12, pI a1, pL a2] w RF NN r w1 RF NN := by
  exact CTi_of (by decide +kernel) (Nat.le_of_ble_eq_true rfl) (Or.inr rfl) (gTh_mayBeRight (res := (r, w1)) E d a1 a2 w h)
def fJL_bitCount (a0 : Int) (w : WD) : Option (Int × WD) := bv (w64 (a0 - (lAnd (lUshr a0 1) 6148914691236517205))) <| fun (v0_1 : Int) => bv (w64 ((lAnd v0_1 3689348814741910323) + (lAnd (lUshr v0_1 2) 3689348814741910323))) <| fun (v0_2 : Int) => bv (lAnd (w64 (v0_2 + (lUshr v0_2 4))) 1085102592571150095) <| fun (v0_3 : Int) => bv (w64 (v0_3 + (lUshr v0_3 8))) <| fun (v0_4 : Int) => bv (w64 (v0_4 + (lUshr v0_4 16))) <| fun (v0_5 : Int) => bv (w64 (v0_5 + (lUshr v0_5 32))) <| fun (v0_6 : Int) => some ((bAnd (w32 v0_6) 127), w)
set_option maxRecDepth 100000 in
set_option maxHeartbeats 4000000 in
theorem gJL_bitCount (E : Nat × (Int → Int)) (d : Nat) {res : Int × WD} (a0 : Int) (w : WD) (h : fJL_bitCount a0 w = some res) : G E mJL_bitCount (d + 1) 0 [(0, pL a0)] [] w RF NN 0 0 (some (pI res.1), res.2, RF, NN) := by
  unfold fJL_bitCount at h
  refine g_lload_n (pc := 0) (j := 0) (dk d_mJL_bitCount 0 rfl) rfl ?_
  refine g_lload_n (pc := 1) (j := 0) (dk d_mJL_bitCount 1 rfl) rfl ?_
  refine g_iconst (pc := 2) (dk d_mJL_bitCount 2 rfl) (by decide) ?_
  refine g_lushr (pc := 3) (dk d_mJL_bitCount 3 rfl) ?_
  refine g_ldc2 (pc := 4) (u := 6148914691236517205) ck_JL_314 (by decide) (dk d_mJL_bitCount 4 rfl) ?_
  refine g_land (pc := 7) (dk d_mJL_bitCount 5 rfl) ?_
  refine g_lsub (pc := 8) (dk d_mJL_bitCount 6 rfl) ?_
  refine h_bvL h (fun v0_1 h => ?_)
  refine g_lstore_n (pc := 9) (l' := [(0, pL v0_1)]) (dk d_mJL_bitCount 7 rfl) (Nat.le_of_ble_eq_true rfl) rfl ?_
  refine g_lload_n (pc := 10) (j := 0) (dk d_mJL_bitCount 8 rfl) rfl ?_
  refine g_ldc2 (pc := 11) (u := 3689348814741910323) ck_JL_316 (by decide) (dk d_mJL_bitCount 9 rfl) ?_
  refine g_land (pc := 14) (dk d_mJL_bitCount 10 rfl) ?_
  refine g_lload_n (pc := 15) (j := 0) (dk d_mJL_bitCount 11 rfl) rfl ?_
  refine g_iconst (pc := 16) (dk d_mJL_bitCount 12 rfl) (by decide) ?_
  refine g_lushr (pc := 17) (dk d_mJL_bitCount 13 rfl) ?_
  refine g_ldc2 (pc := 18) (u := 3689348814741910323) ck_JL_316 (by decide) (dk d_mJL_bitCount 14 rfl) ?_
  refine g_land (pc := 21) (dk d_mJL_bitCount 15 rfl) ?_
  refine g_ladd (pc := 22) (dk d_mJL_bitCount 16 rfl) ?_
  refine h_bvL h (fun v0_2 h => ?_)
  refine g_lstore_n (pc := 23) (l' := [(0, pL v0_2)]) (dk d_mJL_bitCount 17 rfl) (Nat.le_of_ble_eq_true rfl) rfl ?_
  refine g_lload_n (pc := 24) (j := 0) (dk d_mJL_bitCount 18 rfl) rfl ?_
  refine g_lload_n (pc := 25) (j := 0) (dk d_mJL_bitCount 19 rfl) rfl ?_
  refine g_iconst (pc := 26) (dk d_mJL_bitCount 20 rfl) (by decide) ?_
  refine g_lushr (pc := 27) (dk d_mJL_bitCount 21 rfl) ?_
  refine g_ladd (pc := 28) (dk d_mJL_bitCount 22 rfl) ?_
  refine g_ldc2 (pc := 29) (u := 1085102592571150095) ck_JL_318 (by decide) (dk d_mJL_bitCount 23 rfl) ?_
  refine g_land (pc := 32) (dk d_mJL_bitCount 24 rfl) ?_
  refine h_bvL h (fun v0_3 h => ?_)
  refine g_lstore_n (pc := 33) (l' := [(0, pL v0_3)]) (dk d_mJL_bitCount 25 rfl) (Nat.le_of_ble_eq_true rfl) rfl ?_
  refine g_lload_n (pc := 34) (j := 0) (dk d_mJL_bitCount 26 rfl) rfl ?_
  refine g_lload_n (pc := 35) (j := 0) (dk d_mJL_bitCount 27 rfl) rfl ?_
  refine g_bipush (pc := 36) (dk d_mJL_bitCount 28 rfl) (by decide) ?_
  refine g_lushr (pc := 38) (dk d_mJL_bitCount 29 rfl) ?_
  refine g_ladd (pc := 39) (dk d_mJL_bitCount 30 rfl) ?_
  refine h_bvL h (fun v0_4 h => ?_)
  refine g_lstore_n (pc := 40) (l' := [(0, pL v0_4)]) (dk d_mJL_bitCount 31 rfl) (Nat.le_of_ble_eq_true rfl) rfl ?_
  refine g_lload_n (pc := 41) (j := 0) (dk d_mJL_bitCount 32 rfl) rfl ?_
  refine g_lload_n (pc := 42) (j := 0) (dk d_mJL_bitCount 33 rfl) rfl ?_
  refine g_bipush (pc := 43) (dk d_mJL_bitCount 34 rfl) (by decide) ?_
  refine g_lushr (pc := 45) (dk d_mJL_bitCount 35 rfl) ?_
  refine g_ladd (pc := 46) (dk d_mJL_bitCount 36 rfl) ?_
  refine h_bvL h (fun v0_5 h => ?_)
  refine g_lstore_n (pc := 47) (l' := [(0, pL v0_5)]) (dk d_mJL_bitCount 37 rfl) (Nat.le_of_ble_eq_true rfl) rfl ?_
  refine g_lload_n (pc := 48) (j := 0) (dk d_mJL_bitCount 38 rfl) rfl ?_
  refine g_lload_n (pc := 49) (j := 0) (dk d_mJL_bitCount 39 rfl) rfl ?_
  refine g_bipush (pc := 50) (dk d_mJL_bitCount 40 rfl) (by decide) ?_
  refine g_lushr (pc := 52) (dk d_mJL_bitCount 41 rfl) ?_
  refine g_ladd (pc := 53) (dk d_mJL_bitCount 42 rfl) ?_
  refine h_bvL h (fun v0_6 h => ?_)
  refine g_lstore_n (pc := 54) (l' := [(0, pL v0_6)]) (dk d_mJL_bitCount 43 rfl) (Nat.le_of_ble_eq_true rfl) rfl ?_
  refine g_lload_n (pc := 55) (j := 0) (dk d_mJL_bitCount 44 rfl) rfl ?_
  refine g_l2i (pc := 56) (dk d_mJL_bitCount 45 rfl) ?_
  refine g_bipush (pc := 57) (dk d_mJL_bitCount 46 rfl) (by decide) ?_
  refine g_iand (pc := 59) (dk d_mJL_bitCount 47 rfl) ?_
  exact h_iret (pc := 60) rfl (dk d_mJL_bitCount 48 rfl) h
set_option maxRecDepth 100000 in
set_option maxHeartbeats 4000000 in
theorem kJL_bitCount (E : Nat × (Int → Int)) (d : Nat) {a0 : Int} {w w1 : WD} {r : Int} (h : fJL_bitCount a0 w = some (r, w1)) : CTi E mJL_bitCount (d + 1) [pL a0] w RF NN r w1 RF NN := by
  exact CTi_of (by decide +kernel) (Nat.le_of_ble_eq_true rfl) (Or.inl rfl) (gJL_bitCount (res := (r, w1)) E d a0 w h)
def fTh_mostRight_l7_b (rec : Int → WD → Option (Int × WD)) (y1 : Int) (y2 : Int) (K0 : WD → Option (Int × WD)) (x3 : Int) (w : WD) : Option (Int × WD) := if y2 ≤ x3 then (K0 w) else (if 5 ≤ x3 then (K0 w) else (ci (fSh_at y1 x3 w) <| fun (r3 : Int) (u2 : WD) => jn (β := WD → Option (Int × WD)) (fun (u4 : WD) => bv (w32 (x3 + 1)) <| fun (v3_5 : Int) => rec v3_5 u4) <| fun J6 => if r3 < 0 then (J6 u2) else (if 7 ≤ r3 then (J6 u2) else (bv (w32 ((w32 (7 * x3)) + (w32 r3))) <| fun (t7 : Int) => ck (0 ≤ t7 ∧ t7 < 35) <| ck (0 ≤ t7 ∧ t7 < 35) <| bw (up u2 16 t7 (w64 ((u2 16 t7) * 2))) <| fun (u8 : WD) => J6 u8))))
def fTh_mostRight_l7 (y1 : Int) (y2 : Int) (K0 : WD → Option (Int × WD)) : Nat → Int → WD → Option (Int × WD)
  | 0 => fun _ _ => none
  | k + 1 => fTh_mostRight_l7_b ( fTh_mostRight_l7 y1 y2 K0 k) y1 y2 K0
set_option maxRecDepth 100000 in
set_option maxHeartbeats 4000000 in
theorem fTh_mostRight_l7_b_ok (E : Nat × (Int → Int)) (d : Nat) {res : Int × WD} {rec : Int → WD → Option (Int × WD)} (y1 : Int) (y2 : Int) (hy1 : 0 ≤ y1 ∧ y1 < 6) (K0 : WD → Option (Int × WD)) (hrec : ∀ (x3 : Int) (w : WD), rec x3 w = some res → G E mTh_mostRight (d + 4) 7 [(0, pR 12), (1, pR (34 + 2 * y1)), (2, pI y2), (3, pI x3)] [] w RF NN 0 0 (some (pI res.1), res.2, RF, NN)) (hK0 : ∀ (w : WD), K0 w = some res → G E mTh_mostRight (d + 4) 65 [(0, pR 12)] [] w RF NN 0 0 (some (pI res.1), res.2, RF, NN)) (x3 : Int) (w : WD) (h : fTh_mostRight_l7_b rec y1 y2 K0 x3 w = some res) : G E mTh_mostRight (d + 4) 7 [(0, pR 12), (1, pR (34 + 2 * y1)), (2, pI y2), (3, pI x3)] [] w RF NN 0 0 (some (pI res.1), res.2, RF, NN) := by
  unfold fTh_mostRight_l7_b at h
  refine g_iload_n (pc := 7) (j := 3) (dk d_mTh_mostRight 5 rfl) rfl ?_
  refine g_iload_n (pc := 8) (j := 2) (dk d_mTh_mostRight 6 rfl) rfl ?_
  refine h_icmp_ge (pc := 9) (tgt := 65) (dk d_mTh_mostRight 7 rfl) rfl h (fun hc12 h => ?_) (fun hc12 h => ?_)
  · refine g_pick [0] rfl (l' := [(0, pR 12)]) rfl ?_
    exact hK0 _ h
  · refine g_iload_n (pc := 12) (j := 3) (dk d_mTh_mostRight 8 rfl) rfl ?_
    refine g_iconst (pc := 13) (dk d_mTh_mostRight 9 rfl) (by decide) ?_
    refine h_icmp_ge (pc := 14) (tgt := 65) (dk d_mTh_mostRight 10 rfl) rfl h (fun hc11 h => ?_) (fun hc11 h => ?_)
    · refine g_pick [0] rfl (l' := [(0, pR 12)]) rfl ?_
      exact hK0 _ h
    · refine g_aload_n (pc := 17) (j := 1) (dk d_mTh_mostRight 11 rfl) rfl (by have := hy1; omega) ?_
      refine g_iload_n (pc := 18) (j := 3) (dk d_mTh_mostRight 12 rfl) rfl ?_
      refine h_callVl (d := d + 3) (pc := 19) (na := 1) (av := [pI x3]) (k0 := (34 + 2 * y1)) (po_s hy1) ⟨_, rfl⟩ ⟨rfl, rfl⟩ (dk d_mTh_mostRight 13 rfl) lk_Th_158 vm_mSh_at rfl rfl (Nat.le_of_ble_eq_true rfl) h (fun r3 u2 hq => kSh_at E (d + 1) hy1 hq) (fun r3 u2 h => ?_)
      refine g_lstore (pc := 22) (l' := [(4, pL r3), (0, pR 12), (1, pR (34 + 2 * y1)), (2, pI y2), (3, pI x3)]) (dk d_mTh_mostRight 14 rfl) (Nat.le_of_ble_eq_true rfl) rfl ?_
      refine g_lload (pc := 24) (j := 0) (dk d_mTh_mostRight 15 rfl) rfl ?_
      refine g_lconst0 (pc := 26) (dk d_mTh_mostRight 16 rfl) ?_
      refine jn_e (fun J => ∀ (u4 : WD), J u4 = some res → G E mTh_mostRight (d + 4) 59 [(0, pR 12), (1, pR (34 + 2 * y1)), (2, pI y2), (3, pI x3)] [] u4 RF NN 0 0 (some (pI res.1), res.2, RF, NN)) h (fun u4 h => ?_) (fun J6 hJ6 h => ?_)
      · refine h_iinc (pc := 59) (j := 3) (dk d_mTh_mostRight 36 rfl) rfl (by decide) (Nat.le_of_ble_eq_true rfl) h (fun v3_5 h => ?_)
        refine g_loc (l' := [(3, pI v3_5), (0, pR 12), (1, pR (34 + 2 * y1)), (2, pI y2)]) rfl ?_
        refine g_goto (pc := 62) (tgt := 7) (dk d_mTh_mostRight 37 rfl) rfl ?_
        refine g_pick [1, 2, 3, 0] rfl (l' := [(0, pR 12), (1, pR (34 + 2 * y1)), (2, pI y2), (3, pI v3_5)]) rfl ?_
        exact hrec _ _ h
      · refine h_lcmp_lt (pc := 27) (tgt := 59) (dk d_mTh_mostRight 17 rfl) (dk d_mTh_mostRight 18 rfl) rfl h (fun hc10 h => ?_) (fun hc10 h => ?_)
        · refine g_pick [1, 2, 3, 4] rfl (l' := [(0, pR 12), (1, pR (34 + 2 * y1)), (2, pI y2), (3, pI x3)]) rfl ?_
          exact hJ6 _ h
        · refine g_lload (pc := 31) (j := 0) (dk d_mTh_mostRight 19 rfl) rfl ?_
          refine g_ldc2 (pc := 33) (u := 7) ck_Th_164 (by decide) (dk d_mTh_mostRight 20 rfl) ?_
          refine h_lcmp_ge (pc := 36) (tgt := 59) (dk d_mTh_mostRight 21 rfl) (dk d_mTh_mostRight 22 rfl) rfl h (fun hc9 h => ?_) (fun hc9 h => ?_)
          · refine g_pick [1, 2, 3, 4] rfl (l' := [(0, pR 12), (1, pR (34 + 2 * y1)), (2, pI y2), (3, pI x3)]) rfl ?_
            exact hJ6 _ h
          · refine g_aload_n (pc := 40) (j := 1) (dk d_mTh_mostRight 23 rfl) rfl (by decide) ?_
            refine g_getR (pc := 41) (a := 16) rfl fp_Th_22 po_12 (dk d_mTh_mostRight 24 rfl) ?_
            refine g_bipush (pc := 44) (dk d_mTh_mostRight 25 rfl) (by decide) ?_
            refine g_iload_n (pc := 46) (j := 4) (dk d_mTh_mostRight 26 rfl) rfl ?_
            refine g_imul (pc := 47) (dk d_mTh_mostRight 27 rfl) ?_
            refine g_lload (pc := 48) (j := 0) (dk d_mTh_mostRight 28 rfl) rfl ?_
            refine g_l2i (pc := 50) (dk d_mTh_mostRight 29 rfl) ?_
            refine g_iadd (pc := 51) (dk d_mTh_mostRight 30 rfl) ?_
            refine h_bvI h (fun t7 h => ?_)
            refine g_dup2 (pc := 52) (dk d_mTh_mostRight 31 rfl) rfl rfl ?_
            refine h_lald (pc := 53) (B := 35) pa_16 rfl (dk d_mTh_mostRight 32 rfl) h (fun h => ?_)
            refine g_ldc2 (pc := 54) (u := 2) ck_Th_166 (by decide) (dk d_mTh_mostRight 33 rfl) ?_
            refine g_lmul (pc := 57) (dk d_mTh_mostRight 34 rfl) ?_
            refine h_last (pc := 58) (B := 35) pa_16 rfl (dk d_mTh_mostRight 35 rfl) h (fun u8 h => ?_)
            refine g_pick [1, 2, 3, 4] rfl (l' := [(0, pR 12), (1, pR (34 + 2 * y1)), (2, pI y2), (3, pI x3)]) rfl ?_
            exact hJ6 _ h
set_option maxRecDepth 100000 in
set_option maxHeartbeats 4000000 in
theorem fTh_mostRight_l7_ok (E : Nat × (Int → Int)) (d : Nat) {res : Int × WD} (y1 : Int) (y2 : Int) (hy1 : 0 ≤ y1 ∧ y1 < 6) (K0 : WD → Option (Int × WD)) (hK0 : ∀ (w : WD), K0 w = some res → G E mTh_mostRight (d + 4) 65 [(0, pR 12)] [] w RF NN 0 0 (some (pI res.1), res.2, RF, NN)) : ∀ (k : Nat) (x3 : Int) (w : WD), fTh_mostRight_l7 y1 y2 K0 k x3 w = some res → G E mTh_mostRight (d + 4) 7 [(0, pR 12), (1, pR (34 + 2 * y1)), (2, pI y2), (3, pI x3)] [] w RF NN 0 0 (some (pI res.1), res.2, RF, NN) := by
  intro k
  induction k with
  | zero =>
    intro x3 w h
    exact no_e h
  | succ k ih =>
    intro x3 w h
    exact fTh_mostRight_l7_b_ok E d y1 y2 hy1 K0 ih hK0 x3 w h
def fTh_mostRight (a1 : Int) (a2 : Int) (w : WD) : Option (Int × WD) := cv (fTh_price 0 w) <| fun (u1 : WD) => fTh_mostRight_l7 a1 a2 (fun (u13 : WD) => ci (fTh_reckon 1 u13) <| fun (r15 : Int) (u14 : WD) => ci (fJL_bitCount (w64 ((mx 1 r15) - 1)) u14) <| fun (r17 : Int) (u16 : WD) => some (r17, u16)) FU 0 u1
set_option maxRecDepth 100000 in
set_option maxHeartbeats 4000000 in
theorem gTh_mostRight (E : Nat × (Int → Int)) (d : Nat) {res : Int × WD} (a1 : Int) (a2 : Int) (ha1 : 0 ≤ a1 ∧ a1 < 6) (w : WD) (h : fTh_mostRight a1 a2 w = some res) : G E mTh_mostRight (d + 4) 0 [(0, pR 12), (1, pR (34 + 2 * a1)), (2, pI a2)] [] w RF NN 0 0 (some (pI res.1), res.2, RF, NN) := by
  unfold fTh_mostRight at h
  refine g_aload_n (pc := 0) (j := 0) (dk d_mTh_mostRight 0 rfl) rfl (by decide) ?_
  refine g_iconst (pc := 1) (dk d_mTh_mostRight 1 rfl) (by decide) ?_
  refine h_callVv (d := d + 3) (pc := 2) (na := 1) (av := [pI 0]) (k0 := 12) po_12 ⟨_, rfl⟩ ⟨rfl, rfl⟩ (dk d_mTh_mostRight 2 rfl) lk_Th_106 vm_mTh_price rfl rfl (Nat.le_of_ble_eq_true rfl) h (fun u1 hq => kTh_price E (d + 1) hq) (fun u1 h => ?_)
  refine g_iconst (pc := 5) (dk d_mTh_mostRight 3 rfl) (by decide) ?_
  refine g_istore_n (pc := 6) (l' := [(3, pI 0), (0, pR 12), (1, pR (34 + 2 * a1)), (2, pI a2)]) (dk d_mTh_mostRight 4 rfl) (Nat.le_of_ble_eq_true rfl) rfl ?_
  refine g_pick [1, 2, 3, 0] rfl (l' := [(0, pR 12), (1, pR (34 + 2 * a1)), (2, pI a2), (3, pI 0)]) rfl ?_
  refine fTh_mostRight_l7_ok E d a1 a2 ha1 _  (fun u13 h => ?_) FU _  _ h
  · refine g_lconst1 (pc := 65) (dk d_mTh_mostRight 38 rfl) ?_
    refine g_aload_n (pc := 66) (j := 0) (dk d_mTh_mostRight 39 rfl) rfl (by decide) ?_
    refine g_iconst (pc := 67) (dk d_mTh_mostRight 40 rfl) (by decide) ?_
    refine h_callVl (d := d + 3) (pc := 68) (na := 1) (av := [pI 1]) (k0 := 12) po_12 ⟨_, rfl⟩ ⟨rfl, rfl⟩ (dk d_mTh_mostRight 41 rfl) lk_Th_110 vm_mTh_reckon rfl rfl (Nat.le_of_ble_eq_true rfl) h (fun r15 u14 hq => kTh_reckon E (d + 0) hq) (fun r15 u14 h => ?_)
    refine g_mmaxL (pc := 71) mm_Th_103 (Nat.le_of_ble_eq_true rfl) (by omega) (dk d_mTh_mostRight 42 rfl) ?_
    refine g_lconst1 (pc := 74) (dk d_mTh_mostRight 43 rfl) ?_
    refine g_lsub (pc := 75) (dk d_mTh_mostRight 44 rfl) ?_
    refine h_callSi (d := d + 3) (pc := 76) (na := 1) (av := [pL (w64 ((mx 1 r15) - 1))]) ⟨rfl, rfl⟩ (dk d_mTh_mostRight 45 rfl) lk_Th_168 vm_mJL_bitCount rfl rfl (Nat.le_of_ble_eq_true rfl) h (fun r17 u16 hq => kJL_bitCount E (d + 2) hq) (fun r17 u16 hb18 h => ?_)
    exact h_iret (pc := 79) rfl (dk d_mTh_mostRight 46 rfl) h
set_option maxRecDepth 100000 in
set_option maxHeartbeats 4000000 in
theorem kTh_mostRight (E : Nat × (Int → Int)) (d : Nat) {a1 : Int} {a2 : Int} (ha1 : 0 ≤ a1 ∧ a1 < 6) {w w1 : WD} {r : Int} (h : fTh_mostRight a1 a2 w = some (r, w1)) : CTi E mTh_mostRight (d + 4) [pR 12, pR (34 + 2 * a1), pI a2] w RF NN r w1 RF NN := by
  exact CTi_of (by decide +kernel) (Nat.le_of_ble_eq_true rfl) (Or.inl rfl) (gTh_mostRight (res := (r, w1)) E d a1 a2 ha1 w h)
def fB_cards_l66_b (rec : Int → WD → Option (Int × WD)) (y4 : Int) (x5 : Int) (w : WD) : Option (Int × WD) := ci (fB_cardsOn y4 w) <| fun (r13 : Int) (u12 : WD) => if r13 ≤ x5 then (some ((-2), u12)) else (ci (fSh_at y4 x5 u12) <| fun (r16 : Int) (u15 : WD) => jn (β := WD → Option (Int × WD)) (fun (u17 : WD) => bv (w32 (x5 + 1)) <| fun (v5_18 : Int) => rec v5_18 u17) <| fun J19 => if r16 = (-1) then (J19 u15) else (ci (fSh_at y4 x5 u15) <| fun (r21 : Int) (u20 : WD) => ci (fTh_mayBeRight x5 r21 u20) <| fun (r23 : Int) (u22 : WD) => if r23 ≠ 0 then (J19 u22) else (some (x5, u22))))
def fB_cards_l66 (y4 : Int) : Nat → Int → WD → Option (Int × WD)
  | 0 => fun _ _ => none
  | k + 1 => fB_cards_l66_b ( fB_cards_l66 y4 k) y4
set_option maxRecDepth 100000 in
set_option maxHeartbeats 4000000 in
theorem fB_cards_l66_b_ok (E : Nat × (Int → Int)) (d : Nat) {res : Int × WD} {rec : Int → WD → Option (Int × WD)} (y4 : Int) (hy4 : 0 ≤ y4 ∧ y4 < 6) (hrec : ∀ (x5 : Int) (w : WD), rec x5 w = some res → G E mB_cards (d + 7) 66 [(0, pR 0), (4, pR (34 + 2 * y4)), (5, pI x5)] [] w RF NN 0 0 (some (pI res.1), res.2, RF, NN)) (x5 : Int) (w : WD) (h : fB_cards_l66_b rec y4 x5 w = some res) : G E mB_cards (d + 7) 66 [(0, pR 0), (4, pR (34 + 2 * y4)), (5, pI x5)] [] w RF NN 0 0 (some (pI res.1), res.2, RF, NN) := by
  unfold fB_cards_l66_b at h
  refine g_iload (pc := 66) (j := 2) (dk d_mB_cards 36 rfl) rfl ?_
  refine g_aload_n (pc := 68) (j := 0) (dk d_mB_cards 37 rfl) rfl (by decide) ?_
  refine g_aload (pc := 69) (j := 1) (dk d_mB_cards 38 rfl) rfl (by have := hy4; omega) ?_
  refine h_callVi (d := d + 6) (pc := 71) (na := 1) (av := [pR (34 + 2 * y4)]) (k0 := 0) po_0 ⟨_, rfl⟩ ⟨rfl, rfl⟩ (dk d_mB_cards 39 rfl) lk_B_232 vm_mB_cardsOn rfl rfl (Nat.le_of_ble_eq_true rfl) h (fun r13 u12 hq => kB_cardsOn E (d + 4) hy4 hq) (fun r13 u12 hb14 h => ?_)
  refine h_icmp_ge (pc := 74) (tgt := 119) (dk d_mB_cards 40 rfl) rfl h (fun hc27 h => ?_) (fun hc27 h => ?_)
  · refine g_bipush (pc := 119) (dk d_mB_cards 59 rfl) (by decide) ?_
    exact h_iret (pc := 121) rfl (dk d_mB_cards 60 rfl) h
  · refine g_aload (pc := 77) (j := 1) (dk d_mB_cards 41 rfl) rfl (by have := hy4; omega) ?_
    refine g_iload (pc := 79) (j := 2) (dk d_mB_cards 42 rfl) rfl ?_
    refine h_callVl (d := d + 6) (pc := 81) (na := 1) (av := [pI x5]) (k0 := (34 + 2 * y4)) (po_s hy4) ⟨_, rfl⟩ ⟨rfl, rfl⟩ (dk d_mB_cards 43 rfl) lk_B_236 vm_mSh_at rfl rfl (Nat.le_of_ble_eq_true rfl) h (fun r16 u15 hq => kSh_at E (d + 4) hy4 hq) (fun r16 u15 h => ?_)
    refine g_ldc2 (pc := 84) (u := (-1)) ck_B_243 (by decide) (dk d_mB_cards 44 rfl) ?_
    refine jn_e (fun J => ∀ (u17 : WD), J u17 = some res → G E mB_cards (d + 7) 113 [(0, pR 0), (4, pR (34 + 2 * y4)), (5, pI x5)] [] u17 RF NN 0 0 (some (pI res.1), res.2, RF, NN)) h (fun u17 h => ?_) (fun J19 hJ19 h => ?_)
    · refine h_iinc (pc := 113) (j := 2) (dk d_mB_cards 57 rfl) rfl (by decide) (Nat.le_of_ble_eq_true rfl) h (fun v5_18 h => ?_)
      refine g_loc (l' := [(5, pI v5_18), (0, pR 0), (4, pR (34 + 2 * y4))]) rfl ?_
      refine g_goto (pc := 116) (tgt := 66) (dk d_mB_cards 58 rfl) rfl ?_
      refine g_pick [1, 2, 0] rfl (l' := [(0, pR 0), (4, pR (34 + 2 * y4)), (5, pI v5_18)]) rfl ?_
      exact hrec _ _ h
    · refine h_lcmp_eq (pc := 87) (tgt := 113) (dk d_mB_cards 45 rfl) (dk d_mB_cards 46 rfl) rfl h (fun hc26 h => ?_) (fun hc26 h => ?_)
      · exact hJ19 _ h
      · refine g_aload_n (pc := 91) (j := 0) (dk d_mB_cards 47 rfl) rfl (by decide) ?_
        refine g_getR (pc := 92) (a := 12) rfl fp_B_28 po_0 (dk d_mB_cards 48 rfl) ?_
        refine g_iload (pc := 95) (j := 2) (dk d_mB_cards 49 rfl) rfl ?_
        refine g_aload (pc := 97) (j := 1) (dk d_mB_cards 50 rfl) rfl (by have := hy4; omega) ?_
        refine g_iload (pc := 99) (j := 2) (dk d_mB_cards 51 rfl) rfl ?_
        refine h_callVl (d := d + 6) (pc := 101) (na := 1) (av := [pI x5]) (k0 := (34 + 2 * y4)) (po_s hy4) ⟨_, rfl⟩ ⟨rfl, rfl⟩ (dk d_mB_cards 52 rfl) lk_B_236 vm_mSh_at rfl rfl (Nat.le_of_ble_eq_true rfl) h (fun r21 u20 hq => kSh_at E (d + 4) hy4 hq) (fun r21 u20 h => ?_)
        refine h_callVi (d := d + 6) (pc := 104) (na := 2) (av := [pI x5, pL r21]) (k0 := 12) po_12 ⟨_, rfl⟩ ⟨rfl, rfl⟩ (dk d_mB_cards 53 rfl) lk_B_245 vm_mTh_mayBeRight rfl rfl (Nat.le_of_ble_eq_true rfl) h (fun r23 u22 hq => kTh_mayBeRight E (d + 0) hq) (fun r23 u22 hb24 h => ?_)
        refine h_if_ne (pc := 107) (tgt := 113) (dk d_mB_cards 54 rfl) rfl h (fun hc25 h => ?_) (fun hc25 h => ?_)
        · exact hJ19 _ h
        · refine g_iload (pc := 110) (j := 2) (dk d_mB_cards 55 rfl) rfl ?_
          exact h_iret (pc := 112) rfl (dk d_mB_cards 56 rfl) h
set_option maxRecDepth 100000 in
set_option maxHeartbeats 4000000 in
theorem fB_cards_l66_ok (E : Nat × (Int → Int)) (d : Nat) {res : Int × WD} (y4 : Int) (hy4 : 0 ≤ y4 ∧ y4 < 6) : ∀ (k : Nat) (x5 : Int) (w : WD), fB_cards_l66 y4 k x5 w = some res → G E mB_cards (d + 7) 66 [(0, pR 0), (4, pR (34 + 2 * y4)), (5, pI x5)] [] w RF NN 0 0 (some (pI res.1), res.2, RF, NN) := by
  intro k
  induction k with
  | zero =>
    intro x5 w h
    exact no_e h
  | succ k ih =>
    intro x5 w h
    exact fB_cards_l66_b_ok E d y4 hy4 ih x5 w h
def fB_cards (a1 : Int) (a2 : Int) (w : WD) : Option (Int × WD) := ci (fB_isShelf a1 w) <| fun (r2 : Int) (u1 : WD) => if r2 = 0 then (some ((-1), u1)) else (ci (fB_isBit a2 u1) <| fun (r5 : Int) (u4 : WD) => if r5 ≠ 0 then (ci (fB_bytesFault a1 u4) <| fun (r8 : Int) (u7 : WD) => if r8 = 0 then (cv (fTh_load u7) <| fun (u10 : WD) => ck (0 ≤ a1 ∧ a1 < 6) <| if a2 ≠ 0 then (fB_cards_l66 a1 FU 0 u10) else (ci (fB_cardsOn a1 u10) <| fun (r29 : Int) (u28 : WD) => ci (fTh_mostRight a1 r29 u28) <| fun (r32 : Int) (u31 : WD) => some (r32, u31))) else (some (r8, u7))) else (some ((-1), u4)))
set_option maxRecDepth 100000 in
set_option maxHeartbeats 4000000 in
theorem gB_cards (E : Nat × (Int → Int)) (d : Nat) {res : Int × WD} (a1 : Int) (a2 : Int) (w : WD) (h : fB_cards a1 a2 w = some res) : G E mB_cards (d + 7) 0 [(0, pR 0), (1, pI a1), (2, pI a2)] [] w RF NN 0 0 (some (pI res.1), res.2, RF, NN) := by
  unfold fB_cards at h
  refine g_iload_n (pc := 0) (j := 1) (dk d_mB_cards 0 rfl) rfl ?_
  refine h_callSi (d := d + 6) (pc := 1) (na := 1) (av := [pI a1]) ⟨rfl, rfl⟩ (dk d_mB_cards 1 rfl) lk_B_66 vm_mB_isShelf rfl rfl (Nat.le_of_ble_eq_true rfl) h (fun r2 u1 hq => kB_isShelf E (d + 5) hq) (fun r2 u1 hb3 h => ?_)
  refine h_if_eq (pc := 4) (tgt := 14) (dk d_mB_cards 2 rfl) rfl h (fun hc37 h => ?_) (fun hc37 h => ?_)
  · refine g_iconst (pc := 14) (dk d_mB_cards 6 rfl) (by decide) ?_
    exact h_iret (pc := 15) rfl (dk d_mB_cards 7 rfl) h
  · refine g_iload_n (pc := 7) (j := 2) (dk d_mB_cards 3 rfl) rfl ?_
    refine h_callSi (d := d + 6) (pc := 8) (na := 1) (av := [pI a2]) ⟨rfl, rfl⟩ (dk d_mB_cards 4 rfl) lk_B_120 vm_mB_isBit rfl rfl (Nat.le_of_ble_eq_true rfl) h (fun r5 u4 hq => kB_isBit E (d + 5) hq) (fun r5 u4 hb6 h => ?_)
    refine h_if_ne (pc := 11) (tgt := 16) (dk d_mB_cards 5 rfl) rfl h (fun hc36 h => ?_) (fun hc36 h => ?_)
    · refine g_aload_n (pc := 16) (j := 0) (dk d_mB_cards 8 rfl) rfl (by decide) ?_
      refine g_iload_n (pc := 17) (j := 1) (dk d_mB_cards 9 rfl) rfl ?_
      refine h_callVi (d := d + 6) (pc := 18) (na := 1) (av := [pI a1]) (k0 := 0) po_0 ⟨_, rfl⟩ ⟨rfl, rfl⟩ (dk d_mB_cards 10 rfl) lk_B_202 vm_mB_bytesFault rfl rfl (Nat.le_of_ble_eq_true rfl) h (fun r8 u7 hq => kB_bytesFault E (d + 4) hq) (fun r8 u7 hb9 h => ?_)
      refine g_istore_n (pc := 21) (l' := [(3, pI r8), (0, pR 0), (1, pI a1), (2, pI a2)]) (dk d_mB_cards 11 rfl) (Nat.le_of_ble_eq_true rfl) rfl ?_
      refine g_iload_n (pc := 22) (j := 0) (dk d_mB_cards 12 rfl) rfl ?_
      refine h_if_eq (pc := 23) (tgt := 28) (dk d_mB_cards 13 rfl) rfl h (fun hc35 h => ?_) (fun hc35 h => ?_)
      · refine g_aload_n (pc := 28) (j := 1) (dk d_mB_cards 16 rfl) rfl (by decide) ?_
        refine g_getR (pc := 29) (a := 12) rfl fp_B_28 po_0 (dk d_mB_cards 17 rfl) ?_
        refine h_callVv (d := d + 6) (pc := 32) (na := 0) (av := []) (k0 := 12) po_12 ⟨_, rfl⟩ ⟨rfl, rfl⟩ (dk d_mB_cards 18 rfl) lk_B_127 vm_mTh_load rfl rfl (Nat.le_of_ble_eq_true rfl) h (fun u10 hq => kTh_load E (d + 0) hq) (fun u10 h => ?_)
        refine g_aload_n (pc := 35) (j := 1) (dk d_mB_cards 19 rfl) rfl (by decide) ?_
        refine g_getR (pc := 36) (a := 33) rfl fp_B_57 po_0 (dk d_mB_cards 20 rfl) ?_
        refine g_iload_n (pc := 39) (j := 2) (dk d_mB_cards 21 rfl) rfl ?_
        refine h_aald (pc := 40) (dk d_mB_cards 22 rfl) h (fun hi11 h => ?_)
        refine g_astore (pc := 41) (l' := [(4, pR (34 + 2 * a1)), (3, pI r8), (0, pR 0), (1, pI a1), (2, pI a2)]) (dk d_mB_cards 23 rfl) (Nat.le_of_ble_eq_true rfl) (by have := hi11; omega) rfl ?_
        refine g_iload_n (pc := 43) (j := 4) (dk d_mB_cards 24 rfl) rfl ?_
        refine h_if_ne (pc := 44) (tgt := 63) (dk d_mB_cards 25 rfl) rfl h (fun hc34 h => ?_) (fun hc34 h => ?_)
        · refine g_iconst (pc := 63) (dk d_mB_cards 34 rfl) (by decide) ?_
          refine g_istore (pc := 64) (l' := [(5, pI 0), (4, pR (34 + 2 * a1)), (3, pI r8), (0, pR 0), (1, pI a1), (2, pI a2)]) (dk d_mB_cards 35 rfl) (Nat.le_of_ble_eq_true rfl) rfl ?_
          refine g_pick [3, 1, 0] rfl (l' := [(0, pR 0), (4, pR (34 + 2 * a1)), (5, pI 0)]) rfl ?_
          refine fB_cards_l66_ok E d a1 hi11 FU _  _ h
        · refine g_aload_n (pc := 47) (j := 2) (dk d_mB_cards 26 rfl) rfl (by decide) ?_
          refine g_getR (pc := 48) (a := 12) rfl fp_B_28 po_0 (dk d_mB_cards 27 rfl) ?_
          refine g_aload (pc := 51) (j := 0) (dk d_mB_cards 28 rfl) rfl (by have := hi11; omega) ?_
          refine g_aload_n (pc := 53) (j := 2) (dk d_mB_cards 29 rfl) rfl (by decide) ?_
          refine g_aload (pc := 54) (j := 0) (dk d_mB_cards 30 rfl) rfl (by have := hi11; omega) ?_
          refine h_callVi (d := d + 6) (pc := 56) (na := 1) (av := [pR (34 + 2 * a1)]) (k0 := 0) po_0 ⟨_, rfl⟩ ⟨rfl, rfl⟩ (dk d_mB_cards 31 rfl) lk_B_232 vm_mB_cardsOn rfl rfl (Nat.le_of_ble_eq_true rfl) h (fun r29 u28 hq => kB_cardsOn E (d + 4) hi11 hq) (fun r29 u28 hb30 h => ?_)
          refine h_callVi (d := d + 6) (pc := 59) (na := 2) (av := [pR (34 + 2 * a1), pI r29]) (k0 := 12) po_12 ⟨_, rfl⟩ ⟨rfl, rfl⟩ (dk d_mB_cards 32 rfl) lk_B_239 vm_mTh_mostRight rfl rfl (Nat.le_of_ble_eq_true rfl) h (fun r32 u31 hq => kTh_mostRight E (d + 2) hi11 hq) (fun r32 u31 hb33 h => ?_)
          exact h_iret (pc := 62) rfl (dk d_mB_cards 33 rfl) h
      · refine g_iload_n (pc := 26) (j := 0) (dk d_mB_cards 14 rfl) rfl ?_
        exact h_iret (pc := 27) rfl (dk d_mB_cards 15 rfl) h
    · refine g_iconst (pc := 14) (dk d_mB_cards 6 rfl) (by decide) ?_
      exact h_iret (pc := 15) rfl (dk d_mB_cards 7 rfl) h
set_option maxRecDepth 100000 in
set_option maxHeartbeats 4000000 in
theorem kB_cards (E : Nat × (Int → Int)) (d : Nat) {a1 : Int} {a2 : Int} {w w1 : WD} {r : Int} (h : fB_cards a1 a2 w = some (r, w1)) : CTi E mB_cards (d + 7) [pR 0, pI a1, pI a2] w RF NN r w1 RF NN := by
  exact CTi_of (by decide +kernel) (Nat.le_of_ble_eq_true rfl) (Or.inl rfl) (gB_cards (res := (r, w1)) E d a1 a2 w h)
def fFl_isOn (a1 : Int) (w : WD) : Option (Int × WD) := if a1 < 0 then (some (0, w)) else (if (w 27 2) ≤ a1 then (some (0, w)) else (if 5 ≤ a1 then (some (0, w)) else (some (1, w))))
set_option maxRecDepth 100000 in
set_option maxHeartbeats 4000000 in
theorem gFl_isOn (E : Nat × (Int → Int)) (d : Nat) {res : Int × WD} (a1 : Int) (w : WD) (h : fFl_isOn a1 w = some res) : G E mFl_isOn (d + 1) 0 [(0, pR 27), (1, pI a1)] [] w RF NN 0 0 (some (pI res.1), res.2, RF, NN) := by
  unfold fFl_isOn at h
  refine g_iload_n (pc := 0) (j := 1) (dk d_mFl_isOn 0 rfl) rfl ?_
  refine h_if_lt (pc := 1) (tgt := 21) (dk d_mFl_isOn 1 rfl) rfl h (fun hc3 h => ?_) (fun hc3 h => ?_)
  · refine g_iconst (pc := 21) (dk d_mFl_isOn 11 rfl) (by decide) ?_
    exact h_zret (pc := 22) (Or.inl rfl) (dk d_mFl_isOn 12 rfl) h
  · refine g_iload_n (pc := 4) (j := 1) (dk d_mFl_isOn 2 rfl) rfl ?_
    refine g_aload_n (pc := 5) (j := 0) (dk d_mFl_isOn 3 rfl) rfl (by decide) ?_
    refine g_getI (pc := 6) fp_Fl_28 po_27 (dk d_mFl_isOn 4 rfl) ?_
    refine h_icmp_ge (pc := 9) (tgt := 21) (dk d_mFl_isOn 5 rfl) rfl h (fun hc2 h => ?_) (fun hc2 h => ?_)
    · refine g_iconst (pc := 21) (dk d_mFl_isOn 11 rfl) (by decide) ?_
      exact h_zret (pc := 22) (Or.inl rfl) (dk d_mFl_isOn 12 rfl) h
    · refine g_iload_n (pc := 12) (j := 1) (dk d_mFl_isOn 6 rfl) rfl ?_
      refine g_iconst (pc := 13) (dk d_mFl_isOn 7 rfl) (by decide) ?_
      refine h_icmp_ge (pc := 14) (tgt := 21) (dk d_mFl_isOn 8 rfl) rfl h (fun hc1 h => ?_) (fun hc1 h => ?_)
      · refine g_iconst (pc := 21) (dk d_mFl_isOn 11 rfl) (by decide) ?_
        exact h_zret (pc := 22) (Or.inl rfl) (dk d_mFl_isOn 12 rfl) h
      · refine g_iconst (pc := 17) (dk d_mFl_isOn 9 rfl) (by decide) ?_
        refine g_goto (pc := 18) (tgt := 22) (dk d_mFl_isOn 10 rfl) rfl ?_
        exact h_zret (pc := 22) (Or.inr rfl) (dk d_mFl_isOn 12 rfl) h
set_option maxRecDepth 100000 in
set_option maxHeartbeats 4000000 in
theorem kFl_isOn (E : Nat × (Int → Int)) (d : Nat) {a1 : Int} {w w1 : WD} {r : Int} (h : fFl_isOn a1 w = some (r, w1)) : CTi E mFl_isOn (d + 1) [pR 27, pI a1] w RF NN r w1 RF NN := by
  exact CTi_of (by decide +kernel) (Nat.le_of_ble_eq_true rfl) (Or.inr rfl) (gFl_isOn (res := (r, w1)) E d a1 w h)
def fFl_join (a1 : Int) (a2 : Int) (w : WD) : Option (Int × WD) := ci (fFl_isOn a1 w) <| fun (r2 : Int) (u1 : WD) => if r2 = 0 then (some (0, u1)) else (ci (fFl_isOn a2 u1) <| fun (r5 : Int) (u4 : WD) => if r5 = 0 then (some (0, u4)) else (if a1 ≠ a2 then (bv (w32 ((w32 (5 * a1)) + a2)) <| fun (t7 : Int) => ck (0 ≤ t7 ∧ t7 < 25) <| ck (0 ≤ t7 ∧ t7 < 25) <| bw (up u4 28 t7 (w32 ((u4 28 t7) + 1))) <| fun (u8 : WD) => bv (w32 ((w32 (5 * a2)) + a1)) <| fun (t9 : Int) => ck (0 ≤ t9 ∧ t9 < 25) <| ck (0 ≤ t9 ∧ t9 < 25) <| bw (up u8 28 t9 (w32 ((u8 28 t9) + 1))) <| fun (u10 : WD) => ck (0 ≤ a1 ∧ a1 < 5) <| ck (0 ≤ a1 ∧ a1 < 5) <| bw (up u10 29 a1 (w32 ((u10 29 a1) + 1))) <| fun (u11 : WD) => ck (0 ≤ a2 ∧ a2 < 5) <| ck (0 ≤ a2 ∧ a2 < 5) <| bw (up u11 29 a2 (w32 ((u11 29 a2) + 1))) <| fun (u12 : WD) => bw (up u12 27 3 (w32 ((u12 27 3) + 1))) <| fun (u13 : WD) => some (1, u13)) else (some (0, u4))))
set_option maxRecDepth 100000 in
set_option maxHeartbeats 4000000 in
theorem gFl_join (E : Nat × (Int → Int)) (d : Nat) {res : Int × WD} (a1 : Int) (a2 : Int) (w : WD) (h : fFl_join a1 a2 w = some res) : G E mFl_join (d + 2) 0 [(0, pR 27), (1, pI a1), (2, pI a2)] [] w RF NN 0 0 (some (pI res.1), res.2, RF, NN) := by
  unfold fFl_join at h
  refine g_aload_n (pc := 0) (j := 0) (dk d_mFl_join 0 rfl) rfl (by decide) ?_
  refine g_iload_n (pc := 1) (j := 1) (dk d_mFl_join 1 rfl) rfl ?_
  refine h_callVi (d := d + 1) (pc := 2) (na := 1) (av := [pI a1]) (k0 := 27) po_27 ⟨_, rfl⟩ ⟨rfl, rfl⟩ (dk d_mFl_join 2 rfl) lk_Fl_45 vm_mFl_isOn rfl rfl (Nat.le_of_ble_eq_true rfl) h (fun r2 u1 hq => kFl_isOn E (d + 0) hq) (fun r2 u1 hb3 h => ?_)
  refine h_if_eq (pc := 5) (tgt := 21) (dk d_mFl_join 3 rfl) rfl h (fun hc16 h => ?_) (fun hc16 h => ?_)
  · refine g_iconst (pc := 21) (dk d_mFl_join 11 rfl) (by decide) ?_
    exact h_zret (pc := 22) (Or.inl rfl) (dk d_mFl_join 12 rfl) h
  · refine g_aload_n (pc := 8) (j := 0) (dk d_mFl_join 4 rfl) rfl (by decide) ?_
    refine g_iload_n (pc := 9) (j := 2) (dk d_mFl_join 5 rfl) rfl ?_
    refine h_callVi (d := d + 1) (pc := 10) (na := 1) (av := [pI a2]) (k0 := 27) po_27 ⟨_, rfl⟩ ⟨rfl, rfl⟩ (dk d_mFl_join 6 rfl) lk_Fl_45 vm_mFl_isOn rfl rfl (Nat.le_of_ble_eq_true rfl) h (fun r5 u4 hq => kFl_isOn E (d + 0) hq) (fun r5 u4 hb6 h => ?_)
    refine h_if_eq (pc := 13) (tgt := 21) (dk d_mFl_join 7 rfl) rfl h (fun hc15 h => ?_) (fun hc15 h => ?_)
    · refine g_iconst (pc := 21) (dk d_mFl_join 11 rfl) (by decide) ?_
      exact h_zret (pc := 22) (Or.inl rfl) (dk d_mFl_join 12 rfl) h
    · refine g_iload_n (pc := 16) (j := 1) (dk d_mFl_join 8 rfl) rfl ?_
      refine g_iload_n (pc := 17) (j := 2) (dk d_mFl_join 9 rfl) rfl ?_
      refine h_icmp_ne (pc := 18) (tgt := 23) (dk d_mFl_join 10 rfl) rfl h (fun hc14 h => ?_) (fun hc14 h => ?_)
      · refine g_aload_n (pc := 23) (j := 0) (dk d_mFl_join 13 rfl) rfl (by decide) ?_
        refine g_getR (pc := 24) (a := 28) rfl fp_Fl_9 po_27 (dk d_mFl_join 14 rfl) ?_
        refine g_iconst (pc := 27) (dk d_mFl_join 15 rfl) (by decide) ?_
        refine g_iload_n (pc := 28) (j := 1) (dk d_mFl_join 16 rfl) rfl ?_
        refine g_imul (pc := 29) (dk d_mFl_join 17 rfl) ?_
        refine g_iload_n (pc := 30) (j := 2) (dk d_mFl_join 18 rfl) rfl ?_
        refine g_iadd (pc := 31) (dk d_mFl_join 19 rfl) ?_
        refine h_bvI h (fun t7 h => ?_)
        refine g_dup2 (pc := 32) (dk d_mFl_join 20 rfl) rfl rfl ?_
        refine h_iald (pc := 33) (B := 25) pa_28 rfl (dk d_mFl_join 21 rfl) h (fun h => ?_)
        refine g_iconst (pc := 34) (dk d_mFl_join 22 rfl) (by decide) ?_
        refine g_iadd (pc := 35) (dk d_mFl_join 23 rfl) ?_
        refine h_iast (pc := 36) (B := 25) pa_28 rfl (dk d_mFl_join 24 rfl) h (fun u8 h => ?_)
        refine g_aload_n (pc := 37) (j := 0) (dk d_mFl_join 25 rfl) rfl (by decide) ?_
        refine g_getR (pc := 38) (a := 28) rfl fp_Fl_9 po_27 (dk d_mFl_join 26 rfl) ?_
        refine g_iconst (pc := 41) (dk d_mFl_join 27 rfl) (by decide) ?_
        refine g_iload_n (pc := 42) (j := 2) (dk d_mFl_join 28 rfl) rfl ?_
        refine g_imul (pc := 43) (dk d_mFl_join 29 rfl) ?_
        refine g_iload_n (pc := 44) (j := 1) (dk d_mFl_join 30 rfl) rfl ?_
        refine g_iadd (pc := 45) (dk d_mFl_join 31 rfl) ?_
        refine h_bvI h (fun t9 h => ?_)
        refine g_dup2 (pc := 46) (dk d_mFl_join 32 rfl) rfl rfl ?_
        refine h_iald (pc := 47) (B := 25) pa_28 rfl (dk d_mFl_join 33 rfl) h (fun h => ?_)
        refine g_iconst (pc := 48) (dk d_mFl_join 34 rfl) (by decide) ?_
        refine g_iadd (pc := 49) (dk d_mFl_join 35 rfl) ?_
        refine h_iast (pc := 50) (B := 25) pa_28 rfl (dk d_mFl_join 36 rfl) h (fun u10 h => ?_)
        refine g_aload_n (pc := 51) (j := 0) (dk d_mFl_join 37 rfl) rfl (by decide) ?_
        refine g_getR (pc := 52) (a := 29) rfl fp_Fl_15 po_27 (dk d_mFl_join 38 rfl) ?_
        refine g_iload_n (pc := 55) (j := 1) (dk d_mFl_join 39 rfl) rfl ?_
        refine g_dup2 (pc := 56) (dk d_mFl_join 40 rfl) rfl rfl ?_
        refine h_iald (pc := 57) (B := 5) pa_29 rfl (dk d_mFl_join 41 rfl) h (fun h => ?_)
        refine g_iconst (pc := 58) (dk d_mFl_join 42 rfl) (by decide) ?_
        refine g_iadd (pc := 59) (dk d_mFl_join 43 rfl) ?_
        refine h_iast (pc := 60) (B := 5) pa_29 rfl (dk d_mFl_join 44 rfl) h (fun u11 h => ?_)
        refine g_aload_n (pc := 61) (j := 0) (dk d_mFl_join 45 rfl) rfl (by decide) ?_
        refine g_getR (pc := 62) (a := 29) rfl fp_Fl_15 po_27 (dk d_mFl_join 46 rfl) ?_
        refine g_iload_n (pc := 65) (j := 2) (dk d_mFl_join 47 rfl) rfl ?_
        refine g_dup2 (pc := 66) (dk d_mFl_join 48 rfl) rfl rfl ?_
        refine h_iald (pc := 67) (B := 5) pa_29 rfl (dk d_mFl_join 49 rfl) h (fun h => ?_)
        refine g_iconst (pc := 68) (dk d_mFl_join 50 rfl) (by decide) ?_
        refine g_iadd (pc := 69) (dk d_mFl_join 51 rfl) ?_
        refine h_iast (pc := 70) (B := 5) pa_29 rfl (dk d_mFl_join 52 rfl) h (fun u12 h => ?_)
        refine g_aload_n (pc := 71) (j := 0) (dk d_mFl_join 53 rfl) rfl (by decide) ?_
        refine g_dup (pc := 72) (dk d_mFl_join 54 rfl) rfl ?_
        refine g_getI (pc := 73) fp_Fl_18 po_27 (dk d_mFl_join 55 rfl) ?_
        refine g_iconst (pc := 76) (dk d_mFl_join 56 rfl) (by decide) ?_
        refine g_iadd (pc := 77) (dk d_mFl_join 57 rfl) ?_
        refine h_putI (pc := 78) fp_Fl_18 po_27 (dk d_mFl_join 58 rfl) h (fun u13 h => ?_)
        refine g_iconst (pc := 81) (dk d_mFl_join 59 rfl) (by decide) ?_
        exact h_zret (pc := 82) (Or.inr rfl) (dk d_mFl_join 60 rfl) h
      · refine g_iconst (pc := 21) (dk d_mFl_join 11 rfl) (by decide) ?_
        exact h_zret (pc := 22) (Or.inl rfl) (dk d_mFl_join 12 rfl) h
set_option maxRecDepth 100000 in
set_option maxHeartbeats 4000000 in
theorem kFl_join (E : Nat × (Int → Int)) (d : Nat) {a1 : Int} {a2 : Int} {w w1 : WD} {r : Int} (h : fFl_join a1 a2 w = some (r, w1)) : CTi E mFl_join (d + 2) [pR 27, pI a1, pI a2] w RF NN r w1 RF NN := by
  exact CTi_of (by decide +kernel) (Nat.le_of_ble_eq_true rfl) (Or.inr rfl) (gFl_join (res := (r, w1)) E d a1 a2 w h)
