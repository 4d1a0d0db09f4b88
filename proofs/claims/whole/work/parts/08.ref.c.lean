def fR_layDances_l2_b (rec : Int → WD → Option WD) (y1 : Int) (K0 : WD → Option WD) (x2 : Int) (w : WD) : Option WD := if 25 ≤ x2 then (K0 w) else (ck (0 ≤ x2 ∧ x2 < 25) <| bw (up w 72 x2 0) <| fun (u1 : WD) => bv (w32 (x2 + 1)) <| fun (v2_2 : Int) => rec v2_2 u1)
def fR_layDances_l2 (y1 : Int) (K0 : WD → Option WD) : Nat → Int → WD → Option WD
  | 0 => fun _ _ => none
  | k + 1 => fR_layDances_l2_b ( fR_layDances_l2 y1 K0 k) y1 K0
set_option maxRecDepth 100000 in
set_option maxHeartbeats 4000000 in
theorem fR_layDances_l2_b_ok (E : Nat × (Int → Int)) (d : Nat) {res : WD} {rec : Int → WD → Option WD} (y1 : Int) (K0 : WD → Option WD) (hrec : ∀ (x2 : Int) (w : WD), rec x2 w = some res → G E mR_layDances (d + 3) 2 [(0, pR 46), (1, pI y1), (2, pI x2)] [] w RF NN 0 0 (none, res, RF, NN)) (hK0 : ∀ (w : WD), K0 w = some res → G E mR_layDances (d + 3) 21 [(0, pR 46), (1, pI y1)] [] w RF NN 0 0 (none, res, RF, NN)) (x2 : Int) (w : WD) (h : fR_layDances_l2_b rec y1 K0 x2 w = some res) : G E mR_layDances (d + 3) 2 [(0, pR 46), (1, pI y1), (2, pI x2)] [] w RF NN 0 0 (none, res, RF, NN) := by
  unfold fR_layDances_l2_b at h
  refine g_iload_n (pc := 2) (j := 2) (dk d_mR_layDances 2 rfl) rfl ?_
  refine g_bipush (pc := 3) (dk d_mR_layDances 3 rfl) (by decide) ?_
  refine h_icmp_ge (pc := 5) (tgt := 21) (dk d_mR_layDances 4 rfl) rfl h (fun hc3 h => ?_) (fun hc3 h => ?_)
  · refine g_pick [0, 1] rfl (l' := [(0, pR 46), (1, pI y1)]) rfl ?_
    exact hK0 _ h
  · refine g_aload_n (pc := 8) (j := 0) (dk d_mR_layDances 5 rfl) rfl (by decide) ?_
    refine g_getR (pc := 9) (a := 72) rfl fp_R_90 po_46 (dk d_mR_layDances 6 rfl) ?_
    refine g_iload_n (pc := 12) (j := 2) (dk d_mR_layDances 7 rfl) rfl ?_
    refine g_iconst (pc := 13) (dk d_mR_layDances 8 rfl) (by decide) ?_
    refine h_iast (pc := 14) (B := 25) pa_72 rfl (dk d_mR_layDances 9 rfl) h (fun u1 h => ?_)
    refine h_iinc (pc := 15) (j := 2) (dk d_mR_layDances 10 rfl) rfl (by decide) (Nat.le_of_ble_eq_true rfl) h (fun v2_2 h => ?_)
    refine g_loc (l' := [(2, pI v2_2), (0, pR 46), (1, pI y1)]) rfl ?_
    refine g_goto (pc := 18) (tgt := 2) (dk d_mR_layDances 11 rfl) rfl ?_
    refine g_pick [1, 2, 0] rfl (l' := [(0, pR 46), (1, pI y1), (2, pI v2_2)]) rfl ?_
    exact hrec _ _ h
set_option maxRecDepth 100000 in
set_option maxHeartbeats 4000000 in
theorem fR_layDances_l2_ok (E : Nat × (Int → Int)) (d : Nat) {res : WD} (y1 : Int) (K0 : WD → Option WD) (hK0 : ∀ (w : WD), K0 w = some res → G E mR_layDances (d + 3) 21 [(0, pR 46), (1, pI y1)] [] w RF NN 0 0 (none, res, RF, NN)) : ∀ (k : Nat) (x2 : Int) (w : WD), fR_layDances_l2 y1 K0 k x2 w = some res → G E mR_layDances (d + 3) 2 [(0, pR 46), (1, pI y1), (2, pI x2)] [] w RF NN 0 0 (none, res, RF, NN) := by
  intro k
  induction k with
  | zero =>
    intro x2 w h
    exact no_e h
  | succ k ih =>
    intro x2 w h
    exact fR_layDances_l2_b_ok E d y1 K0 ih hK0 x2 w h
def fR_layDances_l28_b (rec : Int → WD → Option WD) (y1 : Int) (x2 : Int) (w : WD) : Option WD := ck (0 ≤ y1 ∧ y1 < 6) <| if (w 83 y1) ≤ (w32 ((w32 (2 * x2)) + 1)) then (some w) else (ci (fR_at y1 (w32 (2 * x2)) w) <| fun (r7 : Int) (u6 : WD) => ci (fR_at y1 (w32 ((w32 (2 * x2)) + 1)) u6) <| fun (r10 : Int) (u9 : WD) => ci (fR_isMask r7 u9) <| fun (r13 : Int) (u12 : WD) => if r13 = 0 then (some u12) else (ci (fR_isMask r10 u12) <| fun (r16 : Int) (u15 : WD) => if r16 = 0 then (some u15) else (if r7 ≠ r10 then (bv (w32 ((w32 (5 * r7)) + r10)) <| fun (t18 : Int) => ck (0 ≤ t18 ∧ t18 < 25) <| ck (0 ≤ t18 ∧ t18 < 25) <| bw (up u15 72 t18 (w32 ((u15 72 t18) + 1))) <| fun (u19 : WD) => bv (w32 ((w32 (5 * r10)) + r7)) <| fun (t20 : Int) => ck (0 ≤ t20 ∧ t20 < 25) <| ck (0 ≤ t20 ∧ t20 < 25) <| bw (up u19 72 t20 (w32 ((u19 72 t20) + 1))) <| fun (u21 : WD) => bw (up u21 46 46 (w32 ((u21 46 46) + 1))) <| fun (u22 : WD) => bv (w32 (x2 + 1)) <| fun (v2_23 : Int) => rec v2_23 u22) else (some u15))))
def fR_layDances_l28 (y1 : Int) : Nat → Int → WD → Option WD
  | 0 => fun _ _ => none
  | k + 1 => fR_layDances_l28_b ( fR_layDances_l28 y1 k) y1
set_option maxRecDepth 100000 in
set_option maxHeartbeats 4000000 in
theorem fR_layDances_l28_b_ok (E : Nat × (Int → Int)) (d : Nat) {res : WD} {rec : Int → WD → Option WD} (y1 : Int) (hrec : ∀ (x2 : Int) (w : WD), rec x2 w = some res → G E mR_layDances (d + 3) 28 [(0, pR 46), (1, pI y1), (2, pI x2)] [] w RF NN 0 0 (none, res, RF, NN)) (x2 : Int) (w : WD) (h : fR_layDances_l28_b rec y1 x2 w = some res) : G E mR_layDances (d + 3) 28 [(0, pR 46), (1, pI y1), (2, pI x2)] [] w RF NN 0 0 (none, res, RF, NN) := by
  unfold fR_layDances_l28_b at h
  refine g_iconst (pc := 28) (dk d_mR_layDances 17 rfl) (by decide) ?_
  refine g_iload_n (pc := 29) (j := 2) (dk d_mR_layDances 18 rfl) rfl ?_
  refine g_imul (pc := 30) (dk d_mR_layDances 19 rfl) ?_
  refine g_iconst (pc := 31) (dk d_mR_layDances 20 rfl) (by decide) ?_
  refine g_iadd (pc := 32) (dk d_mR_layDances 21 rfl) ?_
  refine g_aload_n (pc := 33) (j := 0) (dk d_mR_layDances 22 rfl) rfl (by decide) ?_
  refine g_getR (pc := 34) (a := 83) rfl fp_R_124 po_46 (dk d_mR_layDances 23 rfl) ?_
  refine g_iload_n (pc := 37) (j := 1) (dk d_mR_layDances 24 rfl) rfl ?_
  refine h_iald (pc := 38) (B := 6) pa_83 rfl (dk d_mR_layDances 25 rfl) h (fun h => ?_)
  refine h_icmp_ge (pc := 39) (tgt := 133) (dk d_mR_layDances 26 rfl) rfl h (fun hc27 h => ?_) (fun hc27 h => ?_)
  · exact h_vret (pc := 133) (dk d_mR_layDances 87 rfl) h
  · refine g_aload_n (pc := 42) (j := 0) (dk d_mR_layDances 27 rfl) rfl (by decide) ?_
    refine g_iload_n (pc := 43) (j := 1) (dk d_mR_layDances 28 rfl) rfl ?_
    refine g_iconst (pc := 44) (dk d_mR_layDances 29 rfl) (by decide) ?_
    refine g_iload_n (pc := 45) (j := 2) (dk d_mR_layDances 30 rfl) rfl ?_
    refine g_imul (pc := 46) (dk d_mR_layDances 31 rfl) ?_
    refine h_callVi (d := d + 2) (pc := 47) (na := 2) (av := [pI y1, pI (w32 (2 * x2))]) (k0 := 46) po_46 ⟨_, rfl⟩ ⟨rfl, rfl⟩ (dk d_mR_layDances 32 rfl) lk_R_354 vm_mR_at rfl rfl (Nat.le_of_ble_eq_true rfl) h (fun r7 u6 hq => kR_at E (d + 1) hq) (fun r7 u6 hb8 h => ?_)
    refine g_istore_n (pc := 50) (l' := [(3, pI r7), (0, pR 46), (1, pI y1), (2, pI x2)]) (dk d_mR_layDances 33 rfl) (Nat.le_of_ble_eq_true rfl) rfl ?_
    refine g_aload_n (pc := 51) (j := 1) (dk d_mR_layDances 34 rfl) rfl (by decide) ?_
    refine g_iload_n (pc := 52) (j := 2) (dk d_mR_layDances 35 rfl) rfl ?_
    refine g_iconst (pc := 53) (dk d_mR_layDances 36 rfl) (by decide) ?_
    refine g_iload_n (pc := 54) (j := 3) (dk d_mR_layDances 37 rfl) rfl ?_
    refine g_imul (pc := 55) (dk d_mR_layDances 38 rfl) ?_
    refine g_iconst (pc := 56) (dk d_mR_layDances 39 rfl) (by decide) ?_
    refine g_iadd (pc := 57) (dk d_mR_layDances 40 rfl) ?_
    refine h_callVi (d := d + 2) (pc := 58) (na := 2) (av := [pI y1, pI (w32 ((w32 (2 * x2)) + 1))]) (k0 := 46) po_46 ⟨_, rfl⟩ ⟨rfl, rfl⟩ (dk d_mR_layDances 41 rfl) lk_R_354 vm_mR_at rfl rfl (Nat.le_of_ble_eq_true rfl) h (fun r10 u9 hq => kR_at E (d + 1) hq) (fun r10 u9 hb11 h => ?_)
    refine g_istore (pc := 61) (l' := [(4, pI r10), (3, pI r7), (0, pR 46), (1, pI y1), (2, pI x2)]) (dk d_mR_layDances 42 rfl) (Nat.le_of_ble_eq_true rfl) rfl ?_
    refine g_aload_n (pc := 63) (j := 2) (dk d_mR_layDances 43 rfl) rfl (by decide) ?_
    refine g_iload_n (pc := 64) (j := 1) (dk d_mR_layDances 44 rfl) rfl ?_
    refine h_callVi (d := d + 2) (pc := 65) (na := 1) (av := [pI r7]) (k0 := 46) po_46 ⟨_, rfl⟩ ⟨rfl, rfl⟩ (dk d_mR_layDances 45 rfl) lk_R_177 vm_mR_isMask rfl rfl (Nat.le_of_ble_eq_true rfl) h (fun r13 u12 hq => kR_isMask E (d + 0) hq) (fun r13 u12 hb14 h => ?_)
    refine h_if_eq (pc := 68) (tgt := 86) (dk d_mR_layDances 46 rfl) rfl h (fun hc26 h => ?_) (fun hc26 h => ?_)
    · exact h_vret (pc := 86) (dk d_mR_layDances 54 rfl) h
    · refine g_aload_n (pc := 71) (j := 2) (dk d_mR_layDances 47 rfl) rfl (by decide) ?_
      refine g_iload (pc := 72) (j := 0) (dk d_mR_layDances 48 rfl) rfl ?_
      refine h_callVi (d := d + 2) (pc := 74) (na := 1) (av := [pI r10]) (k0 := 46) po_46 ⟨_, rfl⟩ ⟨rfl, rfl⟩ (dk d_mR_layDances 49 rfl) lk_R_177 vm_mR_isMask rfl rfl (Nat.le_of_ble_eq_true rfl) h (fun r16 u15 hq => kR_isMask E (d + 0) hq) (fun r16 u15 hb17 h => ?_)
      refine h_if_eq (pc := 77) (tgt := 86) (dk d_mR_layDances 50 rfl) rfl h (fun hc25 h => ?_) (fun hc25 h => ?_)
      · exact h_vret (pc := 86) (dk d_mR_layDances 54 rfl) h
      · refine g_iload_n (pc := 80) (j := 1) (dk d_mR_layDances 51 rfl) rfl ?_
        refine g_iload (pc := 81) (j := 0) (dk d_mR_layDances 52 rfl) rfl ?_
        refine h_icmp_ne (pc := 83) (tgt := 87) (dk d_mR_layDances 53 rfl) rfl h (fun hc24 h => ?_) (fun hc24 h => ?_)
        · refine g_aload_n (pc := 87) (j := 2) (dk d_mR_layDances 55 rfl) rfl (by decide) ?_
          refine g_getR (pc := 88) (a := 72) rfl fp_R_90 po_46 (dk d_mR_layDances 56 rfl) ?_
          refine g_iconst (pc := 91) (dk d_mR_layDances 57 rfl) (by decide) ?_
          refine g_iload_n (pc := 92) (j := 1) (dk d_mR_layDances 58 rfl) rfl ?_
          refine g_imul (pc := 93) (dk d_mR_layDances 59 rfl) ?_
          refine g_iload (pc := 94) (j := 0) (dk d_mR_layDances 60 rfl) rfl ?_
          refine g_iadd (pc := 96) (dk d_mR_layDances 61 rfl) ?_
          refine h_bvI h (fun t18 h => ?_)
          refine g_dup2 (pc := 97) (dk d_mR_layDances 62 rfl) rfl rfl ?_
          refine h_iald (pc := 98) (B := 25) pa_72 rfl (dk d_mR_layDances 63 rfl) h (fun h => ?_)
          refine g_iconst (pc := 99) (dk d_mR_layDances 64 rfl) (by decide) ?_
          refine g_iadd (pc := 100) (dk d_mR_layDances 65 rfl) ?_
          refine h_iast (pc := 101) (B := 25) pa_72 rfl (dk d_mR_layDances 66 rfl) h (fun u19 h => ?_)
          refine g_aload_n (pc := 102) (j := 2) (dk d_mR_layDances 67 rfl) rfl (by decide) ?_
          refine g_getR (pc := 103) (a := 72) rfl fp_R_90 po_46 (dk d_mR_layDances 68 rfl) ?_
          refine g_iconst (pc := 106) (dk d_mR_layDances 69 rfl) (by decide) ?_
          refine g_iload (pc := 107) (j := 0) (dk d_mR_layDances 70 rfl) rfl ?_
          refine g_imul (pc := 109) (dk d_mR_layDances 71 rfl) ?_
          refine g_iload_n (pc := 110) (j := 1) (dk d_mR_layDances 72 rfl) rfl ?_
          refine g_iadd (pc := 111) (dk d_mR_layDances 73 rfl) ?_
          refine h_bvI h (fun t20 h => ?_)
          refine g_dup2 (pc := 112) (dk d_mR_layDances 74 rfl) rfl rfl ?_
          refine h_iald (pc := 113) (B := 25) pa_72 rfl (dk d_mR_layDances 75 rfl) h (fun h => ?_)
          refine g_iconst (pc := 114) (dk d_mR_layDances 76 rfl) (by decide) ?_
          refine g_iadd (pc := 115) (dk d_mR_layDances 77 rfl) ?_
          refine h_iast (pc := 116) (B := 25) pa_72 rfl (dk d_mR_layDances 78 rfl) h (fun u21 h => ?_)
          refine g_aload_n (pc := 117) (j := 2) (dk d_mR_layDances 79 rfl) rfl (by decide) ?_
          refine g_dup (pc := 118) (dk d_mR_layDances 80 rfl) rfl ?_
          refine g_getI (pc := 119) fp_R_379 po_46 (dk d_mR_layDances 81 rfl) ?_
          refine g_iconst (pc := 122) (dk d_mR_layDances 82 rfl) (by decide) ?_
          refine g_iadd (pc := 123) (dk d_mR_layDances 83 rfl) ?_
          refine h_putI (pc := 124) fp_R_379 po_46 (dk d_mR_layDances 84 rfl) h (fun u22 h => ?_)
          refine h_iinc (pc := 127) (j := 4) (dk d_mR_layDances 85 rfl) rfl (by decide) (Nat.le_of_ble_eq_true rfl) h (fun v2_23 h => ?_)
          refine g_loc (l' := [(2, pI v2_23), (4, pI r10), (3, pI r7), (0, pR 46), (1, pI y1)]) rfl ?_
          refine g_goto (pc := 130) (tgt := 28) (dk d_mR_layDances 86 rfl) rfl ?_
          refine g_pick [3, 4, 0] rfl (l' := [(0, pR 46), (1, pI y1), (2, pI v2_23)]) rfl ?_
          exact hrec _ _ h
        · exact h_vret (pc := 86) (dk d_mR_layDances 54 rfl) h
set_option maxRecDepth 100000 in
set_option maxHeartbeats 4000000 in
theorem fR_layDances_l28_ok (E : Nat × (Int → Int)) (d : Nat) {res : WD} (y1 : Int) : ∀ (k : Nat) (x2 : Int) (w : WD), fR_layDances_l28 y1 k x2 w = some res → G E mR_layDances (d + 3) 28 [(0, pR 46), (1, pI y1), (2, pI x2)] [] w RF NN 0 0 (none, res, RF, NN) := by
  intro k
  induction k with
  | zero =>
    intro x2 w h
    exact no_e h
  | succ k ih =>
    intro x2 w h
    exact fR_layDances_l28_b_ok E d y1 ih x2 w h
def fR_layDances (a1 : Int) (w : WD) : Option WD := fR_layDances_l2 a1 (fun (u4 : WD) => bw (up u4 46 46 0) <| fun (u5 : WD) => fR_layDances_l28 a1 FU 0 u5) FU 0 w
set_option maxRecDepth 100000 in
set_option maxHeartbeats 4000000 in
theorem gR_layDances (E : Nat × (Int → Int)) (d : Nat) {res : WD} (a1 : Int) (w : WD) (h : fR_layDances a1 w = some res) : G E mR_layDances (d + 3) 0 [(0, pR 46), (1, pI a1)] [] w RF NN 0 0 (none, res, RF, NN) := by
  unfold fR_layDances at h
  refine g_iconst (pc := 0) (dk d_mR_layDances 0 rfl) (by decide) ?_
  refine g_istore_n (pc := 1) (l' := [(2, pI 0), (0, pR 46), (1, pI a1)]) (dk d_mR_layDances 1 rfl) (Nat.le_of_ble_eq_true rfl) rfl ?_
  refine g_pick [1, 2, 0] rfl (l' := [(0, pR 46), (1, pI a1), (2, pI 0)]) rfl ?_
  refine fR_layDances_l2_ok E d a1 _  (fun u4 h => ?_) FU _  _ h
  · refine g_aload_n (pc := 21) (j := 0) (dk d_mR_layDances 12 rfl) rfl (by decide) ?_
    refine g_iconst (pc := 22) (dk d_mR_layDances 13 rfl) (by decide) ?_
    refine h_putI (pc := 23) fp_R_379 po_46 (dk d_mR_layDances 14 rfl) h (fun u5 h => ?_)
    refine g_iconst (pc := 26) (dk d_mR_layDances 15 rfl) (by decide) ?_
    refine g_istore_n (pc := 27) (l' := [(2, pI 0), (0, pR 46), (1, pI a1)]) (dk d_mR_layDances 16 rfl) (Nat.le_of_ble_eq_true rfl) rfl ?_
    refine g_pick [1, 2, 0] rfl (l' := [(0, pR 46), (1, pI a1), (2, pI 0)]) rfl ?_
    refine fR_layDances_l28_ok E d a1 FU _  _ h
set_option maxRecDepth 100000 in
set_option maxHeartbeats 4000000 in
theorem kR_layDances (E : Nat × (Int → Int)) (d : Nat) {a1 : Int} {w w1 : WD} (h : fR_layDances a1 w = some w1) : CTv E mR_layDances (d + 3) [pR 46, pI a1] w RF NN w1 RF NN := by
  exact CTv_of (by decide +kernel) (Nat.le_of_ble_eq_true rfl) rfl (gR_layDances (res := w1) E d a1 w h)
def fR_dances (a1 : Int) (a2 : Int) (w : WD) : Option (Int × WD) := ci (fR_isShelf a1 w) <| fun (r2 : Int) (u1 : WD) => if r2 = 0 then (some ((-1), u1)) else (ci (fR_in a2 0 999 u1) <| fun (r5 : Int) (u4 : WD) => if r5 ≠ 0 then (ci (fR_rowFault a1 u4) <| fun (r8 : Int) (u7 : WD) => if 0 ≤ r8 then (cv (fR_layDances a1 u7) <| fun (u10 : WD) => ck ((u10 52 3) ≠ 0) <| if (w32 (Int.tdiv a2 (u10 52 3))) ≤ (u10 46 46) then (ck ((u10 52 3) ≠ 0) <| some ((w32 (Int.tdiv a2 (u10 52 3))), u10)) else (some ((u10 46 46), u10))) else (ci (fR_rowFault a1 u7) <| fun (r13 : Int) (u12 : WD) => some (r13, u12))) else (some ((-1), u4)))
set_option maxRecDepth 100000 in
set_option maxHeartbeats 4000000 in
theorem gR_dances (E : Nat × (Int → Int)) (d : Nat) {res : Int × WD} (a1 : Int) (a2 : Int) (w : WD) (h : fR_dances a1 a2 w = some res) : G E mR_dances (d + 4) 0 [(0, pR 46), (1, pI a1), (2, pI a2)] [] w RF NN 0 0 (some (pI res.1), res.2, RF, NN) := by
  unfold fR_dances at h
  refine g_iload_n (pc := 0) (j := 1) (dk d_mR_dances 0 rfl) rfl ?_
  refine h_callSi (d := d + 3) (pc := 1) (na := 1) (av := [pI a1]) ⟨rfl, rfl⟩ (dk d_mR_dances 1 rfl) lk_R_158 vm_mR_isShelf rfl rfl (Nat.le_of_ble_eq_true rfl) h (fun r2 u1 hq => kR_isShelf E (d + 1) hq) (fun r2 u1 hb3 h => ?_)
  refine h_if_eq (pc := 4) (tgt := 18) (dk d_mR_dances 2 rfl) rfl h (fun hc17 h => ?_) (fun hc17 h => ?_)
  · refine g_iconst (pc := 18) (dk d_mR_dances 8 rfl) (by decide) ?_
    exact h_iret (pc := 19) rfl (dk d_mR_dances 9 rfl) h
  · refine g_iload_n (pc := 7) (j := 2) (dk d_mR_dances 3 rfl) rfl ?_
    refine g_iconst (pc := 8) (dk d_mR_dances 4 rfl) (by decide) ?_
    refine g_sipush (pc := 9) (dk d_mR_dances 5 rfl) (by decide) ?_
    refine h_callSi (d := d + 3) (pc := 12) (na := 3) (av := [pI a2, pI 0, pI 999]) ⟨rfl, rfl⟩ (dk d_mR_dances 6 rfl) lk_R_140 vm_mR_in rfl rfl (Nat.le_of_ble_eq_true rfl) h (fun r5 u4 hq => kR_in E (d + 2) hq) (fun r5 u4 hb6 h => ?_)
    refine h_if_ne (pc := 15) (tgt := 20) (dk d_mR_dances 7 rfl) rfl h (fun hc16 h => ?_) (fun hc16 h => ?_)
    · refine g_aload_n (pc := 20) (j := 0) (dk d_mR_dances 10 rfl) rfl (by decide) ?_
      refine g_iload_n (pc := 21) (j := 1) (dk d_mR_dances 11 rfl) rfl ?_
      refine h_callVi (d := d + 3) (pc := 22) (na := 1) (av := [pI a1]) (k0 := 46) po_46 ⟨_, rfl⟩ ⟨rfl, rfl⟩ (dk d_mR_dances 12 rfl) lk_R_361 vm_mR_rowFault rfl rfl (Nat.le_of_ble_eq_true rfl) h (fun r8 u7 hq => kR_rowFault E (d + 2) hq) (fun r8 u7 hb9 h => ?_)
      refine h_if_ge (pc := 25) (tgt := 34) (dk d_mR_dances 13 rfl) rfl h (fun hc15 h => ?_) (fun hc15 h => ?_)
      · refine g_aload_n (pc := 34) (j := 0) (dk d_mR_dances 18 rfl) rfl (by decide) ?_
        refine g_iload_n (pc := 35) (j := 1) (dk d_mR_dances 19 rfl) rfl ?_
        refine h_callVv (d := d + 3) (pc := 36) (na := 1) (av := [pI a1]) (k0 := 46) po_46 ⟨_, rfl⟩ ⟨rfl, rfl⟩ (dk d_mR_dances 20 rfl) lk_R_382 vm_mR_layDances rfl rfl (Nat.le_of_ble_eq_true rfl) h (fun u10 hq => kR_layDances E (d + 0) hq) (fun u10 h => ?_)
        refine g_aload_n (pc := 39) (j := 0) (dk d_mR_dances 21 rfl) rfl (by decide) ?_
        refine g_getI (pc := 40) fp_R_379 po_46 (dk d_mR_dances 22 rfl) ?_
        refine g_iload_n (pc := 43) (j := 2) (dk d_mR_dances 23 rfl) rfl ?_
        refine g_aload_n (pc := 44) (j := 0) (dk d_mR_dances 24 rfl) rfl (by decide) ?_
        refine g_getR (pc := 45) (a := 52) rfl fp_R_27 po_46 (dk d_mR_dances 25 rfl) ?_
        refine g_iconst (pc := 48) (dk d_mR_dances 26 rfl) (by decide) ?_
        refine g_iald (pc := 49) pa_52 (dk d_mR_dances 27 rfl) (by decide) ?_
        refine h_idiv (pc := 50) (dk d_mR_dances 28 rfl) h (fun h => ?_)
        refine h_icmp_ge (pc := 51) (tgt := 61) (dk d_mR_dances 29 rfl) rfl h (fun hc11 h => ?_) (fun hc11 h => ?_)
        · refine g_iload_n (pc := 61) (j := 2) (dk d_mR_dances 33 rfl) rfl ?_
          refine g_aload_n (pc := 62) (j := 0) (dk d_mR_dances 34 rfl) rfl (by decide) ?_
          refine g_getR (pc := 63) (a := 52) rfl fp_R_27 po_46 (dk d_mR_dances 35 rfl) ?_
          refine g_iconst (pc := 66) (dk d_mR_dances 36 rfl) (by decide) ?_
          refine g_iald (pc := 67) pa_52 (dk d_mR_dances 37 rfl) (by decide) ?_
          refine h_idiv (pc := 68) (dk d_mR_dances 38 rfl) h (fun h => ?_)
          exact h_iret (pc := 69) rfl (dk d_mR_dances 39 rfl) h
        · refine g_aload_n (pc := 54) (j := 0) (dk d_mR_dances 30 rfl) rfl (by decide) ?_
          refine g_getI (pc := 55) fp_R_379 po_46 (dk d_mR_dances 31 rfl) ?_
          refine g_goto (pc := 58) (tgt := 69) (dk d_mR_dances 32 rfl) rfl ?_
          exact h_iret (pc := 69) rfl (dk d_mR_dances 39 rfl) h
      · refine g_aload_n (pc := 28) (j := 0) (dk d_mR_dances 14 rfl) rfl (by decide) ?_
        refine g_iload_n (pc := 29) (j := 1) (dk d_mR_dances 15 rfl) rfl ?_
        refine h_callVi (d := d + 3) (pc := 30) (na := 1) (av := [pI a1]) (k0 := 46) po_46 ⟨_, rfl⟩ ⟨rfl, rfl⟩ (dk d_mR_dances 16 rfl) lk_R_361 vm_mR_rowFault rfl rfl (Nat.le_of_ble_eq_true rfl) h (fun r13 u12 hq => kR_rowFault E (d + 2) hq) (fun r13 u12 hb14 h => ?_)
        exact h_iret (pc := 33) rfl (dk d_mR_dances 17 rfl) h
    · refine g_iconst (pc := 18) (dk d_mR_dances 8 rfl) (by decide) ?_
      exact h_iret (pc := 19) rfl (dk d_mR_dances 9 rfl) h
set_option maxRecDepth 100000 in
set_option maxHeartbeats 4000000 in
theorem kR_dances (E : Nat × (Int → Int)) (d : Nat) {a1 : Int} {a2 : Int} {w w1 : WD} {r : Int} (h : fR_dances a1 a2 w = some (r, w1)) : CTi E mR_dances (d + 4) [pR 46, pI a1, pI a2] w RF NN r w1 RF NN := by
  exact CTi_of (by decide +kernel) (Nat.le_of_ble_eq_true rfl) (Or.inl rfl) (gR_dances (res := (r, w1)) E d a1 a2 w h)
def fR_dancesOf_l4_b (rec : Int → Int → WD → Option (Int × WD)) (y1 : Int) (x2 : Int) (x3 : Int) (w : WD) : Option (Int × WD) := if (w 46 4) ≤ x3 then (some (x2, w)) else (ck (0 ≤ (w32 ((w32 (5 * y1)) + x3)) ∧ (w32 ((w32 (5 * y1)) + x3)) < 25) <| bv (w32 (x2 + (w 72 (w32 ((w32 (5 * y1)) + x3))))) <| fun (v2_1 : Int) => bv (w32 (x3 + 1)) <| fun (v3_2 : Int) => rec v2_1 v3_2 w)
def fR_dancesOf_l4 (y1 : Int) : Nat → Int → Int → WD → Option (Int × WD)
  | 0 => fun _ _ _ => none
  | k + 1 => fR_dancesOf_l4_b ( fR_dancesOf_l4 y1 k) y1
set_option maxRecDepth 100000 in
set_option maxHeartbeats 4000000 in
theorem fR_dancesOf_l4_b_ok (E : Nat × (Int → Int)) (d : Nat) {res : Int × WD} {rec : Int → Int → WD → Option (Int × WD)} (y1 : Int) (hrec : ∀ (x2 : Int) (x3 : Int) (w : WD), rec x2 x3 w = some res → G E mR_dancesOf (d + 1) 4 [(0, pR 46), (1, pI y1), (2, pI x2), (3, pI x3)] [] w RF NN 0 0 (some (pI res.1), res.2, RF, NN)) (x2 : Int) (x3 : Int) (w : WD) (h : fR_dancesOf_l4_b rec y1 x2 x3 w = some res) : G E mR_dancesOf (d + 1) 4 [(0, pR 46), (1, pI y1), (2, pI x2), (3, pI x3)] [] w RF NN 0 0 (some (pI res.1), res.2, RF, NN) := by
  unfold fR_dancesOf_l4_b at h
  refine g_iload_n (pc := 4) (j := 3) (dk d_mR_dancesOf 4 rfl) rfl ?_
  refine g_aload_n (pc := 5) (j := 0) (dk d_mR_dancesOf 5 rfl) rfl (by decide) ?_
  refine g_getI (pc := 6) fp_R_144 po_46 (dk d_mR_dancesOf 6 rfl) ?_
  refine h_icmp_ge (pc := 9) (tgt := 31) (dk d_mR_dancesOf 7 rfl) rfl h (fun hc3 h => ?_) (fun hc3 h => ?_)
  · refine g_iload_n (pc := 31) (j := 2) (dk d_mR_dancesOf 21 rfl) rfl ?_
    exact h_iret (pc := 32) rfl (dk d_mR_dancesOf 22 rfl) h
  · refine g_iload_n (pc := 12) (j := 2) (dk d_mR_dancesOf 8 rfl) rfl ?_
    refine g_aload_n (pc := 13) (j := 0) (dk d_mR_dancesOf 9 rfl) rfl (by decide) ?_
    refine g_getR (pc := 14) (a := 72) rfl fp_R_90 po_46 (dk d_mR_dancesOf 10 rfl) ?_
    refine g_iconst (pc := 17) (dk d_mR_dancesOf 11 rfl) (by decide) ?_
    refine g_iload_n (pc := 18) (j := 1) (dk d_mR_dancesOf 12 rfl) rfl ?_
    refine g_imul (pc := 19) (dk d_mR_dancesOf 13 rfl) ?_
    refine g_iload_n (pc := 20) (j := 3) (dk d_mR_dancesOf 14 rfl) rfl ?_
    refine g_iadd (pc := 21) (dk d_mR_dancesOf 15 rfl) ?_
    refine h_iald (pc := 22) (B := 25) pa_72 rfl (dk d_mR_dancesOf 16 rfl) h (fun h => ?_)
    refine g_iadd (pc := 23) (dk d_mR_dancesOf 17 rfl) ?_
    refine h_bvI h (fun v2_1 h => ?_)
    refine g_istore_n (pc := 24) (l' := [(2, pI v2_1), (0, pR 46), (1, pI y1), (3, pI x3)]) (dk d_mR_dancesOf 18 rfl) (Nat.le_of_ble_eq_true rfl) rfl ?_
    refine h_iinc (pc := 25) (j := 3) (dk d_mR_dancesOf 19 rfl) rfl (by decide) (Nat.le_of_ble_eq_true rfl) h (fun v3_2 h => ?_)
    refine g_loc (l' := [(3, pI v3_2), (2, pI v2_1), (0, pR 46), (1, pI y1)]) rfl ?_
    refine g_goto (pc := 28) (tgt := 4) (dk d_mR_dancesOf 20 rfl) rfl ?_
    refine g_pick [2, 3, 1, 0] rfl (l' := [(0, pR 46), (1, pI y1), (2, pI v2_1), (3, pI v3_2)]) rfl ?_
    exact hrec _ _ _ h
set_option maxRecDepth 100000 in
set_option maxHeartbeats 4000000 in
theorem fR_dancesOf_l4_ok (E : Nat × (Int → Int)) (d : Nat) {res : Int × WD} (y1 : Int) : ∀ (k : Nat) (x2 : Int) (x3 : Int) (w : WD), fR_dancesOf_l4 y1 k x2 x3 w = some res → G E mR_dancesOf (d + 1) 4 [(0, pR 46), (1, pI y1), (2, pI x2), (3, pI x3)] [] w RF NN 0 0 (some (pI res.1), res.2, RF, NN) := by
  intro k
  induction k with
  | zero =>
    intro x2 x3 w h
    exact no_e h
  | succ k ih =>
    intro x2 x3 w h
    exact fR_dancesOf_l4_b_ok E d y1 ih x2 x3 w h
def fR_dancesOf (a1 : Int) (w : WD) : Option (Int × WD) := fR_dancesOf_l4 a1 FU 0 0 w
set_option maxRecDepth 100000 in
set_option maxHeartbeats 4000000 in
theorem gR_dancesOf (E : Nat × (Int → Int)) (d : Nat) {res : Int × WD} (a1 : Int) (w : WD) (h : fR_dancesOf a1 w = some res) : G E mR_dancesOf (d + 1) 0 [(0, pR 46), (1, pI a1)] [] w RF NN 0 0 (some (pI res.1), res.2, RF, NN) := by
  unfold fR_dancesOf at h
  refine g_iconst (pc := 0) (dk d_mR_dancesOf 0 rfl) (by decide) ?_
  refine g_istore_n (pc := 1) (l' := [(2, pI 0), (0, pR 46), (1, pI a1)]) (dk d_mR_dancesOf 1 rfl) (Nat.le_of_ble_eq_true rfl) rfl ?_
  refine g_iconst (pc := 2) (dk d_mR_dancesOf 2 rfl) (by decide) ?_
  refine g_istore_n (pc := 3) (l' := [(3, pI 0), (2, pI 0), (0, pR 46), (1, pI a1)]) (dk d_mR_dancesOf 3 rfl) (Nat.le_of_ble_eq_true rfl) rfl ?_
  refine g_pick [2, 3, 1, 0] rfl (l' := [(0, pR 46), (1, pI a1), (2, pI 0), (3, pI 0)]) rfl ?_
  refine fR_dancesOf_l4_ok E d a1 FU _ _  _ h
set_option maxRecDepth 100000 in
set_option maxHeartbeats 4000000 in
theorem kR_dancesOf (E : Nat × (Int → Int)) (d : Nat) {a1 : Int} {w w1 : WD} {r : Int} (h : fR_dancesOf a1 w = some (r, w1)) : CTi E mR_dancesOf (d + 1) [pR 46, pI a1] w RF NN r w1 RF NN := by
  exact CTi_of (by decide +kernel) (Nat.le_of_ble_eq_true rfl) (Or.inl rfl) (gR_dancesOf (res := (r, w1)) E d a1 w h)
def fR_avoid_l53_b (rec : Int → WD → Option (Int × WD)) (y2 : Int) (y3 : Int) (K0 : WD → Option (Int × WD)) (K1 : Int → WD → Option (Int × WD)) (x4 : Int) (w : WD) : Option (Int × WD) := if (w 46 4) ≤ x4 then (K0 w) else (ck (0 ≤ (w32 ((w32 (5 * y3)) + x4)) ∧ (w32 ((w32 (5 * y3)) + x4)) < 25) <| jn (β := WD → Option (Int × WD)) (fun (u12 : WD) => bv (w32 (x4 + 1)) <| fun (v4_13 : Int) => rec v4_13 u12) <| fun J14 => if (w 72 (w32 ((w32 (5 * y3)) + x4))) ≠ 0 then (J14 w) else (ci (fR_dancesOf y3 w) <| fun (r16 : Int) (u15 : WD) => if r16 < y2 then (J14 u15) else (ci (fR_dancesOf x4 u15) <| fun (r19 : Int) (u18 : WD) => if r19 < y2 then (J14 u18) else (K1 x4 u18))))
def fR_avoid_l53 (y2 : Int) (y3 : Int) (K0 : WD → Option (Int × WD)) (K1 : Int → WD → Option (Int × WD)) : Nat → Int → WD → Option (Int × WD)
  | 0 => fun _ _ => none
  | k + 1 => fR_avoid_l53_b ( fR_avoid_l53 y2 y3 K0 K1 k) y2 y3 K0 K1
set_option maxRecDepth 100000 in
set_option maxHeartbeats 4000000 in
theorem fR_avoid_l53_b_ok (E : Nat × (Int → Int)) (d : Nat) {res : Int × WD} {rec : Int → WD → Option (Int × WD)} (y2 : Int) (y3 : Int) (K0 : WD → Option (Int × WD)) (K1 : Int → WD → Option (Int × WD)) (hrec : ∀ (x4 : Int) (w : WD), rec x4 w = some res → G E mR_avoid (d + 4) 53 [(0, pR 46), (2, pI y2), (3, pI y3), (4, pI x4)] [] w RF NN 0 0 (some (pI res.1), res.2, RF, NN)) (hK0 : ∀ (w : WD), K0 w = some res → G E mR_avoid (d + 4) 109 [(0, pR 46), (2, pI y2), (3, pI y3)] [] w RF NN 0 0 (some (pI res.1), res.2, RF, NN)) (hK1 : ∀ (x4 : Int) (w : WD), K1 x4 w = some res → G E mR_avoid (d + 4) 95 [(3, pI y3), (4, pI x4)] [] w RF NN 0 0 (some (pI res.1), res.2, RF, NN)) (x4 : Int) (w : WD) (h : fR_avoid_l53_b rec y2 y3 K0 K1 x4 w = some res) : G E mR_avoid (d + 4) 53 [(0, pR 46), (2, pI y2), (3, pI y3), (4, pI x4)] [] w RF NN 0 0 (some (pI res.1), res.2, RF, NN) := by
  unfold fR_avoid_l53_b at h
  refine g_iload (pc := 53) (j := 3) (dk d_mR_avoid 31 rfl) rfl ?_
  refine g_aload_n (pc := 55) (j := 0) (dk d_mR_avoid 32 rfl) rfl (by decide) ?_
  refine g_getI (pc := 56) fp_R_144 po_46 (dk d_mR_avoid 33 rfl) ?_
  refine h_icmp_ge (pc := 59) (tgt := 109) (dk d_mR_avoid 34 rfl) rfl h (fun hc24 h => ?_) (fun hc24 h => ?_)
  · refine g_pick [0, 1, 2] rfl (l' := [(0, pR 46), (2, pI y2), (3, pI y3)]) rfl ?_
    exact hK0 _ h
  · refine g_aload_n (pc := 62) (j := 0) (dk d_mR_avoid 35 rfl) rfl (by decide) ?_
    refine g_getR (pc := 63) (a := 72) rfl fp_R_90 po_46 (dk d_mR_avoid 36 rfl) ?_
    refine g_iconst (pc := 66) (dk d_mR_avoid 37 rfl) (by decide) ?_
    refine g_iload_n (pc := 67) (j := 2) (dk d_mR_avoid 38 rfl) rfl ?_
    refine g_imul (pc := 68) (dk d_mR_avoid 39 rfl) ?_
    refine g_iload (pc := 69) (j := 3) (dk d_mR_avoid 40 rfl) rfl ?_
    refine g_iadd (pc := 71) (dk d_mR_avoid 41 rfl) ?_
    refine h_iald (pc := 72) (B := 25) pa_72 rfl (dk d_mR_avoid 42 rfl) h (fun h => ?_)
    refine jn_e (fun J => ∀ (u12 : WD), J u12 = some res → G E mR_avoid (d + 4) 103 [(0, pR 46), (2, pI y2), (3, pI y3), (4, pI x4)] [] u12 RF NN 0 0 (some (pI res.1), res.2, RF, NN)) h (fun u12 h => ?_) (fun J14 hJ14 h => ?_)
    · refine h_iinc (pc := 103) (j := 3) (dk d_mR_avoid 60 rfl) rfl (by decide) (Nat.le_of_ble_eq_true rfl) h (fun v4_13 h => ?_)
      refine g_loc (l' := [(4, pI v4_13), (0, pR 46), (2, pI y2), (3, pI y3)]) rfl ?_
      refine g_goto (pc := 106) (tgt := 53) (dk d_mR_avoid 61 rfl) rfl ?_
      refine g_pick [1, 2, 3, 0] rfl (l' := [(0, pR 46), (2, pI y2), (3, pI y3), (4, pI v4_13)]) rfl ?_
      exact hrec _ _ h
    · refine h_if_ne (pc := 73) (tgt := 103) (dk d_mR_avoid 43 rfl) rfl h (fun hc23 h => ?_) (fun hc23 h => ?_)
      · exact hJ14 _ h
      · refine g_aload_n (pc := 76) (j := 0) (dk d_mR_avoid 44 rfl) rfl (by decide) ?_
        refine g_iload_n (pc := 77) (j := 2) (dk d_mR_avoid 45 rfl) rfl ?_
        refine h_callVi (d := d + 3) (pc := 78) (na := 1) (av := [pI y3]) (k0 := 46) po_46 ⟨_, rfl⟩ ⟨rfl, rfl⟩ (dk d_mR_avoid 46 rfl) lk_R_386 vm_mR_dancesOf rfl rfl (Nat.le_of_ble_eq_true rfl) h (fun r16 u15 hq => kR_dancesOf E (d + 2) hq) (fun r16 u15 hb17 h => ?_)
        refine g_iload_n (pc := 81) (j := 1) (dk d_mR_avoid 47 rfl) rfl ?_
        refine h_icmp_lt (pc := 82) (tgt := 103) (dk d_mR_avoid 48 rfl) rfl h (fun hc22 h => ?_) (fun hc22 h => ?_)
        · exact hJ14 _ h
        · refine g_aload_n (pc := 85) (j := 0) (dk d_mR_avoid 49 rfl) rfl (by decide) ?_
          refine g_iload (pc := 86) (j := 3) (dk d_mR_avoid 50 rfl) rfl ?_
          refine h_callVi (d := d + 3) (pc := 88) (na := 1) (av := [pI x4]) (k0 := 46) po_46 ⟨_, rfl⟩ ⟨rfl, rfl⟩ (dk d_mR_avoid 51 rfl) lk_R_386 vm_mR_dancesOf rfl rfl (Nat.le_of_ble_eq_true rfl) h (fun r19 u18 hq => kR_dancesOf E (d + 2) hq) (fun r19 u18 hb20 h => ?_)
          refine g_iload_n (pc := 91) (j := 1) (dk d_mR_avoid 52 rfl) rfl ?_
          refine h_icmp_lt (pc := 92) (tgt := 103) (dk d_mR_avoid 53 rfl) rfl h (fun hc21 h => ?_) (fun hc21 h => ?_)
          · exact hJ14 _ h
          · refine g_pick [2, 3] rfl (l' := [(3, pI y3), (4, pI x4)]) rfl ?_
            exact hK1 _ _ h
set_option maxRecDepth 100000 in
set_option maxHeartbeats 4000000 in
theorem fR_avoid_l53_ok (E : Nat × (Int → Int)) (d : Nat) {res : Int × WD} (y2 : Int) (y3 : Int) (K0 : WD → Option (Int × WD)) (K1 : Int → WD → Option (Int × WD)) (hK0 : ∀ (w : WD), K0 w = some res → G E mR_avoid (d + 4) 109 [(0, pR 46), (2, pI y2), (3, pI y3)] [] w RF NN 0 0 (some (pI res.1), res.2, RF, NN)) (hK1 : ∀ (x4 : Int) (w : WD), K1 x4 w = some res → G E mR_avoid (d + 4) 95 [(3, pI y3), (4, pI x4)] [] w RF NN 0 0 (some (pI res.1), res.2, RF, NN)) : ∀ (k : Nat) (x4 : Int) (w : WD), fR_avoid_l53 y2 y3 K0 K1 k x4 w = some res → G E mR_avoid (d + 4) 53 [(0, pR 46), (2, pI y2), (3, pI y3), (4, pI x4)] [] w RF NN 0 0 (some (pI res.1), res.2, RF, NN) := by
  intro k
  induction k with
  | zero =>
    intro x4 w h
    exact no_e h
  | succ k ih =>
    intro x4 w h
    exact fR_avoid_l53_b_ok E d y2 y3 K0 K1 ih hK0 hK1 x4 w h
def fR_avoid_l40_b (rec : Int → WD → Option (Int × WD)) (y2 : Int) (K0 : Int → Int → WD → Option (Int × WD)) (x3 : Int) (w : WD) : Option (Int × WD) := if (w 46 4) ≤ x3 then (some ((-2), w)) else (bv (w32 (x3 + 1)) <| fun (v4_11 : Int) => fR_avoid_l53 y2 x3 (fun (u25 : WD) => bv (w32 (x3 + 1)) <| fun (v3_26 : Int) => rec v3_26 u25) (fun (v4_27 : Int) (u28 : WD) => K0 x3 v4_27 u28) FU v4_11 w)
def fR_avoid_l40 (y2 : Int) (K0 : Int → Int → WD → Option (Int × WD)) : Nat → Int → WD → Option (Int × WD)
  | 0 => fun _ _ => none
  | k + 1 => fR_avoid_l40_b ( fR_avoid_l40 y2 K0 k) y2 K0
set_option maxRecDepth 100000 in
set_option maxHeartbeats 4000000 in
theorem fR_avoid_l40_b_ok (E : Nat × (Int → Int)) (d : Nat) {res : Int × WD} {rec : Int → WD → Option (Int × WD)} (y2 : Int) (K0 : Int → Int → WD → Option (Int × WD)) (hrec : ∀ (x3 : Int) (w : WD), rec x3 w = some res → G E mR_avoid (d + 4) 40 [(0, pR 46), (2, pI y2), (3, pI x3)] [] w RF NN 0 0 (some (pI res.1), res.2, RF, NN)) (hK0 : ∀ (x3 : Int) (x4 : Int) (w : WD), K0 x3 x4 w = some res → G E mR_avoid (d + 4) 95 [(3, pI x3), (4, pI x4)] [] w RF NN 0 0 (some (pI res.1), res.2, RF, NN)) (x3 : Int) (w : WD) (h : fR_avoid_l40_b rec y2 K0 x3 w = some res) : G E mR_avoid (d + 4) 40 [(0, pR 46), (2, pI y2), (3, pI x3)] [] w RF NN 0 0 (some (pI res.1), res.2, RF, NN) := by
  unfold fR_avoid_l40_b at h
  refine g_iload_n (pc := 40) (j := 2) (dk d_mR_avoid 23 rfl) rfl ?_
  refine g_aload_n (pc := 41) (j := 0) (dk d_mR_avoid 24 rfl) rfl (by decide) ?_
  refine g_getI (pc := 42) fp_R_144 po_46 (dk d_mR_avoid 25 rfl) ?_
  refine h_icmp_ge (pc := 45) (tgt := 115) (dk d_mR_avoid 26 rfl) rfl h (fun hc29 h => ?_) (fun hc29 h => ?_)
  · refine g_bipush (pc := 115) (dk d_mR_avoid 64 rfl) (by decide) ?_
    exact h_iret (pc := 117) rfl (dk d_mR_avoid 65 rfl) h
  · refine g_iload_n (pc := 48) (j := 2) (dk d_mR_avoid 27 rfl) rfl ?_
    refine g_iconst (pc := 49) (dk d_mR_avoid 28 rfl) (by decide) ?_
    refine g_iadd (pc := 50) (dk d_mR_avoid 29 rfl) ?_
    refine h_bvI h (fun v4_11 h => ?_)
    refine g_istore (pc := 51) (l' := [(4, pI v4_11), (0, pR 46), (2, pI y2), (3, pI x3)]) (dk d_mR_avoid 30 rfl) (Nat.le_of_ble_eq_true rfl) rfl ?_
    refine g_pick [1, 2, 3, 0] rfl (l' := [(0, pR 46), (2, pI y2), (3, pI x3), (4, pI v4_11)]) rfl ?_
    refine fR_avoid_l53_ok E d y2 x3 _ _  (fun u25 h => ?_) (fun v4_27 u28 h => ?_) FU _  _ h
    · refine h_iinc (pc := 109) (j := 2) (dk d_mR_avoid 62 rfl) rfl (by decide) (Nat.le_of_ble_eq_true rfl) h (fun v3_26 h => ?_)
      refine g_loc (l' := [(3, pI v3_26), (0, pR 46), (2, pI y2)]) rfl ?_
      refine g_goto (pc := 112) (tgt := 40) (dk d_mR_avoid 63 rfl) rfl ?_
      refine g_pick [1, 2, 0] rfl (l' := [(0, pR 46), (2, pI y2), (3, pI v3_26)]) rfl ?_
      exact hrec _ _ h
    · exact hK0 _ _ _ h
set_option maxRecDepth 100000 in
set_option maxHeartbeats 4000000 in
theorem fR_avoid_l40_ok (E : Nat × (Int → Int)) (d : Nat) {res : Int × WD} (y2 : Int) (K0 : Int → Int → WD → Option (Int × WD)) (hK0 : ∀ (x3 : Int) (x4 : Int) (w : WD), K0 x3 x4 w = some res → G E mR_avoid (d + 4) 95 [(3, pI x3), (4, pI x4)] [] w RF NN 0 0 (some (pI res.1), res.2, RF, NN)) : ∀ (k : Nat) (x3 : Int) (w : WD), fR_avoid_l40 y2 K0 k x3 w = some res → G E mR_avoid (d + 4) 40 [(0, pR 46), (2, pI y2), (3, pI x3)] [] w RF NN 0 0 (some (pI res.1), res.2, RF, NN) := by
  intro k
  induction k with
  | zero =>
    intro x3 w h
    exact no_e h
  | succ k ih =>
    intro x3 w h
    exact fR_avoid_l40_b_ok E d y2 K0 ih hK0 x3 w h
def fR_avoid (a1 : Int) (a2 : Int) (w : WD) : Option (Int × WD) := ci (fR_isShelf a1 w) <| fun (r2 : Int) (u1 : WD) => if r2 = 0 then (some ((-1), u1)) else (ci (fR_in a2 1 9 u1) <| fun (r5 : Int) (u4 : WD) => if r5 ≠ 0 then (ci (fR_rowFault a1 u4) <| fun (r8 : Int) (u7 : WD) => if 0 ≤ r8 then (cv (fR_layDances a1 u7) <| fun (u10 : WD) => fR_avoid_l40 a2 (fun (v3_30 : Int) (v4_31 : Int) (u32 : WD) => some ((w32 ((w32 (10 * v3_30)) + v4_31)), u32)) FU 0 u10) else (ci (fR_rowFault a1 u7) <| fun (r34 : Int) (u33 : WD) => some (r34, u33))) else (some ((-1), u4)))
set_option maxRecDepth 100000 in
set_option maxHeartbeats 4000000 in
theorem gR_avoid (E : Nat × (Int → Int)) (d : Nat) {res : Int × WD} (a1 : Int) (a2 : Int) (w : WD) (h : fR_avoid a1 a2 w = some res) : G E mR_avoid (d + 4) 0 [(0, pR 46), (1, pI a1), (2, pI a2)] [] w RF NN 0 0 (some (pI res.1), res.2, RF, NN) := by
  unfold fR_avoid at h
  refine g_iload_n (pc := 0) (j := 1) (dk d_mR_avoid 0 rfl) rfl ?_
  refine h_callSi (d := d + 3) (pc := 1) (na := 1) (av := [pI a1]) ⟨rfl, rfl⟩ (dk d_mR_avoid 1 rfl) lk_R_158 vm_mR_isShelf rfl rfl (Nat.le_of_ble_eq_true rfl) h (fun r2 u1 hq => kR_isShelf E (d + 1) hq) (fun r2 u1 hb3 h => ?_)
  refine h_if_eq (pc := 4) (tgt := 17) (dk d_mR_avoid 2 rfl) rfl h (fun hc38 h => ?_) (fun hc38 h => ?_)
  · refine g_iconst (pc := 17) (dk d_mR_avoid 8 rfl) (by decide) ?_
    exact h_iret (pc := 18) rfl (dk d_mR_avoid 9 rfl) h
  · refine g_iload_n (pc := 7) (j := 2) (dk d_mR_avoid 3 rfl) rfl ?_
    refine g_iconst (pc := 8) (dk d_mR_avoid 4 rfl) (by decide) ?_
    refine g_bipush (pc := 9) (dk d_mR_avoid 5 rfl) (by decide) ?_
    refine h_callSi (d := d + 3) (pc := 11) (na := 3) (av := [pI a2, pI 1, pI 9]) ⟨rfl, rfl⟩ (dk d_mR_avoid 6 rfl) lk_R_140 vm_mR_in rfl rfl (Nat.le_of_ble_eq_true rfl) h (fun r5 u4 hq => kR_in E (d + 2) hq) (fun r5 u4 hb6 h => ?_)
    refine h_if_ne (pc := 14) (tgt := 19) (dk d_mR_avoid 7 rfl) rfl h (fun hc37 h => ?_) (fun hc37 h => ?_)
    · refine g_aload_n (pc := 19) (j := 0) (dk d_mR_avoid 10 rfl) rfl (by decide) ?_
      refine g_iload_n (pc := 20) (j := 1) (dk d_mR_avoid 11 rfl) rfl ?_
      refine h_callVi (d := d + 3) (pc := 21) (na := 1) (av := [pI a1]) (k0 := 46) po_46 ⟨_, rfl⟩ ⟨rfl, rfl⟩ (dk d_mR_avoid 12 rfl) lk_R_361 vm_mR_rowFault rfl rfl (Nat.le_of_ble_eq_true rfl) h (fun r8 u7 hq => kR_rowFault E (d + 2) hq) (fun r8 u7 hb9 h => ?_)
      refine h_if_ge (pc := 24) (tgt := 33) (dk d_mR_avoid 13 rfl) rfl h (fun hc36 h => ?_) (fun hc36 h => ?_)
      · refine g_aload_n (pc := 33) (j := 0) (dk d_mR_avoid 18 rfl) rfl (by decide) ?_
        refine g_iload_n (pc := 34) (j := 1) (dk d_mR_avoid 19 rfl) rfl ?_
        refine h_callVv (d := d + 3) (pc := 35) (na := 1) (av := [pI a1]) (k0 := 46) po_46 ⟨_, rfl⟩ ⟨rfl, rfl⟩ (dk d_mR_avoid 20 rfl) lk_R_382 vm_mR_layDances rfl rfl (Nat.le_of_ble_eq_true rfl) h (fun u10 hq => kR_layDances E (d + 0) hq) (fun u10 h => ?_)
        refine g_iconst (pc := 38) (dk d_mR_avoid 21 rfl) (by decide) ?_
        refine g_istore_n (pc := 39) (l' := [(3, pI 0), (0, pR 46), (1, pI a1), (2, pI a2)]) (dk d_mR_avoid 22 rfl) (Nat.le_of_ble_eq_true rfl) rfl ?_
        refine g_pick [1, 3, 0] rfl (l' := [(0, pR 46), (2, pI a2), (3, pI 0)]) rfl ?_
        refine fR_avoid_l40_ok E d a2 _  (fun v3_30 v4_31 u32 h => ?_) FU _  _ h
        · refine g_bipush (pc := 95) (dk d_mR_avoid 54 rfl) (by decide) ?_
          refine g_iload_n (pc := 97) (j := 0) (dk d_mR_avoid 55 rfl) rfl ?_
          refine g_imul (pc := 98) (dk d_mR_avoid 56 rfl) ?_
          refine g_iload (pc := 99) (j := 1) (dk d_mR_avoid 57 rfl) rfl ?_
          refine g_iadd (pc := 101) (dk d_mR_avoid 58 rfl) ?_
          exact h_iret (pc := 102) rfl (dk d_mR_avoid 59 rfl) h
      · refine g_aload_n (pc := 27) (j := 0) (dk d_mR_avoid 14 rfl) rfl (by decide) ?_
        refine g_iload_n (pc := 28) (j := 1) (dk d_mR_avoid 15 rfl) rfl ?_
        refine h_callVi (d := d + 3) (pc := 29) (na := 1) (av := [pI a1]) (k0 := 46) po_46 ⟨_, rfl⟩ ⟨rfl, rfl⟩ (dk d_mR_avoid 16 rfl) lk_R_361 vm_mR_rowFault rfl rfl (Nat.le_of_ble_eq_true rfl) h (fun r34 u33 hq => kR_rowFault E (d + 2) hq) (fun r34 u33 hb35 h => ?_)
        exact h_iret (pc := 32) rfl (dk d_mR_avoid 17 rfl) h
    · refine g_iconst (pc := 17) (dk d_mR_avoid 8 rfl) (by decide) ?_
      exact h_iret (pc := 18) rfl (dk d_mR_avoid 9 rfl) h
set_option maxRecDepth 100000 in
set_option maxHeartbeats 4000000 in
theorem kR_avoid (E : Nat × (Int → Int)) (d : Nat) {a1 : Int} {a2 : Int} {w w1 : WD} {r : Int} (h : fR_avoid a1 a2 w = some (r, w1)) : CTi E mR_avoid (d + 4) [pR 46, pI a1, pI a2] w RF NN r w1 RF NN := by
  exact CTi_of (by decide +kernel) (Nat.le_of_ble_eq_true rfl) (Or.inl rfl) (gR_avoid (res := (r, w1)) E d a1 a2 w h)
def fR_favourite_l45_b (rec : Int → Int → Int → WD → Option (Int × WD)) (y2 : Int) (x3 : Int) (x4 : Int) (x5 : Int) (w : WD) : Option (Int × WD) := if (w 46 4) ≤ x5 then (some (x3, w)) else (ck (0 ≤ (w32 ((w32 (5 * y2)) + x5)) ∧ (w32 ((w32 (5 * y2)) + x5)) < 25) <| jn (β := Int → Int → WD → Option (Int × WD)) (fun (v3_11 : Int) (v4_12 : Int) (u13 : WD) => bv (w32 (x5 + 1)) <| fun (v5_14 : Int) => rec v3_11 v4_12 v5_14 u13) <| fun J15 => if x4 < (w 72 (w32 ((w32 (5 * y2)) + x5))) then (ck (0 ≤ (w32 ((w32 (5 * y2)) + x5)) ∧ (w32 ((w32 (5 * y2)) + x5)) < 25) <| bv (w 72 (w32 ((w32 (5 * y2)) + x5))) <| fun (v4_16 : Int) => J15 x5 v4_16 w) else (J15 x3 x4 w))
def fR_favourite_l45 (y2 : Int) : Nat → Int → Int → Int → WD → Option (Int × WD)
  | 0 => fun _ _ _ _ => none
  | k + 1 => fR_favourite_l45_b ( fR_favourite_l45 y2 k) y2
set_option maxRecDepth 100000 in
set_option maxHeartbeats 4000000 in
theorem fR_favourite_l45_b_ok (E : Nat × (Int → Int)) (d : Nat) {res : Int × WD} {rec : Int → Int → Int → WD → Option (Int × WD)} (y2 : Int) (hrec : ∀ (x3 : Int) (x4 : Int) (x5 : Int) (w : WD), rec x3 x4 x5 w = some res → G E mR_favourite (d + 4) 45 [(0, pR 46), (2, pI y2), (3, pI x3), (4, pI x4), (5, pI x5)] [] w RF NN 0 0 (some (pI res.1), res.2, RF, NN)) (x3 : Int) (x4 : Int) (x5 : Int) (w : WD) (h : fR_favourite_l45_b rec y2 x3 x4 x5 w = some res) : G E mR_favourite (d + 4) 45 [(0, pR 46), (2, pI y2), (3, pI x3), (4, pI x4), (5, pI x5)] [] w RF NN 0 0 (some (pI res.1), res.2, RF, NN) := by
  unfold fR_favourite_l45_b at h
  refine g_iload (pc := 45) (j := 4) (dk d_mR_favourite 26 rfl) rfl ?_
  refine g_aload_n (pc := 47) (j := 0) (dk d_mR_favourite 27 rfl) rfl (by decide) ?_
  refine g_getI (pc := 48) fp_R_144 po_46 (dk d_mR_favourite 28 rfl) ?_
  refine h_icmp_ge (pc := 51) (tgt := 95) (dk d_mR_favourite 29 rfl) rfl h (fun hc18 h => ?_) (fun hc18 h => ?_)
  · refine g_iload_n (pc := 95) (j := 2) (dk d_mR_favourite 54 rfl) rfl ?_
    exact h_iret (pc := 96) rfl (dk d_mR_favourite 55 rfl) h
  · refine g_aload_n (pc := 54) (j := 0) (dk d_mR_favourite 30 rfl) rfl (by decide) ?_
    refine g_getR (pc := 55) (a := 72) rfl fp_R_90 po_46 (dk d_mR_favourite 31 rfl) ?_
    refine g_iconst (pc := 58) (dk d_mR_favourite 32 rfl) (by decide) ?_
    refine g_iload_n (pc := 59) (j := 1) (dk d_mR_favourite 33 rfl) rfl ?_
    refine g_imul (pc := 60) (dk d_mR_favourite 34 rfl) ?_
    refine g_iload (pc := 61) (j := 4) (dk d_mR_favourite 35 rfl) rfl ?_
    refine g_iadd (pc := 63) (dk d_mR_favourite 36 rfl) ?_
    refine h_iald (pc := 64) (B := 25) pa_72 rfl (dk d_mR_favourite 37 rfl) h (fun h => ?_)
    refine g_iload (pc := 65) (j := 3) (dk d_mR_favourite 38 rfl) rfl ?_
    refine jn_e (fun J => ∀ (v3_11 : Int) (v4_12 : Int) (u13 : WD), J v3_11 v4_12 u13 = some res → G E mR_favourite (d + 4) 89 [(0, pR 46), (2, pI y2), (3, pI v3_11), (4, pI v4_12), (5, pI x5)] [] u13 RF NN 0 0 (some (pI res.1), res.2, RF, NN)) h (fun v3_11 v4_12 u13 h => ?_) (fun J15 hJ15 h => ?_)
    · refine h_iinc (pc := 89) (j := 4) (dk d_mR_favourite 52 rfl) rfl (by decide) (Nat.le_of_ble_eq_true rfl) h (fun v5_14 h => ?_)
      refine g_loc (l' := [(5, pI v5_14), (0, pR 46), (2, pI y2), (3, pI v3_11), (4, pI v4_12)]) rfl ?_
      refine g_goto (pc := 92) (tgt := 45) (dk d_mR_favourite 53 rfl) rfl ?_
      refine g_pick [1, 2, 3, 4, 0] rfl (l' := [(0, pR 46), (2, pI y2), (3, pI v3_11), (4, pI v4_12), (5, pI v5_14)]) rfl ?_
      exact hrec _ _ _ _ h
    · refine h_icmp_gt (pc := 67) (tgt := 73) (dk d_mR_favourite 39 rfl) rfl h (fun hc17 h => ?_) (fun hc17 h => ?_)
      · refine g_iload (pc := 73) (j := 4) (dk d_mR_favourite 41 rfl) rfl ?_
        refine g_istore_n (pc := 75) (l' := [(3, pI x5), (0, pR 46), (2, pI y2), (4, pI x4), (5, pI x5)]) (dk d_mR_favourite 42 rfl) (Nat.le_of_ble_eq_true rfl) rfl ?_
        refine g_aload_n (pc := 76) (j := 1) (dk d_mR_favourite 43 rfl) rfl (by decide) ?_
        refine g_getR (pc := 77) (a := 72) rfl fp_R_90 po_46 (dk d_mR_favourite 44 rfl) ?_
        refine g_iconst (pc := 80) (dk d_mR_favourite 45 rfl) (by decide) ?_
        refine g_iload_n (pc := 81) (j := 2) (dk d_mR_favourite 46 rfl) rfl ?_
        refine g_imul (pc := 82) (dk d_mR_favourite 47 rfl) ?_
        refine g_iload (pc := 83) (j := 4) (dk d_mR_favourite 48 rfl) rfl ?_
        refine g_iadd (pc := 85) (dk d_mR_favourite 49 rfl) ?_
        refine h_iald (pc := 86) (B := 25) pa_72 rfl (dk d_mR_favourite 50 rfl) h (fun h => ?_)
        refine h_bvI h (fun v4_16 h => ?_)
        refine g_istore (pc := 87) (l' := [(4, pI v4_16), (3, pI x5), (0, pR 46), (2, pI y2), (5, pI x5)]) (dk d_mR_favourite 51 rfl) (Nat.le_of_ble_eq_true rfl) rfl ?_
        refine g_pick [2, 3, 1, 0, 4] rfl (l' := [(0, pR 46), (2, pI y2), (3, pI x5), (4, pI v4_16), (5, pI x5)]) rfl ?_
        exact hJ15 _ _ _ h
      · refine g_goto (pc := 70) (tgt := 89) (dk d_mR_favourite 40 rfl) rfl ?_
        exact hJ15 _ _ _ h
set_option maxRecDepth 100000 in
set_option maxHeartbeats 4000000 in
theorem fR_favourite_l45_ok (E : Nat × (Int → Int)) (d : Nat) {res : Int × WD} (y2 : Int) : ∀ (k : Nat) (x3 : Int) (x4 : Int) (x5 : Int) (w : WD), fR_favourite_l45 y2 k x3 x4 x5 w = some res → G E mR_favourite (d + 4) 45 [(0, pR 46), (2, pI y2), (3, pI x3), (4, pI x4), (5, pI x5)] [] w RF NN 0 0 (some (pI res.1), res.2, RF, NN) := by
  intro k
  induction k with
  | zero =>
    intro x3 x4 x5 w h
    exact no_e h
  | succ k ih =>
    intro x3 x4 x5 w h
    exact fR_favourite_l45_b_ok E d y2 ih x3 x4 x5 w h
def fR_favourite (a1 : Int) (a2 : Int) (w : WD) : Option (Int × WD) := ci (fR_isShelf a1 w) <| fun (r2 : Int) (u1 : WD) => if r2 = 0 then (some ((-1), u1)) else (ci (fR_isMask a2 u1) <| fun (r5 : Int) (u4 : WD) => if r5 ≠ 0 then (ci (fR_rowFault a1 u4) <| fun (r8 : Int) (u7 : WD) => if 0 ≤ r8 then (cv (fR_layDances a1 u7) <| fun (u10 : WD) => fR_favourite_l45 a2 FU (-2) 0 0 u10) else (ci (fR_rowFault a1 u7) <| fun (r20 : Int) (u19 : WD) => some (r20, u19))) else (some ((-1), u4)))
set_option maxRecDepth 100000 in
set_option maxHeartbeats 4000000 in
theorem gR_favourite (E : Nat × (Int → Int)) (d : Nat) {res : Int × WD} (a1 : Int) (a2 : Int) (w : WD) (h : fR_favourite a1 a2 w = some res) : G E mR_favourite (d + 4) 0 [(0, pR 46), (1, pI a1), (2, pI a2)] [] w RF NN 0 0 (some (pI res.1), res.2, RF, NN) := by
  unfold fR_favourite at h
  refine g_iload_n (pc := 0) (j := 1) (dk d_mR_favourite 0 rfl) rfl ?_
  refine h_callSi (d := d + 3) (pc := 1) (na := 1) (av := [pI a1]) ⟨rfl, rfl⟩ (dk d_mR_favourite 1 rfl) lk_R_158 vm_mR_isShelf rfl rfl (Nat.le_of_ble_eq_true rfl) h (fun r2 u1 hq => kR_isShelf E (d + 1) hq) (fun r2 u1 hb3 h => ?_)
  refine h_if_eq (pc := 4) (tgt := 15) (dk d_mR_favourite 2 rfl) rfl h (fun hc24 h => ?_) (fun hc24 h => ?_)
  · refine g_iconst (pc := 15) (dk d_mR_favourite 7 rfl) (by decide) ?_
    exact h_iret (pc := 16) rfl (dk d_mR_favourite 8 rfl) h
  · refine g_aload_n (pc := 7) (j := 0) (dk d_mR_favourite 3 rfl) rfl (by decide) ?_
    refine g_iload_n (pc := 8) (j := 2) (dk d_mR_favourite 4 rfl) rfl ?_
    refine h_callVi (d := d + 3) (pc := 9) (na := 1) (av := [pI a2]) (k0 := 46) po_46 ⟨_, rfl⟩ ⟨rfl, rfl⟩ (dk d_mR_favourite 5 rfl) lk_R_177 vm_mR_isMask rfl rfl (Nat.le_of_ble_eq_true rfl) h (fun r5 u4 hq => kR_isMask E (d + 1) hq) (fun r5 u4 hb6 h => ?_)
    refine h_if_ne (pc := 12) (tgt := 17) (dk d_mR_favourite 6 rfl) rfl h (fun hc23 h => ?_) (fun hc23 h => ?_)
    · refine g_aload_n (pc := 17) (j := 0) (dk d_mR_favourite 9 rfl) rfl (by decide) ?_
      refine g_iload_n (pc := 18) (j := 1) (dk d_mR_favourite 10 rfl) rfl ?_
      refine h_callVi (d := d + 3) (pc := 19) (na := 1) (av := [pI a1]) (k0 := 46) po_46 ⟨_, rfl⟩ ⟨rfl, rfl⟩ (dk d_mR_favourite 11 rfl) lk_R_361 vm_mR_rowFault rfl rfl (Nat.le_of_ble_eq_true rfl) h (fun r8 u7 hq => kR_rowFault E (d + 2) hq) (fun r8 u7 hb9 h => ?_)
      refine h_if_ge (pc := 22) (tgt := 31) (dk d_mR_favourite 12 rfl) rfl h (fun hc22 h => ?_) (fun hc22 h => ?_)
      · refine g_aload_n (pc := 31) (j := 0) (dk d_mR_favourite 17 rfl) rfl (by decide) ?_
        refine g_iload_n (pc := 32) (j := 1) (dk d_mR_favourite 18 rfl) rfl ?_
        refine h_callVv (d := d + 3) (pc := 33) (na := 1) (av := [pI a1]) (k0 := 46) po_46 ⟨_, rfl⟩ ⟨rfl, rfl⟩ (dk d_mR_favourite 19 rfl) lk_R_382 vm_mR_layDances rfl rfl (Nat.le_of_ble_eq_true rfl) h (fun u10 hq => kR_layDances E (d + 0) hq) (fun u10 h => ?_)
        refine g_bipush (pc := 36) (dk d_mR_favourite 20 rfl) (by decide) ?_
        refine g_istore_n (pc := 38) (l' := [(3, pI (-2)), (0, pR 46), (1, pI a1), (2, pI a2)]) (dk d_mR_favourite 21 rfl) (Nat.le_of_ble_eq_true rfl) rfl ?_
        refine g_iconst (pc := 39) (dk d_mR_favourite 22 rfl) (by decide) ?_
        refine g_istore (pc := 40) (l' := [(4, pI 0), (3, pI (-2)), (0, pR 46), (1, pI a1), (2, pI a2)]) (dk d_mR_favourite 23 rfl) (Nat.le_of_ble_eq_true rfl) rfl ?_
        refine g_iconst (pc := 42) (dk d_mR_favourite 24 rfl) (by decide) ?_
        refine g_istore (pc := 43) (l' := [(5, pI 0), (4, pI 0), (3, pI (-2)), (0, pR 46), (1, pI a1), (2, pI a2)]) (dk d_mR_favourite 25 rfl) (Nat.le_of_ble_eq_true rfl) rfl ?_
        refine g_pick [3, 5, 2, 1, 0] rfl (l' := [(0, pR 46), (2, pI a2), (3, pI (-2)), (4, pI 0), (5, pI 0)]) rfl ?_
        refine fR_favourite_l45_ok E d a2 FU _ _ _  _ h
      · refine g_aload_n (pc := 25) (j := 0) (dk d_mR_favourite 13 rfl) rfl (by decide) ?_
        refine g_iload_n (pc := 26) (j := 1) (dk d_mR_favourite 14 rfl) rfl ?_
        refine h_callVi (d := d + 3) (pc := 27) (na := 1) (av := [pI a1]) (k0 := 46) po_46 ⟨_, rfl⟩ ⟨rfl, rfl⟩ (dk d_mR_favourite 15 rfl) lk_R_361 vm_mR_rowFault rfl rfl (Nat.le_of_ble_eq_true rfl) h (fun r20 u19 hq => kR_rowFault E (d + 2) hq) (fun r20 u19 hb21 h => ?_)
        exact h_iret (pc := 30) rfl (dk d_mR_favourite 16 rfl) h
    · refine g_iconst (pc := 15) (dk d_mR_favourite 7 rfl) (by decide) ?_
      exact h_iret (pc := 16) rfl (dk d_mR_favourite 8 rfl) h
set_option maxRecDepth 100000 in
set_option maxHeartbeats 4000000 in
theorem kR_favourite (E : Nat × (Int → Int)) (d : Nat) {a1 : Int} {a2 : Int} {w w1 : WD} {r : Int} (h : fR_favourite a1 a2 w = some (r, w1)) : CTi E mR_favourite (d + 4) [pR 46, pI a1, pI a2] w RF NN r w1 RF NN := by
  exact CTi_of (by decide +kernel) (Nat.le_of_ble_eq_true rfl) (Or.inl rfl) (gR_favourite (res := (r, w1)) E d a1 a2 w h)
def fR_bitAt_l4_b (rec : Int → Int → WD → Option (Int × WD)) (y0 : Int) (x2 : Int) (x3 : Int) (w : WD) : Option (Int × WD) := if 6 ≤ x3 then (some (6, w)) else (jn (β := Int → WD → Option (Int × WD)) (fun (v2_1 : Int) (u2 : WD) => bv (w32 (x3 + 1)) <| fun (v3_3 : Int) => rec v2_1 v3_3 u2) <| fun J4 => if (bAnd (bShr y0 x3) 1) ≠ 0 then (if x2 ≠ 0 then (bv (w32 (x2 + (-1))) <| fun (v2_5 : Int) => J4 v2_5 w) else (some (x3, w))) else (J4 x2 w))
def fR_bitAt_l4 (y0 : Int) : Nat → Int → Int → WD → Option (Int × WD)
  | 0 => fun _ _ _ => none
  | k + 1 => fR_bitAt_l4_b ( fR_bitAt_l4 y0 k) y0
set_option maxRecDepth 100000 in
set_option maxHeartbeats 4000000 in
theorem fR_bitAt_l4_b_ok (E : Nat × (Int → Int)) (d : Nat) {res : Int × WD} {rec : Int → Int → WD → Option (Int × WD)} (y0 : Int) (hrec : ∀ (x2 : Int) (x3 : Int) (w : WD), rec x2 x3 w = some res → G E mR_bitAt (d + 1) 4 [(0, pI y0), (2, pI x2), (3, pI x3)] [] w RF NN 0 0 (some (pI res.1), res.2, RF, NN)) (x2 : Int) (x3 : Int) (w : WD) (h : fR_bitAt_l4_b rec y0 x2 x3 w = some res) : G E mR_bitAt (d + 1) 4 [(0, pI y0), (2, pI x2), (3, pI x3)] [] w RF NN 0 0 (some (pI res.1), res.2, RF, NN) := by
  unfold fR_bitAt_l4_b at h
  refine g_iload_n (pc := 4) (j := 2) (dk d_mR_bitAt 4 rfl) rfl ?_
  refine g_bipush (pc := 5) (dk d_mR_bitAt 5 rfl) (by decide) ?_
  refine h_icmp_ge (pc := 7) (tgt := 36) (dk d_mR_bitAt 6 rfl) rfl h (fun hc8 h => ?_) (fun hc8 h => ?_)
  · refine g_bipush (pc := 36) (dk d_mR_bitAt 21 rfl) (by decide) ?_
    exact h_iret (pc := 38) rfl (dk d_mR_bitAt 22 rfl) h
  · refine g_iload_n (pc := 10) (j := 0) (dk d_mR_bitAt 7 rfl) rfl ?_
    refine g_iload_n (pc := 11) (j := 2) (dk d_mR_bitAt 8 rfl) rfl ?_
    refine g_ishr (pc := 12) (dk d_mR_bitAt 9 rfl) ?_
    refine g_iconst (pc := 13) (dk d_mR_bitAt 10 rfl) (by decide) ?_
    refine g_iand (pc := 14) (dk d_mR_bitAt 11 rfl) ?_
    refine jn_e (fun J => ∀ (v2_1 : Int) (u2 : WD), J v2_1 u2 = some res → G E mR_bitAt (d + 1) 30 [(0, pI y0), (2, pI v2_1), (3, pI x3)] [] u2 RF NN 0 0 (some (pI res.1), res.2, RF, NN)) h (fun v2_1 u2 h => ?_) (fun J4 hJ4 h => ?_)
    · refine h_iinc (pc := 30) (j := 2) (dk d_mR_bitAt 19 rfl) rfl (by decide) (Nat.le_of_ble_eq_true rfl) h (fun v3_3 h => ?_)
      refine g_loc (l' := [(3, pI v3_3), (0, pI y0), (2, pI v2_1)]) rfl ?_
      refine g_goto (pc := 33) (tgt := 4) (dk d_mR_bitAt 20 rfl) rfl ?_
      refine g_pick [1, 2, 0] rfl (l' := [(0, pI y0), (2, pI v2_1), (3, pI v3_3)]) rfl ?_
      exact hrec _ _ _ h
    · refine h_if_ne (pc := 15) (tgt := 21) (dk d_mR_bitAt 12 rfl) rfl h (fun hc7 h => ?_) (fun hc7 h => ?_)
      · refine g_iload_n (pc := 21) (j := 1) (dk d_mR_bitAt 14 rfl) rfl ?_
        refine h_if_ne (pc := 22) (tgt := 27) (dk d_mR_bitAt 15 rfl) rfl h (fun hc6 h => ?_) (fun hc6 h => ?_)
        · refine h_iinc (pc := 27) (j := 1) (dk d_mR_bitAt 18 rfl) rfl (by decide) (Nat.le_of_ble_eq_true rfl) h (fun v2_5 h => ?_)
          refine g_loc (l' := [(2, pI v2_5), (0, pI y0), (3, pI x3)]) rfl ?_
          refine g_pick [1, 0, 2] rfl (l' := [(0, pI y0), (2, pI v2_5), (3, pI x3)]) rfl ?_
          exact hJ4 _ _ h
        · refine g_iload_n (pc := 25) (j := 2) (dk d_mR_bitAt 16 rfl) rfl ?_
          exact h_iret (pc := 26) rfl (dk d_mR_bitAt 17 rfl) h
      · refine g_goto (pc := 18) (tgt := 30) (dk d_mR_bitAt 13 rfl) rfl ?_
        exact hJ4 _ _ h
set_option maxRecDepth 100000 in
set_option maxHeartbeats 4000000 in
theorem fR_bitAt_l4_ok (E : Nat × (Int → Int)) (d : Nat) {res : Int × WD} (y0 : Int) : ∀ (k : Nat) (x2 : Int) (x3 : Int) (w : WD), fR_bitAt_l4 y0 k x2 x3 w = some res → G E mR_bitAt (d + 1) 4 [(0, pI y0), (2, pI x2), (3, pI x3)] [] w RF NN 0 0 (some (pI res.1), res.2, RF, NN) := by
  intro k
  induction k with
  | zero =>
    intro x2 x3 w h
    exact no_e h
  | succ k ih =>
    intro x2 x3 w h
    exact fR_bitAt_l4_b_ok E d y0 ih x2 x3 w h
def fR_bitAt (a0 : Int) (a1 : Int) (w : WD) : Option (Int × WD) := fR_bitAt_l4 a0 FU a1 0 w
set_option maxRecDepth 100000 in
set_option maxHeartbeats 4000000 in
theorem gR_bitAt (E : Nat × (Int → Int)) (d : Nat) {res : Int × WD} (a0 : Int) (a1 : Int) (w : WD) (h : fR_bitAt a0 a1 w = some res) : G E mR_bitAt (d + 1) 0 [(0, pI a0), (1, pI a1)] [] w RF NN 0 0 (some (pI res.1), res.2, RF, NN) := by
  unfold fR_bitAt at h
  refine g_iload_n (pc := 0) (j := 1) (dk d_mR_bitAt 0 rfl) rfl ?_
  refine g_istore_n (pc := 1) (l' := [(2, pI a1), (0, pI a0), (1, pI a1)]) (dk d_mR_bitAt 1 rfl) (Nat.le_of_ble_eq_true rfl) rfl ?_
  refine g_iconst (pc := 2) (dk d_mR_bitAt 2 rfl) (by decide) ?_
  refine g_istore_n (pc := 3) (l' := [(3, pI 0), (2, pI a1), (0, pI a0), (1, pI a1)]) (dk d_mR_bitAt 3 rfl) (Nat.le_of_ble_eq_true rfl) rfl ?_
  refine g_pick [2, 1, 0] rfl (l' := [(0, pI a0), (2, pI a1), (3, pI 0)]) rfl ?_
  refine fR_bitAt_l4_ok E d a0 FU _ _  _ h
set_option maxRecDepth 100000 in
set_option maxHeartbeats 4000000 in
theorem kR_bitAt (E : Nat × (Int → Int)) (d : Nat) {a0 : Int} {a1 : Int} {w w1 : WD} {r : Int} (h : fR_bitAt a0 a1 w = some (r, w1)) : CTi E mR_bitAt (d + 1) [pI a0, pI a1] w RF NN r w1 RF NN := by
  exact CTi_of (by decide +kernel) (Nat.le_of_ble_eq_true rfl) (Or.inl rfl) (gR_bitAt (res := (r, w1)) E d a0 a1 w h)
def fR_drawn_l82_b (rec : Int → Int → Int → Int → Int → WD → Option (Int × WD)) (y2 : Int) (y3 : Int) (y4 : Int) (y8 : Int) (K0 : Int → Int → Int → WD → Option (Int × WD)) (x5 : Int) (x6 : Int) (x7 : Int) (x9 : Int) (x10 : Int) (w : WD) : Option (Int × WD) := if (w 46 4) ≤ x10 then (K0 x5 x6 x7 w) else (bv (w32 ((w32 (x5 * 1103515245)) + 12345)) <| fun (v5_10 : Int) => jn (β := Int → WD → Option (Int × WD)) (fun (s11 : Int) (u12 : WD) => jn (β := Int → WD → Option (Int × WD)) (fun (v9_13 : Int) (u14 : WD) => ci (fR_guessNow x10 u14) <| fun (r16 : Int) (u15 : WD) => jn (β := Int → WD → Option (Int × WD)) (fun (v6_18 : Int) (u19 : WD) => jn (β := Int → WD → Option (Int × WD)) (fun (v7_20 : Int) (u21 : WD) => bv (w32 (x10 + 1)) <| fun (v10_22 : Int) => rec v5_10 v6_18 v7_20 v9_13 v10_22 u21) <| fun J23 => if x10 ≠ y4 then (J23 x7 u19) else (if (u19 46 31) ≤ 0 then (J23 x7 u19) else (ck (0 ≤ x10 ∧ x10 < 5) <| if (u19 67 x10) ≠ s11 then (J23 x7 u19) else (bv (w32 (x7 + 1)) <| fun (v7_24 : Int) => J23 v7_24 u19)))) <| fun J28 => if s11 ≠ r16 then (J28 x6 u15) else (ci (fR_pointsAt (Int.tmod y2 1000) u15) <| fun (r30 : Int) (u29 : WD) => bv (w32 (x6 + r30)) <| fun (v6_32 : Int) => J28 v6_32 u29)) <| fun J34 => if 6 ≤ s11 then (J34 x9 u12) else (bv (bAnd x9 (bXor (bShl 1 s11) (-1))) <| fun (v9_35 : Int) => J34 v9_35 u12)) <| fun J37 => if x9 ≠ 0 then (ci (fR_bitsOf x9 w) <| fun (r39 : Int) (u38 : WD) => ck (r39 ≠ 0) <| ci (fR_bitAt x9 (Int.tmod (bUshr v5_10 8) r39) u38) <| fun (r42 : Int) (u41 : WD) => J37 r42 u41) else (J37 6 w))
def fR_drawn_l82 (y2 : Int) (y3 : Int) (y4 : Int) (y8 : Int) (K0 : Int → Int → Int → WD → Option (Int × WD)) : Nat → Int → Int → Int → Int → Int → WD → Option (Int × WD)
  | 0 => fun _ _ _ _ _ _ => none
  | k + 1 => fR_drawn_l82_b ( fR_drawn_l82 y2 y3 y4 y8 K0 k) y2 y3 y4 y8 K0
set_option maxRecDepth 100000 in
set_option maxHeartbeats 4000000 in
theorem fR_drawn_l82_b_ok (E : Nat × (Int → Int)) (d : Nat) {res : Int × WD} {rec : Int → Int → Int → Int → Int → WD → Option (Int × WD)} (y2 : Int) (y3 : Int) (y4 : Int) (y8 : Int) (K0 : Int → Int → Int → WD → Option (Int × WD)) (hrec : ∀ (x5 : Int) (x6 : Int) (x7 : Int) (x9 : Int) (x10 : Int) (w : WD), rec x5 x6 x7 x9 x10 w = some res → G E mR_drawn (d + 204) 82 [(0, pR 46), (2, pI y2), (3, pI y3), (4, pI y4), (5, pI x5), (6, pI x6), (7, pI x7), (8, pI y8), (9, pI x9), (10, pI x10)] [] w RF NN 0 0 (some (pI res.1), res.2, RF, NN)) (hK0 : ∀ (x5 : Int) (x6 : Int) (x7 : Int) (w : WD), K0 x5 x6 x7 w = some res → G E mR_drawn (d + 204) 211 [(0, pR 46), (2, pI y2), (3, pI y3), (4, pI y4), (5, pI x5), (6, pI x6), (7, pI x7), (8, pI y8)] [] w RF NN 0 0 (some (pI res.1), res.2, RF, NN)) (x5 : Int) (x6 : Int) (x7 : Int) (x9 : Int) (x10 : Int) (w : WD) (h : fR_drawn_l82_b rec y2 y3 y4 y8 K0 x5 x6 x7 x9 x10 w = some res) : G E mR_drawn (d + 204) 82 [(0, pR 46), (2, pI y2), (3, pI y3), (4, pI y4), (5, pI x5), (6, pI x6), (7, pI x7), (8, pI y8), (9, pI x9), (10, pI x10)] [] w RF NN 0 0 (some (pI res.1), res.2, RF, NN) := by
  unfold fR_drawn_l82_b at h
  refine g_iload (pc := 82) (j := 9) (dk d_mR_drawn 47 rfl) rfl ?_
  refine g_aload_n (pc := 84) (j := 0) (dk d_mR_drawn 48 rfl) rfl (by decide) ?_
  refine g_getI (pc := 85) fp_R_144 po_46 (dk d_mR_drawn 49 rfl) ?_
  refine h_icmp_ge (pc := 88) (tgt := 211) (dk d_mR_drawn 50 rfl) rfl h (fun hc45 h => ?_) (fun hc45 h => ?_)
  · refine g_pick [0, 1, 2, 3, 4, 5, 6, 7] rfl (l' := [(0, pR 46), (2, pI y2), (3, pI y3), (4, pI y4), (5, pI x5), (6, pI x6), (7, pI x7), (8, pI y8)]) rfl ?_
    exact hK0 _ _ _ _ h
  · refine g_iload (pc := 91) (j := 4) (dk d_mR_drawn 51 rfl) rfl ?_
    refine g_ldc_w (pc := 93) (u := 1103515245) ck_R_389 (by decide) (dk d_mR_drawn 52 rfl) ?_
    refine g_imul (pc := 96) (dk d_mR_drawn 53 rfl) ?_
    refine g_sipush (pc := 97) (dk d_mR_drawn 54 rfl) (by decide) ?_
    refine g_iadd (pc := 100) (dk d_mR_drawn 55 rfl) ?_
    refine h_bvI h (fun v5_10 h => ?_)
    refine g_istore (pc := 101) (l' := [(5, pI v5_10), (0, pR 46), (2, pI y2), (3, pI y3), (4, pI y4), (6, pI x6), (7, pI x7), (8, pI y8), (9, pI x9), (10, pI x10)]) (dk d_mR_drawn 56 rfl) (Nat.le_of_ble_eq_true rfl) rfl ?_
    refine g_iload (pc := 103) (j := 8) (dk d_mR_drawn 57 rfl) rfl ?_
    refine jn_e (fun J => ∀ (s11 : Int) (u12 : WD), J s11 u12 = some res → G E mR_drawn (d + 204) 129 [(0, pR 46), (2, pI y2), (3, pI y3), (4, pI y4), (5, pI v5_10), (6, pI x6), (7, pI x7), (8, pI y8), (9, pI x9), (10, pI x10)] [pI s11] u12 RF NN 0 0 (some (pI res.1), res.2, RF, NN)) h (fun s11 u12 h => ?_) (fun J37 hJ37 h => ?_)
    · refine g_istore (pc := 129) (l' := [(11, pI s11), (0, pR 46), (2, pI y2), (3, pI y3), (4, pI y4), (5, pI v5_10), (6, pI x6), (7, pI x7), (8, pI y8), (9, pI x9), (10, pI x10)]) (dk d_mR_drawn 69 rfl) (Nat.le_of_ble_eq_true rfl) rfl ?_
      refine g_iload (pc := 131) (j := 0) (dk d_mR_drawn 70 rfl) rfl ?_
      refine g_bipush (pc := 133) (dk d_mR_drawn 71 rfl) (by decide) ?_
      refine jn_e (fun J => ∀ (v9_13 : Int) (u14 : WD), J v9_13 u14 = some res → G E mR_drawn (d + 204) 149 [(0, pR 46), (2, pI y2), (3, pI y3), (4, pI y4), (5, pI v5_10), (6, pI x6), (7, pI x7), (8, pI y8), (9, pI v9_13), (10, pI x10), (11, pI s11)] [] u14 RF NN 0 0 (some (pI res.1), res.2, RF, NN)) h (fun v9_13 u14 h => ?_) (fun J34 hJ34 h => ?_)
      · refine g_iload (pc := 149) (j := 10) (dk d_mR_drawn 81 rfl) rfl ?_
        refine g_aload_n (pc := 151) (j := 0) (dk d_mR_drawn 82 rfl) rfl (by decide) ?_
        refine g_iload (pc := 152) (j := 9) (dk d_mR_drawn 83 rfl) rfl ?_
        refine h_callVi (d := d + 203) (pc := 154) (na := 1) (av := [pI x10]) (k0 := 46) po_46 ⟨_, rfl⟩ ⟨rfl, rfl⟩ (dk d_mR_drawn 84 rfl) lk_R_335 vm_mR_guessNow rfl rfl (Nat.le_of_ble_eq_true rfl) h (fun r16 u15 hq => kR_guessNow E (d + 199) hq) (fun r16 u15 hb17 h => ?_)
        refine jn_e (fun J => ∀ (v6_18 : Int) (u19 : WD), J v6_18 u19 = some res → G E mR_drawn (d + 204) 174 [(0, pR 46), (2, pI y2), (3, pI y3), (4, pI y4), (5, pI v5_10), (6, pI v6_18), (7, pI x7), (8, pI y8), (9, pI v9_13), (10, pI x10), (11, pI s11)] [] u19 RF NN 0 0 (some (pI res.1), res.2, RF, NN)) h (fun v6_18 u19 h => ?_) (fun J28 hJ28 h => ?_)
        · refine g_iload (pc := 174) (j := 9) (dk d_mR_drawn 94 rfl) rfl ?_
          refine g_iload (pc := 176) (j := 3) (dk d_mR_drawn 95 rfl) rfl ?_
          refine jn_e (fun J => ∀ (v7_20 : Int) (u21 : WD), J v7_20 u21 = some res → G E mR_drawn (d + 204) 205 [(0, pR 46), (2, pI y2), (3, pI y3), (4, pI y4), (5, pI v5_10), (6, pI v6_18), (7, pI v7_20), (8, pI y8), (9, pI v9_13), (10, pI x10)] [] u21 RF NN 0 0 (some (pI res.1), res.2, RF, NN)) h (fun v7_20 u21 h => ?_) (fun J23 hJ23 h => ?_)
          · refine h_iinc (pc := 205) (j := 9) (dk d_mR_drawn 109 rfl) rfl (by decide) (Nat.le_of_ble_eq_true rfl) h (fun v10_22 h => ?_)
            refine g_loc (l' := [(10, pI v10_22), (0, pR 46), (2, pI y2), (3, pI y3), (4, pI y4), (5, pI v5_10), (6, pI v6_18), (7, pI v7_20), (8, pI y8), (9, pI v9_13)]) rfl ?_
            refine g_goto (pc := 208) (tgt := 82) (dk d_mR_drawn 110 rfl) rfl ?_
            refine g_pick [1, 2, 3, 4, 5, 6, 7, 8, 9, 0] rfl (l' := [(0, pR 46), (2, pI y2), (3, pI y3), (4, pI y4), (5, pI v5_10), (6, pI v6_18), (7, pI v7_20), (8, pI y8), (9, pI v9_13), (10, pI v10_22)]) rfl ?_
            exact hrec _ _ _ _ _ _ h
          · refine h_icmp_ne (pc := 178) (tgt := 205) (dk d_mR_drawn 96 rfl) rfl h (fun hc27 h => ?_) (fun hc27 h => ?_)
            · refine g_pick [0, 1, 2, 3, 4, 5, 6, 7, 8, 9] rfl (l' := [(0, pR 46), (2, pI y2), (3, pI y3), (4, pI y4), (5, pI v5_10), (6, pI v6_18), (7, pI x7), (8, pI y8), (9, pI v9_13), (10, pI x10)]) rfl ?_
              exact hJ23 _ _ h
            · refine g_aload_n (pc := 181) (j := 0) (dk d_mR_drawn 97 rfl) rfl (by decide) ?_
              refine g_getL (pc := 182) fp_R_271 po_46 (dk d_mR_drawn 98 rfl) ?_
              refine g_lconst0 (pc := 185) (dk d_mR_drawn 99 rfl) ?_
              refine h_lcmp_le (pc := 186) (tgt := 205) (dk d_mR_drawn 100 rfl) (dk d_mR_drawn 101 rfl) rfl h (fun hc26 h => ?_) (fun hc26 h => ?_)
              · refine g_pick [0, 1, 2, 3, 4, 5, 6, 7, 8, 9] rfl (l' := [(0, pR 46), (2, pI y2), (3, pI y3), (4, pI y4), (5, pI v5_10), (6, pI v6_18), (7, pI x7), (8, pI y8), (9, pI v9_13), (10, pI x10)]) rfl ?_
                exact hJ23 _ _ h
              · refine g_aload_n (pc := 190) (j := 0) (dk d_mR_drawn 102 rfl) rfl (by decide) ?_
                refine g_getR (pc := 191) (a := 67) rfl fp_R_75 po_46 (dk d_mR_drawn 103 rfl) ?_
                refine g_iload (pc := 194) (j := 9) (dk d_mR_drawn 104 rfl) rfl ?_
                refine h_iald (pc := 196) (B := 5) pa_67 rfl (dk d_mR_drawn 105 rfl) h (fun h => ?_)
                refine g_iload (pc := 197) (j := 10) (dk d_mR_drawn 106 rfl) rfl ?_
                refine h_icmp_ne (pc := 199) (tgt := 205) (dk d_mR_drawn 107 rfl) rfl h (fun hc25 h => ?_) (fun hc25 h => ?_)
                · refine g_pick [0, 1, 2, 3, 4, 5, 6, 7, 8, 9] rfl (l' := [(0, pR 46), (2, pI y2), (3, pI y3), (4, pI y4), (5, pI v5_10), (6, pI v6_18), (7, pI x7), (8, pI y8), (9, pI v9_13), (10, pI x10)]) rfl ?_
                  exact hJ23 _ _ h
                · refine h_iinc (pc := 202) (j := 6) (dk d_mR_drawn 108 rfl) rfl (by decide) (Nat.le_of_ble_eq_true rfl) h (fun v7_24 h => ?_)
                  refine g_loc (l' := [(7, pI v7_24), (0, pR 46), (2, pI y2), (3, pI y3), (4, pI y4), (5, pI v5_10), (6, pI v6_18), (8, pI y8), (9, pI v9_13), (10, pI x10), (11, pI s11)]) rfl ?_
                  refine g_pick [1, 2, 3, 4, 5, 6, 0, 7, 8, 9] rfl (l' := [(0, pR 46), (2, pI y2), (3, pI y3), (4, pI y4), (5, pI v5_10), (6, pI v6_18), (7, pI v7_24), (8, pI y8), (9, pI v9_13), (10, pI x10)]) rfl ?_
                  exact hJ23 _ _ h
        · refine h_icmp_ne (pc := 157) (tgt := 174) (dk d_mR_drawn 85 rfl) rfl h (fun hc33 h => ?_) (fun hc33 h => ?_)
          · exact hJ28 _ _ h
          · refine g_iload (pc := 160) (j := 5) (dk d_mR_drawn 86 rfl) rfl ?_
            refine g_aload_n (pc := 162) (j := 0) (dk d_mR_drawn 87 rfl) rfl (by decide) ?_
            refine g_iload_n (pc := 163) (j := 1) (dk d_mR_drawn 88 rfl) rfl ?_
            refine g_sipush (pc := 164) (dk d_mR_drawn 89 rfl) (by decide) ?_
            refine g_irem (pc := 167) (dk d_mR_drawn 90 rfl) (by decide) ?_
            refine h_callVi (d := d + 203) (pc := 168) (na := 1) (av := [pI (Int.tmod y2 1000)]) (k0 := 46) po_46 ⟨_, rfl⟩ ⟨rfl, rfl⟩ (dk d_mR_drawn 91 rfl) lk_R_332 vm_mR_pointsAt rfl rfl (Nat.le_of_ble_eq_true rfl) h (fun r30 u29 hq => kR_pointsAt E (d + 202) hq) (fun r30 u29 hb31 h => ?_)
            refine g_iadd (pc := 171) (dk d_mR_drawn 92 rfl) ?_
            refine h_bvI h (fun v6_32 h => ?_)
            refine g_istore (pc := 172) (l' := [(6, pI v6_32), (0, pR 46), (2, pI y2), (3, pI y3), (4, pI y4), (5, pI v5_10), (7, pI x7), (8, pI y8), (9, pI v9_13), (10, pI x10), (11, pI s11)]) (dk d_mR_drawn 93 rfl) (Nat.le_of_ble_eq_true rfl) rfl ?_
            refine g_pick [1, 2, 3, 4, 5, 0, 6, 7, 8, 9, 10] rfl (l' := [(0, pR 46), (2, pI y2), (3, pI y3), (4, pI y4), (5, pI v5_10), (6, pI v6_32), (7, pI x7), (8, pI y8), (9, pI v9_13), (10, pI x10), (11, pI s11)]) rfl ?_
            exact hJ28 _ _ h
      · refine h_icmp_ge (pc := 135) (tgt := 149) (dk d_mR_drawn 72 rfl) rfl h (fun hc36 h => ?_) (fun hc36 h => ?_)
        · refine g_pick [1, 2, 3, 4, 5, 6, 7, 8, 9, 10, 0] rfl (l' := [(0, pR 46), (2, pI y2), (3, pI y3), (4, pI y4), (5, pI v5_10), (6, pI x6), (7, pI x7), (8, pI y8), (9, pI x9), (10, pI x10), (11, pI s11)]) rfl ?_
          exact hJ34 _ _ h
        · refine g_iload (pc := 138) (j := 9) (dk d_mR_drawn 73 rfl) rfl ?_
          refine g_iconst (pc := 140) (dk d_mR_drawn 74 rfl) (by decide) ?_
          refine g_iload (pc := 141) (j := 0) (dk d_mR_drawn 75 rfl) rfl ?_
          refine g_ishl (pc := 143) (dk d_mR_drawn 76 rfl) ?_
          refine g_iconst (pc := 144) (dk d_mR_drawn 77 rfl) (by decide) ?_
          refine g_ixor (pc := 145) (dk d_mR_drawn 78 rfl) ?_
          refine g_iand (pc := 146) (dk d_mR_drawn 79 rfl) ?_
          refine h_bvI h (fun v9_35 h => ?_)
          refine g_istore (pc := 147) (l' := [(9, pI v9_35), (11, pI s11), (0, pR 46), (2, pI y2), (3, pI y3), (4, pI y4), (5, pI v5_10), (6, pI x6), (7, pI x7), (8, pI y8), (10, pI x10)]) (dk d_mR_drawn 80 rfl) (Nat.le_of_ble_eq_true rfl) rfl ?_
          refine g_pick [2, 3, 4, 5, 6, 7, 8, 9, 0, 10, 1] rfl (l' := [(0, pR 46), (2, pI y2), (3, pI y3), (4, pI y4), (5, pI v5_10), (6, pI x6), (7, pI x7), (8, pI y8), (9, pI v9_35), (10, pI x10), (11, pI s11)]) rfl ?_
          exact hJ34 _ _ h
    · refine h_if_ne (pc := 105) (tgt := 113) (dk d_mR_drawn 58 rfl) rfl h (fun hc44 h => ?_) (fun hc44 h => ?_)
      · refine g_iload (pc := 113) (j := 8) (dk d_mR_drawn 61 rfl) rfl ?_
        refine g_iload (pc := 115) (j := 0) (dk d_mR_drawn 62 rfl) rfl ?_
        refine g_bipush (pc := 117) (dk d_mR_drawn 63 rfl) (by decide) ?_
        refine g_iushr (pc := 119) (dk d_mR_drawn 64 rfl) ?_
        refine g_iload (pc := 120) (j := 8) (dk d_mR_drawn 65 rfl) rfl ?_
        refine h_callSi (d := d + 203) (pc := 122) (na := 1) (av := [pI x9]) ⟨rfl, rfl⟩ (dk d_mR_drawn 66 rfl) lk_R_351 vm_mR_bitsOf rfl rfl (Nat.le_of_ble_eq_true rfl) h (fun r39 u38 hq => kR_bitsOf E (d + 202) hq) (fun r39 u38 hb40 h => ?_)
        refine h_irem (pc := 125) (dk d_mR_drawn 67 rfl) h (fun h => ?_)
        refine h_callSi (d := d + 203) (pc := 126) (na := 2) (av := [pI x9, pI (Int.tmod (bUshr v5_10 8) r39)]) ⟨rfl, rfl⟩ (dk d_mR_drawn 68 rfl) lk_R_390 vm_mR_bitAt rfl rfl (Nat.le_of_ble_eq_true rfl) h (fun r42 u41 hq => kR_bitAt E (d + 202) hq) (fun r42 u41 hb43 h => ?_)
        refine g_pick [1, 2, 3, 4, 0, 5, 6, 7, 8, 9] rfl (l' := [(0, pR 46), (2, pI y2), (3, pI y3), (4, pI y4), (5, pI v5_10), (6, pI x6), (7, pI x7), (8, pI y8), (9, pI x9), (10, pI x10)]) rfl ?_
        exact hJ37 _ _ h
      · refine g_bipush (pc := 108) (dk d_mR_drawn 59 rfl) (by decide) ?_
        refine g_goto (pc := 110) (tgt := 129) (dk d_mR_drawn 60 rfl) rfl ?_
        refine g_pick [1, 2, 3, 4, 0, 5, 6, 7, 8, 9] rfl (l' := [(0, pR 46), (2, pI y2), (3, pI y3), (4, pI y4), (5, pI v5_10), (6, pI x6), (7, pI x7), (8, pI y8), (9, pI x9), (10, pI x10)]) rfl ?_
        exact hJ37 _ _ h
set_option maxRecDepth 100000 in
set_option maxHeartbeats 4000000 in
theorem fR_drawn_l82_ok (E : Nat × (Int → Int)) (d : Nat) {res : Int × WD} (y2 : Int) (y3 : Int) (y4 : Int) (y8 : Int) (K0 : Int → Int → Int → WD → Option (Int × WD)) (hK0 : ∀ (x5 : Int) (x6 : Int) (x7 : Int) (w : WD), K0 x5 x6 x7 w = some res → G E mR_drawn (d + 204) 211 [(0, pR 46), (2, pI y2), (3, pI y3), (4, pI y4), (5, pI x5), (6, pI x6), (7, pI x7), (8, pI y8)] [] w RF NN 0 0 (some (pI res.1), res.2, RF, NN)) : ∀ (k : Nat) (x5 : Int) (x6 : Int) (x7 : Int) (x9 : Int) (x10 : Int) (w : WD), fR_drawn_l82 y2 y3 y4 y8 K0 k x5 x6 x7 x9 x10 w = some res → G E mR_drawn (d + 204) 82 [(0, pR 46), (2, pI y2), (3, pI y3), (4, pI y4), (5, pI x5), (6, pI x6), (7, pI x7), (8, pI y8), (9, pI x9), (10, pI x10)] [] w RF NN 0 0 (some (pI res.1), res.2, RF, NN) := by
  intro k
  induction k with
  | zero =>
    intro x5 x6 x7 x9 x10 w h
    exact no_e h
  | succ k ih =>
    intro x5 x6 x7 x9 x10 w h
    exact fR_drawn_l82_b_ok E d y2 y3 y4 y8 K0 ih hK0 x5 x6 x7 x9 x10 w h
def fR_drawn_l59_b (rec : Int → Int → Int → Int → WD → Option (Int × WD)) (y2 : Int) (y3 : Int) (y4 : Int) (K0 : Int → Int → WD → Option (Int × WD)) (x5 : Int) (x6 : Int) (x7 : Int) (x8 : Int) (w : WD) : Option (Int × WD) := if (w32 (Int.tdiv y2 1000)) ≤ x8 then (K0 x6 x7 w) else (bv (w32 ((bShl 1 (w 46 1)) - 1)) <| fun (v9_9 : Int) => fR_drawn_l82 y2 y3 y4 x8 (fun (v5_46 : Int) (v6_47 : Int) (v7_48 : Int) (u49 : WD) => bv (w32 (x8 + 1)) <| fun (v8_50 : Int) => rec v5_46 v6_47 v7_48 v8_50 u49) FU x5 x6 x7 v9_9 0 w)
def fR_drawn_l59 (y2 : Int) (y3 : Int) (y4 : Int) (K0 : Int → Int → WD → Option (Int × WD)) : Nat → Int → Int → Int → Int → WD → Option (Int × WD)
  | 0 => fun _ _ _ _ _ => none
  | k + 1 => fR_drawn_l59_b ( fR_drawn_l59 y2 y3 y4 K0 k) y2 y3 y4 K0
set_option maxRecDepth 100000 in
set_option maxHeartbeats 4000000 in
theorem fR_drawn_l59_b_ok (E : Nat × (Int → Int)) (d : Nat) {res : Int × WD} {rec : Int → Int → Int → Int → WD → Option (Int × WD)} (y2 : Int) (y3 : Int) (y4 : Int) (K0 : Int → Int → WD → Option (Int × WD)) (hrec : ∀ (x5 : Int) (x6 : Int) (x7 : Int) (x8 : Int) (w : WD), rec x5 x6 x7 x8 w = some res → G E mR_drawn (d + 204) 59 [(0, pR 46), (2, pI y2), (3, pI y3), (4, pI y4), (5, pI x5), (6, pI x6), (7, pI x7), (8, pI x8)] [] w RF NN 0 0 (some (pI res.1), res.2, RF, NN)) (hK0 : ∀ (x6 : Int) (x7 : Int) (w : WD), K0 x6 x7 w = some res → G E mR_drawn (d + 204) 217 [(3, pI y3), (6, pI x6), (7, pI x7)] [] w RF NN 0 0 (some (pI res.1), res.2, RF, NN)) (x5 : Int) (x6 : Int) (x7 : Int) (x8 : Int) (w : WD) (h : fR_drawn_l59_b rec y2 y3 y4 K0 x5 x6 x7 x8 w = some res) : G E mR_drawn (d + 204) 59 [(0, pR 46), (2, pI y2), (3, pI y3), (4, pI y4), (5, pI x5), (6, pI x6), (7, pI x7), (8, pI x8)] [] w RF NN 0 0 (some (pI res.1), res.2, RF, NN) := by
  unfold fR_drawn_l59_b at h
  refine g_iload (pc := 59) (j := 7) (dk d_mR_drawn 33 rfl) rfl ?_
  refine g_iload_n (pc := 61) (j := 1) (dk d_mR_drawn 34 rfl) rfl ?_
  refine g_sipush (pc := 62) (dk d_mR_drawn 35 rfl) (by decide) ?_
  refine g_idiv (pc := 65) (dk d_mR_drawn 36 rfl) (by decide) ?_
  refine h_icmp_ge (pc := 66) (tgt := 217) (dk d_mR_drawn 37 rfl) rfl h (fun hc51 h => ?_) (fun hc51 h => ?_)
  · refine g_pick [2, 5, 6] rfl (l' := [(3, pI y3), (6, pI x6), (7, pI x7)]) rfl ?_
    exact hK0 _ _ _ h
  · refine g_iconst (pc := 69) (dk d_mR_drawn 38 rfl) (by decide) ?_
    refine g_aload_n (pc := 70) (j := 0) (dk d_mR_drawn 39 rfl) rfl (by decide) ?_
    refine g_getI (pc := 71) fp_R_137 po_46 (dk d_mR_drawn 40 rfl) ?_
    refine g_ishl (pc := 74) (dk d_mR_drawn 41 rfl) ?_
    refine g_iconst (pc := 75) (dk d_mR_drawn 42 rfl) (by decide) ?_
    refine g_isub (pc := 76) (dk d_mR_drawn 43 rfl) ?_
    refine h_bvI h (fun v9_9 h => ?_)
    refine g_istore (pc := 77) (l' := [(9, pI v9_9), (0, pR 46), (2, pI y2), (3, pI y3), (4, pI y4), (5, pI x5), (6, pI x6), (7, pI x7), (8, pI x8)]) (dk d_mR_drawn 44 rfl) (Nat.le_of_ble_eq_true rfl) rfl ?_
    refine g_iconst (pc := 79) (dk d_mR_drawn 45 rfl) (by decide) ?_
    refine g_istore (pc := 80) (l' := [(10, pI 0), (9, pI v9_9), (0, pR 46), (2, pI y2), (3, pI y3), (4, pI y4), (5, pI x5), (6, pI x6), (7, pI x7), (8, pI x8)]) (dk d_mR_drawn 46 rfl) (Nat.le_of_ble_eq_true rfl) rfl ?_
    refine g_pick [2, 3, 4, 5, 6, 7, 8, 9, 1, 0] rfl (l' := [(0, pR 46), (2, pI y2), (3, pI y3), (4, pI y4), (5, pI x5), (6, pI x6), (7, pI x7), (8, pI x8), (9, pI v9_9), (10, pI 0)]) rfl ?_
    refine fR_drawn_l82_ok E d y2 y3 y4 x8 _  (fun v5_46 v6_47 v7_48 u49 h => ?_) FU _ _ _ _ _  _ h
    · refine h_iinc (pc := 211) (j := 7) (dk d_mR_drawn 111 rfl) rfl (by decide) (Nat.le_of_ble_eq_true rfl) h (fun v8_50 h => ?_)
      refine g_loc (l' := [(8, pI v8_50), (0, pR 46), (2, pI y2), (3, pI y3), (4, pI y4), (5, pI v5_46), (6, pI v6_47), (7, pI v7_48)]) rfl ?_
      refine g_goto (pc := 214) (tgt := 59) (dk d_mR_drawn 112 rfl) rfl ?_
      refine g_pick [1, 2, 3, 4, 5, 6, 7, 0] rfl (l' := [(0, pR 46), (2, pI y2), (3, pI y3), (4, pI y4), (5, pI v5_46), (6, pI v6_47), (7, pI v7_48), (8, pI v8_50)]) rfl ?_
      exact hrec _ _ _ _ _ h
set_option maxRecDepth 100000 in
set_option maxHeartbeats 4000000 in
theorem fR_drawn_l59_ok (E : Nat × (Int → Int)) (d : Nat) {res : Int × WD} (y2 : Int) (y3 : Int) (y4 : Int) (K0 : Int → Int → WD → Option (Int × WD)) (hK0 : ∀ (x6 : Int) (x7 : Int) (w : WD), K0 x6 x7 w = some res → G E mR_drawn (d + 204) 217 [(3, pI y3), (6, pI x6), (7, pI x7)] [] w RF NN 0 0 (some (pI res.1), res.2, RF, NN)) : ∀ (k : Nat) (x5 : Int) (x6 : Int) (x7 : Int) (x8 : Int) (w : WD), fR_drawn_l59 y2 y3 y4 K0 k x5 x6 x7 x8 w = some res → G E mR_drawn (d + 204) 59 [(0, pR 46), (2, pI y2), (3, pI y3), (4, pI y4), (5, pI x5), (6, pI x6), (7, pI x7), (8, pI x8)] [] w RF NN 0 0 (some (pI res.1), res.2, RF, NN) := by
  intro k
  induction k with
  | zero =>
    intro x5 x6 x7 x8 w h
    exact no_e h
  | succ k ih =>
    intro x5 x6 x7 x8 w h
    exact fR_drawn_l59_b_ok E d y2 y3 y4 K0 ih hK0 x5 x6 x7 x8 w h
def fR_drawn (a1 : Int) (a2 : Int) (a3 : Int) (a4 : Int) (w : WD) : Option (Int × WD) := if a2 < 0 then (some ((-1), w)) else (ci (fR_in (w32 (Int.tdiv a2 1000)) 1 30 w) <| fun (r2 : Int) (u1 : WD) => if r2 = 0 then (some ((-1), u1)) else (ci (fR_in a3 0 1 u1) <| fun (r5 : Int) (u4 : WD) => if r5 = 0 then (some ((-1), u4)) else (jn (β := WD → Option (Int × WD)) (fun (u7 : WD) => cv (fR_findWays u7) <| fun (u8 : WD) => fR_drawn_l59 a2 a3 a4 (fun (v6_52 : Int) (v7_53 : Int) (u54 : WD) => if a3 ≠ 0 then (some (v7_53, u54)) else (some (v6_52, u54))) FU a1 0 0 0 u8) <| fun J56 => if a3 ≠ 1 then (J56 u4) else (ci (fR_isMask a4 u4) <| fun (r58 : Int) (u57 : WD) => if r58 ≠ 0 then (J56 u57) else (some ((-1), u57))))))
set_option maxRecDepth 100000 in
set_option maxHeartbeats 4000000 in
theorem gR_drawn (E : Nat × (Int → Int)) (d : Nat) {res : Int × WD} (a1 : Int) (a2 : Int) (a3 : Int) (a4 : Int) (w : WD) (h : fR_drawn a1 a2 a3 a4 w = some res) : G E mR_drawn (d + 204) 0 [(0, pR 46), (1, pI a1), (2, pI a2), (3, pI a3), (4, pI a4)] [] w RF NN 0 0 (some (pI res.1), res.2, RF, NN) := by
  unfold fR_drawn at h
  refine g_iload_n (pc := 0) (j := 2) (dk d_mR_drawn 0 rfl) rfl ?_
  refine h_if_lt (pc := 1) (tgt := 41) (dk d_mR_drawn 1 rfl) rfl h (fun hc64 h => ?_) (fun hc64 h => ?_)
  · refine g_iconst (pc := 41) (dk d_mR_drawn 21 rfl) (by decide) ?_
    exact h_iret (pc := 42) rfl (dk d_mR_drawn 22 rfl) h
  · refine g_iload_n (pc := 4) (j := 2) (dk d_mR_drawn 2 rfl) rfl ?_
    refine g_sipush (pc := 5) (dk d_mR_drawn 3 rfl) (by decide) ?_
    refine g_idiv (pc := 8) (dk d_mR_drawn 4 rfl) (by decide) ?_
    refine g_iconst (pc := 9) (dk d_mR_drawn 5 rfl) (by decide) ?_
    refine g_bipush (pc := 10) (dk d_mR_drawn 6 rfl) (by decide) ?_
    refine h_callSi (d := d + 203) (pc := 12) (na := 3) (av := [pI (w32 (Int.tdiv a2 1000)), pI 1, pI 30]) ⟨rfl, rfl⟩ (dk d_mR_drawn 7 rfl) lk_R_140 vm_mR_in rfl rfl (Nat.le_of_ble_eq_true rfl) h (fun r2 u1 hq => kR_in E (d + 202) hq) (fun r2 u1 hb3 h => ?_)
    refine h_if_eq (pc := 15) (tgt := 41) (dk d_mR_drawn 8 rfl) rfl h (fun hc63 h => ?_) (fun hc63 h => ?_)
    · refine g_iconst (pc := 41) (dk d_mR_drawn 21 rfl) (by decide) ?_
      exact h_iret (pc := 42) rfl (dk d_mR_drawn 22 rfl) h
    · refine g_iload_n (pc := 18) (j := 3) (dk d_mR_drawn 9 rfl) rfl ?_
      refine g_iconst (pc := 19) (dk d_mR_drawn 10 rfl) (by decide) ?_
      refine g_iconst (pc := 20) (dk d_mR_drawn 11 rfl) (by decide) ?_
      refine h_callSi (d := d + 203) (pc := 21) (na := 3) (av := [pI a3, pI 0, pI 1]) ⟨rfl, rfl⟩ (dk d_mR_drawn 12 rfl) lk_R_140 vm_mR_in rfl rfl (Nat.le_of_ble_eq_true rfl) h (fun r5 u4 hq => kR_in E (d + 202) hq) (fun r5 u4 hb6 h => ?_)
      refine h_if_eq (pc := 24) (tgt := 41) (dk d_mR_drawn 13 rfl) rfl h (fun hc62 h => ?_) (fun hc62 h => ?_)
      · refine g_iconst (pc := 41) (dk d_mR_drawn 21 rfl) (by decide) ?_
        exact h_iret (pc := 42) rfl (dk d_mR_drawn 22 rfl) h
      · refine g_iload_n (pc := 27) (j := 3) (dk d_mR_drawn 14 rfl) rfl ?_
        refine g_iconst (pc := 28) (dk d_mR_drawn 15 rfl) (by decide) ?_
        refine jn_e (fun J => ∀ (u7 : WD), J u7 = some res → G E mR_drawn (d + 204) 43 [(0, pR 46), (1, pI a1), (2, pI a2), (3, pI a3), (4, pI a4)] [] u7 RF NN 0 0 (some (pI res.1), res.2, RF, NN)) h (fun u7 h => ?_) (fun J56 hJ56 h => ?_)
        · refine g_aload_n (pc := 43) (j := 0) (dk d_mR_drawn 23 rfl) rfl (by decide) ?_
          refine h_callVv (d := d + 203) (pc := 44) (na := 0) (av := []) (k0 := 46) po_46 ⟨_, rfl⟩ ⟨rfl, rfl⟩ (dk d_mR_drawn 24 rfl) lk_R_306 vm_mR_findWays rfl rfl (Nat.le_of_ble_eq_true rfl) h (fun u8 hq => kR_findWays E (d + 0) hq) (fun u8 h => ?_)
          refine g_iload_n (pc := 47) (j := 1) (dk d_mR_drawn 25 rfl) rfl ?_
          refine g_istore (pc := 48) (l' := [(5, pI a1), (0, pR 46), (1, pI a1), (2, pI a2), (3, pI a3), (4, pI a4)]) (dk d_mR_drawn 26 rfl) (Nat.le_of_ble_eq_true rfl) rfl ?_
          refine g_iconst (pc := 50) (dk d_mR_drawn 27 rfl) (by decide) ?_
          refine g_istore (pc := 51) (l' := [(6, pI 0), (5, pI a1), (0, pR 46), (1, pI a1), (2, pI a2), (3, pI a3), (4, pI a4)]) (dk d_mR_drawn 28 rfl) (Nat.le_of_ble_eq_true rfl) rfl ?_
          refine g_iconst (pc := 53) (dk d_mR_drawn 29 rfl) (by decide) ?_
          refine g_istore (pc := 54) (l' := [(7, pI 0), (6, pI 0), (5, pI a1), (0, pR 46), (1, pI a1), (2, pI a2), (3, pI a3), (4, pI a4)]) (dk d_mR_drawn 30 rfl) (Nat.le_of_ble_eq_true rfl) rfl ?_
          refine g_iconst (pc := 56) (dk d_mR_drawn 31 rfl) (by decide) ?_
          refine g_istore (pc := 57) (l' := [(8, pI 0), (7, pI 0), (6, pI 0), (5, pI a1), (0, pR 46), (1, pI a1), (2, pI a2), (3, pI a3), (4, pI a4)]) (dk d_mR_drawn 32 rfl) (Nat.le_of_ble_eq_true rfl) rfl ?_
          refine g_pick [4, 6, 7, 8, 3, 2, 1, 0] rfl (l' := [(0, pR 46), (2, pI a2), (3, pI a3), (4, pI a4), (5, pI a1), (6, pI 0), (7, pI 0), (8, pI 0)]) rfl ?_
          refine fR_drawn_l59_ok E d a2 a3 a4 _  (fun v6_52 v7_53 u54 h => ?_) FU _ _ _ _  _ h
          · refine g_iload_n (pc := 217) (j := 0) (dk d_mR_drawn 113 rfl) rfl ?_
            refine h_if_ne (pc := 218) (tgt := 226) (dk d_mR_drawn 114 rfl) rfl h (fun hc55 h => ?_) (fun hc55 h => ?_)
            · refine g_iload (pc := 226) (j := 2) (dk d_mR_drawn 117 rfl) rfl ?_
              exact h_iret (pc := 228) rfl (dk d_mR_drawn 118 rfl) h
            · refine g_iload (pc := 221) (j := 1) (dk d_mR_drawn 115 rfl) rfl ?_
              refine g_goto (pc := 223) (tgt := 228) (dk d_mR_drawn 116 rfl) rfl ?_
              exact h_iret (pc := 228) rfl (dk d_mR_drawn 118 rfl) h
        · refine h_icmp_ne (pc := 29) (tgt := 43) (dk d_mR_drawn 16 rfl) rfl h (fun hc61 h => ?_) (fun hc61 h => ?_)
          · exact hJ56 _ h
          · refine g_aload_n (pc := 32) (j := 0) (dk d_mR_drawn 17 rfl) rfl (by decide) ?_
            refine g_iload (pc := 33) (j := 4) (dk d_mR_drawn 18 rfl) rfl ?_
            refine h_callVi (d := d + 203) (pc := 35) (na := 1) (av := [pI a4]) (k0 := 46) po_46 ⟨_, rfl⟩ ⟨rfl, rfl⟩ (dk d_mR_drawn 19 rfl) lk_R_177 vm_mR_isMask rfl rfl (Nat.le_of_ble_eq_true rfl) h (fun r58 u57 hq => kR_isMask E (d + 201) hq) (fun r58 u57 hb59 h => ?_)
            refine h_if_ne (pc := 38) (tgt := 43) (dk d_mR_drawn 20 rfl) rfl h (fun hc60 h => ?_) (fun hc60 h => ?_)
            · exact hJ56 _ h
            · refine g_iconst (pc := 41) (dk d_mR_drawn 21 rfl) (by decide) ?_
              exact h_iret (pc := 42) rfl (dk d_mR_drawn 22 rfl) h
set_option maxRecDepth 100000 in
set_option maxHeartbeats 4000000 in
theorem kR_drawn (E : Nat × (Int → Int)) (d : Nat) {a1 : Int} {a2 : Int} {a3 : Int} {a4 : Int} {w w1 : WD} {r : Int} (h : fR_drawn a1 a2 a3 a4 w = some (r, w1)) : CTi E mR_drawn (d + 204) [pR 46, pI a1, pI a2, pI a3, pI a4] w RF NN r w1 RF NN := by
  exact CTi_of (by decide +kernel) (Nat.le_of_ble_eq_true rfl) (Or.inl rfl) (gR_drawn (res := (r, w1)) E d a1 a2 a3 a4 w h)
def fR_behind_l21_b (rec : Int → WD → Option (Int × WD)) (y1 : Int) (y2 : Int) (K0 : WD → Option (Int × WD)) (x3 : Int) (w : WD) : Option (Int × WD) := if (w 46 4) ≤ x3 then (K0 w) else (jn (β := WD → Option (Int × WD)) (fun (u7 : WD) => bv (w32 (x3 + 1)) <| fun (v3_8 : Int) => rec v3_8 u7) <| fun J9 => if x3 = y1 then (J9 w) else (if 6 ≤ y2 then (J9 w) else (ck (0 ≤ x3 ∧ x3 < 5) <| if (w 73 x3) ≠ y2 then (J9 w) else (some ((-5), w)))))
def fR_behind_l21 (y1 : Int) (y2 : Int) (K0 : WD → Option (Int × WD)) : Nat → Int → WD → Option (Int × WD)
  | 0 => fun _ _ => none
  | k + 1 => fR_behind_l21_b ( fR_behind_l21 y1 y2 K0 k) y1 y2 K0
set_option maxRecDepth 100000 in
set_option maxHeartbeats 4000000 in
theorem fR_behind_l21_b_ok (E : Nat × (Int → Int)) (d : Nat) {res : Int × WD} {rec : Int → WD → Option (Int × WD)} (y1 : Int) (y2 : Int) (K0 : WD → Option (Int × WD)) (hrec : ∀ (x3 : Int) (w : WD), rec x3 w = some res → G E mR_behind (d + 4) 21 [(0, pR 46), (1, pI y1), (2, pI y2), (3, pI x3)] [] w RF NN 0 0 (some (pI res.1), res.2, RF, NN)) (hK0 : ∀ (w : WD), K0 w = some res → G E mR_behind (d + 4) 59 [(0, pR 46), (1, pI y1), (2, pI y2)] [] w RF NN 0 0 (some (pI res.1), res.2, RF, NN)) (x3 : Int) (w : WD) (h : fR_behind_l21_b rec y1 y2 K0 x3 w = some res) : G E mR_behind (d + 4) 21 [(0, pR 46), (1, pI y1), (2, pI y2), (3, pI x3)] [] w RF NN 0 0 (some (pI res.1), res.2, RF, NN) := by
  unfold fR_behind_l21_b at h
  refine g_iload_n (pc := 21) (j := 3) (dk d_mR_behind 12 rfl) rfl ?_
  refine g_aload_n (pc := 22) (j := 0) (dk d_mR_behind 13 rfl) rfl (by decide) ?_
  refine g_getI (pc := 23) fp_R_144 po_46 (dk d_mR_behind 14 rfl) ?_
  refine h_icmp_ge (pc := 26) (tgt := 59) (dk d_mR_behind 15 rfl) rfl h (fun hc13 h => ?_) (fun hc13 h => ?_)
  · refine g_pick [0, 1, 2] rfl (l' := [(0, pR 46), (1, pI y1), (2, pI y2)]) rfl ?_
    exact hK0 _ h
  · refine g_iload_n (pc := 29) (j := 3) (dk d_mR_behind 16 rfl) rfl ?_
    refine g_iload_n (pc := 30) (j := 1) (dk d_mR_behind 17 rfl) rfl ?_
    refine jn_e (fun J => ∀ (u7 : WD), J u7 = some res → G E mR_behind (d + 4) 53 [(0, pR 46), (1, pI y1), (2, pI y2), (3, pI x3)] [] u7 RF NN 0 0 (some (pI res.1), res.2, RF, NN)) h (fun u7 h => ?_) (fun J9 hJ9 h => ?_)
    · refine h_iinc (pc := 53) (j := 3) (dk d_mR_behind 30 rfl) rfl (by decide) (Nat.le_of_ble_eq_true rfl) h (fun v3_8 h => ?_)
      refine g_loc (l' := [(3, pI v3_8), (0, pR 46), (1, pI y1), (2, pI y2)]) rfl ?_
      refine g_goto (pc := 56) (tgt := 21) (dk d_mR_behind 31 rfl) rfl ?_
      refine g_pick [1, 2, 3, 0] rfl (l' := [(0, pR 46), (1, pI y1), (2, pI y2), (3, pI v3_8)]) rfl ?_
      exact hrec _ _ h
    · refine h_icmp_eq (pc := 31) (tgt := 53) (dk d_mR_behind 18 rfl) rfl h (fun hc12 h => ?_) (fun hc12 h => ?_)
      · exact hJ9 _ h
      · refine g_iload_n (pc := 34) (j := 2) (dk d_mR_behind 19 rfl) rfl ?_
        refine g_bipush (pc := 35) (dk d_mR_behind 20 rfl) (by decide) ?_
        refine h_icmp_ge (pc := 37) (tgt := 53) (dk d_mR_behind 21 rfl) rfl h (fun hc11 h => ?_) (fun hc11 h => ?_)
        · exact hJ9 _ h
        · refine g_aload_n (pc := 40) (j := 0) (dk d_mR_behind 22 rfl) rfl (by decide) ?_
          refine g_getR (pc := 41) (a := 73) rfl fp_R_93 po_46 (dk d_mR_behind 23 rfl) ?_
          refine g_iload_n (pc := 44) (j := 3) (dk d_mR_behind 24 rfl) rfl ?_
          refine h_iald (pc := 45) (B := 5) pa_73 rfl (dk d_mR_behind 25 rfl) h (fun h => ?_)
          refine g_iload_n (pc := 46) (j := 2) (dk d_mR_behind 26 rfl) rfl ?_
          refine h_icmp_ne (pc := 47) (tgt := 53) (dk d_mR_behind 27 rfl) rfl h (fun hc10 h => ?_) (fun hc10 h => ?_)
          · exact hJ9 _ h
          · refine g_bipush (pc := 50) (dk d_mR_behind 28 rfl) (by decide) ?_
            exact h_iret (pc := 52) rfl (dk d_mR_behind 29 rfl) h
set_option maxRecDepth 100000 in
set_option maxHeartbeats 4000000 in
theorem fR_behind_l21_ok (E : Nat × (Int → Int)) (d : Nat) {res : Int × WD} (y1 : Int) (y2 : Int) (K0 : WD → Option (Int × WD)) (hK0 : ∀ (w : WD), K0 w = some res → G E mR_behind (d + 4) 59 [(0, pR 46), (1, pI y1), (2, pI y2)] [] w RF NN 0 0 (some (pI res.1), res.2, RF, NN)) : ∀ (k : Nat) (x3 : Int) (w : WD), fR_behind_l21 y1 y2 K0 k x3 w = some res → G E mR_behind (d + 4) 21 [(0, pR 46), (1, pI y1), (2, pI y2), (3, pI x3)] [] w RF NN 0 0 (some (pI res.1), res.2, RF, NN) := by
  intro k
  induction k with
  | zero =>
    intro x3 w h
    exact no_e h
  | succ k ih =>
    intro x3 w h
    exact fR_behind_l21_b_ok E d y1 y2 K0 ih hK0 x3 w h
def fR_behind (a1 : Int) (a2 : Int) (w : WD) : Option (Int × WD) := ci (fR_isMask a1 w) <| fun (r2 : Int) (u1 : WD) => if r2 = 0 then (some ((-2000000000), u1)) else (ci (fR_isWho a2 u1) <| fun (r5 : Int) (u4 : WD) => if r5 ≠ 0 then (fR_behind_l21 a1 a2 (fun (u14 : WD) => ck (0 ≤ a1 ∧ a1 < 5) <| bv (u14 73 a1) <| fun (v3_15 : Int) => ck (0 ≤ a1 ∧ a1 < 5) <| bw (up u14 73 a1 a2) <| fun (u16 : WD) => some (v3_15, u16)) FU 0 u4) else (some ((-2000000000), u4)))
set_option maxRecDepth 100000 in
set_option maxHeartbeats 4000000 in
theorem gR_behind (E : Nat × (Int → Int)) (d : Nat) {res : Int × WD} (a1 : Int) (a2 : Int) (w : WD) (h : fR_behind a1 a2 w = some res) : G E mR_behind (d + 4) 0 [(0, pR 46), (1, pI a1), (2, pI a2)] [] w RF NN 0 0 (some (pI res.1), res.2, RF, NN) := by
  unfold fR_behind at h
  refine g_aload_n (pc := 0) (j := 0) (dk d_mR_behind 0 rfl) rfl (by decide) ?_
  refine g_iload_n (pc := 1) (j := 1) (dk d_mR_behind 1 rfl) rfl ?_
  refine h_callVi (d := d + 3) (pc := 2) (na := 1) (av := [pI a1]) (k0 := 46) po_46 ⟨_, rfl⟩ ⟨rfl, rfl⟩ (dk d_mR_behind 2 rfl) lk_R_177 vm_mR_isMask rfl rfl (Nat.le_of_ble_eq_true rfl) h (fun r2 u1 hq => kR_isMask E (d + 1) hq) (fun r2 u1 hb3 h => ?_)
  refine h_if_eq (pc := 5) (tgt := 16) (dk d_mR_behind 3 rfl) rfl h (fun hc18 h => ?_) (fun hc18 h => ?_)
  · refine g_ldc (pc := 16) (u := (-2000000000)) ck_R_190 (by decide) (dk d_mR_behind 8 rfl) ?_
    exact h_iret (pc := 18) rfl (dk d_mR_behind 9 rfl) h
  · refine g_aload_n (pc := 8) (j := 0) (dk d_mR_behind 4 rfl) rfl (by decide) ?_
    refine g_iload_n (pc := 9) (j := 2) (dk d_mR_behind 5 rfl) rfl ?_
    refine h_callVi (d := d + 3) (pc := 10) (na := 1) (av := [pI a2]) (k0 := 46) po_46 ⟨_, rfl⟩ ⟨rfl, rfl⟩ (dk d_mR_behind 6 rfl) lk_R_265 vm_mR_isWho rfl rfl (Nat.le_of_ble_eq_true rfl) h (fun r5 u4 hq => kR_isWho E (d + 0) hq) (fun r5 u4 hb6 h => ?_)
    refine h_if_ne (pc := 13) (tgt := 19) (dk d_mR_behind 7 rfl) rfl h (fun hc17 h => ?_) (fun hc17 h => ?_)
    · refine g_iconst (pc := 19) (dk d_mR_behind 10 rfl) (by decide) ?_
      refine g_istore_n (pc := 20) (l' := [(3, pI 0), (0, pR 46), (1, pI a1), (2, pI a2)]) (dk d_mR_behind 11 rfl) (Nat.le_of_ble_eq_true rfl) rfl ?_
      refine g_pick [1, 2, 3, 0] rfl (l' := [(0, pR 46), (1, pI a1), (2, pI a2), (3, pI 0)]) rfl ?_
      refine fR_behind_l21_ok E d a1 a2 _  (fun u14 h => ?_) FU _  _ h
      · refine g_aload_n (pc := 59) (j := 0) (dk d_mR_behind 32 rfl) rfl (by decide) ?_
        refine g_getR (pc := 60) (a := 73) rfl fp_R_93 po_46 (dk d_mR_behind 33 rfl) ?_
        refine g_iload_n (pc := 63) (j := 1) (dk d_mR_behind 34 rfl) rfl ?_
        refine h_iald (pc := 64) (B := 5) pa_73 rfl (dk d_mR_behind 35 rfl) h (fun h => ?_)
        refine h_bvI h (fun v3_15 h => ?_)
        refine g_istore_n (pc := 65) (l' := [(3, pI v3_15), (0, pR 46), (1, pI a1), (2, pI a2)]) (dk d_mR_behind 36 rfl) (Nat.le_of_ble_eq_true rfl) rfl ?_
        refine g_aload_n (pc := 66) (j := 1) (dk d_mR_behind 37 rfl) rfl (by decide) ?_
        refine g_getR (pc := 67) (a := 73) rfl fp_R_93 po_46 (dk d_mR_behind 38 rfl) ?_
        refine g_iload_n (pc := 70) (j := 2) (dk d_mR_behind 39 rfl) rfl ?_
        refine g_iload_n (pc := 71) (j := 3) (dk d_mR_behind 40 rfl) rfl ?_
        refine h_iast (pc := 72) (B := 5) pa_73 rfl (dk d_mR_behind 41 rfl) h (fun u16 h => ?_)
        refine g_iload_n (pc := 73) (j := 0) (dk d_mR_behind 42 rfl) rfl ?_
        exact h_iret (pc := 74) rfl (dk d_mR_behind 43 rfl) h
    · refine g_ldc (pc := 16) (u := (-2000000000)) ck_R_190 (by decide) (dk d_mR_behind 8 rfl) ?_
      exact h_iret (pc := 18) rfl (dk d_mR_behind 9 rfl) h
set_option maxRecDepth 100000 in
set_option maxHeartbeats 4000000 in
theorem kR_behind (E : Nat × (Int → Int)) (d : Nat) {a1 : Int} {a2 : Int} {w w1 : WD} {r : Int} (h : fR_behind a1 a2 w = some (r, w1)) : CTi E mR_behind (d + 4) [pR 46, pI a1, pI a2] w RF NN r w1 RF NN := by
  exact CTi_of (by decide +kernel) (Nat.le_of_ble_eq_true rfl) (Or.inl rfl) (gR_behind (res := (r, w1)) E d a1 a2 w h)
def fR_dance_l66_b (rec : Int → WD → Option (Int × WD)) (y1 : Int) (K0 : Int → WD → Option (Int × WD)) (x2 : Int) (w : WD) : Option (Int × WD) := if 3 ≤ x2 then (some ((-2), w)) else (ck (0 ≤ (w32 ((w32 (3 * y1)) + x2)) ∧ (w32 ((w32 (3 * y1)) + x2)) < 15) <| if (w 49 (w32 ((w32 (3 * y1)) + x2))) < 0 then (K0 x2 w) else (bv (w32 (x2 + 1)) <| fun (v2_6 : Int) => rec v2_6 w))
def fR_dance_l66 (y1 : Int) (K0 : Int → WD → Option (Int × WD)) : Nat → Int → WD → Option (Int × WD)
  | 0 => fun _ _ => none
  | k + 1 => fR_dance_l66_b ( fR_dance_l66 y1 K0 k) y1 K0
set_option maxRecDepth 100000 in
set_option maxHeartbeats 4000000 in
theorem fR_dance_l66_b_ok (E : Nat × (Int → Int)) (d : Nat) {res : Int × WD} {rec : Int → WD → Option (Int × WD)} (y1 : Int) (K0 : Int → WD → Option (Int × WD)) (hrec : ∀ (x2 : Int) (w : WD), rec x2 w = some res → G E mR_dance (d + 3) 66 [(0, pR 46), (1, pI y1), (2, pI x2)] [] w RF NN 0 0 (some (pI res.1), res.2, RF, NN)) (hK0 : ∀ (x2 : Int) (w : WD), K0 x2 w = some res → G E mR_dance (d + 3) 87 [(0, pR 46), (1, pI y1), (2, pI x2)] [] w RF NN 0 0 (some (pI res.1), res.2, RF, NN)) (x2 : Int) (w : WD) (h : fR_dance_l66_b rec y1 K0 x2 w = some res) : G E mR_dance (d + 3) 66 [(0, pR 46), (1, pI y1), (2, pI x2)] [] w RF NN 0 0 (some (pI res.1), res.2, RF, NN) := by
  unfold fR_dance_l66_b at h
  refine g_iload_n (pc := 66) (j := 2) (dk d_mR_dance 41 rfl) rfl ?_
  refine g_iconst (pc := 67) (dk d_mR_dance 42 rfl) (by decide) ?_
  refine h_icmp_ge (pc := 68) (tgt := 144) (dk d_mR_dance 43 rfl) rfl h (fun hc8 h => ?_) (fun hc8 h => ?_)
  · refine g_bipush (pc := 144) (dk d_mR_dance 92 rfl) (by decide) ?_
    exact h_iret (pc := 146) rfl (dk d_mR_dance 93 rfl) h
  · refine g_aload_n (pc := 71) (j := 0) (dk d_mR_dance 44 rfl) rfl (by decide) ?_
    refine g_getR (pc := 72) (a := 49) rfl fp_R_18 po_46 (dk d_mR_dance 45 rfl) ?_
    refine g_iconst (pc := 75) (dk d_mR_dance 46 rfl) (by decide) ?_
    refine g_iload_n (pc := 76) (j := 1) (dk d_mR_dance 47 rfl) rfl ?_
    refine g_imul (pc := 77) (dk d_mR_dance 48 rfl) ?_
    refine g_iload_n (pc := 78) (j := 2) (dk d_mR_dance 49 rfl) rfl ?_
    refine g_iadd (pc := 79) (dk d_mR_dance 50 rfl) ?_
    refine h_iald (pc := 80) (B := 15) pa_49 rfl (dk d_mR_dance 51 rfl) h (fun h => ?_)
    refine h_if_lt (pc := 81) (tgt := 87) (dk d_mR_dance 52 rfl) rfl h (fun hc7 h => ?_) (fun hc7 h => ?_)
    · exact hK0 _ _ h
    · refine g_goto (pc := 84) (tgt := 138) (dk d_mR_dance 53 rfl) rfl ?_
      refine h_iinc (pc := 138) (j := 2) (dk d_mR_dance 90 rfl) rfl (by decide) (Nat.le_of_ble_eq_true rfl) h (fun v2_6 h => ?_)
      refine g_loc (l' := [(2, pI v2_6), (0, pR 46), (1, pI y1)]) rfl ?_
      refine g_goto (pc := 141) (tgt := 66) (dk d_mR_dance 91 rfl) rfl ?_
      refine g_pick [1, 2, 0] rfl (l' := [(0, pR 46), (1, pI y1), (2, pI v2_6)]) rfl ?_
      exact hrec _ _ h
set_option maxRecDepth 100000 in
set_option maxHeartbeats 4000000 in
theorem fR_dance_l66_ok (E : Nat × (Int → Int)) (d : Nat) {res : Int × WD} (y1 : Int) (K0 : Int → WD → Option (Int × WD)) (hK0 : ∀ (x2 : Int) (w : WD), K0 x2 w = some res → G E mR_dance (d + 3) 87 [(0, pR 46), (1, pI y1), (2, pI x2)] [] w RF NN 0 0 (some (pI res.1), res.2, RF, NN)) : ∀ (k : Nat) (x2 : Int) (w : WD), fR_dance_l66 y1 K0 k x2 w = some res → G E mR_dance (d + 3) 66 [(0, pR 46), (1, pI y1), (2, pI x2)] [] w RF NN 0 0 (some (pI res.1), res.2, RF, NN) := by
  intro k
  induction k with
  | zero =>
    intro x2 w h
    exact no_e h
  | succ k ih =>
    intro x2 w h
    exact fR_dance_l66_b_ok E d y1 K0 ih hK0 x2 w h
def fR_dance (a1 : Int) (w : WD) : Option (Int × WD) := ci (fR_isMask a1 w) <| fun (r2 : Int) (u1 : WD) => if r2 ≠ 0 then (ck (0 ≤ a1 ∧ a1 < 5) <| if (u1 73 a1) < 0 then (some ((-5), u1)) else (if (w32 ((u1 46 49) + (u1 52 3))) ≤ 999 then (bw (up u1 46 49 (w32 ((u1 46 49) + (u1 52 3)))) <| fun (u4 : WD) => bw (up u4 75 0 (w32 ((u4 75 0) + 1))) <| fun (u5 : WD) => fR_dance_l66 a1 (fun (v2_9 : Int) (u10 : WD) => ck (0 ≤ a1 ∧ a1 < 5) <| jn (β := Int → WD → Option (Int × WD)) (fun (s11 : Int) (u12 : WD) => ck (0 ≤ (w32 ((w32 (3 * a1)) + v2_9)) ∧ (w32 ((w32 (3 * a1)) + v2_9)) < 15) <| bw (up u12 49 (w32 ((w32 (3 * a1)) + v2_9)) s11) <| fun (u13 : WD) => ck (0 ≤ (w32 ((w32 (3 * a1)) + v2_9)) ∧ (w32 ((w32 (3 * a1)) + v2_9)) < 15) <| some ((u13 49 (w32 ((w32 (3 * a1)) + v2_9))), u13)) <| fun J14 => if (u10 73 a1) ≠ 6 then (ck (0 ≤ a1 ∧ a1 < 5) <| ck (0 ≤ (w32 ((w32 (3 * (u10 73 a1))) + v2_9)) ∧ (w32 ((w32 (3 * (u10 73 a1))) + v2_9)) < 18) <| J14 (u10 47 (w32 ((w32 (3 * (u10 73 a1))) + v2_9))) u10) else (J14 3 u10)) FU 0 u5) else (some ((-5), u1)))) else (some ((-1), u1))
set_option maxRecDepth 100000 in
set_option maxHeartbeats 4000000 in
theorem gR_dance (E : Nat × (Int → Int)) (d : Nat) {res : Int × WD} (a1 : Int) (w : WD) (h : fR_dance a1 w = some res) : G E mR_dance (d + 3) 0 [(0, pR 46), (1, pI a1)] [] w RF NN 0 0 (some (pI res.1), res.2, RF, NN) := by
  unfold fR_dance at h
  refine g_aload_n (pc := 0) (j := 0) (dk d_mR_dance 0 rfl) rfl (by decide) ?_
  refine g_iload_n (pc := 1) (j := 1) (dk d_mR_dance 1 rfl) rfl ?_
  refine h_callVi (d := d + 2) (pc := 2) (na := 1) (av := [pI a1]) (k0 := 46) po_46 ⟨_, rfl⟩ ⟨rfl, rfl⟩ (dk d_mR_dance 2 rfl) lk_R_177 vm_mR_isMask rfl rfl (Nat.le_of_ble_eq_true rfl) h (fun r2 u1 hq => kR_isMask E (d + 0) hq) (fun r2 u1 hb3 h => ?_)
  refine h_if_ne (pc := 5) (tgt := 10) (dk d_mR_dance 3 rfl) rfl h (fun hc18 h => ?_) (fun hc18 h => ?_)
  · refine g_aload_n (pc := 10) (j := 0) (dk d_mR_dance 6 rfl) rfl (by decide) ?_
    refine g_getR (pc := 11) (a := 73) rfl fp_R_93 po_46 (dk d_mR_dance 7 rfl) ?_
    refine g_iload_n (pc := 14) (j := 1) (dk d_mR_dance 8 rfl) rfl ?_
    refine h_iald (pc := 15) (B := 5) pa_73 rfl (dk d_mR_dance 9 rfl) h (fun h => ?_)
    refine h_if_lt (pc := 16) (tgt := 36) (dk d_mR_dance 10 rfl) rfl h (fun hc17 h => ?_) (fun hc17 h => ?_)
    · refine g_bipush (pc := 36) (dk d_mR_dance 20 rfl) (by decide) ?_
      exact h_iret (pc := 38) rfl (dk d_mR_dance 21 rfl) h
    · refine g_aload_n (pc := 19) (j := 0) (dk d_mR_dance 11 rfl) rfl (by decide) ?_
      refine g_getI (pc := 20) fp_R_393 po_46 (dk d_mR_dance 12 rfl) ?_
      refine g_aload_n (pc := 23) (j := 0) (dk d_mR_dance 13 rfl) rfl (by decide) ?_
      refine g_getR (pc := 24) (a := 52) rfl fp_R_27 po_46 (dk d_mR_dance 14 rfl) ?_
      refine g_iconst (pc := 27) (dk d_mR_dance 15 rfl) (by decide) ?_
      refine g_iald (pc := 28) pa_52 (dk d_mR_dance 16 rfl) (by decide) ?_
      refine g_iadd (pc := 29) (dk d_mR_dance 17 rfl) ?_
      refine g_sipush (pc := 30) (dk d_mR_dance 18 rfl) (by decide) ?_
      refine h_icmp_le (pc := 33) (tgt := 39) (dk d_mR_dance 19 rfl) rfl h (fun hc16 h => ?_) (fun hc16 h => ?_)
      · refine g_aload_n (pc := 39) (j := 0) (dk d_mR_dance 22 rfl) rfl (by decide) ?_
        refine g_dup (pc := 40) (dk d_mR_dance 23 rfl) rfl ?_
        refine g_getI (pc := 41) fp_R_393 po_46 (dk d_mR_dance 24 rfl) ?_
        refine g_aload_n (pc := 44) (j := 0) (dk d_mR_dance 25 rfl) rfl (by decide) ?_
        refine g_getR (pc := 45) (a := 52) rfl fp_R_27 po_46 (dk d_mR_dance 26 rfl) ?_
        refine g_iconst (pc := 48) (dk d_mR_dance 27 rfl) (by decide) ?_
        refine g_iald (pc := 49) pa_52 (dk d_mR_dance 28 rfl) (by decide) ?_
        refine g_iadd (pc := 50) (dk d_mR_dance 29 rfl) ?_
        refine h_putI (pc := 51) fp_R_393 po_46 (dk d_mR_dance 30 rfl) h (fun u4 h => ?_)
        refine g_aload_n (pc := 54) (j := 0) (dk d_mR_dance 31 rfl) rfl (by decide) ?_
        refine g_getR (pc := 55) (a := 75) rfl fp_R_100 po_46 (dk d_mR_dance 32 rfl) ?_
        refine g_iconst (pc := 58) (dk d_mR_dance 33 rfl) (by decide) ?_
        refine g_dup2 (pc := 59) (dk d_mR_dance 34 rfl) rfl rfl ?_
        refine g_iald (pc := 60) pa_75 (dk d_mR_dance 35 rfl) (by decide) ?_
        refine g_iconst (pc := 61) (dk d_mR_dance 36 rfl) (by decide) ?_
        refine g_iadd (pc := 62) (dk d_mR_dance 37 rfl) ?_
        refine h_iast0 (pc := 63) pa_75 (dk d_mR_dance 38 rfl) (by decide) h (fun u5 h => ?_)
        refine g_iconst (pc := 64) (dk d_mR_dance 39 rfl) (by decide) ?_
        refine g_istore_n (pc := 65) (l' := [(2, pI 0), (0, pR 46), (1, pI a1)]) (dk d_mR_dance 40 rfl) (Nat.le_of_ble_eq_true rfl) rfl ?_
        refine g_pick [1, 2, 0] rfl (l' := [(0, pR 46), (1, pI a1), (2, pI 0)]) rfl ?_
        refine fR_dance_l66_ok E d a1 _  (fun v2_9 u10 h => ?_) FU _  _ h
        · refine g_aload_n (pc := 87) (j := 0) (dk d_mR_dance 54 rfl) rfl (by decide) ?_
          refine g_getR (pc := 88) (a := 49) rfl fp_R_18 po_46 (dk d_mR_dance 55 rfl) ?_
          refine g_iconst (pc := 91) (dk d_mR_dance 56 rfl) (by decide) ?_
          refine g_iload_n (pc := 92) (j := 1) (dk d_mR_dance 57 rfl) rfl ?_
          refine g_imul (pc := 93) (dk d_mR_dance 58 rfl) ?_
          refine g_iload_n (pc := 94) (j := 2) (dk d_mR_dance 59 rfl) rfl ?_
          refine g_iadd (pc := 95) (dk d_mR_dance 60 rfl) ?_
          refine g_aload_n (pc := 96) (j := 0) (dk d_mR_dance 61 rfl) rfl (by decide) ?_
          refine g_getR (pc := 97) (a := 73) rfl fp_R_93 po_46 (dk d_mR_dance 62 rfl) ?_
          refine g_iload_n (pc := 100) (j := 1) (dk d_mR_dance 63 rfl) rfl ?_
          refine h_iald (pc := 101) (B := 5) pa_73 rfl (dk d_mR_dance 64 rfl) h (fun h => ?_)
          refine g_bipush (pc := 102) (dk d_mR_dance 65 rfl) (by decide) ?_
          refine jn_e (fun J => ∀ (s11 : Int) (u12 : WD), J s11 u12 = some res → G E mR_dance (d + 3) 126 [(0, pR 46), (1, pI a1), (2, pI v2_9)] [pI s11, pI (w32 ((w32 (3 * a1)) + v2_9)), pR 49] u12 RF NN 0 0 (some (pI res.1), res.2, RF, NN)) h (fun s11 u12 h => ?_) (fun J14 hJ14 h => ?_)
          · refine h_iast (pc := 126) (B := 15) pa_49 rfl (dk d_mR_dance 80 rfl) h (fun u13 h => ?_)
            refine g_aload_n (pc := 127) (j := 0) (dk d_mR_dance 81 rfl) rfl (by decide) ?_
            refine g_getR (pc := 128) (a := 49) rfl fp_R_18 po_46 (dk d_mR_dance 82 rfl) ?_
            refine g_iconst (pc := 131) (dk d_mR_dance 83 rfl) (by decide) ?_
            refine g_iload_n (pc := 132) (j := 1) (dk d_mR_dance 84 rfl) rfl ?_
            refine g_imul (pc := 133) (dk d_mR_dance 85 rfl) ?_
            refine g_iload_n (pc := 134) (j := 2) (dk d_mR_dance 86 rfl) rfl ?_
            refine g_iadd (pc := 135) (dk d_mR_dance 87 rfl) ?_
            refine h_iald (pc := 136) (B := 15) pa_49 rfl (dk d_mR_dance 88 rfl) h (fun h => ?_)
            exact h_iret (pc := 137) rfl (dk d_mR_dance 89 rfl) h
          · refine h_icmp_ne (pc := 104) (tgt := 111) (dk d_mR_dance 66 rfl) rfl h (fun hc15 h => ?_) (fun hc15 h => ?_)
            · refine g_aload_n (pc := 111) (j := 0) (dk d_mR_dance 69 rfl) rfl (by decide) ?_
              refine g_getR (pc := 112) (a := 47) rfl fp_R_9 po_46 (dk d_mR_dance 70 rfl) ?_
              refine g_iconst (pc := 115) (dk d_mR_dance 71 rfl) (by decide) ?_
              refine g_aload_n (pc := 116) (j := 0) (dk d_mR_dance 72 rfl) rfl (by decide) ?_
              refine g_getR (pc := 117) (a := 73) rfl fp_R_93 po_46 (dk d_mR_dance 73 rfl) ?_
              refine g_iload_n (pc := 120) (j := 1) (dk d_mR_dance 74 rfl) rfl ?_
              refine h_iald (pc := 121) (B := 5) pa_73 rfl (dk d_mR_dance 75 rfl) h (fun h => ?_)
              refine g_imul (pc := 122) (dk d_mR_dance 76 rfl) ?_
              refine g_iload_n (pc := 123) (j := 2) (dk d_mR_dance 77 rfl) rfl ?_
              refine g_iadd (pc := 124) (dk d_mR_dance 78 rfl) ?_
              refine h_iald (pc := 125) (B := 18) pa_47 rfl (dk d_mR_dance 79 rfl) h (fun h => ?_)
              exact hJ14 _ _ h
            · refine g_iconst (pc := 107) (dk d_mR_dance 67 rfl) (by decide) ?_
              refine g_goto (pc := 108) (tgt := 126) (dk d_mR_dance 68 rfl) rfl ?_
              exact hJ14 _ _ h
      · refine g_bipush (pc := 36) (dk d_mR_dance 20 rfl) (by decide) ?_
        exact h_iret (pc := 38) rfl (dk d_mR_dance 21 rfl) h
  · refine g_iconst (pc := 8) (dk d_mR_dance 4 rfl) (by decide) ?_
    exact h_iret (pc := 9) rfl (dk d_mR_dance 5 rfl) h
set_option maxRecDepth 100000 in
set_option maxHeartbeats 4000000 in
theorem kR_dance (E : Nat × (Int → Int)) (d : Nat) {a1 : Int} {w w1 : WD} {r : Int} (h : fR_dance a1 w = some (r, w1)) : CTi E mR_dance (d + 3) [pR 46, pI a1] w RF NN r w1 RF NN := by
  exact CTi_of (by decide +kernel) (Nat.le_of_ble_eq_true rfl) (Or.inl rfl) (gR_dance (res := (r, w1)) E d a1 w h)
def fR_swap (a1 : Int) (w : WD) : Option (Int × WD) := if a1 < 0 then (some ((-1), w)) else (ci (fR_isMask (w32 (Int.tdiv a1 10)) w) <| fun (r2 : Int) (u1 : WD) => if r2 = 0 then (some ((-1), u1)) else (ci (fR_isMask (Int.tmod a1 10) u1) <| fun (r5 : Int) (u4 : WD) => if r5 = 0 then (some ((-1), u4)) else (if (w32 (Int.tdiv a1 10)) ≠ (Int.tmod a1 10) then (ck (0 ≤ (w32 (Int.tdiv a1 10)) ∧ (w32 (Int.tdiv a1 10)) < 5) <| if (u4 73 (w32 (Int.tdiv a1 10))) < 0 then (some ((-5), u4)) else (ck (0 ≤ (Int.tmod a1 10) ∧ (Int.tmod a1 10) < 5) <| if 0 ≤ (u4 73 (Int.tmod a1 10)) then (ck (0 ≤ (w32 (Int.tdiv a1 10)) ∧ (w32 (Int.tdiv a1 10)) < 5) <| bv (u4 73 (w32 (Int.tdiv a1 10))) <| fun (v2_7 : Int) => ck (0 ≤ (Int.tmod a1 10) ∧ (Int.tmod a1 10) < 5) <| ck (0 ≤ (w32 (Int.tdiv a1 10)) ∧ (w32 (Int.tdiv a1 10)) < 5) <| bw (up u4 73 (w32 (Int.tdiv a1 10)) (u4 73 (Int.tmod a1 10))) <| fun (u8 : WD) => ck (0 ≤ (Int.tmod a1 10) ∧ (Int.tmod a1 10) < 5) <| bw (up u8 73 (Int.tmod a1 10) v2_7) <| fun (u9 : WD) => bw (up u9 75 3 (w32 ((u9 75 3) + 1))) <| fun (u10 : WD) => some ((u10 75 3), u10)) else (some ((-5), u4)))) else (some ((-1), u4)))))
set_option maxRecDepth 100000 in
set_option maxHeartbeats 4000000 in
theorem gR_swap (E : Nat × (Int → Int)) (d : Nat) {res : Int × WD} (a1 : Int) (w : WD) (h : fR_swap a1 w = some res) : G E mR_swap (d + 3) 0 [(0, pR 46), (1, pI a1)] [] w RF NN 0 0 (some (pI res.1), res.2, RF, NN) := by
  unfold fR_swap at h
  refine g_iload_n (pc := 0) (j := 1) (dk d_mR_swap 0 rfl) rfl ?_
  refine h_if_lt (pc := 1) (tgt := 37) (dk d_mR_swap 1 rfl) rfl h (fun hc16 h => ?_) (fun hc16 h => ?_)
  · refine g_iconst (pc := 37) (dk d_mR_swap 21 rfl) (by decide) ?_
    exact h_iret (pc := 38) rfl (dk d_mR_swap 22 rfl) h
  · refine g_aload_n (pc := 4) (j := 0) (dk d_mR_swap 2 rfl) rfl (by decide) ?_
    refine g_iload_n (pc := 5) (j := 1) (dk d_mR_swap 3 rfl) rfl ?_
    refine g_bipush (pc := 6) (dk d_mR_swap 4 rfl) (by decide) ?_
    refine g_idiv (pc := 8) (dk d_mR_swap 5 rfl) (by decide) ?_
    refine h_callVi (d := d + 2) (pc := 9) (na := 1) (av := [pI (w32 (Int.tdiv a1 10))]) (k0 := 46) po_46 ⟨_, rfl⟩ ⟨rfl, rfl⟩ (dk d_mR_swap 6 rfl) lk_R_177 vm_mR_isMask rfl rfl (Nat.le_of_ble_eq_true rfl) h (fun r2 u1 hq => kR_isMask E (d + 0) hq) (fun r2 u1 hb3 h => ?_)
    refine h_if_eq (pc := 12) (tgt := 37) (dk d_mR_swap 7 rfl) rfl h (fun hc15 h => ?_) (fun hc15 h => ?_)
    · refine g_iconst (pc := 37) (dk d_mR_swap 21 rfl) (by decide) ?_
      exact h_iret (pc := 38) rfl (dk d_mR_swap 22 rfl) h
    · refine g_aload_n (pc := 15) (j := 0) (dk d_mR_swap 8 rfl) rfl (by decide) ?_
      refine g_iload_n (pc := 16) (j := 1) (dk d_mR_swap 9 rfl) rfl ?_
      refine g_bipush (pc := 17) (dk d_mR_swap 10 rfl) (by decide) ?_
      refine g_irem (pc := 19) (dk d_mR_swap 11 rfl) (by decide) ?_
      refine h_callVi (d := d + 2) (pc := 20) (na := 1) (av := [pI (Int.tmod a1 10)]) (k0 := 46) po_46 ⟨_, rfl⟩ ⟨rfl, rfl⟩ (dk d_mR_swap 12 rfl) lk_R_177 vm_mR_isMask rfl rfl (Nat.le_of_ble_eq_true rfl) h (fun r5 u4 hq => kR_isMask E (d + 0) hq) (fun r5 u4 hb6 h => ?_)
      refine h_if_eq (pc := 23) (tgt := 37) (dk d_mR_swap 13 rfl) rfl h (fun hc14 h => ?_) (fun hc14 h => ?_)
      · refine g_iconst (pc := 37) (dk d_mR_swap 21 rfl) (by decide) ?_
        exact h_iret (pc := 38) rfl (dk d_mR_swap 22 rfl) h
      · refine g_iload_n (pc := 26) (j := 1) (dk d_mR_swap 14 rfl) rfl ?_
        refine g_bipush (pc := 27) (dk d_mR_swap 15 rfl) (by decide) ?_
        refine g_idiv (pc := 29) (dk d_mR_swap 16 rfl) (by decide) ?_
        refine g_iload_n (pc := 30) (j := 1) (dk d_mR_swap 17 rfl) rfl ?_
        refine g_bipush (pc := 31) (dk d_mR_swap 18 rfl) (by decide) ?_
        refine g_irem (pc := 33) (dk d_mR_swap 19 rfl) (by decide) ?_
        refine h_icmp_ne (pc := 34) (tgt := 39) (dk d_mR_swap 20 rfl) rfl h (fun hc13 h => ?_) (fun hc13 h => ?_)
        · refine g_aload_n (pc := 39) (j := 0) (dk d_mR_swap 23 rfl) rfl (by decide) ?_
          refine g_getR (pc := 40) (a := 73) rfl fp_R_93 po_46 (dk d_mR_swap 24 rfl) ?_
          refine g_iload_n (pc := 43) (j := 1) (dk d_mR_swap 25 rfl) rfl ?_
          refine g_bipush (pc := 44) (dk d_mR_swap 26 rfl) (by decide) ?_
          refine g_idiv (pc := 46) (dk d_mR_swap 27 rfl) (by decide) ?_
          refine h_iald (pc := 47) (B := 5) pa_73 rfl (dk d_mR_swap 28 rfl) h (fun h => ?_)
          refine h_if_lt (pc := 48) (tgt := 63) (dk d_mR_swap 29 rfl) rfl h (fun hc12 h => ?_) (fun hc12 h => ?_)
          · refine g_bipush (pc := 63) (dk d_mR_swap 37 rfl) (by decide) ?_
            exact h_iret (pc := 65) rfl (dk d_mR_swap 38 rfl) h
          · refine g_aload_n (pc := 51) (j := 0) (dk d_mR_swap 30 rfl) rfl (by decide) ?_
            refine g_getR (pc := 52) (a := 73) rfl fp_R_93 po_46 (dk d_mR_swap 31 rfl) ?_
            refine g_iload_n (pc := 55) (j := 1) (dk d_mR_swap 32 rfl) rfl ?_
            refine g_bipush (pc := 56) (dk d_mR_swap 33 rfl) (by decide) ?_
            refine g_irem (pc := 58) (dk d_mR_swap 34 rfl) (by decide) ?_
            refine h_iald (pc := 59) (B := 5) pa_73 rfl (dk d_mR_swap 35 rfl) h (fun h => ?_)
            refine h_if_ge (pc := 60) (tgt := 66) (dk d_mR_swap 36 rfl) rfl h (fun hc11 h => ?_) (fun hc11 h => ?_)
            · refine g_aload_n (pc := 66) (j := 0) (dk d_mR_swap 39 rfl) rfl (by decide) ?_
              refine g_getR (pc := 67) (a := 73) rfl fp_R_93 po_46 (dk d_mR_swap 40 rfl) ?_
              refine g_iload_n (pc := 70) (j := 1) (dk d_mR_swap 41 rfl) rfl ?_
              refine g_bipush (pc := 71) (dk d_mR_swap 42 rfl) (by decide) ?_
              refine g_idiv (pc := 73) (dk d_mR_swap 43 rfl) (by decide) ?_
              refine h_iald (pc := 74) (B := 5) pa_73 rfl (dk d_mR_swap 44 rfl) h (fun h => ?_)
              refine h_bvI h (fun v2_7 h => ?_)
              refine g_istore_n (pc := 75) (l' := [(2, pI v2_7), (0, pR 46), (1, pI a1)]) (dk d_mR_swap 45 rfl) (Nat.le_of_ble_eq_true rfl) rfl ?_
              refine g_aload_n (pc := 76) (j := 1) (dk d_mR_swap 46 rfl) rfl (by decide) ?_
              refine g_getR (pc := 77) (a := 73) rfl fp_R_93 po_46 (dk d_mR_swap 47 rfl) ?_
              refine g_iload_n (pc := 80) (j := 2) (dk d_mR_swap 48 rfl) rfl ?_
              refine g_bipush (pc := 81) (dk d_mR_swap 49 rfl) (by decide) ?_
              refine g_idiv (pc := 83) (dk d_mR_swap 50 rfl) (by decide) ?_
              refine g_aload_n (pc := 84) (j := 1) (dk d_mR_swap 51 rfl) rfl (by decide) ?_
              refine g_getR (pc := 85) (a := 73) rfl fp_R_93 po_46 (dk d_mR_swap 52 rfl) ?_
              refine g_iload_n (pc := 88) (j := 2) (dk d_mR_swap 53 rfl) rfl ?_
              refine g_bipush (pc := 89) (dk d_mR_swap 54 rfl) (by decide) ?_
              refine g_irem (pc := 91) (dk d_mR_swap 55 rfl) (by decide) ?_
              refine h_iald (pc := 92) (B := 5) pa_73 rfl (dk d_mR_swap 56 rfl) h (fun h => ?_)
              refine h_iast (pc := 93) (B := 5) pa_73 rfl (dk d_mR_swap 57 rfl) h (fun u8 h => ?_)
              refine g_aload_n (pc := 94) (j := 1) (dk d_mR_swap 58 rfl) rfl (by decide) ?_
              refine g_getR (pc := 95) (a := 73) rfl fp_R_93 po_46 (dk d_mR_swap 59 rfl) ?_
              refine g_iload_n (pc := 98) (j := 2) (dk d_mR_swap 60 rfl) rfl ?_
              refine g_bipush (pc := 99) (dk d_mR_swap 61 rfl) (by decide) ?_
              refine g_irem (pc := 101) (dk d_mR_swap 62 rfl) (by decide) ?_
              refine g_iload_n (pc := 102) (j := 0) (dk d_mR_swap 63 rfl) rfl ?_
              refine h_iast (pc := 103) (B := 5) pa_73 rfl (dk d_mR_swap 64 rfl) h (fun u9 h => ?_)
              refine g_aload_n (pc := 104) (j := 1) (dk d_mR_swap 65 rfl) rfl (by decide) ?_
              refine g_getR (pc := 105) (a := 75) rfl fp_R_100 po_46 (dk d_mR_swap 66 rfl) ?_
              refine g_iconst (pc := 108) (dk d_mR_swap 67 rfl) (by decide) ?_
              refine g_dup2 (pc := 109) (dk d_mR_swap 68 rfl) rfl rfl ?_
              refine g_iald (pc := 110) pa_75 (dk d_mR_swap 69 rfl) (by decide) ?_
              refine g_iconst (pc := 111) (dk d_mR_swap 70 rfl) (by decide) ?_
              refine g_iadd (pc := 112) (dk d_mR_swap 71 rfl) ?_
              refine h_iast0 (pc := 113) pa_75 (dk d_mR_swap 72 rfl) (by decide) h (fun u10 h => ?_)
              refine g_aload_n (pc := 114) (j := 1) (dk d_mR_swap 73 rfl) rfl (by decide) ?_
              refine g_getR (pc := 115) (a := 75) rfl fp_R_100 po_46 (dk d_mR_swap 74 rfl) ?_
              refine g_iconst (pc := 118) (dk d_mR_swap 75 rfl) (by decide) ?_
              refine g_iald (pc := 119) pa_75 (dk d_mR_swap 76 rfl) (by decide) ?_
              exact h_iret (pc := 120) rfl (dk d_mR_swap 77 rfl) h
            · refine g_bipush (pc := 63) (dk d_mR_swap 37 rfl) (by decide) ?_
              exact h_iret (pc := 65) rfl (dk d_mR_swap 38 rfl) h
        · refine g_iconst (pc := 37) (dk d_mR_swap 21 rfl) (by decide) ?_
          exact h_iret (pc := 38) rfl (dk d_mR_swap 22 rfl) h
set_option maxRecDepth 100000 in
set_option maxHeartbeats 4000000 in
theorem kR_swap (E : Nat × (Int → Int)) (d : Nat) {a1 : Int} {w w1 : WD} {r : Int} (h : fR_swap a1 w = some (r, w1)) : CTi E mR_swap (d + 3) [pR 46, pI a1] w RF NN r w1 RF NN := by
  exact CTi_of (by decide +kernel) (Nat.le_of_ble_eq_true rfl) (Or.inl rfl) (gR_swap (res := (r, w1)) E d a1 w h)
def fR_bet (a1 : Int) (a2 : Int) (w : WD) : Option (Int × WD) := ci (fR_isMask a1 w) <| fun (r2 : Int) (u1 : WD) => if r2 = 0 then (some ((-1), u1)) else (ci (fR_isWho a2 u1) <| fun (r5 : Int) (u4 : WD) => if r5 ≠ 0 then (ck (0 ≤ a1 ∧ a1 < 5) <| if (u4 74 a1) ≠ 0 then (some ((-5), u4)) else (ck (0 ≤ a1 ∧ a1 < 5) <| if 0 ≤ (u4 73 a1) then (ck (0 ≤ a1 ∧ a1 < 5) <| bw (up u4 74 a1 (1 % 2)) <| fun (u7 : WD) => ck (0 ≤ a1 ∧ a1 < 5) <| jn (β := Int → WD → Option (Int × WD)) (fun (s8 : Int) (u9 : WD) => bw (up u9 75 1 (w32 ((u9 75 1) + s8))) <| fun (u10 : WD) => bw (up u10 75 2 (w32 ((u10 75 2) + 1))) <| fun (u11 : WD) => some (s8, u11)) <| fun J12 => if (u7 73 a1) ≠ a2 then (J12 0 u7) else (ci (fR_pointsAt (u7 46 49) u7) <| fun (r14 : Int) (u13 : WD) => J12 r14 u13)) else (some ((-5), u4)))) else (some ((-1), u4)))
set_option maxRecDepth 100000 in
set_option maxHeartbeats 4000000 in
theorem gR_bet (E : Nat × (Int → Int)) (d : Nat) {res : Int × WD} (a1 : Int) (a2 : Int) (w : WD) (h : fR_bet a1 a2 w = some res) : G E mR_bet (d + 4) 0 [(0, pR 46), (1, pI a1), (2, pI a2)] [] w RF NN 0 0 (some (pI res.1), res.2, RF, NN) := by
  unfold fR_bet at h
  refine g_aload_n (pc := 0) (j := 0) (dk d_mR_bet 0 rfl) rfl (by decide) ?_
  refine g_iload_n (pc := 1) (j := 1) (dk d_mR_bet 1 rfl) rfl ?_
  refine h_callVi (d := d + 3) (pc := 2) (na := 1) (av := [pI a1]) (k0 := 46) po_46 ⟨_, rfl⟩ ⟨rfl, rfl⟩ (dk d_mR_bet 2 rfl) lk_R_177 vm_mR_isMask rfl rfl (Nat.le_of_ble_eq_true rfl) h (fun r2 u1 hq => kR_isMask E (d + 1) hq) (fun r2 u1 hb3 h => ?_)
  refine h_if_eq (pc := 5) (tgt := 16) (dk d_mR_bet 3 rfl) rfl h (fun hc20 h => ?_) (fun hc20 h => ?_)
  · refine g_iconst (pc := 16) (dk d_mR_bet 8 rfl) (by decide) ?_
    exact h_iret (pc := 17) rfl (dk d_mR_bet 9 rfl) h
  · refine g_aload_n (pc := 8) (j := 0) (dk d_mR_bet 4 rfl) rfl (by decide) ?_
    refine g_iload_n (pc := 9) (j := 2) (dk d_mR_bet 5 rfl) rfl ?_
    refine h_callVi (d := d + 3) (pc := 10) (na := 1) (av := [pI a2]) (k0 := 46) po_46 ⟨_, rfl⟩ ⟨rfl, rfl⟩ (dk d_mR_bet 6 rfl) lk_R_265 vm_mR_isWho rfl rfl (Nat.le_of_ble_eq_true rfl) h (fun r5 u4 hq => kR_isWho E (d + 0) hq) (fun r5 u4 hb6 h => ?_)
    refine h_if_ne (pc := 13) (tgt := 18) (dk d_mR_bet 7 rfl) rfl h (fun hc19 h => ?_) (fun hc19 h => ?_)
    · refine g_aload_n (pc := 18) (j := 0) (dk d_mR_bet 10 rfl) rfl (by decide) ?_
      refine g_getR (pc := 19) (a := 74) rfl fp_R_96 po_46 (dk d_mR_bet 11 rfl) ?_
      refine g_iload_n (pc := 22) (j := 1) (dk d_mR_bet 12 rfl) rfl ?_
      refine h_zald (pc := 23) (B := 5) pa_74 rfl (dk d_mR_bet 13 rfl) h (fun h => ?_)
      refine h_if_ne (pc := 24) (tgt := 36) (dk d_mR_bet 14 rfl) rfl h (fun hc18 h => ?_) (fun hc18 h => ?_)
      · refine g_bipush (pc := 36) (dk d_mR_bet 20 rfl) (by decide) ?_
        exact h_iret (pc := 38) rfl (dk d_mR_bet 21 rfl) h
      · refine g_aload_n (pc := 27) (j := 0) (dk d_mR_bet 15 rfl) rfl (by decide) ?_
        refine g_getR (pc := 28) (a := 73) rfl fp_R_93 po_46 (dk d_mR_bet 16 rfl) ?_
        refine g_iload_n (pc := 31) (j := 1) (dk d_mR_bet 17 rfl) rfl ?_
        refine h_iald (pc := 32) (B := 5) pa_73 rfl (dk d_mR_bet 18 rfl) h (fun h => ?_)
        refine h_if_ge (pc := 33) (tgt := 39) (dk d_mR_bet 19 rfl) rfl h (fun hc17 h => ?_) (fun hc17 h => ?_)
        · refine g_aload_n (pc := 39) (j := 0) (dk d_mR_bet 22 rfl) rfl (by decide) ?_
          refine g_getR (pc := 40) (a := 74) rfl fp_R_96 po_46 (dk d_mR_bet 23 rfl) ?_
          refine g_iload_n (pc := 43) (j := 1) (dk d_mR_bet 24 rfl) rfl ?_
          refine g_iconst (pc := 44) (dk d_mR_bet 25 rfl) (by decide) ?_
          refine h_zast (pc := 45) (B := 5) pa_74 rfl (dk d_mR_bet 26 rfl) h (fun u7 h => ?_)
          refine g_aload_n (pc := 46) (j := 0) (dk d_mR_bet 27 rfl) rfl (by decide) ?_
          refine g_getR (pc := 47) (a := 73) rfl fp_R_93 po_46 (dk d_mR_bet 28 rfl) ?_
          refine g_iload_n (pc := 50) (j := 1) (dk d_mR_bet 29 rfl) rfl ?_
          refine h_iald (pc := 51) (B := 5) pa_73 rfl (dk d_mR_bet 30 rfl) h (fun h => ?_)
          refine g_iload_n (pc := 52) (j := 2) (dk d_mR_bet 31 rfl) rfl ?_
          refine jn_e (fun J => ∀ (s8 : Int) (u9 : WD), J s8 u9 = some res → G E mR_bet (d + 4) 68 [(0, pR 46)] [pI s8] u9 RF NN 0 0 (some (pI res.1), res.2, RF, NN)) h (fun s8 u9 h => ?_) (fun J12 hJ12 h => ?_)
          · refine g_istore_n (pc := 68) (l' := [(3, pI s8), (0, pR 46)]) (dk d_mR_bet 39 rfl) (Nat.le_of_ble_eq_true rfl) rfl ?_
            refine g_aload_n (pc := 69) (j := 1) (dk d_mR_bet 40 rfl) rfl (by decide) ?_
            refine g_getR (pc := 70) (a := 75) rfl fp_R_100 po_46 (dk d_mR_bet 41 rfl) ?_
            refine g_iconst (pc := 73) (dk d_mR_bet 42 rfl) (by decide) ?_
            refine g_dup2 (pc := 74) (dk d_mR_bet 43 rfl) rfl rfl ?_
            refine g_iald (pc := 75) pa_75 (dk d_mR_bet 44 rfl) (by decide) ?_
            refine g_iload_n (pc := 76) (j := 0) (dk d_mR_bet 45 rfl) rfl ?_
            refine g_iadd (pc := 77) (dk d_mR_bet 46 rfl) ?_
            refine h_iast0 (pc := 78) pa_75 (dk d_mR_bet 47 rfl) (by decide) h (fun u10 h => ?_)
            refine g_aload_n (pc := 79) (j := 1) (dk d_mR_bet 48 rfl) rfl (by decide) ?_
            refine g_getR (pc := 80) (a := 75) rfl fp_R_100 po_46 (dk d_mR_bet 49 rfl) ?_
            refine g_iconst (pc := 83) (dk d_mR_bet 50 rfl) (by decide) ?_
            refine g_dup2 (pc := 84) (dk d_mR_bet 51 rfl) rfl rfl ?_
            refine g_iald (pc := 85) pa_75 (dk d_mR_bet 52 rfl) (by decide) ?_
            refine g_iconst (pc := 86) (dk d_mR_bet 53 rfl) (by decide) ?_
            refine g_iadd (pc := 87) (dk d_mR_bet 54 rfl) ?_
            refine h_iast0 (pc := 88) pa_75 (dk d_mR_bet 55 rfl) (by decide) h (fun u11 h => ?_)
            refine g_iload_n (pc := 89) (j := 0) (dk d_mR_bet 56 rfl) rfl ?_
            exact h_iret (pc := 90) rfl (dk d_mR_bet 57 rfl) h
          · refine h_icmp_ne (pc := 53) (tgt := 67) (dk d_mR_bet 32 rfl) rfl h (fun hc16 h => ?_) (fun hc16 h => ?_)
            · refine g_iconst (pc := 67) (dk d_mR_bet 38 rfl) (by decide) ?_
              refine g_pick [0] rfl (l' := [(0, pR 46)]) rfl ?_
              exact hJ12 _ _ h
            · refine g_aload_n (pc := 56) (j := 0) (dk d_mR_bet 33 rfl) rfl (by decide) ?_
              refine g_aload_n (pc := 57) (j := 0) (dk d_mR_bet 34 rfl) rfl (by decide) ?_
              refine g_getI (pc := 58) fp_R_393 po_46 (dk d_mR_bet 35 rfl) ?_
              refine h_callVi (d := d + 3) (pc := 61) (na := 1) (av := [pI (u7 46 49)]) (k0 := 46) po_46 ⟨_, rfl⟩ ⟨rfl, rfl⟩ (dk d_mR_bet 36 rfl) lk_R_332 vm_mR_pointsAt rfl rfl (Nat.le_of_ble_eq_true rfl) h (fun r14 u13 hq => kR_pointsAt E (d + 2) hq) (fun r14 u13 hb15 h => ?_)
              refine g_goto (pc := 64) (tgt := 68) (dk d_mR_bet 37 rfl) rfl ?_
              refine g_pick [0] rfl (l' := [(0, pR 46)]) rfl ?_
              exact hJ12 _ _ h
        · refine g_bipush (pc := 36) (dk d_mR_bet 20 rfl) (by decide) ?_
          exact h_iret (pc := 38) rfl (dk d_mR_bet 21 rfl) h
    · refine g_iconst (pc := 16) (dk d_mR_bet 8 rfl) (by decide) ?_
      exact h_iret (pc := 17) rfl (dk d_mR_bet 9 rfl) h
set_option maxRecDepth 100000 in
set_option maxHeartbeats 4000000 in
theorem kR_bet (E : Nat × (Int → Int)) (d : Nat) {a1 : Int} {a2 : Int} {w w1 : WD} {r : Int} (h : fR_bet a1 a2 w = some (r, w1)) : CTi E mR_bet (d + 4) [pR 46, pI a1, pI a2] w RF NN r w1 RF NN := by
  exact CTi_of (by decide +kernel) (Nat.le_of_ble_eq_true rfl) (Or.inl rfl) (gR_bet (res := (r, w1)) E d a1 a2 w h)
def fR_led (a1 : Int) (w : WD) : Option (Int × WD) := if a1 ≠ 0 then (ci (fR_in a1 1 4 w) <| fun (r2 : Int) (u1 : WD) => if r2 = 0 then (some ((-1), u1)) else (ck (0 ≤ (w32 (a1 - 1)) ∧ (w32 (a1 - 1)) < 4) <| some ((u1 75 (w32 (a1 - 1))), u1))) else (some ((w 46 49), w))
set_option maxRecDepth 100000 in
set_option maxHeartbeats 4000000 in
theorem gR_led (E : Nat × (Int → Int)) (d : Nat) {res : Int × WD} (a1 : Int) (w : WD) (h : fR_led a1 w = some res) : G E mR_led (d + 2) 0 [(0, pR 46), (1, pI a1)] [] w RF NN 0 0 (some (pI res.1), res.2, RF, NN) := by
  unfold fR_led at h
  refine g_iload_n (pc := 0) (j := 1) (dk d_mR_led 0 rfl) rfl ?_
  refine h_if_ne (pc := 1) (tgt := 11) (dk d_mR_led 1 rfl) rfl h (fun hc5 h => ?_) (fun hc5 h => ?_)
  · refine g_iload_n (pc := 11) (j := 1) (dk d_mR_led 5 rfl) rfl ?_
    refine g_iconst (pc := 12) (dk d_mR_led 6 rfl) (by decide) ?_
    refine g_iconst (pc := 13) (dk d_mR_led 7 rfl) (by decide) ?_
    refine h_callSi (d := d + 1) (pc := 14) (na := 3) (av := [pI a1, pI 1, pI 4]) ⟨rfl, rfl⟩ (dk d_mR_led 8 rfl) lk_R_140 vm_mR_in rfl rfl (Nat.le_of_ble_eq_true rfl) h (fun r2 u1 hq => kR_in E (d + 0) hq) (fun r2 u1 hb3 h => ?_)
    refine h_if_eq (pc := 17) (tgt := 31) (dk d_mR_led 9 rfl) rfl h (fun hc4 h => ?_) (fun hc4 h => ?_)
    · refine g_iconst (pc := 31) (dk d_mR_led 17 rfl) (by decide) ?_
      exact h_iret (pc := 32) rfl (dk d_mR_led 18 rfl) h
    · refine g_aload_n (pc := 20) (j := 0) (dk d_mR_led 10 rfl) rfl (by decide) ?_
      refine g_getR (pc := 21) (a := 75) rfl fp_R_100 po_46 (dk d_mR_led 11 rfl) ?_
      refine g_iload_n (pc := 24) (j := 1) (dk d_mR_led 12 rfl) rfl ?_
      refine g_iconst (pc := 25) (dk d_mR_led 13 rfl) (by decide) ?_
      refine g_isub (pc := 26) (dk d_mR_led 14 rfl) ?_
      refine h_iald (pc := 27) (B := 4) pa_75 rfl (dk d_mR_led 15 rfl) h (fun h => ?_)
      refine g_goto (pc := 28) (tgt := 32) (dk d_mR_led 16 rfl) rfl ?_
      exact h_iret (pc := 32) rfl (dk d_mR_led 18 rfl) h
  · refine g_aload_n (pc := 4) (j := 0) (dk d_mR_led 2 rfl) rfl (by decide) ?_
    refine g_getI (pc := 5) fp_R_393 po_46 (dk d_mR_led 3 rfl) ?_
    refine g_goto (pc := 8) (tgt := 32) (dk d_mR_led 4 rfl) rfl ?_
    exact h_iret (pc := 32) rfl (dk d_mR_led 18 rfl) h
set_option maxRecDepth 100000 in
set_option maxHeartbeats 4000000 in
theorem kR_led (E : Nat × (Int → Int)) (d : Nat) {a1 : Int} {w w1 : WD} {r : Int} (h : fR_led a1 w = some (r, w1)) : CTi E mR_led (d + 2) [pR 46, pI a1] w RF NN r w1 RF NN := by
  exact CTi_of (by decide +kernel) (Nat.le_of_ble_eq_true rfl) (Or.inl rfl) (gR_led (res := (r, w1)) E d a1 w h)
def fR_image_l23_b (rec : Int → WD → Option (Int × WD)) (K0 : WD → Option (Int × WD)) (x1 : Int) (w : WD) : Option (Int × WD) := if (w32 (3 * (w 46 4))) ≤ x1 then (K0 w) else (ck (0 ≤ x1 ∧ x1 < 15) <| ck (0 ≤ x1 ∧ x1 < 15) <| bw (up w 76 x1 (w 49 x1)) <| fun (u4 : WD) => bv (w32 (x1 + 1)) <| fun (v1_5 : Int) => rec v1_5 u4)
def fR_image_l23 (K0 : WD → Option (Int × WD)) : Nat → Int → WD → Option (Int × WD)
  | 0 => fun _ _ => none
  | k + 1 => fR_image_l23_b ( fR_image_l23 K0 k) K0
set_option maxRecDepth 100000 in
set_option maxHeartbeats 4000000 in
theorem fR_image_l23_b_ok (E : Nat × (Int → Int)) (d : Nat) {res : Int × WD} {rec : Int → WD → Option (Int × WD)} (K0 : WD → Option (Int × WD)) (hrec : ∀ (x1 : Int) (w : WD), rec x1 w = some res → G E mR_image (d + 1) 23 [(0, pR 46), (1, pI x1)] [] w RF NN 0 0 (some (pI res.1), res.2, RF, NN)) (hK0 : ∀ (w : WD), K0 w = some res → G E mR_image (d + 1) 51 [(0, pR 46)] [] w RF NN 0 0 (some (pI res.1), res.2, RF, NN)) (x1 : Int) (w : WD) (h : fR_image_l23_b rec K0 x1 w = some res) : G E mR_image (d + 1) 23 [(0, pR 46), (1, pI x1)] [] w RF NN 0 0 (some (pI res.1), res.2, RF, NN) := by
  unfold fR_image_l23_b at h
  refine g_iload_n (pc := 23) (j := 1) (dk d_mR_image 13 rfl) rfl ?_
  refine g_iconst (pc := 24) (dk d_mR_image 14 rfl) (by decide) ?_
  refine g_aload_n (pc := 25) (j := 0) (dk d_mR_image 15 rfl) rfl (by decide) ?_
  refine g_getI (pc := 26) fp_R_144 po_46 (dk d_mR_image 16 rfl) ?_
  refine g_imul (pc := 29) (dk d_mR_image 17 rfl) ?_
  refine h_icmp_ge (pc := 30) (tgt := 51) (dk d_mR_image 18 rfl) rfl h (fun hc6 h => ?_) (fun hc6 h => ?_)
  · refine g_pick [0] rfl (l' := [(0, pR 46)]) rfl ?_
    exact hK0 _ h
  · refine g_aload_n (pc := 33) (j := 0) (dk d_mR_image 19 rfl) rfl (by decide) ?_
    refine g_getR (pc := 34) (a := 76) rfl fp_R_103 po_46 (dk d_mR_image 20 rfl) ?_
    refine g_iload_n (pc := 37) (j := 1) (dk d_mR_image 21 rfl) rfl ?_
    refine g_aload_n (pc := 38) (j := 0) (dk d_mR_image 22 rfl) rfl (by decide) ?_
    refine g_getR (pc := 39) (a := 49) rfl fp_R_18 po_46 (dk d_mR_image 23 rfl) ?_
    refine g_iload_n (pc := 42) (j := 1) (dk d_mR_image 24 rfl) rfl ?_
    refine h_iald (pc := 43) (B := 15) pa_49 rfl (dk d_mR_image 25 rfl) h (fun h => ?_)
    refine h_iast (pc := 44) (B := 15) pa_76 rfl (dk d_mR_image 26 rfl) h (fun u4 h => ?_)
    refine h_iinc (pc := 45) (j := 1) (dk d_mR_image 27 rfl) rfl (by decide) (Nat.le_of_ble_eq_true rfl) h (fun v1_5 h => ?_)
    refine g_loc (l' := [(1, pI v1_5), (0, pR 46)]) rfl ?_
    refine g_goto (pc := 48) (tgt := 23) (dk d_mR_image 28 rfl) rfl ?_
    refine g_pick [1, 0] rfl (l' := [(0, pR 46), (1, pI v1_5)]) rfl ?_
    exact hrec _ _ h
set_option maxRecDepth 100000 in
set_option maxHeartbeats 4000000 in
theorem fR_image_l23_ok (E : Nat × (Int → Int)) (d : Nat) {res : Int × WD} (K0 : WD → Option (Int × WD)) (hK0 : ∀ (w : WD), K0 w = some res → G E mR_image (d + 1) 51 [(0, pR 46)] [] w RF NN 0 0 (some (pI res.1), res.2, RF, NN)) : ∀ (k : Nat) (x1 : Int) (w : WD), fR_image_l23 K0 k x1 w = some res → G E mR_image (d + 1) 23 [(0, pR 46), (1, pI x1)] [] w RF NN 0 0 (some (pI res.1), res.2, RF, NN) := by
  intro k
  induction k with
  | zero =>
    intro x1 w h
    exact no_e h
  | succ k ih =>
    intro x1 w h
    exact fR_image_l23_b_ok E d K0 ih hK0 x1 w h
def fR_image_l53_b (rec : Int → WD → Option (Int × WD)) (K0 : WD → Option (Int × WD)) (x1 : Int) (w : WD) : Option (Int × WD) := if (w 46 4) ≤ x1 then (K0 w) else (ck (0 ≤ x1 ∧ x1 < 5) <| ck (0 ≤ x1 ∧ x1 < 5) <| bw (up w 77 x1 (w 73 x1)) <| fun (u8 : WD) => ck (0 ≤ x1 ∧ x1 < 5) <| ck (0 ≤ x1 ∧ x1 < 5) <| bw (up u8 78 x1 ((u8 74 x1) % 2)) <| fun (u9 : WD) => bv (w32 (x1 + 1)) <| fun (v1_10 : Int) => rec v1_10 u9)
def fR_image_l53 (K0 : WD → Option (Int × WD)) : Nat → Int → WD → Option (Int × WD)
  | 0 => fun _ _ => none
  | k + 1 => fR_image_l53_b ( fR_image_l53 K0 k) K0
set_option maxRecDepth 100000 in
set_option maxHeartbeats 4000000 in
theorem fR_image_l53_b_ok (E : Nat × (Int → Int)) (d : Nat) {res : Int × WD} {rec : Int → WD → Option (Int × WD)} (K0 : WD → Option (Int × WD)) (hrec : ∀ (x1 : Int) (w : WD), rec x1 w = some res → G E mR_image (d + 1) 53 [(0, pR 46), (1, pI x1)] [] w RF NN 0 0 (some (pI res.1), res.2, RF, NN)) (hK0 : ∀ (w : WD), K0 w = some res → G E mR_image (d + 1) 91 [(0, pR 46)] [] w RF NN 0 0 (some (pI res.1), res.2, RF, NN)) (x1 : Int) (w : WD) (h : fR_image_l53_b rec K0 x1 w = some res) : G E mR_image (d + 1) 53 [(0, pR 46), (1, pI x1)] [] w RF NN 0 0 (some (pI res.1), res.2, RF, NN) := by
  unfold fR_image_l53_b at h
  refine g_iload_n (pc := 53) (j := 1) (dk d_mR_image 31 rfl) rfl ?_
  refine g_aload_n (pc := 54) (j := 0) (dk d_mR_image 32 rfl) rfl (by decide) ?_
  refine g_getI (pc := 55) fp_R_144 po_46 (dk d_mR_image 33 rfl) ?_
  refine h_icmp_ge (pc := 58) (tgt := 91) (dk d_mR_image 34 rfl) rfl h (fun hc11 h => ?_) (fun hc11 h => ?_)
  · refine g_pick [0] rfl (l' := [(0, pR 46)]) rfl ?_
    exact hK0 _ h
  · refine g_aload_n (pc := 61) (j := 0) (dk d_mR_image 35 rfl) rfl (by decide) ?_
    refine g_getR (pc := 62) (a := 77) rfl fp_R_106 po_46 (dk d_mR_image 36 rfl) ?_
    refine g_iload_n (pc := 65) (j := 1) (dk d_mR_image 37 rfl) rfl ?_
    refine g_aload_n (pc := 66) (j := 0) (dk d_mR_image 38 rfl) rfl (by decide) ?_
    refine g_getR (pc := 67) (a := 73) rfl fp_R_93 po_46 (dk d_mR_image 39 rfl) ?_
    refine g_iload_n (pc := 70) (j := 1) (dk d_mR_image 40 rfl) rfl ?_
    refine h_iald (pc := 71) (B := 5) pa_73 rfl (dk d_mR_image 41 rfl) h (fun h => ?_)
    refine h_iast (pc := 72) (B := 5) pa_77 rfl (dk d_mR_image 42 rfl) h (fun u8 h => ?_)
    refine g_aload_n (pc := 73) (j := 0) (dk d_mR_image 43 rfl) rfl (by decide) ?_
    refine g_getR (pc := 74) (a := 78) rfl fp_R_109 po_46 (dk d_mR_image 44 rfl) ?_
    refine g_iload_n (pc := 77) (j := 1) (dk d_mR_image 45 rfl) rfl ?_
    refine g_aload_n (pc := 78) (j := 0) (dk d_mR_image 46 rfl) rfl (by decide) ?_
    refine g_getR (pc := 79) (a := 74) rfl fp_R_96 po_46 (dk d_mR_image 47 rfl) ?_
    refine g_iload_n (pc := 82) (j := 1) (dk d_mR_image 48 rfl) rfl ?_
    refine h_zald (pc := 83) (B := 5) pa_74 rfl (dk d_mR_image 49 rfl) h (fun h => ?_)
    refine h_zast (pc := 84) (B := 5) pa_78 rfl (dk d_mR_image 50 rfl) h (fun u9 h => ?_)
    refine h_iinc (pc := 85) (j := 1) (dk d_mR_image 51 rfl) rfl (by decide) (Nat.le_of_ble_eq_true rfl) h (fun v1_10 h => ?_)
    refine g_loc (l' := [(1, pI v1_10), (0, pR 46)]) rfl ?_
    refine g_goto (pc := 88) (tgt := 53) (dk d_mR_image 52 rfl) rfl ?_
    refine g_pick [1, 0] rfl (l' := [(0, pR 46), (1, pI v1_10)]) rfl ?_
    exact hrec _ _ h
set_option maxRecDepth 100000 in
set_option maxHeartbeats 4000000 in
theorem fR_image_l53_ok (E : Nat × (Int → Int)) (d : Nat) {res : Int × WD} (K0 : WD → Option (Int × WD)) (hK0 : ∀ (w : WD), K0 w = some res → G E mR_image (d + 1) 91 [(0, pR 46)] [] w RF NN 0 0 (some (pI res.1), res.2, RF, NN)) : ∀ (k : Nat) (x1 : Int) (w : WD), fR_image_l53 K0 k x1 w = some res → G E mR_image (d + 1) 53 [(0, pR 46), (1, pI x1)] [] w RF NN 0 0 (some (pI res.1), res.2, RF, NN) := by
  intro k
  induction k with
  | zero =>
    intro x1 w h
    exact no_e h
  | succ k ih =>
    intro x1 w h
    exact fR_image_l53_b_ok E d K0 ih hK0 x1 w h
def fR_image_l93_b (rec : Int → WD → Option (Int × WD)) (K0 : WD → Option (Int × WD)) (x1 : Int) (w : WD) : Option (Int × WD) := if 4 ≤ x1 then (K0 w) else (ck (0 ≤ x1 ∧ x1 < 4) <| ck (0 ≤ x1 ∧ x1 < 4) <| bw (up w 79 x1 (w 75 x1)) <| fun (u13 : WD) => bv (w32 (x1 + 1)) <| fun (v1_14 : Int) => rec v1_14 u13)
def fR_image_l93 (K0 : WD → Option (Int × WD)) : Nat → Int → WD → Option (Int × WD)
  | 0 => fun _ _ => none
  | k + 1 => fR_image_l93_b ( fR_image_l93 K0 k) K0
set_option maxRecDepth 100000 in
set_option maxHeartbeats 4000000 in
theorem fR_image_l93_b_ok (E : Nat × (Int → Int)) (d : Nat) {res : Int × WD} {rec : Int → WD → Option (Int × WD)} (K0 : WD → Option (Int × WD)) (hrec : ∀ (x1 : Int) (w : WD), rec x1 w = some res → G E mR_image (d + 1) 93 [(0, pR 46), (1, pI x1)] [] w RF NN 0 0 (some (pI res.1), res.2, RF, NN)) (hK0 : ∀ (w : WD), K0 w = some res → G E mR_image (d + 1) 116 [(0, pR 46)] [] w RF NN 0 0 (some (pI res.1), res.2, RF, NN)) (x1 : Int) (w : WD) (h : fR_image_l93_b rec K0 x1 w = some res) : G E mR_image (d + 1) 93 [(0, pR 46), (1, pI x1)] [] w RF NN 0 0 (some (pI res.1), res.2, RF, NN) := by
  unfold fR_image_l93_b at h
  refine g_iload_n (pc := 93) (j := 1) (dk d_mR_image 55 rfl) rfl ?_
  refine g_iconst (pc := 94) (dk d_mR_image 56 rfl) (by decide) ?_
  refine h_icmp_ge (pc := 95) (tgt := 116) (dk d_mR_image 57 rfl) rfl h (fun hc15 h => ?_) (fun hc15 h => ?_)
  · refine g_pick [0] rfl (l' := [(0, pR 46)]) rfl ?_
    exact hK0 _ h
  · refine g_aload_n (pc := 98) (j := 0) (dk d_mR_image 58 rfl) rfl (by decide) ?_
    refine g_getR (pc := 99) (a := 79) rfl fp_R_112 po_46 (dk d_mR_image 59 rfl) ?_
    refine g_iload_n (pc := 102) (j := 1) (dk d_mR_image 60 rfl) rfl ?_
    refine g_aload_n (pc := 103) (j := 0) (dk d_mR_image 61 rfl) rfl (by decide) ?_
    refine g_getR (pc := 104) (a := 75) rfl fp_R_100 po_46 (dk d_mR_image 62 rfl) ?_
    refine g_iload_n (pc := 107) (j := 1) (dk d_mR_image 63 rfl) rfl ?_
    refine h_iald (pc := 108) (B := 4) pa_75 rfl (dk d_mR_image 64 rfl) h (fun h => ?_)
    refine h_iast (pc := 109) (B := 4) pa_79 rfl (dk d_mR_image 65 rfl) h (fun u13 h => ?_)
    refine h_iinc (pc := 110) (j := 1) (dk d_mR_image 66 rfl) rfl (by decide) (Nat.le_of_ble_eq_true rfl) h (fun v1_14 h => ?_)
    refine g_loc (l' := [(1, pI v1_14), (0, pR 46)]) rfl ?_
    refine g_goto (pc := 113) (tgt := 93) (dk d_mR_image 67 rfl) rfl ?_
    refine g_pick [1, 0] rfl (l' := [(0, pR 46), (1, pI v1_14)]) rfl ?_
    exact hrec _ _ h
set_option maxRecDepth 100000 in
set_option maxHeartbeats 4000000 in
theorem fR_image_l93_ok (E : Nat × (Int → Int)) (d : Nat) {res : Int × WD} (K0 : WD → Option (Int × WD)) (hK0 : ∀ (w : WD), K0 w = some res → G E mR_image (d + 1) 116 [(0, pR 46)] [] w RF NN 0 0 (some (pI res.1), res.2, RF, NN)) : ∀ (k : Nat) (x1 : Int) (w : WD), fR_image_l93 K0 k x1 w = some res → G E mR_image (d + 1) 93 [(0, pR 46), (1, pI x1)] [] w RF NN 0 0 (some (pI res.1), res.2, RF, NN) := by
  intro k
  induction k with
  | zero =>
    intro x1 w h
    exact no_e h
  | succ k ih =>
    intro x1 w h
    exact fR_image_l93_b_ok E d K0 ih hK0 x1 w h
def fR_image (w : WD) : Option (Int × WD) := bw (up w 46 51 1) <| fun (u1 : WD) => bw (up u1 46 52 (u1 46 4)) <| fun (u2 : WD) => bw (up u2 46 53 (u2 46 49)) <| fun (u3 : WD) => fR_image_l23 (fun (u7 : WD) => fR_image_l53 (fun (u12 : WD) => fR_image_l93 (fun (u16 : WD) => some ((u16 46 49), u16)) FU 0 u12) FU 0 u7) FU 0 u3
set_option maxRecDepth 100000 in
set_option maxHeartbeats 4000000 in
theorem gR_image (E : Nat × (Int → Int)) (d : Nat) {res : Int × WD} (w : WD) (h : fR_image w = some res) : G E mR_image (d + 1) 0 [(0, pR 46)] [] w RF NN 0 0 (some (pI res.1), res.2, RF, NN) := by
  unfold fR_image at h
  refine g_aload_n (pc := 0) (j := 0) (dk d_mR_image 0 rfl) rfl (by decide) ?_
  refine g_iconst (pc := 1) (dk d_mR_image 1 rfl) (by decide) ?_
  refine h_putZ (pc := 2) fp_R_396 po_46 (Or.inr rfl) (dk d_mR_image 2 rfl) h (fun u1 h => ?_)
  refine g_aload_n (pc := 5) (j := 0) (dk d_mR_image 3 rfl) rfl (by decide) ?_
  refine g_aload_n (pc := 6) (j := 0) (dk d_mR_image 4 rfl) rfl (by decide) ?_
  refine g_getI (pc := 7) fp_R_144 po_46 (dk d_mR_image 5 rfl) ?_
  refine h_putI (pc := 10) fp_R_399 po_46 (dk d_mR_image 6 rfl) h (fun u2 h => ?_)
  refine g_aload_n (pc := 13) (j := 0) (dk d_mR_image 7 rfl) rfl (by decide) ?_
  refine g_aload_n (pc := 14) (j := 0) (dk d_mR_image 8 rfl) rfl (by decide) ?_
  refine g_getI (pc := 15) fp_R_393 po_46 (dk d_mR_image 9 rfl) ?_
  refine h_putI (pc := 18) fp_R_402 po_46 (dk d_mR_image 10 rfl) h (fun u3 h => ?_)
  refine g_iconst (pc := 21) (dk d_mR_image 11 rfl) (by decide) ?_
  refine g_istore_n (pc := 22) (l' := [(1, pI 0), (0, pR 46)]) (dk d_mR_image 12 rfl) (Nat.le_of_ble_eq_true rfl) rfl ?_
  refine g_pick [1, 0] rfl (l' := [(0, pR 46), (1, pI 0)]) rfl ?_
  refine fR_image_l23_ok E d _  (fun u7 h => ?_) FU _  _ h
  · refine g_iconst (pc := 51) (dk d_mR_image 29 rfl) (by decide) ?_
    refine g_istore_n (pc := 52) (l' := [(1, pI 0), (0, pR 46)]) (dk d_mR_image 30 rfl) (Nat.le_of_ble_eq_true rfl) rfl ?_
    refine g_pick [1, 0] rfl (l' := [(0, pR 46), (1, pI 0)]) rfl ?_
    refine fR_image_l53_ok E d _  (fun u12 h => ?_) FU _  _ h
    · refine g_iconst (pc := 91) (dk d_mR_image 53 rfl) (by decide) ?_
      refine g_istore_n (pc := 92) (l' := [(1, pI 0), (0, pR 46)]) (dk d_mR_image 54 rfl) (Nat.le_of_ble_eq_true rfl) rfl ?_
      refine g_pick [1, 0] rfl (l' := [(0, pR 46), (1, pI 0)]) rfl ?_
      refine fR_image_l93_ok E d _  (fun u16 h => ?_) FU _  _ h
      · refine g_aload_n (pc := 116) (j := 0) (dk d_mR_image 68 rfl) rfl (by decide) ?_
        refine g_getI (pc := 117) fp_R_393 po_46 (dk d_mR_image 69 rfl) ?_
        exact h_iret (pc := 120) rfl (dk d_mR_image 70 rfl) h
set_option maxRecDepth 100000 in
set_option maxHeartbeats 4000000 in
theorem kR_image (E : Nat × (Int → Int)) (d : Nat) {w w1 : WD} {r : Int} (h : fR_image w = some (r, w1)) : CTi E mR_image (d + 1) [pR 46] w RF NN r w1 RF NN := by
  exact CTi_of (by decide +kernel) (Nat.le_of_ble_eq_true rfl) (Or.inl rfl) (gR_image (res := (r, w1)) E d w h)
def fR_back_l20_b (rec : Int → WD → Option (Int × WD)) (K0 : WD → Option (Int × WD)) (x1 : Int) (w : WD) : Option (Int × WD) := if (w32 (3 * (w 46 52))) ≤ x1 then (K0 w) else (ck (0 ≤ x1 ∧ x1 < 15) <| ck (0 ≤ x1 ∧ x1 < 15) <| bw (up w 49 x1 (w 76 x1)) <| fun (u2 : WD) => bv (w32 (x1 + 1)) <| fun (v1_3 : Int) => rec v1_3 u2)
def fR_back_l20 (K0 : WD → Option (Int × WD)) : Nat → Int → WD → Option (Int × WD)
  | 0 => fun _ _ => none
  | k + 1 => fR_back_l20_b ( fR_back_l20 K0 k) K0
set_option maxRecDepth 100000 in
set_option maxHeartbeats 4000000 in
theorem fR_back_l20_b_ok (E : Nat × (Int → Int)) (d : Nat) {res : Int × WD} {rec : Int → WD → Option (Int × WD)} (K0 : WD → Option (Int × WD)) (hrec : ∀ (x1 : Int) (w : WD), rec x1 w = some res → G E mR_back (d + 1) 20 [(0, pR 46), (1, pI x1)] [] w RF NN 0 0 (some (pI res.1), res.2, RF, NN)) (hK0 : ∀ (w : WD), K0 w = some res → G E mR_back (d + 1) 48 [(0, pR 46)] [] w RF NN 0 0 (some (pI res.1), res.2, RF, NN)) (x1 : Int) (w : WD) (h : fR_back_l20_b rec K0 x1 w = some res) : G E mR_back (d + 1) 20 [(0, pR 46), (1, pI x1)] [] w RF NN 0 0 (some (pI res.1), res.2, RF, NN) := by
  unfold fR_back_l20_b at h
  refine g_iload_n (pc := 20) (j := 1) (dk d_mR_back 11 rfl) rfl ?_
  refine g_iconst (pc := 21) (dk d_mR_back 12 rfl) (by decide) ?_
  refine g_aload_n (pc := 22) (j := 0) (dk d_mR_back 13 rfl) rfl (by decide) ?_
  refine g_getI (pc := 23) fp_R_399 po_46 (dk d_mR_back 14 rfl) ?_
  refine g_imul (pc := 26) (dk d_mR_back 15 rfl) ?_
  refine h_icmp_ge (pc := 27) (tgt := 48) (dk d_mR_back 16 rfl) rfl h (fun hc4 h => ?_) (fun hc4 h => ?_)
  · refine g_pick [0] rfl (l' := [(0, pR 46)]) rfl ?_
    exact hK0 _ h
  · refine g_aload_n (pc := 30) (j := 0) (dk d_mR_back 17 rfl) rfl (by decide) ?_
    refine g_getR (pc := 31) (a := 49) rfl fp_R_18 po_46 (dk d_mR_back 18 rfl) ?_
    refine g_iload_n (pc := 34) (j := 1) (dk d_mR_back 19 rfl) rfl ?_
    refine g_aload_n (pc := 35) (j := 0) (dk d_mR_back 20 rfl) rfl (by decide) ?_
    refine g_getR (pc := 36) (a := 76) rfl fp_R_103 po_46 (dk d_mR_back 21 rfl) ?_
    refine g_iload_n (pc := 39) (j := 1) (dk d_mR_back 22 rfl) rfl ?_
    refine h_iald (pc := 40) (B := 15) pa_76 rfl (dk d_mR_back 23 rfl) h (fun h => ?_)
    refine h_iast (pc := 41) (B := 15) pa_49 rfl (dk d_mR_back 24 rfl) h (fun u2 h => ?_)
    refine h_iinc (pc := 42) (j := 1) (dk d_mR_back 25 rfl) rfl (by decide) (Nat.le_of_ble_eq_true rfl) h (fun v1_3 h => ?_)
    refine g_loc (l' := [(1, pI v1_3), (0, pR 46)]) rfl ?_
    refine g_goto (pc := 45) (tgt := 20) (dk d_mR_back 26 rfl) rfl ?_
    refine g_pick [1, 0] rfl (l' := [(0, pR 46), (1, pI v1_3)]) rfl ?_
    exact hrec _ _ h
set_option maxRecDepth 100000 in
set_option maxHeartbeats 4000000 in
theorem fR_back_l20_ok (E : Nat × (Int → Int)) (d : Nat) {res : Int × WD} (K0 : WD → Option (Int × WD)) (hK0 : ∀ (w : WD), K0 w = some res → G E mR_back (d + 1) 48 [(0, pR 46)] [] w RF NN 0 0 (some (pI res.1), res.2, RF, NN)) : ∀ (k : Nat) (x1 : Int) (w : WD), fR_back_l20 K0 k x1 w = some res → G E mR_back (d + 1) 20 [(0, pR 46), (1, pI x1)] [] w RF NN 0 0 (some (pI res.1), res.2, RF, NN) := by
  intro k
  induction k with
  | zero =>
    intro x1 w h
    exact no_e h
  | succ k ih =>
    intro x1 w h
    exact fR_back_l20_b_ok E d K0 ih hK0 x1 w h
def fR_back_l50_b (rec : Int → WD → Option (Int × WD)) (K0 : WD → Option (Int × WD)) (x1 : Int) (w : WD) : Option (Int × WD) := if (w 46 4) ≤ x1 then (K0 w) else (jn (β := Int → WD → Option (Int × WD)) (fun (s6 : Int) (u7 : WD) => ck (0 ≤ x1 ∧ x1 < 5) <| bw (up u7 73 x1 s6) <| fun (u8 : WD) => jn (β := Int → WD → Option (Int × WD)) (fun (s9 : Int) (u10 : WD) => ck (0 ≤ x1 ∧ x1 < 5) <| bw (up u10 74 x1 (s9 % 2)) <| fun (u11 : WD) => bv (w32 (x1 + 1)) <| fun (v1_12 : Int) => rec v1_12 u11) <| fun J13 => jn (β := WD → Option (Int × WD)) (fun (u14 : WD) => J13 0 u14) <| fun J15 => if (u8 46 52) ≤ x1 then (J15 u8) else (ck (0 ≤ x1 ∧ x1 < 5) <| if (u8 78 x1) = 0 then (J15 u8) else (J13 1 u8))) <| fun J18 => if (w 46 52) ≤ x1 then (J18 (-2) w) else (ck (0 ≤ x1 ∧ x1 < 5) <| J18 (w 77 x1) w))
def fR_back_l50 (K0 : WD → Option (Int × WD)) : Nat → Int → WD → Option (Int × WD)
  | 0 => fun _ _ => none
  | k + 1 => fR_back_l50_b ( fR_back_l50 K0 k) K0
set_option maxRecDepth 100000 in
set_option maxHeartbeats 4000000 in
theorem fR_back_l50_b_ok (E : Nat × (Int → Int)) (d : Nat) {res : Int × WD} {rec : Int → WD → Option (Int × WD)} (K0 : WD → Option (Int × WD)) (hrec : ∀ (x1 : Int) (w : WD), rec x1 w = some res → G E mR_back (d + 1) 50 [(0, pR 46), (1, pI x1)] [] w RF NN 0 0 (some (pI res.1), res.2, RF, NN)) (hK0 : ∀ (w : WD), K0 w = some res → G E mR_back (d + 1) 117 [(0, pR 46)] [] w RF NN 0 0 (some (pI res.1), res.2, RF, NN)) (x1 : Int) (w : WD) (h : fR_back_l50_b rec K0 x1 w = some res) : G E mR_back (d + 1) 50 [(0, pR 46), (1, pI x1)] [] w RF NN 0 0 (some (pI res.1), res.2, RF, NN) := by
  unfold fR_back_l50_b at h
  refine g_iload_n (pc := 50) (j := 1) (dk d_mR_back 29 rfl) rfl ?_
  refine g_aload_n (pc := 51) (j := 0) (dk d_mR_back 30 rfl) rfl (by decide) ?_
  refine g_getI (pc := 52) fp_R_144 po_46 (dk d_mR_back 31 rfl) ?_
  refine h_icmp_ge (pc := 55) (tgt := 117) (dk d_mR_back 32 rfl) rfl h (fun hc20 h => ?_) (fun hc20 h => ?_)
  · refine g_pick [0] rfl (l' := [(0, pR 46)]) rfl ?_
    exact hK0 _ h
  · refine g_aload_n (pc := 58) (j := 0) (dk d_mR_back 33 rfl) rfl (by decide) ?_
    refine g_getR (pc := 59) (a := 73) rfl fp_R_93 po_46 (dk d_mR_back 34 rfl) ?_
    refine g_iload_n (pc := 62) (j := 1) (dk d_mR_back 35 rfl) rfl ?_
    refine g_iload_n (pc := 63) (j := 1) (dk d_mR_back 36 rfl) rfl ?_
    refine g_aload_n (pc := 64) (j := 0) (dk d_mR_back 37 rfl) rfl (by decide) ?_
    refine g_getI (pc := 65) fp_R_399 po_46 (dk d_mR_back 38 rfl) ?_
    refine jn_e (fun J => ∀ (s6 : Int) (u7 : WD), J s6 u7 = some res → G E mR_back (d + 1) 82 [(0, pR 46), (1, pI x1)] [pI s6, pI x1, pR 73] u7 RF NN 0 0 (some (pI res.1), res.2, RF, NN)) h (fun s6 u7 h => ?_) (fun J18 hJ18 h => ?_)
    · refine h_iast (pc := 82) (B := 5) pa_73 rfl (dk d_mR_back 46 rfl) h (fun u8 h => ?_)
      refine g_aload_n (pc := 83) (j := 0) (dk d_mR_back 47 rfl) rfl (by decide) ?_
      refine g_getR (pc := 84) (a := 74) rfl fp_R_96 po_46 (dk d_mR_back 48 rfl) ?_
      refine g_iload_n (pc := 87) (j := 1) (dk d_mR_back 49 rfl) rfl ?_
      refine g_iload_n (pc := 88) (j := 1) (dk d_mR_back 50 rfl) rfl ?_
      refine g_aload_n (pc := 89) (j := 0) (dk d_mR_back 51 rfl) rfl (by decide) ?_
      refine g_getI (pc := 90) fp_R_399 po_46 (dk d_mR_back 52 rfl) ?_
      refine jn_e (fun J => ∀ (s9 : Int) (u10 : WD), J s9 u10 = some res → G E mR_back (d + 1) 110 [(0, pR 46), (1, pI x1)] [pI s9, pI x1, pR 74] u10 RF NN 0 0 (some (pI res.1), res.2, RF, NN)) h (fun s9 u10 h => ?_) (fun J13 hJ13 h => ?_)
      · refine h_zast (pc := 110) (B := 5) pa_74 rfl (dk d_mR_back 62 rfl) h (fun u11 h => ?_)
        refine h_iinc (pc := 111) (j := 1) (dk d_mR_back 63 rfl) rfl (by decide) (Nat.le_of_ble_eq_true rfl) h (fun v1_12 h => ?_)
        refine g_loc (l' := [(1, pI v1_12), (0, pR 46)]) rfl ?_
        refine g_goto (pc := 114) (tgt := 50) (dk d_mR_back 64 rfl) rfl ?_
        refine g_pick [1, 0] rfl (l' := [(0, pR 46), (1, pI v1_12)]) rfl ?_
        exact hrec _ _ h
      · refine jn_e (fun J => ∀ (u14 : WD), J u14 = some res → G E mR_back (d + 1) 109 [(0, pR 46), (1, pI x1)] [pI x1, pR 74] u14 RF NN 0 0 (some (pI res.1), res.2, RF, NN)) h (fun u14 h => ?_) (fun J15 hJ15 h => ?_)
        · refine g_iconst (pc := 109) (dk d_mR_back 61 rfl) (by decide) ?_
          exact hJ13 _ _ h
        · refine h_icmp_ge (pc := 93) (tgt := 109) (dk d_mR_back 53 rfl) rfl h (fun hc17 h => ?_) (fun hc17 h => ?_)
          · exact hJ15 _ h
          · refine g_aload_n (pc := 96) (j := 0) (dk d_mR_back 54 rfl) rfl (by decide) ?_
            refine g_getR (pc := 97) (a := 78) rfl fp_R_109 po_46 (dk d_mR_back 55 rfl) ?_
            refine g_iload_n (pc := 100) (j := 1) (dk d_mR_back 56 rfl) rfl ?_
            refine h_zald (pc := 101) (B := 5) pa_78 rfl (dk d_mR_back 57 rfl) h (fun h => ?_)
            refine h_if_eq (pc := 102) (tgt := 109) (dk d_mR_back 58 rfl) rfl h (fun hc16 h => ?_) (fun hc16 h => ?_)
            · exact hJ15 _ h
            · refine g_iconst (pc := 105) (dk d_mR_back 59 rfl) (by decide) ?_
              refine g_goto (pc := 106) (tgt := 110) (dk d_mR_back 60 rfl) rfl ?_
              exact hJ13 _ _ h
    · refine h_icmp_ge (pc := 68) (tgt := 80) (dk d_mR_back 39 rfl) rfl h (fun hc19 h => ?_) (fun hc19 h => ?_)
      · refine g_bipush (pc := 80) (dk d_mR_back 45 rfl) (by decide) ?_
        exact hJ18 _ _ h
      · refine g_aload_n (pc := 71) (j := 0) (dk d_mR_back 40 rfl) rfl (by decide) ?_
        refine g_getR (pc := 72) (a := 77) rfl fp_R_106 po_46 (dk d_mR_back 41 rfl) ?_
        refine g_iload_n (pc := 75) (j := 1) (dk d_mR_back 42 rfl) rfl ?_
        refine h_iald (pc := 76) (B := 5) pa_77 rfl (dk d_mR_back 43 rfl) h (fun h => ?_)
        refine g_goto (pc := 77) (tgt := 82) (dk d_mR_back 44 rfl) rfl ?_
        exact hJ18 _ _ h
set_option maxRecDepth 100000 in
set_option maxHeartbeats 4000000 in
theorem fR_back_l50_ok (E : Nat × (Int → Int)) (d : Nat) {res : Int × WD} (K0 : WD → Option (Int × WD)) (hK0 : ∀ (w : WD), K0 w = some res → G E mR_back (d + 1) 117 [(0, pR 46)] [] w RF NN 0 0 (some (pI res.1), res.2, RF, NN)) : ∀ (k : Nat) (x1 : Int) (w : WD), fR_back_l50 K0 k x1 w = some res → G E mR_back (d + 1) 50 [(0, pR 46), (1, pI x1)] [] w RF NN 0 0 (some (pI res.1), res.2, RF, NN) := by
  intro k
  induction k with
  | zero =>
    intro x1 w h
    exact no_e h
  | succ k ih =>
    intro x1 w h
    exact fR_back_l50_b_ok E d K0 ih hK0 x1 w h
def fR_back_l119_b (rec : Int → WD → Option (Int × WD)) (K0 : WD → Option (Int × WD)) (x1 : Int) (w : WD) : Option (Int × WD) := if 4 ≤ x1 then (K0 w) else (ck (0 ≤ x1 ∧ x1 < 4) <| ck (0 ≤ x1 ∧ x1 < 4) <| bw (up w 75 x1 (w 79 x1)) <| fun (u22 : WD) => bv (w32 (x1 + 1)) <| fun (v1_23 : Int) => rec v1_23 u22)
def fR_back_l119 (K0 : WD → Option (Int × WD)) : Nat → Int → WD → Option (Int × WD)
  | 0 => fun _ _ => none
  | k + 1 => fR_back_l119_b ( fR_back_l119 K0 k) K0
set_option maxRecDepth 100000 in
set_option maxHeartbeats 4000000 in
theorem fR_back_l119_b_ok (E : Nat × (Int → Int)) (d : Nat) {res : Int × WD} {rec : Int → WD → Option (Int × WD)} (K0 : WD → Option (Int × WD)) (hrec : ∀ (x1 : Int) (w : WD), rec x1 w = some res → G E mR_back (d + 1) 119 [(0, pR 46), (1, pI x1)] [] w RF NN 0 0 (some (pI res.1), res.2, RF, NN)) (hK0 : ∀ (w : WD), K0 w = some res → G E mR_back (d + 1) 142 [(0, pR 46)] [] w RF NN 0 0 (some (pI res.1), res.2, RF, NN)) (x1 : Int) (w : WD) (h : fR_back_l119_b rec K0 x1 w = some res) : G E mR_back (d + 1) 119 [(0, pR 46), (1, pI x1)] [] w RF NN 0 0 (some (pI res.1), res.2, RF, NN) := by
  unfold fR_back_l119_b at h
  refine g_iload_n (pc := 119) (j := 1) (dk d_mR_back 67 rfl) rfl ?_
  refine g_iconst (pc := 120) (dk d_mR_back 68 rfl) (by decide) ?_
  refine h_icmp_ge (pc := 121) (tgt := 142) (dk d_mR_back 69 rfl) rfl h (fun hc24 h => ?_) (fun hc24 h => ?_)
  · refine g_pick [0] rfl (l' := [(0, pR 46)]) rfl ?_
    exact hK0 _ h
  · refine g_aload_n (pc := 124) (j := 0) (dk d_mR_back 70 rfl) rfl (by decide) ?_
    refine g_getR (pc := 125) (a := 75) rfl fp_R_100 po_46 (dk d_mR_back 71 rfl) ?_
    refine g_iload_n (pc := 128) (j := 1) (dk d_mR_back 72 rfl) rfl ?_
    refine g_aload_n (pc := 129) (j := 0) (dk d_mR_back 73 rfl) rfl (by decide) ?_
    refine g_getR (pc := 130) (a := 79) rfl fp_R_112 po_46 (dk d_mR_back 74 rfl) ?_
    refine g_iload_n (pc := 133) (j := 1) (dk d_mR_back 75 rfl) rfl ?_
    refine h_iald (pc := 134) (B := 4) pa_79 rfl (dk d_mR_back 76 rfl) h (fun h => ?_)
    refine h_iast (pc := 135) (B := 4) pa_75 rfl (dk d_mR_back 77 rfl) h (fun u22 h => ?_)
    refine h_iinc (pc := 136) (j := 1) (dk d_mR_back 78 rfl) rfl (by decide) (Nat.le_of_ble_eq_true rfl) h (fun v1_23 h => ?_)
    refine g_loc (l' := [(1, pI v1_23), (0, pR 46)]) rfl ?_
    refine g_goto (pc := 139) (tgt := 119) (dk d_mR_back 79 rfl) rfl ?_
    refine g_pick [1, 0] rfl (l' := [(0, pR 46), (1, pI v1_23)]) rfl ?_
    exact hrec _ _ h
set_option maxRecDepth 100000 in
set_option maxHeartbeats 4000000 in
theorem fR_back_l119_ok (E : Nat × (Int → Int)) (d : Nat) {res : Int × WD} (K0 : WD → Option (Int × WD)) (hK0 : ∀ (w : WD), K0 w = some res → G E mR_back (d + 1) 142 [(0, pR 46)] [] w RF NN 0 0 (some (pI res.1), res.2, RF, NN)) : ∀ (k : Nat) (x1 : Int) (w : WD), fR_back_l119 K0 k x1 w = some res → G E mR_back (d + 1) 119 [(0, pR 46), (1, pI x1)] [] w RF NN 0 0 (some (pI res.1), res.2, RF, NN) := by
  intro k
  induction k with
  | zero =>
    intro x1 w h
    exact no_e h
  | succ k ih =>
    intro x1 w h
    exact fR_back_l119_b_ok E d K0 ih hK0 x1 w h
def fR_back (w : WD) : Option (Int × WD) := if (w 46 51) ≠ 0 then (bw (up w 46 49 (w 46 53)) <| fun (u1 : WD) => fR_back_l20 (fun (u5 : WD) => fR_back_l50 (fun (u21 : WD) => fR_back_l119 (fun (u25 : WD) => some ((u25 46 49), u25)) FU 0 u21) FU 0 u5) FU 0 u1) else (some ((-5), w))
set_option maxRecDepth 100000 in
set_option maxHeartbeats 4000000 in
theorem gR_back (E : Nat × (Int → Int)) (d : Nat) {res : Int × WD} (w : WD) (h : fR_back w = some res) : G E mR_back (d + 1) 0 [(0, pR 46)] [] w RF NN 0 0 (some (pI res.1), res.2, RF, NN) := by
  unfold fR_back at h
  refine g_aload_n (pc := 0) (j := 0) (dk d_mR_back 0 rfl) rfl (by decide) ?_
  refine g_getZ (pc := 1) fp_R_396 po_46 (dk d_mR_back 1 rfl) ?_
  refine h_if_ne (pc := 4) (tgt := 10) (dk d_mR_back 2 rfl) rfl h (fun hc26 h => ?_) (fun hc26 h => ?_)
  · refine g_aload_n (pc := 10) (j := 0) (dk d_mR_back 5 rfl) rfl (by decide) ?_
    refine g_aload_n (pc := 11) (j := 0) (dk d_mR_back 6 rfl) rfl (by decide) ?_
    refine g_getI (pc := 12) fp_R_402 po_46 (dk d_mR_back 7 rfl) ?_
    refine h_putI (pc := 15) fp_R_393 po_46 (dk d_mR_back 8 rfl) h (fun u1 h => ?_)
    refine g_iconst (pc := 18) (dk d_mR_back 9 rfl) (by decide) ?_
    refine g_istore_n (pc := 19) (l' := [(1, pI 0), (0, pR 46)]) (dk d_mR_back 10 rfl) (Nat.le_of_ble_eq_true rfl) rfl ?_
    refine g_pick [1, 0] rfl (l' := [(0, pR 46), (1, pI 0)]) rfl ?_
    refine fR_back_l20_ok E d _  (fun u5 h => ?_) FU _  _ h
    · refine g_iconst (pc := 48) (dk d_mR_back 27 rfl) (by decide) ?_
      refine g_istore_n (pc := 49) (l' := [(1, pI 0), (0, pR 46)]) (dk d_mR_back 28 rfl) (Nat.le_of_ble_eq_true rfl) rfl ?_
      refine g_pick [1, 0] rfl (l' := [(0, pR 46), (1, pI 0)]) rfl ?_
      refine fR_back_l50_ok E d _  (fun u21 h => ?_) FU _  _ h
      · refine g_iconst (pc := 117) (dk d_mR_back 65 rfl) (by decide) ?_
        refine g_istore_n (pc := 118) (l' := [(1, pI 0), (0, pR 46)]) (dk d_mR_back 66 rfl) (Nat.le_of_ble_eq_true rfl) rfl ?_
        refine g_pick [1, 0] rfl (l' := [(0, pR 46), (1, pI 0)]) rfl ?_
        refine fR_back_l119_ok E d _  (fun u25 h => ?_) FU _  _ h
        · refine g_aload_n (pc := 142) (j := 0) (dk d_mR_back 80 rfl) rfl (by decide) ?_
          refine g_getI (pc := 143) fp_R_393 po_46 (dk d_mR_back 81 rfl) ?_
          exact h_iret (pc := 146) rfl (dk d_mR_back 82 rfl) h
  · refine g_bipush (pc := 7) (dk d_mR_back 3 rfl) (by decide) ?_
    exact h_iret (pc := 9) rfl (dk d_mR_back 4 rfl) h
set_option maxRecDepth 100000 in
set_option maxHeartbeats 4000000 in
theorem kR_back (E : Nat × (Int → Int)) (d : Nat) {w w1 : WD} {r : Int} (h : fR_back w = some (r, w1)) : CTi E mR_back (d + 1) [pR 46] w RF NN r w1 RF NN := by
  exact CTi_of (by decide +kernel) (Nat.le_of_ble_eq_true rfl) (Or.inl rfl) (gR_back (res := (r, w1)) E d w h)
def fR_trace (a1 : Int) (w : WD) : Option (Int × WD) := if a1 < 0 then (some ((-1), w)) else (if (w 46 60) ≤ a1 then (some ((-1), w)) else (if 24 ≤ a1 then (some ((-1), w)) else (ck (0 ≤ a1 ∧ a1 < 24) <| some ((w 81 a1), w))))
set_option maxRecDepth 100000 in
set_option maxHeartbeats 4000000 in
theorem gR_trace (E : Nat × (Int → Int)) (d : Nat) {res : Int × WD} (a1 : Int) (w : WD) (h : fR_trace a1 w = some res) : G E mR_trace (d + 1) 0 [(0, pR 46), (1, pI a1)] [] w RF NN 0 0 (some (pI res.1), res.2, RF, NN) := by
  unfold fR_trace at h
  refine g_iload_n (pc := 0) (j := 1) (dk d_mR_trace 0 rfl) rfl ?_
  refine h_if_lt (pc := 1) (tgt := 27) (dk d_mR_trace 1 rfl) rfl h (fun hc3 h => ?_) (fun hc3 h => ?_)
  · refine g_iconst (pc := 27) (dk d_mR_trace 14 rfl) (by decide) ?_
    exact h_iret (pc := 28) rfl (dk d_mR_trace 15 rfl) h
  · refine g_iload_n (pc := 4) (j := 1) (dk d_mR_trace 2 rfl) rfl ?_
    refine g_aload_n (pc := 5) (j := 0) (dk d_mR_trace 3 rfl) rfl (by decide) ?_
    refine g_getI (pc := 6) fp_R_408 po_46 (dk d_mR_trace 4 rfl) ?_
    refine h_icmp_ge (pc := 9) (tgt := 27) (dk d_mR_trace 5 rfl) rfl h (fun hc2 h => ?_) (fun hc2 h => ?_)
    · refine g_iconst (pc := 27) (dk d_mR_trace 14 rfl) (by decide) ?_
      exact h_iret (pc := 28) rfl (dk d_mR_trace 15 rfl) h
    · refine g_iload_n (pc := 12) (j := 1) (dk d_mR_trace 6 rfl) rfl ?_
      refine g_bipush (pc := 13) (dk d_mR_trace 7 rfl) (by decide) ?_
      refine h_icmp_ge (pc := 15) (tgt := 27) (dk d_mR_trace 8 rfl) rfl h (fun hc1 h => ?_) (fun hc1 h => ?_)
      · refine g_iconst (pc := 27) (dk d_mR_trace 14 rfl) (by decide) ?_
        exact h_iret (pc := 28) rfl (dk d_mR_trace 15 rfl) h
      · refine g_aload_n (pc := 18) (j := 0) (dk d_mR_trace 9 rfl) rfl (by decide) ?_
        refine g_getR (pc := 19) (a := 81) rfl fp_R_118 po_46 (dk d_mR_trace 10 rfl) ?_
        refine g_iload_n (pc := 22) (j := 1) (dk d_mR_trace 11 rfl) rfl ?_
        refine h_iald (pc := 23) (B := 24) pa_81 rfl (dk d_mR_trace 12 rfl) h (fun h => ?_)
        refine g_goto (pc := 24) (tgt := 28) (dk d_mR_trace 13 rfl) rfl ?_
        exact h_iret (pc := 28) rfl (dk d_mR_trace 15 rfl) h
set_option maxRecDepth 100000 in
set_option maxHeartbeats 4000000 in
theorem kR_trace (E : Nat × (Int → Int)) (d : Nat) {a1 : Int} {w w1 : WD} {r : Int} (h : fR_trace a1 w = some (r, w1)) : CTi E mR_trace (d + 1) [pR 46, pI a1] w RF NN r w1 RF NN := by
  exact CTi_of (by decide +kernel) (Nat.le_of_ble_eq_true rfl) (Or.inl rfl) (gR_trace (res := (r, w1)) E d a1 w h)
def fR_body (a1 : Int) (w : WD) : Option (Int × WD) := ci (fR_in a1 0 7 w) <| fun (r2 : Int) (u1 : WD) => if r2 ≠ 0 then (if (u1 46 58) ≠ 50 then (ck (0 ≤ (u1 46 58) ∧ (u1 46 58) < 50) <| bw (up u1 80 (u1 46 58) a1) <| fun (u4 : WD) => bw (up u4 46 58 (w32 ((u4 46 58) + 1))) <| fun (u5 : WD) => some ((w32 ((u5 46 58) - 1)), u5)) else (some ((-3), u1))) else (some ((-1), u1))
set_option maxRecDepth 100000 in
set_option maxHeartbeats 4000000 in
theorem gR_body (E : Nat × (Int → Int)) (d : Nat) {res : Int × WD} (a1 : Int) (w : WD) (h : fR_body a1 w = some res) : G E mR_body (d + 2) 0 [(0, pR 46), (1, pI a1)] [] w RF NN 0 0 (some (pI res.1), res.2, RF, NN) := by
  unfold fR_body at h
  refine g_iload_n (pc := 0) (j := 1) (dk d_mR_body 0 rfl) rfl ?_
  refine g_iconst (pc := 1) (dk d_mR_body 1 rfl) (by decide) ?_
  refine g_bipush (pc := 2) (dk d_mR_body 2 rfl) (by decide) ?_
  refine h_callSi (d := d + 1) (pc := 4) (na := 3) (av := [pI a1, pI 0, pI 7]) ⟨rfl, rfl⟩ (dk d_mR_body 3 rfl) lk_R_140 vm_mR_in rfl rfl (Nat.le_of_ble_eq_true rfl) h (fun r2 u1 hq => kR_in E (d + 0) hq) (fun r2 u1 hb3 h => ?_)
  refine h_if_ne (pc := 7) (tgt := 12) (dk d_mR_body 4 rfl) rfl h (fun hc7 h => ?_) (fun hc7 h => ?_)
  · refine g_aload_n (pc := 12) (j := 0) (dk d_mR_body 7 rfl) rfl (by decide) ?_
    refine g_getI (pc := 13) fp_R_405 po_46 (dk d_mR_body 8 rfl) ?_
    refine g_bipush (pc := 16) (dk d_mR_body 9 rfl) (by decide) ?_
    refine h_icmp_ne (pc := 18) (tgt := 24) (dk d_mR_body 10 rfl) rfl h (fun hc6 h => ?_) (fun hc6 h => ?_)
    · refine g_aload_n (pc := 24) (j := 0) (dk d_mR_body 13 rfl) rfl (by decide) ?_
      refine g_getR (pc := 25) (a := 80) rfl fp_R_115 po_46 (dk d_mR_body 14 rfl) ?_
      refine g_aload_n (pc := 28) (j := 0) (dk d_mR_body 15 rfl) rfl (by decide) ?_
      refine g_getI (pc := 29) fp_R_405 po_46 (dk d_mR_body 16 rfl) ?_
      refine g_iload_n (pc := 32) (j := 1) (dk d_mR_body 17 rfl) rfl ?_
      refine h_iast (pc := 33) (B := 50) pa_80 rfl (dk d_mR_body 18 rfl) h (fun u4 h => ?_)
      refine g_aload_n (pc := 34) (j := 0) (dk d_mR_body 19 rfl) rfl (by decide) ?_
      refine g_dup (pc := 35) (dk d_mR_body 20 rfl) rfl ?_
      refine g_getI (pc := 36) fp_R_405 po_46 (dk d_mR_body 21 rfl) ?_
      refine g_iconst (pc := 39) (dk d_mR_body 22 rfl) (by decide) ?_
      refine g_iadd (pc := 40) (dk d_mR_body 23 rfl) ?_
      refine h_putI (pc := 41) fp_R_405 po_46 (dk d_mR_body 24 rfl) h (fun u5 h => ?_)
      refine g_aload_n (pc := 44) (j := 0) (dk d_mR_body 25 rfl) rfl (by decide) ?_
      refine g_getI (pc := 45) fp_R_405 po_46 (dk d_mR_body 26 rfl) ?_
      refine g_iconst (pc := 48) (dk d_mR_body 27 rfl) (by decide) ?_
      refine g_isub (pc := 49) (dk d_mR_body 28 rfl) ?_
      exact h_iret (pc := 50) rfl (dk d_mR_body 29 rfl) h
    · refine g_bipush (pc := 21) (dk d_mR_body 11 rfl) (by decide) ?_
      exact h_iret (pc := 23) rfl (dk d_mR_body 12 rfl) h
  · refine g_iconst (pc := 10) (dk d_mR_body 5 rfl) (by decide) ?_
    exact h_iret (pc := 11) rfl (dk d_mR_body 6 rfl) h
set_option maxRecDepth 100000 in
set_option maxHeartbeats 4000000 in
theorem kR_body (E : Nat × (Int → Int)) (d : Nat) {a1 : Int} {w w1 : WD} {r : Int} (h : fR_body a1 w = some (r, w1)) : CTi E mR_body (d + 2) [pR 46, pI a1] w RF NN r w1 RF NN := by
  exact CTi_of (by decide +kernel) (Nat.le_of_ble_eq_true rfl) (Or.inl rfl) (gR_body (res := (r, w1)) E d a1 w h)
def fR_ran (a1 : Int) (w : WD) : Option WD := jn (β := WD → Option WD) (fun (u1 : WD) => bw (up u1 46 60 (w32 ((u1 46 60) + 1))) <| fun (u2 : WD) => some u2) <| fun J3 => if 24 ≤ (w 46 60) then (J3 w) else (ck (0 ≤ (w 46 60) ∧ (w 46 60) < 24) <| bw (up w 81 (w 46 60) a1) <| fun (u4 : WD) => J3 u4)
set_option maxRecDepth 100000 in
set_option maxHeartbeats 4000000 in
theorem gR_ran (E : Nat × (Int → Int)) (d : Nat) {res : WD} (a1 : Int) (w : WD) (h : fR_ran a1 w = some res) : G E mR_ran (d + 1) 0 [(0, pR 46), (1, pI a1)] [] w RF NN 0 0 (none, res, RF, NN) := by
  unfold fR_ran at h
  refine g_aload_n (pc := 0) (j := 0) (dk d_mR_ran 0 rfl) rfl (by decide) ?_
  refine g_getI (pc := 1) fp_R_408 po_46 (dk d_mR_ran 1 rfl) ?_
  refine g_bipush (pc := 4) (dk d_mR_ran 2 rfl) (by decide) ?_
  refine jn_e (fun J => ∀ (u1 : WD), J u1 = some res → G E mR_ran (d + 1) 19 [(0, pR 46)] [] u1 RF NN 0 0 (none, res, RF, NN)) h (fun u1 h => ?_) (fun J3 hJ3 h => ?_)
  · refine g_aload_n (pc := 19) (j := 0) (dk d_mR_ran 10 rfl) rfl (by decide) ?_
    refine g_dup (pc := 20) (dk d_mR_ran 11 rfl) rfl ?_
    refine g_getI (pc := 21) fp_R_408 po_46 (dk d_mR_ran 12 rfl) ?_
    refine g_iconst (pc := 24) (dk d_mR_ran 13 rfl) (by decide) ?_
    refine g_iadd (pc := 25) (dk d_mR_ran 14 rfl) ?_
    refine h_putI (pc := 26) fp_R_408 po_46 (dk d_mR_ran 15 rfl) h (fun u2 h => ?_)
    exact h_vret (pc := 29) (dk d_mR_ran 16 rfl) h
  · refine h_icmp_ge (pc := 6) (tgt := 19) (dk d_mR_ran 3 rfl) rfl h (fun hc5 h => ?_) (fun hc5 h => ?_)
    · refine g_pick [0] rfl (l' := [(0, pR 46)]) rfl ?_
      exact hJ3 _ h
    · refine g_aload_n (pc := 9) (j := 0) (dk d_mR_ran 4 rfl) rfl (by decide) ?_
      refine g_getR (pc := 10) (a := 81) rfl fp_R_118 po_46 (dk d_mR_ran 5 rfl) ?_
      refine g_aload_n (pc := 13) (j := 0) (dk d_mR_ran 6 rfl) rfl (by decide) ?_
      refine g_getI (pc := 14) fp_R_408 po_46 (dk d_mR_ran 7 rfl) ?_
      refine g_iload_n (pc := 17) (j := 1) (dk d_mR_ran 8 rfl) rfl ?_
      refine h_iast (pc := 18) (B := 24) pa_81 rfl (dk d_mR_ran 9 rfl) h (fun u4 h => ?_)
      refine g_pick [0] rfl (l' := [(0, pR 46)]) rfl ?_
      exact hJ3 _ h
set_option maxRecDepth 100000 in
set_option maxHeartbeats 4000000 in
theorem kR_ran (E : Nat × (Int → Int)) (d : Nat) {a1 : Int} {w w1 : WD} (h : fR_ran a1 w = some w1) : CTv E mR_ran (d + 1) [pR 46, pI a1] w RF NN w1 RF NN := by
  exact CTv_of (by decide +kernel) (Nat.le_of_ble_eq_true rfl) rfl (gR_ran (res := w1) E d a1 w h)
def fR_plainBelieves (a1 : Int) (a2 : Int) (w : WD) : Option (Int × WD) := cv (fR_ran 11 w) <| fun (u1 : WD) => some ((bXor a2 a1), u1)
set_option maxRecDepth 100000 in
set_option maxHeartbeats 4000000 in
theorem gR_plainBelieves (E : Nat × (Int → Int)) (d : Nat) {res : Int × WD} (a1 : Int) (a2 : Int) (w : WD) (h : fR_plainBelieves a1 a2 w = some res) : G E mR_plainBelieves (d + 2) 0 [(0, pR 46), (1, pI a1), (2, pI a2)] [] w RF NN 0 0 (some (pI res.1), res.2, RF, NN) := by
  unfold fR_plainBelieves at h
  refine g_aload_n (pc := 0) (j := 0) (dk d_mR_plainBelieves 0 rfl) rfl (by decide) ?_
  refine g_bipush (pc := 1) (dk d_mR_plainBelieves 1 rfl) (by decide) ?_
  refine h_callVv (d := d + 1) (pc := 3) (na := 1) (av := [pI 11]) (k0 := 46) po_46 ⟨_, rfl⟩ ⟨rfl, rfl⟩ (dk d_mR_plainBelieves 2 rfl) lk_R_411 vm_mR_ran rfl rfl (Nat.le_of_ble_eq_true rfl) h (fun u1 hq => kR_ran E (d + 0) hq) (fun u1 h => ?_)
  refine g_iload_n (pc := 6) (j := 2) (dk d_mR_plainBelieves 3 rfl) rfl ?_
  refine g_iload_n (pc := 7) (j := 1) (dk d_mR_plainBelieves 4 rfl) rfl ?_
  refine g_ixor (pc := 8) (dk d_mR_plainBelieves 5 rfl) ?_
  exact h_iret (pc := 9) rfl (dk d_mR_plainBelieves 6 rfl) h
set_option maxRecDepth 100000 in
set_option maxHeartbeats 4000000 in
theorem kR_plainBelieves (E : Nat × (Int → Int)) (d : Nat) {a1 : Int} {a2 : Int} {w w1 : WD} {r : Int} (h : fR_plainBelieves a1 a2 w = some (r, w1)) : CTi E mR_plainBelieves (d + 2) [pR 46, pI a1, pI a2] w RF NN r w1 RF NN := by
  exact CTi_of (by decide +kernel) (Nat.le_of_ble_eq_true rfl) (Or.inl rfl) (gR_plainBelieves (res := (r, w1)) E d a1 a2 w h)
def fR_borrowedBelieves (a1 : Int) (a2 : Int) (w : WD) : Option (Int × WD) := cv (fR_ran 40 w) <| fun (u1 : WD) => ci (fR_plainBelieves a1 a2 u1) <| fun (r3 : Int) (u2 : WD) => some ((w32 (r3 * 3)), u2)
set_option maxRecDepth 100000 in
set_option maxHeartbeats 4000000 in
theorem gR_borrowedBelieves (E : Nat × (Int → Int)) (d : Nat) {res : Int × WD} (a1 : Int) (a2 : Int) (w : WD) (h : fR_borrowedBelieves a1 a2 w = some res) : G E mR_borrowedBelieves (d + 3) 0 [(0, pR 46), (1, pI a1), (2, pI a2)] [] w RF NN 0 0 (some (pI res.1), res.2, RF, NN) := by
  unfold fR_borrowedBelieves at h
  refine g_aload_n (pc := 0) (j := 0) (dk d_mR_borrowedBelieves 0 rfl) rfl (by decide) ?_
  refine g_bipush (pc := 1) (dk d_mR_borrowedBelieves 1 rfl) (by decide) ?_
  refine h_callVv (d := d + 2) (pc := 3) (na := 1) (av := [pI 40]) (k0 := 46) po_46 ⟨_, rfl⟩ ⟨rfl, rfl⟩ (dk d_mR_borrowedBelieves 2 rfl) lk_R_411 vm_mR_ran rfl rfl (Nat.le_of_ble_eq_true rfl) h (fun u1 hq => kR_ran E (d + 1) hq) (fun u1 h => ?_)
  refine g_aload_n (pc := 6) (j := 0) (dk d_mR_borrowedBelieves 3 rfl) rfl (by decide) ?_
  refine g_iload_n (pc := 7) (j := 1) (dk d_mR_borrowedBelieves 4 rfl) rfl ?_
  refine g_iload_n (pc := 8) (j := 2) (dk d_mR_borrowedBelieves 5 rfl) rfl ?_
  refine h_callVi (d := d + 2) (pc := 9) (na := 2) (av := [pI a1, pI a2]) (k0 := 46) po_46 ⟨_, rfl⟩ ⟨rfl, rfl⟩ (dk d_mR_borrowedBelieves 6 rfl) lk_R_435 vm_mR_plainBelieves rfl rfl (Nat.le_of_ble_eq_true rfl) h (fun r3 u2 hq => kR_plainBelieves E (d + 0) hq) (fun r3 u2 hb4 h => ?_)
  refine g_iconst (pc := 12) (dk d_mR_borrowedBelieves 7 rfl) (by decide) ?_
  refine g_imul (pc := 13) (dk d_mR_borrowedBelieves 8 rfl) ?_
  exact h_iret (pc := 14) rfl (dk d_mR_borrowedBelieves 9 rfl) h
set_option maxRecDepth 100000 in
set_option maxHeartbeats 4000000 in
theorem kR_borrowedBelieves (E : Nat × (Int → Int)) (d : Nat) {a1 : Int} {a2 : Int} {w w1 : WD} {r : Int} (h : fR_borrowedBelieves a1 a2 w = some (r, w1)) : CTi E mR_borrowedBelieves (d + 3) [pR 46, pI a1, pI a2] w RF NN r w1 RF NN := by
  exact CTi_of (by decide +kernel) (Nat.le_of_ble_eq_true rfl) (Or.inl rfl) (gR_borrowedBelieves (res := (r, w1)) E d a1 a2 w h)
def fR_plainShows (a1 : Int) (a2 : Int) (w : WD) : Option (Int × WD) := cv (fR_ran 1 w) <| fun (u1 : WD) => some ((w32 (a2 + a1)), u1)
set_option maxRecDepth 100000 in
set_option maxHeartbeats 4000000 in
theorem gR_plainShows (E : Nat × (Int → Int)) (d : Nat) {res : Int × WD} (a1 : Int) (a2 : Int) (w : WD) (h : fR_plainShows a1 a2 w = some res) : G E mR_plainShows (d + 2) 0 [(0, pR 46), (1, pI a1), (2, pI a2)] [] w RF NN 0 0 (some (pI res.1), res.2, RF, NN) := by
  unfold fR_plainShows at h
  refine g_aload_n (pc := 0) (j := 0) (dk d_mR_plainShows 0 rfl) rfl (by decide) ?_
  refine g_iconst (pc := 1) (dk d_mR_plainShows 1 rfl) (by decide) ?_
  refine h_callVv (d := d + 1) (pc := 2) (na := 1) (av := [pI 1]) (k0 := 46) po_46 ⟨_, rfl⟩ ⟨rfl, rfl⟩ (dk d_mR_plainShows 2 rfl) lk_R_411 vm_mR_ran rfl rfl (Nat.le_of_ble_eq_true rfl) h (fun u1 hq => kR_ran E (d + 0) hq) (fun u1 h => ?_)
  refine g_iload_n (pc := 5) (j := 2) (dk d_mR_plainShows 3 rfl) rfl ?_
  refine g_iload_n (pc := 6) (j := 1) (dk d_mR_plainShows 4 rfl) rfl ?_
  refine g_iadd (pc := 7) (dk d_mR_plainShows 5 rfl) ?_
  exact h_iret (pc := 8) rfl (dk d_mR_plainShows 6 rfl) h
set_option maxRecDepth 100000 in
set_option maxHeartbeats 4000000 in
theorem kR_plainShows (E : Nat × (Int → Int)) (d : Nat) {a1 : Int} {a2 : Int} {w w1 : WD} {r : Int} (h : fR_plainShows a1 a2 w = some (r, w1)) : CTi E mR_plainShows (d + 2) [pR 46, pI a1, pI a2] w RF NN r w1 RF NN := by
  exact CTi_of (by decide +kernel) (Nat.le_of_ble_eq_true rfl) (Or.inl rfl) (gR_plainShows (res := (r, w1)) E d a1 a2 w h)
def fR_absentShows (a1 : Int) (a2 : Int) (w : WD) : Option (Int × WD) := cv (fR_ran 70 w) <| fun (u1 : WD) => ci (fR_plainShows a1 a2 u1) <| fun (r3 : Int) (u2 : WD) => some ((w32 (r3 * 2)), u2)
set_option maxRecDepth 100000 in
set_option maxHeartbeats 4000000 in
theorem gR_absentShows (E : Nat × (Int → Int)) (d : Nat) {res : Int × WD} (a1 : Int) (a2 : Int) (w : WD) (h : fR_absentShows a1 a2 w = some res) : G E mR_absentShows (d + 3) 0 [(0, pR 46), (1, pI a1), (2, pI a2)] [] w RF NN 0 0 (some (pI res.1), res.2, RF, NN) := by
  unfold fR_absentShows at h
  refine g_aload_n (pc := 0) (j := 0) (dk d_mR_absentShows 0 rfl) rfl (by decide) ?_
  refine g_bipush (pc := 1) (dk d_mR_absentShows 1 rfl) (by decide) ?_
  refine h_callVv (d := d + 2) (pc := 3) (na := 1) (av := [pI 70]) (k0 := 46) po_46 ⟨_, rfl⟩ ⟨rfl, rfl⟩ (dk d_mR_absentShows 2 rfl) lk_R_411 vm_mR_ran rfl rfl (Nat.le_of_ble_eq_true rfl) h (fun u1 hq => kR_ran E (d + 1) hq) (fun u1 h => ?_)
  refine g_aload_n (pc := 6) (j := 0) (dk d_mR_absentShows 3 rfl) rfl (by decide) ?_
  refine g_iload_n (pc := 7) (j := 1) (dk d_mR_absentShows 4 rfl) rfl ?_
  refine g_iload_n (pc := 8) (j := 2) (dk d_mR_absentShows 5 rfl) rfl ?_
  refine h_callVi (d := d + 2) (pc := 9) (na := 2) (av := [pI a1, pI a2]) (k0 := 46) po_46 ⟨_, rfl⟩ ⟨rfl, rfl⟩ (dk d_mR_absentShows 6 rfl) lk_R_414 vm_mR_plainShows rfl rfl (Nat.le_of_ble_eq_true rfl) h (fun r3 u2 hq => kR_plainShows E (d + 0) hq) (fun r3 u2 hb4 h => ?_)
  refine g_iconst (pc := 12) (dk d_mR_absentShows 7 rfl) (by decide) ?_
  refine g_imul (pc := 13) (dk d_mR_absentShows 8 rfl) ?_
  exact h_iret (pc := 14) rfl (dk d_mR_absentShows 9 rfl) h
set_option maxRecDepth 100000 in
set_option maxHeartbeats 4000000 in
theorem kR_absentShows (E : Nat × (Int → Int)) (d : Nat) {a1 : Int} {a2 : Int} {w w1 : WD} {r : Int} (h : fR_absentShows a1 a2 w = some (r, w1)) : CTi E mR_absentShows (d + 3) [pR 46, pI a1, pI a2] w RF NN r w1 RF NN := by
  exact CTi_of (by decide +kernel) (Nat.le_of_ble_eq_true rfl) (Or.inl rfl) (gR_absentShows (res := (r, w1)) E d a1 a2 w h)
def fR_isUnder (a0 : Int) (a1 : Int) (w : WD) : Option (Int × WD) := if a1 = 0 then (some (1, w)) else (if a0 = a1 then (some (1, w)) else (jn (β := WD → Option (Int × WD)) (fun (u1 : WD) => jn (β := WD → Option (Int × WD)) (fun (u2 : WD) => jn (β := WD → Option (Int × WD)) (fun (u3 : WD) => if a1 ≠ 6 then (some (0, u3)) else (if a0 ≠ 7 then (some (0, u3)) else (some (1, u3)))) <| fun J6 => if a1 ≠ 3 then (J6 u2) else (if a0 = 5 then (some (1, u2)) else (J6 u2))) <| fun J9 => if a1 ≠ 2 then (J9 u1) else (if a0 = 3 then (some (1, u1)) else (if a0 = 5 then (some (1, u1)) else (J9 u1)))) <| fun J13 => if a1 ≠ 1 then (J13 w) else (if a0 = 4 then (some (1, w)) else (J13 w))))
set_option maxRecDepth 100000 in
set_option maxHeartbeats 4000000 in
theorem gR_isUnder (E : Nat × (Int → Int)) (d : Nat) {res : Int × WD} (a0 : Int) (a1 : Int) (w : WD) (h : fR_isUnder a0 a1 w = some res) : G E mR_isUnder (d + 1) 0 [(0, pI a0), (1, pI a1)] [] w RF NN 0 0 (some (pI res.1), res.2, RF, NN) := by
  unfold fR_isUnder at h
  refine g_iload_n (pc := 0) (j := 1) (dk d_mR_isUnder 0 rfl) rfl ?_
  refine h_if_eq (pc := 1) (tgt := 56) (dk d_mR_isUnder 1 rfl) rfl h (fun hc17 h => ?_) (fun hc17 h => ?_)
  · refine g_iconst (pc := 56) (dk d_mR_isUnder 32 rfl) (by decide) ?_
    refine g_goto (pc := 57) (tgt := 61) (dk d_mR_isUnder 33 rfl) rfl ?_
    exact h_zret (pc := 61) (Or.inr rfl) (dk d_mR_isUnder 35 rfl) h
  · refine g_iload_n (pc := 4) (j := 0) (dk d_mR_isUnder 2 rfl) rfl ?_
    refine g_iload_n (pc := 5) (j := 1) (dk d_mR_isUnder 3 rfl) rfl ?_
    refine h_icmp_eq (pc := 6) (tgt := 56) (dk d_mR_isUnder 4 rfl) rfl h (fun hc16 h => ?_) (fun hc16 h => ?_)
    · refine g_iconst (pc := 56) (dk d_mR_isUnder 32 rfl) (by decide) ?_
      refine g_goto (pc := 57) (tgt := 61) (dk d_mR_isUnder 33 rfl) rfl ?_
      exact h_zret (pc := 61) (Or.inr rfl) (dk d_mR_isUnder 35 rfl) h
    · refine g_iload_n (pc := 9) (j := 1) (dk d_mR_isUnder 5 rfl) rfl ?_
      refine g_iconst (pc := 10) (dk d_mR_isUnder 6 rfl) (by decide) ?_
      refine jn_e (fun J => ∀ (u1 : WD), J u1 = some res → G E mR_isUnder (d + 1) 19 [(0, pI a0), (1, pI a1)] [] u1 RF NN 0 0 (some (pI res.1), res.2, RF, NN)) h (fun u1 h => ?_) (fun J13 hJ13 h => ?_)
      · refine g_iload_n (pc := 19) (j := 1) (dk d_mR_isUnder 11 rfl) rfl ?_
        refine g_iconst (pc := 20) (dk d_mR_isUnder 12 rfl) (by decide) ?_
        refine jn_e (fun J => ∀ (u2 : WD), J u2 = some res → G E mR_isUnder (d + 1) 34 [(0, pI a0), (1, pI a1)] [] u2 RF NN 0 0 (some (pI res.1), res.2, RF, NN)) h (fun u2 h => ?_) (fun J9 hJ9 h => ?_)
        · refine g_iload_n (pc := 34) (j := 1) (dk d_mR_isUnder 20 rfl) rfl ?_
          refine g_iconst (pc := 35) (dk d_mR_isUnder 21 rfl) (by decide) ?_
          refine jn_e (fun J => ∀ (u3 : WD), J u3 = some res → G E mR_isUnder (d + 1) 44 [(0, pI a0), (1, pI a1)] [] u3 RF NN 0 0 (some (pI res.1), res.2, RF, NN)) h (fun u3 h => ?_) (fun J6 hJ6 h => ?_)
          · refine g_iload_n (pc := 44) (j := 1) (dk d_mR_isUnder 26 rfl) rfl ?_
            refine g_bipush (pc := 45) (dk d_mR_isUnder 27 rfl) (by decide) ?_
            refine h_icmp_ne (pc := 47) (tgt := 60) (dk d_mR_isUnder 28 rfl) rfl h (fun hc5 h => ?_) (fun hc5 h => ?_)
            · refine g_iconst (pc := 60) (dk d_mR_isUnder 34 rfl) (by decide) ?_
              exact h_zret (pc := 61) (Or.inl rfl) (dk d_mR_isUnder 35 rfl) h
            · refine g_iload_n (pc := 50) (j := 0) (dk d_mR_isUnder 29 rfl) rfl ?_
              refine g_bipush (pc := 51) (dk d_mR_isUnder 30 rfl) (by decide) ?_
              refine h_icmp_ne (pc := 53) (tgt := 60) (dk d_mR_isUnder 31 rfl) rfl h (fun hc4 h => ?_) (fun hc4 h => ?_)
              · refine g_iconst (pc := 60) (dk d_mR_isUnder 34 rfl) (by decide) ?_
                exact h_zret (pc := 61) (Or.inl rfl) (dk d_mR_isUnder 35 rfl) h
              · refine g_iconst (pc := 56) (dk d_mR_isUnder 32 rfl) (by decide) ?_
                refine g_goto (pc := 57) (tgt := 61) (dk d_mR_isUnder 33 rfl) rfl ?_
                exact h_zret (pc := 61) (Or.inr rfl) (dk d_mR_isUnder 35 rfl) h
          · refine h_icmp_ne (pc := 36) (tgt := 44) (dk d_mR_isUnder 22 rfl) rfl h (fun hc8 h => ?_) (fun hc8 h => ?_)
            · exact hJ6 _ h
            · refine g_iload_n (pc := 39) (j := 0) (dk d_mR_isUnder 23 rfl) rfl ?_
              refine g_iconst (pc := 40) (dk d_mR_isUnder 24 rfl) (by decide) ?_
              refine h_icmp_eq (pc := 41) (tgt := 56) (dk d_mR_isUnder 25 rfl) rfl h (fun hc7 h => ?_) (fun hc7 h => ?_)
              · refine g_iconst (pc := 56) (dk d_mR_isUnder 32 rfl) (by decide) ?_
                refine g_goto (pc := 57) (tgt := 61) (dk d_mR_isUnder 33 rfl) rfl ?_
                exact h_zret (pc := 61) (Or.inr rfl) (dk d_mR_isUnder 35 rfl) h
              · exact hJ6 _ h
        · refine h_icmp_ne (pc := 21) (tgt := 34) (dk d_mR_isUnder 13 rfl) rfl h (fun hc12 h => ?_) (fun hc12 h => ?_)
          · exact hJ9 _ h
          · refine g_iload_n (pc := 24) (j := 0) (dk d_mR_isUnder 14 rfl) rfl ?_
            refine g_iconst (pc := 25) (dk d_mR_isUnder 15 rfl) (by decide) ?_
            refine h_icmp_eq (pc := 26) (tgt := 56) (dk d_mR_isUnder 16 rfl) rfl h (fun hc11 h => ?_) (fun hc11 h => ?_)
            · refine g_iconst (pc := 56) (dk d_mR_isUnder 32 rfl) (by decide) ?_
              refine g_goto (pc := 57) (tgt := 61) (dk d_mR_isUnder 33 rfl) rfl ?_
              exact h_zret (pc := 61) (Or.inr rfl) (dk d_mR_isUnder 35 rfl) h
            · refine g_iload_n (pc := 29) (j := 0) (dk d_mR_isUnder 17 rfl) rfl ?_
              refine g_iconst (pc := 30) (dk d_mR_isUnder 18 rfl) (by decide) ?_
              refine h_icmp_eq (pc := 31) (tgt := 56) (dk d_mR_isUnder 19 rfl) rfl h (fun hc10 h => ?_) (fun hc10 h => ?_)
              · refine g_iconst (pc := 56) (dk d_mR_isUnder 32 rfl) (by decide) ?_
                refine g_goto (pc := 57) (tgt := 61) (dk d_mR_isUnder 33 rfl) rfl ?_
                exact h_zret (pc := 61) (Or.inr rfl) (dk d_mR_isUnder 35 rfl) h
              · exact hJ9 _ h
      · refine h_icmp_ne (pc := 11) (tgt := 19) (dk d_mR_isUnder 7 rfl) rfl h (fun hc15 h => ?_) (fun hc15 h => ?_)
        · exact hJ13 _ h
        · refine g_iload_n (pc := 14) (j := 0) (dk d_mR_isUnder 8 rfl) rfl ?_
          refine g_iconst (pc := 15) (dk d_mR_isUnder 9 rfl) (by decide) ?_
          refine h_icmp_eq (pc := 16) (tgt := 56) (dk d_mR_isUnder 10 rfl) rfl h (fun hc14 h => ?_) (fun hc14 h => ?_)
          · refine g_iconst (pc := 56) (dk d_mR_isUnder 32 rfl) (by decide) ?_
            refine g_goto (pc := 57) (tgt := 61) (dk d_mR_isUnder 33 rfl) rfl ?_
            exact h_zret (pc := 61) (Or.inr rfl) (dk d_mR_isUnder 35 rfl) h
          · exact hJ13 _ h
set_option maxRecDepth 100000 in
set_option maxHeartbeats 4000000 in
theorem kR_isUnder (E : Nat × (Int → Int)) (d : Nat) {a0 : Int} {a1 : Int} {w w1 : WD} {r : Int} (h : fR_isUnder a0 a1 w = some (r, w1)) : CTi E mR_isUnder (d + 1) [pI a0, pI a1] w RF NN r w1 RF NN := by
  exact CTi_of (by decide +kernel) (Nat.le_of_ble_eq_true rfl) (Or.inr rfl) (gR_isUnder (res := (r, w1)) E d a0 a1 w h)
def fR_showing (a1 : Int) (a2 : Int) (w : WD) : Option (Int × WD) := ck (0 ≤ a1 ∧ a1 < 50) <| ci (fR_isUnder (w 80 a1) 1 w) <| fun (r2 : Int) (u1 : WD) => if r2 = 0 then (ck (0 ≤ a1 ∧ a1 < 50) <| if (u1 80 a1) ≠ 7 then (ck (0 ≤ a1 ∧ a1 < 50) <| if (u1 80 a1) ≠ 6 then (ci (fR_plainShows a1 a2 u1) <| fun (r5 : Int) (u4 : WD) => some (r5, u4)) else (ci (fR_absentShows a1 a2 u1) <| fun (r8 : Int) (u7 : WD) => some (r8, u7))) else (cv (fR_ran 81 u1) <| fun (u11 : WD) => ci (fR_absentShows a1 a2 u11) <| fun (r13 : Int) (u12 : WD) => some ((w32 (r13 - 1)), u12))) else (cv (fR_ran 20 u1) <| fun (u16 : WD) => ci (fR_plainShows a1 a2 u16) <| fun (r18 : Int) (u17 : WD) => some ((w32 (r18 + 3)), u17))
set_option maxRecDepth 100000 in
set_option maxHeartbeats 4000000 in
theorem gR_showing (E : Nat × (Int → Int)) (d : Nat) {res : Int × WD} (a1 : Int) (a2 : Int) (w : WD) (h : fR_showing a1 a2 w = some res) : G E mR_showing (d + 4) 0 [(0, pR 46), (1, pI a1), (2, pI a2)] [] w RF NN 0 0 (some (pI res.1), res.2, RF, NN) := by
  unfold fR_showing at h
  refine g_aload_n (pc := 0) (j := 0) (dk d_mR_showing 0 rfl) rfl (by decide) ?_
  refine g_getR (pc := 1) (a := 80) rfl fp_R_115 po_46 (dk d_mR_showing 1 rfl) ?_
  refine g_iload_n (pc := 4) (j := 1) (dk d_mR_showing 2 rfl) rfl ?_
  refine h_iald (pc := 5) (B := 50) pa_80 rfl (dk d_mR_showing 3 rfl) h (fun h => ?_)
  refine g_iconst (pc := 6) (dk d_mR_showing 4 rfl) (by decide) ?_
  refine h_callSi (d := d + 3) (pc := 7) (na := 2) (av := [pI (w 80 a1), pI 1]) ⟨rfl, rfl⟩ (dk d_mR_showing 5 rfl) lk_R_417 vm_mR_isUnder rfl rfl (Nat.le_of_ble_eq_true rfl) h (fun r2 u1 hq => kR_isUnder E (d + 2) hq) (fun r2 u1 hb3 h => ?_)
  refine h_if_eq (pc := 10) (tgt := 28) (dk d_mR_showing 6 rfl) rfl h (fun hc20 h => ?_) (fun hc20 h => ?_)
  · refine g_aload_n (pc := 28) (j := 0) (dk d_mR_showing 17 rfl) rfl (by decide) ?_
    refine g_getR (pc := 29) (a := 80) rfl fp_R_115 po_46 (dk d_mR_showing 18 rfl) ?_
    refine g_iload_n (pc := 32) (j := 1) (dk d_mR_showing 19 rfl) rfl ?_
    refine h_iald (pc := 33) (B := 50) pa_80 rfl (dk d_mR_showing 20 rfl) h (fun h => ?_)
    refine g_bipush (pc := 34) (dk d_mR_showing 21 rfl) (by decide) ?_
    refine h_icmp_ne (pc := 36) (tgt := 54) (dk d_mR_showing 22 rfl) rfl h (fun hc15 h => ?_) (fun hc15 h => ?_)
    · refine g_aload_n (pc := 54) (j := 0) (dk d_mR_showing 33 rfl) rfl (by decide) ?_
      refine g_getR (pc := 55) (a := 80) rfl fp_R_115 po_46 (dk d_mR_showing 34 rfl) ?_
      refine g_iload_n (pc := 58) (j := 1) (dk d_mR_showing 35 rfl) rfl ?_
      refine h_iald (pc := 59) (B := 50) pa_80 rfl (dk d_mR_showing 36 rfl) h (fun h => ?_)
      refine g_bipush (pc := 60) (dk d_mR_showing 37 rfl) (by decide) ?_
      refine h_icmp_ne (pc := 62) (tgt := 74) (dk d_mR_showing 38 rfl) rfl h (fun hc10 h => ?_) (fun hc10 h => ?_)
      · refine g_aload_n (pc := 74) (j := 0) (dk d_mR_showing 44 rfl) rfl (by decide) ?_
        refine g_iload_n (pc := 75) (j := 1) (dk d_mR_showing 45 rfl) rfl ?_
        refine g_iload_n (pc := 76) (j := 2) (dk d_mR_showing 46 rfl) rfl ?_
        refine h_callVi (d := d + 3) (pc := 77) (na := 2) (av := [pI a1, pI a2]) (k0 := 46) po_46 ⟨_, rfl⟩ ⟨rfl, rfl⟩ (dk d_mR_showing 47 rfl) lk_R_414 vm_mR_plainShows rfl rfl (Nat.le_of_ble_eq_true rfl) h (fun r5 u4 hq => kR_plainShows E (d + 1) hq) (fun r5 u4 hb6 h => ?_)
        exact h_iret (pc := 80) rfl (dk d_mR_showing 48 rfl) h
      · refine g_aload_n (pc := 65) (j := 0) (dk d_mR_showing 39 rfl) rfl (by decide) ?_
        refine g_iload_n (pc := 66) (j := 1) (dk d_mR_showing 40 rfl) rfl ?_
        refine g_iload_n (pc := 67) (j := 2) (dk d_mR_showing 41 rfl) rfl ?_
        refine h_callVi (d := d + 3) (pc := 68) (na := 2) (av := [pI a1, pI a2]) (k0 := 46) po_46 ⟨_, rfl⟩ ⟨rfl, rfl⟩ (dk d_mR_showing 42 rfl) lk_R_420 vm_mR_absentShows rfl rfl (Nat.le_of_ble_eq_true rfl) h (fun r8 u7 hq => kR_absentShows E (d + 0) hq) (fun r8 u7 hb9 h => ?_)
        refine g_goto (pc := 71) (tgt := 80) (dk d_mR_showing 43 rfl) rfl ?_
        exact h_iret (pc := 80) rfl (dk d_mR_showing 48 rfl) h
    · refine g_aload_n (pc := 39) (j := 0) (dk d_mR_showing 23 rfl) rfl (by decide) ?_
      refine g_bipush (pc := 40) (dk d_mR_showing 24 rfl) (by decide) ?_
      refine h_callVv (d := d + 3) (pc := 42) (na := 1) (av := [pI 81]) (k0 := 46) po_46 ⟨_, rfl⟩ ⟨rfl, rfl⟩ (dk d_mR_showing 25 rfl) lk_R_411 vm_mR_ran rfl rfl (Nat.le_of_ble_eq_true rfl) h (fun u11 hq => kR_ran E (d + 2) hq) (fun u11 h => ?_)
      refine g_aload_n (pc := 45) (j := 0) (dk d_mR_showing 26 rfl) rfl (by decide) ?_
      refine g_iload_n (pc := 46) (j := 1) (dk d_mR_showing 27 rfl) rfl ?_
      refine g_iload_n (pc := 47) (j := 2) (dk d_mR_showing 28 rfl) rfl ?_
      refine h_callVi (d := d + 3) (pc := 48) (na := 2) (av := [pI a1, pI a2]) (k0 := 46) po_46 ⟨_, rfl⟩ ⟨rfl, rfl⟩ (dk d_mR_showing 29 rfl) lk_R_420 vm_mR_absentShows rfl rfl (Nat.le_of_ble_eq_true rfl) h (fun r13 u12 hq => kR_absentShows E (d + 0) hq) (fun r13 u12 hb14 h => ?_)
      refine g_iconst (pc := 51) (dk d_mR_showing 30 rfl) (by decide) ?_
      refine g_isub (pc := 52) (dk d_mR_showing 31 rfl) ?_
      exact h_iret (pc := 53) rfl (dk d_mR_showing 32 rfl) h
  · refine g_aload_n (pc := 13) (j := 0) (dk d_mR_showing 7 rfl) rfl (by decide) ?_
    refine g_bipush (pc := 14) (dk d_mR_showing 8 rfl) (by decide) ?_
    refine h_callVv (d := d + 3) (pc := 16) (na := 1) (av := [pI 20]) (k0 := 46) po_46 ⟨_, rfl⟩ ⟨rfl, rfl⟩ (dk d_mR_showing 9 rfl) lk_R_411 vm_mR_ran rfl rfl (Nat.le_of_ble_eq_true rfl) h (fun u16 hq => kR_ran E (d + 2) hq) (fun u16 h => ?_)
    refine g_aload_n (pc := 19) (j := 0) (dk d_mR_showing 10 rfl) rfl (by decide) ?_
    refine g_iload_n (pc := 20) (j := 1) (dk d_mR_showing 11 rfl) rfl ?_
    refine g_iload_n (pc := 21) (j := 2) (dk d_mR_showing 12 rfl) rfl ?_
    refine h_callVi (d := d + 3) (pc := 22) (na := 2) (av := [pI a1, pI a2]) (k0 := 46) po_46 ⟨_, rfl⟩ ⟨rfl, rfl⟩ (dk d_mR_showing 13 rfl) lk_R_414 vm_mR_plainShows rfl rfl (Nat.le_of_ble_eq_true rfl) h (fun r18 u17 hq => kR_plainShows E (d + 1) hq) (fun r18 u17 hb19 h => ?_)
    refine g_iconst (pc := 25) (dk d_mR_showing 14 rfl) (by decide) ?_
    refine g_iadd (pc := 26) (dk d_mR_showing 15 rfl) ?_
    exact h_iret (pc := 27) rfl (dk d_mR_showing 16 rfl) h
set_option maxRecDepth 100000 in
set_option maxHeartbeats 4000000 in
theorem kR_showing (E : Nat × (Int → Int)) (d : Nat) {a1 : Int} {a2 : Int} {w w1 : WD} {r : Int} (h : fR_showing a1 a2 w = some (r, w1)) : CTi E mR_showing (d + 4) [pR 46, pI a1, pI a2] w RF NN r w1 RF NN := by
  exact CTi_of (by decide +kernel) (Nat.le_of_ble_eq_true rfl) (Or.inl rfl) (gR_showing (res := (r, w1)) E d a1 a2 w h)
def fR_believing (a1 : Int) (a2 : Int) (w : WD) : Option (Int × WD) := ck (0 ≤ a1 ∧ a1 < 50) <| if (w 80 a1) ≠ 5 then (ck (0 ≤ a1 ∧ a1 < 50) <| if (w 80 a1) ≠ 3 then (ci (fR_plainBelieves a1 a2 w) <| fun (r2 : Int) (u1 : WD) => some (r2, u1)) else (ci (fR_borrowedBelieves a1 a2 w) <| fun (r5 : Int) (u4 : WD) => some (r5, u4))) else (cv (fR_ran 60 w) <| fun (u8 : WD) => ci (fR_borrowedBelieves a1 a2 u8) <| fun (r10 : Int) (u9 : WD) => ci (fR_showing a1 2 u9) <| fun (r13 : Int) (u12 : WD) => some ((w32 (r10 - r13)), u12))
set_option maxRecDepth 100000 in
set_option maxHeartbeats 4000000 in
theorem gR_believing (E : Nat × (Int → Int)) (d : Nat) {res : Int × WD} (a1 : Int) (a2 : Int) (w : WD) (h : fR_believing a1 a2 w = some res) : G E mR_believing (d + 5) 0 [(0, pR 46), (1, pI a1), (2, pI a2)] [] w RF NN 0 0 (some (pI res.1), res.2, RF, NN) := by
  unfold fR_believing at h
  refine g_aload_n (pc := 0) (j := 0) (dk d_mR_believing 0 rfl) rfl (by decide) ?_
  refine g_getR (pc := 1) (a := 80) rfl fp_R_115 po_46 (dk d_mR_believing 1 rfl) ?_
  refine g_iload_n (pc := 4) (j := 1) (dk d_mR_believing 2 rfl) rfl ?_
  refine h_iald (pc := 5) (B := 50) pa_80 rfl (dk d_mR_believing 3 rfl) h (fun h => ?_)
  refine g_iconst (pc := 6) (dk d_mR_believing 4 rfl) (by decide) ?_
  refine h_icmp_ne (pc := 7) (tgt := 32) (dk d_mR_believing 5 rfl) rfl h (fun hc15 h => ?_) (fun hc15 h => ?_)
  · refine g_aload_n (pc := 32) (j := 0) (dk d_mR_believing 21 rfl) rfl (by decide) ?_
    refine g_getR (pc := 33) (a := 80) rfl fp_R_115 po_46 (dk d_mR_believing 22 rfl) ?_
    refine g_iload_n (pc := 36) (j := 1) (dk d_mR_believing 23 rfl) rfl ?_
    refine h_iald (pc := 37) (B := 50) pa_80 rfl (dk d_mR_believing 24 rfl) h (fun h => ?_)
    refine g_iconst (pc := 38) (dk d_mR_believing 25 rfl) (by decide) ?_
    refine h_icmp_ne (pc := 39) (tgt := 51) (dk d_mR_believing 26 rfl) rfl h (fun hc7 h => ?_) (fun hc7 h => ?_)
    · refine g_aload_n (pc := 51) (j := 0) (dk d_mR_believing 32 rfl) rfl (by decide) ?_
      refine g_iload_n (pc := 52) (j := 1) (dk d_mR_believing 33 rfl) rfl ?_
      refine g_iload_n (pc := 53) (j := 2) (dk d_mR_believing 34 rfl) rfl ?_
      refine h_callVi (d := d + 4) (pc := 54) (na := 2) (av := [pI a1, pI a2]) (k0 := 46) po_46 ⟨_, rfl⟩ ⟨rfl, rfl⟩ (dk d_mR_believing 35 rfl) lk_R_435 vm_mR_plainBelieves rfl rfl (Nat.le_of_ble_eq_true rfl) h (fun r2 u1 hq => kR_plainBelieves E (d + 2) hq) (fun r2 u1 hb3 h => ?_)
      exact h_iret (pc := 57) rfl (dk d_mR_believing 36 rfl) h
    · refine g_aload_n (pc := 42) (j := 0) (dk d_mR_believing 27 rfl) rfl (by decide) ?_
      refine g_iload_n (pc := 43) (j := 1) (dk d_mR_believing 28 rfl) rfl ?_
      refine g_iload_n (pc := 44) (j := 2) (dk d_mR_believing 29 rfl) rfl ?_
      refine h_callVi (d := d + 4) (pc := 45) (na := 2) (av := [pI a1, pI a2]) (k0 := 46) po_46 ⟨_, rfl⟩ ⟨rfl, rfl⟩ (dk d_mR_believing 30 rfl) lk_R_438 vm_mR_borrowedBelieves rfl rfl (Nat.le_of_ble_eq_true rfl) h (fun r5 u4 hq => kR_borrowedBelieves E (d + 1) hq) (fun r5 u4 hb6 h => ?_)
      refine g_goto (pc := 48) (tgt := 57) (dk d_mR_believing 31 rfl) rfl ?_
      exact h_iret (pc := 57) rfl (dk d_mR_believing 36 rfl) h
  · refine g_aload_n (pc := 10) (j := 0) (dk d_mR_believing 6 rfl) rfl (by decide) ?_
    refine g_bipush (pc := 11) (dk d_mR_believing 7 rfl) (by decide) ?_
    refine h_callVv (d := d + 4) (pc := 13) (na := 1) (av := [pI 60]) (k0 := 46) po_46 ⟨_, rfl⟩ ⟨rfl, rfl⟩ (dk d_mR_believing 8 rfl) lk_R_411 vm_mR_ran rfl rfl (Nat.le_of_ble_eq_true rfl) h (fun u8 hq => kR_ran E (d + 3) hq) (fun u8 h => ?_)
    refine g_aload_n (pc := 16) (j := 0) (dk d_mR_believing 9 rfl) rfl (by decide) ?_
    refine g_iload_n (pc := 17) (j := 1) (dk d_mR_believing 10 rfl) rfl ?_
    refine g_iload_n (pc := 18) (j := 2) (dk d_mR_believing 11 rfl) rfl ?_
    refine h_callVi (d := d + 4) (pc := 19) (na := 2) (av := [pI a1, pI a2]) (k0 := 46) po_46 ⟨_, rfl⟩ ⟨rfl, rfl⟩ (dk d_mR_believing 12 rfl) lk_R_438 vm_mR_borrowedBelieves rfl rfl (Nat.le_of_ble_eq_true rfl) h (fun r10 u9 hq => kR_borrowedBelieves E (d + 1) hq) (fun r10 u9 hb11 h => ?_)
    refine g_istore_n (pc := 22) (l' := [(3, pI r10), (0, pR 46), (1, pI a1), (2, pI a2)]) (dk d_mR_believing 13 rfl) (Nat.le_of_ble_eq_true rfl) rfl ?_
    refine g_iload_n (pc := 23) (j := 0) (dk d_mR_believing 14 rfl) rfl ?_
    refine g_aload_n (pc := 24) (j := 1) (dk d_mR_believing 15 rfl) rfl (by decide) ?_
    refine g_iload_n (pc := 25) (j := 2) (dk d_mR_believing 16 rfl) rfl ?_
    refine g_iconst (pc := 26) (dk d_mR_believing 17 rfl) (by decide) ?_
    refine h_callVi (d := d + 4) (pc := 27) (na := 2) (av := [pI a1, pI 2]) (k0 := 46) po_46 ⟨_, rfl⟩ ⟨rfl, rfl⟩ (dk d_mR_believing 18 rfl) lk_R_423 vm_mR_showing rfl rfl (Nat.le_of_ble_eq_true rfl) h (fun r13 u12 hq => kR_showing E (d + 0) hq) (fun r13 u12 hb14 h => ?_)
    refine g_isub (pc := 30) (dk d_mR_believing 19 rfl) ?_
    exact h_iret (pc := 31) rfl (dk d_mR_believing 20 rfl) h
set_option maxRecDepth 100000 in
set_option maxHeartbeats 4000000 in
theorem kR_believing (E : Nat × (Int → Int)) (d : Nat) {a1 : Int} {a2 : Int} {w w1 : WD} {r : Int} (h : fR_believing a1 a2 w = some (r, w1)) : CTi E mR_believing (d + 5) [pR 46, pI a1, pI a2] w RF NN r w1 RF NN := by
  exact CTi_of (by decide +kernel) (Nat.le_of_ble_eq_true rfl) (Or.inl rfl) (gR_believing (res := (r, w1)) E d a1 a2 w h)
def fR_plainAsks (a1 : Int) (a2 : Int) (w : WD) : Option (Int × WD) := cv (fR_ran 10 w) <| fun (u1 : WD) => ci (fR_showing a1 a2 u1) <| fun (r3 : Int) (u2 : WD) => some ((w32 (r3 * 2)), u2)
set_option maxRecDepth 100000 in
set_option maxHeartbeats 4000000 in
theorem gR_plainAsks (E : Nat × (Int → Int)) (d : Nat) {res : Int × WD} (a1 : Int) (a2 : Int) (w : WD) (h : fR_plainAsks a1 a2 w = some res) : G E mR_plainAsks (d + 5) 0 [(0, pR 46), (1, pI a1), (2, pI a2)] [] w RF NN 0 0 (some (pI res.1), res.2, RF, NN) := by
  unfold fR_plainAsks at h
  refine g_aload_n (pc := 0) (j := 0) (dk d_mR_plainAsks 0 rfl) rfl (by decide) ?_
  refine g_bipush (pc := 1) (dk d_mR_plainAsks 1 rfl) (by decide) ?_
  refine h_callVv (d := d + 4) (pc := 3) (na := 1) (av := [pI 10]) (k0 := 46) po_46 ⟨_, rfl⟩ ⟨rfl, rfl⟩ (dk d_mR_plainAsks 2 rfl) lk_R_411 vm_mR_ran rfl rfl (Nat.le_of_ble_eq_true rfl) h (fun u1 hq => kR_ran E (d + 3) hq) (fun u1 h => ?_)
  refine g_aload_n (pc := 6) (j := 0) (dk d_mR_plainAsks 3 rfl) rfl (by decide) ?_
  refine g_iload_n (pc := 7) (j := 1) (dk d_mR_plainAsks 4 rfl) rfl ?_
  refine g_iload_n (pc := 8) (j := 2) (dk d_mR_plainAsks 5 rfl) rfl ?_
  refine h_callVi (d := d + 4) (pc := 9) (na := 2) (av := [pI a1, pI a2]) (k0 := 46) po_46 ⟨_, rfl⟩ ⟨rfl, rfl⟩ (dk d_mR_plainAsks 6 rfl) lk_R_423 vm_mR_showing rfl rfl (Nat.le_of_ble_eq_true rfl) h (fun r3 u2 hq => kR_showing E (d + 0) hq) (fun r3 u2 hb4 h => ?_)
  refine g_iconst (pc := 12) (dk d_mR_plainAsks 7 rfl) (by decide) ?_
  refine g_imul (pc := 13) (dk d_mR_plainAsks 8 rfl) ?_
  exact h_iret (pc := 14) rfl (dk d_mR_plainAsks 9 rfl) h
set_option maxRecDepth 100000 in
set_option maxHeartbeats 4000000 in
theorem kR_plainAsks (E : Nat × (Int → Int)) (d : Nat) {a1 : Int} {a2 : Int} {w w1 : WD} {r : Int} (h : fR_plainAsks a1 a2 w = some (r, w1)) : CTi E mR_plainAsks (d + 5) [pR 46, pI a1, pI a2] w RF NN r w1 RF NN := by
  exact CTi_of (by decide +kernel) (Nat.le_of_ble_eq_true rfl) (Or.inl rfl) (gR_plainAsks (res := (r, w1)) E d a1 a2 w h)
def fR_feignedAsks (a1 : Int) (a2 : Int) (w : WD) : Option (Int × WD) := cv (fR_ran 30 w) <| fun (u1 : WD) => ci (fR_plainAsks a1 a2 u1) <| fun (r3 : Int) (u2 : WD) => some ((w32 (-r3)), u2)
set_option maxRecDepth 100000 in
set_option maxHeartbeats 4000000 in
theorem gR_feignedAsks (E : Nat × (Int → Int)) (d : Nat) {res : Int × WD} (a1 : Int) (a2 : Int) (w : WD) (h : fR_feignedAsks a1 a2 w = some res) : G E mR_feignedAsks (d + 6) 0 [(0, pR 46), (1, pI a1), (2, pI a2)] [] w RF NN 0 0 (some (pI res.1), res.2, RF, NN) := by
  unfold fR_feignedAsks at h
  refine g_aload_n (pc := 0) (j := 0) (dk d_mR_feignedAsks 0 rfl) rfl (by decide) ?_
  refine g_bipush (pc := 1) (dk d_mR_feignedAsks 1 rfl) (by decide) ?_
  refine h_callVv (d := d + 5) (pc := 3) (na := 1) (av := [pI 30]) (k0 := 46) po_46 ⟨_, rfl⟩ ⟨rfl, rfl⟩ (dk d_mR_feignedAsks 2 rfl) lk_R_411 vm_mR_ran rfl rfl (Nat.le_of_ble_eq_true rfl) h (fun u1 hq => kR_ran E (d + 4) hq) (fun u1 h => ?_)
  refine g_aload_n (pc := 6) (j := 0) (dk d_mR_feignedAsks 3 rfl) rfl (by decide) ?_
  refine g_iload_n (pc := 7) (j := 1) (dk d_mR_feignedAsks 4 rfl) rfl ?_
  refine g_iload_n (pc := 8) (j := 2) (dk d_mR_feignedAsks 5 rfl) rfl ?_
  refine h_callVi (d := d + 5) (pc := 9) (na := 2) (av := [pI a1, pI a2]) (k0 := 46) po_46 ⟨_, rfl⟩ ⟨rfl, rfl⟩ (dk d_mR_feignedAsks 6 rfl) lk_R_426 vm_mR_plainAsks rfl rfl (Nat.le_of_ble_eq_true rfl) h (fun r3 u2 hq => kR_plainAsks E (d + 0) hq) (fun r3 u2 hb4 h => ?_)
  refine g_ineg (pc := 12) (dk d_mR_feignedAsks 7 rfl) ?_
  exact h_iret (pc := 13) rfl (dk d_mR_feignedAsks 8 rfl) h
set_option maxRecDepth 100000 in
set_option maxHeartbeats 4000000 in
theorem kR_feignedAsks (E : Nat × (Int → Int)) (d : Nat) {a1 : Int} {a2 : Int} {w w1 : WD} {r : Int} (h : fR_feignedAsks a1 a2 w = some (r, w1)) : CTi E mR_feignedAsks (d + 6) [pR 46, pI a1, pI a2] w RF NN r w1 RF NN := by
  exact CTi_of (by decide +kernel) (Nat.le_of_ble_eq_true rfl) (Or.inl rfl) (gR_feignedAsks (res := (r, w1)) E d a1 a2 w h)
def fR_asking (a1 : Int) (a2 : Int) (w : WD) : Option (Int × WD) := ck (0 ≤ a1 ∧ a1 < 50) <| ci (fR_isUnder (w 80 a1) 3 w) <| fun (r2 : Int) (u1 : WD) => if r2 = 0 then (ck (0 ≤ a1 ∧ a1 < 50) <| if (u1 80 a1) ≠ 7 then (ck (0 ≤ a1 ∧ a1 < 50) <| if (u1 80 a1) ≠ 2 then (ci (fR_plainAsks a1 a2 u1) <| fun (r5 : Int) (u4 : WD) => some (r5, u4)) else (ci (fR_feignedAsks a1 a2 u1) <| fun (r8 : Int) (u7 : WD) => some (r8, u7))) else (cv (fR_ran 80 u1) <| fun (u11 : WD) => ci (fR_plainAsks a1 a2 u11) <| fun (r13 : Int) (u12 : WD) => ci (fR_believing a1 2 u12) <| fun (r16 : Int) (u15 : WD) => some ((w32 (r13 + r16)), u15))) else (cv (fR_ran 41 u1) <| fun (u19 : WD) => ci (fR_feignedAsks a1 (w32 (a2 + 1)) u19) <| fun (r21 : Int) (u20 : WD) => some (r21, u20))
set_option maxRecDepth 100000 in
set_option maxHeartbeats 4000000 in
theorem gR_asking (E : Nat × (Int → Int)) (d : Nat) {res : Int × WD} (a1 : Int) (a2 : Int) (w : WD) (h : fR_asking a1 a2 w = some res) : G E mR_asking (d + 7) 0 [(0, pR 46), (1, pI a1), (2, pI a2)] [] w RF NN 0 0 (some (pI res.1), res.2, RF, NN) := by
  unfold fR_asking at h
  refine g_aload_n (pc := 0) (j := 0) (dk d_mR_asking 0 rfl) rfl (by decide) ?_
  refine g_getR (pc := 1) (a := 80) rfl fp_R_115 po_46 (dk d_mR_asking 1 rfl) ?_
  refine g_iload_n (pc := 4) (j := 1) (dk d_mR_asking 2 rfl) rfl ?_
  refine h_iald (pc := 5) (B := 50) pa_80 rfl (dk d_mR_asking 3 rfl) h (fun h => ?_)
  refine g_iconst (pc := 6) (dk d_mR_asking 4 rfl) (by decide) ?_
  refine h_callSi (d := d + 6) (pc := 7) (na := 2) (av := [pI (w 80 a1), pI 3]) ⟨rfl, rfl⟩ (dk d_mR_asking 5 rfl) lk_R_417 vm_mR_isUnder rfl rfl (Nat.le_of_ble_eq_true rfl) h (fun r2 u1 hq => kR_isUnder E (d + 5) hq) (fun r2 u1 hb3 h => ?_)
  refine h_if_eq (pc := 10) (tgt := 28) (dk d_mR_asking 6 rfl) rfl h (fun hc23 h => ?_) (fun hc23 h => ?_)
  · refine g_aload_n (pc := 28) (j := 0) (dk d_mR_asking 17 rfl) rfl (by decide) ?_
    refine g_getR (pc := 29) (a := 80) rfl fp_R_115 po_46 (dk d_mR_asking 18 rfl) ?_
    refine g_iload_n (pc := 32) (j := 1) (dk d_mR_asking 19 rfl) rfl ?_
    refine h_iald (pc := 33) (B := 50) pa_80 rfl (dk d_mR_asking 20 rfl) h (fun h => ?_)
    refine g_bipush (pc := 34) (dk d_mR_asking 21 rfl) (by decide) ?_
    refine h_icmp_ne (pc := 36) (tgt := 61) (dk d_mR_asking 22 rfl) rfl h (fun hc18 h => ?_) (fun hc18 h => ?_)
    · refine g_aload_n (pc := 61) (j := 0) (dk d_mR_asking 38 rfl) rfl (by decide) ?_
      refine g_getR (pc := 62) (a := 80) rfl fp_R_115 po_46 (dk d_mR_asking 39 rfl) ?_
      refine g_iload_n (pc := 65) (j := 1) (dk d_mR_asking 40 rfl) rfl ?_
      refine h_iald (pc := 66) (B := 50) pa_80 rfl (dk d_mR_asking 41 rfl) h (fun h => ?_)
      refine g_iconst (pc := 67) (dk d_mR_asking 42 rfl) (by decide) ?_
      refine h_icmp_ne (pc := 68) (tgt := 80) (dk d_mR_asking 43 rfl) rfl h (fun hc10 h => ?_) (fun hc10 h => ?_)
      · refine g_aload_n (pc := 80) (j := 0) (dk d_mR_asking 49 rfl) rfl (by decide) ?_
        refine g_iload_n (pc := 81) (j := 1) (dk d_mR_asking 50 rfl) rfl ?_
        refine g_iload_n (pc := 82) (j := 2) (dk d_mR_asking 51 rfl) rfl ?_
        refine h_callVi (d := d + 6) (pc := 83) (na := 2) (av := [pI a1, pI a2]) (k0 := 46) po_46 ⟨_, rfl⟩ ⟨rfl, rfl⟩ (dk d_mR_asking 52 rfl) lk_R_426 vm_mR_plainAsks rfl rfl (Nat.le_of_ble_eq_true rfl) h (fun r5 u4 hq => kR_plainAsks E (d + 1) hq) (fun r5 u4 hb6 h => ?_)
        exact h_iret (pc := 86) rfl (dk d_mR_asking 53 rfl) h
      · refine g_aload_n (pc := 71) (j := 0) (dk d_mR_asking 44 rfl) rfl (by decide) ?_
        refine g_iload_n (pc := 72) (j := 1) (dk d_mR_asking 45 rfl) rfl ?_
        refine g_iload_n (pc := 73) (j := 2) (dk d_mR_asking 46 rfl) rfl ?_
        refine h_callVi (d := d + 6) (pc := 74) (na := 2) (av := [pI a1, pI a2]) (k0 := 46) po_46 ⟨_, rfl⟩ ⟨rfl, rfl⟩ (dk d_mR_asking 47 rfl) lk_R_429 vm_mR_feignedAsks rfl rfl (Nat.le_of_ble_eq_true rfl) h (fun r8 u7 hq => kR_feignedAsks E (d + 0) hq) (fun r8 u7 hb9 h => ?_)
        refine g_goto (pc := 77) (tgt := 86) (dk d_mR_asking 48 rfl) rfl ?_
        exact h_iret (pc := 86) rfl (dk d_mR_asking 53 rfl) h
    · refine g_aload_n (pc := 39) (j := 0) (dk d_mR_asking 23 rfl) rfl (by decide) ?_
      refine g_bipush (pc := 40) (dk d_mR_asking 24 rfl) (by decide) ?_
      refine h_callVv (d := d + 6) (pc := 42) (na := 1) (av := [pI 80]) (k0 := 46) po_46 ⟨_, rfl⟩ ⟨rfl, rfl⟩ (dk d_mR_asking 25 rfl) lk_R_411 vm_mR_ran rfl rfl (Nat.le_of_ble_eq_true rfl) h (fun u11 hq => kR_ran E (d + 5) hq) (fun u11 h => ?_)
      refine g_aload_n (pc := 45) (j := 0) (dk d_mR_asking 26 rfl) rfl (by decide) ?_
      refine g_iload_n (pc := 46) (j := 1) (dk d_mR_asking 27 rfl) rfl ?_
      refine g_iload_n (pc := 47) (j := 2) (dk d_mR_asking 28 rfl) rfl ?_
      refine h_callVi (d := d + 6) (pc := 48) (na := 2) (av := [pI a1, pI a2]) (k0 := 46) po_46 ⟨_, rfl⟩ ⟨rfl, rfl⟩ (dk d_mR_asking 29 rfl) lk_R_426 vm_mR_plainAsks rfl rfl (Nat.le_of_ble_eq_true rfl) h (fun r13 u12 hq => kR_plainAsks E (d + 1) hq) (fun r13 u12 hb14 h => ?_)
      refine g_istore_n (pc := 51) (l' := [(3, pI r13), (0, pR 46), (1, pI a1), (2, pI a2)]) (dk d_mR_asking 30 rfl) (Nat.le_of_ble_eq_true rfl) rfl ?_
      refine g_iload_n (pc := 52) (j := 0) (dk d_mR_asking 31 rfl) rfl ?_
      refine g_aload_n (pc := 53) (j := 1) (dk d_mR_asking 32 rfl) rfl (by decide) ?_
      refine g_iload_n (pc := 54) (j := 2) (dk d_mR_asking 33 rfl) rfl ?_
      refine g_iconst (pc := 55) (dk d_mR_asking 34 rfl) (by decide) ?_
      refine h_callVi (d := d + 6) (pc := 56) (na := 2) (av := [pI a1, pI 2]) (k0 := 46) po_46 ⟨_, rfl⟩ ⟨rfl, rfl⟩ (dk d_mR_asking 35 rfl) lk_R_432 vm_mR_believing rfl rfl (Nat.le_of_ble_eq_true rfl) h (fun r16 u15 hq => kR_believing E (d + 1) hq) (fun r16 u15 hb17 h => ?_)
      refine g_iadd (pc := 59) (dk d_mR_asking 36 rfl) ?_
      exact h_iret (pc := 60) rfl (dk d_mR_asking 37 rfl) h
  · refine g_aload_n (pc := 13) (j := 0) (dk d_mR_asking 7 rfl) rfl (by decide) ?_
    refine g_bipush (pc := 14) (dk d_mR_asking 8 rfl) (by decide) ?_
    refine h_callVv (d := d + 6) (pc := 16) (na := 1) (av := [pI 41]) (k0 := 46) po_46 ⟨_, rfl⟩ ⟨rfl, rfl⟩ (dk d_mR_asking 9 rfl) lk_R_411 vm_mR_ran rfl rfl (Nat.le_of_ble_eq_true rfl) h (fun u19 hq => kR_ran E (d + 5) hq) (fun u19 h => ?_)
    refine g_aload_n (pc := 19) (j := 0) (dk d_mR_asking 10 rfl) rfl (by decide) ?_
    refine g_iload_n (pc := 20) (j := 1) (dk d_mR_asking 11 rfl) rfl ?_
    refine g_iload_n (pc := 21) (j := 2) (dk d_mR_asking 12 rfl) rfl ?_
    refine g_iconst (pc := 22) (dk d_mR_asking 13 rfl) (by decide) ?_
    refine g_iadd (pc := 23) (dk d_mR_asking 14 rfl) ?_
    refine h_callVi (d := d + 6) (pc := 24) (na := 2) (av := [pI a1, pI (w32 (a2 + 1))]) (k0 := 46) po_46 ⟨_, rfl⟩ ⟨rfl, rfl⟩ (dk d_mR_asking 15 rfl) lk_R_429 vm_mR_feignedAsks rfl rfl (Nat.le_of_ble_eq_true rfl) h (fun r21 u20 hq => kR_feignedAsks E (d + 0) hq) (fun r21 u20 hb22 h => ?_)
    exact h_iret (pc := 27) rfl (dk d_mR_asking 16 rfl) h
set_option maxRecDepth 100000 in
set_option maxHeartbeats 4000000 in
theorem kR_asking (E : Nat × (Int → Int)) (d : Nat) {a1 : Int} {a2 : Int} {w w1 : WD} {r : Int} (h : fR_asking a1 a2 w = some (r, w1)) : CTi E mR_asking (d + 7) [pR 46, pI a1, pI a2] w RF NN r w1 RF NN := by
  exact CTi_of (by decide +kernel) (Nat.le_of_ble_eq_true rfl) (Or.inl rfl) (gR_asking (res := (r, w1)) E d a1 a2 w h)
def fR_isBody (a1 : Int) (w : WD) : Option (Int × WD) := ci (fR_in a1 0 (w32 ((w 46 58) - 1)) w) <| fun (r2 : Int) (u1 : WD) => some (r2, u1)
set_option maxRecDepth 100000 in
set_option maxHeartbeats 4000000 in
theorem gR_isBody (E : Nat × (Int → Int)) (d : Nat) {res : Int × WD} (a1 : Int) (w : WD) (h : fR_isBody a1 w = some res) : G E mR_isBody (d + 2) 0 [(0, pR 46), (1, pI a1)] [] w RF NN 0 0 (some (pI res.1), res.2, RF, NN) := by
  unfold fR_isBody at h
  refine g_iload_n (pc := 0) (j := 1) (dk d_mR_isBody 0 rfl) rfl ?_
  refine g_iconst (pc := 1) (dk d_mR_isBody 1 rfl) (by decide) ?_
  refine g_aload_n (pc := 2) (j := 0) (dk d_mR_isBody 2 rfl) rfl (by decide) ?_
  refine g_getI (pc := 3) fp_R_405 po_46 (dk d_mR_isBody 3 rfl) ?_
  refine g_iconst (pc := 6) (dk d_mR_isBody 4 rfl) (by decide) ?_
  refine g_isub (pc := 7) (dk d_mR_isBody 5 rfl) ?_
  refine h_callSi (d := d + 1) (pc := 8) (na := 3) (av := [pI a1, pI 0, pI (w32 ((w 46 58) - 1))]) ⟨rfl, rfl⟩ (dk d_mR_isBody 6 rfl) lk_R_140 vm_mR_in rfl rfl (Nat.le_of_ble_eq_true rfl) h (fun r2 u1 hq => kR_in E (d + 0) hq) (fun r2 u1 hb3 h => ?_)
  exact h_zret (pc := 11) (hb3 rfl) (dk d_mR_isBody 7 rfl) h
set_option maxRecDepth 100000 in
set_option maxHeartbeats 4000000 in
theorem kR_isBody (E : Nat × (Int → Int)) (d : Nat) {a1 : Int} {w w1 : WD} {r : Int} (h : fR_isBody a1 w = some (r, w1)) : CTi E mR_isBody (d + 2) [pR 46, pI a1] w RF NN r w1 RF NN := by
  exact CTi_of (by decide +kernel) (Nat.le_of_ble_eq_true rfl) (Or.inr rfl) (gR_isBody (res := (r, w1)) E d a1 w h)
def fR_plainTells (a1 : Int) (a2 : Int) (w : WD) : Option (Int × WD) := cv (fR_ran 2 w) <| fun (u1 : WD) => ci (fR_asking a1 a2 u1) <| fun (r3 : Int) (u2 : WD) => ci (fR_believing a1 1 u2) <| fun (r6 : Int) (u5 : WD) => some ((w32 (r3 - r6)), u5)
set_option maxRecDepth 100000 in
set_option maxHeartbeats 4000000 in
theorem gR_plainTells (E : Nat × (Int → Int)) (d : Nat) {res : Int × WD} (a1 : Int) (a2 : Int) (w : WD) (h : fR_plainTells a1 a2 w = some res) : G E mR_plainTells (d + 8) 0 [(0, pR 46), (1, pI a1), (2, pI a2)] [] w RF NN 0 0 (some (pI res.1), res.2, RF, NN) := by
  unfold fR_plainTells at h
  refine g_aload_n (pc := 0) (j := 0) (dk d_mR_plainTells 0 rfl) rfl (by decide) ?_
  refine g_iconst (pc := 1) (dk d_mR_plainTells 1 rfl) (by decide) ?_
  refine h_callVv (d := d + 7) (pc := 2) (na := 1) (av := [pI 2]) (k0 := 46) po_46 ⟨_, rfl⟩ ⟨rfl, rfl⟩ (dk d_mR_plainTells 2 rfl) lk_R_411 vm_mR_ran rfl rfl (Nat.le_of_ble_eq_true rfl) h (fun u1 hq => kR_ran E (d + 6) hq) (fun u1 h => ?_)
  refine g_aload_n (pc := 5) (j := 0) (dk d_mR_plainTells 3 rfl) rfl (by decide) ?_
  refine g_iload_n (pc := 6) (j := 1) (dk d_mR_plainTells 4 rfl) rfl ?_
  refine g_iload_n (pc := 7) (j := 2) (dk d_mR_plainTells 5 rfl) rfl ?_
  refine h_callVi (d := d + 7) (pc := 8) (na := 2) (av := [pI a1, pI a2]) (k0 := 46) po_46 ⟨_, rfl⟩ ⟨rfl, rfl⟩ (dk d_mR_plainTells 6 rfl) lk_R_441 vm_mR_asking rfl rfl (Nat.le_of_ble_eq_true rfl) h (fun r3 u2 hq => kR_asking E (d + 0) hq) (fun r3 u2 hb4 h => ?_)
  refine g_istore_n (pc := 11) (l' := [(3, pI r3), (0, pR 46), (1, pI a1), (2, pI a2)]) (dk d_mR_plainTells 7 rfl) (Nat.le_of_ble_eq_true rfl) rfl ?_
  refine g_iload_n (pc := 12) (j := 0) (dk d_mR_plainTells 8 rfl) rfl ?_
  refine g_aload_n (pc := 13) (j := 1) (dk d_mR_plainTells 9 rfl) rfl (by decide) ?_
  refine g_iload_n (pc := 14) (j := 2) (dk d_mR_plainTells 10 rfl) rfl ?_
  refine g_iconst (pc := 15) (dk d_mR_plainTells 11 rfl) (by decide) ?_
  refine h_callVi (d := d + 7) (pc := 16) (na := 2) (av := [pI a1, pI 1]) (k0 := 46) po_46 ⟨_, rfl⟩ ⟨rfl, rfl⟩ (dk d_mR_plainTells 12 rfl) lk_R_432 vm_mR_believing rfl rfl (Nat.le_of_ble_eq_true rfl) h (fun r6 u5 hq => kR_believing E (d + 2) hq) (fun r6 u5 hb7 h => ?_)
  refine g_isub (pc := 19) (dk d_mR_plainTells 13 rfl) ?_
  exact h_iret (pc := 20) rfl (dk d_mR_plainTells 14 rfl) h
set_option maxRecDepth 100000 in
set_option maxHeartbeats 4000000 in
theorem kR_plainTells (E : Nat × (Int → Int)) (d : Nat) {a1 : Int} {a2 : Int} {w w1 : WD} {r : Int} (h : fR_plainTells a1 a2 w = some (r, w1)) : CTi E mR_plainTells (d + 8) [pR 46, pI a1, pI a2] w RF NN r w1 RF NN := by
  exact CTi_of (by decide +kernel) (Nat.le_of_ble_eq_true rfl) (Or.inl rfl) (gR_plainTells (res := (r, w1)) E d a1 a2 w h)
def fR_telling (a1 : Int) (a2 : Int) (w : WD) : Option (Int × WD) := ck (0 ≤ a1 ∧ a1 < 50) <| if (w 80 a1) ≠ 4 then (ck (0 ≤ a1 ∧ a1 < 50) <| if (w 80 a1) ≠ 5 then (ci (fR_plainTells a1 a2 w) <| fun (r2 : Int) (u1 : WD) => some (r2, u1)) else (cv (fR_ran 61 w) <| fun (u4 : WD) => ci (fR_plainTells a1 a2 u4) <| fun (r6 : Int) (u5 : WD) => some ((w32 (r6 + 1)), u5))) else (cv (fR_ran 50 w) <| fun (u9 : WD) => ci (fR_plainTells a1 a2 u9) <| fun (r11 : Int) (u10 : WD) => some ((bXor r11 5), u10))
set_option maxRecDepth 100000 in
set_option maxHeartbeats 4000000 in
theorem gR_telling (E : Nat × (Int → Int)) (d : Nat) {res : Int × WD} (a1 : Int) (a2 : Int) (w : WD) (h : fR_telling a1 a2 w = some res) : G E mR_telling (d + 9) 0 [(0, pR 46), (1, pI a1), (2, pI a2)] [] w RF NN 0 0 (some (pI res.1), res.2, RF, NN) := by
  unfold fR_telling at h
  refine g_aload_n (pc := 0) (j := 0) (dk d_mR_telling 0 rfl) rfl (by decide) ?_
  refine g_getR (pc := 1) (a := 80) rfl fp_R_115 po_46 (dk d_mR_telling 1 rfl) ?_
  refine g_iload_n (pc := 4) (j := 1) (dk d_mR_telling 2 rfl) rfl ?_
  refine h_iald (pc := 5) (B := 50) pa_80 rfl (dk d_mR_telling 3 rfl) h (fun h => ?_)
  refine g_iconst (pc := 6) (dk d_mR_telling 4 rfl) (by decide) ?_
  refine h_icmp_ne (pc := 7) (tgt := 25) (dk d_mR_telling 5 rfl) rfl h (fun hc13 h => ?_) (fun hc13 h => ?_)
  · refine g_aload_n (pc := 25) (j := 0) (dk d_mR_telling 16 rfl) rfl (by decide) ?_
    refine g_getR (pc := 26) (a := 80) rfl fp_R_115 po_46 (dk d_mR_telling 17 rfl) ?_
    refine g_iload_n (pc := 29) (j := 1) (dk d_mR_telling 18 rfl) rfl ?_
    refine h_iald (pc := 30) (B := 50) pa_80 rfl (dk d_mR_telling 19 rfl) h (fun h => ?_)
    refine g_iconst (pc := 31) (dk d_mR_telling 20 rfl) (by decide) ?_
    refine h_icmp_ne (pc := 32) (tgt := 50) (dk d_mR_telling 21 rfl) rfl h (fun hc8 h => ?_) (fun hc8 h => ?_)
    · refine g_aload_n (pc := 50) (j := 0) (dk d_mR_telling 32 rfl) rfl (by decide) ?_
      refine g_iload_n (pc := 51) (j := 1) (dk d_mR_telling 33 rfl) rfl ?_
      refine g_iload_n (pc := 52) (j := 2) (dk d_mR_telling 34 rfl) rfl ?_
      refine h_callVi (d := d + 8) (pc := 53) (na := 2) (av := [pI a1, pI a2]) (k0 := 46) po_46 ⟨_, rfl⟩ ⟨rfl, rfl⟩ (dk d_mR_telling 35 rfl) lk_R_444 vm_mR_plainTells rfl rfl (Nat.le_of_ble_eq_true rfl) h (fun r2 u1 hq => kR_plainTells E (d + 0) hq) (fun r2 u1 hb3 h => ?_)
      exact h_iret (pc := 56) rfl (dk d_mR_telling 36 rfl) h
    · refine g_aload_n (pc := 35) (j := 0) (dk d_mR_telling 22 rfl) rfl (by decide) ?_
      refine g_bipush (pc := 36) (dk d_mR_telling 23 rfl) (by decide) ?_
      refine h_callVv (d := d + 8) (pc := 38) (na := 1) (av := [pI 61]) (k0 := 46) po_46 ⟨_, rfl⟩ ⟨rfl, rfl⟩ (dk d_mR_telling 24 rfl) lk_R_411 vm_mR_ran rfl rfl (Nat.le_of_ble_eq_true rfl) h (fun u4 hq => kR_ran E (d + 7) hq) (fun u4 h => ?_)
      refine g_aload_n (pc := 41) (j := 0) (dk d_mR_telling 25 rfl) rfl (by decide) ?_
      refine g_iload_n (pc := 42) (j := 1) (dk d_mR_telling 26 rfl) rfl ?_
      refine g_iload_n (pc := 43) (j := 2) (dk d_mR_telling 27 rfl) rfl ?_
      refine h_callVi (d := d + 8) (pc := 44) (na := 2) (av := [pI a1, pI a2]) (k0 := 46) po_46 ⟨_, rfl⟩ ⟨rfl, rfl⟩ (dk d_mR_telling 28 rfl) lk_R_444 vm_mR_plainTells rfl rfl (Nat.le_of_ble_eq_true rfl) h (fun r6 u5 hq => kR_plainTells E (d + 0) hq) (fun r6 u5 hb7 h => ?_)
      refine g_iconst (pc := 47) (dk d_mR_telling 29 rfl) (by decide) ?_
      refine g_iadd (pc := 48) (dk d_mR_telling 30 rfl) ?_
      exact h_iret (pc := 49) rfl (dk d_mR_telling 31 rfl) h
  · refine g_aload_n (pc := 10) (j := 0) (dk d_mR_telling 6 rfl) rfl (by decide) ?_
    refine g_bipush (pc := 11) (dk d_mR_telling 7 rfl) (by decide) ?_
    refine h_callVv (d := d + 8) (pc := 13) (na := 1) (av := [pI 50]) (k0 := 46) po_46 ⟨_, rfl⟩ ⟨rfl, rfl⟩ (dk d_mR_telling 8 rfl) lk_R_411 vm_mR_ran rfl rfl (Nat.le_of_ble_eq_true rfl) h (fun u9 hq => kR_ran E (d + 7) hq) (fun u9 h => ?_)
    refine g_aload_n (pc := 16) (j := 0) (dk d_mR_telling 9 rfl) rfl (by decide) ?_
    refine g_iload_n (pc := 17) (j := 1) (dk d_mR_telling 10 rfl) rfl ?_
    refine g_iload_n (pc := 18) (j := 2) (dk d_mR_telling 11 rfl) rfl ?_
    refine h_callVi (d := d + 8) (pc := 19) (na := 2) (av := [pI a1, pI a2]) (k0 := 46) po_46 ⟨_, rfl⟩ ⟨rfl, rfl⟩ (dk d_mR_telling 12 rfl) lk_R_444 vm_mR_plainTells rfl rfl (Nat.le_of_ble_eq_true rfl) h (fun r11 u10 hq => kR_plainTells E (d + 0) hq) (fun r11 u10 hb12 h => ?_)
    refine g_iconst (pc := 22) (dk d_mR_telling 13 rfl) (by decide) ?_
    refine g_ixor (pc := 23) (dk d_mR_telling 14 rfl) ?_
    exact h_iret (pc := 24) rfl (dk d_mR_telling 15 rfl) h
set_option maxRecDepth 100000 in
set_option maxHeartbeats 4000000 in
theorem kR_telling (E : Nat × (Int → Int)) (d : Nat) {a1 : Int} {a2 : Int} {w w1 : WD} {r : Int} (h : fR_telling a1 a2 w = some (r, w1)) : CTi E mR_telling (d + 9) [pR 46, pI a1, pI a2] w RF NN r w1 RF NN := by
  exact CTi_of (by decide +kernel) (Nat.le_of_ble_eq_true rfl) (Or.inl rfl) (gR_telling (res := (r, w1)) E d a1 a2 w h)
def fR_act (a1 : Int) (a2 : Int) (a3 : Int) (w : WD) : Option (Int × WD) := bw (up w 46 60 0) <| fun (u1 : WD) => ci (fR_isBody a1 u1) <| fun (r3 : Int) (u2 : WD) => if r3 = 0 then (some (0, u2)) else (ci (fR_in a2 0 3 u2) <| fun (r6 : Int) (u5 : WD) => if r6 ≠ 0 then (if a2 ≠ 0 then (if a2 ≠ 1 then (if a2 ≠ 2 then (ci (fR_telling a1 a3 u5) <| fun (r9 : Int) (u8 : WD) => some (r9, u8)) else (ci (fR_believing a1 a3 u5) <| fun (r12 : Int) (u11 : WD) => some (r12, u11))) else (ci (fR_asking a1 a3 u5) <| fun (r16 : Int) (u15 : WD) => some (r16, u15))) else (ci (fR_showing a1 a3 u5) <| fun (r20 : Int) (u19 : WD) => some (r20, u19))) else (some (0, u5)))
set_option maxRecDepth 100000 in
set_option maxHeartbeats 4000000 in
theorem gR_act (E : Nat × (Int → Int)) (d : Nat) {res : Int × WD} (a1 : Int) (a2 : Int) (a3 : Int) (w : WD) (h : fR_act a1 a2 a3 w = some res) : G E mR_act (d + 10) 0 [(0, pR 46), (1, pI a1), (2, pI a2), (3, pI a3)] [] w RF NN 0 0 (some (pI res.1), res.2, RF, NN) := by
  unfold fR_act at h
  refine g_aload_n (pc := 0) (j := 0) (dk d_mR_act 0 rfl) rfl (by decide) ?_
  refine g_iconst (pc := 1) (dk d_mR_act 1 rfl) (by decide) ?_
  refine h_putI (pc := 2) fp_R_408 po_46 (dk d_mR_act 2 rfl) h (fun u1 h => ?_)
  refine g_aload_n (pc := 5) (j := 0) (dk d_mR_act 3 rfl) rfl (by decide) ?_
  refine g_iload_n (pc := 6) (j := 1) (dk d_mR_act 4 rfl) rfl ?_
  refine h_callVi (d := d + 9) (pc := 7) (na := 1) (av := [pI a1]) (k0 := 46) po_46 ⟨_, rfl⟩ ⟨rfl, rfl⟩ (dk d_mR_act 5 rfl) lk_R_447 vm_mR_isBody rfl rfl (Nat.le_of_ble_eq_true rfl) h (fun r3 u2 hq => kR_isBody E (d + 7) hq) (fun r3 u2 hb4 h => ?_)
  refine h_if_eq (pc := 10) (tgt := 22) (dk d_mR_act 6 rfl) rfl h (fun hc24 h => ?_) (fun hc24 h => ?_)
  · refine g_iconst (pc := 22) (dk d_mR_act 12 rfl) (by decide) ?_
    exact h_iret (pc := 23) rfl (dk d_mR_act 13 rfl) h
  · refine g_iload_n (pc := 13) (j := 2) (dk d_mR_act 7 rfl) rfl ?_
    refine g_iconst (pc := 14) (dk d_mR_act 8 rfl) (by decide) ?_
    refine g_iconst (pc := 15) (dk d_mR_act 9 rfl) (by decide) ?_
    refine h_callSi (d := d + 9) (pc := 16) (na := 3) (av := [pI a2, pI 0, pI 3]) ⟨rfl, rfl⟩ (dk d_mR_act 10 rfl) lk_R_140 vm_mR_in rfl rfl (Nat.le_of_ble_eq_true rfl) h (fun r6 u5 hq => kR_in E (d + 8) hq) (fun r6 u5 hb7 h => ?_)
    refine h_if_ne (pc := 19) (tgt := 24) (dk d_mR_act 11 rfl) rfl h (fun hc23 h => ?_) (fun hc23 h => ?_)
    · refine g_iload_n (pc := 24) (j := 2) (dk d_mR_act 14 rfl) rfl ?_
      refine h_if_ne (pc := 25) (tgt := 37) (dk d_mR_act 15 rfl) rfl h (fun hc22 h => ?_) (fun hc22 h => ?_)
      · refine g_iload_n (pc := 37) (j := 2) (dk d_mR_act 21 rfl) rfl ?_
        refine g_iconst (pc := 38) (dk d_mR_act 22 rfl) (by decide) ?_
        refine h_icmp_ne (pc := 39) (tgt := 51) (dk d_mR_act 23 rfl) rfl h (fun hc18 h => ?_) (fun hc18 h => ?_)
        · refine g_iload_n (pc := 51) (j := 2) (dk d_mR_act 29 rfl) rfl ?_
          refine g_iconst (pc := 52) (dk d_mR_act 30 rfl) (by decide) ?_
          refine h_icmp_ne (pc := 53) (tgt := 65) (dk d_mR_act 31 rfl) rfl h (fun hc14 h => ?_) (fun hc14 h => ?_)
          · refine g_aload_n (pc := 65) (j := 0) (dk d_mR_act 37 rfl) rfl (by decide) ?_
            refine g_iload_n (pc := 66) (j := 1) (dk d_mR_act 38 rfl) rfl ?_
            refine g_iload_n (pc := 67) (j := 3) (dk d_mR_act 39 rfl) rfl ?_
            refine h_callVi (d := d + 9) (pc := 68) (na := 2) (av := [pI a1, pI a3]) (k0 := 46) po_46 ⟨_, rfl⟩ ⟨rfl, rfl⟩ (dk d_mR_act 40 rfl) lk_R_450 vm_mR_telling rfl rfl (Nat.le_of_ble_eq_true rfl) h (fun r9 u8 hq => kR_telling E (d + 0) hq) (fun r9 u8 hb10 h => ?_)
            exact h_iret (pc := 71) rfl (dk d_mR_act 41 rfl) h
          · refine g_aload_n (pc := 56) (j := 0) (dk d_mR_act 32 rfl) rfl (by decide) ?_
            refine g_iload_n (pc := 57) (j := 1) (dk d_mR_act 33 rfl) rfl ?_
            refine g_iload_n (pc := 58) (j := 3) (dk d_mR_act 34 rfl) rfl ?_
            refine h_callVi (d := d + 9) (pc := 59) (na := 2) (av := [pI a1, pI a3]) (k0 := 46) po_46 ⟨_, rfl⟩ ⟨rfl, rfl⟩ (dk d_mR_act 35 rfl) lk_R_432 vm_mR_believing rfl rfl (Nat.le_of_ble_eq_true rfl) h (fun r12 u11 hq => kR_believing E (d + 4) hq) (fun r12 u11 hb13 h => ?_)
            refine g_goto (pc := 62) (tgt := 71) (dk d_mR_act 36 rfl) rfl ?_
            exact h_iret (pc := 71) rfl (dk d_mR_act 41 rfl) h
        · refine g_aload_n (pc := 42) (j := 0) (dk d_mR_act 24 rfl) rfl (by decide) ?_
          refine g_iload_n (pc := 43) (j := 1) (dk d_mR_act 25 rfl) rfl ?_
          refine g_iload_n (pc := 44) (j := 3) (dk d_mR_act 26 rfl) rfl ?_
          refine h_callVi (d := d + 9) (pc := 45) (na := 2) (av := [pI a1, pI a3]) (k0 := 46) po_46 ⟨_, rfl⟩ ⟨rfl, rfl⟩ (dk d_mR_act 27 rfl) lk_R_441 vm_mR_asking rfl rfl (Nat.le_of_ble_eq_true rfl) h (fun r16 u15 hq => kR_asking E (d + 2) hq) (fun r16 u15 hb17 h => ?_)
          refine g_goto (pc := 48) (tgt := 71) (dk d_mR_act 28 rfl) rfl ?_
          exact h_iret (pc := 71) rfl (dk d_mR_act 41 rfl) h
      · refine g_aload_n (pc := 28) (j := 0) (dk d_mR_act 16 rfl) rfl (by decide) ?_
        refine g_iload_n (pc := 29) (j := 1) (dk d_mR_act 17 rfl) rfl ?_
        refine g_iload_n (pc := 30) (j := 3) (dk d_mR_act 18 rfl) rfl ?_
        refine h_callVi (d := d + 9) (pc := 31) (na := 2) (av := [pI a1, pI a3]) (k0 := 46) po_46 ⟨_, rfl⟩ ⟨rfl, rfl⟩ (dk d_mR_act 19 rfl) lk_R_423 vm_mR_showing rfl rfl (Nat.le_of_ble_eq_true rfl) h (fun r20 u19 hq => kR_showing E (d + 5) hq) (fun r20 u19 hb21 h => ?_)
        refine g_goto (pc := 34) (tgt := 71) (dk d_mR_act 20 rfl) rfl ?_
        exact h_iret (pc := 71) rfl (dk d_mR_act 41 rfl) h
    · refine g_iconst (pc := 22) (dk d_mR_act 12 rfl) (by decide) ?_
      exact h_iret (pc := 23) rfl (dk d_mR_act 13 rfl) h
set_option maxRecDepth 100000 in
set_option maxHeartbeats 4000000 in
theorem kR_act (E : Nat × (Int → Int)) (d : Nat) {a1 : Int} {a2 : Int} {a3 : Int} {w w1 : WD} {r : Int} (h : fR_act a1 a2 a3 w = some (r, w1)) : CTi E mR_act (d + 10) [pR 46, pI a1, pI a2, pI a3] w RF NN r w1 RF NN := by
  exact CTi_of (by decide +kernel) (Nat.le_of_ble_eq_true rfl) (Or.inl rfl) (gR_act (res := (r, w1)) E d a1 a2 a3 w h)
def fR_count (a1 : Int) (w : WD) : Option (Int × WD) := if a1 = 0 then (some ((w 46 1), w)) else (if a1 = 1 then (some ((w 46 4), w)) else (if a1 = 2 then (some ((w 46 16), w)) else (if a1 = 3 then (some ((w 46 9), w)) else (if a1 = 4 then (some ((w 46 58), w)) else (if a1 = 5 then (some ((w 46 60), w)) else ((some ((-1), w))))))))
set_option maxRecDepth 100000 in
set_option maxHeartbeats 4000000 in
theorem gR_count (E : Nat × (Int → Int)) (d : Nat) {res : Int × WD} (a1 : Int) (w : WD) (h : fR_count a1 w = some res) : G E mR_count (d + 1) 0 [(0, pR 46), (1, pI a1)] [] w RF NN 0 0 (some (pI res.1), res.2, RF, NN) := by
  unfold fR_count at h
  refine g_iload_n (pc := 0) (j := 1) (dk d_mR_count 0 rfl) rfl ?_
  refine br h (fun hc1 h => ?_) (fun hc1 h => ?_)
  · refine g_tin (pc := 1) (off := 39) (tgt := 40) (dk d_mR_count 1 rfl) (by omega) (by omega) (by rw [hc1]; rfl) rfl ?_
    refine g_aload_n (pc := 40) (j := 0) (dk d_mR_count 2 rfl) rfl (by decide) ?_
    refine g_getI (pc := 41) fp_R_137 po_46 (dk d_mR_count 3 rfl) ?_
    exact h_iret (pc := 44) rfl (dk d_mR_count 4 rfl) h
  · refine br h (fun hc2 h => ?_) (fun hc2 h => ?_)
    · refine g_tin (pc := 1) (off := 44) (tgt := 45) (dk d_mR_count 1 rfl) (by omega) (by omega) (by rw [hc2]; rfl) rfl ?_
      refine g_aload_n (pc := 45) (j := 0) (dk d_mR_count 5 rfl) rfl (by decide) ?_
      refine g_getI (pc := 46) fp_R_144 po_46 (dk d_mR_count 6 rfl) ?_
      exact h_iret (pc := 49) rfl (dk d_mR_count 7 rfl) h
    · refine br h (fun hc3 h => ?_) (fun hc3 h => ?_)
      · refine g_tin (pc := 1) (off := 49) (tgt := 50) (dk d_mR_count 1 rfl) (by omega) (by omega) (by rw [hc3]; rfl) rfl ?_
        refine g_aload_n (pc := 50) (j := 0) (dk d_mR_count 8 rfl) rfl (by decide) ?_
        refine g_getI (pc := 51) fp_R_191 po_46 (dk d_mR_count 9 rfl) ?_
        exact h_iret (pc := 54) rfl (dk d_mR_count 10 rfl) h
      · refine br h (fun hc4 h => ?_) (fun hc4 h => ?_)
        · refine g_tin (pc := 1) (off := 54) (tgt := 55) (dk d_mR_count 1 rfl) (by omega) (by omega) (by rw [hc4]; rfl) rfl ?_
          refine g_aload_n (pc := 55) (j := 0) (dk d_mR_count 11 rfl) rfl (by decide) ?_
          refine g_getI (pc := 56) fp_R_170 po_46 (dk d_mR_count 12 rfl) ?_
          exact h_iret (pc := 59) rfl (dk d_mR_count 13 rfl) h
        · refine br h (fun hc5 h => ?_) (fun hc5 h => ?_)
          · refine g_tin (pc := 1) (off := 59) (tgt := 60) (dk d_mR_count 1 rfl) (by omega) (by omega) (by rw [hc5]; rfl) rfl ?_
            refine g_aload_n (pc := 60) (j := 0) (dk d_mR_count 14 rfl) rfl (by decide) ?_
            refine g_getI (pc := 61) fp_R_405 po_46 (dk d_mR_count 15 rfl) ?_
            exact h_iret (pc := 64) rfl (dk d_mR_count 16 rfl) h
          · refine br h (fun hc6 h => ?_) (fun hc6 h => ?_)
            · refine g_tin (pc := 1) (off := 64) (tgt := 65) (dk d_mR_count 1 rfl) (by omega) (by omega) (by rw [hc6]; rfl) rfl ?_
              refine g_aload_n (pc := 65) (j := 0) (dk d_mR_count 17 rfl) rfl (by decide) ?_
              refine g_getI (pc := 66) fp_R_408 po_46 (dk d_mR_count 18 rfl) ?_
              exact h_iret (pc := 69) rfl (dk d_mR_count 19 rfl) h
            · refine g_tout (pc := 1) (tgt := 70) (dk d_mR_count 1 rfl) (by omega) rfl ?_
              refine g_iconst (pc := 70) (dk d_mR_count 20 rfl) (by decide) ?_
              exact h_iret (pc := 71) rfl (dk d_mR_count 21 rfl) h
set_option maxRecDepth 100000 in
set_option maxHeartbeats 4000000 in
theorem kR_count (E : Nat × (Int → Int)) (d : Nat) {a1 : Int} {w w1 : WD} {r : Int} (h : fR_count a1 w = some (r, w1)) : CTi E mR_count (d + 1) [pR 46, pI a1] w RF NN r w1 RF NN := by
  exact CTi_of (by decide +kernel) (Nat.le_of_ble_eq_true rfl) (Or.inl rfl) (gR_count (res := (r, w1)) E d a1 w h)
def fR_keep (a1 : Int) (a2 : Int) (w : WD) : Option (Int × WD) := ci (fR_isShelf a1 w) <| fun (r2 : Int) (u1 : WD) => if r2 = 0 then (some ((-1), u1)) else (jn (β := WD → Option (Int × WD)) (fun (u4 : WD) => ck (0 ≤ a1 ∧ a1 < 6) <| bw (up u4 82 a1 a2) <| fun (u5 : WD) => some (1, u5)) <| fun J6 => if a2 = (-1) then (J6 u1) else (ci (fR_isBody a2 u1) <| fun (r8 : Int) (u7 : WD) => if r8 ≠ 0 then (J6 u7) else (some ((-1), u7))))
set_option maxRecDepth 100000 in
set_option maxHeartbeats 4000000 in
theorem gR_keep (E : Nat × (Int → Int)) (d : Nat) {res : Int × WD} (a1 : Int) (a2 : Int) (w : WD) (h : fR_keep a1 a2 w = some res) : G E mR_keep (d + 3) 0 [(0, pR 46), (1, pI a1), (2, pI a2)] [] w RF NN 0 0 (some (pI res.1), res.2, RF, NN) := by
  unfold fR_keep at h
  refine g_iload_n (pc := 0) (j := 1) (dk d_mR_keep 0 rfl) rfl ?_
  refine h_callSi (d := d + 2) (pc := 1) (na := 1) (av := [pI a1]) ⟨rfl, rfl⟩ (dk d_mR_keep 1 rfl) lk_R_158 vm_mR_isShelf rfl rfl (Nat.le_of_ble_eq_true rfl) h (fun r2 u1 hq => kR_isShelf E (d + 0) hq) (fun r2 u1 hb3 h => ?_)
  refine h_if_eq (pc := 4) (tgt := 20) (dk d_mR_keep 2 rfl) rfl h (fun hc12 h => ?_) (fun hc12 h => ?_)
  · refine g_iconst (pc := 20) (dk d_mR_keep 10 rfl) (by decide) ?_
    exact h_iret (pc := 21) rfl (dk d_mR_keep 11 rfl) h
  · refine g_iload_n (pc := 7) (j := 2) (dk d_mR_keep 3 rfl) rfl ?_
    refine g_iconst (pc := 8) (dk d_mR_keep 4 rfl) (by decide) ?_
    refine jn_e (fun J => ∀ (u4 : WD), J u4 = some res → G E mR_keep (d + 3) 22 [(0, pR 46), (1, pI a1), (2, pI a2)] [] u4 RF NN 0 0 (some (pI res.1), res.2, RF, NN)) h (fun u4 h => ?_) (fun J6 hJ6 h => ?_)
    · refine g_aload_n (pc := 22) (j := 0) (dk d_mR_keep 12 rfl) rfl (by decide) ?_
      refine g_getR (pc := 23) (a := 82) rfl fp_R_121 po_46 (dk d_mR_keep 13 rfl) ?_
      refine g_iload_n (pc := 26) (j := 1) (dk d_mR_keep 14 rfl) rfl ?_
      refine g_iload_n (pc := 27) (j := 2) (dk d_mR_keep 15 rfl) rfl ?_
      refine h_iast (pc := 28) (B := 6) pa_82 rfl (dk d_mR_keep 16 rfl) h (fun u5 h => ?_)
      refine g_iconst (pc := 29) (dk d_mR_keep 17 rfl) (by decide) ?_
      exact h_iret (pc := 30) rfl (dk d_mR_keep 18 rfl) h
    · refine h_icmp_eq (pc := 9) (tgt := 22) (dk d_mR_keep 5 rfl) rfl h (fun hc11 h => ?_) (fun hc11 h => ?_)
      · exact hJ6 _ h
      · refine g_aload_n (pc := 12) (j := 0) (dk d_mR_keep 6 rfl) rfl (by decide) ?_
        refine g_iload_n (pc := 13) (j := 2) (dk d_mR_keep 7 rfl) rfl ?_
        refine h_callVi (d := d + 2) (pc := 14) (na := 1) (av := [pI a2]) (k0 := 46) po_46 ⟨_, rfl⟩ ⟨rfl, rfl⟩ (dk d_mR_keep 8 rfl) lk_R_447 vm_mR_isBody rfl rfl (Nat.le_of_ble_eq_true rfl) h (fun r8 u7 hq => kR_isBody E (d + 0) hq) (fun r8 u7 hb9 h => ?_)
        refine h_if_ne (pc := 17) (tgt := 22) (dk d_mR_keep 9 rfl) rfl h (fun hc10 h => ?_) (fun hc10 h => ?_)
        · exact hJ6 _ h
        · refine g_iconst (pc := 20) (dk d_mR_keep 10 rfl) (by decide) ?_
          exact h_iret (pc := 21) rfl (dk d_mR_keep 11 rfl) h
set_option maxRecDepth 100000 in
set_option maxHeartbeats 4000000 in
theorem kR_keep (E : Nat × (Int → Int)) (d : Nat) {a1 : Int} {a2 : Int} {w w1 : WD} {r : Int} (h : fR_keep a1 a2 w = some (r, w1)) : CTi E mR_keep (d + 3) [pR 46, pI a1, pI a2] w RF NN r w1 RF NN := by
  exact CTi_of (by decide +kernel) (Nat.le_of_ble_eq_true rfl) (Or.inl rfl) (gR_keep (res := (r, w1)) E d a1 a2 w h)
def fR_row_l54_b (rec : Int → WD → Option (Int × WD)) (y1 : Int) (x4 : Int) (w : WD) : Option (Int × WD) := if (w32 ((w32 (60 * y1)) + 60)) ≤ x4 then (some (1, w)) else (ck (0 ≤ x4 ∧ x4 < 360) <| bw (up w 84 x4 0) <| fun (u10 : WD) => bv (w32 (x4 + 1)) <| fun (v4_11 : Int) => rec v4_11 u10)
def fR_row_l54 (y1 : Int) : Nat → Int → WD → Option (Int × WD)
  | 0 => fun _ _ => none
  | k + 1 => fR_row_l54_b ( fR_row_l54 y1 k) y1
set_option maxRecDepth 100000 in
set_option maxHeartbeats 4000000 in
theorem fR_row_l54_b_ok (E : Nat × (Int → Int)) (d : Nat) {res : Int × WD} {rec : Int → WD → Option (Int × WD)} (y1 : Int) (hrec : ∀ (x4 : Int) (w : WD), rec x4 w = some res → G E mR_row (d + 3) 54 [(0, pR 46), (1, pI y1), (4, pI x4)] [] w RF NN 0 0 (some (pI res.1), res.2, RF, NN)) (x4 : Int) (w : WD) (h : fR_row_l54_b rec y1 x4 w = some res) : G E mR_row (d + 3) 54 [(0, pR 46), (1, pI y1), (4, pI x4)] [] w RF NN 0 0 (some (pI res.1), res.2, RF, NN) := by
  unfold fR_row_l54_b at h
  refine g_iload (pc := 54) (j := 2) (dk d_mR_row 33 rfl) rfl ?_
  refine g_bipush (pc := 56) (dk d_mR_row 34 rfl) (by decide) ?_
  refine g_iload_n (pc := 58) (j := 1) (dk d_mR_row 35 rfl) rfl ?_
  refine g_imul (pc := 59) (dk d_mR_row 36 rfl) ?_
  refine g_bipush (pc := 60) (dk d_mR_row 37 rfl) (by decide) ?_
  refine g_iadd (pc := 62) (dk d_mR_row 38 rfl) ?_
  refine h_icmp_ge (pc := 63) (tgt := 80) (dk d_mR_row 39 rfl) rfl h (fun hc12 h => ?_) (fun hc12 h => ?_)
  · refine g_iconst (pc := 80) (dk d_mR_row 47 rfl) (by decide) ?_
    exact h_iret (pc := 81) rfl (dk d_mR_row 48 rfl) h
  · refine g_aload_n (pc := 66) (j := 0) (dk d_mR_row 40 rfl) rfl (by decide) ?_
    refine g_getR (pc := 67) (a := 84) rfl fp_R_127 po_46 (dk d_mR_row 41 rfl) ?_
    refine g_iload (pc := 70) (j := 2) (dk d_mR_row 42 rfl) rfl ?_
    refine g_lconst0 (pc := 72) (dk d_mR_row 43 rfl) ?_
    refine h_last (pc := 73) (B := 360) pa_84 rfl (dk d_mR_row 44 rfl) h (fun u10 h => ?_)
    refine h_iinc (pc := 74) (j := 2) (dk d_mR_row 45 rfl) rfl (by decide) (Nat.le_of_ble_eq_true rfl) h (fun v4_11 h => ?_)
    refine g_loc (l' := [(4, pI v4_11), (0, pR 46), (1, pI y1)]) rfl ?_
    refine g_goto (pc := 77) (tgt := 54) (dk d_mR_row 46 rfl) rfl ?_
    refine g_pick [1, 2, 0] rfl (l' := [(0, pR 46), (1, pI y1), (4, pI v4_11)]) rfl ?_
    exact hrec _ _ h
set_option maxRecDepth 100000 in
set_option maxHeartbeats 4000000 in
theorem fR_row_l54_ok (E : Nat × (Int → Int)) (d : Nat) {res : Int × WD} (y1 : Int) : ∀ (k : Nat) (x4 : Int) (w : WD), fR_row_l54 y1 k x4 w = some res → G E mR_row (d + 3) 54 [(0, pR 46), (1, pI y1), (4, pI x4)] [] w RF NN 0 0 (some (pI res.1), res.2, RF, NN) := by
  intro k
  induction k with
  | zero =>
    intro x4 w h
    exact no_e h
  | succ k ih =>
    intro x4 w h
    exact fR_row_l54_b_ok E d y1 ih x4 w h
def fR_row (a1 : Int) (a2 : Int) (a3 : Int) (w : WD) : Option (Int × WD) := ci (fR_isShelf a1 w) <| fun (r2 : Int) (u1 : WD) => if r2 = 0 then (some ((-1), u1)) else (ci (fR_in a2 0 4 u1) <| fun (r5 : Int) (u4 : WD) => if r5 = 0 then (some ((-1), u4)) else (if a3 ≤ 60 then (if 0 ≤ a3 then (ck (0 ≤ a1 ∧ a1 < 6) <| bw (up u4 82 a1 (w32 ((-2) - a2))) <| fun (u7 : WD) => ck (0 ≤ a1 ∧ a1 < 6) <| bw (up u7 83 a1 a3) <| fun (u8 : WD) => bv (w32 (60 * a1)) <| fun (v4_9 : Int) => fR_row_l54 a1 FU v4_9 u8) else (some ((-14), u4))) else (some ((-1), u4))))
set_option maxRecDepth 100000 in
set_option maxHeartbeats 4000000 in
theorem gR_row (E : Nat × (Int → Int)) (d : Nat) {res : Int × WD} (a1 : Int) (a2 : Int) (a3 : Int) (w : WD) (h : fR_row a1 a2 a3 w = some res) : G E mR_row (d + 3) 0 [(0, pR 46), (1, pI a1), (2, pI a2), (3, pI a3)] [] w RF NN 0 0 (some (pI res.1), res.2, RF, NN) := by
  unfold fR_row at h
  refine g_iload_n (pc := 0) (j := 1) (dk d_mR_row 0 rfl) rfl ?_
  refine h_callSi (d := d + 2) (pc := 1) (na := 1) (av := [pI a1]) ⟨rfl, rfl⟩ (dk d_mR_row 1 rfl) lk_R_158 vm_mR_isShelf rfl rfl (Nat.le_of_ble_eq_true rfl) h (fun r2 u1 hq => kR_isShelf E (d + 0) hq) (fun r2 u1 hb3 h => ?_)
  refine h_if_eq (pc := 4) (tgt := 22) (dk d_mR_row 2 rfl) rfl h (fun hc16 h => ?_) (fun hc16 h => ?_)
  · refine g_iconst (pc := 22) (dk d_mR_row 11 rfl) (by decide) ?_
    exact h_iret (pc := 23) rfl (dk d_mR_row 12 rfl) h
  · refine g_iload_n (pc := 7) (j := 2) (dk d_mR_row 3 rfl) rfl ?_
    refine g_iconst (pc := 8) (dk d_mR_row 4 rfl) (by decide) ?_
    refine g_iconst (pc := 9) (dk d_mR_row 5 rfl) (by decide) ?_
    refine h_callSi (d := d + 2) (pc := 10) (na := 3) (av := [pI a2, pI 0, pI 4]) ⟨rfl, rfl⟩ (dk d_mR_row 6 rfl) lk_R_140 vm_mR_in rfl rfl (Nat.le_of_ble_eq_true rfl) h (fun r5 u4 hq => kR_in E (d + 1) hq) (fun r5 u4 hb6 h => ?_)
    refine h_if_eq (pc := 13) (tgt := 22) (dk d_mR_row 7 rfl) rfl h (fun hc15 h => ?_) (fun hc15 h => ?_)
    · refine g_iconst (pc := 22) (dk d_mR_row 11 rfl) (by decide) ?_
      exact h_iret (pc := 23) rfl (dk d_mR_row 12 rfl) h
    · refine g_iload_n (pc := 16) (j := 3) (dk d_mR_row 8 rfl) rfl ?_
      refine g_bipush (pc := 17) (dk d_mR_row 9 rfl) (by decide) ?_
      refine h_icmp_le (pc := 19) (tgt := 24) (dk d_mR_row 10 rfl) rfl h (fun hc14 h => ?_) (fun hc14 h => ?_)
      · refine g_iload_n (pc := 24) (j := 3) (dk d_mR_row 13 rfl) rfl ?_
        refine h_if_ge (pc := 25) (tgt := 31) (dk d_mR_row 14 rfl) rfl h (fun hc13 h => ?_) (fun hc13 h => ?_)
        · refine g_aload_n (pc := 31) (j := 0) (dk d_mR_row 17 rfl) rfl (by decide) ?_
          refine g_getR (pc := 32) (a := 82) rfl fp_R_121 po_46 (dk d_mR_row 18 rfl) ?_
          refine g_iload_n (pc := 35) (j := 1) (dk d_mR_row 19 rfl) rfl ?_
          refine g_bipush (pc := 36) (dk d_mR_row 20 rfl) (by decide) ?_
          refine g_iload_n (pc := 38) (j := 2) (dk d_mR_row 21 rfl) rfl ?_
          refine g_isub (pc := 39) (dk d_mR_row 22 rfl) ?_
          refine h_iast (pc := 40) (B := 6) pa_82 rfl (dk d_mR_row 23 rfl) h (fun u7 h => ?_)
          refine g_aload_n (pc := 41) (j := 0) (dk d_mR_row 24 rfl) rfl (by decide) ?_
          refine g_getR (pc := 42) (a := 83) rfl fp_R_124 po_46 (dk d_mR_row 25 rfl) ?_
          refine g_iload_n (pc := 45) (j := 1) (dk d_mR_row 26 rfl) rfl ?_
          refine g_iload_n (pc := 46) (j := 3) (dk d_mR_row 27 rfl) rfl ?_
          refine h_iast (pc := 47) (B := 6) pa_83 rfl (dk d_mR_row 28 rfl) h (fun u8 h => ?_)
          refine g_bipush (pc := 48) (dk d_mR_row 29 rfl) (by decide) ?_
          refine g_iload_n (pc := 50) (j := 1) (dk d_mR_row 30 rfl) rfl ?_
          refine g_imul (pc := 51) (dk d_mR_row 31 rfl) ?_
          refine h_bvI h (fun v4_9 h => ?_)
          refine g_istore (pc := 52) (l' := [(4, pI v4_9), (0, pR 46), (1, pI a1), (2, pI a2), (3, pI a3)]) (dk d_mR_row 32 rfl) (Nat.le_of_ble_eq_true rfl) rfl ?_
          refine g_pick [1, 2, 0] rfl (l' := [(0, pR 46), (1, pI a1), (4, pI v4_9)]) rfl ?_
          refine fR_row_l54_ok E d a1 FU _  _ h
        · refine g_bipush (pc := 28) (dk d_mR_row 15 rfl) (by decide) ?_
          exact h_iret (pc := 30) rfl (dk d_mR_row 16 rfl) h
      · refine g_iconst (pc := 22) (dk d_mR_row 11 rfl) (by decide) ?_
        exact h_iret (pc := 23) rfl (dk d_mR_row 12 rfl) h
set_option maxRecDepth 100000 in
set_option maxHeartbeats 4000000 in
theorem kR_row (E : Nat × (Int → Int)) (d : Nat) {a1 : Int} {a2 : Int} {a3 : Int} {w w1 : WD} {r : Int} (h : fR_row a1 a2 a3 w = some (r, w1)) : CTi E mR_row (d + 3) [pR 46, pI a1, pI a2, pI a3] w RF NN r w1 RF NN := by
  exact CTi_of (by decide +kernel) (Nat.le_of_ble_eq_true rfl) (Or.inl rfl) (gR_row (res := (r, w1)) E d a1 a2 a3 w h)
def fR_whyNoPlace (a1 : Int) (a2 : Int) (w : WD) : Option (Int × WD) := ci (fR_isShelf a1 w) <| fun (r2 : Int) (u1 : WD) => if r2 ≠ 0 then (ck (0 ≤ a1 ∧ a1 < 6) <| if (u1 82 a1) ≠ (-1) then (ck (0 ≤ a1 ∧ a1 < 6) <| if (u1 82 a1) < 0 then (ck (0 ≤ a1 ∧ a1 < 6) <| ci (fR_in a2 0 (w32 ((u1 83 a1) - 1)) u1) <| fun (r5 : Int) (u4 : WD) => if r5 = 0 then (some ((-13), u4)) else (some (0, u4))) else (some ((-12), u1))) else (some ((-11), u1))) else (some ((-1), u1))
set_option maxRecDepth 100000 in
set_option maxHeartbeats 4000000 in
theorem gR_whyNoPlace (E : Nat × (Int → Int)) (d : Nat) {res : Int × WD} (a1 : Int) (a2 : Int) (w : WD) (h : fR_whyNoPlace a1 a2 w = some res) : G E mR_whyNoPlace (d + 3) 0 [(0, pR 46), (1, pI a1), (2, pI a2)] [] w RF NN 0 0 (some (pI res.1), res.2, RF, NN) := by
  unfold fR_whyNoPlace at h
  refine g_iload_n (pc := 0) (j := 1) (dk d_mR_whyNoPlace 0 rfl) rfl ?_
  refine h_callSi (d := d + 2) (pc := 1) (na := 1) (av := [pI a1]) ⟨rfl, rfl⟩ (dk d_mR_whyNoPlace 1 rfl) lk_R_158 vm_mR_isShelf rfl rfl (Nat.le_of_ble_eq_true rfl) h (fun r2 u1 hq => kR_isShelf E (d + 0) hq) (fun r2 u1 hb3 h => ?_)
  refine h_if_ne (pc := 4) (tgt := 9) (dk d_mR_whyNoPlace 2 rfl) rfl h (fun hc10 h => ?_) (fun hc10 h => ?_)
  · refine g_aload_n (pc := 9) (j := 0) (dk d_mR_whyNoPlace 5 rfl) rfl (by decide) ?_
    refine g_getR (pc := 10) (a := 82) rfl fp_R_121 po_46 (dk d_mR_whyNoPlace 6 rfl) ?_
    refine g_iload_n (pc := 13) (j := 1) (dk d_mR_whyNoPlace 7 rfl) rfl ?_
    refine h_iald (pc := 14) (B := 6) pa_82 rfl (dk d_mR_whyNoPlace 8 rfl) h (fun h => ?_)
    refine g_iconst (pc := 15) (dk d_mR_whyNoPlace 9 rfl) (by decide) ?_
    refine h_icmp_ne (pc := 16) (tgt := 22) (dk d_mR_whyNoPlace 10 rfl) rfl h (fun hc9 h => ?_) (fun hc9 h => ?_)
    · refine g_aload_n (pc := 22) (j := 0) (dk d_mR_whyNoPlace 13 rfl) rfl (by decide) ?_
      refine g_getR (pc := 23) (a := 82) rfl fp_R_121 po_46 (dk d_mR_whyNoPlace 14 rfl) ?_
      refine g_iload_n (pc := 26) (j := 1) (dk d_mR_whyNoPlace 15 rfl) rfl ?_
      refine h_iald (pc := 27) (B := 6) pa_82 rfl (dk d_mR_whyNoPlace 16 rfl) h (fun h => ?_)
      refine h_if_lt (pc := 28) (tgt := 34) (dk d_mR_whyNoPlace 17 rfl) rfl h (fun hc8 h => ?_) (fun hc8 h => ?_)
      · refine g_iload_n (pc := 34) (j := 2) (dk d_mR_whyNoPlace 20 rfl) rfl ?_
        refine g_iconst (pc := 35) (dk d_mR_whyNoPlace 21 rfl) (by decide) ?_
        refine g_aload_n (pc := 36) (j := 0) (dk d_mR_whyNoPlace 22 rfl) rfl (by decide) ?_
        refine g_getR (pc := 37) (a := 83) rfl fp_R_124 po_46 (dk d_mR_whyNoPlace 23 rfl) ?_
        refine g_iload_n (pc := 40) (j := 1) (dk d_mR_whyNoPlace 24 rfl) rfl ?_
        refine h_iald (pc := 41) (B := 6) pa_83 rfl (dk d_mR_whyNoPlace 25 rfl) h (fun h => ?_)
        refine g_iconst (pc := 42) (dk d_mR_whyNoPlace 26 rfl) (by decide) ?_
        refine g_isub (pc := 43) (dk d_mR_whyNoPlace 27 rfl) ?_
        refine h_callSi (d := d + 2) (pc := 44) (na := 3) (av := [pI a2, pI 0, pI (w32 ((u1 83 a1) - 1))]) ⟨rfl, rfl⟩ (dk d_mR_whyNoPlace 28 rfl) lk_R_140 vm_mR_in rfl rfl (Nat.le_of_ble_eq_true rfl) h (fun r5 u4 hq => kR_in E (d + 1) hq) (fun r5 u4 hb6 h => ?_)
        refine h_if_eq (pc := 47) (tgt := 54) (dk d_mR_whyNoPlace 29 rfl) rfl h (fun hc7 h => ?_) (fun hc7 h => ?_)
        · refine g_bipush (pc := 54) (dk d_mR_whyNoPlace 32 rfl) (by decide) ?_
          exact h_iret (pc := 56) rfl (dk d_mR_whyNoPlace 33 rfl) h
        · refine g_iconst (pc := 50) (dk d_mR_whyNoPlace 30 rfl) (by decide) ?_
          refine g_goto (pc := 51) (tgt := 56) (dk d_mR_whyNoPlace 31 rfl) rfl ?_
          exact h_iret (pc := 56) rfl (dk d_mR_whyNoPlace 33 rfl) h
      · refine g_bipush (pc := 31) (dk d_mR_whyNoPlace 18 rfl) (by decide) ?_
        exact h_iret (pc := 33) rfl (dk d_mR_whyNoPlace 19 rfl) h
    · refine g_bipush (pc := 19) (dk d_mR_whyNoPlace 11 rfl) (by decide) ?_
      exact h_iret (pc := 21) rfl (dk d_mR_whyNoPlace 12 rfl) h
  · refine g_iconst (pc := 7) (dk d_mR_whyNoPlace 3 rfl) (by decide) ?_
    exact h_iret (pc := 8) rfl (dk d_mR_whyNoPlace 4 rfl) h
set_option maxRecDepth 100000 in
set_option maxHeartbeats 4000000 in
theorem kR_whyNoPlace (E : Nat × (Int → Int)) (d : Nat) {a1 : Int} {a2 : Int} {w w1 : WD} {r : Int} (h : fR_whyNoPlace a1 a2 w = some (r, w1)) : CTi E mR_whyNoPlace (d + 3) [pR 46, pI a1, pI a2] w RF NN r w1 RF NN := by
  exact CTi_of (by decide +kernel) (Nat.le_of_ble_eq_true rfl) (Or.inl rfl) (gR_whyNoPlace (res := (r, w1)) E d a1 a2 w h)
def fR_put (a1 : Int) (a2 : Int) (a3 : Int) (w : WD) : Option (Int × WD) := ci (fR_whyNoPlace a1 a2 w) <| fun (r2 : Int) (u1 : WD) => if 0 ≤ r2 then (ck (0 ≤ a1 ∧ a1 < 6) <| bv (w32 ((-2) - (u1 82 a1))) <| fun (v6_4 : Int) => jn (β := Int → WD → Option (Int × WD)) (fun (s5 : Int) (u6 : WD) => ck (0 ≤ (w32 ((w32 (60 * a1)) + a2)) ∧ (w32 ((w32 (60 * a1)) + a2)) < 360) <| bw (up u6 84 (w32 ((w32 (60 * a1)) + a2)) s5) <| fun (u7 : WD) => some (1, u7)) <| fun J8 => if v6_4 ≠ 0 then (if v6_4 ≠ 1 then (if v6_4 ≠ 2 then (if v6_4 ≠ 3 then (if a3 = 0 then (J8 0 u1) else (J8 1 u1)) else (J8 a3 u1)) else (J8 (w32 a3) u1)) else (J8 (w16 (w32 a3)) u1)) else (J8 (w8 (w32 a3)) u1)) else (some (r2, u1))
set_option maxRecDepth 100000 in
set_option maxHeartbeats 4000000 in
theorem gR_put (E : Nat × (Int → Int)) (d : Nat) {res : Int × WD} (a1 : Int) (a2 : Int) (a3 : Int) (w : WD) (h : fR_put a1 a2 a3 w = some res) : G E mR_put (d + 4) 0 [(0, pR 46), (1, pI a1), (2, pI a2), (3, pL a3)] [] w RF NN 0 0 (some (pI res.1), res.2, RF, NN) := by
  unfold fR_put at h
  refine g_aload_n (pc := 0) (j := 0) (dk d_mR_put 0 rfl) rfl (by decide) ?_
  refine g_iload_n (pc := 1) (j := 1) (dk d_mR_put 1 rfl) rfl ?_
  refine g_iload_n (pc := 2) (j := 2) (dk d_mR_put 2 rfl) rfl ?_
  refine h_callVi (d := d + 3) (pc := 3) (na := 2) (av := [pI a1, pI a2]) (k0 := 46) po_46 ⟨_, rfl⟩ ⟨rfl, rfl⟩ (dk d_mR_put 3 rfl) lk_R_453 vm_mR_whyNoPlace rfl rfl (Nat.le_of_ble_eq_true rfl) h (fun r2 u1 hq => kR_whyNoPlace E (d + 0) hq) (fun r2 u1 hb3 h => ?_)
  refine g_istore (pc := 6) (l' := [(5, pI r2), (0, pR 46), (1, pI a1), (2, pI a2), (3, pL a3)]) (dk d_mR_put 4 rfl) (Nat.le_of_ble_eq_true rfl) rfl ?_
  refine g_iload (pc := 8) (j := 0) (dk d_mR_put 5 rfl) rfl ?_
  refine h_if_ge (pc := 10) (tgt := 16) (dk d_mR_put 6 rfl) rfl h (fun hc14 h => ?_) (fun hc14 h => ?_)
  · refine g_bipush (pc := 16) (dk d_mR_put 9 rfl) (by decide) ?_
    refine g_aload_n (pc := 18) (j := 1) (dk d_mR_put 10 rfl) rfl (by decide) ?_
    refine g_getR (pc := 19) (a := 82) rfl fp_R_121 po_46 (dk d_mR_put 11 rfl) ?_
    refine g_iload_n (pc := 22) (j := 2) (dk d_mR_put 12 rfl) rfl ?_
    refine h_iald (pc := 23) (B := 6) pa_82 rfl (dk d_mR_put 13 rfl) h (fun h => ?_)
    refine g_isub (pc := 24) (dk d_mR_put 14 rfl) ?_
    refine h_bvI h (fun v6_4 h => ?_)
    refine g_istore (pc := 25) (l' := [(6, pI v6_4), (5, pI r2), (0, pR 46), (1, pI a1), (2, pI a2), (3, pL a3)]) (dk d_mR_put 15 rfl) (Nat.le_of_ble_eq_true rfl) rfl ?_
    refine g_aload_n (pc := 27) (j := 2) (dk d_mR_put 16 rfl) rfl (by decide) ?_
    refine g_getR (pc := 28) (a := 84) rfl fp_R_127 po_46 (dk d_mR_put 17 rfl) ?_
    refine g_bipush (pc := 31) (dk d_mR_put 18 rfl) (by decide) ?_
    refine g_iload_n (pc := 33) (j := 3) (dk d_mR_put 19 rfl) rfl ?_
    refine g_imul (pc := 34) (dk d_mR_put 20 rfl) ?_
    refine g_iload_n (pc := 35) (j := 4) (dk d_mR_put 21 rfl) rfl ?_
    refine g_iadd (pc := 36) (dk d_mR_put 22 rfl) ?_
    refine g_iload (pc := 37) (j := 0) (dk d_mR_put 23 rfl) rfl ?_
    refine jn_e (fun J => ∀ (s5 : Int) (u6 : WD), J s5 u6 = some res → G E mR_put (d + 4) 95 [] [pL s5, pI (w32 ((w32 (60 * a1)) + a2)), pR 84] u6 RF NN 0 0 (some (pI res.1), res.2, RF, NN)) h (fun s5 u6 h => ?_) (fun J8 hJ8 h => ?_)
    · refine h_last (pc := 95) (B := 360) pa_84 rfl (dk d_mR_put 57 rfl) h (fun u7 h => ?_)
      refine g_iconst (pc := 96) (dk d_mR_put 58 rfl) (by decide) ?_
      exact h_iret (pc := 97) rfl (dk d_mR_put 59 rfl) h
    · refine h_if_ne (pc := 39) (tgt := 49) (dk d_mR_put 24 rfl) rfl h (fun hc13 h => ?_) (fun hc13 h => ?_)
      · refine g_iload (pc := 49) (j := 0) (dk d_mR_put 30 rfl) rfl ?_
        refine g_iconst (pc := 51) (dk d_mR_put 31 rfl) (by decide) ?_
        refine h_icmp_ne (pc := 52) (tgt := 62) (dk d_mR_put 32 rfl) rfl h (fun hc12 h => ?_) (fun hc12 h => ?_)
        · refine g_iload (pc := 62) (j := 0) (dk d_mR_put 38 rfl) rfl ?_
          refine g_iconst (pc := 64) (dk d_mR_put 39 rfl) (by decide) ?_
          refine h_icmp_ne (pc := 65) (tgt := 74) (dk d_mR_put 40 rfl) rfl h (fun hc11 h => ?_) (fun hc11 h => ?_)
          · refine g_iload (pc := 74) (j := 0) (dk d_mR_put 45 rfl) rfl ?_
            refine g_iconst (pc := 76) (dk d_mR_put 46 rfl) (by decide) ?_
            refine h_icmp_ne (pc := 77) (tgt := 84) (dk d_mR_put 47 rfl) rfl h (fun hc10 h => ?_) (fun hc10 h => ?_)
            · refine g_lload_n (pc := 84) (j := 5) (dk d_mR_put 50 rfl) rfl ?_
              refine g_lconst0 (pc := 85) (dk d_mR_put 51 rfl) ?_
              refine h_lcmp_eq (pc := 86) (tgt := 94) (dk d_mR_put 52 rfl) (dk d_mR_put 53 rfl) rfl h (fun hc9 h => ?_) (fun hc9 h => ?_)
              · refine g_lconst0 (pc := 94) (dk d_mR_put 56 rfl) ?_
                refine g_pick [] rfl (l' := []) rfl ?_
                exact hJ8 _ _ h
              · refine g_lconst1 (pc := 90) (dk d_mR_put 54 rfl) ?_
                refine g_goto (pc := 91) (tgt := 95) (dk d_mR_put 55 rfl) rfl ?_
                refine g_pick [] rfl (l' := []) rfl ?_
                exact hJ8 _ _ h
            · refine g_lload_n (pc := 80) (j := 5) (dk d_mR_put 48 rfl) rfl ?_
              refine g_goto (pc := 81) (tgt := 95) (dk d_mR_put 49 rfl) rfl ?_
              refine g_pick [] rfl (l' := []) rfl ?_
              exact hJ8 _ _ h
          · refine g_lload_n (pc := 68) (j := 5) (dk d_mR_put 41 rfl) rfl ?_
            refine g_l2i (pc := 69) (dk d_mR_put 42 rfl) ?_
            refine g_i2l (pc := 70) (dk d_mR_put 43 rfl) ?_
            refine g_goto (pc := 71) (tgt := 95) (dk d_mR_put 44 rfl) rfl ?_
            refine g_pick [] rfl (l' := []) rfl ?_
            exact hJ8 _ _ h
        · refine g_lload_n (pc := 55) (j := 5) (dk d_mR_put 33 rfl) rfl ?_
          refine g_l2i (pc := 56) (dk d_mR_put 34 rfl) ?_
          refine g_i2s (pc := 57) (dk d_mR_put 35 rfl) ?_
          refine g_i2l (pc := 58) (dk d_mR_put 36 rfl) ?_
          refine g_goto (pc := 59) (tgt := 95) (dk d_mR_put 37 rfl) rfl ?_
          refine g_pick [] rfl (l' := []) rfl ?_
          exact hJ8 _ _ h
      · refine g_lload_n (pc := 42) (j := 5) (dk d_mR_put 25 rfl) rfl ?_
        refine g_l2i (pc := 43) (dk d_mR_put 26 rfl) ?_
        refine g_i2b (pc := 44) (dk d_mR_put 27 rfl) ?_
        refine g_i2l (pc := 45) (dk d_mR_put 28 rfl) ?_
        refine g_goto (pc := 46) (tgt := 95) (dk d_mR_put 29 rfl) rfl ?_
        refine g_pick [] rfl (l' := []) rfl ?_
        exact hJ8 _ _ h
  · refine g_iload (pc := 13) (j := 0) (dk d_mR_put 7 rfl) rfl ?_
    exact h_iret (pc := 15) rfl (dk d_mR_put 8 rfl) h
set_option maxRecDepth 100000 in
set_option maxHeartbeats 4000000 in
theorem kR_put (E : Nat × (Int → Int)) (d : Nat) {a1 : Int} {a2 : Int} {a3 : Int} {w w1 : WD} {r : Int} (h : fR_put a1 a2 a3 w = some (r, w1)) : CTi E mR_put (d + 4) [pR 46, pI a1, pI a2, pL a3] w RF NN r w1 RF NN := by
  exact CTi_of (by decide +kernel) (Nat.le_of_ble_eq_true rfl) (Or.inl rfl) (gR_put (res := (r, w1)) E d a1 a2 a3 w h)
def fR_element (a1 : Int) (a2 : Int) (w : WD) : Option (Int × WD) := ci (fR_whyNoPlace a1 a2 w) <| fun (r2 : Int) (u1 : WD) => if 0 ≤ r2 then (ck (0 ≤ (w32 ((w32 (60 * a1)) + a2)) ∧ (w32 ((w32 (60 * a1)) + a2)) < 360) <| some ((u1 84 (w32 ((w32 (60 * a1)) + a2))), u1)) else (some ((-9223372036854775808), u1))
set_option maxRecDepth 100000 in
set_option maxHeartbeats 4000000 in
theorem gR_element (E : Nat × (Int → Int)) (d : Nat) {res : Int × WD} (a1 : Int) (a2 : Int) (w : WD) (h : fR_element a1 a2 w = some res) : G E mR_element (d + 4) 0 [(0, pR 46), (1, pI a1), (2, pI a2)] [] w RF NN 0 0 (some (pL res.1), res.2, RF, NN) := by
  unfold fR_element at h
  refine g_aload_n (pc := 0) (j := 0) (dk d_mR_element 0 rfl) rfl (by decide) ?_
  refine g_iload_n (pc := 1) (j := 1) (dk d_mR_element 1 rfl) rfl ?_
  refine g_iload_n (pc := 2) (j := 2) (dk d_mR_element 2 rfl) rfl ?_
  refine h_callVi (d := d + 3) (pc := 3) (na := 2) (av := [pI a1, pI a2]) (k0 := 46) po_46 ⟨_, rfl⟩ ⟨rfl, rfl⟩ (dk d_mR_element 3 rfl) lk_R_453 vm_mR_whyNoPlace rfl rfl (Nat.le_of_ble_eq_true rfl) h (fun r2 u1 hq => kR_whyNoPlace E (d + 0) hq) (fun r2 u1 hb3 h => ?_)
  refine h_if_ge (pc := 6) (tgt := 15) (dk d_mR_element 4 rfl) rfl h (fun hc4 h => ?_) (fun hc4 h => ?_)
  · refine g_aload_n (pc := 15) (j := 0) (dk d_mR_element 7 rfl) rfl (by decide) ?_
    refine g_getR (pc := 16) (a := 84) rfl fp_R_127 po_46 (dk d_mR_element 8 rfl) ?_
    refine g_bipush (pc := 19) (dk d_mR_element 9 rfl) (by decide) ?_
    refine g_iload_n (pc := 21) (j := 1) (dk d_mR_element 10 rfl) rfl ?_
    refine g_imul (pc := 22) (dk d_mR_element 11 rfl) ?_
    refine g_iload_n (pc := 23) (j := 2) (dk d_mR_element 12 rfl) rfl ?_
    refine g_iadd (pc := 24) (dk d_mR_element 13 rfl) ?_
    refine h_lald (pc := 25) (B := 360) pa_84 rfl (dk d_mR_element 14 rfl) h (fun h => ?_)
    exact h_lret (pc := 26) (dk d_mR_element 15 rfl) h
  · refine g_ldc2 (pc := 9) (u := (-9223372036854775808)) ck_R_304 (by decide) (dk d_mR_element 5 rfl) ?_
    refine g_goto (pc := 12) (tgt := 26) (dk d_mR_element 6 rfl) rfl ?_
    exact h_lret (pc := 26) (dk d_mR_element 15 rfl) h
set_option maxRecDepth 100000 in
set_option maxHeartbeats 4000000 in
theorem kR_element (E : Nat × (Int → Int)) (d : Nat) {a1 : Int} {a2 : Int} {w w1 : WD} {r : Int} (h : fR_element a1 a2 w = some (r, w1)) : CTl E mR_element (d + 4) [pR 46, pI a1, pI a2] w RF NN r w1 RF NN := by
  exact CTl_of (by decide +kernel) (Nat.le_of_ble_eq_true rfl) rfl (gR_element (res := (r, w1)) E d a1 a2 w h)
def fR_shift_l113_b (rec : Int → WD → Option (Int × WD)) (y1 : Int) (y2 : Int) (y3 : Int) (y4 : Int) (y5 : Int) (K0 : WD → Option (Int × WD)) (x6 : Int) (w : WD) : Option (Int × WD) := if y5 ≤ x6 then (K0 w) else (ck (0 ≤ (w32 ((w32 ((w32 (60 * y1)) + y2)) + x6)) ∧ (w32 ((w32 ((w32 (60 * y1)) + y2)) + x6)) < 360) <| ck (0 ≤ x6 ∧ x6 < 60) <| bw (up w 85 x6 (w 84 (w32 ((w32 ((w32 (60 * y1)) + y2)) + x6)))) <| fun (u7 : WD) => bv (w32 (x6 + 1)) <| fun (v6_8 : Int) => rec v6_8 u7)
def fR_shift_l113 (y1 : Int) (y2 : Int) (y3 : Int) (y4 : Int) (y5 : Int) (K0 : WD → Option (Int × WD)) : Nat → Int → WD → Option (Int × WD)
  | 0 => fun _ _ => none
  | k + 1 => fR_shift_l113_b ( fR_shift_l113 y1 y2 y3 y4 y5 K0 k) y1 y2 y3 y4 y5 K0
set_option maxRecDepth 100000 in
set_option maxHeartbeats 4000000 in
theorem fR_shift_l113_b_ok (E : Nat × (Int → Int)) (d : Nat) {res : Int × WD} {rec : Int → WD → Option (Int × WD)} (y1 : Int) (y2 : Int) (y3 : Int) (y4 : Int) (y5 : Int) (K0 : WD → Option (Int × WD)) (hrec : ∀ (x6 : Int) (w : WD), rec x6 w = some res → G E mR_shift (d + 3) 113 [(0, pR 46), (1, pI y1), (2, pI y2), (3, pI y3), (4, pI y4), (5, pI y5), (6, pI x6)] [] w RF NN 0 0 (some (pI res.1), res.2, RF, NN)) (hK0 : ∀ (w : WD), K0 w = some res → G E mR_shift (d + 3) 147 [(0, pR 46), (3, pI y3), (4, pI y4), (5, pI y5)] [] w RF NN 0 0 (some (pI res.1), res.2, RF, NN)) (x6 : Int) (w : WD) (h : fR_shift_l113_b rec y1 y2 y3 y4 y5 K0 x6 w = some res) : G E mR_shift (d + 3) 113 [(0, pR 46), (1, pI y1), (2, pI y2), (3, pI y3), (4, pI y4), (5, pI y5), (6, pI x6)] [] w RF NN 0 0 (some (pI res.1), res.2, RF, NN) := by
  unfold fR_shift_l113_b at h
  refine g_iload (pc := 113) (j := 6) (dk d_mR_shift 64 rfl) rfl ?_
  refine g_iload (pc := 115) (j := 5) (dk d_mR_shift 65 rfl) rfl ?_
  refine h_icmp_ge (pc := 117) (tgt := 147) (dk d_mR_shift 66 rfl) rfl h (fun hc9 h => ?_) (fun hc9 h => ?_)
  · refine g_pick [0, 3, 4, 5] rfl (l' := [(0, pR 46), (3, pI y3), (4, pI y4), (5, pI y5)]) rfl ?_
    exact hK0 _ h
  · refine g_aload_n (pc := 120) (j := 0) (dk d_mR_shift 67 rfl) rfl (by decide) ?_
    refine g_getR (pc := 121) (a := 85) rfl fp_R_130 po_46 (dk d_mR_shift 68 rfl) ?_
    refine g_iload (pc := 124) (j := 6) (dk d_mR_shift 69 rfl) rfl ?_
    refine g_aload_n (pc := 126) (j := 0) (dk d_mR_shift 70 rfl) rfl (by decide) ?_
    refine g_getR (pc := 127) (a := 84) rfl fp_R_127 po_46 (dk d_mR_shift 71 rfl) ?_
    refine g_bipush (pc := 130) (dk d_mR_shift 72 rfl) (by decide) ?_
    refine g_iload_n (pc := 132) (j := 1) (dk d_mR_shift 73 rfl) rfl ?_
    refine g_imul (pc := 133) (dk d_mR_shift 74 rfl) ?_
    refine g_iload_n (pc := 134) (j := 2) (dk d_mR_shift 75 rfl) rfl ?_
    refine g_iadd (pc := 135) (dk d_mR_shift 76 rfl) ?_
    refine g_iload (pc := 136) (j := 6) (dk d_mR_shift 77 rfl) rfl ?_
    refine g_iadd (pc := 138) (dk d_mR_shift 78 rfl) ?_
    refine h_lald (pc := 139) (B := 360) pa_84 rfl (dk d_mR_shift 79 rfl) h (fun h => ?_)
    refine h_last (pc := 140) (B := 60) pa_85 rfl (dk d_mR_shift 80 rfl) h (fun u7 h => ?_)
    refine h_iinc (pc := 141) (j := 6) (dk d_mR_shift 81 rfl) rfl (by decide) (Nat.le_of_ble_eq_true rfl) h (fun v6_8 h => ?_)
    refine g_loc (l' := [(6, pI v6_8), (0, pR 46), (1, pI y1), (2, pI y2), (3, pI y3), (4, pI y4), (5, pI y5)]) rfl ?_
    refine g_goto (pc := 144) (tgt := 113) (dk d_mR_shift 82 rfl) rfl ?_
    refine g_pick [1, 2, 3, 4, 5, 6, 0] rfl (l' := [(0, pR 46), (1, pI y1), (2, pI y2), (3, pI y3), (4, pI y4), (5, pI y5), (6, pI v6_8)]) rfl ?_
    exact hrec _ _ h
set_option maxRecDepth 100000 in
set_option maxHeartbeats 4000000 in
theorem fR_shift_l113_ok (E : Nat × (Int → Int)) (d : Nat) {res : Int × WD} (y1 : Int) (y2 : Int) (y3 : Int) (y4 : Int) (y5 : Int) (K0 : WD → Option (Int × WD)) (hK0 : ∀ (w : WD), K0 w = some res → G E mR_shift (d + 3) 147 [(0, pR 46), (3, pI y3), (4, pI y4), (5, pI y5)] [] w RF NN 0 0 (some (pI res.1), res.2, RF, NN)) : ∀ (k : Nat) (x6 : Int) (w : WD), fR_shift_l113 y1 y2 y3 y4 y5 K0 k x6 w = some res → G E mR_shift (d + 3) 113 [(0, pR 46), (1, pI y1), (2, pI y2), (3, pI y3), (4, pI y4), (5, pI y5), (6, pI x6)] [] w RF NN 0 0 (some (pI res.1), res.2, RF, NN) := by
  intro k
  induction k with
  | zero =>
    intro x6 w h
    exact no_e h
  | succ k ih =>
    intro x6 w h
    exact fR_shift_l113_b_ok E d y1 y2 y3 y4 y5 K0 ih hK0 x6 w h
def fR_shift_l150_b (rec : Int → WD → Option (Int × WD)) (y3 : Int) (y4 : Int) (y5 : Int) (x6 : Int) (w : WD) : Option (Int × WD) := if y5 ≤ x6 then (some (y5, w)) else (ck (0 ≤ x6 ∧ x6 < 60) <| ck (0 ≤ (w32 ((w32 ((w32 (60 * y3)) + y4)) + x6)) ∧ (w32 ((w32 ((w32 (60 * y3)) + y4)) + x6)) < 360) <| bw (up w 84 (w32 ((w32 ((w32 (60 * y3)) + y4)) + x6)) (w 85 x6)) <| fun (u11 : WD) => bv (w32 (x6 + 1)) <| fun (v6_12 : Int) => rec v6_12 u11)
def fR_shift_l150 (y3 : Int) (y4 : Int) (y5 : Int) : Nat → Int → WD → Option (Int × WD)
  | 0 => fun _ _ => none
  | k + 1 => fR_shift_l150_b ( fR_shift_l150 y3 y4 y5 k) y3 y4 y5
set_option maxRecDepth 100000 in
set_option maxHeartbeats 4000000 in
theorem fR_shift_l150_b_ok (E : Nat × (Int → Int)) (d : Nat) {res : Int × WD} {rec : Int → WD → Option (Int × WD)} (y3 : Int) (y4 : Int) (y5 : Int) (hrec : ∀ (x6 : Int) (w : WD), rec x6 w = some res → G E mR_shift (d + 3) 150 [(0, pR 46), (3, pI y3), (4, pI y4), (5, pI y5), (6, pI x6)] [] w RF NN 0 0 (some (pI res.1), res.2, RF, NN)) (x6 : Int) (w : WD) (h : fR_shift_l150_b rec y3 y4 y5 x6 w = some res) : G E mR_shift (d + 3) 150 [(0, pR 46), (3, pI y3), (4, pI y4), (5, pI y5), (6, pI x6)] [] w RF NN 0 0 (some (pI res.1), res.2, RF, NN) := by
  unfold fR_shift_l150_b at h
  refine g_iload (pc := 150) (j := 4) (dk d_mR_shift 85 rfl) rfl ?_
  refine g_iload (pc := 152) (j := 3) (dk d_mR_shift 86 rfl) rfl ?_
  refine h_icmp_ge (pc := 154) (tgt := 185) (dk d_mR_shift 87 rfl) rfl h (fun hc13 h => ?_) (fun hc13 h => ?_)
  · refine g_iload (pc := 185) (j := 3) (dk d_mR_shift 104 rfl) rfl ?_
    exact h_iret (pc := 187) rfl (dk d_mR_shift 105 rfl) h
  · refine g_aload_n (pc := 157) (j := 0) (dk d_mR_shift 88 rfl) rfl (by decide) ?_
    refine g_getR (pc := 158) (a := 84) rfl fp_R_127 po_46 (dk d_mR_shift 89 rfl) ?_
    refine g_bipush (pc := 161) (dk d_mR_shift 90 rfl) (by decide) ?_
    refine g_iload_n (pc := 163) (j := 1) (dk d_mR_shift 91 rfl) rfl ?_
    refine g_imul (pc := 164) (dk d_mR_shift 92 rfl) ?_
    refine g_iload (pc := 165) (j := 2) (dk d_mR_shift 93 rfl) rfl ?_
    refine g_iadd (pc := 167) (dk d_mR_shift 94 rfl) ?_
    refine g_iload (pc := 168) (j := 4) (dk d_mR_shift 95 rfl) rfl ?_
    refine g_iadd (pc := 170) (dk d_mR_shift 96 rfl) ?_
    refine g_aload_n (pc := 171) (j := 0) (dk d_mR_shift 97 rfl) rfl (by decide) ?_
    refine g_getR (pc := 172) (a := 85) rfl fp_R_130 po_46 (dk d_mR_shift 98 rfl) ?_
    refine g_iload (pc := 175) (j := 4) (dk d_mR_shift 99 rfl) rfl ?_
    refine h_lald (pc := 177) (B := 60) pa_85 rfl (dk d_mR_shift 100 rfl) h (fun h => ?_)
    refine h_last (pc := 178) (B := 360) pa_84 rfl (dk d_mR_shift 101 rfl) h (fun u11 h => ?_)
    refine h_iinc (pc := 179) (j := 4) (dk d_mR_shift 102 rfl) rfl (by decide) (Nat.le_of_ble_eq_true rfl) h (fun v6_12 h => ?_)
    refine g_loc (l' := [(6, pI v6_12), (0, pR 46), (3, pI y3), (4, pI y4), (5, pI y5)]) rfl ?_
    refine g_goto (pc := 182) (tgt := 150) (dk d_mR_shift 103 rfl) rfl ?_
    refine g_pick [1, 2, 3, 4, 0] rfl (l' := [(0, pR 46), (3, pI y3), (4, pI y4), (5, pI y5), (6, pI v6_12)]) rfl ?_
    exact hrec _ _ h
set_option maxRecDepth 100000 in
set_option maxHeartbeats 4000000 in
theorem fR_shift_l150_ok (E : Nat × (Int → Int)) (d : Nat) {res : Int × WD} (y3 : Int) (y4 : Int) (y5 : Int) : ∀ (k : Nat) (x6 : Int) (w : WD), fR_shift_l150 y3 y4 y5 k x6 w = some res → G E mR_shift (d + 3) 150 [(0, pR 46), (3, pI y3), (4, pI y4), (5, pI y5), (6, pI x6)] [] w RF NN 0 0 (some (pI res.1), res.2, RF, NN) := by
  intro k
  induction k with
  | zero =>
    intro x6 w h
    exact no_e h
  | succ k ih =>
    intro x6 w h
    exact fR_shift_l150_b_ok E d y3 y4 y5 ih x6 w h
def fR_shift (a1 : Int) (a2 : Int) (a3 : Int) (a4 : Int) (a5 : Int) (w : WD) : Option (Int × WD) := ci (fR_isShelf a1 w) <| fun (r2 : Int) (u1 : WD) => if r2 = 0 then (some ((-1), u1)) else (ci (fR_isShelf a3 u1) <| fun (r5 : Int) (u4 : WD) => if r5 ≠ 0 then (ck (0 ≤ a1 ∧ a1 < 6) <| if (u4 82 a1) = (-1) then (some ((-11), u4)) else (ck (0 ≤ a3 ∧ a3 < 6) <| if (u4 82 a3) ≠ (-1) then (ck (0 ≤ a1 ∧ a1 < 6) <| if 0 ≤ (u4 82 a1) then (some ((-12), u4)) else (ck (0 ≤ a1 ∧ a1 < 6) <| ck (0 ≤ a3 ∧ a3 < 6) <| if (u4 82 a1) = (u4 82 a3) then (if a5 < 0 then (some ((-13), u4)) else (if a2 < 0 then (some ((-13), u4)) else (if a4 < 0 then (some ((-13), u4)) else (ck (0 ≤ a1 ∧ a1 < 6) <| if (w32 ((u4 83 a1) - a5)) < a2 then (some ((-13), u4)) else (ck (0 ≤ a3 ∧ a3 < 6) <| if a4 ≤ (w32 ((u4 83 a3) - a5)) then (fR_shift_l113 a1 a2 a3 a4 a5 (fun (u10 : WD) => fR_shift_l150 a3 a4 a5 FU 0 u10) FU 0 u4) else (some ((-13), u4))))))) else (some ((-12), u4)))) else (some ((-11), u4)))) else (some ((-1), u4)))
set_option maxRecDepth 100000 in
set_option maxHeartbeats 4000000 in
theorem gR_shift (E : Nat × (Int → Int)) (d : Nat) {res : Int × WD} (a1 : Int) (a2 : Int) (a3 : Int) (a4 : Int) (a5 : Int) (w : WD) (h : fR_shift a1 a2 a3 a4 a5 w = some res) : G E mR_shift (d + 3) 0 [(0, pR 46), (1, pI a1), (2, pI a2), (3, pI a3), (4, pI a4), (5, pI a5)] [] w RF NN 0 0 (some (pI res.1), res.2, RF, NN) := by
  unfold fR_shift at h
  refine g_iload_n (pc := 0) (j := 1) (dk d_mR_shift 0 rfl) rfl ?_
  refine h_callSi (d := d + 2) (pc := 1) (na := 1) (av := [pI a1]) ⟨rfl, rfl⟩ (dk d_mR_shift 1 rfl) lk_R_158 vm_mR_isShelf rfl rfl (Nat.le_of_ble_eq_true rfl) h (fun r2 u1 hq => kR_isShelf E (d + 0) hq) (fun r2 u1 hb3 h => ?_)
  refine h_if_eq (pc := 4) (tgt := 14) (dk d_mR_shift 2 rfl) rfl h (fun hc24 h => ?_) (fun hc24 h => ?_)
  · refine g_iconst (pc := 14) (dk d_mR_shift 6 rfl) (by decide) ?_
    exact h_iret (pc := 15) rfl (dk d_mR_shift 7 rfl) h
  · refine g_iload_n (pc := 7) (j := 3) (dk d_mR_shift 3 rfl) rfl ?_
    refine h_callSi (d := d + 2) (pc := 8) (na := 1) (av := [pI a3]) ⟨rfl, rfl⟩ (dk d_mR_shift 4 rfl) lk_R_158 vm_mR_isShelf rfl rfl (Nat.le_of_ble_eq_true rfl) h (fun r5 u4 hq => kR_isShelf E (d + 0) hq) (fun r5 u4 hb6 h => ?_)
    refine h_if_ne (pc := 11) (tgt := 16) (dk d_mR_shift 5 rfl) rfl h (fun hc23 h => ?_) (fun hc23 h => ?_)
    · refine g_aload_n (pc := 16) (j := 0) (dk d_mR_shift 8 rfl) rfl (by decide) ?_
      refine g_getR (pc := 17) (a := 82) rfl fp_R_121 po_46 (dk d_mR_shift 9 rfl) ?_
      refine g_iload_n (pc := 20) (j := 1) (dk d_mR_shift 10 rfl) rfl ?_
      refine h_iald (pc := 21) (B := 6) pa_82 rfl (dk d_mR_shift 11 rfl) h (fun h => ?_)
      refine g_iconst (pc := 22) (dk d_mR_shift 12 rfl) (by decide) ?_
      refine h_icmp_eq (pc := 23) (tgt := 36) (dk d_mR_shift 13 rfl) rfl h (fun hc22 h => ?_) (fun hc22 h => ?_)
      · refine g_bipush (pc := 36) (dk d_mR_shift 20 rfl) (by decide) ?_
        exact h_iret (pc := 38) rfl (dk d_mR_shift 21 rfl) h
      · refine g_aload_n (pc := 26) (j := 0) (dk d_mR_shift 14 rfl) rfl (by decide) ?_
        refine g_getR (pc := 27) (a := 82) rfl fp_R_121 po_46 (dk d_mR_shift 15 rfl) ?_
        refine g_iload_n (pc := 30) (j := 3) (dk d_mR_shift 16 rfl) rfl ?_
        refine h_iald (pc := 31) (B := 6) pa_82 rfl (dk d_mR_shift 17 rfl) h (fun h => ?_)
        refine g_iconst (pc := 32) (dk d_mR_shift 18 rfl) (by decide) ?_
        refine h_icmp_ne (pc := 33) (tgt := 39) (dk d_mR_shift 19 rfl) rfl h (fun hc21 h => ?_) (fun hc21 h => ?_)
        · refine g_aload_n (pc := 39) (j := 0) (dk d_mR_shift 22 rfl) rfl (by decide) ?_
          refine g_getR (pc := 40) (a := 82) rfl fp_R_121 po_46 (dk d_mR_shift 23 rfl) ?_
          refine g_iload_n (pc := 43) (j := 1) (dk d_mR_shift 24 rfl) rfl ?_
          refine h_iald (pc := 44) (B := 6) pa_82 rfl (dk d_mR_shift 25 rfl) h (fun h => ?_)
          refine h_if_ge (pc := 45) (tgt := 63) (dk d_mR_shift 26 rfl) rfl h (fun hc20 h => ?_) (fun hc20 h => ?_)
          · refine g_bipush (pc := 63) (dk d_mR_shift 36 rfl) (by decide) ?_
            exact h_iret (pc := 65) rfl (dk d_mR_shift 37 rfl) h
          · refine g_aload_n (pc := 48) (j := 0) (dk d_mR_shift 27 rfl) rfl (by decide) ?_
            refine g_getR (pc := 49) (a := 82) rfl fp_R_121 po_46 (dk d_mR_shift 28 rfl) ?_
            refine g_iload_n (pc := 52) (j := 1) (dk d_mR_shift 29 rfl) rfl ?_
            refine h_iald (pc := 53) (B := 6) pa_82 rfl (dk d_mR_shift 30 rfl) h (fun h => ?_)
            refine g_aload_n (pc := 54) (j := 0) (dk d_mR_shift 31 rfl) rfl (by decide) ?_
            refine g_getR (pc := 55) (a := 82) rfl fp_R_121 po_46 (dk d_mR_shift 32 rfl) ?_
            refine g_iload_n (pc := 58) (j := 3) (dk d_mR_shift 33 rfl) rfl ?_
            refine h_iald (pc := 59) (B := 6) pa_82 rfl (dk d_mR_shift 34 rfl) h (fun h => ?_)
            refine h_icmp_eq (pc := 60) (tgt := 66) (dk d_mR_shift 35 rfl) rfl h (fun hc19 h => ?_) (fun hc19 h => ?_)
            · refine g_iload (pc := 66) (j := 5) (dk d_mR_shift 38 rfl) rfl ?_
              refine h_if_lt (pc := 68) (tgt := 107) (dk d_mR_shift 39 rfl) rfl h (fun hc18 h => ?_) (fun hc18 h => ?_)
              · refine g_bipush (pc := 107) (dk d_mR_shift 60 rfl) (by decide) ?_
                exact h_iret (pc := 109) rfl (dk d_mR_shift 61 rfl) h
              · refine g_iload_n (pc := 71) (j := 2) (dk d_mR_shift 40 rfl) rfl ?_
                refine h_if_lt (pc := 72) (tgt := 107) (dk d_mR_shift 41 rfl) rfl h (fun hc17 h => ?_) (fun hc17 h => ?_)
                · refine g_bipush (pc := 107) (dk d_mR_shift 60 rfl) (by decide) ?_
                  exact h_iret (pc := 109) rfl (dk d_mR_shift 61 rfl) h
                · refine g_iload (pc := 75) (j := 4) (dk d_mR_shift 42 rfl) rfl ?_
                  refine h_if_lt (pc := 77) (tgt := 107) (dk d_mR_shift 43 rfl) rfl h (fun hc16 h => ?_) (fun hc16 h => ?_)
                  · refine g_bipush (pc := 107) (dk d_mR_shift 60 rfl) (by decide) ?_
                    exact h_iret (pc := 109) rfl (dk d_mR_shift 61 rfl) h
                  · refine g_iload_n (pc := 80) (j := 2) (dk d_mR_shift 44 rfl) rfl ?_
                    refine g_aload_n (pc := 81) (j := 0) (dk d_mR_shift 45 rfl) rfl (by decide) ?_
                    refine g_getR (pc := 82) (a := 83) rfl fp_R_124 po_46 (dk d_mR_shift 46 rfl) ?_
                    refine g_iload_n (pc := 85) (j := 1) (dk d_mR_shift 47 rfl) rfl ?_
                    refine h_iald (pc := 86) (B := 6) pa_83 rfl (dk d_mR_shift 48 rfl) h (fun h => ?_)
                    refine g_iload (pc := 87) (j := 5) (dk d_mR_shift 49 rfl) rfl ?_
                    refine g_isub (pc := 89) (dk d_mR_shift 50 rfl) ?_
                    refine h_icmp_gt (pc := 90) (tgt := 107) (dk d_mR_shift 51 rfl) rfl h (fun hc15 h => ?_) (fun hc15 h => ?_)
                    · refine g_bipush (pc := 107) (dk d_mR_shift 60 rfl) (by decide) ?_
                      exact h_iret (pc := 109) rfl (dk d_mR_shift 61 rfl) h
                    · refine g_iload (pc := 93) (j := 4) (dk d_mR_shift 52 rfl) rfl ?_
                      refine g_aload_n (pc := 95) (j := 0) (dk d_mR_shift 53 rfl) rfl (by decide) ?_
                      refine g_getR (pc := 96) (a := 83) rfl fp_R_124 po_46 (dk d_mR_shift 54 rfl) ?_
                      refine g_iload_n (pc := 99) (j := 3) (dk d_mR_shift 55 rfl) rfl ?_
                      refine h_iald (pc := 100) (B := 6) pa_83 rfl (dk d_mR_shift 56 rfl) h (fun h => ?_)
                      refine g_iload (pc := 101) (j := 5) (dk d_mR_shift 57 rfl) rfl ?_
                      refine g_isub (pc := 103) (dk d_mR_shift 58 rfl) ?_
                      refine h_icmp_le (pc := 104) (tgt := 110) (dk d_mR_shift 59 rfl) rfl h (fun hc14 h => ?_) (fun hc14 h => ?_)
                      · refine g_iconst (pc := 110) (dk d_mR_shift 62 rfl) (by decide) ?_
                        refine g_istore (pc := 111) (l' := [(6, pI 0), (0, pR 46), (1, pI a1), (2, pI a2), (3, pI a3), (4, pI a4), (5, pI a5)]) (dk d_mR_shift 63 rfl) (Nat.le_of_ble_eq_true rfl) rfl ?_
                        refine g_pick [1, 2, 3, 4, 5, 6, 0] rfl (l' := [(0, pR 46), (1, pI a1), (2, pI a2), (3, pI a3), (4, pI a4), (5, pI a5), (6, pI 0)]) rfl ?_
                        refine fR_shift_l113_ok E d a1 a2 a3 a4 a5 _  (fun u10 h => ?_) FU _  _ h
                        · refine g_iconst (pc := 147) (dk d_mR_shift 83 rfl) (by decide) ?_
                          refine g_istore (pc := 148) (l' := [(6, pI 0), (0, pR 46), (3, pI a3), (4, pI a4), (5, pI a5)]) (dk d_mR_shift 84 rfl) (Nat.le_of_ble_eq_true rfl) rfl ?_
                          refine g_pick [1, 2, 3, 4, 0] rfl (l' := [(0, pR 46), (3, pI a3), (4, pI a4), (5, pI a5), (6, pI 0)]) rfl ?_
                          refine fR_shift_l150_ok E d a3 a4 a5 FU _  _ h
                      · refine g_bipush (pc := 107) (dk d_mR_shift 60 rfl) (by decide) ?_
                        exact h_iret (pc := 109) rfl (dk d_mR_shift 61 rfl) h
            · refine g_bipush (pc := 63) (dk d_mR_shift 36 rfl) (by decide) ?_
              exact h_iret (pc := 65) rfl (dk d_mR_shift 37 rfl) h
        · refine g_bipush (pc := 36) (dk d_mR_shift 20 rfl) (by decide) ?_
          exact h_iret (pc := 38) rfl (dk d_mR_shift 21 rfl) h
    · refine g_iconst (pc := 14) (dk d_mR_shift 6 rfl) (by decide) ?_
      exact h_iret (pc := 15) rfl (dk d_mR_shift 7 rfl) h
set_option maxRecDepth 100000 in
set_option maxHeartbeats 4000000 in
theorem kR_shift (E : Nat × (Int → Int)) (d : Nat) {a1 : Int} {a2 : Int} {a3 : Int} {a4 : Int} {a5 : Int} {w w1 : WD} {r : Int} (h : fR_shift a1 a2 a3 a4 a5 w = some (r, w1)) : CTi E mR_shift (d + 3) [pR 46, pI a1, pI a2, pI a3, pI a4, pI a5] w RF NN r w1 RF NN := by
  exact CTi_of (by decide +kernel) (Nat.le_of_ble_eq_true rfl) (Or.inl rfl) (gR_shift (res := (r, w1)) E d a1 a2 a3 a4 a5 w h)
def fR_taken (a1 : Int) (a2 : Int) (w : WD) : Option (Int × WD) := ci (fR_isShelf a1 w) <| fun (r2 : Int) (u1 : WD) => if r2 = 0 then (some ((-1), u1)) else (ci (fR_in a2 0 7 u1) <| fun (r5 : Int) (u4 : WD) => if r5 ≠ 0 then (ck (0 ≤ a1 ∧ a1 < 6) <| if (u4 82 a1) ≠ (-1) then (ck (0 ≤ a1 ∧ a1 < 6) <| if (u4 82 a1) < 0 then (some ((-12), u4)) else (ck (0 ≤ a1 ∧ a1 < 6) <| ck (0 ≤ (u4 82 a1) ∧ (u4 82 a1) < 50) <| ci (fR_isUnder (u4 80 (u4 82 a1)) a2 u4) <| fun (r8 : Int) (u7 : WD) => if r8 = 0 then (some ((-12), u7)) else (ck (0 ≤ a1 ∧ a1 < 6) <| ck (0 ≤ (u7 82 a1) ∧ (u7 82 a1) < 50) <| some ((u7 80 (u7 82 a1)), u7)))) else (some ((-11), u4))) else (some ((-1), u4)))
set_option maxRecDepth 100000 in
set_option maxHeartbeats 4000000 in
theorem gR_taken (E : Nat × (Int → Int)) (d : Nat) {res : Int × WD} (a1 : Int) (a2 : Int) (w : WD) (h : fR_taken a1 a2 w = some res) : G E mR_taken (d + 3) 0 [(0, pR 46), (1, pI a1), (2, pI a2)] [] w RF NN 0 0 (some (pI res.1), res.2, RF, NN) := by
  unfold fR_taken at h
  refine g_iload_n (pc := 0) (j := 1) (dk d_mR_taken 0 rfl) rfl ?_
  refine h_callSi (d := d + 2) (pc := 1) (na := 1) (av := [pI a1]) ⟨rfl, rfl⟩ (dk d_mR_taken 1 rfl) lk_R_158 vm_mR_isShelf rfl rfl (Nat.le_of_ble_eq_true rfl) h (fun r2 u1 hq => kR_isShelf E (d + 0) hq) (fun r2 u1 hb3 h => ?_)
  refine h_if_eq (pc := 4) (tgt := 17) (dk d_mR_taken 2 rfl) rfl h (fun hc14 h => ?_) (fun hc14 h => ?_)
  · refine g_iconst (pc := 17) (dk d_mR_taken 8 rfl) (by decide) ?_
    exact h_iret (pc := 18) rfl (dk d_mR_taken 9 rfl) h
  · refine g_iload_n (pc := 7) (j := 2) (dk d_mR_taken 3 rfl) rfl ?_
    refine g_iconst (pc := 8) (dk d_mR_taken 4 rfl) (by decide) ?_
    refine g_bipush (pc := 9) (dk d_mR_taken 5 rfl) (by decide) ?_
    refine h_callSi (d := d + 2) (pc := 11) (na := 3) (av := [pI a2, pI 0, pI 7]) ⟨rfl, rfl⟩ (dk d_mR_taken 6 rfl) lk_R_140 vm_mR_in rfl rfl (Nat.le_of_ble_eq_true rfl) h (fun r5 u4 hq => kR_in E (d + 1) hq) (fun r5 u4 hb6 h => ?_)
    refine h_if_ne (pc := 14) (tgt := 19) (dk d_mR_taken 7 rfl) rfl h (fun hc13 h => ?_) (fun hc13 h => ?_)
    · refine g_aload_n (pc := 19) (j := 0) (dk d_mR_taken 10 rfl) rfl (by decide) ?_
      refine g_getR (pc := 20) (a := 82) rfl fp_R_121 po_46 (dk d_mR_taken 11 rfl) ?_
      refine g_iload_n (pc := 23) (j := 1) (dk d_mR_taken 12 rfl) rfl ?_
      refine h_iald (pc := 24) (B := 6) pa_82 rfl (dk d_mR_taken 13 rfl) h (fun h => ?_)
      refine g_iconst (pc := 25) (dk d_mR_taken 14 rfl) (by decide) ?_
      refine h_icmp_ne (pc := 26) (tgt := 32) (dk d_mR_taken 15 rfl) rfl h (fun hc12 h => ?_) (fun hc12 h => ?_)
      · refine g_aload_n (pc := 32) (j := 0) (dk d_mR_taken 18 rfl) rfl (by decide) ?_
        refine g_getR (pc := 33) (a := 82) rfl fp_R_121 po_46 (dk d_mR_taken 19 rfl) ?_
        refine g_iload_n (pc := 36) (j := 1) (dk d_mR_taken 20 rfl) rfl ?_
        refine h_iald (pc := 37) (B := 6) pa_82 rfl (dk d_mR_taken 21 rfl) h (fun h => ?_)
        refine h_if_lt (pc := 38) (tgt := 73) (dk d_mR_taken 22 rfl) rfl h (fun hc11 h => ?_) (fun hc11 h => ?_)
        · refine g_bipush (pc := 73) (dk d_mR_taken 41 rfl) (by decide) ?_
          exact h_iret (pc := 75) rfl (dk d_mR_taken 42 rfl) h
        · refine g_aload_n (pc := 41) (j := 0) (dk d_mR_taken 23 rfl) rfl (by decide) ?_
          refine g_getR (pc := 42) (a := 80) rfl fp_R_115 po_46 (dk d_mR_taken 24 rfl) ?_
          refine g_aload_n (pc := 45) (j := 0) (dk d_mR_taken 25 rfl) rfl (by decide) ?_
          refine g_getR (pc := 46) (a := 82) rfl fp_R_121 po_46 (dk d_mR_taken 26 rfl) ?_
          refine g_iload_n (pc := 49) (j := 1) (dk d_mR_taken 27 rfl) rfl ?_
          refine h_iald (pc := 50) (B := 6) pa_82 rfl (dk d_mR_taken 28 rfl) h (fun h => ?_)
          refine h_iald (pc := 51) (B := 50) pa_80 rfl (dk d_mR_taken 29 rfl) h (fun h => ?_)
          refine g_iload_n (pc := 52) (j := 2) (dk d_mR_taken 30 rfl) rfl ?_
          refine h_callSi (d := d + 2) (pc := 53) (na := 2) (av := [pI (u4 80 (u4 82 a1)), pI a2]) ⟨rfl, rfl⟩ (dk d_mR_taken 31 rfl) lk_R_417 vm_mR_isUnder rfl rfl (Nat.le_of_ble_eq_true rfl) h (fun r8 u7 hq => kR_isUnder E (d + 1) hq) (fun r8 u7 hb9 h => ?_)
          refine h_if_eq (pc := 56) (tgt := 73) (dk d_mR_taken 32 rfl) rfl h (fun hc10 h => ?_) (fun hc10 h => ?_)
          · refine g_bipush (pc := 73) (dk d_mR_taken 41 rfl) (by decide) ?_
            exact h_iret (pc := 75) rfl (dk d_mR_taken 42 rfl) h
          · refine g_aload_n (pc := 59) (j := 0) (dk d_mR_taken 33 rfl) rfl (by decide) ?_
            refine g_getR (pc := 60) (a := 80) rfl fp_R_115 po_46 (dk d_mR_taken 34 rfl) ?_
            refine g_aload_n (pc := 63) (j := 0) (dk d_mR_taken 35 rfl) rfl (by decide) ?_
            refine g_getR (pc := 64) (a := 82) rfl fp_R_121 po_46 (dk d_mR_taken 36 rfl) ?_
            refine g_iload_n (pc := 67) (j := 1) (dk d_mR_taken 37 rfl) rfl ?_
            refine h_iald (pc := 68) (B := 6) pa_82 rfl (dk d_mR_taken 38 rfl) h (fun h => ?_)
            refine h_iald (pc := 69) (B := 50) pa_80 rfl (dk d_mR_taken 39 rfl) h (fun h => ?_)
            refine g_goto (pc := 70) (tgt := 75) (dk d_mR_taken 40 rfl) rfl ?_
            exact h_iret (pc := 75) rfl (dk d_mR_taken 42 rfl) h
      · refine g_bipush (pc := 29) (dk d_mR_taken 16 rfl) (by decide) ?_
        exact h_iret (pc := 31) rfl (dk d_mR_taken 17 rfl) h
    · refine g_iconst (pc := 17) (dk d_mR_taken 8 rfl) (by decide) ?_
      exact h_iret (pc := 18) rfl (dk d_mR_taken 9 rfl) h
set_option maxRecDepth 100000 in
set_option maxHeartbeats 4000000 in
theorem kR_taken (E : Nat × (Int → Int)) (d : Nat) {a1 : Int} {a2 : Int} {w w1 : WD} {r : Int} (h : fR_taken a1 a2 w = some (r, w1)) : CTi E mR_taken (d + 3) [pR 46, pI a1, pI a2] w RF NN r w1 RF NN := by
  exact CTi_of (by decide +kernel) (Nat.le_of_ble_eq_true rfl) (Or.inl rfl) (gR_taken (res := (r, w1)) E d a1 a2 w h)
