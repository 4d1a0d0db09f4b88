def fHa_isValue (a0 : Int) (w : WD) : Option (Int × WD) := if a0 < 0 then (some (0, w)) else (if 4 ≤ a0 then (some (0, w)) else (some (1, w)))
set_option maxRecDepth 100000 in
set_option maxHeartbeats 4000000 in
theorem gHa_isValue (E : Nat × (Int → Int)) (d : Nat) {res : Int × WD} (a0 : Int) (w : WD) (h : fHa_isValue a0 w = some res) : G E mHa_isValue (d + 1) 0 [(0, pI a0)] [] w RF NN 0 0 (some (pI res.1), res.2, RF, NN) := by
  unfold fHa_isValue at h
  refine g_iload_n (pc := 0) (j := 0) (dk d_mHa_isValue 0 rfl) rfl ?_
  refine h_if_lt (pc := 1) (tgt := 13) (dk d_mHa_isValue 1 rfl) rfl h (fun hc2 h => ?_) (fun hc2 h => ?_)
  · refine g_iconst (pc := 13) (dk d_mHa_isValue 7 rfl) (by decide) ?_
    exact h_zret (pc := 14) (Or.inl rfl) (dk d_mHa_isValue 8 rfl) h
  · refine g_iload_n (pc := 4) (j := 0) (dk d_mHa_isValue 2 rfl) rfl ?_
    refine g_iconst (pc := 5) (dk d_mHa_isValue 3 rfl) (by decide) ?_
    refine h_icmp_ge (pc := 6) (tgt := 13) (dk d_mHa_isValue 4 rfl) rfl h (fun hc1 h => ?_) (fun hc1 h => ?_)
    · refine g_iconst (pc := 13) (dk d_mHa_isValue 7 rfl) (by decide) ?_
      exact h_zret (pc := 14) (Or.inl rfl) (dk d_mHa_isValue 8 rfl) h
    · refine g_iconst (pc := 9) (dk d_mHa_isValue 5 rfl) (by decide) ?_
      refine g_goto (pc := 10) (tgt := 14) (dk d_mHa_isValue 6 rfl) rfl ?_
      exact h_zret (pc := 14) (Or.inr rfl) (dk d_mHa_isValue 8 rfl) h
set_option maxRecDepth 100000 in
set_option maxHeartbeats 4000000 in
theorem kHa_isValue (E : Nat × (Int → Int)) (d : Nat) {a0 : Int} {w w1 : WD} {r : Int} (h : fHa_isValue a0 w = some (r, w1)) : CTi E mHa_isValue (d + 1) [pI a0] w RF NN r w1 RF NN := by
  exact CTi_of (by decide +kernel) (Nat.le_of_ble_eq_true rfl) (Or.inr rfl) (gHa_isValue (res := (r, w1)) E d a0 w h)
def fHa_placeOf (a1 : Int) (a2 : Int) (w : WD) : Option (Int × WD) := if a1 < 0 then (some ((-1), w)) else (if a2 < 0 then (some ((-1), w)) else (if a2 ≤ 12 then (if 3 < a2 then (if 7 < a2 then (if a2 ≠ 8 then (if a1 ≠ 0 then (some ((-1), w)) else (some ((w32 ((w32 (47 + a2)) - 9)), w))) else (if 3 ≤ a1 then (some ((-1), w)) else (some ((w32 (44 + a1)), w)))) else (if (w 1 5) ≤ a1 then (some ((-1), w)) else (some ((w32 ((w32 ((w32 (24 + (w32 (4 * a1)))) + a2)) - 4)), w)))) else (if (w 1 4) ≤ a1 then (some ((-1), w)) else (some ((w32 ((w32 (4 * a1)) + a2)), w)))) else (some ((-1), w))))
set_option maxRecDepth 100000 in
set_option maxHeartbeats 4000000 in
theorem gHa_placeOf (E : Nat × (Int → Int)) (d : Nat) {res : Int × WD} (a1 : Int) (a2 : Int) (w : WD) (h : fHa_placeOf a1 a2 w = some res) : G E mHa_placeOf (d + 1) 0 [(0, pR 1), (1, pI a1), (2, pI a2)] [] w RF NN 0 0 (some (pI res.1), res.2, RF, NN) := by
  unfold fHa_placeOf at h
  refine g_iload_n (pc := 0) (j := 1) (dk d_mHa_placeOf 0 rfl) rfl ?_
  refine h_if_lt (pc := 1) (tgt := 14) (dk d_mHa_placeOf 1 rfl) rfl h (fun hc10 h => ?_) (fun hc10 h => ?_)
  · refine g_iconst (pc := 14) (dk d_mHa_placeOf 7 rfl) (by decide) ?_
    exact h_iret (pc := 15) rfl (dk d_mHa_placeOf 8 rfl) h
  · refine g_iload_n (pc := 4) (j := 2) (dk d_mHa_placeOf 2 rfl) rfl ?_
    refine h_if_lt (pc := 5) (tgt := 14) (dk d_mHa_placeOf 3 rfl) rfl h (fun hc9 h => ?_) (fun hc9 h => ?_)
    · refine g_iconst (pc := 14) (dk d_mHa_placeOf 7 rfl) (by decide) ?_
      exact h_iret (pc := 15) rfl (dk d_mHa_placeOf 8 rfl) h
    · refine g_iload_n (pc := 8) (j := 2) (dk d_mHa_placeOf 4 rfl) rfl ?_
      refine g_bipush (pc := 9) (dk d_mHa_placeOf 5 rfl) (by decide) ?_
      refine h_icmp_le (pc := 11) (tgt := 16) (dk d_mHa_placeOf 6 rfl) rfl h (fun hc8 h => ?_) (fun hc8 h => ?_)
      · refine g_iload_n (pc := 16) (j := 2) (dk d_mHa_placeOf 9 rfl) rfl ?_
        refine g_iconst (pc := 17) (dk d_mHa_placeOf 10 rfl) (by decide) ?_
        refine h_icmp_gt (pc := 18) (tgt := 39) (dk d_mHa_placeOf 11 rfl) rfl h (fun hc7 h => ?_) (fun hc7 h => ?_)
        · refine g_iload_n (pc := 39) (j := 2) (dk d_mHa_placeOf 24 rfl) rfl ?_
          refine g_bipush (pc := 40) (dk d_mHa_placeOf 25 rfl) (by decide) ?_
          refine h_icmp_gt (pc := 42) (tgt := 68) (dk d_mHa_placeOf 26 rfl) rfl h (fun hc5 h => ?_) (fun hc5 h => ?_)
          · refine g_iload_n (pc := 68) (j := 2) (dk d_mHa_placeOf 43 rfl) rfl ?_
            refine g_bipush (pc := 69) (dk d_mHa_placeOf 44 rfl) (by decide) ?_
            refine h_icmp_ne (pc := 71) (tgt := 88) (dk d_mHa_placeOf 45 rfl) rfl h (fun hc3 h => ?_) (fun hc3 h => ?_)
            · refine g_iload_n (pc := 88) (j := 1) (dk d_mHa_placeOf 55 rfl) rfl ?_
              refine h_if_ne (pc := 89) (tgt := 102) (dk d_mHa_placeOf 56 rfl) rfl h (fun hc1 h => ?_) (fun hc1 h => ?_)
              · refine g_iconst (pc := 102) (dk d_mHa_placeOf 63 rfl) (by decide) ?_
                exact h_iret (pc := 103) rfl (dk d_mHa_placeOf 64 rfl) h
              · refine g_bipush (pc := 92) (dk d_mHa_placeOf 57 rfl) (by decide) ?_
                refine g_iload_n (pc := 94) (j := 2) (dk d_mHa_placeOf 58 rfl) rfl ?_
                refine g_iadd (pc := 95) (dk d_mHa_placeOf 59 rfl) ?_
                refine g_bipush (pc := 96) (dk d_mHa_placeOf 60 rfl) (by decide) ?_
                refine g_isub (pc := 98) (dk d_mHa_placeOf 61 rfl) ?_
                refine g_goto (pc := 99) (tgt := 103) (dk d_mHa_placeOf 62 rfl) rfl ?_
                exact h_iret (pc := 103) rfl (dk d_mHa_placeOf 64 rfl) h
            · refine g_iload_n (pc := 74) (j := 1) (dk d_mHa_placeOf 46 rfl) rfl ?_
              refine g_iconst (pc := 75) (dk d_mHa_placeOf 47 rfl) (by decide) ?_
              refine h_icmp_ge (pc := 76) (tgt := 86) (dk d_mHa_placeOf 48 rfl) rfl h (fun hc2 h => ?_) (fun hc2 h => ?_)
              · refine g_iconst (pc := 86) (dk d_mHa_placeOf 53 rfl) (by decide) ?_
                exact h_iret (pc := 87) rfl (dk d_mHa_placeOf 54 rfl) h
              · refine g_bipush (pc := 79) (dk d_mHa_placeOf 49 rfl) (by decide) ?_
                refine g_iload_n (pc := 81) (j := 1) (dk d_mHa_placeOf 50 rfl) rfl ?_
                refine g_iadd (pc := 82) (dk d_mHa_placeOf 51 rfl) ?_
                refine g_goto (pc := 83) (tgt := 87) (dk d_mHa_placeOf 52 rfl) rfl ?_
                exact h_iret (pc := 87) rfl (dk d_mHa_placeOf 54 rfl) h
          · refine g_iload_n (pc := 45) (j := 1) (dk d_mHa_placeOf 27 rfl) rfl ?_
            refine g_aload_n (pc := 46) (j := 0) (dk d_mHa_placeOf 28 rfl) rfl (by decide) ?_
            refine g_getI (pc := 47) fp_Ha_28 po_1 (dk d_mHa_placeOf 29 rfl) ?_
            refine h_icmp_ge (pc := 50) (tgt := 66) (dk d_mHa_placeOf 30 rfl) rfl h (fun hc4 h => ?_) (fun hc4 h => ?_)
            · refine g_iconst (pc := 66) (dk d_mHa_placeOf 41 rfl) (by decide) ?_
              exact h_iret (pc := 67) rfl (dk d_mHa_placeOf 42 rfl) h
            · refine g_bipush (pc := 53) (dk d_mHa_placeOf 31 rfl) (by decide) ?_
              refine g_iconst (pc := 55) (dk d_mHa_placeOf 32 rfl) (by decide) ?_
              refine g_iload_n (pc := 56) (j := 1) (dk d_mHa_placeOf 33 rfl) rfl ?_
              refine g_imul (pc := 57) (dk d_mHa_placeOf 34 rfl) ?_
              refine g_iadd (pc := 58) (dk d_mHa_placeOf 35 rfl) ?_
              refine g_iload_n (pc := 59) (j := 2) (dk d_mHa_placeOf 36 rfl) rfl ?_
              refine g_iadd (pc := 60) (dk d_mHa_placeOf 37 rfl) ?_
              refine g_iconst (pc := 61) (dk d_mHa_placeOf 38 rfl) (by decide) ?_
              refine g_isub (pc := 62) (dk d_mHa_placeOf 39 rfl) ?_
              refine g_goto (pc := 63) (tgt := 67) (dk d_mHa_placeOf 40 rfl) rfl ?_
              exact h_iret (pc := 67) rfl (dk d_mHa_placeOf 42 rfl) h
        · refine g_iload_n (pc := 21) (j := 1) (dk d_mHa_placeOf 12 rfl) rfl ?_
          refine g_aload_n (pc := 22) (j := 0) (dk d_mHa_placeOf 13 rfl) rfl (by decide) ?_
          refine g_getI (pc := 23) fp_Ha_24 po_1 (dk d_mHa_placeOf 14 rfl) ?_
          refine h_icmp_ge (pc := 26) (tgt := 37) (dk d_mHa_placeOf 15 rfl) rfl h (fun hc6 h => ?_) (fun hc6 h => ?_)
          · refine g_iconst (pc := 37) (dk d_mHa_placeOf 22 rfl) (by decide) ?_
            exact h_iret (pc := 38) rfl (dk d_mHa_placeOf 23 rfl) h
          · refine g_iconst (pc := 29) (dk d_mHa_placeOf 16 rfl) (by decide) ?_
            refine g_iload_n (pc := 30) (j := 1) (dk d_mHa_placeOf 17 rfl) rfl ?_
            refine g_imul (pc := 31) (dk d_mHa_placeOf 18 rfl) ?_
            refine g_iload_n (pc := 32) (j := 2) (dk d_mHa_placeOf 19 rfl) rfl ?_
            refine g_iadd (pc := 33) (dk d_mHa_placeOf 20 rfl) ?_
            refine g_goto (pc := 34) (tgt := 38) (dk d_mHa_placeOf 21 rfl) rfl ?_
            exact h_iret (pc := 38) rfl (dk d_mHa_placeOf 23 rfl) h
      · refine g_iconst (pc := 14) (dk d_mHa_placeOf 7 rfl) (by decide) ?_
        exact h_iret (pc := 15) rfl (dk d_mHa_placeOf 8 rfl) h
set_option maxRecDepth 100000 in
set_option maxHeartbeats 4000000 in
theorem kHa_placeOf (E : Nat × (Int → Int)) (d : Nat) {a1 : Int} {a2 : Int} {w w1 : WD} {r : Int} (h : fHa_placeOf a1 a2 w = some (r, w1)) : CTi E mHa_placeOf (d + 1) [pR 1, pI a1, pI a2] w RF NN r w1 RF NN := by
  exact CTi_of (by decide +kernel) (Nat.le_of_ble_eq_true rfl) (Or.inl rfl) (gHa_placeOf (res := (r, w1)) E d a1 a2 w h)
def fHa_set (a1 : Int) (a2 : Int) (w : WD) : Option WD := if a1 < 0 then (some w) else (if 51 ≤ a1 then (some w) else (ck (0 ≤ a1 ∧ a1 < 51) <| bw (up w 2 a1 a2) <| fun (u1 : WD) => some u1))
set_option maxRecDepth 100000 in
set_option maxHeartbeats 4000000 in
theorem gHa_set (E : Nat × (Int → Int)) (d : Nat) {res : WD} (a1 : Int) (a2 : Int) (w : WD) (h : fHa_set a1 a2 w = some res) : G E mHa_set (d + 1) 0 [(0, pR 1), (1, pI a1), (2, pI a2)] [] w RF NN 0 0 (none, res, RF, NN) := by
  unfold fHa_set at h
  refine g_iload_n (pc := 0) (j := 1) (dk d_mHa_set 0 rfl) rfl ?_
  refine h_if_lt (pc := 1) (tgt := 17) (dk d_mHa_set 1 rfl) rfl h (fun hc3 h => ?_) (fun hc3 h => ?_)
  · exact h_vret (pc := 17) (dk d_mHa_set 10 rfl) h
  · refine g_iload_n (pc := 4) (j := 1) (dk d_mHa_set 2 rfl) rfl ?_
    refine g_bipush (pc := 5) (dk d_mHa_set 3 rfl) (by decide) ?_
    refine h_icmp_ge (pc := 7) (tgt := 17) (dk d_mHa_set 4 rfl) rfl h (fun hc2 h => ?_) (fun hc2 h => ?_)
    · exact h_vret (pc := 17) (dk d_mHa_set 10 rfl) h
    · refine g_aload_n (pc := 10) (j := 0) (dk d_mHa_set 5 rfl) rfl (by decide) ?_
      refine g_getR (pc := 11) (a := 2) rfl fp_Ha_11 po_1 (dk d_mHa_set 6 rfl) ?_
      refine g_iload_n (pc := 14) (j := 1) (dk d_mHa_set 7 rfl) rfl ?_
      refine g_iload_n (pc := 15) (j := 2) (dk d_mHa_set 8 rfl) rfl ?_
      refine h_iast (pc := 16) (B := 51) pa_2 rfl (dk d_mHa_set 9 rfl) h (fun u1 h => ?_)
      exact h_vret (pc := 17) (dk d_mHa_set 10 rfl) h
set_option maxRecDepth 100000 in
set_option maxHeartbeats 4000000 in
theorem kHa_set (E : Nat × (Int → Int)) (d : Nat) {a1 : Int} {a2 : Int} {w w1 : WD} (h : fHa_set a1 a2 w = some w1) : CTv E mHa_set (d + 1) [pR 1, pI a1, pI a2] w RF NN w1 RF NN := by
  exact CTv_of (by decide +kernel) (Nat.le_of_ble_eq_true rfl) rfl (gHa_set (res := w1) E d a1 a2 w h)
def fHa_note (a1 : Int) (a2 : Int) (a3 : Int) (w : WD) : Option WD := ci (fHa_placeOf a1 a2 w) <| fun (r2 : Int) (u1 : WD) => cv (fHa_set r2 a3 u1) <| fun (u4 : WD) => some u4
set_option maxRecDepth 100000 in
set_option maxHeartbeats 4000000 in
theorem gHa_note (E : Nat × (Int → Int)) (d : Nat) {res : WD} (a1 : Int) (a2 : Int) (a3 : Int) (w : WD) (h : fHa_note a1 a2 a3 w = some res) : G E mHa_note (d + 2) 0 [(0, pR 1), (1, pI a1), (2, pI a2), (3, pI a3)] [] w RF NN 0 0 (none, res, RF, NN) := by
  unfold fHa_note at h
  refine g_aload_n (pc := 0) (j := 0) (dk d_mHa_note 0 rfl) rfl (by decide) ?_
  refine g_aload_n (pc := 1) (j := 0) (dk d_mHa_note 1 rfl) rfl (by decide) ?_
  refine g_iload_n (pc := 2) (j := 1) (dk d_mHa_note 2 rfl) rfl ?_
  refine g_iload_n (pc := 3) (j := 2) (dk d_mHa_note 3 rfl) rfl ?_
  refine h_callVi (d := d + 1) (pc := 4) (na := 2) (av := [pI a1, pI a2]) (k0 := 1) po_1 ⟨_, rfl⟩ ⟨rfl, rfl⟩ (dk d_mHa_note 4 rfl) lk_Ha_42 vm_mHa_placeOf rfl rfl (Nat.le_of_ble_eq_true rfl) h (fun r2 u1 hq => kHa_placeOf E (d + 0) hq) (fun r2 u1 hb3 h => ?_)
  refine g_iload_n (pc := 7) (j := 3) (dk d_mHa_note 5 rfl) rfl ?_
  refine h_callVv (d := d + 1) (pc := 8) (na := 2) (av := [pI r2, pI a3]) (k0 := 1) po_1 ⟨_, rfl⟩ ⟨rfl, rfl⟩ (dk d_mHa_note 6 rfl) lk_Ha_50 vm_mHa_set rfl rfl (Nat.le_of_ble_eq_true rfl) h (fun u4 hq => kHa_set E (d + 0) hq) (fun u4 h => ?_)
  exact h_vret (pc := 11) (dk d_mHa_note 7 rfl) h
set_option maxRecDepth 100000 in
set_option maxHeartbeats 4000000 in
theorem kHa_note (E : Nat × (Int → Int)) (d : Nat) {a1 : Int} {a2 : Int} {a3 : Int} {w w1 : WD} (h : fHa_note a1 a2 a3 w = some w1) : CTv E mHa_note (d + 2) [pR 1, pI a1, pI a2, pI a3] w RF NN w1 RF NN := by
  exact CTv_of (by decide +kernel) (Nat.le_of_ble_eq_true rfl) rfl (gHa_note (res := w1) E d a1 a2 a3 w h)
def fHa_arrive (a1 : Int) (a2 : Int) (a3 : Int) (w : WD) : Option (Int × WD) := ci (fHa_isValue a1 w) <| fun (r2 : Int) (u1 : WD) => if r2 = 0 then (some ((-1), u1)) else (ci (fHa_isValue a2 u1) <| fun (r5 : Int) (u4 : WD) => if r5 = 0 then (some ((-1), u4)) else (ci (fHa_isValue a3 u4) <| fun (r8 : Int) (u7 : WD) => if r8 ≠ 0 then (if (u7 1 4) < 6 then (bv (u7 1 4) <| fun (t10 : Int) => bw (up u7 1 4 (w32 (t10 + 1))) <| fun (u11 : WD) => cv (fHa_note t10 0 a1 u11) <| fun (u12 : WD) => cv (fHa_note t10 1 a2 u12) <| fun (u13 : WD) => cv (fHa_note t10 2 a3 u13) <| fun (u14 : WD) => cv (fHa_note t10 3 2 u14) <| fun (u15 : WD) => some (t10, u15)) else (some ((-3), u7))) else (some ((-1), u7))))
set_option maxRecDepth 100000 in
set_option maxHeartbeats 4000000 in
theorem gHa_arrive (E : Nat × (Int → Int)) (d : Nat) {res : Int × WD} (a1 : Int) (a2 : Int) (a3 : Int) (w : WD) (h : fHa_arrive a1 a2 a3 w = some res) : G E mHa_arrive (d + 3) 0 [(0, pR 1), (1, pI a1), (2, pI a2), (3, pI a3)] [] w RF NN 0 0 (some (pI res.1), res.2, RF, NN) := by
  unfold fHa_arrive at h
  refine g_iload_n (pc := 0) (j := 1) (dk d_mHa_arrive 0 rfl) rfl ?_
  refine h_callSi (d := d + 2) (pc := 1) (na := 1) (av := [pI a1]) ⟨rfl, rfl⟩ (dk d_mHa_arrive 1 rfl) lk_Ha_34 vm_mHa_isValue rfl rfl (Nat.le_of_ble_eq_true rfl) h (fun r2 u1 hq => kHa_isValue E (d + 1) hq) (fun r2 u1 hb3 h => ?_)
  refine h_if_eq (pc := 4) (tgt := 21) (dk d_mHa_arrive 2 rfl) rfl h (fun hc19 h => ?_) (fun hc19 h => ?_)
  · refine g_iconst (pc := 21) (dk d_mHa_arrive 9 rfl) (by decide) ?_
    exact h_iret (pc := 22) rfl (dk d_mHa_arrive 10 rfl) h
  · refine g_iload_n (pc := 7) (j := 2) (dk d_mHa_arrive 3 rfl) rfl ?_
    refine h_callSi (d := d + 2) (pc := 8) (na := 1) (av := [pI a2]) ⟨rfl, rfl⟩ (dk d_mHa_arrive 4 rfl) lk_Ha_34 vm_mHa_isValue rfl rfl (Nat.le_of_ble_eq_true rfl) h (fun r5 u4 hq => kHa_isValue E (d + 1) hq) (fun r5 u4 hb6 h => ?_)
    refine h_if_eq (pc := 11) (tgt := 21) (dk d_mHa_arrive 5 rfl) rfl h (fun hc18 h => ?_) (fun hc18 h => ?_)
    · refine g_iconst (pc := 21) (dk d_mHa_arrive 9 rfl) (by decide) ?_
      exact h_iret (pc := 22) rfl (dk d_mHa_arrive 10 rfl) h
    · refine g_iload_n (pc := 14) (j := 3) (dk d_mHa_arrive 6 rfl) rfl ?_
      refine h_callSi (d := d + 2) (pc := 15) (na := 1) (av := [pI a3]) ⟨rfl, rfl⟩ (dk d_mHa_arrive 7 rfl) lk_Ha_34 vm_mHa_isValue rfl rfl (Nat.le_of_ble_eq_true rfl) h (fun r8 u7 hq => kHa_isValue E (d + 1) hq) (fun r8 u7 hb9 h => ?_)
      refine h_if_ne (pc := 18) (tgt := 23) (dk d_mHa_arrive 8 rfl) rfl h (fun hc17 h => ?_) (fun hc17 h => ?_)
      · refine g_aload_n (pc := 23) (j := 0) (dk d_mHa_arrive 11 rfl) rfl (by decide) ?_
        refine g_getI (pc := 24) fp_Ha_24 po_1 (dk d_mHa_arrive 12 rfl) ?_
        refine g_bipush (pc := 27) (dk d_mHa_arrive 13 rfl) (by decide) ?_
        refine h_icmp_lt (pc := 29) (tgt := 35) (dk d_mHa_arrive 14 rfl) rfl h (fun hc16 h => ?_) (fun hc16 h => ?_)
        · refine g_aload_n (pc := 35) (j := 0) (dk d_mHa_arrive 17 rfl) rfl (by decide) ?_
          refine g_dup (pc := 36) (dk d_mHa_arrive 18 rfl) rfl ?_
          refine g_getI (pc := 37) fp_Ha_24 po_1 (dk d_mHa_arrive 19 rfl) ?_
          refine h_bvI h (fun t10 h => ?_)
          refine g_dup_x1 (pc := 40) (dk d_mHa_arrive 20 rfl) rfl rfl ?_
          refine g_iconst (pc := 41) (dk d_mHa_arrive 21 rfl) (by decide) ?_
          refine g_iadd (pc := 42) (dk d_mHa_arrive 22 rfl) ?_
          refine h_putI (pc := 43) fp_Ha_24 po_1 (dk d_mHa_arrive 23 rfl) h (fun u11 h => ?_)
          refine g_istore (pc := 46) (l' := [(4, pI t10), (0, pR 1), (1, pI a1), (2, pI a2), (3, pI a3)]) (dk d_mHa_arrive 24 rfl) (Nat.le_of_ble_eq_true rfl) rfl ?_
          refine g_aload_n (pc := 48) (j := 1) (dk d_mHa_arrive 25 rfl) rfl (by decide) ?_
          refine g_iload (pc := 49) (j := 0) (dk d_mHa_arrive 26 rfl) rfl ?_
          refine g_iconst (pc := 51) (dk d_mHa_arrive 27 rfl) (by decide) ?_
          refine g_iload_n (pc := 52) (j := 2) (dk d_mHa_arrive 28 rfl) rfl ?_
          refine h_callVv (d := d + 2) (pc := 53) (na := 3) (av := [pI t10, pI 0, pI a1]) (k0 := 1) po_1 ⟨_, rfl⟩ ⟨rfl, rfl⟩ (dk d_mHa_arrive 29 rfl) lk_Ha_38 vm_mHa_note rfl rfl (Nat.le_of_ble_eq_true rfl) h (fun u12 hq => kHa_note E (d + 0) hq) (fun u12 h => ?_)
          refine g_aload_n (pc := 56) (j := 1) (dk d_mHa_arrive 30 rfl) rfl (by decide) ?_
          refine g_iload (pc := 57) (j := 0) (dk d_mHa_arrive 31 rfl) rfl ?_
          refine g_iconst (pc := 59) (dk d_mHa_arrive 32 rfl) (by decide) ?_
          refine g_iload_n (pc := 60) (j := 3) (dk d_mHa_arrive 33 rfl) rfl ?_
          refine h_callVv (d := d + 2) (pc := 61) (na := 3) (av := [pI t10, pI 1, pI a2]) (k0 := 1) po_1 ⟨_, rfl⟩ ⟨rfl, rfl⟩ (dk d_mHa_arrive 34 rfl) lk_Ha_38 vm_mHa_note rfl rfl (Nat.le_of_ble_eq_true rfl) h (fun u13 hq => kHa_note E (d + 0) hq) (fun u13 h => ?_)
          refine g_aload_n (pc := 64) (j := 1) (dk d_mHa_arrive 35 rfl) rfl (by decide) ?_
          refine g_iload (pc := 65) (j := 0) (dk d_mHa_arrive 36 rfl) rfl ?_
          refine g_iconst (pc := 67) (dk d_mHa_arrive 37 rfl) (by decide) ?_
          refine g_iload_n (pc := 68) (j := 4) (dk d_mHa_arrive 38 rfl) rfl ?_
          refine h_callVv (d := d + 2) (pc := 69) (na := 3) (av := [pI t10, pI 2, pI a3]) (k0 := 1) po_1 ⟨_, rfl⟩ ⟨rfl, rfl⟩ (dk d_mHa_arrive 39 rfl) lk_Ha_38 vm_mHa_note rfl rfl (Nat.le_of_ble_eq_true rfl) h (fun u14 hq => kHa_note E (d + 0) hq) (fun u14 h => ?_)
          refine g_aload_n (pc := 72) (j := 1) (dk d_mHa_arrive 40 rfl) rfl (by decide) ?_
          refine g_iload (pc := 73) (j := 0) (dk d_mHa_arrive 41 rfl) rfl ?_
          refine g_iconst (pc := 75) (dk d_mHa_arrive 42 rfl) (by decide) ?_
          refine g_iconst (pc := 76) (dk d_mHa_arrive 43 rfl) (by decide) ?_
          refine h_callVv (d := d + 2) (pc := 77) (na := 3) (av := [pI t10, pI 3, pI 2]) (k0 := 1) po_1 ⟨_, rfl⟩ ⟨rfl, rfl⟩ (dk d_mHa_arrive 44 rfl) lk_Ha_38 vm_mHa_note rfl rfl (Nat.le_of_ble_eq_true rfl) h (fun u15 hq => kHa_note E (d + 0) hq) (fun u15 h => ?_)
          refine g_iload (pc := 80) (j := 0) (dk d_mHa_arrive 45 rfl) rfl ?_
          exact h_iret (pc := 82) rfl (dk d_mHa_arrive 46 rfl) h
        · refine g_bipush (pc := 32) (dk d_mHa_arrive 15 rfl) (by decide) ?_
          exact h_iret (pc := 34) rfl (dk d_mHa_arrive 16 rfl) h
      · refine g_iconst (pc := 21) (dk d_mHa_arrive 9 rfl) (by decide) ?_
        exact h_iret (pc := 22) rfl (dk d_mHa_arrive 10 rfl) h
set_option maxRecDepth 100000 in
set_option maxHeartbeats 4000000 in
theorem kHa_arrive (E : Nat × (Int → Int)) (d : Nat) {a1 : Int} {a2 : Int} {a3 : Int} {w w1 : WD} {r : Int} (h : fHa_arrive a1 a2 a3 w = some (r, w1)) : CTi E mHa_arrive (d + 3) [pR 1, pI a1, pI a2, pI a3] w RF NN r w1 RF NN := by
  exact CTi_of (by decide +kernel) (Nat.le_of_ble_eq_true rfl) (Or.inl rfl) (gHa_arrive (res := (r, w1)) E d a1 a2 a3 w h)
def fB_person (a1 : Int) (w : WD) : Option (Int × WD) := if 0 ≤ a1 then (ci (fHa_arrive (w32 (Int.tdiv a1 100)) (Int.tmod (w32 (Int.tdiv a1 10)) 10) (Int.tmod a1 10) w) <| fun (r2 : Int) (u1 : WD) => some (r2, u1)) else (some ((-1), w))
set_option maxRecDepth 100000 in
set_option maxHeartbeats 4000000 in
theorem gB_person (E : Nat × (Int → Int)) (d : Nat) {res : Int × WD} (a1 : Int) (w : WD) (h : fB_person a1 w = some res) : G E mB_person (d + 4) 0 [(0, pR 0), (1, pI a1)] [] w RF NN 0 0 (some (pI res.1), res.2, RF, NN) := by
  unfold fB_person at h
  refine g_iload_n (pc := 0) (j := 1) (dk d_mB_person 0 rfl) rfl ?_
  refine h_if_ge (pc := 1) (tgt := 6) (dk d_mB_person 1 rfl) rfl h (fun hc4 h => ?_) (fun hc4 h => ?_)
  · refine g_aload_n (pc := 6) (j := 0) (dk d_mB_person 4 rfl) rfl (by decide) ?_
    refine g_getR (pc := 7) (a := 1) rfl fp_B_10 po_0 (dk d_mB_person 5 rfl) ?_
    refine g_iload_n (pc := 10) (j := 1) (dk d_mB_person 6 rfl) rfl ?_
    refine g_bipush (pc := 11) (dk d_mB_person 7 rfl) (by decide) ?_
    refine g_idiv (pc := 13) (dk d_mB_person 8 rfl) (by decide) ?_
    refine g_iload_n (pc := 14) (j := 1) (dk d_mB_person 9 rfl) rfl ?_
    refine g_bipush (pc := 15) (dk d_mB_person 10 rfl) (by decide) ?_
    refine g_idiv (pc := 17) (dk d_mB_person 11 rfl) (by decide) ?_
    refine g_bipush (pc := 18) (dk d_mB_person 12 rfl) (by decide) ?_
    refine g_irem (pc := 20) (dk d_mB_person 13 rfl) (by decide) ?_
    refine g_iload_n (pc := 21) (j := 1) (dk d_mB_person 14 rfl) rfl ?_
    refine g_bipush (pc := 22) (dk d_mB_person 15 rfl) (by decide) ?_
    refine g_irem (pc := 24) (dk d_mB_person 16 rfl) (by decide) ?_
    refine h_callVi (d := d + 3) (pc := 25) (na := 3) (av := [pI (w32 (Int.tdiv a1 100)), pI (Int.tmod (w32 (Int.tdiv a1 10)) 10), pI (Int.tmod a1 10)]) (k0 := 1) po_1 ⟨_, rfl⟩ ⟨rfl, rfl⟩ (dk d_mB_person 17 rfl) lk_B_62 vm_mHa_arrive rfl rfl (Nat.le_of_ble_eq_true rfl) h (fun r2 u1 hq => kHa_arrive E (d + 0) hq) (fun r2 u1 hb3 h => ?_)
    exact h_iret (pc := 28) rfl (dk d_mB_person 18 rfl) h
  · refine g_iconst (pc := 4) (dk d_mB_person 2 rfl) (by decide) ?_
    exact h_iret (pc := 5) rfl (dk d_mB_person 3 rfl) h
set_option maxRecDepth 100000 in
set_option maxHeartbeats 4000000 in
theorem kB_person (E : Nat × (Int → Int)) (d : Nat) {a1 : Int} {w w1 : WD} {r : Int} (h : fB_person a1 w = some (r, w1)) : CTi E mB_person (d + 4) [pR 0, pI a1] w RF NN r w1 RF NN := by
  exact CTi_of (by decide +kernel) (Nat.le_of_ble_eq_true rfl) (Or.inl rfl) (gB_person (res := (r, w1)) E d a1 w h)
def fSh_has (o : Int) (a1 : Int) (w : WD) : Option (Int × WD) := if a1 < 0 then (some (0, w)) else (if (w (34 + 2 * o) 3) ≤ a1 then (some (0, w)) else (if 60 ≤ a1 then (some (0, w)) else (some (1, w))))
set_option maxRecDepth 100000 in
set_option maxHeartbeats 4000000 in
theorem gSh_has (E : Nat × (Int → Int)) (d : Nat) {res : Int × WD} (o : Int) (a1 : Int) (ho : 0 ≤ o ∧ o < 6) (w : WD) (h : fSh_has o a1 w = some res) : G E mSh_has (d + 1) 0 [(0, pR (34 + 2 * o)), (1, pI a1)] [] w RF NN 0 0 (some (pI res.1), res.2, RF, NN) := by
  unfold fSh_has at h
  refine g_iload_n (pc := 0) (j := 1) (dk d_mSh_has 0 rfl) rfl ?_
  refine h_if_lt (pc := 1) (tgt := 22) (dk d_mSh_has 1 rfl) rfl h (fun hc3 h => ?_) (fun hc3 h => ?_)
  · refine g_iconst (pc := 22) (dk d_mSh_has 11 rfl) (by decide) ?_
    exact h_zret (pc := 23) (Or.inl rfl) (dk d_mSh_has 12 rfl) h
  · refine g_iload_n (pc := 4) (j := 1) (dk d_mSh_has 2 rfl) rfl ?_
    refine g_aload_n (pc := 5) (j := 0) (dk d_mSh_has 3 rfl) rfl (by have := ho; omega) ?_
    refine g_getI (pc := 6) fp_Sh_20 (po_s ho) (dk d_mSh_has 4 rfl) ?_
    refine h_icmp_ge (pc := 9) (tgt := 22) (dk d_mSh_has 5 rfl) rfl h (fun hc2 h => ?_) (fun hc2 h => ?_)
    · refine g_iconst (pc := 22) (dk d_mSh_has 11 rfl) (by decide) ?_
      exact h_zret (pc := 23) (Or.inl rfl) (dk d_mSh_has 12 rfl) h
    · refine g_iload_n (pc := 12) (j := 1) (dk d_mSh_has 6 rfl) rfl ?_
      refine g_bipush (pc := 13) (dk d_mSh_has 7 rfl) (by decide) ?_
      refine h_icmp_ge (pc := 15) (tgt := 22) (dk d_mSh_has 8 rfl) rfl h (fun hc1 h => ?_) (fun hc1 h => ?_)
      · refine g_iconst (pc := 22) (dk d_mSh_has 11 rfl) (by decide) ?_
        exact h_zret (pc := 23) (Or.inl rfl) (dk d_mSh_has 12 rfl) h
      · refine g_iconst (pc := 18) (dk d_mSh_has 9 rfl) (by decide) ?_
        refine g_goto (pc := 19) (tgt := 23) (dk d_mSh_has 10 rfl) rfl ?_
        exact h_zret (pc := 23) (Or.inr rfl) (dk d_mSh_has 12 rfl) h
set_option maxRecDepth 100000 in
set_option maxHeartbeats 4000000 in
theorem kSh_has (E : Nat × (Int → Int)) (d : Nat) {o : Int} {a1 : Int} (ho : 0 ≤ o ∧ o < 6) {w w1 : WD} {r : Int} (h : fSh_has o a1 w = some (r, w1)) : CTi E mSh_has (d + 1) [pR (34 + 2 * o), pI a1] w RF NN r w1 RF NN := by
  exact CTi_of (by decide +kernel) (Nat.le_of_ble_eq_true rfl) (Or.inr rfl) (gSh_has (res := (r, w1)) E d o a1 ho w h)
def fSh_at (o : Int) (a1 : Int) (w : WD) : Option (Int × WD) := ci (fSh_has o a1 w) <| fun (r2 : Int) (u1 : WD) => if r2 = 0 then (some (0, u1)) else (ck (0 ≤ a1 ∧ a1 < 60) <| some ((u1 (35 + 2 * o) a1), u1))
set_option maxRecDepth 100000 in
set_option maxHeartbeats 4000000 in
theorem gSh_at (E : Nat × (Int → Int)) (d : Nat) {res : Int × WD} (o : Int) (a1 : Int) (ho : 0 ≤ o ∧ o < 6) (w : WD) (h : fSh_at o a1 w = some res) : G E mSh_at (d + 2) 0 [(0, pR (34 + 2 * o)), (1, pI a1)] [] w RF NN 0 0 (some (pL res.1), res.2, RF, NN) := by
  unfold fSh_at at h
  refine g_aload_n (pc := 0) (j := 0) (dk d_mSh_at 0 rfl) rfl (by have := ho; omega) ?_
  refine g_iload_n (pc := 1) (j := 1) (dk d_mSh_at 1 rfl) rfl ?_
  refine h_callVi (d := d + 1) (pc := 2) (na := 1) (av := [pI a1]) (k0 := (34 + 2 * o)) (po_s ho) ⟨_, rfl⟩ ⟨rfl, rfl⟩ (dk d_mSh_at 2 rfl) lk_Sh_32 vm_mSh_has rfl rfl (Nat.le_of_ble_eq_true rfl) h (fun r2 u1 hq => kSh_has E (d + 0) ho hq) (fun r2 u1 hb3 h => ?_)
  refine h_if_eq (pc := 5) (tgt := 17) (dk d_mSh_at 3 rfl) rfl h (fun hc4 h => ?_) (fun hc4 h => ?_)
  · refine g_lconst0 (pc := 17) (dk d_mSh_at 9 rfl) ?_
    exact h_lret (pc := 18) (dk d_mSh_at 10 rfl) h
  · refine g_aload_n (pc := 8) (j := 0) (dk d_mSh_at 4 rfl) rfl (by have := ho; omega) ?_
    refine g_getR (pc := 9) (a := (35 + 2 * o)) (rf_s ho) fp_Sh_9 (po_s ho) (dk d_mSh_at 5 rfl) ?_
    refine g_iload_n (pc := 12) (j := 1) (dk d_mSh_at 6 rfl) rfl ?_
    refine h_lald (pc := 13) (B := 60) (pa_s ho) rfl (dk d_mSh_at 7 rfl) h (fun h => ?_)
    refine g_goto (pc := 14) (tgt := 18) (dk d_mSh_at 8 rfl) rfl ?_
    exact h_lret (pc := 18) (dk d_mSh_at 10 rfl) h
set_option maxRecDepth 100000 in
set_option maxHeartbeats 4000000 in
theorem kSh_at (E : Nat × (Int → Int)) (d : Nat) {o : Int} {a1 : Int} (ho : 0 ≤ o ∧ o < 6) {w w1 : WD} {r : Int} (h : fSh_at o a1 w = some (r, w1)) : CTl E mSh_at (d + 2) [pR (34 + 2 * o), pI a1] w RF NN r w1 RF NN := by
  exact CTl_of (by decide +kernel) (Nat.le_of_ble_eq_true rfl) rfl (gSh_at (res := (r, w1)) E d o a1 ho w h)
def fSh_size (o : Int) (w : WD) : Option (Int × WD) := some ((w (34 + 2 * o) 3), w)
set_option maxRecDepth 100000 in
set_option maxHeartbeats 4000000 in
theorem gSh_size (E : Nat × (Int → Int)) (d : Nat) {res : Int × WD} (o : Int) (ho : 0 ≤ o ∧ o < 6) (w : WD) (h : fSh_size o w = some res) : G E mSh_size (d + 1) 0 [(0, pR (34 + 2 * o))] [] w RF NN 0 0 (some (pI res.1), res.2, RF, NN) := by
  unfold fSh_size at h
  refine g_aload_n (pc := 0) (j := 0) (dk d_mSh_size 0 rfl) rfl (by have := ho; omega) ?_
  refine g_getI (pc := 1) fp_Sh_20 (po_s ho) (dk d_mSh_size 1 rfl) ?_
  exact h_iret (pc := 4) rfl (dk d_mSh_size 2 rfl) h
set_option maxRecDepth 100000 in
set_option maxHeartbeats 4000000 in
theorem kSh_size (E : Nat × (Int → Int)) (d : Nat) {o : Int} (ho : 0 ≤ o ∧ o < 6) {w w1 : WD} {r : Int} (h : fSh_size o w = some (r, w1)) : CTi E mSh_size (d + 1) [pR (34 + 2 * o)] w RF NN r w1 RF NN := by
  exact CTi_of (by decide +kernel) (Nat.le_of_ble_eq_true rfl) (Or.inl rfl) (gSh_size (res := (r, w1)) E d o ho w h)
def fB_arriveFrom (a1 : Int) (a2 : Int) (w : WD) : Option (Int × WD) := if a2 < 0 then (some (0, w)) else (ci (fSh_size a1 w) <| fun (r2 : Int) (u1 : WD) => if (w64 (a2 + 3)) ≤ r2 then (bv (w32 a2) <| fun (v4_4 : Int) => ci (fSh_at a1 v4_4 u1) <| fun (r6 : Int) (u5 : WD) => ci (fSh_at a1 (w32 (v4_4 + 1)) u5) <| fun (r8 : Int) (u7 : WD) => ci (fSh_at a1 (w32 (v4_4 + 2)) u7) <| fun (r10 : Int) (u9 : WD) => ci (fHa_arrive (w32 r6) (w32 r8) (w32 r10) u9) <| fun (r12 : Int) (u11 : WD) => if r12 < 0 then (some (0, u11)) else (some (1, u11))) else (some (0, u1)))
set_option maxRecDepth 100000 in
set_option maxHeartbeats 4000000 in
theorem gB_arriveFrom (E : Nat × (Int → Int)) (d : Nat) {res : Int × WD} (a1 : Int) (a2 : Int) (ha1 : 0 ≤ a1 ∧ a1 < 6) (w : WD) (h : fB_arriveFrom a1 a2 w = some res) : G E mB_arriveFrom (d + 4) 0 [(0, pR 0), (1, pR (34 + 2 * a1)), (2, pL a2)] [] w RF NN 0 0 (some (pI res.1), res.2, RF, NN) := by
  unfold fB_arriveFrom at h
  refine g_lload_n (pc := 0) (j := 2) (dk d_mB_arriveFrom 0 rfl) rfl ?_
  refine g_lconst0 (pc := 1) (dk d_mB_arriveFrom 1 rfl) ?_
  refine h_lcmp_lt (pc := 2) (tgt := 20) (dk d_mB_arriveFrom 2 rfl) (dk d_mB_arriveFrom 3 rfl) rfl h (fun hc16 h => ?_) (fun hc16 h => ?_)
  · refine g_iconst (pc := 20) (dk d_mB_arriveFrom 12 rfl) (by decide) ?_
    exact h_zret (pc := 21) (Or.inl rfl) (dk d_mB_arriveFrom 13 rfl) h
  · refine g_lload_n (pc := 6) (j := 2) (dk d_mB_arriveFrom 4 rfl) rfl ?_
    refine g_ldc2 (pc := 7) (u := 3) ck_B_77 (by decide) (dk d_mB_arriveFrom 5 rfl) ?_
    refine g_ladd (pc := 10) (dk d_mB_arriveFrom 6 rfl) ?_
    refine g_aload_n (pc := 11) (j := 1) (dk d_mB_arriveFrom 7 rfl) rfl (by have := ha1; omega) ?_
    refine h_callVi (d := d + 3) (pc := 12) (na := 0) (av := []) (k0 := (34 + 2 * a1)) (po_s ha1) ⟨_, rfl⟩ ⟨rfl, rfl⟩ (dk d_mB_arriveFrom 8 rfl) lk_B_357 vm_mSh_size rfl rfl (Nat.le_of_ble_eq_true rfl) h (fun r2 u1 hq => kSh_size E (d + 2) ha1 hq) (fun r2 u1 hb3 h => ?_)
    refine g_i2l (pc := 15) (dk d_mB_arriveFrom 9 rfl) ?_
    refine h_lcmp_le (pc := 16) (tgt := 22) (dk d_mB_arriveFrom 10 rfl) (dk d_mB_arriveFrom 11 rfl) rfl h (fun hc15 h => ?_) (fun hc15 h => ?_)
    · refine g_lload_n (pc := 22) (j := 2) (dk d_mB_arriveFrom 14 rfl) rfl ?_
      refine g_l2i (pc := 23) (dk d_mB_arriveFrom 15 rfl) ?_
      refine h_bvI h (fun v4_4 h => ?_)
      refine g_istore (pc := 24) (l' := [(4, pI v4_4), (0, pR 0), (1, pR (34 + 2 * a1)), (2, pL a2)]) (dk d_mB_arriveFrom 16 rfl) (Nat.le_of_ble_eq_true rfl) rfl ?_
      refine g_aload_n (pc := 26) (j := 1) (dk d_mB_arriveFrom 17 rfl) rfl (by decide) ?_
      refine g_getR (pc := 27) (a := 1) rfl fp_B_10 po_0 (dk d_mB_arriveFrom 18 rfl) ?_
      refine g_aload_n (pc := 30) (j := 2) (dk d_mB_arriveFrom 19 rfl) rfl (by have := ha1; omega) ?_
      refine g_iload (pc := 31) (j := 0) (dk d_mB_arriveFrom 20 rfl) rfl ?_
      refine h_callVl (d := d + 3) (pc := 33) (na := 1) (av := [pI v4_4]) (k0 := (34 + 2 * a1)) (po_s ha1) ⟨_, rfl⟩ ⟨rfl, rfl⟩ (dk d_mB_arriveFrom 21 rfl) lk_B_236 vm_mSh_at rfl rfl (Nat.le_of_ble_eq_true rfl) h (fun r6 u5 hq => kSh_at E (d + 1) ha1 hq) (fun r6 u5 h => ?_)
      refine g_l2i (pc := 36) (dk d_mB_arriveFrom 22 rfl) ?_
      refine g_aload_n (pc := 37) (j := 2) (dk d_mB_arriveFrom 23 rfl) rfl (by have := ha1; omega) ?_
      refine g_iload (pc := 38) (j := 0) (dk d_mB_arriveFrom 24 rfl) rfl ?_
      refine g_iconst (pc := 40) (dk d_mB_arriveFrom 25 rfl) (by decide) ?_
      refine g_iadd (pc := 41) (dk d_mB_arriveFrom 26 rfl) ?_
      refine h_callVl (d := d + 3) (pc := 42) (na := 1) (av := [pI (w32 (v4_4 + 1))]) (k0 := (34 + 2 * a1)) (po_s ha1) ⟨_, rfl⟩ ⟨rfl, rfl⟩ (dk d_mB_arriveFrom 27 rfl) lk_B_236 vm_mSh_at rfl rfl (Nat.le_of_ble_eq_true rfl) h (fun r8 u7 hq => kSh_at E (d + 1) ha1 hq) (fun r8 u7 h => ?_)
      refine g_l2i (pc := 45) (dk d_mB_arriveFrom 28 rfl) ?_
      refine g_aload_n (pc := 46) (j := 2) (dk d_mB_arriveFrom 29 rfl) rfl (by have := ha1; omega) ?_
      refine g_iload (pc := 47) (j := 0) (dk d_mB_arriveFrom 30 rfl) rfl ?_
      refine g_iconst (pc := 49) (dk d_mB_arriveFrom 31 rfl) (by decide) ?_
      refine g_iadd (pc := 50) (dk d_mB_arriveFrom 32 rfl) ?_
      refine h_callVl (d := d + 3) (pc := 51) (na := 1) (av := [pI (w32 (v4_4 + 2))]) (k0 := (34 + 2 * a1)) (po_s ha1) ⟨_, rfl⟩ ⟨rfl, rfl⟩ (dk d_mB_arriveFrom 33 rfl) lk_B_236 vm_mSh_at rfl rfl (Nat.le_of_ble_eq_true rfl) h (fun r10 u9 hq => kSh_at E (d + 1) ha1 hq) (fun r10 u9 h => ?_)
      refine g_l2i (pc := 54) (dk d_mB_arriveFrom 34 rfl) ?_
      refine h_callVi (d := d + 3) (pc := 55) (na := 3) (av := [pI (w32 r6), pI (w32 r8), pI (w32 r10)]) (k0 := 1) po_1 ⟨_, rfl⟩ ⟨rfl, rfl⟩ (dk d_mB_arriveFrom 35 rfl) lk_B_62 vm_mHa_arrive rfl rfl (Nat.le_of_ble_eq_true rfl) h (fun r12 u11 hq => kHa_arrive E (d + 0) hq) (fun r12 u11 hb13 h => ?_)
      refine h_if_lt (pc := 58) (tgt := 65) (dk d_mB_arriveFrom 36 rfl) rfl h (fun hc14 h => ?_) (fun hc14 h => ?_)
      · refine g_iconst (pc := 65) (dk d_mB_arriveFrom 39 rfl) (by decide) ?_
        exact h_zret (pc := 66) (Or.inl rfl) (dk d_mB_arriveFrom 40 rfl) h
      · refine g_iconst (pc := 61) (dk d_mB_arriveFrom 37 rfl) (by decide) ?_
        refine g_goto (pc := 62) (tgt := 66) (dk d_mB_arriveFrom 38 rfl) rfl ?_
        exact h_zret (pc := 66) (Or.inr rfl) (dk d_mB_arriveFrom 40 rfl) h
    · refine g_iconst (pc := 20) (dk d_mB_arriveFrom 12 rfl) (by decide) ?_
      exact h_zret (pc := 21) (Or.inl rfl) (dk d_mB_arriveFrom 13 rfl) h
set_option maxRecDepth 100000 in
set_option maxHeartbeats 4000000 in
theorem kB_arriveFrom (E : Nat × (Int → Int)) (d : Nat) {a1 : Int} {a2 : Int} (ha1 : 0 ≤ a1 ∧ a1 < 6) {w w1 : WD} {r : Int} (h : fB_arriveFrom a1 a2 w = some (r, w1)) : CTi E mB_arriveFrom (d + 4) [pR 0, pR (34 + 2 * a1), pL a2] w RF NN r w1 RF NN := by
  exact CTi_of (by decide +kernel) (Nat.le_of_ble_eq_true rfl) (Or.inr rfl) (gB_arriveFrom (res := (r, w1)) E d a1 a2 ha1 w h)
def fB_isShelf (a0 : Int) (w : WD) : Option (Int × WD) := if a0 < 0 then (some (0, w)) else (if 6 ≤ a0 then (some (0, w)) else (some (1, w)))
set_option maxRecDepth 100000 in
set_option maxHeartbeats 4000000 in
theorem gB_isShelf (E : Nat × (Int → Int)) (d : Nat) {res : Int × WD} (a0 : Int) (w : WD) (h : fB_isShelf a0 w = some res) : G E mB_isShelf (d + 1) 0 [(0, pI a0)] [] w RF NN 0 0 (some (pI res.1), res.2, RF, NN) := by
  unfold fB_isShelf at h
  refine g_iload_n (pc := 0) (j := 0) (dk d_mB_isShelf 0 rfl) rfl ?_
  refine h_if_lt (pc := 1) (tgt := 14) (dk d_mB_isShelf 1 rfl) rfl h (fun hc2 h => ?_) (fun hc2 h => ?_)
  · refine g_iconst (pc := 14) (dk d_mB_isShelf 7 rfl) (by decide) ?_
    exact h_zret (pc := 15) (Or.inl rfl) (dk d_mB_isShelf 8 rfl) h
  · refine g_iload_n (pc := 4) (j := 0) (dk d_mB_isShelf 2 rfl) rfl ?_
    refine g_bipush (pc := 5) (dk d_mB_isShelf 3 rfl) (by decide) ?_
    refine h_icmp_ge (pc := 7) (tgt := 14) (dk d_mB_isShelf 4 rfl) rfl h (fun hc1 h => ?_) (fun hc1 h => ?_)
    · refine g_iconst (pc := 14) (dk d_mB_isShelf 7 rfl) (by decide) ?_
      exact h_zret (pc := 15) (Or.inl rfl) (dk d_mB_isShelf 8 rfl) h
    · refine g_iconst (pc := 10) (dk d_mB_isShelf 5 rfl) (by decide) ?_
      refine g_goto (pc := 11) (tgt := 15) (dk d_mB_isShelf 6 rfl) rfl ?_
      exact h_zret (pc := 15) (Or.inr rfl) (dk d_mB_isShelf 8 rfl) h
set_option maxRecDepth 100000 in
set_option maxHeartbeats 4000000 in
theorem kB_isShelf (E : Nat × (Int → Int)) (d : Nat) {a0 : Int} {w w1 : WD} {r : Int} (h : fB_isShelf a0 w = some (r, w1)) : CTi E mB_isShelf (d + 1) [pI a0] w RF NN r w1 RF NN := by
  exact CTi_of (by decide +kernel) (Nat.le_of_ble_eq_true rfl) (Or.inr rfl) (gB_isShelf (res := (r, w1)) E d a0 w h)
def fSh_holdsBytes (o : Int) (w : WD) : Option (Int × WD) := if (w (34 + 2 * o) 2) ≠ 0 then (some (0, w)) else (some (1, w))
set_option maxRecDepth 100000 in
set_option maxHeartbeats 4000000 in
theorem gSh_holdsBytes (E : Nat × (Int → Int)) (d : Nat) {res : Int × WD} (o : Int) (ho : 0 ≤ o ∧ o < 6) (w : WD) (h : fSh_holdsBytes o w = some res) : G E mSh_holdsBytes (d + 1) 0 [(0, pR (34 + 2 * o))] [] w RF NN 0 0 (some (pI res.1), res.2, RF, NN) := by
  unfold fSh_holdsBytes at h
  refine g_aload_n (pc := 0) (j := 0) (dk d_mSh_holdsBytes 0 rfl) rfl (by have := ho; omega) ?_
  refine g_getI (pc := 1) fp_Sh_17 (po_s ho) (dk d_mSh_holdsBytes 1 rfl) ?_
  refine h_if_ne (pc := 4) (tgt := 11) (dk d_mSh_holdsBytes 2 rfl) rfl h (fun hc1 h => ?_) (fun hc1 h => ?_)
  · refine g_iconst (pc := 11) (dk d_mSh_holdsBytes 5 rfl) (by decide) ?_
    exact h_zret (pc := 12) (Or.inl rfl) (dk d_mSh_holdsBytes 6 rfl) h
  · refine g_iconst (pc := 7) (dk d_mSh_holdsBytes 3 rfl) (by decide) ?_
    refine g_goto (pc := 8) (tgt := 12) (dk d_mSh_holdsBytes 4 rfl) rfl ?_
    exact h_zret (pc := 12) (Or.inr rfl) (dk d_mSh_holdsBytes 6 rfl) h
set_option maxRecDepth 100000 in
set_option maxHeartbeats 4000000 in
theorem kSh_holdsBytes (E : Nat × (Int → Int)) (d : Nat) {o : Int} (ho : 0 ≤ o ∧ o < 6) {w w1 : WD} {r : Int} (h : fSh_holdsBytes o w = some (r, w1)) : CTi E mSh_holdsBytes (d + 1) [pR (34 + 2 * o)] w RF NN r w1 RF NN := by
  exact CTi_of (by decide +kernel) (Nat.le_of_ble_eq_true rfl) (Or.inr rfl) (gSh_holdsBytes (res := (r, w1)) E d o ho w h)
def fSh_isEmpty (o : Int) (w : WD) : Option (Int × WD) := if (w (34 + 2 * o) 1) ≠ (-1) then (some (0, w)) else (if (w (34 + 2 * o) 2) ≠ (-1) then (some (0, w)) else (some (1, w)))
set_option maxRecDepth 100000 in
set_option maxHeartbeats 4000000 in
theorem gSh_isEmpty (E : Nat × (Int → Int)) (d : Nat) {res : Int × WD} (o : Int) (ho : 0 ≤ o ∧ o < 6) (w : WD) (h : fSh_isEmpty o w = some res) : G E mSh_isEmpty (d + 1) 0 [(0, pR (34 + 2 * o))] [] w RF NN 0 0 (some (pI res.1), res.2, RF, NN) := by
  unfold fSh_isEmpty at h
  refine g_aload_n (pc := 0) (j := 0) (dk d_mSh_isEmpty 0 rfl) rfl (by have := ho; omega) ?_
  refine g_getI (pc := 1) fp_Sh_13 (po_s ho) (dk d_mSh_isEmpty 1 rfl) ?_
  refine g_iconst (pc := 4) (dk d_mSh_isEmpty 2 rfl) (by decide) ?_
  refine h_icmp_ne (pc := 5) (tgt := 20) (dk d_mSh_isEmpty 3 rfl) rfl h (fun hc2 h => ?_) (fun hc2 h => ?_)
  · refine g_iconst (pc := 20) (dk d_mSh_isEmpty 10 rfl) (by decide) ?_
    exact h_zret (pc := 21) (Or.inl rfl) (dk d_mSh_isEmpty 11 rfl) h
  · refine g_aload_n (pc := 8) (j := 0) (dk d_mSh_isEmpty 4 rfl) rfl (by have := ho; omega) ?_
    refine g_getI (pc := 9) fp_Sh_17 (po_s ho) (dk d_mSh_isEmpty 5 rfl) ?_
    refine g_iconst (pc := 12) (dk d_mSh_isEmpty 6 rfl) (by decide) ?_
    refine h_icmp_ne (pc := 13) (tgt := 20) (dk d_mSh_isEmpty 7 rfl) rfl h (fun hc1 h => ?_) (fun hc1 h => ?_)
    · refine g_iconst (pc := 20) (dk d_mSh_isEmpty 10 rfl) (by decide) ?_
      exact h_zret (pc := 21) (Or.inl rfl) (dk d_mSh_isEmpty 11 rfl) h
    · refine g_iconst (pc := 16) (dk d_mSh_isEmpty 8 rfl) (by decide) ?_
      refine g_goto (pc := 17) (tgt := 21) (dk d_mSh_isEmpty 9 rfl) rfl ?_
      exact h_zret (pc := 21) (Or.inr rfl) (dk d_mSh_isEmpty 11 rfl) h
set_option maxRecDepth 100000 in
set_option maxHeartbeats 4000000 in
theorem kSh_isEmpty (E : Nat × (Int → Int)) (d : Nat) {o : Int} (ho : 0 ≤ o ∧ o < 6) {w w1 : WD} {r : Int} (h : fSh_isEmpty o w = some (r, w1)) : CTi E mSh_isEmpty (d + 1) [pR (34 + 2 * o)] w RF NN r w1 RF NN := by
  exact CTi_of (by decide +kernel) (Nat.le_of_ble_eq_true rfl) (Or.inr rfl) (gSh_isEmpty (res := (r, w1)) E d o ho w h)
def fB_people_l52_b (rec : Int → WD → Option (Int × WD)) (y2 : Int) (y3 : Int) (y4 : Int) (x5 : Int) (w : WD) : Option (Int × WD) := if y3 ≤ x5 then (some (x5, w)) else (ci (fB_arriveFrom y4 (w64 (y2 + (w64 (3 * x5)))) w) <| fun (r12 : Int) (u11 : WD) => if r12 = 0 then (some (x5, u11)) else (bv (w32 (x5 + 1)) <| fun (v5_14 : Int) => rec v5_14 u11))
def fB_people_l52 (y2 : Int) (y3 : Int) (y4 : Int) : Nat → Int → WD → Option (Int × WD)
  | 0 => fun _ _ => none
  | k + 1 => fB_people_l52_b ( fB_people_l52 y2 y3 y4 k) y2 y3 y4
set_option maxRecDepth 100000 in
set_option maxHeartbeats 4000000 in
theorem fB_people_l52_b_ok (E : Nat × (Int → Int)) (d : Nat) {res : Int × WD} {rec : Int → WD → Option (Int × WD)} (y2 : Int) (y3 : Int) (y4 : Int) (hy4 : 0 ≤ y4 ∧ y4 < 6) (hrec : ∀ (x5 : Int) (w : WD), rec x5 w = some res → G E mB_people (d + 5) 52 [(0, pR 0), (2, pI y2), (3, pI y3), (4, pR (34 + 2 * y4)), (5, pI x5)] [] w RF NN 0 0 (some (pI res.1), res.2, RF, NN)) (x5 : Int) (w : WD) (h : fB_people_l52_b rec y2 y3 y4 x5 w = some res) : G E mB_people (d + 5) 52 [(0, pR 0), (2, pI y2), (3, pI y3), (4, pR (34 + 2 * y4)), (5, pI x5)] [] w RF NN 0 0 (some (pI res.1), res.2, RF, NN) := by
  unfold fB_people_l52_b at h
  refine g_iload (pc := 52) (j := 4) (dk d_mB_people 28 rfl) rfl ?_
  refine g_iload_n (pc := 54) (j := 2) (dk d_mB_people 29 rfl) rfl ?_
  refine h_icmp_ge (pc := 55) (tgt := 83) (dk d_mB_people 30 rfl) rfl h (fun hc16 h => ?_) (fun hc16 h => ?_)
  · refine g_iload (pc := 83) (j := 4) (dk d_mB_people 44 rfl) rfl ?_
    exact h_iret (pc := 85) rfl (dk d_mB_people 45 rfl) h
  · refine g_aload_n (pc := 58) (j := 0) (dk d_mB_people 31 rfl) rfl (by decide) ?_
    refine g_aload (pc := 59) (j := 3) (dk d_mB_people 32 rfl) rfl (by have := hy4; omega) ?_
    refine g_iload_n (pc := 61) (j := 1) (dk d_mB_people 33 rfl) rfl ?_
    refine g_i2l (pc := 62) (dk d_mB_people 34 rfl) ?_
    refine g_ldc2 (pc := 63) (u := 3) ck_B_77 (by decide) (dk d_mB_people 35 rfl) ?_
    refine g_iload (pc := 66) (j := 4) (dk d_mB_people 36 rfl) rfl ?_
    refine g_i2l (pc := 68) (dk d_mB_people 37 rfl) ?_
    refine g_lmul (pc := 69) (dk d_mB_people 38 rfl) ?_
    refine g_ladd (pc := 70) (dk d_mB_people 39 rfl) ?_
    refine h_callVi (d := d + 4) (pc := 71) (na := 2) (av := [pR (34 + 2 * y4), pL (w64 (y2 + (w64 (3 * x5))))]) (k0 := 0) po_0 ⟨_, rfl⟩ ⟨rfl, rfl⟩ (dk d_mB_people 40 rfl) lk_B_79 vm_mB_arriveFrom rfl rfl (Nat.le_of_ble_eq_true rfl) h (fun r12 u11 hq => kB_arriveFrom E (d + 0) hy4 hq) (fun r12 u11 hb13 h => ?_)
    refine h_if_eq (pc := 74) (tgt := 83) (dk d_mB_people 41 rfl) rfl h (fun hc15 h => ?_) (fun hc15 h => ?_)
    · refine g_iload (pc := 83) (j := 4) (dk d_mB_people 44 rfl) rfl ?_
      exact h_iret (pc := 85) rfl (dk d_mB_people 45 rfl) h
    · refine h_iinc (pc := 77) (j := 4) (dk d_mB_people 42 rfl) rfl (by decide) (Nat.le_of_ble_eq_true rfl) h (fun v5_14 h => ?_)
      refine g_loc (l' := [(5, pI v5_14), (0, pR 0), (2, pI y2), (3, pI y3), (4, pR (34 + 2 * y4))]) rfl ?_
      refine g_goto (pc := 80) (tgt := 52) (dk d_mB_people 43 rfl) rfl ?_
      refine g_pick [1, 2, 3, 4, 0] rfl (l' := [(0, pR 0), (2, pI y2), (3, pI y3), (4, pR (34 + 2 * y4)), (5, pI v5_14)]) rfl ?_
      exact hrec _ _ h
set_option maxRecDepth 100000 in
set_option maxHeartbeats 4000000 in
theorem fB_people_l52_ok (E : Nat × (Int → Int)) (d : Nat) {res : Int × WD} (y2 : Int) (y3 : Int) (y4 : Int) (hy4 : 0 ≤ y4 ∧ y4 < 6) : ∀ (k : Nat) (x5 : Int) (w : WD), fB_people_l52 y2 y3 y4 k x5 w = some res → G E mB_people (d + 5) 52 [(0, pR 0), (2, pI y2), (3, pI y3), (4, pR (34 + 2 * y4)), (5, pI x5)] [] w RF NN 0 0 (some (pI res.1), res.2, RF, NN) := by
  intro k
  induction k with
  | zero =>
    intro x5 w h
    exact no_e h
  | succ k ih =>
    intro x5 w h
    exact fB_people_l52_b_ok E d y2 y3 y4 hy4 ih x5 w h
def fB_people (a1 : Int) (a2 : Int) (a3 : Int) (w : WD) : Option (Int × WD) := ci (fB_isShelf a1 w) <| fun (r2 : Int) (u1 : WD) => if r2 = 0 then (some ((-1), u1)) else (if a3 < 1 then (some ((-1), u1)) else (if a3 ≤ 6 then (ck (0 ≤ a1 ∧ a1 < 6) <| ci (fSh_isEmpty a1 u1) <| fun (r6 : Int) (u5 : WD) => if r6 = 0 then (ci (fSh_holdsBytes a1 u5) <| fun (r9 : Int) (u8 : WD) => if r9 ≠ 0 then (fB_people_l52 a2 a3 a1 FU 0 u8) else (some ((-12), u8))) else (some (0, u5))) else (some ((-1), u1))))
set_option maxRecDepth 100000 in
set_option maxHeartbeats 4000000 in
theorem gB_people (E : Nat × (Int → Int)) (d : Nat) {res : Int × WD} (a1 : Int) (a2 : Int) (a3 : Int) (w : WD) (h : fB_people a1 a2 a3 w = some res) : G E mB_people (d + 5) 0 [(0, pR 0), (1, pI a1), (2, pI a2), (3, pI a3)] [] w RF NN 0 0 (some (pI res.1), res.2, RF, NN) := by
  unfold fB_people at h
  refine g_iload_n (pc := 0) (j := 1) (dk d_mB_people 0 rfl) rfl ?_
  refine h_callSi (d := d + 4) (pc := 1) (na := 1) (av := [pI a1]) ⟨rfl, rfl⟩ (dk d_mB_people 1 rfl) lk_B_66 vm_mB_isShelf rfl rfl (Nat.le_of_ble_eq_true rfl) h (fun r2 u1 hq => kB_isShelf E (d + 3) hq) (fun r2 u1 hb3 h => ?_)
  refine h_if_eq (pc := 4) (tgt := 18) (dk d_mB_people 2 rfl) rfl h (fun hc21 h => ?_) (fun hc21 h => ?_)
  · refine g_iconst (pc := 18) (dk d_mB_people 9 rfl) (by decide) ?_
    exact h_iret (pc := 19) rfl (dk d_mB_people 10 rfl) h
  · refine g_iload_n (pc := 7) (j := 3) (dk d_mB_people 3 rfl) rfl ?_
    refine g_iconst (pc := 8) (dk d_mB_people 4 rfl) (by decide) ?_
    refine h_icmp_lt (pc := 9) (tgt := 18) (dk d_mB_people 5 rfl) rfl h (fun hc20 h => ?_) (fun hc20 h => ?_)
    · refine g_iconst (pc := 18) (dk d_mB_people 9 rfl) (by decide) ?_
      exact h_iret (pc := 19) rfl (dk d_mB_people 10 rfl) h
    · refine g_iload_n (pc := 12) (j := 3) (dk d_mB_people 6 rfl) rfl ?_
      refine g_bipush (pc := 13) (dk d_mB_people 7 rfl) (by decide) ?_
      refine h_icmp_le (pc := 15) (tgt := 20) (dk d_mB_people 8 rfl) rfl h (fun hc19 h => ?_) (fun hc19 h => ?_)
      · refine g_aload_n (pc := 20) (j := 0) (dk d_mB_people 11 rfl) rfl (by decide) ?_
        refine g_getR (pc := 21) (a := 33) rfl fp_B_57 po_0 (dk d_mB_people 12 rfl) ?_
        refine g_iload_n (pc := 24) (j := 1) (dk d_mB_people 13 rfl) rfl ?_
        refine h_aald (pc := 25) (dk d_mB_people 14 rfl) h (fun hi4 h => ?_)
        refine g_astore (pc := 26) (l' := [(4, pR (34 + 2 * a1)), (0, pR 0), (1, pI a1), (2, pI a2), (3, pI a3)]) (dk d_mB_people 15 rfl) (Nat.le_of_ble_eq_true rfl) (by have := hi4; omega) rfl ?_
        refine g_aload (pc := 28) (j := 0) (dk d_mB_people 16 rfl) rfl (by have := hi4; omega) ?_
        refine h_callVi (d := d + 4) (pc := 30) (na := 0) (av := []) (k0 := (34 + 2 * a1)) (po_s hi4) ⟨_, rfl⟩ ⟨rfl, rfl⟩ (dk d_mB_people 17 rfl) lk_B_70 vm_mSh_isEmpty rfl rfl (Nat.le_of_ble_eq_true rfl) h (fun r6 u5 hq => kSh_isEmpty E (d + 3) hi4 hq) (fun r6 u5 hb7 h => ?_)
        refine h_if_eq (pc := 33) (tgt := 38) (dk d_mB_people 18 rfl) rfl h (fun hc18 h => ?_) (fun hc18 h => ?_)
        · refine g_aload (pc := 38) (j := 0) (dk d_mB_people 21 rfl) rfl (by have := hi4; omega) ?_
          refine h_callVi (d := d + 4) (pc := 40) (na := 0) (av := []) (k0 := (34 + 2 * a1)) (po_s hi4) ⟨_, rfl⟩ ⟨rfl, rfl⟩ (dk d_mB_people 22 rfl) lk_B_74 vm_mSh_holdsBytes rfl rfl (Nat.le_of_ble_eq_true rfl) h (fun r9 u8 hq => kSh_holdsBytes E (d + 3) hi4 hq) (fun r9 u8 hb10 h => ?_)
          refine h_if_ne (pc := 43) (tgt := 49) (dk d_mB_people 23 rfl) rfl h (fun hc17 h => ?_) (fun hc17 h => ?_)
          · refine g_iconst (pc := 49) (dk d_mB_people 26 rfl) (by decide) ?_
            refine g_istore (pc := 50) (l' := [(5, pI 0), (4, pR (34 + 2 * a1)), (0, pR 0), (1, pI a1), (2, pI a2), (3, pI a3)]) (dk d_mB_people 27 rfl) (Nat.le_of_ble_eq_true rfl) rfl ?_
            refine g_pick [2, 4, 5, 1, 0] rfl (l' := [(0, pR 0), (2, pI a2), (3, pI a3), (4, pR (34 + 2 * a1)), (5, pI 0)]) rfl ?_
            refine fB_people_l52_ok E d a2 a3 a1 hi4 FU _  _ h
          · refine g_bipush (pc := 46) (dk d_mB_people 24 rfl) (by decide) ?_
            exact h_iret (pc := 48) rfl (dk d_mB_people 25 rfl) h
        · refine g_iconst (pc := 36) (dk d_mB_people 19 rfl) (by decide) ?_
          exact h_iret (pc := 37) rfl (dk d_mB_people 20 rfl) h
      · refine g_iconst (pc := 18) (dk d_mB_people 9 rfl) (by decide) ?_
        exact h_iret (pc := 19) rfl (dk d_mB_people 10 rfl) h
set_option maxRecDepth 100000 in
set_option maxHeartbeats 4000000 in
theorem kB_people (E : Nat × (Int → Int)) (d : Nat) {a1 : Int} {a2 : Int} {a3 : Int} {w w1 : WD} {r : Int} (h : fB_people a1 a2 a3 w = some (r, w1)) : CTi E mB_people (d + 5) [pR 0, pI a1, pI a2, pI a3] w RF NN r w1 RF NN := by
  exact CTi_of (by decide +kernel) (Nat.le_of_ble_eq_true rfl) (Or.inl rfl) (gB_people (res := (r, w1)) E d a1 a2 a3 w h)
def fHa_addMask_l25_b (rec : Int → WD → Option (Int × WD)) (y1 : Int) (K0 : WD → Option (Int × WD)) (x2 : Int) (w : WD) : Option (Int × WD) := if 3 ≤ x2 then (K0 w) else (cv (fHa_note y1 (w32 (4 + x2)) (-1) w) <| fun (u3 : WD) => bv (w32 (x2 + 1)) <| fun (v2_4 : Int) => rec v2_4 u3)
def fHa_addMask_l25 (y1 : Int) (K0 : WD → Option (Int × WD)) : Nat → Int → WD → Option (Int × WD)
  | 0 => fun _ _ => none
  | k + 1 => fHa_addMask_l25_b ( fHa_addMask_l25 y1 K0 k) y1 K0
set_option maxRecDepth 100000 in
set_option maxHeartbeats 4000000 in
theorem fHa_addMask_l25_b_ok (E : Nat × (Int → Int)) (d : Nat) {res : Int × WD} {rec : Int → WD → Option (Int × WD)} (y1 : Int) (K0 : WD → Option (Int × WD)) (hrec : ∀ (x2 : Int) (w : WD), rec x2 w = some res → G E mHa_addMask (d + 3) 25 [(0, pR 1), (1, pI y1), (2, pI x2)] [] w RF NN 0 0 (some (pI res.1), res.2, RF, NN)) (hK0 : ∀ (w : WD), K0 w = some res → G E mHa_addMask (d + 3) 45 [(0, pR 1), (1, pI y1)] [] w RF NN 0 0 (some (pI res.1), res.2, RF, NN)) (x2 : Int) (w : WD) (h : fHa_addMask_l25_b rec y1 K0 x2 w = some res) : G E mHa_addMask (d + 3) 25 [(0, pR 1), (1, pI y1), (2, pI x2)] [] w RF NN 0 0 (some (pI res.1), res.2, RF, NN) := by
  unfold fHa_addMask_l25_b at h
  refine g_iload_n (pc := 25) (j := 2) (dk d_mHa_addMask 16 rfl) rfl ?_
  refine g_iconst (pc := 26) (dk d_mHa_addMask 17 rfl) (by decide) ?_
  refine h_icmp_ge (pc := 27) (tgt := 45) (dk d_mHa_addMask 18 rfl) rfl h (fun hc5 h => ?_) (fun hc5 h => ?_)
  · refine g_pick [0, 1] rfl (l' := [(0, pR 1), (1, pI y1)]) rfl ?_
    exact hK0 _ h
  · refine g_aload_n (pc := 30) (j := 0) (dk d_mHa_addMask 19 rfl) rfl (by decide) ?_
    refine g_iload_n (pc := 31) (j := 1) (dk d_mHa_addMask 20 rfl) rfl ?_
    refine g_iconst (pc := 32) (dk d_mHa_addMask 21 rfl) (by decide) ?_
    refine g_iload_n (pc := 33) (j := 2) (dk d_mHa_addMask 22 rfl) rfl ?_
    refine g_iadd (pc := 34) (dk d_mHa_addMask 23 rfl) ?_
    refine g_iconst (pc := 35) (dk d_mHa_addMask 24 rfl) (by decide) ?_
    refine h_callVv (d := d + 2) (pc := 36) (na := 3) (av := [pI y1, pI (w32 (4 + x2)), pI (-1)]) (k0 := 1) po_1 ⟨_, rfl⟩ ⟨rfl, rfl⟩ (dk d_mHa_addMask 25 rfl) lk_Ha_38 vm_mHa_note rfl rfl (Nat.le_of_ble_eq_true rfl) h (fun u3 hq => kHa_note E (d + 0) hq) (fun u3 h => ?_)
    refine h_iinc (pc := 39) (j := 2) (dk d_mHa_addMask 26 rfl) rfl (by decide) (Nat.le_of_ble_eq_true rfl) h (fun v2_4 h => ?_)
    refine g_loc (l' := [(2, pI v2_4), (0, pR 1), (1, pI y1)]) rfl ?_
    refine g_goto (pc := 42) (tgt := 25) (dk d_mHa_addMask 27 rfl) rfl ?_
    refine g_pick [1, 2, 0] rfl (l' := [(0, pR 1), (1, pI y1), (2, pI v2_4)]) rfl ?_
    exact hrec _ _ h
set_option maxRecDepth 100000 in
set_option maxHeartbeats 4000000 in
theorem fHa_addMask_l25_ok (E : Nat × (Int → Int)) (d : Nat) {res : Int × WD} (y1 : Int) (K0 : WD → Option (Int × WD)) (hK0 : ∀ (w : WD), K0 w = some res → G E mHa_addMask (d + 3) 45 [(0, pR 1), (1, pI y1)] [] w RF NN 0 0 (some (pI res.1), res.2, RF, NN)) : ∀ (k : Nat) (x2 : Int) (w : WD), fHa_addMask_l25 y1 K0 k x2 w = some res → G E mHa_addMask (d + 3) 25 [(0, pR 1), (1, pI y1), (2, pI x2)] [] w RF NN 0 0 (some (pI res.1), res.2, RF, NN) := by
  intro k
  induction k with
  | zero =>
    intro x2 w h
    exact no_e h
  | succ k ih =>
    intro x2 w h
    exact fHa_addMask_l25_b_ok E d y1 K0 ih hK0 x2 w h
def fHa_addMask (w : WD) : Option (Int × WD) := if (w 1 5) < 5 then (bv (w 1 5) <| fun (t1 : Int) => bw (up w 1 5 (w32 (t1 + 1))) <| fun (u2 : WD) => fHa_addMask_l25 t1 (fun (u6 : WD) => cv (fHa_note t1 7 127 u6) <| fun (u7 : WD) => some (t1, u7)) FU 0 u2) else (some ((-3), w))
set_option maxRecDepth 100000 in
set_option maxHeartbeats 4000000 in
theorem gHa_addMask (E : Nat × (Int → Int)) (d : Nat) {res : Int × WD} (w : WD) (h : fHa_addMask w = some res) : G E mHa_addMask (d + 3) 0 [(0, pR 1)] [] w RF NN 0 0 (some (pI res.1), res.2, RF, NN) := by
  unfold fHa_addMask at h
  refine g_aload_n (pc := 0) (j := 0) (dk d_mHa_addMask 0 rfl) rfl (by decide) ?_
  refine g_getI (pc := 1) fp_Ha_28 po_1 (dk d_mHa_addMask 1 rfl) ?_
  refine g_iconst (pc := 4) (dk d_mHa_addMask 2 rfl) (by decide) ?_
  refine h_icmp_lt (pc := 5) (tgt := 11) (dk d_mHa_addMask 3 rfl) rfl h (fun hc8 h => ?_) (fun hc8 h => ?_)
  · refine g_aload_n (pc := 11) (j := 0) (dk d_mHa_addMask 6 rfl) rfl (by decide) ?_
    refine g_dup (pc := 12) (dk d_mHa_addMask 7 rfl) rfl ?_
    refine g_getI (pc := 13) fp_Ha_28 po_1 (dk d_mHa_addMask 8 rfl) ?_
    refine h_bvI h (fun t1 h => ?_)
    refine g_dup_x1 (pc := 16) (dk d_mHa_addMask 9 rfl) rfl rfl ?_
    refine g_iconst (pc := 17) (dk d_mHa_addMask 10 rfl) (by decide) ?_
    refine g_iadd (pc := 18) (dk d_mHa_addMask 11 rfl) ?_
    refine h_putI (pc := 19) fp_Ha_28 po_1 (dk d_mHa_addMask 12 rfl) h (fun u2 h => ?_)
    refine g_istore_n (pc := 22) (l' := [(1, pI t1), (0, pR 1)]) (dk d_mHa_addMask 13 rfl) (Nat.le_of_ble_eq_true rfl) rfl ?_
    refine g_iconst (pc := 23) (dk d_mHa_addMask 14 rfl) (by decide) ?_
    refine g_istore_n (pc := 24) (l' := [(2, pI 0), (1, pI t1), (0, pR 1)]) (dk d_mHa_addMask 15 rfl) (Nat.le_of_ble_eq_true rfl) rfl ?_
    refine g_pick [2, 1, 0] rfl (l' := [(0, pR 1), (1, pI t1), (2, pI 0)]) rfl ?_
    refine fHa_addMask_l25_ok E d t1 _  (fun u6 h => ?_) FU _  _ h
    · refine g_aload_n (pc := 45) (j := 0) (dk d_mHa_addMask 28 rfl) rfl (by decide) ?_
      refine g_iload_n (pc := 46) (j := 1) (dk d_mHa_addMask 29 rfl) rfl ?_
      refine g_bipush (pc := 47) (dk d_mHa_addMask 30 rfl) (by decide) ?_
      refine g_bipush (pc := 49) (dk d_mHa_addMask 31 rfl) (by decide) ?_
      refine h_callVv (d := d + 2) (pc := 51) (na := 3) (av := [pI t1, pI 7, pI 127]) (k0 := 1) po_1 ⟨_, rfl⟩ ⟨rfl, rfl⟩ (dk d_mHa_addMask 32 rfl) lk_Ha_38 vm_mHa_note rfl rfl (Nat.le_of_ble_eq_true rfl) h (fun u7 hq => kHa_note E (d + 0) hq) (fun u7 h => ?_)
      refine g_iload_n (pc := 54) (j := 1) (dk d_mHa_addMask 33 rfl) rfl ?_
      exact h_iret (pc := 55) rfl (dk d_mHa_addMask 34 rfl) h
  · refine g_bipush (pc := 8) (dk d_mHa_addMask 4 rfl) (by decide) ?_
    exact h_iret (pc := 10) rfl (dk d_mHa_addMask 5 rfl) h
set_option maxRecDepth 100000 in
set_option maxHeartbeats 4000000 in
theorem kHa_addMask (E : Nat × (Int → Int)) (d : Nat) {w w1 : WD} {r : Int} (h : fHa_addMask w = some (r, w1)) : CTi E mHa_addMask (d + 3) [pR 1] w RF NN r w1 RF NN := by
  exact CTi_of (by decide +kernel) (Nat.le_of_ble_eq_true rfl) (Or.inl rfl) (gHa_addMask (res := (r, w1)) E d w h)
def fB_mask (w : WD) : Option (Int × WD) := ci (fHa_addMask w) <| fun (r2 : Int) (u1 : WD) => some (r2, u1)
set_option maxRecDepth 100000 in
set_option maxHeartbeats 4000000 in
theorem gB_mask (E : Nat × (Int → Int)) (d : Nat) {res : Int × WD} (w : WD) (h : fB_mask w = some res) : G E mB_mask (d + 4) 0 [(0, pR 0)] [] w RF NN 0 0 (some (pI res.1), res.2, RF, NN) := by
  unfold fB_mask at h
  refine g_aload_n (pc := 0) (j := 0) (dk d_mB_mask 0 rfl) rfl (by decide) ?_
  refine g_getR (pc := 1) (a := 1) rfl fp_B_10 po_0 (dk d_mB_mask 1 rfl) ?_
  refine h_callVi (d := d + 3) (pc := 4) (na := 0) (av := []) (k0 := 1) po_1 ⟨_, rfl⟩ ⟨rfl, rfl⟩ (dk d_mB_mask 2 rfl) lk_B_83 vm_mHa_addMask rfl rfl (Nat.le_of_ble_eq_true rfl) h (fun r2 u1 hq => kHa_addMask E (d + 0) hq) (fun r2 u1 hb3 h => ?_)
  exact h_iret (pc := 7) rfl (dk d_mB_mask 3 rfl) h
set_option maxRecDepth 100000 in
set_option maxHeartbeats 4000000 in
theorem kB_mask (E : Nat × (Int → Int)) (d : Nat) {w w1 : WD} {r : Int} (h : fB_mask w = some (r, w1)) : CTi E mB_mask (d + 4) [pR 0] w RF NN r w1 RF NN := by
  exact CTi_of (by decide +kernel) (Nat.le_of_ble_eq_true rfl) (Or.inl rfl) (gB_mask (res := (r, w1)) E d w h)
def fHa_get (a1 : Int) (w : WD) : Option (Int × WD) := if a1 < 0 then (some (0, w)) else (if 51 ≤ a1 then (some (0, w)) else (ck (0 ≤ a1 ∧ a1 < 51) <| some ((w 2 a1), w)))
set_option maxRecDepth 100000 in
set_option maxHeartbeats 4000000 in
theorem gHa_get (E : Nat × (Int → Int)) (d : Nat) {res : Int × WD} (a1 : Int) (w : WD) (h : fHa_get a1 w = some res) : G E mHa_get (d + 1) 0 [(0, pR 1), (1, pI a1)] [] w RF NN 0 0 (some (pI res.1), res.2, RF, NN) := by
  unfold fHa_get at h
  refine g_iload_n (pc := 0) (j := 1) (dk d_mHa_get 0 rfl) rfl ?_
  refine h_if_lt (pc := 1) (tgt := 19) (dk d_mHa_get 1 rfl) rfl h (fun hc2 h => ?_) (fun hc2 h => ?_)
  · refine g_iconst (pc := 19) (dk d_mHa_get 10 rfl) (by decide) ?_
    exact h_iret (pc := 20) rfl (dk d_mHa_get 11 rfl) h
  · refine g_iload_n (pc := 4) (j := 1) (dk d_mHa_get 2 rfl) rfl ?_
    refine g_bipush (pc := 5) (dk d_mHa_get 3 rfl) (by decide) ?_
    refine h_icmp_ge (pc := 7) (tgt := 19) (dk d_mHa_get 4 rfl) rfl h (fun hc1 h => ?_) (fun hc1 h => ?_)
    · refine g_iconst (pc := 19) (dk d_mHa_get 10 rfl) (by decide) ?_
      exact h_iret (pc := 20) rfl (dk d_mHa_get 11 rfl) h
    · refine g_aload_n (pc := 10) (j := 0) (dk d_mHa_get 5 rfl) rfl (by decide) ?_
      refine g_getR (pc := 11) (a := 2) rfl fp_Ha_11 po_1 (dk d_mHa_get 6 rfl) ?_
      refine g_iload_n (pc := 14) (j := 1) (dk d_mHa_get 7 rfl) rfl ?_
      refine h_iald (pc := 15) (B := 51) pa_2 rfl (dk d_mHa_get 8 rfl) h (fun h => ?_)
      refine g_goto (pc := 16) (tgt := 20) (dk d_mHa_get 9 rfl) rfl ?_
      exact h_iret (pc := 20) rfl (dk d_mHa_get 11 rfl) h
set_option maxRecDepth 100000 in
set_option maxHeartbeats 4000000 in
theorem kHa_get (E : Nat × (Int → Int)) (d : Nat) {a1 : Int} {w w1 : WD} {r : Int} (h : fHa_get a1 w = some (r, w1)) : CTi E mHa_get (d + 1) [pR 1, pI a1] w RF NN r w1 RF NN := by
  exact CTi_of (by decide +kernel) (Nat.le_of_ble_eq_true rfl) (Or.inl rfl) (gHa_get (res := (r, w1)) E d a1 w h)
def fHa_forgetFirst (a0 : Int) (w : WD) : Option WD := ck ((0 : Int) ≤ 1 ∧ (0 : Int) ≤ 0 ∧ (0 : Int) ≤ 39 ∧ (1 + 39 : Int) ≤ 40 ∧ (0 + 39 : Int) ≤ 40) <| bw (cp w a0 1 a0 0 39) <| fun (u1 : WD) => some u1
set_option maxRecDepth 100000 in
set_option maxHeartbeats 4000000 in
theorem gHa_forgetFirst (E : Nat × (Int → Int)) (d : Nat) {res : WD} (a0 : Int) (ha0 : a0 = 3 ∨ a0 = 4 ∨ a0 = 5) (w : WD) (h : fHa_forgetFirst a0 w = some res) : G E mHa_forgetFirst (d + 1) 0 [(0, pR a0)] [] w RF NN 0 0 (none, res, RF, NN) := by
  unfold fHa_forgetFirst at h
  refine g_aload_n (pc := 0) (j := 0) (dk d_mHa_forgetFirst 0 rfl) rfl (by have := ha0; omega) ?_
  refine g_iconst (pc := 1) (dk d_mHa_forgetFirst 1 rfl) (by decide) ?_
  refine g_aload_n (pc := 2) (j := 0) (dk d_mHa_forgetFirst 2 rfl) rfl (by have := ha0; omega) ?_
  refine g_iconst (pc := 3) (dk d_mHa_forgetFirst 3 rfl) (by decide) ?_
  refine g_bipush (pc := 4) (dk d_mHa_forgetFirst 4 rfl) (by decide) ?_
  refine h_copyI (pc := 6) (B0 := 40) (B1 := 40) ac_Ha_71 (pa_A ha0) (pa_A ha0) rfl rfl (dk d_mHa_forgetFirst 5 rfl) (Nat.le_of_ble_eq_true rfl) (by omega) h (fun u1 h => ?_)
  exact h_vret (pc := 9) (dk d_mHa_forgetFirst 6 rfl) h
set_option maxRecDepth 100000 in
set_option maxHeartbeats 4000000 in
theorem kHa_forgetFirst (E : Nat × (Int → Int)) (d : Nat) {a0 : Int} (ha0 : a0 = 3 ∨ a0 = 4 ∨ a0 = 5) {w w1 : WD} (h : fHa_forgetFirst a0 w = some w1) : CTv E mHa_forgetFirst (d + 1) [pR a0] w RF NN w1 RF NN := by
  exact CTv_of (by decide +kernel) (Nat.le_of_ble_eq_true rfl) rfl (gHa_forgetFirst (res := w1) E d a0 ha0 w h)
def fHa_keepChange (a1 : Int) (a2 : Int) (a3 : Int) (w : WD) : Option WD := bw (up w 1 7 0) <| fun (u1 : WD) => jn (β := WD → Option WD) (fun (u2 : WD) => if (u2 1 6) < 0 then (some u2) else (if 40 ≤ (u2 1 6) then (some u2) else (ck (0 ≤ (u2 1 6) ∧ (u2 1 6) < 40) <| bw (up u2 3 (u2 1 6) a1) <| fun (u3 : WD) => ck (0 ≤ (u3 1 6) ∧ (u3 1 6) < 40) <| bw (up u3 4 (u3 1 6) a2) <| fun (u4 : WD) => ck (0 ≤ (u4 1 6) ∧ (u4 1 6) < 40) <| bw (up u4 5 (u4 1 6) a3) <| fun (u5 : WD) => bw (up u5 1 6 (w32 ((u5 1 6) + 1))) <| fun (u6 : WD) => some u6))) <| fun J9 => if (u1 1 6) < 40 then (J9 u1) else (cv (fHa_forgetFirst 3 u1) <| fun (u10 : WD) => cv (fHa_forgetFirst 4 u10) <| fun (u11 : WD) => cv (fHa_forgetFirst 5 u11) <| fun (u12 : WD) => bw (up u12 1 6 39) <| fun (u13 : WD) => J9 u13)
set_option maxRecDepth 100000 in
set_option maxHeartbeats 4000000 in
theorem gHa_keepChange (E : Nat × (Int → Int)) (d : Nat) {res : WD} (a1 : Int) (a2 : Int) (a3 : Int) (w : WD) (h : fHa_keepChange a1 a2 a3 w = some res) : G E mHa_keepChange (d + 2) 0 [(0, pR 1), (1, pI a1), (2, pI a2), (3, pI a3)] [] w RF NN 0 0 (none, res, RF, NN) := by
  unfold fHa_keepChange at h
  refine g_aload_n (pc := 0) (j := 0) (dk d_mHa_keepChange 0 rfl) rfl (by decide) ?_
  refine g_iconst (pc := 1) (dk d_mHa_keepChange 1 rfl) (by decide) ?_
  refine h_putI (pc := 2) fp_Ha_64 po_1 (dk d_mHa_keepChange 2 rfl) h (fun u1 h => ?_)
  refine g_aload_n (pc := 5) (j := 0) (dk d_mHa_keepChange 3 rfl) rfl (by decide) ?_
  refine g_getI (pc := 6) fp_Ha_31 po_1 (dk d_mHa_keepChange 4 rfl) ?_
  refine g_bipush (pc := 9) (dk d_mHa_keepChange 5 rfl) (by decide) ?_
  refine jn_e (fun J => ∀ (u2 : WD), J u2 = some res → G E mHa_keepChange (d + 2) 41 [(0, pR 1), (1, pI a1), (2, pI a2), (3, pI a3)] [] u2 RF NN 0 0 (none, res, RF, NN)) h (fun u2 h => ?_) (fun J9 hJ9 h => ?_)
  · refine g_aload_n (pc := 41) (j := 0) (dk d_mHa_keepChange 19 rfl) rfl (by decide) ?_
    refine g_getI (pc := 42) fp_Ha_31 po_1 (dk d_mHa_keepChange 20 rfl) ?_
    refine h_if_lt (pc := 45) (tgt := 97) (dk d_mHa_keepChange 21 rfl) rfl h (fun hc8 h => ?_) (fun hc8 h => ?_)
    · exact h_vret (pc := 97) (dk d_mHa_keepChange 50 rfl) h
    · refine g_aload_n (pc := 48) (j := 0) (dk d_mHa_keepChange 22 rfl) rfl (by decide) ?_
      refine g_getI (pc := 49) fp_Ha_31 po_1 (dk d_mHa_keepChange 23 rfl) ?_
      refine g_bipush (pc := 52) (dk d_mHa_keepChange 24 rfl) (by decide) ?_
      refine h_icmp_ge (pc := 54) (tgt := 97) (dk d_mHa_keepChange 25 rfl) rfl h (fun hc7 h => ?_) (fun hc7 h => ?_)
      · exact h_vret (pc := 97) (dk d_mHa_keepChange 50 rfl) h
      · refine g_aload_n (pc := 57) (j := 0) (dk d_mHa_keepChange 26 rfl) rfl (by decide) ?_
        refine g_getR (pc := 58) (a := 3) rfl fp_Ha_15 po_1 (dk d_mHa_keepChange 27 rfl) ?_
        refine g_aload_n (pc := 61) (j := 0) (dk d_mHa_keepChange 28 rfl) rfl (by decide) ?_
        refine g_getI (pc := 62) fp_Ha_31 po_1 (dk d_mHa_keepChange 29 rfl) ?_
        refine g_iload_n (pc := 65) (j := 1) (dk d_mHa_keepChange 30 rfl) rfl ?_
        refine h_iast (pc := 66) (B := 40) pa_3 rfl (dk d_mHa_keepChange 31 rfl) h (fun u3 h => ?_)
        refine g_aload_n (pc := 67) (j := 0) (dk d_mHa_keepChange 32 rfl) rfl (by decide) ?_
        refine g_getR (pc := 68) (a := 4) rfl fp_Ha_18 po_1 (dk d_mHa_keepChange 33 rfl) ?_
        refine g_aload_n (pc := 71) (j := 0) (dk d_mHa_keepChange 34 rfl) rfl (by decide) ?_
        refine g_getI (pc := 72) fp_Ha_31 po_1 (dk d_mHa_keepChange 35 rfl) ?_
        refine g_iload_n (pc := 75) (j := 2) (dk d_mHa_keepChange 36 rfl) rfl ?_
        refine h_iast (pc := 76) (B := 40) pa_4 rfl (dk d_mHa_keepChange 37 rfl) h (fun u4 h => ?_)
        refine g_aload_n (pc := 77) (j := 0) (dk d_mHa_keepChange 38 rfl) rfl (by decide) ?_
        refine g_getR (pc := 78) (a := 5) rfl fp_Ha_21 po_1 (dk d_mHa_keepChange 39 rfl) ?_
        refine g_aload_n (pc := 81) (j := 0) (dk d_mHa_keepChange 40 rfl) rfl (by decide) ?_
        refine g_getI (pc := 82) fp_Ha_31 po_1 (dk d_mHa_keepChange 41 rfl) ?_
        refine g_iload_n (pc := 85) (j := 3) (dk d_mHa_keepChange 42 rfl) rfl ?_
        refine h_iast (pc := 86) (B := 40) pa_5 rfl (dk d_mHa_keepChange 43 rfl) h (fun u5 h => ?_)
        refine g_aload_n (pc := 87) (j := 0) (dk d_mHa_keepChange 44 rfl) rfl (by decide) ?_
        refine g_dup (pc := 88) (dk d_mHa_keepChange 45 rfl) rfl ?_
        refine g_getI (pc := 89) fp_Ha_31 po_1 (dk d_mHa_keepChange 46 rfl) ?_
        refine g_iconst (pc := 92) (dk d_mHa_keepChange 47 rfl) (by decide) ?_
        refine g_iadd (pc := 93) (dk d_mHa_keepChange 48 rfl) ?_
        refine h_putI (pc := 94) fp_Ha_31 po_1 (dk d_mHa_keepChange 49 rfl) h (fun u6 h => ?_)
        exact h_vret (pc := 97) (dk d_mHa_keepChange 50 rfl) h
  · refine h_icmp_lt (pc := 11) (tgt := 41) (dk d_mHa_keepChange 6 rfl) rfl h (fun hc14 h => ?_) (fun hc14 h => ?_)
    · exact hJ9 _ h
    · refine g_aload_n (pc := 14) (j := 0) (dk d_mHa_keepChange 7 rfl) rfl (by decide) ?_
      refine g_getR (pc := 15) (a := 3) rfl fp_Ha_15 po_1 (dk d_mHa_keepChange 8 rfl) ?_
      refine h_callSv (d := d + 1) (pc := 18) (na := 1) (av := [pR 3]) ⟨rfl, rfl⟩ (dk d_mHa_keepChange 9 rfl) lk_Ha_67 vm_mHa_forgetFirst rfl rfl (Nat.le_of_ble_eq_true rfl) h (fun u10 hq => kHa_forgetFirst E (d + 0) (Or.inl rfl) hq) (fun u10 h => ?_)
      refine g_aload_n (pc := 21) (j := 0) (dk d_mHa_keepChange 10 rfl) rfl (by decide) ?_
      refine g_getR (pc := 22) (a := 4) rfl fp_Ha_18 po_1 (dk d_mHa_keepChange 11 rfl) ?_
      refine h_callSv (d := d + 1) (pc := 25) (na := 1) (av := [pR 4]) ⟨rfl, rfl⟩ (dk d_mHa_keepChange 12 rfl) lk_Ha_67 vm_mHa_forgetFirst rfl rfl (Nat.le_of_ble_eq_true rfl) h (fun u11 hq => kHa_forgetFirst E (d + 0) (Or.inr (Or.inl rfl)) hq) (fun u11 h => ?_)
      refine g_aload_n (pc := 28) (j := 0) (dk d_mHa_keepChange 13 rfl) rfl (by decide) ?_
      refine g_getR (pc := 29) (a := 5) rfl fp_Ha_21 po_1 (dk d_mHa_keepChange 14 rfl) ?_
      refine h_callSv (d := d + 1) (pc := 32) (na := 1) (av := [pR 5]) ⟨rfl, rfl⟩ (dk d_mHa_keepChange 15 rfl) lk_Ha_67 vm_mHa_forgetFirst rfl rfl (Nat.le_of_ble_eq_true rfl) h (fun u12 hq => kHa_forgetFirst E (d + 0) (Or.inr (Or.inr rfl)) hq) (fun u12 h => ?_)
      refine g_aload_n (pc := 35) (j := 0) (dk d_mHa_keepChange 16 rfl) rfl (by decide) ?_
      refine g_bipush (pc := 36) (dk d_mHa_keepChange 17 rfl) (by decide) ?_
      refine h_putI (pc := 38) fp_Ha_31 po_1 (dk d_mHa_keepChange 18 rfl) h (fun u13 h => ?_)
      exact hJ9 _ h
set_option maxRecDepth 100000 in
set_option maxHeartbeats 4000000 in
theorem kHa_keepChange (E : Nat × (Int → Int)) (d : Nat) {a1 : Int} {a2 : Int} {a3 : Int} {w w1 : WD} (h : fHa_keepChange a1 a2 a3 w = some w1) : CTv E mHa_keepChange (d + 2) [pR 1, pI a1, pI a2, pI a3] w RF NN w1 RF NN := by
  exact CTv_of (by decide +kernel) (Nat.le_of_ble_eq_true rfl) rfl (gHa_keepChange (res := w1) E d a1 a2 a3 w h)
def fHa_alter (a1 : Int) (a2 : Int) (a3 : Int) (w : WD) : Option (Int × WD) := ci (fHa_placeOf a1 a2 w) <| fun (r2 : Int) (u1 : WD) => if r2 < 0 then (some ((-2000000000), u1)) else (if 13 ≤ a2 then (some ((-2000000000), u1)) else (ck (0 ≤ a2 ∧ a2 < 13) <| if a3 < (roC 2 a2) then (some ((-2000000000), u1)) else (ck (0 ≤ a2 ∧ a2 < 13) <| if a3 ≤ (roC 3 a2) then (ci (fHa_get r2 u1) <| fun (r5 : Int) (u4 : WD) => if r5 = a3 then (some (r5, u4)) else (cv (fHa_keepChange r2 r5 a3 u4) <| fun (u7 : WD) => cv (fHa_set r2 a3 u7) <| fun (u8 : WD) => some (r5, u8))) else (some ((-2000000000), u1)))))
set_option maxRecDepth 100000 in
set_option maxHeartbeats 4000000 in
theorem gHa_alter (E : Nat × (Int → Int)) (d : Nat) {res : Int × WD} (a1 : Int) (a2 : Int) (a3 : Int) (w : WD) (h : fHa_alter a1 a2 a3 w = some res) : G E mHa_alter (d + 3) 0 [(0, pR 1), (1, pI a1), (2, pI a2), (3, pI a3)] [] w RF NN 0 0 (some (pI res.1), res.2, RF, NN) := by
  unfold fHa_alter at h
  refine g_aload_n (pc := 0) (j := 0) (dk d_mHa_alter 0 rfl) rfl (by decide) ?_
  refine g_iload_n (pc := 1) (j := 1) (dk d_mHa_alter 1 rfl) rfl ?_
  refine g_iload_n (pc := 2) (j := 2) (dk d_mHa_alter 2 rfl) rfl ?_
  refine h_callVi (d := d + 2) (pc := 3) (na := 2) (av := [pI a1, pI a2]) (k0 := 1) po_1 ⟨_, rfl⟩ ⟨rfl, rfl⟩ (dk d_mHa_alter 3 rfl) lk_Ha_42 vm_mHa_placeOf rfl rfl (Nat.le_of_ble_eq_true rfl) h (fun r2 u1 hq => kHa_placeOf E (d + 1) hq) (fun r2 u1 hb3 h => ?_)
  refine g_istore (pc := 6) (l' := [(4, pI r2), (0, pR 1), (1, pI a1), (2, pI a2), (3, pI a3)]) (dk d_mHa_alter 4 rfl) (Nat.le_of_ble_eq_true rfl) rfl ?_
  refine g_iload (pc := 8) (j := 0) (dk d_mHa_alter 5 rfl) rfl ?_
  refine h_if_lt (pc := 10) (tgt := 39) (dk d_mHa_alter 6 rfl) rfl h (fun hc13 h => ?_) (fun hc13 h => ?_)
  · refine g_ldc (pc := 39) (u := (-2000000000)) ck_Ha_60 (by decide) (dk d_mHa_alter 21 rfl) ?_
    exact h_iret (pc := 41) rfl (dk d_mHa_alter 22 rfl) h
  · refine g_iload_n (pc := 13) (j := 3) (dk d_mHa_alter 7 rfl) rfl ?_
    refine g_gets (pc := 14) (q := 2) (a := (-2)) (by decide) rfl fs_Ha_54 (dk d_mHa_alter 8 rfl) ?_
    refine h_rolen (pc := 17) (q := 2) (B := 13) (by decide) rfl rfl (dk d_mHa_alter 9 rfl) ?_
    refine h_icmp_ge (pc := 18) (tgt := 39) (dk d_mHa_alter 10 rfl) rfl h (fun hc12 h => ?_) (fun hc12 h => ?_)
    · refine g_ldc (pc := 39) (u := (-2000000000)) ck_Ha_60 (by decide) (dk d_mHa_alter 21 rfl) ?_
      exact h_iret (pc := 41) rfl (dk d_mHa_alter 22 rfl) h
    · refine g_iload_n (pc := 21) (j := 4) (dk d_mHa_alter 11 rfl) rfl ?_
      refine g_gets (pc := 22) (q := 2) (a := (-2)) (by decide) rfl fs_Ha_54 (dk d_mHa_alter 12 rfl) ?_
      refine g_iload_n (pc := 25) (j := 3) (dk d_mHa_alter 13 rfl) rfl ?_
      refine h_roald (pc := 26) (q := 2) (B := 13) (by decide) rfl rfl (dk d_mHa_alter 14 rfl) h (fun h => ?_)
      refine h_icmp_lt (pc := 27) (tgt := 39) (dk d_mHa_alter 15 rfl) rfl h (fun hc11 h => ?_) (fun hc11 h => ?_)
      · refine g_ldc (pc := 39) (u := (-2000000000)) ck_Ha_60 (by decide) (dk d_mHa_alter 21 rfl) ?_
        exact h_iret (pc := 41) rfl (dk d_mHa_alter 22 rfl) h
      · refine g_iload_n (pc := 30) (j := 4) (dk d_mHa_alter 16 rfl) rfl ?_
        refine g_gets (pc := 31) (q := 3) (a := (-3)) (by decide) rfl fs_Ha_57 (dk d_mHa_alter 17 rfl) ?_
        refine g_iload_n (pc := 34) (j := 3) (dk d_mHa_alter 18 rfl) rfl ?_
        refine h_roald (pc := 35) (q := 3) (B := 13) (by decide) rfl rfl (dk d_mHa_alter 19 rfl) h (fun h => ?_)
        refine h_icmp_le (pc := 36) (tgt := 42) (dk d_mHa_alter 20 rfl) rfl h (fun hc10 h => ?_) (fun hc10 h => ?_)
        · refine g_aload_n (pc := 42) (j := 1) (dk d_mHa_alter 23 rfl) rfl (by decide) ?_
          refine g_iload (pc := 43) (j := 0) (dk d_mHa_alter 24 rfl) rfl ?_
          refine h_callVi (d := d + 2) (pc := 45) (na := 1) (av := [pI r2]) (k0 := 1) po_1 ⟨_, rfl⟩ ⟨rfl, rfl⟩ (dk d_mHa_alter 25 rfl) lk_Ha_46 vm_mHa_get rfl rfl (Nat.le_of_ble_eq_true rfl) h (fun r5 u4 hq => kHa_get E (d + 1) hq) (fun r5 u4 hb6 h => ?_)
          refine g_istore (pc := 48) (l' := [(5, pI r5), (4, pI r2), (0, pR 1), (1, pI a1), (2, pI a2), (3, pI a3)]) (dk d_mHa_alter 26 rfl) (Nat.le_of_ble_eq_true rfl) rfl ?_
          refine g_iload (pc := 50) (j := 0) (dk d_mHa_alter 27 rfl) rfl ?_
          refine g_iload_n (pc := 52) (j := 5) (dk d_mHa_alter 28 rfl) rfl ?_
          refine h_icmp_eq (pc := 53) (tgt := 72) (dk d_mHa_alter 29 rfl) rfl h (fun hc9 h => ?_) (fun hc9 h => ?_)
          · refine g_iload (pc := 72) (j := 0) (dk d_mHa_alter 39 rfl) rfl ?_
            exact h_iret (pc := 74) rfl (dk d_mHa_alter 40 rfl) h
          · refine g_aload_n (pc := 56) (j := 2) (dk d_mHa_alter 30 rfl) rfl (by decide) ?_
            refine g_iload (pc := 57) (j := 1) (dk d_mHa_alter 31 rfl) rfl ?_
            refine g_iload (pc := 59) (j := 0) (dk d_mHa_alter 32 rfl) rfl ?_
            refine g_iload_n (pc := 61) (j := 5) (dk d_mHa_alter 33 rfl) rfl ?_
            refine h_callVv (d := d + 2) (pc := 62) (na := 3) (av := [pI r2, pI r5, pI a3]) (k0 := 1) po_1 ⟨_, rfl⟩ ⟨rfl, rfl⟩ (dk d_mHa_alter 34 rfl) lk_Ha_61 vm_mHa_keepChange rfl rfl (Nat.le_of_ble_eq_true rfl) h (fun u7 hq => kHa_keepChange E (d + 0) hq) (fun u7 h => ?_)
            refine g_aload_n (pc := 65) (j := 2) (dk d_mHa_alter 35 rfl) rfl (by decide) ?_
            refine g_iload (pc := 66) (j := 1) (dk d_mHa_alter 36 rfl) rfl ?_
            refine g_iload_n (pc := 68) (j := 5) (dk d_mHa_alter 37 rfl) rfl ?_
            refine h_callVv (d := d + 2) (pc := 69) (na := 2) (av := [pI r2, pI a3]) (k0 := 1) po_1 ⟨_, rfl⟩ ⟨rfl, rfl⟩ (dk d_mHa_alter 38 rfl) lk_Ha_50 vm_mHa_set rfl rfl (Nat.le_of_ble_eq_true rfl) h (fun u8 hq => kHa_set E (d + 1) hq) (fun u8 h => ?_)
            refine g_iload (pc := 72) (j := 0) (dk d_mHa_alter 39 rfl) rfl ?_
            exact h_iret (pc := 74) rfl (dk d_mHa_alter 40 rfl) h
        · refine g_ldc (pc := 39) (u := (-2000000000)) ck_Ha_60 (by decide) (dk d_mHa_alter 21 rfl) ?_
          exact h_iret (pc := 41) rfl (dk d_mHa_alter 22 rfl) h
set_option maxRecDepth 100000 in
set_option maxHeartbeats 4000000 in
theorem kHa_alter (E : Nat × (Int → Int)) (d : Nat) {a1 : Int} {a2 : Int} {a3 : Int} {w w1 : WD} {r : Int} (h : fHa_alter a1 a2 a3 w = some (r, w1)) : CTi E mHa_alter (d + 3) [pR 1, pI a1, pI a2, pI a3] w RF NN r w1 RF NN := by
  exact CTi_of (by decide +kernel) (Nat.le_of_ble_eq_true rfl) (Or.inl rfl) (gHa_alter (res := (r, w1)) E d a1 a2 a3 w h)
def fB_mend (a1 : Int) (a2 : Int) (a3 : Int) (w : WD) : Option (Int × WD) := ci (fHa_alter a1 a2 a3 w) <| fun (r2 : Int) (u1 : WD) => some (r2, u1)
set_option maxRecDepth 100000 in
set_option maxHeartbeats 4000000 in
theorem gB_mend (E : Nat × (Int → Int)) (d : Nat) {res : Int × WD} (a1 : Int) (a2 : Int) (a3 : Int) (w : WD) (h : fB_mend a1 a2 a3 w = some res) : G E mB_mend (d + 4) 0 [(0, pR 0), (1, pI a1), (2, pI a2), (3, pI a3)] [] w RF NN 0 0 (some (pI res.1), res.2, RF, NN) := by
  unfold fB_mend at h
  refine g_aload_n (pc := 0) (j := 0) (dk d_mB_mend 0 rfl) rfl (by decide) ?_
  refine g_getR (pc := 1) (a := 1) rfl fp_B_10 po_0 (dk d_mB_mend 1 rfl) ?_
  refine g_iload_n (pc := 4) (j := 1) (dk d_mB_mend 2 rfl) rfl ?_
  refine g_iload_n (pc := 5) (j := 2) (dk d_mB_mend 3 rfl) rfl ?_
  refine g_iload_n (pc := 6) (j := 3) (dk d_mB_mend 4 rfl) rfl ?_
  refine h_callVi (d := d + 3) (pc := 7) (na := 3) (av := [pI a1, pI a2, pI a3]) (k0 := 1) po_1 ⟨_, rfl⟩ ⟨rfl, rfl⟩ (dk d_mB_mend 5 rfl) lk_B_87 vm_mHa_alter rfl rfl (Nat.le_of_ble_eq_true rfl) h (fun r2 u1 hq => kHa_alter E (d + 0) hq) (fun r2 u1 hb3 h => ?_)
  exact h_iret (pc := 10) rfl (dk d_mB_mend 6 rfl) h
set_option maxRecDepth 100000 in
set_option maxHeartbeats 4000000 in
theorem kB_mend (E : Nat × (Int → Int)) (d : Nat) {a1 : Int} {a2 : Int} {a3 : Int} {w w1 : WD} {r : Int} (h : fB_mend a1 a2 a3 w = some (r, w1)) : CTi E mB_mend (d + 4) [pR 0, pI a1, pI a2, pI a3] w RF NN r w1 RF NN := by
  exact CTi_of (by decide +kernel) (Nat.le_of_ble_eq_true rfl) (Or.inl rfl) (gB_mend (res := (r, w1)) E d a1 a2 a3 w h)
def fHa_at (a1 : Int) (a2 : Int) (w : WD) : Option (Int × WD) := ci (fHa_placeOf a1 a2 w) <| fun (r2 : Int) (u1 : WD) => ci (fHa_get r2 u1) <| fun (r5 : Int) (u4 : WD) => some (r5, u4)
set_option maxRecDepth 100000 in
set_option maxHeartbeats 4000000 in
theorem gHa_at (E : Nat × (Int → Int)) (d : Nat) {res : Int × WD} (a1 : Int) (a2 : Int) (w : WD) (h : fHa_at a1 a2 w = some res) : G E mHa_at (d + 2) 0 [(0, pR 1), (1, pI a1), (2, pI a2)] [] w RF NN 0 0 (some (pI res.1), res.2, RF, NN) := by
  unfold fHa_at at h
  refine g_aload_n (pc := 0) (j := 0) (dk d_mHa_at 0 rfl) rfl (by decide) ?_
  refine g_aload_n (pc := 1) (j := 0) (dk d_mHa_at 1 rfl) rfl (by decide) ?_
  refine g_iload_n (pc := 2) (j := 1) (dk d_mHa_at 2 rfl) rfl ?_
  refine g_iload_n (pc := 3) (j := 2) (dk d_mHa_at 3 rfl) rfl ?_
  refine h_callVi (d := d + 1) (pc := 4) (na := 2) (av := [pI a1, pI a2]) (k0 := 1) po_1 ⟨_, rfl⟩ ⟨rfl, rfl⟩ (dk d_mHa_at 4 rfl) lk_Ha_42 vm_mHa_placeOf rfl rfl (Nat.le_of_ble_eq_true rfl) h (fun r2 u1 hq => kHa_placeOf E (d + 0) hq) (fun r2 u1 hb3 h => ?_)
  refine h_callVi (d := d + 1) (pc := 7) (na := 1) (av := [pI r2]) (k0 := 1) po_1 ⟨_, rfl⟩ ⟨rfl, rfl⟩ (dk d_mHa_at 5 rfl) lk_Ha_46 vm_mHa_get rfl rfl (Nat.le_of_ble_eq_true rfl) h (fun r5 u4 hq => kHa_get E (d + 0) hq) (fun r5 u4 hb6 h => ?_)
  exact h_iret (pc := 10) rfl (dk d_mHa_at 6 rfl) h
set_option maxRecDepth 100000 in
set_option maxHeartbeats 4000000 in
theorem kHa_at (E : Nat × (Int → Int)) (d : Nat) {a1 : Int} {a2 : Int} {w w1 : WD} {r : Int} (h : fHa_at a1 a2 w = some (r, w1)) : CTi E mHa_at (d + 2) [pR 1, pI a1, pI a2] w RF NN r w1 RF NN := by
  exact CTi_of (by decide +kernel) (Nat.le_of_ble_eq_true rfl) (Or.inl rfl) (gHa_at (res := (r, w1)) E d a1 a2 w h)
def fHa_isMask (a1 : Int) (w : WD) : Option (Int × WD) := if a1 < 0 then (some (0, w)) else (if (w 1 5) ≤ a1 then (some (0, w)) else (some (1, w)))
set_option maxRecDepth 100000 in
set_option maxHeartbeats 4000000 in
theorem gHa_isMask (E : Nat × (Int → Int)) (d : Nat) {res : Int × WD} (a1 : Int) (w : WD) (h : fHa_isMask a1 w = some res) : G E mHa_isMask (d + 1) 0 [(0, pR 1), (1, pI a1)] [] w RF NN 0 0 (some (pI res.1), res.2, RF, NN) := by
  unfold fHa_isMask at h
  refine g_iload_n (pc := 0) (j := 1) (dk d_mHa_isMask 0 rfl) rfl ?_
  refine h_if_lt (pc := 1) (tgt := 16) (dk d_mHa_isMask 1 rfl) rfl h (fun hc2 h => ?_) (fun hc2 h => ?_)
  · refine g_iconst (pc := 16) (dk d_mHa_isMask 8 rfl) (by decide) ?_
    exact h_zret (pc := 17) (Or.inl rfl) (dk d_mHa_isMask 9 rfl) h
  · refine g_iload_n (pc := 4) (j := 1) (dk d_mHa_isMask 2 rfl) rfl ?_
    refine g_aload_n (pc := 5) (j := 0) (dk d_mHa_isMask 3 rfl) rfl (by decide) ?_
    refine g_getI (pc := 6) fp_Ha_28 po_1 (dk d_mHa_isMask 4 rfl) ?_
    refine h_icmp_ge (pc := 9) (tgt := 16) (dk d_mHa_isMask 5 rfl) rfl h (fun hc1 h => ?_) (fun hc1 h => ?_)
    · refine g_iconst (pc := 16) (dk d_mHa_isMask 8 rfl) (by decide) ?_
      exact h_zret (pc := 17) (Or.inl rfl) (dk d_mHa_isMask 9 rfl) h
    · refine g_iconst (pc := 12) (dk d_mHa_isMask 6 rfl) (by decide) ?_
      refine g_goto (pc := 13) (tgt := 17) (dk d_mHa_isMask 7 rfl) rfl ?_
      exact h_zret (pc := 17) (Or.inr rfl) (dk d_mHa_isMask 9 rfl) h
set_option maxRecDepth 100000 in
set_option maxHeartbeats 4000000 in
theorem kHa_isMask (E : Nat × (Int → Int)) (d : Nat) {a1 : Int} {w w1 : WD} {r : Int} (h : fHa_isMask a1 w = some (r, w1)) : CTi E mHa_isMask (d + 1) [pR 1, pI a1] w RF NN r w1 RF NN := by
  exact CTi_of (by decide +kernel) (Nat.le_of_ble_eq_true rfl) (Or.inr rfl) (gHa_isMask (res := (r, w1)) E d a1 w h)
def fNi_isIn (a0 : Int) (w : WD) : Option (Int × WD) := if a0 < 0 then (some (0, w)) else (if 5 ≤ a0 then (some (0, w)) else (some (1, w)))
set_option maxRecDepth 100000 in
set_option maxHeartbeats 4000000 in
theorem gNi_isIn (E : Nat × (Int → Int)) (d : Nat) {res : Int × WD} (a0 : Int) (w : WD) (h : fNi_isIn a0 w = some res) : G E mNi_isIn (d + 1) 0 [(0, pI a0)] [] w RF NN 0 0 (some (pI res.1), res.2, RF, NN) := by
  unfold fNi_isIn at h
  refine g_iload_n (pc := 0) (j := 0) (dk d_mNi_isIn 0 rfl) rfl ?_
  refine h_if_lt (pc := 1) (tgt := 13) (dk d_mNi_isIn 1 rfl) rfl h (fun hc2 h => ?_) (fun hc2 h => ?_)
  · refine g_iconst (pc := 13) (dk d_mNi_isIn 7 rfl) (by decide) ?_
    exact h_zret (pc := 14) (Or.inl rfl) (dk d_mNi_isIn 8 rfl) h
  · refine g_iload_n (pc := 4) (j := 0) (dk d_mNi_isIn 2 rfl) rfl ?_
    refine g_iconst (pc := 5) (dk d_mNi_isIn 3 rfl) (by decide) ?_
    refine h_icmp_ge (pc := 6) (tgt := 13) (dk d_mNi_isIn 4 rfl) rfl h (fun hc1 h => ?_) (fun hc1 h => ?_)
    · refine g_iconst (pc := 13) (dk d_mNi_isIn 7 rfl) (by decide) ?_
      exact h_zret (pc := 14) (Or.inl rfl) (dk d_mNi_isIn 8 rfl) h
    · refine g_iconst (pc := 9) (dk d_mNi_isIn 5 rfl) (by decide) ?_
      refine g_goto (pc := 10) (tgt := 14) (dk d_mNi_isIn 6 rfl) rfl ?_
      exact h_zret (pc := 14) (Or.inr rfl) (dk d_mNi_isIn 8 rfl) h
set_option maxRecDepth 100000 in
set_option maxHeartbeats 4000000 in
theorem kNi_isIn (E : Nat × (Int → Int)) (d : Nat) {a0 : Int} {w w1 : WD} {r : Int} (h : fNi_isIn a0 w = some (r, w1)) : CTi E mNi_isIn (d + 1) [pI a0] w RF NN r w1 RF NN := by
  exact CTi_of (by decide +kernel) (Nat.le_of_ble_eq_true rfl) (Or.inr rfl) (gNi_isIn (res := (r, w1)) E d a0 w h)
def fNi_betMade (a1 : Int) (w : WD) : Option (Int × WD) := ci (fNi_isIn a1 w) <| fun (r2 : Int) (u1 : WD) => if r2 = 0 then (some (0, u1)) else (ck (0 ≤ a1 ∧ a1 < 5) <| some ((u1 21 a1), u1))
set_option maxRecDepth 100000 in
set_option maxHeartbeats 4000000 in
theorem gNi_betMade (E : Nat × (Int → Int)) (d : Nat) {res : Int × WD} (a1 : Int) (w : WD) (h : fNi_betMade a1 w = some res) : G E mNi_betMade (d + 2) 0 [(0, pR 19), (1, pI a1)] [] w RF NN 0 0 (some (pI res.1), res.2, RF, NN) := by
  unfold fNi_betMade at h
  refine g_iload_n (pc := 0) (j := 1) (dk d_mNi_betMade 0 rfl) rfl ?_
  refine h_callSi (d := d + 1) (pc := 1) (na := 1) (av := [pI a1]) ⟨rfl, rfl⟩ (dk d_mNi_betMade 1 rfl) lk_Ni_41 vm_mNi_isIn rfl rfl (Nat.le_of_ble_eq_true rfl) h (fun r2 u1 hq => kNi_isIn E (d + 0) hq) (fun r2 u1 hb3 h => ?_)
  refine h_if_eq (pc := 4) (tgt := 16) (dk d_mNi_betMade 2 rfl) rfl h (fun hc4 h => ?_) (fun hc4 h => ?_)
  · refine g_iconst (pc := 16) (dk d_mNi_betMade 8 rfl) (by decide) ?_
    exact h_iret (pc := 17) rfl (dk d_mNi_betMade 9 rfl) h
  · refine g_aload_n (pc := 7) (j := 0) (dk d_mNi_betMade 3 rfl) rfl (by decide) ?_
    refine g_getR (pc := 8) (a := 21) rfl fp_Ni_15 po_19 (dk d_mNi_betMade 4 rfl) ?_
    refine g_iload_n (pc := 11) (j := 1) (dk d_mNi_betMade 5 rfl) rfl ?_
    refine h_iald (pc := 12) (B := 5) pa_21 rfl (dk d_mNi_betMade 6 rfl) h (fun h => ?_)
    refine g_goto (pc := 13) (tgt := 17) (dk d_mNi_betMade 7 rfl) rfl ?_
    exact h_iret (pc := 17) rfl (dk d_mNi_betMade 9 rfl) h
set_option maxRecDepth 100000 in
set_option maxHeartbeats 4000000 in
theorem kNi_betMade (E : Nat × (Int → Int)) (d : Nat) {a1 : Int} {w w1 : WD} {r : Int} (h : fNi_betMade a1 w = some (r, w1)) : CTi E mNi_betMade (d + 2) [pR 19, pI a1] w RF NN r w1 RF NN := by
  exact CTi_of (by decide +kernel) (Nat.le_of_ble_eq_true rfl) (Or.inl rfl) (gNi_betMade (res := (r, w1)) E d a1 w h)
def fNi_whoIs (a1 : Int) (w : WD) : Option (Int × WD) := ci (fNi_isIn a1 w) <| fun (r2 : Int) (u1 : WD) => if r2 = 0 then (some ((-2), u1)) else (ck (0 ≤ a1 ∧ a1 < 5) <| some ((u1 20 a1), u1))
set_option maxRecDepth 100000 in
set_option maxHeartbeats 4000000 in
theorem gNi_whoIs (E : Nat × (Int → Int)) (d : Nat) {res : Int × WD} (a1 : Int) (w : WD) (h : fNi_whoIs a1 w = some res) : G E mNi_whoIs (d + 2) 0 [(0, pR 19), (1, pI a1)] [] w RF NN 0 0 (some (pI res.1), res.2, RF, NN) := by
  unfold fNi_whoIs at h
  refine g_iload_n (pc := 0) (j := 1) (dk d_mNi_whoIs 0 rfl) rfl ?_
  refine h_callSi (d := d + 1) (pc := 1) (na := 1) (av := [pI a1]) ⟨rfl, rfl⟩ (dk d_mNi_whoIs 1 rfl) lk_Ni_41 vm_mNi_isIn rfl rfl (Nat.le_of_ble_eq_true rfl) h (fun r2 u1 hq => kNi_isIn E (d + 0) hq) (fun r2 u1 hb3 h => ?_)
  refine h_if_eq (pc := 4) (tgt := 16) (dk d_mNi_whoIs 2 rfl) rfl h (fun hc4 h => ?_) (fun hc4 h => ?_)
  · refine g_bipush (pc := 16) (dk d_mNi_whoIs 8 rfl) (by decide) ?_
    exact h_iret (pc := 18) rfl (dk d_mNi_whoIs 9 rfl) h
  · refine g_aload_n (pc := 7) (j := 0) (dk d_mNi_whoIs 3 rfl) rfl (by decide) ?_
    refine g_getR (pc := 8) (a := 20) rfl fp_Ni_9 po_19 (dk d_mNi_whoIs 4 rfl) ?_
    refine g_iload_n (pc := 11) (j := 1) (dk d_mNi_whoIs 5 rfl) rfl ?_
    refine h_iald (pc := 12) (B := 5) pa_20 rfl (dk d_mNi_whoIs 6 rfl) h (fun h => ?_)
    refine g_goto (pc := 13) (tgt := 18) (dk d_mNi_whoIs 7 rfl) rfl ?_
    exact h_iret (pc := 18) rfl (dk d_mNi_whoIs 9 rfl) h
set_option maxRecDepth 100000 in
set_option maxHeartbeats 4000000 in
theorem kNi_whoIs (E : Nat × (Int → Int)) (d : Nat) {a1 : Int} {w w1 : WD} {r : Int} (h : fNi_whoIs a1 w = some (r, w1)) : CTi E mNi_whoIs (d + 2) [pR 19, pI a1] w RF NN r w1 RF NN := by
  exact CTi_of (by decide +kernel) (Nat.le_of_ble_eq_true rfl) (Or.inl rfl) (gNi_whoIs (res := (r, w1)) E d a1 w h)
def fB_of (a1 : Int) (a2 : Int) (w : WD) : Option (Int × WD) := jn (β := WD → Option (Int × WD)) (fun (u1 : WD) => ci (fHa_isMask a1 u1) <| fun (r3 : Int) (u2 : WD) => if r3 ≠ 0 then (if a2 ≠ 13 then (ci (fNi_betMade a1 u2) <| fun (r6 : Int) (u5 : WD) => some (r6, u5)) else (ci (fNi_whoIs a1 u2) <| fun (r9 : Int) (u8 : WD) => some (r9, u8))) else (some ((-2000000000), u2))) <| fun J13 => if a2 = 13 then (J13 w) else (if a2 ≠ 14 then (ci (fHa_placeOf a1 a2 w) <| fun (r15 : Int) (u14 : WD) => if 0 ≤ r15 then (ci (fHa_at a1 a2 u14) <| fun (r18 : Int) (u17 : WD) => some (r18, u17)) else (some ((-2000000000), u14))) else (J13 w))
set_option maxRecDepth 100000 in
set_option maxHeartbeats 4000000 in
theorem gB_of (E : Nat × (Int → Int)) (d : Nat) {res : Int × WD} (a1 : Int) (a2 : Int) (w : WD) (h : fB_of a1 a2 w = some res) : G E mB_of (d + 3) 0 [(0, pR 0), (1, pI a1), (2, pI a2)] [] w RF NN 0 0 (some (pI res.1), res.2, RF, NN) := by
  unfold fB_of at h
  refine g_iload_n (pc := 0) (j := 2) (dk d_mB_of 0 rfl) rfl ?_
  refine g_bipush (pc := 1) (dk d_mB_of 1 rfl) (by decide) ?_
  refine jn_e (fun J => ∀ (u1 : WD), J u1 = some res → G E mB_of (d + 3) 12 [(0, pR 0), (1, pI a1), (2, pI a2)] [] u1 RF NN 0 0 (some (pI res.1), res.2, RF, NN)) h (fun u1 h => ?_) (fun J13 hJ13 h => ?_)
  · refine g_aload_n (pc := 12) (j := 0) (dk d_mB_of 6 rfl) rfl (by decide) ?_
    refine g_getR (pc := 13) (a := 1) rfl fp_B_10 po_0 (dk d_mB_of 7 rfl) ?_
    refine g_iload_n (pc := 16) (j := 1) (dk d_mB_of 8 rfl) rfl ?_
    refine h_callVi (d := d + 2) (pc := 17) (na := 1) (av := [pI a1]) (k0 := 1) po_1 ⟨_, rfl⟩ ⟨rfl, rfl⟩ (dk d_mB_of 9 rfl) lk_B_90 vm_mHa_isMask rfl rfl (Nat.le_of_ble_eq_true rfl) h (fun r3 u2 hq => kHa_isMask E (d + 1) hq) (fun r3 u2 hb4 h => ?_)
    refine h_if_ne (pc := 20) (tgt := 26) (dk d_mB_of 10 rfl) rfl h (fun hc12 h => ?_) (fun hc12 h => ?_)
    · refine g_iload_n (pc := 26) (j := 2) (dk d_mB_of 13 rfl) rfl ?_
      refine g_bipush (pc := 27) (dk d_mB_of 14 rfl) (by decide) ?_
      refine h_icmp_ne (pc := 29) (tgt := 43) (dk d_mB_of 15 rfl) rfl h (fun hc11 h => ?_) (fun hc11 h => ?_)
      · refine g_aload_n (pc := 43) (j := 0) (dk d_mB_of 21 rfl) rfl (by decide) ?_
        refine g_getR (pc := 44) (a := 19) rfl fp_B_37 po_0 (dk d_mB_of 22 rfl) ?_
        refine g_iload_n (pc := 47) (j := 1) (dk d_mB_of 23 rfl) rfl ?_
        refine h_callVi (d := d + 2) (pc := 48) (na := 1) (av := [pI a1]) (k0 := 19) po_19 ⟨_, rfl⟩ ⟨rfl, rfl⟩ (dk d_mB_of 24 rfl) lk_B_98 vm_mNi_betMade rfl rfl (Nat.le_of_ble_eq_true rfl) h (fun r6 u5 hq => kNi_betMade E (d + 0) hq) (fun r6 u5 hb7 h => ?_)
        exact h_iret (pc := 51) rfl (dk d_mB_of 25 rfl) h
      · refine g_aload_n (pc := 32) (j := 0) (dk d_mB_of 16 rfl) rfl (by decide) ?_
        refine g_getR (pc := 33) (a := 19) rfl fp_B_37 po_0 (dk d_mB_of 17 rfl) ?_
        refine g_iload_n (pc := 36) (j := 1) (dk d_mB_of 18 rfl) rfl ?_
        refine h_callVi (d := d + 2) (pc := 37) (na := 1) (av := [pI a1]) (k0 := 19) po_19 ⟨_, rfl⟩ ⟨rfl, rfl⟩ (dk d_mB_of 19 rfl) lk_B_94 vm_mNi_whoIs rfl rfl (Nat.le_of_ble_eq_true rfl) h (fun r9 u8 hq => kNi_whoIs E (d + 0) hq) (fun r9 u8 hb10 h => ?_)
        refine g_goto (pc := 40) (tgt := 51) (dk d_mB_of 20 rfl) rfl ?_
        exact h_iret (pc := 51) rfl (dk d_mB_of 25 rfl) h
    · refine g_ldc (pc := 23) (u := (-2000000000)) ck_B_93 (by decide) (dk d_mB_of 11 rfl) ?_
      exact h_iret (pc := 25) rfl (dk d_mB_of 12 rfl) h
  · refine h_icmp_eq (pc := 3) (tgt := 12) (dk d_mB_of 2 rfl) rfl h (fun hc22 h => ?_) (fun hc22 h => ?_)
    · exact hJ13 _ h
    · refine g_iload_n (pc := 6) (j := 2) (dk d_mB_of 3 rfl) rfl ?_
      refine g_bipush (pc := 7) (dk d_mB_of 4 rfl) (by decide) ?_
      refine h_icmp_ne (pc := 9) (tgt := 52) (dk d_mB_of 5 rfl) rfl h (fun hc21 h => ?_) (fun hc21 h => ?_)
      · refine g_aload_n (pc := 52) (j := 0) (dk d_mB_of 26 rfl) rfl (by decide) ?_
        refine g_getR (pc := 53) (a := 1) rfl fp_B_10 po_0 (dk d_mB_of 27 rfl) ?_
        refine g_iload_n (pc := 56) (j := 1) (dk d_mB_of 28 rfl) rfl ?_
        refine g_iload_n (pc := 57) (j := 2) (dk d_mB_of 29 rfl) rfl ?_
        refine h_callVi (d := d + 2) (pc := 58) (na := 2) (av := [pI a1, pI a2]) (k0 := 1) po_1 ⟨_, rfl⟩ ⟨rfl, rfl⟩ (dk d_mB_of 30 rfl) lk_B_101 vm_mHa_placeOf rfl rfl (Nat.le_of_ble_eq_true rfl) h (fun r15 u14 hq => kHa_placeOf E (d + 1) hq) (fun r15 u14 hb16 h => ?_)
        refine h_if_ge (pc := 61) (tgt := 69) (dk d_mB_of 31 rfl) rfl h (fun hc20 h => ?_) (fun hc20 h => ?_)
        · refine g_aload_n (pc := 69) (j := 0) (dk d_mB_of 34 rfl) rfl (by decide) ?_
          refine g_getR (pc := 70) (a := 1) rfl fp_B_10 po_0 (dk d_mB_of 35 rfl) ?_
          refine g_iload_n (pc := 73) (j := 1) (dk d_mB_of 36 rfl) rfl ?_
          refine g_iload_n (pc := 74) (j := 2) (dk d_mB_of 37 rfl) rfl ?_
          refine h_callVi (d := d + 2) (pc := 75) (na := 2) (av := [pI a1, pI a2]) (k0 := 1) po_1 ⟨_, rfl⟩ ⟨rfl, rfl⟩ (dk d_mB_of 38 rfl) lk_B_105 vm_mHa_at rfl rfl (Nat.le_of_ble_eq_true rfl) h (fun r18 u17 hq => kHa_at E (d + 0) hq) (fun r18 u17 hb19 h => ?_)
          exact h_iret (pc := 78) rfl (dk d_mB_of 39 rfl) h
        · refine g_ldc (pc := 64) (u := (-2000000000)) ck_B_93 (by decide) (dk d_mB_of 32 rfl) ?_
          refine g_goto (pc := 66) (tgt := 78) (dk d_mB_of 33 rfl) rfl ?_
          exact h_iret (pc := 78) rfl (dk d_mB_of 39 rfl) h
      · exact hJ13 _ h
set_option maxRecDepth 100000 in
set_option maxHeartbeats 4000000 in
theorem kB_of (E : Nat × (Int → Int)) (d : Nat) {a1 : Int} {a2 : Int} {w w1 : WD} {r : Int} (h : fB_of a1 a2 w = some (r, w1)) : CTi E mB_of (d + 3) [pR 0, pI a1, pI a2] w RF NN r w1 RF NN := by
  exact CTi_of (by decide +kernel) (Nat.le_of_ble_eq_true rfl) (Or.inl rfl) (gB_of (res := (r, w1)) E d a1 a2 w h)
def fLa_take (a1 : Int) (w : WD) : Option (Int × WD) := if (w 6 5) < 0 then (some ((-3), w)) else (if (w 6 5) < 120 then (ck (0 ≤ (w 6 5) ∧ (w 6 5) < 120) <| bw (up w 7 (w 6 5) a1) <| fun (u1 : WD) => bw (up u1 6 5 (w32 ((u1 6 5) + 1))) <| fun (u2 : WD) => some ((u2 6 5), u2)) else (some ((-3), w)))
set_option maxRecDepth 100000 in
set_option maxHeartbeats 4000000 in
theorem gLa_take (E : Nat × (Int → Int)) (d : Nat) {res : Int × WD} (a1 : Int) (w : WD) (h : fLa_take a1 w = some res) : G E mLa_take (d + 1) 0 [(0, pR 6), (1, pI a1)] [] w RF NN 0 0 (some (pI res.1), res.2, RF, NN) := by
  unfold fLa_take at h
  refine g_aload_n (pc := 0) (j := 0) (dk d_mLa_take 0 rfl) rfl (by decide) ?_
  refine g_getI (pc := 1) fp_La_27 po_6 (dk d_mLa_take 1 rfl) ?_
  refine h_if_lt (pc := 4) (tgt := 16) (dk d_mLa_take 2 rfl) rfl h (fun hc4 h => ?_) (fun hc4 h => ?_)
  · refine g_bipush (pc := 16) (dk d_mLa_take 7 rfl) (by decide) ?_
    exact h_iret (pc := 18) rfl (dk d_mLa_take 8 rfl) h
  · refine g_aload_n (pc := 7) (j := 0) (dk d_mLa_take 3 rfl) rfl (by decide) ?_
    refine g_getI (pc := 8) fp_La_27 po_6 (dk d_mLa_take 4 rfl) ?_
    refine g_bipush (pc := 11) (dk d_mLa_take 5 rfl) (by decide) ?_
    refine h_icmp_lt (pc := 13) (tgt := 19) (dk d_mLa_take 6 rfl) rfl h (fun hc3 h => ?_) (fun hc3 h => ?_)
    · refine g_aload_n (pc := 19) (j := 0) (dk d_mLa_take 9 rfl) rfl (by decide) ?_
      refine g_getR (pc := 20) (a := 7) rfl fp_La_11 po_6 (dk d_mLa_take 10 rfl) ?_
      refine g_aload_n (pc := 23) (j := 0) (dk d_mLa_take 11 rfl) rfl (by decide) ?_
      refine g_getI (pc := 24) fp_La_27 po_6 (dk d_mLa_take 12 rfl) ?_
      refine g_iload_n (pc := 27) (j := 1) (dk d_mLa_take 13 rfl) rfl ?_
      refine h_iast (pc := 28) (B := 120) pa_7 rfl (dk d_mLa_take 14 rfl) h (fun u1 h => ?_)
      refine g_aload_n (pc := 29) (j := 0) (dk d_mLa_take 15 rfl) rfl (by decide) ?_
      refine g_dup (pc := 30) (dk d_mLa_take 16 rfl) rfl ?_
      refine g_getI (pc := 31) fp_La_27 po_6 (dk d_mLa_take 17 rfl) ?_
      refine g_iconst (pc := 34) (dk d_mLa_take 18 rfl) (by decide) ?_
      refine g_iadd (pc := 35) (dk d_mLa_take 19 rfl) ?_
      refine h_putI (pc := 36) fp_La_27 po_6 (dk d_mLa_take 20 rfl) h (fun u2 h => ?_)
      refine g_aload_n (pc := 39) (j := 0) (dk d_mLa_take 21 rfl) rfl (by decide) ?_
      refine g_getI (pc := 40) fp_La_27 po_6 (dk d_mLa_take 22 rfl) ?_
      exact h_iret (pc := 43) rfl (dk d_mLa_take 23 rfl) h
    · refine g_bipush (pc := 16) (dk d_mLa_take 7 rfl) (by decide) ?_
      exact h_iret (pc := 18) rfl (dk d_mLa_take 8 rfl) h
set_option maxRecDepth 100000 in
set_option maxHeartbeats 4000000 in
theorem kLa_take (E : Nat × (Int → Int)) (d : Nat) {a1 : Int} {w w1 : WD} {r : Int} (h : fLa_take a1 w = some (r, w1)) : CTi E mLa_take (d + 1) [pR 6, pI a1] w RF NN r w1 RF NN := by
  exact CTi_of (by decide +kernel) (Nat.le_of_ble_eq_true rfl) (Or.inl rfl) (gLa_take (res := (r, w1)) E d a1 w h)
def fB_feed (a1 : Int) (w : WD) : Option (Int × WD) := if a1 < 0 then (some ((-1), w)) else (if a1 ≤ 255 then (ci (fLa_take a1 w) <| fun (r2 : Int) (u1 : WD) => some (r2, u1)) else (some ((-1), w)))
set_option maxRecDepth 100000 in
set_option maxHeartbeats 4000000 in
theorem gB_feed (E : Nat × (Int → Int)) (d : Nat) {res : Int × WD} (a1 : Int) (w : WD) (h : fB_feed a1 w = some res) : G E mB_feed (d + 2) 0 [(0, pR 0), (1, pI a1)] [] w RF NN 0 0 (some (pI res.1), res.2, RF, NN) := by
  unfold fB_feed at h
  refine g_iload_n (pc := 0) (j := 1) (dk d_mB_feed 0 rfl) rfl ?_
  refine h_if_lt (pc := 1) (tgt := 11) (dk d_mB_feed 1 rfl) rfl h (fun hc5 h => ?_) (fun hc5 h => ?_)
  · refine g_iconst (pc := 11) (dk d_mB_feed 5 rfl) (by decide) ?_
    refine g_goto (pc := 12) (tgt := 23) (dk d_mB_feed 6 rfl) rfl ?_
    exact h_iret (pc := 23) rfl (dk d_mB_feed 11 rfl) h
  · refine g_iload_n (pc := 4) (j := 1) (dk d_mB_feed 2 rfl) rfl ?_
    refine g_sipush (pc := 5) (dk d_mB_feed 3 rfl) (by decide) ?_
    refine h_icmp_le (pc := 8) (tgt := 15) (dk d_mB_feed 4 rfl) rfl h (fun hc4 h => ?_) (fun hc4 h => ?_)
    · refine g_aload_n (pc := 15) (j := 0) (dk d_mB_feed 7 rfl) rfl (by decide) ?_
      refine g_getR (pc := 16) (a := 6) rfl fp_B_19 po_0 (dk d_mB_feed 8 rfl) ?_
      refine g_iload_n (pc := 19) (j := 1) (dk d_mB_feed 9 rfl) rfl ?_
      refine h_callVi (d := d + 1) (pc := 20) (na := 1) (av := [pI a1]) (k0 := 6) po_6 ⟨_, rfl⟩ ⟨rfl, rfl⟩ (dk d_mB_feed 10 rfl) lk_B_108 vm_mLa_take rfl rfl (Nat.le_of_ble_eq_true rfl) h (fun r2 u1 hq => kLa_take E (d + 0) hq) (fun r2 u1 hb3 h => ?_)
      exact h_iret (pc := 23) rfl (dk d_mB_feed 11 rfl) h
    · refine g_iconst (pc := 11) (dk d_mB_feed 5 rfl) (by decide) ?_
      refine g_goto (pc := 12) (tgt := 23) (dk d_mB_feed 6 rfl) rfl ?_
      exact h_iret (pc := 23) rfl (dk d_mB_feed 11 rfl) h
set_option maxRecDepth 100000 in
set_option maxHeartbeats 4000000 in
theorem kB_feed (E : Nat × (Int → Int)) (d : Nat) {a1 : Int} {w w1 : WD} {r : Int} (h : fB_feed a1 w = some (r, w1)) : CTi E mB_feed (d + 2) [pR 0, pI a1] w RF NN r w1 RF NN := by
  exact CTi_of (by decide +kernel) (Nat.le_of_ble_eq_true rfl) (Or.inl rfl) (gB_feed (res := (r, w1)) E d a1 w h)
def fLa_next (w : WD) : Option (Int × WD) := if (w 6 6) < 0 then (some ((-1), w)) else (if (w 6 5) ≤ (w 6 6) then (some ((-1), w)) else (if 120 ≤ (w 6 6) then (some ((-1), w)) else (ck (0 ≤ (w 6 6) ∧ (w 6 6) < 120) <| some ((w 7 (w 6 6)), w))))
set_option maxRecDepth 100000 in
set_option maxHeartbeats 4000000 in
theorem gLa_next (E : Nat × (Int → Int)) (d : Nat) {res : Int × WD} (w : WD) (h : fLa_next w = some res) : G E mLa_next (d + 1) 0 [(0, pR 6)] [] w RF NN 0 0 (some (pI res.1), res.2, RF, NN) := by
  unfold fLa_next at h
  refine g_aload_n (pc := 0) (j := 0) (dk d_mLa_next 0 rfl) rfl (by decide) ?_
  refine g_getI (pc := 1) fp_La_31 po_6 (dk d_mLa_next 1 rfl) ?_
  refine h_if_lt (pc := 4) (tgt := 39) (dk d_mLa_next 2 rfl) rfl h (fun hc3 h => ?_) (fun hc3 h => ?_)
  · refine g_iconst (pc := 39) (dk d_mLa_next 18 rfl) (by decide) ?_
    exact h_iret (pc := 40) rfl (dk d_mLa_next 19 rfl) h
  · refine g_aload_n (pc := 7) (j := 0) (dk d_mLa_next 3 rfl) rfl (by decide) ?_
    refine g_getI (pc := 8) fp_La_31 po_6 (dk d_mLa_next 4 rfl) ?_
    refine g_aload_n (pc := 11) (j := 0) (dk d_mLa_next 5 rfl) rfl (by decide) ?_
    refine g_getI (pc := 12) fp_La_27 po_6 (dk d_mLa_next 6 rfl) ?_
    refine h_icmp_ge (pc := 15) (tgt := 39) (dk d_mLa_next 7 rfl) rfl h (fun hc2 h => ?_) (fun hc2 h => ?_)
    · refine g_iconst (pc := 39) (dk d_mLa_next 18 rfl) (by decide) ?_
      exact h_iret (pc := 40) rfl (dk d_mLa_next 19 rfl) h
    · refine g_aload_n (pc := 18) (j := 0) (dk d_mLa_next 8 rfl) rfl (by decide) ?_
      refine g_getI (pc := 19) fp_La_31 po_6 (dk d_mLa_next 9 rfl) ?_
      refine g_bipush (pc := 22) (dk d_mLa_next 10 rfl) (by decide) ?_
      refine h_icmp_ge (pc := 24) (tgt := 39) (dk d_mLa_next 11 rfl) rfl h (fun hc1 h => ?_) (fun hc1 h => ?_)
      · refine g_iconst (pc := 39) (dk d_mLa_next 18 rfl) (by decide) ?_
        exact h_iret (pc := 40) rfl (dk d_mLa_next 19 rfl) h
      · refine g_aload_n (pc := 27) (j := 0) (dk d_mLa_next 12 rfl) rfl (by decide) ?_
        refine g_getR (pc := 28) (a := 7) rfl fp_La_11 po_6 (dk d_mLa_next 13 rfl) ?_
        refine g_aload_n (pc := 31) (j := 0) (dk d_mLa_next 14 rfl) rfl (by decide) ?_
        refine g_getI (pc := 32) fp_La_31 po_6 (dk d_mLa_next 15 rfl) ?_
        refine h_iald (pc := 35) (B := 120) pa_7 rfl (dk d_mLa_next 16 rfl) h (fun h => ?_)
        refine g_goto (pc := 36) (tgt := 40) (dk d_mLa_next 17 rfl) rfl ?_
        exact h_iret (pc := 40) rfl (dk d_mLa_next 19 rfl) h
set_option maxRecDepth 100000 in
set_option maxHeartbeats 4000000 in
theorem kLa_next (E : Nat × (Int → Int)) (d : Nat) {w w1 : WD} {r : Int} (h : fLa_next w = some (r, w1)) : CTi E mLa_next (d + 1) [pR 6] w RF NN r w1 RF NN := by
  exact CTi_of (by decide +kernel) (Nat.le_of_ble_eq_true rfl) (Or.inl rfl) (gLa_next (res := (r, w1)) E d w h)
def fLa_emit (a1 : Int) (w : WD) : Option WD := if (w 6 7) < 0 then (some w) else (if 121 ≤ (w 6 7) then (some w) else (ck (0 ≤ (w 6 7) ∧ (w 6 7) < 121) <| bw (up w 8 (w 6 7) a1) <| fun (u1 : WD) => bw (up u1 6 7 (w32 ((u1 6 7) + 1))) <| fun (u2 : WD) => some u2))
set_option maxRecDepth 100000 in
set_option maxHeartbeats 4000000 in
theorem gLa_emit (E : Nat × (Int → Int)) (d : Nat) {res : WD} (a1 : Int) (w : WD) (h : fLa_emit a1 w = some res) : G E mLa_emit (d + 1) 0 [(0, pR 6), (1, pI a1)] [] w RF NN 0 0 (none, res, RF, NN) := by
  unfold fLa_emit at h
  refine g_aload_n (pc := 0) (j := 0) (dk d_mLa_emit 0 rfl) rfl (by decide) ?_
  refine g_getI (pc := 1) fp_La_34 po_6 (dk d_mLa_emit 1 rfl) ?_
  refine h_if_lt (pc := 4) (tgt := 39) (dk d_mLa_emit 2 rfl) rfl h (fun hc4 h => ?_) (fun hc4 h => ?_)
  · exact h_vret (pc := 39) (dk d_mLa_emit 21 rfl) h
  · refine g_aload_n (pc := 7) (j := 0) (dk d_mLa_emit 3 rfl) rfl (by decide) ?_
    refine g_getI (pc := 8) fp_La_34 po_6 (dk d_mLa_emit 4 rfl) ?_
    refine g_aload_n (pc := 11) (j := 0) (dk d_mLa_emit 5 rfl) rfl (by decide) ?_
    refine g_getR (pc := 12) (a := 8) rfl fp_La_15 po_6 (dk d_mLa_emit 6 rfl) ?_
    refine h_alen (pc := 15) (B := 121) pa_8 (by decide) rfl (dk d_mLa_emit 7 rfl) ?_
    refine h_icmp_ge (pc := 16) (tgt := 39) (dk d_mLa_emit 8 rfl) rfl h (fun hc3 h => ?_) (fun hc3 h => ?_)
    · exact h_vret (pc := 39) (dk d_mLa_emit 21 rfl) h
    · refine g_aload_n (pc := 19) (j := 0) (dk d_mLa_emit 9 rfl) rfl (by decide) ?_
      refine g_getR (pc := 20) (a := 8) rfl fp_La_15 po_6 (dk d_mLa_emit 10 rfl) ?_
      refine g_aload_n (pc := 23) (j := 0) (dk d_mLa_emit 11 rfl) rfl (by decide) ?_
      refine g_getI (pc := 24) fp_La_34 po_6 (dk d_mLa_emit 12 rfl) ?_
      refine g_iload_n (pc := 27) (j := 1) (dk d_mLa_emit 13 rfl) rfl ?_
      refine h_iast (pc := 28) (B := 121) pa_8 rfl (dk d_mLa_emit 14 rfl) h (fun u1 h => ?_)
      refine g_aload_n (pc := 29) (j := 0) (dk d_mLa_emit 15 rfl) rfl (by decide) ?_
      refine g_dup (pc := 30) (dk d_mLa_emit 16 rfl) rfl ?_
      refine g_getI (pc := 31) fp_La_34 po_6 (dk d_mLa_emit 17 rfl) ?_
      refine g_iconst (pc := 34) (dk d_mLa_emit 18 rfl) (by decide) ?_
      refine g_iadd (pc := 35) (dk d_mLa_emit 19 rfl) ?_
      refine h_putI (pc := 36) fp_La_34 po_6 (dk d_mLa_emit 20 rfl) h (fun u2 h => ?_)
      exact h_vret (pc := 39) (dk d_mLa_emit 21 rfl) h
set_option maxRecDepth 100000 in
set_option maxHeartbeats 4000000 in
theorem kLa_emit (E : Nat × (Int → Int)) (d : Nat) {a1 : Int} {w w1 : WD} (h : fLa_emit a1 w = some w1) : CTv E mLa_emit (d + 1) [pR 6, pI a1] w RF NN w1 RF NN := by
  exact CTv_of (by decide +kernel) (Nat.le_of_ble_eq_true rfl) rfl (gLa_emit (res := w1) E d a1 w h)
def fLa_levelOf (a0 : Int) (w : WD) : Option (Int × WD) := if a0 = 37 ∨ a0 = 42 ∨ a0 = 47 then (some (4, w)) else (if a0 = 38 then (some (1, w)) else (if a0 = 43 ∨ a0 = 45 then (some (3, w)) else (if a0 = 60 ∨ a0 = 61 ∨ a0 = 62 then (some (2, w)) else (if a0 = 124 then (some (0, w)) else ((some ((-1), w)))))))
set_option maxRecDepth 100000 in
set_option maxHeartbeats 4000000 in
theorem gLa_levelOf (E : Nat × (Int → Int)) (d : Nat) {res : Int × WD} (a0 : Int) (w : WD) (h : fLa_levelOf a0 w = some res) : G E mLa_levelOf (d + 1) 0 [(0, pI a0)] [] w RF NN 0 0 (some (pI res.1), res.2, RF, NN) := by
  unfold fLa_levelOf at h
  refine g_iload_n (pc := 0) (j := 0) (dk d_mLa_levelOf 0 rfl) rfl ?_
  refine br h (fun hc1 h => ?_) (fun hc1 h => ?_)
  · refine g_look (pc := 1) (off := 99) (tgt := 100) (dk d_mLa_levelOf 1 rfl) rfl (by rcases hc1 with hc1 | hc1 | hc1 <;> rw [hc1] <;> rfl) rfl ?_
    refine g_iconst (pc := 100) (dk d_mLa_levelOf 10 rfl) (by decide) ?_
    exact h_iret (pc := 101) rfl (dk d_mLa_levelOf 11 rfl) h
  · refine br h (fun hc2 h => ?_) (fun hc2 h => ?_)
    · refine g_look (pc := 1) (off := 93) (tgt := 94) (dk d_mLa_levelOf 1 rfl) rfl (by rw [hc2]; rfl) rfl ?_
      refine g_iconst (pc := 94) (dk d_mLa_levelOf 4 rfl) (by decide) ?_
      exact h_iret (pc := 95) rfl (dk d_mLa_levelOf 5 rfl) h
    · refine br h (fun hc3 h => ?_) (fun hc3 h => ?_)
      · refine g_look (pc := 1) (off := 97) (tgt := 98) (dk d_mLa_levelOf 1 rfl) rfl (by rcases hc3 with hc3 | hc3 <;> rw [hc3] <;> rfl) rfl ?_
        refine g_iconst (pc := 98) (dk d_mLa_levelOf 8 rfl) (by decide) ?_
        exact h_iret (pc := 99) rfl (dk d_mLa_levelOf 9 rfl) h
      · refine br h (fun hc4 h => ?_) (fun hc4 h => ?_)
        · refine g_look (pc := 1) (off := 95) (tgt := 96) (dk d_mLa_levelOf 1 rfl) rfl (by rcases hc4 with hc4 | hc4 | hc4 <;> rw [hc4] <;> rfl) rfl ?_
          refine g_iconst (pc := 96) (dk d_mLa_levelOf 6 rfl) (by decide) ?_
          exact h_iret (pc := 97) rfl (dk d_mLa_levelOf 7 rfl) h
        · refine br h (fun hc5 h => ?_) (fun hc5 h => ?_)
          · refine g_look (pc := 1) (off := 91) (tgt := 92) (dk d_mLa_levelOf 1 rfl) rfl (by rw [hc5]; rfl) rfl ?_
            refine g_iconst (pc := 92) (dk d_mLa_levelOf 2 rfl) (by decide) ?_
            exact h_iret (pc := 93) rfl (dk d_mLa_levelOf 3 rfl) h
          · refine g_look (pc := 1) (off := 101) (tgt := 102) (dk d_mLa_levelOf 1 rfl) rfl (look_d _ _ _ ⟨by simp only; omega, by simp only; omega, by simp only; omega, by simp only; omega, by simp only; omega, by simp only; omega, by simp only; omega, by simp only; omega, by simp only; omega, by simp only; omega, trivial⟩) rfl ?_
            refine g_iconst (pc := 102) (dk d_mLa_levelOf 12 rfl) (by decide) ?_
            exact h_iret (pc := 103) rfl (dk d_mLa_levelOf 13 rfl) h
set_option maxRecDepth 100000 in
set_option maxHeartbeats 4000000 in
theorem kLa_levelOf (E : Nat × (Int → Int)) (d : Nat) {a0 : Int} {w w1 : WD} {r : Int} (h : fLa_levelOf a0 w = some (r, w1)) : CTi E mLa_levelOf (d + 1) [pI a0] w RF NN r w1 RF NN := by
  exact CTi_of (by decide +kernel) (Nat.le_of_ble_eq_true rfl) (Or.inl rfl) (gLa_levelOf (res := (r, w1)) E d a0 w h)
def fLa_isDigit (a0 : Int) (w : WD) : Option (Int × WD) := if a0 < 48 then (some (0, w)) else (if 57 < a0 then (some (0, w)) else (some (1, w)))
set_option maxRecDepth 100000 in
set_option maxHeartbeats 4000000 in
theorem gLa_isDigit (E : Nat × (Int → Int)) (d : Nat) {res : Int × WD} (a0 : Int) (w : WD) (h : fLa_isDigit a0 w = some res) : G E mLa_isDigit (d + 1) 0 [(0, pI a0)] [] w RF NN 0 0 (some (pI res.1), res.2, RF, NN) := by
  unfold fLa_isDigit at h
  refine g_iload_n (pc := 0) (j := 0) (dk d_mLa_isDigit 0 rfl) rfl ?_
  refine g_bipush (pc := 1) (dk d_mLa_isDigit 1 rfl) (by decide) ?_
  refine h_icmp_lt (pc := 3) (tgt := 16) (dk d_mLa_isDigit 2 rfl) rfl h (fun hc2 h => ?_) (fun hc2 h => ?_)
  · refine g_iconst (pc := 16) (dk d_mLa_isDigit 8 rfl) (by decide) ?_
    exact h_zret (pc := 17) (Or.inl rfl) (dk d_mLa_isDigit 9 rfl) h
  · refine g_iload_n (pc := 6) (j := 0) (dk d_mLa_isDigit 3 rfl) rfl ?_
    refine g_bipush (pc := 7) (dk d_mLa_isDigit 4 rfl) (by decide) ?_
    refine h_icmp_gt (pc := 9) (tgt := 16) (dk d_mLa_isDigit 5 rfl) rfl h (fun hc1 h => ?_) (fun hc1 h => ?_)
    · refine g_iconst (pc := 16) (dk d_mLa_isDigit 8 rfl) (by decide) ?_
      exact h_zret (pc := 17) (Or.inl rfl) (dk d_mLa_isDigit 9 rfl) h
    · refine g_iconst (pc := 12) (dk d_mLa_isDigit 6 rfl) (by decide) ?_
      refine g_goto (pc := 13) (tgt := 17) (dk d_mLa_isDigit 7 rfl) rfl ?_
      exact h_zret (pc := 17) (Or.inr rfl) (dk d_mLa_isDigit 9 rfl) h
set_option maxRecDepth 100000 in
set_option maxHeartbeats 4000000 in
theorem kLa_isDigit (E : Nat × (Int → Int)) (d : Nat) {a0 : Int} {w w1 : WD} {r : Int} (h : fLa_isDigit a0 w = some (r, w1)) : CTi E mLa_isDigit (d + 1) [pI a0] w RF NN r w1 RF NN := by
  exact CTi_of (by decide +kernel) (Nat.le_of_ble_eq_true rfl) (Or.inr rfl) (gLa_isDigit (res := (r, w1)) E d a0 w h)
def fLa_nameOf (a0 : Int) (w : WD) : Option (Int × WD) := if a0 = 100 then (some (5, w)) else (if a0 = 102 then (some (3, w)) else (if a0 = 107 then (some (4, w)) else (if a0 = 115 then (some (0, w)) else (if a0 = 116 then (some (1, w)) else (if a0 = 120 then (some (2, w)) else ((some ((-1), w))))))))
set_option maxRecDepth 100000 in
set_option maxHeartbeats 4000000 in
theorem gLa_nameOf (E : Nat × (Int → Int)) (d : Nat) {res : Int × WD} (a0 : Int) (w : WD) (h : fLa_nameOf a0 w = some res) : G E mLa_nameOf (d + 1) 0 [(0, pI a0)] [] w RF NN 0 0 (some (pI res.1), res.2, RF, NN) := by
  unfold fLa_nameOf at h
  refine g_iload_n (pc := 0) (j := 0) (dk d_mLa_nameOf 0 rfl) rfl ?_
  refine br h (fun hc1 h => ?_) (fun hc1 h => ?_)
  · refine g_look (pc := 1) (off := 69) (tgt := 70) (dk d_mLa_nameOf 1 rfl) rfl (by rw [hc1]; rfl) rfl ?_
    refine g_iconst (pc := 70) (dk d_mLa_nameOf 12 rfl) (by decide) ?_
    exact h_iret (pc := 71) rfl (dk d_mLa_nameOf 13 rfl) h
  · refine br h (fun hc2 h => ?_) (fun hc2 h => ?_)
    · refine g_look (pc := 1) (off := 65) (tgt := 66) (dk d_mLa_nameOf 1 rfl) rfl (by rw [hc2]; rfl) rfl ?_
      refine g_iconst (pc := 66) (dk d_mLa_nameOf 8 rfl) (by decide) ?_
      exact h_iret (pc := 67) rfl (dk d_mLa_nameOf 9 rfl) h
    · refine br h (fun hc3 h => ?_) (fun hc3 h => ?_)
      · refine g_look (pc := 1) (off := 67) (tgt := 68) (dk d_mLa_nameOf 1 rfl) rfl (by rw [hc3]; rfl) rfl ?_
        refine g_iconst (pc := 68) (dk d_mLa_nameOf 10 rfl) (by decide) ?_
        exact h_iret (pc := 69) rfl (dk d_mLa_nameOf 11 rfl) h
      · refine br h (fun hc4 h => ?_) (fun hc4 h => ?_)
        · refine g_look (pc := 1) (off := 59) (tgt := 60) (dk d_mLa_nameOf 1 rfl) rfl (by rw [hc4]; rfl) rfl ?_
          refine g_iconst (pc := 60) (dk d_mLa_nameOf 2 rfl) (by decide) ?_
          exact h_iret (pc := 61) rfl (dk d_mLa_nameOf 3 rfl) h
        · refine br h (fun hc5 h => ?_) (fun hc5 h => ?_)
          · refine g_look (pc := 1) (off := 61) (tgt := 62) (dk d_mLa_nameOf 1 rfl) rfl (by rw [hc5]; rfl) rfl ?_
            refine g_iconst (pc := 62) (dk d_mLa_nameOf 4 rfl) (by decide) ?_
            exact h_iret (pc := 63) rfl (dk d_mLa_nameOf 5 rfl) h
          · refine br h (fun hc6 h => ?_) (fun hc6 h => ?_)
            · refine g_look (pc := 1) (off := 63) (tgt := 64) (dk d_mLa_nameOf 1 rfl) rfl (by rw [hc6]; rfl) rfl ?_
              refine g_iconst (pc := 64) (dk d_mLa_nameOf 6 rfl) (by decide) ?_
              exact h_iret (pc := 65) rfl (dk d_mLa_nameOf 7 rfl) h
            · refine g_look (pc := 1) (off := 71) (tgt := 72) (dk d_mLa_nameOf 1 rfl) rfl (look_d _ _ _ ⟨by simp only; omega, by simp only; omega, by simp only; omega, by simp only; omega, by simp only; omega, by simp only; omega, trivial⟩) rfl ?_
              refine g_iconst (pc := 72) (dk d_mLa_nameOf 14 rfl) (by decide) ?_
              exact h_iret (pc := 73) rfl (dk d_mLa_nameOf 15 rfl) h
set_option maxRecDepth 100000 in
set_option maxHeartbeats 4000000 in
theorem kLa_nameOf (E : Nat × (Int → Int)) (d : Nat) {a0 : Int} {w w1 : WD} {r : Int} (h : fLa_nameOf a0 w = some (r, w1)) : CTi E mLa_nameOf (d + 1) [pI a0] w RF NN r w1 RF NN := by
  exact CTi_of (by decide +kernel) (Nat.le_of_ble_eq_true rfl) (Or.inl rfl) (gLa_nameOf (res := (r, w1)) E d a0 w h)
def fLa_readNumber_l4_b (rec : Int → Int → WD → Option WD) (K0 : Int → WD → Option WD) (x1 : Int) (x2 : Int) (w : WD) : Option WD := if 4 ≤ x2 then (K0 x1 w) else (ci (fLa_next w) <| fun (r2 : Int) (u1 : WD) => ci (fLa_isDigit r2 u1) <| fun (r5 : Int) (u4 : WD) => if r5 = 0 then (K0 x1 u4) else (ci (fLa_next u4) <| fun (r8 : Int) (u7 : WD) => bv (w32 ((w32 ((w32 (10 * x1)) + r8)) - 48)) <| fun (v1_10 : Int) => bw (up u7 6 6 (w32 ((u7 6 6) + 1))) <| fun (u11 : WD) => bv (w32 (x2 + 1)) <| fun (v2_12 : Int) => rec v1_10 v2_12 u11))
def fLa_readNumber_l4 (K0 : Int → WD → Option WD) : Nat → Int → Int → WD → Option WD
  | 0 => fun _ _ _ => none
  | k + 1 => fLa_readNumber_l4_b ( fLa_readNumber_l4 K0 k) K0
set_option maxRecDepth 100000 in
set_option maxHeartbeats 4000000 in
theorem fLa_readNumber_l4_b_ok (E : Nat × (Int → Int)) (d : Nat) {res : WD} {rec : Int → Int → WD → Option WD} (K0 : Int → WD → Option WD) (hrec : ∀ (x1 : Int) (x2 : Int) (w : WD), rec x1 x2 w = some res → G E mLa_readNumber (d + 2) 4 [(0, pR 6), (1, pI x1), (2, pI x2)] [] w RF NN 0 0 (none, res, RF, NN)) (hK0 : ∀ (x1 : Int) (w : WD), K0 x1 w = some res → G E mLa_readNumber (d + 2) 48 [(0, pR 6), (1, pI x1)] [] w RF NN 0 0 (none, res, RF, NN)) (x1 : Int) (x2 : Int) (w : WD) (h : fLa_readNumber_l4_b rec K0 x1 x2 w = some res) : G E mLa_readNumber (d + 2) 4 [(0, pR 6), (1, pI x1), (2, pI x2)] [] w RF NN 0 0 (none, res, RF, NN) := by
  unfold fLa_readNumber_l4_b at h
  refine g_iload_n (pc := 4) (j := 2) (dk d_mLa_readNumber 4 rfl) rfl ?_
  refine g_iconst (pc := 5) (dk d_mLa_readNumber 5 rfl) (by decide) ?_
  refine h_icmp_ge (pc := 6) (tgt := 48) (dk d_mLa_readNumber 6 rfl) rfl h (fun hc14 h => ?_) (fun hc14 h => ?_)
  · refine g_pick [0, 1] rfl (l' := [(0, pR 6), (1, pI x1)]) rfl ?_
    exact hK0 _ _ h
  · refine g_aload_n (pc := 9) (j := 0) (dk d_mLa_readNumber 7 rfl) rfl (by decide) ?_
    refine h_callVi (d := d + 1) (pc := 10) (na := 0) (av := []) (k0 := 6) po_6 ⟨_, rfl⟩ ⟨rfl, rfl⟩ (dk d_mLa_readNumber 8 rfl) lk_La_53 vm_mLa_next rfl rfl (Nat.le_of_ble_eq_true rfl) h (fun r2 u1 hq => kLa_next E (d + 0) hq) (fun r2 u1 hb3 h => ?_)
    refine h_callSi (d := d + 1) (pc := 13) (na := 1) (av := [pI r2]) ⟨rfl, rfl⟩ (dk d_mLa_readNumber 9 rfl) lk_La_73 vm_mLa_isDigit rfl rfl (Nat.le_of_ble_eq_true rfl) h (fun r5 u4 hq => kLa_isDigit E (d + 0) hq) (fun r5 u4 hb6 h => ?_)
    refine h_if_eq (pc := 16) (tgt := 48) (dk d_mLa_readNumber 10 rfl) rfl h (fun hc13 h => ?_) (fun hc13 h => ?_)
    · refine g_pick [0, 1] rfl (l' := [(0, pR 6), (1, pI x1)]) rfl ?_
      exact hK0 _ _ h
    · refine g_bipush (pc := 19) (dk d_mLa_readNumber 11 rfl) (by decide) ?_
      refine g_iload_n (pc := 21) (j := 1) (dk d_mLa_readNumber 12 rfl) rfl ?_
      refine g_imul (pc := 22) (dk d_mLa_readNumber 13 rfl) ?_
      refine g_aload_n (pc := 23) (j := 0) (dk d_mLa_readNumber 14 rfl) rfl (by decide) ?_
      refine h_callVi (d := d + 1) (pc := 24) (na := 0) (av := []) (k0 := 6) po_6 ⟨_, rfl⟩ ⟨rfl, rfl⟩ (dk d_mLa_readNumber 15 rfl) lk_La_53 vm_mLa_next rfl rfl (Nat.le_of_ble_eq_true rfl) h (fun r8 u7 hq => kLa_next E (d + 0) hq) (fun r8 u7 hb9 h => ?_)
      refine g_iadd (pc := 27) (dk d_mLa_readNumber 16 rfl) ?_
      refine g_bipush (pc := 28) (dk d_mLa_readNumber 17 rfl) (by decide) ?_
      refine g_isub (pc := 30) (dk d_mLa_readNumber 18 rfl) ?_
      refine h_bvI h (fun v1_10 h => ?_)
      refine g_istore_n (pc := 31) (l' := [(1, pI v1_10), (0, pR 6), (2, pI x2)]) (dk d_mLa_readNumber 19 rfl) (Nat.le_of_ble_eq_true rfl) rfl ?_
      refine g_aload_n (pc := 32) (j := 1) (dk d_mLa_readNumber 20 rfl) rfl (by decide) ?_
      refine g_dup (pc := 33) (dk d_mLa_readNumber 21 rfl) rfl ?_
      refine g_getI (pc := 34) fp_La_31 po_6 (dk d_mLa_readNumber 22 rfl) ?_
      refine g_iconst (pc := 37) (dk d_mLa_readNumber 23 rfl) (by decide) ?_
      refine g_iadd (pc := 38) (dk d_mLa_readNumber 24 rfl) ?_
      refine h_putI (pc := 39) fp_La_31 po_6 (dk d_mLa_readNumber 25 rfl) h (fun u11 h => ?_)
      refine h_iinc (pc := 42) (j := 2) (dk d_mLa_readNumber 26 rfl) rfl (by decide) (Nat.le_of_ble_eq_true rfl) h (fun v2_12 h => ?_)
      refine g_loc (l' := [(2, pI v2_12), (1, pI v1_10), (0, pR 6)]) rfl ?_
      refine g_goto (pc := 45) (tgt := 4) (dk d_mLa_readNumber 27 rfl) rfl ?_
      refine g_pick [2, 1, 0] rfl (l' := [(0, pR 6), (1, pI v1_10), (2, pI v2_12)]) rfl ?_
      exact hrec _ _ _ h
set_option maxRecDepth 100000 in
set_option maxHeartbeats 4000000 in
theorem fLa_readNumber_l4_ok (E : Nat × (Int → Int)) (d : Nat) {res : WD} (K0 : Int → WD → Option WD) (hK0 : ∀ (x1 : Int) (w : WD), K0 x1 w = some res → G E mLa_readNumber (d + 2) 48 [(0, pR 6), (1, pI x1)] [] w RF NN 0 0 (none, res, RF, NN)) : ∀ (k : Nat) (x1 : Int) (x2 : Int) (w : WD), fLa_readNumber_l4 K0 k x1 x2 w = some res → G E mLa_readNumber (d + 2) 4 [(0, pR 6), (1, pI x1), (2, pI x2)] [] w RF NN 0 0 (none, res, RF, NN) := by
  intro k
  induction k with
  | zero =>
    intro x1 x2 w h
    exact no_e h
  | succ k ih =>
    intro x1 x2 w h
    exact fLa_readNumber_l4_b_ok E d K0 ih hK0 x1 x2 w h
def fLa_readNumber (w : WD) : Option WD := fLa_readNumber_l4 (fun (v1_15 : Int) (u16 : WD) => cv (fLa_emit v1_15 u16) <| fun (u17 : WD) => some u17) FU 0 0 w
set_option maxRecDepth 100000 in
set_option maxHeartbeats 4000000 in
theorem gLa_readNumber (E : Nat × (Int → Int)) (d : Nat) {res : WD} (w : WD) (h : fLa_readNumber w = some res) : G E mLa_readNumber (d + 2) 0 [(0, pR 6)] [] w RF NN 0 0 (none, res, RF, NN) := by
  unfold fLa_readNumber at h
  refine g_iconst (pc := 0) (dk d_mLa_readNumber 0 rfl) (by decide) ?_
  refine g_istore_n (pc := 1) (l' := [(1, pI 0), (0, pR 6)]) (dk d_mLa_readNumber 1 rfl) (Nat.le_of_ble_eq_true rfl) rfl ?_
  refine g_iconst (pc := 2) (dk d_mLa_readNumber 2 rfl) (by decide) ?_
  refine g_istore_n (pc := 3) (l' := [(2, pI 0), (1, pI 0), (0, pR 6)]) (dk d_mLa_readNumber 3 rfl) (Nat.le_of_ble_eq_true rfl) rfl ?_
  refine g_pick [2, 1, 0] rfl (l' := [(0, pR 6), (1, pI 0), (2, pI 0)]) rfl ?_
  refine fLa_readNumber_l4_ok E d _  (fun v1_15 u16 h => ?_) FU _ _  _ h
  · refine g_aload_n (pc := 48) (j := 0) (dk d_mLa_readNumber 28 rfl) rfl (by decide) ?_
    refine g_iload_n (pc := 49) (j := 1) (dk d_mLa_readNumber 29 rfl) rfl ?_
    refine h_callVv (d := d + 1) (pc := 50) (na := 1) (av := [pI v1_15]) (k0 := 6) po_6 ⟨_, rfl⟩ ⟨rfl, rfl⟩ (dk d_mLa_readNumber 30 rfl) lk_La_61 vm_mLa_emit rfl rfl (Nat.le_of_ble_eq_true rfl) h (fun u17 hq => kLa_emit E (d + 0) hq) (fun u17 h => ?_)
    exact h_vret (pc := 53) (dk d_mLa_readNumber 31 rfl) h
set_option maxRecDepth 100000 in
set_option maxHeartbeats 4000000 in
theorem kLa_readNumber (E : Nat × (Int → Int)) (d : Nat) {w w1 : WD} (h : fLa_readNumber w = some w1) : CTv E mLa_readNumber (d + 2) [pR 6] w RF NN w1 RF NN := by
  exact CTv_of (by decide +kernel) (Nat.le_of_ble_eq_true rfl) rfl (gLa_readNumber (res := w1) E d w h)
def fLa_readTerm_o_l26_b (rec : Int → WD → Option (Int × WD)) (o_readTerm : Int → Int → WD → Option (Int × WD)) (o_readOperand : Int → WD → Option (Int × WD)) (y1 : Int) (y2 : Int) (x3 : Int) (w : WD) : Option (Int × WD) := if 120 ≤ x3 then (some (1, w)) else (ci (fLa_next w) <| fun (r5 : Int) (u4 : WD) => ci (fLa_levelOf r5 u4) <| fun (r8 : Int) (u7 : WD) => if r8 ≠ y1 then (some (1, u7)) else (ci (fLa_next u7) <| fun (r11 : Int) (u10 : WD) => bw (up u10 6 6 (w32 ((u10 6 6) + 1))) <| fun (u13 : WD) => ci (o_readTerm (w32 (y1 + 1)) y2 u13) <| fun (r15 : Int) (u14 : WD) => if r15 ≠ 0 then (cv (fLa_emit (w32 (-r11)) u14) <| fun (u17 : WD) => if y1 ≠ 2 then (bv (w32 (x3 + 1)) <| fun (v3_18 : Int) => rec v3_18 u17) else (some (1, u17))) else (some (0, u14))))
def fLa_readTerm_o_l26 (o_readTerm : Int → Int → WD → Option (Int × WD)) (o_readOperand : Int → WD → Option (Int × WD)) (y1 : Int) (y2 : Int) : Nat → Int → WD → Option (Int × WD)
  | 0 => fun _ _ => none
  | k + 1 => fLa_readTerm_o_l26_b ( fLa_readTerm_o_l26 o_readTerm o_readOperand y1 y2 k) o_readTerm o_readOperand y1 y2
set_option maxRecDepth 100000 in
set_option maxHeartbeats 4000000 in
theorem fLa_readTerm_o_l26_b_ok (E : Nat × (Int → Int)) (d : Nat) {res : Int × WD} {rec : Int → WD → Option (Int × WD)} (o_readTerm : Int → Int → WD → Option (Int × WD)) (o_readOperand : Int → WD → Option (Int × WD)) (hO_La_readTerm : ∀ {a0 : Int} {a1 : Int} {w w1 : WD} {r : Int}, o_readTerm a0 a1 w = some (r, w1) → CTi E mLa_readTerm (d + 3) [pR 6, pI a0, pI a1] w RF NN r w1 RF NN) (hO_La_readOperand : ∀ {a0 : Int} {w w1 : WD} {r : Int}, o_readOperand a0 w = some (r, w1) → CTi E mLa_readOperand (d + 3) [pR 6, pI a0] w RF NN r w1 RF NN) (y1 : Int) (y2 : Int) (hrec : ∀ (x3 : Int) (w : WD), rec x3 w = some res → G E mLa_readTerm (d + 4) 26 [(0, pR 6), (1, pI y1), (2, pI y2), (3, pI x3)] [] w RF NN 0 0 (some (pI res.1), res.2, RF, NN)) (x3 : Int) (w : WD) (h : fLa_readTerm_o_l26_b rec o_readTerm o_readOperand y1 y2 x3 w = some res) : G E mLa_readTerm (d + 4) 26 [(0, pR 6), (1, pI y1), (2, pI y2), (3, pI x3)] [] w RF NN 0 0 (some (pI res.1), res.2, RF, NN) := by
  unfold fLa_readTerm_o_l26_b at h
  refine g_iload_n (pc := 26) (j := 3) (dk d_mLa_readTerm 18 rfl) rfl ?_
  refine g_bipush (pc := 27) (dk d_mLa_readTerm 19 rfl) (by decide) ?_
  refine h_icmp_ge (pc := 29) (tgt := 93) (dk d_mLa_readTerm 20 rfl) rfl h (fun hc22 h => ?_) (fun hc22 h => ?_)
  · refine g_iconst (pc := 93) (dk d_mLa_readTerm 54 rfl) (by decide) ?_
    exact h_zret (pc := 94) (Or.inr rfl) (dk d_mLa_readTerm 55 rfl) h
  · refine g_aload_n (pc := 32) (j := 0) (dk d_mLa_readTerm 21 rfl) rfl (by decide) ?_
    refine h_callVi (d := d + 3) (pc := 33) (na := 0) (av := []) (k0 := 6) po_6 ⟨_, rfl⟩ ⟨rfl, rfl⟩ (dk d_mLa_readTerm 22 rfl) lk_La_53 vm_mLa_next rfl rfl (Nat.le_of_ble_eq_true rfl) h (fun r5 u4 hq => kLa_next E (d + 2) hq) (fun r5 u4 hb6 h => ?_)
    refine h_callSi (d := d + 3) (pc := 36) (na := 1) (av := [pI r5]) ⟨rfl, rfl⟩ (dk d_mLa_readTerm 23 rfl) lk_La_69 vm_mLa_levelOf rfl rfl (Nat.le_of_ble_eq_true rfl) h (fun r8 u7 hq => kLa_levelOf E (d + 2) hq) (fun r8 u7 hb9 h => ?_)
    refine g_iload_n (pc := 39) (j := 1) (dk d_mLa_readTerm 24 rfl) rfl ?_
    refine h_icmp_ne (pc := 40) (tgt := 93) (dk d_mLa_readTerm 25 rfl) rfl h (fun hc21 h => ?_) (fun hc21 h => ?_)
    · refine g_iconst (pc := 93) (dk d_mLa_readTerm 54 rfl) (by decide) ?_
      exact h_zret (pc := 94) (Or.inr rfl) (dk d_mLa_readTerm 55 rfl) h
    · refine g_aload_n (pc := 43) (j := 0) (dk d_mLa_readTerm 26 rfl) rfl (by decide) ?_
      refine h_callVi (d := d + 3) (pc := 44) (na := 0) (av := []) (k0 := 6) po_6 ⟨_, rfl⟩ ⟨rfl, rfl⟩ (dk d_mLa_readTerm 27 rfl) lk_La_53 vm_mLa_next rfl rfl (Nat.le_of_ble_eq_true rfl) h (fun r11 u10 hq => kLa_next E (d + 2) hq) (fun r11 u10 hb12 h => ?_)
      refine g_istore (pc := 47) (l' := [(4, pI r11), (0, pR 6), (1, pI y1), (2, pI y2), (3, pI x3)]) (dk d_mLa_readTerm 28 rfl) (Nat.le_of_ble_eq_true rfl) rfl ?_
      refine g_aload_n (pc := 49) (j := 1) (dk d_mLa_readTerm 29 rfl) rfl (by decide) ?_
      refine g_dup (pc := 50) (dk d_mLa_readTerm 30 rfl) rfl ?_
      refine g_getI (pc := 51) fp_La_31 po_6 (dk d_mLa_readTerm 31 rfl) ?_
      refine g_iconst (pc := 54) (dk d_mLa_readTerm 32 rfl) (by decide) ?_
      refine g_iadd (pc := 55) (dk d_mLa_readTerm 33 rfl) ?_
      refine h_putI (pc := 56) fp_La_31 po_6 (dk d_mLa_readTerm 34 rfl) h (fun u13 h => ?_)
      refine g_aload_n (pc := 59) (j := 1) (dk d_mLa_readTerm 35 rfl) rfl (by decide) ?_
      refine g_iload_n (pc := 60) (j := 2) (dk d_mLa_readTerm 36 rfl) rfl ?_
      refine g_iconst (pc := 61) (dk d_mLa_readTerm 37 rfl) (by decide) ?_
      refine g_iadd (pc := 62) (dk d_mLa_readTerm 38 rfl) ?_
      refine g_iload_n (pc := 63) (j := 3) (dk d_mLa_readTerm 39 rfl) rfl ?_
      refine h_callVi (d := d + 3) (pc := 64) (na := 2) (av := [pI (w32 (y1 + 1)), pI y2]) (k0 := 6) po_6 ⟨_, rfl⟩ ⟨rfl, rfl⟩ (dk d_mLa_readTerm 40 rfl) lk_La_57 vm_mLa_readTerm rfl rfl (Nat.le_of_ble_eq_true rfl) h (fun r15 u14 hq => hO_La_readTerm hq) (fun r15 u14 hb16 h => ?_)
      refine h_if_ne (pc := 67) (tgt := 72) (dk d_mLa_readTerm 41 rfl) rfl h (fun hc20 h => ?_) (fun hc20 h => ?_)
      · refine g_aload_n (pc := 72) (j := 1) (dk d_mLa_readTerm 44 rfl) rfl (by decide) ?_
        refine g_iload (pc := 73) (j := 0) (dk d_mLa_readTerm 45 rfl) rfl ?_
        refine g_ineg (pc := 75) (dk d_mLa_readTerm 46 rfl) ?_
        refine h_callVv (d := d + 3) (pc := 76) (na := 1) (av := [pI (w32 (-r11))]) (k0 := 6) po_6 ⟨_, rfl⟩ ⟨rfl, rfl⟩ (dk d_mLa_readTerm 47 rfl) lk_La_61 vm_mLa_emit rfl rfl (Nat.le_of_ble_eq_true rfl) h (fun u17 hq => kLa_emit E (d + 2) hq) (fun u17 h => ?_)
        refine g_iload_n (pc := 79) (j := 2) (dk d_mLa_readTerm 48 rfl) rfl ?_
        refine g_iconst (pc := 80) (dk d_mLa_readTerm 49 rfl) (by decide) ?_
        refine h_icmp_ne (pc := 81) (tgt := 87) (dk d_mLa_readTerm 50 rfl) rfl h (fun hc19 h => ?_) (fun hc19 h => ?_)
        · refine h_iinc (pc := 87) (j := 4) (dk d_mLa_readTerm 52 rfl) rfl (by decide) (Nat.le_of_ble_eq_true rfl) h (fun v3_18 h => ?_)
          refine g_loc (l' := [(3, pI v3_18), (4, pI r11), (0, pR 6), (1, pI y1), (2, pI y2)]) rfl ?_
          refine g_goto (pc := 90) (tgt := 26) (dk d_mLa_readTerm 53 rfl) rfl ?_
          refine g_pick [2, 3, 4, 0] rfl (l' := [(0, pR 6), (1, pI y1), (2, pI y2), (3, pI v3_18)]) rfl ?_
          exact hrec _ _ h
        · refine g_goto (pc := 84) (tgt := 93) (dk d_mLa_readTerm 51 rfl) rfl ?_
          refine g_iconst (pc := 93) (dk d_mLa_readTerm 54 rfl) (by decide) ?_
          exact h_zret (pc := 94) (Or.inr rfl) (dk d_mLa_readTerm 55 rfl) h
      · refine g_iconst (pc := 70) (dk d_mLa_readTerm 42 rfl) (by decide) ?_
        exact h_zret (pc := 71) (Or.inl rfl) (dk d_mLa_readTerm 43 rfl) h
set_option maxRecDepth 100000 in
set_option maxHeartbeats 4000000 in
theorem fLa_readTerm_o_l26_ok (E : Nat × (Int → Int)) (d : Nat) {res : Int × WD} (o_readTerm : Int → Int → WD → Option (Int × WD)) (o_readOperand : Int → WD → Option (Int × WD)) (hO_La_readTerm : ∀ {a0 : Int} {a1 : Int} {w w1 : WD} {r : Int}, o_readTerm a0 a1 w = some (r, w1) → CTi E mLa_readTerm (d + 3) [pR 6, pI a0, pI a1] w RF NN r w1 RF NN) (hO_La_readOperand : ∀ {a0 : Int} {w w1 : WD} {r : Int}, o_readOperand a0 w = some (r, w1) → CTi E mLa_readOperand (d + 3) [pR 6, pI a0] w RF NN r w1 RF NN) (y1 : Int) (y2 : Int) : ∀ (k : Nat) (x3 : Int) (w : WD), fLa_readTerm_o_l26 o_readTerm o_readOperand y1 y2 k x3 w = some res → G E mLa_readTerm (d + 4) 26 [(0, pR 6), (1, pI y1), (2, pI y2), (3, pI x3)] [] w RF NN 0 0 (some (pI res.1), res.2, RF, NN) := by
  intro k
  induction k with
  | zero =>
    intro x3 w h
    exact no_e h
  | succ k ih =>
    intro x3 w h
    exact fLa_readTerm_o_l26_b_ok E d o_readTerm o_readOperand hO_La_readTerm hO_La_readOperand y1 y2 ih x3 w h
def fLa_readTerm_o (o_readTerm : Int → Int → WD → Option (Int × WD)) (o_readOperand : Int → WD → Option (Int × WD)) (a1 : Int) (a2 : Int) (w : WD) : Option (Int × WD) := if a1 < 5 then (ci (o_readTerm (w32 (a1 + 1)) a2 w) <| fun (r2 : Int) (u1 : WD) => if r2 ≠ 0 then (fLa_readTerm_o_l26 o_readTerm o_readOperand a1 a2 FU 0 u1) else (some (0, u1))) else (ci (o_readOperand a2 w) <| fun (r25 : Int) (u24 : WD) => some (r25, u24))
set_option maxRecDepth 100000 in
set_option maxHeartbeats 4000000 in
theorem gLa_readTerm_o (E : Nat × (Int → Int)) (d : Nat) {res : Int × WD} (o_readTerm : Int → Int → WD → Option (Int × WD)) (o_readOperand : Int → WD → Option (Int × WD)) (hO_La_readTerm : ∀ {a0 : Int} {a1 : Int} {w w1 : WD} {r : Int}, o_readTerm a0 a1 w = some (r, w1) → CTi E mLa_readTerm (d + 3) [pR 6, pI a0, pI a1] w RF NN r w1 RF NN) (hO_La_readOperand : ∀ {a0 : Int} {w w1 : WD} {r : Int}, o_readOperand a0 w = some (r, w1) → CTi E mLa_readOperand (d + 3) [pR 6, pI a0] w RF NN r w1 RF NN) (a1 : Int) (a2 : Int) (w : WD) (h : fLa_readTerm_o o_readTerm o_readOperand a1 a2 w = some res) : G E mLa_readTerm (d + 4) 0 [(0, pR 6), (1, pI a1), (2, pI a2)] [] w RF NN 0 0 (some (pI res.1), res.2, RF, NN) := by
  unfold fLa_readTerm_o at h
  refine g_iload_n (pc := 0) (j := 1) (dk d_mLa_readTerm 0 rfl) rfl ?_
  refine g_iconst (pc := 1) (dk d_mLa_readTerm 1 rfl) (by decide) ?_
  refine h_icmp_lt (pc := 2) (tgt := 11) (dk d_mLa_readTerm 2 rfl) rfl h (fun hc27 h => ?_) (fun hc27 h => ?_)
  · refine g_aload_n (pc := 11) (j := 0) (dk d_mLa_readTerm 7 rfl) rfl (by decide) ?_
    refine g_iload_n (pc := 12) (j := 1) (dk d_mLa_readTerm 8 rfl) rfl ?_
    refine g_iconst (pc := 13) (dk d_mLa_readTerm 9 rfl) (by decide) ?_
    refine g_iadd (pc := 14) (dk d_mLa_readTerm 10 rfl) ?_
    refine g_iload_n (pc := 15) (j := 2) (dk d_mLa_readTerm 11 rfl) rfl ?_
    refine h_callVi (d := d + 3) (pc := 16) (na := 2) (av := [pI (w32 (a1 + 1)), pI a2]) (k0 := 6) po_6 ⟨_, rfl⟩ ⟨rfl, rfl⟩ (dk d_mLa_readTerm 12 rfl) lk_La_57 vm_mLa_readTerm rfl rfl (Nat.le_of_ble_eq_true rfl) h (fun r2 u1 hq => hO_La_readTerm hq) (fun r2 u1 hb3 h => ?_)
    refine h_if_ne (pc := 19) (tgt := 24) (dk d_mLa_readTerm 13 rfl) rfl h (fun hc23 h => ?_) (fun hc23 h => ?_)
    · refine g_iconst (pc := 24) (dk d_mLa_readTerm 16 rfl) (by decide) ?_
      refine g_istore_n (pc := 25) (l' := [(3, pI 0), (0, pR 6), (1, pI a1), (2, pI a2)]) (dk d_mLa_readTerm 17 rfl) (Nat.le_of_ble_eq_true rfl) rfl ?_
      refine g_pick [1, 2, 3, 0] rfl (l' := [(0, pR 6), (1, pI a1), (2, pI a2), (3, pI 0)]) rfl ?_
      refine fLa_readTerm_o_l26_ok E d o_readTerm o_readOperand hO_La_readTerm hO_La_readOperand a1 a2 FU _  _ h
    · refine g_iconst (pc := 22) (dk d_mLa_readTerm 14 rfl) (by decide) ?_
      exact h_zret (pc := 23) (Or.inl rfl) (dk d_mLa_readTerm 15 rfl) h
  · refine g_aload_n (pc := 5) (j := 0) (dk d_mLa_readTerm 3 rfl) rfl (by decide) ?_
    refine g_iload_n (pc := 6) (j := 2) (dk d_mLa_readTerm 4 rfl) rfl ?_
    refine h_callVi (d := d + 3) (pc := 7) (na := 1) (av := [pI a2]) (k0 := 6) po_6 ⟨_, rfl⟩ ⟨rfl, rfl⟩ (dk d_mLa_readTerm 5 rfl) lk_La_65 vm_mLa_readOperand rfl rfl (Nat.le_of_ble_eq_true rfl) h (fun r25 u24 hq => hO_La_readOperand hq) (fun r25 u24 hb26 h => ?_)
    exact h_zret (pc := 10) (hb26 rfl) (dk d_mLa_readTerm 6 rfl) h
set_option maxRecDepth 100000 in
set_option maxHeartbeats 4000000 in
theorem kLa_readTerm_o (E : Nat × (Int → Int)) (d : Nat) (o_readTerm : Int → Int → WD → Option (Int × WD)) (o_readOperand : Int → WD → Option (Int × WD)) (hO_La_readTerm : ∀ {a0 : Int} {a1 : Int} {w w1 : WD} {r : Int}, o_readTerm a0 a1 w = some (r, w1) → CTi E mLa_readTerm (d + 3) [pR 6, pI a0, pI a1] w RF NN r w1 RF NN) (hO_La_readOperand : ∀ {a0 : Int} {w w1 : WD} {r : Int}, o_readOperand a0 w = some (r, w1) → CTi E mLa_readOperand (d + 3) [pR 6, pI a0] w RF NN r w1 RF NN) {a1 : Int} {a2 : Int} {w w1 : WD} {r : Int} (h : fLa_readTerm_o o_readTerm o_readOperand a1 a2 w = some (r, w1)) : CTi E mLa_readTerm (d + 4) [pR 6, pI a1, pI a2] w RF NN r w1 RF NN := by
  exact CTi_of (by decide +kernel) (Nat.le_of_ble_eq_true rfl) (Or.inr rfl) (gLa_readTerm_o (res := (r, w1)) E d o_readTerm o_readOperand hO_La_readTerm hO_La_readOperand a1 a2 w h)
def fLa_readOperand_o (o_readInside : Int → WD → Option (Int × WD)) (o_readSigned : Int → Int → WD → Option (Int × WD)) (a1 : Int) (w : WD) : Option (Int × WD) := ci (fLa_next w) <| fun (r2 : Int) (u1 : WD) => ci (fLa_isDigit r2 u1) <| fun (r5 : Int) (u4 : WD) => if r5 = 0 then (ci (fLa_nameOf r2 u4) <| fun (r8 : Int) (u7 : WD) => if r8 < 0 then (jn (β := Int → WD → Option (Int × WD)) (fun (s10 : Int) (u11 : WD) => if s10 = 0 then (some (0, u11)) else (if a1 < 6 then (bw (up u11 6 6 (w32 ((u11 6 6) + 1))) <| fun (u12 : WD) => if r2 ≠ 40 then (ci (o_readSigned r2 (w32 (a1 + 1)) u12) <| fun (r14 : Int) (u13 : WD) => some (r14, u13)) else (ci (o_readInside (w32 (a1 + 1)) u12) <| fun (r17 : Int) (u16 : WD) => some (r17, u16))) else (some (0, u11)))) <| fun J22 => jn (β := WD → Option (Int × WD)) (fun (u23 : WD) => J22 1 u23) <| fun J24 => if r2 = 40 then (J24 u7) else (if r2 = 33 then (J24 u7) else (if r2 ≠ 45 then (J22 0 u7) else (J24 u7)))) else (bw (up u7 6 6 (w32 ((u7 6 6) + 1))) <| fun (u28 : WD) => cv (fLa_emit (w32 (10000 + r8)) u28) <| fun (u29 : WD) => some (1, u29))) else (cv (fLa_readNumber u4) <| fun (u31 : WD) => some (1, u31))
set_option maxRecDepth 100000 in
set_option maxHeartbeats 4000000 in
theorem gLa_readOperand_o (E : Nat × (Int → Int)) (d : Nat) {res : Int × WD} (o_readInside : Int → WD → Option (Int × WD)) (o_readSigned : Int → Int → WD → Option (Int × WD)) (hO_La_readInside : ∀ {a0 : Int} {w w1 : WD} {r : Int}, o_readInside a0 w = some (r, w1) → CTi E mLa_readInside (d + 3) [pR 6, pI a0] w RF NN r w1 RF NN) (hO_La_readSigned : ∀ {a0 : Int} {a1 : Int} {w w1 : WD} {r : Int}, o_readSigned a0 a1 w = some (r, w1) → CTi E mLa_readSigned (d + 3) [pR 6, pI a0, pI a1] w RF NN r w1 RF NN) (a1 : Int) (w : WD) (h : fLa_readOperand_o o_readInside o_readSigned a1 w = some res) : G E mLa_readOperand (d + 4) 0 [(0, pR 6), (1, pI a1)] [] w RF NN 0 0 (some (pI res.1), res.2, RF, NN) := by
  unfold fLa_readOperand_o at h
  refine g_aload_n (pc := 0) (j := 0) (dk d_mLa_readOperand 0 rfl) rfl (by decide) ?_
  refine h_callVi (d := d + 3) (pc := 1) (na := 0) (av := []) (k0 := 6) po_6 ⟨_, rfl⟩ ⟨rfl, rfl⟩ (dk d_mLa_readOperand 1 rfl) lk_La_53 vm_mLa_next rfl rfl (Nat.le_of_ble_eq_true rfl) h (fun r2 u1 hq => kLa_next E (d + 2) hq) (fun r2 u1 hb3 h => ?_)
  refine g_istore_n (pc := 4) (l' := [(2, pI r2), (0, pR 6), (1, pI a1)]) (dk d_mLa_readOperand 2 rfl) (Nat.le_of_ble_eq_true rfl) rfl ?_
  refine g_iload_n (pc := 5) (j := 0) (dk d_mLa_readOperand 3 rfl) rfl ?_
  refine h_callSi (d := d + 3) (pc := 6) (na := 1) (av := [pI r2]) ⟨rfl, rfl⟩ (dk d_mLa_readOperand 4 rfl) lk_La_73 vm_mLa_isDigit rfl rfl (Nat.le_of_ble_eq_true rfl) h (fun r5 u4 hq => kLa_isDigit E (d + 2) hq) (fun r5 u4 hb6 h => ?_)
  refine h_if_eq (pc := 9) (tgt := 18) (dk d_mLa_readOperand 5 rfl) rfl h (fun hc32 h => ?_) (fun hc32 h => ?_)
  · refine g_iload_n (pc := 18) (j := 0) (dk d_mLa_readOperand 10 rfl) rfl ?_
    refine h_callSi (d := d + 3) (pc := 19) (na := 1) (av := [pI r2]) ⟨rfl, rfl⟩ (dk d_mLa_readOperand 11 rfl) lk_La_79 vm_mLa_nameOf rfl rfl (Nat.le_of_ble_eq_true rfl) h (fun r8 u7 hq => kLa_nameOf E (d + 2) hq) (fun r8 u7 hb9 h => ?_)
    refine g_istore_n (pc := 22) (l' := [(3, pI r8), (2, pI r2), (0, pR 6), (1, pI a1)]) (dk d_mLa_readOperand 12 rfl) (Nat.le_of_ble_eq_true rfl) rfl ?_
    refine g_iload_n (pc := 23) (j := 0) (dk d_mLa_readOperand 13 rfl) rfl ?_
    refine h_if_lt (pc := 24) (tgt := 48) (dk d_mLa_readOperand 14 rfl) rfl h (fun hc30 h => ?_) (fun hc30 h => ?_)
    · refine g_iload_n (pc := 48) (j := 1) (dk d_mLa_readOperand 28 rfl) rfl ?_
      refine g_bipush (pc := 49) (dk d_mLa_readOperand 29 rfl) (by decide) ?_
      refine jn_e (fun J => ∀ (s10 : Int) (u11 : WD), J s10 u11 = some res → G E mLa_readOperand (d + 4) 71 [(0, pR 6), (1, pI a1), (2, pI r2)] [pI s10] u11 RF NN 0 0 (some (pI res.1), res.2, RF, NN)) h (fun s10 u11 h => ?_) (fun J22 hJ22 h => ?_)
      · refine g_istore (pc := 71) (l' := [(4, pI s10), (0, pR 6), (1, pI a1), (2, pI r2)]) (dk d_mLa_readOperand 40 rfl) (Nat.le_of_ble_eq_true rfl) rfl ?_
        refine g_iload (pc := 73) (j := 0) (dk d_mLa_readOperand 41 rfl) rfl ?_
        refine h_if_eq (pc := 75) (tgt := 84) (dk d_mLa_readOperand 42 rfl) rfl h (fun hc21 h => ?_) (fun hc21 h => ?_)
        · refine g_iconst (pc := 84) (dk d_mLa_readOperand 46 rfl) (by decide) ?_
          exact h_zret (pc := 85) (Or.inl rfl) (dk d_mLa_readOperand 47 rfl) h
        · refine g_iload_n (pc := 78) (j := 2) (dk d_mLa_readOperand 43 rfl) rfl ?_
          refine g_bipush (pc := 79) (dk d_mLa_readOperand 44 rfl) (by decide) ?_
          refine h_icmp_lt (pc := 81) (tgt := 86) (dk d_mLa_readOperand 45 rfl) rfl h (fun hc20 h => ?_) (fun hc20 h => ?_)
          · refine g_aload_n (pc := 86) (j := 1) (dk d_mLa_readOperand 48 rfl) rfl (by decide) ?_
            refine g_dup (pc := 87) (dk d_mLa_readOperand 49 rfl) rfl ?_
            refine g_getI (pc := 88) fp_La_31 po_6 (dk d_mLa_readOperand 50 rfl) ?_
            refine g_iconst (pc := 91) (dk d_mLa_readOperand 51 rfl) (by decide) ?_
            refine g_iadd (pc := 92) (dk d_mLa_readOperand 52 rfl) ?_
            refine h_putI (pc := 93) fp_La_31 po_6 (dk d_mLa_readOperand 53 rfl) h (fun u12 h => ?_)
            refine g_iload_n (pc := 96) (j := 3) (dk d_mLa_readOperand 54 rfl) rfl ?_
            refine g_bipush (pc := 97) (dk d_mLa_readOperand 55 rfl) (by decide) ?_
            refine h_icmp_ne (pc := 99) (tgt := 112) (dk d_mLa_readOperand 56 rfl) rfl h (fun hc19 h => ?_) (fun hc19 h => ?_)
            · refine g_aload_n (pc := 112) (j := 1) (dk d_mLa_readOperand 63 rfl) rfl (by decide) ?_
              refine g_iload_n (pc := 113) (j := 3) (dk d_mLa_readOperand 64 rfl) rfl ?_
              refine g_iload_n (pc := 114) (j := 2) (dk d_mLa_readOperand 65 rfl) rfl ?_
              refine g_iconst (pc := 115) (dk d_mLa_readOperand 66 rfl) (by decide) ?_
              refine g_iadd (pc := 116) (dk d_mLa_readOperand 67 rfl) ?_
              refine h_callVi (d := d + 3) (pc := 117) (na := 2) (av := [pI r2, pI (w32 (a1 + 1))]) (k0 := 6) po_6 ⟨_, rfl⟩ ⟨rfl, rfl⟩ (dk d_mLa_readOperand 68 rfl) lk_La_85 vm_mLa_readSigned rfl rfl (Nat.le_of_ble_eq_true rfl) h (fun r14 u13 hq => hO_La_readSigned hq) (fun r14 u13 hb15 h => ?_)
              exact h_zret (pc := 120) (hb15 rfl) (dk d_mLa_readOperand 69 rfl) h
            · refine g_aload_n (pc := 102) (j := 1) (dk d_mLa_readOperand 57 rfl) rfl (by decide) ?_
              refine g_iload_n (pc := 103) (j := 2) (dk d_mLa_readOperand 58 rfl) rfl ?_
              refine g_iconst (pc := 104) (dk d_mLa_readOperand 59 rfl) (by decide) ?_
              refine g_iadd (pc := 105) (dk d_mLa_readOperand 60 rfl) ?_
              refine h_callVi (d := d + 3) (pc := 106) (na := 1) (av := [pI (w32 (a1 + 1))]) (k0 := 6) po_6 ⟨_, rfl⟩ ⟨rfl, rfl⟩ (dk d_mLa_readOperand 61 rfl) lk_La_82 vm_mLa_readInside rfl rfl (Nat.le_of_ble_eq_true rfl) h (fun r17 u16 hq => hO_La_readInside hq) (fun r17 u16 hb18 h => ?_)
              refine g_goto (pc := 109) (tgt := 120) (dk d_mLa_readOperand 62 rfl) rfl ?_
              exact h_zret (pc := 120) (hb18 rfl) (dk d_mLa_readOperand 69 rfl) h
          · refine g_iconst (pc := 84) (dk d_mLa_readOperand 46 rfl) (by decide) ?_
            exact h_zret (pc := 85) (Or.inl rfl) (dk d_mLa_readOperand 47 rfl) h
      · refine jn_e (fun J => ∀ (u23 : WD), J u23 = some res → G E mLa_readOperand (d + 4) 66 [(0, pR 6), (1, pI a1), (2, pI r2)] [] u23 RF NN 0 0 (some (pI res.1), res.2, RF, NN)) h (fun u23 h => ?_) (fun J24 hJ24 h => ?_)
        · refine g_iconst (pc := 66) (dk d_mLa_readOperand 37 rfl) (by decide) ?_
          refine g_goto (pc := 67) (tgt := 71) (dk d_mLa_readOperand 38 rfl) rfl ?_
          exact hJ22 _ _ h
        · refine h_icmp_eq (pc := 51) (tgt := 66) (dk d_mLa_readOperand 30 rfl) rfl h (fun hc27 h => ?_) (fun hc27 h => ?_)
          · refine g_pick [2, 3, 1] rfl (l' := [(0, pR 6), (1, pI a1), (2, pI r2)]) rfl ?_
            exact hJ24 _ h
          · refine g_iload_n (pc := 54) (j := 1) (dk d_mLa_readOperand 31 rfl) rfl ?_
            refine g_bipush (pc := 55) (dk d_mLa_readOperand 32 rfl) (by decide) ?_
            refine h_icmp_eq (pc := 57) (tgt := 66) (dk d_mLa_readOperand 33 rfl) rfl h (fun hc26 h => ?_) (fun hc26 h => ?_)
            · refine g_pick [2, 3, 1] rfl (l' := [(0, pR 6), (1, pI a1), (2, pI r2)]) rfl ?_
              exact hJ24 _ h
            · refine g_iload_n (pc := 60) (j := 1) (dk d_mLa_readOperand 34 rfl) rfl ?_
              refine g_bipush (pc := 61) (dk d_mLa_readOperand 35 rfl) (by decide) ?_
              refine h_icmp_ne (pc := 63) (tgt := 70) (dk d_mLa_readOperand 36 rfl) rfl h (fun hc25 h => ?_) (fun hc25 h => ?_)
              · refine g_iconst (pc := 70) (dk d_mLa_readOperand 39 rfl) (by decide) ?_
                refine g_pick [2, 3, 1] rfl (l' := [(0, pR 6), (1, pI a1), (2, pI r2)]) rfl ?_
                exact hJ22 _ _ h
              · refine g_pick [2, 3, 1] rfl (l' := [(0, pR 6), (1, pI a1), (2, pI r2)]) rfl ?_
                exact hJ24 _ h
    · refine g_aload_n (pc := 27) (j := 2) (dk d_mLa_readOperand 15 rfl) rfl (by decide) ?_
      refine g_dup (pc := 28) (dk d_mLa_readOperand 16 rfl) rfl ?_
      refine g_getI (pc := 29) fp_La_31 po_6 (dk d_mLa_readOperand 17 rfl) ?_
      refine g_iconst (pc := 32) (dk d_mLa_readOperand 18 rfl) (by decide) ?_
      refine g_iadd (pc := 33) (dk d_mLa_readOperand 19 rfl) ?_
      refine h_putI (pc := 34) fp_La_31 po_6 (dk d_mLa_readOperand 20 rfl) h (fun u28 h => ?_)
      refine g_aload_n (pc := 37) (j := 2) (dk d_mLa_readOperand 21 rfl) rfl (by decide) ?_
      refine g_sipush (pc := 38) (dk d_mLa_readOperand 22 rfl) (by decide) ?_
      refine g_iload_n (pc := 41) (j := 0) (dk d_mLa_readOperand 23 rfl) rfl ?_
      refine g_iadd (pc := 42) (dk d_mLa_readOperand 24 rfl) ?_
      refine h_callVv (d := d + 3) (pc := 43) (na := 1) (av := [pI (w32 (10000 + r8))]) (k0 := 6) po_6 ⟨_, rfl⟩ ⟨rfl, rfl⟩ (dk d_mLa_readOperand 25 rfl) lk_La_61 vm_mLa_emit rfl rfl (Nat.le_of_ble_eq_true rfl) h (fun u29 hq => kLa_emit E (d + 2) hq) (fun u29 h => ?_)
      refine g_iconst (pc := 46) (dk d_mLa_readOperand 26 rfl) (by decide) ?_
      exact h_zret (pc := 47) (Or.inr rfl) (dk d_mLa_readOperand 27 rfl) h
  · refine g_aload_n (pc := 12) (j := 1) (dk d_mLa_readOperand 6 rfl) rfl (by decide) ?_
    refine h_callVv (d := d + 3) (pc := 13) (na := 0) (av := []) (k0 := 6) po_6 ⟨_, rfl⟩ ⟨rfl, rfl⟩ (dk d_mLa_readOperand 7 rfl) lk_La_76 vm_mLa_readNumber rfl rfl (Nat.le_of_ble_eq_true rfl) h (fun u31 hq => kLa_readNumber E (d + 1) hq) (fun u31 h => ?_)
    refine g_iconst (pc := 16) (dk d_mLa_readOperand 8 rfl) (by decide) ?_
    exact h_zret (pc := 17) (Or.inr rfl) (dk d_mLa_readOperand 9 rfl) h
set_option maxRecDepth 100000 in
set_option maxHeartbeats 4000000 in
theorem kLa_readOperand_o (E : Nat × (Int → Int)) (d : Nat) (o_readInside : Int → WD → Option (Int × WD)) (o_readSigned : Int → Int → WD → Option (Int × WD)) (hO_La_readInside : ∀ {a0 : Int} {w w1 : WD} {r : Int}, o_readInside a0 w = some (r, w1) → CTi E mLa_readInside (d + 3) [pR 6, pI a0] w RF NN r w1 RF NN) (hO_La_readSigned : ∀ {a0 : Int} {a1 : Int} {w w1 : WD} {r : Int}, o_readSigned a0 a1 w = some (r, w1) → CTi E mLa_readSigned (d + 3) [pR 6, pI a0, pI a1] w RF NN r w1 RF NN) {a1 : Int} {w w1 : WD} {r : Int} (h : fLa_readOperand_o o_readInside o_readSigned a1 w = some (r, w1)) : CTi E mLa_readOperand (d + 4) [pR 6, pI a1] w RF NN r w1 RF NN := by
  exact CTi_of (by decide +kernel) (Nat.le_of_ble_eq_true rfl) (Or.inr rfl) (gLa_readOperand_o (res := (r, w1)) E d o_readInside o_readSigned hO_La_readInside hO_La_readSigned a1 w h)
def fLa_readInside_o (o_readTerm : Int → Int → WD → Option (Int × WD)) (a1 : Int) (w : WD) : Option (Int × WD) := ci (o_readTerm 0 a1 w) <| fun (r2 : Int) (u1 : WD) => if r2 = 0 then (some (0, u1)) else (ci (fLa_next u1) <| fun (r5 : Int) (u4 : WD) => if r5 = 41 then (bw (up u4 6 6 (w32 ((u4 6 6) + 1))) <| fun (u7 : WD) => some (1, u7)) else (some (0, u4)))
set_option maxRecDepth 100000 in
set_option maxHeartbeats 4000000 in
theorem gLa_readInside_o (E : Nat × (Int → Int)) (d : Nat) {res : Int × WD} (o_readTerm : Int → Int → WD → Option (Int × WD)) (hO_La_readTerm : ∀ {a0 : Int} {a1 : Int} {w w1 : WD} {r : Int}, o_readTerm a0 a1 w = some (r, w1) → CTi E mLa_readTerm (d + 3) [pR 6, pI a0, pI a1] w RF NN r w1 RF NN) (a1 : Int) (w : WD) (h : fLa_readInside_o o_readTerm a1 w = some res) : G E mLa_readInside (d + 4) 0 [(0, pR 6), (1, pI a1)] [] w RF NN 0 0 (some (pI res.1), res.2, RF, NN) := by
  unfold fLa_readInside_o at h
  refine g_aload_n (pc := 0) (j := 0) (dk d_mLa_readInside 0 rfl) rfl (by decide) ?_
  refine g_iconst (pc := 1) (dk d_mLa_readInside 1 rfl) (by decide) ?_
  refine g_iload_n (pc := 2) (j := 1) (dk d_mLa_readInside 2 rfl) rfl ?_
  refine h_callVi (d := d + 3) (pc := 3) (na := 2) (av := [pI 0, pI a1]) (k0 := 6) po_6 ⟨_, rfl⟩ ⟨rfl, rfl⟩ (dk d_mLa_readInside 3 rfl) lk_La_57 vm_mLa_readTerm rfl rfl (Nat.le_of_ble_eq_true rfl) h (fun r2 u1 hq => hO_La_readTerm hq) (fun r2 u1 hb3 h => ?_)
  refine h_if_eq (pc := 6) (tgt := 18) (dk d_mLa_readInside 4 rfl) rfl h (fun hc9 h => ?_) (fun hc9 h => ?_)
  · refine g_iconst (pc := 18) (dk d_mLa_readInside 9 rfl) (by decide) ?_
    exact h_zret (pc := 19) (Or.inl rfl) (dk d_mLa_readInside 10 rfl) h
  · refine g_aload_n (pc := 9) (j := 0) (dk d_mLa_readInside 5 rfl) rfl (by decide) ?_
    refine h_callVi (d := d + 3) (pc := 10) (na := 0) (av := []) (k0 := 6) po_6 ⟨_, rfl⟩ ⟨rfl, rfl⟩ (dk d_mLa_readInside 6 rfl) lk_La_53 vm_mLa_next rfl rfl (Nat.le_of_ble_eq_true rfl) h (fun r5 u4 hq => kLa_next E (d + 2) hq) (fun r5 u4 hb6 h => ?_)
    refine g_bipush (pc := 13) (dk d_mLa_readInside 7 rfl) (by decide) ?_
    refine h_icmp_eq (pc := 15) (tgt := 20) (dk d_mLa_readInside 8 rfl) rfl h (fun hc8 h => ?_) (fun hc8 h => ?_)
    · refine g_aload_n (pc := 20) (j := 0) (dk d_mLa_readInside 11 rfl) rfl (by decide) ?_
      refine g_dup (pc := 21) (dk d_mLa_readInside 12 rfl) rfl ?_
      refine g_getI (pc := 22) fp_La_31 po_6 (dk d_mLa_readInside 13 rfl) ?_
      refine g_iconst (pc := 25) (dk d_mLa_readInside 14 rfl) (by decide) ?_
      refine g_iadd (pc := 26) (dk d_mLa_readInside 15 rfl) ?_
      refine h_putI (pc := 27) fp_La_31 po_6 (dk d_mLa_readInside 16 rfl) h (fun u7 h => ?_)
      refine g_iconst (pc := 30) (dk d_mLa_readInside 17 rfl) (by decide) ?_
      exact h_zret (pc := 31) (Or.inr rfl) (dk d_mLa_readInside 18 rfl) h
    · refine g_iconst (pc := 18) (dk d_mLa_readInside 9 rfl) (by decide) ?_
      exact h_zret (pc := 19) (Or.inl rfl) (dk d_mLa_readInside 10 rfl) h
set_option maxRecDepth 100000 in
set_option maxHeartbeats 4000000 in
theorem kLa_readInside_o (E : Nat × (Int → Int)) (d : Nat) (o_readTerm : Int → Int → WD → Option (Int × WD)) (hO_La_readTerm : ∀ {a0 : Int} {a1 : Int} {w w1 : WD} {r : Int}, o_readTerm a0 a1 w = some (r, w1) → CTi E mLa_readTerm (d + 3) [pR 6, pI a0, pI a1] w RF NN r w1 RF NN) {a1 : Int} {w w1 : WD} {r : Int} (h : fLa_readInside_o o_readTerm a1 w = some (r, w1)) : CTi E mLa_readInside (d + 4) [pR 6, pI a1] w RF NN r w1 RF NN := by
  exact CTi_of (by decide +kernel) (Nat.le_of_ble_eq_true rfl) (Or.inr rfl) (gLa_readInside_o (res := (r, w1)) E d o_readTerm hO_La_readTerm a1 w h)
def fLa_readSigned_o (o_readOperand : Int → WD → Option (Int × WD)) (a1 : Int) (a2 : Int) (w : WD) : Option (Int × WD) := ci (o_readOperand a2 w) <| fun (r2 : Int) (u1 : WD) => if r2 ≠ 0 then (jn (β := Int → WD → Option (Int × WD)) (fun (s4 : Int) (u5 : WD) => cv (fLa_emit s4 u5) <| fun (u6 : WD) => some (1, u6)) <| fun J7 => if a1 ≠ 33 then (J7 (-1) u1) else (J7 (-33) u1)) else (some (0, u1))
set_option maxRecDepth 100000 in
set_option maxHeartbeats 4000000 in
theorem gLa_readSigned_o (E : Nat × (Int → Int)) (d : Nat) {res : Int × WD} (o_readOperand : Int → WD → Option (Int × WD)) (hO_La_readOperand : ∀ {a0 : Int} {w w1 : WD} {r : Int}, o_readOperand a0 w = some (r, w1) → CTi E mLa_readOperand (d + 3) [pR 6, pI a0] w RF NN r w1 RF NN) (a1 : Int) (a2 : Int) (w : WD) (h : fLa_readSigned_o o_readOperand a1 a2 w = some res) : G E mLa_readSigned (d + 4) 0 [(0, pR 6), (1, pI a1), (2, pI a2)] [] w RF NN 0 0 (some (pI res.1), res.2, RF, NN) := by
  unfold fLa_readSigned_o at h
  refine g_aload_n (pc := 0) (j := 0) (dk d_mLa_readSigned 0 rfl) rfl (by decide) ?_
  refine g_iload_n (pc := 1) (j := 2) (dk d_mLa_readSigned 1 rfl) rfl ?_
  refine h_callVi (d := d + 3) (pc := 2) (na := 1) (av := [pI a2]) (k0 := 6) po_6 ⟨_, rfl⟩ ⟨rfl, rfl⟩ (dk d_mLa_readSigned 2 rfl) lk_La_65 vm_mLa_readOperand rfl rfl (Nat.le_of_ble_eq_true rfl) h (fun r2 u1 hq => hO_La_readOperand hq) (fun r2 u1 hb3 h => ?_)
  refine h_if_ne (pc := 5) (tgt := 10) (dk d_mLa_readSigned 3 rfl) rfl h (fun hc9 h => ?_) (fun hc9 h => ?_)
  · refine g_aload_n (pc := 10) (j := 0) (dk d_mLa_readSigned 6 rfl) rfl (by decide) ?_
    refine g_iload_n (pc := 11) (j := 1) (dk d_mLa_readSigned 7 rfl) rfl ?_
    refine g_bipush (pc := 12) (dk d_mLa_readSigned 8 rfl) (by decide) ?_
    refine jn_e (fun J => ∀ (s4 : Int) (u5 : WD), J s4 u5 = some res → G E mLa_readSigned (d + 4) 23 [] [pI s4, pR 6] u5 RF NN 0 0 (some (pI res.1), res.2, RF, NN)) h (fun s4 u5 h => ?_) (fun J7 hJ7 h => ?_)
    · refine h_callVv (d := d + 3) (pc := 23) (na := 1) (av := [pI s4]) (k0 := 6) po_6 ⟨_, rfl⟩ ⟨rfl, rfl⟩ (dk d_mLa_readSigned 13 rfl) lk_La_61 vm_mLa_emit rfl rfl (Nat.le_of_ble_eq_true rfl) h (fun u6 hq => kLa_emit E (d + 2) hq) (fun u6 h => ?_)
      refine g_iconst (pc := 26) (dk d_mLa_readSigned 14 rfl) (by decide) ?_
      exact h_zret (pc := 27) (Or.inr rfl) (dk d_mLa_readSigned 15 rfl) h
    · refine h_icmp_ne (pc := 14) (tgt := 22) (dk d_mLa_readSigned 9 rfl) rfl h (fun hc8 h => ?_) (fun hc8 h => ?_)
      · refine g_iconst (pc := 22) (dk d_mLa_readSigned 12 rfl) (by decide) ?_
        refine g_pick [] rfl (l' := []) rfl ?_
        exact hJ7 _ _ h
      · refine g_bipush (pc := 17) (dk d_mLa_readSigned 10 rfl) (by decide) ?_
        refine g_goto (pc := 19) (tgt := 23) (dk d_mLa_readSigned 11 rfl) rfl ?_
        refine g_pick [] rfl (l' := []) rfl ?_
        exact hJ7 _ _ h
  · refine g_iconst (pc := 8) (dk d_mLa_readSigned 4 rfl) (by decide) ?_
    exact h_zret (pc := 9) (Or.inl rfl) (dk d_mLa_readSigned 5 rfl) h
set_option maxRecDepth 100000 in
set_option maxHeartbeats 4000000 in
theorem kLa_readSigned_o (E : Nat × (Int → Int)) (d : Nat) (o_readOperand : Int → WD → Option (Int × WD)) (hO_La_readOperand : ∀ {a0 : Int} {w w1 : WD} {r : Int}, o_readOperand a0 w = some (r, w1) → CTi E mLa_readOperand (d + 3) [pR 6, pI a0] w RF NN r w1 RF NN) {a1 : Int} {a2 : Int} {w w1 : WD} {r : Int} (h : fLa_readSigned_o o_readOperand a1 a2 w = some (r, w1)) : CTi E mLa_readSigned (d + 4) [pR 6, pI a1, pI a2] w RF NN r w1 RF NN := by
  exact CTi_of (by decide +kernel) (Nat.le_of_ble_eq_true rfl) (Or.inr rfl) (gLa_readSigned_o (res := (r, w1)) E d o_readOperand hO_La_readOperand a1 a2 w h)
def FLa_readTerm : Nat → (Int → Int → WD → Option (Int × WD)) × (Int → WD → Option (Int × WD)) × (Int → WD → Option (Int × WD)) × (Int → Int → WD → Option (Int × WD))
  | 0 => (fun _ _ _ => none, fun _ _ => none, fun _ _ => none, fun _ _ _ => none)
  | k + 1 => (fLa_readTerm_o (FLa_readTerm k).1 (FLa_readTerm k).2.1, fLa_readOperand_o (FLa_readTerm k).2.2.1 (FLa_readTerm k).2.2.2, fLa_readInside_o (FLa_readTerm k).1, fLa_readSigned_o (FLa_readTerm k).2.1)
set_option maxHeartbeats 4000000 in
theorem FLa_readTerm_ok (E : Nat × (Int → Int)) (d : Nat) : ∀ k : Nat, (∀ {a0 : Int} {a1 : Int} {w w1 : WD} {r : Int}, (FLa_readTerm k).1 a0 a1 w = some (r, w1) → CTi E mLa_readTerm (d + k + 3) [pR 6, pI a0, pI a1] w RF NN r w1 RF NN) ∧ (∀ {a0 : Int} {w w1 : WD} {r : Int}, (FLa_readTerm k).2.1 a0 w = some (r, w1) → CTi E mLa_readOperand (d + k + 3) [pR 6, pI a0] w RF NN r w1 RF NN) ∧ (∀ {a0 : Int} {w w1 : WD} {r : Int}, (FLa_readTerm k).2.2.1 a0 w = some (r, w1) → CTi E mLa_readInside (d + k + 3) [pR 6, pI a0] w RF NN r w1 RF NN) ∧ (∀ {a0 : Int} {a1 : Int} {w w1 : WD} {r : Int}, (FLa_readTerm k).2.2.2 a0 a1 w = some (r, w1) → CTi E mLa_readSigned (d + k + 3) [pR 6, pI a0, pI a1] w RF NN r w1 RF NN) := by
  intro k
  induction k with
  | zero =>
    exact ⟨fun h => no_e h, fun h => no_e h, fun h => no_e h, fun h => no_e h⟩
  | succ k ih =>
    have e : d + (k + 1) + 3 = d + k + 4 := by omega
    rw [e]
    exact ⟨by intro a0 a1 w w1 r h; exact kLa_readTerm_o E (d + k) (FLa_readTerm k).1 (FLa_readTerm k).2.1 (fun h => (ih).1 h) (fun h => (ih).2.1 h) h, by intro a0 w w1 r h; exact kLa_readOperand_o E (d + k) (FLa_readTerm k).2.2.1 (FLa_readTerm k).2.2.2 (fun h => (ih).2.2.1 h) (fun h => (ih).2.2.2 h) h, by intro a0 w w1 r h; exact kLa_readInside_o E (d + k) (FLa_readTerm k).1 (fun h => (ih).1 h) h, by intro a0 a1 w w1 r h; exact kLa_readSigned_o E (d + k) (FLa_readTerm k).2.1 (fun h => (ih).2.1 h) h⟩
def fLa_readTerm : Int → Int → WD → Option (Int × WD) := (FLa_readTerm 200).1
theorem kLa_readTerm (E : Nat × (Int → Int)) (d : Nat) {a0 : Int} {a1 : Int} {w w1 : WD} {r : Int} (h : fLa_readTerm a0 a1 w = some (r, w1)) : CTi E mLa_readTerm (d + 203) [pR 6, pI a0, pI a1] w RF NN r w1 RF NN := (FLa_readTerm_ok E d 200).1 h
def fLa_readOperand : Int → WD → Option (Int × WD) := (FLa_readTerm 200).2.1
theorem kLa_readOperand (E : Nat × (Int → Int)) (d : Nat) {a0 : Int} {w w1 : WD} {r : Int} (h : fLa_readOperand a0 w = some (r, w1)) : CTi E mLa_readOperand (d + 203) [pR 6, pI a0] w RF NN r w1 RF NN := (FLa_readTerm_ok E d 200).2.1 h
def fLa_readInside : Int → WD → Option (Int × WD) := (FLa_readTerm 200).2.2.1
theorem kLa_readInside (E : Nat × (Int → Int)) (d : Nat) {a0 : Int} {w w1 : WD} {r : Int} (h : fLa_readInside a0 w = some (r, w1)) : CTi E mLa_readInside (d + 203) [pR 6, pI a0] w RF NN r w1 RF NN := (FLa_readTerm_ok E d 200).2.2.1 h
def fLa_readSigned : Int → Int → WD → Option (Int × WD) := (FLa_readTerm 200).2.2.2
theorem kLa_readSigned (E : Nat × (Int → Int)) (d : Nat) {a0 : Int} {a1 : Int} {w w1 : WD} {r : Int} (h : fLa_readSigned a0 a1 w = some (r, w1)) : CTi E mLa_readSigned (d + 203) [pR 6, pI a0, pI a1] w RF NN r w1 RF NN := (FLa_readTerm_ok E d 200).2.2.2 h
def fLa_readLine (w : WD) : Option (Int × WD) := ci (fLa_readTerm 0 0 w) <| fun (r2 : Int) (u1 : WD) => if r2 ≠ 0 then (ci (fLa_next u1) <| fun (r5 : Int) (u4 : WD) => jn (β := WD → Option (Int × WD)) (fun (u7 : WD) => cv (fLa_emit (-59) u7) <| fun (u8 : WD) => some (1, u8)) <| fun J9 => if r5 ≠ 63 then (J9 u4) else (bw (up u4 6 6 (w32 ((u4 6 6) + 1))) <| fun (u10 : WD) => cv (fLa_emit (-63) u10) <| fun (u11 : WD) => ci (fLa_readTerm 0 0 u11) <| fun (r13 : Int) (u12 : WD) => if r13 ≠ 0 then (J9 u12) else (some (0, u12)))) else (some (0, u1))
set_option maxRecDepth 100000 in
set_option maxHeartbeats 4000000 in
theorem gLa_readLine (E : Nat × (Int → Int)) (d : Nat) {res : Int × WD} (w : WD) (h : fLa_readLine w = some res) : G E mLa_readLine (d + 204) 0 [(0, pR 6)] [] w RF NN 0 0 (some (pI res.1), res.2, RF, NN) := by
  unfold fLa_readLine at h
  refine g_aload_n (pc := 0) (j := 0) (dk d_mLa_readLine 0 rfl) rfl (by decide) ?_
  refine g_iconst (pc := 1) (dk d_mLa_readLine 1 rfl) (by decide) ?_
  refine g_iconst (pc := 2) (dk d_mLa_readLine 2 rfl) (by decide) ?_
  refine h_callVi (d := d + 203) (pc := 3) (na := 2) (av := [pI 0, pI 0]) (k0 := 6) po_6 ⟨_, rfl⟩ ⟨rfl, rfl⟩ (dk d_mLa_readLine 3 rfl) lk_La_57 vm_mLa_readTerm rfl rfl (Nat.le_of_ble_eq_true rfl) h (fun r2 u1 hq => kLa_readTerm E (d + 0) hq) (fun r2 u1 hb3 h => ?_)
  refine h_if_ne (pc := 6) (tgt := 11) (dk d_mLa_readLine 4 rfl) rfl h (fun hc17 h => ?_) (fun hc17 h => ?_)
  · refine g_aload_n (pc := 11) (j := 0) (dk d_mLa_readLine 7 rfl) rfl (by decide) ?_
    refine h_callVi (d := d + 203) (pc := 12) (na := 0) (av := []) (k0 := 6) po_6 ⟨_, rfl⟩ ⟨rfl, rfl⟩ (dk d_mLa_readLine 8 rfl) lk_La_53 vm_mLa_next rfl rfl (Nat.le_of_ble_eq_true rfl) h (fun r5 u4 hq => kLa_next E (d + 202) hq) (fun r5 u4 hb6 h => ?_)
    refine g_bipush (pc := 15) (dk d_mLa_readLine 9 rfl) (by decide) ?_
    refine jn_e (fun J => ∀ (u7 : WD), J u7 = some res → G E mLa_readLine (d + 204) 47 [(0, pR 6)] [] u7 RF NN 0 0 (some (pI res.1), res.2, RF, NN)) h (fun u7 h => ?_) (fun J9 hJ9 h => ?_)
    · refine g_aload_n (pc := 47) (j := 0) (dk d_mLa_readLine 27 rfl) rfl (by decide) ?_
      refine g_bipush (pc := 48) (dk d_mLa_readLine 28 rfl) (by decide) ?_
      refine h_callVv (d := d + 203) (pc := 50) (na := 1) (av := [pI (-59)]) (k0 := 6) po_6 ⟨_, rfl⟩ ⟨rfl, rfl⟩ (dk d_mLa_readLine 29 rfl) lk_La_61 vm_mLa_emit rfl rfl (Nat.le_of_ble_eq_true rfl) h (fun u8 hq => kLa_emit E (d + 202) hq) (fun u8 h => ?_)
      refine g_iconst (pc := 53) (dk d_mLa_readLine 30 rfl) (by decide) ?_
      exact h_zret (pc := 54) (Or.inr rfl) (dk d_mLa_readLine 31 rfl) h
    · refine h_icmp_ne (pc := 17) (tgt := 47) (dk d_mLa_readLine 10 rfl) rfl h (fun hc16 h => ?_) (fun hc16 h => ?_)
      · exact hJ9 _ h
      · refine g_aload_n (pc := 20) (j := 0) (dk d_mLa_readLine 11 rfl) rfl (by decide) ?_
        refine g_dup (pc := 21) (dk d_mLa_readLine 12 rfl) rfl ?_
        refine g_getI (pc := 22) fp_La_31 po_6 (dk d_mLa_readLine 13 rfl) ?_
        refine g_iconst (pc := 25) (dk d_mLa_readLine 14 rfl) (by decide) ?_
        refine g_iadd (pc := 26) (dk d_mLa_readLine 15 rfl) ?_
        refine h_putI (pc := 27) fp_La_31 po_6 (dk d_mLa_readLine 16 rfl) h (fun u10 h => ?_)
        refine g_aload_n (pc := 30) (j := 0) (dk d_mLa_readLine 17 rfl) rfl (by decide) ?_
        refine g_bipush (pc := 31) (dk d_mLa_readLine 18 rfl) (by decide) ?_
        refine h_callVv (d := d + 203) (pc := 33) (na := 1) (av := [pI (-63)]) (k0 := 6) po_6 ⟨_, rfl⟩ ⟨rfl, rfl⟩ (dk d_mLa_readLine 19 rfl) lk_La_61 vm_mLa_emit rfl rfl (Nat.le_of_ble_eq_true rfl) h (fun u11 hq => kLa_emit E (d + 202) hq) (fun u11 h => ?_)
        refine g_aload_n (pc := 36) (j := 0) (dk d_mLa_readLine 20 rfl) rfl (by decide) ?_
        refine g_iconst (pc := 37) (dk d_mLa_readLine 21 rfl) (by decide) ?_
        refine g_iconst (pc := 38) (dk d_mLa_readLine 22 rfl) (by decide) ?_
        refine h_callVi (d := d + 203) (pc := 39) (na := 2) (av := [pI 0, pI 0]) (k0 := 6) po_6 ⟨_, rfl⟩ ⟨rfl, rfl⟩ (dk d_mLa_readLine 23 rfl) lk_La_57 vm_mLa_readTerm rfl rfl (Nat.le_of_ble_eq_true rfl) h (fun r13 u12 hq => kLa_readTerm E (d + 0) hq) (fun r13 u12 hb14 h => ?_)
        refine h_if_ne (pc := 42) (tgt := 47) (dk d_mLa_readLine 24 rfl) rfl h (fun hc15 h => ?_) (fun hc15 h => ?_)
        · exact hJ9 _ h
        · refine g_iconst (pc := 45) (dk d_mLa_readLine 25 rfl) (by decide) ?_
          exact h_zret (pc := 46) (Or.inl rfl) (dk d_mLa_readLine 26 rfl) h
  · refine g_iconst (pc := 9) (dk d_mLa_readLine 5 rfl) (by decide) ?_
    exact h_zret (pc := 10) (Or.inl rfl) (dk d_mLa_readLine 6 rfl) h
set_option maxRecDepth 100000 in
set_option maxHeartbeats 4000000 in
theorem kLa_readLine (E : Nat × (Int → Int)) (d : Nat) {w w1 : WD} {r : Int} (h : fLa_readLine w = some (r, w1)) : CTi E mLa_readLine (d + 204) [pR 6] w RF NN r w1 RF NN := by
  exact CTi_of (by decide +kernel) (Nat.le_of_ble_eq_true rfl) (Or.inr rfl) (gLa_readLine (res := (r, w1)) E d w h)
def fLa_readText_l2_b (rec : Int → WD → Option (Int × WD)) (K0 : WD → Option (Int × WD)) (x1 : Int) (w : WD) : Option (Int × WD) := if 120 < x1 then (some (0, w)) else (ci (fLa_readLine w) <| fun (r2 : Int) (u1 : WD) => if r2 ≠ 0 then (ci (fLa_next u1) <| fun (r5 : Int) (u4 : WD) => if r5 = 59 then (bw (up u4 6 6 (w32 ((u4 6 6) + 1))) <| fun (u7 : WD) => bv (w32 (x1 + 1)) <| fun (v1_8 : Int) => rec v1_8 u7) else (K0 u4)) else (some (0, u1)))
def fLa_readText_l2 (K0 : WD → Option (Int × WD)) : Nat → Int → WD → Option (Int × WD)
  | 0 => fun _ _ => none
  | k + 1 => fLa_readText_l2_b ( fLa_readText_l2 K0 k) K0
set_option maxRecDepth 100000 in
set_option maxHeartbeats 4000000 in
theorem fLa_readText_l2_b_ok (E : Nat × (Int → Int)) (d : Nat) {res : Int × WD} {rec : Int → WD → Option (Int × WD)} (K0 : WD → Option (Int × WD)) (hrec : ∀ (x1 : Int) (w : WD), rec x1 w = some res → G E mLa_readText (d + 205) 2 [(0, pR 6), (1, pI x1)] [] w RF NN 0 0 (some (pI res.1), res.2, RF, NN)) (hK0 : ∀ (w : WD), K0 w = some res → G E mLa_readText (d + 205) 26 [(0, pR 6)] [] w RF NN 0 0 (some (pI res.1), res.2, RF, NN)) (x1 : Int) (w : WD) (h : fLa_readText_l2_b rec K0 x1 w = some res) : G E mLa_readText (d + 205) 2 [(0, pR 6), (1, pI x1)] [] w RF NN 0 0 (some (pI res.1), res.2, RF, NN) := by
  unfold fLa_readText_l2_b at h
  refine g_iload_n (pc := 2) (j := 1) (dk d_mLa_readText 2 rfl) rfl ?_
  refine g_bipush (pc := 3) (dk d_mLa_readText 3 rfl) (by decide) ?_
  refine h_icmp_gt (pc := 5) (tgt := 59) (dk d_mLa_readText 4 rfl) rfl h (fun hc11 h => ?_) (fun hc11 h => ?_)
  · refine g_iconst (pc := 59) (dk d_mLa_readText 31 rfl) (by decide) ?_
    exact h_zret (pc := 60) (Or.inl rfl) (dk d_mLa_readText 32 rfl) h
  · refine g_aload_n (pc := 8) (j := 0) (dk d_mLa_readText 5 rfl) rfl (by decide) ?_
    refine h_callVi (d := d + 204) (pc := 9) (na := 0) (av := []) (k0 := 6) po_6 ⟨_, rfl⟩ ⟨rfl, rfl⟩ (dk d_mLa_readText 6 rfl) lk_La_50 vm_mLa_readLine rfl rfl (Nat.le_of_ble_eq_true rfl) h (fun r2 u1 hq => kLa_readLine E (d + 0) hq) (fun r2 u1 hb3 h => ?_)
    refine h_if_ne (pc := 12) (tgt := 17) (dk d_mLa_readText 7 rfl) rfl h (fun hc10 h => ?_) (fun hc10 h => ?_)
    · refine g_aload_n (pc := 17) (j := 0) (dk d_mLa_readText 10 rfl) rfl (by decide) ?_
      refine h_callVi (d := d + 204) (pc := 18) (na := 0) (av := []) (k0 := 6) po_6 ⟨_, rfl⟩ ⟨rfl, rfl⟩ (dk d_mLa_readText 11 rfl) lk_La_53 vm_mLa_next rfl rfl (Nat.le_of_ble_eq_true rfl) h (fun r5 u4 hq => kLa_next E (d + 203) hq) (fun r5 u4 hb6 h => ?_)
      refine g_bipush (pc := 21) (dk d_mLa_readText 12 rfl) (by decide) ?_
      refine h_icmp_eq (pc := 23) (tgt := 43) (dk d_mLa_readText 13 rfl) rfl h (fun hc9 h => ?_) (fun hc9 h => ?_)
      · refine g_aload_n (pc := 43) (j := 0) (dk d_mLa_readText 23 rfl) rfl (by decide) ?_
        refine g_dup (pc := 44) (dk d_mLa_readText 24 rfl) rfl ?_
        refine g_getI (pc := 45) fp_La_31 po_6 (dk d_mLa_readText 25 rfl) ?_
        refine g_iconst (pc := 48) (dk d_mLa_readText 26 rfl) (by decide) ?_
        refine g_iadd (pc := 49) (dk d_mLa_readText 27 rfl) ?_
        refine h_putI (pc := 50) fp_La_31 po_6 (dk d_mLa_readText 28 rfl) h (fun u7 h => ?_)
        refine h_iinc (pc := 53) (j := 1) (dk d_mLa_readText 29 rfl) rfl (by decide) (Nat.le_of_ble_eq_true rfl) h (fun v1_8 h => ?_)
        refine g_loc (l' := [(1, pI v1_8), (0, pR 6)]) rfl ?_
        refine g_goto (pc := 56) (tgt := 2) (dk d_mLa_readText 30 rfl) rfl ?_
        refine g_pick [1, 0] rfl (l' := [(0, pR 6), (1, pI v1_8)]) rfl ?_
        exact hrec _ _ h
      · refine g_pick [0] rfl (l' := [(0, pR 6)]) rfl ?_
        exact hK0 _ h
    · refine g_iconst (pc := 15) (dk d_mLa_readText 8 rfl) (by decide) ?_
      exact h_zret (pc := 16) (Or.inl rfl) (dk d_mLa_readText 9 rfl) h
set_option maxRecDepth 100000 in
set_option maxHeartbeats 4000000 in
theorem fLa_readText_l2_ok (E : Nat × (Int → Int)) (d : Nat) {res : Int × WD} (K0 : WD → Option (Int × WD)) (hK0 : ∀ (w : WD), K0 w = some res → G E mLa_readText (d + 205) 26 [(0, pR 6)] [] w RF NN 0 0 (some (pI res.1), res.2, RF, NN)) : ∀ (k : Nat) (x1 : Int) (w : WD), fLa_readText_l2 K0 k x1 w = some res → G E mLa_readText (d + 205) 2 [(0, pR 6), (1, pI x1)] [] w RF NN 0 0 (some (pI res.1), res.2, RF, NN) := by
  intro k
  induction k with
  | zero =>
    intro x1 w h
    exact no_e h
  | succ k ih =>
    intro x1 w h
    exact fLa_readText_l2_b_ok E d K0 ih hK0 x1 w h
def fLa_readText (w : WD) : Option (Int × WD) := fLa_readText_l2 (fun (u12 : WD) => if (u12 6 6) < (u12 6 5) then (some (0, u12)) else (some (1, u12))) FU 0 w
set_option maxRecDepth 100000 in
set_option maxHeartbeats 4000000 in
theorem gLa_readText (E : Nat × (Int → Int)) (d : Nat) {res : Int × WD} (w : WD) (h : fLa_readText w = some res) : G E mLa_readText (d + 205) 0 [(0, pR 6)] [] w RF NN 0 0 (some (pI res.1), res.2, RF, NN) := by
  unfold fLa_readText at h
  refine g_iconst (pc := 0) (dk d_mLa_readText 0 rfl) (by decide) ?_
  refine g_istore_n (pc := 1) (l' := [(1, pI 0), (0, pR 6)]) (dk d_mLa_readText 1 rfl) (Nat.le_of_ble_eq_true rfl) rfl ?_
  refine g_pick [1, 0] rfl (l' := [(0, pR 6), (1, pI 0)]) rfl ?_
  refine fLa_readText_l2_ok E d _  (fun u12 h => ?_) FU _  _ h
  · refine g_aload_n (pc := 26) (j := 0) (dk d_mLa_readText 14 rfl) rfl (by decide) ?_
    refine g_getI (pc := 27) fp_La_31 po_6 (dk d_mLa_readText 15 rfl) ?_
    refine g_aload_n (pc := 30) (j := 0) (dk d_mLa_readText 16 rfl) rfl (by decide) ?_
    refine g_getI (pc := 31) fp_La_27 po_6 (dk d_mLa_readText 17 rfl) ?_
    refine h_icmp_lt (pc := 34) (tgt := 41) (dk d_mLa_readText 18 rfl) rfl h (fun hc13 h => ?_) (fun hc13 h => ?_)
    · refine g_iconst (pc := 41) (dk d_mLa_readText 21 rfl) (by decide) ?_
      exact h_zret (pc := 42) (Or.inl rfl) (dk d_mLa_readText 22 rfl) h
    · refine g_iconst (pc := 37) (dk d_mLa_readText 19 rfl) (by decide) ?_
      refine g_goto (pc := 38) (tgt := 42) (dk d_mLa_readText 20 rfl) rfl ?_
      exact h_zret (pc := 42) (Or.inr rfl) (dk d_mLa_readText 22 rfl) h
set_option maxRecDepth 100000 in
set_option maxHeartbeats 4000000 in
theorem kLa_readText (E : Nat × (Int → Int)) (d : Nat) {w w1 : WD} {r : Int} (h : fLa_readText w = some (r, w1)) : CTi E mLa_readText (d + 205) [pR 6] w RF NN r w1 RF NN := by
  exact CTi_of (by decide +kernel) (Nat.le_of_ble_eq_true rfl) (Or.inr rfl) (gLa_readText (res := (r, w1)) E d w h)
def fLa_enact (w : WD) : Option (Int × WD) := bw (up w 6 6 0) <| fun (u1 : WD) => bw (up u1 6 7 0) <| fun (u2 : WD) => ci (fLa_readText u2) <| fun (r4 : Int) (u3 : WD) => bw (up u3 6 5 0) <| fun (u6 : WD) => if r4 ≠ 0 then (bw (up u6 6 8 (u6 6 7)) <| fun (u7 : WD) => ck ((0 : Int) ≤ 0 ∧ (0 : Int) ≤ 0 ∧ (0 : Int) ≤ 121 ∧ (0 + 121 : Int) ≤ 121 ∧ (0 + 121 : Int) ≤ 121) <| bw (cp u7 8 0 9 0 121) <| fun (u8 : WD) => some (1, u8)) else (some ((w32 ((-100) - (u6 6 6))), u6))
set_option maxRecDepth 100000 in
set_option maxHeartbeats 4000000 in
theorem gLa_enact (E : Nat × (Int → Int)) (d : Nat) {res : Int × WD} (w : WD) (h : fLa_enact w = some res) : G E mLa_enact (d + 206) 0 [(0, pR 6)] [] w RF NN 0 0 (some (pI res.1), res.2, RF, NN) := by
  unfold fLa_enact at h
  refine g_aload_n (pc := 0) (j := 0) (dk d_mLa_enact 0 rfl) rfl (by decide) ?_
  refine g_iconst (pc := 1) (dk d_mLa_enact 1 rfl) (by decide) ?_
  refine h_putI (pc := 2) fp_La_31 po_6 (dk d_mLa_enact 2 rfl) h (fun u1 h => ?_)
  refine g_aload_n (pc := 5) (j := 0) (dk d_mLa_enact 3 rfl) rfl (by decide) ?_
  refine g_iconst (pc := 6) (dk d_mLa_enact 4 rfl) (by decide) ?_
  refine h_putI (pc := 7) fp_La_34 po_6 (dk d_mLa_enact 5 rfl) h (fun u2 h => ?_)
  refine g_aload_n (pc := 10) (j := 0) (dk d_mLa_enact 6 rfl) rfl (by decide) ?_
  refine h_callVi (d := d + 205) (pc := 11) (na := 0) (av := []) (k0 := 6) po_6 ⟨_, rfl⟩ ⟨rfl, rfl⟩ (dk d_mLa_enact 7 rfl) lk_La_37 vm_mLa_readText rfl rfl (Nat.le_of_ble_eq_true rfl) h (fun r4 u3 hq => kLa_readText E (d + 0) hq) (fun r4 u3 hb5 h => ?_)
  refine g_istore_n (pc := 14) (l' := [(1, pI r4), (0, pR 6)]) (dk d_mLa_enact 8 rfl) (Nat.le_of_ble_eq_true rfl) rfl ?_
  refine g_aload_n (pc := 15) (j := 1) (dk d_mLa_enact 9 rfl) rfl (by decide) ?_
  refine g_iconst (pc := 16) (dk d_mLa_enact 10 rfl) (by decide) ?_
  refine h_putI (pc := 17) fp_La_27 po_6 (dk d_mLa_enact 11 rfl) h (fun u6 h => ?_)
  refine g_iload_n (pc := 20) (j := 0) (dk d_mLa_enact 12 rfl) rfl ?_
  refine h_if_ne (pc := 21) (tgt := 32) (dk d_mLa_enact 13 rfl) rfl h (fun hc9 h => ?_) (fun hc9 h => ?_)
  · refine g_aload_n (pc := 32) (j := 1) (dk d_mLa_enact 19 rfl) rfl (by decide) ?_
    refine g_aload_n (pc := 33) (j := 1) (dk d_mLa_enact 20 rfl) rfl (by decide) ?_
    refine g_getI (pc := 34) fp_La_34 po_6 (dk d_mLa_enact 21 rfl) ?_
    refine h_putI (pc := 37) fp_La_41 po_6 (dk d_mLa_enact 22 rfl) h (fun u7 h => ?_)
    refine g_aload_n (pc := 40) (j := 1) (dk d_mLa_enact 23 rfl) rfl (by decide) ?_
    refine g_getR (pc := 41) (a := 8) rfl fp_La_15 po_6 (dk d_mLa_enact 24 rfl) ?_
    refine g_iconst (pc := 44) (dk d_mLa_enact 25 rfl) (by decide) ?_
    refine g_aload_n (pc := 45) (j := 1) (dk d_mLa_enact 26 rfl) rfl (by decide) ?_
    refine g_getR (pc := 46) (a := 9) rfl fp_La_18 po_6 (dk d_mLa_enact 27 rfl) ?_
    refine g_iconst (pc := 49) (dk d_mLa_enact 28 rfl) (by decide) ?_
    refine g_aload_n (pc := 50) (j := 1) (dk d_mLa_enact 29 rfl) rfl (by decide) ?_
    refine g_getR (pc := 51) (a := 8) rfl fp_La_15 po_6 (dk d_mLa_enact 30 rfl) ?_
    refine h_alen (pc := 54) (B := 121) pa_8 (by decide) rfl (dk d_mLa_enact 31 rfl) ?_
    refine h_copyI (pc := 55) (B0 := 121) (B1 := 121) ac_La_44 pa_8 pa_9 rfl rfl (dk d_mLa_enact 32 rfl) (Nat.le_of_ble_eq_true rfl) (by omega) h (fun u8 h => ?_)
    refine g_iconst (pc := 58) (dk d_mLa_enact 33 rfl) (by decide) ?_
    exact h_iret (pc := 59) rfl (dk d_mLa_enact 34 rfl) h
  · refine g_bipush (pc := 24) (dk d_mLa_enact 14 rfl) (by decide) ?_
    refine g_aload_n (pc := 26) (j := 1) (dk d_mLa_enact 15 rfl) rfl (by decide) ?_
    refine g_getI (pc := 27) fp_La_31 po_6 (dk d_mLa_enact 16 rfl) ?_
    refine g_isub (pc := 30) (dk d_mLa_enact 17 rfl) ?_
    exact h_iret (pc := 31) rfl (dk d_mLa_enact 18 rfl) h
set_option maxRecDepth 100000 in
set_option maxHeartbeats 4000000 in
theorem kLa_enact (E : Nat × (Int → Int)) (d : Nat) {w w1 : WD} {r : Int} (h : fLa_enact w = some (r, w1)) : CTi E mLa_enact (d + 206) [pR 6] w RF NN r w1 RF NN := by
  exact CTi_of (by decide +kernel) (Nat.le_of_ble_eq_true rfl) (Or.inl rfl) (gLa_enact (res := (r, w1)) E d w h)
def fB_law (w : WD) : Option (Int × WD) := ci (fLa_enact w) <| fun (r2 : Int) (u1 : WD) => some (r2, u1)
set_option maxRecDepth 100000 in
set_option maxHeartbeats 4000000 in
theorem gB_law (E : Nat × (Int → Int)) (d : Nat) {res : Int × WD} (w : WD) (h : fB_law w = some res) : G E mB_law (d + 207) 0 [(0, pR 0)] [] w RF NN 0 0 (some (pI res.1), res.2, RF, NN) := by
  unfold fB_law at h
  refine g_aload_n (pc := 0) (j := 0) (dk d_mB_law 0 rfl) rfl (by decide) ?_
  refine g_getR (pc := 1) (a := 6) rfl fp_B_19 po_0 (dk d_mB_law 1 rfl) ?_
  refine h_callVi (d := d + 206) (pc := 4) (na := 0) (av := []) (k0 := 6) po_6 ⟨_, rfl⟩ ⟨rfl, rfl⟩ (dk d_mB_law 2 rfl) lk_B_111 vm_mLa_enact rfl rfl (Nat.le_of_ble_eq_true rfl) h (fun r2 u1 hq => kLa_enact E (d + 0) hq) (fun r2 u1 hb3 h => ?_)
  exact h_iret (pc := 7) rfl (dk d_mB_law 3 rfl) h
set_option maxRecDepth 100000 in
set_option maxHeartbeats 4000000 in
theorem kB_law (E : Nat × (Int → Int)) (d : Nat) {w w1 : WD} {r : Int} (h : fB_law w = some (r, w1)) : CTi E mB_law (d + 207) [pR 0] w RF NN r w1 RF NN := by
  exact CTi_of (by decide +kernel) (Nat.le_of_ble_eq_true rfl) (Or.inl rfl) (gB_law (res := (r, w1)) E d w h)
def fHa_isOne (a1 : Int) (w : WD) : Option (Int × WD) := jn (β := WD → Option (Int × WD)) (fun (u1 : WD) => if a1 ≠ 6 then (some (0, u1)) else (some (1, u1))) <| fun J3 => if a1 < 0 then (J3 w) else (if a1 < (w 1 4) then (some (1, w)) else (J3 w))
set_option maxRecDepth 100000 in
set_option maxHeartbeats 4000000 in
theorem gHa_isOne (E : Nat × (Int → Int)) (d : Nat) {res : Int × WD} (a1 : Int) (w : WD) (h : fHa_isOne a1 w = some res) : G E mHa_isOne (d + 1) 0 [(0, pR 1), (1, pI a1)] [] w RF NN 0 0 (some (pI res.1), res.2, RF, NN) := by
  unfold fHa_isOne at h
  refine g_iload_n (pc := 0) (j := 1) (dk d_mHa_isOne 0 rfl) rfl ?_
  refine jn_e (fun J => ∀ (u1 : WD), J u1 = some res → G E mHa_isOne (d + 1) 12 [(1, pI a1)] [] u1 RF NN 0 0 (some (pI res.1), res.2, RF, NN)) h (fun u1 h => ?_) (fun J3 hJ3 h => ?_)
  · refine g_iload_n (pc := 12) (j := 0) (dk d_mHa_isOne 6 rfl) rfl ?_
    refine g_bipush (pc := 13) (dk d_mHa_isOne 7 rfl) (by decide) ?_
    refine h_icmp_ne (pc := 15) (tgt := 22) (dk d_mHa_isOne 8 rfl) rfl h (fun hc2 h => ?_) (fun hc2 h => ?_)
    · refine g_iconst (pc := 22) (dk d_mHa_isOne 11 rfl) (by decide) ?_
      exact h_zret (pc := 23) (Or.inl rfl) (dk d_mHa_isOne 12 rfl) h
    · refine g_iconst (pc := 18) (dk d_mHa_isOne 9 rfl) (by decide) ?_
      refine g_goto (pc := 19) (tgt := 23) (dk d_mHa_isOne 10 rfl) rfl ?_
      exact h_zret (pc := 23) (Or.inr rfl) (dk d_mHa_isOne 12 rfl) h
  · refine h_if_lt (pc := 1) (tgt := 12) (dk d_mHa_isOne 1 rfl) rfl h (fun hc5 h => ?_) (fun hc5 h => ?_)
    · refine g_pick [1] rfl (l' := [(1, pI a1)]) rfl ?_
      exact hJ3 _ h
    · refine g_iload_n (pc := 4) (j := 1) (dk d_mHa_isOne 2 rfl) rfl ?_
      refine g_aload_n (pc := 5) (j := 0) (dk d_mHa_isOne 3 rfl) rfl (by decide) ?_
      refine g_getI (pc := 6) fp_Ha_24 po_1 (dk d_mHa_isOne 4 rfl) ?_
      refine h_icmp_lt (pc := 9) (tgt := 18) (dk d_mHa_isOne 5 rfl) rfl h (fun hc4 h => ?_) (fun hc4 h => ?_)
      · refine g_iconst (pc := 18) (dk d_mHa_isOne 9 rfl) (by decide) ?_
        refine g_goto (pc := 19) (tgt := 23) (dk d_mHa_isOne 10 rfl) rfl ?_
        exact h_zret (pc := 23) (Or.inr rfl) (dk d_mHa_isOne 12 rfl) h
      · refine g_pick [1] rfl (l' := [(1, pI a1)]) rfl ?_
        exact hJ3 _ h
set_option maxRecDepth 100000 in
set_option maxHeartbeats 4000000 in
theorem kHa_isOne (E : Nat × (Int → Int)) (d : Nat) {a1 : Int} {w w1 : WD} {r : Int} (h : fHa_isOne a1 w = some (r, w1)) : CTi E mHa_isOne (d + 1) [pR 1, pI a1] w RF NN r w1 RF NN := by
  exact CTi_of (by decide +kernel) (Nat.le_of_ble_eq_true rfl) (Or.inr rfl) (gHa_isOne (res := (r, w1)) E d a1 w h)
def fLa_pop (w : WD) : Option (Int × WD) := if (w 6 9) ≤ 0 then (some (0, w)) else (if (w 6 9) ≤ 121 then (bw (up w 6 9 (w32 ((w 6 9) - 1))) <| fun (u1 : WD) => ck (0 ≤ (u1 6 9) ∧ (u1 6 9) < 121) <| some ((u1 10 (u1 6 9)), u1)) else (some (0, w)))
set_option maxRecDepth 100000 in
set_option maxHeartbeats 4000000 in
theorem gLa_pop (E : Nat × (Int → Int)) (d : Nat) {res : Int × WD} (w : WD) (h : fLa_pop w = some res) : G E mLa_pop (d + 1) 0 [(0, pR 6)] [] w RF NN 0 0 (some (pI res.1), res.2, RF, NN) := by
  unfold fLa_pop at h
  refine g_aload_n (pc := 0) (j := 0) (dk d_mLa_pop 0 rfl) rfl (by decide) ?_
  refine g_getI (pc := 1) fp_La_100 po_6 (dk d_mLa_pop 1 rfl) ?_
  refine h_if_le (pc := 4) (tgt := 19) (dk d_mLa_pop 2 rfl) rfl h (fun hc3 h => ?_) (fun hc3 h => ?_)
  · refine g_iconst (pc := 19) (dk d_mLa_pop 9 rfl) (by decide) ?_
    exact h_iret (pc := 20) rfl (dk d_mLa_pop 10 rfl) h
  · refine g_aload_n (pc := 7) (j := 0) (dk d_mLa_pop 3 rfl) rfl (by decide) ?_
    refine g_getI (pc := 8) fp_La_100 po_6 (dk d_mLa_pop 4 rfl) ?_
    refine g_aload_n (pc := 11) (j := 0) (dk d_mLa_pop 5 rfl) rfl (by decide) ?_
    refine g_getR (pc := 12) (a := 10) rfl fp_La_21 po_6 (dk d_mLa_pop 6 rfl) ?_
    refine h_alen (pc := 15) (B := 121) pa_10 (by decide) rfl (dk d_mLa_pop 7 rfl) ?_
    refine h_icmp_le (pc := 16) (tgt := 21) (dk d_mLa_pop 8 rfl) rfl h (fun hc2 h => ?_) (fun hc2 h => ?_)
    · refine g_aload_n (pc := 21) (j := 0) (dk d_mLa_pop 11 rfl) rfl (by decide) ?_
      refine g_dup (pc := 22) (dk d_mLa_pop 12 rfl) rfl ?_
      refine g_getI (pc := 23) fp_La_100 po_6 (dk d_mLa_pop 13 rfl) ?_
      refine g_iconst (pc := 26) (dk d_mLa_pop 14 rfl) (by decide) ?_
      refine g_isub (pc := 27) (dk d_mLa_pop 15 rfl) ?_
      refine h_putI (pc := 28) fp_La_100 po_6 (dk d_mLa_pop 16 rfl) h (fun u1 h => ?_)
      refine g_aload_n (pc := 31) (j := 0) (dk d_mLa_pop 17 rfl) rfl (by decide) ?_
      refine g_getR (pc := 32) (a := 10) rfl fp_La_21 po_6 (dk d_mLa_pop 18 rfl) ?_
      refine g_aload_n (pc := 35) (j := 0) (dk d_mLa_pop 19 rfl) rfl (by decide) ?_
      refine g_getI (pc := 36) fp_La_100 po_6 (dk d_mLa_pop 20 rfl) ?_
      refine h_iald (pc := 39) (B := 121) pa_10 rfl (dk d_mLa_pop 21 rfl) h (fun h => ?_)
      exact h_iret (pc := 40) rfl (dk d_mLa_pop 22 rfl) h
    · refine g_iconst (pc := 19) (dk d_mLa_pop 9 rfl) (by decide) ?_
      exact h_iret (pc := 20) rfl (dk d_mLa_pop 10 rfl) h
set_option maxRecDepth 100000 in
set_option maxHeartbeats 4000000 in
theorem kLa_pop (E : Nat × (Int → Int)) (d : Nat) {w w1 : WD} {r : Int} (h : fLa_pop w = some (r, w1)) : CTi E mLa_pop (d + 1) [pR 6] w RF NN r w1 RF NN := by
  exact CTi_of (by decide +kernel) (Nat.le_of_ble_eq_true rfl) (Or.inl rfl) (gLa_pop (res := (r, w1)) E d w h)
def fLa_joined (a0 : Int) (a1 : Int) (a2 : Int) (w : WD) : Option (Int × WD) := if a0 = (-124) then (if a1 ≠ 0 then (some (1, w)) else (if a2 = 0 then (some (0, w)) else (some (1, w)))) else (if a0 = (-62) then (if a1 ≤ a2 then (some (0, w)) else (some (1, w))) else (if a0 = (-61) then (if a1 ≠ a2 then (some (0, w)) else (some (1, w))) else (if a0 = (-60) then (if a2 ≤ a1 then (some (0, w)) else (some (1, w))) else (if a0 = (-47) then (if a2 ≠ 0 then (ck (a2 ≠ 0) <| some ((w32 (Int.tdiv a1 a2)), w)) else (some (0, w))) else (if a0 = (-45) then (some ((w32 (a1 - a2)), w)) else (if a0 = (-43) then (some ((w32 (a1 + a2)), w)) else (if a0 = (-42) then (some ((w32 (a1 * a2)), w)) else (if a0 = (-38) then (if a1 = 0 then (some (0, w)) else (if a2 = 0 then (some (0, w)) else (some (1, w)))) else (if a0 = (-37) then (if a2 ≠ 0 then (ck (a2 ≠ 0) <| some ((Int.tmod a1 a2), w)) else (some (0, w))) else ((some (0, w))))))))))))
set_option maxRecDepth 100000 in
set_option maxHeartbeats 4000000 in
theorem gLa_joined (E : Nat × (Int → Int)) (d : Nat) {res : Int × WD} (a0 : Int) (a1 : Int) (a2 : Int) (w : WD) (h : fLa_joined a0 a1 a2 w = some res) : G E mLa_joined (d + 1) 0 [(0, pI a0), (1, pI a1), (2, pI a2)] [] w RF NN 0 0 (some (pI res.1), res.2, RF, NN) := by
  unfold fLa_joined at h
  refine g_iload_n (pc := 0) (j := 0) (dk d_mLa_joined 0 rfl) rfl ?_
  refine br h (fun hc3 h => ?_) (fun hc3 h => ?_)
  · refine g_look (pc := 1) (off := 91) (tgt := 92) (dk d_mLa_joined 1 rfl) rfl (by rw [hc3]; rfl) rfl ?_
    refine g_iload_n (pc := 92) (j := 1) (dk d_mLa_joined 2 rfl) rfl ?_
    refine h_if_ne (pc := 93) (tgt := 100) (dk d_mLa_joined 3 rfl) rfl h (fun hc2 h => ?_) (fun hc2 h => ?_)
    · refine g_iconst (pc := 100) (dk d_mLa_joined 6 rfl) (by decide) ?_
      refine g_goto (pc := 101) (tgt := 105) (dk d_mLa_joined 7 rfl) rfl ?_
      exact h_iret (pc := 105) rfl (dk d_mLa_joined 9 rfl) h
    · refine g_iload_n (pc := 96) (j := 2) (dk d_mLa_joined 4 rfl) rfl ?_
      refine h_if_eq (pc := 97) (tgt := 104) (dk d_mLa_joined 5 rfl) rfl h (fun hc1 h => ?_) (fun hc1 h => ?_)
      · refine g_iconst (pc := 104) (dk d_mLa_joined 8 rfl) (by decide) ?_
        exact h_iret (pc := 105) rfl (dk d_mLa_joined 9 rfl) h
      · refine g_iconst (pc := 100) (dk d_mLa_joined 6 rfl) (by decide) ?_
        refine g_goto (pc := 101) (tgt := 105) (dk d_mLa_joined 7 rfl) rfl ?_
        exact h_iret (pc := 105) rfl (dk d_mLa_joined 9 rfl) h
  · refine br h (fun hc5 h => ?_) (fun hc5 h => ?_)
    · refine g_look (pc := 1) (off := 141) (tgt := 142) (dk d_mLa_joined 1 rfl) rfl (by rw [hc5]; rfl) rfl ?_
      refine g_iload_n (pc := 142) (j := 1) (dk d_mLa_joined 32 rfl) rfl ?_
      refine g_iload_n (pc := 143) (j := 2) (dk d_mLa_joined 33 rfl) rfl ?_
      refine h_icmp_le (pc := 144) (tgt := 151) (dk d_mLa_joined 34 rfl) rfl h (fun hc4 h => ?_) (fun hc4 h => ?_)
      · refine g_iconst (pc := 151) (dk d_mLa_joined 37 rfl) (by decide) ?_
        exact h_iret (pc := 152) rfl (dk d_mLa_joined 38 rfl) h
      · refine g_iconst (pc := 147) (dk d_mLa_joined 35 rfl) (by decide) ?_
        refine g_goto (pc := 148) (tgt := 152) (dk d_mLa_joined 36 rfl) rfl ?_
        exact h_iret (pc := 152) rfl (dk d_mLa_joined 38 rfl) h
    · refine br h (fun hc7 h => ?_) (fun hc7 h => ?_)
      · refine g_look (pc := 1) (off := 130) (tgt := 131) (dk d_mLa_joined 1 rfl) rfl (by rw [hc7]; rfl) rfl ?_
        refine g_iload_n (pc := 131) (j := 1) (dk d_mLa_joined 25 rfl) rfl ?_
        refine g_iload_n (pc := 132) (j := 2) (dk d_mLa_joined 26 rfl) rfl ?_
        refine h_icmp_ne (pc := 133) (tgt := 140) (dk d_mLa_joined 27 rfl) rfl h (fun hc6 h => ?_) (fun hc6 h => ?_)
        · refine g_iconst (pc := 140) (dk d_mLa_joined 30 rfl) (by decide) ?_
          exact h_iret (pc := 141) rfl (dk d_mLa_joined 31 rfl) h
        · refine g_iconst (pc := 136) (dk d_mLa_joined 28 rfl) (by decide) ?_
          refine g_goto (pc := 137) (tgt := 141) (dk d_mLa_joined 29 rfl) rfl ?_
          exact h_iret (pc := 141) rfl (dk d_mLa_joined 31 rfl) h
      · refine br h (fun hc9 h => ?_) (fun hc9 h => ?_)
        · refine g_look (pc := 1) (off := 119) (tgt := 120) (dk d_mLa_joined 1 rfl) rfl (by rw [hc9]; rfl) rfl ?_
          refine g_iload_n (pc := 120) (j := 1) (dk d_mLa_joined 18 rfl) rfl ?_
          refine g_iload_n (pc := 121) (j := 2) (dk d_mLa_joined 19 rfl) rfl ?_
          refine h_icmp_ge (pc := 122) (tgt := 129) (dk d_mLa_joined 20 rfl) rfl h (fun hc8 h => ?_) (fun hc8 h => ?_)
          · refine g_iconst (pc := 129) (dk d_mLa_joined 23 rfl) (by decide) ?_
            exact h_iret (pc := 130) rfl (dk d_mLa_joined 24 rfl) h
          · refine g_iconst (pc := 125) (dk d_mLa_joined 21 rfl) (by decide) ?_
            refine g_goto (pc := 126) (tgt := 130) (dk d_mLa_joined 22 rfl) rfl ?_
            exact h_iret (pc := 130) rfl (dk d_mLa_joined 24 rfl) h
        · refine br h (fun hc11 h => ?_) (fun hc11 h => ?_)
          · refine g_look (pc := 1) (off := 164) (tgt := 165) (dk d_mLa_joined 1 rfl) rfl (by rw [hc11]; rfl) rfl ?_
            refine g_iload_n (pc := 165) (j := 2) (dk d_mLa_joined 51 rfl) rfl ?_
            refine h_if_ne (pc := 166) (tgt := 173) (dk d_mLa_joined 52 rfl) rfl h (fun hc10 h => ?_) (fun hc10 h => ?_)
            · refine g_iload_n (pc := 173) (j := 1) (dk d_mLa_joined 55 rfl) rfl ?_
              refine g_iload_n (pc := 174) (j := 2) (dk d_mLa_joined 56 rfl) rfl ?_
              refine h_idiv (pc := 175) (dk d_mLa_joined 57 rfl) h (fun h => ?_)
              exact h_iret (pc := 176) rfl (dk d_mLa_joined 58 rfl) h
            · refine g_iconst (pc := 169) (dk d_mLa_joined 53 rfl) (by decide) ?_
              refine g_goto (pc := 170) (tgt := 176) (dk d_mLa_joined 54 rfl) rfl ?_
              exact h_iret (pc := 176) rfl (dk d_mLa_joined 58 rfl) h
          · refine br h (fun hc12 h => ?_) (fun hc12 h => ?_)
            · refine g_look (pc := 1) (off := 156) (tgt := 157) (dk d_mLa_joined 1 rfl) rfl (by rw [hc12]; rfl) rfl ?_
              refine g_iload_n (pc := 157) (j := 1) (dk d_mLa_joined 43 rfl) rfl ?_
              refine g_iload_n (pc := 158) (j := 2) (dk d_mLa_joined 44 rfl) rfl ?_
              refine g_isub (pc := 159) (dk d_mLa_joined 45 rfl) ?_
              exact h_iret (pc := 160) rfl (dk d_mLa_joined 46 rfl) h
            · refine br h (fun hc13 h => ?_) (fun hc13 h => ?_)
              · refine g_look (pc := 1) (off := 152) (tgt := 153) (dk d_mLa_joined 1 rfl) rfl (by rw [hc13]; rfl) rfl ?_
                refine g_iload_n (pc := 153) (j := 1) (dk d_mLa_joined 39 rfl) rfl ?_
                refine g_iload_n (pc := 154) (j := 2) (dk d_mLa_joined 40 rfl) rfl ?_
                refine g_iadd (pc := 155) (dk d_mLa_joined 41 rfl) ?_
                exact h_iret (pc := 156) rfl (dk d_mLa_joined 42 rfl) h
              · refine br h (fun hc14 h => ?_) (fun hc14 h => ?_)
                · refine g_look (pc := 1) (off := 160) (tgt := 161) (dk d_mLa_joined 1 rfl) rfl (by rw [hc14]; rfl) rfl ?_
                  refine g_iload_n (pc := 161) (j := 1) (dk d_mLa_joined 47 rfl) rfl ?_
                  refine g_iload_n (pc := 162) (j := 2) (dk d_mLa_joined 48 rfl) rfl ?_
                  refine g_imul (pc := 163) (dk d_mLa_joined 49 rfl) ?_
                  exact h_iret (pc := 164) rfl (dk d_mLa_joined 50 rfl) h
                · refine br h (fun hc17 h => ?_) (fun hc17 h => ?_)
                  · refine g_look (pc := 1) (off := 105) (tgt := 106) (dk d_mLa_joined 1 rfl) rfl (by rw [hc17]; rfl) rfl ?_
                    refine g_iload_n (pc := 106) (j := 1) (dk d_mLa_joined 10 rfl) rfl ?_
                    refine h_if_eq (pc := 107) (tgt := 118) (dk d_mLa_joined 11 rfl) rfl h (fun hc16 h => ?_) (fun hc16 h => ?_)
                    · refine g_iconst (pc := 118) (dk d_mLa_joined 16 rfl) (by decide) ?_
                      exact h_iret (pc := 119) rfl (dk d_mLa_joined 17 rfl) h
                    · refine g_iload_n (pc := 110) (j := 2) (dk d_mLa_joined 12 rfl) rfl ?_
                      refine h_if_eq (pc := 111) (tgt := 118) (dk d_mLa_joined 13 rfl) rfl h (fun hc15 h => ?_) (fun hc15 h => ?_)
                      · refine g_iconst (pc := 118) (dk d_mLa_joined 16 rfl) (by decide) ?_
                        exact h_iret (pc := 119) rfl (dk d_mLa_joined 17 rfl) h
                      · refine g_iconst (pc := 114) (dk d_mLa_joined 14 rfl) (by decide) ?_
                        refine g_goto (pc := 115) (tgt := 119) (dk d_mLa_joined 15 rfl) rfl ?_
                        exact h_iret (pc := 119) rfl (dk d_mLa_joined 17 rfl) h
                  · refine br h (fun hc19 h => ?_) (fun hc19 h => ?_)
                    · refine g_look (pc := 1) (off := 176) (tgt := 177) (dk d_mLa_joined 1 rfl) rfl (by rw [hc19]; rfl) rfl ?_
                      refine g_iload_n (pc := 177) (j := 2) (dk d_mLa_joined 59 rfl) rfl ?_
                      refine h_if_ne (pc := 178) (tgt := 185) (dk d_mLa_joined 60 rfl) rfl h (fun hc18 h => ?_) (fun hc18 h => ?_)
                      · refine g_iload_n (pc := 185) (j := 1) (dk d_mLa_joined 63 rfl) rfl ?_
                        refine g_iload_n (pc := 186) (j := 2) (dk d_mLa_joined 64 rfl) rfl ?_
                        refine h_irem (pc := 187) (dk d_mLa_joined 65 rfl) h (fun h => ?_)
                        exact h_iret (pc := 188) rfl (dk d_mLa_joined 66 rfl) h
                      · refine g_iconst (pc := 181) (dk d_mLa_joined 61 rfl) (by decide) ?_
                        refine g_goto (pc := 182) (tgt := 188) (dk d_mLa_joined 62 rfl) rfl ?_
                        exact h_iret (pc := 188) rfl (dk d_mLa_joined 66 rfl) h
                    · refine g_look (pc := 1) (off := 188) (tgt := 189) (dk d_mLa_joined 1 rfl) rfl (look_d _ _ _ ⟨by simp only; omega, by simp only; omega, by simp only; omega, by simp only; omega, by simp only; omega, by simp only; omega, by simp only; omega, by simp only; omega, by simp only; omega, by simp only; omega, trivial⟩) rfl ?_
                      refine g_iconst (pc := 189) (dk d_mLa_joined 67 rfl) (by decide) ?_
                      exact h_iret (pc := 190) rfl (dk d_mLa_joined 68 rfl) h
set_option maxRecDepth 100000 in
set_option maxHeartbeats 4000000 in
theorem kLa_joined (E : Nat × (Int → Int)) (d : Nat) {a0 : Int} {a1 : Int} {a2 : Int} {w w1 : WD} {r : Int} (h : fLa_joined a0 a1 a2 w = some (r, w1)) : CTi E mLa_joined (d + 1) [pI a0, pI a1, pI a2] w RF NN r w1 RF NN := by
  exact CTi_of (by decide +kernel) (Nat.le_of_ble_eq_true rfl) (Or.inl rfl) (gLa_joined (res := (r, w1)) E d a0 a1 a2 w h)
def fLa_push (a1 : Int) (w : WD) : Option WD := if (w 6 9) < 0 then (some w) else (if 121 ≤ (w 6 9) then (some w) else (ck (0 ≤ (w 6 9) ∧ (w 6 9) < 121) <| bw (up w 10 (w 6 9) a1) <| fun (u1 : WD) => bw (up u1 6 9 (w32 ((u1 6 9) + 1))) <| fun (u2 : WD) => some u2))
set_option maxRecDepth 100000 in
set_option maxHeartbeats 4000000 in
theorem gLa_push (E : Nat × (Int → Int)) (d : Nat) {res : WD} (a1 : Int) (w : WD) (h : fLa_push a1 w = some res) : G E mLa_push (d + 1) 0 [(0, pR 6), (1, pI a1)] [] w RF NN 0 0 (none, res, RF, NN) := by
  unfold fLa_push at h
  refine g_aload_n (pc := 0) (j := 0) (dk d_mLa_push 0 rfl) rfl (by decide) ?_
  refine g_getI (pc := 1) fp_La_100 po_6 (dk d_mLa_push 1 rfl) ?_
  refine h_if_lt (pc := 4) (tgt := 39) (dk d_mLa_push 2 rfl) rfl h (fun hc4 h => ?_) (fun hc4 h => ?_)
  · exact h_vret (pc := 39) (dk d_mLa_push 21 rfl) h
  · refine g_aload_n (pc := 7) (j := 0) (dk d_mLa_push 3 rfl) rfl (by decide) ?_
    refine g_getI (pc := 8) fp_La_100 po_6 (dk d_mLa_push 4 rfl) ?_
    refine g_aload_n (pc := 11) (j := 0) (dk d_mLa_push 5 rfl) rfl (by decide) ?_
    refine g_getR (pc := 12) (a := 10) rfl fp_La_21 po_6 (dk d_mLa_push 6 rfl) ?_
    refine h_alen (pc := 15) (B := 121) pa_10 (by decide) rfl (dk d_mLa_push 7 rfl) ?_
    refine h_icmp_ge (pc := 16) (tgt := 39) (dk d_mLa_push 8 rfl) rfl h (fun hc3 h => ?_) (fun hc3 h => ?_)
    · exact h_vret (pc := 39) (dk d_mLa_push 21 rfl) h
    · refine g_aload_n (pc := 19) (j := 0) (dk d_mLa_push 9 rfl) rfl (by decide) ?_
      refine g_getR (pc := 20) (a := 10) rfl fp_La_21 po_6 (dk d_mLa_push 10 rfl) ?_
      refine g_aload_n (pc := 23) (j := 0) (dk d_mLa_push 11 rfl) rfl (by decide) ?_
      refine g_getI (pc := 24) fp_La_100 po_6 (dk d_mLa_push 12 rfl) ?_
      refine g_iload_n (pc := 27) (j := 1) (dk d_mLa_push 13 rfl) rfl ?_
      refine h_iast (pc := 28) (B := 121) pa_10 rfl (dk d_mLa_push 14 rfl) h (fun u1 h => ?_)
      refine g_aload_n (pc := 29) (j := 0) (dk d_mLa_push 15 rfl) rfl (by decide) ?_
      refine g_dup (pc := 30) (dk d_mLa_push 16 rfl) rfl ?_
      refine g_getI (pc := 31) fp_La_100 po_6 (dk d_mLa_push 17 rfl) ?_
      refine g_iconst (pc := 34) (dk d_mLa_push 18 rfl) (by decide) ?_
      refine g_iadd (pc := 35) (dk d_mLa_push 19 rfl) ?_
      refine h_putI (pc := 36) fp_La_100 po_6 (dk d_mLa_push 20 rfl) h (fun u2 h => ?_)
      exact h_vret (pc := 39) (dk d_mLa_push 21 rfl) h
set_option maxRecDepth 100000 in
set_option maxHeartbeats 4000000 in
theorem kLa_push (E : Nat × (Int → Int)) (d : Nat) {a1 : Int} {w w1 : WD} (h : fLa_push a1 w = some w1) : CTv E mLa_push (d + 1) [pR 6, pI a1] w RF NN w1 RF NN := by
  exact CTv_of (by decide +kernel) (Nat.le_of_ble_eq_true rfl) rfl (gLa_push (res := w1) E d a1 w h)
def fLa_step (a1 : Int) (w : WD) : Option WD := if a1 < 10000 then (if a1 < 0 then (if a1 ≠ (-1) then (if a1 ≠ (-33) then (ci (fLa_pop w) <| fun (r2 : Int) (u1 : WD) => ci (fLa_pop u1) <| fun (r5 : Int) (u4 : WD) => ci (fLa_joined a1 r5 r2 u4) <| fun (r8 : Int) (u7 : WD) => cv (fLa_push r8 u7) <| fun (u10 : WD) => some u10) else (ci (fLa_pop w) <| fun (r12 : Int) (u11 : WD) => jn (β := Int → WD → Option WD) (fun (s14 : Int) (u15 : WD) => cv (fLa_push s14 u15) <| fun (u16 : WD) => some u16) <| fun J17 => if r12 ≠ 0 then (J17 0 u11) else (J17 1 u11))) else (ci (fLa_pop w) <| fun (r21 : Int) (u20 : WD) => cv (fLa_push (w32 (-r21)) u20) <| fun (u23 : WD) => some u23)) else (cv (fLa_push a1 w) <| fun (u25 : WD) => some u25)) else (jn (β := Int → WD → Option WD) (fun (s27 : Int) (u28 : WD) => cv (fLa_push s27 u28) <| fun (u29 : WD) => some u29) <| fun J30 => if 6 ≤ (w32 (a1 - 10000)) then (J30 0 w) else (ck (0 ≤ (w32 (a1 - 10000)) ∧ (w32 (a1 - 10000)) < 6) <| J30 (w 11 (w32 (a1 - 10000))) w))
set_option maxRecDepth 100000 in
set_option maxHeartbeats 4000000 in
theorem gLa_step (E : Nat × (Int → Int)) (d : Nat) {res : WD} (a1 : Int) (w : WD) (h : fLa_step a1 w = some res) : G E mLa_step (d + 2) 0 [(0, pR 6), (1, pI a1)] [] w RF NN 0 0 (none, res, RF, NN) := by
  unfold fLa_step at h
  refine g_iload_n (pc := 0) (j := 1) (dk d_mLa_step 0 rfl) rfl ?_
  refine g_sipush (pc := 1) (dk d_mLa_step 1 rfl) (by decide) ?_
  refine h_icmp_lt (pc := 4) (tgt := 38) (dk d_mLa_step 2 rfl) rfl h (fun hc32 h => ?_) (fun hc32 h => ?_)
  · refine g_iload_n (pc := 38) (j := 1) (dk d_mLa_step 19 rfl) rfl ?_
    refine h_if_lt (pc := 39) (tgt := 50) (dk d_mLa_step 20 rfl) rfl h (fun hc26 h => ?_) (fun hc26 h => ?_)
    · refine g_iload_n (pc := 50) (j := 1) (dk d_mLa_step 25 rfl) rfl ?_
      refine g_iconst (pc := 51) (dk d_mLa_step 26 rfl) (by decide) ?_
      refine h_icmp_ne (pc := 52) (tgt := 67) (dk d_mLa_step 27 rfl) rfl h (fun hc24 h => ?_) (fun hc24 h => ?_)
      · refine g_iload_n (pc := 67) (j := 1) (dk d_mLa_step 34 rfl) rfl ?_
        refine g_bipush (pc := 68) (dk d_mLa_step 35 rfl) (by decide) ?_
        refine h_icmp_ne (pc := 70) (tgt := 92) (dk d_mLa_step 36 rfl) rfl h (fun hc19 h => ?_) (fun hc19 h => ?_)
        · refine g_aload_n (pc := 92) (j := 0) (dk d_mLa_step 46 rfl) rfl (by decide) ?_
          refine h_callVi (d := d + 1) (pc := 93) (na := 0) (av := []) (k0 := 6) po_6 ⟨_, rfl⟩ ⟨rfl, rfl⟩ (dk d_mLa_step 47 rfl) lk_La_103 vm_mLa_pop rfl rfl (Nat.le_of_ble_eq_true rfl) h (fun r2 u1 hq => kLa_pop E (d + 0) hq) (fun r2 u1 hb3 h => ?_)
          refine g_istore_n (pc := 96) (l' := [(2, pI r2), (0, pR 6), (1, pI a1)]) (dk d_mLa_step 48 rfl) (Nat.le_of_ble_eq_true rfl) rfl ?_
          refine g_aload_n (pc := 97) (j := 1) (dk d_mLa_step 49 rfl) rfl (by decide) ?_
          refine g_iload_n (pc := 98) (j := 2) (dk d_mLa_step 50 rfl) rfl ?_
          refine g_aload_n (pc := 99) (j := 1) (dk d_mLa_step 51 rfl) rfl (by decide) ?_
          refine h_callVi (d := d + 1) (pc := 100) (na := 0) (av := []) (k0 := 6) po_6 ⟨_, rfl⟩ ⟨rfl, rfl⟩ (dk d_mLa_step 52 rfl) lk_La_103 vm_mLa_pop rfl rfl (Nat.le_of_ble_eq_true rfl) h (fun r5 u4 hq => kLa_pop E (d + 0) hq) (fun r5 u4 hb6 h => ?_)
          refine g_iload_n (pc := 103) (j := 0) (dk d_mLa_step 53 rfl) rfl ?_
          refine h_callSi (d := d + 1) (pc := 104) (na := 3) (av := [pI a1, pI r5, pI r2]) ⟨rfl, rfl⟩ (dk d_mLa_step 54 rfl) lk_La_112 vm_mLa_joined rfl rfl (Nat.le_of_ble_eq_true rfl) h (fun r8 u7 hq => kLa_joined E (d + 0) hq) (fun r8 u7 hb9 h => ?_)
          refine h_callVv (d := d + 1) (pc := 107) (na := 1) (av := [pI r8]) (k0 := 6) po_6 ⟨_, rfl⟩ ⟨rfl, rfl⟩ (dk d_mLa_step 55 rfl) lk_La_109 vm_mLa_push rfl rfl (Nat.le_of_ble_eq_true rfl) h (fun u10 hq => kLa_push E (d + 0) hq) (fun u10 h => ?_)
          exact h_vret (pc := 110) (dk d_mLa_step 56 rfl) h
        · refine g_aload_n (pc := 73) (j := 0) (dk d_mLa_step 37 rfl) rfl (by decide) ?_
          refine g_aload_n (pc := 74) (j := 0) (dk d_mLa_step 38 rfl) rfl (by decide) ?_
          refine h_callVi (d := d + 1) (pc := 75) (na := 0) (av := []) (k0 := 6) po_6 ⟨_, rfl⟩ ⟨rfl, rfl⟩ (dk d_mLa_step 39 rfl) lk_La_103 vm_mLa_pop rfl rfl (Nat.le_of_ble_eq_true rfl) h (fun r12 u11 hq => kLa_pop E (d + 0) hq) (fun r12 u11 hb13 h => ?_)
          refine jn_e (fun J => ∀ (s14 : Int) (u15 : WD), J s14 u15 = some res → G E mLa_step (d + 2) 86 [] [pI s14, pR 6] u15 RF NN 0 0 (none, res, RF, NN)) h (fun s14 u15 h => ?_) (fun J17 hJ17 h => ?_)
          · refine h_callVv (d := d + 1) (pc := 86) (na := 1) (av := [pI s14]) (k0 := 6) po_6 ⟨_, rfl⟩ ⟨rfl, rfl⟩ (dk d_mLa_step 44 rfl) lk_La_109 vm_mLa_push rfl rfl (Nat.le_of_ble_eq_true rfl) h (fun u16 hq => kLa_push E (d + 0) hq) (fun u16 h => ?_)
            refine g_goto (pc := 89) (tgt := 110) (dk d_mLa_step 45 rfl) rfl ?_
            exact h_vret (pc := 110) (dk d_mLa_step 56 rfl) h
          · refine h_if_ne (pc := 78) (tgt := 85) (dk d_mLa_step 40 rfl) rfl h (fun hc18 h => ?_) (fun hc18 h => ?_)
            · refine g_iconst (pc := 85) (dk d_mLa_step 43 rfl) (by decide) ?_
              refine g_pick [] rfl (l' := []) rfl ?_
              exact hJ17 _ _ h
            · refine g_iconst (pc := 81) (dk d_mLa_step 41 rfl) (by decide) ?_
              refine g_goto (pc := 82) (tgt := 86) (dk d_mLa_step 42 rfl) rfl ?_
              refine g_pick [] rfl (l' := []) rfl ?_
              exact hJ17 _ _ h
      · refine g_aload_n (pc := 55) (j := 0) (dk d_mLa_step 28 rfl) rfl (by decide) ?_
        refine g_aload_n (pc := 56) (j := 0) (dk d_mLa_step 29 rfl) rfl (by decide) ?_
        refine h_callVi (d := d + 1) (pc := 57) (na := 0) (av := []) (k0 := 6) po_6 ⟨_, rfl⟩ ⟨rfl, rfl⟩ (dk d_mLa_step 30 rfl) lk_La_103 vm_mLa_pop rfl rfl (Nat.le_of_ble_eq_true rfl) h (fun r21 u20 hq => kLa_pop E (d + 0) hq) (fun r21 u20 hb22 h => ?_)
        refine g_ineg (pc := 60) (dk d_mLa_step 31 rfl) ?_
        refine h_callVv (d := d + 1) (pc := 61) (na := 1) (av := [pI (w32 (-r21))]) (k0 := 6) po_6 ⟨_, rfl⟩ ⟨rfl, rfl⟩ (dk d_mLa_step 32 rfl) lk_La_109 vm_mLa_push rfl rfl (Nat.le_of_ble_eq_true rfl) h (fun u23 hq => kLa_push E (d + 0) hq) (fun u23 h => ?_)
        refine g_goto (pc := 64) (tgt := 110) (dk d_mLa_step 33 rfl) rfl ?_
        exact h_vret (pc := 110) (dk d_mLa_step 56 rfl) h
    · refine g_aload_n (pc := 42) (j := 0) (dk d_mLa_step 21 rfl) rfl (by decide) ?_
      refine g_iload_n (pc := 43) (j := 1) (dk d_mLa_step 22 rfl) rfl ?_
      refine h_callVv (d := d + 1) (pc := 44) (na := 1) (av := [pI a1]) (k0 := 6) po_6 ⟨_, rfl⟩ ⟨rfl, rfl⟩ (dk d_mLa_step 23 rfl) lk_La_109 vm_mLa_push rfl rfl (Nat.le_of_ble_eq_true rfl) h (fun u25 hq => kLa_push E (d + 0) hq) (fun u25 h => ?_)
      refine g_goto (pc := 47) (tgt := 110) (dk d_mLa_step 24 rfl) rfl ?_
      exact h_vret (pc := 110) (dk d_mLa_step 56 rfl) h
  · refine g_aload_n (pc := 7) (j := 0) (dk d_mLa_step 3 rfl) rfl (by decide) ?_
    refine g_iload_n (pc := 8) (j := 1) (dk d_mLa_step 4 rfl) rfl ?_
    refine g_sipush (pc := 9) (dk d_mLa_step 5 rfl) (by decide) ?_
    refine g_isub (pc := 12) (dk d_mLa_step 6 rfl) ?_
    refine g_bipush (pc := 13) (dk d_mLa_step 7 rfl) (by decide) ?_
    refine jn_e (fun J => ∀ (s27 : Int) (u28 : WD), J s27 u28 = some res → G E mLa_step (d + 2) 32 [] [pI s27, pR 6] u28 RF NN 0 0 (none, res, RF, NN)) h (fun s27 u28 h => ?_) (fun J30 hJ30 h => ?_)
    · refine h_callVv (d := d + 1) (pc := 32) (na := 1) (av := [pI s27]) (k0 := 6) po_6 ⟨_, rfl⟩ ⟨rfl, rfl⟩ (dk d_mLa_step 17 rfl) lk_La_109 vm_mLa_push rfl rfl (Nat.le_of_ble_eq_true rfl) h (fun u29 hq => kLa_push E (d + 0) hq) (fun u29 h => ?_)
      refine g_goto (pc := 35) (tgt := 110) (dk d_mLa_step 18 rfl) rfl ?_
      exact h_vret (pc := 110) (dk d_mLa_step 56 rfl) h
    · refine h_icmp_ge (pc := 15) (tgt := 31) (dk d_mLa_step 8 rfl) rfl h (fun hc31 h => ?_) (fun hc31 h => ?_)
      · refine g_iconst (pc := 31) (dk d_mLa_step 16 rfl) (by decide) ?_
        refine g_pick [] rfl (l' := []) rfl ?_
        exact hJ30 _ _ h
      · refine g_aload_n (pc := 18) (j := 0) (dk d_mLa_step 9 rfl) rfl (by decide) ?_
        refine g_getR (pc := 19) (a := 11) rfl fp_La_24 po_6 (dk d_mLa_step 10 rfl) ?_
        refine g_iload_n (pc := 22) (j := 1) (dk d_mLa_step 11 rfl) rfl ?_
        refine g_sipush (pc := 23) (dk d_mLa_step 12 rfl) (by decide) ?_
        refine g_isub (pc := 26) (dk d_mLa_step 13 rfl) ?_
        refine h_iald (pc := 27) (B := 6) pa_11 rfl (dk d_mLa_step 14 rfl) h (fun h => ?_)
        refine g_goto (pc := 28) (tgt := 32) (dk d_mLa_step 15 rfl) rfl ?_
        refine g_pick [] rfl (l' := []) rfl ?_
        exact hJ30 _ _ h
set_option maxRecDepth 100000 in
set_option maxHeartbeats 4000000 in
theorem kLa_step (E : Nat × (Int → Int)) (d : Nat) {a1 : Int} {w w1 : WD} (h : fLa_step a1 w = some w1) : CTv E mLa_step (d + 2) [pR 6, pI a1] w RF NN w1 RF NN := by
  exact CTv_of (by decide +kernel) (Nat.le_of_ble_eq_true rfl) rfl (gLa_step (res := w1) E d a1 w h)
def fLa_run_l9_b (rec : Int → Int → WD → Option (Int × WD)) (x1 : Int) (x2 : Int) (w : WD) : Option (Int × WD) := if (w 6 8) ≤ x2 then (some (0, w)) else (if 121 ≤ x2 then (some (0, w)) else (ck (0 ≤ x2 ∧ x2 < 121) <| bv (w 9 x2) <| fun (v3_2 : Int) => jn (β := Int → WD → Option (Int × WD)) (fun (v1_3 : Int) (u4 : WD) => bv (w32 (x2 + 1)) <| fun (v2_5 : Int) => rec v1_3 v2_5 u4) <| fun J6 => if v3_2 ≠ (-63) then (if v3_2 ≠ (-59) then (cv (fLa_step v3_2 w) <| fun (u7 : WD) => J6 x1 u7) else (ci (fLa_pop w) <| fun (r9 : Int) (u8 : WD) => if x1 = 0 then (J6 1 u8) else (some (r9, u8)))) else (ci (fLa_pop w) <| fun (r14 : Int) (u13 : WD) => jn (β := Int → WD → Option (Int × WD)) (fun (s16 : Int) (u17 : WD) => J6 s16 u17) <| fun J18 => if r14 = 0 then (J18 0 u13) else (J18 1 u13))))
def fLa_run_l9 : Nat → Int → Int → WD → Option (Int × WD)
  | 0 => fun _ _ _ => none
  | k + 1 => fLa_run_l9_b ( fLa_run_l9 k)
set_option maxRecDepth 100000 in
set_option maxHeartbeats 4000000 in
theorem fLa_run_l9_b_ok (E : Nat × (Int → Int)) (d : Nat) {res : Int × WD} {rec : Int → Int → WD → Option (Int × WD)} (hrec : ∀ (x1 : Int) (x2 : Int) (w : WD), rec x1 x2 w = some res → G E mLa_run (d + 3) 9 [(0, pR 6), (1, pI x1), (2, pI x2)] [] w RF NN 0 0 (some (pI res.1), res.2, RF, NN)) (x1 : Int) (x2 : Int) (w : WD) (h : fLa_run_l9_b rec x1 x2 w = some res) : G E mLa_run (d + 3) 9 [(0, pR 6), (1, pI x1), (2, pI x2)] [] w RF NN 0 0 (some (pI res.1), res.2, RF, NN) := by
  unfold fLa_run_l9_b at h
  refine g_iload_n (pc := 9) (j := 2) (dk d_mLa_run 7 rfl) rfl ?_
  refine g_aload_n (pc := 10) (j := 0) (dk d_mLa_run 8 rfl) rfl (by decide) ?_
  refine g_getI (pc := 11) fp_La_41 po_6 (dk d_mLa_run 9 rfl) ?_
  refine h_icmp_ge (pc := 14) (tgt := 90) (dk d_mLa_run 10 rfl) rfl h (fun hc22 h => ?_) (fun hc22 h => ?_)
  · refine g_iconst (pc := 90) (dk d_mLa_run 50 rfl) (by decide) ?_
    exact h_iret (pc := 91) rfl (dk d_mLa_run 51 rfl) h
  · refine g_iload_n (pc := 17) (j := 2) (dk d_mLa_run 11 rfl) rfl ?_
    refine g_aload_n (pc := 18) (j := 0) (dk d_mLa_run 12 rfl) rfl (by decide) ?_
    refine g_getR (pc := 19) (a := 9) rfl fp_La_18 po_6 (dk d_mLa_run 13 rfl) ?_
    refine h_alen (pc := 22) (B := 121) pa_9 (by decide) rfl (dk d_mLa_run 14 rfl) ?_
    refine h_icmp_ge (pc := 23) (tgt := 90) (dk d_mLa_run 15 rfl) rfl h (fun hc21 h => ?_) (fun hc21 h => ?_)
    · refine g_iconst (pc := 90) (dk d_mLa_run 50 rfl) (by decide) ?_
      exact h_iret (pc := 91) rfl (dk d_mLa_run 51 rfl) h
    · refine g_aload_n (pc := 26) (j := 0) (dk d_mLa_run 16 rfl) rfl (by decide) ?_
      refine g_getR (pc := 27) (a := 9) rfl fp_La_18 po_6 (dk d_mLa_run 17 rfl) ?_
      refine g_iload_n (pc := 30) (j := 2) (dk d_mLa_run 18 rfl) rfl ?_
      refine h_iald (pc := 31) (B := 121) pa_9 rfl (dk d_mLa_run 19 rfl) h (fun h => ?_)
      refine h_bvI h (fun v3_2 h => ?_)
      refine g_istore_n (pc := 32) (l' := [(3, pI v3_2), (0, pR 6), (1, pI x1), (2, pI x2)]) (dk d_mLa_run 20 rfl) (Nat.le_of_ble_eq_true rfl) rfl ?_
      refine g_iload_n (pc := 33) (j := 0) (dk d_mLa_run 21 rfl) rfl ?_
      refine g_bipush (pc := 34) (dk d_mLa_run 22 rfl) (by decide) ?_
      refine jn_e (fun J => ∀ (v1_3 : Int) (u4 : WD), J v1_3 u4 = some res → G E mLa_run (d + 3) 84 [(0, pR 6), (1, pI v1_3), (2, pI x2)] [] u4 RF NN 0 0 (some (pI res.1), res.2, RF, NN)) h (fun v1_3 u4 h => ?_) (fun J6 hJ6 h => ?_)
      · refine h_iinc (pc := 84) (j := 2) (dk d_mLa_run 48 rfl) rfl (by decide) (Nat.le_of_ble_eq_true rfl) h (fun v2_5 h => ?_)
        refine g_loc (l' := [(2, pI v2_5), (0, pR 6), (1, pI v1_3)]) rfl ?_
        refine g_goto (pc := 87) (tgt := 9) (dk d_mLa_run 49 rfl) rfl ?_
        refine g_pick [1, 2, 0] rfl (l' := [(0, pR 6), (1, pI v1_3), (2, pI v2_5)]) rfl ?_
        exact hrec _ _ _ h
      · refine h_icmp_ne (pc := 36) (tgt := 55) (dk d_mLa_run 23 rfl) rfl h (fun hc20 h => ?_) (fun hc20 h => ?_)
        · refine g_iload_n (pc := 55) (j := 0) (dk d_mLa_run 32 rfl) rfl ?_
          refine g_bipush (pc := 56) (dk d_mLa_run 33 rfl) (by decide) ?_
          refine h_icmp_ne (pc := 58) (tgt := 79) (dk d_mLa_run 34 rfl) rfl h (fun hc12 h => ?_) (fun hc12 h => ?_)
          · refine g_aload_n (pc := 79) (j := 1) (dk d_mLa_run 45 rfl) rfl (by decide) ?_
            refine g_iload_n (pc := 80) (j := 0) (dk d_mLa_run 46 rfl) rfl ?_
            refine h_callVv (d := d + 2) (pc := 81) (na := 1) (av := [pI v3_2]) (k0 := 6) po_6 ⟨_, rfl⟩ ⟨rfl, rfl⟩ (dk d_mLa_run 47 rfl) lk_La_106 vm_mLa_step rfl rfl (Nat.le_of_ble_eq_true rfl) h (fun u7 hq => kLa_step E (d + 0) hq) (fun u7 h => ?_)
            refine g_pick [1, 2, 3] rfl (l' := [(0, pR 6), (1, pI x1), (2, pI x2)]) rfl ?_
            exact hJ6 _ _ h
          · refine g_aload_n (pc := 61) (j := 1) (dk d_mLa_run 35 rfl) rfl (by decide) ?_
            refine h_callVi (d := d + 2) (pc := 62) (na := 0) (av := []) (k0 := 6) po_6 ⟨_, rfl⟩ ⟨rfl, rfl⟩ (dk d_mLa_run 36 rfl) lk_La_103 vm_mLa_pop rfl rfl (Nat.le_of_ble_eq_true rfl) h (fun r9 u8 hq => kLa_pop E (d + 1) hq) (fun r9 u8 hb10 h => ?_)
            refine g_istore (pc := 65) (l' := [(4, pI r9), (3, pI v3_2), (0, pR 6), (1, pI x1), (2, pI x2)]) (dk d_mLa_run 37 rfl) (Nat.le_of_ble_eq_true rfl) rfl ?_
            refine g_iload_n (pc := 67) (j := 3) (dk d_mLa_run 38 rfl) rfl ?_
            refine h_if_eq (pc := 68) (tgt := 74) (dk d_mLa_run 39 rfl) rfl h (fun hc11 h => ?_) (fun hc11 h => ?_)
            · refine g_iconst (pc := 74) (dk d_mLa_run 42 rfl) (by decide) ?_
              refine g_istore_n (pc := 75) (l' := [(1, pI 1), (4, pI r9), (3, pI v3_2), (0, pR 6), (2, pI x2)]) (dk d_mLa_run 43 rfl) (Nat.le_of_ble_eq_true rfl) rfl ?_
              refine g_goto (pc := 76) (tgt := 84) (dk d_mLa_run 44 rfl) rfl ?_
              refine g_pick [3, 0, 4] rfl (l' := [(0, pR 6), (1, pI 1), (2, pI x2)]) rfl ?_
              exact hJ6 _ _ h
            · refine g_iload (pc := 71) (j := 0) (dk d_mLa_run 40 rfl) rfl ?_
              exact h_iret (pc := 73) rfl (dk d_mLa_run 41 rfl) h
        · refine g_aload_n (pc := 39) (j := 1) (dk d_mLa_run 24 rfl) rfl (by decide) ?_
          refine h_callVi (d := d + 2) (pc := 40) (na := 0) (av := []) (k0 := 6) po_6 ⟨_, rfl⟩ ⟨rfl, rfl⟩ (dk d_mLa_run 25 rfl) lk_La_103 vm_mLa_pop rfl rfl (Nat.le_of_ble_eq_true rfl) h (fun r14 u13 hq => kLa_pop E (d + 1) hq) (fun r14 u13 hb15 h => ?_)
          refine jn_e (fun J => ∀ (s16 : Int) (u17 : WD), J s16 u17 = some res → G E mLa_run (d + 3) 51 [(0, pR 6), (2, pI x2)] [pI s16] u17 RF NN 0 0 (some (pI res.1), res.2, RF, NN)) h (fun s16 u17 h => ?_) (fun J18 hJ18 h => ?_)
          · refine g_istore_n (pc := 51) (l' := [(1, pI s16), (0, pR 6), (2, pI x2)]) (dk d_mLa_run 30 rfl) (Nat.le_of_ble_eq_true rfl) rfl ?_
            refine g_goto (pc := 52) (tgt := 84) (dk d_mLa_run 31 rfl) rfl ?_
            refine g_pick [1, 0, 2] rfl (l' := [(0, pR 6), (1, pI s16), (2, pI x2)]) rfl ?_
            exact hJ6 _ _ h
          · refine h_if_eq (pc := 43) (tgt := 50) (dk d_mLa_run 26 rfl) rfl h (fun hc19 h => ?_) (fun hc19 h => ?_)
            · refine g_iconst (pc := 50) (dk d_mLa_run 29 rfl) (by decide) ?_
              refine g_pick [1, 3] rfl (l' := [(0, pR 6), (2, pI x2)]) rfl ?_
              exact hJ18 _ _ h
            · refine g_iconst (pc := 46) (dk d_mLa_run 27 rfl) (by decide) ?_
              refine g_goto (pc := 47) (tgt := 51) (dk d_mLa_run 28 rfl) rfl ?_
              refine g_pick [1, 3] rfl (l' := [(0, pR 6), (2, pI x2)]) rfl ?_
              exact hJ18 _ _ h
set_option maxRecDepth 100000 in
set_option maxHeartbeats 4000000 in
theorem fLa_run_l9_ok (E : Nat × (Int → Int)) (d : Nat) {res : Int × WD} : ∀ (k : Nat) (x1 : Int) (x2 : Int) (w : WD), fLa_run_l9 k x1 x2 w = some res → G E mLa_run (d + 3) 9 [(0, pR 6), (1, pI x1), (2, pI x2)] [] w RF NN 0 0 (some (pI res.1), res.2, RF, NN) := by
  intro k
  induction k with
  | zero =>
    intro x1 x2 w h
    exact no_e h
  | succ k ih =>
    intro x1 x2 w h
    exact fLa_run_l9_b_ok E d ih x1 x2 w h
def fLa_run (w : WD) : Option (Int × WD) := bw (up w 6 9 0) <| fun (u1 : WD) => fLa_run_l9 FU 1 0 u1
set_option maxRecDepth 100000 in
set_option maxHeartbeats 4000000 in
theorem gLa_run (E : Nat × (Int → Int)) (d : Nat) {res : Int × WD} (w : WD) (h : fLa_run w = some res) : G E mLa_run (d + 3) 0 [(0, pR 6)] [] w RF NN 0 0 (some (pI res.1), res.2, RF, NN) := by
  unfold fLa_run at h
  refine g_aload_n (pc := 0) (j := 0) (dk d_mLa_run 0 rfl) rfl (by decide) ?_
  refine g_iconst (pc := 1) (dk d_mLa_run 1 rfl) (by decide) ?_
  refine h_putI (pc := 2) fp_La_100 po_6 (dk d_mLa_run 2 rfl) h (fun u1 h => ?_)
  refine g_iconst (pc := 5) (dk d_mLa_run 3 rfl) (by decide) ?_
  refine g_istore_n (pc := 6) (l' := [(1, pI 1), (0, pR 6)]) (dk d_mLa_run 4 rfl) (Nat.le_of_ble_eq_true rfl) rfl ?_
  refine g_iconst (pc := 7) (dk d_mLa_run 5 rfl) (by decide) ?_
  refine g_istore_n (pc := 8) (l' := [(2, pI 0), (1, pI 1), (0, pR 6)]) (dk d_mLa_run 6 rfl) (Nat.le_of_ble_eq_true rfl) rfl ?_
  refine g_pick [2, 1, 0] rfl (l' := [(0, pR 6), (1, pI 1), (2, pI 0)]) rfl ?_
  refine fLa_run_l9_ok E d FU _ _  _ h
set_option maxRecDepth 100000 in
set_option maxHeartbeats 4000000 in
theorem kLa_run (E : Nat × (Int → Int)) (d : Nat) {w w1 : WD} {r : Int} (h : fLa_run w = some (r, w1)) : CTi E mLa_run (d + 3) [pR 6] w RF NN r w1 RF NN := by
  exact CTi_of (by decide +kernel) (Nat.le_of_ble_eq_true rfl) (Or.inl rfl) (gLa_run (res := (r, w1)) E d w h)
def fLa_weightOf (a1 : Int) (a2 : Int) (a3 : Int) (a4 : Int) (a5 : Int) (w : WD) : Option (Int × WD) := if (w 6 8) ≠ 0 then (bw (up w 11 0 a1) <| fun (u1 : WD) => bw (up u1 11 1 a2) <| fun (u2 : WD) => bw (up u2 11 2 a3) <| fun (u3 : WD) => bw (up u3 11 3 a4) <| fun (u4 : WD) => bw (up u4 11 4 a5) <| fun (u5 : WD) => jn (β := Int → WD → Option (Int × WD)) (fun (s6 : Int) (u7 : WD) => bw (up u7 11 5 s6) <| fun (u8 : WD) => ci (fLa_run u8) <| fun (r10 : Int) (u9 : WD) => some ((mx 0 (mn 9 r10)), u9)) <| fun J12 => if a3 ≠ a2 then (J12 0 u5) else (J12 1 u5)) else (if a3 ≠ a2 then (some (a4, w)) else (some (9, w)))
set_option maxRecDepth 100000 in
set_option maxHeartbeats 4000000 in
theorem gLa_weightOf (E : Nat × (Int → Int)) (d : Nat) {res : Int × WD} (a1 : Int) (a2 : Int) (a3 : Int) (a4 : Int) (a5 : Int) (w : WD) (h : fLa_weightOf a1 a2 a3 a4 a5 w = some res) : G E mLa_weightOf (d + 4) 0 [(0, pR 6), (1, pI a1), (2, pI a2), (3, pI a3), (4, pI a4), (5, pI a5)] [] w RF NN 0 0 (some (pI res.1), res.2, RF, NN) := by
  unfold fLa_weightOf at h
  refine g_aload_n (pc := 0) (j := 0) (dk d_mLa_weightOf 0 rfl) rfl (by decide) ?_
  refine g_getI (pc := 1) fp_La_41 po_6 (dk d_mLa_weightOf 1 rfl) ?_
  refine h_if_ne (pc := 4) (tgt := 20) (dk d_mLa_weightOf 2 rfl) rfl h (fun hc15 h => ?_) (fun hc15 h => ?_)
  · refine g_aload_n (pc := 20) (j := 0) (dk d_mLa_weightOf 10 rfl) rfl (by decide) ?_
    refine g_getR (pc := 21) (a := 11) rfl fp_La_24 po_6 (dk d_mLa_weightOf 11 rfl) ?_
    refine g_iconst (pc := 24) (dk d_mLa_weightOf 12 rfl) (by decide) ?_
    refine g_iload_n (pc := 25) (j := 1) (dk d_mLa_weightOf 13 rfl) rfl ?_
    refine h_iast0 (pc := 26) pa_11 (dk d_mLa_weightOf 14 rfl) (by decide) h (fun u1 h => ?_)
    refine g_aload_n (pc := 27) (j := 0) (dk d_mLa_weightOf 15 rfl) rfl (by decide) ?_
    refine g_getR (pc := 28) (a := 11) rfl fp_La_24 po_6 (dk d_mLa_weightOf 16 rfl) ?_
    refine g_iconst (pc := 31) (dk d_mLa_weightOf 17 rfl) (by decide) ?_
    refine g_iload_n (pc := 32) (j := 2) (dk d_mLa_weightOf 18 rfl) rfl ?_
    refine h_iast0 (pc := 33) pa_11 (dk d_mLa_weightOf 19 rfl) (by decide) h (fun u2 h => ?_)
    refine g_aload_n (pc := 34) (j := 0) (dk d_mLa_weightOf 20 rfl) rfl (by decide) ?_
    refine g_getR (pc := 35) (a := 11) rfl fp_La_24 po_6 (dk d_mLa_weightOf 21 rfl) ?_
    refine g_iconst (pc := 38) (dk d_mLa_weightOf 22 rfl) (by decide) ?_
    refine g_iload_n (pc := 39) (j := 3) (dk d_mLa_weightOf 23 rfl) rfl ?_
    refine h_iast0 (pc := 40) pa_11 (dk d_mLa_weightOf 24 rfl) (by decide) h (fun u3 h => ?_)
    refine g_aload_n (pc := 41) (j := 0) (dk d_mLa_weightOf 25 rfl) rfl (by decide) ?_
    refine g_getR (pc := 42) (a := 11) rfl fp_La_24 po_6 (dk d_mLa_weightOf 26 rfl) ?_
    refine g_iconst (pc := 45) (dk d_mLa_weightOf 27 rfl) (by decide) ?_
    refine g_iload (pc := 46) (j := 4) (dk d_mLa_weightOf 28 rfl) rfl ?_
    refine h_iast0 (pc := 48) pa_11 (dk d_mLa_weightOf 29 rfl) (by decide) h (fun u4 h => ?_)
    refine g_aload_n (pc := 49) (j := 0) (dk d_mLa_weightOf 30 rfl) rfl (by decide) ?_
    refine g_getR (pc := 50) (a := 11) rfl fp_La_24 po_6 (dk d_mLa_weightOf 31 rfl) ?_
    refine g_iconst (pc := 53) (dk d_mLa_weightOf 32 rfl) (by decide) ?_
    refine g_iload (pc := 54) (j := 5) (dk d_mLa_weightOf 33 rfl) rfl ?_
    refine h_iast0 (pc := 56) pa_11 (dk d_mLa_weightOf 34 rfl) (by decide) h (fun u5 h => ?_)
    refine g_aload_n (pc := 57) (j := 0) (dk d_mLa_weightOf 35 rfl) rfl (by decide) ?_
    refine g_getR (pc := 58) (a := 11) rfl fp_La_24 po_6 (dk d_mLa_weightOf 36 rfl) ?_
    refine g_iconst (pc := 61) (dk d_mLa_weightOf 37 rfl) (by decide) ?_
    refine g_iload_n (pc := 62) (j := 3) (dk d_mLa_weightOf 38 rfl) rfl ?_
    refine g_iload_n (pc := 63) (j := 2) (dk d_mLa_weightOf 39 rfl) rfl ?_
    refine jn_e (fun J => ∀ (s6 : Int) (u7 : WD), J s6 u7 = some res → G E mLa_weightOf (d + 4) 72 [(0, pR 6)] [pI s6, pI 5, pR 11] u7 RF NN 0 0 (some (pI res.1), res.2, RF, NN)) h (fun s6 u7 h => ?_) (fun J12 hJ12 h => ?_)
    · refine h_iast0 (pc := 72) pa_11 (dk d_mLa_weightOf 44 rfl) (by decide) h (fun u8 h => ?_)
      refine g_iconst (pc := 73) (dk d_mLa_weightOf 45 rfl) (by decide) ?_
      refine g_bipush (pc := 74) (dk d_mLa_weightOf 46 rfl) (by decide) ?_
      refine g_aload_n (pc := 76) (j := 0) (dk d_mLa_weightOf 47 rfl) rfl (by decide) ?_
      refine h_callVi (d := d + 3) (pc := 77) (na := 0) (av := []) (k0 := 6) po_6 ⟨_, rfl⟩ ⟨rfl, rfl⟩ (dk d_mLa_weightOf 48 rfl) lk_La_88 vm_mLa_run rfl rfl (Nat.le_of_ble_eq_true rfl) h (fun r10 u9 hq => kLa_run E (d + 0) hq) (fun r10 u9 hb11 h => ?_)
      refine g_mminI (pc := 80) mm_La_91 (Nat.le_of_ble_eq_true rfl) (by omega) (dk d_mLa_weightOf 49 rfl) ?_
      refine g_mmaxI (pc := 83) mm_La_97 (Nat.le_of_ble_eq_true rfl) (by omega) (dk d_mLa_weightOf 50 rfl) ?_
      exact h_iret (pc := 86) rfl (dk d_mLa_weightOf 51 rfl) h
    · refine h_icmp_ne (pc := 64) (tgt := 71) (dk d_mLa_weightOf 40 rfl) rfl h (fun hc13 h => ?_) (fun hc13 h => ?_)
      · refine g_iconst (pc := 71) (dk d_mLa_weightOf 43 rfl) (by decide) ?_
        refine g_pick [0] rfl (l' := [(0, pR 6)]) rfl ?_
        exact hJ12 _ _ h
      · refine g_iconst (pc := 67) (dk d_mLa_weightOf 41 rfl) (by decide) ?_
        refine g_goto (pc := 68) (tgt := 72) (dk d_mLa_weightOf 42 rfl) rfl ?_
        refine g_pick [0] rfl (l' := [(0, pR 6)]) rfl ?_
        exact hJ12 _ _ h
  · refine g_iload_n (pc := 7) (j := 3) (dk d_mLa_weightOf 3 rfl) rfl ?_
    refine g_iload_n (pc := 8) (j := 2) (dk d_mLa_weightOf 4 rfl) rfl ?_
    refine h_icmp_ne (pc := 9) (tgt := 17) (dk d_mLa_weightOf 5 rfl) rfl h (fun hc14 h => ?_) (fun hc14 h => ?_)
    · refine g_iload (pc := 17) (j := 4) (dk d_mLa_weightOf 8 rfl) rfl ?_
      exact h_iret (pc := 19) rfl (dk d_mLa_weightOf 9 rfl) h
    · refine g_bipush (pc := 12) (dk d_mLa_weightOf 6 rfl) (by decide) ?_
      refine g_goto (pc := 14) (tgt := 19) (dk d_mLa_weightOf 7 rfl) rfl ?_
      exact h_iret (pc := 19) rfl (dk d_mLa_weightOf 9 rfl) h
set_option maxRecDepth 100000 in
set_option maxHeartbeats 4000000 in
theorem kLa_weightOf (E : Nat × (Int → Int)) (d : Nat) {a1 : Int} {a2 : Int} {a3 : Int} {a4 : Int} {a5 : Int} {w w1 : WD} {r : Int} (h : fLa_weightOf a1 a2 a3 a4 a5 w = some (r, w1)) : CTi E mLa_weightOf (d + 4) [pR 6, pI a1, pI a2, pI a3, pI a4, pI a5] w RF NN r w1 RF NN := by
  exact CTi_of (by decide +kernel) (Nat.le_of_ble_eq_true rfl) (Or.inl rfl) (gLa_weightOf (res := (r, w1)) E d a1 a2 a3 a4 a5 w h)
def fTh_worthOf (a1 : Int) (a2 : Int) (a3 : Int) (w : WD) : Option (Int × WD) := if a1 ≠ 6 then (ci (fHa_at a1 a2 w) <| fun (r2 : Int) (u1 : WD) => ci (fHa_at a1 3 u1) <| fun (r5 : Int) (u4 : WD) => ci (fHa_at a2 8 u4) <| fun (r8 : Int) (u7 : WD) => ci (fLa_weightOf a2 r2 a3 r5 r8 u7) <| fun (r11 : Int) (u10 : WD) => some (r11, u10)) else (ci (fHa_at 0 10 w) <| fun (r14 : Int) (u13 : WD) => some (r14, u13))
set_option maxRecDepth 100000 in
set_option maxHeartbeats 4000000 in
theorem gTh_worthOf (E : Nat × (Int → Int)) (d : Nat) {res : Int × WD} (a1 : Int) (a2 : Int) (a3 : Int) (w : WD) (h : fTh_worthOf a1 a2 a3 w = some res) : G E mTh_worthOf (d + 5) 0 [(0, pR 12), (1, pI a1), (2, pI a2), (3, pI a3)] [] w RF NN 0 0 (some (pI res.1), res.2, RF, NN) := by
  unfold fTh_worthOf at h
  refine g_iload_n (pc := 0) (j := 1) (dk d_mTh_worthOf 0 rfl) rfl ?_
  refine g_bipush (pc := 1) (dk d_mTh_worthOf 1 rfl) (by decide) ?_
  refine h_icmp_ne (pc := 3) (tgt := 17) (dk d_mTh_worthOf 2 rfl) rfl h (fun hc16 h => ?_) (fun hc16 h => ?_)
  · refine g_aload_n (pc := 17) (j := 0) (dk d_mTh_worthOf 9 rfl) rfl (by decide) ?_
    refine g_getR (pc := 18) (a := 6) rfl fp_Th_35 po_12 (dk d_mTh_worthOf 10 rfl) ?_
    refine g_iload_n (pc := 21) (j := 2) (dk d_mTh_worthOf 11 rfl) rfl ?_
    refine g_aload_n (pc := 22) (j := 0) (dk d_mTh_worthOf 12 rfl) rfl (by decide) ?_
    refine g_getR (pc := 23) (a := 1) rfl fp_Th_31 po_12 (dk d_mTh_worthOf 13 rfl) ?_
    refine g_iload_n (pc := 26) (j := 1) (dk d_mTh_worthOf 14 rfl) rfl ?_
    refine g_iload_n (pc := 27) (j := 2) (dk d_mTh_worthOf 15 rfl) rfl ?_
    refine h_callVi (d := d + 4) (pc := 28) (na := 2) (av := [pI a1, pI a2]) (k0 := 1) po_1 ⟨_, rfl⟩ ⟨rfl, rfl⟩ (dk d_mTh_worthOf 16 rfl) lk_Th_41 vm_mHa_at rfl rfl (Nat.le_of_ble_eq_true rfl) h (fun r2 u1 hq => kHa_at E (d + 2) hq) (fun r2 u1 hb3 h => ?_)
    refine g_iload_n (pc := 31) (j := 3) (dk d_mTh_worthOf 17 rfl) rfl ?_
    refine g_aload_n (pc := 32) (j := 0) (dk d_mTh_worthOf 18 rfl) rfl (by decide) ?_
    refine g_getR (pc := 33) (a := 1) rfl fp_Th_31 po_12 (dk d_mTh_worthOf 19 rfl) ?_
    refine g_iload_n (pc := 36) (j := 1) (dk d_mTh_worthOf 20 rfl) rfl ?_
    refine g_iconst (pc := 37) (dk d_mTh_worthOf 21 rfl) (by decide) ?_
    refine h_callVi (d := d + 4) (pc := 38) (na := 2) (av := [pI a1, pI 3]) (k0 := 1) po_1 ⟨_, rfl⟩ ⟨rfl, rfl⟩ (dk d_mTh_worthOf 22 rfl) lk_Th_41 vm_mHa_at rfl rfl (Nat.le_of_ble_eq_true rfl) h (fun r5 u4 hq => kHa_at E (d + 2) hq) (fun r5 u4 hb6 h => ?_)
    refine g_aload_n (pc := 41) (j := 0) (dk d_mTh_worthOf 23 rfl) rfl (by decide) ?_
    refine g_getR (pc := 42) (a := 1) rfl fp_Th_31 po_12 (dk d_mTh_worthOf 24 rfl) ?_
    refine g_iload_n (pc := 45) (j := 2) (dk d_mTh_worthOf 25 rfl) rfl ?_
    refine g_bipush (pc := 46) (dk d_mTh_worthOf 26 rfl) (by decide) ?_
    refine h_callVi (d := d + 4) (pc := 48) (na := 2) (av := [pI a2, pI 8]) (k0 := 1) po_1 ⟨_, rfl⟩ ⟨rfl, rfl⟩ (dk d_mTh_worthOf 27 rfl) lk_Th_41 vm_mHa_at rfl rfl (Nat.le_of_ble_eq_true rfl) h (fun r8 u7 hq => kHa_at E (d + 2) hq) (fun r8 u7 hb9 h => ?_)
    refine h_callVi (d := d + 4) (pc := 51) (na := 5) (av := [pI a2, pI r2, pI a3, pI r5, pI r8]) (k0 := 6) po_6 ⟨_, rfl⟩ ⟨rfl, rfl⟩ (dk d_mTh_worthOf 28 rfl) lk_Th_45 vm_mLa_weightOf rfl rfl (Nat.le_of_ble_eq_true rfl) h (fun r11 u10 hq => kLa_weightOf E (d + 0) hq) (fun r11 u10 hb12 h => ?_)
    exact h_iret (pc := 54) rfl (dk d_mTh_worthOf 29 rfl) h
  · refine g_aload_n (pc := 6) (j := 0) (dk d_mTh_worthOf 3 rfl) rfl (by decide) ?_
    refine g_getR (pc := 7) (a := 1) rfl fp_Th_31 po_12 (dk d_mTh_worthOf 4 rfl) ?_
    refine g_iconst (pc := 10) (dk d_mTh_worthOf 5 rfl) (by decide) ?_
    refine g_bipush (pc := 11) (dk d_mTh_worthOf 6 rfl) (by decide) ?_
    refine h_callVi (d := d + 4) (pc := 13) (na := 2) (av := [pI 0, pI 10]) (k0 := 1) po_1 ⟨_, rfl⟩ ⟨rfl, rfl⟩ (dk d_mTh_worthOf 7 rfl) lk_Th_41 vm_mHa_at rfl rfl (Nat.le_of_ble_eq_true rfl) h (fun r14 u13 hq => kHa_at E (d + 2) hq) (fun r14 u13 hb15 h => ?_)
    exact h_iret (pc := 16) rfl (dk d_mTh_worthOf 8 rfl) h
set_option maxRecDepth 100000 in
set_option maxHeartbeats 4000000 in
theorem kTh_worthOf (E : Nat × (Int → Int)) (d : Nat) {a1 : Int} {a2 : Int} {a3 : Int} {w w1 : WD} {r : Int} (h : fTh_worthOf a1 a2 a3 w = some (r, w1)) : CTi E mTh_worthOf (d + 5) [pR 12, pI a1, pI a2, pI a3] w RF NN r w1 RF NN := by
  exact CTi_of (by decide +kernel) (Nat.le_of_ble_eq_true rfl) (Or.inl rfl) (gTh_worthOf (res := (r, w1)) E d a1 a2 a3 w h)
def fB_counts (a1 : Int) (a2 : Int) (w : WD) : Option (Int × WD) := bv (w32 (Int.tdiv a2 10)) <| fun (v3_1 : Int) => bv (Int.tmod a2 10) <| fun (v4_2 : Int) => ci (fHa_isOne a1 w) <| fun (r4 : Int) (u3 : WD) => if r4 = 0 then (some ((-1), u3)) else (if a2 < 0 then (some ((-1), u3)) else (if 3 ≤ v3_1 then (some ((-1), u3)) else (if v4_2 < 4 then (ci (fTh_worthOf a1 v3_1 v4_2 u3) <| fun (r7 : Int) (u6 : WD) => some (r7, u6)) else (some ((-1), u3)))))
set_option maxRecDepth 100000 in
set_option maxHeartbeats 4000000 in
theorem gB_counts (E : Nat × (Int → Int)) (d : Nat) {res : Int × WD} (a1 : Int) (a2 : Int) (w : WD) (h : fB_counts a1 a2 w = some res) : G E mB_counts (d + 6) 0 [(0, pR 0), (1, pI a1), (2, pI a2)] [] w RF NN 0 0 (some (pI res.1), res.2, RF, NN) := by
  unfold fB_counts at h
  refine g_iload_n (pc := 0) (j := 2) (dk d_mB_counts 0 rfl) rfl ?_
  refine g_bipush (pc := 1) (dk d_mB_counts 1 rfl) (by decide) ?_
  refine g_idiv (pc := 3) (dk d_mB_counts 2 rfl) (by decide) ?_
  refine h_bvI h (fun v3_1 h => ?_)
  refine g_istore_n (pc := 4) (l' := [(3, pI v3_1), (0, pR 0), (1, pI a1), (2, pI a2)]) (dk d_mB_counts 3 rfl) (Nat.le_of_ble_eq_true rfl) rfl ?_
  refine g_iload_n (pc := 5) (j := 3) (dk d_mB_counts 4 rfl) rfl ?_
  refine g_bipush (pc := 6) (dk d_mB_counts 5 rfl) (by decide) ?_
  refine g_irem (pc := 8) (dk d_mB_counts 6 rfl) (by decide) ?_
  refine h_bvI h (fun v4_2 h => ?_)
  refine g_istore (pc := 9) (l' := [(4, pI v4_2), (3, pI v3_1), (0, pR 0), (1, pI a1), (2, pI a2)]) (dk d_mB_counts 7 rfl) (Nat.le_of_ble_eq_true rfl) rfl ?_
  refine g_aload_n (pc := 11) (j := 2) (dk d_mB_counts 8 rfl) rfl (by decide) ?_
  refine g_getR (pc := 12) (a := 1) rfl fp_B_10 po_0 (dk d_mB_counts 9 rfl) ?_
  refine g_iload_n (pc := 15) (j := 3) (dk d_mB_counts 10 rfl) rfl ?_
  refine h_callVi (d := d + 5) (pc := 16) (na := 1) (av := [pI a1]) (k0 := 1) po_1 ⟨_, rfl⟩ ⟨rfl, rfl⟩ (dk d_mB_counts 11 rfl) lk_B_114 vm_mHa_isOne rfl rfl (Nat.le_of_ble_eq_true rfl) h (fun r4 u3 hq => kHa_isOne E (d + 4) hq) (fun r4 u3 hb5 h => ?_)
  refine h_if_eq (pc := 19) (tgt := 37) (dk d_mB_counts 12 rfl) rfl h (fun hc12 h => ?_) (fun hc12 h => ?_)
  · refine g_iconst (pc := 37) (dk d_mB_counts 21 rfl) (by decide) ?_
    exact h_iret (pc := 38) rfl (dk d_mB_counts 22 rfl) h
  · refine g_iload_n (pc := 22) (j := 4) (dk d_mB_counts 13 rfl) rfl ?_
    refine h_if_lt (pc := 23) (tgt := 37) (dk d_mB_counts 14 rfl) rfl h (fun hc11 h => ?_) (fun hc11 h => ?_)
    · refine g_iconst (pc := 37) (dk d_mB_counts 21 rfl) (by decide) ?_
      exact h_iret (pc := 38) rfl (dk d_mB_counts 22 rfl) h
    · refine g_iload_n (pc := 26) (j := 1) (dk d_mB_counts 15 rfl) rfl ?_
      refine g_iconst (pc := 27) (dk d_mB_counts 16 rfl) (by decide) ?_
      refine h_icmp_ge (pc := 28) (tgt := 37) (dk d_mB_counts 17 rfl) rfl h (fun hc10 h => ?_) (fun hc10 h => ?_)
      · refine g_iconst (pc := 37) (dk d_mB_counts 21 rfl) (by decide) ?_
        exact h_iret (pc := 38) rfl (dk d_mB_counts 22 rfl) h
      · refine g_iload (pc := 31) (j := 0) (dk d_mB_counts 18 rfl) rfl ?_
        refine g_iconst (pc := 33) (dk d_mB_counts 19 rfl) (by decide) ?_
        refine h_icmp_lt (pc := 34) (tgt := 39) (dk d_mB_counts 20 rfl) rfl h (fun hc9 h => ?_) (fun hc9 h => ?_)
        · refine g_aload_n (pc := 39) (j := 2) (dk d_mB_counts 23 rfl) rfl (by decide) ?_
          refine g_getR (pc := 40) (a := 12) rfl fp_B_28 po_0 (dk d_mB_counts 24 rfl) ?_
          refine g_iload_n (pc := 43) (j := 3) (dk d_mB_counts 25 rfl) rfl ?_
          refine g_iload_n (pc := 44) (j := 1) (dk d_mB_counts 26 rfl) rfl ?_
          refine g_iload (pc := 45) (j := 0) (dk d_mB_counts 27 rfl) rfl ?_
          refine h_callVi (d := d + 5) (pc := 47) (na := 3) (av := [pI a1, pI v3_1, pI v4_2]) (k0 := 12) po_12 ⟨_, rfl⟩ ⟨rfl, rfl⟩ (dk d_mB_counts 28 rfl) lk_B_117 vm_mTh_worthOf rfl rfl (Nat.le_of_ble_eq_true rfl) h (fun r7 u6 hq => kTh_worthOf E (d + 0) hq) (fun r7 u6 hb8 h => ?_)
          exact h_iret (pc := 50) rfl (dk d_mB_counts 29 rfl) h
        · refine g_iconst (pc := 37) (dk d_mB_counts 21 rfl) (by decide) ?_
          exact h_iret (pc := 38) rfl (dk d_mB_counts 22 rfl) h
set_option maxRecDepth 100000 in
set_option maxHeartbeats 4000000 in
theorem kB_counts (E : Nat × (Int → Int)) (d : Nat) {a1 : Int} {a2 : Int} {w w1 : WD} {r : Int} (h : fB_counts a1 a2 w = some (r, w1)) : CTi E mB_counts (d + 6) [pR 0, pI a1, pI a2] w RF NN r w1 RF NN := by
  exact CTi_of (by decide +kernel) (Nat.le_of_ble_eq_true rfl) (Or.inl rfl) (gB_counts (res := (r, w1)) E d a1 a2 w h)
def fB_isBit (a0 : Int) (w : WD) : Option (Int × WD) := if a0 = 0 then (some (1, w)) else (if a0 ≠ 1 then (some (0, w)) else (some (1, w)))
set_option maxRecDepth 100000 in
set_option maxHeartbeats 4000000 in
theorem gB_isBit (E : Nat × (Int → Int)) (d : Nat) {res : Int × WD} (a0 : Int) (w : WD) (h : fB_isBit a0 w = some res) : G E mB_isBit (d + 1) 0 [(0, pI a0)] [] w RF NN 0 0 (some (pI res.1), res.2, RF, NN) := by
  unfold fB_isBit at h
  refine g_iload_n (pc := 0) (j := 0) (dk d_mB_isBit 0 rfl) rfl ?_
  refine h_if_eq (pc := 1) (tgt := 9) (dk d_mB_isBit 1 rfl) rfl h (fun hc2 h => ?_) (fun hc2 h => ?_)
  · refine g_iconst (pc := 9) (dk d_mB_isBit 5 rfl) (by decide) ?_
    refine g_goto (pc := 10) (tgt := 14) (dk d_mB_isBit 6 rfl) rfl ?_
    exact h_zret (pc := 14) (Or.inr rfl) (dk d_mB_isBit 8 rfl) h
  · refine g_iload_n (pc := 4) (j := 0) (dk d_mB_isBit 2 rfl) rfl ?_
    refine g_iconst (pc := 5) (dk d_mB_isBit 3 rfl) (by decide) ?_
    refine h_icmp_ne (pc := 6) (tgt := 13) (dk d_mB_isBit 4 rfl) rfl h (fun hc1 h => ?_) (fun hc1 h => ?_)
    · refine g_iconst (pc := 13) (dk d_mB_isBit 7 rfl) (by decide) ?_
      exact h_zret (pc := 14) (Or.inl rfl) (dk d_mB_isBit 8 rfl) h
    · refine g_iconst (pc := 9) (dk d_mB_isBit 5 rfl) (by decide) ?_
      refine g_goto (pc := 10) (tgt := 14) (dk d_mB_isBit 6 rfl) rfl ?_
      exact h_zret (pc := 14) (Or.inr rfl) (dk d_mB_isBit 8 rfl) h
set_option maxRecDepth 100000 in
set_option maxHeartbeats 4000000 in
theorem kB_isBit (E : Nat × (Int → Int)) (d : Nat) {a0 : Int} {w w1 : WD} {r : Int} (h : fB_isBit a0 w = some (r, w1)) : CTi E mB_isBit (d + 1) [pI a0] w RF NN r w1 RF NN := by
  exact CTi_of (by decide +kernel) (Nat.le_of_ble_eq_true rfl) (Or.inr rfl) (gB_isBit (res := (r, w1)) E d a0 w h)
def fTh_weigh_l41_b (rec : Int → Int → WD → Option WD) (y1 : Int) (y2 : Int) (y3 : Int) (y4 : Int) (K0 : Int → WD → Option WD) (x5 : Int) (x7 : Int) (w : WD) : Option WD := if 3 ≤ x7 then (K0 x5 w) else (jn (β := Int → WD → Option WD) (fun (s6 : Int) (u7 : WD) => jn (β := Int → WD → Option WD) (fun (v5_8 : Int) (u9 : WD) => bv (w32 (x7 + 1)) <| fun (v7_10 : Int) => rec v5_8 v7_10 u9) <| fun J11 => if s6 < 0 then (J11 x5 u7) else (if 4 ≤ s6 then (J11 x5 u7) else (ck (0 ≤ (w32 ((w32 ((w32 (12 * y4)) + (w32 (4 * x7)))) + s6)) ∧ (w32 ((w32 ((w32 (12 * y4)) + (w32 (4 * x7)))) + s6)) < 84) <| bv (w64 (x5 * (u7 13 (w32 ((w32 ((w32 (12 * y4)) + (w32 (4 * x7)))) + s6))))) <| fun (v5_12 : Int) => J11 v5_12 u7))) <| fun J15 => if x7 ≠ y2 then (ci (fHa_at y1 (w32 (4 + x7)) w) <| fun (r17 : Int) (u16 : WD) => J15 r17 u16) else (J15 y3 w))
def fTh_weigh_l41 (y1 : Int) (y2 : Int) (y3 : Int) (y4 : Int) (K0 : Int → WD → Option WD) : Nat → Int → Int → WD → Option WD
  | 0 => fun _ _ _ => none
  | k + 1 => fTh_weigh_l41_b ( fTh_weigh_l41 y1 y2 y3 y4 K0 k) y1 y2 y3 y4 K0
set_option maxRecDepth 100000 in
set_option maxHeartbeats 4000000 in
theorem fTh_weigh_l41_b_ok (E : Nat × (Int → Int)) (d : Nat) {res : WD} {rec : Int → Int → WD → Option WD} (y1 : Int) (y2 : Int) (y3 : Int) (y4 : Int) (K0 : Int → WD → Option WD) (hrec : ∀ (x5 : Int) (x7 : Int) (w : WD), rec x5 x7 w = some res → G E mTh_weigh (d + 3) 41 [(0, pR 12), (1, pI y1), (2, pI y2), (3, pI y3), (4, pI y4), (5, pL x5), (7, pI x7)] [] w RF NN 0 0 (none, res, RF, NN)) (hK0 : ∀ (x5 : Int) (w : WD), K0 x5 w = some res → G E mTh_weigh (d + 3) 112 [(0, pR 12), (1, pI y1), (2, pI y2), (3, pI y3), (4, pI y4), (5, pL x5)] [] w RF NN 0 0 (none, res, RF, NN)) (x5 : Int) (x7 : Int) (w : WD) (h : fTh_weigh_l41_b rec y1 y2 y3 y4 K0 x5 x7 w = some res) : G E mTh_weigh (d + 3) 41 [(0, pR 12), (1, pI y1), (2, pI y2), (3, pI y3), (4, pI y4), (5, pL x5), (7, pI x7)] [] w RF NN 0 0 (none, res, RF, NN) := by
  unfold fTh_weigh_l41_b at h
  refine g_iload (pc := 41) (j := 6) (dk d_mTh_weigh 21 rfl) rfl ?_
  refine g_iconst (pc := 43) (dk d_mTh_weigh 22 rfl) (by decide) ?_
  refine h_icmp_ge (pc := 44) (tgt := 112) (dk d_mTh_weigh 23 rfl) rfl h (fun hc20 h => ?_) (fun hc20 h => ?_)
  · refine g_pick [0, 1, 2, 3, 4, 5] rfl (l' := [(0, pR 12), (1, pI y1), (2, pI y2), (3, pI y3), (4, pI y4), (5, pL x5)]) rfl ?_
    exact hK0 _ _ h
  · refine g_iload (pc := 47) (j := 6) (dk d_mTh_weigh 24 rfl) rfl ?_
    refine g_iload_n (pc := 49) (j := 2) (dk d_mTh_weigh 25 rfl) rfl ?_
    refine jn_e (fun J => ∀ (s6 : Int) (u7 : WD), J s6 u7 = some res → G E mTh_weigh (d + 3) 69 [(0, pR 12), (1, pI y1), (2, pI y2), (3, pI y3), (4, pI y4), (5, pL x5), (7, pI x7)] [pI s6] u7 RF NN 0 0 (none, res, RF, NN)) h (fun s6 u7 h => ?_) (fun J15 hJ15 h => ?_)
    · refine g_istore (pc := 69) (l' := [(8, pI s6), (0, pR 12), (1, pI y1), (2, pI y2), (3, pI y3), (4, pI y4), (5, pL x5), (7, pI x7)]) (dk d_mTh_weigh 36 rfl) (Nat.le_of_ble_eq_true rfl) rfl ?_
      refine g_iload (pc := 71) (j := 0) (dk d_mTh_weigh 37 rfl) rfl ?_
      refine jn_e (fun J => ∀ (v5_8 : Int) (u9 : WD), J v5_8 u9 = some res → G E mTh_weigh (d + 3) 106 [(0, pR 12), (1, pI y1), (2, pI y2), (3, pI y3), (4, pI y4), (5, pL v5_8), (7, pI x7)] [] u9 RF NN 0 0 (none, res, RF, NN)) h (fun v5_8 u9 h => ?_) (fun J11 hJ11 h => ?_)
      · refine h_iinc (pc := 106) (j := 6) (dk d_mTh_weigh 58 rfl) rfl (by decide) (Nat.le_of_ble_eq_true rfl) h (fun v7_10 h => ?_)
        refine g_loc (l' := [(7, pI v7_10), (0, pR 12), (1, pI y1), (2, pI y2), (3, pI y3), (4, pI y4), (5, pL v5_8)]) rfl ?_
        refine g_goto (pc := 109) (tgt := 41) (dk d_mTh_weigh 59 rfl) rfl ?_
        refine g_pick [1, 2, 3, 4, 5, 6, 0] rfl (l' := [(0, pR 12), (1, pI y1), (2, pI y2), (3, pI y3), (4, pI y4), (5, pL v5_8), (7, pI v7_10)]) rfl ?_
        exact hrec _ _ _ h
      · refine h_if_lt (pc := 73) (tgt := 106) (dk d_mTh_weigh 38 rfl) rfl h (fun hc14 h => ?_) (fun hc14 h => ?_)
        · refine g_pick [1, 2, 3, 4, 5, 6, 7] rfl (l' := [(0, pR 12), (1, pI y1), (2, pI y2), (3, pI y3), (4, pI y4), (5, pL x5), (7, pI x7)]) rfl ?_
          exact hJ11 _ _ h
        · refine g_iload (pc := 76) (j := 0) (dk d_mTh_weigh 39 rfl) rfl ?_
          refine g_iconst (pc := 78) (dk d_mTh_weigh 40 rfl) (by decide) ?_
          refine h_icmp_ge (pc := 79) (tgt := 106) (dk d_mTh_weigh 41 rfl) rfl h (fun hc13 h => ?_) (fun hc13 h => ?_)
          · refine g_pick [1, 2, 3, 4, 5, 6, 7] rfl (l' := [(0, pR 12), (1, pI y1), (2, pI y2), (3, pI y3), (4, pI y4), (5, pL x5), (7, pI x7)]) rfl ?_
            exact hJ11 _ _ h
          · refine g_lload (pc := 82) (j := 6) (dk d_mTh_weigh 42 rfl) rfl ?_
            refine g_aload_n (pc := 84) (j := 1) (dk d_mTh_weigh 43 rfl) rfl (by decide) ?_
            refine g_getR (pc := 85) (a := 13) rfl fp_Th_11 po_12 (dk d_mTh_weigh 44 rfl) ?_
            refine g_bipush (pc := 88) (dk d_mTh_weigh 45 rfl) (by decide) ?_
            refine g_iload (pc := 90) (j := 5) (dk d_mTh_weigh 46 rfl) rfl ?_
            refine g_imul (pc := 92) (dk d_mTh_weigh 47 rfl) ?_
            refine g_iconst (pc := 93) (dk d_mTh_weigh 48 rfl) (by decide) ?_
            refine g_iload (pc := 94) (j := 7) (dk d_mTh_weigh 49 rfl) rfl ?_
            refine g_imul (pc := 96) (dk d_mTh_weigh 50 rfl) ?_
            refine g_iadd (pc := 97) (dk d_mTh_weigh 51 rfl) ?_
            refine g_iload (pc := 98) (j := 0) (dk d_mTh_weigh 52 rfl) rfl ?_
            refine g_iadd (pc := 100) (dk d_mTh_weigh 53 rfl) ?_
            refine h_iald (pc := 101) (B := 84) pa_13 rfl (dk d_mTh_weigh 54 rfl) h (fun h => ?_)
            refine g_i2l (pc := 102) (dk d_mTh_weigh 55 rfl) ?_
            refine g_lmul (pc := 103) (dk d_mTh_weigh 56 rfl) ?_
            refine h_bvL h (fun v5_12 h => ?_)
            refine g_lstore (pc := 104) (l' := [(5, pL v5_12), (8, pI s6), (0, pR 12), (1, pI y1), (2, pI y2), (3, pI y3), (4, pI y4), (7, pI x7)]) (dk d_mTh_weigh 57 rfl) (Nat.le_of_ble_eq_true rfl) rfl ?_
            refine g_pick [2, 3, 4, 5, 6, 0, 7] rfl (l' := [(0, pR 12), (1, pI y1), (2, pI y2), (3, pI y3), (4, pI y4), (5, pL v5_12), (7, pI x7)]) rfl ?_
            exact hJ11 _ _ h
    · refine h_icmp_ne (pc := 50) (tgt := 57) (dk d_mTh_weigh 26 rfl) rfl h (fun hc19 h => ?_) (fun hc19 h => ?_)
      · refine g_aload_n (pc := 57) (j := 0) (dk d_mTh_weigh 29 rfl) rfl (by decide) ?_
        refine g_getR (pc := 58) (a := 1) rfl fp_Th_31 po_12 (dk d_mTh_weigh 30 rfl) ?_
        refine g_iload_n (pc := 61) (j := 1) (dk d_mTh_weigh 31 rfl) rfl ?_
        refine g_iconst (pc := 62) (dk d_mTh_weigh 32 rfl) (by decide) ?_
        refine g_iload (pc := 63) (j := 6) (dk d_mTh_weigh 33 rfl) rfl ?_
        refine g_iadd (pc := 65) (dk d_mTh_weigh 34 rfl) ?_
        refine h_callVi (d := d + 2) (pc := 66) (na := 2) (av := [pI y1, pI (w32 (4 + x7))]) (k0 := 1) po_1 ⟨_, rfl⟩ ⟨rfl, rfl⟩ (dk d_mTh_weigh 35 rfl) lk_Th_41 vm_mHa_at rfl rfl (Nat.le_of_ble_eq_true rfl) h (fun r17 u16 hq => kHa_at E (d + 0) hq) (fun r17 u16 hb18 h => ?_)
        exact hJ15 _ _ h
      · refine g_iload_n (pc := 53) (j := 3) (dk d_mTh_weigh 27 rfl) rfl ?_
        refine g_goto (pc := 54) (tgt := 69) (dk d_mTh_weigh 28 rfl) rfl ?_
        exact hJ15 _ _ h
set_option maxRecDepth 100000 in
set_option maxHeartbeats 4000000 in
theorem fTh_weigh_l41_ok (E : Nat × (Int → Int)) (d : Nat) {res : WD} (y1 : Int) (y2 : Int) (y3 : Int) (y4 : Int) (K0 : Int → WD → Option WD) (hK0 : ∀ (x5 : Int) (w : WD), K0 x5 w = some res → G E mTh_weigh (d + 3) 112 [(0, pR 12), (1, pI y1), (2, pI y2), (3, pI y3), (4, pI y4), (5, pL x5)] [] w RF NN 0 0 (none, res, RF, NN)) : ∀ (k : Nat) (x5 : Int) (x7 : Int) (w : WD), fTh_weigh_l41 y1 y2 y3 y4 K0 k x5 x7 w = some res → G E mTh_weigh (d + 3) 41 [(0, pR 12), (1, pI y1), (2, pI y2), (3, pI y3), (4, pI y4), (5, pL x5), (7, pI x7)] [] w RF NN 0 0 (none, res, RF, NN) := by
  intro k
  induction k with
  | zero =>
    intro x5 x7 w h
    exact no_e h
  | succ k ih =>
    intro x5 x7 w h
    exact fTh_weigh_l41_b_ok E d y1 y2 y3 y4 K0 ih hK0 x5 x7 w h
def fTh_weigh_l3_b (rec : Int → WD → Option WD) (y1 : Int) (y2 : Int) (y3 : Int) (x4 : Int) (w : WD) : Option WD := if 7 ≤ x4 then (some w) else (if y1 < 0 then (some w) else (if 5 ≤ y1 then (some w) else (ci (fHa_isOne x4 w) <| fun (r2 : Int) (u1 : WD) => jn (β := Int → WD → Option WD) (fun (s4 : Int) (u5 : WD) => fTh_weigh_l41 y1 y2 y3 x4 (fun (v5_21 : Int) (u22 : WD) => ck (0 ≤ (w32 ((w32 (7 * y1)) + x4)) ∧ (w32 ((w32 (7 * y1)) + x4)) < 35) <| bw (up u22 14 (w32 ((w32 (7 * y1)) + x4)) v5_21) <| fun (u23 : WD) => bv (w32 (x4 + 1)) <| fun (v4_24 : Int) => rec v4_24 u23) FU s4 0 u5) <| fun J25 => if r2 = 0 then (J25 0 u1) else (J25 1 u1))))
def fTh_weigh_l3 (y1 : Int) (y2 : Int) (y3 : Int) : Nat → Int → WD → Option WD
  | 0 => fun _ _ => none
  | k + 1 => fTh_weigh_l3_b ( fTh_weigh_l3 y1 y2 y3 k) y1 y2 y3
set_option maxRecDepth 100000 in
set_option maxHeartbeats 4000000 in
theorem fTh_weigh_l3_b_ok (E : Nat × (Int → Int)) (d : Nat) {res : WD} {rec : Int → WD → Option WD} (y1 : Int) (y2 : Int) (y3 : Int) (hrec : ∀ (x4 : Int) (w : WD), rec x4 w = some res → G E mTh_weigh (d + 3) 3 [(0, pR 12), (1, pI y1), (2, pI y2), (3, pI y3), (4, pI x4)] [] w RF NN 0 0 (none, res, RF, NN)) (x4 : Int) (w : WD) (h : fTh_weigh_l3_b rec y1 y2 y3 x4 w = some res) : G E mTh_weigh (d + 3) 3 [(0, pR 12), (1, pI y1), (2, pI y2), (3, pI y3), (4, pI x4)] [] w RF NN 0 0 (none, res, RF, NN) := by
  unfold fTh_weigh_l3_b at h
  refine g_iload (pc := 3) (j := 4) (dk d_mTh_weigh 2 rfl) rfl ?_
  refine g_bipush (pc := 5) (dk d_mTh_weigh 3 rfl) (by decide) ?_
  refine h_icmp_ge (pc := 7) (tgt := 132) (dk d_mTh_weigh 4 rfl) rfl h (fun hc29 h => ?_) (fun hc29 h => ?_)
  · exact h_vret (pc := 132) (dk d_mTh_weigh 71 rfl) h
  · refine g_iload_n (pc := 10) (j := 1) (dk d_mTh_weigh 5 rfl) rfl ?_
    refine h_if_lt (pc := 11) (tgt := 132) (dk d_mTh_weigh 6 rfl) rfl h (fun hc28 h => ?_) (fun hc28 h => ?_)
    · exact h_vret (pc := 132) (dk d_mTh_weigh 71 rfl) h
    · refine g_iload_n (pc := 14) (j := 1) (dk d_mTh_weigh 7 rfl) rfl ?_
      refine g_iconst (pc := 15) (dk d_mTh_weigh 8 rfl) (by decide) ?_
      refine h_icmp_ge (pc := 16) (tgt := 132) (dk d_mTh_weigh 9 rfl) rfl h (fun hc27 h => ?_) (fun hc27 h => ?_)
      · exact h_vret (pc := 132) (dk d_mTh_weigh 71 rfl) h
      · refine g_aload_n (pc := 19) (j := 0) (dk d_mTh_weigh 10 rfl) rfl (by decide) ?_
        refine g_getR (pc := 20) (a := 1) rfl fp_Th_31 po_12 (dk d_mTh_weigh 11 rfl) ?_
        refine g_iload (pc := 23) (j := 4) (dk d_mTh_weigh 12 rfl) rfl ?_
        refine h_callVi (d := d + 2) (pc := 25) (na := 1) (av := [pI x4]) (k0 := 1) po_1 ⟨_, rfl⟩ ⟨rfl, rfl⟩ (dk d_mTh_weigh 13 rfl) lk_Th_55 vm_mHa_isOne rfl rfl (Nat.le_of_ble_eq_true rfl) h (fun r2 u1 hq => kHa_isOne E (d + 1) hq) (fun r2 u1 hb3 h => ?_)
        refine jn_e (fun J => ∀ (s4 : Int) (u5 : WD), J s4 u5 = some res → G E mTh_weigh (d + 3) 36 [(0, pR 12), (1, pI y1), (2, pI y2), (3, pI y3), (4, pI x4)] [pL s4] u5 RF NN 0 0 (none, res, RF, NN)) h (fun s4 u5 h => ?_) (fun J25 hJ25 h => ?_)
        · refine g_lstore (pc := 36) (l' := [(5, pL s4), (0, pR 12), (1, pI y1), (2, pI y2), (3, pI y3), (4, pI x4)]) (dk d_mTh_weigh 18 rfl) (Nat.le_of_ble_eq_true rfl) rfl ?_
          refine g_iconst (pc := 38) (dk d_mTh_weigh 19 rfl) (by decide) ?_
          refine g_istore (pc := 39) (l' := [(7, pI 0), (5, pL s4), (0, pR 12), (1, pI y1), (2, pI y2), (3, pI y3), (4, pI x4)]) (dk d_mTh_weigh 20 rfl) (Nat.le_of_ble_eq_true rfl) rfl ?_
          refine g_pick [2, 3, 4, 5, 6, 1, 0] rfl (l' := [(0, pR 12), (1, pI y1), (2, pI y2), (3, pI y3), (4, pI x4), (5, pL s4), (7, pI 0)]) rfl ?_
          refine fTh_weigh_l41_ok E d y1 y2 y3 x4 _  (fun v5_21 u22 h => ?_) FU _ _  _ h
          · refine g_aload_n (pc := 112) (j := 0) (dk d_mTh_weigh 60 rfl) rfl (by decide) ?_
            refine g_getR (pc := 113) (a := 14) rfl fp_Th_15 po_12 (dk d_mTh_weigh 61 rfl) ?_
            refine g_bipush (pc := 116) (dk d_mTh_weigh 62 rfl) (by decide) ?_
            refine g_iload_n (pc := 118) (j := 1) (dk d_mTh_weigh 63 rfl) rfl ?_
            refine g_imul (pc := 119) (dk d_mTh_weigh 64 rfl) ?_
            refine g_iload (pc := 120) (j := 4) (dk d_mTh_weigh 65 rfl) rfl ?_
            refine g_iadd (pc := 122) (dk d_mTh_weigh 66 rfl) ?_
            refine g_lload (pc := 123) (j := 5) (dk d_mTh_weigh 67 rfl) rfl ?_
            refine h_last (pc := 125) (B := 35) pa_14 rfl (dk d_mTh_weigh 68 rfl) h (fun u23 h => ?_)
            refine h_iinc (pc := 126) (j := 4) (dk d_mTh_weigh 69 rfl) rfl (by decide) (Nat.le_of_ble_eq_true rfl) h (fun v4_24 h => ?_)
            refine g_loc (l' := [(4, pI v4_24), (0, pR 12), (1, pI y1), (2, pI y2), (3, pI y3), (5, pL v5_21)]) rfl ?_
            refine g_goto (pc := 129) (tgt := 3) (dk d_mTh_weigh 70 rfl) rfl ?_
            refine g_pick [1, 2, 3, 4, 0] rfl (l' := [(0, pR 12), (1, pI y1), (2, pI y2), (3, pI y3), (4, pI v4_24)]) rfl ?_
            exact hrec _ _ h
        · refine h_if_eq (pc := 28) (tgt := 35) (dk d_mTh_weigh 14 rfl) rfl h (fun hc26 h => ?_) (fun hc26 h => ?_)
          · refine g_lconst0 (pc := 35) (dk d_mTh_weigh 17 rfl) ?_
            exact hJ25 _ _ h
          · refine g_lconst1 (pc := 31) (dk d_mTh_weigh 15 rfl) ?_
            refine g_goto (pc := 32) (tgt := 36) (dk d_mTh_weigh 16 rfl) rfl ?_
            exact hJ25 _ _ h
set_option maxRecDepth 100000 in
set_option maxHeartbeats 4000000 in
theorem fTh_weigh_l3_ok (E : Nat × (Int → Int)) (d : Nat) {res : WD} (y1 : Int) (y2 : Int) (y3 : Int) : ∀ (k : Nat) (x4 : Int) (w : WD), fTh_weigh_l3 y1 y2 y3 k x4 w = some res → G E mTh_weigh (d + 3) 3 [(0, pR 12), (1, pI y1), (2, pI y2), (3, pI y3), (4, pI x4)] [] w RF NN 0 0 (none, res, RF, NN) := by
  intro k
  induction k with
  | zero =>
    intro x4 w h
    exact no_e h
  | succ k ih =>
    intro x4 w h
    exact fTh_weigh_l3_b_ok E d y1 y2 y3 ih x4 w h
def fTh_weigh (a1 : Int) (a2 : Int) (a3 : Int) (w : WD) : Option WD := fTh_weigh_l3 a1 a2 a3 FU 0 w
set_option maxRecDepth 100000 in
set_option maxHeartbeats 4000000 in
theorem gTh_weigh (E : Nat × (Int → Int)) (d : Nat) {res : WD} (a1 : Int) (a2 : Int) (a3 : Int) (w : WD) (h : fTh_weigh a1 a2 a3 w = some res) : G E mTh_weigh (d + 3) 0 [(0, pR 12), (1, pI a1), (2, pI a2), (3, pI a3)] [] w RF NN 0 0 (none, res, RF, NN) := by
  unfold fTh_weigh at h
  refine g_iconst (pc := 0) (dk d_mTh_weigh 0 rfl) (by decide) ?_
  refine g_istore (pc := 1) (l' := [(4, pI 0), (0, pR 12), (1, pI a1), (2, pI a2), (3, pI a3)]) (dk d_mTh_weigh 1 rfl) (Nat.le_of_ble_eq_true rfl) rfl ?_
  refine g_pick [1, 2, 3, 4, 0] rfl (l' := [(0, pR 12), (1, pI a1), (2, pI a2), (3, pI a3), (4, pI 0)]) rfl ?_
  refine fTh_weigh_l3_ok E d a1 a2 a3 FU _  _ h
set_option maxRecDepth 100000 in
set_option maxHeartbeats 4000000 in
theorem kTh_weigh (E : Nat × (Int → Int)) (d : Nat) {a1 : Int} {a2 : Int} {a3 : Int} {w w1 : WD} (h : fTh_weigh a1 a2 a3 w = some w1) : CTv E mTh_weigh (d + 3) [pR 12, pI a1, pI a2, pI a3] w RF NN w1 RF NN := by
  exact CTv_of (by decide +kernel) (Nat.le_of_ble_eq_true rfl) rfl (gTh_weigh (res := w1) E d a1 a2 a3 w h)
def fTh_load_l24_b (rec : Int → WD → Option WD) (y1 : Int) (K0 : WD → Option WD) (x2 : Int) (w : WD) : Option WD := if 12 ≤ x2 then (K0 w) else (ci (fHa_isOne y1 w) <| fun (r6 : Int) (u5 : WD) => jn (β := Int → WD → Option WD) (fun (s8 : Int) (u9 : WD) => ck (0 ≤ (w32 ((w32 (12 * y1)) + x2)) ∧ (w32 ((w32 (12 * y1)) + x2)) < 84) <| bw (up u9 13 (w32 ((w32 (12 * y1)) + x2)) s8) <| fun (u10 : WD) => bv (w32 (x2 + 1)) <| fun (v2_11 : Int) => rec v2_11 u10) <| fun J12 => if r6 = 0 then (J12 0 u5) else (ci (fTh_worthOf y1 (w32 (Int.tdiv x2 4)) (Int.tmod x2 4) u5) <| fun (r14 : Int) (u13 : WD) => J12 r14 u13))
def fTh_load_l24 (y1 : Int) (K0 : WD → Option WD) : Nat → Int → WD → Option WD
  | 0 => fun _ _ => none
  | k + 1 => fTh_load_l24_b ( fTh_load_l24 y1 K0 k) y1 K0
set_option maxRecDepth 100000 in
set_option maxHeartbeats 4000000 in
theorem fTh_load_l24_b_ok (E : Nat × (Int → Int)) (d : Nat) {res : WD} {rec : Int → WD → Option WD} (y1 : Int) (K0 : WD → Option WD) (hrec : ∀ (x2 : Int) (w : WD), rec x2 w = some res → G E mTh_load (d + 6) 24 [(0, pR 12), (1, pI y1), (2, pI x2)] [] w RF NN 0 0 (none, res, RF, NN)) (hK0 : ∀ (w : WD), K0 w = some res → G E mTh_load (d + 6) 75 [(0, pR 12), (1, pI y1)] [] w RF NN 0 0 (none, res, RF, NN)) (x2 : Int) (w : WD) (h : fTh_load_l24_b rec y1 K0 x2 w = some res) : G E mTh_load (d + 6) 24 [(0, pR 12), (1, pI y1), (2, pI x2)] [] w RF NN 0 0 (none, res, RF, NN) := by
  unfold fTh_load_l24_b at h
  refine g_iload_n (pc := 24) (j := 2) (dk d_mTh_load 14 rfl) rfl ?_
  refine g_bipush (pc := 25) (dk d_mTh_load 15 rfl) (by decide) ?_
  refine h_icmp_ge (pc := 27) (tgt := 75) (dk d_mTh_load 16 rfl) rfl h (fun hc17 h => ?_) (fun hc17 h => ?_)
  · refine g_pick [0, 1] rfl (l' := [(0, pR 12), (1, pI y1)]) rfl ?_
    exact hK0 _ h
  · refine g_aload_n (pc := 30) (j := 0) (dk d_mTh_load 17 rfl) rfl (by decide) ?_
    refine g_getR (pc := 31) (a := 1) rfl fp_Th_31 po_12 (dk d_mTh_load 18 rfl) ?_
    refine g_iload_n (pc := 34) (j := 1) (dk d_mTh_load 19 rfl) rfl ?_
    refine h_callVi (d := d + 5) (pc := 35) (na := 1) (av := [pI y1]) (k0 := 1) po_1 ⟨_, rfl⟩ ⟨rfl, rfl⟩ (dk d_mTh_load 20 rfl) lk_Th_55 vm_mHa_isOne rfl rfl (Nat.le_of_ble_eq_true rfl) h (fun r6 u5 hq => kHa_isOne E (d + 4) hq) (fun r6 u5 hb7 h => ?_)
    refine g_istore_n (pc := 38) (l' := [(3, pI r6), (0, pR 12), (1, pI y1), (2, pI x2)]) (dk d_mTh_load 21 rfl) (Nat.le_of_ble_eq_true rfl) rfl ?_
    refine g_aload_n (pc := 39) (j := 1) (dk d_mTh_load 22 rfl) rfl (by decide) ?_
    refine g_getR (pc := 40) (a := 13) rfl fp_Th_11 po_12 (dk d_mTh_load 23 rfl) ?_
    refine g_bipush (pc := 43) (dk d_mTh_load 24 rfl) (by decide) ?_
    refine g_iload_n (pc := 45) (j := 2) (dk d_mTh_load 25 rfl) rfl ?_
    refine g_imul (pc := 46) (dk d_mTh_load 26 rfl) ?_
    refine g_iload_n (pc := 47) (j := 3) (dk d_mTh_load 27 rfl) rfl ?_
    refine g_iadd (pc := 48) (dk d_mTh_load 28 rfl) ?_
    refine g_iload_n (pc := 49) (j := 0) (dk d_mTh_load 29 rfl) rfl ?_
    refine jn_e (fun J => ∀ (s8 : Int) (u9 : WD), J s8 u9 = some res → G E mTh_load (d + 6) 68 [(0, pR 12), (1, pI y1), (2, pI x2)] [pI s8, pI (w32 ((w32 (12 * y1)) + x2)), pR 13] u9 RF NN 0 0 (none, res, RF, NN)) h (fun s8 u9 h => ?_) (fun J12 hJ12 h => ?_)
    · refine h_iast (pc := 68) (B := 84) pa_13 rfl (dk d_mTh_load 42 rfl) h (fun u10 h => ?_)
      refine h_iinc (pc := 69) (j := 2) (dk d_mTh_load 43 rfl) rfl (by decide) (Nat.le_of_ble_eq_true rfl) h (fun v2_11 h => ?_)
      refine g_loc (l' := [(2, pI v2_11), (0, pR 12), (1, pI y1)]) rfl ?_
      refine g_goto (pc := 72) (tgt := 24) (dk d_mTh_load 44 rfl) rfl ?_
      refine g_pick [1, 2, 0] rfl (l' := [(0, pR 12), (1, pI y1), (2, pI v2_11)]) rfl ?_
      exact hrec _ _ h
    · refine h_if_eq (pc := 50) (tgt := 67) (dk d_mTh_load 30 rfl) rfl h (fun hc16 h => ?_) (fun hc16 h => ?_)
      · refine g_iconst (pc := 67) (dk d_mTh_load 41 rfl) (by decide) ?_
        refine g_pick [1, 2, 3] rfl (l' := [(0, pR 12), (1, pI y1), (2, pI x2)]) rfl ?_
        exact hJ12 _ _ h
      · refine g_aload_n (pc := 53) (j := 1) (dk d_mTh_load 31 rfl) rfl (by decide) ?_
        refine g_iload_n (pc := 54) (j := 2) (dk d_mTh_load 32 rfl) rfl ?_
        refine g_iload_n (pc := 55) (j := 3) (dk d_mTh_load 33 rfl) rfl ?_
        refine g_iconst (pc := 56) (dk d_mTh_load 34 rfl) (by decide) ?_
        refine g_idiv (pc := 57) (dk d_mTh_load 35 rfl) (by decide) ?_
        refine g_iload_n (pc := 58) (j := 3) (dk d_mTh_load 36 rfl) rfl ?_
        refine g_iconst (pc := 59) (dk d_mTh_load 37 rfl) (by decide) ?_
        refine g_irem (pc := 60) (dk d_mTh_load 38 rfl) (by decide) ?_
        refine h_callVi (d := d + 5) (pc := 61) (na := 3) (av := [pI y1, pI (w32 (Int.tdiv x2 4)), pI (Int.tmod x2 4)]) (k0 := 12) po_12 ⟨_, rfl⟩ ⟨rfl, rfl⟩ (dk d_mTh_load 39 rfl) lk_Th_59 vm_mTh_worthOf rfl rfl (Nat.le_of_ble_eq_true rfl) h (fun r14 u13 hq => kTh_worthOf E (d + 0) hq) (fun r14 u13 hb15 h => ?_)
        refine g_goto (pc := 64) (tgt := 68) (dk d_mTh_load 40 rfl) rfl ?_
        refine g_pick [1, 2, 3] rfl (l' := [(0, pR 12), (1, pI y1), (2, pI x2)]) rfl ?_
        exact hJ12 _ _ h
set_option maxRecDepth 100000 in
set_option maxHeartbeats 4000000 in
theorem fTh_load_l24_ok (E : Nat × (Int → Int)) (d : Nat) {res : WD} (y1 : Int) (K0 : WD → Option WD) (hK0 : ∀ (w : WD), K0 w = some res → G E mTh_load (d + 6) 75 [(0, pR 12), (1, pI y1)] [] w RF NN 0 0 (none, res, RF, NN)) : ∀ (k : Nat) (x2 : Int) (w : WD), fTh_load_l24 y1 K0 k x2 w = some res → G E mTh_load (d + 6) 24 [(0, pR 12), (1, pI y1), (2, pI x2)] [] w RF NN 0 0 (none, res, RF, NN) := by
  intro k
  induction k with
  | zero =>
    intro x2 w h
    exact no_e h
  | succ k ih =>
    intro x2 w h
    exact fTh_load_l24_b_ok E d y1 K0 ih hK0 x2 w h
def fTh_load_l16_b (rec : Int → WD → Option WD) (K0 : WD → Option WD) (x1 : Int) (w : WD) : Option WD := if 7 ≤ x1 then (K0 w) else (fTh_load_l24 x1 (fun (u18 : WD) => bv (w32 (x1 + 1)) <| fun (v1_19 : Int) => rec v1_19 u18) FU 0 w)
def fTh_load_l16 (K0 : WD → Option WD) : Nat → Int → WD → Option WD
  | 0 => fun _ _ => none
  | k + 1 => fTh_load_l16_b ( fTh_load_l16 K0 k) K0
set_option maxRecDepth 100000 in
set_option maxHeartbeats 4000000 in
theorem fTh_load_l16_b_ok (E : Nat × (Int → Int)) (d : Nat) {res : WD} {rec : Int → WD → Option WD} (K0 : WD → Option WD) (hrec : ∀ (x1 : Int) (w : WD), rec x1 w = some res → G E mTh_load (d + 6) 16 [(0, pR 12), (1, pI x1)] [] w RF NN 0 0 (none, res, RF, NN)) (hK0 : ∀ (w : WD), K0 w = some res → G E mTh_load (d + 6) 81 [(0, pR 12)] [] w RF NN 0 0 (none, res, RF, NN)) (x1 : Int) (w : WD) (h : fTh_load_l16_b rec K0 x1 w = some res) : G E mTh_load (d + 6) 16 [(0, pR 12), (1, pI x1)] [] w RF NN 0 0 (none, res, RF, NN) := by
  unfold fTh_load_l16_b at h
  refine g_iload_n (pc := 16) (j := 1) (dk d_mTh_load 9 rfl) rfl ?_
  refine g_bipush (pc := 17) (dk d_mTh_load 10 rfl) (by decide) ?_
  refine h_icmp_ge (pc := 19) (tgt := 81) (dk d_mTh_load 11 rfl) rfl h (fun hc20 h => ?_) (fun hc20 h => ?_)
  · refine g_pick [0] rfl (l' := [(0, pR 12)]) rfl ?_
    exact hK0 _ h
  · refine g_iconst (pc := 22) (dk d_mTh_load 12 rfl) (by decide) ?_
    refine g_istore_n (pc := 23) (l' := [(2, pI 0), (0, pR 12), (1, pI x1)]) (dk d_mTh_load 13 rfl) (Nat.le_of_ble_eq_true rfl) rfl ?_
    refine g_pick [1, 2, 0] rfl (l' := [(0, pR 12), (1, pI x1), (2, pI 0)]) rfl ?_
    refine fTh_load_l24_ok E d x1 _  (fun u18 h => ?_) FU _  _ h
    · refine h_iinc (pc := 75) (j := 1) (dk d_mTh_load 45 rfl) rfl (by decide) (Nat.le_of_ble_eq_true rfl) h (fun v1_19 h => ?_)
      refine g_loc (l' := [(1, pI v1_19), (0, pR 12)]) rfl ?_
      refine g_goto (pc := 78) (tgt := 16) (dk d_mTh_load 46 rfl) rfl ?_
      refine g_pick [1, 0] rfl (l' := [(0, pR 12), (1, pI v1_19)]) rfl ?_
      exact hrec _ _ h
set_option maxRecDepth 100000 in
set_option maxHeartbeats 4000000 in
theorem fTh_load_l16_ok (E : Nat × (Int → Int)) (d : Nat) {res : WD} (K0 : WD → Option WD) (hK0 : ∀ (w : WD), K0 w = some res → G E mTh_load (d + 6) 81 [(0, pR 12)] [] w RF NN 0 0 (none, res, RF, NN)) : ∀ (k : Nat) (x1 : Int) (w : WD), fTh_load_l16 K0 k x1 w = some res → G E mTh_load (d + 6) 16 [(0, pR 12), (1, pI x1)] [] w RF NN 0 0 (none, res, RF, NN) := by
  intro k
  induction k with
  | zero =>
    intro x1 w h
    exact no_e h
  | succ k ih =>
    intro x1 w h
    exact fTh_load_l16_b_ok E d K0 ih hK0 x1 w h
def fTh_load_l83_b (rec : Int → WD → Option WD) (x1 : Int) (w : WD) : Option WD := if 5 ≤ x1 then (some w) else (ci (fHa_at x1 7 w) <| fun (r23 : Int) (u22 : WD) => ck (0 ≤ x1 ∧ x1 < 5) <| bw (up u22 15 x1 r23) <| fun (u25 : WD) => cv (fTh_weigh x1 (-1) 0 u25) <| fun (u26 : WD) => bv (w32 (x1 + 1)) <| fun (v1_27 : Int) => rec v1_27 u26)
def fTh_load_l83 : Nat → Int → WD → Option WD
  | 0 => fun _ _ => none
  | k + 1 => fTh_load_l83_b ( fTh_load_l83 k)
set_option maxRecDepth 100000 in
set_option maxHeartbeats 4000000 in
theorem fTh_load_l83_b_ok (E : Nat × (Int → Int)) (d : Nat) {res : WD} {rec : Int → WD → Option WD} (hrec : ∀ (x1 : Int) (w : WD), rec x1 w = some res → G E mTh_load (d + 6) 83 [(0, pR 12), (1, pI x1)] [] w RF NN 0 0 (none, res, RF, NN)) (x1 : Int) (w : WD) (h : fTh_load_l83_b rec x1 w = some res) : G E mTh_load (d + 6) 83 [(0, pR 12), (1, pI x1)] [] w RF NN 0 0 (none, res, RF, NN) := by
  unfold fTh_load_l83_b at h
  refine g_iload_n (pc := 83) (j := 1) (dk d_mTh_load 49 rfl) rfl ?_
  refine g_iconst (pc := 84) (dk d_mTh_load 50 rfl) (by decide) ?_
  refine h_icmp_ge (pc := 85) (tgt := 117) (dk d_mTh_load 51 rfl) rfl h (fun hc28 h => ?_) (fun hc28 h => ?_)
  · exact h_vret (pc := 117) (dk d_mTh_load 68 rfl) h
  · refine g_aload_n (pc := 88) (j := 0) (dk d_mTh_load 52 rfl) rfl (by decide) ?_
    refine g_getR (pc := 89) (a := 15) rfl fp_Th_19 po_12 (dk d_mTh_load 53 rfl) ?_
    refine g_iload_n (pc := 92) (j := 1) (dk d_mTh_load 54 rfl) rfl ?_
    refine g_aload_n (pc := 93) (j := 0) (dk d_mTh_load 55 rfl) rfl (by decide) ?_
    refine g_getR (pc := 94) (a := 1) rfl fp_Th_31 po_12 (dk d_mTh_load 56 rfl) ?_
    refine g_iload_n (pc := 97) (j := 1) (dk d_mTh_load 57 rfl) rfl ?_
    refine g_bipush (pc := 98) (dk d_mTh_load 58 rfl) (by decide) ?_
    refine h_callVi (d := d + 5) (pc := 100) (na := 2) (av := [pI x1, pI 7]) (k0 := 1) po_1 ⟨_, rfl⟩ ⟨rfl, rfl⟩ (dk d_mTh_load 59 rfl) lk_Th_41 vm_mHa_at rfl rfl (Nat.le_of_ble_eq_true rfl) h (fun r23 u22 hq => kHa_at E (d + 3) hq) (fun r23 u22 hb24 h => ?_)
    refine h_iast (pc := 103) (B := 5) pa_15 rfl (dk d_mTh_load 60 rfl) h (fun u25 h => ?_)
    refine g_aload_n (pc := 104) (j := 0) (dk d_mTh_load 61 rfl) rfl (by decide) ?_
    refine g_iload_n (pc := 105) (j := 1) (dk d_mTh_load 62 rfl) rfl ?_
    refine g_iconst (pc := 106) (dk d_mTh_load 63 rfl) (by decide) ?_
    refine g_iconst (pc := 107) (dk d_mTh_load 64 rfl) (by decide) ?_
    refine h_callVv (d := d + 5) (pc := 108) (na := 3) (av := [pI x1, pI (-1), pI 0]) (k0 := 12) po_12 ⟨_, rfl⟩ ⟨rfl, rfl⟩ (dk d_mTh_load 65 rfl) lk_Th_63 vm_mTh_weigh rfl rfl (Nat.le_of_ble_eq_true rfl) h (fun u26 hq => kTh_weigh E (d + 2) hq) (fun u26 h => ?_)
    refine h_iinc (pc := 111) (j := 1) (dk d_mTh_load 66 rfl) rfl (by decide) (Nat.le_of_ble_eq_true rfl) h (fun v1_27 h => ?_)
    refine g_loc (l' := [(1, pI v1_27), (0, pR 12)]) rfl ?_
    refine g_goto (pc := 114) (tgt := 83) (dk d_mTh_load 67 rfl) rfl ?_
    refine g_pick [1, 0] rfl (l' := [(0, pR 12), (1, pI v1_27)]) rfl ?_
    exact hrec _ _ h
set_option maxRecDepth 100000 in
set_option maxHeartbeats 4000000 in
theorem fTh_load_l83_ok (E : Nat × (Int → Int)) (d : Nat) {res : WD} : ∀ (k : Nat) (x1 : Int) (w : WD), fTh_load_l83 k x1 w = some res → G E mTh_load (d + 6) 83 [(0, pR 12), (1, pI x1)] [] w RF NN 0 0 (none, res, RF, NN) := by
  intro k
  induction k with
  | zero =>
    intro x1 w h
    exact no_e h
  | succ k ih =>
    intro x1 w h
    exact fTh_load_l83_b_ok E d ih x1 w h
def fTh_load (w : WD) : Option WD := ci (fHa_at 0 9 w) <| fun (r2 : Int) (u1 : WD) => bw (up u1 12 8 r2) <| fun (u4 : WD) => fTh_load_l16 (fun (u21 : WD) => fTh_load_l83 FU 0 u21) FU 0 u4
set_option maxRecDepth 100000 in
set_option maxHeartbeats 4000000 in
theorem gTh_load (E : Nat × (Int → Int)) (d : Nat) {res : WD} (w : WD) (h : fTh_load w = some res) : G E mTh_load (d + 6) 0 [(0, pR 12)] [] w RF NN 0 0 (none, res, RF, NN) := by
  unfold fTh_load at h
  refine g_aload_n (pc := 0) (j := 0) (dk d_mTh_load 0 rfl) rfl (by decide) ?_
  refine g_aload_n (pc := 1) (j := 0) (dk d_mTh_load 1 rfl) rfl (by decide) ?_
  refine g_getR (pc := 2) (a := 1) rfl fp_Th_31 po_12 (dk d_mTh_load 2 rfl) ?_
  refine g_iconst (pc := 5) (dk d_mTh_load 3 rfl) (by decide) ?_
  refine g_bipush (pc := 6) (dk d_mTh_load 4 rfl) (by decide) ?_
  refine h_callVi (d := d + 5) (pc := 8) (na := 2) (av := [pI 0, pI 9]) (k0 := 1) po_1 ⟨_, rfl⟩ ⟨rfl, rfl⟩ (dk d_mTh_load 5 rfl) lk_Th_41 vm_mHa_at rfl rfl (Nat.le_of_ble_eq_true rfl) h (fun r2 u1 hq => kHa_at E (d + 3) hq) (fun r2 u1 hb3 h => ?_)
  refine h_putI (pc := 11) fp_Th_51 po_12 (dk d_mTh_load 6 rfl) h (fun u4 h => ?_)
  refine g_iconst (pc := 14) (dk d_mTh_load 7 rfl) (by decide) ?_
  refine g_istore_n (pc := 15) (l' := [(1, pI 0), (0, pR 12)]) (dk d_mTh_load 8 rfl) (Nat.le_of_ble_eq_true rfl) rfl ?_
  refine g_pick [1, 0] rfl (l' := [(0, pR 12), (1, pI 0)]) rfl ?_
  refine fTh_load_l16_ok E d _  (fun u21 h => ?_) FU _  _ h
  · refine g_iconst (pc := 81) (dk d_mTh_load 47 rfl) (by decide) ?_
    refine g_istore_n (pc := 82) (l' := [(1, pI 0), (0, pR 12)]) (dk d_mTh_load 48 rfl) (Nat.le_of_ble_eq_true rfl) rfl ?_
    refine g_pick [1, 0] rfl (l' := [(0, pR 12), (1, pI 0)]) rfl ?_
    refine fTh_load_l83_ok E d FU _  _ h
set_option maxRecDepth 100000 in
set_option maxHeartbeats 4000000 in
theorem kTh_load (E : Nat × (Int → Int)) (d : Nat) {w w1 : WD} (h : fTh_load w = some w1) : CTv E mTh_load (d + 6) [pR 12] w RF NN w1 RF NN := by
  exact CTv_of (by decide +kernel) (Nat.le_of_ble_eq_true rfl) rfl (gTh_load (res := w1) E d w h)
def fTh_mayBe (a1 : Int) (a2 : Int) (w : WD) : Option (Int × WD) := if a1 < 0 then (some (0, w)) else (if 5 ≤ a1 then (some (0, w)) else (ck (0 ≤ a1 ∧ a1 < 5) <| if (bAnd (bShr (w 15 a1) a2) 1) = 0 then (some (0, w)) else (some (1, w))))
set_option maxRecDepth 100000 in
set_option maxHeartbeats 4000000 in
theorem gTh_mayBe (E : Nat × (Int → Int)) (d : Nat) {res : Int × WD} (a1 : Int) (a2 : Int) (w : WD) (h : fTh_mayBe a1 a2 w = some res) : G E mTh_mayBe (d + 1) 0 [(0, pR 12), (1, pI a1), (2, pI a2)] [] w RF NN 0 0 (some (pI res.1), res.2, RF, NN) := by
  unfold fTh_mayBe at h
  refine g_iload_n (pc := 0) (j := 1) (dk d_mTh_mayBe 0 rfl) rfl ?_
  refine h_if_lt (pc := 1) (tgt := 26) (dk d_mTh_mayBe 1 rfl) rfl h (fun hc3 h => ?_) (fun hc3 h => ?_)
  · refine g_iconst (pc := 26) (dk d_mTh_mayBe 16 rfl) (by decide) ?_
    exact h_zret (pc := 27) (Or.inl rfl) (dk d_mTh_mayBe 17 rfl) h
  · refine g_iload_n (pc := 4) (j := 1) (dk d_mTh_mayBe 2 rfl) rfl ?_
    refine g_iconst (pc := 5) (dk d_mTh_mayBe 3 rfl) (by decide) ?_
    refine h_icmp_ge (pc := 6) (tgt := 26) (dk d_mTh_mayBe 4 rfl) rfl h (fun hc2 h => ?_) (fun hc2 h => ?_)
    · refine g_iconst (pc := 26) (dk d_mTh_mayBe 16 rfl) (by decide) ?_
      exact h_zret (pc := 27) (Or.inl rfl) (dk d_mTh_mayBe 17 rfl) h
    · refine g_aload_n (pc := 9) (j := 0) (dk d_mTh_mayBe 5 rfl) rfl (by decide) ?_
      refine g_getR (pc := 10) (a := 15) rfl fp_Th_19 po_12 (dk d_mTh_mayBe 6 rfl) ?_
      refine g_iload_n (pc := 13) (j := 1) (dk d_mTh_mayBe 7 rfl) rfl ?_
      refine h_iald (pc := 14) (B := 5) pa_15 rfl (dk d_mTh_mayBe 8 rfl) h (fun h => ?_)
      refine g_iload_n (pc := 15) (j := 2) (dk d_mTh_mayBe 9 rfl) rfl ?_
      refine g_ishr (pc := 16) (dk d_mTh_mayBe 10 rfl) ?_
      refine g_iconst (pc := 17) (dk d_mTh_mayBe 11 rfl) (by decide) ?_
      refine g_iand (pc := 18) (dk d_mTh_mayBe 12 rfl) ?_
      refine h_if_eq (pc := 19) (tgt := 26) (dk d_mTh_mayBe 13 rfl) rfl h (fun hc1 h => ?_) (fun hc1 h => ?_)
      · refine g_iconst (pc := 26) (dk d_mTh_mayBe 16 rfl) (by decide) ?_
        exact h_zret (pc := 27) (Or.inl rfl) (dk d_mTh_mayBe 17 rfl) h
      · refine g_iconst (pc := 22) (dk d_mTh_mayBe 14 rfl) (by decide) ?_
        refine g_goto (pc := 23) (tgt := 27) (dk d_mTh_mayBe 15 rfl) rfl ?_
        exact h_zret (pc := 27) (Or.inr rfl) (dk d_mTh_mayBe 17 rfl) h
set_option maxRecDepth 100000 in
set_option maxHeartbeats 4000000 in
theorem kTh_mayBe (E : Nat × (Int → Int)) (d : Nat) {a1 : Int} {a2 : Int} {w w1 : WD} {r : Int} (h : fTh_mayBe a1 a2 w = some (r, w1)) : CTi E mTh_mayBe (d + 1) [pR 12, pI a1, pI a2] w RF NN r w1 RF NN := by
  exact CTi_of (by decide +kernel) (Nat.le_of_ble_eq_true rfl) (Or.inr rfl) (gTh_mayBe (res := (r, w1)) E d a1 a2 w h)
def fTh_weightOf (a1 : Int) (a2 : Int) (w : WD) : Option (Int × WD) := jn (β := Int → WD → Option (Int × WD)) (fun (s1 : Int) (u2 : WD) => if s1 = 0 then (some (0, u2)) else (ck (0 ≤ (w32 ((w32 (7 * a1)) + a2)) ∧ (w32 ((w32 (7 * a1)) + a2)) < 35) <| some ((u2 14 (w32 ((w32 (7 * a1)) + a2))), u2))) <| fun J4 => jn (β := WD → Option (Int × WD)) (fun (u5 : WD) => J4 0 u5) <| fun J6 => if a1 < 0 then (J6 w) else (if 5 ≤ a1 then (J6 w) else (if a2 < 0 then (J6 w) else (if 7 ≤ a2 then (J6 w) else (J4 1 w))))
set_option maxRecDepth 100000 in
set_option maxHeartbeats 4000000 in
theorem gTh_weightOf (E : Nat × (Int → Int)) (d : Nat) {res : Int × WD} (a1 : Int) (a2 : Int) (w : WD) (h : fTh_weightOf a1 a2 w = some res) : G E mTh_weightOf (d + 1) 0 [(0, pR 12), (1, pI a1), (2, pI a2)] [] w RF NN 0 0 (some (pL res.1), res.2, RF, NN) := by
  unfold fTh_weightOf at h
  refine g_iload_n (pc := 0) (j := 1) (dk d_mTh_weightOf 0 rfl) rfl ?_
  refine jn_e (fun J => ∀ (s1 : Int) (u2 : WD), J s1 u2 = some res → G E mTh_weightOf (d + 1) 24 [(0, pR 12), (1, pI a1), (2, pI a2)] [pI s1] u2 RF NN 0 0 (some (pL res.1), res.2, RF, NN)) h (fun s1 u2 h => ?_) (fun J4 hJ4 h => ?_)
  · refine g_istore_n (pc := 24) (l' := [(3, pI s1), (0, pR 12), (1, pI a1), (2, pI a2)]) (dk d_mTh_weightOf 13 rfl) (Nat.le_of_ble_eq_true rfl) rfl ?_
    refine g_iload_n (pc := 25) (j := 0) (dk d_mTh_weightOf 14 rfl) rfl ?_
    refine h_if_eq (pc := 26) (tgt := 43) (dk d_mTh_weightOf 15 rfl) rfl h (fun hc3 h => ?_) (fun hc3 h => ?_)
    · refine g_lconst0 (pc := 43) (dk d_mTh_weightOf 25 rfl) ?_
      exact h_lret (pc := 44) (dk d_mTh_weightOf 26 rfl) h
    · refine g_aload_n (pc := 29) (j := 1) (dk d_mTh_weightOf 16 rfl) rfl (by decide) ?_
      refine g_getR (pc := 30) (a := 14) rfl fp_Th_15 po_12 (dk d_mTh_weightOf 17 rfl) ?_
      refine g_bipush (pc := 33) (dk d_mTh_weightOf 18 rfl) (by decide) ?_
      refine g_iload_n (pc := 35) (j := 2) (dk d_mTh_weightOf 19 rfl) rfl ?_
      refine g_imul (pc := 36) (dk d_mTh_weightOf 20 rfl) ?_
      refine g_iload_n (pc := 37) (j := 3) (dk d_mTh_weightOf 21 rfl) rfl ?_
      refine g_iadd (pc := 38) (dk d_mTh_weightOf 22 rfl) ?_
      refine h_lald (pc := 39) (B := 35) pa_14 rfl (dk d_mTh_weightOf 23 rfl) h (fun h => ?_)
      refine g_goto (pc := 40) (tgt := 44) (dk d_mTh_weightOf 24 rfl) rfl ?_
      exact h_lret (pc := 44) (dk d_mTh_weightOf 26 rfl) h
  · refine jn_e (fun J => ∀ (u5 : WD), J u5 = some res → G E mTh_weightOf (d + 1) 23 [(0, pR 12), (1, pI a1), (2, pI a2)] [] u5 RF NN 0 0 (some (pL res.1), res.2, RF, NN)) h (fun u5 h => ?_) (fun J6 hJ6 h => ?_)
    · refine g_iconst (pc := 23) (dk d_mTh_weightOf 12 rfl) (by decide) ?_
      exact hJ4 _ _ h
    · refine h_if_lt (pc := 1) (tgt := 23) (dk d_mTh_weightOf 1 rfl) rfl h (fun hc10 h => ?_) (fun hc10 h => ?_)
      · exact hJ6 _ h
      · refine g_iload_n (pc := 4) (j := 1) (dk d_mTh_weightOf 2 rfl) rfl ?_
        refine g_iconst (pc := 5) (dk d_mTh_weightOf 3 rfl) (by decide) ?_
        refine h_icmp_ge (pc := 6) (tgt := 23) (dk d_mTh_weightOf 4 rfl) rfl h (fun hc9 h => ?_) (fun hc9 h => ?_)
        · exact hJ6 _ h
        · refine g_iload_n (pc := 9) (j := 2) (dk d_mTh_weightOf 5 rfl) rfl ?_
          refine h_if_lt (pc := 10) (tgt := 23) (dk d_mTh_weightOf 6 rfl) rfl h (fun hc8 h => ?_) (fun hc8 h => ?_)
          · exact hJ6 _ h
          · refine g_iload_n (pc := 13) (j := 2) (dk d_mTh_weightOf 7 rfl) rfl ?_
            refine g_bipush (pc := 14) (dk d_mTh_weightOf 8 rfl) (by decide) ?_
            refine h_icmp_ge (pc := 16) (tgt := 23) (dk d_mTh_weightOf 9 rfl) rfl h (fun hc7 h => ?_) (fun hc7 h => ?_)
            · exact hJ6 _ h
            · refine g_iconst (pc := 19) (dk d_mTh_weightOf 10 rfl) (by decide) ?_
              refine g_goto (pc := 20) (tgt := 24) (dk d_mTh_weightOf 11 rfl) rfl ?_
              exact hJ4 _ _ h
set_option maxRecDepth 100000 in
set_option maxHeartbeats 4000000 in
theorem kTh_weightOf (E : Nat × (Int → Int)) (d : Nat) {a1 : Int} {a2 : Int} {w w1 : WD} {r : Int} (h : fTh_weightOf a1 a2 w = some (r, w1)) : CTl E mTh_weightOf (d + 1) [pR 12, pI a1, pI a2] w RF NN r w1 RF NN := by
  exact CTl_of (by decide +kernel) (Nat.le_of_ble_eq_true rfl) rfl (gTh_weightOf (res := (r, w1)) E d a1 a2 w h)
def fTh_price_l9_b (rec : Int → WD → Option WD) (y1 : Int) (y2 : Int) (K0 : WD → Option WD) (x3 : Int) (w : WD) : Option WD := if 7 ≤ x3 then (K0 w) else (ci (fTh_mayBe y2 x3 w) <| fun (r2 : Int) (u1 : WD) => jn (β := Int → WD → Option WD) (fun (s4 : Int) (u5 : WD) => jn (β := Int → WD → Option WD) (fun (s6 : Int) (u7 : WD) => ck (0 ≤ (w32 ((w32 (7 * y2)) + x3)) ∧ (w32 ((w32 (7 * y2)) + x3)) < 35) <| bw (up u7 16 (w32 ((w32 (7 * y2)) + x3)) s6) <| fun (u8 : WD) => bv (w32 (x3 + 1)) <| fun (v3_9 : Int) => rec v3_9 u8) <| fun J10 => if y1 = 0 then (J10 (mn 1 s4) u5) else (J10 s4 u5)) <| fun J12 => if r2 = 0 then (J12 0 u1) else (ci (fTh_weightOf y2 x3 u1) <| fun (r14 : Int) (u13 : WD) => J12 r14 u13))
def fTh_price_l9 (y1 : Int) (y2 : Int) (K0 : WD → Option WD) : Nat → Int → WD → Option WD
  | 0 => fun _ _ => none
  | k + 1 => fTh_price_l9_b ( fTh_price_l9 y1 y2 K0 k) y1 y2 K0
set_option maxRecDepth 100000 in
set_option maxHeartbeats 4000000 in
theorem fTh_price_l9_b_ok (E : Nat × (Int → Int)) (d : Nat) {res : WD} {rec : Int → WD → Option WD} (y1 : Int) (y2 : Int) (K0 : WD → Option WD) (hrec : ∀ (x3 : Int) (w : WD), rec x3 w = some res → G E mTh_price (d + 2) 9 [(0, pR 12), (1, pI y1), (2, pI y2), (3, pI x3)] [] w RF NN 0 0 (none, res, RF, NN)) (hK0 : ∀ (w : WD), K0 w = some res → G E mTh_price (d + 2) 68 [(0, pR 12), (1, pI y1), (2, pI y2)] [] w RF NN 0 0 (none, res, RF, NN)) (x3 : Int) (w : WD) (h : fTh_price_l9_b rec y1 y2 K0 x3 w = some res) : G E mTh_price (d + 2) 9 [(0, pR 12), (1, pI y1), (2, pI y2), (3, pI x3)] [] w RF NN 0 0 (none, res, RF, NN) := by
  unfold fTh_price_l9_b at h
  refine g_iload_n (pc := 9) (j := 3) (dk d_mTh_price 7 rfl) rfl ?_
  refine g_bipush (pc := 10) (dk d_mTh_price 8 rfl) (by decide) ?_
  refine h_icmp_ge (pc := 12) (tgt := 68) (dk d_mTh_price 9 rfl) rfl h (fun hc16 h => ?_) (fun hc16 h => ?_)
  · refine g_pick [0, 1, 2] rfl (l' := [(0, pR 12), (1, pI y1), (2, pI y2)]) rfl ?_
    exact hK0 _ h
  · refine g_aload_n (pc := 15) (j := 0) (dk d_mTh_price 10 rfl) rfl (by decide) ?_
    refine g_iload_n (pc := 16) (j := 2) (dk d_mTh_price 11 rfl) rfl ?_
    refine g_iload_n (pc := 17) (j := 3) (dk d_mTh_price 12 rfl) rfl ?_
    refine h_callVi (d := d + 1) (pc := 18) (na := 2) (av := [pI y2, pI x3]) (k0 := 12) po_12 ⟨_, rfl⟩ ⟨rfl, rfl⟩ (dk d_mTh_price 13 rfl) lk_Th_67 vm_mTh_mayBe rfl rfl (Nat.le_of_ble_eq_true rfl) h (fun r2 u1 hq => kTh_mayBe E (d + 0) hq) (fun r2 u1 hb3 h => ?_)
    refine jn_e (fun J => ∀ (s4 : Int) (u5 : WD), J s4 u5 = some res → G E mTh_price (d + 2) 34 [(0, pR 12), (1, pI y1), (2, pI y2), (3, pI x3)] [pL s4] u5 RF NN 0 0 (none, res, RF, NN)) h (fun s4 u5 h => ?_) (fun J12 hJ12 h => ?_)
    · refine g_lstore (pc := 34) (l' := [(4, pL s4), (0, pR 12), (1, pI y1), (2, pI y2), (3, pI x3)]) (dk d_mTh_price 21 rfl) (Nat.le_of_ble_eq_true rfl) rfl ?_
      refine g_aload_n (pc := 36) (j := 1) (dk d_mTh_price 22 rfl) rfl (by decide) ?_
      refine g_getR (pc := 37) (a := 16) rfl fp_Th_22 po_12 (dk d_mTh_price 23 rfl) ?_
      refine g_bipush (pc := 40) (dk d_mTh_price 24 rfl) (by decide) ?_
      refine g_iload_n (pc := 42) (j := 3) (dk d_mTh_price 25 rfl) rfl ?_
      refine g_imul (pc := 43) (dk d_mTh_price 26 rfl) ?_
      refine g_iload_n (pc := 44) (j := 4) (dk d_mTh_price 27 rfl) rfl ?_
      refine g_iadd (pc := 45) (dk d_mTh_price 28 rfl) ?_
      refine g_iload_n (pc := 46) (j := 2) (dk d_mTh_price 29 rfl) rfl ?_
      refine jn_e (fun J => ∀ (s6 : Int) (u7 : WD), J s6 u7 = some res → G E mTh_price (d + 2) 61 [(0, pR 12), (1, pI y1), (2, pI y2), (3, pI x3)] [pL s6, pI (w32 ((w32 (7 * y2)) + x3)), pR 16] u7 RF NN 0 0 (none, res, RF, NN)) h (fun s6 u7 h => ?_) (fun J10 hJ10 h => ?_)
      · refine h_last (pc := 61) (B := 35) pa_16 rfl (dk d_mTh_price 36 rfl) h (fun u8 h => ?_)
        refine h_iinc (pc := 62) (j := 3) (dk d_mTh_price 37 rfl) rfl (by decide) (Nat.le_of_ble_eq_true rfl) h (fun v3_9 h => ?_)
        refine g_loc (l' := [(3, pI v3_9), (0, pR 12), (1, pI y1), (2, pI y2)]) rfl ?_
        refine g_goto (pc := 65) (tgt := 9) (dk d_mTh_price 38 rfl) rfl ?_
        refine g_pick [1, 2, 3, 0] rfl (l' := [(0, pR 12), (1, pI y1), (2, pI y2), (3, pI v3_9)]) rfl ?_
        exact hrec _ _ h
      · refine h_if_eq (pc := 47) (tgt := 55) (dk d_mTh_price 30 rfl) rfl h (fun hc11 h => ?_) (fun hc11 h => ?_)
        · refine g_lconst1 (pc := 55) (dk d_mTh_price 33 rfl) ?_
          refine g_lload (pc := 56) (j := 0) (dk d_mTh_price 34 rfl) rfl ?_
          refine g_mminL (pc := 58) mm_Th_74 (Nat.le_of_ble_eq_true rfl) (by omega) (dk d_mTh_price 35 rfl) ?_
          refine g_pick [1, 2, 3, 4] rfl (l' := [(0, pR 12), (1, pI y1), (2, pI y2), (3, pI x3)]) rfl ?_
          exact hJ10 _ _ h
        · refine g_lload (pc := 50) (j := 0) (dk d_mTh_price 31 rfl) rfl ?_
          refine g_goto (pc := 52) (tgt := 61) (dk d_mTh_price 32 rfl) rfl ?_
          refine g_pick [1, 2, 3, 4] rfl (l' := [(0, pR 12), (1, pI y1), (2, pI y2), (3, pI x3)]) rfl ?_
          exact hJ10 _ _ h
    · refine h_if_eq (pc := 21) (tgt := 33) (dk d_mTh_price 14 rfl) rfl h (fun hc15 h => ?_) (fun hc15 h => ?_)
      · refine g_lconst0 (pc := 33) (dk d_mTh_price 20 rfl) ?_
        exact hJ12 _ _ h
      · refine g_aload_n (pc := 24) (j := 0) (dk d_mTh_price 15 rfl) rfl (by decide) ?_
        refine g_iload_n (pc := 25) (j := 2) (dk d_mTh_price 16 rfl) rfl ?_
        refine g_iload_n (pc := 26) (j := 3) (dk d_mTh_price 17 rfl) rfl ?_
        refine h_callVl (d := d + 1) (pc := 27) (na := 2) (av := [pI y2, pI x3]) (k0 := 12) po_12 ⟨_, rfl⟩ ⟨rfl, rfl⟩ (dk d_mTh_price 18 rfl) lk_Th_71 vm_mTh_weightOf rfl rfl (Nat.le_of_ble_eq_true rfl) h (fun r14 u13 hq => kTh_weightOf E (d + 0) hq) (fun r14 u13 h => ?_)
        refine g_goto (pc := 30) (tgt := 34) (dk d_mTh_price 19 rfl) rfl ?_
        exact hJ12 _ _ h
set_option maxRecDepth 100000 in
set_option maxHeartbeats 4000000 in
theorem fTh_price_l9_ok (E : Nat × (Int → Int)) (d : Nat) {res : WD} (y1 : Int) (y2 : Int) (K0 : WD → Option WD) (hK0 : ∀ (w : WD), K0 w = some res → G E mTh_price (d + 2) 68 [(0, pR 12), (1, pI y1), (2, pI y2)] [] w RF NN 0 0 (none, res, RF, NN)) : ∀ (k : Nat) (x3 : Int) (w : WD), fTh_price_l9 y1 y2 K0 k x3 w = some res → G E mTh_price (d + 2) 9 [(0, pR 12), (1, pI y1), (2, pI y2), (3, pI x3)] [] w RF NN 0 0 (none, res, RF, NN) := by
  intro k
  induction k with
  | zero =>
    intro x3 w h
    exact no_e h
  | succ k ih =>
    intro x3 w h
    exact fTh_price_l9_b_ok E d y1 y2 K0 ih hK0 x3 w h
def fTh_price_l2_b (rec : Int → WD → Option WD) (y1 : Int) (x2 : Int) (w : WD) : Option WD := if 5 ≤ x2 then (some w) else (fTh_price_l9 y1 x2 (fun (u17 : WD) => bv (w32 (x2 + 1)) <| fun (v2_18 : Int) => rec v2_18 u17) FU 0 w)
def fTh_price_l2 (y1 : Int) : Nat → Int → WD → Option WD
  | 0 => fun _ _ => none
  | k + 1 => fTh_price_l2_b ( fTh_price_l2 y1 k) y1
set_option maxRecDepth 100000 in
set_option maxHeartbeats 4000000 in
theorem fTh_price_l2_b_ok (E : Nat × (Int → Int)) (d : Nat) {res : WD} {rec : Int → WD → Option WD} (y1 : Int) (hrec : ∀ (x2 : Int) (w : WD), rec x2 w = some res → G E mTh_price (d + 2) 2 [(0, pR 12), (1, pI y1), (2, pI x2)] [] w RF NN 0 0 (none, res, RF, NN)) (x2 : Int) (w : WD) (h : fTh_price_l2_b rec y1 x2 w = some res) : G E mTh_price (d + 2) 2 [(0, pR 12), (1, pI y1), (2, pI x2)] [] w RF NN 0 0 (none, res, RF, NN) := by
  unfold fTh_price_l2_b at h
  refine g_iload_n (pc := 2) (j := 2) (dk d_mTh_price 2 rfl) rfl ?_
  refine g_iconst (pc := 3) (dk d_mTh_price 3 rfl) (by decide) ?_
  refine h_icmp_ge (pc := 4) (tgt := 74) (dk d_mTh_price 4 rfl) rfl h (fun hc19 h => ?_) (fun hc19 h => ?_)
  · exact h_vret (pc := 74) (dk d_mTh_price 41 rfl) h
  · refine g_iconst (pc := 7) (dk d_mTh_price 5 rfl) (by decide) ?_
    refine g_istore_n (pc := 8) (l' := [(3, pI 0), (0, pR 12), (1, pI y1), (2, pI x2)]) (dk d_mTh_price 6 rfl) (Nat.le_of_ble_eq_true rfl) rfl ?_
    refine g_pick [1, 2, 3, 0] rfl (l' := [(0, pR 12), (1, pI y1), (2, pI x2), (3, pI 0)]) rfl ?_
    refine fTh_price_l9_ok E d y1 x2 _  (fun u17 h => ?_) FU _  _ h
    · refine h_iinc (pc := 68) (j := 2) (dk d_mTh_price 39 rfl) rfl (by decide) (Nat.le_of_ble_eq_true rfl) h (fun v2_18 h => ?_)
      refine g_loc (l' := [(2, pI v2_18), (0, pR 12), (1, pI y1)]) rfl ?_
      refine g_goto (pc := 71) (tgt := 2) (dk d_mTh_price 40 rfl) rfl ?_
      refine g_pick [1, 2, 0] rfl (l' := [(0, pR 12), (1, pI y1), (2, pI v2_18)]) rfl ?_
      exact hrec _ _ h
set_option maxRecDepth 100000 in
set_option maxHeartbeats 4000000 in
theorem fTh_price_l2_ok (E : Nat × (Int → Int)) (d : Nat) {res : WD} (y1 : Int) : ∀ (k : Nat) (x2 : Int) (w : WD), fTh_price_l2 y1 k x2 w = some res → G E mTh_price (d + 2) 2 [(0, pR 12), (1, pI y1), (2, pI x2)] [] w RF NN 0 0 (none, res, RF, NN) := by
  intro k
  induction k with
  | zero =>
    intro x2 w h
    exact no_e h
  | succ k ih =>
    intro x2 w h
    exact fTh_price_l2_b_ok E d y1 ih x2 w h
def fTh_price (a1 : Int) (w : WD) : Option WD := fTh_price_l2 a1 FU 0 w
set_option maxRecDepth 100000 in
set_option maxHeartbeats 4000000 in
theorem gTh_price (E : Nat × (Int → Int)) (d : Nat) {res : WD} (a1 : Int) (w : WD) (h : fTh_price a1 w = some res) : G E mTh_price (d + 2) 0 [(0, pR 12), (1, pI a1)] [] w RF NN 0 0 (none, res, RF, NN) := by
  unfold fTh_price at h
  refine g_iconst (pc := 0) (dk d_mTh_price 0 rfl) (by decide) ?_
  refine g_istore_n (pc := 1) (l' := [(2, pI 0), (0, pR 12), (1, pI a1)]) (dk d_mTh_price 1 rfl) (Nat.le_of_ble_eq_true rfl) rfl ?_
  refine g_pick [1, 2, 0] rfl (l' := [(0, pR 12), (1, pI a1), (2, pI 0)]) rfl ?_
  refine fTh_price_l2_ok E d a1 FU _  _ h
set_option maxRecDepth 100000 in
set_option maxHeartbeats 4000000 in
theorem kTh_price (E : Nat × (Int → Int)) (d : Nat) {a1 : Int} {w w1 : WD} (h : fTh_price a1 w = some w1) : CTv E mTh_price (d + 2) [pR 12, pI a1] w RF NN w1 RF NN := by
  exact CTv_of (by decide +kernel) (Nat.le_of_ble_eq_true rfl) rfl (gTh_price (res := w1) E d a1 w h)
def fHa_masks (w : WD) : Option (Int × WD) := some ((w 1 5), w)
set_option maxRecDepth 100000 in
set_option maxHeartbeats 4000000 in
theorem gHa_masks (E : Nat × (Int → Int)) (d : Nat) {res : Int × WD} (w : WD) (h : fHa_masks w = some res) : G E mHa_masks (d + 1) 0 [(0, pR 1)] [] w RF NN 0 0 (some (pI res.1), res.2, RF, NN) := by
  unfold fHa_masks at h
  refine g_aload_n (pc := 0) (j := 0) (dk d_mHa_masks 0 rfl) rfl (by decide) ?_
  refine g_getI (pc := 1) fp_Ha_28 po_1 (dk d_mHa_masks 1 rfl) ?_
  exact h_iret (pc := 4) rfl (dk d_mHa_masks 2 rfl) h
set_option maxRecDepth 100000 in
set_option maxHeartbeats 4000000 in
theorem kHa_masks (E : Nat × (Int → Int)) (d : Nat) {w w1 : WD} {r : Int} (h : fHa_masks w = some (r, w1)) : CTi E mHa_masks (d + 1) [pR 1] w RF NN r w1 RF NN := by
  exact CTi_of (by decide +kernel) (Nat.le_of_ble_eq_true rfl) (Or.inl rfl) (gHa_masks (res := (r, w1)) E d w h)
def fHa_persons (w : WD) : Option (Int × WD) := some ((w 1 4), w)
set_option maxRecDepth 100000 in
set_option maxHeartbeats 4000000 in
theorem gHa_persons (E : Nat × (Int → Int)) (d : Nat) {res : Int × WD} (w : WD) (h : fHa_persons w = some res) : G E mHa_persons (d + 1) 0 [(0, pR 1)] [] w RF NN 0 0 (some (pI res.1), res.2, RF, NN) := by
  unfold fHa_persons at h
  refine g_aload_n (pc := 0) (j := 0) (dk d_mHa_persons 0 rfl) rfl (by decide) ?_
  refine g_getI (pc := 1) fp_Ha_24 po_1 (dk d_mHa_persons 1 rfl) ?_
  exact h_iret (pc := 4) rfl (dk d_mHa_persons 2 rfl) h
set_option maxRecDepth 100000 in
set_option maxHeartbeats 4000000 in
theorem kHa_persons (E : Nat × (Int → Int)) (d : Nat) {w w1 : WD} {r : Int} (h : fHa_persons w = some (r, w1)) : CTi E mHa_persons (d + 1) [pR 1] w RF NN r w1 RF NN := by
  exact CTi_of (by decide +kernel) (Nat.le_of_ble_eq_true rfl) (Or.inl rfl) (gHa_persons (res := (r, w1)) E d w h)
def fTh_withOne (a1 : Int) (a2 : Int) (a3 : Int) (w : WD) : Option (Int × WD) := if a1 < 0 then (some (0, w)) else (if 5 ≤ a1 then (some (0, w)) else (if a3 < 0 then (some (0, w)) else (if a3 < 7 then (ck (0 ≤ (w32 ((w32 (7 * a1)) + a3)) ∧ (w32 ((w32 (7 * a1)) + a3)) < 35) <| bv (w 16 (w32 ((w32 (7 * a1)) + a3))) <| fun (v4_1 : Int) => jn (β := Int → WD → Option (Int × WD)) (fun (s2 : Int) (u3 : WD) => if v4_1 = 0 then (some (0, u3)) else (if (bAnd a2 s2) ≠ 0 then (some (0, u3)) else (if a2 < 0 then (some (0, u3)) else (if a2 < 64 then (ck (0 ≤ (w32 ((w32 (64 * (w32 (a1 + 1)))) + (bOr a2 s2))) ∧ (w32 ((w32 (64 * (w32 (a1 + 1)))) + (bOr a2 s2))) < 384) <| some ((w64 (v4_1 * (u3 17 (w32 ((w32 (64 * (w32 (a1 + 1)))) + (bOr a2 s2)))))), u3)) else (some (0, u3)))))) <| fun J8 => if a3 ≠ 6 then (J8 (bShl 1 a3) w) else (J8 0 w)) else (some (0, w)))))
set_option maxRecDepth 100000 in
set_option maxHeartbeats 4000000 in
theorem gTh_withOne (E : Nat × (Int → Int)) (d : Nat) {res : Int × WD} (a1 : Int) (a2 : Int) (a3 : Int) (w : WD) (h : fTh_withOne a1 a2 a3 w = some res) : G E mTh_withOne (d + 1) 0 [(0, pR 12), (1, pI a1), (2, pI a2), (3, pI a3)] [] w RF NN 0 0 (some (pL res.1), res.2, RF, NN) := by
  unfold fTh_withOne at h
  refine g_iload_n (pc := 0) (j := 1) (dk d_mTh_withOne 0 rfl) rfl ?_
  refine h_if_lt (pc := 1) (tgt := 19) (dk d_mTh_withOne 1 rfl) rfl h (fun hc13 h => ?_) (fun hc13 h => ?_)
  · refine g_lconst0 (pc := 19) (dk d_mTh_withOne 10 rfl) ?_
    exact h_lret (pc := 20) (dk d_mTh_withOne 11 rfl) h
  · refine g_iload_n (pc := 4) (j := 1) (dk d_mTh_withOne 2 rfl) rfl ?_
    refine g_iconst (pc := 5) (dk d_mTh_withOne 3 rfl) (by decide) ?_
    refine h_icmp_ge (pc := 6) (tgt := 19) (dk d_mTh_withOne 4 rfl) rfl h (fun hc12 h => ?_) (fun hc12 h => ?_)
    · refine g_lconst0 (pc := 19) (dk d_mTh_withOne 10 rfl) ?_
      exact h_lret (pc := 20) (dk d_mTh_withOne 11 rfl) h
    · refine g_iload_n (pc := 9) (j := 3) (dk d_mTh_withOne 5 rfl) rfl ?_
      refine h_if_lt (pc := 10) (tgt := 19) (dk d_mTh_withOne 6 rfl) rfl h (fun hc11 h => ?_) (fun hc11 h => ?_)
      · refine g_lconst0 (pc := 19) (dk d_mTh_withOne 10 rfl) ?_
        exact h_lret (pc := 20) (dk d_mTh_withOne 11 rfl) h
      · refine g_iload_n (pc := 13) (j := 3) (dk d_mTh_withOne 7 rfl) rfl ?_
        refine g_bipush (pc := 14) (dk d_mTh_withOne 8 rfl) (by decide) ?_
        refine h_icmp_lt (pc := 16) (tgt := 21) (dk d_mTh_withOne 9 rfl) rfl h (fun hc10 h => ?_) (fun hc10 h => ?_)
        · refine g_aload_n (pc := 21) (j := 0) (dk d_mTh_withOne 12 rfl) rfl (by decide) ?_
          refine g_getR (pc := 22) (a := 16) rfl fp_Th_22 po_12 (dk d_mTh_withOne 13 rfl) ?_
          refine g_bipush (pc := 25) (dk d_mTh_withOne 14 rfl) (by decide) ?_
          refine g_iload_n (pc := 27) (j := 1) (dk d_mTh_withOne 15 rfl) rfl ?_
          refine g_imul (pc := 28) (dk d_mTh_withOne 16 rfl) ?_
          refine g_iload_n (pc := 29) (j := 3) (dk d_mTh_withOne 17 rfl) rfl ?_
          refine g_iadd (pc := 30) (dk d_mTh_withOne 18 rfl) ?_
          refine h_lald (pc := 31) (B := 35) pa_16 rfl (dk d_mTh_withOne 19 rfl) h (fun h => ?_)
          refine h_bvL h (fun v4_1 h => ?_)
          refine g_lstore (pc := 32) (l' := [(4, pL v4_1), (0, pR 12), (1, pI a1), (2, pI a2), (3, pI a3)]) (dk d_mTh_withOne 20 rfl) (Nat.le_of_ble_eq_true rfl) rfl ?_
          refine g_iload_n (pc := 34) (j := 4) (dk d_mTh_withOne 21 rfl) rfl ?_
          refine g_bipush (pc := 35) (dk d_mTh_withOne 22 rfl) (by decide) ?_
          refine jn_e (fun J => ∀ (s2 : Int) (u3 : WD), J s2 u3 = some res → G E mTh_withOne (d + 1) 47 [(0, pR 12), (1, pI a1), (2, pI a2), (4, pL v4_1)] [pI s2] u3 RF NN 0 0 (some (pL res.1), res.2, RF, NN)) h (fun s2 u3 h => ?_) (fun J8 hJ8 h => ?_)
          · refine g_istore (pc := 47) (l' := [(6, pI s2), (0, pR 12), (1, pI a1), (2, pI a2), (4, pL v4_1)]) (dk d_mTh_withOne 29 rfl) (Nat.le_of_ble_eq_true rfl) rfl ?_
            refine g_lload (pc := 49) (j := 4) (dk d_mTh_withOne 30 rfl) rfl ?_
            refine g_lconst0 (pc := 51) (dk d_mTh_withOne 31 rfl) ?_
            refine h_lcmp_eq (pc := 52) (tgt := 73) (dk d_mTh_withOne 32 rfl) (dk d_mTh_withOne 33 rfl) rfl h (fun hc7 h => ?_) (fun hc7 h => ?_)
            · refine g_lconst0 (pc := 73) (dk d_mTh_withOne 43 rfl) ?_
              exact h_lret (pc := 74) (dk d_mTh_withOne 44 rfl) h
            · refine g_iload_n (pc := 56) (j := 3) (dk d_mTh_withOne 34 rfl) rfl ?_
              refine g_iload (pc := 57) (j := 0) (dk d_mTh_withOne 35 rfl) rfl ?_
              refine g_iand (pc := 59) (dk d_mTh_withOne 36 rfl) ?_
              refine h_if_ne (pc := 60) (tgt := 73) (dk d_mTh_withOne 37 rfl) rfl h (fun hc6 h => ?_) (fun hc6 h => ?_)
              · refine g_lconst0 (pc := 73) (dk d_mTh_withOne 43 rfl) ?_
                exact h_lret (pc := 74) (dk d_mTh_withOne 44 rfl) h
              · refine g_iload_n (pc := 63) (j := 3) (dk d_mTh_withOne 38 rfl) rfl ?_
                refine h_if_lt (pc := 64) (tgt := 73) (dk d_mTh_withOne 39 rfl) rfl h (fun hc5 h => ?_) (fun hc5 h => ?_)
                · refine g_lconst0 (pc := 73) (dk d_mTh_withOne 43 rfl) ?_
                  exact h_lret (pc := 74) (dk d_mTh_withOne 44 rfl) h
                · refine g_iload_n (pc := 67) (j := 3) (dk d_mTh_withOne 40 rfl) rfl ?_
                  refine g_bipush (pc := 68) (dk d_mTh_withOne 41 rfl) (by decide) ?_
                  refine h_icmp_lt (pc := 70) (tgt := 75) (dk d_mTh_withOne 42 rfl) rfl h (fun hc4 h => ?_) (fun hc4 h => ?_)
                  · refine g_lload (pc := 75) (j := 4) (dk d_mTh_withOne 45 rfl) rfl ?_
                    refine g_aload_n (pc := 77) (j := 1) (dk d_mTh_withOne 46 rfl) rfl (by decide) ?_
                    refine g_getR (pc := 78) (a := 17) rfl fp_Th_25 po_12 (dk d_mTh_withOne 47 rfl) ?_
                    refine g_bipush (pc := 81) (dk d_mTh_withOne 48 rfl) (by decide) ?_
                    refine g_iload_n (pc := 83) (j := 2) (dk d_mTh_withOne 49 rfl) rfl ?_
                    refine g_iconst (pc := 84) (dk d_mTh_withOne 50 rfl) (by decide) ?_
                    refine g_iadd (pc := 85) (dk d_mTh_withOne 51 rfl) ?_
                    refine g_imul (pc := 86) (dk d_mTh_withOne 52 rfl) ?_
                    refine g_iload_n (pc := 87) (j := 3) (dk d_mTh_withOne 53 rfl) rfl ?_
                    refine g_iload (pc := 88) (j := 0) (dk d_mTh_withOne 54 rfl) rfl ?_
                    refine g_ior (pc := 90) (dk d_mTh_withOne 55 rfl) ?_
                    refine g_iadd (pc := 91) (dk d_mTh_withOne 56 rfl) ?_
                    refine h_lald (pc := 92) (B := 384) pa_17 rfl (dk d_mTh_withOne 57 rfl) h (fun h => ?_)
                    refine g_lmul (pc := 93) (dk d_mTh_withOne 58 rfl) ?_
                    exact h_lret (pc := 94) (dk d_mTh_withOne 59 rfl) h
                  · refine g_lconst0 (pc := 73) (dk d_mTh_withOne 43 rfl) ?_
                    exact h_lret (pc := 74) (dk d_mTh_withOne 44 rfl) h
          · refine h_icmp_ne (pc := 37) (tgt := 44) (dk d_mTh_withOne 23 rfl) rfl h (fun hc9 h => ?_) (fun hc9 h => ?_)
            · refine g_iconst (pc := 44) (dk d_mTh_withOne 26 rfl) (by decide) ?_
              refine g_iload_n (pc := 45) (j := 4) (dk d_mTh_withOne 27 rfl) rfl ?_
              refine g_ishl (pc := 46) (dk d_mTh_withOne 28 rfl) ?_
              refine g_pick [1, 2, 3, 0] rfl (l' := [(0, pR 12), (1, pI a1), (2, pI a2), (4, pL v4_1)]) rfl ?_
              exact hJ8 _ _ h
            · refine g_iconst (pc := 40) (dk d_mTh_withOne 24 rfl) (by decide) ?_
              refine g_goto (pc := 41) (tgt := 47) (dk d_mTh_withOne 25 rfl) rfl ?_
              refine g_pick [1, 2, 3, 0] rfl (l' := [(0, pR 12), (1, pI a1), (2, pI a2), (4, pL v4_1)]) rfl ?_
              exact hJ8 _ _ h
        · refine g_lconst0 (pc := 19) (dk d_mTh_withOne 10 rfl) ?_
          exact h_lret (pc := 20) (dk d_mTh_withOne 11 rfl) h
set_option maxRecDepth 100000 in
set_option maxHeartbeats 4000000 in
theorem kTh_withOne (E : Nat × (Int → Int)) (d : Nat) {a1 : Int} {a2 : Int} {a3 : Int} {w w1 : WD} {r : Int} (h : fTh_withOne a1 a2 a3 w = some (r, w1)) : CTl E mTh_withOne (d + 1) [pR 12, pI a1, pI a2, pI a3] w RF NN r w1 RF NN := by
  exact CTl_of (by decide +kernel) (Nat.le_of_ble_eq_true rfl) rfl (gTh_withOne (res := (r, w1)) E d a1 a2 a3 w h)
def fJI_bitCount (a0 : Int) (w : WD) : Option (Int × WD) := bv (w32 (a0 - (bAnd (bUshr a0 1) 1431655765))) <| fun (v0_1 : Int) => bv (w32 ((bAnd v0_1 858993459) + (bAnd (bUshr v0_1 2) 858993459))) <| fun (v0_2 : Int) => bv (bAnd (w32 (v0_2 + (bUshr v0_2 4))) 252645135) <| fun (v0_3 : Int) => bv (w32 (v0_3 + (bUshr v0_3 8))) <| fun (v0_4 : Int) => bv (w32 (v0_4 + (bUshr v0_4 16))) <| fun (v0_5 : Int) => some ((bAnd v0_5 63), w)
set_option maxRecDepth 100000 in
set_option maxHeartbeats 4000000 in
theorem gJI_bitCount (E : Nat × (Int → Int)) (d : Nat) {res : Int × WD} (a0 : Int) (w : WD) (h : fJI_bitCount a0 w = some res) : G E mJI_bitCount (d + 1) 0 [(0, pI a0)] [] w RF NN 0 0 (some (pI res.1), res.2, RF, NN) := by
  unfold fJI_bitCount at h
  refine g_iload_n (pc := 0) (j := 0) (dk d_mJI_bitCount 0 rfl) rfl ?_
  refine g_iload_n (pc := 1) (j := 0) (dk d_mJI_bitCount 1 rfl) rfl ?_
  refine g_iconst (pc := 2) (dk d_mJI_bitCount 2 rfl) (by decide) ?_
  refine g_iushr (pc := 3) (dk d_mJI_bitCount 3 rfl) ?_
  refine g_ldc_w (pc := 4) (u := 1431655765) ck_JI_265 (by decide) (dk d_mJI_bitCount 4 rfl) ?_
  refine g_iand (pc := 7) (dk d_mJI_bitCount 5 rfl) ?_
  refine g_isub (pc := 8) (dk d_mJI_bitCount 6 rfl) ?_
  refine h_bvI h (fun v0_1 h => ?_)
  refine g_istore_n (pc := 9) (l' := [(0, pI v0_1)]) (dk d_mJI_bitCount 7 rfl) (Nat.le_of_ble_eq_true rfl) rfl ?_
  refine g_iload_n (pc := 10) (j := 0) (dk d_mJI_bitCount 8 rfl) rfl ?_
  refine g_ldc_w (pc := 11) (u := 858993459) ck_JI_266 (by decide) (dk d_mJI_bitCount 9 rfl) ?_
  refine g_iand (pc := 14) (dk d_mJI_bitCount 10 rfl) ?_
  refine g_iload_n (pc := 15) (j := 0) (dk d_mJI_bitCount 11 rfl) rfl ?_
  refine g_iconst (pc := 16) (dk d_mJI_bitCount 12 rfl) (by decide) ?_
  refine g_iushr (pc := 17) (dk d_mJI_bitCount 13 rfl) ?_
  refine g_ldc_w (pc := 18) (u := 858993459) ck_JI_266 (by decide) (dk d_mJI_bitCount 14 rfl) ?_
  refine g_iand (pc := 21) (dk d_mJI_bitCount 15 rfl) ?_
  refine g_iadd (pc := 22) (dk d_mJI_bitCount 16 rfl) ?_
  refine h_bvI h (fun v0_2 h => ?_)
  refine g_istore_n (pc := 23) (l' := [(0, pI v0_2)]) (dk d_mJI_bitCount 17 rfl) (Nat.le_of_ble_eq_true rfl) rfl ?_
  refine g_iload_n (pc := 24) (j := 0) (dk d_mJI_bitCount 18 rfl) rfl ?_
  refine g_iload_n (pc := 25) (j := 0) (dk d_mJI_bitCount 19 rfl) rfl ?_
  refine g_iconst (pc := 26) (dk d_mJI_bitCount 20 rfl) (by decide) ?_
  refine g_iushr (pc := 27) (dk d_mJI_bitCount 21 rfl) ?_
  refine g_iadd (pc := 28) (dk d_mJI_bitCount 22 rfl) ?_
  refine g_ldc_w (pc := 29) (u := 252645135) ck_JI_267 (by decide) (dk d_mJI_bitCount 23 rfl) ?_
  refine g_iand (pc := 32) (dk d_mJI_bitCount 24 rfl) ?_
  refine h_bvI h (fun v0_3 h => ?_)
  refine g_istore_n (pc := 33) (l' := [(0, pI v0_3)]) (dk d_mJI_bitCount 25 rfl) (Nat.le_of_ble_eq_true rfl) rfl ?_
  refine g_iload_n (pc := 34) (j := 0) (dk d_mJI_bitCount 26 rfl) rfl ?_
  refine g_iload_n (pc := 35) (j := 0) (dk d_mJI_bitCount 27 rfl) rfl ?_
  refine g_bipush (pc := 36) (dk d_mJI_bitCount 28 rfl) (by decide) ?_
  refine g_iushr (pc := 38) (dk d_mJI_bitCount 29 rfl) ?_
  refine g_iadd (pc := 39) (dk d_mJI_bitCount 30 rfl) ?_
  refine h_bvI h (fun v0_4 h => ?_)
  refine g_istore_n (pc := 40) (l' := [(0, pI v0_4)]) (dk d_mJI_bitCount 31 rfl) (Nat.le_of_ble_eq_true rfl) rfl ?_
  refine g_iload_n (pc := 41) (j := 0) (dk d_mJI_bitCount 32 rfl) rfl ?_
  refine g_iload_n (pc := 42) (j := 0) (dk d_mJI_bitCount 33 rfl) rfl ?_
  refine g_bipush (pc := 43) (dk d_mJI_bitCount 34 rfl) (by decide) ?_
  refine g_iushr (pc := 45) (dk d_mJI_bitCount 35 rfl) ?_
  refine g_iadd (pc := 46) (dk d_mJI_bitCount 36 rfl) ?_
  refine h_bvI h (fun v0_5 h => ?_)
  refine g_istore_n (pc := 47) (l' := [(0, pI v0_5)]) (dk d_mJI_bitCount 37 rfl) (Nat.le_of_ble_eq_true rfl) rfl ?_
  refine g_iload_n (pc := 48) (j := 0) (dk d_mJI_bitCount 38 rfl) rfl ?_
  refine g_bipush (pc := 49) (dk d_mJI_bitCount 39 rfl) (by decide) ?_
  refine g_iand (pc := 51) (dk d_mJI_bitCount 40 rfl) ?_
  exact h_iret (pc := 52) rfl (dk d_mJI_bitCount 41 rfl) h
set_option maxRecDepth 100000 in
set_option maxHeartbeats 4000000 in
theorem kJI_bitCount (E : Nat × (Int → Int)) (d : Nat) {a0 : Int} {w w1 : WD} {r : Int} (h : fJI_bitCount a0 w = some (r, w1)) : CTi E mJI_bitCount (d + 1) [pI a0] w RF NN r w1 RF NN := by
  exact CTi_of (by decide +kernel) (Nat.le_of_ble_eq_true rfl) (Or.inl rfl) (gJI_bitCount (res := (r, w1)) E d a0 w h)
def fTh_restOf_l37_b (rec : Int → Int → WD → Option (Int × WD)) (y1 : Int) (y2 : Int) (y4 : Int) (x6 : Int) (x8 : Int) (w : WD) : Option (Int × WD) := if 7 ≤ x8 then (some (x6, w)) else (ci (fTh_withOne y1 y2 x8 w) <| fun (r6 : Int) (u5 : WD) => jn (β := Int → WD → Option (Int × WD)) (fun (s7 : Int) (u8 : WD) => bv (w32 (x8 + 1)) <| fun (v8_9 : Int) => rec s7 v8_9 u8) <| fun J10 => if y4 = 0 then (J10 (w64 (x6 + r6)) u5) else (J10 (mx x6 r6) u5))
def fTh_restOf_l37 (y1 : Int) (y2 : Int) (y4 : Int) : Nat → Int → Int → WD → Option (Int × WD)
  | 0 => fun _ _ _ => none
  | k + 1 => fTh_restOf_l37_b ( fTh_restOf_l37 y1 y2 y4 k) y1 y2 y4
set_option maxRecDepth 100000 in
set_option maxHeartbeats 4000000 in
theorem fTh_restOf_l37_b_ok (E : Nat × (Int → Int)) (d : Nat) {res : Int × WD} {rec : Int → Int → WD → Option (Int × WD)} (y1 : Int) (y2 : Int) (y4 : Int) (hrec : ∀ (x6 : Int) (x8 : Int) (w : WD), rec x6 x8 w = some res → G E mTh_restOf (d + 2) 37 [(0, pR 12), (1, pI y1), (2, pI y2), (4, pI y4), (6, pL x6), (8, pI x8)] [] w RF NN 0 0 (some (pL res.1), res.2, RF, NN)) (x6 : Int) (x8 : Int) (w : WD) (h : fTh_restOf_l37_b rec y1 y2 y4 x6 x8 w = some res) : G E mTh_restOf (d + 2) 37 [(0, pR 12), (1, pI y1), (2, pI y2), (4, pI y4), (6, pL x6), (8, pI x8)] [] w RF NN 0 0 (some (pL res.1), res.2, RF, NN) := by
  unfold fTh_restOf_l37_b at h
  refine g_iload (pc := 37) (j := 5) (dk d_mTh_restOf 22 rfl) rfl ?_
  refine g_bipush (pc := 39) (dk d_mTh_restOf 23 rfl) (by decide) ?_
  refine h_icmp_ge (pc := 41) (tgt := 82) (dk d_mTh_restOf 24 rfl) rfl h (fun hc12 h => ?_) (fun hc12 h => ?_)
  · refine g_lload (pc := 82) (j := 4) (dk d_mTh_restOf 43 rfl) rfl ?_
    exact h_lret (pc := 84) (dk d_mTh_restOf 44 rfl) h
  · refine g_aload_n (pc := 44) (j := 0) (dk d_mTh_restOf 25 rfl) rfl (by decide) ?_
    refine g_iload_n (pc := 45) (j := 1) (dk d_mTh_restOf 26 rfl) rfl ?_
    refine g_iload_n (pc := 46) (j := 2) (dk d_mTh_restOf 27 rfl) rfl ?_
    refine g_iload (pc := 47) (j := 5) (dk d_mTh_restOf 28 rfl) rfl ?_
    refine h_callVl (d := d + 1) (pc := 49) (na := 3) (av := [pI y1, pI y2, pI x8]) (k0 := 12) po_12 ⟨_, rfl⟩ ⟨rfl, rfl⟩ (dk d_mTh_restOf 29 rfl) lk_Th_99 vm_mTh_withOne rfl rfl (Nat.le_of_ble_eq_true rfl) h (fun r6 u5 hq => kTh_withOne E (d + 0) hq) (fun r6 u5 h => ?_)
    refine g_lstore (pc := 52) (l' := [(9, pL r6), (0, pR 12), (1, pI y1), (2, pI y2), (4, pI y4), (6, pL x6), (8, pI x8)]) (dk d_mTh_restOf 30 rfl) (Nat.le_of_ble_eq_true rfl) rfl ?_
    refine g_iload (pc := 54) (j := 4) (dk d_mTh_restOf 31 rfl) rfl ?_
    refine jn_e (fun J => ∀ (s7 : Int) (u8 : WD), J s7 u8 = some res → G E mTh_restOf (d + 2) 74 [(0, pR 12), (1, pI y1), (2, pI y2), (4, pI y4), (8, pI x8)] [pL s7] u8 RF NN 0 0 (some (pL res.1), res.2, RF, NN)) h (fun s7 u8 h => ?_) (fun J10 hJ10 h => ?_)
    · refine g_lstore (pc := 74) (l' := [(6, pL s7), (0, pR 12), (1, pI y1), (2, pI y2), (4, pI y4), (8, pI x8)]) (dk d_mTh_restOf 40 rfl) (Nat.le_of_ble_eq_true rfl) rfl ?_
      refine h_iinc (pc := 76) (j := 5) (dk d_mTh_restOf 41 rfl) rfl (by decide) (Nat.le_of_ble_eq_true rfl) h (fun v8_9 h => ?_)
      refine g_loc (l' := [(8, pI v8_9), (6, pL s7), (0, pR 12), (1, pI y1), (2, pI y2), (4, pI y4)]) rfl ?_
      refine g_goto (pc := 79) (tgt := 37) (dk d_mTh_restOf 42 rfl) rfl ?_
      refine g_pick [2, 3, 4, 5, 1, 0] rfl (l' := [(0, pR 12), (1, pI y1), (2, pI y2), (4, pI y4), (6, pL s7), (8, pI v8_9)]) rfl ?_
      exact hrec _ _ _ h
    · refine h_if_eq (pc := 56) (tgt := 69) (dk d_mTh_restOf 32 rfl) rfl h (fun hc11 h => ?_) (fun hc11 h => ?_)
      · refine g_lload (pc := 69) (j := 5) (dk d_mTh_restOf 37 rfl) rfl ?_
        refine g_lload (pc := 71) (j := 0) (dk d_mTh_restOf 38 rfl) rfl ?_
        refine g_ladd (pc := 73) (dk d_mTh_restOf 39 rfl) ?_
        refine g_pick [1, 2, 3, 4, 6] rfl (l' := [(0, pR 12), (1, pI y1), (2, pI y2), (4, pI y4), (8, pI x8)]) rfl ?_
        exact hJ10 _ _ h
      · refine g_lload (pc := 59) (j := 5) (dk d_mTh_restOf 33 rfl) rfl ?_
        refine g_lload (pc := 61) (j := 0) (dk d_mTh_restOf 34 rfl) rfl ?_
        refine g_mmaxL (pc := 63) mm_Th_103 (Nat.le_of_ble_eq_true rfl) (by omega) (dk d_mTh_restOf 35 rfl) ?_
        refine g_goto (pc := 66) (tgt := 74) (dk d_mTh_restOf 36 rfl) rfl ?_
        refine g_pick [1, 2, 3, 4, 6] rfl (l' := [(0, pR 12), (1, pI y1), (2, pI y2), (4, pI y4), (8, pI x8)]) rfl ?_
        exact hJ10 _ _ h
set_option maxRecDepth 100000 in
set_option maxHeartbeats 4000000 in
theorem fTh_restOf_l37_ok (E : Nat × (Int → Int)) (d : Nat) {res : Int × WD} (y1 : Int) (y2 : Int) (y4 : Int) : ∀ (k : Nat) (x6 : Int) (x8 : Int) (w : WD), fTh_restOf_l37 y1 y2 y4 k x6 x8 w = some res → G E mTh_restOf (d + 2) 37 [(0, pR 12), (1, pI y1), (2, pI y2), (4, pI y4), (6, pL x6), (8, pI x8)] [] w RF NN 0 0 (some (pL res.1), res.2, RF, NN) := by
  intro k
  induction k with
  | zero =>
    intro x6 x8 w h
    exact no_e h
  | succ k ih =>
    intro x6 x8 w h
    exact fTh_restOf_l37_b_ok E d y1 y2 y4 ih x6 x8 w h
def fTh_restOf (a1 : Int) (a2 : Int) (a3 : Int) (a4 : Int) (w : WD) : Option (Int × WD) := ci (fJI_bitCount a2 w) <| fun (r2 : Int) (u1 : WD) => bv (w32 (a1 - r2)) <| fun (v5_4 : Int) => if v5_4 < 0 then (some (0, u1)) else (if v5_4 ≤ (u1 12 8) then (if a1 ≠ a3 then (fTh_restOf_l37 a1 a2 a4 FU 0 0 u1) else (some (1, u1))) else (some (0, u1)))
set_option maxRecDepth 100000 in
set_option maxHeartbeats 4000000 in
theorem gTh_restOf (E : Nat × (Int → Int)) (d : Nat) {res : Int × WD} (a1 : Int) (a2 : Int) (a3 : Int) (a4 : Int) (w : WD) (h : fTh_restOf a1 a2 a3 a4 w = some res) : G E mTh_restOf (d + 2) 0 [(0, pR 12), (1, pI a1), (2, pI a2), (3, pI a3), (4, pI a4)] [] w RF NN 0 0 (some (pL res.1), res.2, RF, NN) := by
  unfold fTh_restOf at h
  refine g_iload_n (pc := 0) (j := 1) (dk d_mTh_restOf 0 rfl) rfl ?_
  refine g_iload_n (pc := 1) (j := 2) (dk d_mTh_restOf 1 rfl) rfl ?_
  refine h_callSi (d := d + 1) (pc := 2) (na := 1) (av := [pI a2]) ⟨rfl, rfl⟩ (dk d_mTh_restOf 2 rfl) lk_Th_93 vm_mJI_bitCount rfl rfl (Nat.le_of_ble_eq_true rfl) h (fun r2 u1 hq => kJI_bitCount E (d + 0) hq) (fun r2 u1 hb3 h => ?_)
  refine g_isub (pc := 5) (dk d_mTh_restOf 3 rfl) ?_
  refine h_bvI h (fun v5_4 h => ?_)
  refine g_istore (pc := 6) (l' := [(5, pI v5_4), (0, pR 12), (1, pI a1), (2, pI a2), (3, pI a3), (4, pI a4)]) (dk d_mTh_restOf 4 rfl) (Nat.le_of_ble_eq_true rfl) rfl ?_
  refine g_iload (pc := 8) (j := 0) (dk d_mTh_restOf 5 rfl) rfl ?_
  refine h_if_lt (pc := 10) (tgt := 22) (dk d_mTh_restOf 6 rfl) rfl h (fun hc15 h => ?_) (fun hc15 h => ?_)
  · refine g_lconst0 (pc := 22) (dk d_mTh_restOf 11 rfl) ?_
    exact h_lret (pc := 23) (dk d_mTh_restOf 12 rfl) h
  · refine g_iload (pc := 13) (j := 0) (dk d_mTh_restOf 7 rfl) rfl ?_
    refine g_aload_n (pc := 15) (j := 1) (dk d_mTh_restOf 8 rfl) rfl (by decide) ?_
    refine g_getI (pc := 16) fp_Th_51 po_12 (dk d_mTh_restOf 9 rfl) ?_
    refine h_icmp_le (pc := 19) (tgt := 24) (dk d_mTh_restOf 10 rfl) rfl h (fun hc14 h => ?_) (fun hc14 h => ?_)
    · refine g_iload_n (pc := 24) (j := 2) (dk d_mTh_restOf 13 rfl) rfl ?_
      refine g_iload_n (pc := 25) (j := 4) (dk d_mTh_restOf 14 rfl) rfl ?_
      refine h_icmp_ne (pc := 26) (tgt := 31) (dk d_mTh_restOf 15 rfl) rfl h (fun hc13 h => ?_) (fun hc13 h => ?_)
      · refine g_lconst0 (pc := 31) (dk d_mTh_restOf 18 rfl) ?_
        refine g_lstore (pc := 32) (l' := [(6, pL 0), (5, pI v5_4), (0, pR 12), (1, pI a1), (2, pI a2), (3, pI a3), (4, pI a4)]) (dk d_mTh_restOf 19 rfl) (Nat.le_of_ble_eq_true rfl) rfl ?_
        refine g_iconst (pc := 34) (dk d_mTh_restOf 20 rfl) (by decide) ?_
        refine g_istore (pc := 35) (l' := [(8, pI 0), (6, pL 0), (5, pI v5_4), (0, pR 12), (1, pI a1), (2, pI a2), (3, pI a3), (4, pI a4)]) (dk d_mTh_restOf 21 rfl) (Nat.le_of_ble_eq_true rfl) rfl ?_
        refine g_pick [3, 4, 5, 7, 1, 0] rfl (l' := [(0, pR 12), (1, pI a1), (2, pI a2), (4, pI a4), (6, pL 0), (8, pI 0)]) rfl ?_
        refine fTh_restOf_l37_ok E d a1 a2 a4 FU _ _  _ h
      · refine g_lconst1 (pc := 29) (dk d_mTh_restOf 16 rfl) ?_
        exact h_lret (pc := 30) (dk d_mTh_restOf 17 rfl) h
    · refine g_lconst0 (pc := 22) (dk d_mTh_restOf 11 rfl) ?_
      exact h_lret (pc := 23) (dk d_mTh_restOf 12 rfl) h
set_option maxRecDepth 100000 in
set_option maxHeartbeats 4000000 in
theorem kTh_restOf (E : Nat × (Int → Int)) (d : Nat) {a1 : Int} {a2 : Int} {a3 : Int} {a4 : Int} {w w1 : WD} {r : Int} (h : fTh_restOf a1 a2 a3 a4 w = some (r, w1)) : CTl E mTh_restOf (d + 2) [pR 12, pI a1, pI a2, pI a3, pI a4] w RF NN r w1 RF NN := by
  exact CTl_of (by decide +kernel) (Nat.le_of_ble_eq_true rfl) rfl (gTh_restOf (res := (r, w1)) E d a1 a2 a3 a4 w h)
def fTh_reckon_l38_b (rec : Int → WD → Option (Int × WD)) (y1 : Int) (y2 : Int) (y3 : Int) (y4 : Int) (K0 : WD → Option (Int × WD)) (x5 : Int) (w : WD) : Option (Int × WD) := if y2 ≤ x5 then (K0 w) else (ci (fTh_restOf y4 x5 y3 y1 w) <| fun (r10 : Int) (u9 : WD) => ck (0 ≤ (w32 ((w32 (64 * y4)) + x5)) ∧ (w32 ((w32 (64 * y4)) + x5)) < 384) <| bw (up u9 17 (w32 ((w32 (64 * y4)) + x5)) r10) <| fun (u11 : WD) => bv (w32 (x5 + 1)) <| fun (v5_12 : Int) => rec v5_12 u11)
def fTh_reckon_l38 (y1 : Int) (y2 : Int) (y3 : Int) (y4 : Int) (K0 : WD → Option (Int × WD)) : Nat → Int → WD → Option (Int × WD)
  | 0 => fun _ _ => none
  | k + 1 => fTh_reckon_l38_b ( fTh_reckon_l38 y1 y2 y3 y4 K0 k) y1 y2 y3 y4 K0
set_option maxRecDepth 100000 in
set_option maxHeartbeats 4000000 in
theorem fTh_reckon_l38_b_ok (E : Nat × (Int → Int)) (d : Nat) {res : Int × WD} {rec : Int → WD → Option (Int × WD)} (y1 : Int) (y2 : Int) (y3 : Int) (y4 : Int) (K0 : WD → Option (Int × WD)) (hrec : ∀ (x5 : Int) (w : WD), rec x5 w = some res → G E mTh_reckon (d + 3) 38 [(0, pR 12), (1, pI y1), (2, pI y2), (3, pI y3), (4, pI y4), (5, pI x5)] [] w RF NN 0 0 (some (pL res.1), res.2, RF, NN)) (hK0 : ∀ (w : WD), K0 w = some res → G E mTh_reckon (d + 3) 73 [(0, pR 12), (1, pI y1), (2, pI y2), (3, pI y3), (4, pI y4)] [] w RF NN 0 0 (some (pL res.1), res.2, RF, NN)) (x5 : Int) (w : WD) (h : fTh_reckon_l38_b rec y1 y2 y3 y4 K0 x5 w = some res) : G E mTh_reckon (d + 3) 38 [(0, pR 12), (1, pI y1), (2, pI y2), (3, pI y3), (4, pI y4), (5, pI x5)] [] w RF NN 0 0 (some (pL res.1), res.2, RF, NN) := by
  unfold fTh_reckon_l38_b at h
  refine g_iload (pc := 38) (j := 5) (dk d_mTh_reckon 20 rfl) rfl ?_
  refine g_iload_n (pc := 40) (j := 2) (dk d_mTh_reckon 21 rfl) rfl ?_
  refine h_icmp_ge (pc := 41) (tgt := 73) (dk d_mTh_reckon 22 rfl) rfl h (fun hc13 h => ?_) (fun hc13 h => ?_)
  · refine g_pick [0, 1, 2, 3, 4] rfl (l' := [(0, pR 12), (1, pI y1), (2, pI y2), (3, pI y3), (4, pI y4)]) rfl ?_
    exact hK0 _ h
  · refine g_aload_n (pc := 44) (j := 0) (dk d_mTh_reckon 23 rfl) rfl (by decide) ?_
    refine g_getR (pc := 45) (a := 17) rfl fp_Th_25 po_12 (dk d_mTh_reckon 24 rfl) ?_
    refine g_bipush (pc := 48) (dk d_mTh_reckon 25 rfl) (by decide) ?_
    refine g_iload (pc := 50) (j := 4) (dk d_mTh_reckon 26 rfl) rfl ?_
    refine g_imul (pc := 52) (dk d_mTh_reckon 27 rfl) ?_
    refine g_iload (pc := 53) (j := 5) (dk d_mTh_reckon 28 rfl) rfl ?_
    refine g_iadd (pc := 55) (dk d_mTh_reckon 29 rfl) ?_
    refine g_aload_n (pc := 56) (j := 0) (dk d_mTh_reckon 30 rfl) rfl (by decide) ?_
    refine g_iload (pc := 57) (j := 4) (dk d_mTh_reckon 31 rfl) rfl ?_
    refine g_iload (pc := 59) (j := 5) (dk d_mTh_reckon 32 rfl) rfl ?_
    refine g_iload_n (pc := 61) (j := 3) (dk d_mTh_reckon 33 rfl) rfl ?_
    refine g_iload_n (pc := 62) (j := 1) (dk d_mTh_reckon 34 rfl) rfl ?_
    refine h_callVl (d := d + 2) (pc := 63) (na := 4) (av := [pI y4, pI x5, pI y3, pI y1]) (k0 := 12) po_12 ⟨_, rfl⟩ ⟨rfl, rfl⟩ (dk d_mTh_reckon 35 rfl) lk_Th_89 vm_mTh_restOf rfl rfl (Nat.le_of_ble_eq_true rfl) h (fun r10 u9 hq => kTh_restOf E (d + 0) hq) (fun r10 u9 h => ?_)
    refine h_last (pc := 66) (B := 384) pa_17 rfl (dk d_mTh_reckon 36 rfl) h (fun u11 h => ?_)
    refine h_iinc (pc := 67) (j := 5) (dk d_mTh_reckon 37 rfl) rfl (by decide) (Nat.le_of_ble_eq_true rfl) h (fun v5_12 h => ?_)
    refine g_loc (l' := [(5, pI v5_12), (0, pR 12), (1, pI y1), (2, pI y2), (3, pI y3), (4, pI y4)]) rfl ?_
    refine g_goto (pc := 70) (tgt := 38) (dk d_mTh_reckon 38 rfl) rfl ?_
    refine g_pick [1, 2, 3, 4, 5, 0] rfl (l' := [(0, pR 12), (1, pI y1), (2, pI y2), (3, pI y3), (4, pI y4), (5, pI v5_12)]) rfl ?_
    exact hrec _ _ h
set_option maxRecDepth 100000 in
set_option maxHeartbeats 4000000 in
theorem fTh_reckon_l38_ok (E : Nat × (Int → Int)) (d : Nat) {res : Int × WD} (y1 : Int) (y2 : Int) (y3 : Int) (y4 : Int) (K0 : WD → Option (Int × WD)) (hK0 : ∀ (w : WD), K0 w = some res → G E mTh_reckon (d + 3) 73 [(0, pR 12), (1, pI y1), (2, pI y2), (3, pI y3), (4, pI y4)] [] w RF NN 0 0 (some (pL res.1), res.2, RF, NN)) : ∀ (k : Nat) (x5 : Int) (w : WD), fTh_reckon_l38 y1 y2 y3 y4 K0 k x5 w = some res → G E mTh_reckon (d + 3) 38 [(0, pR 12), (1, pI y1), (2, pI y2), (3, pI y3), (4, pI y4), (5, pI x5)] [] w RF NN 0 0 (some (pL res.1), res.2, RF, NN) := by
  intro k
  induction k with
  | zero =>
    intro x5 w h
    exact no_e h
  | succ k ih =>
    intro x5 w h
    exact fTh_reckon_l38_b_ok E d y1 y2 y3 y4 K0 ih hK0 x5 w h
def fTh_reckon_l30_b (rec : Int → WD → Option (Int × WD)) (y1 : Int) (y2 : Int) (y3 : Int) (K0 : WD → Option (Int × WD)) (x4 : Int) (w : WD) : Option (Int × WD) := if x4 < 0 then (K0 w) else (fTh_reckon_l38 y1 y2 y3 x4 (fun (u14 : WD) => bv (w32 (x4 + (-1))) <| fun (v4_15 : Int) => rec v4_15 u14) FU 0 w)
def fTh_reckon_l30 (y1 : Int) (y2 : Int) (y3 : Int) (K0 : WD → Option (Int × WD)) : Nat → Int → WD → Option (Int × WD)
  | 0 => fun _ _ => none
  | k + 1 => fTh_reckon_l30_b ( fTh_reckon_l30 y1 y2 y3 K0 k) y1 y2 y3 K0
set_option maxRecDepth 100000 in
set_option maxHeartbeats 4000000 in
theorem fTh_reckon_l30_b_ok (E : Nat × (Int → Int)) (d : Nat) {res : Int × WD} {rec : Int → WD → Option (Int × WD)} (y1 : Int) (y2 : Int) (y3 : Int) (K0 : WD → Option (Int × WD)) (hrec : ∀ (x4 : Int) (w : WD), rec x4 w = some res → G E mTh_reckon (d + 3) 30 [(0, pR 12), (1, pI y1), (2, pI y2), (3, pI y3), (4, pI x4)] [] w RF NN 0 0 (some (pL res.1), res.2, RF, NN)) (hK0 : ∀ (w : WD), K0 w = some res → G E mTh_reckon (d + 3) 79 [(0, pR 12)] [] w RF NN 0 0 (some (pL res.1), res.2, RF, NN)) (x4 : Int) (w : WD) (h : fTh_reckon_l30_b rec y1 y2 y3 K0 x4 w = some res) : G E mTh_reckon (d + 3) 30 [(0, pR 12), (1, pI y1), (2, pI y2), (3, pI y3), (4, pI x4)] [] w RF NN 0 0 (some (pL res.1), res.2, RF, NN) := by
  unfold fTh_reckon_l30_b at h
  refine g_iload (pc := 30) (j := 4) (dk d_mTh_reckon 16 rfl) rfl ?_
  refine h_if_lt (pc := 32) (tgt := 79) (dk d_mTh_reckon 17 rfl) rfl h (fun hc16 h => ?_) (fun hc16 h => ?_)
  · refine g_pick [0] rfl (l' := [(0, pR 12)]) rfl ?_
    exact hK0 _ h
  · refine g_iconst (pc := 35) (dk d_mTh_reckon 18 rfl) (by decide) ?_
    refine g_istore (pc := 36) (l' := [(5, pI 0), (0, pR 12), (1, pI y1), (2, pI y2), (3, pI y3), (4, pI x4)]) (dk d_mTh_reckon 19 rfl) (Nat.le_of_ble_eq_true rfl) rfl ?_
    refine g_pick [1, 2, 3, 4, 5, 0] rfl (l' := [(0, pR 12), (1, pI y1), (2, pI y2), (3, pI y3), (4, pI x4), (5, pI 0)]) rfl ?_
    refine fTh_reckon_l38_ok E d y1 y2 y3 x4 _  (fun u14 h => ?_) FU _  _ h
    · refine h_iinc (pc := 73) (j := 4) (dk d_mTh_reckon 39 rfl) rfl (by decide) (Nat.le_of_ble_eq_true rfl) h (fun v4_15 h => ?_)
      refine g_loc (l' := [(4, pI v4_15), (0, pR 12), (1, pI y1), (2, pI y2), (3, pI y3)]) rfl ?_
      refine g_goto (pc := 76) (tgt := 30) (dk d_mTh_reckon 40 rfl) rfl ?_
      refine g_pick [1, 2, 3, 4, 0] rfl (l' := [(0, pR 12), (1, pI y1), (2, pI y2), (3, pI y3), (4, pI v4_15)]) rfl ?_
      exact hrec _ _ h
set_option maxRecDepth 100000 in
set_option maxHeartbeats 4000000 in
theorem fTh_reckon_l30_ok (E : Nat × (Int → Int)) (d : Nat) {res : Int × WD} (y1 : Int) (y2 : Int) (y3 : Int) (K0 : WD → Option (Int × WD)) (hK0 : ∀ (w : WD), K0 w = some res → G E mTh_reckon (d + 3) 79 [(0, pR 12)] [] w RF NN 0 0 (some (pL res.1), res.2, RF, NN)) : ∀ (k : Nat) (x4 : Int) (w : WD), fTh_reckon_l30 y1 y2 y3 K0 k x4 w = some res → G E mTh_reckon (d + 3) 30 [(0, pR 12), (1, pI y1), (2, pI y2), (3, pI y3), (4, pI x4)] [] w RF NN 0 0 (some (pL res.1), res.2, RF, NN) := by
  intro k
  induction k with
  | zero =>
    intro x4 w h
    exact no_e h
  | succ k ih =>
    intro x4 w h
    exact fTh_reckon_l30_b_ok E d y1 y2 y3 K0 ih hK0 x4 w h
def fTh_reckon (a1 : Int) (w : WD) : Option (Int × WD) := ci (fHa_persons w) <| fun (r2 : Int) (u1 : WD) => bv (bShl 1 (mn 6 r2)) <| fun (v2_4 : Int) => ci (fHa_masks u1) <| fun (r6 : Int) (u5 : WD) => bv (mn 5 r6) <| fun (v3_8 : Int) => fTh_reckon_l30 a1 v2_4 v3_8 (fun (u17 : WD) => some ((u17 17 0), u17)) FU v3_8 u5
set_option maxRecDepth 100000 in
set_option maxHeartbeats 4000000 in
theorem gTh_reckon (E : Nat × (Int → Int)) (d : Nat) {res : Int × WD} (a1 : Int) (w : WD) (h : fTh_reckon a1 w = some res) : G E mTh_reckon (d + 3) 0 [(0, pR 12), (1, pI a1)] [] w RF NN 0 0 (some (pL res.1), res.2, RF, NN) := by
  unfold fTh_reckon at h
  refine g_iconst (pc := 0) (dk d_mTh_reckon 0 rfl) (by decide) ?_
  refine g_bipush (pc := 1) (dk d_mTh_reckon 1 rfl) (by decide) ?_
  refine g_aload_n (pc := 3) (j := 0) (dk d_mTh_reckon 2 rfl) rfl (by decide) ?_
  refine g_getR (pc := 4) (a := 1) rfl fp_Th_31 po_12 (dk d_mTh_reckon 3 rfl) ?_
  refine h_callVi (d := d + 2) (pc := 7) (na := 0) (av := []) (k0 := 1) po_1 ⟨_, rfl⟩ ⟨rfl, rfl⟩ (dk d_mTh_reckon 4 rfl) lk_Th_80 vm_mHa_persons rfl rfl (Nat.le_of_ble_eq_true rfl) h (fun r2 u1 hq => kHa_persons E (d + 1) hq) (fun r2 u1 hb3 h => ?_)
  refine g_mminI (pc := 10) mm_Th_84 (Nat.le_of_ble_eq_true rfl) (by omega) (dk d_mTh_reckon 5 rfl) ?_
  refine g_ishl (pc := 13) (dk d_mTh_reckon 6 rfl) ?_
  refine h_bvI h (fun v2_4 h => ?_)
  refine g_istore_n (pc := 14) (l' := [(2, pI v2_4), (0, pR 12), (1, pI a1)]) (dk d_mTh_reckon 7 rfl) (Nat.le_of_ble_eq_true rfl) rfl ?_
  refine g_iconst (pc := 15) (dk d_mTh_reckon 8 rfl) (by decide) ?_
  refine g_aload_n (pc := 16) (j := 1) (dk d_mTh_reckon 9 rfl) rfl (by decide) ?_
  refine g_getR (pc := 17) (a := 1) rfl fp_Th_31 po_12 (dk d_mTh_reckon 10 rfl) ?_
  refine h_callVi (d := d + 2) (pc := 20) (na := 0) (av := []) (k0 := 1) po_1 ⟨_, rfl⟩ ⟨rfl, rfl⟩ (dk d_mTh_reckon 11 rfl) lk_Th_86 vm_mHa_masks rfl rfl (Nat.le_of_ble_eq_true rfl) h (fun r6 u5 hq => kHa_masks E (d + 1) hq) (fun r6 u5 hb7 h => ?_)
  refine g_mminI (pc := 23) mm_Th_84 (Nat.le_of_ble_eq_true rfl) (by omega) (dk d_mTh_reckon 12 rfl) ?_
  refine h_bvI h (fun v3_8 h => ?_)
  refine g_istore_n (pc := 26) (l' := [(3, pI v3_8), (2, pI v2_4), (0, pR 12), (1, pI a1)]) (dk d_mTh_reckon 13 rfl) (Nat.le_of_ble_eq_true rfl) rfl ?_
  refine g_iload_n (pc := 27) (j := 0) (dk d_mTh_reckon 14 rfl) rfl ?_
  refine g_istore (pc := 28) (l' := [(4, pI v3_8), (3, pI v3_8), (2, pI v2_4), (0, pR 12), (1, pI a1)]) (dk d_mTh_reckon 15 rfl) (Nat.le_of_ble_eq_true rfl) rfl ?_
  refine g_pick [3, 4, 2, 1, 0] rfl (l' := [(0, pR 12), (1, pI a1), (2, pI v2_4), (3, pI v3_8), (4, pI v3_8)]) rfl ?_
  refine fTh_reckon_l30_ok E d a1 v2_4 v3_8 _  (fun u17 h => ?_) FU _  _ h
  · refine g_aload_n (pc := 79) (j := 0) (dk d_mTh_reckon 41 rfl) rfl (by decide) ?_
    refine g_getR (pc := 80) (a := 17) rfl fp_Th_25 po_12 (dk d_mTh_reckon 42 rfl) ?_
    refine g_iconst (pc := 83) (dk d_mTh_reckon 43 rfl) (by decide) ?_
    refine g_lald (pc := 84) pa_17 (dk d_mTh_reckon 44 rfl) (by decide) ?_
    exact h_lret (pc := 85) (dk d_mTh_reckon 45 rfl) h
set_option maxRecDepth 100000 in
set_option maxHeartbeats 4000000 in
theorem kTh_reckon (E : Nat × (Int → Int)) (d : Nat) {a1 : Int} {w w1 : WD} {r : Int} (h : fTh_reckon a1 w = some (r, w1)) : CTl E mTh_reckon (d + 3) [pR 12, pI a1] w RF NN r w1 RF NN := by
  exact CTl_of (by decide +kernel) (Nat.le_of_ble_eq_true rfl) rfl (gTh_reckon (res := (r, w1)) E d a1 w h)
def fTh_number (w : WD) : Option (Int × WD) := cv (fTh_price 0 w) <| fun (u1 : WD) => ci (fTh_reckon 0 u1) <| fun (r3 : Int) (u2 : WD) => some (r3, u2)
set_option maxRecDepth 100000 in
set_option maxHeartbeats 4000000 in
theorem gTh_number (E : Nat × (Int → Int)) (d : Nat) {res : Int × WD} (w : WD) (h : fTh_number w = some res) : G E mTh_number (d + 4) 0 [(0, pR 12)] [] w RF NN 0 0 (some (pL res.1), res.2, RF, NN) := by
  unfold fTh_number at h
  refine g_aload_n (pc := 0) (j := 0) (dk d_mTh_number 0 rfl) rfl (by decide) ?_
  refine g_iconst (pc := 1) (dk d_mTh_number 1 rfl) (by decide) ?_
  refine h_callVv (d := d + 3) (pc := 2) (na := 1) (av := [pI 0]) (k0 := 12) po_12 ⟨_, rfl⟩ ⟨rfl, rfl⟩ (dk d_mTh_number 2 rfl) lk_Th_106 vm_mTh_price rfl rfl (Nat.le_of_ble_eq_true rfl) h (fun u1 hq => kTh_price E (d + 1) hq) (fun u1 h => ?_)
  refine g_aload_n (pc := 5) (j := 0) (dk d_mTh_number 3 rfl) rfl (by decide) ?_
  refine g_iconst (pc := 6) (dk d_mTh_number 4 rfl) (by decide) ?_
  refine h_callVl (d := d + 3) (pc := 7) (na := 1) (av := [pI 0]) (k0 := 12) po_12 ⟨_, rfl⟩ ⟨rfl, rfl⟩ (dk d_mTh_number 5 rfl) lk_Th_110 vm_mTh_reckon rfl rfl (Nat.le_of_ble_eq_true rfl) h (fun r3 u2 hq => kTh_reckon E (d + 0) hq) (fun r3 u2 h => ?_)
  exact h_lret (pc := 10) (dk d_mTh_number 6 rfl) h
set_option maxRecDepth 100000 in
set_option maxHeartbeats 4000000 in
theorem kTh_number (E : Nat × (Int → Int)) (d : Nat) {w w1 : WD} {r : Int} (h : fTh_number w = some (r, w1)) : CTl E mTh_number (d + 4) [pR 12] w RF NN r w1 RF NN := by
  exact CTl_of (by decide +kernel) (Nat.le_of_ble_eq_true rfl) rfl (gTh_number (res := (r, w1)) E d w h)
def fTh_together (w : WD) : Option (Int × WD) := cv (fTh_price 1 w) <| fun (u1 : WD) => ci (fTh_reckon 0 u1) <| fun (r3 : Int) (u2 : WD) => some (r3, u2)
set_option maxRecDepth 100000 in
set_option maxHeartbeats 4000000 in
theorem gTh_together (E : Nat × (Int → Int)) (d : Nat) {res : Int × WD} (w : WD) (h : fTh_together w = some res) : G E mTh_together (d + 4) 0 [(0, pR 12)] [] w RF NN 0 0 (some (pL res.1), res.2, RF, NN) := by
  unfold fTh_together at h
  refine g_aload_n (pc := 0) (j := 0) (dk d_mTh_together 0 rfl) rfl (by decide) ?_
  refine g_iconst (pc := 1) (dk d_mTh_together 1 rfl) (by decide) ?_
  refine h_callVv (d := d + 3) (pc := 2) (na := 1) (av := [pI 1]) (k0 := 12) po_12 ⟨_, rfl⟩ ⟨rfl, rfl⟩ (dk d_mTh_together 2 rfl) lk_Th_106 vm_mTh_price rfl rfl (Nat.le_of_ble_eq_true rfl) h (fun u1 hq => kTh_price E (d + 1) hq) (fun u1 h => ?_)
  refine g_aload_n (pc := 5) (j := 0) (dk d_mTh_together 3 rfl) rfl (by decide) ?_
  refine g_iconst (pc := 6) (dk d_mTh_together 4 rfl) (by decide) ?_
  refine h_callVl (d := d + 3) (pc := 7) (na := 1) (av := [pI 0]) (k0 := 12) po_12 ⟨_, rfl⟩ ⟨rfl, rfl⟩ (dk d_mTh_together 5 rfl) lk_Th_110 vm_mTh_reckon rfl rfl (Nat.le_of_ble_eq_true rfl) h (fun r3 u2 hq => kTh_reckon E (d + 0) hq) (fun r3 u2 h => ?_)
  exact h_lret (pc := 10) (dk d_mTh_together 6 rfl) h
set_option maxRecDepth 100000 in
set_option maxHeartbeats 4000000 in
theorem kTh_together (E : Nat × (Int → Int)) (d : Nat) {w w1 : WD} {r : Int} (h : fTh_together w = some (r, w1)) : CTl E mTh_together (d + 4) [pR 12] w RF NN r w1 RF NN := by
  exact CTl_of (by decide +kernel) (Nat.le_of_ble_eq_true rfl) rfl (gTh_together (res := (r, w1)) E d w h)
