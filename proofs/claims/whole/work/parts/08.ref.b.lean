def fR_meets_l5_b (rec : Int → Int → WD → Option WD) (y1 : Int) (K0 : Int → WD → Option WD) (x3 : Int) (x4 : Int) (w : WD) : Option WD := if (w 46 4) ≤ x4 then (K0 x3 w) else (jn (β := WD → Option WD) (fun (u1 : WD) => ck (0 ≤ x4 ∧ x4 < 5) <| ck (0 ≤ x4 ∧ x4 < 5) <| jn (β := WD → Option WD) (fun (u2 : WD) => ck (0 ≤ x4 ∧ x4 < 5) <| bw (up u2 46 37 (bAnd (u2 46 37) (bXor (bShl 1 (u2 66 x4)) (-1)))) <| fun (u3 : WD) => ck (0 ≤ x4 ∧ x4 < 5) <| bv (w32 ((w32 (7 * x4)) + (u3 66 x4))) <| fun (t4 : Int) => ck (0 ≤ t4 ∧ t4 < 35) <| ck (0 ≤ t4 ∧ t4 < 35) <| bw (up u3 68 t4 (w64 ((u3 68 t4) + y1))) <| fun (u5 : WD) => ck (0 ≤ x4 ∧ x4 < 5) <| ck (0 ≤ x4 ∧ x4 < 5) <| jn (β := Int → WD → Option WD) (fun (v3_6 : Int) (u7 : WD) => bv (w32 (x4 + 1)) <| fun (v4_8 : Int) => rec v3_6 v4_8 u7) <| fun J9 => if (u5 70 x4) = (u5 66 x4) then (bv (w32 (x3 + 1)) <| fun (v3_10 : Int) => bw (up u5 46 41 (bOr (u5 46 41) (bShl 1 x4))) <| fun (u11 : WD) => J9 v3_10 u11) else (J9 x3 u5)) <| fun J13 => if (u1 66 x4) = (u1 69 x4) then (J13 u1) else (bw (up u1 46 36 (bAnd (u1 46 36) (bXor (bShl 1 x4) (-1)))) <| fun (u14 : WD) => J13 u14)) <| fun J16 => if (w 46 31) ≠ 0 then (J16 w) else (ck (0 ≤ x4 ∧ x4 < 5) <| ck (0 ≤ x4 ∧ x4 < 5) <| bw (up w 69 x4 (w 66 x4)) <| fun (u17 : WD) => J16 u17))
def fR_meets_l5 (y1 : Int) (K0 : Int → WD → Option WD) : Nat → Int → Int → WD → Option WD
  | 0 => fun _ _ _ => none
  | k + 1 => fR_meets_l5_b ( fR_meets_l5 y1 K0 k) y1 K0
set_option maxRecDepth 100000 in
set_option maxHeartbeats 4000000 in
theorem fR_meets_l5_b_ok (E : Nat × (Int → Int)) (d : Nat) {res : WD} {rec : Int → Int → WD → Option WD} (y1 : Int) (K0 : Int → WD → Option WD) (hrec : ∀ (x3 : Int) (x4 : Int) (w : WD), rec x3 x4 w = some res → G E mR_meets (d + 1) 5 [(0, pR 46), (1, pL y1), (3, pI x3), (4, pI x4)] [] w RF NN 0 0 (none, res, RF, NN)) (hK0 : ∀ (x3 : Int) (w : WD), K0 x3 w = some res → G E mR_meets (d + 1) 153 [(0, pR 46), (1, pL y1), (3, pI x3)] [] w RF NN 0 0 (none, res, RF, NN)) (x3 : Int) (x4 : Int) (w : WD) (h : fR_meets_l5_b rec y1 K0 x3 x4 w = some res) : G E mR_meets (d + 1) 5 [(0, pR 46), (1, pL y1), (3, pI x3), (4, pI x4)] [] w RF NN 0 0 (none, res, RF, NN) := by
  unfold fR_meets_l5_b at h
  refine g_iload (pc := 5) (j := 3) (dk d_mR_meets 4 rfl) rfl ?_
  refine g_aload_n (pc := 7) (j := 0) (dk d_mR_meets 5 rfl) rfl (by decide) ?_
  refine g_getI (pc := 8) fp_R_144 po_46 (dk d_mR_meets 6 rfl) ?_
  refine h_icmp_ge (pc := 11) (tgt := 153) (dk d_mR_meets 7 rfl) rfl h (fun hc19 h => ?_) (fun hc19 h => ?_)
  · refine g_pick [0, 1, 2] rfl (l' := [(0, pR 46), (1, pL y1), (3, pI x3)]) rfl ?_
    exact hK0 _ _ h
  · refine g_aload_n (pc := 14) (j := 0) (dk d_mR_meets 8 rfl) rfl (by decide) ?_
    refine g_getL (pc := 15) fp_R_271 po_46 (dk d_mR_meets 9 rfl) ?_
    refine g_lconst0 (pc := 18) (dk d_mR_meets 10 rfl) ?_
    refine jn_e (fun J => ∀ (u1 : WD), J u1 = some res → G E mR_meets (d + 1) 37 [(0, pR 46), (1, pL y1), (3, pI x3), (4, pI x4)] [] u1 RF NN 0 0 (none, res, RF, NN)) h (fun u1 h => ?_) (fun J16 hJ16 h => ?_)
    · refine g_aload_n (pc := 37) (j := 0) (dk d_mR_meets 21 rfl) rfl (by decide) ?_
      refine g_getR (pc := 38) (a := 66) rfl fp_R_72 po_46 (dk d_mR_meets 22 rfl) ?_
      refine g_iload (pc := 41) (j := 3) (dk d_mR_meets 23 rfl) rfl ?_
      refine h_iald (pc := 43) (B := 5) pa_66 rfl (dk d_mR_meets 24 rfl) h (fun h => ?_)
      refine g_aload_n (pc := 44) (j := 0) (dk d_mR_meets 25 rfl) rfl (by decide) ?_
      refine g_getR (pc := 45) (a := 69) rfl fp_R_81 po_46 (dk d_mR_meets 26 rfl) ?_
      refine g_iload (pc := 48) (j := 3) (dk d_mR_meets 27 rfl) rfl ?_
      refine h_iald (pc := 50) (B := 5) pa_69 rfl (dk d_mR_meets 28 rfl) h (fun h => ?_)
      refine jn_e (fun J => ∀ (u2 : WD), J u2 = some res → G E mR_meets (d + 1) 69 [(0, pR 46), (1, pL y1), (3, pI x3), (4, pI x4)] [] u2 RF NN 0 0 (none, res, RF, NN)) h (fun u2 h => ?_) (fun J13 hJ13 h => ?_)
      · refine g_aload_n (pc := 69) (j := 0) (dk d_mR_meets 40 rfl) rfl (by decide) ?_
        refine g_dup (pc := 70) (dk d_mR_meets 41 rfl) rfl ?_
        refine g_getI (pc := 71) fp_R_278 po_46 (dk d_mR_meets 42 rfl) ?_
        refine g_iconst (pc := 74) (dk d_mR_meets 43 rfl) (by decide) ?_
        refine g_aload_n (pc := 75) (j := 0) (dk d_mR_meets 44 rfl) rfl (by decide) ?_
        refine g_getR (pc := 76) (a := 66) rfl fp_R_72 po_46 (dk d_mR_meets 45 rfl) ?_
        refine g_iload (pc := 79) (j := 3) (dk d_mR_meets 46 rfl) rfl ?_
        refine h_iald (pc := 81) (B := 5) pa_66 rfl (dk d_mR_meets 47 rfl) h (fun h => ?_)
        refine g_ishl (pc := 82) (dk d_mR_meets 48 rfl) ?_
        refine g_iconst (pc := 83) (dk d_mR_meets 49 rfl) (by decide) ?_
        refine g_ixor (pc := 84) (dk d_mR_meets 50 rfl) ?_
        refine g_iand (pc := 85) (dk d_mR_meets 51 rfl) ?_
        refine h_putI (pc := 86) fp_R_278 po_46 (dk d_mR_meets 52 rfl) h (fun u3 h => ?_)
        refine g_aload_n (pc := 89) (j := 0) (dk d_mR_meets 53 rfl) rfl (by decide) ?_
        refine g_getR (pc := 90) (a := 68) rfl fp_R_78 po_46 (dk d_mR_meets 54 rfl) ?_
        refine g_bipush (pc := 93) (dk d_mR_meets 55 rfl) (by decide) ?_
        refine g_iload (pc := 95) (j := 3) (dk d_mR_meets 56 rfl) rfl ?_
        refine g_imul (pc := 97) (dk d_mR_meets 57 rfl) ?_
        refine g_aload_n (pc := 98) (j := 0) (dk d_mR_meets 58 rfl) rfl (by decide) ?_
        refine g_getR (pc := 99) (a := 66) rfl fp_R_72 po_46 (dk d_mR_meets 59 rfl) ?_
        refine g_iload (pc := 102) (j := 3) (dk d_mR_meets 60 rfl) rfl ?_
        refine h_iald (pc := 104) (B := 5) pa_66 rfl (dk d_mR_meets 61 rfl) h (fun h => ?_)
        refine g_iadd (pc := 105) (dk d_mR_meets 62 rfl) ?_
        refine h_bvI h (fun t4 h => ?_)
        refine g_dup2 (pc := 106) (dk d_mR_meets 63 rfl) rfl rfl ?_
        refine h_lald (pc := 107) (B := 35) pa_68 rfl (dk d_mR_meets 64 rfl) h (fun h => ?_)
        refine g_lload_n (pc := 108) (j := 1) (dk d_mR_meets 65 rfl) rfl ?_
        refine g_ladd (pc := 109) (dk d_mR_meets 66 rfl) ?_
        refine h_last (pc := 110) (B := 35) pa_68 rfl (dk d_mR_meets 67 rfl) h (fun u5 h => ?_)
        refine g_aload_n (pc := 111) (j := 0) (dk d_mR_meets 68 rfl) rfl (by decide) ?_
        refine g_getR (pc := 112) (a := 70) rfl fp_R_84 po_46 (dk d_mR_meets 69 rfl) ?_
        refine g_iload (pc := 115) (j := 3) (dk d_mR_meets 70 rfl) rfl ?_
        refine h_iald (pc := 117) (B := 5) pa_70 rfl (dk d_mR_meets 71 rfl) h (fun h => ?_)
        refine g_aload_n (pc := 118) (j := 0) (dk d_mR_meets 72 rfl) rfl (by decide) ?_
        refine g_getR (pc := 119) (a := 66) rfl fp_R_72 po_46 (dk d_mR_meets 73 rfl) ?_
        refine g_iload (pc := 122) (j := 3) (dk d_mR_meets 74 rfl) rfl ?_
        refine h_iald (pc := 124) (B := 5) pa_66 rfl (dk d_mR_meets 75 rfl) h (fun h => ?_)
        refine jn_e (fun J => ∀ (v3_6 : Int) (u7 : WD), J v3_6 u7 = some res → G E mR_meets (d + 1) 147 [(0, pR 46), (1, pL y1), (3, pI v3_6), (4, pI x4)] [] u7 RF NN 0 0 (none, res, RF, NN)) h (fun v3_6 u7 h => ?_) (fun J9 hJ9 h => ?_)
        · refine h_iinc (pc := 147) (j := 3) (dk d_mR_meets 87 rfl) rfl (by decide) (Nat.le_of_ble_eq_true rfl) h (fun v4_8 h => ?_)
          refine g_loc (l' := [(4, pI v4_8), (0, pR 46), (1, pL y1), (3, pI v3_6)]) rfl ?_
          refine g_goto (pc := 150) (tgt := 5) (dk d_mR_meets 88 rfl) rfl ?_
          refine g_pick [1, 2, 3, 0] rfl (l' := [(0, pR 46), (1, pL y1), (3, pI v3_6), (4, pI v4_8)]) rfl ?_
          exact hrec _ _ _ h
        · refine h_icmp_eq (pc := 125) (tgt := 131) (dk d_mR_meets 76 rfl) rfl h (fun hc12 h => ?_) (fun hc12 h => ?_)
          · refine h_iinc (pc := 131) (j := 2) (dk d_mR_meets 78 rfl) rfl (by decide) (Nat.le_of_ble_eq_true rfl) h (fun v3_10 h => ?_)
            refine g_loc (l' := [(3, pI v3_10), (0, pR 46), (1, pL y1), (4, pI x4)]) rfl ?_
            refine g_aload_n (pc := 134) (j := 1) (dk d_mR_meets 79 rfl) rfl (by decide) ?_
            refine g_dup (pc := 135) (dk d_mR_meets 80 rfl) rfl ?_
            refine g_getI (pc := 136) fp_R_281 po_46 (dk d_mR_meets 81 rfl) ?_
            refine g_iconst (pc := 139) (dk d_mR_meets 82 rfl) (by decide) ?_
            refine g_iload (pc := 140) (j := 3) (dk d_mR_meets 83 rfl) rfl ?_
            refine g_ishl (pc := 142) (dk d_mR_meets 84 rfl) ?_
            refine g_ior (pc := 143) (dk d_mR_meets 85 rfl) ?_
            refine h_putI (pc := 144) fp_R_281 po_46 (dk d_mR_meets 86 rfl) h (fun u11 h => ?_)
            refine g_pick [1, 2, 0, 3] rfl (l' := [(0, pR 46), (1, pL y1), (3, pI v3_10), (4, pI x4)]) rfl ?_
            exact hJ9 _ _ h
          · refine g_goto (pc := 128) (tgt := 147) (dk d_mR_meets 77 rfl) rfl ?_
            exact hJ9 _ _ h
      · refine h_icmp_eq (pc := 51) (tgt := 69) (dk d_mR_meets 29 rfl) rfl h (fun hc15 h => ?_) (fun hc15 h => ?_)
        · exact hJ13 _ h
        · refine g_aload_n (pc := 54) (j := 0) (dk d_mR_meets 30 rfl) rfl (by decide) ?_
          refine g_dup (pc := 55) (dk d_mR_meets 31 rfl) rfl ?_
          refine g_getI (pc := 56) fp_R_275 po_46 (dk d_mR_meets 32 rfl) ?_
          refine g_iconst (pc := 59) (dk d_mR_meets 33 rfl) (by decide) ?_
          refine g_iload (pc := 60) (j := 3) (dk d_mR_meets 34 rfl) rfl ?_
          refine g_ishl (pc := 62) (dk d_mR_meets 35 rfl) ?_
          refine g_iconst (pc := 63) (dk d_mR_meets 36 rfl) (by decide) ?_
          refine g_ixor (pc := 64) (dk d_mR_meets 37 rfl) ?_
          refine g_iand (pc := 65) (dk d_mR_meets 38 rfl) ?_
          refine h_putI (pc := 66) fp_R_275 po_46 (dk d_mR_meets 39 rfl) h (fun u14 h => ?_)
          exact hJ13 _ h
    · refine h_lcmp_ne (pc := 19) (tgt := 37) (dk d_mR_meets 11 rfl) (dk d_mR_meets 12 rfl) rfl h (fun hc18 h => ?_) (fun hc18 h => ?_)
      · exact hJ16 _ h
      · refine g_aload_n (pc := 23) (j := 0) (dk d_mR_meets 13 rfl) rfl (by decide) ?_
        refine g_getR (pc := 24) (a := 69) rfl fp_R_81 po_46 (dk d_mR_meets 14 rfl) ?_
        refine g_iload (pc := 27) (j := 3) (dk d_mR_meets 15 rfl) rfl ?_
        refine g_aload_n (pc := 29) (j := 0) (dk d_mR_meets 16 rfl) rfl (by decide) ?_
        refine g_getR (pc := 30) (a := 66) rfl fp_R_72 po_46 (dk d_mR_meets 17 rfl) ?_
        refine g_iload (pc := 33) (j := 3) (dk d_mR_meets 18 rfl) rfl ?_
        refine h_iald (pc := 35) (B := 5) pa_66 rfl (dk d_mR_meets 19 rfl) h (fun h => ?_)
        refine h_iast (pc := 36) (B := 5) pa_69 rfl (dk d_mR_meets 20 rfl) h (fun u17 h => ?_)
        exact hJ16 _ h
set_option maxRecDepth 100000 in
set_option maxHeartbeats 4000000 in
theorem fR_meets_l5_ok (E : Nat × (Int → Int)) (d : Nat) {res : WD} (y1 : Int) (K0 : Int → WD → Option WD) (hK0 : ∀ (x3 : Int) (w : WD), K0 x3 w = some res → G E mR_meets (d + 1) 153 [(0, pR 46), (1, pL y1), (3, pI x3)] [] w RF NN 0 0 (none, res, RF, NN)) : ∀ (k : Nat) (x3 : Int) (x4 : Int) (w : WD), fR_meets_l5 y1 K0 k x3 x4 w = some res → G E mR_meets (d + 1) 5 [(0, pR 46), (1, pL y1), (3, pI x3), (4, pI x4)] [] w RF NN 0 0 (none, res, RF, NN) := by
  intro k
  induction k with
  | zero =>
    intro x3 x4 w h
    exact no_e h
  | succ k ih =>
    intro x3 x4 w h
    exact fR_meets_l5_b_ok E d y1 K0 ih hK0 x3 x4 w h
def fR_meets_l183_b (rec : Int → WD → Option WD) (y1 : Int) (K0 : WD → Option WD) (x4 : Int) (w : WD) : Option WD := if (w 46 4) ≤ x4 then (K0 w) else (ck (0 ≤ x4 ∧ x4 < 5) <| ck (0 ≤ x4 ∧ x4 < 5) <| bw (up w 67 x4 (w 66 x4)) <| fun (u28 : WD) => bv (w32 (x4 + 1)) <| fun (v4_29 : Int) => rec v4_29 u28)
def fR_meets_l183 (y1 : Int) (K0 : WD → Option WD) : Nat → Int → WD → Option WD
  | 0 => fun _ _ => none
  | k + 1 => fR_meets_l183_b ( fR_meets_l183 y1 K0 k) y1 K0
set_option maxRecDepth 100000 in
set_option maxHeartbeats 4000000 in
theorem fR_meets_l183_b_ok (E : Nat × (Int → Int)) (d : Nat) {res : WD} {rec : Int → WD → Option WD} (y1 : Int) (K0 : WD → Option WD) (hrec : ∀ (x4 : Int) (w : WD), rec x4 w = some res → G E mR_meets (d + 1) 183 [(0, pR 46), (1, pL y1), (4, pI x4)] [] w RF NN 0 0 (none, res, RF, NN)) (hK0 : ∀ (w : WD), K0 w = some res → G E mR_meets (d + 1) 212 [(0, pR 46), (1, pL y1)] [] w RF NN 0 0 (none, res, RF, NN)) (x4 : Int) (w : WD) (h : fR_meets_l183_b rec y1 K0 x4 w = some res) : G E mR_meets (d + 1) 183 [(0, pR 46), (1, pL y1), (4, pI x4)] [] w RF NN 0 0 (none, res, RF, NN) := by
  unfold fR_meets_l183_b at h
  refine g_iload (pc := 183) (j := 2) (dk d_mR_meets 106 rfl) rfl ?_
  refine g_aload_n (pc := 185) (j := 0) (dk d_mR_meets 107 rfl) rfl (by decide) ?_
  refine g_getI (pc := 186) fp_R_144 po_46 (dk d_mR_meets 108 rfl) ?_
  refine h_icmp_ge (pc := 189) (tgt := 212) (dk d_mR_meets 109 rfl) rfl h (fun hc30 h => ?_) (fun hc30 h => ?_)
  · refine g_pick [0, 1] rfl (l' := [(0, pR 46), (1, pL y1)]) rfl ?_
    exact hK0 _ h
  · refine g_aload_n (pc := 192) (j := 0) (dk d_mR_meets 110 rfl) rfl (by decide) ?_
    refine g_getR (pc := 193) (a := 67) rfl fp_R_75 po_46 (dk d_mR_meets 111 rfl) ?_
    refine g_iload (pc := 196) (j := 2) (dk d_mR_meets 112 rfl) rfl ?_
    refine g_aload_n (pc := 198) (j := 0) (dk d_mR_meets 113 rfl) rfl (by decide) ?_
    refine g_getR (pc := 199) (a := 66) rfl fp_R_72 po_46 (dk d_mR_meets 114 rfl) ?_
    refine g_iload (pc := 202) (j := 2) (dk d_mR_meets 115 rfl) rfl ?_
    refine h_iald (pc := 204) (B := 5) pa_66 rfl (dk d_mR_meets 116 rfl) h (fun h => ?_)
    refine h_iast (pc := 205) (B := 5) pa_67 rfl (dk d_mR_meets 117 rfl) h (fun u28 h => ?_)
    refine h_iinc (pc := 206) (j := 2) (dk d_mR_meets 118 rfl) rfl (by decide) (Nat.le_of_ble_eq_true rfl) h (fun v4_29 h => ?_)
    refine g_loc (l' := [(4, pI v4_29), (0, pR 46), (1, pL y1)]) rfl ?_
    refine g_goto (pc := 209) (tgt := 183) (dk d_mR_meets 119 rfl) rfl ?_
    refine g_pick [1, 2, 0] rfl (l' := [(0, pR 46), (1, pL y1), (4, pI v4_29)]) rfl ?_
    exact hrec _ _ h
set_option maxRecDepth 100000 in
set_option maxHeartbeats 4000000 in
theorem fR_meets_l183_ok (E : Nat × (Int → Int)) (d : Nat) {res : WD} (y1 : Int) (K0 : WD → Option WD) (hK0 : ∀ (w : WD), K0 w = some res → G E mR_meets (d + 1) 212 [(0, pR 46), (1, pL y1)] [] w RF NN 0 0 (none, res, RF, NN)) : ∀ (k : Nat) (x4 : Int) (w : WD), fR_meets_l183 y1 K0 k x4 w = some res → G E mR_meets (d + 1) 183 [(0, pR 46), (1, pL y1), (4, pI x4)] [] w RF NN 0 0 (none, res, RF, NN) := by
  intro k
  induction k with
  | zero =>
    intro x4 w h
    exact no_e h
  | succ k ih =>
    intro x4 w h
    exact fR_meets_l183_b_ok E d y1 K0 ih hK0 x4 w h
def fR_meets (a1 : Int) (w : WD) : Option WD := fR_meets_l5 a1 (fun (v3_20 : Int) (u21 : WD) => jn (β := WD → Option WD) (fun (u22 : WD) => jn (β := WD → Option WD) (fun (u23 : WD) => bw (up u23 46 31 (w64 ((u23 46 31) + 1))) <| fun (u24 : WD) => bw (up u24 46 32 (w64 ((u24 46 32) + a1))) <| fun (u25 : WD) => some u25) <| fun J26 => if a1 ≤ (u22 46 33) then (J26 u22) else (bw (up u22 46 33 a1) <| fun (u27 : WD) => fR_meets_l183 a1 (fun (u31 : WD) => J26 u31) FU 0 u27)) <| fun J33 => if v3_20 ≤ (u21 46 40) then (J33 u21) else (bw (up u21 46 40 v3_20) <| fun (u34 : WD) => J33 u34)) FU 0 0 w
set_option maxRecDepth 100000 in
set_option maxHeartbeats 4000000 in
theorem gR_meets (E : Nat × (Int → Int)) (d : Nat) {res : WD} (a1 : Int) (w : WD) (h : fR_meets a1 w = some res) : G E mR_meets (d + 1) 0 [(0, pR 46), (1, pL a1)] [] w RF NN 0 0 (none, res, RF, NN) := by
  unfold fR_meets at h
  refine g_iconst (pc := 0) (dk d_mR_meets 0 rfl) (by decide) ?_
  refine g_istore_n (pc := 1) (l' := [(3, pI 0), (0, pR 46), (1, pL a1)]) (dk d_mR_meets 1 rfl) (Nat.le_of_ble_eq_true rfl) rfl ?_
  refine g_iconst (pc := 2) (dk d_mR_meets 2 rfl) (by decide) ?_
  refine g_istore (pc := 3) (l' := [(4, pI 0), (3, pI 0), (0, pR 46), (1, pL a1)]) (dk d_mR_meets 3 rfl) (Nat.le_of_ble_eq_true rfl) rfl ?_
  refine g_pick [2, 3, 1, 0] rfl (l' := [(0, pR 46), (1, pL a1), (3, pI 0), (4, pI 0)]) rfl ?_
  refine fR_meets_l5_ok E d a1 _  (fun v3_20 u21 h => ?_) FU _ _  _ h
  · refine g_iload_n (pc := 153) (j := 2) (dk d_mR_meets 89 rfl) rfl ?_
    refine g_aload_n (pc := 154) (j := 0) (dk d_mR_meets 90 rfl) rfl (by decide) ?_
    refine g_getI (pc := 155) fp_R_284 po_46 (dk d_mR_meets 91 rfl) ?_
    refine jn_e (fun J => ∀ (u22 : WD), J u22 = some res → G E mR_meets (d + 1) 166 [(0, pR 46), (1, pL a1)] [] u22 RF NN 0 0 (none, res, RF, NN)) h (fun u22 h => ?_) (fun J33 hJ33 h => ?_)
    · refine g_lload_n (pc := 166) (j := 1) (dk d_mR_meets 96 rfl) rfl ?_
      refine g_aload_n (pc := 167) (j := 0) (dk d_mR_meets 97 rfl) rfl (by decide) ?_
      refine g_getL (pc := 168) fp_R_287 po_46 (dk d_mR_meets 98 rfl) ?_
      refine jn_e (fun J => ∀ (u23 : WD), J u23 = some res → G E mR_meets (d + 1) 212 [(0, pR 46), (1, pL a1)] [] u23 RF NN 0 0 (none, res, RF, NN)) h (fun u23 h => ?_) (fun J26 hJ26 h => ?_)
      · refine g_aload_n (pc := 212) (j := 0) (dk d_mR_meets_1 0 rfl) rfl (by decide) ?_
        refine g_dup (pc := 213) (dk d_mR_meets_1 1 rfl) rfl ?_
        refine g_getL (pc := 214) fp_R_271 po_46 (dk d_mR_meets_1 2 rfl) ?_
        refine g_lconst1 (pc := 217) (dk d_mR_meets_1 3 rfl) ?_
        refine g_ladd (pc := 218) (dk d_mR_meets_1 4 rfl) ?_
        refine h_putL (pc := 219) fp_R_271 po_46 (dk d_mR_meets_1 5 rfl) h (fun u24 h => ?_)
        refine g_aload_n (pc := 222) (j := 0) (dk d_mR_meets_1 6 rfl) rfl (by decide) ?_
        refine g_dup (pc := 223) (dk d_mR_meets_1 7 rfl) rfl ?_
        refine g_getL (pc := 224) fp_R_290 po_46 (dk d_mR_meets_1 8 rfl) ?_
        refine g_lload_n (pc := 227) (j := 1) (dk d_mR_meets_1 9 rfl) rfl ?_
        refine g_ladd (pc := 228) (dk d_mR_meets_1 10 rfl) ?_
        refine h_putL (pc := 229) fp_R_290 po_46 (dk d_mR_meets_1 11 rfl) h (fun u25 h => ?_)
        exact h_vret (pc := 232) (dk d_mR_meets_1 12 rfl) h
      · refine h_lcmp_le (pc := 171) (tgt := 212) (dk d_mR_meets 99 rfl) (dk d_mR_meets 100 rfl) rfl h (fun hc32 h => ?_) (fun hc32 h => ?_)
        · exact hJ26 _ h
        · refine g_aload_n (pc := 175) (j := 0) (dk d_mR_meets 101 rfl) rfl (by decide) ?_
          refine g_lload_n (pc := 176) (j := 1) (dk d_mR_meets 102 rfl) rfl ?_
          refine h_putL (pc := 177) fp_R_287 po_46 (dk d_mR_meets 103 rfl) h (fun u27 h => ?_)
          refine g_iconst (pc := 180) (dk d_mR_meets 104 rfl) (by decide) ?_
          refine g_istore (pc := 181) (l' := [(4, pI 0), (0, pR 46), (1, pL a1)]) (dk d_mR_meets 105 rfl) (Nat.le_of_ble_eq_true rfl) rfl ?_
          refine g_pick [1, 2, 0] rfl (l' := [(0, pR 46), (1, pL a1), (4, pI 0)]) rfl ?_
          refine fR_meets_l183_ok E d a1 _  (fun u31 h => ?_) FU _  _ h
          · exact hJ26 _ h
    · refine h_icmp_le (pc := 158) (tgt := 166) (dk d_mR_meets 92 rfl) rfl h (fun hc35 h => ?_) (fun hc35 h => ?_)
      · refine g_pick [0, 1] rfl (l' := [(0, pR 46), (1, pL a1)]) rfl ?_
        exact hJ33 _ h
      · refine g_aload_n (pc := 161) (j := 0) (dk d_mR_meets 93 rfl) rfl (by decide) ?_
        refine g_iload_n (pc := 162) (j := 2) (dk d_mR_meets 94 rfl) rfl ?_
        refine h_putI (pc := 163) fp_R_284 po_46 (dk d_mR_meets 95 rfl) h (fun u34 h => ?_)
        refine g_pick [0, 1] rfl (l' := [(0, pR 46), (1, pL a1)]) rfl ?_
        exact hJ33 _ h
set_option maxRecDepth 100000 in
set_option maxHeartbeats 4000000 in
theorem kR_meets (E : Nat × (Int → Int)) (d : Nat) {a1 : Int} {w w1 : WD} (h : fR_meets a1 w = some w1) : CTv E mR_meets (d + 1) [pR 46, pL a1] w RF NN w1 RF NN := by
  exact CTv_of (by decide +kernel) (Nat.le_of_ble_eq_true rfl) rfl (gR_meets (res := w1) E d a1 w h)
def fR_goWays_o_l18_b (rec : Int → WD → Option WD) (o_goWays : Int → Int → Int → Int → WD → Option WD) (y1 : Int) (y2 : Int) (y3 : Int) (y4 : Int) (x6 : Int) (w : WD) : Option WD := if 6 < x6 then (some w) else (ck (0 ≤ (w32 ((w32 (7 * y1)) + x6)) ∧ (w32 ((w32 (7 * y1)) + x6)) < 35) <| jn (β := WD → Option WD) (fun (u1 : WD) => bv (w32 (x6 + 1)) <| fun (v6_2 : Int) => rec v6_2 u1) <| fun J3 => if (w 65 (w32 ((w32 (7 * y1)) + x6))) = 0 then (J3 w) else (jn (β := WD → Option WD) (fun (u4 : WD) => jn (β := WD → Option WD) (fun (u5 : WD) => ck (0 ≤ y1 ∧ y1 < 5) <| bw (up u5 66 y1 x6) <| fun (u6 : WD) => jn (β := Int → WD → Option WD) (fun (s7 : Int) (u8 : WD) => ck (0 ≤ (w32 ((w32 (7 * y1)) + x6)) ∧ (w32 ((w32 (7 * y1)) + x6)) < 35) <| cv (o_goWays (w32 (y1 + 1)) (bOr y2 (bShl 1 x6)) s7 (w64 (y4 * (u8 65 (w32 ((w32 (7 * y1)) + x6))))) u8) <| fun (u9 : WD) => J3 u9) <| fun J10 => if x6 ≠ 6 then (J10 y3 u6) else (J10 (w32 (y3 + 1)) u6)) <| fun J12 => if x6 ≠ 6 then (J12 u4) else (if y3 ≠ (u4 52 0) then (J12 u4) else (J3 u4))) <| fun J15 => if 6 ≤ x6 then (J15 w) else (if (bAnd (bShr y2 x6) 1) = 1 then (J3 w) else (J15 w))))
def fR_goWays_o_l18 (o_goWays : Int → Int → Int → Int → WD → Option WD) (y1 : Int) (y2 : Int) (y3 : Int) (y4 : Int) : Nat → Int → WD → Option WD
  | 0 => fun _ _ => none
  | k + 1 => fR_goWays_o_l18_b ( fR_goWays_o_l18 o_goWays y1 y2 y3 y4 k) o_goWays y1 y2 y3 y4
set_option maxRecDepth 100000 in
set_option maxHeartbeats 4000000 in
theorem fR_goWays_o_l18_b_ok (E : Nat × (Int → Int)) (d : Nat) {res : WD} {rec : Int → WD → Option WD} (o_goWays : Int → Int → Int → Int → WD → Option WD) (hO_R_goWays : ∀ {a0 : Int} {a1 : Int} {a2 : Int} {a3 : Int} {w w1 : WD}, o_goWays a0 a1 a2 a3 w = some w1 → CTv E mR_goWays (d + 2) [pR 46, pI a0, pI a1, pI a2, pL a3] w RF NN w1 RF NN) (y1 : Int) (y2 : Int) (y3 : Int) (y4 : Int) (hrec : ∀ (x6 : Int) (w : WD), rec x6 w = some res → G E mR_goWays (d + 3) 18 [(0, pR 46), (1, pI y1), (2, pI y2), (3, pI y3), (4, pL y4), (6, pI x6)] [] w RF NN 0 0 (none, res, RF, NN)) (x6 : Int) (w : WD) (h : fR_goWays_o_l18_b rec o_goWays y1 y2 y3 y4 x6 w = some res) : G E mR_goWays (d + 3) 18 [(0, pR 46), (1, pI y1), (2, pI y2), (3, pI y3), (4, pL y4), (6, pI x6)] [] w RF NN 0 0 (none, res, RF, NN) := by
  unfold fR_goWays_o_l18_b at h
  refine g_iload (pc := 18) (j := 5) (dk d_mR_goWays 10 rfl) rfl ?_
  refine g_bipush (pc := 20) (dk d_mR_goWays 11 rfl) (by decide) ?_
  refine h_icmp_gt (pc := 22) (tgt := 135) (dk d_mR_goWays 12 rfl) rfl h (fun hc19 h => ?_) (fun hc19 h => ?_)
  · exact h_vret (pc := 135) (dk d_mR_goWays 79 rfl) h
  · refine g_aload_n (pc := 25) (j := 0) (dk d_mR_goWays 13 rfl) rfl (by decide) ?_
    refine g_getR (pc := 26) (a := 65) rfl fp_R_68 po_46 (dk d_mR_goWays 14 rfl) ?_
    refine g_bipush (pc := 29) (dk d_mR_goWays 15 rfl) (by decide) ?_
    refine g_iload_n (pc := 31) (j := 1) (dk d_mR_goWays 16 rfl) rfl ?_
    refine g_imul (pc := 32) (dk d_mR_goWays 17 rfl) ?_
    refine g_iload (pc := 33) (j := 5) (dk d_mR_goWays 18 rfl) rfl ?_
    refine g_iadd (pc := 35) (dk d_mR_goWays 19 rfl) ?_
    refine h_lald (pc := 36) (B := 35) pa_65 rfl (dk d_mR_goWays 20 rfl) h (fun h => ?_)
    refine g_lconst0 (pc := 37) (dk d_mR_goWays 21 rfl) ?_
    refine jn_e (fun J => ∀ (u1 : WD), J u1 = some res → G E mR_goWays (d + 3) 129 [(0, pR 46), (1, pI y1), (2, pI y2), (3, pI y3), (4, pL y4), (6, pI x6)] [] u1 RF NN 0 0 (none, res, RF, NN)) h (fun u1 h => ?_) (fun J3 hJ3 h => ?_)
    · refine h_iinc (pc := 129) (j := 5) (dk d_mR_goWays 77 rfl) rfl (by decide) (Nat.le_of_ble_eq_true rfl) h (fun v6_2 h => ?_)
      refine g_loc (l' := [(6, pI v6_2), (0, pR 46), (1, pI y1), (2, pI y2), (3, pI y3), (4, pL y4)]) rfl ?_
      refine g_goto (pc := 132) (tgt := 18) (dk d_mR_goWays 78 rfl) rfl ?_
      refine g_pick [1, 2, 3, 4, 5, 0] rfl (l' := [(0, pR 46), (1, pI y1), (2, pI y2), (3, pI y3), (4, pL y4), (6, pI v6_2)]) rfl ?_
      exact hrec _ _ h
    · refine h_lcmp_eq (pc := 38) (tgt := 129) (dk d_mR_goWays 22 rfl) (dk d_mR_goWays 23 rfl) rfl h (fun hc18 h => ?_) (fun hc18 h => ?_)
      · exact hJ3 _ h
      · refine g_iload (pc := 42) (j := 5) (dk d_mR_goWays 24 rfl) rfl ?_
        refine g_bipush (pc := 44) (dk d_mR_goWays 25 rfl) (by decide) ?_
        refine jn_e (fun J => ∀ (u4 : WD), J u4 = some res → G E mR_goWays (d + 3) 59 [(0, pR 46), (1, pI y1), (2, pI y2), (3, pI y3), (4, pL y4), (6, pI x6)] [] u4 RF NN 0 0 (none, res, RF, NN)) h (fun u4 h => ?_) (fun J15 hJ15 h => ?_)
        · refine g_iload (pc := 59) (j := 5) (dk d_mR_goWays 34 rfl) rfl ?_
          refine g_bipush (pc := 61) (dk d_mR_goWays 35 rfl) (by decide) ?_
          refine jn_e (fun J => ∀ (u5 : WD), J u5 = some res → G E mR_goWays (d + 3) 79 [(0, pR 46), (1, pI y1), (2, pI y2), (3, pI y3), (4, pL y4), (6, pI x6)] [] u5 RF NN 0 0 (none, res, RF, NN)) h (fun u5 h => ?_) (fun J12 hJ12 h => ?_)
          · refine g_aload_n (pc := 79) (j := 0) (dk d_mR_goWays 44 rfl) rfl (by decide) ?_
            refine g_getR (pc := 80) (a := 66) rfl fp_R_72 po_46 (dk d_mR_goWays 45 rfl) ?_
            refine g_iload_n (pc := 83) (j := 1) (dk d_mR_goWays 46 rfl) rfl ?_
            refine g_iload (pc := 84) (j := 5) (dk d_mR_goWays 47 rfl) rfl ?_
            refine h_iast (pc := 86) (B := 5) pa_66 rfl (dk d_mR_goWays 48 rfl) h (fun u6 h => ?_)
            refine g_aload_n (pc := 87) (j := 0) (dk d_mR_goWays 49 rfl) rfl (by decide) ?_
            refine g_iload_n (pc := 88) (j := 1) (dk d_mR_goWays 50 rfl) rfl ?_
            refine g_iconst (pc := 89) (dk d_mR_goWays 51 rfl) (by decide) ?_
            refine g_iadd (pc := 90) (dk d_mR_goWays 52 rfl) ?_
            refine g_iload_n (pc := 91) (j := 2) (dk d_mR_goWays 53 rfl) rfl ?_
            refine g_iconst (pc := 92) (dk d_mR_goWays 54 rfl) (by decide) ?_
            refine g_iload (pc := 93) (j := 5) (dk d_mR_goWays 55 rfl) rfl ?_
            refine g_ishl (pc := 95) (dk d_mR_goWays 56 rfl) ?_
            refine g_ior (pc := 96) (dk d_mR_goWays 57 rfl) ?_
            refine g_iload (pc := 97) (j := 5) (dk d_mR_goWays 58 rfl) rfl ?_
            refine g_bipush (pc := 99) (dk d_mR_goWays 59 rfl) (by decide) ?_
            refine jn_e (fun J => ∀ (s7 : Int) (u8 : WD), J s7 u8 = some res → G E mR_goWays (d + 3) 111 [(0, pR 46), (1, pI y1), (2, pI y2), (3, pI y3), (4, pL y4), (6, pI x6)] [pI s7, pI (bOr y2 (bShl 1 x6)), pI (w32 (y1 + 1)), pR 46] u8 RF NN 0 0 (none, res, RF, NN)) h (fun s7 u8 h => ?_) (fun J10 hJ10 h => ?_)
            · refine g_lload (pc := 111) (j := 4) (dk d_mR_goWays 66 rfl) rfl ?_
              refine g_aload_n (pc := 113) (j := 0) (dk d_mR_goWays 67 rfl) rfl (by decide) ?_
              refine g_getR (pc := 114) (a := 65) rfl fp_R_68 po_46 (dk d_mR_goWays 68 rfl) ?_
              refine g_bipush (pc := 117) (dk d_mR_goWays 69 rfl) (by decide) ?_
              refine g_iload_n (pc := 119) (j := 1) (dk d_mR_goWays 70 rfl) rfl ?_
              refine g_imul (pc := 120) (dk d_mR_goWays 71 rfl) ?_
              refine g_iload (pc := 121) (j := 5) (dk d_mR_goWays 72 rfl) rfl ?_
              refine g_iadd (pc := 123) (dk d_mR_goWays 73 rfl) ?_
              refine h_lald (pc := 124) (B := 35) pa_65 rfl (dk d_mR_goWays 74 rfl) h (fun h => ?_)
              refine g_lmul (pc := 125) (dk d_mR_goWays 75 rfl) ?_
              refine h_callVv (d := d + 2) (pc := 126) (na := 4) (av := [pI (w32 (y1 + 1)), pI (bOr y2 (bShl 1 x6)), pI s7, pL (w64 (y4 * (u8 65 (w32 ((w32 (7 * y1)) + x6)))))]) (k0 := 46) po_46 ⟨_, rfl⟩ ⟨rfl, rfl⟩ (dk d_mR_goWays 76 rfl) lk_R_297 vm_mR_goWays rfl rfl (Nat.le_of_ble_eq_true rfl) h (fun u9 hq => hO_R_goWays hq) (fun u9 h => ?_)
              exact hJ3 _ h
            · refine h_icmp_ne (pc := 101) (tgt := 110) (dk d_mR_goWays 60 rfl) rfl h (fun hc11 h => ?_) (fun hc11 h => ?_)
              · refine g_iload_n (pc := 110) (j := 3) (dk d_mR_goWays 65 rfl) rfl ?_
                exact hJ10 _ _ h
              · refine g_iload_n (pc := 104) (j := 3) (dk d_mR_goWays 61 rfl) rfl ?_
                refine g_iconst (pc := 105) (dk d_mR_goWays 62 rfl) (by decide) ?_
                refine g_iadd (pc := 106) (dk d_mR_goWays 63 rfl) ?_
                refine g_goto (pc := 107) (tgt := 111) (dk d_mR_goWays 64 rfl) rfl ?_
                exact hJ10 _ _ h
          · refine h_icmp_ne (pc := 63) (tgt := 79) (dk d_mR_goWays 36 rfl) rfl h (fun hc14 h => ?_) (fun hc14 h => ?_)
            · exact hJ12 _ h
            · refine g_iload_n (pc := 66) (j := 3) (dk d_mR_goWays 37 rfl) rfl ?_
              refine g_aload_n (pc := 67) (j := 0) (dk d_mR_goWays 38 rfl) rfl (by decide) ?_
              refine g_getR (pc := 68) (a := 52) rfl fp_R_27 po_46 (dk d_mR_goWays 39 rfl) ?_
              refine g_iconst (pc := 71) (dk d_mR_goWays 40 rfl) (by decide) ?_
              refine g_iald (pc := 72) pa_52 (dk d_mR_goWays 41 rfl) (by decide) ?_
              refine h_icmp_ne (pc := 73) (tgt := 79) (dk d_mR_goWays 42 rfl) rfl h (fun hc13 h => ?_) (fun hc13 h => ?_)
              · exact hJ12 _ h
              · refine g_goto (pc := 76) (tgt := 129) (dk d_mR_goWays 43 rfl) rfl ?_
                exact hJ3 _ h
        · refine h_icmp_ge (pc := 46) (tgt := 59) (dk d_mR_goWays 26 rfl) rfl h (fun hc17 h => ?_) (fun hc17 h => ?_)
          · exact hJ15 _ h
          · refine g_iload_n (pc := 49) (j := 2) (dk d_mR_goWays 27 rfl) rfl ?_
            refine g_iload (pc := 50) (j := 5) (dk d_mR_goWays 28 rfl) rfl ?_
            refine g_ishr (pc := 52) (dk d_mR_goWays 29 rfl) ?_
            refine g_iconst (pc := 53) (dk d_mR_goWays 30 rfl) (by decide) ?_
            refine g_iand (pc := 54) (dk d_mR_goWays 31 rfl) ?_
            refine g_iconst (pc := 55) (dk d_mR_goWays 32 rfl) (by decide) ?_
            refine h_icmp_eq (pc := 56) (tgt := 129) (dk d_mR_goWays 33 rfl) rfl h (fun hc16 h => ?_) (fun hc16 h => ?_)
            · exact hJ3 _ h
            · exact hJ15 _ h
set_option maxRecDepth 100000 in
set_option maxHeartbeats 4000000 in
theorem fR_goWays_o_l18_ok (E : Nat × (Int → Int)) (d : Nat) {res : WD} (o_goWays : Int → Int → Int → Int → WD → Option WD) (hO_R_goWays : ∀ {a0 : Int} {a1 : Int} {a2 : Int} {a3 : Int} {w w1 : WD}, o_goWays a0 a1 a2 a3 w = some w1 → CTv E mR_goWays (d + 2) [pR 46, pI a0, pI a1, pI a2, pL a3] w RF NN w1 RF NN) (y1 : Int) (y2 : Int) (y3 : Int) (y4 : Int) : ∀ (k : Nat) (x6 : Int) (w : WD), fR_goWays_o_l18 o_goWays y1 y2 y3 y4 k x6 w = some res → G E mR_goWays (d + 3) 18 [(0, pR 46), (1, pI y1), (2, pI y2), (3, pI y3), (4, pL y4), (6, pI x6)] [] w RF NN 0 0 (none, res, RF, NN) := by
  intro k
  induction k with
  | zero =>
    intro x6 w h
    exact no_e h
  | succ k ih =>
    intro x6 w h
    exact fR_goWays_o_l18_b_ok E d o_goWays hO_R_goWays y1 y2 y3 y4 ih x6 w h
def fR_goWays_o (o_goWays : Int → Int → Int → Int → WD → Option WD) (a1 : Int) (a2 : Int) (a3 : Int) (a4 : Int) (w : WD) : Option WD := if a1 ≠ (w 46 4) then (fR_goWays_o_l18 o_goWays a1 a2 a3 a4 FU 0 w) else (cv (fR_meets a4 w) <| fun (u20 : WD) => some u20)
set_option maxRecDepth 100000 in
set_option maxHeartbeats 4000000 in
theorem gR_goWays_o (E : Nat × (Int → Int)) (d : Nat) {res : WD} (o_goWays : Int → Int → Int → Int → WD → Option WD) (hO_R_goWays : ∀ {a0 : Int} {a1 : Int} {a2 : Int} {a3 : Int} {w w1 : WD}, o_goWays a0 a1 a2 a3 w = some w1 → CTv E mR_goWays (d + 2) [pR 46, pI a0, pI a1, pI a2, pL a3] w RF NN w1 RF NN) (a1 : Int) (a2 : Int) (a3 : Int) (a4 : Int) (w : WD) (h : fR_goWays_o o_goWays a1 a2 a3 a4 w = some res) : G E mR_goWays (d + 3) 0 [(0, pR 46), (1, pI a1), (2, pI a2), (3, pI a3), (4, pL a4)] [] w RF NN 0 0 (none, res, RF, NN) := by
  unfold fR_goWays_o at h
  refine g_iload_n (pc := 0) (j := 1) (dk d_mR_goWays 0 rfl) rfl ?_
  refine g_aload_n (pc := 1) (j := 0) (dk d_mR_goWays 1 rfl) rfl (by decide) ?_
  refine g_getI (pc := 2) fp_R_144 po_46 (dk d_mR_goWays 2 rfl) ?_
  refine h_icmp_ne (pc := 5) (tgt := 15) (dk d_mR_goWays 3 rfl) rfl h (fun hc21 h => ?_) (fun hc21 h => ?_)
  · refine g_iconst (pc := 15) (dk d_mR_goWays 8 rfl) (by decide) ?_
    refine g_istore (pc := 16) (l' := [(6, pI 0), (0, pR 46), (1, pI a1), (2, pI a2), (3, pI a3), (4, pL a4)]) (dk d_mR_goWays 9 rfl) (Nat.le_of_ble_eq_true rfl) rfl ?_
    refine g_pick [1, 2, 3, 4, 5, 0] rfl (l' := [(0, pR 46), (1, pI a1), (2, pI a2), (3, pI a3), (4, pL a4), (6, pI 0)]) rfl ?_
    refine fR_goWays_o_l18_ok E d o_goWays hO_R_goWays a1 a2 a3 a4 FU _  _ h
  · refine g_aload_n (pc := 8) (j := 0) (dk d_mR_goWays 4 rfl) rfl (by decide) ?_
    refine g_lload (pc := 9) (j := 4) (dk d_mR_goWays 5 rfl) rfl ?_
    refine h_callVv (d := d + 2) (pc := 11) (na := 1) (av := [pL a4]) (k0 := 46) po_46 ⟨_, rfl⟩ ⟨rfl, rfl⟩ (dk d_mR_goWays 6 rfl) lk_R_293 vm_mR_meets rfl rfl (Nat.le_of_ble_eq_true rfl) h (fun u20 hq => kR_meets E (d + 1) hq) (fun u20 h => ?_)
    exact h_vret (pc := 14) (dk d_mR_goWays 7 rfl) h
set_option maxRecDepth 100000 in
set_option maxHeartbeats 4000000 in
theorem kR_goWays_o (E : Nat × (Int → Int)) (d : Nat) (o_goWays : Int → Int → Int → Int → WD → Option WD) (hO_R_goWays : ∀ {a0 : Int} {a1 : Int} {a2 : Int} {a3 : Int} {w w1 : WD}, o_goWays a0 a1 a2 a3 w = some w1 → CTv E mR_goWays (d + 2) [pR 46, pI a0, pI a1, pI a2, pL a3] w RF NN w1 RF NN) {a1 : Int} {a2 : Int} {a3 : Int} {a4 : Int} {w w1 : WD} (h : fR_goWays_o o_goWays a1 a2 a3 a4 w = some w1) : CTv E mR_goWays (d + 3) [pR 46, pI a1, pI a2, pI a3, pL a4] w RF NN w1 RF NN := by
  exact CTv_of (by decide +kernel) (Nat.le_of_ble_eq_true rfl) rfl (gR_goWays_o (res := w1) E d o_goWays hO_R_goWays a1 a2 a3 a4 w h)
def FR_goWays : Nat → (Int → Int → Int → Int → WD → Option WD)
  | 0 => (fun _ _ _ _ _ => none)
  | k + 1 => (fR_goWays_o (FR_goWays k))
set_option maxHeartbeats 4000000 in
theorem FR_goWays_ok (E : Nat × (Int → Int)) (d : Nat) : ∀ k : Nat, (∀ {a0 : Int} {a1 : Int} {a2 : Int} {a3 : Int} {w w1 : WD}, (FR_goWays k) a0 a1 a2 a3 w = some w1 → CTv E mR_goWays (d + k + 2) [pR 46, pI a0, pI a1, pI a2, pL a3] w RF NN w1 RF NN) := by
  intro k
  induction k with
  | zero =>
    exact fun h => no_e h
  | succ k ih =>
    have e : d + (k + 1) + 2 = d + k + 3 := by omega
    rw [e]
    exact by intro a0 a1 a2 a3 w w1 h; exact kR_goWays_o E (d + k) (FR_goWays k) (fun h => ih h) h
def fR_goWays : Int → Int → Int → Int → WD → Option WD := FR_goWays 200
theorem kR_goWays (E : Nat × (Int → Int)) (d : Nat) {a0 : Int} {a1 : Int} {a2 : Int} {a3 : Int} {w w1 : WD} (h : fR_goWays a0 a1 a2 a3 w = some w1) : CTv E mR_goWays (d + 202) [pR 46, pI a0, pI a1, pI a2, pL a3] w RF NN w1 RF NN := (FR_goWays_ok E d 200) h
def fR_findWays_l58_b (rec : Int → WD → Option WD) (K0 : WD → Option WD) (x1 : Int) (w : WD) : Option WD := if 35 ≤ x1 then (K0 w) else (ck (0 ≤ x1 ∧ x1 < 35) <| bw (up w 68 x1 0) <| fun (u9 : WD) => bv (w32 (x1 + 1)) <| fun (v1_10 : Int) => rec v1_10 u9)
def fR_findWays_l58 (K0 : WD → Option WD) : Nat → Int → WD → Option WD
  | 0 => fun _ _ => none
  | k + 1 => fR_findWays_l58_b ( fR_findWays_l58 K0 k) K0
set_option maxRecDepth 100000 in
set_option maxHeartbeats 4000000 in
theorem fR_findWays_l58_b_ok (E : Nat × (Int → Int)) (d : Nat) {res : WD} {rec : Int → WD → Option WD} (K0 : WD → Option WD) (hrec : ∀ (x1 : Int) (w : WD), rec x1 w = some res → G E mR_findWays (d + 203) 58 [(0, pR 46), (1, pI x1)] [] w RF NN 0 0 (none, res, RF, NN)) (hK0 : ∀ (w : WD), K0 w = some res → G E mR_findWays (d + 203) 77 [(0, pR 46)] [] w RF NN 0 0 (none, res, RF, NN)) (x1 : Int) (w : WD) (h : fR_findWays_l58_b rec K0 x1 w = some res) : G E mR_findWays (d + 203) 58 [(0, pR 46), (1, pI x1)] [] w RF NN 0 0 (none, res, RF, NN) := by
  unfold fR_findWays_l58_b at h
  refine g_iload_n (pc := 58) (j := 1) (dk d_mR_findWays 37 rfl) rfl ?_
  refine g_bipush (pc := 59) (dk d_mR_findWays 38 rfl) (by decide) ?_
  refine h_icmp_ge (pc := 61) (tgt := 77) (dk d_mR_findWays 39 rfl) rfl h (fun hc11 h => ?_) (fun hc11 h => ?_)
  · refine g_pick [0] rfl (l' := [(0, pR 46)]) rfl ?_
    exact hK0 _ h
  · refine g_aload_n (pc := 64) (j := 0) (dk d_mR_findWays 40 rfl) rfl (by decide) ?_
    refine g_getR (pc := 65) (a := 68) rfl fp_R_78 po_46 (dk d_mR_findWays 41 rfl) ?_
    refine g_iload_n (pc := 68) (j := 1) (dk d_mR_findWays 42 rfl) rfl ?_
    refine g_lconst0 (pc := 69) (dk d_mR_findWays 43 rfl) ?_
    refine h_last (pc := 70) (B := 35) pa_68 rfl (dk d_mR_findWays 44 rfl) h (fun u9 h => ?_)
    refine h_iinc (pc := 71) (j := 1) (dk d_mR_findWays 45 rfl) rfl (by decide) (Nat.le_of_ble_eq_true rfl) h (fun v1_10 h => ?_)
    refine g_loc (l' := [(1, pI v1_10), (0, pR 46)]) rfl ?_
    refine g_goto (pc := 74) (tgt := 58) (dk d_mR_findWays 46 rfl) rfl ?_
    refine g_pick [1, 0] rfl (l' := [(0, pR 46), (1, pI v1_10)]) rfl ?_
    exact hrec _ _ h
set_option maxRecDepth 100000 in
set_option maxHeartbeats 4000000 in
theorem fR_findWays_l58_ok (E : Nat × (Int → Int)) (d : Nat) {res : WD} (K0 : WD → Option WD) (hK0 : ∀ (w : WD), K0 w = some res → G E mR_findWays (d + 203) 77 [(0, pR 46)] [] w RF NN 0 0 (none, res, RF, NN)) : ∀ (k : Nat) (x1 : Int) (w : WD), fR_findWays_l58 K0 k x1 w = some res → G E mR_findWays (d + 203) 58 [(0, pR 46), (1, pI x1)] [] w RF NN 0 0 (none, res, RF, NN) := by
  intro k
  induction k with
  | zero =>
    intro x1 w h
    exact no_e h
  | succ k ih =>
    intro x1 w h
    exact fR_findWays_l58_b_ok E d K0 ih hK0 x1 w h
def fR_findWays (w : WD) : Option WD := cv (fR_findBy w) <| fun (u1 : WD) => bw (up u1 46 31 0) <| fun (u2 : WD) => bw (up u2 46 32 0) <| fun (u3 : WD) => bw (up u3 46 33 0) <| fun (u4 : WD) => bw (up u4 46 36 (w32 ((bShl 1 (u4 46 4)) - 1))) <| fun (u5 : WD) => bw (up u5 46 37 (bOr (w32 ((bShl 1 (u5 46 1)) - 1)) 64)) <| fun (u6 : WD) => bw (up u6 46 40 0) <| fun (u7 : WD) => bw (up u7 46 41 0) <| fun (u8 : WD) => fR_findWays_l58 (fun (u12 : WD) => cv (fR_goWays 0 0 0 1 u12) <| fun (u13 : WD) => if (u13 46 31) ≠ 0 then (some u13) else (bw (up u13 46 36 0) <| fun (u14 : WD) => some u14)) FU 0 u8
set_option maxRecDepth 100000 in
set_option maxHeartbeats 4000000 in
theorem gR_findWays (E : Nat × (Int → Int)) (d : Nat) {res : WD} (w : WD) (h : fR_findWays w = some res) : G E mR_findWays (d + 203) 0 [(0, pR 46)] [] w RF NN 0 0 (none, res, RF, NN) := by
  unfold fR_findWays at h
  refine g_aload_n (pc := 0) (j := 0) (dk d_mR_findWays 0 rfl) rfl (by decide) ?_
  refine h_callVv (d := d + 202) (pc := 1) (na := 0) (av := []) (k0 := 46) po_46 ⟨_, rfl⟩ ⟨rfl, rfl⟩ (dk d_mR_findWays 1 rfl) lk_R_301 vm_mR_findBy rfl rfl (Nat.le_of_ble_eq_true rfl) h (fun u1 hq => kR_findBy E (d + 197) hq) (fun u1 h => ?_)
  refine g_aload_n (pc := 4) (j := 0) (dk d_mR_findWays 2 rfl) rfl (by decide) ?_
  refine g_lconst0 (pc := 5) (dk d_mR_findWays 3 rfl) ?_
  refine h_putL (pc := 6) fp_R_271 po_46 (dk d_mR_findWays 4 rfl) h (fun u2 h => ?_)
  refine g_aload_n (pc := 9) (j := 0) (dk d_mR_findWays 5 rfl) rfl (by decide) ?_
  refine g_lconst0 (pc := 10) (dk d_mR_findWays 6 rfl) ?_
  refine h_putL (pc := 11) fp_R_290 po_46 (dk d_mR_findWays 7 rfl) h (fun u3 h => ?_)
  refine g_aload_n (pc := 14) (j := 0) (dk d_mR_findWays 8 rfl) rfl (by decide) ?_
  refine g_lconst0 (pc := 15) (dk d_mR_findWays 9 rfl) ?_
  refine h_putL (pc := 16) fp_R_287 po_46 (dk d_mR_findWays 10 rfl) h (fun u4 h => ?_)
  refine g_aload_n (pc := 19) (j := 0) (dk d_mR_findWays 11 rfl) rfl (by decide) ?_
  refine g_iconst (pc := 20) (dk d_mR_findWays 12 rfl) (by decide) ?_
  refine g_aload_n (pc := 21) (j := 0) (dk d_mR_findWays 13 rfl) rfl (by decide) ?_
  refine g_getI (pc := 22) fp_R_144 po_46 (dk d_mR_findWays 14 rfl) ?_
  refine g_ishl (pc := 25) (dk d_mR_findWays 15 rfl) ?_
  refine g_iconst (pc := 26) (dk d_mR_findWays 16 rfl) (by decide) ?_
  refine g_isub (pc := 27) (dk d_mR_findWays 17 rfl) ?_
  refine h_putI (pc := 28) fp_R_275 po_46 (dk d_mR_findWays 18 rfl) h (fun u5 h => ?_)
  refine g_aload_n (pc := 31) (j := 0) (dk d_mR_findWays 19 rfl) rfl (by decide) ?_
  refine g_iconst (pc := 32) (dk d_mR_findWays 20 rfl) (by decide) ?_
  refine g_aload_n (pc := 33) (j := 0) (dk d_mR_findWays 21 rfl) rfl (by decide) ?_
  refine g_getI (pc := 34) fp_R_137 po_46 (dk d_mR_findWays 22 rfl) ?_
  refine g_ishl (pc := 37) (dk d_mR_findWays 23 rfl) ?_
  refine g_iconst (pc := 38) (dk d_mR_findWays 24 rfl) (by decide) ?_
  refine g_isub (pc := 39) (dk d_mR_findWays 25 rfl) ?_
  refine g_bipush (pc := 40) (dk d_mR_findWays 26 rfl) (by decide) ?_
  refine g_ior (pc := 42) (dk d_mR_findWays 27 rfl) ?_
  refine h_putI (pc := 43) fp_R_278 po_46 (dk d_mR_findWays 28 rfl) h (fun u6 h => ?_)
  refine g_aload_n (pc := 46) (j := 0) (dk d_mR_findWays 29 rfl) rfl (by decide) ?_
  refine g_iconst (pc := 47) (dk d_mR_findWays 30 rfl) (by decide) ?_
  refine h_putI (pc := 48) fp_R_284 po_46 (dk d_mR_findWays 31 rfl) h (fun u7 h => ?_)
  refine g_aload_n (pc := 51) (j := 0) (dk d_mR_findWays 32 rfl) rfl (by decide) ?_
  refine g_iconst (pc := 52) (dk d_mR_findWays 33 rfl) (by decide) ?_
  refine h_putI (pc := 53) fp_R_281 po_46 (dk d_mR_findWays 34 rfl) h (fun u8 h => ?_)
  refine g_iconst (pc := 56) (dk d_mR_findWays 35 rfl) (by decide) ?_
  refine g_istore_n (pc := 57) (l' := [(1, pI 0), (0, pR 46)]) (dk d_mR_findWays 36 rfl) (Nat.le_of_ble_eq_true rfl) rfl ?_
  refine g_pick [1, 0] rfl (l' := [(0, pR 46), (1, pI 0)]) rfl ?_
  refine fR_findWays_l58_ok E d _  (fun u12 h => ?_) FU _  _ h
  · refine g_aload_n (pc := 77) (j := 0) (dk d_mR_findWays 47 rfl) rfl (by decide) ?_
    refine g_iconst (pc := 78) (dk d_mR_findWays 48 rfl) (by decide) ?_
    refine g_iconst (pc := 79) (dk d_mR_findWays 49 rfl) (by decide) ?_
    refine g_iconst (pc := 80) (dk d_mR_findWays 50 rfl) (by decide) ?_
    refine g_lconst1 (pc := 81) (dk d_mR_findWays 51 rfl) ?_
    refine h_callVv (d := d + 202) (pc := 82) (na := 4) (av := [pI 0, pI 0, pI 0, pL 1]) (k0 := 46) po_46 ⟨_, rfl⟩ ⟨rfl, rfl⟩ (dk d_mR_findWays 52 rfl) lk_R_297 vm_mR_goWays rfl rfl (Nat.le_of_ble_eq_true rfl) h (fun u13 hq => kR_goWays E (d + 0) hq) (fun u13 h => ?_)
    refine g_aload_n (pc := 85) (j := 0) (dk d_mR_findWays 53 rfl) rfl (by decide) ?_
    refine g_getL (pc := 86) fp_R_271 po_46 (dk d_mR_findWays 54 rfl) ?_
    refine g_lconst0 (pc := 89) (dk d_mR_findWays 55 rfl) ?_
    refine h_lcmp_ne (pc := 90) (tgt := 99) (dk d_mR_findWays 56 rfl) (dk d_mR_findWays 57 rfl) rfl h (fun hc15 h => ?_) (fun hc15 h => ?_)
    · exact h_vret (pc := 99) (dk d_mR_findWays 61 rfl) h
    · refine g_aload_n (pc := 94) (j := 0) (dk d_mR_findWays 58 rfl) rfl (by decide) ?_
      refine g_iconst (pc := 95) (dk d_mR_findWays 59 rfl) (by decide) ?_
      refine h_putI (pc := 96) fp_R_275 po_46 (dk d_mR_findWays 60 rfl) h (fun u14 h => ?_)
      exact h_vret (pc := 99) (dk d_mR_findWays 61 rfl) h
set_option maxRecDepth 100000 in
set_option maxHeartbeats 4000000 in
theorem kR_findWays (E : Nat × (Int → Int)) (d : Nat) {w w1 : WD} (h : fR_findWays w = some w1) : CTv E mR_findWays (d + 203) [pR 46] w RF NN w1 RF NN := by
  exact CTv_of (by decide +kernel) (Nat.le_of_ble_eq_true rfl) rfl (gR_findWays (res := w1) E d w h)
def fR_ways (a1 : Int) (w : WD) : Option (Int × WD) := ci (fR_in a1 0 1 w) <| fun (r2 : Int) (u1 : WD) => if r2 ≠ 0 then (cv (fR_findWays u1) <| fun (u4 : WD) => if a1 ≠ 0 then (some ((u4 46 32), u4)) else (some ((u4 46 31), u4))) else (some ((-9223372036854775808), u1))
set_option maxRecDepth 100000 in
set_option maxHeartbeats 4000000 in
theorem gR_ways (E : Nat × (Int → Int)) (d : Nat) {res : Int × WD} (a1 : Int) (w : WD) (h : fR_ways a1 w = some res) : G E mR_ways (d + 204) 0 [(0, pR 46), (1, pI a1)] [] w RF NN 0 0 (some (pL res.1), res.2, RF, NN) := by
  unfold fR_ways at h
  refine g_iload_n (pc := 0) (j := 1) (dk d_mR_ways 0 rfl) rfl ?_
  refine g_iconst (pc := 1) (dk d_mR_ways 1 rfl) (by decide) ?_
  refine g_iconst (pc := 2) (dk d_mR_ways 2 rfl) (by decide) ?_
  refine h_callSi (d := d + 203) (pc := 3) (na := 3) (av := [pI a1, pI 0, pI 1]) ⟨rfl, rfl⟩ (dk d_mR_ways 3 rfl) lk_R_140 vm_mR_in rfl rfl (Nat.le_of_ble_eq_true rfl) h (fun r2 u1 hq => kR_in E (d + 202) hq) (fun r2 u1 hb3 h => ?_)
  refine h_if_ne (pc := 6) (tgt := 13) (dk d_mR_ways 4 rfl) rfl h (fun hc6 h => ?_) (fun hc6 h => ?_)
  · refine g_aload_n (pc := 13) (j := 0) (dk d_mR_ways 7 rfl) rfl (by decide) ?_
    refine h_callVv (d := d + 203) (pc := 14) (na := 0) (av := []) (k0 := 46) po_46 ⟨_, rfl⟩ ⟨rfl, rfl⟩ (dk d_mR_ways 8 rfl) lk_R_306 vm_mR_findWays rfl rfl (Nat.le_of_ble_eq_true rfl) h (fun u4 hq => kR_findWays E (d + 0) hq) (fun u4 h => ?_)
    refine g_iload_n (pc := 17) (j := 1) (dk d_mR_ways 9 rfl) rfl ?_
    refine h_if_ne (pc := 18) (tgt := 28) (dk d_mR_ways 10 rfl) rfl h (fun hc5 h => ?_) (fun hc5 h => ?_)
    · refine g_aload_n (pc := 28) (j := 0) (dk d_mR_ways 14 rfl) rfl (by decide) ?_
      refine g_getL (pc := 29) fp_R_290 po_46 (dk d_mR_ways 15 rfl) ?_
      exact h_lret (pc := 32) (dk d_mR_ways 16 rfl) h
    · refine g_aload_n (pc := 21) (j := 0) (dk d_mR_ways 11 rfl) rfl (by decide) ?_
      refine g_getL (pc := 22) fp_R_271 po_46 (dk d_mR_ways 12 rfl) ?_
      refine g_goto (pc := 25) (tgt := 32) (dk d_mR_ways 13 rfl) rfl ?_
      exact h_lret (pc := 32) (dk d_mR_ways 16 rfl) h
  · refine g_ldc2 (pc := 9) (u := (-9223372036854775808)) ck_R_304 (by decide) (dk d_mR_ways 5 rfl) ?_
    exact h_lret (pc := 12) (dk d_mR_ways 6 rfl) h
set_option maxRecDepth 100000 in
set_option maxHeartbeats 4000000 in
theorem kR_ways (E : Nat × (Int → Int)) (d : Nat) {a1 : Int} {w w1 : WD} {r : Int} (h : fR_ways a1 w = some (r, w1)) : CTl E mR_ways (d + 204) [pR 46, pI a1] w RF NN r w1 RF NN := by
  exact CTl_of (by decide +kernel) (Nat.le_of_ble_eq_true rfl) rfl (gR_ways (res := (r, w1)) E d a1 w h)
def fR_lowest_l6_b (rec : Int → Int → WD → Option (Int × WD)) (y0 : Int) (y2 : Int) (y4 : Int) (K0 : Int → WD → Option (Int × WD)) (x5 : Int) (x7 : Int) (w : WD) : Option (Int × WD) := if x7 = 0 then (K0 x5 w) else (ck (x7 ≠ 0) <| bv (w64 (x5 - w64 (w64 (Int.tdiv x5 x7) * x7))) <| fun (v9_1 : Int) => rec x7 v9_1 w)
def fR_lowest_l6 (y0 : Int) (y2 : Int) (y4 : Int) (K0 : Int → WD → Option (Int × WD)) : Nat → Int → Int → WD → Option (Int × WD)
  | 0 => fun _ _ _ => none
  | k + 1 => fR_lowest_l6_b ( fR_lowest_l6 y0 y2 y4 K0 k) y0 y2 y4 K0
set_option maxRecDepth 100000 in
set_option maxHeartbeats 4000000 in
theorem fR_lowest_l6_b_ok (E : Nat × (Int → Int)) (d : Nat) {res : Int × WD} {rec : Int → Int → WD → Option (Int × WD)} (y0 : Int) (y2 : Int) (y4 : Int) (K0 : Int → WD → Option (Int × WD)) (hrec : ∀ (x5 : Int) (x7 : Int) (w : WD), rec x5 x7 w = some res → G E mR_lowest (d + 1) 6 [(0, pL y0), (2, pL y2), (4, pI y4), (5, pL x5), (7, pL x7)] [] w RF NN 0 0 (some (pL res.1), res.2, RF, NN)) (hK0 : ∀ (x5 : Int) (w : WD), K0 x5 w = some res → G E mR_lowest (d + 1) 31 [(0, pL y0), (2, pL y2), (4, pI y4), (5, pL x5)] [] w RF NN 0 0 (some (pL res.1), res.2, RF, NN)) (x5 : Int) (x7 : Int) (w : WD) (h : fR_lowest_l6_b rec y0 y2 y4 K0 x5 x7 w = some res) : G E mR_lowest (d + 1) 6 [(0, pL y0), (2, pL y2), (4, pI y4), (5, pL x5), (7, pL x7)] [] w RF NN 0 0 (some (pL res.1), res.2, RF, NN) := by
  unfold fR_lowest_l6_b at h
  refine g_lload (pc := 6) (j := 4) (dk d_mR_lowest 4 rfl) rfl ?_
  refine g_lconst0 (pc := 8) (dk d_mR_lowest 5 rfl) ?_
  refine h_lcmp_eq (pc := 9) (tgt := 31) (dk d_mR_lowest 6 rfl) (dk d_mR_lowest 7 rfl) rfl h (fun hc2 h => ?_) (fun hc2 h => ?_)
  · refine g_pick [0, 1, 2, 3] rfl (l' := [(0, pL y0), (2, pL y2), (4, pI y4), (5, pL x5)]) rfl ?_
    exact hK0 _ _ h
  · refine g_lload (pc := 13) (j := 3) (dk d_mR_lowest 8 rfl) rfl ?_
    refine g_lload (pc := 15) (j := 4) (dk d_mR_lowest 9 rfl) rfl ?_
    refine h_lrem (pc := 17) (dk d_mR_lowest 10 rfl) h (fun h => ?_)
    refine h_bvL h (fun v9_1 h => ?_)
    refine g_lstore (pc := 18) (l' := [(9, pL v9_1), (0, pL y0), (2, pL y2), (4, pI y4), (5, pL x5), (7, pL x7)]) (dk d_mR_lowest 11 rfl) (Nat.le_of_ble_eq_true rfl) rfl ?_
    refine g_lload (pc := 20) (j := 5) (dk d_mR_lowest 12 rfl) rfl ?_
    refine g_lstore (pc := 22) (l' := [(5, pL x7), (9, pL v9_1), (0, pL y0), (2, pL y2), (4, pI y4), (7, pL x7)]) (dk d_mR_lowest 13 rfl) (Nat.le_of_ble_eq_true rfl) rfl ?_
    refine g_lload (pc := 24) (j := 1) (dk d_mR_lowest 14 rfl) rfl ?_
    refine g_lstore (pc := 26) (l' := [(7, pL v9_1), (5, pL x7), (9, pL v9_1), (0, pL y0), (2, pL y2), (4, pI y4)]) (dk d_mR_lowest 15 rfl) (Nat.le_of_ble_eq_true rfl) rfl ?_
    refine g_goto (pc := 28) (tgt := 6) (dk d_mR_lowest 16 rfl) rfl ?_
    refine g_pick [3, 4, 5, 1, 0] rfl (l' := [(0, pL y0), (2, pL y2), (4, pI y4), (5, pL x7), (7, pL v9_1)]) rfl ?_
    exact hrec _ _ _ h
set_option maxRecDepth 100000 in
set_option maxHeartbeats 4000000 in
theorem fR_lowest_l6_ok (E : Nat × (Int → Int)) (d : Nat) {res : Int × WD} (y0 : Int) (y2 : Int) (y4 : Int) (K0 : Int → WD → Option (Int × WD)) (hK0 : ∀ (x5 : Int) (w : WD), K0 x5 w = some res → G E mR_lowest (d + 1) 31 [(0, pL y0), (2, pL y2), (4, pI y4), (5, pL x5)] [] w RF NN 0 0 (some (pL res.1), res.2, RF, NN)) : ∀ (k : Nat) (x5 : Int) (x7 : Int) (w : WD), fR_lowest_l6 y0 y2 y4 K0 k x5 x7 w = some res → G E mR_lowest (d + 1) 6 [(0, pL y0), (2, pL y2), (4, pI y4), (5, pL x5), (7, pL x7)] [] w RF NN 0 0 (some (pL res.1), res.2, RF, NN) := by
  intro k
  induction k with
  | zero =>
    intro x5 x7 w h
    exact no_e h
  | succ k ih =>
    intro x5 x7 w h
    exact fR_lowest_l6_b_ok E d y0 y2 y4 K0 ih hK0 x5 x7 w h
def fR_lowest (a0 : Int) (a2 : Int) (a4 : Int) (w : WD) : Option (Int × WD) := fR_lowest_l6 a0 a2 a4 (fun (v5_3 : Int) (u4 : WD) => if a4 ≠ 0 then (ck (v5_3 ≠ 0) <| some ((w64 (Int.tdiv a2 v5_3)), u4)) else (ck (v5_3 ≠ 0) <| some ((w64 (Int.tdiv a0 v5_3)), u4))) FU a0 a2 w
set_option maxRecDepth 100000 in
set_option maxHeartbeats 4000000 in
theorem gR_lowest (E : Nat × (Int → Int)) (d : Nat) {res : Int × WD} (a0 : Int) (a2 : Int) (a4 : Int) (w : WD) (h : fR_lowest a0 a2 a4 w = some res) : G E mR_lowest (d + 1) 0 [(0, pL a0), (2, pL a2), (4, pI a4)] [] w RF NN 0 0 (some (pL res.1), res.2, RF, NN) := by
  unfold fR_lowest at h
  refine g_lload_n (pc := 0) (j := 0) (dk d_mR_lowest 0 rfl) rfl ?_
  refine g_lstore (pc := 1) (l' := [(5, pL a0), (0, pL a0), (2, pL a2), (4, pI a4)]) (dk d_mR_lowest 1 rfl) (Nat.le_of_ble_eq_true rfl) rfl ?_
  refine g_lload_n (pc := 3) (j := 2) (dk d_mR_lowest 2 rfl) rfl ?_
  refine g_lstore (pc := 4) (l' := [(7, pL a2), (5, pL a0), (0, pL a0), (2, pL a2), (4, pI a4)]) (dk d_mR_lowest 3 rfl) (Nat.le_of_ble_eq_true rfl) rfl ?_
  refine g_pick [2, 3, 4, 1, 0] rfl (l' := [(0, pL a0), (2, pL a2), (4, pI a4), (5, pL a0), (7, pL a2)]) rfl ?_
  refine fR_lowest_l6_ok E d a0 a2 a4 _  (fun v5_3 u4 h => ?_) FU _ _  _ h
  · refine g_iload (pc := 31) (j := 2) (dk d_mR_lowest 17 rfl) rfl ?_
    refine h_if_ne (pc := 33) (tgt := 43) (dk d_mR_lowest 18 rfl) rfl h (fun hc5 h => ?_) (fun hc5 h => ?_)
    · refine g_lload_n (pc := 43) (j := 1) (dk d_mR_lowest 23 rfl) rfl ?_
      refine g_lload (pc := 44) (j := 3) (dk d_mR_lowest 24 rfl) rfl ?_
      refine h_ldiv (pc := 46) (dk d_mR_lowest 25 rfl) h (fun h => ?_)
      exact h_lret (pc := 47) (dk d_mR_lowest 26 rfl) h
    · refine g_lload_n (pc := 36) (j := 0) (dk d_mR_lowest 19 rfl) rfl ?_
      refine g_lload (pc := 37) (j := 3) (dk d_mR_lowest 20 rfl) rfl ?_
      refine h_ldiv (pc := 39) (dk d_mR_lowest 21 rfl) h (fun h => ?_)
      refine g_goto (pc := 40) (tgt := 47) (dk d_mR_lowest 22 rfl) rfl ?_
      exact h_lret (pc := 47) (dk d_mR_lowest 26 rfl) h
set_option maxRecDepth 100000 in
set_option maxHeartbeats 4000000 in
theorem kR_lowest (E : Nat × (Int → Int)) (d : Nat) {a0 : Int} {a2 : Int} {a4 : Int} {w w1 : WD} {r : Int} (h : fR_lowest a0 a2 a4 w = some (r, w1)) : CTl E mR_lowest (d + 1) [pL a0, pL a2, pI a4] w RF NN r w1 RF NN := by
  exact CTl_of (by decide +kernel) (Nat.le_of_ble_eq_true rfl) rfl (gR_lowest (res := (r, w1)) E d a0 a2 a4 w h)
def fR_likely (a1 : Int) (a2 : Int) (a3 : Int) (w : WD) : Option (Int × WD) := ci (fR_isMask a1 w) <| fun (r2 : Int) (u1 : WD) => if r2 = 0 then (some ((-9223372036854775808), u1)) else (ci (fR_isWho a2 u1) <| fun (r5 : Int) (u4 : WD) => if r5 = 0 then (some ((-9223372036854775808), u4)) else (ci (fR_in a3 0 1 u4) <| fun (r8 : Int) (u7 : WD) => if r8 ≠ 0 then (cv (fR_findWays u7) <| fun (u10 : WD) => if (u10 46 32) ≠ 0 then (ck (0 ≤ (w32 ((w32 (7 * a1)) + a2)) ∧ (w32 ((w32 (7 * a1)) + a2)) < 35) <| ci (fR_lowest (u10 68 (w32 ((w32 (7 * a1)) + a2))) (u10 46 32) a3 u10) <| fun (r12 : Int) (u11 : WD) => some (r12, u11)) else (some (a3, u10))) else (some ((-9223372036854775808), u7))))
set_option maxRecDepth 100000 in
set_option maxHeartbeats 4000000 in
theorem gR_likely (E : Nat × (Int → Int)) (d : Nat) {res : Int × WD} (a1 : Int) (a2 : Int) (a3 : Int) (w : WD) (h : fR_likely a1 a2 a3 w = some res) : G E mR_likely (d + 204) 0 [(0, pR 46), (1, pI a1), (2, pI a2), (3, pI a3)] [] w RF NN 0 0 (some (pL res.1), res.2, RF, NN) := by
  unfold fR_likely at h
  refine g_aload_n (pc := 0) (j := 0) (dk d_mR_likely 0 rfl) rfl (by decide) ?_
  refine g_iload_n (pc := 1) (j := 1) (dk d_mR_likely 1 rfl) rfl ?_
  refine h_callVi (d := d + 203) (pc := 2) (na := 1) (av := [pI a1]) (k0 := 46) po_46 ⟨_, rfl⟩ ⟨rfl, rfl⟩ (dk d_mR_likely 2 rfl) lk_R_177 vm_mR_isMask rfl rfl (Nat.le_of_ble_eq_true rfl) h (fun r2 u1 hq => kR_isMask E (d + 201) hq) (fun r2 u1 hb3 h => ?_)
  refine h_if_eq (pc := 5) (tgt := 25) (dk d_mR_likely 3 rfl) rfl h (fun hc16 h => ?_) (fun hc16 h => ?_)
  · refine g_ldc2 (pc := 25) (u := (-9223372036854775808)) ck_R_304 (by decide) (dk d_mR_likely 13 rfl) ?_
    exact h_lret (pc := 28) (dk d_mR_likely 14 rfl) h
  · refine g_aload_n (pc := 8) (j := 0) (dk d_mR_likely 4 rfl) rfl (by decide) ?_
    refine g_iload_n (pc := 9) (j := 2) (dk d_mR_likely 5 rfl) rfl ?_
    refine h_callVi (d := d + 203) (pc := 10) (na := 1) (av := [pI a2]) (k0 := 46) po_46 ⟨_, rfl⟩ ⟨rfl, rfl⟩ (dk d_mR_likely 6 rfl) lk_R_265 vm_mR_isWho rfl rfl (Nat.le_of_ble_eq_true rfl) h (fun r5 u4 hq => kR_isWho E (d + 200) hq) (fun r5 u4 hb6 h => ?_)
    refine h_if_eq (pc := 13) (tgt := 25) (dk d_mR_likely 7 rfl) rfl h (fun hc15 h => ?_) (fun hc15 h => ?_)
    · refine g_ldc2 (pc := 25) (u := (-9223372036854775808)) ck_R_304 (by decide) (dk d_mR_likely 13 rfl) ?_
      exact h_lret (pc := 28) (dk d_mR_likely 14 rfl) h
    · refine g_iload_n (pc := 16) (j := 3) (dk d_mR_likely 8 rfl) rfl ?_
      refine g_iconst (pc := 17) (dk d_mR_likely 9 rfl) (by decide) ?_
      refine g_iconst (pc := 18) (dk d_mR_likely 10 rfl) (by decide) ?_
      refine h_callSi (d := d + 203) (pc := 19) (na := 3) (av := [pI a3, pI 0, pI 1]) ⟨rfl, rfl⟩ (dk d_mR_likely 11 rfl) lk_R_140 vm_mR_in rfl rfl (Nat.le_of_ble_eq_true rfl) h (fun r8 u7 hq => kR_in E (d + 202) hq) (fun r8 u7 hb9 h => ?_)
      refine h_if_ne (pc := 22) (tgt := 29) (dk d_mR_likely 12 rfl) rfl h (fun hc14 h => ?_) (fun hc14 h => ?_)
      · refine g_aload_n (pc := 29) (j := 0) (dk d_mR_likely 15 rfl) rfl (by decide) ?_
        refine h_callVv (d := d + 203) (pc := 30) (na := 0) (av := []) (k0 := 46) po_46 ⟨_, rfl⟩ ⟨rfl, rfl⟩ (dk d_mR_likely 16 rfl) lk_R_306 vm_mR_findWays rfl rfl (Nat.le_of_ble_eq_true rfl) h (fun u10 hq => kR_findWays E (d + 0) hq) (fun u10 h => ?_)
        refine g_aload_n (pc := 33) (j := 0) (dk d_mR_likely 17 rfl) rfl (by decide) ?_
        refine g_getL (pc := 34) fp_R_290 po_46 (dk d_mR_likely 18 rfl) ?_
        refine g_lconst0 (pc := 37) (dk d_mR_likely 19 rfl) ?_
        refine h_lcmp_ne (pc := 38) (tgt := 47) (dk d_mR_likely 20 rfl) (dk d_mR_likely 21 rfl) rfl h (fun hc13 h => ?_) (fun hc13 h => ?_)
        · refine g_aload_n (pc := 47) (j := 0) (dk d_mR_likely 25 rfl) rfl (by decide) ?_
          refine g_getR (pc := 48) (a := 68) rfl fp_R_78 po_46 (dk d_mR_likely 26 rfl) ?_
          refine g_bipush (pc := 51) (dk d_mR_likely 27 rfl) (by decide) ?_
          refine g_iload_n (pc := 53) (j := 1) (dk d_mR_likely 28 rfl) rfl ?_
          refine g_imul (pc := 54) (dk d_mR_likely 29 rfl) ?_
          refine g_iload_n (pc := 55) (j := 2) (dk d_mR_likely 30 rfl) rfl ?_
          refine g_iadd (pc := 56) (dk d_mR_likely 31 rfl) ?_
          refine h_lald (pc := 57) (B := 35) pa_68 rfl (dk d_mR_likely 32 rfl) h (fun h => ?_)
          refine g_aload_n (pc := 58) (j := 0) (dk d_mR_likely 33 rfl) rfl (by decide) ?_
          refine g_getL (pc := 59) fp_R_290 po_46 (dk d_mR_likely 34 rfl) ?_
          refine g_iload_n (pc := 62) (j := 3) (dk d_mR_likely 35 rfl) rfl ?_
          refine h_callSl (d := d + 203) (pc := 63) (na := 3) (av := [pL (u10 68 (w32 ((w32 (7 * a1)) + a2))), pL (u10 46 32), pI a3]) ⟨rfl, rfl⟩ (dk d_mR_likely 36 rfl) lk_R_309 vm_mR_lowest rfl rfl (Nat.le_of_ble_eq_true rfl) h (fun r12 u11 hq => kR_lowest E (d + 202) hq) (fun r12 u11 h => ?_)
          exact h_lret (pc := 66) (dk d_mR_likely 37 rfl) h
        · refine g_iload_n (pc := 42) (j := 3) (dk d_mR_likely 22 rfl) rfl ?_
          refine g_i2l (pc := 43) (dk d_mR_likely 23 rfl) ?_
          refine g_goto (pc := 44) (tgt := 66) (dk d_mR_likely 24 rfl) rfl ?_
          exact h_lret (pc := 66) (dk d_mR_likely 37 rfl) h
      · refine g_ldc2 (pc := 25) (u := (-9223372036854775808)) ck_R_304 (by decide) (dk d_mR_likely 13 rfl) ?_
        exact h_lret (pc := 28) (dk d_mR_likely 14 rfl) h
set_option maxRecDepth 100000 in
set_option maxHeartbeats 4000000 in
theorem kR_likely (E : Nat × (Int → Int)) (d : Nat) {a1 : Int} {a2 : Int} {a3 : Int} {w w1 : WD} {r : Int} (h : fR_likely a1 a2 a3 w = some (r, w1)) : CTl E mR_likely (d + 204) [pR 46, pI a1, pI a2, pI a3] w RF NN r w1 RF NN := by
  exact CTl_of (by decide +kernel) (Nat.le_of_ble_eq_true rfl) rfl (gR_likely (res := (r, w1)) E d a1 a2 a3 w h)
def fR_best (a1 : Int) (w : WD) : Option (Int × WD) := ci (fR_in a1 (-1) (w32 ((w 46 4) - 1)) w) <| fun (r2 : Int) (u1 : WD) => if r2 ≠ 0 then (cv (fR_findWays u1) <| fun (u4 : WD) => if (u4 46 31) ≠ 0 then (if 0 ≤ a1 then (ck (0 ≤ a1 ∧ a1 < 5) <| some ((u4 67 a1), u4)) else (some ((u4 46 33), u4))) else (some ((-2), u4))) else (some ((-9223372036854775808), u1))
set_option maxRecDepth 100000 in
set_option maxHeartbeats 4000000 in
theorem gR_best (E : Nat × (Int → Int)) (d : Nat) {res : Int × WD} (a1 : Int) (w : WD) (h : fR_best a1 w = some res) : G E mR_best (d + 204) 0 [(0, pR 46), (1, pI a1)] [] w RF NN 0 0 (some (pL res.1), res.2, RF, NN) := by
  unfold fR_best at h
  refine g_iload_n (pc := 0) (j := 1) (dk d_mR_best 0 rfl) rfl ?_
  refine g_iconst (pc := 1) (dk d_mR_best 1 rfl) (by decide) ?_
  refine g_aload_n (pc := 2) (j := 0) (dk d_mR_best 2 rfl) rfl (by decide) ?_
  refine g_getI (pc := 3) fp_R_144 po_46 (dk d_mR_best 3 rfl) ?_
  refine g_iconst (pc := 6) (dk d_mR_best 4 rfl) (by decide) ?_
  refine g_isub (pc := 7) (dk d_mR_best 5 rfl) ?_
  refine h_callSi (d := d + 203) (pc := 8) (na := 3) (av := [pI a1, pI (-1), pI (w32 ((w 46 4) - 1))]) ⟨rfl, rfl⟩ (dk d_mR_best 6 rfl) lk_R_140 vm_mR_in rfl rfl (Nat.le_of_ble_eq_true rfl) h (fun r2 u1 hq => kR_in E (d + 202) hq) (fun r2 u1 hb3 h => ?_)
  refine h_if_ne (pc := 11) (tgt := 18) (dk d_mR_best 7 rfl) rfl h (fun hc7 h => ?_) (fun hc7 h => ?_)
  · refine g_aload_n (pc := 18) (j := 0) (dk d_mR_best 10 rfl) rfl (by decide) ?_
    refine h_callVv (d := d + 203) (pc := 19) (na := 0) (av := []) (k0 := 46) po_46 ⟨_, rfl⟩ ⟨rfl, rfl⟩ (dk d_mR_best 11 rfl) lk_R_306 vm_mR_findWays rfl rfl (Nat.le_of_ble_eq_true rfl) h (fun u4 hq => kR_findWays E (d + 0) hq) (fun u4 h => ?_)
    refine g_aload_n (pc := 22) (j := 0) (dk d_mR_best 12 rfl) rfl (by decide) ?_
    refine g_getL (pc := 23) fp_R_271 po_46 (dk d_mR_best 13 rfl) ?_
    refine g_lconst0 (pc := 26) (dk d_mR_best 14 rfl) ?_
    refine h_lcmp_ne (pc := 27) (tgt := 35) (dk d_mR_best 15 rfl) (dk d_mR_best 16 rfl) rfl h (fun hc6 h => ?_) (fun hc6 h => ?_)
    · refine g_iload_n (pc := 35) (j := 1) (dk d_mR_best 19 rfl) rfl ?_
      refine h_if_ge (pc := 36) (tgt := 46) (dk d_mR_best 20 rfl) rfl h (fun hc5 h => ?_) (fun hc5 h => ?_)
      · refine g_aload_n (pc := 46) (j := 0) (dk d_mR_best 24 rfl) rfl (by decide) ?_
        refine g_getR (pc := 47) (a := 67) rfl fp_R_75 po_46 (dk d_mR_best 25 rfl) ?_
        refine g_iload_n (pc := 50) (j := 1) (dk d_mR_best 26 rfl) rfl ?_
        refine h_iald (pc := 51) (B := 5) pa_67 rfl (dk d_mR_best 27 rfl) h (fun h => ?_)
        refine g_i2l (pc := 52) (dk d_mR_best 28 rfl) ?_
        exact h_lret (pc := 53) (dk d_mR_best 29 rfl) h
      · refine g_aload_n (pc := 39) (j := 0) (dk d_mR_best 21 rfl) rfl (by decide) ?_
        refine g_getL (pc := 40) fp_R_287 po_46 (dk d_mR_best 22 rfl) ?_
        refine g_goto (pc := 43) (tgt := 53) (dk d_mR_best 23 rfl) rfl ?_
        exact h_lret (pc := 53) (dk d_mR_best 29 rfl) h
    · refine g_ldc2 (pc := 31) (u := (-2)) ck_R_315 (by decide) (dk d_mR_best 17 rfl) ?_
      exact h_lret (pc := 34) (dk d_mR_best 18 rfl) h
  · refine g_ldc2 (pc := 14) (u := (-9223372036854775808)) ck_R_304 (by decide) (dk d_mR_best 8 rfl) ?_
    exact h_lret (pc := 17) (dk d_mR_best 9 rfl) h
set_option maxRecDepth 100000 in
set_option maxHeartbeats 4000000 in
theorem kR_best (E : Nat × (Int → Int)) (d : Nat) {a1 : Int} {w w1 : WD} {r : Int} (h : fR_best a1 w = some (r, w1)) : CTl E mR_best (d + 204) [pR 46, pI a1] w RF NN r w1 RF NN := by
  exact CTl_of (by decide +kernel) (Nat.le_of_ble_eq_true rfl) rfl (gR_best (res := (r, w1)) E d a1 w h)
def fR_sure (a1 : Int) (w : WD) : Option (Int × WD) := ci (fR_in a1 0 1 w) <| fun (r2 : Int) (u1 : WD) => if r2 ≠ 0 then (cv (fR_findWays u1) <| fun (u4 : WD) => if a1 ≠ 0 then (some ((u4 46 37), u4)) else (some ((u4 46 36), u4))) else (some ((-1), u1))
set_option maxRecDepth 100000 in
set_option maxHeartbeats 4000000 in
theorem gR_sure (E : Nat × (Int → Int)) (d : Nat) {res : Int × WD} (a1 : Int) (w : WD) (h : fR_sure a1 w = some res) : G E mR_sure (d + 204) 0 [(0, pR 46), (1, pI a1)] [] w RF NN 0 0 (some (pI res.1), res.2, RF, NN) := by
  unfold fR_sure at h
  refine g_iload_n (pc := 0) (j := 1) (dk d_mR_sure 0 rfl) rfl ?_
  refine g_iconst (pc := 1) (dk d_mR_sure 1 rfl) (by decide) ?_
  refine g_iconst (pc := 2) (dk d_mR_sure 2 rfl) (by decide) ?_
  refine h_callSi (d := d + 203) (pc := 3) (na := 3) (av := [pI a1, pI 0, pI 1]) ⟨rfl, rfl⟩ (dk d_mR_sure 3 rfl) lk_R_140 vm_mR_in rfl rfl (Nat.le_of_ble_eq_true rfl) h (fun r2 u1 hq => kR_in E (d + 202) hq) (fun r2 u1 hb3 h => ?_)
  refine h_if_ne (pc := 6) (tgt := 11) (dk d_mR_sure 4 rfl) rfl h (fun hc6 h => ?_) (fun hc6 h => ?_)
  · refine g_aload_n (pc := 11) (j := 0) (dk d_mR_sure 7 rfl) rfl (by decide) ?_
    refine h_callVv (d := d + 203) (pc := 12) (na := 0) (av := []) (k0 := 46) po_46 ⟨_, rfl⟩ ⟨rfl, rfl⟩ (dk d_mR_sure 8 rfl) lk_R_306 vm_mR_findWays rfl rfl (Nat.le_of_ble_eq_true rfl) h (fun u4 hq => kR_findWays E (d + 0) hq) (fun u4 h => ?_)
    refine g_iload_n (pc := 15) (j := 1) (dk d_mR_sure 9 rfl) rfl ?_
    refine h_if_ne (pc := 16) (tgt := 26) (dk d_mR_sure 10 rfl) rfl h (fun hc5 h => ?_) (fun hc5 h => ?_)
    · refine g_aload_n (pc := 26) (j := 0) (dk d_mR_sure 14 rfl) rfl (by decide) ?_
      refine g_getI (pc := 27) fp_R_278 po_46 (dk d_mR_sure 15 rfl) ?_
      exact h_iret (pc := 30) rfl (dk d_mR_sure 16 rfl) h
    · refine g_aload_n (pc := 19) (j := 0) (dk d_mR_sure 11 rfl) rfl (by decide) ?_
      refine g_getI (pc := 20) fp_R_275 po_46 (dk d_mR_sure 12 rfl) ?_
      refine g_goto (pc := 23) (tgt := 30) (dk d_mR_sure 13 rfl) rfl ?_
      exact h_iret (pc := 30) rfl (dk d_mR_sure 16 rfl) h
  · refine g_iconst (pc := 9) (dk d_mR_sure 5 rfl) (by decide) ?_
    exact h_iret (pc := 10) rfl (dk d_mR_sure 6 rfl) h
set_option maxRecDepth 100000 in
set_option maxHeartbeats 4000000 in
theorem kR_sure (E : Nat × (Int → Int)) (d : Nat) {a1 : Int} {w w1 : WD} {r : Int} (h : fR_sure a1 w = some (r, w1)) : CTi E mR_sure (d + 204) [pR 46, pI a1] w RF NN r w1 RF NN := by
  exact CTi_of (by decide +kernel) (Nat.le_of_ble_eq_true rfl) (Or.inl rfl) (gR_sure (res := (r, w1)) E d a1 w h)
def fR_waysNow (w : WD) : Option (Int × WD) := cv (fR_findWays w) <| fun (u1 : WD) => some ((w32 (u1 46 31)), u1)
set_option maxRecDepth 100000 in
set_option maxHeartbeats 4000000 in
theorem gR_waysNow (E : Nat × (Int → Int)) (d : Nat) {res : Int × WD} (w : WD) (h : fR_waysNow w = some res) : G E mR_waysNow (d + 204) 0 [(0, pR 46)] [] w RF NN 0 0 (some (pI res.1), res.2, RF, NN) := by
  unfold fR_waysNow at h
  refine g_aload_n (pc := 0) (j := 0) (dk d_mR_waysNow 0 rfl) rfl (by decide) ?_
  refine h_callVv (d := d + 203) (pc := 1) (na := 0) (av := []) (k0 := 46) po_46 ⟨_, rfl⟩ ⟨rfl, rfl⟩ (dk d_mR_waysNow 1 rfl) lk_R_306 vm_mR_findWays rfl rfl (Nat.le_of_ble_eq_true rfl) h (fun u1 hq => kR_findWays E (d + 0) hq) (fun u1 h => ?_)
  refine g_aload_n (pc := 4) (j := 0) (dk d_mR_waysNow 2 rfl) rfl (by decide) ?_
  refine g_getL (pc := 5) fp_R_271 po_46 (dk d_mR_waysNow 3 rfl) ?_
  refine g_l2i (pc := 8) (dk d_mR_waysNow 4 rfl) ?_
  exact h_iret (pc := 9) rfl (dk d_mR_waysNow 5 rfl) h
set_option maxRecDepth 100000 in
set_option maxHeartbeats 4000000 in
theorem kR_waysNow (E : Nat × (Int → Int)) (d : Nat) {w w1 : WD} {r : Int} (h : fR_waysNow w = some (r, w1)) : CTi E mR_waysNow (d + 204) [pR 46] w RF NN r w1 RF NN := by
  exact CTi_of (by decide +kernel) (Nat.le_of_ble_eq_true rfl) (Or.inl rfl) (gR_waysNow (res := (r, w1)) E d w h)
def fR_tryLook_l5_b (rec : Int → Int → WD → Option WD) (y1 : Int) (y2 : Int) (K0 : Int → WD → Option WD) (x3 : Int) (x4 : Int) (w : WD) : Option WD := if 3 < x4 then (K0 x3 w) else (ck (0 ≤ (w32 ((w32 (3 * y1)) + y2)) ∧ (w32 ((w32 (3 * y1)) + y2)) < 15) <| bw (up w 49 (w32 ((w32 (3 * y1)) + y2)) x4) <| fun (u1 : WD) => ci (fR_waysNow u1) <| fun (r3 : Int) (u2 : WD) => jn (β := Int → WD → Option WD) (fun (v3_5 : Int) (u6 : WD) => bv (w32 (x4 + 1)) <| fun (v4_7 : Int) => rec v3_5 v4_7 u6) <| fun J8 => if r3 ≤ x3 then (J8 x3 u2) else (J8 r3 u2))
def fR_tryLook_l5 (y1 : Int) (y2 : Int) (K0 : Int → WD → Option WD) : Nat → Int → Int → WD → Option WD
  | 0 => fun _ _ _ => none
  | k + 1 => fR_tryLook_l5_b ( fR_tryLook_l5 y1 y2 K0 k) y1 y2 K0
set_option maxRecDepth 100000 in
set_option maxHeartbeats 4000000 in
theorem fR_tryLook_l5_b_ok (E : Nat × (Int → Int)) (d : Nat) {res : WD} {rec : Int → Int → WD → Option WD} (y1 : Int) (y2 : Int) (K0 : Int → WD → Option WD) (hrec : ∀ (x3 : Int) (x4 : Int) (w : WD), rec x3 x4 w = some res → G E mR_tryLook (d + 205) 5 [(0, pR 46), (1, pI y1), (2, pI y2), (3, pI x3), (4, pI x4)] [] w RF NN 0 0 (none, res, RF, NN)) (hK0 : ∀ (x3 : Int) (w : WD), K0 x3 w = some res → G E mR_tryLook (d + 205) 44 [(0, pR 46), (1, pI y1), (2, pI y2), (3, pI x3)] [] w RF NN 0 0 (none, res, RF, NN)) (x3 : Int) (x4 : Int) (w : WD) (h : fR_tryLook_l5_b rec y1 y2 K0 x3 x4 w = some res) : G E mR_tryLook (d + 205) 5 [(0, pR 46), (1, pI y1), (2, pI y2), (3, pI x3), (4, pI x4)] [] w RF NN 0 0 (none, res, RF, NN) := by
  unfold fR_tryLook_l5_b at h
  refine g_iload (pc := 5) (j := 4) (dk d_mR_tryLook 4 rfl) rfl ?_
  refine g_iconst (pc := 7) (dk d_mR_tryLook 5 rfl) (by decide) ?_
  refine h_icmp_gt (pc := 8) (tgt := 44) (dk d_mR_tryLook 6 rfl) rfl h (fun hc10 h => ?_) (fun hc10 h => ?_)
  · refine g_pick [0, 1, 2, 3] rfl (l' := [(0, pR 46), (1, pI y1), (2, pI y2), (3, pI x3)]) rfl ?_
    exact hK0 _ _ h
  · refine g_aload_n (pc := 11) (j := 0) (dk d_mR_tryLook 7 rfl) rfl (by decide) ?_
    refine g_getR (pc := 12) (a := 49) rfl fp_R_18 po_46 (dk d_mR_tryLook 8 rfl) ?_
    refine g_iconst (pc := 15) (dk d_mR_tryLook 9 rfl) (by decide) ?_
    refine g_iload_n (pc := 16) (j := 1) (dk d_mR_tryLook 10 rfl) rfl ?_
    refine g_imul (pc := 17) (dk d_mR_tryLook 11 rfl) ?_
    refine g_iload_n (pc := 18) (j := 2) (dk d_mR_tryLook 12 rfl) rfl ?_
    refine g_iadd (pc := 19) (dk d_mR_tryLook 13 rfl) ?_
    refine g_iload (pc := 20) (j := 4) (dk d_mR_tryLook 14 rfl) rfl ?_
    refine h_iast (pc := 22) (B := 15) pa_49 rfl (dk d_mR_tryLook 15 rfl) h (fun u1 h => ?_)
    refine g_aload_n (pc := 23) (j := 0) (dk d_mR_tryLook 16 rfl) rfl (by decide) ?_
    refine h_callVi (d := d + 204) (pc := 24) (na := 0) (av := []) (k0 := 46) po_46 ⟨_, rfl⟩ ⟨rfl, rfl⟩ (dk d_mR_tryLook 17 rfl) lk_R_317 vm_mR_waysNow rfl rfl (Nat.le_of_ble_eq_true rfl) h (fun r3 u2 hq => kR_waysNow E (d + 0) hq) (fun r3 u2 hb4 h => ?_)
    refine g_istore (pc := 27) (l' := [(5, pI r3), (0, pR 46), (1, pI y1), (2, pI y2), (3, pI x3), (4, pI x4)]) (dk d_mR_tryLook 18 rfl) (Nat.le_of_ble_eq_true rfl) rfl ?_
    refine g_iload (pc := 29) (j := 0) (dk d_mR_tryLook 19 rfl) rfl ?_
    refine g_iload_n (pc := 31) (j := 4) (dk d_mR_tryLook 20 rfl) rfl ?_
    refine jn_e (fun J => ∀ (v3_5 : Int) (u6 : WD), J v3_5 u6 = some res → G E mR_tryLook (d + 205) 38 [(0, pR 46), (1, pI y1), (2, pI y2), (3, pI v3_5), (4, pI x4)] [] u6 RF NN 0 0 (none, res, RF, NN)) h (fun v3_5 u6 h => ?_) (fun J8 hJ8 h => ?_)
    · refine h_iinc (pc := 38) (j := 4) (dk d_mR_tryLook 24 rfl) rfl (by decide) (Nat.le_of_ble_eq_true rfl) h (fun v4_7 h => ?_)
      refine g_loc (l' := [(4, pI v4_7), (0, pR 46), (1, pI y1), (2, pI y2), (3, pI v3_5)]) rfl ?_
      refine g_goto (pc := 41) (tgt := 5) (dk d_mR_tryLook 25 rfl) rfl ?_
      refine g_pick [1, 2, 3, 4, 0] rfl (l' := [(0, pR 46), (1, pI y1), (2, pI y2), (3, pI v3_5), (4, pI v4_7)]) rfl ?_
      exact hrec _ _ _ h
    · refine h_icmp_le (pc := 32) (tgt := 38) (dk d_mR_tryLook 21 rfl) rfl h (fun hc9 h => ?_) (fun hc9 h => ?_)
      · refine g_pick [1, 2, 3, 4, 5] rfl (l' := [(0, pR 46), (1, pI y1), (2, pI y2), (3, pI x3), (4, pI x4)]) rfl ?_
        exact hJ8 _ _ h
      · refine g_iload (pc := 35) (j := 0) (dk d_mR_tryLook 22 rfl) rfl ?_
        refine g_istore_n (pc := 37) (l' := [(3, pI r3), (5, pI r3), (0, pR 46), (1, pI y1), (2, pI y2), (4, pI x4)]) (dk d_mR_tryLook 23 rfl) (Nat.le_of_ble_eq_true rfl) rfl ?_
        refine g_pick [2, 3, 4, 0, 5] rfl (l' := [(0, pR 46), (1, pI y1), (2, pI y2), (3, pI r3), (4, pI x4)]) rfl ?_
        exact hJ8 _ _ h
set_option maxRecDepth 100000 in
set_option maxHeartbeats 4000000 in
theorem fR_tryLook_l5_ok (E : Nat × (Int → Int)) (d : Nat) {res : WD} (y1 : Int) (y2 : Int) (K0 : Int → WD → Option WD) (hK0 : ∀ (x3 : Int) (w : WD), K0 x3 w = some res → G E mR_tryLook (d + 205) 44 [(0, pR 46), (1, pI y1), (2, pI y2), (3, pI x3)] [] w RF NN 0 0 (none, res, RF, NN)) : ∀ (k : Nat) (x3 : Int) (x4 : Int) (w : WD), fR_tryLook_l5 y1 y2 K0 k x3 x4 w = some res → G E mR_tryLook (d + 205) 5 [(0, pR 46), (1, pI y1), (2, pI y2), (3, pI x3), (4, pI x4)] [] w RF NN 0 0 (none, res, RF, NN) := by
  intro k
  induction k with
  | zero =>
    intro x3 x4 w h
    exact no_e h
  | succ k ih =>
    intro x3 x4 w h
    exact fR_tryLook_l5_b_ok E d y1 y2 K0 ih hK0 x3 x4 w h
def fR_tryLook (a1 : Int) (a2 : Int) (w : WD) : Option WD := fR_tryLook_l5 a1 a2 (fun (v3_11 : Int) (u12 : WD) => ck (0 ≤ (w32 ((w32 (3 * a1)) + a2)) ∧ (w32 ((w32 (3 * a1)) + a2)) < 15) <| bw (up u12 49 (w32 ((w32 (3 * a1)) + a2)) (-1)) <| fun (u13 : WD) => jn (β := WD → Option WD) (fun (u14 : WD) => bw (up u14 46 42 (w32 ((w32 (10 * a1)) + a2))) <| fun (u15 : WD) => bw (up u15 46 43 v3_11) <| fun (u16 : WD) => some u16) <| fun J17 => if (u13 46 42) < 0 then (J17 u13) else (if v3_11 < (u13 46 43) then (J17 u13) else (some u13))) FU 0 0 w
set_option maxRecDepth 100000 in
set_option maxHeartbeats 4000000 in
theorem gR_tryLook (E : Nat × (Int → Int)) (d : Nat) {res : WD} (a1 : Int) (a2 : Int) (w : WD) (h : fR_tryLook a1 a2 w = some res) : G E mR_tryLook (d + 205) 0 [(0, pR 46), (1, pI a1), (2, pI a2)] [] w RF NN 0 0 (none, res, RF, NN) := by
  unfold fR_tryLook at h
  refine g_iconst (pc := 0) (dk d_mR_tryLook 0 rfl) (by decide) ?_
  refine g_istore_n (pc := 1) (l' := [(3, pI 0), (0, pR 46), (1, pI a1), (2, pI a2)]) (dk d_mR_tryLook 1 rfl) (Nat.le_of_ble_eq_true rfl) rfl ?_
  refine g_iconst (pc := 2) (dk d_mR_tryLook 2 rfl) (by decide) ?_
  refine g_istore (pc := 3) (l' := [(4, pI 0), (3, pI 0), (0, pR 46), (1, pI a1), (2, pI a2)]) (dk d_mR_tryLook 3 rfl) (Nat.le_of_ble_eq_true rfl) rfl ?_
  refine g_pick [2, 3, 4, 1, 0] rfl (l' := [(0, pR 46), (1, pI a1), (2, pI a2), (3, pI 0), (4, pI 0)]) rfl ?_
  refine fR_tryLook_l5_ok E d a1 a2 _  (fun v3_11 u12 h => ?_) FU _ _  _ h
  · refine g_aload_n (pc := 44) (j := 0) (dk d_mR_tryLook 26 rfl) rfl (by decide) ?_
    refine g_getR (pc := 45) (a := 49) rfl fp_R_18 po_46 (dk d_mR_tryLook 27 rfl) ?_
    refine g_iconst (pc := 48) (dk d_mR_tryLook 28 rfl) (by decide) ?_
    refine g_iload_n (pc := 49) (j := 1) (dk d_mR_tryLook 29 rfl) rfl ?_
    refine g_imul (pc := 50) (dk d_mR_tryLook 30 rfl) ?_
    refine g_iload_n (pc := 51) (j := 2) (dk d_mR_tryLook 31 rfl) rfl ?_
    refine g_iadd (pc := 52) (dk d_mR_tryLook 32 rfl) ?_
    refine g_iconst (pc := 53) (dk d_mR_tryLook 33 rfl) (by decide) ?_
    refine h_iast (pc := 54) (B := 15) pa_49 rfl (dk d_mR_tryLook 34 rfl) h (fun u13 h => ?_)
    refine g_aload_n (pc := 55) (j := 0) (dk d_mR_tryLook 35 rfl) rfl (by decide) ?_
    refine g_getI (pc := 56) fp_R_320 po_46 (dk d_mR_tryLook 36 rfl) ?_
    refine jn_e (fun J => ∀ (u14 : WD), J u14 = some res → G E mR_tryLook (d + 205) 71 [(0, pR 46), (1, pI a1), (2, pI a2), (3, pI v3_11)] [] u14 RF NN 0 0 (none, res, RF, NN)) h (fun u14 h => ?_) (fun J17 hJ17 h => ?_)
    · refine g_aload_n (pc := 71) (j := 0) (dk d_mR_tryLook 43 rfl) rfl (by decide) ?_
      refine g_bipush (pc := 72) (dk d_mR_tryLook 44 rfl) (by decide) ?_
      refine g_iload_n (pc := 74) (j := 1) (dk d_mR_tryLook 45 rfl) rfl ?_
      refine g_imul (pc := 75) (dk d_mR_tryLook 46 rfl) ?_
      refine g_iload_n (pc := 76) (j := 2) (dk d_mR_tryLook 47 rfl) rfl ?_
      refine g_iadd (pc := 77) (dk d_mR_tryLook 48 rfl) ?_
      refine h_putI (pc := 78) fp_R_320 po_46 (dk d_mR_tryLook 49 rfl) h (fun u15 h => ?_)
      refine g_aload_n (pc := 81) (j := 0) (dk d_mR_tryLook 50 rfl) rfl (by decide) ?_
      refine g_iload_n (pc := 82) (j := 3) (dk d_mR_tryLook 51 rfl) rfl ?_
      refine h_putI (pc := 83) fp_R_323 po_46 (dk d_mR_tryLook 52 rfl) h (fun u16 h => ?_)
      exact h_vret (pc := 86) (dk d_mR_tryLook 53 rfl) h
    · refine h_if_lt (pc := 59) (tgt := 71) (dk d_mR_tryLook 37 rfl) rfl h (fun hc19 h => ?_) (fun hc19 h => ?_)
      · exact hJ17 _ h
      · refine g_iload_n (pc := 62) (j := 3) (dk d_mR_tryLook 38 rfl) rfl ?_
        refine g_aload_n (pc := 63) (j := 0) (dk d_mR_tryLook 39 rfl) rfl (by decide) ?_
        refine g_getI (pc := 64) fp_R_323 po_46 (dk d_mR_tryLook 40 rfl) ?_
        refine h_icmp_lt (pc := 67) (tgt := 71) (dk d_mR_tryLook 41 rfl) rfl h (fun hc18 h => ?_) (fun hc18 h => ?_)
        · exact hJ17 _ h
        · exact h_vret (pc := 70) (dk d_mR_tryLook 42 rfl) h
set_option maxRecDepth 100000 in
set_option maxHeartbeats 4000000 in
theorem kR_tryLook (E : Nat × (Int → Int)) (d : Nat) {a1 : Int} {a2 : Int} {w w1 : WD} (h : fR_tryLook a1 a2 w = some w1) : CTv E mR_tryLook (d + 205) [pR 46, pI a1, pI a2] w RF NN w1 RF NN := by
  exact CTv_of (by decide +kernel) (Nat.le_of_ble_eq_true rfl) rfl (gR_tryLook (res := w1) E d a1 a2 w h)
def fR_look_l35_b (rec : Int → WD → Option (Int × WD)) (y1 : Int) (y2 : Int) (K0 : WD → Option (Int × WD)) (x3 : Int) (w : WD) : Option (Int × WD) := if 3 ≤ x3 then (K0 w) else (ck (0 ≤ (w32 ((w32 (3 * y2)) + x3)) ∧ (w32 ((w32 (3 * y2)) + x3)) < 15) <| jn (β := WD → Option (Int × WD)) (fun (u6 : WD) => bv (w32 (x3 + 1)) <| fun (v3_7 : Int) => rec v3_7 u6) <| fun J8 => if 0 ≤ (w 49 (w32 ((w32 (3 * y2)) + x3))) then (J8 w) else (cv (fR_tryLook y2 x3 w) <| fun (u9 : WD) => J8 u9))
def fR_look_l35 (y1 : Int) (y2 : Int) (K0 : WD → Option (Int × WD)) : Nat → Int → WD → Option (Int × WD)
  | 0 => fun _ _ => none
  | k + 1 => fR_look_l35_b ( fR_look_l35 y1 y2 K0 k) y1 y2 K0
set_option maxRecDepth 100000 in
set_option maxHeartbeats 4000000 in
theorem fR_look_l35_b_ok (E : Nat × (Int → Int)) (d : Nat) {res : Int × WD} {rec : Int → WD → Option (Int × WD)} (y1 : Int) (y2 : Int) (K0 : WD → Option (Int × WD)) (hrec : ∀ (x3 : Int) (w : WD), rec x3 w = some res → G E mR_look (d + 206) 35 [(0, pR 46), (1, pI y1), (2, pI y2), (3, pI x3)] [] w RF NN 0 0 (some (pI res.1), res.2, RF, NN)) (hK0 : ∀ (w : WD), K0 w = some res → G E mR_look (d + 206) 65 [(0, pR 46), (1, pI y1), (2, pI y2)] [] w RF NN 0 0 (some (pI res.1), res.2, RF, NN)) (x3 : Int) (w : WD) (h : fR_look_l35_b rec y1 y2 K0 x3 w = some res) : G E mR_look (d + 206) 35 [(0, pR 46), (1, pI y1), (2, pI y2), (3, pI x3)] [] w RF NN 0 0 (some (pI res.1), res.2, RF, NN) := by
  unfold fR_look_l35_b at h
  refine g_iload_n (pc := 35) (j := 3) (dk d_mR_look 21 rfl) rfl ?_
  refine g_iconst (pc := 36) (dk d_mR_look 22 rfl) (by decide) ?_
  refine h_icmp_ge (pc := 37) (tgt := 65) (dk d_mR_look 23 rfl) rfl h (fun hc11 h => ?_) (fun hc11 h => ?_)
  · refine g_pick [0, 1, 2] rfl (l' := [(0, pR 46), (1, pI y1), (2, pI y2)]) rfl ?_
    exact hK0 _ h
  · refine g_aload_n (pc := 40) (j := 0) (dk d_mR_look 24 rfl) rfl (by decide) ?_
    refine g_getR (pc := 41) (a := 49) rfl fp_R_18 po_46 (dk d_mR_look 25 rfl) ?_
    refine g_iconst (pc := 44) (dk d_mR_look 26 rfl) (by decide) ?_
    refine g_iload_n (pc := 45) (j := 2) (dk d_mR_look 27 rfl) rfl ?_
    refine g_imul (pc := 46) (dk d_mR_look 28 rfl) ?_
    refine g_iload_n (pc := 47) (j := 3) (dk d_mR_look 29 rfl) rfl ?_
    refine g_iadd (pc := 48) (dk d_mR_look 30 rfl) ?_
    refine h_iald (pc := 49) (B := 15) pa_49 rfl (dk d_mR_look 31 rfl) h (fun h => ?_)
    refine jn_e (fun J => ∀ (u6 : WD), J u6 = some res → G E mR_look (d + 206) 59 [(0, pR 46), (1, pI y1), (2, pI y2), (3, pI x3)] [] u6 RF NN 0 0 (some (pI res.1), res.2, RF, NN)) h (fun u6 h => ?_) (fun J8 hJ8 h => ?_)
    · refine h_iinc (pc := 59) (j := 3) (dk d_mR_look 37 rfl) rfl (by decide) (Nat.le_of_ble_eq_true rfl) h (fun v3_7 h => ?_)
      refine g_loc (l' := [(3, pI v3_7), (0, pR 46), (1, pI y1), (2, pI y2)]) rfl ?_
      refine g_goto (pc := 62) (tgt := 35) (dk d_mR_look 38 rfl) rfl ?_
      refine g_pick [1, 2, 3, 0] rfl (l' := [(0, pR 46), (1, pI y1), (2, pI y2), (3, pI v3_7)]) rfl ?_
      exact hrec _ _ h
    · refine h_if_ge (pc := 50) (tgt := 59) (dk d_mR_look 32 rfl) rfl h (fun hc10 h => ?_) (fun hc10 h => ?_)
      · exact hJ8 _ h
      · refine g_aload_n (pc := 53) (j := 0) (dk d_mR_look 33 rfl) rfl (by decide) ?_
        refine g_iload_n (pc := 54) (j := 2) (dk d_mR_look 34 rfl) rfl ?_
        refine g_iload_n (pc := 55) (j := 3) (dk d_mR_look 35 rfl) rfl ?_
        refine h_callVv (d := d + 205) (pc := 56) (na := 2) (av := [pI y2, pI x3]) (k0 := 46) po_46 ⟨_, rfl⟩ ⟨rfl, rfl⟩ (dk d_mR_look 36 rfl) lk_R_326 vm_mR_tryLook rfl rfl (Nat.le_of_ble_eq_true rfl) h (fun u9 hq => kR_tryLook E (d + 0) hq) (fun u9 h => ?_)
        exact hJ8 _ h
set_option maxRecDepth 100000 in
set_option maxHeartbeats 4000000 in
theorem fR_look_l35_ok (E : Nat × (Int → Int)) (d : Nat) {res : Int × WD} (y1 : Int) (y2 : Int) (K0 : WD → Option (Int × WD)) (hK0 : ∀ (w : WD), K0 w = some res → G E mR_look (d + 206) 65 [(0, pR 46), (1, pI y1), (2, pI y2)] [] w RF NN 0 0 (some (pI res.1), res.2, RF, NN)) : ∀ (k : Nat) (x3 : Int) (w : WD), fR_look_l35 y1 y2 K0 k x3 w = some res → G E mR_look (d + 206) 35 [(0, pR 46), (1, pI y1), (2, pI y2), (3, pI x3)] [] w RF NN 0 0 (some (pI res.1), res.2, RF, NN) := by
  intro k
  induction k with
  | zero =>
    intro x3 w h
    exact no_e h
  | succ k ih =>
    intro x3 w h
    exact fR_look_l35_b_ok E d y1 y2 K0 ih hK0 x3 w h
def fR_look_l25_b (rec : Int → WD → Option (Int × WD)) (y1 : Int) (K0 : WD → Option (Int × WD)) (x2 : Int) (w : WD) : Option (Int × WD) := if (w 46 4) ≤ x2 then (K0 w) else (fR_look_l35 y1 x2 (fun (u12 : WD) => bv (w32 (x2 + 1)) <| fun (v2_13 : Int) => rec v2_13 u12) FU 0 w)
def fR_look_l25 (y1 : Int) (K0 : WD → Option (Int × WD)) : Nat → Int → WD → Option (Int × WD)
  | 0 => fun _ _ => none
  | k + 1 => fR_look_l25_b ( fR_look_l25 y1 K0 k) y1 K0
set_option maxRecDepth 100000 in
set_option maxHeartbeats 4000000 in
theorem fR_look_l25_b_ok (E : Nat × (Int → Int)) (d : Nat) {res : Int × WD} {rec : Int → WD → Option (Int × WD)} (y1 : Int) (K0 : WD → Option (Int × WD)) (hrec : ∀ (x2 : Int) (w : WD), rec x2 w = some res → G E mR_look (d + 206) 25 [(0, pR 46), (1, pI y1), (2, pI x2)] [] w RF NN 0 0 (some (pI res.1), res.2, RF, NN)) (hK0 : ∀ (w : WD), K0 w = some res → G E mR_look (d + 206) 71 [(0, pR 46), (1, pI y1)] [] w RF NN 0 0 (some (pI res.1), res.2, RF, NN)) (x2 : Int) (w : WD) (h : fR_look_l25_b rec y1 K0 x2 w = some res) : G E mR_look (d + 206) 25 [(0, pR 46), (1, pI y1), (2, pI x2)] [] w RF NN 0 0 (some (pI res.1), res.2, RF, NN) := by
  unfold fR_look_l25_b at h
  refine g_iload_n (pc := 25) (j := 2) (dk d_mR_look 15 rfl) rfl ?_
  refine g_aload_n (pc := 26) (j := 0) (dk d_mR_look 16 rfl) rfl (by decide) ?_
  refine g_getI (pc := 27) fp_R_144 po_46 (dk d_mR_look 17 rfl) ?_
  refine h_icmp_ge (pc := 30) (tgt := 71) (dk d_mR_look 18 rfl) rfl h (fun hc14 h => ?_) (fun hc14 h => ?_)
  · refine g_pick [0, 1] rfl (l' := [(0, pR 46), (1, pI y1)]) rfl ?_
    exact hK0 _ h
  · refine g_iconst (pc := 33) (dk d_mR_look 19 rfl) (by decide) ?_
    refine g_istore_n (pc := 34) (l' := [(3, pI 0), (0, pR 46), (1, pI y1), (2, pI x2)]) (dk d_mR_look 20 rfl) (Nat.le_of_ble_eq_true rfl) rfl ?_
    refine g_pick [1, 2, 3, 0] rfl (l' := [(0, pR 46), (1, pI y1), (2, pI x2), (3, pI 0)]) rfl ?_
    refine fR_look_l35_ok E d y1 x2 _  (fun u12 h => ?_) FU _  _ h
    · refine h_iinc (pc := 65) (j := 2) (dk d_mR_look 39 rfl) rfl (by decide) (Nat.le_of_ble_eq_true rfl) h (fun v2_13 h => ?_)
      refine g_loc (l' := [(2, pI v2_13), (0, pR 46), (1, pI y1)]) rfl ?_
      refine g_goto (pc := 68) (tgt := 25) (dk d_mR_look 40 rfl) rfl ?_
      refine g_pick [1, 2, 0] rfl (l' := [(0, pR 46), (1, pI y1), (2, pI v2_13)]) rfl ?_
      exact hrec _ _ h
set_option maxRecDepth 100000 in
set_option maxHeartbeats 4000000 in
theorem fR_look_l25_ok (E : Nat × (Int → Int)) (d : Nat) {res : Int × WD} (y1 : Int) (K0 : WD → Option (Int × WD)) (hK0 : ∀ (w : WD), K0 w = some res → G E mR_look (d + 206) 71 [(0, pR 46), (1, pI y1)] [] w RF NN 0 0 (some (pI res.1), res.2, RF, NN)) : ∀ (k : Nat) (x2 : Int) (w : WD), fR_look_l25 y1 K0 k x2 w = some res → G E mR_look (d + 206) 25 [(0, pR 46), (1, pI y1), (2, pI x2)] [] w RF NN 0 0 (some (pI res.1), res.2, RF, NN) := by
  intro k
  induction k with
  | zero =>
    intro x2 w h
    exact no_e h
  | succ k ih =>
    intro x2 w h
    exact fR_look_l25_b_ok E d y1 K0 ih hK0 x2 w h
def fR_look (a1 : Int) (w : WD) : Option (Int × WD) := ci (fR_in a1 0 1 w) <| fun (r2 : Int) (u1 : WD) => if r2 ≠ 0 then (bw (up u1 46 42 (-2)) <| fun (u4 : WD) => bw (up u4 46 43 (-2)) <| fun (u5 : WD) => fR_look_l25 a1 (fun (u15 : WD) => if a1 ≠ 0 then (some ((u15 46 43), u15)) else (some ((u15 46 42), u15))) FU 0 u5) else (some ((-1), u1))
set_option maxRecDepth 100000 in
set_option maxHeartbeats 4000000 in
theorem gR_look (E : Nat × (Int → Int)) (d : Nat) {res : Int × WD} (a1 : Int) (w : WD) (h : fR_look a1 w = some res) : G E mR_look (d + 206) 0 [(0, pR 46), (1, pI a1)] [] w RF NN 0 0 (some (pI res.1), res.2, RF, NN) := by
  unfold fR_look at h
  refine g_iload_n (pc := 0) (j := 1) (dk d_mR_look 0 rfl) rfl ?_
  refine g_iconst (pc := 1) (dk d_mR_look 1 rfl) (by decide) ?_
  refine g_iconst (pc := 2) (dk d_mR_look 2 rfl) (by decide) ?_
  refine h_callSi (d := d + 205) (pc := 3) (na := 3) (av := [pI a1, pI 0, pI 1]) ⟨rfl, rfl⟩ (dk d_mR_look 3 rfl) lk_R_140 vm_mR_in rfl rfl (Nat.le_of_ble_eq_true rfl) h (fun r2 u1 hq => kR_in E (d + 204) hq) (fun r2 u1 hb3 h => ?_)
  refine h_if_ne (pc := 6) (tgt := 11) (dk d_mR_look 4 rfl) rfl h (fun hc17 h => ?_) (fun hc17 h => ?_)
  · refine g_aload_n (pc := 11) (j := 0) (dk d_mR_look 7 rfl) rfl (by decide) ?_
    refine g_bipush (pc := 12) (dk d_mR_look 8 rfl) (by decide) ?_
    refine h_putI (pc := 14) fp_R_320 po_46 (dk d_mR_look 9 rfl) h (fun u4 h => ?_)
    refine g_aload_n (pc := 17) (j := 0) (dk d_mR_look 10 rfl) rfl (by decide) ?_
    refine g_bipush (pc := 18) (dk d_mR_look 11 rfl) (by decide) ?_
    refine h_putI (pc := 20) fp_R_323 po_46 (dk d_mR_look 12 rfl) h (fun u5 h => ?_)
    refine g_iconst (pc := 23) (dk d_mR_look 13 rfl) (by decide) ?_
    refine g_istore_n (pc := 24) (l' := [(2, pI 0), (0, pR 46), (1, pI a1)]) (dk d_mR_look 14 rfl) (Nat.le_of_ble_eq_true rfl) rfl ?_
    refine g_pick [1, 2, 0] rfl (l' := [(0, pR 46), (1, pI a1), (2, pI 0)]) rfl ?_
    refine fR_look_l25_ok E d a1 _  (fun u15 h => ?_) FU _  _ h
    · refine g_iload_n (pc := 71) (j := 1) (dk d_mR_look 41 rfl) rfl ?_
      refine h_if_ne (pc := 72) (tgt := 82) (dk d_mR_look 42 rfl) rfl h (fun hc16 h => ?_) (fun hc16 h => ?_)
      · refine g_aload_n (pc := 82) (j := 0) (dk d_mR_look 46 rfl) rfl (by decide) ?_
        refine g_getI (pc := 83) fp_R_323 po_46 (dk d_mR_look 47 rfl) ?_
        exact h_iret (pc := 86) rfl (dk d_mR_look 48 rfl) h
      · refine g_aload_n (pc := 75) (j := 0) (dk d_mR_look 43 rfl) rfl (by decide) ?_
        refine g_getI (pc := 76) fp_R_320 po_46 (dk d_mR_look 44 rfl) ?_
        refine g_goto (pc := 79) (tgt := 86) (dk d_mR_look 45 rfl) rfl ?_
        exact h_iret (pc := 86) rfl (dk d_mR_look 48 rfl) h
  · refine g_iconst (pc := 9) (dk d_mR_look 5 rfl) (by decide) ?_
    exact h_iret (pc := 10) rfl (dk d_mR_look 6 rfl) h
set_option maxRecDepth 100000 in
set_option maxHeartbeats 4000000 in
theorem kR_look (E : Nat × (Int → Int)) (d : Nat) {a1 : Int} {w w1 : WD} {r : Int} (h : fR_look a1 w = some (r, w1)) : CTi E mR_look (d + 206) [pR 46, pI a1] w RF NN r w1 RF NN := by
  exact CTi_of (by decide +kernel) (Nat.le_of_ble_eq_true rfl) (Or.inl rfl) (gR_look (res := (r, w1)) E d a1 w h)
def fR_waysIf (a1 : Int) (a2 : Int) (w : WD) : Option (Int × WD) := ck (0 ≤ a1 ∧ a1 < 5) <| bv (w 50 a1) <| fun (v3_1 : Int) => ck (0 ≤ a1 ∧ a1 < 5) <| bw (up w 50 a1 (bAnd v3_1 a2)) <| fun (u2 : WD) => ci (fR_waysNow u2) <| fun (r4 : Int) (u3 : WD) => ck (0 ≤ a1 ∧ a1 < 5) <| bw (up u3 50 a1 v3_1) <| fun (u6 : WD) => some (r4, u6)
set_option maxRecDepth 100000 in
set_option maxHeartbeats 4000000 in
theorem gR_waysIf (E : Nat × (Int → Int)) (d : Nat) {res : Int × WD} (a1 : Int) (a2 : Int) (w : WD) (h : fR_waysIf a1 a2 w = some res) : G E mR_waysIf (d + 205) 0 [(0, pR 46), (1, pI a1), (2, pI a2)] [] w RF NN 0 0 (some (pI res.1), res.2, RF, NN) := by
  unfold fR_waysIf at h
  refine g_aload_n (pc := 0) (j := 0) (dk d_mR_waysIf 0 rfl) rfl (by decide) ?_
  refine g_getR (pc := 1) (a := 50) rfl fp_R_21 po_46 (dk d_mR_waysIf 1 rfl) ?_
  refine g_iload_n (pc := 4) (j := 1) (dk d_mR_waysIf 2 rfl) rfl ?_
  refine h_iald (pc := 5) (B := 5) pa_50 rfl (dk d_mR_waysIf 3 rfl) h (fun h => ?_)
  refine h_bvI h (fun v3_1 h => ?_)
  refine g_istore_n (pc := 6) (l' := [(3, pI v3_1), (0, pR 46), (1, pI a1), (2, pI a2)]) (dk d_mR_waysIf 4 rfl) (Nat.le_of_ble_eq_true rfl) rfl ?_
  refine g_aload_n (pc := 7) (j := 1) (dk d_mR_waysIf 5 rfl) rfl (by decide) ?_
  refine g_getR (pc := 8) (a := 50) rfl fp_R_21 po_46 (dk d_mR_waysIf 6 rfl) ?_
  refine g_iload_n (pc := 11) (j := 2) (dk d_mR_waysIf 7 rfl) rfl ?_
  refine g_iload_n (pc := 12) (j := 0) (dk d_mR_waysIf 8 rfl) rfl ?_
  refine g_iload_n (pc := 13) (j := 3) (dk d_mR_waysIf 9 rfl) rfl ?_
  refine g_iand (pc := 14) (dk d_mR_waysIf 10 rfl) ?_
  refine h_iast (pc := 15) (B := 5) pa_50 rfl (dk d_mR_waysIf 11 rfl) h (fun u2 h => ?_)
  refine g_aload_n (pc := 16) (j := 1) (dk d_mR_waysIf 12 rfl) rfl (by decide) ?_
  refine h_callVi (d := d + 204) (pc := 17) (na := 0) (av := []) (k0 := 46) po_46 ⟨_, rfl⟩ ⟨rfl, rfl⟩ (dk d_mR_waysIf 13 rfl) lk_R_317 vm_mR_waysNow rfl rfl (Nat.le_of_ble_eq_true rfl) h (fun r4 u3 hq => kR_waysNow E (d + 0) hq) (fun r4 u3 hb5 h => ?_)
  refine g_istore (pc := 20) (l' := [(4, pI r4), (3, pI v3_1), (0, pR 46), (1, pI a1), (2, pI a2)]) (dk d_mR_waysIf 14 rfl) (Nat.le_of_ble_eq_true rfl) rfl ?_
  refine g_aload_n (pc := 22) (j := 2) (dk d_mR_waysIf 15 rfl) rfl (by decide) ?_
  refine g_getR (pc := 23) (a := 50) rfl fp_R_21 po_46 (dk d_mR_waysIf 16 rfl) ?_
  refine g_iload_n (pc := 26) (j := 3) (dk d_mR_waysIf 17 rfl) rfl ?_
  refine g_iload_n (pc := 27) (j := 1) (dk d_mR_waysIf 18 rfl) rfl ?_
  refine h_iast (pc := 28) (B := 5) pa_50 rfl (dk d_mR_waysIf 19 rfl) h (fun u6 h => ?_)
  refine g_iload (pc := 29) (j := 0) (dk d_mR_waysIf 20 rfl) rfl ?_
  exact h_iret (pc := 31) rfl (dk d_mR_waysIf 21 rfl) h
set_option maxRecDepth 100000 in
set_option maxHeartbeats 4000000 in
theorem kR_waysIf (E : Nat × (Int → Int)) (d : Nat) {a1 : Int} {a2 : Int} {w w1 : WD} {r : Int} (h : fR_waysIf a1 a2 w = some (r, w1)) : CTi E mR_waysIf (d + 205) [pR 46, pI a1, pI a2] w RF NN r w1 RF NN := by
  exact CTi_of (by decide +kernel) (Nat.le_of_ble_eq_true rfl) (Or.inl rfl) (gR_waysIf (res := (r, w1)) E d a1 a2 w h)
def fR_question (a1 : Int) (a2 : Int) (a3 : Int) (w : WD) : Option (Int × WD) := ci (fR_isMask a1 w) <| fun (r2 : Int) (u1 : WD) => if r2 = 0 then (some ((-1), u1)) else (ci (fR_in a2 0 127 u1) <| fun (r5 : Int) (u4 : WD) => if r5 = 0 then (some ((-1), u4)) else (ci (fR_in a3 0 1 u4) <| fun (r8 : Int) (u7 : WD) => if r8 ≠ 0 then (jn (β := Int → WD → Option (Int × WD)) (fun (s10 : Int) (u11 : WD) => ci (fR_waysIf a1 s10 u11) <| fun (r13 : Int) (u12 : WD) => some (r13, u12)) <| fun J15 => if a3 ≠ 1 then (J15 (bAnd 127 (bXor a2 (-1))) u7) else (J15 a2 u7)) else (some ((-1), u7))))
set_option maxRecDepth 100000 in
set_option maxHeartbeats 4000000 in
theorem gR_question (E : Nat × (Int → Int)) (d : Nat) {res : Int × WD} (a1 : Int) (a2 : Int) (a3 : Int) (w : WD) (h : fR_question a1 a2 a3 w = some res) : G E mR_question (d + 206) 0 [(0, pR 46), (1, pI a1), (2, pI a2), (3, pI a3)] [] w RF NN 0 0 (some (pI res.1), res.2, RF, NN) := by
  unfold fR_question at h
  refine g_aload_n (pc := 0) (j := 0) (dk d_mR_question 0 rfl) rfl (by decide) ?_
  refine g_iload_n (pc := 1) (j := 1) (dk d_mR_question 1 rfl) rfl ?_
  refine h_callVi (d := d + 205) (pc := 2) (na := 1) (av := [pI a1]) (k0 := 46) po_46 ⟨_, rfl⟩ ⟨rfl, rfl⟩ (dk d_mR_question 2 rfl) lk_R_177 vm_mR_isMask rfl rfl (Nat.le_of_ble_eq_true rfl) h (fun r2 u1 hq => kR_isMask E (d + 203) hq) (fun r2 u1 hb3 h => ?_)
  refine h_if_eq (pc := 5) (tgt := 27) (dk d_mR_question 3 rfl) rfl h (fun hc19 h => ?_) (fun hc19 h => ?_)
  · refine g_iconst (pc := 27) (dk d_mR_question 14 rfl) (by decide) ?_
    exact h_iret (pc := 28) rfl (dk d_mR_question 15 rfl) h
  · refine g_iload_n (pc := 8) (j := 2) (dk d_mR_question 4 rfl) rfl ?_
    refine g_iconst (pc := 9) (dk d_mR_question 5 rfl) (by decide) ?_
    refine g_bipush (pc := 10) (dk d_mR_question 6 rfl) (by decide) ?_
    refine h_callSi (d := d + 205) (pc := 12) (na := 3) (av := [pI a2, pI 0, pI 127]) ⟨rfl, rfl⟩ (dk d_mR_question 7 rfl) lk_R_140 vm_mR_in rfl rfl (Nat.le_of_ble_eq_true rfl) h (fun r5 u4 hq => kR_in E (d + 204) hq) (fun r5 u4 hb6 h => ?_)
    refine h_if_eq (pc := 15) (tgt := 27) (dk d_mR_question 8 rfl) rfl h (fun hc18 h => ?_) (fun hc18 h => ?_)
    · refine g_iconst (pc := 27) (dk d_mR_question 14 rfl) (by decide) ?_
      exact h_iret (pc := 28) rfl (dk d_mR_question 15 rfl) h
    · refine g_iload_n (pc := 18) (j := 3) (dk d_mR_question 9 rfl) rfl ?_
      refine g_iconst (pc := 19) (dk d_mR_question 10 rfl) (by decide) ?_
      refine g_iconst (pc := 20) (dk d_mR_question 11 rfl) (by decide) ?_
      refine h_callSi (d := d + 205) (pc := 21) (na := 3) (av := [pI a3, pI 0, pI 1]) ⟨rfl, rfl⟩ (dk d_mR_question 12 rfl) lk_R_140 vm_mR_in rfl rfl (Nat.le_of_ble_eq_true rfl) h (fun r8 u7 hq => kR_in E (d + 204) hq) (fun r8 u7 hb9 h => ?_)
      refine h_if_ne (pc := 24) (tgt := 29) (dk d_mR_question 13 rfl) rfl h (fun hc17 h => ?_) (fun hc17 h => ?_)
      · refine g_aload_n (pc := 29) (j := 0) (dk d_mR_question 16 rfl) rfl (by decide) ?_
        refine g_iload_n (pc := 30) (j := 1) (dk d_mR_question 17 rfl) rfl ?_
        refine g_iload_n (pc := 31) (j := 3) (dk d_mR_question 18 rfl) rfl ?_
        refine g_iconst (pc := 32) (dk d_mR_question 19 rfl) (by decide) ?_
        refine jn_e (fun J => ∀ (s10 : Int) (u11 : WD), J s10 u11 = some res → G E mR_question (d + 206) 46 [] [pI s10, pI a1, pR 46] u11 RF NN 0 0 (some (pI res.1), res.2, RF, NN)) h (fun s10 u11 h => ?_) (fun J15 hJ15 h => ?_)
        · refine h_callVi (d := d + 205) (pc := 46) (na := 2) (av := [pI a1, pI s10]) (k0 := 46) po_46 ⟨_, rfl⟩ ⟨rfl, rfl⟩ (dk d_mR_question 28 rfl) lk_R_329 vm_mR_waysIf rfl rfl (Nat.le_of_ble_eq_true rfl) h (fun r13 u12 hq => kR_waysIf E (d + 0) hq) (fun r13 u12 hb14 h => ?_)
          exact h_iret (pc := 49) rfl (dk d_mR_question 29 rfl) h
        · refine h_icmp_ne (pc := 33) (tgt := 40) (dk d_mR_question 20 rfl) rfl h (fun hc16 h => ?_) (fun hc16 h => ?_)
          · refine g_bipush (pc := 40) (dk d_mR_question 23 rfl) (by decide) ?_
            refine g_iload_n (pc := 42) (j := 2) (dk d_mR_question 24 rfl) rfl ?_
            refine g_iconst (pc := 43) (dk d_mR_question 25 rfl) (by decide) ?_
            refine g_ixor (pc := 44) (dk d_mR_question 26 rfl) ?_
            refine g_iand (pc := 45) (dk d_mR_question 27 rfl) ?_
            refine g_pick [] rfl (l' := []) rfl ?_
            exact hJ15 _ _ h
          · refine g_iload_n (pc := 36) (j := 2) (dk d_mR_question 21 rfl) rfl ?_
            refine g_goto (pc := 37) (tgt := 46) (dk d_mR_question 22 rfl) rfl ?_
            refine g_pick [] rfl (l' := []) rfl ?_
            exact hJ15 _ _ h
      · refine g_iconst (pc := 27) (dk d_mR_question 14 rfl) (by decide) ?_
        exact h_iret (pc := 28) rfl (dk d_mR_question 15 rfl) h
set_option maxRecDepth 100000 in
set_option maxHeartbeats 4000000 in
theorem kR_question (E : Nat × (Int → Int)) (d : Nat) {a1 : Int} {a2 : Int} {a3 : Int} {w w1 : WD} {r : Int} (h : fR_question a1 a2 a3 w = some (r, w1)) : CTi E mR_question (d + 206) [pR 46, pI a1, pI a2, pI a3] w RF NN r w1 RF NN := by
  exact CTi_of (by decide +kernel) (Nat.le_of_ble_eq_true rfl) (Or.inl rfl) (gR_question (res := (r, w1)) E d a1 a2 a3 w h)
def fR_whom_l20_b (rec : Int → Int → Int → WD → Option (Int × WD)) (y1 : Int) (x2 : Int) (x3 : Int) (x4 : Int) (w : WD) : Option (Int × WD) := if (w 46 4) ≤ x4 then (some (x2, w)) else (ci (fR_waysIf x4 y1 w) <| fun (r5 : Int) (u4 : WD) => ci (fR_waysIf x4 (bAnd 127 (bXor y1 (-1))) u4) <| fun (r8 : Int) (u7 : WD) => jn (β := Int → WD → Option (Int × WD)) (fun (s10 : Int) (u11 : WD) => jn (β := Int → Int → WD → Option (Int × WD)) (fun (v2_12 : Int) (v3_13 : Int) (u14 : WD) => bv (w32 (x4 + 1)) <| fun (v4_15 : Int) => rec v2_12 v3_13 v4_15 u14) <| fun J16 => jn (β := WD → Option (Int × WD)) (fun (u17 : WD) => J16 x4 s10 u17) <| fun J18 => if x2 < 0 then (J18 u11) else (if s10 < x3 then (J18 u11) else (J16 x2 x3 u11))) <| fun J21 => if r5 ≤ r8 then (J21 r8 u7) else (J21 r5 u7))
def fR_whom_l20 (y1 : Int) : Nat → Int → Int → Int → WD → Option (Int × WD)
  | 0 => fun _ _ _ _ => none
  | k + 1 => fR_whom_l20_b ( fR_whom_l20 y1 k) y1
set_option maxRecDepth 100000 in
set_option maxHeartbeats 4000000 in
theorem fR_whom_l20_b_ok (E : Nat × (Int → Int)) (d : Nat) {res : Int × WD} {rec : Int → Int → Int → WD → Option (Int × WD)} (y1 : Int) (hrec : ∀ (x2 : Int) (x3 : Int) (x4 : Int) (w : WD), rec x2 x3 x4 w = some res → G E mR_whom (d + 206) 20 [(0, pR 46), (1, pI y1), (2, pI x2), (3, pI x3), (4, pI x4)] [] w RF NN 0 0 (some (pI res.1), res.2, RF, NN)) (x2 : Int) (x3 : Int) (x4 : Int) (w : WD) (h : fR_whom_l20_b rec y1 x2 x3 x4 w = some res) : G E mR_whom (d + 206) 20 [(0, pR 46), (1, pI y1), (2, pI x2), (3, pI x3), (4, pI x4)] [] w RF NN 0 0 (some (pI res.1), res.2, RF, NN) := by
  unfold fR_whom_l20_b at h
  refine g_iload (pc := 20) (j := 4) (dk d_mR_whom 13 rfl) rfl ?_
  refine g_aload_n (pc := 22) (j := 0) (dk d_mR_whom 14 rfl) rfl (by decide) ?_
  refine g_getI (pc := 23) fp_R_144 po_46 (dk d_mR_whom 15 rfl) ?_
  refine h_icmp_ge (pc := 26) (tgt := 93) (dk d_mR_whom 16 rfl) rfl h (fun hc23 h => ?_) (fun hc23 h => ?_)
  · refine g_iload_n (pc := 93) (j := 2) (dk d_mR_whom 50 rfl) rfl ?_
    exact h_iret (pc := 94) rfl (dk d_mR_whom 51 rfl) h
  · refine g_aload_n (pc := 29) (j := 0) (dk d_mR_whom 17 rfl) rfl (by decide) ?_
    refine g_iload (pc := 30) (j := 4) (dk d_mR_whom 18 rfl) rfl ?_
    refine g_iload_n (pc := 32) (j := 1) (dk d_mR_whom 19 rfl) rfl ?_
    refine h_callVi (d := d + 205) (pc := 33) (na := 2) (av := [pI x4, pI y1]) (k0 := 46) po_46 ⟨_, rfl⟩ ⟨rfl, rfl⟩ (dk d_mR_whom 20 rfl) lk_R_329 vm_mR_waysIf rfl rfl (Nat.le_of_ble_eq_true rfl) h (fun r5 u4 hq => kR_waysIf E (d + 0) hq) (fun r5 u4 hb6 h => ?_)
    refine g_istore (pc := 36) (l' := [(5, pI r5), (0, pR 46), (1, pI y1), (2, pI x2), (3, pI x3), (4, pI x4)]) (dk d_mR_whom 21 rfl) (Nat.le_of_ble_eq_true rfl) rfl ?_
    refine g_aload_n (pc := 38) (j := 1) (dk d_mR_whom 22 rfl) rfl (by decide) ?_
    refine g_iload (pc := 39) (j := 5) (dk d_mR_whom 23 rfl) rfl ?_
    refine g_bipush (pc := 41) (dk d_mR_whom 24 rfl) (by decide) ?_
    refine g_iload_n (pc := 43) (j := 2) (dk d_mR_whom 25 rfl) rfl ?_
    refine g_iconst (pc := 44) (dk d_mR_whom 26 rfl) (by decide) ?_
    refine g_ixor (pc := 45) (dk d_mR_whom 27 rfl) ?_
    refine g_iand (pc := 46) (dk d_mR_whom 28 rfl) ?_
    refine h_callVi (d := d + 205) (pc := 47) (na := 2) (av := [pI x4, pI (bAnd 127 (bXor y1 (-1)))]) (k0 := 46) po_46 ⟨_, rfl⟩ ⟨rfl, rfl⟩ (dk d_mR_whom 29 rfl) lk_R_329 vm_mR_waysIf rfl rfl (Nat.le_of_ble_eq_true rfl) h (fun r8 u7 hq => kR_waysIf E (d + 0) hq) (fun r8 u7 hb9 h => ?_)
    refine g_istore (pc := 50) (l' := [(6, pI r8), (5, pI r5), (0, pR 46), (1, pI y1), (2, pI x2), (3, pI x3), (4, pI x4)]) (dk d_mR_whom 30 rfl) (Nat.le_of_ble_eq_true rfl) rfl ?_
    refine g_iload (pc := 52) (j := 1) (dk d_mR_whom 31 rfl) rfl ?_
    refine g_iload (pc := 54) (j := 0) (dk d_mR_whom 32 rfl) rfl ?_
    refine jn_e (fun J => ∀ (s10 : Int) (u11 : WD), J s10 u11 = some res → G E mR_whom (d + 206) 66 [(0, pR 46), (1, pI y1), (2, pI x2), (3, pI x3), (4, pI x4)] [pI s10] u11 RF NN 0 0 (some (pI res.1), res.2, RF, NN)) h (fun s10 u11 h => ?_) (fun J21 hJ21 h => ?_)
    · refine g_istore (pc := 66) (l' := [(7, pI s10), (0, pR 46), (1, pI y1), (2, pI x2), (3, pI x3), (4, pI x4)]) (dk d_mR_whom 37 rfl) (Nat.le_of_ble_eq_true rfl) rfl ?_
      refine g_iload_n (pc := 68) (j := 3) (dk d_mR_whom 38 rfl) rfl ?_
      refine jn_e (fun J => ∀ (v2_12 : Int) (v3_13 : Int) (u14 : WD), J v2_12 v3_13 u14 = some res → G E mR_whom (d + 206) 87 [(0, pR 46), (1, pI y1), (2, pI v2_12), (3, pI v3_13), (4, pI x4)] [] u14 RF NN 0 0 (some (pI res.1), res.2, RF, NN)) h (fun v2_12 v3_13 u14 h => ?_) (fun J16 hJ16 h => ?_)
      · refine h_iinc (pc := 87) (j := 4) (dk d_mR_whom 48 rfl) rfl (by decide) (Nat.le_of_ble_eq_true rfl) h (fun v4_15 h => ?_)
        refine g_loc (l' := [(4, pI v4_15), (0, pR 46), (1, pI y1), (2, pI v2_12), (3, pI v3_13)]) rfl ?_
        refine g_goto (pc := 90) (tgt := 20) (dk d_mR_whom 49 rfl) rfl ?_
        refine g_pick [1, 2, 3, 4, 0] rfl (l' := [(0, pR 46), (1, pI y1), (2, pI v2_12), (3, pI v3_13), (4, pI v4_15)]) rfl ?_
        exact hrec _ _ _ _ h
      · refine jn_e (fun J => ∀ (u17 : WD), J u17 = some res → G E mR_whom (d + 206) 81 [(0, pR 46), (1, pI y1), (4, pI x4), (7, pI s10)] [] u17 RF NN 0 0 (some (pI res.1), res.2, RF, NN)) h (fun u17 h => ?_) (fun J18 hJ18 h => ?_)
        · refine g_iload (pc := 81) (j := 2) (dk d_mR_whom 44 rfl) rfl ?_
          refine g_istore_n (pc := 83) (l' := [(2, pI x4), (0, pR 46), (1, pI y1), (4, pI x4), (7, pI s10)]) (dk d_mR_whom 45 rfl) (Nat.le_of_ble_eq_true rfl) rfl ?_
          refine g_iload (pc := 84) (j := 4) (dk d_mR_whom 46 rfl) rfl ?_
          refine g_istore_n (pc := 86) (l' := [(3, pI s10), (2, pI x4), (0, pR 46), (1, pI y1), (4, pI x4), (7, pI s10)]) (dk d_mR_whom 47 rfl) (Nat.le_of_ble_eq_true rfl) rfl ?_
          refine g_pick [2, 3, 1, 0, 4] rfl (l' := [(0, pR 46), (1, pI y1), (2, pI x4), (3, pI s10), (4, pI x4)]) rfl ?_
          exact hJ16 _ _ _ h
        · refine h_if_lt (pc := 69) (tgt := 81) (dk d_mR_whom 39 rfl) rfl h (fun hc20 h => ?_) (fun hc20 h => ?_)
          · refine g_pick [1, 2, 5, 0] rfl (l' := [(0, pR 46), (1, pI y1), (4, pI x4), (7, pI s10)]) rfl ?_
            exact hJ18 _ h
          · refine g_iload (pc := 72) (j := 0) (dk d_mR_whom 40 rfl) rfl ?_
            refine g_iload_n (pc := 74) (j := 4) (dk d_mR_whom 41 rfl) rfl ?_
            refine h_icmp_lt (pc := 75) (tgt := 81) (dk d_mR_whom 42 rfl) rfl h (fun hc19 h => ?_) (fun hc19 h => ?_)
            · refine g_pick [1, 2, 5, 0] rfl (l' := [(0, pR 46), (1, pI y1), (4, pI x4), (7, pI s10)]) rfl ?_
              exact hJ18 _ h
            · refine g_goto (pc := 78) (tgt := 87) (dk d_mR_whom 43 rfl) rfl ?_
              refine g_pick [1, 2, 3, 4, 5] rfl (l' := [(0, pR 46), (1, pI y1), (2, pI x2), (3, pI x3), (4, pI x4)]) rfl ?_
              exact hJ16 _ _ _ h
    · refine h_icmp_le (pc := 56) (tgt := 64) (dk d_mR_whom 33 rfl) rfl h (fun hc22 h => ?_) (fun hc22 h => ?_)
      · refine g_iload (pc := 64) (j := 0) (dk d_mR_whom 36 rfl) rfl ?_
        refine g_pick [2, 3, 4, 5, 6] rfl (l' := [(0, pR 46), (1, pI y1), (2, pI x2), (3, pI x3), (4, pI x4)]) rfl ?_
        exact hJ21 _ _ h
      · refine g_iload (pc := 59) (j := 1) (dk d_mR_whom 34 rfl) rfl ?_
        refine g_goto (pc := 61) (tgt := 66) (dk d_mR_whom 35 rfl) rfl ?_
        refine g_pick [2, 3, 4, 5, 6] rfl (l' := [(0, pR 46), (1, pI y1), (2, pI x2), (3, pI x3), (4, pI x4)]) rfl ?_
        exact hJ21 _ _ h
set_option maxRecDepth 100000 in
set_option maxHeartbeats 4000000 in
theorem fR_whom_l20_ok (E : Nat × (Int → Int)) (d : Nat) {res : Int × WD} (y1 : Int) : ∀ (k : Nat) (x2 : Int) (x3 : Int) (x4 : Int) (w : WD), fR_whom_l20 y1 k x2 x3 x4 w = some res → G E mR_whom (d + 206) 20 [(0, pR 46), (1, pI y1), (2, pI x2), (3, pI x3), (4, pI x4)] [] w RF NN 0 0 (some (pI res.1), res.2, RF, NN) := by
  intro k
  induction k with
  | zero =>
    intro x2 x3 x4 w h
    exact no_e h
  | succ k ih =>
    intro x2 x3 x4 w h
    exact fR_whom_l20_b_ok E d y1 ih x2 x3 x4 w h
def fR_whom (a1 : Int) (w : WD) : Option (Int × WD) := ci (fR_in a1 0 127 w) <| fun (r2 : Int) (u1 : WD) => if r2 ≠ 0 then (fR_whom_l20 a1 FU (-2) 0 0 u1) else (some ((-1), u1))
set_option maxRecDepth 100000 in
set_option maxHeartbeats 4000000 in
theorem gR_whom (E : Nat × (Int → Int)) (d : Nat) {res : Int × WD} (a1 : Int) (w : WD) (h : fR_whom a1 w = some res) : G E mR_whom (d + 206) 0 [(0, pR 46), (1, pI a1)] [] w RF NN 0 0 (some (pI res.1), res.2, RF, NN) := by
  unfold fR_whom at h
  refine g_iload_n (pc := 0) (j := 1) (dk d_mR_whom 0 rfl) rfl ?_
  refine g_iconst (pc := 1) (dk d_mR_whom 1 rfl) (by decide) ?_
  refine g_bipush (pc := 2) (dk d_mR_whom 2 rfl) (by decide) ?_
  refine h_callSi (d := d + 205) (pc := 4) (na := 3) (av := [pI a1, pI 0, pI 127]) ⟨rfl, rfl⟩ (dk d_mR_whom 3 rfl) lk_R_140 vm_mR_in rfl rfl (Nat.le_of_ble_eq_true rfl) h (fun r2 u1 hq => kR_in E (d + 204) hq) (fun r2 u1 hb3 h => ?_)
  refine h_if_ne (pc := 7) (tgt := 12) (dk d_mR_whom 4 rfl) rfl h (fun hc24 h => ?_) (fun hc24 h => ?_)
  · refine g_bipush (pc := 12) (dk d_mR_whom 7 rfl) (by decide) ?_
    refine g_istore_n (pc := 14) (l' := [(2, pI (-2)), (0, pR 46), (1, pI a1)]) (dk d_mR_whom 8 rfl) (Nat.le_of_ble_eq_true rfl) rfl ?_
    refine g_iconst (pc := 15) (dk d_mR_whom 9 rfl) (by decide) ?_
    refine g_istore_n (pc := 16) (l' := [(3, pI 0), (2, pI (-2)), (0, pR 46), (1, pI a1)]) (dk d_mR_whom 10 rfl) (Nat.le_of_ble_eq_true rfl) rfl ?_
    refine g_iconst (pc := 17) (dk d_mR_whom 11 rfl) (by decide) ?_
    refine g_istore (pc := 18) (l' := [(4, pI 0), (3, pI 0), (2, pI (-2)), (0, pR 46), (1, pI a1)]) (dk d_mR_whom 12 rfl) (Nat.le_of_ble_eq_true rfl) rfl ?_
    refine g_pick [3, 4, 2, 1, 0] rfl (l' := [(0, pR 46), (1, pI a1), (2, pI (-2)), (3, pI 0), (4, pI 0)]) rfl ?_
    refine fR_whom_l20_ok E d a1 FU _ _ _  _ h
  · refine g_iconst (pc := 10) (dk d_mR_whom 5 rfl) (by decide) ?_
    exact h_iret (pc := 11) rfl (dk d_mR_whom 6 rfl) h
set_option maxRecDepth 100000 in
set_option maxHeartbeats 4000000 in
theorem kR_whom (E : Nat × (Int → Int)) (d : Nat) {a1 : Int} {w w1 : WD} {r : Int} (h : fR_whom a1 w = some (r, w1)) : CTi E mR_whom (d + 206) [pR 46, pI a1] w RF NN r w1 RF NN := by
  exact CTi_of (by decide +kernel) (Nat.le_of_ble_eq_true rfl) (Or.inl rfl) (gR_whom (res := (r, w1)) E d a1 w h)
def fR_guessNow_l16_b (rec : Int → Int → WD → Option (Int × WD)) (y1 : Int) (x2 : Int) (x3 : Int) (w : WD) : Option (Int × WD) := if 6 < x3 then (some (x2, w)) else (ci (fR_isWho x3 w) <| fun (r4 : Int) (u3 : WD) => jn (β := Int → WD → Option (Int × WD)) (fun (v2_6 : Int) (u7 : WD) => bv (w32 (x3 + 1)) <| fun (v3_8 : Int) => rec v2_6 v3_8 u7) <| fun J9 => if r4 = 0 then (J9 x2 u3) else (ck (0 ≤ (w32 ((w32 (7 * y1)) + x3)) ∧ (w32 ((w32 (7 * y1)) + x3)) < 35) <| ck (0 ≤ (w32 ((w32 (7 * y1)) + x2)) ∧ (w32 ((w32 (7 * y1)) + x2)) < 35) <| if (u3 68 (w32 ((w32 (7 * y1)) + x3))) ≤ (u3 68 (w32 ((w32 (7 * y1)) + x2))) then (J9 x2 u3) else (J9 x3 u3)))
def fR_guessNow_l16 (y1 : Int) : Nat → Int → Int → WD → Option (Int × WD)
  | 0 => fun _ _ _ => none
  | k + 1 => fR_guessNow_l16_b ( fR_guessNow_l16 y1 k) y1
set_option maxRecDepth 100000 in
set_option maxHeartbeats 4000000 in
theorem fR_guessNow_l16_b_ok (E : Nat × (Int → Int)) (d : Nat) {res : Int × WD} {rec : Int → Int → WD → Option (Int × WD)} (y1 : Int) (hrec : ∀ (x2 : Int) (x3 : Int) (w : WD), rec x2 x3 w = some res → G E mR_guessNow (d + 4) 16 [(0, pR 46), (1, pI y1), (2, pI x2), (3, pI x3)] [] w RF NN 0 0 (some (pI res.1), res.2, RF, NN)) (x2 : Int) (x3 : Int) (w : WD) (h : fR_guessNow_l16_b rec y1 x2 x3 w = some res) : G E mR_guessNow (d + 4) 16 [(0, pR 46), (1, pI y1), (2, pI x2), (3, pI x3)] [] w RF NN 0 0 (some (pI res.1), res.2, RF, NN) := by
  unfold fR_guessNow_l16_b at h
  refine g_iload_n (pc := 16) (j := 3) (dk d_mR_guessNow 9 rfl) rfl ?_
  refine g_bipush (pc := 17) (dk d_mR_guessNow 10 rfl) (by decide) ?_
  refine h_icmp_gt (pc := 19) (tgt := 64) (dk d_mR_guessNow 11 rfl) rfl h (fun hc12 h => ?_) (fun hc12 h => ?_)
  · refine g_iload_n (pc := 64) (j := 2) (dk d_mR_guessNow 38 rfl) rfl ?_
    exact h_iret (pc := 65) rfl (dk d_mR_guessNow 39 rfl) h
  · refine g_aload_n (pc := 22) (j := 0) (dk d_mR_guessNow 12 rfl) rfl (by decide) ?_
    refine g_iload_n (pc := 23) (j := 3) (dk d_mR_guessNow 13 rfl) rfl ?_
    refine h_callVi (d := d + 3) (pc := 24) (na := 1) (av := [pI x3]) (k0 := 46) po_46 ⟨_, rfl⟩ ⟨rfl, rfl⟩ (dk d_mR_guessNow 14 rfl) lk_R_265 vm_mR_isWho rfl rfl (Nat.le_of_ble_eq_true rfl) h (fun r4 u3 hq => kR_isWho E (d + 0) hq) (fun r4 u3 hb5 h => ?_)
    refine jn_e (fun J => ∀ (v2_6 : Int) (u7 : WD), J v2_6 u7 = some res → G E mR_guessNow (d + 4) 58 [(0, pR 46), (1, pI y1), (2, pI v2_6), (3, pI x3)] [] u7 RF NN 0 0 (some (pI res.1), res.2, RF, NN)) h (fun v2_6 u7 h => ?_) (fun J9 hJ9 h => ?_)
    · refine h_iinc (pc := 58) (j := 3) (dk d_mR_guessNow 36 rfl) rfl (by decide) (Nat.le_of_ble_eq_true rfl) h (fun v3_8 h => ?_)
      refine g_loc (l' := [(3, pI v3_8), (0, pR 46), (1, pI y1), (2, pI v2_6)]) rfl ?_
      refine g_goto (pc := 61) (tgt := 16) (dk d_mR_guessNow 37 rfl) rfl ?_
      refine g_pick [1, 2, 3, 0] rfl (l' := [(0, pR 46), (1, pI y1), (2, pI v2_6), (3, pI v3_8)]) rfl ?_
      exact hrec _ _ _ h
    · refine h_if_eq (pc := 27) (tgt := 58) (dk d_mR_guessNow 15 rfl) rfl h (fun hc11 h => ?_) (fun hc11 h => ?_)
      · exact hJ9 _ _ h
      · refine g_aload_n (pc := 30) (j := 0) (dk d_mR_guessNow 16 rfl) rfl (by decide) ?_
        refine g_getR (pc := 31) (a := 68) rfl fp_R_78 po_46 (dk d_mR_guessNow 17 rfl) ?_
        refine g_bipush (pc := 34) (dk d_mR_guessNow 18 rfl) (by decide) ?_
        refine g_iload_n (pc := 36) (j := 1) (dk d_mR_guessNow 19 rfl) rfl ?_
        refine g_imul (pc := 37) (dk d_mR_guessNow 20 rfl) ?_
        refine g_iload_n (pc := 38) (j := 3) (dk d_mR_guessNow 21 rfl) rfl ?_
        refine g_iadd (pc := 39) (dk d_mR_guessNow 22 rfl) ?_
        refine h_lald (pc := 40) (B := 35) pa_68 rfl (dk d_mR_guessNow 23 rfl) h (fun h => ?_)
        refine g_aload_n (pc := 41) (j := 0) (dk d_mR_guessNow 24 rfl) rfl (by decide) ?_
        refine g_getR (pc := 42) (a := 68) rfl fp_R_78 po_46 (dk d_mR_guessNow 25 rfl) ?_
        refine g_bipush (pc := 45) (dk d_mR_guessNow 26 rfl) (by decide) ?_
        refine g_iload_n (pc := 47) (j := 1) (dk d_mR_guessNow 27 rfl) rfl ?_
        refine g_imul (pc := 48) (dk d_mR_guessNow 28 rfl) ?_
        refine g_iload_n (pc := 49) (j := 2) (dk d_mR_guessNow 29 rfl) rfl ?_
        refine g_iadd (pc := 50) (dk d_mR_guessNow 30 rfl) ?_
        refine h_lald (pc := 51) (B := 35) pa_68 rfl (dk d_mR_guessNow 31 rfl) h (fun h => ?_)
        refine h_lcmp_le (pc := 52) (tgt := 58) (dk d_mR_guessNow 32 rfl) (dk d_mR_guessNow 33 rfl) rfl h (fun hc10 h => ?_) (fun hc10 h => ?_)
        · exact hJ9 _ _ h
        · refine g_iload_n (pc := 56) (j := 3) (dk d_mR_guessNow 34 rfl) rfl ?_
          refine g_istore_n (pc := 57) (l' := [(2, pI x3), (0, pR 46), (1, pI y1), (3, pI x3)]) (dk d_mR_guessNow 35 rfl) (Nat.le_of_ble_eq_true rfl) rfl ?_
          refine g_pick [1, 2, 0, 3] rfl (l' := [(0, pR 46), (1, pI y1), (2, pI x3), (3, pI x3)]) rfl ?_
          exact hJ9 _ _ h
set_option maxRecDepth 100000 in
set_option maxHeartbeats 4000000 in
theorem fR_guessNow_l16_ok (E : Nat × (Int → Int)) (d : Nat) {res : Int × WD} (y1 : Int) : ∀ (k : Nat) (x2 : Int) (x3 : Int) (w : WD), fR_guessNow_l16 y1 k x2 x3 w = some res → G E mR_guessNow (d + 4) 16 [(0, pR 46), (1, pI y1), (2, pI x2), (3, pI x3)] [] w RF NN 0 0 (some (pI res.1), res.2, RF, NN) := by
  intro k
  induction k with
  | zero =>
    intro x2 x3 w h
    exact no_e h
  | succ k ih =>
    intro x2 x3 w h
    exact fR_guessNow_l16_b_ok E d y1 ih x2 x3 w h
def fR_guessNow (a1 : Int) (w : WD) : Option (Int × WD) := jn (β := Int → WD → Option (Int × WD)) (fun (s1 : Int) (u2 : WD) => fR_guessNow_l16 a1 FU s1 0 u2) <| fun J13 => if (w 46 1) ≤ 0 then (J13 6 w) else (J13 0 w)
set_option maxRecDepth 100000 in
set_option maxHeartbeats 4000000 in
theorem gR_guessNow (E : Nat × (Int → Int)) (d : Nat) {res : Int × WD} (a1 : Int) (w : WD) (h : fR_guessNow a1 w = some res) : G E mR_guessNow (d + 4) 0 [(0, pR 46), (1, pI a1)] [] w RF NN 0 0 (some (pI res.1), res.2, RF, NN) := by
  unfold fR_guessNow at h
  refine g_aload_n (pc := 0) (j := 0) (dk d_mR_guessNow 0 rfl) rfl (by decide) ?_
  refine g_getI (pc := 1) fp_R_137 po_46 (dk d_mR_guessNow 1 rfl) ?_
  refine jn_e (fun J => ∀ (s1 : Int) (u2 : WD), J s1 u2 = some res → G E mR_guessNow (d + 4) 13 [(0, pR 46), (1, pI a1)] [pI s1] u2 RF NN 0 0 (some (pI res.1), res.2, RF, NN)) h (fun s1 u2 h => ?_) (fun J13 hJ13 h => ?_)
  · refine g_istore_n (pc := 13) (l' := [(2, pI s1), (0, pR 46), (1, pI a1)]) (dk d_mR_guessNow 6 rfl) (Nat.le_of_ble_eq_true rfl) rfl ?_
    refine g_iconst (pc := 14) (dk d_mR_guessNow 7 rfl) (by decide) ?_
    refine g_istore_n (pc := 15) (l' := [(3, pI 0), (2, pI s1), (0, pR 46), (1, pI a1)]) (dk d_mR_guessNow 8 rfl) (Nat.le_of_ble_eq_true rfl) rfl ?_
    refine g_pick [2, 3, 1, 0] rfl (l' := [(0, pR 46), (1, pI a1), (2, pI s1), (3, pI 0)]) rfl ?_
    refine fR_guessNow_l16_ok E d a1 FU _ _  _ h
  · refine h_if_le (pc := 4) (tgt := 11) (dk d_mR_guessNow 2 rfl) rfl h (fun hc14 h => ?_) (fun hc14 h => ?_)
    · refine g_bipush (pc := 11) (dk d_mR_guessNow 5 rfl) (by decide) ?_
      exact hJ13 _ _ h
    · refine g_iconst (pc := 7) (dk d_mR_guessNow 3 rfl) (by decide) ?_
      refine g_goto (pc := 8) (tgt := 13) (dk d_mR_guessNow 4 rfl) rfl ?_
      exact hJ13 _ _ h
set_option maxRecDepth 100000 in
set_option maxHeartbeats 4000000 in
theorem kR_guessNow (E : Nat × (Int → Int)) (d : Nat) {a1 : Int} {w w1 : WD} {r : Int} (h : fR_guessNow a1 w = some (r, w1)) : CTi E mR_guessNow (d + 4) [pR 46, pI a1] w RF NN r w1 RF NN := by
  exact CTi_of (by decide +kernel) (Nat.le_of_ble_eq_true rfl) (Or.inl rfl) (gR_guessNow (res := (r, w1)) E d a1 w h)
def fR_pointsAt (a1 : Int) (w : WD) : Option (Int × WD) := if (w 52 2) ≤ a1 then (some (1, w)) else (some (2, w))
set_option maxRecDepth 100000 in
set_option maxHeartbeats 4000000 in
theorem gR_pointsAt (E : Nat × (Int → Int)) (d : Nat) {res : Int × WD} (a1 : Int) (w : WD) (h : fR_pointsAt a1 w = some res) : G E mR_pointsAt (d + 1) 0 [(0, pR 46), (1, pI a1)] [] w RF NN 0 0 (some (pI res.1), res.2, RF, NN) := by
  unfold fR_pointsAt at h
  refine g_iload_n (pc := 0) (j := 1) (dk d_mR_pointsAt 0 rfl) rfl ?_
  refine g_aload_n (pc := 1) (j := 0) (dk d_mR_pointsAt 1 rfl) rfl (by decide) ?_
  refine g_getR (pc := 2) (a := 52) rfl fp_R_27 po_46 (dk d_mR_pointsAt 2 rfl) ?_
  refine g_iconst (pc := 5) (dk d_mR_pointsAt 3 rfl) (by decide) ?_
  refine g_iald (pc := 6) pa_52 (dk d_mR_pointsAt 4 rfl) (by decide) ?_
  refine h_icmp_ge (pc := 7) (tgt := 14) (dk d_mR_pointsAt 5 rfl) rfl h (fun hc1 h => ?_) (fun hc1 h => ?_)
  · refine g_iconst (pc := 14) (dk d_mR_pointsAt 8 rfl) (by decide) ?_
    exact h_iret (pc := 15) rfl (dk d_mR_pointsAt 9 rfl) h
  · refine g_iconst (pc := 10) (dk d_mR_pointsAt 6 rfl) (by decide) ?_
    refine g_goto (pc := 11) (tgt := 15) (dk d_mR_pointsAt 7 rfl) rfl ?_
    exact h_iret (pc := 15) rfl (dk d_mR_pointsAt 9 rfl) h
set_option maxRecDepth 100000 in
set_option maxHeartbeats 4000000 in
theorem kR_pointsAt (E : Nat × (Int → Int)) (d : Nat) {a1 : Int} {w w1 : WD} {r : Int} (h : fR_pointsAt a1 w = some (r, w1)) : CTi E mR_pointsAt (d + 1) [pR 46, pI a1] w RF NN r w1 RF NN := by
  exact CTi_of (by decide +kernel) (Nat.le_of_ble_eq_true rfl) (Or.inl rfl) (gR_pointsAt (res := (r, w1)) E d a1 w h)
def fR_shareOf_l22_b (rec : Int → Int → Int → WD → Option (Int × WD)) (y2 : Int) (y4 : Int) (x5 : Int) (x6 : Int) (x8 : Int) (w : WD) : Option (Int × WD) := if y4 ≤ x8 then (some (x5, w)) else (bv (w64 (x6 * 10)) <| fun (v6_3 : Int) => ck (y2 ≠ 0) <| bv (w32 ((w32 (10 * x5)) + (w32 (w64 (Int.tdiv v6_3 y2))))) <| fun (v5_4 : Int) => ck (y2 ≠ 0) <| bv (w64 (v6_3 - w64 (w64 (Int.tdiv v6_3 y2) * y2))) <| fun (v6_5 : Int) => bv (w32 (x8 + 1)) <| fun (v8_6 : Int) => rec v5_4 v6_5 v8_6 w)
def fR_shareOf_l22 (y2 : Int) (y4 : Int) : Nat → Int → Int → Int → WD → Option (Int × WD)
  | 0 => fun _ _ _ _ => none
  | k + 1 => fR_shareOf_l22_b ( fR_shareOf_l22 y2 y4 k) y2 y4
set_option maxRecDepth 100000 in
set_option maxHeartbeats 4000000 in
theorem fR_shareOf_l22_b_ok (E : Nat × (Int → Int)) (d : Nat) {res : Int × WD} {rec : Int → Int → Int → WD → Option (Int × WD)} (y2 : Int) (y4 : Int) (hrec : ∀ (x5 : Int) (x6 : Int) (x8 : Int) (w : WD), rec x5 x6 x8 w = some res → G E mR_shareOf (d + 1) 22 [(2, pL y2), (4, pI y4), (5, pI x5), (6, pL x6), (8, pI x8)] [] w RF NN 0 0 (some (pI res.1), res.2, RF, NN)) (x5 : Int) (x6 : Int) (x8 : Int) (w : WD) (h : fR_shareOf_l22_b rec y2 y4 x5 x6 x8 w = some res) : G E mR_shareOf (d + 1) 22 [(2, pL y2), (4, pI y4), (5, pI x5), (6, pL x6), (8, pI x8)] [] w RF NN 0 0 (some (pI res.1), res.2, RF, NN) := by
  unfold fR_shareOf_l22_b at h
  refine g_iload (pc := 22) (j := 4) (dk d_mR_shareOf 17 rfl) rfl ?_
  refine g_iload (pc := 24) (j := 1) (dk d_mR_shareOf 18 rfl) rfl ?_
  refine h_icmp_ge (pc := 26) (tgt := 62) (dk d_mR_shareOf 19 rfl) rfl h (fun hc7 h => ?_) (fun hc7 h => ?_)
  · refine g_iload (pc := 62) (j := 2) (dk d_mR_shareOf 39 rfl) rfl ?_
    exact h_iret (pc := 64) rfl (dk d_mR_shareOf 40 rfl) h
  · refine g_lload (pc := 29) (j := 3) (dk d_mR_shareOf 20 rfl) rfl ?_
    refine g_ldc2 (pc := 31) (u := 10) ck_R_313 (by decide) (dk d_mR_shareOf 21 rfl) ?_
    refine g_lmul (pc := 34) (dk d_mR_shareOf 22 rfl) ?_
    refine h_bvL h (fun v6_3 h => ?_)
    refine g_lstore (pc := 35) (l' := [(6, pL v6_3), (2, pL y2), (4, pI y4), (5, pI x5), (8, pI x8)]) (dk d_mR_shareOf 23 rfl) (Nat.le_of_ble_eq_true rfl) rfl ?_
    refine g_bipush (pc := 37) (dk d_mR_shareOf 24 rfl) (by decide) ?_
    refine g_iload (pc := 39) (j := 3) (dk d_mR_shareOf 25 rfl) rfl ?_
    refine g_imul (pc := 41) (dk d_mR_shareOf 26 rfl) ?_
    refine g_lload (pc := 42) (j := 0) (dk d_mR_shareOf 27 rfl) rfl ?_
    refine g_lload_n (pc := 44) (j := 1) (dk d_mR_shareOf 28 rfl) rfl ?_
    refine h_ldiv (pc := 45) (dk d_mR_shareOf 29 rfl) h (fun h => ?_)
    refine g_l2i (pc := 46) (dk d_mR_shareOf 30 rfl) ?_
    refine g_iadd (pc := 47) (dk d_mR_shareOf 31 rfl) ?_
    refine h_bvI h (fun v5_4 h => ?_)
    refine g_istore (pc := 48) (l' := [(5, pI v5_4), (6, pL v6_3), (2, pL y2), (4, pI y4), (8, pI x8)]) (dk d_mR_shareOf 32 rfl) (Nat.le_of_ble_eq_true rfl) rfl ?_
    refine g_lload (pc := 50) (j := 1) (dk d_mR_shareOf 33 rfl) rfl ?_
    refine g_lload_n (pc := 52) (j := 2) (dk d_mR_shareOf 34 rfl) rfl ?_
    refine h_lrem (pc := 53) (dk d_mR_shareOf 35 rfl) h (fun h => ?_)
    refine h_bvL h (fun v6_5 h => ?_)
    refine g_lstore (pc := 54) (l' := [(6, pL v6_5), (5, pI v5_4), (2, pL y2), (4, pI y4), (8, pI x8)]) (dk d_mR_shareOf 36 rfl) (Nat.le_of_ble_eq_true rfl) rfl ?_
    refine h_iinc (pc := 56) (j := 4) (dk d_mR_shareOf 37 rfl) rfl (by decide) (Nat.le_of_ble_eq_true rfl) h (fun v8_6 h => ?_)
    refine g_loc (l' := [(8, pI v8_6), (6, pL v6_5), (5, pI v5_4), (2, pL y2), (4, pI y4)]) rfl ?_
    refine g_goto (pc := 59) (tgt := 22) (dk d_mR_shareOf 38 rfl) rfl ?_
    refine g_pick [3, 4, 2, 1, 0] rfl (l' := [(2, pL y2), (4, pI y4), (5, pI v5_4), (6, pL v6_5), (8, pI v8_6)]) rfl ?_
    exact hrec _ _ _ _ h
set_option maxRecDepth 100000 in
set_option maxHeartbeats 4000000 in
theorem fR_shareOf_l22_ok (E : Nat × (Int → Int)) (d : Nat) {res : Int × WD} (y2 : Int) (y4 : Int) : ∀ (k : Nat) (x5 : Int) (x6 : Int) (x8 : Int) (w : WD), fR_shareOf_l22 y2 y4 k x5 x6 x8 w = some res → G E mR_shareOf (d + 1) 22 [(2, pL y2), (4, pI y4), (5, pI x5), (6, pL x6), (8, pI x8)] [] w RF NN 0 0 (some (pI res.1), res.2, RF, NN) := by
  intro k
  induction k with
  | zero =>
    intro x5 x6 x8 w h
    exact no_e h
  | succ k ih =>
    intro x5 x6 x8 w h
    exact fR_shareOf_l22_b_ok E d y2 y4 ih x5 x6 x8 w h
def fR_shareOf (a0 : Int) (a2 : Int) (a4 : Int) (w : WD) : Option (Int × WD) := if a2 ≠ 0 then (ck (a2 ≠ 0) <| bv (w32 (w64 (Int.tdiv a0 a2))) <| fun (v5_1 : Int) => ck (a2 ≠ 0) <| bv (w64 (a0 - w64 (w64 (Int.tdiv a0 a2) * a2))) <| fun (v6_2 : Int) => fR_shareOf_l22 a2 a4 FU v5_1 v6_2 0 w) else (some (0, w))
set_option maxRecDepth 100000 in
set_option maxHeartbeats 4000000 in
theorem gR_shareOf (E : Nat × (Int → Int)) (d : Nat) {res : Int × WD} (a0 : Int) (a2 : Int) (a4 : Int) (w : WD) (h : fR_shareOf a0 a2 a4 w = some res) : G E mR_shareOf (d + 1) 0 [(0, pL a0), (2, pL a2), (4, pI a4)] [] w RF NN 0 0 (some (pI res.1), res.2, RF, NN) := by
  unfold fR_shareOf at h
  refine g_lload_n (pc := 0) (j := 1) (dk d_mR_shareOf 0 rfl) rfl ?_
  refine g_lconst0 (pc := 1) (dk d_mR_shareOf 1 rfl) ?_
  refine h_lcmp_ne (pc := 2) (tgt := 8) (dk d_mR_shareOf 2 rfl) (dk d_mR_shareOf 3 rfl) rfl h (fun hc8 h => ?_) (fun hc8 h => ?_)
  · refine g_lload_n (pc := 8) (j := 0) (dk d_mR_shareOf 6 rfl) rfl ?_
    refine g_lload_n (pc := 9) (j := 1) (dk d_mR_shareOf 7 rfl) rfl ?_
    refine h_ldiv (pc := 10) (dk d_mR_shareOf 8 rfl) h (fun h => ?_)
    refine g_l2i (pc := 11) (dk d_mR_shareOf 9 rfl) ?_
    refine h_bvI h (fun v5_1 h => ?_)
    refine g_istore (pc := 12) (l' := [(5, pI v5_1), (0, pL a0), (2, pL a2), (4, pI a4)]) (dk d_mR_shareOf 10 rfl) (Nat.le_of_ble_eq_true rfl) rfl ?_
    refine g_lload_n (pc := 14) (j := 1) (dk d_mR_shareOf 11 rfl) rfl ?_
    refine g_lload_n (pc := 15) (j := 2) (dk d_mR_shareOf 12 rfl) rfl ?_
    refine h_lrem (pc := 16) (dk d_mR_shareOf 13 rfl) h (fun h => ?_)
    refine h_bvL h (fun v6_2 h => ?_)
    refine g_lstore (pc := 17) (l' := [(6, pL v6_2), (5, pI v5_1), (0, pL a0), (2, pL a2), (4, pI a4)]) (dk d_mR_shareOf 14 rfl) (Nat.le_of_ble_eq_true rfl) rfl ?_
    refine g_iconst (pc := 19) (dk d_mR_shareOf 15 rfl) (by decide) ?_
    refine g_istore (pc := 20) (l' := [(8, pI 0), (6, pL v6_2), (5, pI v5_1), (0, pL a0), (2, pL a2), (4, pI a4)]) (dk d_mR_shareOf 16 rfl) (Nat.le_of_ble_eq_true rfl) rfl ?_
    refine g_pick [4, 5, 2, 1, 0] rfl (l' := [(2, pL a2), (4, pI a4), (5, pI v5_1), (6, pL v6_2), (8, pI 0)]) rfl ?_
    refine fR_shareOf_l22_ok E d a2 a4 FU _ _ _  _ h
  · refine g_iconst (pc := 6) (dk d_mR_shareOf 4 rfl) (by decide) ?_
    exact h_iret (pc := 7) rfl (dk d_mR_shareOf 5 rfl) h
set_option maxRecDepth 100000 in
set_option maxHeartbeats 4000000 in
theorem kR_shareOf (E : Nat × (Int → Int)) (d : Nat) {a0 : Int} {a2 : Int} {a4 : Int} {w w1 : WD} {r : Int} (h : fR_shareOf a0 a2 a4 w = some (r, w1)) : CTi E mR_shareOf (d + 1) [pL a0, pL a2, pI a4] w RF NN r w1 RF NN := by
  exact CTi_of (by decide +kernel) (Nat.le_of_ble_eq_true rfl) (Or.inl rfl) (gR_shareOf (res := (r, w1)) E d a0 a2 a4 w h)
def fR_worthNow (a1 : Int) (a2 : Int) (w : WD) : Option (Int × WD) := ci (fR_pointsAt a2 w) <| fun (r2 : Int) (u1 : WD) => ci (fR_guessNow a1 u1) <| fun (r5 : Int) (u4 : WD) => ck (0 ≤ (w32 ((w32 (7 * a1)) + r5)) ∧ (w32 ((w32 (7 * a1)) + r5)) < 35) <| ci (fR_shareOf (w64 (r2 * (u4 68 (w32 ((w32 (7 * a1)) + r5))))) (u4 46 32) 3 u4) <| fun (r8 : Int) (u7 : WD) => some (r8, u7)
set_option maxRecDepth 100000 in
set_option maxHeartbeats 4000000 in
theorem gR_worthNow (E : Nat × (Int → Int)) (d : Nat) {res : Int × WD} (a1 : Int) (a2 : Int) (w : WD) (h : fR_worthNow a1 a2 w = some res) : G E mR_worthNow (d + 5) 0 [(0, pR 46), (1, pI a1), (2, pI a2)] [] w RF NN 0 0 (some (pI res.1), res.2, RF, NN) := by
  unfold fR_worthNow at h
  refine g_aload_n (pc := 0) (j := 0) (dk d_mR_worthNow 0 rfl) rfl (by decide) ?_
  refine g_iload_n (pc := 1) (j := 2) (dk d_mR_worthNow 1 rfl) rfl ?_
  refine h_callVi (d := d + 4) (pc := 2) (na := 1) (av := [pI a2]) (k0 := 46) po_46 ⟨_, rfl⟩ ⟨rfl, rfl⟩ (dk d_mR_worthNow 2 rfl) lk_R_332 vm_mR_pointsAt rfl rfl (Nat.le_of_ble_eq_true rfl) h (fun r2 u1 hq => kR_pointsAt E (d + 3) hq) (fun r2 u1 hb3 h => ?_)
  refine g_i2l (pc := 5) (dk d_mR_worthNow 3 rfl) ?_
  refine g_aload_n (pc := 6) (j := 0) (dk d_mR_worthNow 4 rfl) rfl (by decide) ?_
  refine g_getR (pc := 7) (a := 68) rfl fp_R_78 po_46 (dk d_mR_worthNow 5 rfl) ?_
  refine g_bipush (pc := 10) (dk d_mR_worthNow 6 rfl) (by decide) ?_
  refine g_iload_n (pc := 12) (j := 1) (dk d_mR_worthNow 7 rfl) rfl ?_
  refine g_imul (pc := 13) (dk d_mR_worthNow 8 rfl) ?_
  refine g_aload_n (pc := 14) (j := 0) (dk d_mR_worthNow 9 rfl) rfl (by decide) ?_
  refine g_iload_n (pc := 15) (j := 1) (dk d_mR_worthNow 10 rfl) rfl ?_
  refine h_callVi (d := d + 4) (pc := 16) (na := 1) (av := [pI a1]) (k0 := 46) po_46 ⟨_, rfl⟩ ⟨rfl, rfl⟩ (dk d_mR_worthNow 11 rfl) lk_R_335 vm_mR_guessNow rfl rfl (Nat.le_of_ble_eq_true rfl) h (fun r5 u4 hq => kR_guessNow E (d + 0) hq) (fun r5 u4 hb6 h => ?_)
  refine g_iadd (pc := 19) (dk d_mR_worthNow 12 rfl) ?_
  refine h_lald (pc := 20) (B := 35) pa_68 rfl (dk d_mR_worthNow 13 rfl) h (fun h => ?_)
  refine g_lmul (pc := 21) (dk d_mR_worthNow 14 rfl) ?_
  refine g_aload_n (pc := 22) (j := 0) (dk d_mR_worthNow 15 rfl) rfl (by decide) ?_
  refine g_getL (pc := 23) fp_R_290 po_46 (dk d_mR_worthNow 16 rfl) ?_
  refine g_iconst (pc := 26) (dk d_mR_worthNow 17 rfl) (by decide) ?_
  refine h_callSi (d := d + 4) (pc := 27) (na := 3) (av := [pL (w64 (r2 * (u4 68 (w32 ((w32 (7 * a1)) + r5))))), pL (u4 46 32), pI 3]) ⟨rfl, rfl⟩ (dk d_mR_worthNow 18 rfl) lk_R_338 vm_mR_shareOf rfl rfl (Nat.le_of_ble_eq_true rfl) h (fun r8 u7 hq => kR_shareOf E (d + 3) hq) (fun r8 u7 hb9 h => ?_)
  exact h_iret (pc := 30) rfl (dk d_mR_worthNow 19 rfl) h
set_option maxRecDepth 100000 in
set_option maxHeartbeats 4000000 in
theorem kR_worthNow (E : Nat × (Int → Int)) (d : Nat) {a1 : Int} {a2 : Int} {w w1 : WD} {r : Int} (h : fR_worthNow a1 a2 w = some (r, w1)) : CTi E mR_worthNow (d + 5) [pR 46, pI a1, pI a2] w RF NN r w1 RF NN := by
  exact CTi_of (by decide +kernel) (Nat.le_of_ble_eq_true rfl) (Or.inl rfl) (gR_worthNow (res := (r, w1)) E d a1 a2 w h)
def fR_guess_l78_b (rec : Int → Int → WD → Option (Int × WD)) (y2 : Int) (x4 : Int) (x5 : Int) (w : WD) : Option (Int × WD) := if (w 46 4) ≤ x5 then (some (x4, w)) else (ci (fR_worthNow x5 y2 w) <| fun (r10 : Int) (u9 : WD) => bv (w32 (x4 + r10)) <| fun (v4_12 : Int) => bv (w32 (x5 + 1)) <| fun (v5_13 : Int) => rec v4_12 v5_13 u9)
def fR_guess_l78 (y2 : Int) : Nat → Int → Int → WD → Option (Int × WD)
  | 0 => fun _ _ _ => none
  | k + 1 => fR_guess_l78_b ( fR_guess_l78 y2 k) y2
set_option maxRecDepth 100000 in
set_option maxHeartbeats 4000000 in
theorem fR_guess_l78_b_ok (E : Nat × (Int → Int)) (d : Nat) {res : Int × WD} {rec : Int → Int → WD → Option (Int × WD)} (y2 : Int) (hrec : ∀ (x4 : Int) (x5 : Int) (w : WD), rec x4 x5 w = some res → G E mR_guess (d + 204) 78 [(0, pR 46), (2, pI y2), (4, pI x4), (5, pI x5)] [] w RF NN 0 0 (some (pI res.1), res.2, RF, NN)) (x4 : Int) (x5 : Int) (w : WD) (h : fR_guess_l78_b rec y2 x4 x5 w = some res) : G E mR_guess (d + 204) 78 [(0, pR 46), (2, pI y2), (4, pI x4), (5, pI x5)] [] w RF NN 0 0 (some (pI res.1), res.2, RF, NN) := by
  unfold fR_guess_l78_b at h
  refine g_iload (pc := 78) (j := 3) (dk d_mR_guess 44 rfl) rfl ?_
  refine g_aload_n (pc := 80) (j := 0) (dk d_mR_guess 45 rfl) rfl (by decide) ?_
  refine g_getI (pc := 81) fp_R_144 po_46 (dk d_mR_guess 46 rfl) ?_
  refine h_icmp_ge (pc := 84) (tgt := 105) (dk d_mR_guess 47 rfl) rfl h (fun hc14 h => ?_) (fun hc14 h => ?_)
  · refine g_iload (pc := 105) (j := 2) (dk d_mR_guess 57 rfl) rfl ?_
    exact h_iret (pc := 107) rfl (dk d_mR_guess 58 rfl) h
  · refine g_iload (pc := 87) (j := 2) (dk d_mR_guess 48 rfl) rfl ?_
    refine g_aload_n (pc := 89) (j := 0) (dk d_mR_guess 49 rfl) rfl (by decide) ?_
    refine g_iload (pc := 90) (j := 3) (dk d_mR_guess 50 rfl) rfl ?_
    refine g_iload_n (pc := 92) (j := 1) (dk d_mR_guess 51 rfl) rfl ?_
    refine h_callVi (d := d + 203) (pc := 93) (na := 2) (av := [pI x5, pI y2]) (k0 := 46) po_46 ⟨_, rfl⟩ ⟨rfl, rfl⟩ (dk d_mR_guess 52 rfl) lk_R_342 vm_mR_worthNow rfl rfl (Nat.le_of_ble_eq_true rfl) h (fun r10 u9 hq => kR_worthNow E (d + 198) hq) (fun r10 u9 hb11 h => ?_)
    refine g_iadd (pc := 96) (dk d_mR_guess 53 rfl) ?_
    refine h_bvI h (fun v4_12 h => ?_)
    refine g_istore (pc := 97) (l' := [(4, pI v4_12), (0, pR 46), (2, pI y2), (5, pI x5)]) (dk d_mR_guess 54 rfl) (Nat.le_of_ble_eq_true rfl) rfl ?_
    refine h_iinc (pc := 99) (j := 3) (dk d_mR_guess 55 rfl) rfl (by decide) (Nat.le_of_ble_eq_true rfl) h (fun v5_13 h => ?_)
    refine g_loc (l' := [(5, pI v5_13), (4, pI v4_12), (0, pR 46), (2, pI y2)]) rfl ?_
    refine g_goto (pc := 102) (tgt := 78) (dk d_mR_guess 56 rfl) rfl ?_
    refine g_pick [2, 3, 1, 0] rfl (l' := [(0, pR 46), (2, pI y2), (4, pI v4_12), (5, pI v5_13)]) rfl ?_
    exact hrec _ _ _ h
set_option maxRecDepth 100000 in
set_option maxHeartbeats 4000000 in
theorem fR_guess_l78_ok (E : Nat × (Int → Int)) (d : Nat) {res : Int × WD} (y2 : Int) : ∀ (k : Nat) (x4 : Int) (x5 : Int) (w : WD), fR_guess_l78 y2 k x4 x5 w = some res → G E mR_guess (d + 204) 78 [(0, pR 46), (2, pI y2), (4, pI x4), (5, pI x5)] [] w RF NN 0 0 (some (pI res.1), res.2, RF, NN) := by
  intro k
  induction k with
  | zero =>
    intro x4 x5 w h
    exact no_e h
  | succ k ih =>
    intro x4 x5 w h
    exact fR_guess_l78_b_ok E d y2 ih x4 x5 w h
def fR_guess (a1 : Int) (a2 : Int) (a3 : Int) (w : WD) : Option (Int × WD) := jn (β := WD → Option (Int × WD)) (fun (u1 : WD) => ci (fR_in a2 0 999 u1) <| fun (r3 : Int) (u2 : WD) => if r3 = 0 then (some ((-1), u2)) else (ci (fR_in a3 0 2 u2) <| fun (r6 : Int) (u5 : WD) => if r6 ≠ 0 then (cv (fR_findWays u5) <| fun (u8 : WD) => if 2 ≤ a3 then (fR_guess_l78 a2 FU 0 0 u8) else (if a3 ≠ 0 then (ci (fR_worthNow a1 a2 u8) <| fun (r16 : Int) (u15 : WD) => some (r16, u15)) else (ci (fR_guessNow a1 u8) <| fun (r19 : Int) (u18 : WD) => some (r19, u18)))) else (some ((-1), u5)))) <| fun J25 => if a3 ≠ 2 then (ci (fR_isMask a1 w) <| fun (r27 : Int) (u26 : WD) => if r27 ≠ 0 then (J25 u26) else (some ((-1), u26))) else (if a1 = 0 then (J25 w) else (some ((-1), w)))
set_option maxRecDepth 100000 in
set_option maxHeartbeats 4000000 in
theorem gR_guess (E : Nat × (Int → Int)) (d : Nat) {res : Int × WD} (a1 : Int) (a2 : Int) (a3 : Int) (w : WD) (h : fR_guess a1 a2 a3 w = some res) : G E mR_guess (d + 204) 0 [(0, pR 46), (1, pI a1), (2, pI a2), (3, pI a3)] [] w RF NN 0 0 (some (pI res.1), res.2, RF, NN) := by
  unfold fR_guess at h
  refine g_iload_n (pc := 0) (j := 3) (dk d_mR_guess 0 rfl) rfl ?_
  refine g_iconst (pc := 1) (dk d_mR_guess 1 rfl) (by decide) ?_
  refine jn_e (fun J => ∀ (u1 : WD), J u1 = some res → G E mR_guess (d + 204) 22 [(0, pR 46), (1, pI a1), (2, pI a2), (3, pI a3)] [] u1 RF NN 0 0 (some (pI res.1), res.2, RF, NN)) h (fun u1 h => ?_) (fun J25 hJ25 h => ?_)
  · refine g_iload_n (pc := 22) (j := 2) (dk d_mR_guess 12 rfl) rfl ?_
    refine g_iconst (pc := 23) (dk d_mR_guess 13 rfl) (by decide) ?_
    refine g_sipush (pc := 24) (dk d_mR_guess 14 rfl) (by decide) ?_
    refine h_callSi (d := d + 203) (pc := 27) (na := 3) (av := [pI a2, pI 0, pI 999]) ⟨rfl, rfl⟩ (dk d_mR_guess 15 rfl) lk_R_140 vm_mR_in rfl rfl (Nat.le_of_ble_eq_true rfl) h (fun r3 u2 hq => kR_in E (d + 202) hq) (fun r3 u2 hb4 h => ?_)
    refine h_if_eq (pc := 30) (tgt := 42) (dk d_mR_guess 16 rfl) rfl h (fun hc24 h => ?_) (fun hc24 h => ?_)
    · refine g_iconst (pc := 42) (dk d_mR_guess 22 rfl) (by decide) ?_
      exact h_iret (pc := 43) rfl (dk d_mR_guess 23 rfl) h
    · refine g_iload_n (pc := 33) (j := 3) (dk d_mR_guess 17 rfl) rfl ?_
      refine g_iconst (pc := 34) (dk d_mR_guess 18 rfl) (by decide) ?_
      refine g_iconst (pc := 35) (dk d_mR_guess 19 rfl) (by decide) ?_
      refine h_callSi (d := d + 203) (pc := 36) (na := 3) (av := [pI a3, pI 0, pI 2]) ⟨rfl, rfl⟩ (dk d_mR_guess 20 rfl) lk_R_140 vm_mR_in rfl rfl (Nat.le_of_ble_eq_true rfl) h (fun r6 u5 hq => kR_in E (d + 202) hq) (fun r6 u5 hb7 h => ?_)
      refine h_if_ne (pc := 39) (tgt := 44) (dk d_mR_guess 21 rfl) rfl h (fun hc23 h => ?_) (fun hc23 h => ?_)
      · refine g_aload_n (pc := 44) (j := 0) (dk d_mR_guess 24 rfl) rfl (by decide) ?_
        refine h_callVv (d := d + 203) (pc := 45) (na := 0) (av := []) (k0 := 46) po_46 ⟨_, rfl⟩ ⟨rfl, rfl⟩ (dk d_mR_guess 25 rfl) lk_R_306 vm_mR_findWays rfl rfl (Nat.le_of_ble_eq_true rfl) h (fun u8 hq => kR_findWays E (d + 0) hq) (fun u8 h => ?_)
        refine g_iload_n (pc := 48) (j := 3) (dk d_mR_guess 26 rfl) rfl ?_
        refine g_iconst (pc := 49) (dk d_mR_guess 27 rfl) (by decide) ?_
        refine h_icmp_ge (pc := 50) (tgt := 72) (dk d_mR_guess 28 rfl) rfl h (fun hc22 h => ?_) (fun hc22 h => ?_)
        · refine g_iconst (pc := 72) (dk d_mR_guess 40 rfl) (by decide) ?_
          refine g_istore (pc := 73) (l' := [(4, pI 0), (0, pR 46), (1, pI a1), (2, pI a2), (3, pI a3)]) (dk d_mR_guess 41 rfl) (Nat.le_of_ble_eq_true rfl) rfl ?_
          refine g_iconst (pc := 75) (dk d_mR_guess 42 rfl) (by decide) ?_
          refine g_istore (pc := 76) (l' := [(5, pI 0), (4, pI 0), (0, pR 46), (1, pI a1), (2, pI a2), (3, pI a3)]) (dk d_mR_guess 43 rfl) (Nat.le_of_ble_eq_true rfl) rfl ?_
          refine g_pick [2, 4, 1, 0] rfl (l' := [(0, pR 46), (2, pI a2), (4, pI 0), (5, pI 0)]) rfl ?_
          refine fR_guess_l78_ok E d a2 FU _ _  _ h
        · refine g_iload_n (pc := 53) (j := 3) (dk d_mR_guess 29 rfl) rfl ?_
          refine h_if_ne (pc := 54) (tgt := 65) (dk d_mR_guess 30 rfl) rfl h (fun hc21 h => ?_) (fun hc21 h => ?_)
          · refine g_aload_n (pc := 65) (j := 0) (dk d_mR_guess 35 rfl) rfl (by decide) ?_
            refine g_iload_n (pc := 66) (j := 1) (dk d_mR_guess 36 rfl) rfl ?_
            refine g_iload_n (pc := 67) (j := 2) (dk d_mR_guess 37 rfl) rfl ?_
            refine h_callVi (d := d + 203) (pc := 68) (na := 2) (av := [pI a1, pI a2]) (k0 := 46) po_46 ⟨_, rfl⟩ ⟨rfl, rfl⟩ (dk d_mR_guess 38 rfl) lk_R_342 vm_mR_worthNow rfl rfl (Nat.le_of_ble_eq_true rfl) h (fun r16 u15 hq => kR_worthNow E (d + 198) hq) (fun r16 u15 hb17 h => ?_)
            exact h_iret (pc := 71) rfl (dk d_mR_guess 39 rfl) h
          · refine g_aload_n (pc := 57) (j := 0) (dk d_mR_guess 31 rfl) rfl (by decide) ?_
            refine g_iload_n (pc := 58) (j := 1) (dk d_mR_guess 32 rfl) rfl ?_
            refine h_callVi (d := d + 203) (pc := 59) (na := 1) (av := [pI a1]) (k0 := 46) po_46 ⟨_, rfl⟩ ⟨rfl, rfl⟩ (dk d_mR_guess 33 rfl) lk_R_335 vm_mR_guessNow rfl rfl (Nat.le_of_ble_eq_true rfl) h (fun r19 u18 hq => kR_guessNow E (d + 199) hq) (fun r19 u18 hb20 h => ?_)
            refine g_goto (pc := 62) (tgt := 71) (dk d_mR_guess 34 rfl) rfl ?_
            exact h_iret (pc := 71) rfl (dk d_mR_guess 39 rfl) h
      · refine g_iconst (pc := 42) (dk d_mR_guess 22 rfl) (by decide) ?_
        exact h_iret (pc := 43) rfl (dk d_mR_guess 23 rfl) h
  · refine h_icmp_ne (pc := 2) (tgt := 12) (dk d_mR_guess 2 rfl) rfl h (fun hc31 h => ?_) (fun hc31 h => ?_)
    · refine g_aload_n (pc := 12) (j := 0) (dk d_mR_guess 6 rfl) rfl (by decide) ?_
      refine g_iload_n (pc := 13) (j := 1) (dk d_mR_guess 7 rfl) rfl ?_
      refine h_callVi (d := d + 203) (pc := 14) (na := 1) (av := [pI a1]) (k0 := 46) po_46 ⟨_, rfl⟩ ⟨rfl, rfl⟩ (dk d_mR_guess 8 rfl) lk_R_177 vm_mR_isMask rfl rfl (Nat.le_of_ble_eq_true rfl) h (fun r27 u26 hq => kR_isMask E (d + 201) hq) (fun r27 u26 hb28 h => ?_)
      refine h_if_ne (pc := 17) (tgt := 22) (dk d_mR_guess 9 rfl) rfl h (fun hc29 h => ?_) (fun hc29 h => ?_)
      · exact hJ25 _ h
      · refine g_iconst (pc := 20) (dk d_mR_guess 10 rfl) (by decide) ?_
        exact h_iret (pc := 21) rfl (dk d_mR_guess 11 rfl) h
    · refine g_iload_n (pc := 5) (j := 1) (dk d_mR_guess 3 rfl) rfl ?_
      refine h_if_eq (pc := 6) (tgt := 22) (dk d_mR_guess 4 rfl) rfl h (fun hc30 h => ?_) (fun hc30 h => ?_)
      · exact hJ25 _ h
      · refine g_goto (pc := 9) (tgt := 20) (dk d_mR_guess 5 rfl) rfl ?_
        refine g_iconst (pc := 20) (dk d_mR_guess 10 rfl) (by decide) ?_
        exact h_iret (pc := 21) rfl (dk d_mR_guess 11 rfl) h
set_option maxRecDepth 100000 in
set_option maxHeartbeats 4000000 in
theorem kR_guess (E : Nat × (Int → Int)) (d : Nat) {a1 : Int} {a2 : Int} {a3 : Int} {w w1 : WD} {r : Int} (h : fR_guess a1 a2 a3 w = some (r, w1)) : CTi E mR_guess (d + 204) [pR 46, pI a1, pI a2, pI a3] w RF NN r w1 RF NN := by
  exact CTi_of (by decide +kernel) (Nat.le_of_ble_eq_true rfl) (Or.inl rfl) (gR_guess (res := (r, w1)) E d a1 a2 a3 w h)
def fR_lacks (a1 : Int) (a2 : Int) (w : WD) : Option (Int × WD) := ci (fR_isMask a1 w) <| fun (r2 : Int) (u1 : WD) => if r2 = 0 then (some ((-1), u1)) else (ci (fR_in a2 0 999 u1) <| fun (r5 : Int) (u4 : WD) => if r5 ≠ 0 then (if a2 < (u4 52 2) then (cv (fR_findWays u4) <| fun (u7 : WD) => ci (fR_guessNow a1 u7) <| fun (r9 : Int) (u8 : WD) => ck (0 ≤ (w32 ((w32 (7 * a1)) + r9)) ∧ (w32 ((w32 (7 * a1)) + r9)) < 35) <| ci (fR_shareOf (u8 68 (w32 ((w32 (7 * a1)) + r9))) (u8 46 32) 3 u8) <| fun (r12 : Int) (u11 : WD) => if (w32 (1000 - r12)) ≤ r12 then (some ((w32 (1000 - r12)), u11)) else (some (r12, u11))) else (some (0, u4))) else (some ((-1), u4)))
set_option maxRecDepth 100000 in
set_option maxHeartbeats 4000000 in
theorem gR_lacks (E : Nat × (Int → Int)) (d : Nat) {res : Int × WD} (a1 : Int) (a2 : Int) (w : WD) (h : fR_lacks a1 a2 w = some res) : G E mR_lacks (d + 204) 0 [(0, pR 46), (1, pI a1), (2, pI a2)] [] w RF NN 0 0 (some (pI res.1), res.2, RF, NN) := by
  unfold fR_lacks at h
  refine g_aload_n (pc := 0) (j := 0) (dk d_mR_lacks 0 rfl) rfl (by decide) ?_
  refine g_iload_n (pc := 1) (j := 1) (dk d_mR_lacks 1 rfl) rfl ?_
  refine h_callVi (d := d + 203) (pc := 2) (na := 1) (av := [pI a1]) (k0 := 46) po_46 ⟨_, rfl⟩ ⟨rfl, rfl⟩ (dk d_mR_lacks 2 rfl) lk_R_177 vm_mR_isMask rfl rfl (Nat.le_of_ble_eq_true rfl) h (fun r2 u1 hq => kR_isMask E (d + 201) hq) (fun r2 u1 hb3 h => ?_)
  refine h_if_eq (pc := 5) (tgt := 19) (dk d_mR_lacks 3 rfl) rfl h (fun hc17 h => ?_) (fun hc17 h => ?_)
  · refine g_iconst (pc := 19) (dk d_mR_lacks 9 rfl) (by decide) ?_
    exact h_iret (pc := 20) rfl (dk d_mR_lacks 10 rfl) h
  · refine g_iload_n (pc := 8) (j := 2) (dk d_mR_lacks 4 rfl) rfl ?_
    refine g_iconst (pc := 9) (dk d_mR_lacks 5 rfl) (by decide) ?_
    refine g_sipush (pc := 10) (dk d_mR_lacks 6 rfl) (by decide) ?_
    refine h_callSi (d := d + 203) (pc := 13) (na := 3) (av := [pI a2, pI 0, pI 999]) ⟨rfl, rfl⟩ (dk d_mR_lacks 7 rfl) lk_R_140 vm_mR_in rfl rfl (Nat.le_of_ble_eq_true rfl) h (fun r5 u4 hq => kR_in E (d + 202) hq) (fun r5 u4 hb6 h => ?_)
    refine h_if_ne (pc := 16) (tgt := 21) (dk d_mR_lacks 8 rfl) rfl h (fun hc16 h => ?_) (fun hc16 h => ?_)
    · refine g_iload_n (pc := 21) (j := 2) (dk d_mR_lacks 11 rfl) rfl ?_
      refine g_aload_n (pc := 22) (j := 0) (dk d_mR_lacks 12 rfl) rfl (by decide) ?_
      refine g_getR (pc := 23) (a := 52) rfl fp_R_27 po_46 (dk d_mR_lacks 13 rfl) ?_
      refine g_iconst (pc := 26) (dk d_mR_lacks 14 rfl) (by decide) ?_
      refine g_iald (pc := 27) pa_52 (dk d_mR_lacks 15 rfl) (by decide) ?_
      refine h_icmp_lt (pc := 28) (tgt := 33) (dk d_mR_lacks 16 rfl) rfl h (fun hc15 h => ?_) (fun hc15 h => ?_)
      · refine g_aload_n (pc := 33) (j := 0) (dk d_mR_lacks 19 rfl) rfl (by decide) ?_
        refine h_callVv (d := d + 203) (pc := 34) (na := 0) (av := []) (k0 := 46) po_46 ⟨_, rfl⟩ ⟨rfl, rfl⟩ (dk d_mR_lacks 20 rfl) lk_R_306 vm_mR_findWays rfl rfl (Nat.le_of_ble_eq_true rfl) h (fun u7 hq => kR_findWays E (d + 0) hq) (fun u7 h => ?_)
        refine g_aload_n (pc := 37) (j := 0) (dk d_mR_lacks 21 rfl) rfl (by decide) ?_
        refine g_getR (pc := 38) (a := 68) rfl fp_R_78 po_46 (dk d_mR_lacks 22 rfl) ?_
        refine g_bipush (pc := 41) (dk d_mR_lacks 23 rfl) (by decide) ?_
        refine g_iload_n (pc := 43) (j := 1) (dk d_mR_lacks 24 rfl) rfl ?_
        refine g_imul (pc := 44) (dk d_mR_lacks 25 rfl) ?_
        refine g_aload_n (pc := 45) (j := 0) (dk d_mR_lacks 26 rfl) rfl (by decide) ?_
        refine g_iload_n (pc := 46) (j := 1) (dk d_mR_lacks 27 rfl) rfl ?_
        refine h_callVi (d := d + 203) (pc := 47) (na := 1) (av := [pI a1]) (k0 := 46) po_46 ⟨_, rfl⟩ ⟨rfl, rfl⟩ (dk d_mR_lacks 28 rfl) lk_R_335 vm_mR_guessNow rfl rfl (Nat.le_of_ble_eq_true rfl) h (fun r9 u8 hq => kR_guessNow E (d + 199) hq) (fun r9 u8 hb10 h => ?_)
        refine g_iadd (pc := 50) (dk d_mR_lacks 29 rfl) ?_
        refine h_lald (pc := 51) (B := 35) pa_68 rfl (dk d_mR_lacks 30 rfl) h (fun h => ?_)
        refine g_aload_n (pc := 52) (j := 0) (dk d_mR_lacks 31 rfl) rfl (by decide) ?_
        refine g_getL (pc := 53) fp_R_290 po_46 (dk d_mR_lacks 32 rfl) ?_
        refine g_iconst (pc := 56) (dk d_mR_lacks 33 rfl) (by decide) ?_
        refine h_callSi (d := d + 203) (pc := 57) (na := 3) (av := [pL (u8 68 (w32 ((w32 (7 * a1)) + r9))), pL (u8 46 32), pI 3]) ⟨rfl, rfl⟩ (dk d_mR_lacks 34 rfl) lk_R_338 vm_mR_shareOf rfl rfl (Nat.le_of_ble_eq_true rfl) h (fun r12 u11 hq => kR_shareOf E (d + 202) hq) (fun r12 u11 hb13 h => ?_)
        refine g_istore_n (pc := 60) (l' := [(3, pI r12), (0, pR 46), (1, pI a1), (2, pI a2)]) (dk d_mR_lacks 35 rfl) (Nat.le_of_ble_eq_true rfl) rfl ?_
        refine g_iload_n (pc := 61) (j := 0) (dk d_mR_lacks 36 rfl) rfl ?_
        refine g_sipush (pc := 62) (dk d_mR_lacks 37 rfl) (by decide) ?_
        refine g_iload_n (pc := 65) (j := 0) (dk d_mR_lacks 38 rfl) rfl ?_
        refine g_isub (pc := 66) (dk d_mR_lacks 39 rfl) ?_
        refine h_icmp_ge (pc := 67) (tgt := 74) (dk d_mR_lacks 40 rfl) rfl h (fun hc14 h => ?_) (fun hc14 h => ?_)
        · refine g_sipush (pc := 74) (dk d_mR_lacks 43 rfl) (by decide) ?_
          refine g_iload_n (pc := 77) (j := 0) (dk d_mR_lacks 44 rfl) rfl ?_
          refine g_isub (pc := 78) (dk d_mR_lacks 45 rfl) ?_
          exact h_iret (pc := 79) rfl (dk d_mR_lacks 46 rfl) h
        · refine g_iload_n (pc := 70) (j := 0) (dk d_mR_lacks 41 rfl) rfl ?_
          refine g_goto (pc := 71) (tgt := 79) (dk d_mR_lacks 42 rfl) rfl ?_
          exact h_iret (pc := 79) rfl (dk d_mR_lacks 46 rfl) h
      · refine g_iconst (pc := 31) (dk d_mR_lacks 17 rfl) (by decide) ?_
        exact h_iret (pc := 32) rfl (dk d_mR_lacks 18 rfl) h
    · refine g_iconst (pc := 19) (dk d_mR_lacks 9 rfl) (by decide) ?_
      exact h_iret (pc := 20) rfl (dk d_mR_lacks 10 rfl) h
set_option maxRecDepth 100000 in
set_option maxHeartbeats 4000000 in
theorem kR_lacks (E : Nat × (Int → Int)) (d : Nat) {a1 : Int} {a2 : Int} {w w1 : WD} {r : Int} (h : fR_lacks a1 a2 w = some (r, w1)) : CTi E mR_lacks (d + 204) [pR 46, pI a1, pI a2] w RF NN r w1 RF NN := by
  exact CTi_of (by decide +kernel) (Nat.le_of_ble_eq_true rfl) (Or.inl rfl) (gR_lacks (res := (r, w1)) E d a1 a2 w h)
def fR_areLike_l3_b (rec : Int → WD → Option (Int × WD)) (y1 : Int) (y2 : Int) (y3 : Int) (x4 : Int) (w : WD) : Option (Int × WD) := if 3 ≤ x4 then (some (1, w)) else (jn (β := WD → Option (Int × WD)) (fun (u1 : WD) => bv (w32 (x4 + 1)) <| fun (v4_2 : Int) => rec v4_2 u1) <| fun J3 => if (bAnd (bShr y3 x4) 1) ≠ 1 then (J3 w) else (ck (0 ≤ (w32 ((w32 (3 * y1)) + x4)) ∧ (w32 ((w32 (3 * y1)) + x4)) < 18) <| ck (0 ≤ (w32 ((w32 (3 * y2)) + x4)) ∧ (w32 ((w32 (3 * y2)) + x4)) < 18) <| if (w 47 (w32 ((w32 (3 * y1)) + x4))) = (w 47 (w32 ((w32 (3 * y2)) + x4))) then (J3 w) else (some (0, w))))
def fR_areLike_l3 (y1 : Int) (y2 : Int) (y3 : Int) : Nat → Int → WD → Option (Int × WD)
  | 0 => fun _ _ => none
  | k + 1 => fR_areLike_l3_b ( fR_areLike_l3 y1 y2 y3 k) y1 y2 y3
set_option maxRecDepth 100000 in
set_option maxHeartbeats 4000000 in
theorem fR_areLike_l3_b_ok (E : Nat × (Int → Int)) (d : Nat) {res : Int × WD} {rec : Int → WD → Option (Int × WD)} (y1 : Int) (y2 : Int) (y3 : Int) (hrec : ∀ (x4 : Int) (w : WD), rec x4 w = some res → G E mR_areLike (d + 1) 3 [(0, pR 46), (1, pI y1), (2, pI y2), (3, pI y3), (4, pI x4)] [] w RF NN 0 0 (some (pI res.1), res.2, RF, NN)) (x4 : Int) (w : WD) (h : fR_areLike_l3_b rec y1 y2 y3 x4 w = some res) : G E mR_areLike (d + 1) 3 [(0, pR 46), (1, pI y1), (2, pI y2), (3, pI y3), (4, pI x4)] [] w RF NN 0 0 (some (pI res.1), res.2, RF, NN) := by
  unfold fR_areLike_l3_b at h
  refine g_iload (pc := 3) (j := 4) (dk d_mR_areLike 2 rfl) rfl ?_
  refine g_iconst (pc := 5) (dk d_mR_areLike 3 rfl) (by decide) ?_
  refine h_icmp_ge (pc := 6) (tgt := 52) (dk d_mR_areLike 4 rfl) rfl h (fun hc6 h => ?_) (fun hc6 h => ?_)
  · refine g_iconst (pc := 52) (dk d_mR_areLike 33 rfl) (by decide) ?_
    exact h_zret (pc := 53) (Or.inr rfl) (dk d_mR_areLike 34 rfl) h
  · refine g_iload_n (pc := 9) (j := 3) (dk d_mR_areLike 5 rfl) rfl ?_
    refine g_iload (pc := 10) (j := 4) (dk d_mR_areLike 6 rfl) rfl ?_
    refine g_ishr (pc := 12) (dk d_mR_areLike 7 rfl) ?_
    refine g_iconst (pc := 13) (dk d_mR_areLike 8 rfl) (by decide) ?_
    refine g_iand (pc := 14) (dk d_mR_areLike 9 rfl) ?_
    refine g_iconst (pc := 15) (dk d_mR_areLike 10 rfl) (by decide) ?_
    refine jn_e (fun J => ∀ (u1 : WD), J u1 = some res → G E mR_areLike (d + 1) 46 [(0, pR 46), (1, pI y1), (2, pI y2), (3, pI y3), (4, pI x4)] [] u1 RF NN 0 0 (some (pI res.1), res.2, RF, NN)) h (fun u1 h => ?_) (fun J3 hJ3 h => ?_)
    · refine h_iinc (pc := 46) (j := 4) (dk d_mR_areLike 31 rfl) rfl (by decide) (Nat.le_of_ble_eq_true rfl) h (fun v4_2 h => ?_)
      refine g_loc (l' := [(4, pI v4_2), (0, pR 46), (1, pI y1), (2, pI y2), (3, pI y3)]) rfl ?_
      refine g_goto (pc := 49) (tgt := 3) (dk d_mR_areLike 32 rfl) rfl ?_
      refine g_pick [1, 2, 3, 4, 0] rfl (l' := [(0, pR 46), (1, pI y1), (2, pI y2), (3, pI y3), (4, pI v4_2)]) rfl ?_
      exact hrec _ _ h
    · refine h_icmp_ne (pc := 16) (tgt := 46) (dk d_mR_areLike 11 rfl) rfl h (fun hc5 h => ?_) (fun hc5 h => ?_)
      · exact hJ3 _ h
      · refine g_aload_n (pc := 19) (j := 0) (dk d_mR_areLike 12 rfl) rfl (by decide) ?_
        refine g_getR (pc := 20) (a := 47) rfl fp_R_9 po_46 (dk d_mR_areLike 13 rfl) ?_
        refine g_iconst (pc := 23) (dk d_mR_areLike 14 rfl) (by decide) ?_
        refine g_iload_n (pc := 24) (j := 1) (dk d_mR_areLike 15 rfl) rfl ?_
        refine g_imul (pc := 25) (dk d_mR_areLike 16 rfl) ?_
        refine g_iload (pc := 26) (j := 4) (dk d_mR_areLike 17 rfl) rfl ?_
        refine g_iadd (pc := 28) (dk d_mR_areLike 18 rfl) ?_
        refine h_iald (pc := 29) (B := 18) pa_47 rfl (dk d_mR_areLike 19 rfl) h (fun h => ?_)
        refine g_aload_n (pc := 30) (j := 0) (dk d_mR_areLike 20 rfl) rfl (by decide) ?_
        refine g_getR (pc := 31) (a := 47) rfl fp_R_9 po_46 (dk d_mR_areLike 21 rfl) ?_
        refine g_iconst (pc := 34) (dk d_mR_areLike 22 rfl) (by decide) ?_
        refine g_iload_n (pc := 35) (j := 2) (dk d_mR_areLike 23 rfl) rfl ?_
        refine g_imul (pc := 36) (dk d_mR_areLike 24 rfl) ?_
        refine g_iload (pc := 37) (j := 4) (dk d_mR_areLike 25 rfl) rfl ?_
        refine g_iadd (pc := 39) (dk d_mR_areLike 26 rfl) ?_
        refine h_iald (pc := 40) (B := 18) pa_47 rfl (dk d_mR_areLike 27 rfl) h (fun h => ?_)
        refine h_icmp_eq (pc := 41) (tgt := 46) (dk d_mR_areLike 28 rfl) rfl h (fun hc4 h => ?_) (fun hc4 h => ?_)
        · exact hJ3 _ h
        · refine g_iconst (pc := 44) (dk d_mR_areLike 29 rfl) (by decide) ?_
          exact h_zret (pc := 45) (Or.inl rfl) (dk d_mR_areLike 30 rfl) h
set_option maxRecDepth 100000 in
set_option maxHeartbeats 4000000 in
theorem fR_areLike_l3_ok (E : Nat × (Int → Int)) (d : Nat) {res : Int × WD} (y1 : Int) (y2 : Int) (y3 : Int) : ∀ (k : Nat) (x4 : Int) (w : WD), fR_areLike_l3 y1 y2 y3 k x4 w = some res → G E mR_areLike (d + 1) 3 [(0, pR 46), (1, pI y1), (2, pI y2), (3, pI y3), (4, pI x4)] [] w RF NN 0 0 (some (pI res.1), res.2, RF, NN) := by
  intro k
  induction k with
  | zero =>
    intro x4 w h
    exact no_e h
  | succ k ih =>
    intro x4 w h
    exact fR_areLike_l3_b_ok E d y1 y2 y3 ih x4 w h
def fR_areLike (a1 : Int) (a2 : Int) (a3 : Int) (w : WD) : Option (Int × WD) := fR_areLike_l3 a1 a2 a3 FU 0 w
set_option maxRecDepth 100000 in
set_option maxHeartbeats 4000000 in
theorem gR_areLike (E : Nat × (Int → Int)) (d : Nat) {res : Int × WD} (a1 : Int) (a2 : Int) (a3 : Int) (w : WD) (h : fR_areLike a1 a2 a3 w = some res) : G E mR_areLike (d + 1) 0 [(0, pR 46), (1, pI a1), (2, pI a2), (3, pI a3)] [] w RF NN 0 0 (some (pI res.1), res.2, RF, NN) := by
  unfold fR_areLike at h
  refine g_iconst (pc := 0) (dk d_mR_areLike 0 rfl) (by decide) ?_
  refine g_istore (pc := 1) (l' := [(4, pI 0), (0, pR 46), (1, pI a1), (2, pI a2), (3, pI a3)]) (dk d_mR_areLike 1 rfl) (Nat.le_of_ble_eq_true rfl) rfl ?_
  refine g_pick [1, 2, 3, 4, 0] rfl (l' := [(0, pR 46), (1, pI a1), (2, pI a2), (3, pI a3), (4, pI 0)]) rfl ?_
  refine fR_areLike_l3_ok E d a1 a2 a3 FU _  _ h
set_option maxRecDepth 100000 in
set_option maxHeartbeats 4000000 in
theorem kR_areLike (E : Nat × (Int → Int)) (d : Nat) {a1 : Int} {a2 : Int} {a3 : Int} {w w1 : WD} {r : Int} (h : fR_areLike a1 a2 a3 w = some (r, w1)) : CTi E mR_areLike (d + 1) [pR 46, pI a1, pI a2, pI a3] w RF NN r w1 RF NN := by
  exact CTi_of (by decide +kernel) (Nat.le_of_ble_eq_true rfl) (Or.inr rfl) (gR_areLike (res := (r, w1)) E d a1 a2 a3 w h)
def fR_allDiffer_l12_b (rec : Int → WD → Option (Int × WD)) (y1 : Int) (y2 : Int) (K0 : WD → Option (Int × WD)) (x3 : Int) (w : WD) : Option (Int × WD) := if y2 ≤ x3 then (K0 w) else (ci (fR_areLike y2 x3 y1 w) <| fun (r2 : Int) (u1 : WD) => if r2 = 0 then (bv (w32 (x3 + 1)) <| fun (v3_4 : Int) => rec v3_4 u1) else (some (0, u1)))
def fR_allDiffer_l12 (y1 : Int) (y2 : Int) (K0 : WD → Option (Int × WD)) : Nat → Int → WD → Option (Int × WD)
  | 0 => fun _ _ => none
  | k + 1 => fR_allDiffer_l12_b ( fR_allDiffer_l12 y1 y2 K0 k) y1 y2 K0
set_option maxRecDepth 100000 in
set_option maxHeartbeats 4000000 in
theorem fR_allDiffer_l12_b_ok (E : Nat × (Int → Int)) (d : Nat) {res : Int × WD} {rec : Int → WD → Option (Int × WD)} (y1 : Int) (y2 : Int) (K0 : WD → Option (Int × WD)) (hrec : ∀ (x3 : Int) (w : WD), rec x3 w = some res → G E mR_allDiffer (d + 2) 12 [(0, pR 46), (1, pI y1), (2, pI y2), (3, pI x3)] [] w RF NN 0 0 (some (pI res.1), res.2, RF, NN)) (hK0 : ∀ (w : WD), K0 w = some res → G E mR_allDiffer (d + 2) 35 [(0, pR 46), (1, pI y1), (2, pI y2)] [] w RF NN 0 0 (some (pI res.1), res.2, RF, NN)) (x3 : Int) (w : WD) (h : fR_allDiffer_l12_b rec y1 y2 K0 x3 w = some res) : G E mR_allDiffer (d + 2) 12 [(0, pR 46), (1, pI y1), (2, pI y2), (3, pI x3)] [] w RF NN 0 0 (some (pI res.1), res.2, RF, NN) := by
  unfold fR_allDiffer_l12_b at h
  refine g_iload_n (pc := 12) (j := 3) (dk d_mR_allDiffer 8 rfl) rfl ?_
  refine g_iload_n (pc := 13) (j := 2) (dk d_mR_allDiffer 9 rfl) rfl ?_
  refine h_icmp_ge (pc := 14) (tgt := 35) (dk d_mR_allDiffer 10 rfl) rfl h (fun hc6 h => ?_) (fun hc6 h => ?_)
  · refine g_pick [0, 1, 2] rfl (l' := [(0, pR 46), (1, pI y1), (2, pI y2)]) rfl ?_
    exact hK0 _ h
  · refine g_aload_n (pc := 17) (j := 0) (dk d_mR_allDiffer 11 rfl) rfl (by decide) ?_
    refine g_iload_n (pc := 18) (j := 2) (dk d_mR_allDiffer 12 rfl) rfl ?_
    refine g_iload_n (pc := 19) (j := 3) (dk d_mR_allDiffer 13 rfl) rfl ?_
    refine g_iload_n (pc := 20) (j := 1) (dk d_mR_allDiffer 14 rfl) rfl ?_
    refine h_callVi (d := d + 1) (pc := 21) (na := 3) (av := [pI y2, pI x3, pI y1]) (k0 := 46) po_46 ⟨_, rfl⟩ ⟨rfl, rfl⟩ (dk d_mR_allDiffer 15 rfl) lk_R_345 vm_mR_areLike rfl rfl (Nat.le_of_ble_eq_true rfl) h (fun r2 u1 hq => kR_areLike E (d + 0) hq) (fun r2 u1 hb3 h => ?_)
    refine h_if_eq (pc := 24) (tgt := 29) (dk d_mR_allDiffer 16 rfl) rfl h (fun hc5 h => ?_) (fun hc5 h => ?_)
    · refine h_iinc (pc := 29) (j := 3) (dk d_mR_allDiffer 19 rfl) rfl (by decide) (Nat.le_of_ble_eq_true rfl) h (fun v3_4 h => ?_)
      refine g_loc (l' := [(3, pI v3_4), (0, pR 46), (1, pI y1), (2, pI y2)]) rfl ?_
      refine g_goto (pc := 32) (tgt := 12) (dk d_mR_allDiffer 20 rfl) rfl ?_
      refine g_pick [1, 2, 3, 0] rfl (l' := [(0, pR 46), (1, pI y1), (2, pI y2), (3, pI v3_4)]) rfl ?_
      exact hrec _ _ h
    · refine g_iconst (pc := 27) (dk d_mR_allDiffer 17 rfl) (by decide) ?_
      exact h_zret (pc := 28) (Or.inl rfl) (dk d_mR_allDiffer 18 rfl) h
set_option maxRecDepth 100000 in
set_option maxHeartbeats 4000000 in
theorem fR_allDiffer_l12_ok (E : Nat × (Int → Int)) (d : Nat) {res : Int × WD} (y1 : Int) (y2 : Int) (K0 : WD → Option (Int × WD)) (hK0 : ∀ (w : WD), K0 w = some res → G E mR_allDiffer (d + 2) 35 [(0, pR 46), (1, pI y1), (2, pI y2)] [] w RF NN 0 0 (some (pI res.1), res.2, RF, NN)) : ∀ (k : Nat) (x3 : Int) (w : WD), fR_allDiffer_l12 y1 y2 K0 k x3 w = some res → G E mR_allDiffer (d + 2) 12 [(0, pR 46), (1, pI y1), (2, pI y2), (3, pI x3)] [] w RF NN 0 0 (some (pI res.1), res.2, RF, NN) := by
  intro k
  induction k with
  | zero =>
    intro x3 w h
    exact no_e h
  | succ k ih =>
    intro x3 w h
    exact fR_allDiffer_l12_b_ok E d y1 y2 K0 ih hK0 x3 w h
def fR_allDiffer_l2_b (rec : Int → WD → Option (Int × WD)) (y1 : Int) (x2 : Int) (w : WD) : Option (Int × WD) := if (w 46 1) ≤ x2 then (some (1, w)) else (fR_allDiffer_l12 y1 x2 (fun (u7 : WD) => bv (w32 (x2 + 1)) <| fun (v2_8 : Int) => rec v2_8 u7) FU 0 w)
def fR_allDiffer_l2 (y1 : Int) : Nat → Int → WD → Option (Int × WD)
  | 0 => fun _ _ => none
  | k + 1 => fR_allDiffer_l2_b ( fR_allDiffer_l2 y1 k) y1
set_option maxRecDepth 100000 in
set_option maxHeartbeats 4000000 in
theorem fR_allDiffer_l2_b_ok (E : Nat × (Int → Int)) (d : Nat) {res : Int × WD} {rec : Int → WD → Option (Int × WD)} (y1 : Int) (hrec : ∀ (x2 : Int) (w : WD), rec x2 w = some res → G E mR_allDiffer (d + 2) 2 [(0, pR 46), (1, pI y1), (2, pI x2)] [] w RF NN 0 0 (some (pI res.1), res.2, RF, NN)) (x2 : Int) (w : WD) (h : fR_allDiffer_l2_b rec y1 x2 w = some res) : G E mR_allDiffer (d + 2) 2 [(0, pR 46), (1, pI y1), (2, pI x2)] [] w RF NN 0 0 (some (pI res.1), res.2, RF, NN) := by
  unfold fR_allDiffer_l2_b at h
  refine g_iload_n (pc := 2) (j := 2) (dk d_mR_allDiffer 2 rfl) rfl ?_
  refine g_aload_n (pc := 3) (j := 0) (dk d_mR_allDiffer 3 rfl) rfl (by decide) ?_
  refine g_getI (pc := 4) fp_R_137 po_46 (dk d_mR_allDiffer 4 rfl) ?_
  refine h_icmp_ge (pc := 7) (tgt := 41) (dk d_mR_allDiffer 5 rfl) rfl h (fun hc9 h => ?_) (fun hc9 h => ?_)
  · refine g_iconst (pc := 41) (dk d_mR_allDiffer 23 rfl) (by decide) ?_
    exact h_zret (pc := 42) (Or.inr rfl) (dk d_mR_allDiffer 24 rfl) h
  · refine g_iconst (pc := 10) (dk d_mR_allDiffer 6 rfl) (by decide) ?_
    refine g_istore_n (pc := 11) (l' := [(3, pI 0), (0, pR 46), (1, pI y1), (2, pI x2)]) (dk d_mR_allDiffer 7 rfl) (Nat.le_of_ble_eq_true rfl) rfl ?_
    refine g_pick [1, 2, 3, 0] rfl (l' := [(0, pR 46), (1, pI y1), (2, pI x2), (3, pI 0)]) rfl ?_
    refine fR_allDiffer_l12_ok E d y1 x2 _  (fun u7 h => ?_) FU _  _ h
    · refine h_iinc (pc := 35) (j := 2) (dk d_mR_allDiffer 21 rfl) rfl (by decide) (Nat.le_of_ble_eq_true rfl) h (fun v2_8 h => ?_)
      refine g_loc (l' := [(2, pI v2_8), (0, pR 46), (1, pI y1)]) rfl ?_
      refine g_goto (pc := 38) (tgt := 2) (dk d_mR_allDiffer 22 rfl) rfl ?_
      refine g_pick [1, 2, 0] rfl (l' := [(0, pR 46), (1, pI y1), (2, pI v2_8)]) rfl ?_
      exact hrec _ _ h
set_option maxRecDepth 100000 in
set_option maxHeartbeats 4000000 in
theorem fR_allDiffer_l2_ok (E : Nat × (Int → Int)) (d : Nat) {res : Int × WD} (y1 : Int) : ∀ (k : Nat) (x2 : Int) (w : WD), fR_allDiffer_l2 y1 k x2 w = some res → G E mR_allDiffer (d + 2) 2 [(0, pR 46), (1, pI y1), (2, pI x2)] [] w RF NN 0 0 (some (pI res.1), res.2, RF, NN) := by
  intro k
  induction k with
  | zero =>
    intro x2 w h
    exact no_e h
  | succ k ih =>
    intro x2 w h
    exact fR_allDiffer_l2_b_ok E d y1 ih x2 w h
def fR_allDiffer (a1 : Int) (w : WD) : Option (Int × WD) := fR_allDiffer_l2 a1 FU 0 w
set_option maxRecDepth 100000 in
set_option maxHeartbeats 4000000 in
theorem gR_allDiffer (E : Nat × (Int → Int)) (d : Nat) {res : Int × WD} (a1 : Int) (w : WD) (h : fR_allDiffer a1 w = some res) : G E mR_allDiffer (d + 2) 0 [(0, pR 46), (1, pI a1)] [] w RF NN 0 0 (some (pI res.1), res.2, RF, NN) := by
  unfold fR_allDiffer at h
  refine g_iconst (pc := 0) (dk d_mR_allDiffer 0 rfl) (by decide) ?_
  refine g_istore_n (pc := 1) (l' := [(2, pI 0), (0, pR 46), (1, pI a1)]) (dk d_mR_allDiffer 1 rfl) (Nat.le_of_ble_eq_true rfl) rfl ?_
  refine g_pick [1, 2, 0] rfl (l' := [(0, pR 46), (1, pI a1), (2, pI 0)]) rfl ?_
  refine fR_allDiffer_l2_ok E d a1 FU _  _ h
set_option maxRecDepth 100000 in
set_option maxHeartbeats 4000000 in
theorem kR_allDiffer (E : Nat × (Int → Int)) (d : Nat) {a1 : Int} {w w1 : WD} {r : Int} (h : fR_allDiffer a1 w = some (r, w1)) : CTi E mR_allDiffer (d + 2) [pR 46, pI a1] w RF NN r w1 RF NN := by
  exact CTi_of (by decide +kernel) (Nat.le_of_ble_eq_true rfl) (Or.inr rfl) (gR_allDiffer (res := (r, w1)) E d a1 w h)
def fR_bitsOf_l4_b (rec : Int → Int → WD → Option (Int × WD)) (x1 : Int) (x2 : Int) (w : WD) : Option (Int × WD) := if x2 = 0 then (some (x1, w)) else (bv (w32 (x1 + 1)) <| fun (v1_1 : Int) => bv (bAnd x2 (w32 (x2 - 1))) <| fun (v2_2 : Int) => rec v1_1 v2_2 w)
def fR_bitsOf_l4 : Nat → Int → Int → WD → Option (Int × WD)
  | 0 => fun _ _ _ => none
  | k + 1 => fR_bitsOf_l4_b ( fR_bitsOf_l4 k)
set_option maxRecDepth 100000 in
set_option maxHeartbeats 4000000 in
theorem fR_bitsOf_l4_b_ok (E : Nat × (Int → Int)) (d : Nat) {res : Int × WD} {rec : Int → Int → WD → Option (Int × WD)} (hrec : ∀ (x1 : Int) (x2 : Int) (w : WD), rec x1 x2 w = some res → G E mR_bitsOf (d + 1) 4 [(1, pI x1), (2, pI x2)] [] w RF NN 0 0 (some (pI res.1), res.2, RF, NN)) (x1 : Int) (x2 : Int) (w : WD) (h : fR_bitsOf_l4_b rec x1 x2 w = some res) : G E mR_bitsOf (d + 1) 4 [(1, pI x1), (2, pI x2)] [] w RF NN 0 0 (some (pI res.1), res.2, RF, NN) := by
  unfold fR_bitsOf_l4_b at h
  refine g_iload_n (pc := 4) (j := 1) (dk d_mR_bitsOf 4 rfl) rfl ?_
  refine h_if_eq (pc := 5) (tgt := 20) (dk d_mR_bitsOf 5 rfl) rfl h (fun hc3 h => ?_) (fun hc3 h => ?_)
  · refine g_iload_n (pc := 20) (j := 0) (dk d_mR_bitsOf 14 rfl) rfl ?_
    exact h_iret (pc := 21) rfl (dk d_mR_bitsOf 15 rfl) h
  · refine h_iinc (pc := 8) (j := 0) (dk d_mR_bitsOf 6 rfl) rfl (by decide) (Nat.le_of_ble_eq_true rfl) h (fun v1_1 h => ?_)
    refine g_loc (l' := [(1, pI v1_1), (2, pI x2)]) rfl ?_
    refine g_iload_n (pc := 11) (j := 1) (dk d_mR_bitsOf 7 rfl) rfl ?_
    refine g_iload_n (pc := 12) (j := 1) (dk d_mR_bitsOf 8 rfl) rfl ?_
    refine g_iconst (pc := 13) (dk d_mR_bitsOf 9 rfl) (by decide) ?_
    refine g_isub (pc := 14) (dk d_mR_bitsOf 10 rfl) ?_
    refine g_iand (pc := 15) (dk d_mR_bitsOf 11 rfl) ?_
    refine h_bvI h (fun v2_2 h => ?_)
    refine g_istore_n (pc := 16) (l' := [(2, pI v2_2), (1, pI v1_1)]) (dk d_mR_bitsOf 12 rfl) (Nat.le_of_ble_eq_true rfl) rfl ?_
    refine g_goto (pc := 17) (tgt := 4) (dk d_mR_bitsOf 13 rfl) rfl ?_
    refine g_pick [1, 0] rfl (l' := [(1, pI v1_1), (2, pI v2_2)]) rfl ?_
    exact hrec _ _ _ h
set_option maxRecDepth 100000 in
set_option maxHeartbeats 4000000 in
theorem fR_bitsOf_l4_ok (E : Nat × (Int → Int)) (d : Nat) {res : Int × WD} : ∀ (k : Nat) (x1 : Int) (x2 : Int) (w : WD), fR_bitsOf_l4 k x1 x2 w = some res → G E mR_bitsOf (d + 1) 4 [(1, pI x1), (2, pI x2)] [] w RF NN 0 0 (some (pI res.1), res.2, RF, NN) := by
  intro k
  induction k with
  | zero =>
    intro x1 x2 w h
    exact no_e h
  | succ k ih =>
    intro x1 x2 w h
    exact fR_bitsOf_l4_b_ok E d ih x1 x2 w h
def fR_bitsOf (a0 : Int) (w : WD) : Option (Int × WD) := fR_bitsOf_l4 FU 0 a0 w
set_option maxRecDepth 100000 in
set_option maxHeartbeats 4000000 in
theorem gR_bitsOf (E : Nat × (Int → Int)) (d : Nat) {res : Int × WD} (a0 : Int) (w : WD) (h : fR_bitsOf a0 w = some res) : G E mR_bitsOf (d + 1) 0 [(0, pI a0)] [] w RF NN 0 0 (some (pI res.1), res.2, RF, NN) := by
  unfold fR_bitsOf at h
  refine g_iconst (pc := 0) (dk d_mR_bitsOf 0 rfl) (by decide) ?_
  refine g_istore_n (pc := 1) (l' := [(1, pI 0), (0, pI a0)]) (dk d_mR_bitsOf 1 rfl) (Nat.le_of_ble_eq_true rfl) rfl ?_
  refine g_iload_n (pc := 2) (j := 1) (dk d_mR_bitsOf 2 rfl) rfl ?_
  refine g_istore_n (pc := 3) (l' := [(2, pI a0), (1, pI 0), (0, pI a0)]) (dk d_mR_bitsOf 3 rfl) (Nat.le_of_ble_eq_true rfl) rfl ?_
  refine g_pick [1, 0] rfl (l' := [(1, pI 0), (2, pI a0)]) rfl ?_
  refine fR_bitsOf_l4_ok E d FU _ _  _ h
set_option maxRecDepth 100000 in
set_option maxHeartbeats 4000000 in
theorem kR_bitsOf (E : Nat × (Int → Int)) (d : Nat) {a0 : Int} {w w1 : WD} {r : Int} (h : fR_bitsOf a0 w = some (r, w1)) : CTi E mR_bitsOf (d + 1) [pI a0] w RF NN r w1 RF NN := by
  exact CTi_of (by decide +kernel) (Nat.le_of_ble_eq_true rfl) (Or.inl rfl) (gR_bitsOf (res := (r, w1)) E d a0 w h)
def fR_parts_l83_b (rec : Int → Int → WD → Option (Int × WD)) (y1 : Int) (K0 : Int → WD → Option (Int × WD)) (x2 : Int) (x3 : Int) (w : WD) : Option (Int × WD) := if 8 ≤ x3 then (K0 x2 w) else (ci (fR_allDiffer x3 w) <| fun (r5 : Int) (u4 : WD) => jn (β := Int → WD → Option (Int × WD)) (fun (v2_7 : Int) (u8 : WD) => bv (w32 (x3 + 1)) <| fun (v3_9 : Int) => rec v2_7 v3_9 u8) <| fun J10 => if r5 = 0 then (J10 x2 u4) else (jn (β := WD → Option (Int × WD)) (fun (u11 : WD) => J10 x3 u11) <| fun J12 => if x2 < 0 then (J12 u4) else (ci (fR_bitsOf x3 u4) <| fun (r14 : Int) (u13 : WD) => ci (fR_bitsOf x2 u13) <| fun (r17 : Int) (u16 : WD) => if r17 ≤ r14 then (J10 x2 u16) else (J12 u16))))
def fR_parts_l83 (y1 : Int) (K0 : Int → WD → Option (Int × WD)) : Nat → Int → Int → WD → Option (Int × WD)
  | 0 => fun _ _ _ => none
  | k + 1 => fR_parts_l83_b ( fR_parts_l83 y1 K0 k) y1 K0
set_option maxRecDepth 100000 in
set_option maxHeartbeats 4000000 in
theorem fR_parts_l83_b_ok (E : Nat × (Int → Int)) (d : Nat) {res : Int × WD} {rec : Int → Int → WD → Option (Int × WD)} (y1 : Int) (K0 : Int → WD → Option (Int × WD)) (hrec : ∀ (x2 : Int) (x3 : Int) (w : WD), rec x2 x3 w = some res → G E mR_parts (d + 3) 83 [(0, pR 46), (1, pI y1), (2, pI x2), (3, pI x3)] [] w RF NN 0 0 (some (pI res.1), res.2, RF, NN)) (hK0 : ∀ (x2 : Int) (w : WD), K0 x2 w = some res → G E mR_parts (d + 3) 120 [(1, pI y1), (2, pI x2)] [] w RF NN 0 0 (some (pI res.1), res.2, RF, NN)) (x2 : Int) (x3 : Int) (w : WD) (h : fR_parts_l83_b rec y1 K0 x2 x3 w = some res) : G E mR_parts (d + 3) 83 [(0, pR 46), (1, pI y1), (2, pI x2), (3, pI x3)] [] w RF NN 0 0 (some (pI res.1), res.2, RF, NN) := by
  unfold fR_parts_l83_b at h
  refine g_iload_n (pc := 83) (j := 3) (dk d_mR_parts 49 rfl) rfl ?_
  refine g_bipush (pc := 84) (dk d_mR_parts 50 rfl) (by decide) ?_
  refine h_icmp_ge (pc := 86) (tgt := 120) (dk d_mR_parts 51 rfl) rfl h (fun hc22 h => ?_) (fun hc22 h => ?_)
  · refine g_pick [1, 2] rfl (l' := [(1, pI y1), (2, pI x2)]) rfl ?_
    exact hK0 _ _ h
  · refine g_aload_n (pc := 89) (j := 0) (dk d_mR_parts 52 rfl) rfl (by decide) ?_
    refine g_iload_n (pc := 90) (j := 3) (dk d_mR_parts 53 rfl) rfl ?_
    refine h_callVi (d := d + 2) (pc := 91) (na := 1) (av := [pI x3]) (k0 := 46) po_46 ⟨_, rfl⟩ ⟨rfl, rfl⟩ (dk d_mR_parts 54 rfl) lk_R_348 vm_mR_allDiffer rfl rfl (Nat.le_of_ble_eq_true rfl) h (fun r5 u4 hq => kR_allDiffer E (d + 0) hq) (fun r5 u4 hb6 h => ?_)
    refine jn_e (fun J => ∀ (v2_7 : Int) (u8 : WD), J v2_7 u8 = some res → G E mR_parts (d + 3) 114 [(0, pR 46), (1, pI y1), (2, pI v2_7), (3, pI x3)] [] u8 RF NN 0 0 (some (pI res.1), res.2, RF, NN)) h (fun v2_7 u8 h => ?_) (fun J10 hJ10 h => ?_)
    · refine h_iinc (pc := 114) (j := 3) (dk d_mR_parts 65 rfl) rfl (by decide) (Nat.le_of_ble_eq_true rfl) h (fun v3_9 h => ?_)
      refine g_loc (l' := [(3, pI v3_9), (0, pR 46), (1, pI y1), (2, pI v2_7)]) rfl ?_
      refine g_goto (pc := 117) (tgt := 83) (dk d_mR_parts 66 rfl) rfl ?_
      refine g_pick [1, 2, 3, 0] rfl (l' := [(0, pR 46), (1, pI y1), (2, pI v2_7), (3, pI v3_9)]) rfl ?_
      exact hrec _ _ _ h
    · refine h_if_eq (pc := 94) (tgt := 114) (dk d_mR_parts 55 rfl) rfl h (fun hc21 h => ?_) (fun hc21 h => ?_)
      · exact hJ10 _ _ h
      · refine g_iload_n (pc := 97) (j := 2) (dk d_mR_parts 56 rfl) rfl ?_
        refine jn_e (fun J => ∀ (u11 : WD), J u11 = some res → G E mR_parts (d + 3) 112 [(0, pR 46), (1, pI y1), (3, pI x3)] [] u11 RF NN 0 0 (some (pI res.1), res.2, RF, NN)) h (fun u11 h => ?_) (fun J12 hJ12 h => ?_)
        · refine g_iload_n (pc := 112) (j := 2) (dk d_mR_parts 63 rfl) rfl ?_
          refine g_istore_n (pc := 113) (l' := [(2, pI x3), (0, pR 46), (1, pI y1), (3, pI x3)]) (dk d_mR_parts 64 rfl) (Nat.le_of_ble_eq_true rfl) rfl ?_
          refine g_pick [1, 2, 0, 3] rfl (l' := [(0, pR 46), (1, pI y1), (2, pI x3), (3, pI x3)]) rfl ?_
          exact hJ10 _ _ h
        · refine h_if_lt (pc := 98) (tgt := 112) (dk d_mR_parts 57 rfl) rfl h (fun hc20 h => ?_) (fun hc20 h => ?_)
          · refine g_pick [0, 1, 3] rfl (l' := [(0, pR 46), (1, pI y1), (3, pI x3)]) rfl ?_
            exact hJ12 _ h
          · refine g_iload_n (pc := 101) (j := 3) (dk d_mR_parts 58 rfl) rfl ?_
            refine h_callSi (d := d + 2) (pc := 102) (na := 1) (av := [pI x3]) ⟨rfl, rfl⟩ (dk d_mR_parts 59 rfl) lk_R_351 vm_mR_bitsOf rfl rfl (Nat.le_of_ble_eq_true rfl) h (fun r14 u13 hq => kR_bitsOf E (d + 1) hq) (fun r14 u13 hb15 h => ?_)
            refine g_iload_n (pc := 105) (j := 2) (dk d_mR_parts 60 rfl) rfl ?_
            refine h_callSi (d := d + 2) (pc := 106) (na := 1) (av := [pI x2]) ⟨rfl, rfl⟩ (dk d_mR_parts 61 rfl) lk_R_351 vm_mR_bitsOf rfl rfl (Nat.le_of_ble_eq_true rfl) h (fun r17 u16 hq => kR_bitsOf E (d + 1) hq) (fun r17 u16 hb18 h => ?_)
            refine h_icmp_ge (pc := 109) (tgt := 114) (dk d_mR_parts 62 rfl) rfl h (fun hc19 h => ?_) (fun hc19 h => ?_)
            · exact hJ10 _ _ h
            · refine g_pick [0, 1, 3] rfl (l' := [(0, pR 46), (1, pI y1), (3, pI x3)]) rfl ?_
              exact hJ12 _ h
set_option maxRecDepth 100000 in
set_option maxHeartbeats 4000000 in
theorem fR_parts_l83_ok (E : Nat × (Int → Int)) (d : Nat) {res : Int × WD} (y1 : Int) (K0 : Int → WD → Option (Int × WD)) (hK0 : ∀ (x2 : Int) (w : WD), K0 x2 w = some res → G E mR_parts (d + 3) 120 [(1, pI y1), (2, pI x2)] [] w RF NN 0 0 (some (pI res.1), res.2, RF, NN)) : ∀ (k : Nat) (x2 : Int) (x3 : Int) (w : WD), fR_parts_l83 y1 K0 k x2 x3 w = some res → G E mR_parts (d + 3) 83 [(0, pR 46), (1, pI y1), (2, pI x2), (3, pI x3)] [] w RF NN 0 0 (some (pI res.1), res.2, RF, NN) := by
  intro k
  induction k with
  | zero =>
    intro x2 x3 w h
    exact no_e h
  | succ k ih =>
    intro x2 x3 w h
    exact fR_parts_l83_b_ok E d y1 K0 ih hK0 x2 x3 w h
def fR_parts_l31_b (rec : Int → Int → WD → Option (Int × WD)) (y3 : Int) (K0 : Int → WD → Option (Int × WD)) (x2 : Int) (x4 : Int) (w : WD) : Option (Int × WD) := if (w 46 1) ≤ x4 then (K0 x2 w) else (jn (β := Int → WD → Option (Int × WD)) (fun (v2_30 : Int) (u31 : WD) => bv (w32 (x4 + 1)) <| fun (v4_32 : Int) => rec v2_30 v4_32 u31) <| fun J33 => if y3 = x4 then (J33 x2 w) else (ci (fR_areLike y3 x4 7 w) <| fun (r35 : Int) (u34 : WD) => if r35 = 0 then (J33 x2 u34) else (bv (bOr x2 (bShl 1 y3)) <| fun (v2_37 : Int) => J33 v2_37 u34)))
def fR_parts_l31 (y3 : Int) (K0 : Int → WD → Option (Int × WD)) : Nat → Int → Int → WD → Option (Int × WD)
  | 0 => fun _ _ _ => none
  | k + 1 => fR_parts_l31_b ( fR_parts_l31 y3 K0 k) y3 K0
set_option maxRecDepth 100000 in
set_option maxHeartbeats 4000000 in
theorem fR_parts_l31_b_ok (E : Nat × (Int → Int)) (d : Nat) {res : Int × WD} {rec : Int → Int → WD → Option (Int × WD)} (y3 : Int) (K0 : Int → WD → Option (Int × WD)) (hrec : ∀ (x2 : Int) (x4 : Int) (w : WD), rec x2 x4 w = some res → G E mR_parts (d + 3) 31 [(0, pR 46), (2, pI x2), (3, pI y3), (4, pI x4)] [] w RF NN 0 0 (some (pI res.1), res.2, RF, NN)) (hK0 : ∀ (x2 : Int) (w : WD), K0 x2 w = some res → G E mR_parts (d + 3) 70 [(0, pR 46), (2, pI x2), (3, pI y3)] [] w RF NN 0 0 (some (pI res.1), res.2, RF, NN)) (x2 : Int) (x4 : Int) (w : WD) (h : fR_parts_l31_b rec y3 K0 x2 x4 w = some res) : G E mR_parts (d + 3) 31 [(0, pR 46), (2, pI x2), (3, pI y3), (4, pI x4)] [] w RF NN 0 0 (some (pI res.1), res.2, RF, NN) := by
  unfold fR_parts_l31_b at h
  refine g_iload (pc := 31) (j := 3) (dk d_mR_parts 20 rfl) rfl ?_
  refine g_aload_n (pc := 33) (j := 0) (dk d_mR_parts 21 rfl) rfl (by decide) ?_
  refine g_getI (pc := 34) fp_R_137 po_46 (dk d_mR_parts 22 rfl) ?_
  refine h_icmp_ge (pc := 37) (tgt := 70) (dk d_mR_parts 23 rfl) rfl h (fun hc40 h => ?_) (fun hc40 h => ?_)
  · refine g_pick [0, 1, 2] rfl (l' := [(0, pR 46), (2, pI x2), (3, pI y3)]) rfl ?_
    exact hK0 _ _ h
  · refine g_iload_n (pc := 40) (j := 2) (dk d_mR_parts 24 rfl) rfl ?_
    refine g_iload (pc := 41) (j := 3) (dk d_mR_parts 25 rfl) rfl ?_
    refine jn_e (fun J => ∀ (v2_30 : Int) (u31 : WD), J v2_30 u31 = some res → G E mR_parts (d + 3) 64 [(0, pR 46), (2, pI v2_30), (3, pI y3), (4, pI x4)] [] u31 RF NN 0 0 (some (pI res.1), res.2, RF, NN)) h (fun v2_30 u31 h => ?_) (fun J33 hJ33 h => ?_)
    · refine h_iinc (pc := 64) (j := 3) (dk d_mR_parts 39 rfl) rfl (by decide) (Nat.le_of_ble_eq_true rfl) h (fun v4_32 h => ?_)
      refine g_loc (l' := [(4, pI v4_32), (0, pR 46), (2, pI v2_30), (3, pI y3)]) rfl ?_
      refine g_goto (pc := 67) (tgt := 31) (dk d_mR_parts 40 rfl) rfl ?_
      refine g_pick [1, 2, 3, 0] rfl (l' := [(0, pR 46), (2, pI v2_30), (3, pI y3), (4, pI v4_32)]) rfl ?_
      exact hrec _ _ _ h
    · refine h_icmp_eq (pc := 43) (tgt := 64) (dk d_mR_parts 26 rfl) rfl h (fun hc39 h => ?_) (fun hc39 h => ?_)
      · exact hJ33 _ _ h
      · refine g_aload_n (pc := 46) (j := 0) (dk d_mR_parts 27 rfl) rfl (by decide) ?_
        refine g_iload_n (pc := 47) (j := 2) (dk d_mR_parts 28 rfl) rfl ?_
        refine g_iload (pc := 48) (j := 3) (dk d_mR_parts 29 rfl) rfl ?_
        refine g_bipush (pc := 50) (dk d_mR_parts 30 rfl) (by decide) ?_
        refine h_callVi (d := d + 2) (pc := 52) (na := 3) (av := [pI y3, pI x4, pI 7]) (k0 := 46) po_46 ⟨_, rfl⟩ ⟨rfl, rfl⟩ (dk d_mR_parts 31 rfl) lk_R_345 vm_mR_areLike rfl rfl (Nat.le_of_ble_eq_true rfl) h (fun r35 u34 hq => kR_areLike E (d + 1) hq) (fun r35 u34 hb36 h => ?_)
        refine h_if_eq (pc := 55) (tgt := 64) (dk d_mR_parts 32 rfl) rfl h (fun hc38 h => ?_) (fun hc38 h => ?_)
        · exact hJ33 _ _ h
        · refine g_iload_n (pc := 58) (j := 1) (dk d_mR_parts 33 rfl) rfl ?_
          refine g_iconst (pc := 59) (dk d_mR_parts 34 rfl) (by decide) ?_
          refine g_iload_n (pc := 60) (j := 2) (dk d_mR_parts 35 rfl) rfl ?_
          refine g_ishl (pc := 61) (dk d_mR_parts 36 rfl) ?_
          refine g_ior (pc := 62) (dk d_mR_parts 37 rfl) ?_
          refine h_bvI h (fun v2_37 h => ?_)
          refine g_istore_n (pc := 63) (l' := [(2, pI v2_37), (0, pR 46), (3, pI y3), (4, pI x4)]) (dk d_mR_parts 38 rfl) (Nat.le_of_ble_eq_true rfl) rfl ?_
          refine g_pick [1, 0, 2, 3] rfl (l' := [(0, pR 46), (2, pI v2_37), (3, pI y3), (4, pI x4)]) rfl ?_
          exact hJ33 _ _ h
set_option maxRecDepth 100000 in
set_option maxHeartbeats 4000000 in
theorem fR_parts_l31_ok (E : Nat × (Int → Int)) (d : Nat) {res : Int × WD} (y3 : Int) (K0 : Int → WD → Option (Int × WD)) (hK0 : ∀ (x2 : Int) (w : WD), K0 x2 w = some res → G E mR_parts (d + 3) 70 [(0, pR 46), (2, pI x2), (3, pI y3)] [] w RF NN 0 0 (some (pI res.1), res.2, RF, NN)) : ∀ (k : Nat) (x2 : Int) (x4 : Int) (w : WD), fR_parts_l31 y3 K0 k x2 x4 w = some res → G E mR_parts (d + 3) 31 [(0, pR 46), (2, pI x2), (3, pI y3), (4, pI x4)] [] w RF NN 0 0 (some (pI res.1), res.2, RF, NN) := by
  intro k
  induction k with
  | zero =>
    intro x2 x4 w h
    exact no_e h
  | succ k ih =>
    intro x2 x4 w h
    exact fR_parts_l31_b_ok E d y3 K0 ih hK0 x2 x4 w h
def fR_parts_l20_b (rec : Int → Int → WD → Option (Int × WD)) (x2 : Int) (x3 : Int) (w : WD) : Option (Int × WD) := if (w 46 1) ≤ x3 then (some (x2, w)) else (fR_parts_l31 x3 (fun (v2_41 : Int) (u42 : WD) => bv (w32 (x3 + 1)) <| fun (v3_43 : Int) => rec v2_41 v3_43 u42) FU x2 0 w)
def fR_parts_l20 : Nat → Int → Int → WD → Option (Int × WD)
  | 0 => fun _ _ _ => none
  | k + 1 => fR_parts_l20_b ( fR_parts_l20 k)
set_option maxRecDepth 100000 in
set_option maxHeartbeats 4000000 in
theorem fR_parts_l20_b_ok (E : Nat × (Int → Int)) (d : Nat) {res : Int × WD} {rec : Int → Int → WD → Option (Int × WD)} (hrec : ∀ (x2 : Int) (x3 : Int) (w : WD), rec x2 x3 w = some res → G E mR_parts (d + 3) 20 [(0, pR 46), (2, pI x2), (3, pI x3)] [] w RF NN 0 0 (some (pI res.1), res.2, RF, NN)) (x2 : Int) (x3 : Int) (w : WD) (h : fR_parts_l20_b rec x2 x3 w = some res) : G E mR_parts (d + 3) 20 [(0, pR 46), (2, pI x2), (3, pI x3)] [] w RF NN 0 0 (some (pI res.1), res.2, RF, NN) := by
  unfold fR_parts_l20_b at h
  refine g_iload_n (pc := 20) (j := 2) (dk d_mR_parts 14 rfl) rfl ?_
  refine g_aload_n (pc := 21) (j := 0) (dk d_mR_parts 15 rfl) rfl (by decide) ?_
  refine g_getI (pc := 22) fp_R_137 po_46 (dk d_mR_parts 16 rfl) ?_
  refine h_icmp_ge (pc := 25) (tgt := 76) (dk d_mR_parts 17 rfl) rfl h (fun hc44 h => ?_) (fun hc44 h => ?_)
  · refine g_iload_n (pc := 76) (j := 1) (dk d_mR_parts 43 rfl) rfl ?_
    exact h_iret (pc := 77) rfl (dk d_mR_parts 44 rfl) h
  · refine g_iconst (pc := 28) (dk d_mR_parts 18 rfl) (by decide) ?_
    refine g_istore (pc := 29) (l' := [(4, pI 0), (0, pR 46), (2, pI x2), (3, pI x3)]) (dk d_mR_parts 19 rfl) (Nat.le_of_ble_eq_true rfl) rfl ?_
    refine g_pick [1, 2, 3, 0] rfl (l' := [(0, pR 46), (2, pI x2), (3, pI x3), (4, pI 0)]) rfl ?_
    refine fR_parts_l31_ok E d x3 _  (fun v2_41 u42 h => ?_) FU _ _  _ h
    · refine h_iinc (pc := 70) (j := 2) (dk d_mR_parts 41 rfl) rfl (by decide) (Nat.le_of_ble_eq_true rfl) h (fun v3_43 h => ?_)
      refine g_loc (l' := [(3, pI v3_43), (0, pR 46), (2, pI v2_41)]) rfl ?_
      refine g_goto (pc := 73) (tgt := 20) (dk d_mR_parts 42 rfl) rfl ?_
      refine g_pick [1, 2, 0] rfl (l' := [(0, pR 46), (2, pI v2_41), (3, pI v3_43)]) rfl ?_
      exact hrec _ _ _ h
set_option maxRecDepth 100000 in
set_option maxHeartbeats 4000000 in
theorem fR_parts_l20_ok (E : Nat × (Int → Int)) (d : Nat) {res : Int × WD} : ∀ (k : Nat) (x2 : Int) (x3 : Int) (w : WD), fR_parts_l20 k x2 x3 w = some res → G E mR_parts (d + 3) 20 [(0, pR 46), (2, pI x2), (3, pI x3)] [] w RF NN 0 0 (some (pI res.1), res.2, RF, NN) := by
  intro k
  induction k with
  | zero =>
    intro x2 x3 w h
    exact no_e h
  | succ k ih =>
    intro x2 x3 w h
    exact fR_parts_l20_b_ok E d ih x2 x3 w h
def fR_parts (a1 : Int) (w : WD) : Option (Int × WD) := ci (fR_in a1 0 2 w) <| fun (r2 : Int) (u1 : WD) => if r2 ≠ 0 then (if a1 ≠ 2 then (fR_parts_l83 a1 (fun (v2_23 : Int) (u24 : WD) => if v2_23 < 0 then (some (v2_23, u24)) else (if a1 ≠ 1 then (ci (fR_bitsOf v2_23 u24) <| fun (r26 : Int) (u25 : WD) => some (r26, u25)) else (some (v2_23, u24)))) FU (-2) 0 u1) else (fR_parts_l20 FU 0 0 u1)) else (some ((-1), u1))
set_option maxRecDepth 100000 in
set_option maxHeartbeats 4000000 in
theorem gR_parts (E : Nat × (Int → Int)) (d : Nat) {res : Int × WD} (a1 : Int) (w : WD) (h : fR_parts a1 w = some res) : G E mR_parts (d + 3) 0 [(0, pR 46), (1, pI a1)] [] w RF NN 0 0 (some (pI res.1), res.2, RF, NN) := by
  unfold fR_parts at h
  refine g_iload_n (pc := 0) (j := 1) (dk d_mR_parts 0 rfl) rfl ?_
  refine g_iconst (pc := 1) (dk d_mR_parts 1 rfl) (by decide) ?_
  refine g_iconst (pc := 2) (dk d_mR_parts 2 rfl) (by decide) ?_
  refine h_callSi (d := d + 2) (pc := 3) (na := 3) (av := [pI a1, pI 0, pI 2]) ⟨rfl, rfl⟩ (dk d_mR_parts 3 rfl) lk_R_140 vm_mR_in rfl rfl (Nat.le_of_ble_eq_true rfl) h (fun r2 u1 hq => kR_in E (d + 1) hq) (fun r2 u1 hb3 h => ?_)
  refine h_if_ne (pc := 6) (tgt := 11) (dk d_mR_parts 4 rfl) rfl h (fun hc46 h => ?_) (fun hc46 h => ?_)
  · refine g_iload_n (pc := 11) (j := 1) (dk d_mR_parts 7 rfl) rfl ?_
    refine g_iconst (pc := 12) (dk d_mR_parts 8 rfl) (by decide) ?_
    refine h_icmp_ne (pc := 13) (tgt := 78) (dk d_mR_parts 9 rfl) rfl h (fun hc45 h => ?_) (fun hc45 h => ?_)
    · refine g_bipush (pc := 78) (dk d_mR_parts 45 rfl) (by decide) ?_
      refine g_istore_n (pc := 80) (l' := [(2, pI (-2)), (0, pR 46), (1, pI a1)]) (dk d_mR_parts 46 rfl) (Nat.le_of_ble_eq_true rfl) rfl ?_
      refine g_iconst (pc := 81) (dk d_mR_parts 47 rfl) (by decide) ?_
      refine g_istore_n (pc := 82) (l' := [(3, pI 0), (2, pI (-2)), (0, pR 46), (1, pI a1)]) (dk d_mR_parts 48 rfl) (Nat.le_of_ble_eq_true rfl) rfl ?_
      refine g_pick [2, 3, 1, 0] rfl (l' := [(0, pR 46), (1, pI a1), (2, pI (-2)), (3, pI 0)]) rfl ?_
      refine fR_parts_l83_ok E d a1 _  (fun v2_23 u24 h => ?_) FU _ _  _ h
      · refine g_iload_n (pc := 120) (j := 1) (dk d_mR_parts 67 rfl) rfl ?_
        refine h_if_lt (pc := 121) (tgt := 129) (dk d_mR_parts 68 rfl) rfl h (fun hc29 h => ?_) (fun hc29 h => ?_)
        · refine g_iload_n (pc := 129) (j := 1) (dk d_mR_parts 72 rfl) rfl ?_
          refine g_goto (pc := 130) (tgt := 137) (dk d_mR_parts 73 rfl) rfl ?_
          exact h_iret (pc := 137) rfl (dk d_mR_parts 76 rfl) h
        · refine g_iload_n (pc := 124) (j := 0) (dk d_mR_parts 69 rfl) rfl ?_
          refine g_iconst (pc := 125) (dk d_mR_parts 70 rfl) (by decide) ?_
          refine h_icmp_ne (pc := 126) (tgt := 133) (dk d_mR_parts 71 rfl) rfl h (fun hc28 h => ?_) (fun hc28 h => ?_)
          · refine g_iload_n (pc := 133) (j := 1) (dk d_mR_parts 74 rfl) rfl ?_
            refine h_callSi (d := d + 2) (pc := 134) (na := 1) (av := [pI v2_23]) ⟨rfl, rfl⟩ (dk d_mR_parts 75 rfl) lk_R_351 vm_mR_bitsOf rfl rfl (Nat.le_of_ble_eq_true rfl) h (fun r26 u25 hq => kR_bitsOf E (d + 1) hq) (fun r26 u25 hb27 h => ?_)
            exact h_iret (pc := 137) rfl (dk d_mR_parts 76 rfl) h
          · refine g_iload_n (pc := 129) (j := 1) (dk d_mR_parts 72 rfl) rfl ?_
            refine g_goto (pc := 130) (tgt := 137) (dk d_mR_parts 73 rfl) rfl ?_
            exact h_iret (pc := 137) rfl (dk d_mR_parts 76 rfl) h
    · refine g_iconst (pc := 16) (dk d_mR_parts 10 rfl) (by decide) ?_
      refine g_istore_n (pc := 17) (l' := [(2, pI 0), (0, pR 46), (1, pI a1)]) (dk d_mR_parts 11 rfl) (Nat.le_of_ble_eq_true rfl) rfl ?_
      refine g_iconst (pc := 18) (dk d_mR_parts 12 rfl) (by decide) ?_
      refine g_istore_n (pc := 19) (l' := [(3, pI 0), (2, pI 0), (0, pR 46), (1, pI a1)]) (dk d_mR_parts 13 rfl) (Nat.le_of_ble_eq_true rfl) rfl ?_
      refine g_pick [2, 1, 0] rfl (l' := [(0, pR 46), (2, pI 0), (3, pI 0)]) rfl ?_
      refine fR_parts_l20_ok E d FU _ _  _ h
  · refine g_iconst (pc := 9) (dk d_mR_parts 5 rfl) (by decide) ?_
    exact h_iret (pc := 10) rfl (dk d_mR_parts 6 rfl) h
set_option maxRecDepth 100000 in
set_option maxHeartbeats 4000000 in
theorem kR_parts (E : Nat × (Int → Int)) (d : Nat) {a1 : Int} {w w1 : WD} {r : Int} (h : fR_parts a1 w = some (r, w1)) : CTi E mR_parts (d + 3) [pR 46, pI a1] w RF NN r w1 RF NN := by
  exact CTi_of (by decide +kernel) (Nat.le_of_ble_eq_true rfl) (Or.inl rfl) (gR_parts (res := (r, w1)) E d a1 w h)
def fR_truthCounts_l11_b (rec : Int → Int → Int → WD → Option (Int × WD)) (K0 : Int → Int → WD → Option (Int × WD)) (x1 : Int) (x3 : Int) (x4 : Int) (w : WD) : Option (Int × WD) := if (w 46 4) ≤ x4 then (K0 x1 x3 w) else (ck (0 ≤ x4 ∧ x4 < 5) <| ck (0 ≤ (w32 ((w32 (7 * x4)) + (w 71 x4))) ∧ (w32 ((w32 (7 * x4)) + (w 71 x4))) < 35) <| bv (w64 (x1 * (w 65 (w32 ((w32 (7 * x4)) + (w 71 x4)))))) <| fun (v1_2 : Int) => ck (0 ≤ x4 ∧ x4 < 5) <| jn (β := Int → WD → Option (Int × WD)) (fun (v3_3 : Int) (u4 : WD) => bv (w32 (x4 + 1)) <| fun (v4_5 : Int) => rec v1_2 v3_3 v4_5 u4) <| fun J6 => if (w 71 x4) ≠ 6 then (J6 x3 w) else (bv (w32 (x3 + 1)) <| fun (v3_7 : Int) => J6 v3_7 w))
def fR_truthCounts_l11 (K0 : Int → Int → WD → Option (Int × WD)) : Nat → Int → Int → Int → WD → Option (Int × WD)
  | 0 => fun _ _ _ _ => none
  | k + 1 => fR_truthCounts_l11_b ( fR_truthCounts_l11 K0 k) K0
set_option maxRecDepth 100000 in
set_option maxHeartbeats 4000000 in
theorem fR_truthCounts_l11_b_ok (E : Nat × (Int → Int)) (d : Nat) {res : Int × WD} {rec : Int → Int → Int → WD → Option (Int × WD)} (K0 : Int → Int → WD → Option (Int × WD)) (hrec : ∀ (x1 : Int) (x3 : Int) (x4 : Int) (w : WD), rec x1 x3 x4 w = some res → G E mR_truthCounts (d + 6) 11 [(0, pR 46), (1, pL x1), (3, pI x3), (4, pI x4)] [] w RF NN 0 0 (some (pL res.1), res.2, RF, NN)) (hK0 : ∀ (x1 : Int) (x3 : Int) (w : WD), K0 x1 x3 w = some res → G E mR_truthCounts (d + 6) 62 [(0, pR 46), (1, pL x1), (3, pI x3)] [] w RF NN 0 0 (some (pL res.1), res.2, RF, NN)) (x1 : Int) (x3 : Int) (x4 : Int) (w : WD) (h : fR_truthCounts_l11_b rec K0 x1 x3 x4 w = some res) : G E mR_truthCounts (d + 6) 11 [(0, pR 46), (1, pL x1), (3, pI x3), (4, pI x4)] [] w RF NN 0 0 (some (pL res.1), res.2, RF, NN) := by
  unfold fR_truthCounts_l11_b at h
  refine g_iload (pc := 11) (j := 3) (dk d_mR_truthCounts 8 rfl) rfl ?_
  refine g_aload_n (pc := 13) (j := 0) (dk d_mR_truthCounts 9 rfl) rfl (by decide) ?_
  refine g_getI (pc := 14) fp_R_144 po_46 (dk d_mR_truthCounts 10 rfl) ?_
  refine h_icmp_ge (pc := 17) (tgt := 62) (dk d_mR_truthCounts 11 rfl) rfl h (fun hc9 h => ?_) (fun hc9 h => ?_)
  · refine g_pick [0, 1, 2] rfl (l' := [(0, pR 46), (1, pL x1), (3, pI x3)]) rfl ?_
    exact hK0 _ _ _ h
  · refine g_lload_n (pc := 20) (j := 1) (dk d_mR_truthCounts 12 rfl) rfl ?_
    refine g_aload_n (pc := 21) (j := 0) (dk d_mR_truthCounts 13 rfl) rfl (by decide) ?_
    refine g_getR (pc := 22) (a := 65) rfl fp_R_68 po_46 (dk d_mR_truthCounts 14 rfl) ?_
    refine g_bipush (pc := 25) (dk d_mR_truthCounts 15 rfl) (by decide) ?_
    refine g_iload (pc := 27) (j := 3) (dk d_mR_truthCounts 16 rfl) rfl ?_
    refine g_imul (pc := 29) (dk d_mR_truthCounts 17 rfl) ?_
    refine g_aload_n (pc := 30) (j := 0) (dk d_mR_truthCounts 18 rfl) rfl (by decide) ?_
    refine g_getR (pc := 31) (a := 71) rfl fp_R_87 po_46 (dk d_mR_truthCounts 19 rfl) ?_
    refine g_iload (pc := 34) (j := 3) (dk d_mR_truthCounts 20 rfl) rfl ?_
    refine h_iald (pc := 36) (B := 5) pa_71 rfl (dk d_mR_truthCounts 21 rfl) h (fun h => ?_)
    refine g_iadd (pc := 37) (dk d_mR_truthCounts 22 rfl) ?_
    refine h_lald (pc := 38) (B := 35) pa_65 rfl (dk d_mR_truthCounts 23 rfl) h (fun h => ?_)
    refine g_lmul (pc := 39) (dk d_mR_truthCounts 24 rfl) ?_
    refine h_bvL h (fun v1_2 h => ?_)
    refine g_lstore_n (pc := 40) (l' := [(1, pL v1_2), (0, pR 46), (3, pI x3), (4, pI x4)]) (dk d_mR_truthCounts 25 rfl) (Nat.le_of_ble_eq_true rfl) rfl ?_
    refine g_aload_n (pc := 41) (j := 1) (dk d_mR_truthCounts 26 rfl) rfl (by decide) ?_
    refine g_getR (pc := 42) (a := 71) rfl fp_R_87 po_46 (dk d_mR_truthCounts 27 rfl) ?_
    refine g_iload (pc := 45) (j := 3) (dk d_mR_truthCounts 28 rfl) rfl ?_
    refine h_iald (pc := 47) (B := 5) pa_71 rfl (dk d_mR_truthCounts 29 rfl) h (fun h => ?_)
    refine g_bipush (pc := 48) (dk d_mR_truthCounts 30 rfl) (by decide) ?_
    refine jn_e (fun J => ∀ (v3_3 : Int) (u4 : WD), J v3_3 u4 = some res → G E mR_truthCounts (d + 6) 56 [(0, pR 46), (1, pL v1_2), (3, pI v3_3), (4, pI x4)] [] u4 RF NN 0 0 (some (pL res.1), res.2, RF, NN)) h (fun v3_3 u4 h => ?_) (fun J6 hJ6 h => ?_)
    · refine h_iinc (pc := 56) (j := 3) (dk d_mR_truthCounts 33 rfl) rfl (by decide) (Nat.le_of_ble_eq_true rfl) h (fun v4_5 h => ?_)
      refine g_loc (l' := [(4, pI v4_5), (0, pR 46), (1, pL v1_2), (3, pI v3_3)]) rfl ?_
      refine g_goto (pc := 59) (tgt := 11) (dk d_mR_truthCounts 34 rfl) rfl ?_
      refine g_pick [1, 2, 3, 0] rfl (l' := [(0, pR 46), (1, pL v1_2), (3, pI v3_3), (4, pI v4_5)]) rfl ?_
      exact hrec _ _ _ _ h
    · refine h_icmp_ne (pc := 50) (tgt := 56) (dk d_mR_truthCounts 31 rfl) rfl h (fun hc8 h => ?_) (fun hc8 h => ?_)
      · refine g_pick [1, 0, 2, 3] rfl (l' := [(0, pR 46), (1, pL v1_2), (3, pI x3), (4, pI x4)]) rfl ?_
        exact hJ6 _ _ h
      · refine h_iinc (pc := 53) (j := 2) (dk d_mR_truthCounts 32 rfl) rfl (by decide) (Nat.le_of_ble_eq_true rfl) h (fun v3_7 h => ?_)
        refine g_loc (l' := [(3, pI v3_7), (1, pL v1_2), (0, pR 46), (4, pI x4)]) rfl ?_
        refine g_pick [2, 1, 0, 3] rfl (l' := [(0, pR 46), (1, pL v1_2), (3, pI v3_7), (4, pI x4)]) rfl ?_
        exact hJ6 _ _ h
set_option maxRecDepth 100000 in
set_option maxHeartbeats 4000000 in
theorem fR_truthCounts_l11_ok (E : Nat × (Int → Int)) (d : Nat) {res : Int × WD} (K0 : Int → Int → WD → Option (Int × WD)) (hK0 : ∀ (x1 : Int) (x3 : Int) (w : WD), K0 x1 x3 w = some res → G E mR_truthCounts (d + 6) 62 [(0, pR 46), (1, pL x1), (3, pI x3)] [] w RF NN 0 0 (some (pL res.1), res.2, RF, NN)) : ∀ (k : Nat) (x1 : Int) (x3 : Int) (x4 : Int) (w : WD), fR_truthCounts_l11 K0 k x1 x3 x4 w = some res → G E mR_truthCounts (d + 6) 11 [(0, pR 46), (1, pL x1), (3, pI x3), (4, pI x4)] [] w RF NN 0 0 (some (pL res.1), res.2, RF, NN) := by
  intro k
  induction k with
  | zero =>
    intro x1 x3 x4 w h
    exact no_e h
  | succ k ih =>
    intro x1 x3 x4 w h
    exact fR_truthCounts_l11_b_ok E d K0 ih hK0 x1 x3 x4 w h
def fR_truthCounts (w : WD) : Option (Int × WD) := cv (fR_findBy w) <| fun (u1 : WD) => fR_truthCounts_l11 (fun (v1_10 : Int) (v3_11 : Int) (u12 : WD) => if v3_11 ≤ (u12 52 0) then (some (v1_10, u12)) else (some (0, u12))) FU 1 0 0 u1
set_option maxRecDepth 100000 in
set_option maxHeartbeats 4000000 in
theorem gR_truthCounts (E : Nat × (Int → Int)) (d : Nat) {res : Int × WD} (w : WD) (h : fR_truthCounts w = some res) : G E mR_truthCounts (d + 6) 0 [(0, pR 46)] [] w RF NN 0 0 (some (pL res.1), res.2, RF, NN) := by
  unfold fR_truthCounts at h
  refine g_aload_n (pc := 0) (j := 0) (dk d_mR_truthCounts 0 rfl) rfl (by decide) ?_
  refine h_callVv (d := d + 5) (pc := 1) (na := 0) (av := []) (k0 := 46) po_46 ⟨_, rfl⟩ ⟨rfl, rfl⟩ (dk d_mR_truthCounts 1 rfl) lk_R_301 vm_mR_findBy rfl rfl (Nat.le_of_ble_eq_true rfl) h (fun u1 hq => kR_findBy E (d + 0) hq) (fun u1 h => ?_)
  refine g_lconst1 (pc := 4) (dk d_mR_truthCounts 2 rfl) ?_
  refine g_lstore_n (pc := 5) (l' := [(1, pL 1), (0, pR 46)]) (dk d_mR_truthCounts 3 rfl) (Nat.le_of_ble_eq_true rfl) rfl ?_
  refine g_iconst (pc := 6) (dk d_mR_truthCounts 4 rfl) (by decide) ?_
  refine g_istore_n (pc := 7) (l' := [(3, pI 0), (1, pL 1), (0, pR 46)]) (dk d_mR_truthCounts 5 rfl) (Nat.le_of_ble_eq_true rfl) rfl ?_
  refine g_iconst (pc := 8) (dk d_mR_truthCounts 6 rfl) (by decide) ?_
  refine g_istore (pc := 9) (l' := [(4, pI 0), (3, pI 0), (1, pL 1), (0, pR 46)]) (dk d_mR_truthCounts 7 rfl) (Nat.le_of_ble_eq_true rfl) rfl ?_
  refine g_pick [3, 2, 1, 0] rfl (l' := [(0, pR 46), (1, pL 1), (3, pI 0), (4, pI 0)]) rfl ?_
  refine fR_truthCounts_l11_ok E d _  (fun v1_10 v3_11 u12 h => ?_) FU _ _ _  _ h
  · refine g_iload_n (pc := 62) (j := 2) (dk d_mR_truthCounts 35 rfl) rfl ?_
    refine g_aload_n (pc := 63) (j := 0) (dk d_mR_truthCounts 36 rfl) rfl (by decide) ?_
    refine g_getR (pc := 64) (a := 52) rfl fp_R_27 po_46 (dk d_mR_truthCounts 37 rfl) ?_
    refine g_iconst (pc := 67) (dk d_mR_truthCounts 38 rfl) (by decide) ?_
    refine g_iald (pc := 68) pa_52 (dk d_mR_truthCounts 39 rfl) (by decide) ?_
    refine h_icmp_le (pc := 69) (tgt := 76) (dk d_mR_truthCounts 40 rfl) rfl h (fun hc13 h => ?_) (fun hc13 h => ?_)
    · refine g_lload_n (pc := 76) (j := 1) (dk d_mR_truthCounts 43 rfl) rfl ?_
      exact h_lret (pc := 77) (dk d_mR_truthCounts 44 rfl) h
    · refine g_lconst0 (pc := 72) (dk d_mR_truthCounts 41 rfl) ?_
      refine g_goto (pc := 73) (tgt := 77) (dk d_mR_truthCounts 42 rfl) rfl ?_
      exact h_lret (pc := 77) (dk d_mR_truthCounts 44 rfl) h
set_option maxRecDepth 100000 in
set_option maxHeartbeats 4000000 in
theorem kR_truthCounts (E : Nat × (Int → Int)) (d : Nat) {w w1 : WD} {r : Int} (h : fR_truthCounts w = some (r, w1)) : CTl E mR_truthCounts (d + 6) [pR 46] w RF NN r w1 RF NN := by
  exact CTl_of (by decide +kernel) (Nat.le_of_ble_eq_true rfl) rfl (gR_truthCounts (res := (r, w1)) E d w h)
def fR_foundOut (w : WD) : Option (Int × WD) := ci (fR_truthCounts w) <| fun (r2 : Int) (u1 : WD) => cv (fR_findWays u1) <| fun (u3 : WD) => ci (fR_shareOf r2 (u3 46 32) 6 u3) <| fun (r5 : Int) (u4 : WD) => some (r5, u4)
set_option maxRecDepth 100000 in
set_option maxHeartbeats 4000000 in
theorem gR_foundOut (E : Nat × (Int → Int)) (d : Nat) {res : Int × WD} (w : WD) (h : fR_foundOut w = some res) : G E mR_foundOut (d + 204) 0 [(0, pR 46)] [] w RF NN 0 0 (some (pI res.1), res.2, RF, NN) := by
  unfold fR_foundOut at h
  refine g_aload_n (pc := 0) (j := 0) (dk d_mR_foundOut 0 rfl) rfl (by decide) ?_
  refine h_callVl (d := d + 203) (pc := 1) (na := 0) (av := []) (k0 := 46) po_46 ⟨_, rfl⟩ ⟨rfl, rfl⟩ (dk d_mR_foundOut 1 rfl) lk_R_357 vm_mR_truthCounts rfl rfl (Nat.le_of_ble_eq_true rfl) h (fun r2 u1 hq => kR_truthCounts E (d + 197) hq) (fun r2 u1 h => ?_)
  refine g_lstore_n (pc := 4) (l' := [(1, pL r2), (0, pR 46)]) (dk d_mR_foundOut 2 rfl) (Nat.le_of_ble_eq_true rfl) rfl ?_
  refine g_aload_n (pc := 5) (j := 1) (dk d_mR_foundOut 3 rfl) rfl (by decide) ?_
  refine h_callVv (d := d + 203) (pc := 6) (na := 0) (av := []) (k0 := 46) po_46 ⟨_, rfl⟩ ⟨rfl, rfl⟩ (dk d_mR_foundOut 4 rfl) lk_R_306 vm_mR_findWays rfl rfl (Nat.le_of_ble_eq_true rfl) h (fun u3 hq => kR_findWays E (d + 0) hq) (fun u3 h => ?_)
  refine g_lload_n (pc := 9) (j := 0) (dk d_mR_foundOut 5 rfl) rfl ?_
  refine g_aload_n (pc := 10) (j := 1) (dk d_mR_foundOut 6 rfl) rfl (by decide) ?_
  refine g_getL (pc := 11) fp_R_290 po_46 (dk d_mR_foundOut 7 rfl) ?_
  refine g_bipush (pc := 14) (dk d_mR_foundOut 8 rfl) (by decide) ?_
  refine h_callSi (d := d + 203) (pc := 16) (na := 3) (av := [pL r2, pL (u3 46 32), pI 6]) ⟨rfl, rfl⟩ (dk d_mR_foundOut 9 rfl) lk_R_338 vm_mR_shareOf rfl rfl (Nat.le_of_ble_eq_true rfl) h (fun r5 u4 hq => kR_shareOf E (d + 202) hq) (fun r5 u4 hb6 h => ?_)
  exact h_iret (pc := 19) rfl (dk d_mR_foundOut 10 rfl) h
set_option maxRecDepth 100000 in
set_option maxHeartbeats 4000000 in
theorem kR_foundOut (E : Nat × (Int → Int)) (d : Nat) {w w1 : WD} {r : Int} (h : fR_foundOut w = some (r, w1)) : CTi E mR_foundOut (d + 204) [pR 46] w RF NN r w1 RF NN := by
  exact CTi_of (by decide +kernel) (Nat.le_of_ble_eq_true rfl) (Or.inl rfl) (gR_foundOut (res := (r, w1)) E d w h)
def fR_at (a1 : Int) (a2 : Int) (w : WD) : Option (Int × WD) := ck (0 ≤ (w32 ((w32 (60 * a1)) + a2)) ∧ (w32 ((w32 (60 * a1)) + a2)) < 360) <| some ((w32 (w 84 (w32 ((w32 (60 * a1)) + a2)))), w)
set_option maxRecDepth 100000 in
set_option maxHeartbeats 4000000 in
theorem gR_at (E : Nat × (Int → Int)) (d : Nat) {res : Int × WD} (a1 : Int) (a2 : Int) (w : WD) (h : fR_at a1 a2 w = some res) : G E mR_at (d + 1) 0 [(0, pR 46), (1, pI a1), (2, pI a2)] [] w RF NN 0 0 (some (pI res.1), res.2, RF, NN) := by
  unfold fR_at at h
  refine g_aload_n (pc := 0) (j := 0) (dk d_mR_at 0 rfl) rfl (by decide) ?_
  refine g_getR (pc := 1) (a := 84) rfl fp_R_127 po_46 (dk d_mR_at 1 rfl) ?_
  refine g_bipush (pc := 4) (dk d_mR_at 2 rfl) (by decide) ?_
  refine g_iload_n (pc := 6) (j := 1) (dk d_mR_at 3 rfl) rfl ?_
  refine g_imul (pc := 7) (dk d_mR_at 4 rfl) ?_
  refine g_iload_n (pc := 8) (j := 2) (dk d_mR_at 5 rfl) rfl ?_
  refine g_iadd (pc := 9) (dk d_mR_at 6 rfl) ?_
  refine h_lald (pc := 10) (B := 360) pa_84 rfl (dk d_mR_at 7 rfl) h (fun h => ?_)
  refine g_l2i (pc := 11) (dk d_mR_at 8 rfl) ?_
  exact h_iret (pc := 12) rfl (dk d_mR_at 9 rfl) h
set_option maxRecDepth 100000 in
set_option maxHeartbeats 4000000 in
theorem kR_at (E : Nat × (Int → Int)) (d : Nat) {a1 : Int} {a2 : Int} {w w1 : WD} {r : Int} (h : fR_at a1 a2 w = some (r, w1)) : CTi E mR_at (d + 1) [pR 46, pI a1, pI a2] w RF NN r w1 RF NN := by
  exact CTi_of (by decide +kernel) (Nat.le_of_ble_eq_true rfl) (Or.inl rfl) (gR_at (res := (r, w1)) E d a1 a2 w h)
def fR_layTruth_l19_b (rec : Int → Int → WD → Option (Int × WD)) (y1 : Int) (x2 : Int) (x3 : Int) (w : WD) : Option (Int × WD) := if (w 46 4) ≤ x3 then (some (1, w)) else (ci (fR_at y1 x3 w) <| fun (r2 : Int) (u1 : WD) => ci (fR_isWho r2 u1) <| fun (r5 : Int) (u4 : WD) => if r5 = 0 then (some (0, u4)) else (jn (β := WD → Option (Int × WD)) (fun (u7 : WD) => bv (bOr x2 (bShl 1 r2)) <| fun (v2_8 : Int) => ck (0 ≤ x3 ∧ x3 < 5) <| bw (up u7 71 x3 r2) <| fun (u9 : WD) => bv (w32 (x3 + 1)) <| fun (v3_10 : Int) => rec v2_8 v3_10 u9) <| fun J11 => if 6 ≤ r2 then (J11 u4) else (if (bAnd (bShr x2 r2) 1) ≠ 1 then (J11 u4) else (some (0, u4)))))
def fR_layTruth_l19 (y1 : Int) : Nat → Int → Int → WD → Option (Int × WD)
  | 0 => fun _ _ _ => none
  | k + 1 => fR_layTruth_l19_b ( fR_layTruth_l19 y1 k) y1
set_option maxRecDepth 100000 in
set_option maxHeartbeats 4000000 in
theorem fR_layTruth_l19_b_ok (E : Nat × (Int → Int)) (d : Nat) {res : Int × WD} {rec : Int → Int → WD → Option (Int × WD)} (y1 : Int) (hrec : ∀ (x2 : Int) (x3 : Int) (w : WD), rec x2 x3 w = some res → G E mR_layTruth (d + 4) 19 [(0, pR 46), (1, pI y1), (2, pI x2), (3, pI x3)] [] w RF NN 0 0 (some (pI res.1), res.2, RF, NN)) (x2 : Int) (x3 : Int) (w : WD) (h : fR_layTruth_l19_b rec y1 x2 x3 w = some res) : G E mR_layTruth (d + 4) 19 [(0, pR 46), (1, pI y1), (2, pI x2), (3, pI x3)] [] w RF NN 0 0 (some (pI res.1), res.2, RF, NN) := by
  unfold fR_layTruth_l19_b at h
  refine g_iload_n (pc := 19) (j := 3) (dk d_mR_layTruth 13 rfl) rfl ?_
  refine g_aload_n (pc := 20) (j := 0) (dk d_mR_layTruth 14 rfl) rfl (by decide) ?_
  refine g_getI (pc := 21) fp_R_144 po_46 (dk d_mR_layTruth 15 rfl) ?_
  refine h_icmp_ge (pc := 24) (tgt := 84) (dk d_mR_layTruth 16 rfl) rfl h (fun hc15 h => ?_) (fun hc15 h => ?_)
  · refine g_iconst (pc := 84) (dk d_mR_layTruth 51 rfl) (by decide) ?_
    exact h_zret (pc := 85) (Or.inr rfl) (dk d_mR_layTruth 52 rfl) h
  · refine g_aload_n (pc := 27) (j := 0) (dk d_mR_layTruth 17 rfl) rfl (by decide) ?_
    refine g_iload_n (pc := 28) (j := 1) (dk d_mR_layTruth 18 rfl) rfl ?_
    refine g_iload_n (pc := 29) (j := 3) (dk d_mR_layTruth 19 rfl) rfl ?_
    refine h_callVi (d := d + 3) (pc := 30) (na := 2) (av := [pI y1, pI x3]) (k0 := 46) po_46 ⟨_, rfl⟩ ⟨rfl, rfl⟩ (dk d_mR_layTruth 20 rfl) lk_R_354 vm_mR_at rfl rfl (Nat.le_of_ble_eq_true rfl) h (fun r2 u1 hq => kR_at E (d + 2) hq) (fun r2 u1 hb3 h => ?_)
    refine g_istore (pc := 33) (l' := [(4, pI r2), (0, pR 46), (1, pI y1), (2, pI x2), (3, pI x3)]) (dk d_mR_layTruth 21 rfl) (Nat.le_of_ble_eq_true rfl) rfl ?_
    refine g_aload_n (pc := 35) (j := 1) (dk d_mR_layTruth 22 rfl) rfl (by decide) ?_
    refine g_iload (pc := 36) (j := 0) (dk d_mR_layTruth 23 rfl) rfl ?_
    refine h_callVi (d := d + 3) (pc := 38) (na := 1) (av := [pI r2]) (k0 := 46) po_46 ⟨_, rfl⟩ ⟨rfl, rfl⟩ (dk d_mR_layTruth 24 rfl) lk_R_265 vm_mR_isWho rfl rfl (Nat.le_of_ble_eq_true rfl) h (fun r5 u4 hq => kR_isWho E (d + 0) hq) (fun r5 u4 hb6 h => ?_)
    refine h_if_eq (pc := 41) (tgt := 61) (dk d_mR_layTruth 25 rfl) rfl h (fun hc14 h => ?_) (fun hc14 h => ?_)
    · refine g_iconst (pc := 61) (dk d_mR_layTruth 36 rfl) (by decide) ?_
      exact h_zret (pc := 62) (Or.inl rfl) (dk d_mR_layTruth 37 rfl) h
    · refine g_iload (pc := 44) (j := 0) (dk d_mR_layTruth 26 rfl) rfl ?_
      refine g_bipush (pc := 46) (dk d_mR_layTruth 27 rfl) (by decide) ?_
      refine jn_e (fun J => ∀ (u7 : WD), J u7 = some res → G E mR_layTruth (d + 4) 63 [(0, pR 46), (1, pI y1), (2, pI x2), (3, pI x3), (4, pI r2)] [] u7 RF NN 0 0 (some (pI res.1), res.2, RF, NN)) h (fun u7 h => ?_) (fun J11 hJ11 h => ?_)
      · refine g_iload_n (pc := 63) (j := 2) (dk d_mR_layTruth 38 rfl) rfl ?_
        refine g_iconst (pc := 64) (dk d_mR_layTruth 39 rfl) (by decide) ?_
        refine g_iload (pc := 65) (j := 4) (dk d_mR_layTruth 40 rfl) rfl ?_
        refine g_ishl (pc := 67) (dk d_mR_layTruth 41 rfl) ?_
        refine g_ior (pc := 68) (dk d_mR_layTruth 42 rfl) ?_
        refine h_bvI h (fun v2_8 h => ?_)
        refine g_istore_n (pc := 69) (l' := [(2, pI v2_8), (0, pR 46), (1, pI y1), (3, pI x3), (4, pI r2)]) (dk d_mR_layTruth 43 rfl) (Nat.le_of_ble_eq_true rfl) rfl ?_
        refine g_aload_n (pc := 70) (j := 1) (dk d_mR_layTruth 44 rfl) rfl (by decide) ?_
        refine g_getR (pc := 71) (a := 71) rfl fp_R_87 po_46 (dk d_mR_layTruth 45 rfl) ?_
        refine g_iload_n (pc := 74) (j := 3) (dk d_mR_layTruth 46 rfl) rfl ?_
        refine g_iload (pc := 75) (j := 4) (dk d_mR_layTruth 47 rfl) rfl ?_
        refine h_iast (pc := 77) (B := 5) pa_71 rfl (dk d_mR_layTruth 48 rfl) h (fun u9 h => ?_)
        refine h_iinc (pc := 78) (j := 3) (dk d_mR_layTruth 49 rfl) rfl (by decide) (Nat.le_of_ble_eq_true rfl) h (fun v3_10 h => ?_)
        refine g_loc (l' := [(3, pI v3_10), (2, pI v2_8), (0, pR 46), (1, pI y1), (4, pI r2)]) rfl ?_
        refine g_goto (pc := 81) (tgt := 19) (dk d_mR_layTruth 50 rfl) rfl ?_
        refine g_pick [2, 3, 1, 0] rfl (l' := [(0, pR 46), (1, pI y1), (2, pI v2_8), (3, pI v3_10)]) rfl ?_
        exact hrec _ _ _ h
      · refine h_icmp_ge (pc := 48) (tgt := 63) (dk d_mR_layTruth 28 rfl) rfl h (fun hc13 h => ?_) (fun hc13 h => ?_)
        · refine g_pick [1, 2, 3, 4, 0] rfl (l' := [(0, pR 46), (1, pI y1), (2, pI x2), (3, pI x3), (4, pI r2)]) rfl ?_
          exact hJ11 _ h
        · refine g_iload_n (pc := 51) (j := 3) (dk d_mR_layTruth 29 rfl) rfl ?_
          refine g_iload (pc := 52) (j := 0) (dk d_mR_layTruth 30 rfl) rfl ?_
          refine g_ishr (pc := 54) (dk d_mR_layTruth 31 rfl) ?_
          refine g_iconst (pc := 55) (dk d_mR_layTruth 32 rfl) (by decide) ?_
          refine g_iand (pc := 56) (dk d_mR_layTruth 33 rfl) ?_
          refine g_iconst (pc := 57) (dk d_mR_layTruth 34 rfl) (by decide) ?_
          refine h_icmp_ne (pc := 58) (tgt := 63) (dk d_mR_layTruth 35 rfl) rfl h (fun hc12 h => ?_) (fun hc12 h => ?_)
          · refine g_pick [1, 2, 3, 4, 0] rfl (l' := [(0, pR 46), (1, pI y1), (2, pI x2), (3, pI x3), (4, pI r2)]) rfl ?_
            exact hJ11 _ h
          · refine g_iconst (pc := 61) (dk d_mR_layTruth 36 rfl) (by decide) ?_
            exact h_zret (pc := 62) (Or.inl rfl) (dk d_mR_layTruth 37 rfl) h
set_option maxRecDepth 100000 in
set_option maxHeartbeats 4000000 in
theorem fR_layTruth_l19_ok (E : Nat × (Int → Int)) (d : Nat) {res : Int × WD} (y1 : Int) : ∀ (k : Nat) (x2 : Int) (x3 : Int) (w : WD), fR_layTruth_l19 y1 k x2 x3 w = some res → G E mR_layTruth (d + 4) 19 [(0, pR 46), (1, pI y1), (2, pI x2), (3, pI x3)] [] w RF NN 0 0 (some (pI res.1), res.2, RF, NN) := by
  intro k
  induction k with
  | zero =>
    intro x2 x3 w h
    exact no_e h
  | succ k ih =>
    intro x2 x3 w h
    exact fR_layTruth_l19_b_ok E d y1 ih x2 x3 w h
def fR_layTruth (a1 : Int) (w : WD) : Option (Int × WD) := ck (0 ≤ a1 ∧ a1 < 6) <| if (w 46 4) ≤ (w 83 a1) then (fR_layTruth_l19 a1 FU 0 0 w) else (some (0, w))
set_option maxRecDepth 100000 in
set_option maxHeartbeats 4000000 in
theorem gR_layTruth (E : Nat × (Int → Int)) (d : Nat) {res : Int × WD} (a1 : Int) (w : WD) (h : fR_layTruth a1 w = some res) : G E mR_layTruth (d + 4) 0 [(0, pR 46), (1, pI a1)] [] w RF NN 0 0 (some (pI res.1), res.2, RF, NN) := by
  unfold fR_layTruth at h
  refine g_iconst (pc := 0) (dk d_mR_layTruth 0 rfl) (by decide) ?_
  refine g_istore_n (pc := 1) (l' := [(2, pI 0), (0, pR 46), (1, pI a1)]) (dk d_mR_layTruth 1 rfl) (Nat.le_of_ble_eq_true rfl) rfl ?_
  refine g_aload_n (pc := 2) (j := 1) (dk d_mR_layTruth 2 rfl) rfl (by decide) ?_
  refine g_getR (pc := 3) (a := 83) rfl fp_R_124 po_46 (dk d_mR_layTruth 3 rfl) ?_
  refine g_iload_n (pc := 6) (j := 2) (dk d_mR_layTruth 4 rfl) rfl ?_
  refine h_iald (pc := 7) (B := 6) pa_83 rfl (dk d_mR_layTruth 5 rfl) h (fun h => ?_)
  refine g_aload_n (pc := 8) (j := 1) (dk d_mR_layTruth 6 rfl) rfl (by decide) ?_
  refine g_getI (pc := 9) fp_R_144 po_46 (dk d_mR_layTruth 7 rfl) ?_
  refine h_icmp_ge (pc := 12) (tgt := 17) (dk d_mR_layTruth 8 rfl) rfl h (fun hc16 h => ?_) (fun hc16 h => ?_)
  · refine g_iconst (pc := 17) (dk d_mR_layTruth 11 rfl) (by decide) ?_
    refine g_istore_n (pc := 18) (l' := [(3, pI 0), (2, pI 0), (0, pR 46), (1, pI a1)]) (dk d_mR_layTruth 12 rfl) (Nat.le_of_ble_eq_true rfl) rfl ?_
    refine g_pick [2, 3, 1, 0] rfl (l' := [(0, pR 46), (1, pI a1), (2, pI 0), (3, pI 0)]) rfl ?_
    refine fR_layTruth_l19_ok E d a1 FU _ _  _ h
  · refine g_iconst (pc := 15) (dk d_mR_layTruth 9 rfl) (by decide) ?_
    exact h_zret (pc := 16) (Or.inl rfl) (dk d_mR_layTruth 10 rfl) h
set_option maxRecDepth 100000 in
set_option maxHeartbeats 4000000 in
theorem kR_layTruth (E : Nat × (Int → Int)) (d : Nat) {a1 : Int} {w w1 : WD} {r : Int} (h : fR_layTruth a1 w = some (r, w1)) : CTi E mR_layTruth (d + 4) [pR 46, pI a1] w RF NN r w1 RF NN := by
  exact CTi_of (by decide +kernel) (Nat.le_of_ble_eq_true rfl) (Or.inr rfl) (gR_layTruth (res := (r, w1)) E d a1 w h)
def fR_rowFault (a1 : Int) (w : WD) : Option (Int × WD) := ck (0 ≤ a1 ∧ a1 < 6) <| if (w 82 a1) ≠ (-1) then (ck (0 ≤ a1 ∧ a1 < 6) <| if (w 82 a1) ≠ (-2) then (some ((-12), w)) else (some (0, w))) else (some ((-11), w))
set_option maxRecDepth 100000 in
set_option maxHeartbeats 4000000 in
theorem gR_rowFault (E : Nat × (Int → Int)) (d : Nat) {res : Int × WD} (a1 : Int) (w : WD) (h : fR_rowFault a1 w = some res) : G E mR_rowFault (d + 1) 0 [(0, pR 46), (1, pI a1)] [] w RF NN 0 0 (some (pI res.1), res.2, RF, NN) := by
  unfold fR_rowFault at h
  refine g_aload_n (pc := 0) (j := 0) (dk d_mR_rowFault 0 rfl) rfl (by decide) ?_
  refine g_getR (pc := 1) (a := 82) rfl fp_R_121 po_46 (dk d_mR_rowFault 1 rfl) ?_
  refine g_iload_n (pc := 4) (j := 1) (dk d_mR_rowFault 2 rfl) rfl ?_
  refine h_iald (pc := 5) (B := 6) pa_82 rfl (dk d_mR_rowFault 3 rfl) h (fun h => ?_)
  refine g_iconst (pc := 6) (dk d_mR_rowFault 4 rfl) (by decide) ?_
  refine h_icmp_ne (pc := 7) (tgt := 15) (dk d_mR_rowFault 5 rfl) rfl h (fun hc2 h => ?_) (fun hc2 h => ?_)
  · refine g_aload_n (pc := 15) (j := 0) (dk d_mR_rowFault 8 rfl) rfl (by decide) ?_
    refine g_getR (pc := 16) (a := 82) rfl fp_R_121 po_46 (dk d_mR_rowFault 9 rfl) ?_
    refine g_iload_n (pc := 19) (j := 1) (dk d_mR_rowFault 10 rfl) rfl ?_
    refine h_iald (pc := 20) (B := 6) pa_82 rfl (dk d_mR_rowFault 11 rfl) h (fun h => ?_)
    refine g_bipush (pc := 21) (dk d_mR_rowFault 12 rfl) (by decide) ?_
    refine h_icmp_ne (pc := 23) (tgt := 30) (dk d_mR_rowFault 13 rfl) rfl h (fun hc1 h => ?_) (fun hc1 h => ?_)
    · refine g_bipush (pc := 30) (dk d_mR_rowFault 16 rfl) (by decide) ?_
      exact h_iret (pc := 32) rfl (dk d_mR_rowFault 17 rfl) h
    · refine g_iconst (pc := 26) (dk d_mR_rowFault 14 rfl) (by decide) ?_
      refine g_goto (pc := 27) (tgt := 32) (dk d_mR_rowFault 15 rfl) rfl ?_
      exact h_iret (pc := 32) rfl (dk d_mR_rowFault 17 rfl) h
  · refine g_bipush (pc := 10) (dk d_mR_rowFault 6 rfl) (by decide) ?_
    refine g_goto (pc := 12) (tgt := 32) (dk d_mR_rowFault 7 rfl) rfl ?_
    exact h_iret (pc := 32) rfl (dk d_mR_rowFault 17 rfl) h
set_option maxRecDepth 100000 in
set_option maxHeartbeats 4000000 in
theorem kR_rowFault (E : Nat × (Int → Int)) (d : Nat) {a1 : Int} {w w1 : WD} {r : Int} (h : fR_rowFault a1 w = some (r, w1)) : CTi E mR_rowFault (d + 1) [pR 46, pI a1] w RF NN r w1 RF NN := by
  exact CTi_of (by decide +kernel) (Nat.le_of_ble_eq_true rfl) (Or.inl rfl) (gR_rowFault (res := (r, w1)) E d a1 w h)
def fR_truth (a1 : Int) (a2 : Int) (w : WD) : Option (Int × WD) := ci (fR_isShelf a1 w) <| fun (r2 : Int) (u1 : WD) => if r2 = 0 then (some ((-9223372036854775808), u1)) else (ci (fR_in a2 0 1 u1) <| fun (r5 : Int) (u4 : WD) => if r5 = 0 then (some ((-9223372036854775808), u4)) else (ci (fR_rowFault a1 u4) <| fun (r8 : Int) (u7 : WD) => if 0 ≤ r8 then (ci (fR_layTruth a1 u7) <| fun (r11 : Int) (u10 : WD) => if r11 ≠ 0 then (if a2 ≠ 0 then (ci (fR_foundOut u10) <| fun (r14 : Int) (u13 : WD) => some (r14, u13)) else (ci (fR_truthCounts u10) <| fun (r17 : Int) (u16 : WD) => some (r17, u16))) else (some ((-2), u10))) else (some ((-9223372036854775808), u7))))
set_option maxRecDepth 100000 in
set_option maxHeartbeats 4000000 in
theorem gR_truth (E : Nat × (Int → Int)) (d : Nat) {res : Int × WD} (a1 : Int) (a2 : Int) (w : WD) (h : fR_truth a1 a2 w = some res) : G E mR_truth (d + 205) 0 [(0, pR 46), (1, pI a1), (2, pI a2)] [] w RF NN 0 0 (some (pL res.1), res.2, RF, NN) := by
  unfold fR_truth at h
  refine g_iload_n (pc := 0) (j := 1) (dk d_mR_truth 0 rfl) rfl ?_
  refine h_callSi (d := d + 204) (pc := 1) (na := 1) (av := [pI a1]) ⟨rfl, rfl⟩ (dk d_mR_truth 1 rfl) lk_R_158 vm_mR_isShelf rfl rfl (Nat.le_of_ble_eq_true rfl) h (fun r2 u1 hq => kR_isShelf E (d + 202) hq) (fun r2 u1 hb3 h => ?_)
  refine h_if_eq (pc := 4) (tgt := 24) (dk d_mR_truth 2 rfl) rfl h (fun hc22 h => ?_) (fun hc22 h => ?_)
  · refine g_ldc2 (pc := 24) (u := (-9223372036854775808)) ck_R_304 (by decide) (dk d_mR_truth 12 rfl) ?_
    exact h_lret (pc := 27) (dk d_mR_truth 13 rfl) h
  · refine g_iload_n (pc := 7) (j := 2) (dk d_mR_truth 3 rfl) rfl ?_
    refine g_iconst (pc := 8) (dk d_mR_truth 4 rfl) (by decide) ?_
    refine g_iconst (pc := 9) (dk d_mR_truth 5 rfl) (by decide) ?_
    refine h_callSi (d := d + 204) (pc := 10) (na := 3) (av := [pI a2, pI 0, pI 1]) ⟨rfl, rfl⟩ (dk d_mR_truth 6 rfl) lk_R_140 vm_mR_in rfl rfl (Nat.le_of_ble_eq_true rfl) h (fun r5 u4 hq => kR_in E (d + 203) hq) (fun r5 u4 hb6 h => ?_)
    refine h_if_eq (pc := 13) (tgt := 24) (dk d_mR_truth 7 rfl) rfl h (fun hc21 h => ?_) (fun hc21 h => ?_)
    · refine g_ldc2 (pc := 24) (u := (-9223372036854775808)) ck_R_304 (by decide) (dk d_mR_truth 12 rfl) ?_
      exact h_lret (pc := 27) (dk d_mR_truth 13 rfl) h
    · refine g_aload_n (pc := 16) (j := 0) (dk d_mR_truth 8 rfl) rfl (by decide) ?_
      refine g_iload_n (pc := 17) (j := 1) (dk d_mR_truth 9 rfl) rfl ?_
      refine h_callVi (d := d + 204) (pc := 18) (na := 1) (av := [pI a1]) (k0 := 46) po_46 ⟨_, rfl⟩ ⟨rfl, rfl⟩ (dk d_mR_truth 10 rfl) lk_R_361 vm_mR_rowFault rfl rfl (Nat.le_of_ble_eq_true rfl) h (fun r8 u7 hq => kR_rowFault E (d + 203) hq) (fun r8 u7 hb9 h => ?_)
      refine h_if_ge (pc := 21) (tgt := 28) (dk d_mR_truth 11 rfl) rfl h (fun hc20 h => ?_) (fun hc20 h => ?_)
      · refine g_aload_n (pc := 28) (j := 0) (dk d_mR_truth 14 rfl) rfl (by decide) ?_
        refine g_iload_n (pc := 29) (j := 1) (dk d_mR_truth 15 rfl) rfl ?_
        refine h_callVi (d := d + 204) (pc := 30) (na := 1) (av := [pI a1]) (k0 := 46) po_46 ⟨_, rfl⟩ ⟨rfl, rfl⟩ (dk d_mR_truth 16 rfl) lk_R_364 vm_mR_layTruth rfl rfl (Nat.le_of_ble_eq_true rfl) h (fun r11 u10 hq => kR_layTruth E (d + 200) hq) (fun r11 u10 hb12 h => ?_)
        refine h_if_ne (pc := 33) (tgt := 40) (dk d_mR_truth 17 rfl) rfl h (fun hc19 h => ?_) (fun hc19 h => ?_)
        · refine g_iload_n (pc := 40) (j := 2) (dk d_mR_truth 20 rfl) rfl ?_
          refine h_if_ne (pc := 41) (tgt := 51) (dk d_mR_truth 21 rfl) rfl h (fun hc18 h => ?_) (fun hc18 h => ?_)
          · refine g_aload_n (pc := 51) (j := 0) (dk d_mR_truth 25 rfl) rfl (by decide) ?_
            refine h_callVi (d := d + 204) (pc := 52) (na := 0) (av := []) (k0 := 46) po_46 ⟨_, rfl⟩ ⟨rfl, rfl⟩ (dk d_mR_truth 26 rfl) lk_R_367 vm_mR_foundOut rfl rfl (Nat.le_of_ble_eq_true rfl) h (fun r14 u13 hq => kR_foundOut E (d + 0) hq) (fun r14 u13 hb15 h => ?_)
            refine g_i2l (pc := 55) (dk d_mR_truth 27 rfl) ?_
            exact h_lret (pc := 56) (dk d_mR_truth 28 rfl) h
          · refine g_aload_n (pc := 44) (j := 0) (dk d_mR_truth 22 rfl) rfl (by decide) ?_
            refine h_callVl (d := d + 204) (pc := 45) (na := 0) (av := []) (k0 := 46) po_46 ⟨_, rfl⟩ ⟨rfl, rfl⟩ (dk d_mR_truth 23 rfl) lk_R_357 vm_mR_truthCounts rfl rfl (Nat.le_of_ble_eq_true rfl) h (fun r17 u16 hq => kR_truthCounts E (d + 198) hq) (fun r17 u16 h => ?_)
            refine g_goto (pc := 48) (tgt := 56) (dk d_mR_truth 24 rfl) rfl ?_
            exact h_lret (pc := 56) (dk d_mR_truth 28 rfl) h
        · refine g_ldc2 (pc := 36) (u := (-2)) ck_R_315 (by decide) (dk d_mR_truth 18 rfl) ?_
          exact h_lret (pc := 39) (dk d_mR_truth 19 rfl) h
      · refine g_ldc2 (pc := 24) (u := (-9223372036854775808)) ck_R_304 (by decide) (dk d_mR_truth 12 rfl) ?_
        exact h_lret (pc := 27) (dk d_mR_truth 13 rfl) h
set_option maxRecDepth 100000 in
set_option maxHeartbeats 4000000 in
theorem kR_truth (E : Nat × (Int → Int)) (d : Nat) {a1 : Int} {a2 : Int} {w w1 : WD} {r : Int} (h : fR_truth a1 a2 w = some (r, w1)) : CTl E mR_truth (d + 205) [pR 46, pI a1, pI a2] w RF NN r w1 RF NN := by
  exact CTl_of (by decide +kernel) (Nat.le_of_ble_eq_true rfl) rfl (gR_truth (res := (r, w1)) E d a1 a2 w h)
def fR_maskOf_l2_b (rec : Int → WD → Option (Int × WD)) (y1 : Int) (x2 : Int) (w : WD) : Option (Int × WD) := if (w 46 4) ≤ x2 then (some ((-2), w)) else (ck (0 ≤ x2 ∧ x2 < 5) <| if (w 71 x2) ≠ y1 then (bv (w32 (x2 + 1)) <| fun (v2_1 : Int) => rec v2_1 w) else (some (x2, w)))
def fR_maskOf_l2 (y1 : Int) : Nat → Int → WD → Option (Int × WD)
  | 0 => fun _ _ => none
  | k + 1 => fR_maskOf_l2_b ( fR_maskOf_l2 y1 k) y1
set_option maxRecDepth 100000 in
set_option maxHeartbeats 4000000 in
theorem fR_maskOf_l2_b_ok (E : Nat × (Int → Int)) (d : Nat) {res : Int × WD} {rec : Int → WD → Option (Int × WD)} (y1 : Int) (hrec : ∀ (x2 : Int) (w : WD), rec x2 w = some res → G E mR_maskOf (d + 1) 2 [(0, pR 46), (1, pI y1), (2, pI x2)] [] w RF NN 0 0 (some (pI res.1), res.2, RF, NN)) (x2 : Int) (w : WD) (h : fR_maskOf_l2_b rec y1 x2 w = some res) : G E mR_maskOf (d + 1) 2 [(0, pR 46), (1, pI y1), (2, pI x2)] [] w RF NN 0 0 (some (pI res.1), res.2, RF, NN) := by
  unfold fR_maskOf_l2_b at h
  refine g_iload_n (pc := 2) (j := 2) (dk d_mR_maskOf 2 rfl) rfl ?_
  refine g_aload_n (pc := 3) (j := 0) (dk d_mR_maskOf 3 rfl) rfl (by decide) ?_
  refine g_getI (pc := 4) fp_R_144 po_46 (dk d_mR_maskOf 4 rfl) ?_
  refine h_icmp_ge (pc := 7) (tgt := 28) (dk d_mR_maskOf 5 rfl) rfl h (fun hc3 h => ?_) (fun hc3 h => ?_)
  · refine g_bipush (pc := 28) (dk d_mR_maskOf 16 rfl) (by decide) ?_
    exact h_iret (pc := 30) rfl (dk d_mR_maskOf 17 rfl) h
  · refine g_aload_n (pc := 10) (j := 0) (dk d_mR_maskOf 6 rfl) rfl (by decide) ?_
    refine g_getR (pc := 11) (a := 71) rfl fp_R_87 po_46 (dk d_mR_maskOf 7 rfl) ?_
    refine g_iload_n (pc := 14) (j := 2) (dk d_mR_maskOf 8 rfl) rfl ?_
    refine h_iald (pc := 15) (B := 5) pa_71 rfl (dk d_mR_maskOf 9 rfl) h (fun h => ?_)
    refine g_iload_n (pc := 16) (j := 1) (dk d_mR_maskOf 10 rfl) rfl ?_
    refine h_icmp_ne (pc := 17) (tgt := 22) (dk d_mR_maskOf 11 rfl) rfl h (fun hc2 h => ?_) (fun hc2 h => ?_)
    · refine h_iinc (pc := 22) (j := 2) (dk d_mR_maskOf 14 rfl) rfl (by decide) (Nat.le_of_ble_eq_true rfl) h (fun v2_1 h => ?_)
      refine g_loc (l' := [(2, pI v2_1), (0, pR 46), (1, pI y1)]) rfl ?_
      refine g_goto (pc := 25) (tgt := 2) (dk d_mR_maskOf 15 rfl) rfl ?_
      refine g_pick [1, 2, 0] rfl (l' := [(0, pR 46), (1, pI y1), (2, pI v2_1)]) rfl ?_
      exact hrec _ _ h
    · refine g_iload_n (pc := 20) (j := 2) (dk d_mR_maskOf 12 rfl) rfl ?_
      exact h_iret (pc := 21) rfl (dk d_mR_maskOf 13 rfl) h
set_option maxRecDepth 100000 in
set_option maxHeartbeats 4000000 in
theorem fR_maskOf_l2_ok (E : Nat × (Int → Int)) (d : Nat) {res : Int × WD} (y1 : Int) : ∀ (k : Nat) (x2 : Int) (w : WD), fR_maskOf_l2 y1 k x2 w = some res → G E mR_maskOf (d + 1) 2 [(0, pR 46), (1, pI y1), (2, pI x2)] [] w RF NN 0 0 (some (pI res.1), res.2, RF, NN) := by
  intro k
  induction k with
  | zero =>
    intro x2 w h
    exact no_e h
  | succ k ih =>
    intro x2 w h
    exact fR_maskOf_l2_b_ok E d y1 ih x2 w h
def fR_maskOf (a1 : Int) (w : WD) : Option (Int × WD) := fR_maskOf_l2 a1 FU 0 w
set_option maxRecDepth 100000 in
set_option maxHeartbeats 4000000 in
theorem gR_maskOf (E : Nat × (Int → Int)) (d : Nat) {res : Int × WD} (a1 : Int) (w : WD) (h : fR_maskOf a1 w = some res) : G E mR_maskOf (d + 1) 0 [(0, pR 46), (1, pI a1)] [] w RF NN 0 0 (some (pI res.1), res.2, RF, NN) := by
  unfold fR_maskOf at h
  refine g_iconst (pc := 0) (dk d_mR_maskOf 0 rfl) (by decide) ?_
  refine g_istore_n (pc := 1) (l' := [(2, pI 0), (0, pR 46), (1, pI a1)]) (dk d_mR_maskOf 1 rfl) (Nat.le_of_ble_eq_true rfl) rfl ?_
  refine g_pick [1, 2, 0] rfl (l' := [(0, pR 46), (1, pI a1), (2, pI 0)]) rfl ?_
  refine fR_maskOf_l2_ok E d a1 FU _  _ h
set_option maxRecDepth 100000 in
set_option maxHeartbeats 4000000 in
theorem kR_maskOf (E : Nat × (Int → Int)) (d : Nat) {a1 : Int} {w w1 : WD} {r : Int} (h : fR_maskOf a1 w = some (r, w1)) : CTi E mR_maskOf (d + 1) [pR 46, pI a1] w RF NN r w1 RF NN := by
  exact CTi_of (by decide +kernel) (Nat.le_of_ble_eq_true rfl) (Or.inl rfl) (gR_maskOf (res := (r, w1)) E d a1 w h)
def fR_thousandths (a1 : Int) (a2 : Int) (w : WD) : Option (Int × WD) := cv (fR_findWays w) <| fun (u1 : WD) => ck (0 ≤ (w32 ((w32 (7 * a1)) + a2)) ∧ (w32 ((w32 (7 * a1)) + a2)) < 35) <| ci (fR_shareOf (u1 68 (w32 ((w32 (7 * a1)) + a2))) (u1 46 32) 3 u1) <| fun (r3 : Int) (u2 : WD) => some (r3, u2)
set_option maxRecDepth 100000 in
set_option maxHeartbeats 4000000 in
theorem gR_thousandths (E : Nat × (Int → Int)) (d : Nat) {res : Int × WD} (a1 : Int) (a2 : Int) (w : WD) (h : fR_thousandths a1 a2 w = some res) : G E mR_thousandths (d + 204) 0 [(0, pR 46), (1, pI a1), (2, pI a2)] [] w RF NN 0 0 (some (pI res.1), res.2, RF, NN) := by
  unfold fR_thousandths at h
  refine g_aload_n (pc := 0) (j := 0) (dk d_mR_thousandths 0 rfl) rfl (by decide) ?_
  refine h_callVv (d := d + 203) (pc := 1) (na := 0) (av := []) (k0 := 46) po_46 ⟨_, rfl⟩ ⟨rfl, rfl⟩ (dk d_mR_thousandths 1 rfl) lk_R_306 vm_mR_findWays rfl rfl (Nat.le_of_ble_eq_true rfl) h (fun u1 hq => kR_findWays E (d + 0) hq) (fun u1 h => ?_)
  refine g_aload_n (pc := 4) (j := 0) (dk d_mR_thousandths 2 rfl) rfl (by decide) ?_
  refine g_getR (pc := 5) (a := 68) rfl fp_R_78 po_46 (dk d_mR_thousandths 3 rfl) ?_
  refine g_bipush (pc := 8) (dk d_mR_thousandths 4 rfl) (by decide) ?_
  refine g_iload_n (pc := 10) (j := 1) (dk d_mR_thousandths 5 rfl) rfl ?_
  refine g_imul (pc := 11) (dk d_mR_thousandths 6 rfl) ?_
  refine g_iload_n (pc := 12) (j := 2) (dk d_mR_thousandths 7 rfl) rfl ?_
  refine g_iadd (pc := 13) (dk d_mR_thousandths 8 rfl) ?_
  refine h_lald (pc := 14) (B := 35) pa_68 rfl (dk d_mR_thousandths 9 rfl) h (fun h => ?_)
  refine g_aload_n (pc := 15) (j := 0) (dk d_mR_thousandths 10 rfl) rfl (by decide) ?_
  refine g_getL (pc := 16) fp_R_290 po_46 (dk d_mR_thousandths 11 rfl) ?_
  refine g_iconst (pc := 19) (dk d_mR_thousandths 12 rfl) (by decide) ?_
  refine h_callSi (d := d + 203) (pc := 20) (na := 3) (av := [pL (u1 68 (w32 ((w32 (7 * a1)) + a2))), pL (u1 46 32), pI 3]) ⟨rfl, rfl⟩ (dk d_mR_thousandths 13 rfl) lk_R_338 vm_mR_shareOf rfl rfl (Nat.le_of_ble_eq_true rfl) h (fun r3 u2 hq => kR_shareOf E (d + 202) hq) (fun r3 u2 hb4 h => ?_)
  exact h_iret (pc := 23) rfl (dk d_mR_thousandths 14 rfl) h
set_option maxRecDepth 100000 in
set_option maxHeartbeats 4000000 in
theorem kR_thousandths (E : Nat × (Int → Int)) (d : Nat) {a1 : Int} {a2 : Int} {w w1 : WD} {r : Int} (h : fR_thousandths a1 a2 w = some (r, w1)) : CTi E mR_thousandths (d + 204) [pR 46, pI a1, pI a2] w RF NN r w1 RF NN := by
  exact CTi_of (by decide +kernel) (Nat.le_of_ble_eq_true rfl) (Or.inl rfl) (gR_thousandths (res := (r, w1)) E d a1 a2 w h)
def fR_feign_l105_b (rec : Int → Int → Int → WD → Option (Int × WD)) (y2 : Int) (y3 : Int) (y4 : Int) (y7 : Int) (y8 : Int) (K0 : Int → Int → WD → Option (Int × WD)) (x5 : Int) (x6 : Int) (x9 : Int) (w : WD) : Option (Int × WD) := if 3 < x9 then (K0 x5 x6 w) else (ck (0 ≤ (w32 ((w32 (3 * y4)) + y7)) ∧ (w32 ((w32 (3 * y4)) + y7)) < 15) <| bw (up w 49 (w32 ((w32 (3 * y4)) + y7)) x9) <| fun (u23 : WD) => ci (fR_thousandths y4 y2 u23) <| fun (r25 : Int) (u24 : WD) => jn (β := Int → Int → WD → Option (Int × WD)) (fun (v5_27 : Int) (v6_28 : Int) (u29 : WD) => bv (w32 (x9 + 1)) <| fun (v9_30 : Int) => rec v5_27 v6_28 v9_30 u29) <| fun J31 => if r25 < x6 then (bv (w32 ((w32 (10 * y7)) + x9)) <| fun (v5_32 : Int) => J31 v5_32 r25 u24) else (J31 x5 x6 u24))
def fR_feign_l105 (y2 : Int) (y3 : Int) (y4 : Int) (y7 : Int) (y8 : Int) (K0 : Int → Int → WD → Option (Int × WD)) : Nat → Int → Int → Int → WD → Option (Int × WD)
  | 0 => fun _ _ _ _ => none
  | k + 1 => fR_feign_l105_b ( fR_feign_l105 y2 y3 y4 y7 y8 K0 k) y2 y3 y4 y7 y8 K0
set_option maxRecDepth 100000 in
set_option maxHeartbeats 4000000 in
theorem fR_feign_l105_b_ok (E : Nat × (Int → Int)) (d : Nat) {res : Int × WD} {rec : Int → Int → Int → WD → Option (Int × WD)} (y2 : Int) (y3 : Int) (y4 : Int) (y7 : Int) (y8 : Int) (K0 : Int → Int → WD → Option (Int × WD)) (hrec : ∀ (x5 : Int) (x6 : Int) (x9 : Int) (w : WD), rec x5 x6 x9 w = some res → G E mR_feign (d + 205) 105 [(0, pR 46), (2, pI y2), (3, pI y3), (4, pI y4), (5, pI x5), (6, pI x6), (7, pI y7), (8, pI y8), (9, pI x9)] [] w RF NN 0 0 (some (pI res.1), res.2, RF, NN)) (hK0 : ∀ (x5 : Int) (x6 : Int) (w : WD), K0 x5 x6 w = some res → G E mR_feign (d + 205) 164 [(0, pR 46), (2, pI y2), (3, pI y3), (4, pI y4), (5, pI x5), (6, pI x6), (7, pI y7), (8, pI y8)] [] w RF NN 0 0 (some (pI res.1), res.2, RF, NN)) (x5 : Int) (x6 : Int) (x9 : Int) (w : WD) (h : fR_feign_l105_b rec y2 y3 y4 y7 y8 K0 x5 x6 x9 w = some res) : G E mR_feign (d + 205) 105 [(0, pR 46), (2, pI y2), (3, pI y3), (4, pI y4), (5, pI x5), (6, pI x6), (7, pI y7), (8, pI y8), (9, pI x9)] [] w RF NN 0 0 (some (pI res.1), res.2, RF, NN) := by
  unfold fR_feign_l105_b at h
  refine g_iload (pc := 105) (j := 8) (dk d_mR_feign 59 rfl) rfl ?_
  refine g_iconst (pc := 107) (dk d_mR_feign 60 rfl) (by decide) ?_
  refine h_icmp_gt (pc := 108) (tgt := 164) (dk d_mR_feign 61 rfl) rfl h (fun hc34 h => ?_) (fun hc34 h => ?_)
  · refine g_pick [0, 1, 2, 3, 4, 5, 6, 7] rfl (l' := [(0, pR 46), (2, pI y2), (3, pI y3), (4, pI y4), (5, pI x5), (6, pI x6), (7, pI y7), (8, pI y8)]) rfl ?_
    exact hK0 _ _ _ h
  · refine g_aload_n (pc := 111) (j := 0) (dk d_mR_feign 62 rfl) rfl (by decide) ?_
    refine g_getR (pc := 112) (a := 49) rfl fp_R_18 po_46 (dk d_mR_feign 63 rfl) ?_
    refine g_iconst (pc := 115) (dk d_mR_feign 64 rfl) (by decide) ?_
    refine g_iload (pc := 116) (j := 3) (dk d_mR_feign 65 rfl) rfl ?_
    refine g_imul (pc := 118) (dk d_mR_feign 66 rfl) ?_
    refine g_iload (pc := 119) (j := 6) (dk d_mR_feign 67 rfl) rfl ?_
    refine g_iadd (pc := 121) (dk d_mR_feign 68 rfl) ?_
    refine g_iload (pc := 122) (j := 8) (dk d_mR_feign 69 rfl) rfl ?_
    refine h_iast (pc := 124) (B := 15) pa_49 rfl (dk d_mR_feign 70 rfl) h (fun u23 h => ?_)
    refine g_aload_n (pc := 125) (j := 0) (dk d_mR_feign 71 rfl) rfl (by decide) ?_
    refine g_iload (pc := 126) (j := 3) (dk d_mR_feign 72 rfl) rfl ?_
    refine g_iload_n (pc := 128) (j := 1) (dk d_mR_feign 73 rfl) rfl ?_
    refine h_callVi (d := d + 204) (pc := 129) (na := 2) (av := [pI y4, pI y2]) (k0 := 46) po_46 ⟨_, rfl⟩ ⟨rfl, rfl⟩ (dk d_mR_feign 74 rfl) lk_R_373 vm_mR_thousandths rfl rfl (Nat.le_of_ble_eq_true rfl) h (fun r25 u24 hq => kR_thousandths E (d + 0) hq) (fun r25 u24 hb26 h => ?_)
    refine g_istore (pc := 132) (l' := [(10, pI r25), (0, pR 46), (2, pI y2), (3, pI y3), (4, pI y4), (5, pI x5), (6, pI x6), (7, pI y7), (8, pI y8), (9, pI x9)]) (dk d_mR_feign 75 rfl) (Nat.le_of_ble_eq_true rfl) rfl ?_
    refine g_iload (pc := 134) (j := 0) (dk d_mR_feign 76 rfl) rfl ?_
    refine g_iload (pc := 136) (j := 6) (dk d_mR_feign 77 rfl) rfl ?_
    refine jn_e (fun J => ∀ (v5_27 : Int) (v6_28 : Int) (u29 : WD), J v5_27 v6_28 u29 = some res → G E mR_feign (d + 205) 158 [(0, pR 46), (2, pI y2), (3, pI y3), (4, pI y4), (5, pI v5_27), (6, pI v6_28), (7, pI y7), (8, pI y8), (9, pI x9)] [] u29 RF NN 0 0 (some (pI res.1), res.2, RF, NN)) h (fun v5_27 v6_28 u29 h => ?_) (fun J31 hJ31 h => ?_)
    · refine h_iinc (pc := 158) (j := 8) (dk d_mR_feign 88 rfl) rfl (by decide) (Nat.le_of_ble_eq_true rfl) h (fun v9_30 h => ?_)
      refine g_loc (l' := [(9, pI v9_30), (0, pR 46), (2, pI y2), (3, pI y3), (4, pI y4), (5, pI v5_27), (6, pI v6_28), (7, pI y7), (8, pI y8)]) rfl ?_
      refine g_goto (pc := 161) (tgt := 105) (dk d_mR_feign 89 rfl) rfl ?_
      refine g_pick [1, 2, 3, 4, 5, 6, 7, 8, 0] rfl (l' := [(0, pR 46), (2, pI y2), (3, pI y3), (4, pI y4), (5, pI v5_27), (6, pI v6_28), (7, pI y7), (8, pI y8), (9, pI v9_30)]) rfl ?_
      exact hrec _ _ _ _ h
    · refine h_icmp_lt (pc := 138) (tgt := 144) (dk d_mR_feign 78 rfl) rfl h (fun hc33 h => ?_) (fun hc33 h => ?_)
      · refine g_bipush (pc := 144) (dk d_mR_feign 80 rfl) (by decide) ?_
        refine g_iload (pc := 146) (j := 7) (dk d_mR_feign 81 rfl) rfl ?_
        refine g_imul (pc := 148) (dk d_mR_feign 82 rfl) ?_
        refine g_iload (pc := 149) (j := 9) (dk d_mR_feign 83 rfl) rfl ?_
        refine g_iadd (pc := 151) (dk d_mR_feign 84 rfl) ?_
        refine h_bvI h (fun v5_32 h => ?_)
        refine g_istore (pc := 152) (l' := [(5, pI v5_32), (10, pI r25), (0, pR 46), (2, pI y2), (3, pI y3), (4, pI y4), (6, pI x6), (7, pI y7), (8, pI y8), (9, pI x9)]) (dk d_mR_feign 85 rfl) (Nat.le_of_ble_eq_true rfl) rfl ?_
        refine g_iload (pc := 154) (j := 1) (dk d_mR_feign 86 rfl) rfl ?_
        refine g_istore (pc := 156) (l' := [(6, pI r25), (5, pI v5_32), (10, pI r25), (0, pR 46), (2, pI y2), (3, pI y3), (4, pI y4), (7, pI y7), (8, pI y8), (9, pI x9)]) (dk d_mR_feign 87 rfl) (Nat.le_of_ble_eq_true rfl) rfl ?_
        refine g_pick [3, 4, 5, 6, 1, 0, 7, 8, 9] rfl (l' := [(0, pR 46), (2, pI y2), (3, pI y3), (4, pI y4), (5, pI v5_32), (6, pI r25), (7, pI y7), (8, pI y8), (9, pI x9)]) rfl ?_
        exact hJ31 _ _ _ h
      · refine g_goto (pc := 141) (tgt := 158) (dk d_mR_feign 79 rfl) rfl ?_
        refine g_pick [1, 2, 3, 4, 5, 6, 7, 8, 9] rfl (l' := [(0, pR 46), (2, pI y2), (3, pI y3), (4, pI y4), (5, pI x5), (6, pI x6), (7, pI y7), (8, pI y8), (9, pI x9)]) rfl ?_
        exact hJ31 _ _ _ h
set_option maxRecDepth 100000 in
set_option maxHeartbeats 4000000 in
theorem fR_feign_l105_ok (E : Nat × (Int → Int)) (d : Nat) {res : Int × WD} (y2 : Int) (y3 : Int) (y4 : Int) (y7 : Int) (y8 : Int) (K0 : Int → Int → WD → Option (Int × WD)) (hK0 : ∀ (x5 : Int) (x6 : Int) (w : WD), K0 x5 x6 w = some res → G E mR_feign (d + 205) 164 [(0, pR 46), (2, pI y2), (3, pI y3), (4, pI y4), (5, pI x5), (6, pI x6), (7, pI y7), (8, pI y8)] [] w RF NN 0 0 (some (pI res.1), res.2, RF, NN)) : ∀ (k : Nat) (x5 : Int) (x6 : Int) (x9 : Int) (w : WD), fR_feign_l105 y2 y3 y4 y7 y8 K0 k x5 x6 x9 w = some res → G E mR_feign (d + 205) 105 [(0, pR 46), (2, pI y2), (3, pI y3), (4, pI y4), (5, pI x5), (6, pI x6), (7, pI y7), (8, pI y8), (9, pI x9)] [] w RF NN 0 0 (some (pI res.1), res.2, RF, NN) := by
  intro k
  induction k with
  | zero =>
    intro x5 x6 x9 w h
    exact no_e h
  | succ k ih =>
    intro x5 x6 x9 w h
    exact fR_feign_l105_b_ok E d y2 y3 y4 y7 y8 K0 ih hK0 x5 x6 x9 w h
def fR_feign_l82_b (rec : Int → Int → Int → WD → Option (Int × WD)) (y2 : Int) (y3 : Int) (y4 : Int) (K0 : Int → Int → WD → Option (Int × WD)) (x5 : Int) (x6 : Int) (x7 : Int) (w : WD) : Option (Int × WD) := if 3 ≤ x7 then (K0 x5 x6 w) else (ck (0 ≤ (w32 ((w32 (3 * y4)) + x7)) ∧ (w32 ((w32 (3 * y4)) + x7)) < 15) <| bv (w 49 (w32 ((w32 (3 * y4)) + x7))) <| fun (v8_22 : Int) => fR_feign_l105 y2 y3 y4 x7 v8_22 (fun (v5_35 : Int) (v6_36 : Int) (u37 : WD) => ck (0 ≤ (w32 ((w32 (3 * y4)) + x7)) ∧ (w32 ((w32 (3 * y4)) + x7)) < 15) <| bw (up u37 49 (w32 ((w32 (3 * y4)) + x7)) v8_22) <| fun (u38 : WD) => bv (w32 (x7 + 1)) <| fun (v7_39 : Int) => rec v5_35 v6_36 v7_39 u38) FU x5 x6 0 w)
def fR_feign_l82 (y2 : Int) (y3 : Int) (y4 : Int) (K0 : Int → Int → WD → Option (Int × WD)) : Nat → Int → Int → Int → WD → Option (Int × WD)
  | 0 => fun _ _ _ _ => none
  | k + 1 => fR_feign_l82_b ( fR_feign_l82 y2 y3 y4 K0 k) y2 y3 y4 K0
set_option maxRecDepth 100000 in
set_option maxHeartbeats 4000000 in
theorem fR_feign_l82_b_ok (E : Nat × (Int → Int)) (d : Nat) {res : Int × WD} {rec : Int → Int → Int → WD → Option (Int × WD)} (y2 : Int) (y3 : Int) (y4 : Int) (K0 : Int → Int → WD → Option (Int × WD)) (hrec : ∀ (x5 : Int) (x6 : Int) (x7 : Int) (w : WD), rec x5 x6 x7 w = some res → G E mR_feign (d + 205) 82 [(0, pR 46), (2, pI y2), (3, pI y3), (4, pI y4), (5, pI x5), (6, pI x6), (7, pI x7)] [] w RF NN 0 0 (some (pI res.1), res.2, RF, NN)) (hK0 : ∀ (x5 : Int) (x6 : Int) (w : WD), K0 x5 x6 w = some res → G E mR_feign (d + 205) 184 [(3, pI y3), (5, pI x5), (6, pI x6)] [] w RF NN 0 0 (some (pI res.1), res.2, RF, NN)) (x5 : Int) (x6 : Int) (x7 : Int) (w : WD) (h : fR_feign_l82_b rec y2 y3 y4 K0 x5 x6 x7 w = some res) : G E mR_feign (d + 205) 82 [(0, pR 46), (2, pI y2), (3, pI y3), (4, pI y4), (5, pI x5), (6, pI x6), (7, pI x7)] [] w RF NN 0 0 (some (pI res.1), res.2, RF, NN) := by
  unfold fR_feign_l82_b at h
  refine g_iload (pc := 82) (j := 6) (dk d_mR_feign 45 rfl) rfl ?_
  refine g_iconst (pc := 84) (dk d_mR_feign 46 rfl) (by decide) ?_
  refine h_icmp_ge (pc := 85) (tgt := 184) (dk d_mR_feign 47 rfl) rfl h (fun hc40 h => ?_) (fun hc40 h => ?_)
  · refine g_pick [2, 4, 5] rfl (l' := [(3, pI y3), (5, pI x5), (6, pI x6)]) rfl ?_
    exact hK0 _ _ _ h
  · refine g_aload_n (pc := 88) (j := 0) (dk d_mR_feign 48 rfl) rfl (by decide) ?_
    refine g_getR (pc := 89) (a := 49) rfl fp_R_18 po_46 (dk d_mR_feign 49 rfl) ?_
    refine g_iconst (pc := 92) (dk d_mR_feign 50 rfl) (by decide) ?_
    refine g_iload (pc := 93) (j := 3) (dk d_mR_feign 51 rfl) rfl ?_
    refine g_imul (pc := 95) (dk d_mR_feign 52 rfl) ?_
    refine g_iload (pc := 96) (j := 6) (dk d_mR_feign 53 rfl) rfl ?_
    refine g_iadd (pc := 98) (dk d_mR_feign 54 rfl) ?_
    refine h_iald (pc := 99) (B := 15) pa_49 rfl (dk d_mR_feign 55 rfl) h (fun h => ?_)
    refine h_bvI h (fun v8_22 h => ?_)
    refine g_istore (pc := 100) (l' := [(8, pI v8_22), (0, pR 46), (2, pI y2), (3, pI y3), (4, pI y4), (5, pI x5), (6, pI x6), (7, pI x7)]) (dk d_mR_feign 56 rfl) (Nat.le_of_ble_eq_true rfl) rfl ?_
    refine g_iconst (pc := 102) (dk d_mR_feign 57 rfl) (by decide) ?_
    refine g_istore (pc := 103) (l' := [(9, pI 0), (8, pI v8_22), (0, pR 46), (2, pI y2), (3, pI y3), (4, pI y4), (5, pI x5), (6, pI x6), (7, pI x7)]) (dk d_mR_feign 58 rfl) (Nat.le_of_ble_eq_true rfl) rfl ?_
    refine g_pick [2, 3, 4, 5, 6, 7, 8, 1, 0] rfl (l' := [(0, pR 46), (2, pI y2), (3, pI y3), (4, pI y4), (5, pI x5), (6, pI x6), (7, pI x7), (8, pI v8_22), (9, pI 0)]) rfl ?_
    refine fR_feign_l105_ok E d y2 y3 y4 x7 v8_22 _  (fun v5_35 v6_36 u37 h => ?_) FU _ _ _  _ h
    · refine g_aload_n (pc := 164) (j := 0) (dk d_mR_feign 90 rfl) rfl (by decide) ?_
      refine g_getR (pc := 165) (a := 49) rfl fp_R_18 po_46 (dk d_mR_feign 91 rfl) ?_
      refine g_iconst (pc := 168) (dk d_mR_feign 92 rfl) (by decide) ?_
      refine g_iload (pc := 169) (j := 3) (dk d_mR_feign 93 rfl) rfl ?_
      refine g_imul (pc := 171) (dk d_mR_feign 94 rfl) ?_
      refine g_iload (pc := 172) (j := 6) (dk d_mR_feign 95 rfl) rfl ?_
      refine g_iadd (pc := 174) (dk d_mR_feign 96 rfl) ?_
      refine g_iload (pc := 175) (j := 7) (dk d_mR_feign 97 rfl) rfl ?_
      refine h_iast (pc := 177) (B := 15) pa_49 rfl (dk d_mR_feign 98 rfl) h (fun u38 h => ?_)
      refine h_iinc (pc := 178) (j := 6) (dk d_mR_feign 99 rfl) rfl (by decide) (Nat.le_of_ble_eq_true rfl) h (fun v7_39 h => ?_)
      refine g_loc (l' := [(7, pI v7_39), (0, pR 46), (2, pI y2), (3, pI y3), (4, pI y4), (5, pI v5_35), (6, pI v6_36), (8, pI v8_22)]) rfl ?_
      refine g_goto (pc := 181) (tgt := 82) (dk d_mR_feign 100 rfl) rfl ?_
      refine g_pick [1, 2, 3, 4, 5, 6, 0] rfl (l' := [(0, pR 46), (2, pI y2), (3, pI y3), (4, pI y4), (5, pI v5_35), (6, pI v6_36), (7, pI v7_39)]) rfl ?_
      exact hrec _ _ _ _ h
set_option maxRecDepth 100000 in
set_option maxHeartbeats 4000000 in
theorem fR_feign_l82_ok (E : Nat × (Int → Int)) (d : Nat) {res : Int × WD} (y2 : Int) (y3 : Int) (y4 : Int) (K0 : Int → Int → WD → Option (Int × WD)) (hK0 : ∀ (x5 : Int) (x6 : Int) (w : WD), K0 x5 x6 w = some res → G E mR_feign (d + 205) 184 [(3, pI y3), (5, pI x5), (6, pI x6)] [] w RF NN 0 0 (some (pI res.1), res.2, RF, NN)) : ∀ (k : Nat) (x5 : Int) (x6 : Int) (x7 : Int) (w : WD), fR_feign_l82 y2 y3 y4 K0 k x5 x6 x7 w = some res → G E mR_feign (d + 205) 82 [(0, pR 46), (2, pI y2), (3, pI y3), (4, pI y4), (5, pI x5), (6, pI x6), (7, pI x7)] [] w RF NN 0 0 (some (pI res.1), res.2, RF, NN) := by
  intro k
  induction k with
  | zero =>
    intro x5 x6 x7 w h
    exact no_e h
  | succ k ih =>
    intro x5 x6 x7 w h
    exact fR_feign_l82_b_ok E d y2 y3 y4 K0 ih hK0 x5 x6 x7 w h
def fR_feign (a1 : Int) (a2 : Int) (a3 : Int) (w : WD) : Option (Int × WD) := ci (fR_isShelf a1 w) <| fun (r2 : Int) (u1 : WD) => if r2 = 0 then (some ((-1), u1)) else (ci (fR_isPerson a2 u1) <| fun (r5 : Int) (u4 : WD) => if r5 = 0 then (some ((-1), u4)) else (ci (fR_in a3 0 1 u4) <| fun (r8 : Int) (u7 : WD) => if r8 ≠ 0 then (ci (fR_rowFault a1 u7) <| fun (r11 : Int) (u10 : WD) => if 0 ≤ r11 then (ci (fR_layTruth a1 u10) <| fun (r14 : Int) (u13 : WD) => if r14 ≠ 0 then (ci (fR_maskOf a2 u13) <| fun (r17 : Int) (u16 : WD) => if 0 ≤ r17 then (ci (fR_thousandths r17 a2 u16) <| fun (r20 : Int) (u19 : WD) => fR_feign_l82 a2 a3 r17 (fun (v5_41 : Int) (v6_42 : Int) (u43 : WD) => if v5_41 < 0 then (some (v5_41, u43)) else (if a3 ≠ 0 then (some (v6_42, u43)) else (some (v5_41, u43)))) FU (-2) r20 0 u19) else (some ((-2), u16))) else (some ((-2), u13))) else (ci (fR_rowFault a1 u10) <| fun (r49 : Int) (u48 : WD) => some (r49, u48))) else (some ((-1), u7))))
set_option maxRecDepth 100000 in
set_option maxHeartbeats 4000000 in
theorem gR_feign (E : Nat × (Int → Int)) (d : Nat) {res : Int × WD} (a1 : Int) (a2 : Int) (a3 : Int) (w : WD) (h : fR_feign a1 a2 a3 w = some res) : G E mR_feign (d + 205) 0 [(0, pR 46), (1, pI a1), (2, pI a2), (3, pI a3)] [] w RF NN 0 0 (some (pI res.1), res.2, RF, NN) := by
  unfold fR_feign at h
  refine g_iload_n (pc := 0) (j := 1) (dk d_mR_feign 0 rfl) rfl ?_
  refine h_callSi (d := d + 204) (pc := 1) (na := 1) (av := [pI a1]) ⟨rfl, rfl⟩ (dk d_mR_feign 1 rfl) lk_R_158 vm_mR_isShelf rfl rfl (Nat.le_of_ble_eq_true rfl) h (fun r2 u1 hq => kR_isShelf E (d + 202) hq) (fun r2 u1 hb3 h => ?_)
  refine h_if_eq (pc := 4) (tgt := 24) (dk d_mR_feign 2 rfl) rfl h (fun hc54 h => ?_) (fun hc54 h => ?_)
  · refine g_iconst (pc := 24) (dk d_mR_feign 12 rfl) (by decide) ?_
    exact h_iret (pc := 25) rfl (dk d_mR_feign 13 rfl) h
  · refine g_aload_n (pc := 7) (j := 0) (dk d_mR_feign 3 rfl) rfl (by decide) ?_
    refine g_iload_n (pc := 8) (j := 2) (dk d_mR_feign 4 rfl) rfl ?_
    refine h_callVi (d := d + 204) (pc := 9) (na := 1) (av := [pI a2]) (k0 := 46) po_46 ⟨_, rfl⟩ ⟨rfl, rfl⟩ (dk d_mR_feign 5 rfl) lk_R_147 vm_mR_isPerson rfl rfl (Nat.le_of_ble_eq_true rfl) h (fun r5 u4 hq => kR_isPerson E (d + 202) hq) (fun r5 u4 hb6 h => ?_)
    refine h_if_eq (pc := 12) (tgt := 24) (dk d_mR_feign 6 rfl) rfl h (fun hc53 h => ?_) (fun hc53 h => ?_)
    · refine g_iconst (pc := 24) (dk d_mR_feign 12 rfl) (by decide) ?_
      exact h_iret (pc := 25) rfl (dk d_mR_feign 13 rfl) h
    · refine g_iload_n (pc := 15) (j := 3) (dk d_mR_feign 7 rfl) rfl ?_
      refine g_iconst (pc := 16) (dk d_mR_feign 8 rfl) (by decide) ?_
      refine g_iconst (pc := 17) (dk d_mR_feign 9 rfl) (by decide) ?_
      refine h_callSi (d := d + 204) (pc := 18) (na := 3) (av := [pI a3, pI 0, pI 1]) ⟨rfl, rfl⟩ (dk d_mR_feign 10 rfl) lk_R_140 vm_mR_in rfl rfl (Nat.le_of_ble_eq_true rfl) h (fun r8 u7 hq => kR_in E (d + 203) hq) (fun r8 u7 hb9 h => ?_)
      refine h_if_ne (pc := 21) (tgt := 26) (dk d_mR_feign 11 rfl) rfl h (fun hc52 h => ?_) (fun hc52 h => ?_)
      · refine g_aload_n (pc := 26) (j := 0) (dk d_mR_feign 14 rfl) rfl (by decide) ?_
        refine g_iload_n (pc := 27) (j := 1) (dk d_mR_feign 15 rfl) rfl ?_
        refine h_callVi (d := d + 204) (pc := 28) (na := 1) (av := [pI a1]) (k0 := 46) po_46 ⟨_, rfl⟩ ⟨rfl, rfl⟩ (dk d_mR_feign 16 rfl) lk_R_361 vm_mR_rowFault rfl rfl (Nat.le_of_ble_eq_true rfl) h (fun r11 u10 hq => kR_rowFault E (d + 203) hq) (fun r11 u10 hb12 h => ?_)
        refine h_if_ge (pc := 31) (tgt := 40) (dk d_mR_feign 17 rfl) rfl h (fun hc51 h => ?_) (fun hc51 h => ?_)
        · refine g_aload_n (pc := 40) (j := 0) (dk d_mR_feign 22 rfl) rfl (by decide) ?_
          refine g_iload_n (pc := 41) (j := 1) (dk d_mR_feign 23 rfl) rfl ?_
          refine h_callVi (d := d + 204) (pc := 42) (na := 1) (av := [pI a1]) (k0 := 46) po_46 ⟨_, rfl⟩ ⟨rfl, rfl⟩ (dk d_mR_feign 24 rfl) lk_R_364 vm_mR_layTruth rfl rfl (Nat.le_of_ble_eq_true rfl) h (fun r14 u13 hq => kR_layTruth E (d + 200) hq) (fun r14 u13 hb15 h => ?_)
          refine h_if_ne (pc := 45) (tgt := 51) (dk d_mR_feign 25 rfl) rfl h (fun hc47 h => ?_) (fun hc47 h => ?_)
          · refine g_aload_n (pc := 51) (j := 0) (dk d_mR_feign 28 rfl) rfl (by decide) ?_
            refine g_iload_n (pc := 52) (j := 2) (dk d_mR_feign 29 rfl) rfl ?_
            refine h_callVi (d := d + 204) (pc := 53) (na := 1) (av := [pI a2]) (k0 := 46) po_46 ⟨_, rfl⟩ ⟨rfl, rfl⟩ (dk d_mR_feign 30 rfl) lk_R_370 vm_mR_maskOf rfl rfl (Nat.le_of_ble_eq_true rfl) h (fun r17 u16 hq => kR_maskOf E (d + 203) hq) (fun r17 u16 hb18 h => ?_)
            refine g_istore (pc := 56) (l' := [(4, pI r17), (0, pR 46), (1, pI a1), (2, pI a2), (3, pI a3)]) (dk d_mR_feign 31 rfl) (Nat.le_of_ble_eq_true rfl) rfl ?_
            refine g_iload (pc := 58) (j := 0) (dk d_mR_feign 32 rfl) rfl ?_
            refine h_if_ge (pc := 60) (tgt := 66) (dk d_mR_feign 33 rfl) rfl h (fun hc46 h => ?_) (fun hc46 h => ?_)
            · refine g_bipush (pc := 66) (dk d_mR_feign 36 rfl) (by decide) ?_
              refine g_istore (pc := 68) (l' := [(5, pI (-2)), (4, pI r17), (0, pR 46), (1, pI a1), (2, pI a2), (3, pI a3)]) (dk d_mR_feign 37 rfl) (Nat.le_of_ble_eq_true rfl) rfl ?_
              refine g_aload_n (pc := 70) (j := 2) (dk d_mR_feign 38 rfl) rfl (by decide) ?_
              refine g_iload (pc := 71) (j := 1) (dk d_mR_feign 39 rfl) rfl ?_
              refine g_iload_n (pc := 73) (j := 4) (dk d_mR_feign 40 rfl) rfl ?_
              refine h_callVi (d := d + 204) (pc := 74) (na := 2) (av := [pI r17, pI a2]) (k0 := 46) po_46 ⟨_, rfl⟩ ⟨rfl, rfl⟩ (dk d_mR_feign 41 rfl) lk_R_373 vm_mR_thousandths rfl rfl (Nat.le_of_ble_eq_true rfl) h (fun r20 u19 hq => kR_thousandths E (d + 0) hq) (fun r20 u19 hb21 h => ?_)
              refine g_istore (pc := 77) (l' := [(6, pI r20), (5, pI (-2)), (4, pI r17), (0, pR 46), (1, pI a1), (2, pI a2), (3, pI a3)]) (dk d_mR_feign 42 rfl) (Nat.le_of_ble_eq_true rfl) rfl ?_
              refine g_iconst (pc := 79) (dk d_mR_feign 43 rfl) (by decide) ?_
              refine g_istore (pc := 80) (l' := [(7, pI 0), (6, pI r20), (5, pI (-2)), (4, pI r17), (0, pR 46), (1, pI a1), (2, pI a2), (3, pI a3)]) (dk d_mR_feign 44 rfl) (Nat.le_of_ble_eq_true rfl) rfl ?_
              refine g_pick [4, 6, 7, 3, 2, 1, 0] rfl (l' := [(0, pR 46), (2, pI a2), (3, pI a3), (4, pI r17), (5, pI (-2)), (6, pI r20), (7, pI 0)]) rfl ?_
              refine fR_feign_l82_ok E d a2 a3 r17 _  (fun v5_41 v6_42 u43 h => ?_) FU _ _ _  _ h
              · refine g_iload (pc := 184) (j := 1) (dk d_mR_feign 101 rfl) rfl ?_
                refine h_if_lt (pc := 186) (tgt := 193) (dk d_mR_feign 102 rfl) rfl h (fun hc45 h => ?_) (fun hc45 h => ?_)
                · refine g_iload (pc := 193) (j := 1) (dk d_mR_feign 105 rfl) rfl ?_
                  refine g_goto (pc := 195) (tgt := 200) (dk d_mR_feign 106 rfl) rfl ?_
                  exact h_iret (pc := 200) rfl (dk d_mR_feign 108 rfl) h
                · refine g_iload_n (pc := 189) (j := 0) (dk d_mR_feign 103 rfl) rfl ?_
                  refine h_if_ne (pc := 190) (tgt := 198) (dk d_mR_feign 104 rfl) rfl h (fun hc44 h => ?_) (fun hc44 h => ?_)
                  · refine g_iload (pc := 198) (j := 2) (dk d_mR_feign 107 rfl) rfl ?_
                    exact h_iret (pc := 200) rfl (dk d_mR_feign 108 rfl) h
                  · refine g_iload (pc := 193) (j := 1) (dk d_mR_feign 105 rfl) rfl ?_
                    refine g_goto (pc := 195) (tgt := 200) (dk d_mR_feign 106 rfl) rfl ?_
                    exact h_iret (pc := 200) rfl (dk d_mR_feign 108 rfl) h
            · refine g_bipush (pc := 63) (dk d_mR_feign 34 rfl) (by decide) ?_
              exact h_iret (pc := 65) rfl (dk d_mR_feign 35 rfl) h
          · refine g_bipush (pc := 48) (dk d_mR_feign 26 rfl) (by decide) ?_
            exact h_iret (pc := 50) rfl (dk d_mR_feign 27 rfl) h
        · refine g_aload_n (pc := 34) (j := 0) (dk d_mR_feign 18 rfl) rfl (by decide) ?_
          refine g_iload_n (pc := 35) (j := 1) (dk d_mR_feign 19 rfl) rfl ?_
          refine h_callVi (d := d + 204) (pc := 36) (na := 1) (av := [pI a1]) (k0 := 46) po_46 ⟨_, rfl⟩ ⟨rfl, rfl⟩ (dk d_mR_feign 20 rfl) lk_R_361 vm_mR_rowFault rfl rfl (Nat.le_of_ble_eq_true rfl) h (fun r49 u48 hq => kR_rowFault E (d + 203) hq) (fun r49 u48 hb50 h => ?_)
          exact h_iret (pc := 39) rfl (dk d_mR_feign 21 rfl) h
      · refine g_iconst (pc := 24) (dk d_mR_feign 12 rfl) (by decide) ?_
        exact h_iret (pc := 25) rfl (dk d_mR_feign 13 rfl) h
set_option maxRecDepth 100000 in
set_option maxHeartbeats 4000000 in
theorem kR_feign (E : Nat × (Int → Int)) (d : Nat) {a1 : Int} {a2 : Int} {a3 : Int} {w w1 : WD} {r : Int} (h : fR_feign a1 a2 a3 w = some (r, w1)) : CTi E mR_feign (d + 205) [pR 46, pI a1, pI a2, pI a3] w RF NN r w1 RF NN := by
  exact CTi_of (by decide +kernel) (Nat.le_of_ble_eq_true rfl) (Or.inl rfl) (gR_feign (res := (r, w1)) E d a1 a2 a3 w h)
def fR_exchange_l2_b (rec : Int → WD → Option WD) (y1 : Int) (y2 : Int) (K0 : WD → Option WD) (x3 : Int) (w : WD) : Option WD := if 3 ≤ x3 then (K0 w) else (ck (0 ≤ (w32 ((w32 (3 * y1)) + x3)) ∧ (w32 ((w32 (3 * y1)) + x3)) < 15) <| bv (w 49 (w32 ((w32 (3 * y1)) + x3))) <| fun (v4_1 : Int) => ck (0 ≤ (w32 ((w32 (3 * y2)) + x3)) ∧ (w32 ((w32 (3 * y2)) + x3)) < 15) <| ck (0 ≤ (w32 ((w32 (3 * y1)) + x3)) ∧ (w32 ((w32 (3 * y1)) + x3)) < 15) <| bw (up w 49 (w32 ((w32 (3 * y1)) + x3)) (w 49 (w32 ((w32 (3 * y2)) + x3)))) <| fun (u2 : WD) => ck (0 ≤ (w32 ((w32 (3 * y2)) + x3)) ∧ (w32 ((w32 (3 * y2)) + x3)) < 15) <| bw (up u2 49 (w32 ((w32 (3 * y2)) + x3)) v4_1) <| fun (u3 : WD) => bv (w32 (x3 + 1)) <| fun (v3_4 : Int) => rec v3_4 u3)
def fR_exchange_l2 (y1 : Int) (y2 : Int) (K0 : WD → Option WD) : Nat → Int → WD → Option WD
  | 0 => fun _ _ => none
  | k + 1 => fR_exchange_l2_b ( fR_exchange_l2 y1 y2 K0 k) y1 y2 K0
set_option maxRecDepth 100000 in
set_option maxHeartbeats 4000000 in
theorem fR_exchange_l2_b_ok (E : Nat × (Int → Int)) (d : Nat) {res : WD} {rec : Int → WD → Option WD} (y1 : Int) (y2 : Int) (K0 : WD → Option WD) (hrec : ∀ (x3 : Int) (w : WD), rec x3 w = some res → G E mR_exchange (d + 1) 2 [(0, pR 46), (1, pI y1), (2, pI y2), (3, pI x3)] [] w RF NN 0 0 (none, res, RF, NN)) (hK0 : ∀ (w : WD), K0 w = some res → G E mR_exchange (d + 1) 57 [(0, pR 46), (1, pI y1), (2, pI y2)] [] w RF NN 0 0 (none, res, RF, NN)) (x3 : Int) (w : WD) (h : fR_exchange_l2_b rec y1 y2 K0 x3 w = some res) : G E mR_exchange (d + 1) 2 [(0, pR 46), (1, pI y1), (2, pI y2), (3, pI x3)] [] w RF NN 0 0 (none, res, RF, NN) := by
  unfold fR_exchange_l2_b at h
  refine g_iload_n (pc := 2) (j := 3) (dk d_mR_exchange 2 rfl) rfl ?_
  refine g_iconst (pc := 3) (dk d_mR_exchange 3 rfl) (by decide) ?_
  refine h_icmp_ge (pc := 4) (tgt := 57) (dk d_mR_exchange 4 rfl) rfl h (fun hc5 h => ?_) (fun hc5 h => ?_)
  · refine g_pick [0, 1, 2] rfl (l' := [(0, pR 46), (1, pI y1), (2, pI y2)]) rfl ?_
    exact hK0 _ h
  · refine g_aload_n (pc := 7) (j := 0) (dk d_mR_exchange 5 rfl) rfl (by decide) ?_
    refine g_getR (pc := 8) (a := 49) rfl fp_R_18 po_46 (dk d_mR_exchange 6 rfl) ?_
    refine g_iconst (pc := 11) (dk d_mR_exchange 7 rfl) (by decide) ?_
    refine g_iload_n (pc := 12) (j := 1) (dk d_mR_exchange 8 rfl) rfl ?_
    refine g_imul (pc := 13) (dk d_mR_exchange 9 rfl) ?_
    refine g_iload_n (pc := 14) (j := 3) (dk d_mR_exchange 10 rfl) rfl ?_
    refine g_iadd (pc := 15) (dk d_mR_exchange 11 rfl) ?_
    refine h_iald (pc := 16) (B := 15) pa_49 rfl (dk d_mR_exchange 12 rfl) h (fun h => ?_)
    refine h_bvI h (fun v4_1 h => ?_)
    refine g_istore (pc := 17) (l' := [(4, pI v4_1), (0, pR 46), (1, pI y1), (2, pI y2), (3, pI x3)]) (dk d_mR_exchange 13 rfl) (Nat.le_of_ble_eq_true rfl) rfl ?_
    refine g_aload_n (pc := 19) (j := 1) (dk d_mR_exchange 14 rfl) rfl (by decide) ?_
    refine g_getR (pc := 20) (a := 49) rfl fp_R_18 po_46 (dk d_mR_exchange 15 rfl) ?_
    refine g_iconst (pc := 23) (dk d_mR_exchange 16 rfl) (by decide) ?_
    refine g_iload_n (pc := 24) (j := 2) (dk d_mR_exchange 17 rfl) rfl ?_
    refine g_imul (pc := 25) (dk d_mR_exchange 18 rfl) ?_
    refine g_iload_n (pc := 26) (j := 4) (dk d_mR_exchange 19 rfl) rfl ?_
    refine g_iadd (pc := 27) (dk d_mR_exchange 20 rfl) ?_
    refine g_aload_n (pc := 28) (j := 1) (dk d_mR_exchange 21 rfl) rfl (by decide) ?_
    refine g_getR (pc := 29) (a := 49) rfl fp_R_18 po_46 (dk d_mR_exchange 22 rfl) ?_
    refine g_iconst (pc := 32) (dk d_mR_exchange 23 rfl) (by decide) ?_
    refine g_iload_n (pc := 33) (j := 3) (dk d_mR_exchange 24 rfl) rfl ?_
    refine g_imul (pc := 34) (dk d_mR_exchange 25 rfl) ?_
    refine g_iload_n (pc := 35) (j := 4) (dk d_mR_exchange 26 rfl) rfl ?_
    refine g_iadd (pc := 36) (dk d_mR_exchange 27 rfl) ?_
    refine h_iald (pc := 37) (B := 15) pa_49 rfl (dk d_mR_exchange 28 rfl) h (fun h => ?_)
    refine h_iast (pc := 38) (B := 15) pa_49 rfl (dk d_mR_exchange 29 rfl) h (fun u2 h => ?_)
    refine g_aload_n (pc := 39) (j := 1) (dk d_mR_exchange 30 rfl) rfl (by decide) ?_
    refine g_getR (pc := 40) (a := 49) rfl fp_R_18 po_46 (dk d_mR_exchange 31 rfl) ?_
    refine g_iconst (pc := 43) (dk d_mR_exchange 32 rfl) (by decide) ?_
    refine g_iload_n (pc := 44) (j := 3) (dk d_mR_exchange 33 rfl) rfl ?_
    refine g_imul (pc := 45) (dk d_mR_exchange 34 rfl) ?_
    refine g_iload_n (pc := 46) (j := 4) (dk d_mR_exchange 35 rfl) rfl ?_
    refine g_iadd (pc := 47) (dk d_mR_exchange 36 rfl) ?_
    refine g_iload (pc := 48) (j := 0) (dk d_mR_exchange 37 rfl) rfl ?_
    refine h_iast (pc := 50) (B := 15) pa_49 rfl (dk d_mR_exchange 38 rfl) h (fun u3 h => ?_)
    refine h_iinc (pc := 51) (j := 4) (dk d_mR_exchange 39 rfl) rfl (by decide) (Nat.le_of_ble_eq_true rfl) h (fun v3_4 h => ?_)
    refine g_loc (l' := [(3, pI v3_4), (4, pI v4_1), (0, pR 46), (1, pI y1), (2, pI y2)]) rfl ?_
    refine g_goto (pc := 54) (tgt := 2) (dk d_mR_exchange 40 rfl) rfl ?_
    refine g_pick [2, 3, 4, 0] rfl (l' := [(0, pR 46), (1, pI y1), (2, pI y2), (3, pI v3_4)]) rfl ?_
    exact hrec _ _ h
set_option maxRecDepth 100000 in
set_option maxHeartbeats 4000000 in
theorem fR_exchange_l2_ok (E : Nat × (Int → Int)) (d : Nat) {res : WD} (y1 : Int) (y2 : Int) (K0 : WD → Option WD) (hK0 : ∀ (w : WD), K0 w = some res → G E mR_exchange (d + 1) 57 [(0, pR 46), (1, pI y1), (2, pI y2)] [] w RF NN 0 0 (none, res, RF, NN)) : ∀ (k : Nat) (x3 : Int) (w : WD), fR_exchange_l2 y1 y2 K0 k x3 w = some res → G E mR_exchange (d + 1) 2 [(0, pR 46), (1, pI y1), (2, pI y2), (3, pI x3)] [] w RF NN 0 0 (none, res, RF, NN) := by
  intro k
  induction k with
  | zero =>
    intro x3 w h
    exact no_e h
  | succ k ih =>
    intro x3 w h
    exact fR_exchange_l2_b_ok E d y1 y2 K0 ih hK0 x3 w h
def fR_exchange (a1 : Int) (a2 : Int) (w : WD) : Option WD := fR_exchange_l2 a1 a2 (fun (u6 : WD) => ck (0 ≤ a1 ∧ a1 < 5) <| bv (u6 71 a1) <| fun (v3_7 : Int) => ck (0 ≤ a2 ∧ a2 < 5) <| ck (0 ≤ a1 ∧ a1 < 5) <| bw (up u6 71 a1 (u6 71 a2)) <| fun (u8 : WD) => ck (0 ≤ a2 ∧ a2 < 5) <| bw (up u8 71 a2 v3_7) <| fun (u9 : WD) => some u9) FU 0 w
set_option maxRecDepth 100000 in
set_option maxHeartbeats 4000000 in
theorem gR_exchange (E : Nat × (Int → Int)) (d : Nat) {res : WD} (a1 : Int) (a2 : Int) (w : WD) (h : fR_exchange a1 a2 w = some res) : G E mR_exchange (d + 1) 0 [(0, pR 46), (1, pI a1), (2, pI a2)] [] w RF NN 0 0 (none, res, RF, NN) := by
  unfold fR_exchange at h
  refine g_iconst (pc := 0) (dk d_mR_exchange 0 rfl) (by decide) ?_
  refine g_istore_n (pc := 1) (l' := [(3, pI 0), (0, pR 46), (1, pI a1), (2, pI a2)]) (dk d_mR_exchange 1 rfl) (Nat.le_of_ble_eq_true rfl) rfl ?_
  refine g_pick [1, 2, 3, 0] rfl (l' := [(0, pR 46), (1, pI a1), (2, pI a2), (3, pI 0)]) rfl ?_
  refine fR_exchange_l2_ok E d a1 a2 _  (fun u6 h => ?_) FU _  _ h
  · refine g_aload_n (pc := 57) (j := 0) (dk d_mR_exchange 41 rfl) rfl (by decide) ?_
    refine g_getR (pc := 58) (a := 71) rfl fp_R_87 po_46 (dk d_mR_exchange 42 rfl) ?_
    refine g_iload_n (pc := 61) (j := 1) (dk d_mR_exchange 43 rfl) rfl ?_
    refine h_iald (pc := 62) (B := 5) pa_71 rfl (dk d_mR_exchange 44 rfl) h (fun h => ?_)
    refine h_bvI h (fun v3_7 h => ?_)
    refine g_istore_n (pc := 63) (l' := [(3, pI v3_7), (0, pR 46), (1, pI a1), (2, pI a2)]) (dk d_mR_exchange 45 rfl) (Nat.le_of_ble_eq_true rfl) rfl ?_
    refine g_aload_n (pc := 64) (j := 1) (dk d_mR_exchange 46 rfl) rfl (by decide) ?_
    refine g_getR (pc := 65) (a := 71) rfl fp_R_87 po_46 (dk d_mR_exchange 47 rfl) ?_
    refine g_iload_n (pc := 68) (j := 2) (dk d_mR_exchange 48 rfl) rfl ?_
    refine g_aload_n (pc := 69) (j := 1) (dk d_mR_exchange 49 rfl) rfl (by decide) ?_
    refine g_getR (pc := 70) (a := 71) rfl fp_R_87 po_46 (dk d_mR_exchange 50 rfl) ?_
    refine g_iload_n (pc := 73) (j := 3) (dk d_mR_exchange 51 rfl) rfl ?_
    refine h_iald (pc := 74) (B := 5) pa_71 rfl (dk d_mR_exchange 52 rfl) h (fun h => ?_)
    refine h_iast (pc := 75) (B := 5) pa_71 rfl (dk d_mR_exchange 53 rfl) h (fun u8 h => ?_)
    refine g_aload_n (pc := 76) (j := 1) (dk d_mR_exchange 54 rfl) rfl (by decide) ?_
    refine g_getR (pc := 77) (a := 71) rfl fp_R_87 po_46 (dk d_mR_exchange 55 rfl) ?_
    refine g_iload_n (pc := 80) (j := 3) (dk d_mR_exchange 56 rfl) rfl ?_
    refine g_iload_n (pc := 81) (j := 0) (dk d_mR_exchange 57 rfl) rfl ?_
    refine h_iast (pc := 82) (B := 5) pa_71 rfl (dk d_mR_exchange 58 rfl) h (fun u9 h => ?_)
    exact h_vret (pc := 83) (dk d_mR_exchange 59 rfl) h
set_option maxRecDepth 100000 in
set_option maxHeartbeats 4000000 in
theorem kR_exchange (E : Nat × (Int → Int)) (d : Nat) {a1 : Int} {a2 : Int} {w w1 : WD} (h : fR_exchange a1 a2 w = some w1) : CTv E mR_exchange (d + 1) [pR 46, pI a1, pI a2] w RF NN w1 RF NN := by
  exact CTv_of (by decide +kernel) (Nat.le_of_ble_eq_true rfl) rfl (gR_exchange (res := w1) E d a1 a2 w h)
def fR_change_l60_b (rec : Int → Int → Int → WD → Option (Int × WD)) (y4 : Int) (K0 : Int → Int → WD → Option (Int × WD)) (x2 : Int) (x3 : Int) (x5 : Int) (w : WD) : Option (Int × WD) := if (w 46 4) ≤ x5 then (K0 x2 x3 w) else (cv (fR_exchange y4 x5 w) <| fun (u14 : WD) => ci (fR_foundOut u14) <| fun (r16 : Int) (u15 : WD) => cv (fR_exchange y4 x5 u15) <| fun (u18 : WD) => jn (β := Int → Int → WD → Option (Int × WD)) (fun (v2_19 : Int) (v3_20 : Int) (u21 : WD) => bv (w32 (x5 + 1)) <| fun (v5_22 : Int) => rec v2_19 v3_20 v5_22 u21) <| fun J23 => if r16 < x3 then (bv (w32 ((w32 (10 * y4)) + x5)) <| fun (v2_24 : Int) => J23 v2_24 r16 u18) else (J23 x2 x3 u18))
def fR_change_l60 (y4 : Int) (K0 : Int → Int → WD → Option (Int × WD)) : Nat → Int → Int → Int → WD → Option (Int × WD)
  | 0 => fun _ _ _ _ => none
  | k + 1 => fR_change_l60_b ( fR_change_l60 y4 K0 k) y4 K0
set_option maxRecDepth 100000 in
set_option maxHeartbeats 4000000 in
theorem fR_change_l60_b_ok (E : Nat × (Int → Int)) (d : Nat) {res : Int × WD} {rec : Int → Int → Int → WD → Option (Int × WD)} (y4 : Int) (K0 : Int → Int → WD → Option (Int × WD)) (hrec : ∀ (x2 : Int) (x3 : Int) (x5 : Int) (w : WD), rec x2 x3 x5 w = some res → G E mR_change (d + 205) 60 [(0, pR 46), (2, pI x2), (3, pI x3), (4, pI y4), (5, pI x5)] [] w RF NN 0 0 (some (pI res.1), res.2, RF, NN)) (hK0 : ∀ (x2 : Int) (x3 : Int) (w : WD), K0 x2 x3 w = some res → G E mR_change (d + 205) 118 [(0, pR 46), (2, pI x2), (3, pI x3), (4, pI y4)] [] w RF NN 0 0 (some (pI res.1), res.2, RF, NN)) (x2 : Int) (x3 : Int) (x5 : Int) (w : WD) (h : fR_change_l60_b rec y4 K0 x2 x3 x5 w = some res) : G E mR_change (d + 205) 60 [(0, pR 46), (2, pI x2), (3, pI x3), (4, pI y4), (5, pI x5)] [] w RF NN 0 0 (some (pI res.1), res.2, RF, NN) := by
  unfold fR_change_l60_b at h
  refine g_iload (pc := 60) (j := 4) (dk d_mR_change 34 rfl) rfl ?_
  refine g_aload_n (pc := 62) (j := 0) (dk d_mR_change 35 rfl) rfl (by decide) ?_
  refine g_getI (pc := 63) fp_R_144 po_46 (dk d_mR_change 36 rfl) ?_
  refine h_icmp_ge (pc := 66) (tgt := 118) (dk d_mR_change 37 rfl) rfl h (fun hc26 h => ?_) (fun hc26 h => ?_)
  · refine g_pick [0, 1, 2, 3] rfl (l' := [(0, pR 46), (2, pI x2), (3, pI x3), (4, pI y4)]) rfl ?_
    exact hK0 _ _ _ h
  · refine g_aload_n (pc := 69) (j := 0) (dk d_mR_change 38 rfl) rfl (by decide) ?_
    refine g_iload (pc := 70) (j := 3) (dk d_mR_change 39 rfl) rfl ?_
    refine g_iload (pc := 72) (j := 4) (dk d_mR_change 40 rfl) rfl ?_
    refine h_callVv (d := d + 204) (pc := 74) (na := 2) (av := [pI y4, pI x5]) (k0 := 46) po_46 ⟨_, rfl⟩ ⟨rfl, rfl⟩ (dk d_mR_change 41 rfl) lk_R_376 vm_mR_exchange rfl rfl (Nat.le_of_ble_eq_true rfl) h (fun u14 hq => kR_exchange E (d + 203) hq) (fun u14 h => ?_)
    refine g_aload_n (pc := 77) (j := 0) (dk d_mR_change 42 rfl) rfl (by decide) ?_
    refine h_callVi (d := d + 204) (pc := 78) (na := 0) (av := []) (k0 := 46) po_46 ⟨_, rfl⟩ ⟨rfl, rfl⟩ (dk d_mR_change 43 rfl) lk_R_367 vm_mR_foundOut rfl rfl (Nat.le_of_ble_eq_true rfl) h (fun r16 u15 hq => kR_foundOut E (d + 0) hq) (fun r16 u15 hb17 h => ?_)
    refine g_istore (pc := 81) (l' := [(6, pI r16), (0, pR 46), (2, pI x2), (3, pI x3), (4, pI y4), (5, pI x5)]) (dk d_mR_change 44 rfl) (Nat.le_of_ble_eq_true rfl) rfl ?_
    refine g_aload_n (pc := 83) (j := 1) (dk d_mR_change 45 rfl) rfl (by decide) ?_
    refine g_iload (pc := 84) (j := 4) (dk d_mR_change 46 rfl) rfl ?_
    refine g_iload (pc := 86) (j := 5) (dk d_mR_change 47 rfl) rfl ?_
    refine h_callVv (d := d + 204) (pc := 88) (na := 2) (av := [pI y4, pI x5]) (k0 := 46) po_46 ⟨_, rfl⟩ ⟨rfl, rfl⟩ (dk d_mR_change 48 rfl) lk_R_376 vm_mR_exchange rfl rfl (Nat.le_of_ble_eq_true rfl) h (fun u18 hq => kR_exchange E (d + 203) hq) (fun u18 h => ?_)
    refine g_iload (pc := 91) (j := 0) (dk d_mR_change 49 rfl) rfl ?_
    refine g_iload_n (pc := 93) (j := 3) (dk d_mR_change 50 rfl) rfl ?_
    refine jn_e (fun J => ∀ (v2_19 : Int) (v3_20 : Int) (u21 : WD), J v2_19 v3_20 u21 = some res → G E mR_change (d + 205) 112 [(0, pR 46), (2, pI v2_19), (3, pI v3_20), (4, pI y4), (5, pI x5)] [] u21 RF NN 0 0 (some (pI res.1), res.2, RF, NN)) h (fun v2_19 v3_20 u21 h => ?_) (fun J23 hJ23 h => ?_)
    · refine h_iinc (pc := 112) (j := 4) (dk d_mR_change 61 rfl) rfl (by decide) (Nat.le_of_ble_eq_true rfl) h (fun v5_22 h => ?_)
      refine g_loc (l' := [(5, pI v5_22), (0, pR 46), (2, pI v2_19), (3, pI v3_20), (4, pI y4)]) rfl ?_
      refine g_goto (pc := 115) (tgt := 60) (dk d_mR_change 62 rfl) rfl ?_
      refine g_pick [1, 2, 3, 4, 0] rfl (l' := [(0, pR 46), (2, pI v2_19), (3, pI v3_20), (4, pI y4), (5, pI v5_22)]) rfl ?_
      exact hrec _ _ _ _ h
    · refine h_icmp_lt (pc := 94) (tgt := 100) (dk d_mR_change 51 rfl) rfl h (fun hc25 h => ?_) (fun hc25 h => ?_)
      · refine g_bipush (pc := 100) (dk d_mR_change 53 rfl) (by decide) ?_
        refine g_iload (pc := 102) (j := 4) (dk d_mR_change 54 rfl) rfl ?_
        refine g_imul (pc := 104) (dk d_mR_change 55 rfl) ?_
        refine g_iload (pc := 105) (j := 5) (dk d_mR_change 56 rfl) rfl ?_
        refine g_iadd (pc := 107) (dk d_mR_change 57 rfl) ?_
        refine h_bvI h (fun v2_24 h => ?_)
        refine g_istore_n (pc := 108) (l' := [(2, pI v2_24), (6, pI r16), (0, pR 46), (3, pI x3), (4, pI y4), (5, pI x5)]) (dk d_mR_change 58 rfl) (Nat.le_of_ble_eq_true rfl) rfl ?_
        refine g_iload (pc := 109) (j := 1) (dk d_mR_change 59 rfl) rfl ?_
        refine g_istore_n (pc := 111) (l' := [(3, pI r16), (2, pI v2_24), (6, pI r16), (0, pR 46), (4, pI y4), (5, pI x5)]) (dk d_mR_change 60 rfl) (Nat.le_of_ble_eq_true rfl) rfl ?_
        refine g_pick [3, 1, 0, 4, 5] rfl (l' := [(0, pR 46), (2, pI v2_24), (3, pI r16), (4, pI y4), (5, pI x5)]) rfl ?_
        exact hJ23 _ _ _ h
      · refine g_goto (pc := 97) (tgt := 112) (dk d_mR_change 52 rfl) rfl ?_
        refine g_pick [1, 2, 3, 4, 5] rfl (l' := [(0, pR 46), (2, pI x2), (3, pI x3), (4, pI y4), (5, pI x5)]) rfl ?_
        exact hJ23 _ _ _ h
set_option maxRecDepth 100000 in
set_option maxHeartbeats 4000000 in
theorem fR_change_l60_ok (E : Nat × (Int → Int)) (d : Nat) {res : Int × WD} (y4 : Int) (K0 : Int → Int → WD → Option (Int × WD)) (hK0 : ∀ (x2 : Int) (x3 : Int) (w : WD), K0 x2 x3 w = some res → G E mR_change (d + 205) 118 [(0, pR 46), (2, pI x2), (3, pI x3), (4, pI y4)] [] w RF NN 0 0 (some (pI res.1), res.2, RF, NN)) : ∀ (k : Nat) (x2 : Int) (x3 : Int) (x5 : Int) (w : WD), fR_change_l60 y4 K0 k x2 x3 x5 w = some res → G E mR_change (d + 205) 60 [(0, pR 46), (2, pI x2), (3, pI x3), (4, pI y4), (5, pI x5)] [] w RF NN 0 0 (some (pI res.1), res.2, RF, NN) := by
  intro k
  induction k with
  | zero =>
    intro x2 x3 x5 w h
    exact no_e h
  | succ k ih =>
    intro x2 x3 x5 w h
    exact fR_change_l60_b_ok E d y4 K0 ih hK0 x2 x3 x5 w h
def fR_change_l45_b (rec : Int → Int → Int → WD → Option (Int × WD)) (x2 : Int) (x3 : Int) (x4 : Int) (w : WD) : Option (Int × WD) := if (w 46 4) ≤ x4 then (some (x2, w)) else (bv (w32 (x4 + 1)) <| fun (v5_13 : Int) => fR_change_l60 x4 (fun (v2_27 : Int) (v3_28 : Int) (u29 : WD) => bv (w32 (x4 + 1)) <| fun (v4_30 : Int) => rec v2_27 v3_28 v4_30 u29) FU x2 x3 v5_13 w)
def fR_change_l45 : Nat → Int → Int → Int → WD → Option (Int × WD)
  | 0 => fun _ _ _ _ => none
  | k + 1 => fR_change_l45_b ( fR_change_l45 k)
set_option maxRecDepth 100000 in
set_option maxHeartbeats 4000000 in
theorem fR_change_l45_b_ok (E : Nat × (Int → Int)) (d : Nat) {res : Int × WD} {rec : Int → Int → Int → WD → Option (Int × WD)} (hrec : ∀ (x2 : Int) (x3 : Int) (x4 : Int) (w : WD), rec x2 x3 x4 w = some res → G E mR_change (d + 205) 45 [(0, pR 46), (2, pI x2), (3, pI x3), (4, pI x4)] [] w RF NN 0 0 (some (pI res.1), res.2, RF, NN)) (x2 : Int) (x3 : Int) (x4 : Int) (w : WD) (h : fR_change_l45_b rec x2 x3 x4 w = some res) : G E mR_change (d + 205) 45 [(0, pR 46), (2, pI x2), (3, pI x3), (4, pI x4)] [] w RF NN 0 0 (some (pI res.1), res.2, RF, NN) := by
  unfold fR_change_l45_b at h
  refine g_iload (pc := 45) (j := 3) (dk d_mR_change 26 rfl) rfl ?_
  refine g_aload_n (pc := 47) (j := 0) (dk d_mR_change 27 rfl) rfl (by decide) ?_
  refine g_getI (pc := 48) fp_R_144 po_46 (dk d_mR_change 28 rfl) ?_
  refine h_icmp_ge (pc := 51) (tgt := 124) (dk d_mR_change 29 rfl) rfl h (fun hc31 h => ?_) (fun hc31 h => ?_)
  · refine g_iload_n (pc := 124) (j := 1) (dk d_mR_change 65 rfl) rfl ?_
    exact h_iret (pc := 125) rfl (dk d_mR_change 66 rfl) h
  · refine g_iload (pc := 54) (j := 3) (dk d_mR_change 30 rfl) rfl ?_
    refine g_iconst (pc := 56) (dk d_mR_change 31 rfl) (by decide) ?_
    refine g_iadd (pc := 57) (dk d_mR_change 32 rfl) ?_
    refine h_bvI h (fun v5_13 h => ?_)
    refine g_istore (pc := 58) (l' := [(5, pI v5_13), (0, pR 46), (2, pI x2), (3, pI x3), (4, pI x4)]) (dk d_mR_change 33 rfl) (Nat.le_of_ble_eq_true rfl) rfl ?_
    refine g_pick [1, 2, 3, 4, 0] rfl (l' := [(0, pR 46), (2, pI x2), (3, pI x3), (4, pI x4), (5, pI v5_13)]) rfl ?_
    refine fR_change_l60_ok E d x4 _  (fun v2_27 v3_28 u29 h => ?_) FU _ _ _  _ h
    · refine h_iinc (pc := 118) (j := 3) (dk d_mR_change 63 rfl) rfl (by decide) (Nat.le_of_ble_eq_true rfl) h (fun v4_30 h => ?_)
      refine g_loc (l' := [(4, pI v4_30), (0, pR 46), (2, pI v2_27), (3, pI v3_28)]) rfl ?_
      refine g_goto (pc := 121) (tgt := 45) (dk d_mR_change 64 rfl) rfl ?_
      refine g_pick [1, 2, 3, 0] rfl (l' := [(0, pR 46), (2, pI v2_27), (3, pI v3_28), (4, pI v4_30)]) rfl ?_
      exact hrec _ _ _ _ h
set_option maxRecDepth 100000 in
set_option maxHeartbeats 4000000 in
theorem fR_change_l45_ok (E : Nat × (Int → Int)) (d : Nat) {res : Int × WD} : ∀ (k : Nat) (x2 : Int) (x3 : Int) (x4 : Int) (w : WD), fR_change_l45 k x2 x3 x4 w = some res → G E mR_change (d + 205) 45 [(0, pR 46), (2, pI x2), (3, pI x3), (4, pI x4)] [] w RF NN 0 0 (some (pI res.1), res.2, RF, NN) := by
  intro k
  induction k with
  | zero =>
    intro x2 x3 x4 w h
    exact no_e h
  | succ k ih =>
    intro x2 x3 x4 w h
    exact fR_change_l45_b_ok E d ih x2 x3 x4 w h
def fR_change (a1 : Int) (w : WD) : Option (Int × WD) := ci (fR_isShelf a1 w) <| fun (r2 : Int) (u1 : WD) => if r2 ≠ 0 then (ci (fR_rowFault a1 u1) <| fun (r5 : Int) (u4 : WD) => if 0 ≤ r5 then (ci (fR_layTruth a1 u4) <| fun (r8 : Int) (u7 : WD) => if r8 ≠ 0 then (ci (fR_foundOut u7) <| fun (r11 : Int) (u10 : WD) => fR_change_l45 FU (-2) r11 0 u10) else (some ((-2), u7))) else (ci (fR_rowFault a1 u4) <| fun (r34 : Int) (u33 : WD) => some (r34, u33))) else (some ((-1), u1))
set_option maxRecDepth 100000 in
set_option maxHeartbeats 4000000 in
theorem gR_change (E : Nat × (Int → Int)) (d : Nat) {res : Int × WD} (a1 : Int) (w : WD) (h : fR_change a1 w = some res) : G E mR_change (d + 205) 0 [(0, pR 46), (1, pI a1)] [] w RF NN 0 0 (some (pI res.1), res.2, RF, NN) := by
  unfold fR_change at h
  refine g_iload_n (pc := 0) (j := 1) (dk d_mR_change 0 rfl) rfl ?_
  refine h_callSi (d := d + 204) (pc := 1) (na := 1) (av := [pI a1]) ⟨rfl, rfl⟩ (dk d_mR_change 1 rfl) lk_R_158 vm_mR_isShelf rfl rfl (Nat.le_of_ble_eq_true rfl) h (fun r2 u1 hq => kR_isShelf E (d + 202) hq) (fun r2 u1 hb3 h => ?_)
  refine h_if_ne (pc := 4) (tgt := 9) (dk d_mR_change 2 rfl) rfl h (fun hc37 h => ?_) (fun hc37 h => ?_)
  · refine g_aload_n (pc := 9) (j := 0) (dk d_mR_change 5 rfl) rfl (by decide) ?_
    refine g_iload_n (pc := 10) (j := 1) (dk d_mR_change 6 rfl) rfl ?_
    refine h_callVi (d := d + 204) (pc := 11) (na := 1) (av := [pI a1]) (k0 := 46) po_46 ⟨_, rfl⟩ ⟨rfl, rfl⟩ (dk d_mR_change 7 rfl) lk_R_361 vm_mR_rowFault rfl rfl (Nat.le_of_ble_eq_true rfl) h (fun r5 u4 hq => kR_rowFault E (d + 203) hq) (fun r5 u4 hb6 h => ?_)
    refine h_if_ge (pc := 14) (tgt := 23) (dk d_mR_change 8 rfl) rfl h (fun hc36 h => ?_) (fun hc36 h => ?_)
    · refine g_aload_n (pc := 23) (j := 0) (dk d_mR_change 13 rfl) rfl (by decide) ?_
      refine g_iload_n (pc := 24) (j := 1) (dk d_mR_change 14 rfl) rfl ?_
      refine h_callVi (d := d + 204) (pc := 25) (na := 1) (av := [pI a1]) (k0 := 46) po_46 ⟨_, rfl⟩ ⟨rfl, rfl⟩ (dk d_mR_change 15 rfl) lk_R_364 vm_mR_layTruth rfl rfl (Nat.le_of_ble_eq_true rfl) h (fun r8 u7 hq => kR_layTruth E (d + 200) hq) (fun r8 u7 hb9 h => ?_)
      refine h_if_ne (pc := 28) (tgt := 34) (dk d_mR_change 16 rfl) rfl h (fun hc32 h => ?_) (fun hc32 h => ?_)
      · refine g_bipush (pc := 34) (dk d_mR_change 19 rfl) (by decide) ?_
        refine g_istore_n (pc := 36) (l' := [(2, pI (-2)), (0, pR 46), (1, pI a1)]) (dk d_mR_change 20 rfl) (Nat.le_of_ble_eq_true rfl) rfl ?_
        refine g_aload_n (pc := 37) (j := 1) (dk d_mR_change 21 rfl) rfl (by decide) ?_
        refine h_callVi (d := d + 204) (pc := 38) (na := 0) (av := []) (k0 := 46) po_46 ⟨_, rfl⟩ ⟨rfl, rfl⟩ (dk d_mR_change 22 rfl) lk_R_367 vm_mR_foundOut rfl rfl (Nat.le_of_ble_eq_true rfl) h (fun r11 u10 hq => kR_foundOut E (d + 0) hq) (fun r11 u10 hb12 h => ?_)
        refine g_istore_n (pc := 41) (l' := [(3, pI r11), (2, pI (-2)), (0, pR 46), (1, pI a1)]) (dk d_mR_change 23 rfl) (Nat.le_of_ble_eq_true rfl) rfl ?_
        refine g_iconst (pc := 42) (dk d_mR_change 24 rfl) (by decide) ?_
        refine g_istore (pc := 43) (l' := [(4, pI 0), (3, pI r11), (2, pI (-2)), (0, pR 46), (1, pI a1)]) (dk d_mR_change 25 rfl) (Nat.le_of_ble_eq_true rfl) rfl ?_
        refine g_pick [3, 2, 1, 0] rfl (l' := [(0, pR 46), (2, pI (-2)), (3, pI r11), (4, pI 0)]) rfl ?_
        refine fR_change_l45_ok E d FU _ _ _  _ h
      · refine g_bipush (pc := 31) (dk d_mR_change 17 rfl) (by decide) ?_
        exact h_iret (pc := 33) rfl (dk d_mR_change 18 rfl) h
    · refine g_aload_n (pc := 17) (j := 0) (dk d_mR_change 9 rfl) rfl (by decide) ?_
      refine g_iload_n (pc := 18) (j := 1) (dk d_mR_change 10 rfl) rfl ?_
      refine h_callVi (d := d + 204) (pc := 19) (na := 1) (av := [pI a1]) (k0 := 46) po_46 ⟨_, rfl⟩ ⟨rfl, rfl⟩ (dk d_mR_change 11 rfl) lk_R_361 vm_mR_rowFault rfl rfl (Nat.le_of_ble_eq_true rfl) h (fun r34 u33 hq => kR_rowFault E (d + 203) hq) (fun r34 u33 hb35 h => ?_)
      exact h_iret (pc := 22) rfl (dk d_mR_change 12 rfl) h
  · refine g_iconst (pc := 7) (dk d_mR_change 3 rfl) (by decide) ?_
    exact h_iret (pc := 8) rfl (dk d_mR_change 4 rfl) h
set_option maxRecDepth 100000 in
set_option maxHeartbeats 4000000 in
theorem kR_change (E : Nat × (Int → Int)) (d : Nat) {a1 : Int} {w w1 : WD} {r : Int} (h : fR_change a1 w = some (r, w1)) : CTi E mR_change (d + 205) [pR 46, pI a1] w RF NN r w1 RF NN := by
  exact CTi_of (by decide +kernel) (Nat.le_of_ble_eq_true rfl) (Or.inl rfl) (gR_change (res := (r, w1)) E d a1 w h)
def fR_right_l98_b (rec : Int → Int → WD → Option (Int × WD)) (y1 : Int) (x2 : Int) (x3 : Int) (w : WD) : Option (Int × WD) := if (w 46 4) ≤ x3 then (some (x2, w)) else (ck (0 ≤ (w32 (Int.tdiv y1 10)) ∧ (w32 (Int.tdiv y1 10)) < 6) <| if (w 83 (w32 (Int.tdiv y1 10))) ≤ x3 then (some (x2, w)) else (ci (fR_at (w32 (Int.tdiv y1 10)) x3 w) <| fun (r17 : Int) (u16 : WD) => ck (0 ≤ x3 ∧ x3 < 5) <| jn (β := Int → WD → Option (Int × WD)) (fun (v2_19 : Int) (u20 : WD) => bv (w32 (x3 + 1)) <| fun (v3_21 : Int) => rec v2_19 v3_21 u20) <| fun J22 => if r17 ≠ (u16 71 x3) then (J22 x2 u16) else (bv (w32 (x2 + 1)) <| fun (v2_23 : Int) => J22 v2_23 u16)))
def fR_right_l98 (y1 : Int) : Nat → Int → Int → WD → Option (Int × WD)
  | 0 => fun _ _ _ => none
  | k + 1 => fR_right_l98_b ( fR_right_l98 y1 k) y1
set_option maxRecDepth 100000 in
set_option maxHeartbeats 4000000 in
theorem fR_right_l98_b_ok (E : Nat × (Int → Int)) (d : Nat) {res : Int × WD} {rec : Int → Int → WD → Option (Int × WD)} (y1 : Int) (hrec : ∀ (x2 : Int) (x3 : Int) (w : WD), rec x2 x3 w = some res → G E mR_right (d + 5) 98 [(0, pR 46), (1, pI y1), (2, pI x2), (3, pI x3)] [] w RF NN 0 0 (some (pI res.1), res.2, RF, NN)) (x2 : Int) (x3 : Int) (w : WD) (h : fR_right_l98_b rec y1 x2 x3 w = some res) : G E mR_right (d + 5) 98 [(0, pR 46), (1, pI y1), (2, pI x2), (3, pI x3)] [] w RF NN 0 0 (some (pI res.1), res.2, RF, NN) := by
  unfold fR_right_l98_b at h
  refine g_iload_n (pc := 98) (j := 3) (dk d_mR_right 58 rfl) rfl ?_
  refine g_aload_n (pc := 99) (j := 0) (dk d_mR_right 59 rfl) rfl (by decide) ?_
  refine g_getI (pc := 100) fp_R_144 po_46 (dk d_mR_right 60 rfl) ?_
  refine h_icmp_ge (pc := 103) (tgt := 146) (dk d_mR_right 61 rfl) rfl h (fun hc26 h => ?_) (fun hc26 h => ?_)
  · refine g_iload_n (pc := 146) (j := 2) (dk d_mR_right 84 rfl) rfl ?_
    exact h_iret (pc := 147) rfl (dk d_mR_right 85 rfl) h
  · refine g_iload_n (pc := 106) (j := 3) (dk d_mR_right 62 rfl) rfl ?_
    refine g_aload_n (pc := 107) (j := 0) (dk d_mR_right 63 rfl) rfl (by decide) ?_
    refine g_getR (pc := 108) (a := 83) rfl fp_R_124 po_46 (dk d_mR_right 64 rfl) ?_
    refine g_iload_n (pc := 111) (j := 1) (dk d_mR_right 65 rfl) rfl ?_
    refine g_bipush (pc := 112) (dk d_mR_right 66 rfl) (by decide) ?_
    refine g_idiv (pc := 114) (dk d_mR_right 67 rfl) (by decide) ?_
    refine h_iald (pc := 115) (B := 6) pa_83 rfl (dk d_mR_right 68 rfl) h (fun h => ?_)
    refine h_icmp_ge (pc := 116) (tgt := 146) (dk d_mR_right 69 rfl) rfl h (fun hc25 h => ?_) (fun hc25 h => ?_)
    · refine g_iload_n (pc := 146) (j := 2) (dk d_mR_right 84 rfl) rfl ?_
      exact h_iret (pc := 147) rfl (dk d_mR_right 85 rfl) h
    · refine g_aload_n (pc := 119) (j := 0) (dk d_mR_right 70 rfl) rfl (by decide) ?_
      refine g_iload_n (pc := 120) (j := 1) (dk d_mR_right 71 rfl) rfl ?_
      refine g_bipush (pc := 121) (dk d_mR_right 72 rfl) (by decide) ?_
      refine g_idiv (pc := 123) (dk d_mR_right 73 rfl) (by decide) ?_
      refine g_iload_n (pc := 124) (j := 3) (dk d_mR_right 74 rfl) rfl ?_
      refine h_callVi (d := d + 4) (pc := 125) (na := 2) (av := [pI (w32 (Int.tdiv y1 10)), pI x3]) (k0 := 46) po_46 ⟨_, rfl⟩ ⟨rfl, rfl⟩ (dk d_mR_right 75 rfl) lk_R_354 vm_mR_at rfl rfl (Nat.le_of_ble_eq_true rfl) h (fun r17 u16 hq => kR_at E (d + 3) hq) (fun r17 u16 hb18 h => ?_)
      refine g_aload_n (pc := 128) (j := 0) (dk d_mR_right 76 rfl) rfl (by decide) ?_
      refine g_getR (pc := 129) (a := 71) rfl fp_R_87 po_46 (dk d_mR_right 77 rfl) ?_
      refine g_iload_n (pc := 132) (j := 3) (dk d_mR_right 78 rfl) rfl ?_
      refine h_iald (pc := 133) (B := 5) pa_71 rfl (dk d_mR_right 79 rfl) h (fun h => ?_)
      refine jn_e (fun J => ∀ (v2_19 : Int) (u20 : WD), J v2_19 u20 = some res → G E mR_right (d + 5) 140 [(0, pR 46), (1, pI y1), (2, pI v2_19), (3, pI x3)] [] u20 RF NN 0 0 (some (pI res.1), res.2, RF, NN)) h (fun v2_19 u20 h => ?_) (fun J22 hJ22 h => ?_)
      · refine h_iinc (pc := 140) (j := 3) (dk d_mR_right 82 rfl) rfl (by decide) (Nat.le_of_ble_eq_true rfl) h (fun v3_21 h => ?_)
        refine g_loc (l' := [(3, pI v3_21), (0, pR 46), (1, pI y1), (2, pI v2_19)]) rfl ?_
        refine g_goto (pc := 143) (tgt := 98) (dk d_mR_right 83 rfl) rfl ?_
        refine g_pick [1, 2, 3, 0] rfl (l' := [(0, pR 46), (1, pI y1), (2, pI v2_19), (3, pI v3_21)]) rfl ?_
        exact hrec _ _ _ h
      · refine h_icmp_ne (pc := 134) (tgt := 140) (dk d_mR_right 80 rfl) rfl h (fun hc24 h => ?_) (fun hc24 h => ?_)
        · exact hJ22 _ _ h
        · refine h_iinc (pc := 137) (j := 2) (dk d_mR_right 81 rfl) rfl (by decide) (Nat.le_of_ble_eq_true rfl) h (fun v2_23 h => ?_)
          refine g_loc (l' := [(2, pI v2_23), (0, pR 46), (1, pI y1), (3, pI x3)]) rfl ?_
          refine g_pick [1, 2, 0, 3] rfl (l' := [(0, pR 46), (1, pI y1), (2, pI v2_23), (3, pI x3)]) rfl ?_
          exact hJ22 _ _ h
set_option maxRecDepth 100000 in
set_option maxHeartbeats 4000000 in
theorem fR_right_l98_ok (E : Nat × (Int → Int)) (d : Nat) {res : Int × WD} (y1 : Int) : ∀ (k : Nat) (x2 : Int) (x3 : Int) (w : WD), fR_right_l98 y1 k x2 x3 w = some res → G E mR_right (d + 5) 98 [(0, pR 46), (1, pI y1), (2, pI x2), (3, pI x3)] [] w RF NN 0 0 (some (pI res.1), res.2, RF, NN) := by
  intro k
  induction k with
  | zero =>
    intro x2 x3 w h
    exact no_e h
  | succ k ih =>
    intro x2 x3 w h
    exact fR_right_l98_b_ok E d y1 ih x2 x3 w h
def fR_right (a1 : Int) (w : WD) : Option (Int × WD) := if a1 < 0 then (some ((-1), w)) else (ci (fR_isShelf (w32 (Int.tdiv a1 10)) w) <| fun (r2 : Int) (u1 : WD) => if r2 = 0 then (some ((-1), u1)) else (ci (fR_isShelf (Int.tmod a1 10) u1) <| fun (r5 : Int) (u4 : WD) => if r5 ≠ 0 then (ck (0 ≤ (w32 (Int.tdiv a1 10)) ∧ (w32 (Int.tdiv a1 10)) < 6) <| if (u4 82 (w32 (Int.tdiv a1 10))) = (-1) then (some ((-11), u4)) else (ck (0 ≤ (Int.tmod a1 10) ∧ (Int.tmod a1 10) < 6) <| if (u4 82 (Int.tmod a1 10)) ≠ (-1) then (ci (fR_rowFault (w32 (Int.tdiv a1 10)) u4) <| fun (r8 : Int) (u7 : WD) => if r8 < 0 then (some ((-12), u7)) else (ci (fR_rowFault (Int.tmod a1 10) u7) <| fun (r11 : Int) (u10 : WD) => if 0 ≤ r11 then (ci (fR_layTruth (Int.tmod a1 10) u10) <| fun (r14 : Int) (u13 : WD) => if r14 ≠ 0 then (fR_right_l98 a1 FU 0 0 u13) else (some ((-2), u13))) else (some ((-12), u10)))) else (some ((-11), u4)))) else (some ((-1), u4))))
set_option maxRecDepth 100000 in
set_option maxHeartbeats 4000000 in
theorem gR_right (E : Nat × (Int → Int)) (d : Nat) {res : Int × WD} (a1 : Int) (w : WD) (h : fR_right a1 w = some res) : G E mR_right (d + 5) 0 [(0, pR 46), (1, pI a1)] [] w RF NN 0 0 (some (pI res.1), res.2, RF, NN) := by
  unfold fR_right at h
  refine g_iload_n (pc := 0) (j := 1) (dk d_mR_right 0 rfl) rfl ?_
  refine h_if_lt (pc := 1) (tgt := 24) (dk d_mR_right 1 rfl) rfl h (fun hc34 h => ?_) (fun hc34 h => ?_)
  · refine g_iconst (pc := 24) (dk d_mR_right 12 rfl) (by decide) ?_
    exact h_iret (pc := 25) rfl (dk d_mR_right 13 rfl) h
  · refine g_iload_n (pc := 4) (j := 1) (dk d_mR_right 2 rfl) rfl ?_
    refine g_bipush (pc := 5) (dk d_mR_right 3 rfl) (by decide) ?_
    refine g_idiv (pc := 7) (dk d_mR_right 4 rfl) (by decide) ?_
    refine h_callSi (d := d + 4) (pc := 8) (na := 1) (av := [pI (w32 (Int.tdiv a1 10))]) ⟨rfl, rfl⟩ (dk d_mR_right 5 rfl) lk_R_158 vm_mR_isShelf rfl rfl (Nat.le_of_ble_eq_true rfl) h (fun r2 u1 hq => kR_isShelf E (d + 2) hq) (fun r2 u1 hb3 h => ?_)
    refine h_if_eq (pc := 11) (tgt := 24) (dk d_mR_right 6 rfl) rfl h (fun hc33 h => ?_) (fun hc33 h => ?_)
    · refine g_iconst (pc := 24) (dk d_mR_right 12 rfl) (by decide) ?_
      exact h_iret (pc := 25) rfl (dk d_mR_right 13 rfl) h
    · refine g_iload_n (pc := 14) (j := 1) (dk d_mR_right 7 rfl) rfl ?_
      refine g_bipush (pc := 15) (dk d_mR_right 8 rfl) (by decide) ?_
      refine g_irem (pc := 17) (dk d_mR_right 9 rfl) (by decide) ?_
      refine h_callSi (d := d + 4) (pc := 18) (na := 1) (av := [pI (Int.tmod a1 10)]) ⟨rfl, rfl⟩ (dk d_mR_right 10 rfl) lk_R_158 vm_mR_isShelf rfl rfl (Nat.le_of_ble_eq_true rfl) h (fun r5 u4 hq => kR_isShelf E (d + 2) hq) (fun r5 u4 hb6 h => ?_)
      refine h_if_ne (pc := 21) (tgt := 26) (dk d_mR_right 11 rfl) rfl h (fun hc32 h => ?_) (fun hc32 h => ?_)
      · refine g_aload_n (pc := 26) (j := 0) (dk d_mR_right 14 rfl) rfl (by decide) ?_
        refine g_getR (pc := 27) (a := 82) rfl fp_R_121 po_46 (dk d_mR_right 15 rfl) ?_
        refine g_iload_n (pc := 30) (j := 1) (dk d_mR_right 16 rfl) rfl ?_
        refine g_bipush (pc := 31) (dk d_mR_right 17 rfl) (by decide) ?_
        refine g_idiv (pc := 33) (dk d_mR_right 18 rfl) (by decide) ?_
        refine h_iald (pc := 34) (B := 6) pa_82 rfl (dk d_mR_right 19 rfl) h (fun h => ?_)
        refine g_iconst (pc := 35) (dk d_mR_right 20 rfl) (by decide) ?_
        refine h_icmp_eq (pc := 36) (tgt := 52) (dk d_mR_right 21 rfl) rfl h (fun hc31 h => ?_) (fun hc31 h => ?_)
        · refine g_bipush (pc := 52) (dk d_mR_right 30 rfl) (by decide) ?_
          exact h_iret (pc := 54) rfl (dk d_mR_right 31 rfl) h
        · refine g_aload_n (pc := 39) (j := 0) (dk d_mR_right 22 rfl) rfl (by decide) ?_
          refine g_getR (pc := 40) (a := 82) rfl fp_R_121 po_46 (dk d_mR_right 23 rfl) ?_
          refine g_iload_n (pc := 43) (j := 1) (dk d_mR_right 24 rfl) rfl ?_
          refine g_bipush (pc := 44) (dk d_mR_right 25 rfl) (by decide) ?_
          refine g_irem (pc := 46) (dk d_mR_right 26 rfl) (by decide) ?_
          refine h_iald (pc := 47) (B := 6) pa_82 rfl (dk d_mR_right 27 rfl) h (fun h => ?_)
          refine g_iconst (pc := 48) (dk d_mR_right 28 rfl) (by decide) ?_
          refine h_icmp_ne (pc := 49) (tgt := 55) (dk d_mR_right 29 rfl) rfl h (fun hc30 h => ?_) (fun hc30 h => ?_)
          · refine g_aload_n (pc := 55) (j := 0) (dk d_mR_right 32 rfl) rfl (by decide) ?_
            refine g_iload_n (pc := 56) (j := 1) (dk d_mR_right 33 rfl) rfl ?_
            refine g_bipush (pc := 57) (dk d_mR_right 34 rfl) (by decide) ?_
            refine g_idiv (pc := 59) (dk d_mR_right 35 rfl) (by decide) ?_
            refine h_callVi (d := d + 4) (pc := 60) (na := 1) (av := [pI (w32 (Int.tdiv a1 10))]) (k0 := 46) po_46 ⟨_, rfl⟩ ⟨rfl, rfl⟩ (dk d_mR_right 36 rfl) lk_R_361 vm_mR_rowFault rfl rfl (Nat.le_of_ble_eq_true rfl) h (fun r8 u7 hq => kR_rowFault E (d + 3) hq) (fun r8 u7 hb9 h => ?_)
            refine h_if_lt (pc := 63) (tgt := 77) (dk d_mR_right 37 rfl) rfl h (fun hc29 h => ?_) (fun hc29 h => ?_)
            · refine g_bipush (pc := 77) (dk d_mR_right 44 rfl) (by decide) ?_
              exact h_iret (pc := 79) rfl (dk d_mR_right 45 rfl) h
            · refine g_aload_n (pc := 66) (j := 0) (dk d_mR_right 38 rfl) rfl (by decide) ?_
              refine g_iload_n (pc := 67) (j := 1) (dk d_mR_right 39 rfl) rfl ?_
              refine g_bipush (pc := 68) (dk d_mR_right 40 rfl) (by decide) ?_
              refine g_irem (pc := 70) (dk d_mR_right 41 rfl) (by decide) ?_
              refine h_callVi (d := d + 4) (pc := 71) (na := 1) (av := [pI (Int.tmod a1 10)]) (k0 := 46) po_46 ⟨_, rfl⟩ ⟨rfl, rfl⟩ (dk d_mR_right 42 rfl) lk_R_361 vm_mR_rowFault rfl rfl (Nat.le_of_ble_eq_true rfl) h (fun r11 u10 hq => kR_rowFault E (d + 3) hq) (fun r11 u10 hb12 h => ?_)
              refine h_if_ge (pc := 74) (tgt := 80) (dk d_mR_right 43 rfl) rfl h (fun hc28 h => ?_) (fun hc28 h => ?_)
              · refine g_aload_n (pc := 80) (j := 0) (dk d_mR_right 46 rfl) rfl (by decide) ?_
                refine g_iload_n (pc := 81) (j := 1) (dk d_mR_right 47 rfl) rfl ?_
                refine g_bipush (pc := 82) (dk d_mR_right 48 rfl) (by decide) ?_
                refine g_irem (pc := 84) (dk d_mR_right 49 rfl) (by decide) ?_
                refine h_callVi (d := d + 4) (pc := 85) (na := 1) (av := [pI (Int.tmod a1 10)]) (k0 := 46) po_46 ⟨_, rfl⟩ ⟨rfl, rfl⟩ (dk d_mR_right 50 rfl) lk_R_364 vm_mR_layTruth rfl rfl (Nat.le_of_ble_eq_true rfl) h (fun r14 u13 hq => kR_layTruth E (d + 0) hq) (fun r14 u13 hb15 h => ?_)
                refine h_if_ne (pc := 88) (tgt := 94) (dk d_mR_right 51 rfl) rfl h (fun hc27 h => ?_) (fun hc27 h => ?_)
                · refine g_iconst (pc := 94) (dk d_mR_right 54 rfl) (by decide) ?_
                  refine g_istore_n (pc := 95) (l' := [(2, pI 0), (0, pR 46), (1, pI a1)]) (dk d_mR_right 55 rfl) (Nat.le_of_ble_eq_true rfl) rfl ?_
                  refine g_iconst (pc := 96) (dk d_mR_right 56 rfl) (by decide) ?_
                  refine g_istore_n (pc := 97) (l' := [(3, pI 0), (2, pI 0), (0, pR 46), (1, pI a1)]) (dk d_mR_right 57 rfl) (Nat.le_of_ble_eq_true rfl) rfl ?_
                  refine g_pick [2, 3, 1, 0] rfl (l' := [(0, pR 46), (1, pI a1), (2, pI 0), (3, pI 0)]) rfl ?_
                  refine fR_right_l98_ok E d a1 FU _ _  _ h
                · refine g_bipush (pc := 91) (dk d_mR_right 52 rfl) (by decide) ?_
                  exact h_iret (pc := 93) rfl (dk d_mR_right 53 rfl) h
              · refine g_bipush (pc := 77) (dk d_mR_right 44 rfl) (by decide) ?_
                exact h_iret (pc := 79) rfl (dk d_mR_right 45 rfl) h
          · refine g_bipush (pc := 52) (dk d_mR_right 30 rfl) (by decide) ?_
            exact h_iret (pc := 54) rfl (dk d_mR_right 31 rfl) h
      · refine g_iconst (pc := 24) (dk d_mR_right 12 rfl) (by decide) ?_
        exact h_iret (pc := 25) rfl (dk d_mR_right 13 rfl) h
set_option maxRecDepth 100000 in
set_option maxHeartbeats 4000000 in
theorem kR_right (E : Nat × (Int → Int)) (d : Nat) {a1 : Int} {w w1 : WD} {r : Int} (h : fR_right a1 w = some (r, w1)) : CTi E mR_right (d + 5) [pR 46, pI a1] w RF NN r w1 RF NN := by
  exact CTi_of (by decide +kernel) (Nat.le_of_ble_eq_true rfl) (Or.inl rfl) (gR_right (res := (r, w1)) E d a1 w h)
def fR_cards_l34_b (rec : Int → WD → Option (Int × WD)) (y1 : Int) (y2 : Int) (K0 : WD → Option (Int × WD)) (x3 : Int) (w : WD) : Option (Int × WD) := if 5 ≤ x3 then (K0 w) else (ck (0 ≤ y1 ∧ y1 < 6) <| jn (β := Int → WD → Option (Int × WD)) (fun (s10 : Int) (u11 : WD) => ck (0 ≤ x3 ∧ x3 < 5) <| bw (up u11 70 x3 s10) <| fun (u12 : WD) => bv (w32 (x3 + 1)) <| fun (v3_13 : Int) => rec v3_13 u12) <| fun J14 => if (w 83 y1) ≤ x3 then (J14 (-1) w) else (ci (fR_at y1 x3 w) <| fun (r16 : Int) (u15 : WD) => J14 r16 u15))
def fR_cards_l34 (y1 : Int) (y2 : Int) (K0 : WD → Option (Int × WD)) : Nat → Int → WD → Option (Int × WD)
  | 0 => fun _ _ => none
  | k + 1 => fR_cards_l34_b ( fR_cards_l34 y1 y2 K0 k) y1 y2 K0
set_option maxRecDepth 100000 in
set_option maxHeartbeats 4000000 in
theorem fR_cards_l34_b_ok (E : Nat × (Int → Int)) (d : Nat) {res : Int × WD} {rec : Int → WD → Option (Int × WD)} (y1 : Int) (y2 : Int) (K0 : WD → Option (Int × WD)) (hrec : ∀ (x3 : Int) (w : WD), rec x3 w = some res → G E mR_cards (d + 204) 34 [(0, pR 46), (1, pI y1), (2, pI y2), (3, pI x3)] [] w RF NN 0 0 (some (pI res.1), res.2, RF, NN)) (hK0 : ∀ (w : WD), K0 w = some res → G E mR_cards (d + 204) 71 [(0, pR 46), (2, pI y2)] [] w RF NN 0 0 (some (pI res.1), res.2, RF, NN)) (x3 : Int) (w : WD) (h : fR_cards_l34_b rec y1 y2 K0 x3 w = some res) : G E mR_cards (d + 204) 34 [(0, pR 46), (1, pI y1), (2, pI y2), (3, pI x3)] [] w RF NN 0 0 (some (pI res.1), res.2, RF, NN) := by
  unfold fR_cards_l34_b at h
  refine g_iload_n (pc := 34) (j := 3) (dk d_mR_cards 20 rfl) rfl ?_
  refine g_iconst (pc := 35) (dk d_mR_cards 21 rfl) (by decide) ?_
  refine h_icmp_ge (pc := 36) (tgt := 71) (dk d_mR_cards 22 rfl) rfl h (fun hc19 h => ?_) (fun hc19 h => ?_)
  · refine g_pick [0, 2] rfl (l' := [(0, pR 46), (2, pI y2)]) rfl ?_
    exact hK0 _ h
  · refine g_aload_n (pc := 39) (j := 0) (dk d_mR_cards 23 rfl) rfl (by decide) ?_
    refine g_getR (pc := 40) (a := 70) rfl fp_R_84 po_46 (dk d_mR_cards 24 rfl) ?_
    refine g_iload_n (pc := 43) (j := 3) (dk d_mR_cards 25 rfl) rfl ?_
    refine g_iload_n (pc := 44) (j := 3) (dk d_mR_cards 26 rfl) rfl ?_
    refine g_aload_n (pc := 45) (j := 0) (dk d_mR_cards 27 rfl) rfl (by decide) ?_
    refine g_getR (pc := 46) (a := 83) rfl fp_R_124 po_46 (dk d_mR_cards 28 rfl) ?_
    refine g_iload_n (pc := 49) (j := 1) (dk d_mR_cards 29 rfl) rfl ?_
    refine h_iald (pc := 50) (B := 6) pa_83 rfl (dk d_mR_cards 30 rfl) h (fun h => ?_)
    refine jn_e (fun J => ∀ (s10 : Int) (u11 : WD), J s10 u11 = some res → G E mR_cards (d + 204) 64 [(0, pR 46), (1, pI y1), (2, pI y2), (3, pI x3)] [pI s10, pI x3, pR 70] u11 RF NN 0 0 (some (pI res.1), res.2, RF, NN)) h (fun s10 u11 h => ?_) (fun J14 hJ14 h => ?_)
    · refine h_iast (pc := 64) (B := 5) pa_70 rfl (dk d_mR_cards 38 rfl) h (fun u12 h => ?_)
      refine h_iinc (pc := 65) (j := 3) (dk d_mR_cards 39 rfl) rfl (by decide) (Nat.le_of_ble_eq_true rfl) h (fun v3_13 h => ?_)
      refine g_loc (l' := [(3, pI v3_13), (0, pR 46), (1, pI y1), (2, pI y2)]) rfl ?_
      refine g_goto (pc := 68) (tgt := 34) (dk d_mR_cards 40 rfl) rfl ?_
      refine g_pick [1, 2, 3, 0] rfl (l' := [(0, pR 46), (1, pI y1), (2, pI y2), (3, pI v3_13)]) rfl ?_
      exact hrec _ _ h
    · refine h_icmp_ge (pc := 51) (tgt := 63) (dk d_mR_cards 31 rfl) rfl h (fun hc18 h => ?_) (fun hc18 h => ?_)
      · refine g_iconst (pc := 63) (dk d_mR_cards 37 rfl) (by decide) ?_
        exact hJ14 _ _ h
      · refine g_aload_n (pc := 54) (j := 0) (dk d_mR_cards 32 rfl) rfl (by decide) ?_
        refine g_iload_n (pc := 55) (j := 1) (dk d_mR_cards 33 rfl) rfl ?_
        refine g_iload_n (pc := 56) (j := 3) (dk d_mR_cards 34 rfl) rfl ?_
        refine h_callVi (d := d + 203) (pc := 57) (na := 2) (av := [pI y1, pI x3]) (k0 := 46) po_46 ⟨_, rfl⟩ ⟨rfl, rfl⟩ (dk d_mR_cards 35 rfl) lk_R_354 vm_mR_at rfl rfl (Nat.le_of_ble_eq_true rfl) h (fun r16 u15 hq => kR_at E (d + 202) hq) (fun r16 u15 hb17 h => ?_)
        refine g_goto (pc := 60) (tgt := 64) (dk d_mR_cards 36 rfl) rfl ?_
        exact hJ14 _ _ h
set_option maxRecDepth 100000 in
set_option maxHeartbeats 4000000 in
theorem fR_cards_l34_ok (E : Nat × (Int → Int)) (d : Nat) {res : Int × WD} (y1 : Int) (y2 : Int) (K0 : WD → Option (Int × WD)) (hK0 : ∀ (w : WD), K0 w = some res → G E mR_cards (d + 204) 71 [(0, pR 46), (2, pI y2)] [] w RF NN 0 0 (some (pI res.1), res.2, RF, NN)) : ∀ (k : Nat) (x3 : Int) (w : WD), fR_cards_l34 y1 y2 K0 k x3 w = some res → G E mR_cards (d + 204) 34 [(0, pR 46), (1, pI y1), (2, pI y2), (3, pI x3)] [] w RF NN 0 0 (some (pI res.1), res.2, RF, NN) := by
  intro k
  induction k with
  | zero =>
    intro x3 w h
    exact no_e h
  | succ k ih =>
    intro x3 w h
    exact fR_cards_l34_b_ok E d y1 y2 K0 ih hK0 x3 w h
def fR_cards_l86_b (rec : Int → WD → Option (Int × WD)) (x3 : Int) (w : WD) : Option (Int × WD) := if (w 46 4) ≤ x3 then (some ((-2), w)) else (ck (0 ≤ x3 ∧ x3 < 5) <| jn (β := WD → Option (Int × WD)) (fun (u22 : WD) => bv (w32 (x3 + 1)) <| fun (v3_23 : Int) => rec v3_23 u22) <| fun J24 => if (w 70 x3) = (-1) then (J24 w) else (if (bAnd (bShr (w 46 41) x3) 1) ≠ 0 then (J24 w) else (some (x3, w))))
def fR_cards_l86 : Nat → Int → WD → Option (Int × WD)
  | 0 => fun _ _ => none
  | k + 1 => fR_cards_l86_b ( fR_cards_l86 k)
set_option maxRecDepth 100000 in
set_option maxHeartbeats 4000000 in
theorem fR_cards_l86_b_ok (E : Nat × (Int → Int)) (d : Nat) {res : Int × WD} {rec : Int → WD → Option (Int × WD)} (hrec : ∀ (x3 : Int) (w : WD), rec x3 w = some res → G E mR_cards (d + 204) 86 [(0, pR 46), (3, pI x3)] [] w RF NN 0 0 (some (pI res.1), res.2, RF, NN)) (x3 : Int) (w : WD) (h : fR_cards_l86_b rec x3 w = some res) : G E mR_cards (d + 204) 86 [(0, pR 46), (3, pI x3)] [] w RF NN 0 0 (some (pI res.1), res.2, RF, NN) := by
  unfold fR_cards_l86_b at h
  refine g_iload_n (pc := 86) (j := 1) (dk d_mR_cards 50 rfl) rfl ?_
  refine g_aload_n (pc := 87) (j := 0) (dk d_mR_cards 51 rfl) rfl (by decide) ?_
  refine g_getI (pc := 88) fp_R_144 po_46 (dk d_mR_cards 52 rfl) ?_
  refine h_icmp_ge (pc := 91) (tgt := 123) (dk d_mR_cards 53 rfl) rfl h (fun hc27 h => ?_) (fun hc27 h => ?_)
  · refine g_bipush (pc := 123) (dk d_mR_cards 71 rfl) (by decide) ?_
    exact h_iret (pc := 125) rfl (dk d_mR_cards 72 rfl) h
  · refine g_aload_n (pc := 94) (j := 0) (dk d_mR_cards 54 rfl) rfl (by decide) ?_
    refine g_getR (pc := 95) (a := 70) rfl fp_R_84 po_46 (dk d_mR_cards 55 rfl) ?_
    refine g_iload_n (pc := 98) (j := 1) (dk d_mR_cards 56 rfl) rfl ?_
    refine h_iald (pc := 99) (B := 5) pa_70 rfl (dk d_mR_cards 57 rfl) h (fun h => ?_)
    refine g_iconst (pc := 100) (dk d_mR_cards 58 rfl) (by decide) ?_
    refine jn_e (fun J => ∀ (u22 : WD), J u22 = some res → G E mR_cards (d + 204) 117 [(0, pR 46), (3, pI x3)] [] u22 RF NN 0 0 (some (pI res.1), res.2, RF, NN)) h (fun u22 h => ?_) (fun J24 hJ24 h => ?_)
    · refine h_iinc (pc := 117) (j := 1) (dk d_mR_cards 69 rfl) rfl (by decide) (Nat.le_of_ble_eq_true rfl) h (fun v3_23 h => ?_)
      refine g_loc (l' := [(3, pI v3_23), (0, pR 46)]) rfl ?_
      refine g_goto (pc := 120) (tgt := 86) (dk d_mR_cards 70 rfl) rfl ?_
      refine g_pick [1, 0] rfl (l' := [(0, pR 46), (3, pI v3_23)]) rfl ?_
      exact hrec _ _ h
    · refine h_icmp_eq (pc := 101) (tgt := 117) (dk d_mR_cards 59 rfl) rfl h (fun hc26 h => ?_) (fun hc26 h => ?_)
      · exact hJ24 _ h
      · refine g_aload_n (pc := 104) (j := 0) (dk d_mR_cards 60 rfl) rfl (by decide) ?_
        refine g_getI (pc := 105) fp_R_281 po_46 (dk d_mR_cards 61 rfl) ?_
        refine g_iload_n (pc := 108) (j := 1) (dk d_mR_cards 62 rfl) rfl ?_
        refine g_ishr (pc := 109) (dk d_mR_cards 63 rfl) ?_
        refine g_iconst (pc := 110) (dk d_mR_cards 64 rfl) (by decide) ?_
        refine g_iand (pc := 111) (dk d_mR_cards 65 rfl) ?_
        refine h_if_ne (pc := 112) (tgt := 117) (dk d_mR_cards 66 rfl) rfl h (fun hc25 h => ?_) (fun hc25 h => ?_)
        · exact hJ24 _ h
        · refine g_iload_n (pc := 115) (j := 1) (dk d_mR_cards 67 rfl) rfl ?_
          exact h_iret (pc := 116) rfl (dk d_mR_cards 68 rfl) h
set_option maxRecDepth 100000 in
set_option maxHeartbeats 4000000 in
theorem fR_cards_l86_ok (E : Nat × (Int → Int)) (d : Nat) {res : Int × WD} : ∀ (k : Nat) (x3 : Int) (w : WD), fR_cards_l86 k x3 w = some res → G E mR_cards (d + 204) 86 [(0, pR 46), (3, pI x3)] [] w RF NN 0 0 (some (pI res.1), res.2, RF, NN) := by
  intro k
  induction k with
  | zero =>
    intro x3 w h
    exact no_e h
  | succ k ih =>
    intro x3 w h
    exact fR_cards_l86_b_ok E d ih x3 w h
def fR_cards (a1 : Int) (a2 : Int) (w : WD) : Option (Int × WD) := ci (fR_isShelf a1 w) <| fun (r2 : Int) (u1 : WD) => if r2 = 0 then (some ((-1), u1)) else (ci (fR_in a2 0 1 u1) <| fun (r5 : Int) (u4 : WD) => if r5 ≠ 0 then (ci (fR_rowFault a1 u4) <| fun (r8 : Int) (u7 : WD) => if 0 ≤ r8 then (fR_cards_l34 a1 a2 (fun (u20 : WD) => cv (fR_findWays u20) <| fun (u21 : WD) => if a2 ≠ 0 then (fR_cards_l86 FU 0 u21) else (some ((u21 46 40), u21))) FU 0 u7) else (ci (fR_rowFault a1 u7) <| fun (r30 : Int) (u29 : WD) => some (r30, u29))) else (some ((-1), u4)))
set_option maxRecDepth 100000 in
set_option maxHeartbeats 4000000 in
theorem gR_cards (E : Nat × (Int → Int)) (d : Nat) {res : Int × WD} (a1 : Int) (a2 : Int) (w : WD) (h : fR_cards a1 a2 w = some res) : G E mR_cards (d + 204) 0 [(0, pR 46), (1, pI a1), (2, pI a2)] [] w RF NN 0 0 (some (pI res.1), res.2, RF, NN) := by
  unfold fR_cards at h
  refine g_iload_n (pc := 0) (j := 1) (dk d_mR_cards 0 rfl) rfl ?_
  refine h_callSi (d := d + 203) (pc := 1) (na := 1) (av := [pI a1]) ⟨rfl, rfl⟩ (dk d_mR_cards 1 rfl) lk_R_158 vm_mR_isShelf rfl rfl (Nat.le_of_ble_eq_true rfl) h (fun r2 u1 hq => kR_isShelf E (d + 201) hq) (fun r2 u1 hb3 h => ?_)
  refine h_if_eq (pc := 4) (tgt := 16) (dk d_mR_cards 2 rfl) rfl h (fun hc34 h => ?_) (fun hc34 h => ?_)
  · refine g_iconst (pc := 16) (dk d_mR_cards 8 rfl) (by decide) ?_
    exact h_iret (pc := 17) rfl (dk d_mR_cards 9 rfl) h
  · refine g_iload_n (pc := 7) (j := 2) (dk d_mR_cards 3 rfl) rfl ?_
    refine g_iconst (pc := 8) (dk d_mR_cards 4 rfl) (by decide) ?_
    refine g_iconst (pc := 9) (dk d_mR_cards 5 rfl) (by decide) ?_
    refine h_callSi (d := d + 203) (pc := 10) (na := 3) (av := [pI a2, pI 0, pI 1]) ⟨rfl, rfl⟩ (dk d_mR_cards 6 rfl) lk_R_140 vm_mR_in rfl rfl (Nat.le_of_ble_eq_true rfl) h (fun r5 u4 hq => kR_in E (d + 202) hq) (fun r5 u4 hb6 h => ?_)
    refine h_if_ne (pc := 13) (tgt := 18) (dk d_mR_cards 7 rfl) rfl h (fun hc33 h => ?_) (fun hc33 h => ?_)
    · refine g_aload_n (pc := 18) (j := 0) (dk d_mR_cards 10 rfl) rfl (by decide) ?_
      refine g_iload_n (pc := 19) (j := 1) (dk d_mR_cards 11 rfl) rfl ?_
      refine h_callVi (d := d + 203) (pc := 20) (na := 1) (av := [pI a1]) (k0 := 46) po_46 ⟨_, rfl⟩ ⟨rfl, rfl⟩ (dk d_mR_cards 12 rfl) lk_R_361 vm_mR_rowFault rfl rfl (Nat.le_of_ble_eq_true rfl) h (fun r8 u7 hq => kR_rowFault E (d + 202) hq) (fun r8 u7 hb9 h => ?_)
      refine h_if_ge (pc := 23) (tgt := 32) (dk d_mR_cards 13 rfl) rfl h (fun hc32 h => ?_) (fun hc32 h => ?_)
      · refine g_iconst (pc := 32) (dk d_mR_cards 18 rfl) (by decide) ?_
        refine g_istore_n (pc := 33) (l' := [(3, pI 0), (0, pR 46), (1, pI a1), (2, pI a2)]) (dk d_mR_cards 19 rfl) (Nat.le_of_ble_eq_true rfl) rfl ?_
        refine g_pick [1, 2, 3, 0] rfl (l' := [(0, pR 46), (1, pI a1), (2, pI a2), (3, pI 0)]) rfl ?_
        refine fR_cards_l34_ok E d a1 a2 _  (fun u20 h => ?_) FU _  _ h
        · refine g_aload_n (pc := 71) (j := 0) (dk d_mR_cards 41 rfl) rfl (by decide) ?_
          refine h_callVv (d := d + 203) (pc := 72) (na := 0) (av := []) (k0 := 46) po_46 ⟨_, rfl⟩ ⟨rfl, rfl⟩ (dk d_mR_cards 42 rfl) lk_R_306 vm_mR_findWays rfl rfl (Nat.le_of_ble_eq_true rfl) h (fun u21 hq => kR_findWays E (d + 0) hq) (fun u21 h => ?_)
          refine g_iload_n (pc := 75) (j := 1) (dk d_mR_cards 43 rfl) rfl ?_
          refine h_if_ne (pc := 76) (tgt := 84) (dk d_mR_cards 44 rfl) rfl h (fun hc28 h => ?_) (fun hc28 h => ?_)
          · refine g_iconst (pc := 84) (dk d_mR_cards 48 rfl) (by decide) ?_
            refine g_istore_n (pc := 85) (l' := [(3, pI 0), (0, pR 46), (2, pI a2)]) (dk d_mR_cards 49 rfl) (Nat.le_of_ble_eq_true rfl) rfl ?_
            refine g_pick [1, 0] rfl (l' := [(0, pR 46), (3, pI 0)]) rfl ?_
            refine fR_cards_l86_ok E d FU _  _ h
          · refine g_aload_n (pc := 79) (j := 0) (dk d_mR_cards 45 rfl) rfl (by decide) ?_
            refine g_getI (pc := 80) fp_R_284 po_46 (dk d_mR_cards 46 rfl) ?_
            exact h_iret (pc := 83) rfl (dk d_mR_cards 47 rfl) h
      · refine g_aload_n (pc := 26) (j := 0) (dk d_mR_cards 14 rfl) rfl (by decide) ?_
        refine g_iload_n (pc := 27) (j := 1) (dk d_mR_cards 15 rfl) rfl ?_
        refine h_callVi (d := d + 203) (pc := 28) (na := 1) (av := [pI a1]) (k0 := 46) po_46 ⟨_, rfl⟩ ⟨rfl, rfl⟩ (dk d_mR_cards 16 rfl) lk_R_361 vm_mR_rowFault rfl rfl (Nat.le_of_ble_eq_true rfl) h (fun r30 u29 hq => kR_rowFault E (d + 202) hq) (fun r30 u29 hb31 h => ?_)
        exact h_iret (pc := 31) rfl (dk d_mR_cards 17 rfl) h
    · refine g_iconst (pc := 16) (dk d_mR_cards 8 rfl) (by decide) ?_
      exact h_iret (pc := 17) rfl (dk d_mR_cards 9 rfl) h
set_option maxRecDepth 100000 in
set_option maxHeartbeats 4000000 in
theorem kR_cards (E : Nat × (Int → Int)) (d : Nat) {a1 : Int} {a2 : Int} {w w1 : WD} {r : Int} (h : fR_cards a1 a2 w = some (r, w1)) : CTi E mR_cards (d + 204) [pR 46, pI a1, pI a2] w RF NN r w1 RF NN := by
  exact CTi_of (by decide +kernel) (Nat.le_of_ble_eq_true rfl) (Or.inl rfl) (gR_cards (res := (r, w1)) E d a1 a2 w h)
