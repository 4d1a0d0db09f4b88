def fR_addPerson (a1 : Int) (a2 : Int) (a3 : Int) (w : WD) : Option (Int × WD) := ck (0 ≤ (w32 (3 * (w 46 1))) ∧ (w32 (3 * (w 46 1))) < 18) <| bw (up w 47 (w32 (3 * (w 46 1))) a1) <| fun (u1 : WD) => ck (0 ≤ (w32 ((w32 (3 * (u1 46 1))) + 1)) ∧ (w32 ((w32 (3 * (u1 46 1))) + 1)) < 18) <| bw (up u1 47 (w32 ((w32 (3 * (u1 46 1))) + 1)) a2) <| fun (u2 : WD) => ck (0 ≤ (w32 ((w32 (3 * (u2 46 1))) + 2)) ∧ (w32 ((w32 (3 * (u2 46 1))) + 2)) < 18) <| bw (up u2 47 (w32 ((w32 (3 * (u2 46 1))) + 2)) a3) <| fun (u3 : WD) => ck (0 ≤ (u3 46 1) ∧ (u3 46 1) < 6) <| bw (up u3 48 (u3 46 1) 2) <| fun (u4 : WD) => bw (up u4 46 1 (w32 ((u4 46 1) + 1))) <| fun (u5 : WD) => some ((w32 ((u5 46 1) - 1)), u5)
set_option maxRecDepth 100000 in
set_option maxHeartbeats 4000000 in
theorem gR_addPerson (E : Nat × (Int → Int)) (d : Nat) {res : Int × WD} (a1 : Int) (a2 : Int) (a3 : Int) (w : WD) (h : fR_addPerson a1 a2 a3 w = some res) : G E mR_addPerson (d + 1) 0 [(0, pR 46), (1, pI a1), (2, pI a2), (3, pI a3)] [] w RF NN 0 0 (some (pI res.1), res.2, RF, NN) := by
  unfold fR_addPerson at h
  refine g_aload_n (pc := 0) (j := 0) (dk d_mR_addPerson 0 rfl) rfl (by decide) ?_
  refine g_getR (pc := 1) (a := 47) rfl fp_R_9 po_46 (dk d_mR_addPerson 1 rfl) ?_
  refine g_iconst (pc := 4) (dk d_mR_addPerson 2 rfl) (by decide) ?_
  refine g_aload_n (pc := 5) (j := 0) (dk d_mR_addPerson 3 rfl) rfl (by decide) ?_
  refine g_getI (pc := 6) fp_R_137 po_46 (dk d_mR_addPerson 4 rfl) ?_
  refine g_imul (pc := 9) (dk d_mR_addPerson 5 rfl) ?_
  refine g_iload_n (pc := 10) (j := 1) (dk d_mR_addPerson 6 rfl) rfl ?_
  refine h_iast (pc := 11) (B := 18) pa_47 rfl (dk d_mR_addPerson 7 rfl) h (fun u1 h => ?_)
  refine g_aload_n (pc := 12) (j := 0) (dk d_mR_addPerson 8 rfl) rfl (by decide) ?_
  refine g_getR (pc := 13) (a := 47) rfl fp_R_9 po_46 (dk d_mR_addPerson 9 rfl) ?_
  refine g_iconst (pc := 16) (dk d_mR_addPerson 10 rfl) (by decide) ?_
  refine g_aload_n (pc := 17) (j := 0) (dk d_mR_addPerson 11 rfl) rfl (by decide) ?_
  refine g_getI (pc := 18) fp_R_137 po_46 (dk d_mR_addPerson 12 rfl) ?_
  refine g_imul (pc := 21) (dk d_mR_addPerson 13 rfl) ?_
  refine g_iconst (pc := 22) (dk d_mR_addPerson 14 rfl) (by decide) ?_
  refine g_iadd (pc := 23) (dk d_mR_addPerson 15 rfl) ?_
  refine g_iload_n (pc := 24) (j := 2) (dk d_mR_addPerson 16 rfl) rfl ?_
  refine h_iast (pc := 25) (B := 18) pa_47 rfl (dk d_mR_addPerson 17 rfl) h (fun u2 h => ?_)
  refine g_aload_n (pc := 26) (j := 0) (dk d_mR_addPerson 18 rfl) rfl (by decide) ?_
  refine g_getR (pc := 27) (a := 47) rfl fp_R_9 po_46 (dk d_mR_addPerson 19 rfl) ?_
  refine g_iconst (pc := 30) (dk d_mR_addPerson 20 rfl) (by decide) ?_
  refine g_aload_n (pc := 31) (j := 0) (dk d_mR_addPerson 21 rfl) rfl (by decide) ?_
  refine g_getI (pc := 32) fp_R_137 po_46 (dk d_mR_addPerson 22 rfl) ?_
  refine g_imul (pc := 35) (dk d_mR_addPerson 23 rfl) ?_
  refine g_iconst (pc := 36) (dk d_mR_addPerson 24 rfl) (by decide) ?_
  refine g_iadd (pc := 37) (dk d_mR_addPerson 25 rfl) ?_
  refine g_iload_n (pc := 38) (j := 3) (dk d_mR_addPerson 26 rfl) rfl ?_
  refine h_iast (pc := 39) (B := 18) pa_47 rfl (dk d_mR_addPerson 27 rfl) h (fun u3 h => ?_)
  refine g_aload_n (pc := 40) (j := 0) (dk d_mR_addPerson 28 rfl) rfl (by decide) ?_
  refine g_getR (pc := 41) (a := 48) rfl fp_R_15 po_46 (dk d_mR_addPerson 29 rfl) ?_
  refine g_aload_n (pc := 44) (j := 0) (dk d_mR_addPerson 30 rfl) rfl (by decide) ?_
  refine g_getI (pc := 45) fp_R_137 po_46 (dk d_mR_addPerson 31 rfl) ?_
  refine g_iconst (pc := 48) (dk d_mR_addPerson 32 rfl) (by decide) ?_
  refine h_iast (pc := 49) (B := 6) pa_48 rfl (dk d_mR_addPerson 33 rfl) h (fun u4 h => ?_)
  refine g_aload_n (pc := 50) (j := 0) (dk d_mR_addPerson 34 rfl) rfl (by decide) ?_
  refine g_dup (pc := 51) (dk d_mR_addPerson 35 rfl) rfl ?_
  refine g_getI (pc := 52) fp_R_137 po_46 (dk d_mR_addPerson 36 rfl) ?_
  refine g_iconst (pc := 55) (dk d_mR_addPerson 37 rfl) (by decide) ?_
  refine g_iadd (pc := 56) (dk d_mR_addPerson 38 rfl) ?_
  refine h_putI (pc := 57) fp_R_137 po_46 (dk d_mR_addPerson 39 rfl) h (fun u5 h => ?_)
  refine g_aload_n (pc := 60) (j := 0) (dk d_mR_addPerson 40 rfl) rfl (by decide) ?_
  refine g_getI (pc := 61) fp_R_137 po_46 (dk d_mR_addPerson 41 rfl) ?_
  refine g_iconst (pc := 64) (dk d_mR_addPerson 42 rfl) (by decide) ?_
  refine g_isub (pc := 65) (dk d_mR_addPerson 43 rfl) ?_
  exact h_iret (pc := 66) rfl (dk d_mR_addPerson 44 rfl) h
set_option maxRecDepth 100000 in
set_option maxHeartbeats 4000000 in
theorem kR_addPerson (E : Nat × (Int → Int)) (d : Nat) {a1 : Int} {a2 : Int} {a3 : Int} {w w1 : WD} {r : Int} (h : fR_addPerson a1 a2 a3 w = some (r, w1)) : CTi E mR_addPerson (d + 1) [pR 46, pI a1, pI a2, pI a3] w RF NN r w1 RF NN := by
  exact CTi_of (by decide +kernel) (Nat.le_of_ble_eq_true rfl) (Or.inl rfl) (gR_addPerson (res := (r, w1)) E d a1 a2 a3 w h)
def fR_in (a0 : Int) (a1 : Int) (a2 : Int) (w : WD) : Option (Int × WD) := if a0 < a1 then (some (0, w)) else (if a2 < a0 then (some (0, w)) else (some (1, w)))
set_option maxRecDepth 100000 in
set_option maxHeartbeats 4000000 in
theorem gR_in (E : Nat × (Int → Int)) (d : Nat) {res : Int × WD} (a0 : Int) (a1 : Int) (a2 : Int) (w : WD) (h : fR_in a0 a1 a2 w = some res) : G E mR_in (d + 1) 0 [(0, pI a0), (1, pI a1), (2, pI a2)] [] w RF NN 0 0 (some (pI res.1), res.2, RF, NN) := by
  unfold fR_in at h
  refine g_iload_n (pc := 0) (j := 0) (dk d_mR_in 0 rfl) rfl ?_
  refine g_iload_n (pc := 1) (j := 1) (dk d_mR_in 1 rfl) rfl ?_
  refine h_icmp_lt (pc := 2) (tgt := 14) (dk d_mR_in 2 rfl) rfl h (fun hc2 h => ?_) (fun hc2 h => ?_)
  · refine g_iconst (pc := 14) (dk d_mR_in 8 rfl) (by decide) ?_
    exact h_zret (pc := 15) (Or.inl rfl) (dk d_mR_in 9 rfl) h
  · refine g_iload_n (pc := 5) (j := 0) (dk d_mR_in 3 rfl) rfl ?_
    refine g_iload_n (pc := 6) (j := 2) (dk d_mR_in 4 rfl) rfl ?_
    refine h_icmp_gt (pc := 7) (tgt := 14) (dk d_mR_in 5 rfl) rfl h (fun hc1 h => ?_) (fun hc1 h => ?_)
    · refine g_iconst (pc := 14) (dk d_mR_in 8 rfl) (by decide) ?_
      exact h_zret (pc := 15) (Or.inl rfl) (dk d_mR_in 9 rfl) h
    · refine g_iconst (pc := 10) (dk d_mR_in 6 rfl) (by decide) ?_
      refine g_goto (pc := 11) (tgt := 15) (dk d_mR_in 7 rfl) rfl ?_
      exact h_zret (pc := 15) (Or.inr rfl) (dk d_mR_in 9 rfl) h
set_option maxRecDepth 100000 in
set_option maxHeartbeats 4000000 in
theorem kR_in (E : Nat × (Int → Int)) (d : Nat) {a0 : Int} {a1 : Int} {a2 : Int} {w w1 : WD} {r : Int} (h : fR_in a0 a1 a2 w = some (r, w1)) : CTi E mR_in (d + 1) [pI a0, pI a1, pI a2] w RF NN r w1 RF NN := by
  exact CTi_of (by decide +kernel) (Nat.le_of_ble_eq_true rfl) (Or.inr rfl) (gR_in (res := (r, w1)) E d a0 a1 a2 w h)
def fR_areSigns (a0 : Int) (a1 : Int) (a2 : Int) (w : WD) : Option (Int × WD) := ci (fR_in a0 0 3 w) <| fun (r2 : Int) (u1 : WD) => if r2 = 0 then (some (0, u1)) else (ci (fR_in a1 0 3 u1) <| fun (r5 : Int) (u4 : WD) => if r5 = 0 then (some (0, u4)) else (ci (fR_in a2 0 3 u4) <| fun (r8 : Int) (u7 : WD) => if r8 = 0 then (some (0, u7)) else (some (1, u7))))
set_option maxRecDepth 100000 in
set_option maxHeartbeats 4000000 in
theorem gR_areSigns (E : Nat × (Int → Int)) (d : Nat) {res : Int × WD} (a0 : Int) (a1 : Int) (a2 : Int) (w : WD) (h : fR_areSigns a0 a1 a2 w = some res) : G E mR_areSigns (d + 2) 0 [(0, pI a0), (1, pI a1), (2, pI a2)] [] w RF NN 0 0 (some (pI res.1), res.2, RF, NN) := by
  unfold fR_areSigns at h
  refine g_iload_n (pc := 0) (j := 0) (dk d_mR_areSigns 0 rfl) rfl ?_
  refine g_iconst (pc := 1) (dk d_mR_areSigns 1 rfl) (by decide) ?_
  refine g_iconst (pc := 2) (dk d_mR_areSigns 2 rfl) (by decide) ?_
  refine h_callSi (d := d + 1) (pc := 3) (na := 3) (av := [pI a0, pI 0, pI 3]) ⟨rfl, rfl⟩ (dk d_mR_areSigns 3 rfl) lk_R_140 vm_mR_in rfl rfl (Nat.le_of_ble_eq_true rfl) h (fun r2 u1 hq => kR_in E (d + 0) hq) (fun r2 u1 hb3 h => ?_)
  refine h_if_eq (pc := 6) (tgt := 31) (dk d_mR_areSigns 4 rfl) rfl h (fun hc12 h => ?_) (fun hc12 h => ?_)
  · refine g_iconst (pc := 31) (dk d_mR_areSigns 17 rfl) (by decide) ?_
    exact h_zret (pc := 32) (Or.inl rfl) (dk d_mR_areSigns 18 rfl) h
  · refine g_iload_n (pc := 9) (j := 1) (dk d_mR_areSigns 5 rfl) rfl ?_
    refine g_iconst (pc := 10) (dk d_mR_areSigns 6 rfl) (by decide) ?_
    refine g_iconst (pc := 11) (dk d_mR_areSigns 7 rfl) (by decide) ?_
    refine h_callSi (d := d + 1) (pc := 12) (na := 3) (av := [pI a1, pI 0, pI 3]) ⟨rfl, rfl⟩ (dk d_mR_areSigns 8 rfl) lk_R_140 vm_mR_in rfl rfl (Nat.le_of_ble_eq_true rfl) h (fun r5 u4 hq => kR_in E (d + 0) hq) (fun r5 u4 hb6 h => ?_)
    refine h_if_eq (pc := 15) (tgt := 31) (dk d_mR_areSigns 9 rfl) rfl h (fun hc11 h => ?_) (fun hc11 h => ?_)
    · refine g_iconst (pc := 31) (dk d_mR_areSigns 17 rfl) (by decide) ?_
      exact h_zret (pc := 32) (Or.inl rfl) (dk d_mR_areSigns 18 rfl) h
    · refine g_iload_n (pc := 18) (j := 2) (dk d_mR_areSigns 10 rfl) rfl ?_
      refine g_iconst (pc := 19) (dk d_mR_areSigns 11 rfl) (by decide) ?_
      refine g_iconst (pc := 20) (dk d_mR_areSigns 12 rfl) (by decide) ?_
      refine h_callSi (d := d + 1) (pc := 21) (na := 3) (av := [pI a2, pI 0, pI 3]) ⟨rfl, rfl⟩ (dk d_mR_areSigns 13 rfl) lk_R_140 vm_mR_in rfl rfl (Nat.le_of_ble_eq_true rfl) h (fun r8 u7 hq => kR_in E (d + 0) hq) (fun r8 u7 hb9 h => ?_)
      refine h_if_eq (pc := 24) (tgt := 31) (dk d_mR_areSigns 14 rfl) rfl h (fun hc10 h => ?_) (fun hc10 h => ?_)
      · refine g_iconst (pc := 31) (dk d_mR_areSigns 17 rfl) (by decide) ?_
        exact h_zret (pc := 32) (Or.inl rfl) (dk d_mR_areSigns 18 rfl) h
      · refine g_iconst (pc := 27) (dk d_mR_areSigns 15 rfl) (by decide) ?_
        refine g_goto (pc := 28) (tgt := 32) (dk d_mR_areSigns 16 rfl) rfl ?_
        exact h_zret (pc := 32) (Or.inr rfl) (dk d_mR_areSigns 18 rfl) h
set_option maxRecDepth 100000 in
set_option maxHeartbeats 4000000 in
theorem kR_areSigns (E : Nat × (Int → Int)) (d : Nat) {a0 : Int} {a1 : Int} {a2 : Int} {w w1 : WD} {r : Int} (h : fR_areSigns a0 a1 a2 w = some (r, w1)) : CTi E mR_areSigns (d + 2) [pI a0, pI a1, pI a2] w RF NN r w1 RF NN := by
  exact CTi_of (by decide +kernel) (Nat.le_of_ble_eq_true rfl) (Or.inr rfl) (gR_areSigns (res := (r, w1)) E d a0 a1 a2 w h)
def fR_person (a1 : Int) (w : WD) : Option (Int × WD) := if a1 < 0 then (some ((-1), w)) else (ci (fR_areSigns (w32 (Int.tdiv a1 100)) (Int.tmod (w32 (Int.tdiv a1 10)) 10) (Int.tmod a1 10) w) <| fun (r2 : Int) (u1 : WD) => if r2 ≠ 0 then (if (u1 46 1) ≠ 6 then (ci (fR_addPerson (w32 (Int.tdiv a1 100)) (Int.tmod (w32 (Int.tdiv a1 10)) 10) (Int.tmod a1 10) u1) <| fun (r5 : Int) (u4 : WD) => some (r5, u4)) else (some ((-3), u1))) else (some ((-1), u1)))
set_option maxRecDepth 100000 in
set_option maxHeartbeats 4000000 in
theorem gR_person (E : Nat × (Int → Int)) (d : Nat) {res : Int × WD} (a1 : Int) (w : WD) (h : fR_person a1 w = some res) : G E mR_person (d + 3) 0 [(0, pR 46), (1, pI a1)] [] w RF NN 0 0 (some (pI res.1), res.2, RF, NN) := by
  unfold fR_person at h
  refine g_iload_n (pc := 0) (j := 1) (dk d_mR_person 0 rfl) rfl ?_
  refine h_if_lt (pc := 1) (tgt := 25) (dk d_mR_person 1 rfl) rfl h (fun hc9 h => ?_) (fun hc9 h => ?_)
  · refine g_iconst (pc := 25) (dk d_mR_person 15 rfl) (by decide) ?_
    exact h_iret (pc := 26) rfl (dk d_mR_person 16 rfl) h
  · refine g_iload_n (pc := 4) (j := 1) (dk d_mR_person 2 rfl) rfl ?_
    refine g_bipush (pc := 5) (dk d_mR_person 3 rfl) (by decide) ?_
    refine g_idiv (pc := 7) (dk d_mR_person 4 rfl) (by decide) ?_
    refine g_iload_n (pc := 8) (j := 1) (dk d_mR_person 5 rfl) rfl ?_
    refine g_bipush (pc := 9) (dk d_mR_person 6 rfl) (by decide) ?_
    refine g_idiv (pc := 11) (dk d_mR_person 7 rfl) (by decide) ?_
    refine g_bipush (pc := 12) (dk d_mR_person 8 rfl) (by decide) ?_
    refine g_irem (pc := 14) (dk d_mR_person 9 rfl) (by decide) ?_
    refine g_iload_n (pc := 15) (j := 1) (dk d_mR_person 10 rfl) rfl ?_
    refine g_bipush (pc := 16) (dk d_mR_person 11 rfl) (by decide) ?_
    refine g_irem (pc := 18) (dk d_mR_person 12 rfl) (by decide) ?_
    refine h_callSi (d := d + 2) (pc := 19) (na := 3) (av := [pI (w32 (Int.tdiv a1 100)), pI (Int.tmod (w32 (Int.tdiv a1 10)) 10), pI (Int.tmod a1 10)]) ⟨rfl, rfl⟩ (dk d_mR_person 13 rfl) lk_R_151 vm_mR_areSigns rfl rfl (Nat.le_of_ble_eq_true rfl) h (fun r2 u1 hq => kR_areSigns E (d + 0) hq) (fun r2 u1 hb3 h => ?_)
    refine h_if_ne (pc := 22) (tgt := 27) (dk d_mR_person 14 rfl) rfl h (fun hc8 h => ?_) (fun hc8 h => ?_)
    · refine g_aload_n (pc := 27) (j := 0) (dk d_mR_person 17 rfl) rfl (by decide) ?_
      refine g_getI (pc := 28) fp_R_137 po_46 (dk d_mR_person 18 rfl) ?_
      refine g_bipush (pc := 31) (dk d_mR_person 19 rfl) (by decide) ?_
      refine h_icmp_ne (pc := 33) (tgt := 41) (dk d_mR_person 20 rfl) rfl h (fun hc7 h => ?_) (fun hc7 h => ?_)
      · refine g_aload_n (pc := 41) (j := 0) (dk d_mR_person 23 rfl) rfl (by decide) ?_
        refine g_iload_n (pc := 42) (j := 1) (dk d_mR_person 24 rfl) rfl ?_
        refine g_bipush (pc := 43) (dk d_mR_person 25 rfl) (by decide) ?_
        refine g_idiv (pc := 45) (dk d_mR_person 26 rfl) (by decide) ?_
        refine g_iload_n (pc := 46) (j := 1) (dk d_mR_person 27 rfl) rfl ?_
        refine g_bipush (pc := 47) (dk d_mR_person 28 rfl) (by decide) ?_
        refine g_idiv (pc := 49) (dk d_mR_person 29 rfl) (by decide) ?_
        refine g_bipush (pc := 50) (dk d_mR_person 30 rfl) (by decide) ?_
        refine g_irem (pc := 52) (dk d_mR_person 31 rfl) (by decide) ?_
        refine g_iload_n (pc := 53) (j := 1) (dk d_mR_person 32 rfl) rfl ?_
        refine g_bipush (pc := 54) (dk d_mR_person 33 rfl) (by decide) ?_
        refine g_irem (pc := 56) (dk d_mR_person 34 rfl) (by decide) ?_
        refine h_callVi (d := d + 2) (pc := 57) (na := 3) (av := [pI (w32 (Int.tdiv a1 100)), pI (Int.tmod (w32 (Int.tdiv a1 10)) 10), pI (Int.tmod a1 10)]) (k0 := 46) po_46 ⟨_, rfl⟩ ⟨rfl, rfl⟩ (dk d_mR_person 35 rfl) lk_R_154 vm_mR_addPerson rfl rfl (Nat.le_of_ble_eq_true rfl) h (fun r5 u4 hq => kR_addPerson E (d + 1) hq) (fun r5 u4 hb6 h => ?_)
        exact h_iret (pc := 60) rfl (dk d_mR_person 36 rfl) h
      · refine g_bipush (pc := 36) (dk d_mR_person 21 rfl) (by decide) ?_
        refine g_goto (pc := 38) (tgt := 60) (dk d_mR_person 22 rfl) rfl ?_
        exact h_iret (pc := 60) rfl (dk d_mR_person 36 rfl) h
    · refine g_iconst (pc := 25) (dk d_mR_person 15 rfl) (by decide) ?_
      exact h_iret (pc := 26) rfl (dk d_mR_person 16 rfl) h
set_option maxRecDepth 100000 in
set_option maxHeartbeats 4000000 in
theorem kR_person (E : Nat × (Int → Int)) (d : Nat) {a1 : Int} {w w1 : WD} {r : Int} (h : fR_person a1 w = some (r, w1)) : CTi E mR_person (d + 3) [pR 46, pI a1] w RF NN r w1 RF NN := by
  exact CTi_of (by decide +kernel) (Nat.le_of_ble_eq_true rfl) (Or.inl rfl) (gR_person (res := (r, w1)) E d a1 w h)
def fR_isShelf (a0 : Int) (w : WD) : Option (Int × WD) := ci (fR_in a0 0 5 w) <| fun (r2 : Int) (u1 : WD) => some (r2, u1)
set_option maxRecDepth 100000 in
set_option maxHeartbeats 4000000 in
theorem gR_isShelf (E : Nat × (Int → Int)) (d : Nat) {res : Int × WD} (a0 : Int) (w : WD) (h : fR_isShelf a0 w = some res) : G E mR_isShelf (d + 2) 0 [(0, pI a0)] [] w RF NN 0 0 (some (pI res.1), res.2, RF, NN) := by
  unfold fR_isShelf at h
  refine g_iload_n (pc := 0) (j := 0) (dk d_mR_isShelf 0 rfl) rfl ?_
  refine g_iconst (pc := 1) (dk d_mR_isShelf 1 rfl) (by decide) ?_
  refine g_iconst (pc := 2) (dk d_mR_isShelf 2 rfl) (by decide) ?_
  refine h_callSi (d := d + 1) (pc := 3) (na := 3) (av := [pI a0, pI 0, pI 5]) ⟨rfl, rfl⟩ (dk d_mR_isShelf 3 rfl) lk_R_140 vm_mR_in rfl rfl (Nat.le_of_ble_eq_true rfl) h (fun r2 u1 hq => kR_in E (d + 0) hq) (fun r2 u1 hb3 h => ?_)
  exact h_zret (pc := 6) (hb3 rfl) (dk d_mR_isShelf 4 rfl) h
set_option maxRecDepth 100000 in
set_option maxHeartbeats 4000000 in
theorem kR_isShelf (E : Nat × (Int → Int)) (d : Nat) {a0 : Int} {w w1 : WD} {r : Int} (h : fR_isShelf a0 w = some (r, w1)) : CTi E mR_isShelf (d + 2) [pI a0] w RF NN r w1 RF NN := by
  exact CTi_of (by decide +kernel) (Nat.le_of_ble_eq_true rfl) (Or.inr rfl) (gR_isShelf (res := (r, w1)) E d a0 w h)
def fR_people_l58_b (rec : Int → WD → Option (Int × WD)) (y1 : Int) (y2 : Int) (y3 : Int) (x4 : Int) (w : WD) : Option (Int × WD) := if y3 ≤ x4 then (some (y3, w)) else (bv (w64 (y2 + (w32 (3 * x4)))) <| fun (v5_8 : Int) => if v5_8 < 0 then (some (x4, w)) else (ck (0 ≤ y1 ∧ y1 < 6) <| if (w 83 y1) ≤ (w64 (v5_8 + 2)) then (some (x4, w)) else (if (w 46 1) ≠ 6 then (bv (w32 ((w32 (60 * y1)) + (w32 v5_8))) <| fun (v7_9 : Int) => ck (0 ≤ v7_9 ∧ v7_9 < 360) <| ck (0 ≤ (w32 (v7_9 + 1)) ∧ (w32 (v7_9 + 1)) < 360) <| ck (0 ≤ (w32 (v7_9 + 2)) ∧ (w32 (v7_9 + 2)) < 360) <| ci (fR_areSigns (w32 (w 84 v7_9)) (w32 (w 84 (w32 (v7_9 + 1)))) (w32 (w 84 (w32 (v7_9 + 2)))) w) <| fun (r11 : Int) (u10 : WD) => if r11 ≠ 0 then (ck (0 ≤ v7_9 ∧ v7_9 < 360) <| ck (0 ≤ (w32 (v7_9 + 1)) ∧ (w32 (v7_9 + 1)) < 360) <| ck (0 ≤ (w32 (v7_9 + 2)) ∧ (w32 (v7_9 + 2)) < 360) <| ci (fR_addPerson (w32 (u10 84 v7_9)) (w32 (u10 84 (w32 (v7_9 + 1)))) (w32 (u10 84 (w32 (v7_9 + 2)))) u10) <| fun (r14 : Int) (u13 : WD) => bv (w32 (x4 + 1)) <| fun (v4_16 : Int) => rec v4_16 u13) else (some (x4, u10))) else (some (x4, w)))))
def fR_people_l58 (y1 : Int) (y2 : Int) (y3 : Int) : Nat → Int → WD → Option (Int × WD)
  | 0 => fun _ _ => none
  | k + 1 => fR_people_l58_b ( fR_people_l58 y1 y2 y3 k) y1 y2 y3
set_option maxRecDepth 100000 in
set_option maxHeartbeats 4000000 in
theorem fR_people_l58_b_ok (E : Nat × (Int → Int)) (d : Nat) {res : Int × WD} {rec : Int → WD → Option (Int × WD)} (y1 : Int) (y2 : Int) (y3 : Int) (hrec : ∀ (x4 : Int) (w : WD), rec x4 w = some res → G E mR_people (d + 3) 58 [(0, pR 46), (1, pI y1), (2, pI y2), (3, pI y3), (4, pI x4)] [] w RF NN 0 0 (some (pI res.1), res.2, RF, NN)) (x4 : Int) (w : WD) (h : fR_people_l58_b rec y1 y2 y3 x4 w = some res) : G E mR_people (d + 3) 58 [(0, pR 46), (1, pI y1), (2, pI y2), (3, pI y3), (4, pI x4)] [] w RF NN 0 0 (some (pI res.1), res.2, RF, NN) := by
  unfold fR_people_l58_b at h
  refine g_iload (pc := 58) (j := 4) (dk d_mR_people 34 rfl) rfl ?_
  refine g_iload_n (pc := 60) (j := 3) (dk d_mR_people 35 rfl) rfl ?_
  refine h_icmp_ge (pc := 61) (tgt := 196) (dk d_mR_people 36 rfl) rfl h (fun hc21 h => ?_) (fun hc21 h => ?_)
  · refine g_iload_n (pc := 196) (j := 3) (dk d_mR_people 119 rfl) rfl ?_
    exact h_iret (pc := 197) rfl (dk d_mR_people_1 0 rfl) h
  · refine g_iload_n (pc := 64) (j := 2) (dk d_mR_people 37 rfl) rfl ?_
    refine g_i2l (pc := 65) (dk d_mR_people 38 rfl) ?_
    refine g_iconst (pc := 66) (dk d_mR_people 39 rfl) (by decide) ?_
    refine g_iload (pc := 67) (j := 4) (dk d_mR_people 40 rfl) rfl ?_
    refine g_imul (pc := 69) (dk d_mR_people 41 rfl) ?_
    refine g_i2l (pc := 70) (dk d_mR_people 42 rfl) ?_
    refine g_ladd (pc := 71) (dk d_mR_people 43 rfl) ?_
    refine h_bvL h (fun v5_8 h => ?_)
    refine g_lstore (pc := 72) (l' := [(5, pL v5_8), (0, pR 46), (1, pI y1), (2, pI y2), (3, pI y3), (4, pI x4)]) (dk d_mR_people 44 rfl) (Nat.le_of_ble_eq_true rfl) rfl ?_
    refine g_lload (pc := 74) (j := 0) (dk d_mR_people 45 rfl) rfl ?_
    refine g_lconst0 (pc := 76) (dk d_mR_people 46 rfl) ?_
    refine h_lcmp_lt (pc := 77) (tgt := 107) (dk d_mR_people 47 rfl) (dk d_mR_people 48 rfl) rfl h (fun hc20 h => ?_) (fun hc20 h => ?_)
    · refine g_iload (pc := 107) (j := 5) (dk d_mR_people 63 rfl) rfl ?_
      exact h_iret (pc := 109) rfl (dk d_mR_people 64 rfl) h
    · refine g_lload (pc := 81) (j := 0) (dk d_mR_people 49 rfl) rfl ?_
      refine g_ldc2 (pc := 83) (u := 2) ck_R_161 (by decide) (dk d_mR_people 50 rfl) ?_
      refine g_ladd (pc := 86) (dk d_mR_people 51 rfl) ?_
      refine g_aload_n (pc := 87) (j := 1) (dk d_mR_people 52 rfl) rfl (by decide) ?_
      refine g_getR (pc := 88) (a := 83) rfl fp_R_124 po_46 (dk d_mR_people 53 rfl) ?_
      refine g_iload_n (pc := 91) (j := 2) (dk d_mR_people 54 rfl) rfl ?_
      refine h_iald (pc := 92) (B := 6) pa_83 rfl (dk d_mR_people 55 rfl) h (fun h => ?_)
      refine g_i2l (pc := 93) (dk d_mR_people 56 rfl) ?_
      refine h_lcmp_ge (pc := 94) (tgt := 107) (dk d_mR_people 57 rfl) (dk d_mR_people 58 rfl) rfl h (fun hc19 h => ?_) (fun hc19 h => ?_)
      · refine g_iload (pc := 107) (j := 5) (dk d_mR_people 63 rfl) rfl ?_
        exact h_iret (pc := 109) rfl (dk d_mR_people 64 rfl) h
      · refine g_aload_n (pc := 98) (j := 1) (dk d_mR_people 59 rfl) rfl (by decide) ?_
        refine g_getI (pc := 99) fp_R_137 po_46 (dk d_mR_people 60 rfl) ?_
        refine g_bipush (pc := 102) (dk d_mR_people 61 rfl) (by decide) ?_
        refine h_icmp_ne (pc := 104) (tgt := 110) (dk d_mR_people 62 rfl) rfl h (fun hc18 h => ?_) (fun hc18 h => ?_)
        · refine g_bipush (pc := 110) (dk d_mR_people 65 rfl) (by decide) ?_
          refine g_iload_n (pc := 112) (j := 2) (dk d_mR_people 66 rfl) rfl ?_
          refine g_imul (pc := 113) (dk d_mR_people 67 rfl) ?_
          refine g_lload (pc := 114) (j := 0) (dk d_mR_people 68 rfl) rfl ?_
          refine g_l2i (pc := 116) (dk d_mR_people 69 rfl) ?_
          refine g_iadd (pc := 117) (dk d_mR_people 70 rfl) ?_
          refine h_bvI h (fun v7_9 h => ?_)
          refine g_istore (pc := 118) (l' := [(7, pI v7_9), (5, pL v5_8), (0, pR 46), (1, pI y1), (2, pI y2), (3, pI y3), (4, pI x4)]) (dk d_mR_people 71 rfl) (Nat.le_of_ble_eq_true rfl) rfl ?_
          refine g_aload_n (pc := 120) (j := 2) (dk d_mR_people 72 rfl) rfl (by decide) ?_
          refine g_getR (pc := 121) (a := 84) rfl fp_R_127 po_46 (dk d_mR_people 73 rfl) ?_
          refine g_iload (pc := 124) (j := 0) (dk d_mR_people 74 rfl) rfl ?_
          refine h_lald (pc := 126) (B := 360) pa_84 rfl (dk d_mR_people 75 rfl) h (fun h => ?_)
          refine g_l2i (pc := 127) (dk d_mR_people 76 rfl) ?_
          refine g_aload_n (pc := 128) (j := 2) (dk d_mR_people 77 rfl) rfl (by decide) ?_
          refine g_getR (pc := 129) (a := 84) rfl fp_R_127 po_46 (dk d_mR_people 78 rfl) ?_
          refine g_iload (pc := 132) (j := 0) (dk d_mR_people 79 rfl) rfl ?_
          refine g_iconst (pc := 134) (dk d_mR_people 80 rfl) (by decide) ?_
          refine g_iadd (pc := 135) (dk d_mR_people 81 rfl) ?_
          refine h_lald (pc := 136) (B := 360) pa_84 rfl (dk d_mR_people 82 rfl) h (fun h => ?_)
          refine g_l2i (pc := 137) (dk d_mR_people 83 rfl) ?_
          refine g_aload_n (pc := 138) (j := 2) (dk d_mR_people 84 rfl) rfl (by decide) ?_
          refine g_getR (pc := 139) (a := 84) rfl fp_R_127 po_46 (dk d_mR_people 85 rfl) ?_
          refine g_iload (pc := 142) (j := 0) (dk d_mR_people 86 rfl) rfl ?_
          refine g_iconst (pc := 144) (dk d_mR_people 87 rfl) (by decide) ?_
          refine g_iadd (pc := 145) (dk d_mR_people 88 rfl) ?_
          refine h_lald (pc := 146) (B := 360) pa_84 rfl (dk d_mR_people 89 rfl) h (fun h => ?_)
          refine g_l2i (pc := 147) (dk d_mR_people 90 rfl) ?_
          refine h_callSi (d := d + 2) (pc := 148) (na := 3) (av := [pI (w32 (w 84 v7_9)), pI (w32 (w 84 (w32 (v7_9 + 1)))), pI (w32 (w 84 (w32 (v7_9 + 2))))]) ⟨rfl, rfl⟩ (dk d_mR_people 91 rfl) lk_R_151 vm_mR_areSigns rfl rfl (Nat.le_of_ble_eq_true rfl) h (fun r11 u10 hq => kR_areSigns E (d + 0) hq) (fun r11 u10 hb12 h => ?_)
          refine h_if_ne (pc := 151) (tgt := 157) (dk d_mR_people 92 rfl) rfl h (fun hc17 h => ?_) (fun hc17 h => ?_)
          · refine g_aload_n (pc := 157) (j := 2) (dk d_mR_people 95 rfl) rfl (by decide) ?_
            refine g_aload_n (pc := 158) (j := 2) (dk d_mR_people 96 rfl) rfl (by decide) ?_
            refine g_getR (pc := 159) (a := 84) rfl fp_R_127 po_46 (dk d_mR_people 97 rfl) ?_
            refine g_iload (pc := 162) (j := 0) (dk d_mR_people 98 rfl) rfl ?_
            refine h_lald (pc := 164) (B := 360) pa_84 rfl (dk d_mR_people 99 rfl) h (fun h => ?_)
            refine g_l2i (pc := 165) (dk d_mR_people 100 rfl) ?_
            refine g_aload_n (pc := 166) (j := 2) (dk d_mR_people 101 rfl) rfl (by decide) ?_
            refine g_getR (pc := 167) (a := 84) rfl fp_R_127 po_46 (dk d_mR_people 102 rfl) ?_
            refine g_iload (pc := 170) (j := 0) (dk d_mR_people 103 rfl) rfl ?_
            refine g_iconst (pc := 172) (dk d_mR_people 104 rfl) (by decide) ?_
            refine g_iadd (pc := 173) (dk d_mR_people 105 rfl) ?_
            refine h_lald (pc := 174) (B := 360) pa_84 rfl (dk d_mR_people 106 rfl) h (fun h => ?_)
            refine g_l2i (pc := 175) (dk d_mR_people 107 rfl) ?_
            refine g_aload_n (pc := 176) (j := 2) (dk d_mR_people 108 rfl) rfl (by decide) ?_
            refine g_getR (pc := 177) (a := 84) rfl fp_R_127 po_46 (dk d_mR_people 109 rfl) ?_
            refine g_iload (pc := 180) (j := 0) (dk d_mR_people 110 rfl) rfl ?_
            refine g_iconst (pc := 182) (dk d_mR_people 111 rfl) (by decide) ?_
            refine g_iadd (pc := 183) (dk d_mR_people 112 rfl) ?_
            refine h_lald (pc := 184) (B := 360) pa_84 rfl (dk d_mR_people 113 rfl) h (fun h => ?_)
            refine g_l2i (pc := 185) (dk d_mR_people 114 rfl) ?_
            refine h_callVi (d := d + 2) (pc := 186) (na := 3) (av := [pI (w32 (u10 84 v7_9)), pI (w32 (u10 84 (w32 (v7_9 + 1)))), pI (w32 (u10 84 (w32 (v7_9 + 2))))]) (k0 := 46) po_46 ⟨_, rfl⟩ ⟨rfl, rfl⟩ (dk d_mR_people 115 rfl) lk_R_154 vm_mR_addPerson rfl rfl (Nat.le_of_ble_eq_true rfl) h (fun r14 u13 hq => kR_addPerson E (d + 1) hq) (fun r14 u13 hb15 h => ?_)
            refine g_pop (pc := 189) (dk d_mR_people 116 rfl) rfl ?_
            refine h_iinc (pc := 190) (j := 6) (dk d_mR_people 117 rfl) rfl (by decide) (Nat.le_of_ble_eq_true rfl) h (fun v4_16 h => ?_)
            refine g_loc (l' := [(4, pI v4_16), (7, pI v7_9), (5, pL v5_8), (0, pR 46), (1, pI y1), (2, pI y2), (3, pI y3)]) rfl ?_
            refine g_goto (pc := 193) (tgt := 58) (dk d_mR_people 118 rfl) rfl ?_
            refine g_pick [3, 4, 5, 6, 0] rfl (l' := [(0, pR 46), (1, pI y1), (2, pI y2), (3, pI y3), (4, pI v4_16)]) rfl ?_
            exact hrec _ _ h
          · refine g_iload (pc := 154) (j := 6) (dk d_mR_people 93 rfl) rfl ?_
            exact h_iret (pc := 156) rfl (dk d_mR_people 94 rfl) h
        · refine g_iload (pc := 107) (j := 5) (dk d_mR_people 63 rfl) rfl ?_
          exact h_iret (pc := 109) rfl (dk d_mR_people 64 rfl) h
set_option maxRecDepth 100000 in
set_option maxHeartbeats 4000000 in
theorem fR_people_l58_ok (E : Nat × (Int → Int)) (d : Nat) {res : Int × WD} (y1 : Int) (y2 : Int) (y3 : Int) : ∀ (k : Nat) (x4 : Int) (w : WD), fR_people_l58 y1 y2 y3 k x4 w = some res → G E mR_people (d + 3) 58 [(0, pR 46), (1, pI y1), (2, pI y2), (3, pI y3), (4, pI x4)] [] w RF NN 0 0 (some (pI res.1), res.2, RF, NN) := by
  intro k
  induction k with
  | zero =>
    intro x4 w h
    exact no_e h
  | succ k ih =>
    intro x4 w h
    exact fR_people_l58_b_ok E d y1 y2 y3 ih x4 w h
def fR_people (a1 : Int) (a2 : Int) (a3 : Int) (w : WD) : Option (Int × WD) := ci (fR_isShelf a1 w) <| fun (r2 : Int) (u1 : WD) => if r2 = 0 then (some ((-1), u1)) else (ci (fR_in a3 1 6 u1) <| fun (r5 : Int) (u4 : WD) => if r5 ≠ 0 then (ck (0 ≤ a1 ∧ a1 < 6) <| jn (β := WD → Option (Int × WD)) (fun (u7 : WD) => ck (0 ≤ a1 ∧ a1 < 6) <| if (u7 82 a1) ≠ (-1) then (fR_people_l58 a1 a2 a3 FU 0 u7) else (some (0, u7))) <| fun J23 => if (u4 82 a1) = (-1) then (J23 u4) else (ck (0 ≤ a1 ∧ a1 < 6) <| if (u4 82 a1) = (-2) then (J23 u4) else (some ((-12), u4)))) else (some ((-1), u4)))
set_option maxRecDepth 100000 in
set_option maxHeartbeats 4000000 in
theorem gR_people (E : Nat × (Int → Int)) (d : Nat) {res : Int × WD} (a1 : Int) (a2 : Int) (a3 : Int) (w : WD) (h : fR_people a1 a2 a3 w = some res) : G E mR_people (d + 3) 0 [(0, pR 46), (1, pI a1), (2, pI a2), (3, pI a3)] [] w RF NN 0 0 (some (pI res.1), res.2, RF, NN) := by
  unfold fR_people at h
  refine g_iload_n (pc := 0) (j := 1) (dk d_mR_people 0 rfl) rfl ?_
  refine h_callSi (d := d + 2) (pc := 1) (na := 1) (av := [pI a1]) ⟨rfl, rfl⟩ (dk d_mR_people 1 rfl) lk_R_158 vm_mR_isShelf rfl rfl (Nat.le_of_ble_eq_true rfl) h (fun r2 u1 hq => kR_isShelf E (d + 0) hq) (fun r2 u1 hb3 h => ?_)
  refine h_if_eq (pc := 4) (tgt := 17) (dk d_mR_people 2 rfl) rfl h (fun hc27 h => ?_) (fun hc27 h => ?_)
  · refine g_iconst (pc := 17) (dk d_mR_people 8 rfl) (by decide) ?_
    exact h_iret (pc := 18) rfl (dk d_mR_people 9 rfl) h
  · refine g_iload_n (pc := 7) (j := 3) (dk d_mR_people 3 rfl) rfl ?_
    refine g_iconst (pc := 8) (dk d_mR_people 4 rfl) (by decide) ?_
    refine g_bipush (pc := 9) (dk d_mR_people 5 rfl) (by decide) ?_
    refine h_callSi (d := d + 2) (pc := 11) (na := 3) (av := [pI a3, pI 1, pI 6]) ⟨rfl, rfl⟩ (dk d_mR_people 6 rfl) lk_R_140 vm_mR_in rfl rfl (Nat.le_of_ble_eq_true rfl) h (fun r5 u4 hq => kR_in E (d + 1) hq) (fun r5 u4 hb6 h => ?_)
    refine h_if_ne (pc := 14) (tgt := 19) (dk d_mR_people 7 rfl) rfl h (fun hc26 h => ?_) (fun hc26 h => ?_)
    · refine g_aload_n (pc := 19) (j := 0) (dk d_mR_people 10 rfl) rfl (by decide) ?_
      refine g_getR (pc := 20) (a := 82) rfl fp_R_121 po_46 (dk d_mR_people 11 rfl) ?_
      refine g_iload_n (pc := 23) (j := 1) (dk d_mR_people 12 rfl) rfl ?_
      refine h_iald (pc := 24) (B := 6) pa_82 rfl (dk d_mR_people 13 rfl) h (fun h => ?_)
      refine g_iconst (pc := 25) (dk d_mR_people 14 rfl) (by decide) ?_
      refine jn_e (fun J => ∀ (u7 : WD), J u7 = some res → G E mR_people (d + 3) 43 [(0, pR 46), (1, pI a1), (2, pI a2), (3, pI a3)] [] u7 RF NN 0 0 (some (pI res.1), res.2, RF, NN)) h (fun u7 h => ?_) (fun J23 hJ23 h => ?_)
      · refine g_aload_n (pc := 43) (j := 0) (dk d_mR_people 24 rfl) rfl (by decide) ?_
        refine g_getR (pc := 44) (a := 82) rfl fp_R_121 po_46 (dk d_mR_people 25 rfl) ?_
        refine g_iload_n (pc := 47) (j := 1) (dk d_mR_people 26 rfl) rfl ?_
        refine h_iald (pc := 48) (B := 6) pa_82 rfl (dk d_mR_people 27 rfl) h (fun h => ?_)
        refine g_iconst (pc := 49) (dk d_mR_people 28 rfl) (by decide) ?_
        refine h_icmp_ne (pc := 50) (tgt := 55) (dk d_mR_people 29 rfl) rfl h (fun hc22 h => ?_) (fun hc22 h => ?_)
        · refine g_iconst (pc := 55) (dk d_mR_people 32 rfl) (by decide) ?_
          refine g_istore (pc := 56) (l' := [(4, pI 0), (0, pR 46), (1, pI a1), (2, pI a2), (3, pI a3)]) (dk d_mR_people 33 rfl) (Nat.le_of_ble_eq_true rfl) rfl ?_
          refine g_pick [1, 2, 3, 4, 0] rfl (l' := [(0, pR 46), (1, pI a1), (2, pI a2), (3, pI a3), (4, pI 0)]) rfl ?_
          refine fR_people_l58_ok E d a1 a2 a3 FU _  _ h
        · refine g_iconst (pc := 53) (dk d_mR_people 30 rfl) (by decide) ?_
          exact h_iret (pc := 54) rfl (dk d_mR_people 31 rfl) h
      · refine h_icmp_eq (pc := 26) (tgt := 43) (dk d_mR_people 15 rfl) rfl h (fun hc25 h => ?_) (fun hc25 h => ?_)
        · exact hJ23 _ h
        · refine g_aload_n (pc := 29) (j := 0) (dk d_mR_people 16 rfl) rfl (by decide) ?_
          refine g_getR (pc := 30) (a := 82) rfl fp_R_121 po_46 (dk d_mR_people 17 rfl) ?_
          refine g_iload_n (pc := 33) (j := 1) (dk d_mR_people 18 rfl) rfl ?_
          refine h_iald (pc := 34) (B := 6) pa_82 rfl (dk d_mR_people 19 rfl) h (fun h => ?_)
          refine g_bipush (pc := 35) (dk d_mR_people 20 rfl) (by decide) ?_
          refine h_icmp_eq (pc := 37) (tgt := 43) (dk d_mR_people 21 rfl) rfl h (fun hc24 h => ?_) (fun hc24 h => ?_)
          · exact hJ23 _ h
          · refine g_bipush (pc := 40) (dk d_mR_people 22 rfl) (by decide) ?_
            exact h_iret (pc := 42) rfl (dk d_mR_people 23 rfl) h
    · refine g_iconst (pc := 17) (dk d_mR_people 8 rfl) (by decide) ?_
      exact h_iret (pc := 18) rfl (dk d_mR_people 9 rfl) h
set_option maxRecDepth 100000 in
set_option maxHeartbeats 4000000 in
theorem kR_people (E : Nat × (Int → Int)) (d : Nat) {a1 : Int} {a2 : Int} {a3 : Int} {w w1 : WD} {r : Int} (h : fR_people a1 a2 a3 w = some (r, w1)) : CTi E mR_people (d + 3) [pR 46, pI a1, pI a2, pI a3] w RF NN r w1 RF NN := by
  exact CTi_of (by decide +kernel) (Nat.le_of_ble_eq_true rfl) (Or.inl rfl) (gR_people (res := (r, w1)) E d a1 a2 a3 w h)
def fR_mask_l13_b (rec : Int → WD → Option (Int × WD)) (K0 : WD → Option (Int × WD)) (x1 : Int) (w : WD) : Option (Int × WD) := if 3 ≤ x1 then (K0 w) else (ck (0 ≤ (w32 ((w32 (3 * (w 46 4))) + x1)) ∧ (w32 ((w32 (3 * (w 46 4))) + x1)) < 15) <| bw (up w 49 (w32 ((w32 (3 * (w 46 4))) + x1)) (-1)) <| fun (u1 : WD) => bv (w32 (x1 + 1)) <| fun (v1_2 : Int) => rec v1_2 u1)
def fR_mask_l13 (K0 : WD → Option (Int × WD)) : Nat → Int → WD → Option (Int × WD)
  | 0 => fun _ _ => none
  | k + 1 => fR_mask_l13_b ( fR_mask_l13 K0 k) K0
set_option maxRecDepth 100000 in
set_option maxHeartbeats 4000000 in
theorem fR_mask_l13_b_ok (E : Nat × (Int → Int)) (d : Nat) {res : Int × WD} {rec : Int → WD → Option (Int × WD)} (K0 : WD → Option (Int × WD)) (hrec : ∀ (x1 : Int) (w : WD), rec x1 w = some res → G E mR_mask (d + 1) 13 [(0, pR 46), (1, pI x1)] [] w RF NN 0 0 (some (pI res.1), res.2, RF, NN)) (hK0 : ∀ (w : WD), K0 w = some res → G E mR_mask (d + 1) 38 [(0, pR 46)] [] w RF NN 0 0 (some (pI res.1), res.2, RF, NN)) (x1 : Int) (w : WD) (h : fR_mask_l13_b rec K0 x1 w = some res) : G E mR_mask (d + 1) 13 [(0, pR 46), (1, pI x1)] [] w RF NN 0 0 (some (pI res.1), res.2, RF, NN) := by
  unfold fR_mask_l13_b at h
  refine g_iload_n (pc := 13) (j := 1) (dk d_mR_mask 8 rfl) rfl ?_
  refine g_iconst (pc := 14) (dk d_mR_mask 9 rfl) (by decide) ?_
  refine h_icmp_ge (pc := 15) (tgt := 38) (dk d_mR_mask 10 rfl) rfl h (fun hc3 h => ?_) (fun hc3 h => ?_)
  · refine g_pick [0] rfl (l' := [(0, pR 46)]) rfl ?_
    exact hK0 _ h
  · refine g_aload_n (pc := 18) (j := 0) (dk d_mR_mask 11 rfl) rfl (by decide) ?_
    refine g_getR (pc := 19) (a := 49) rfl fp_R_18 po_46 (dk d_mR_mask 12 rfl) ?_
    refine g_iconst (pc := 22) (dk d_mR_mask 13 rfl) (by decide) ?_
    refine g_aload_n (pc := 23) (j := 0) (dk d_mR_mask 14 rfl) rfl (by decide) ?_
    refine g_getI (pc := 24) fp_R_144 po_46 (dk d_mR_mask 15 rfl) ?_
    refine g_imul (pc := 27) (dk d_mR_mask 16 rfl) ?_
    refine g_iload_n (pc := 28) (j := 1) (dk d_mR_mask 17 rfl) rfl ?_
    refine g_iadd (pc := 29) (dk d_mR_mask 18 rfl) ?_
    refine g_iconst (pc := 30) (dk d_mR_mask 19 rfl) (by decide) ?_
    refine h_iast (pc := 31) (B := 15) pa_49 rfl (dk d_mR_mask 20 rfl) h (fun u1 h => ?_)
    refine h_iinc (pc := 32) (j := 1) (dk d_mR_mask 21 rfl) rfl (by decide) (Nat.le_of_ble_eq_true rfl) h (fun v1_2 h => ?_)
    refine g_loc (l' := [(1, pI v1_2), (0, pR 46)]) rfl ?_
    refine g_goto (pc := 35) (tgt := 13) (dk d_mR_mask 22 rfl) rfl ?_
    refine g_pick [1, 0] rfl (l' := [(0, pR 46), (1, pI v1_2)]) rfl ?_
    exact hrec _ _ h
set_option maxRecDepth 100000 in
set_option maxHeartbeats 4000000 in
theorem fR_mask_l13_ok (E : Nat × (Int → Int)) (d : Nat) {res : Int × WD} (K0 : WD → Option (Int × WD)) (hK0 : ∀ (w : WD), K0 w = some res → G E mR_mask (d + 1) 38 [(0, pR 46)] [] w RF NN 0 0 (some (pI res.1), res.2, RF, NN)) : ∀ (k : Nat) (x1 : Int) (w : WD), fR_mask_l13 K0 k x1 w = some res → G E mR_mask (d + 1) 13 [(0, pR 46), (1, pI x1)] [] w RF NN 0 0 (some (pI res.1), res.2, RF, NN) := by
  intro k
  induction k with
  | zero =>
    intro x1 w h
    exact no_e h
  | succ k ih =>
    intro x1 w h
    exact fR_mask_l13_b_ok E d K0 ih hK0 x1 w h
def fR_mask (w : WD) : Option (Int × WD) := if (w 46 4) ≠ 5 then (fR_mask_l13 (fun (u4 : WD) => ck (0 ≤ (u4 46 4) ∧ (u4 46 4) < 5) <| bw (up u4 50 (u4 46 4) 127) <| fun (u5 : WD) => ck (0 ≤ (u5 46 4) ∧ (u5 46 4) < 5) <| bw (up u5 73 (u5 46 4) (-2)) <| fun (u6 : WD) => ck (0 ≤ (u6 46 4) ∧ (u6 46 4) < 5) <| bw (up u6 74 (u6 46 4) (0 % 2)) <| fun (u7 : WD) => bw (up u7 46 4 (w32 ((u7 46 4) + 1))) <| fun (u8 : WD) => some ((w32 ((u8 46 4) - 1)), u8)) FU 0 w) else (some ((-3), w))
set_option maxRecDepth 100000 in
set_option maxHeartbeats 4000000 in
theorem gR_mask (E : Nat × (Int → Int)) (d : Nat) {res : Int × WD} (w : WD) (h : fR_mask w = some res) : G E mR_mask (d + 1) 0 [(0, pR 46)] [] w RF NN 0 0 (some (pI res.1), res.2, RF, NN) := by
  unfold fR_mask at h
  refine g_aload_n (pc := 0) (j := 0) (dk d_mR_mask 0 rfl) rfl (by decide) ?_
  refine g_getI (pc := 1) fp_R_144 po_46 (dk d_mR_mask 1 rfl) ?_
  refine g_iconst (pc := 4) (dk d_mR_mask 2 rfl) (by decide) ?_
  refine h_icmp_ne (pc := 5) (tgt := 11) (dk d_mR_mask 3 rfl) rfl h (fun hc9 h => ?_) (fun hc9 h => ?_)
  · refine g_iconst (pc := 11) (dk d_mR_mask 6 rfl) (by decide) ?_
    refine g_istore_n (pc := 12) (l' := [(1, pI 0), (0, pR 46)]) (dk d_mR_mask 7 rfl) (Nat.le_of_ble_eq_true rfl) rfl ?_
    refine g_pick [1, 0] rfl (l' := [(0, pR 46), (1, pI 0)]) rfl ?_
    refine fR_mask_l13_ok E d _  (fun u4 h => ?_) FU _  _ h
    · refine g_aload_n (pc := 38) (j := 0) (dk d_mR_mask 23 rfl) rfl (by decide) ?_
      refine g_getR (pc := 39) (a := 50) rfl fp_R_21 po_46 (dk d_mR_mask 24 rfl) ?_
      refine g_aload_n (pc := 42) (j := 0) (dk d_mR_mask 25 rfl) rfl (by decide) ?_
      refine g_getI (pc := 43) fp_R_144 po_46 (dk d_mR_mask 26 rfl) ?_
      refine g_bipush (pc := 46) (dk d_mR_mask 27 rfl) (by decide) ?_
      refine h_iast (pc := 48) (B := 5) pa_50 rfl (dk d_mR_mask 28 rfl) h (fun u5 h => ?_)
      refine g_aload_n (pc := 49) (j := 0) (dk d_mR_mask 29 rfl) rfl (by decide) ?_
      refine g_getR (pc := 50) (a := 73) rfl fp_R_93 po_46 (dk d_mR_mask 30 rfl) ?_
      refine g_aload_n (pc := 53) (j := 0) (dk d_mR_mask 31 rfl) rfl (by decide) ?_
      refine g_getI (pc := 54) fp_R_144 po_46 (dk d_mR_mask 32 rfl) ?_
      refine g_bipush (pc := 57) (dk d_mR_mask 33 rfl) (by decide) ?_
      refine h_iast (pc := 59) (B := 5) pa_73 rfl (dk d_mR_mask 34 rfl) h (fun u6 h => ?_)
      refine g_aload_n (pc := 60) (j := 0) (dk d_mR_mask 35 rfl) rfl (by decide) ?_
      refine g_getR (pc := 61) (a := 74) rfl fp_R_96 po_46 (dk d_mR_mask 36 rfl) ?_
      refine g_aload_n (pc := 64) (j := 0) (dk d_mR_mask 37 rfl) rfl (by decide) ?_
      refine g_getI (pc := 65) fp_R_144 po_46 (dk d_mR_mask 38 rfl) ?_
      refine g_iconst (pc := 68) (dk d_mR_mask 39 rfl) (by decide) ?_
      refine h_zast (pc := 69) (B := 5) pa_74 rfl (dk d_mR_mask 40 rfl) h (fun u7 h => ?_)
      refine g_aload_n (pc := 70) (j := 0) (dk d_mR_mask 41 rfl) rfl (by decide) ?_
      refine g_dup (pc := 71) (dk d_mR_mask 42 rfl) rfl ?_
      refine g_getI (pc := 72) fp_R_144 po_46 (dk d_mR_mask 43 rfl) ?_
      refine g_iconst (pc := 75) (dk d_mR_mask 44 rfl) (by decide) ?_
      refine g_iadd (pc := 76) (dk d_mR_mask 45 rfl) ?_
      refine h_putI (pc := 77) fp_R_144 po_46 (dk d_mR_mask 46 rfl) h (fun u8 h => ?_)
      refine g_aload_n (pc := 80) (j := 0) (dk d_mR_mask 47 rfl) rfl (by decide) ?_
      refine g_getI (pc := 81) fp_R_144 po_46 (dk d_mR_mask 48 rfl) ?_
      refine g_iconst (pc := 84) (dk d_mR_mask 49 rfl) (by decide) ?_
      refine g_isub (pc := 85) (dk d_mR_mask 50 rfl) ?_
      exact h_iret (pc := 86) rfl (dk d_mR_mask 51 rfl) h
  · refine g_bipush (pc := 8) (dk d_mR_mask 4 rfl) (by decide) ?_
    exact h_iret (pc := 10) rfl (dk d_mR_mask 5 rfl) h
set_option maxRecDepth 100000 in
set_option maxHeartbeats 4000000 in
theorem kR_mask (E : Nat × (Int → Int)) (d : Nat) {w w1 : WD} {r : Int} (h : fR_mask w = some (r, w1)) : CTi E mR_mask (d + 1) [pR 46] w RF NN r w1 RF NN := by
  exact CTi_of (by decide +kernel) (Nat.le_of_ble_eq_true rfl) (Or.inl rfl) (gR_mask (res := (r, w1)) E d w h)
def fR_lays (a1 : Int) (a2 : Int) (a3 : Int) (w : WD) : Option WD := if 3 ≤ a1 then (if a1 ≠ 3 then (if 7 ≤ a1 then (if a1 ≠ 7 then (if a1 ≠ 8 then (ck (0 ≤ (w32 (a1 - 9)) ∧ (w32 (a1 - 9)) < 4) <| bw (up w 52 (w32 (a1 - 9)) a3) <| fun (u1 : WD) => some u1) else (ck (0 ≤ a2 ∧ a2 < 3) <| bw (up w 51 a2 a3) <| fun (u2 : WD) => some u2)) else (ck (0 ≤ a2 ∧ a2 < 5) <| bw (up w 50 a2 a3) <| fun (u4 : WD) => some u4)) else (ck (0 ≤ (w32 ((w32 ((w32 (3 * a2)) + a1)) - 4)) ∧ (w32 ((w32 ((w32 (3 * a2)) + a1)) - 4)) < 15) <| bw (up w 49 (w32 ((w32 ((w32 (3 * a2)) + a1)) - 4)) a3) <| fun (u6 : WD) => some u6)) else (ck (0 ≤ a2 ∧ a2 < 6) <| bw (up w 48 a2 a3) <| fun (u8 : WD) => some u8)) else (ck (0 ≤ (w32 ((w32 (3 * a2)) + a1)) ∧ (w32 ((w32 (3 * a2)) + a1)) < 18) <| bw (up w 47 (w32 ((w32 (3 * a2)) + a1)) a3) <| fun (u10 : WD) => some u10)
set_option maxRecDepth 100000 in
set_option maxHeartbeats 4000000 in
theorem gR_lays (E : Nat × (Int → Int)) (d : Nat) {res : WD} (a1 : Int) (a2 : Int) (a3 : Int) (w : WD) (h : fR_lays a1 a2 a3 w = some res) : G E mR_lays (d + 1) 0 [(0, pR 46), (1, pI a1), (2, pI a2), (3, pI a3)] [] w RF NN 0 0 (none, res, RF, NN) := by
  unfold fR_lays at h
  refine g_iload_n (pc := 0) (j := 1) (dk d_mR_lays 0 rfl) rfl ?_
  refine g_iconst (pc := 1) (dk d_mR_lays 1 rfl) (by decide) ?_
  refine h_icmp_ge (pc := 2) (tgt := 19) (dk d_mR_lays 2 rfl) rfl h (fun hc11 h => ?_) (fun hc11 h => ?_)
  · refine g_iload_n (pc := 19) (j := 1) (dk d_mR_lays 13 rfl) rfl ?_
    refine g_iconst (pc := 20) (dk d_mR_lays 14 rfl) (by decide) ?_
    refine h_icmp_ne (pc := 21) (tgt := 34) (dk d_mR_lays 15 rfl) rfl h (fun hc9 h => ?_) (fun hc9 h => ?_)
    · refine g_iload_n (pc := 34) (j := 1) (dk d_mR_lays 22 rfl) rfl ?_
      refine g_bipush (pc := 35) (dk d_mR_lays 23 rfl) (by decide) ?_
      refine h_icmp_ge (pc := 37) (tgt := 56) (dk d_mR_lays 24 rfl) rfl h (fun hc7 h => ?_) (fun hc7 h => ?_)
      · refine g_iload_n (pc := 56) (j := 1) (dk d_mR_lays 37 rfl) rfl ?_
        refine g_bipush (pc := 57) (dk d_mR_lays 38 rfl) (by decide) ?_
        refine h_icmp_ne (pc := 59) (tgt := 72) (dk d_mR_lays 39 rfl) rfl h (fun hc5 h => ?_) (fun hc5 h => ?_)
        · refine g_iload_n (pc := 72) (j := 1) (dk d_mR_lays 46 rfl) rfl ?_
          refine g_bipush (pc := 73) (dk d_mR_lays 47 rfl) (by decide) ?_
          refine h_icmp_ne (pc := 75) (tgt := 88) (dk d_mR_lays 48 rfl) rfl h (fun hc3 h => ?_) (fun hc3 h => ?_)
          · refine g_aload_n (pc := 88) (j := 0) (dk d_mR_lays 55 rfl) rfl (by decide) ?_
            refine g_getR (pc := 89) (a := 52) rfl fp_R_27 po_46 (dk d_mR_lays 56 rfl) ?_
            refine g_iload_n (pc := 92) (j := 1) (dk d_mR_lays 57 rfl) rfl ?_
            refine g_bipush (pc := 93) (dk d_mR_lays 58 rfl) (by decide) ?_
            refine g_isub (pc := 95) (dk d_mR_lays 59 rfl) ?_
            refine g_iload_n (pc := 96) (j := 3) (dk d_mR_lays 60 rfl) rfl ?_
            refine h_iast (pc := 97) (B := 4) pa_52 rfl (dk d_mR_lays 61 rfl) h (fun u1 h => ?_)
            exact h_vret (pc := 98) (dk d_mR_lays 62 rfl) h
          · refine g_aload_n (pc := 78) (j := 0) (dk d_mR_lays 49 rfl) rfl (by decide) ?_
            refine g_getR (pc := 79) (a := 51) rfl fp_R_24 po_46 (dk d_mR_lays 50 rfl) ?_
            refine g_iload_n (pc := 82) (j := 2) (dk d_mR_lays 51 rfl) rfl ?_
            refine g_iload_n (pc := 83) (j := 3) (dk d_mR_lays 52 rfl) rfl ?_
            refine h_iast (pc := 84) (B := 3) pa_51 rfl (dk d_mR_lays 53 rfl) h (fun u2 h => ?_)
            refine g_goto (pc := 85) (tgt := 98) (dk d_mR_lays 54 rfl) rfl ?_
            exact h_vret (pc := 98) (dk d_mR_lays 62 rfl) h
        · refine g_aload_n (pc := 62) (j := 0) (dk d_mR_lays 40 rfl) rfl (by decide) ?_
          refine g_getR (pc := 63) (a := 50) rfl fp_R_21 po_46 (dk d_mR_lays 41 rfl) ?_
          refine g_iload_n (pc := 66) (j := 2) (dk d_mR_lays 42 rfl) rfl ?_
          refine g_iload_n (pc := 67) (j := 3) (dk d_mR_lays 43 rfl) rfl ?_
          refine h_iast (pc := 68) (B := 5) pa_50 rfl (dk d_mR_lays 44 rfl) h (fun u4 h => ?_)
          refine g_goto (pc := 69) (tgt := 98) (dk d_mR_lays 45 rfl) rfl ?_
          exact h_vret (pc := 98) (dk d_mR_lays 62 rfl) h
      · refine g_aload_n (pc := 40) (j := 0) (dk d_mR_lays 25 rfl) rfl (by decide) ?_
        refine g_getR (pc := 41) (a := 49) rfl fp_R_18 po_46 (dk d_mR_lays 26 rfl) ?_
        refine g_iconst (pc := 44) (dk d_mR_lays 27 rfl) (by decide) ?_
        refine g_iload_n (pc := 45) (j := 2) (dk d_mR_lays 28 rfl) rfl ?_
        refine g_imul (pc := 46) (dk d_mR_lays 29 rfl) ?_
        refine g_iload_n (pc := 47) (j := 1) (dk d_mR_lays 30 rfl) rfl ?_
        refine g_iadd (pc := 48) (dk d_mR_lays 31 rfl) ?_
        refine g_iconst (pc := 49) (dk d_mR_lays 32 rfl) (by decide) ?_
        refine g_isub (pc := 50) (dk d_mR_lays 33 rfl) ?_
        refine g_iload_n (pc := 51) (j := 3) (dk d_mR_lays 34 rfl) rfl ?_
        refine h_iast (pc := 52) (B := 15) pa_49 rfl (dk d_mR_lays 35 rfl) h (fun u6 h => ?_)
        refine g_goto (pc := 53) (tgt := 98) (dk d_mR_lays 36 rfl) rfl ?_
        exact h_vret (pc := 98) (dk d_mR_lays 62 rfl) h
    · refine g_aload_n (pc := 24) (j := 0) (dk d_mR_lays 16 rfl) rfl (by decide) ?_
      refine g_getR (pc := 25) (a := 48) rfl fp_R_15 po_46 (dk d_mR_lays 17 rfl) ?_
      refine g_iload_n (pc := 28) (j := 2) (dk d_mR_lays 18 rfl) rfl ?_
      refine g_iload_n (pc := 29) (j := 3) (dk d_mR_lays 19 rfl) rfl ?_
      refine h_iast (pc := 30) (B := 6) pa_48 rfl (dk d_mR_lays 20 rfl) h (fun u8 h => ?_)
      refine g_goto (pc := 31) (tgt := 98) (dk d_mR_lays 21 rfl) rfl ?_
      exact h_vret (pc := 98) (dk d_mR_lays 62 rfl) h
  · refine g_aload_n (pc := 5) (j := 0) (dk d_mR_lays 3 rfl) rfl (by decide) ?_
    refine g_getR (pc := 6) (a := 47) rfl fp_R_9 po_46 (dk d_mR_lays 4 rfl) ?_
    refine g_iconst (pc := 9) (dk d_mR_lays 5 rfl) (by decide) ?_
    refine g_iload_n (pc := 10) (j := 2) (dk d_mR_lays 6 rfl) rfl ?_
    refine g_imul (pc := 11) (dk d_mR_lays 7 rfl) ?_
    refine g_iload_n (pc := 12) (j := 1) (dk d_mR_lays 8 rfl) rfl ?_
    refine g_iadd (pc := 13) (dk d_mR_lays 9 rfl) ?_
    refine g_iload_n (pc := 14) (j := 3) (dk d_mR_lays 10 rfl) rfl ?_
    refine h_iast (pc := 15) (B := 18) pa_47 rfl (dk d_mR_lays 11 rfl) h (fun u10 h => ?_)
    refine g_goto (pc := 16) (tgt := 98) (dk d_mR_lays 12 rfl) rfl ?_
    exact h_vret (pc := 98) (dk d_mR_lays 62 rfl) h
set_option maxRecDepth 100000 in
set_option maxHeartbeats 4000000 in
theorem kR_lays (E : Nat × (Int → Int)) (d : Nat) {a1 : Int} {a2 : Int} {a3 : Int} {w w1 : WD} (h : fR_lays a1 a2 a3 w = some w1) : CTv E mR_lays (d + 1) [pR 46, pI a1, pI a2, pI a3] w RF NN w1 RF NN := by
  exact CTv_of (by decide +kernel) (Nat.le_of_ble_eq_true rfl) rfl (gR_lays (res := w1) E d a1 a2 a3 w h)
def fR_undo (w : WD) : Option (Int × WD) := if (w 46 9) ≠ 0 then (bw (up w 46 9 (w32 ((w 46 9) - 1))) <| fun (u1 : WD) => bw (up u1 46 10 (w32 ((u1 46 10) + 1))) <| fun (u2 : WD) => ck (0 ≤ (u2 46 9) ∧ (u2 46 9) < 40) <| ck (0 ≤ (u2 46 9) ∧ (u2 46 9) < 40) <| ck (0 ≤ (u2 46 9) ∧ (u2 46 9) < 40) <| cv (fR_lays (u2 53 (u2 46 9)) (u2 54 (u2 46 9)) (u2 55 (u2 46 9)) u2) <| fun (u3 : WD) => some ((u3 46 9), u3)) else (some ((-5), w))
set_option maxRecDepth 100000 in
set_option maxHeartbeats 4000000 in
theorem gR_undo (E : Nat × (Int → Int)) (d : Nat) {res : Int × WD} (w : WD) (h : fR_undo w = some res) : G E mR_undo (d + 2) 0 [(0, pR 46)] [] w RF NN 0 0 (some (pI res.1), res.2, RF, NN) := by
  unfold fR_undo at h
  refine g_aload_n (pc := 0) (j := 0) (dk d_mR_undo 0 rfl) rfl (by decide) ?_
  refine g_getI (pc := 1) fp_R_170 po_46 (dk d_mR_undo 1 rfl) ?_
  refine h_if_ne (pc := 4) (tgt := 10) (dk d_mR_undo 2 rfl) rfl h (fun hc4 h => ?_) (fun hc4 h => ?_)
  · refine g_aload_n (pc := 10) (j := 0) (dk d_mR_undo 5 rfl) rfl (by decide) ?_
    refine g_dup (pc := 11) (dk d_mR_undo 6 rfl) rfl ?_
    refine g_getI (pc := 12) fp_R_170 po_46 (dk d_mR_undo 7 rfl) ?_
    refine g_iconst (pc := 15) (dk d_mR_undo 8 rfl) (by decide) ?_
    refine g_isub (pc := 16) (dk d_mR_undo 9 rfl) ?_
    refine h_putI (pc := 17) fp_R_170 po_46 (dk d_mR_undo 10 rfl) h (fun u1 h => ?_)
    refine g_aload_n (pc := 20) (j := 0) (dk d_mR_undo 11 rfl) rfl (by decide) ?_
    refine g_dup (pc := 21) (dk d_mR_undo 12 rfl) rfl ?_
    refine g_getI (pc := 22) fp_R_167 po_46 (dk d_mR_undo 13 rfl) ?_
    refine g_iconst (pc := 25) (dk d_mR_undo 14 rfl) (by decide) ?_
    refine g_iadd (pc := 26) (dk d_mR_undo 15 rfl) ?_
    refine h_putI (pc := 27) fp_R_167 po_46 (dk d_mR_undo 16 rfl) h (fun u2 h => ?_)
    refine g_aload_n (pc := 30) (j := 0) (dk d_mR_undo 17 rfl) rfl (by decide) ?_
    refine g_aload_n (pc := 31) (j := 0) (dk d_mR_undo 18 rfl) rfl (by decide) ?_
    refine g_getR (pc := 32) (a := 53) rfl fp_R_30 po_46 (dk d_mR_undo 19 rfl) ?_
    refine g_aload_n (pc := 35) (j := 0) (dk d_mR_undo 20 rfl) rfl (by decide) ?_
    refine g_getI (pc := 36) fp_R_170 po_46 (dk d_mR_undo 21 rfl) ?_
    refine h_iald (pc := 39) (B := 40) pa_53 rfl (dk d_mR_undo 22 rfl) h (fun h => ?_)
    refine g_aload_n (pc := 40) (j := 0) (dk d_mR_undo 23 rfl) rfl (by decide) ?_
    refine g_getR (pc := 41) (a := 54) rfl fp_R_33 po_46 (dk d_mR_undo 24 rfl) ?_
    refine g_aload_n (pc := 44) (j := 0) (dk d_mR_undo 25 rfl) rfl (by decide) ?_
    refine g_getI (pc := 45) fp_R_170 po_46 (dk d_mR_undo 26 rfl) ?_
    refine h_iald (pc := 48) (B := 40) pa_54 rfl (dk d_mR_undo 27 rfl) h (fun h => ?_)
    refine g_aload_n (pc := 49) (j := 0) (dk d_mR_undo 28 rfl) rfl (by decide) ?_
    refine g_getR (pc := 50) (a := 55) rfl fp_R_36 po_46 (dk d_mR_undo 29 rfl) ?_
    refine g_aload_n (pc := 53) (j := 0) (dk d_mR_undo 30 rfl) rfl (by decide) ?_
    refine g_getI (pc := 54) fp_R_170 po_46 (dk d_mR_undo 31 rfl) ?_
    refine h_iald (pc := 57) (B := 40) pa_55 rfl (dk d_mR_undo 32 rfl) h (fun h => ?_)
    refine h_callVv (d := d + 1) (pc := 58) (na := 3) (av := [pI (u2 53 (u2 46 9)), pI (u2 54 (u2 46 9)), pI (u2 55 (u2 46 9))]) (k0 := 46) po_46 ⟨_, rfl⟩ ⟨rfl, rfl⟩ (dk d_mR_undo 33 rfl) lk_R_173 vm_mR_lays rfl rfl (Nat.le_of_ble_eq_true rfl) h (fun u3 hq => kR_lays E (d + 0) hq) (fun u3 h => ?_)
    refine g_aload_n (pc := 61) (j := 0) (dk d_mR_undo 34 rfl) rfl (by decide) ?_
    refine g_getI (pc := 62) fp_R_170 po_46 (dk d_mR_undo 35 rfl) ?_
    exact h_iret (pc := 65) rfl (dk d_mR_undo 36 rfl) h
  · refine g_bipush (pc := 7) (dk d_mR_undo 3 rfl) (by decide) ?_
    exact h_iret (pc := 9) rfl (dk d_mR_undo 4 rfl) h
set_option maxRecDepth 100000 in
set_option maxHeartbeats 4000000 in
theorem kR_undo (E : Nat × (Int → Int)) (d : Nat) {w w1 : WD} {r : Int} (h : fR_undo w = some (r, w1)) : CTi E mR_undo (d + 2) [pR 46] w RF NN r w1 RF NN := by
  exact CTi_of (by decide +kernel) (Nat.le_of_ble_eq_true rfl) (Or.inl rfl) (gR_undo (res := (r, w1)) E d w h)
def fR_redo (w : WD) : Option (Int × WD) := if (w 46 10) ≠ 0 then (ck (0 ≤ (w 46 9) ∧ (w 46 9) < 40) <| ck (0 ≤ (w 46 9) ∧ (w 46 9) < 40) <| ck (0 ≤ (w 46 9) ∧ (w 46 9) < 40) <| cv (fR_lays (w 53 (w 46 9)) (w 54 (w 46 9)) (w 56 (w 46 9)) w) <| fun (u1 : WD) => bw (up u1 46 9 (w32 ((u1 46 9) + 1))) <| fun (u2 : WD) => bw (up u2 46 10 (w32 ((u2 46 10) - 1))) <| fun (u3 : WD) => some ((u3 46 10), u3)) else (some ((-5), w))
set_option maxRecDepth 100000 in
set_option maxHeartbeats 4000000 in
theorem gR_redo (E : Nat × (Int → Int)) (d : Nat) {res : Int × WD} (w : WD) (h : fR_redo w = some res) : G E mR_redo (d + 2) 0 [(0, pR 46)] [] w RF NN 0 0 (some (pI res.1), res.2, RF, NN) := by
  unfold fR_redo at h
  refine g_aload_n (pc := 0) (j := 0) (dk d_mR_redo 0 rfl) rfl (by decide) ?_
  refine g_getI (pc := 1) fp_R_167 po_46 (dk d_mR_redo 1 rfl) ?_
  refine h_if_ne (pc := 4) (tgt := 10) (dk d_mR_redo 2 rfl) rfl h (fun hc4 h => ?_) (fun hc4 h => ?_)
  · refine g_aload_n (pc := 10) (j := 0) (dk d_mR_redo 5 rfl) rfl (by decide) ?_
    refine g_aload_n (pc := 11) (j := 0) (dk d_mR_redo 6 rfl) rfl (by decide) ?_
    refine g_getR (pc := 12) (a := 53) rfl fp_R_30 po_46 (dk d_mR_redo 7 rfl) ?_
    refine g_aload_n (pc := 15) (j := 0) (dk d_mR_redo 8 rfl) rfl (by decide) ?_
    refine g_getI (pc := 16) fp_R_170 po_46 (dk d_mR_redo 9 rfl) ?_
    refine h_iald (pc := 19) (B := 40) pa_53 rfl (dk d_mR_redo 10 rfl) h (fun h => ?_)
    refine g_aload_n (pc := 20) (j := 0) (dk d_mR_redo 11 rfl) rfl (by decide) ?_
    refine g_getR (pc := 21) (a := 54) rfl fp_R_33 po_46 (dk d_mR_redo 12 rfl) ?_
    refine g_aload_n (pc := 24) (j := 0) (dk d_mR_redo 13 rfl) rfl (by decide) ?_
    refine g_getI (pc := 25) fp_R_170 po_46 (dk d_mR_redo 14 rfl) ?_
    refine h_iald (pc := 28) (B := 40) pa_54 rfl (dk d_mR_redo 15 rfl) h (fun h => ?_)
    refine g_aload_n (pc := 29) (j := 0) (dk d_mR_redo 16 rfl) rfl (by decide) ?_
    refine g_getR (pc := 30) (a := 56) rfl fp_R_39 po_46 (dk d_mR_redo 17 rfl) ?_
    refine g_aload_n (pc := 33) (j := 0) (dk d_mR_redo 18 rfl) rfl (by decide) ?_
    refine g_getI (pc := 34) fp_R_170 po_46 (dk d_mR_redo 19 rfl) ?_
    refine h_iald (pc := 37) (B := 40) pa_56 rfl (dk d_mR_redo 20 rfl) h (fun h => ?_)
    refine h_callVv (d := d + 1) (pc := 38) (na := 3) (av := [pI (w 53 (w 46 9)), pI (w 54 (w 46 9)), pI (w 56 (w 46 9))]) (k0 := 46) po_46 ⟨_, rfl⟩ ⟨rfl, rfl⟩ (dk d_mR_redo 21 rfl) lk_R_173 vm_mR_lays rfl rfl (Nat.le_of_ble_eq_true rfl) h (fun u1 hq => kR_lays E (d + 0) hq) (fun u1 h => ?_)
    refine g_aload_n (pc := 41) (j := 0) (dk d_mR_redo 22 rfl) rfl (by decide) ?_
    refine g_dup (pc := 42) (dk d_mR_redo 23 rfl) rfl ?_
    refine g_getI (pc := 43) fp_R_170 po_46 (dk d_mR_redo 24 rfl) ?_
    refine g_iconst (pc := 46) (dk d_mR_redo 25 rfl) (by decide) ?_
    refine g_iadd (pc := 47) (dk d_mR_redo 26 rfl) ?_
    refine h_putI (pc := 48) fp_R_170 po_46 (dk d_mR_redo 27 rfl) h (fun u2 h => ?_)
    refine g_aload_n (pc := 51) (j := 0) (dk d_mR_redo 28 rfl) rfl (by decide) ?_
    refine g_dup (pc := 52) (dk d_mR_redo 29 rfl) rfl ?_
    refine g_getI (pc := 53) fp_R_167 po_46 (dk d_mR_redo 30 rfl) ?_
    refine g_iconst (pc := 56) (dk d_mR_redo 31 rfl) (by decide) ?_
    refine g_isub (pc := 57) (dk d_mR_redo 32 rfl) ?_
    refine h_putI (pc := 58) fp_R_167 po_46 (dk d_mR_redo 33 rfl) h (fun u3 h => ?_)
    refine g_aload_n (pc := 61) (j := 0) (dk d_mR_redo 34 rfl) rfl (by decide) ?_
    refine g_getI (pc := 62) fp_R_167 po_46 (dk d_mR_redo 35 rfl) ?_
    exact h_iret (pc := 65) rfl (dk d_mR_redo 36 rfl) h
  · refine g_bipush (pc := 7) (dk d_mR_redo 3 rfl) (by decide) ?_
    exact h_iret (pc := 9) rfl (dk d_mR_redo 4 rfl) h
set_option maxRecDepth 100000 in
set_option maxHeartbeats 4000000 in
theorem kR_redo (E : Nat × (Int → Int)) (d : Nat) {w w1 : WD} {r : Int} (h : fR_redo w = some (r, w1)) : CTi E mR_redo (d + 2) [pR 46] w RF NN r w1 RF NN := by
  exact CTi_of (by decide +kernel) (Nat.le_of_ble_eq_true rfl) (Or.inl rfl) (gR_redo (res := (r, w1)) E d w h)
def fR_valueAt (a1 : Int) (a2 : Int) (w : WD) : Option (Int × WD) := if 3 ≤ a1 then (if a1 ≠ 3 then (if 7 ≤ a1 then (if a1 ≠ 7 then (if a1 ≠ 8 then (ck (0 ≤ (w32 (a1 - 9)) ∧ (w32 (a1 - 9)) < 4) <| some ((w 52 (w32 (a1 - 9))), w)) else (ck (0 ≤ a2 ∧ a2 < 3) <| some ((w 51 a2), w))) else (ck (0 ≤ a2 ∧ a2 < 5) <| some ((w 50 a2), w))) else (ck (0 ≤ (w32 ((w32 ((w32 (3 * a2)) + a1)) - 4)) ∧ (w32 ((w32 ((w32 (3 * a2)) + a1)) - 4)) < 15) <| some ((w 49 (w32 ((w32 ((w32 (3 * a2)) + a1)) - 4))), w))) else (ck (0 ≤ a2 ∧ a2 < 6) <| some ((w 48 a2), w))) else (ck (0 ≤ (w32 ((w32 (3 * a2)) + a1)) ∧ (w32 ((w32 (3 * a2)) + a1)) < 18) <| some ((w 47 (w32 ((w32 (3 * a2)) + a1))), w))
set_option maxRecDepth 100000 in
set_option maxHeartbeats 4000000 in
theorem gR_valueAt (E : Nat × (Int → Int)) (d : Nat) {res : Int × WD} (a1 : Int) (a2 : Int) (w : WD) (h : fR_valueAt a1 a2 w = some res) : G E mR_valueAt (d + 1) 0 [(0, pR 46), (1, pI a1), (2, pI a2)] [] w RF NN 0 0 (some (pI res.1), res.2, RF, NN) := by
  unfold fR_valueAt at h
  refine g_iload_n (pc := 0) (j := 1) (dk d_mR_valueAt 0 rfl) rfl ?_
  refine g_iconst (pc := 1) (dk d_mR_valueAt 1 rfl) (by decide) ?_
  refine h_icmp_ge (pc := 2) (tgt := 16) (dk d_mR_valueAt 2 rfl) rfl h (fun hc5 h => ?_) (fun hc5 h => ?_)
  · refine g_iload_n (pc := 16) (j := 1) (dk d_mR_valueAt 12 rfl) rfl ?_
    refine g_iconst (pc := 17) (dk d_mR_valueAt 13 rfl) (by decide) ?_
    refine h_icmp_ne (pc := 18) (tgt := 28) (dk d_mR_valueAt 14 rfl) rfl h (fun hc4 h => ?_) (fun hc4 h => ?_)
    · refine g_iload_n (pc := 28) (j := 1) (dk d_mR_valueAt 20 rfl) rfl ?_
      refine g_bipush (pc := 29) (dk d_mR_valueAt 21 rfl) (by decide) ?_
      refine h_icmp_ge (pc := 31) (tgt := 47) (dk d_mR_valueAt 22 rfl) rfl h (fun hc3 h => ?_) (fun hc3 h => ?_)
      · refine g_iload_n (pc := 47) (j := 1) (dk d_mR_valueAt 34 rfl) rfl ?_
        refine g_bipush (pc := 48) (dk d_mR_valueAt 35 rfl) (by decide) ?_
        refine h_icmp_ne (pc := 50) (tgt := 62) (dk d_mR_valueAt 36 rfl) rfl h (fun hc2 h => ?_) (fun hc2 h => ?_)
        · refine g_iload_n (pc := 62) (j := 1) (dk d_mR_valueAt 42 rfl) rfl ?_
          refine g_bipush (pc := 63) (dk d_mR_valueAt 43 rfl) (by decide) ?_
          refine h_icmp_ne (pc := 65) (tgt := 77) (dk d_mR_valueAt 44 rfl) rfl h (fun hc1 h => ?_) (fun hc1 h => ?_)
          · refine g_aload_n (pc := 77) (j := 0) (dk d_mR_valueAt 50 rfl) rfl (by decide) ?_
            refine g_getR (pc := 78) (a := 52) rfl fp_R_27 po_46 (dk d_mR_valueAt 51 rfl) ?_
            refine g_iload_n (pc := 81) (j := 1) (dk d_mR_valueAt 52 rfl) rfl ?_
            refine g_bipush (pc := 82) (dk d_mR_valueAt 53 rfl) (by decide) ?_
            refine g_isub (pc := 84) (dk d_mR_valueAt 54 rfl) ?_
            refine h_iald (pc := 85) (B := 4) pa_52 rfl (dk d_mR_valueAt 55 rfl) h (fun h => ?_)
            exact h_iret (pc := 86) rfl (dk d_mR_valueAt 56 rfl) h
          · refine g_aload_n (pc := 68) (j := 0) (dk d_mR_valueAt 45 rfl) rfl (by decide) ?_
            refine g_getR (pc := 69) (a := 51) rfl fp_R_24 po_46 (dk d_mR_valueAt 46 rfl) ?_
            refine g_iload_n (pc := 72) (j := 2) (dk d_mR_valueAt 47 rfl) rfl ?_
            refine h_iald (pc := 73) (B := 3) pa_51 rfl (dk d_mR_valueAt 48 rfl) h (fun h => ?_)
            refine g_goto (pc := 74) (tgt := 86) (dk d_mR_valueAt 49 rfl) rfl ?_
            exact h_iret (pc := 86) rfl (dk d_mR_valueAt 56 rfl) h
        · refine g_aload_n (pc := 53) (j := 0) (dk d_mR_valueAt 37 rfl) rfl (by decide) ?_
          refine g_getR (pc := 54) (a := 50) rfl fp_R_21 po_46 (dk d_mR_valueAt 38 rfl) ?_
          refine g_iload_n (pc := 57) (j := 2) (dk d_mR_valueAt 39 rfl) rfl ?_
          refine h_iald (pc := 58) (B := 5) pa_50 rfl (dk d_mR_valueAt 40 rfl) h (fun h => ?_)
          refine g_goto (pc := 59) (tgt := 86) (dk d_mR_valueAt 41 rfl) rfl ?_
          exact h_iret (pc := 86) rfl (dk d_mR_valueAt 56 rfl) h
      · refine g_aload_n (pc := 34) (j := 0) (dk d_mR_valueAt 23 rfl) rfl (by decide) ?_
        refine g_getR (pc := 35) (a := 49) rfl fp_R_18 po_46 (dk d_mR_valueAt 24 rfl) ?_
        refine g_iconst (pc := 38) (dk d_mR_valueAt 25 rfl) (by decide) ?_
        refine g_iload_n (pc := 39) (j := 2) (dk d_mR_valueAt 26 rfl) rfl ?_
        refine g_imul (pc := 40) (dk d_mR_valueAt 27 rfl) ?_
        refine g_iload_n (pc := 41) (j := 1) (dk d_mR_valueAt 28 rfl) rfl ?_
        refine g_iadd (pc := 42) (dk d_mR_valueAt 29 rfl) ?_
        refine g_iconst (pc := 43) (dk d_mR_valueAt 30 rfl) (by decide) ?_
        refine g_isub (pc := 44) (dk d_mR_valueAt 31 rfl) ?_
        refine h_iald (pc := 45) (B := 15) pa_49 rfl (dk d_mR_valueAt 32 rfl) h (fun h => ?_)
        exact h_iret (pc := 46) rfl (dk d_mR_valueAt 33 rfl) h
    · refine g_aload_n (pc := 21) (j := 0) (dk d_mR_valueAt 15 rfl) rfl (by decide) ?_
      refine g_getR (pc := 22) (a := 48) rfl fp_R_15 po_46 (dk d_mR_valueAt 16 rfl) ?_
      refine g_iload_n (pc := 25) (j := 2) (dk d_mR_valueAt 17 rfl) rfl ?_
      refine h_iald (pc := 26) (B := 6) pa_48 rfl (dk d_mR_valueAt 18 rfl) h (fun h => ?_)
      exact h_iret (pc := 27) rfl (dk d_mR_valueAt 19 rfl) h
  · refine g_aload_n (pc := 5) (j := 0) (dk d_mR_valueAt 3 rfl) rfl (by decide) ?_
    refine g_getR (pc := 6) (a := 47) rfl fp_R_9 po_46 (dk d_mR_valueAt 4 rfl) ?_
    refine g_iconst (pc := 9) (dk d_mR_valueAt 5 rfl) (by decide) ?_
    refine g_iload_n (pc := 10) (j := 2) (dk d_mR_valueAt 6 rfl) rfl ?_
    refine g_imul (pc := 11) (dk d_mR_valueAt 7 rfl) ?_
    refine g_iload_n (pc := 12) (j := 1) (dk d_mR_valueAt 8 rfl) rfl ?_
    refine g_iadd (pc := 13) (dk d_mR_valueAt 9 rfl) ?_
    refine h_iald (pc := 14) (B := 18) pa_47 rfl (dk d_mR_valueAt 10 rfl) h (fun h => ?_)
    exact h_iret (pc := 15) rfl (dk d_mR_valueAt 11 rfl) h
set_option maxRecDepth 100000 in
set_option maxHeartbeats 4000000 in
theorem kR_valueAt (E : Nat × (Int → Int)) (d : Nat) {a1 : Int} {a2 : Int} {w w1 : WD} {r : Int} (h : fR_valueAt a1 a2 w = some (r, w1)) : CTi E mR_valueAt (d + 1) [pR 46, pI a1, pI a2] w RF NN r w1 RF NN := by
  exact CTi_of (by decide +kernel) (Nat.le_of_ble_eq_true rfl) (Or.inl rfl) (gR_valueAt (res := (r, w1)) E d a1 a2 w h)
def fR_changes_l34_b (rec : Int → WD → Option (Int × WD)) (y1 : Int) (y2 : Int) (y3 : Int) (y4 : Int) (K0 : WD → Option (Int × WD)) (x5 : Int) (w : WD) : Option (Int × WD) := if 40 ≤ x5 then (K0 w) else (ck (0 ≤ x5 ∧ x5 < 40) <| ck (0 ≤ (w32 (x5 - 1)) ∧ (w32 (x5 - 1)) < 40) <| bw (up w 53 (w32 (x5 - 1)) (w 53 x5)) <| fun (u13 : WD) => ck (0 ≤ x5 ∧ x5 < 40) <| ck (0 ≤ (w32 (x5 - 1)) ∧ (w32 (x5 - 1)) < 40) <| bw (up u13 54 (w32 (x5 - 1)) (u13 54 x5)) <| fun (u14 : WD) => ck (0 ≤ x5 ∧ x5 < 40) <| ck (0 ≤ (w32 (x5 - 1)) ∧ (w32 (x5 - 1)) < 40) <| bw (up u14 55 (w32 (x5 - 1)) (u14 55 x5)) <| fun (u15 : WD) => ck (0 ≤ x5 ∧ x5 < 40) <| ck (0 ≤ (w32 (x5 - 1)) ∧ (w32 (x5 - 1)) < 40) <| bw (up u15 56 (w32 (x5 - 1)) (u15 56 x5)) <| fun (u16 : WD) => bv (w32 (x5 + 1)) <| fun (v5_17 : Int) => rec v5_17 u16)
def fR_changes_l34 (y1 : Int) (y2 : Int) (y3 : Int) (y4 : Int) (K0 : WD → Option (Int × WD)) : Nat → Int → WD → Option (Int × WD)
  | 0 => fun _ _ => none
  | k + 1 => fR_changes_l34_b ( fR_changes_l34 y1 y2 y3 y4 K0 k) y1 y2 y3 y4 K0
set_option maxRecDepth 100000 in
set_option maxHeartbeats 4000000 in
theorem fR_changes_l34_b_ok (E : Nat × (Int → Int)) (d : Nat) {res : Int × WD} {rec : Int → WD → Option (Int × WD)} (y1 : Int) (y2 : Int) (y3 : Int) (y4 : Int) (K0 : WD → Option (Int × WD)) (hrec : ∀ (x5 : Int) (w : WD), rec x5 w = some res → G E mR_changes (d + 2) 34 [(0, pR 46), (1, pI y1), (2, pI y2), (3, pI y3), (4, pI y4), (5, pI x5)] [] w RF NN 0 0 (some (pI res.1), res.2, RF, NN)) (hK0 : ∀ (w : WD), K0 w = some res → G E mR_changes (d + 2) 111 [(0, pR 46), (1, pI y1), (2, pI y2), (3, pI y3), (4, pI y4)] [] w RF NN 0 0 (some (pI res.1), res.2, RF, NN)) (x5 : Int) (w : WD) (h : fR_changes_l34_b rec y1 y2 y3 y4 K0 x5 w = some res) : G E mR_changes (d + 2) 34 [(0, pR 46), (1, pI y1), (2, pI y2), (3, pI y3), (4, pI y4), (5, pI x5)] [] w RF NN 0 0 (some (pI res.1), res.2, RF, NN) := by
  unfold fR_changes_l34_b at h
  refine g_iload (pc := 34) (j := 5) (dk d_mR_changes 19 rfl) rfl ?_
  refine g_bipush (pc := 36) (dk d_mR_changes 20 rfl) (by decide) ?_
  refine h_icmp_ge (pc := 38) (tgt := 111) (dk d_mR_changes 21 rfl) rfl h (fun hc18 h => ?_) (fun hc18 h => ?_)
  · refine g_pick [0, 1, 2, 3, 4] rfl (l' := [(0, pR 46), (1, pI y1), (2, pI y2), (3, pI y3), (4, pI y4)]) rfl ?_
    exact hK0 _ h
  · refine g_aload_n (pc := 41) (j := 0) (dk d_mR_changes 22 rfl) rfl (by decide) ?_
    refine g_getR (pc := 42) (a := 53) rfl fp_R_30 po_46 (dk d_mR_changes 23 rfl) ?_
    refine g_iload (pc := 45) (j := 5) (dk d_mR_changes 24 rfl) rfl ?_
    refine g_iconst (pc := 47) (dk d_mR_changes 25 rfl) (by decide) ?_
    refine g_isub (pc := 48) (dk d_mR_changes 26 rfl) ?_
    refine g_aload_n (pc := 49) (j := 0) (dk d_mR_changes 27 rfl) rfl (by decide) ?_
    refine g_getR (pc := 50) (a := 53) rfl fp_R_30 po_46 (dk d_mR_changes 28 rfl) ?_
    refine g_iload (pc := 53) (j := 5) (dk d_mR_changes 29 rfl) rfl ?_
    refine h_iald (pc := 55) (B := 40) pa_53 rfl (dk d_mR_changes 30 rfl) h (fun h => ?_)
    refine h_iast (pc := 56) (B := 40) pa_53 rfl (dk d_mR_changes 31 rfl) h (fun u13 h => ?_)
    refine g_aload_n (pc := 57) (j := 0) (dk d_mR_changes 32 rfl) rfl (by decide) ?_
    refine g_getR (pc := 58) (a := 54) rfl fp_R_33 po_46 (dk d_mR_changes 33 rfl) ?_
    refine g_iload (pc := 61) (j := 5) (dk d_mR_changes 34 rfl) rfl ?_
    refine g_iconst (pc := 63) (dk d_mR_changes 35 rfl) (by decide) ?_
    refine g_isub (pc := 64) (dk d_mR_changes 36 rfl) ?_
    refine g_aload_n (pc := 65) (j := 0) (dk d_mR_changes 37 rfl) rfl (by decide) ?_
    refine g_getR (pc := 66) (a := 54) rfl fp_R_33 po_46 (dk d_mR_changes 38 rfl) ?_
    refine g_iload (pc := 69) (j := 5) (dk d_mR_changes 39 rfl) rfl ?_
    refine h_iald (pc := 71) (B := 40) pa_54 rfl (dk d_mR_changes 40 rfl) h (fun h => ?_)
    refine h_iast (pc := 72) (B := 40) pa_54 rfl (dk d_mR_changes 41 rfl) h (fun u14 h => ?_)
    refine g_aload_n (pc := 73) (j := 0) (dk d_mR_changes 42 rfl) rfl (by decide) ?_
    refine g_getR (pc := 74) (a := 55) rfl fp_R_36 po_46 (dk d_mR_changes 43 rfl) ?_
    refine g_iload (pc := 77) (j := 5) (dk d_mR_changes 44 rfl) rfl ?_
    refine g_iconst (pc := 79) (dk d_mR_changes 45 rfl) (by decide) ?_
    refine g_isub (pc := 80) (dk d_mR_changes 46 rfl) ?_
    refine g_aload_n (pc := 81) (j := 0) (dk d_mR_changes 47 rfl) rfl (by decide) ?_
    refine g_getR (pc := 82) (a := 55) rfl fp_R_36 po_46 (dk d_mR_changes 48 rfl) ?_
    refine g_iload (pc := 85) (j := 5) (dk d_mR_changes 49 rfl) rfl ?_
    refine h_iald (pc := 87) (B := 40) pa_55 rfl (dk d_mR_changes 50 rfl) h (fun h => ?_)
    refine h_iast (pc := 88) (B := 40) pa_55 rfl (dk d_mR_changes 51 rfl) h (fun u15 h => ?_)
    refine g_aload_n (pc := 89) (j := 0) (dk d_mR_changes 52 rfl) rfl (by decide) ?_
    refine g_getR (pc := 90) (a := 56) rfl fp_R_39 po_46 (dk d_mR_changes 53 rfl) ?_
    refine g_iload (pc := 93) (j := 5) (dk d_mR_changes 54 rfl) rfl ?_
    refine g_iconst (pc := 95) (dk d_mR_changes 55 rfl) (by decide) ?_
    refine g_isub (pc := 96) (dk d_mR_changes 56 rfl) ?_
    refine g_aload_n (pc := 97) (j := 0) (dk d_mR_changes 57 rfl) rfl (by decide) ?_
    refine g_getR (pc := 98) (a := 56) rfl fp_R_39 po_46 (dk d_mR_changes 58 rfl) ?_
    refine g_iload (pc := 101) (j := 5) (dk d_mR_changes 59 rfl) rfl ?_
    refine h_iald (pc := 103) (B := 40) pa_56 rfl (dk d_mR_changes 60 rfl) h (fun h => ?_)
    refine h_iast (pc := 104) (B := 40) pa_56 rfl (dk d_mR_changes 61 rfl) h (fun u16 h => ?_)
    refine h_iinc (pc := 105) (j := 5) (dk d_mR_changes 62 rfl) rfl (by decide) (Nat.le_of_ble_eq_true rfl) h (fun v5_17 h => ?_)
    refine g_loc (l' := [(5, pI v5_17), (0, pR 46), (1, pI y1), (2, pI y2), (3, pI y3), (4, pI y4)]) rfl ?_
    refine g_goto (pc := 108) (tgt := 34) (dk d_mR_changes 63 rfl) rfl ?_
    refine g_pick [1, 2, 3, 4, 5, 0] rfl (l' := [(0, pR 46), (1, pI y1), (2, pI y2), (3, pI y3), (4, pI y4), (5, pI v5_17)]) rfl ?_
    exact hrec _ _ h
set_option maxRecDepth 100000 in
set_option maxHeartbeats 4000000 in
theorem fR_changes_l34_ok (E : Nat × (Int → Int)) (d : Nat) {res : Int × WD} (y1 : Int) (y2 : Int) (y3 : Int) (y4 : Int) (K0 : WD → Option (Int × WD)) (hK0 : ∀ (w : WD), K0 w = some res → G E mR_changes (d + 2) 111 [(0, pR 46), (1, pI y1), (2, pI y2), (3, pI y3), (4, pI y4)] [] w RF NN 0 0 (some (pI res.1), res.2, RF, NN)) : ∀ (k : Nat) (x5 : Int) (w : WD), fR_changes_l34 y1 y2 y3 y4 K0 k x5 w = some res → G E mR_changes (d + 2) 34 [(0, pR 46), (1, pI y1), (2, pI y2), (3, pI y3), (4, pI y4), (5, pI x5)] [] w RF NN 0 0 (some (pI res.1), res.2, RF, NN) := by
  intro k
  induction k with
  | zero =>
    intro x5 w h
    exact no_e h
  | succ k ih =>
    intro x5 w h
    exact fR_changes_l34_b_ok E d y1 y2 y3 y4 K0 ih hK0 x5 w h
def fR_changes (a1 : Int) (a2 : Int) (a3 : Int) (w : WD) : Option (Int × WD) := ci (fR_valueAt a1 a2 w) <| fun (r2 : Int) (u1 : WD) => if r2 ≠ a3 then (bw (up u1 46 10 0) <| fun (u4 : WD) => jn (β := WD → Option (Int × WD)) (fun (u5 : WD) => ck (0 ≤ (u5 46 9) ∧ (u5 46 9) < 40) <| bw (up u5 53 (u5 46 9) a1) <| fun (u6 : WD) => ck (0 ≤ (u6 46 9) ∧ (u6 46 9) < 40) <| bw (up u6 54 (u6 46 9) a2) <| fun (u7 : WD) => ck (0 ≤ (u7 46 9) ∧ (u7 46 9) < 40) <| bw (up u7 55 (u7 46 9) r2) <| fun (u8 : WD) => ck (0 ≤ (u8 46 9) ∧ (u8 46 9) < 40) <| bw (up u8 56 (u8 46 9) a3) <| fun (u9 : WD) => bw (up u9 46 9 (w32 ((u9 46 9) + 1))) <| fun (u10 : WD) => cv (fR_lays a1 a2 a3 u10) <| fun (u11 : WD) => some (r2, u11)) <| fun J12 => if (u4 46 9) ≠ 40 then (J12 u4) else (fR_changes_l34 a1 a2 a3 r2 (fun (u19 : WD) => bw (up u19 46 9 (w32 ((u19 46 9) - 1))) <| fun (u20 : WD) => J12 u20) FU 1 u4)) else (some (r2, u1))
set_option maxRecDepth 100000 in
set_option maxHeartbeats 4000000 in
theorem gR_changes (E : Nat × (Int → Int)) (d : Nat) {res : Int × WD} (a1 : Int) (a2 : Int) (a3 : Int) (w : WD) (h : fR_changes a1 a2 a3 w = some res) : G E mR_changes (d + 2) 0 [(0, pR 46), (1, pI a1), (2, pI a2), (3, pI a3)] [] w RF NN 0 0 (some (pI res.1), res.2, RF, NN) := by
  unfold fR_changes at h
  refine g_aload_n (pc := 0) (j := 0) (dk d_mR_changes 0 rfl) rfl (by decide) ?_
  refine g_iload_n (pc := 1) (j := 1) (dk d_mR_changes 1 rfl) rfl ?_
  refine g_iload_n (pc := 2) (j := 2) (dk d_mR_changes 2 rfl) rfl ?_
  refine h_callVi (d := d + 1) (pc := 3) (na := 2) (av := [pI a1, pI a2]) (k0 := 46) po_46 ⟨_, rfl⟩ ⟨rfl, rfl⟩ (dk d_mR_changes 3 rfl) lk_R_163 vm_mR_valueAt rfl rfl (Nat.le_of_ble_eq_true rfl) h (fun r2 u1 hq => kR_valueAt E (d + 0) hq) (fun r2 u1 hb3 h => ?_)
  refine g_istore (pc := 6) (l' := [(4, pI r2), (0, pR 46), (1, pI a1), (2, pI a2), (3, pI a3)]) (dk d_mR_changes 4 rfl) (Nat.le_of_ble_eq_true rfl) rfl ?_
  refine g_iload (pc := 8) (j := 0) (dk d_mR_changes 5 rfl) rfl ?_
  refine g_iload_n (pc := 10) (j := 4) (dk d_mR_changes 6 rfl) rfl ?_
  refine h_icmp_ne (pc := 11) (tgt := 17) (dk d_mR_changes 7 rfl) rfl h (fun hc22 h => ?_) (fun hc22 h => ?_)
  · refine g_aload_n (pc := 17) (j := 1) (dk d_mR_changes 10 rfl) rfl (by decide) ?_
    refine g_iconst (pc := 18) (dk d_mR_changes 11 rfl) (by decide) ?_
    refine h_putI (pc := 19) fp_R_167 po_46 (dk d_mR_changes 12 rfl) h (fun u4 h => ?_)
    refine g_aload_n (pc := 22) (j := 1) (dk d_mR_changes 13 rfl) rfl (by decide) ?_
    refine g_getI (pc := 23) fp_R_170 po_46 (dk d_mR_changes 14 rfl) ?_
    refine g_bipush (pc := 26) (dk d_mR_changes 15 rfl) (by decide) ?_
    refine jn_e (fun J => ∀ (u5 : WD), J u5 = some res → G E mR_changes (d + 2) 121 [(0, pR 46), (1, pI a1), (2, pI a2), (3, pI a3), (4, pI r2)] [] u5 RF NN 0 0 (some (pI res.1), res.2, RF, NN)) h (fun u5 h => ?_) (fun J12 hJ12 h => ?_)
    · refine g_aload_n (pc := 121) (j := 0) (dk d_mR_changes 70 rfl) rfl (by decide) ?_
      refine g_getR (pc := 122) (a := 53) rfl fp_R_30 po_46 (dk d_mR_changes 71 rfl) ?_
      refine g_aload_n (pc := 125) (j := 0) (dk d_mR_changes 72 rfl) rfl (by decide) ?_
      refine g_getI (pc := 126) fp_R_170 po_46 (dk d_mR_changes 73 rfl) ?_
      refine g_iload_n (pc := 129) (j := 1) (dk d_mR_changes 74 rfl) rfl ?_
      refine h_iast (pc := 130) (B := 40) pa_53 rfl (dk d_mR_changes 75 rfl) h (fun u6 h => ?_)
      refine g_aload_n (pc := 131) (j := 0) (dk d_mR_changes 76 rfl) rfl (by decide) ?_
      refine g_getR (pc := 132) (a := 54) rfl fp_R_33 po_46 (dk d_mR_changes 77 rfl) ?_
      refine g_aload_n (pc := 135) (j := 0) (dk d_mR_changes 78 rfl) rfl (by decide) ?_
      refine g_getI (pc := 136) fp_R_170 po_46 (dk d_mR_changes 79 rfl) ?_
      refine g_iload_n (pc := 139) (j := 2) (dk d_mR_changes 80 rfl) rfl ?_
      refine h_iast (pc := 140) (B := 40) pa_54 rfl (dk d_mR_changes 81 rfl) h (fun u7 h => ?_)
      refine g_aload_n (pc := 141) (j := 0) (dk d_mR_changes 82 rfl) rfl (by decide) ?_
      refine g_getR (pc := 142) (a := 55) rfl fp_R_36 po_46 (dk d_mR_changes 83 rfl) ?_
      refine g_aload_n (pc := 145) (j := 0) (dk d_mR_changes 84 rfl) rfl (by decide) ?_
      refine g_getI (pc := 146) fp_R_170 po_46 (dk d_mR_changes 85 rfl) ?_
      refine g_iload (pc := 149) (j := 4) (dk d_mR_changes 86 rfl) rfl ?_
      refine h_iast (pc := 151) (B := 40) pa_55 rfl (dk d_mR_changes 87 rfl) h (fun u8 h => ?_)
      refine g_aload_n (pc := 152) (j := 0) (dk d_mR_changes 88 rfl) rfl (by decide) ?_
      refine g_getR (pc := 153) (a := 56) rfl fp_R_39 po_46 (dk d_mR_changes 89 rfl) ?_
      refine g_aload_n (pc := 156) (j := 0) (dk d_mR_changes 90 rfl) rfl (by decide) ?_
      refine g_getI (pc := 157) fp_R_170 po_46 (dk d_mR_changes 91 rfl) ?_
      refine g_iload_n (pc := 160) (j := 3) (dk d_mR_changes 92 rfl) rfl ?_
      refine h_iast (pc := 161) (B := 40) pa_56 rfl (dk d_mR_changes 93 rfl) h (fun u9 h => ?_)
      refine g_aload_n (pc := 162) (j := 0) (dk d_mR_changes 94 rfl) rfl (by decide) ?_
      refine g_dup (pc := 163) (dk d_mR_changes 95 rfl) rfl ?_
      refine g_getI (pc := 164) fp_R_170 po_46 (dk d_mR_changes 96 rfl) ?_
      refine g_iconst (pc := 167) (dk d_mR_changes 97 rfl) (by decide) ?_
      refine g_iadd (pc := 168) (dk d_mR_changes 98 rfl) ?_
      refine h_putI (pc := 169) fp_R_170 po_46 (dk d_mR_changes 99 rfl) h (fun u10 h => ?_)
      refine g_aload_n (pc := 172) (j := 0) (dk d_mR_changes 100 rfl) rfl (by decide) ?_
      refine g_iload_n (pc := 173) (j := 1) (dk d_mR_changes 101 rfl) rfl ?_
      refine g_iload_n (pc := 174) (j := 2) (dk d_mR_changes 102 rfl) rfl ?_
      refine g_iload_n (pc := 175) (j := 3) (dk d_mR_changes 103 rfl) rfl ?_
      refine h_callVv (d := d + 1) (pc := 176) (na := 3) (av := [pI a1, pI a2, pI a3]) (k0 := 46) po_46 ⟨_, rfl⟩ ⟨rfl, rfl⟩ (dk d_mR_changes 104 rfl) lk_R_173 vm_mR_lays rfl rfl (Nat.le_of_ble_eq_true rfl) h (fun u11 hq => kR_lays E (d + 0) hq) (fun u11 h => ?_)
      refine g_iload (pc := 179) (j := 4) (dk d_mR_changes 105 rfl) rfl ?_
      exact h_iret (pc := 181) rfl (dk d_mR_changes 106 rfl) h
    · refine h_icmp_ne (pc := 28) (tgt := 121) (dk d_mR_changes 16 rfl) rfl h (fun hc21 h => ?_) (fun hc21 h => ?_)
      · refine g_pick [1, 2, 3, 4, 0] rfl (l' := [(0, pR 46), (1, pI a1), (2, pI a2), (3, pI a3), (4, pI r2)]) rfl ?_
        exact hJ12 _ h
      · refine g_iconst (pc := 31) (dk d_mR_changes 17 rfl) (by decide) ?_
        refine g_istore (pc := 32) (l' := [(5, pI 1), (4, pI r2), (0, pR 46), (1, pI a1), (2, pI a2), (3, pI a3)]) (dk d_mR_changes 18 rfl) (Nat.le_of_ble_eq_true rfl) rfl ?_
        refine g_pick [2, 3, 4, 5, 1, 0] rfl (l' := [(0, pR 46), (1, pI a1), (2, pI a2), (3, pI a3), (4, pI r2), (5, pI 1)]) rfl ?_
        refine fR_changes_l34_ok E d a1 a2 a3 r2 _  (fun u19 h => ?_) FU _  _ h
        · refine g_aload_n (pc := 111) (j := 0) (dk d_mR_changes 64 rfl) rfl (by decide) ?_
          refine g_dup (pc := 112) (dk d_mR_changes 65 rfl) rfl ?_
          refine g_getI (pc := 113) fp_R_170 po_46 (dk d_mR_changes 66 rfl) ?_
          refine g_iconst (pc := 116) (dk d_mR_changes 67 rfl) (by decide) ?_
          refine g_isub (pc := 117) (dk d_mR_changes 68 rfl) ?_
          refine h_putI (pc := 118) fp_R_170 po_46 (dk d_mR_changes 69 rfl) h (fun u20 h => ?_)
          exact hJ12 _ h
  · refine g_iload (pc := 14) (j := 0) (dk d_mR_changes 8 rfl) rfl ?_
    exact h_iret (pc := 16) rfl (dk d_mR_changes 9 rfl) h
set_option maxRecDepth 100000 in
set_option maxHeartbeats 4000000 in
theorem kR_changes (E : Nat × (Int → Int)) (d : Nat) {a1 : Int} {a2 : Int} {a3 : Int} {w w1 : WD} {r : Int} (h : fR_changes a1 a2 a3 w = some (r, w1)) : CTi E mR_changes (d + 2) [pR 46, pI a1, pI a2, pI a3] w RF NN r w1 RF NN := by
  exact CTi_of (by decide +kernel) (Nat.le_of_ble_eq_true rfl) (Or.inl rfl) (gR_changes (res := (r, w1)) E d a1 a2 a3 w h)
def fR_isMask (a1 : Int) (w : WD) : Option (Int × WD) := ci (fR_in a1 0 (w32 ((w 46 4) - 1)) w) <| fun (r2 : Int) (u1 : WD) => some (r2, u1)
set_option maxRecDepth 100000 in
set_option maxHeartbeats 4000000 in
theorem gR_isMask (E : Nat × (Int → Int)) (d : Nat) {res : Int × WD} (a1 : Int) (w : WD) (h : fR_isMask a1 w = some res) : G E mR_isMask (d + 2) 0 [(0, pR 46), (1, pI a1)] [] w RF NN 0 0 (some (pI res.1), res.2, RF, NN) := by
  unfold fR_isMask at h
  refine g_iload_n (pc := 0) (j := 1) (dk d_mR_isMask 0 rfl) rfl ?_
  refine g_iconst (pc := 1) (dk d_mR_isMask 1 rfl) (by decide) ?_
  refine g_aload_n (pc := 2) (j := 0) (dk d_mR_isMask 2 rfl) rfl (by decide) ?_
  refine g_getI (pc := 3) fp_R_144 po_46 (dk d_mR_isMask 3 rfl) ?_
  refine g_iconst (pc := 6) (dk d_mR_isMask 4 rfl) (by decide) ?_
  refine g_isub (pc := 7) (dk d_mR_isMask 5 rfl) ?_
  refine h_callSi (d := d + 1) (pc := 8) (na := 3) (av := [pI a1, pI 0, pI (w32 ((w 46 4) - 1))]) ⟨rfl, rfl⟩ (dk d_mR_isMask 6 rfl) lk_R_140 vm_mR_in rfl rfl (Nat.le_of_ble_eq_true rfl) h (fun r2 u1 hq => kR_in E (d + 0) hq) (fun r2 u1 hb3 h => ?_)
  exact h_zret (pc := 11) (hb3 rfl) (dk d_mR_isMask 7 rfl) h
set_option maxRecDepth 100000 in
set_option maxHeartbeats 4000000 in
theorem kR_isMask (E : Nat × (Int → Int)) (d : Nat) {a1 : Int} {w w1 : WD} {r : Int} (h : fR_isMask a1 w = some (r, w1)) : CTi E mR_isMask (d + 2) [pR 46, pI a1] w RF NN r w1 RF NN := by
  exact CTi_of (by decide +kernel) (Nat.le_of_ble_eq_true rfl) (Or.inr rfl) (gR_isMask (res := (r, w1)) E d a1 w h)
def fR_isPerson (a1 : Int) (w : WD) : Option (Int × WD) := ci (fR_in a1 0 (w32 ((w 46 1) - 1)) w) <| fun (r2 : Int) (u1 : WD) => some (r2, u1)
set_option maxRecDepth 100000 in
set_option maxHeartbeats 4000000 in
theorem gR_isPerson (E : Nat × (Int → Int)) (d : Nat) {res : Int × WD} (a1 : Int) (w : WD) (h : fR_isPerson a1 w = some res) : G E mR_isPerson (d + 2) 0 [(0, pR 46), (1, pI a1)] [] w RF NN 0 0 (some (pI res.1), res.2, RF, NN) := by
  unfold fR_isPerson at h
  refine g_iload_n (pc := 0) (j := 1) (dk d_mR_isPerson 0 rfl) rfl ?_
  refine g_iconst (pc := 1) (dk d_mR_isPerson 1 rfl) (by decide) ?_
  refine g_aload_n (pc := 2) (j := 0) (dk d_mR_isPerson 2 rfl) rfl (by decide) ?_
  refine g_getI (pc := 3) fp_R_137 po_46 (dk d_mR_isPerson 3 rfl) ?_
  refine g_iconst (pc := 6) (dk d_mR_isPerson 4 rfl) (by decide) ?_
  refine g_isub (pc := 7) (dk d_mR_isPerson 5 rfl) ?_
  refine h_callSi (d := d + 1) (pc := 8) (na := 3) (av := [pI a1, pI 0, pI (w32 ((w 46 1) - 1))]) ⟨rfl, rfl⟩ (dk d_mR_isPerson 6 rfl) lk_R_140 vm_mR_in rfl rfl (Nat.le_of_ble_eq_true rfl) h (fun r2 u1 hq => kR_in E (d + 0) hq) (fun r2 u1 hb3 h => ?_)
  exact h_zret (pc := 11) (hb3 rfl) (dk d_mR_isPerson 7 rfl) h
set_option maxRecDepth 100000 in
set_option maxHeartbeats 4000000 in
theorem kR_isPerson (E : Nat × (Int → Int)) (d : Nat) {a1 : Int} {w w1 : WD} {r : Int} (h : fR_isPerson a1 w = some (r, w1)) : CTi E mR_isPerson (d + 2) [pR 46, pI a1] w RF NN r w1 RF NN := by
  exact CTi_of (by decide +kernel) (Nat.le_of_ble_eq_true rfl) (Or.inr rfl) (gR_isPerson (res := (r, w1)) E d a1 w h)
def fR_isOne (a1 : Int) (a2 : Int) (w : WD) : Option (Int × WD) := ci (fR_in a2 0 3 w) <| fun (r2 : Int) (u1 : WD) => if r2 = 0 then (ci (fR_in a2 4 7 u1) <| fun (r5 : Int) (u4 : WD) => if r5 = 0 then (if a2 ≠ 8 then (ci (fR_in a2 9 12 u4) <| fun (r8 : Int) (u7 : WD) => if r8 = 0 then (some (0, u7)) else (if a1 ≠ 0 then (some (0, u7)) else (some (1, u7)))) else (ci (fR_in a1 0 2 u4) <| fun (r13 : Int) (u12 : WD) => some (r13, u12))) else (ci (fR_isMask a1 u4) <| fun (r17 : Int) (u16 : WD) => some (r17, u16))) else (ci (fR_isPerson a1 u1) <| fun (r21 : Int) (u20 : WD) => some (r21, u20))
set_option maxRecDepth 100000 in
set_option maxHeartbeats 4000000 in
theorem gR_isOne (E : Nat × (Int → Int)) (d : Nat) {res : Int × WD} (a1 : Int) (a2 : Int) (w : WD) (h : fR_isOne a1 a2 w = some res) : G E mR_isOne (d + 3) 0 [(0, pR 46), (1, pI a1), (2, pI a2)] [] w RF NN 0 0 (some (pI res.1), res.2, RF, NN) := by
  unfold fR_isOne at h
  refine g_iload_n (pc := 0) (j := 2) (dk d_mR_isOne 0 rfl) rfl ?_
  refine g_iconst (pc := 1) (dk d_mR_isOne 1 rfl) (by decide) ?_
  refine g_iconst (pc := 2) (dk d_mR_isOne 2 rfl) (by decide) ?_
  refine h_callSi (d := d + 2) (pc := 3) (na := 3) (av := [pI a2, pI 0, pI 3]) ⟨rfl, rfl⟩ (dk d_mR_isOne 3 rfl) lk_R_140 vm_mR_in rfl rfl (Nat.le_of_ble_eq_true rfl) h (fun r2 u1 hq => kR_in E (d + 1) hq) (fun r2 u1 hb3 h => ?_)
  refine h_if_eq (pc := 6) (tgt := 17) (dk d_mR_isOne 4 rfl) rfl h (fun hc23 h => ?_) (fun hc23 h => ?_)
  · refine g_iload_n (pc := 17) (j := 2) (dk d_mR_isOne 9 rfl) rfl ?_
    refine g_iconst (pc := 18) (dk d_mR_isOne 10 rfl) (by decide) ?_
    refine g_bipush (pc := 19) (dk d_mR_isOne 11 rfl) (by decide) ?_
    refine h_callSi (d := d + 2) (pc := 21) (na := 3) (av := [pI a2, pI 4, pI 7]) ⟨rfl, rfl⟩ (dk d_mR_isOne 12 rfl) lk_R_140 vm_mR_in rfl rfl (Nat.le_of_ble_eq_true rfl) h (fun r5 u4 hq => kR_in E (d + 1) hq) (fun r5 u4 hb6 h => ?_)
    refine h_if_eq (pc := 24) (tgt := 35) (dk d_mR_isOne 13 rfl) rfl h (fun hc19 h => ?_) (fun hc19 h => ?_)
    · refine g_iload_n (pc := 35) (j := 2) (dk d_mR_isOne 18 rfl) rfl ?_
      refine g_bipush (pc := 36) (dk d_mR_isOne 19 rfl) (by decide) ?_
      refine h_icmp_ne (pc := 38) (tgt := 50) (dk d_mR_isOne 20 rfl) rfl h (fun hc15 h => ?_) (fun hc15 h => ?_)
      · refine g_iload_n (pc := 50) (j := 2) (dk d_mR_isOne 26 rfl) rfl ?_
        refine g_bipush (pc := 51) (dk d_mR_isOne 27 rfl) (by decide) ?_
        refine g_bipush (pc := 53) (dk d_mR_isOne 28 rfl) (by decide) ?_
        refine h_callSi (d := d + 2) (pc := 55) (na := 3) (av := [pI a2, pI 9, pI 12]) ⟨rfl, rfl⟩ (dk d_mR_isOne 29 rfl) lk_R_140 vm_mR_in rfl rfl (Nat.le_of_ble_eq_true rfl) h (fun r8 u7 hq => kR_in E (d + 1) hq) (fun r8 u7 hb9 h => ?_)
        refine h_if_eq (pc := 58) (tgt := 69) (dk d_mR_isOne 30 rfl) rfl h (fun hc11 h => ?_) (fun hc11 h => ?_)
        · refine g_iconst (pc := 69) (dk d_mR_isOne 35 rfl) (by decide) ?_
          exact h_zret (pc := 70) (Or.inl rfl) (dk d_mR_isOne 36 rfl) h
        · refine g_iload_n (pc := 61) (j := 1) (dk d_mR_isOne 31 rfl) rfl ?_
          refine h_if_ne (pc := 62) (tgt := 69) (dk d_mR_isOne 32 rfl) rfl h (fun hc10 h => ?_) (fun hc10 h => ?_)
          · refine g_iconst (pc := 69) (dk d_mR_isOne 35 rfl) (by decide) ?_
            exact h_zret (pc := 70) (Or.inl rfl) (dk d_mR_isOne 36 rfl) h
          · refine g_iconst (pc := 65) (dk d_mR_isOne 33 rfl) (by decide) ?_
            refine g_goto (pc := 66) (tgt := 70) (dk d_mR_isOne 34 rfl) rfl ?_
            exact h_zret (pc := 70) (Or.inr rfl) (dk d_mR_isOne 36 rfl) h
      · refine g_iload_n (pc := 41) (j := 1) (dk d_mR_isOne 21 rfl) rfl ?_
        refine g_iconst (pc := 42) (dk d_mR_isOne 22 rfl) (by decide) ?_
        refine g_iconst (pc := 43) (dk d_mR_isOne 23 rfl) (by decide) ?_
        refine h_callSi (d := d + 2) (pc := 44) (na := 3) (av := [pI a1, pI 0, pI 2]) ⟨rfl, rfl⟩ (dk d_mR_isOne 24 rfl) lk_R_140 vm_mR_in rfl rfl (Nat.le_of_ble_eq_true rfl) h (fun r13 u12 hq => kR_in E (d + 1) hq) (fun r13 u12 hb14 h => ?_)
        refine g_goto (pc := 47) (tgt := 70) (dk d_mR_isOne 25 rfl) rfl ?_
        exact h_zret (pc := 70) (hb14 rfl) (dk d_mR_isOne 36 rfl) h
    · refine g_aload_n (pc := 27) (j := 0) (dk d_mR_isOne 14 rfl) rfl (by decide) ?_
      refine g_iload_n (pc := 28) (j := 1) (dk d_mR_isOne 15 rfl) rfl ?_
      refine h_callVi (d := d + 2) (pc := 29) (na := 1) (av := [pI a1]) (k0 := 46) po_46 ⟨_, rfl⟩ ⟨rfl, rfl⟩ (dk d_mR_isOne 16 rfl) lk_R_177 vm_mR_isMask rfl rfl (Nat.le_of_ble_eq_true rfl) h (fun r17 u16 hq => kR_isMask E (d + 0) hq) (fun r17 u16 hb18 h => ?_)
      refine g_goto (pc := 32) (tgt := 70) (dk d_mR_isOne 17 rfl) rfl ?_
      exact h_zret (pc := 70) (hb18 rfl) (dk d_mR_isOne 36 rfl) h
  · refine g_aload_n (pc := 9) (j := 0) (dk d_mR_isOne 5 rfl) rfl (by decide) ?_
    refine g_iload_n (pc := 10) (j := 1) (dk d_mR_isOne 6 rfl) rfl ?_
    refine h_callVi (d := d + 2) (pc := 11) (na := 1) (av := [pI a1]) (k0 := 46) po_46 ⟨_, rfl⟩ ⟨rfl, rfl⟩ (dk d_mR_isOne 7 rfl) lk_R_147 vm_mR_isPerson rfl rfl (Nat.le_of_ble_eq_true rfl) h (fun r21 u20 hq => kR_isPerson E (d + 0) hq) (fun r21 u20 hb22 h => ?_)
    refine g_goto (pc := 14) (tgt := 70) (dk d_mR_isOne 8 rfl) rfl ?_
    exact h_zret (pc := 70) (hb22 rfl) (dk d_mR_isOne 36 rfl) h
set_option maxRecDepth 100000 in
set_option maxHeartbeats 4000000 in
theorem kR_isOne (E : Nat × (Int → Int)) (d : Nat) {a1 : Int} {a2 : Int} {w w1 : WD} {r : Int} (h : fR_isOne a1 a2 w = some (r, w1)) : CTi E mR_isOne (d + 3) [pR 46, pI a1, pI a2] w RF NN r w1 RF NN := by
  exact CTi_of (by decide +kernel) (Nat.le_of_ble_eq_true rfl) (Or.inr rfl) (gR_isOne (res := (r, w1)) E d a1 a2 w h)
def fR_mayHave (a0 : Int) (a1 : Int) (w : WD) : Option (Int × WD) := if 3 ≤ a0 then (ci (fR_in a0 4 6 w) <| fun (r2 : Int) (u1 : WD) => if r2 = 0 then (if a0 = 7 then (ci (fR_in a1 0 127 u1) <| fun (r5 : Int) (u4 : WD) => some (r5, u4)) else (if a0 = 8 ∨ a0 = 10 then (ci (fR_in a1 0 9 u1) <| fun (r9 : Int) (u8 : WD) => some (r9, u8)) else (if a0 = 9 then (ci (fR_in a1 0 2 u1) <| fun (r13 : Int) (u12 : WD) => some (r13, u12)) else (if a0 = 11 then (ci (fR_in a1 0 99 u1) <| fun (r17 : Int) (u16 : WD) => some (r17, u16)) else (if a0 = 12 then (ci (fR_in a1 1 30 u1) <| fun (r21 : Int) (u20 : WD) => some (r21, u20)) else ((ci (fR_in a1 0 9 u1) <| fun (r25 : Int) (u24 : WD) => some (r25, u24)))))))) else (ci (fR_in a1 (-1) 3 u1) <| fun (r28 : Int) (u27 : WD) => some (r28, u27))) else (ci (fR_in a1 0 3 w) <| fun (r32 : Int) (u31 : WD) => some (r32, u31))
set_option maxRecDepth 100000 in
set_option maxHeartbeats 4000000 in
theorem gR_mayHave (E : Nat × (Int → Int)) (d : Nat) {res : Int × WD} (a0 : Int) (a1 : Int) (w : WD) (h : fR_mayHave a0 a1 w = some res) : G E mR_mayHave (d + 2) 0 [(0, pI a0), (1, pI a1)] [] w RF NN 0 0 (some (pI res.1), res.2, RF, NN) := by
  unfold fR_mayHave at h
  refine g_iload_n (pc := 0) (j := 0) (dk d_mR_mayHave 0 rfl) rfl ?_
  refine g_iconst (pc := 1) (dk d_mR_mayHave 1 rfl) (by decide) ?_
  refine h_icmp_ge (pc := 2) (tgt := 12) (dk d_mR_mayHave 2 rfl) rfl h (fun hc34 h => ?_) (fun hc34 h => ?_)
  · refine g_iload_n (pc := 12) (j := 0) (dk d_mR_mayHave 8 rfl) rfl ?_
    refine g_iconst (pc := 13) (dk d_mR_mayHave 9 rfl) (by decide) ?_
    refine g_bipush (pc := 14) (dk d_mR_mayHave 10 rfl) (by decide) ?_
    refine h_callSi (d := d + 1) (pc := 16) (na := 3) (av := [pI a0, pI 4, pI 6]) ⟨rfl, rfl⟩ (dk d_mR_mayHave 11 rfl) lk_R_140 vm_mR_in rfl rfl (Nat.le_of_ble_eq_true rfl) h (fun r2 u1 hq => kR_in E (d + 0) hq) (fun r2 u1 hb3 h => ?_)
    refine h_if_eq (pc := 19) (tgt := 29) (dk d_mR_mayHave 12 rfl) rfl h (fun hc30 h => ?_) (fun hc30 h => ?_)
    · refine g_iload_n (pc := 29) (j := 0) (dk d_mR_mayHave 18 rfl) rfl ?_
      refine br h (fun hc7 h => ?_) (fun hc7 h => ?_)
      · refine g_tin (pc := 30) (off := 38) (tgt := 68) (dk d_mR_mayHave 19 rfl) (by omega) (by omega) (by rw [hc7]; rfl) rfl ?_
        refine g_iload_n (pc := 68) (j := 1) (dk d_mR_mayHave 20 rfl) rfl ?_
        refine g_iconst (pc := 69) (dk d_mR_mayHave 21 rfl) (by decide) ?_
        refine g_bipush (pc := 70) (dk d_mR_mayHave 22 rfl) (by decide) ?_
        refine h_callSi (d := d + 1) (pc := 72) (na := 3) (av := [pI a1, pI 0, pI 127]) ⟨rfl, rfl⟩ (dk d_mR_mayHave 23 rfl) lk_R_140 vm_mR_in rfl rfl (Nat.le_of_ble_eq_true rfl) h (fun r5 u4 hq => kR_in E (d + 0) hq) (fun r5 u4 hb6 h => ?_)
        exact h_zret (pc := 75) (hb6 rfl) (dk d_mR_mayHave 24 rfl) h
      · refine br h (fun hc11 h => ?_) (fun hc11 h => ?_)
        · refine g_tin (pc := 30) (off := 69) (tgt := 99) (dk d_mR_mayHave 19 rfl) (by omega) (by omega) (by rcases hc11 with hc11 | hc11 <;> rw [hc11] <;> rfl) rfl ?_
          refine g_iload_n (pc := 99) (j := 1) (dk d_mR_mayHave 40 rfl) rfl ?_
          refine g_iconst (pc := 100) (dk d_mR_mayHave 41 rfl) (by decide) ?_
          refine g_bipush (pc := 101) (dk d_mR_mayHave 42 rfl) (by decide) ?_
          refine h_callSi (d := d + 1) (pc := 103) (na := 3) (av := [pI a1, pI 0, pI 9]) ⟨rfl, rfl⟩ (dk d_mR_mayHave 43 rfl) lk_R_140 vm_mR_in rfl rfl (Nat.le_of_ble_eq_true rfl) h (fun r9 u8 hq => kR_in E (d + 0) hq) (fun r9 u8 hb10 h => ?_)
          exact h_zret (pc := 106) (hb10 rfl) (dk d_mR_mayHave 44 rfl) h
        · refine br h (fun hc15 h => ?_) (fun hc15 h => ?_)
          · refine g_tin (pc := 30) (off := 46) (tgt := 76) (dk d_mR_mayHave 19 rfl) (by omega) (by omega) (by rw [hc15]; rfl) rfl ?_
            refine g_iload_n (pc := 76) (j := 1) (dk d_mR_mayHave 25 rfl) rfl ?_
            refine g_iconst (pc := 77) (dk d_mR_mayHave 26 rfl) (by decide) ?_
            refine g_iconst (pc := 78) (dk d_mR_mayHave 27 rfl) (by decide) ?_
            refine h_callSi (d := d + 1) (pc := 79) (na := 3) (av := [pI a1, pI 0, pI 2]) ⟨rfl, rfl⟩ (dk d_mR_mayHave 28 rfl) lk_R_140 vm_mR_in rfl rfl (Nat.le_of_ble_eq_true rfl) h (fun r13 u12 hq => kR_in E (d + 0) hq) (fun r13 u12 hb14 h => ?_)
            exact h_zret (pc := 82) (hb14 rfl) (dk d_mR_mayHave 29 rfl) h
          · refine br h (fun hc19 h => ?_) (fun hc19 h => ?_)
            · refine g_tin (pc := 30) (off := 53) (tgt := 83) (dk d_mR_mayHave 19 rfl) (by omega) (by omega) (by rw [hc19]; rfl) rfl ?_
              refine g_iload_n (pc := 83) (j := 1) (dk d_mR_mayHave 30 rfl) rfl ?_
              refine g_iconst (pc := 84) (dk d_mR_mayHave 31 rfl) (by decide) ?_
              refine g_bipush (pc := 85) (dk d_mR_mayHave 32 rfl) (by decide) ?_
              refine h_callSi (d := d + 1) (pc := 87) (na := 3) (av := [pI a1, pI 0, pI 99]) ⟨rfl, rfl⟩ (dk d_mR_mayHave 33 rfl) lk_R_140 vm_mR_in rfl rfl (Nat.le_of_ble_eq_true rfl) h (fun r17 u16 hq => kR_in E (d + 0) hq) (fun r17 u16 hb18 h => ?_)
              exact h_zret (pc := 90) (hb18 rfl) (dk d_mR_mayHave 34 rfl) h
            · refine br h (fun hc23 h => ?_) (fun hc23 h => ?_)
              · refine g_tin (pc := 30) (off := 61) (tgt := 91) (dk d_mR_mayHave 19 rfl) (by omega) (by omega) (by rw [hc23]; rfl) rfl ?_
                refine g_iload_n (pc := 91) (j := 1) (dk d_mR_mayHave 35 rfl) rfl ?_
                refine g_iconst (pc := 92) (dk d_mR_mayHave 36 rfl) (by decide) ?_
                refine g_bipush (pc := 93) (dk d_mR_mayHave 37 rfl) (by decide) ?_
                refine h_callSi (d := d + 1) (pc := 95) (na := 3) (av := [pI a1, pI 1, pI 30]) ⟨rfl, rfl⟩ (dk d_mR_mayHave 38 rfl) lk_R_140 vm_mR_in rfl rfl (Nat.le_of_ble_eq_true rfl) h (fun r21 u20 hq => kR_in E (d + 0) hq) (fun r21 u20 hb22 h => ?_)
                exact h_zret (pc := 98) (hb22 rfl) (dk d_mR_mayHave 39 rfl) h
              · refine g_tout (pc := 30) (tgt := 99) (dk d_mR_mayHave 19 rfl) (by omega) rfl ?_
                refine g_iload_n (pc := 99) (j := 1) (dk d_mR_mayHave 40 rfl) rfl ?_
                refine g_iconst (pc := 100) (dk d_mR_mayHave 41 rfl) (by decide) ?_
                refine g_bipush (pc := 101) (dk d_mR_mayHave 42 rfl) (by decide) ?_
                refine h_callSi (d := d + 1) (pc := 103) (na := 3) (av := [pI a1, pI 0, pI 9]) ⟨rfl, rfl⟩ (dk d_mR_mayHave 43 rfl) lk_R_140 vm_mR_in rfl rfl (Nat.le_of_ble_eq_true rfl) h (fun r25 u24 hq => kR_in E (d + 0) hq) (fun r25 u24 hb26 h => ?_)
                exact h_zret (pc := 106) (hb26 rfl) (dk d_mR_mayHave 44 rfl) h
    · refine g_iload_n (pc := 22) (j := 1) (dk d_mR_mayHave 13 rfl) rfl ?_
      refine g_iconst (pc := 23) (dk d_mR_mayHave 14 rfl) (by decide) ?_
      refine g_iconst (pc := 24) (dk d_mR_mayHave 15 rfl) (by decide) ?_
      refine h_callSi (d := d + 1) (pc := 25) (na := 3) (av := [pI a1, pI (-1), pI 3]) ⟨rfl, rfl⟩ (dk d_mR_mayHave 16 rfl) lk_R_140 vm_mR_in rfl rfl (Nat.le_of_ble_eq_true rfl) h (fun r28 u27 hq => kR_in E (d + 0) hq) (fun r28 u27 hb29 h => ?_)
      exact h_zret (pc := 28) (hb29 rfl) (dk d_mR_mayHave 17 rfl) h
  · refine g_iload_n (pc := 5) (j := 1) (dk d_mR_mayHave 3 rfl) rfl ?_
    refine g_iconst (pc := 6) (dk d_mR_mayHave 4 rfl) (by decide) ?_
    refine g_iconst (pc := 7) (dk d_mR_mayHave 5 rfl) (by decide) ?_
    refine h_callSi (d := d + 1) (pc := 8) (na := 3) (av := [pI a1, pI 0, pI 3]) ⟨rfl, rfl⟩ (dk d_mR_mayHave 6 rfl) lk_R_140 vm_mR_in rfl rfl (Nat.le_of_ble_eq_true rfl) h (fun r32 u31 hq => kR_in E (d + 0) hq) (fun r32 u31 hb33 h => ?_)
    exact h_zret (pc := 11) (hb33 rfl) (dk d_mR_mayHave 7 rfl) h
set_option maxRecDepth 100000 in
set_option maxHeartbeats 4000000 in
theorem kR_mayHave (E : Nat × (Int → Int)) (d : Nat) {a0 : Int} {a1 : Int} {w w1 : WD} {r : Int} (h : fR_mayHave a0 a1 w = some (r, w1)) : CTi E mR_mayHave (d + 2) [pI a0, pI a1] w RF NN r w1 RF NN := by
  exact CTi_of (by decide +kernel) (Nat.le_of_ble_eq_true rfl) (Or.inr rfl) (gR_mayHave (res := (r, w1)) E d a0 a1 w h)
def fR_mend (a1 : Int) (a2 : Int) (a3 : Int) (w : WD) : Option (Int × WD) := ci (fR_isOne a1 a2 w) <| fun (r2 : Int) (u1 : WD) => if r2 = 0 then (some ((-2000000000), u1)) else (ci (fR_mayHave a2 a3 u1) <| fun (r5 : Int) (u4 : WD) => if r5 = 0 then (some ((-2000000000), u4)) else (ci (fR_changes a2 a1 a3 u4) <| fun (r8 : Int) (u7 : WD) => some (r8, u7)))
set_option maxRecDepth 100000 in
set_option maxHeartbeats 4000000 in
theorem gR_mend (E : Nat × (Int → Int)) (d : Nat) {res : Int × WD} (a1 : Int) (a2 : Int) (a3 : Int) (w : WD) (h : fR_mend a1 a2 a3 w = some res) : G E mR_mend (d + 4) 0 [(0, pR 46), (1, pI a1), (2, pI a2), (3, pI a3)] [] w RF NN 0 0 (some (pI res.1), res.2, RF, NN) := by
  unfold fR_mend at h
  refine g_aload_n (pc := 0) (j := 0) (dk d_mR_mend 0 rfl) rfl (by decide) ?_
  refine g_iload_n (pc := 1) (j := 1) (dk d_mR_mend 1 rfl) rfl ?_
  refine g_iload_n (pc := 2) (j := 2) (dk d_mR_mend 2 rfl) rfl ?_
  refine h_callVi (d := d + 3) (pc := 3) (na := 2) (av := [pI a1, pI a2]) (k0 := 46) po_46 ⟨_, rfl⟩ ⟨rfl, rfl⟩ (dk d_mR_mend 3 rfl) lk_R_180 vm_mR_isOne rfl rfl (Nat.le_of_ble_eq_true rfl) h (fun r2 u1 hq => kR_isOne E (d + 0) hq) (fun r2 u1 hb3 h => ?_)
  refine h_if_eq (pc := 6) (tgt := 27) (dk d_mR_mend 4 rfl) rfl h (fun hc11 h => ?_) (fun hc11 h => ?_)
  · refine g_ldc (pc := 27) (u := (-2000000000)) ck_R_190 (by decide) (dk d_mR_mend 15 rfl) ?_
    exact h_iret (pc := 29) rfl (dk d_mR_mend 16 rfl) h
  · refine g_iload_n (pc := 9) (j := 2) (dk d_mR_mend 5 rfl) rfl ?_
    refine g_iload_n (pc := 10) (j := 3) (dk d_mR_mend 6 rfl) rfl ?_
    refine h_callSi (d := d + 3) (pc := 11) (na := 2) (av := [pI a2, pI a3]) ⟨rfl, rfl⟩ (dk d_mR_mend 7 rfl) lk_R_184 vm_mR_mayHave rfl rfl (Nat.le_of_ble_eq_true rfl) h (fun r5 u4 hq => kR_mayHave E (d + 1) hq) (fun r5 u4 hb6 h => ?_)
    refine h_if_eq (pc := 14) (tgt := 27) (dk d_mR_mend 8 rfl) rfl h (fun hc10 h => ?_) (fun hc10 h => ?_)
    · refine g_ldc (pc := 27) (u := (-2000000000)) ck_R_190 (by decide) (dk d_mR_mend 15 rfl) ?_
      exact h_iret (pc := 29) rfl (dk d_mR_mend 16 rfl) h
    · refine g_aload_n (pc := 17) (j := 0) (dk d_mR_mend 9 rfl) rfl (by decide) ?_
      refine g_iload_n (pc := 18) (j := 2) (dk d_mR_mend 10 rfl) rfl ?_
      refine g_iload_n (pc := 19) (j := 1) (dk d_mR_mend 11 rfl) rfl ?_
      refine g_iload_n (pc := 20) (j := 3) (dk d_mR_mend 12 rfl) rfl ?_
      refine h_callVi (d := d + 3) (pc := 21) (na := 3) (av := [pI a2, pI a1, pI a3]) (k0 := 46) po_46 ⟨_, rfl⟩ ⟨rfl, rfl⟩ (dk d_mR_mend 13 rfl) lk_R_187 vm_mR_changes rfl rfl (Nat.le_of_ble_eq_true rfl) h (fun r8 u7 hq => kR_changes E (d + 1) hq) (fun r8 u7 hb9 h => ?_)
      refine g_goto (pc := 24) (tgt := 29) (dk d_mR_mend 14 rfl) rfl ?_
      exact h_iret (pc := 29) rfl (dk d_mR_mend 16 rfl) h
set_option maxRecDepth 100000 in
set_option maxHeartbeats 4000000 in
theorem kR_mend (E : Nat × (Int → Int)) (d : Nat) {a1 : Int} {a2 : Int} {a3 : Int} {w w1 : WD} {r : Int} (h : fR_mend a1 a2 a3 w = some (r, w1)) : CTi E mR_mend (d + 4) [pR 46, pI a1, pI a2, pI a3] w RF NN r w1 RF NN := by
  exact CTi_of (by decide +kernel) (Nat.le_of_ble_eq_true rfl) (Or.inl rfl) (gR_mend (res := (r, w1)) E d a1 a2 a3 w h)
def fR_of (a1 : Int) (a2 : Int) (w : WD) : Option (Int × WD) := ci (fR_in a2 13 14 w) <| fun (r2 : Int) (u1 : WD) => if r2 = 0 then (ci (fR_isOne a1 a2 u1) <| fun (r5 : Int) (u4 : WD) => if r5 = 0 then (some ((-2000000000), u4)) else (ci (fR_valueAt a2 a1 u4) <| fun (r8 : Int) (u7 : WD) => some (r8, u7))) else (ci (fR_isMask a1 u1) <| fun (r12 : Int) (u11 : WD) => if r12 ≠ 0 then (if a2 ≠ 13 then (ck (0 ≤ a1 ∧ a1 < 5) <| if (u11 74 a1) = 0 then (some (0, u11)) else (some (1, u11))) else (ck (0 ≤ a1 ∧ a1 < 5) <| some ((u11 73 a1), u11))) else (some ((-2000000000), u11)))
set_option maxRecDepth 100000 in
set_option maxHeartbeats 4000000 in
theorem gR_of (E : Nat × (Int → Int)) (d : Nat) {res : Int × WD} (a1 : Int) (a2 : Int) (w : WD) (h : fR_of a1 a2 w = some res) : G E mR_of (d + 4) 0 [(0, pR 46), (1, pI a1), (2, pI a2)] [] w RF NN 0 0 (some (pI res.1), res.2, RF, NN) := by
  unfold fR_of at h
  refine g_iload_n (pc := 0) (j := 2) (dk d_mR_of 0 rfl) rfl ?_
  refine g_bipush (pc := 1) (dk d_mR_of 1 rfl) (by decide) ?_
  refine g_bipush (pc := 3) (dk d_mR_of 2 rfl) (by decide) ?_
  refine h_callSi (d := d + 3) (pc := 5) (na := 3) (av := [pI a2, pI 13, pI 14]) ⟨rfl, rfl⟩ (dk d_mR_of 3 rfl) lk_R_140 vm_mR_in rfl rfl (Nat.le_of_ble_eq_true rfl) h (fun r2 u1 hq => kR_in E (d + 2) hq) (fun r2 u1 hb3 h => ?_)
  refine h_if_eq (pc := 8) (tgt := 54) (dk d_mR_of 4 rfl) rfl h (fun hc17 h => ?_) (fun hc17 h => ?_)
  · refine g_aload_n (pc := 54) (j := 0) (dk d_mR_of 28 rfl) rfl (by decide) ?_
    refine g_iload_n (pc := 55) (j := 1) (dk d_mR_of 29 rfl) rfl ?_
    refine g_iload_n (pc := 56) (j := 2) (dk d_mR_of 30 rfl) rfl ?_
    refine h_callVi (d := d + 3) (pc := 57) (na := 2) (av := [pI a1, pI a2]) (k0 := 46) po_46 ⟨_, rfl⟩ ⟨rfl, rfl⟩ (dk d_mR_of 31 rfl) lk_R_180 vm_mR_isOne rfl rfl (Nat.le_of_ble_eq_true rfl) h (fun r5 u4 hq => kR_isOne E (d + 0) hq) (fun r5 u4 hb6 h => ?_)
    refine h_if_eq (pc := 60) (tgt := 72) (dk d_mR_of 32 rfl) rfl h (fun hc10 h => ?_) (fun hc10 h => ?_)
    · refine g_ldc (pc := 72) (u := (-2000000000)) ck_R_190 (by decide) (dk d_mR_of 38 rfl) ?_
      exact h_iret (pc := 74) rfl (dk d_mR_of 39 rfl) h
    · refine g_aload_n (pc := 63) (j := 0) (dk d_mR_of 33 rfl) rfl (by decide) ?_
      refine g_iload_n (pc := 64) (j := 2) (dk d_mR_of 34 rfl) rfl ?_
      refine g_iload_n (pc := 65) (j := 1) (dk d_mR_of 35 rfl) rfl ?_
      refine h_callVi (d := d + 3) (pc := 66) (na := 2) (av := [pI a2, pI a1]) (k0 := 46) po_46 ⟨_, rfl⟩ ⟨rfl, rfl⟩ (dk d_mR_of 36 rfl) lk_R_163 vm_mR_valueAt rfl rfl (Nat.le_of_ble_eq_true rfl) h (fun r8 u7 hq => kR_valueAt E (d + 2) hq) (fun r8 u7 hb9 h => ?_)
      refine g_goto (pc := 69) (tgt := 74) (dk d_mR_of 37 rfl) rfl ?_
      exact h_iret (pc := 74) rfl (dk d_mR_of 39 rfl) h
  · refine g_aload_n (pc := 11) (j := 0) (dk d_mR_of 5 rfl) rfl (by decide) ?_
    refine g_iload_n (pc := 12) (j := 1) (dk d_mR_of 6 rfl) rfl ?_
    refine h_callVi (d := d + 3) (pc := 13) (na := 1) (av := [pI a1]) (k0 := 46) po_46 ⟨_, rfl⟩ ⟨rfl, rfl⟩ (dk d_mR_of 7 rfl) lk_R_177 vm_mR_isMask rfl rfl (Nat.le_of_ble_eq_true rfl) h (fun r12 u11 hq => kR_isMask E (d + 1) hq) (fun r12 u11 hb13 h => ?_)
    refine h_if_ne (pc := 16) (tgt := 24) (dk d_mR_of 8 rfl) rfl h (fun hc16 h => ?_) (fun hc16 h => ?_)
    · refine g_iload_n (pc := 24) (j := 2) (dk d_mR_of 11 rfl) rfl ?_
      refine g_bipush (pc := 25) (dk d_mR_of 12 rfl) (by decide) ?_
      refine h_icmp_ne (pc := 27) (tgt := 39) (dk d_mR_of 13 rfl) rfl h (fun hc15 h => ?_) (fun hc15 h => ?_)
      · refine g_aload_n (pc := 39) (j := 0) (dk d_mR_of 19 rfl) rfl (by decide) ?_
        refine g_getR (pc := 40) (a := 74) rfl fp_R_96 po_46 (dk d_mR_of 20 rfl) ?_
        refine g_iload_n (pc := 43) (j := 1) (dk d_mR_of 21 rfl) rfl ?_
        refine h_zald (pc := 44) (B := 5) pa_74 rfl (dk d_mR_of 22 rfl) h (fun h => ?_)
        refine h_if_eq (pc := 45) (tgt := 52) (dk d_mR_of 23 rfl) rfl h (fun hc14 h => ?_) (fun hc14 h => ?_)
        · refine g_iconst (pc := 52) (dk d_mR_of 26 rfl) (by decide) ?_
          exact h_iret (pc := 53) rfl (dk d_mR_of 27 rfl) h
        · refine g_iconst (pc := 48) (dk d_mR_of 24 rfl) (by decide) ?_
          refine g_goto (pc := 49) (tgt := 53) (dk d_mR_of 25 rfl) rfl ?_
          exact h_iret (pc := 53) rfl (dk d_mR_of 27 rfl) h
      · refine g_aload_n (pc := 30) (j := 0) (dk d_mR_of 14 rfl) rfl (by decide) ?_
        refine g_getR (pc := 31) (a := 73) rfl fp_R_93 po_46 (dk d_mR_of 15 rfl) ?_
        refine g_iload_n (pc := 34) (j := 1) (dk d_mR_of 16 rfl) rfl ?_
        refine h_iald (pc := 35) (B := 5) pa_73 rfl (dk d_mR_of 17 rfl) h (fun h => ?_)
        refine g_goto (pc := 36) (tgt := 53) (dk d_mR_of 18 rfl) rfl ?_
        exact h_iret (pc := 53) rfl (dk d_mR_of 27 rfl) h
    · refine g_ldc (pc := 19) (u := (-2000000000)) ck_R_190 (by decide) (dk d_mR_of 9 rfl) ?_
      refine g_goto (pc := 21) (tgt := 53) (dk d_mR_of 10 rfl) rfl ?_
      exact h_iret (pc := 53) rfl (dk d_mR_of 27 rfl) h
set_option maxRecDepth 100000 in
set_option maxHeartbeats 4000000 in
theorem kR_of (E : Nat × (Int → Int)) (d : Nat) {a1 : Int} {a2 : Int} {w w1 : WD} {r : Int} (h : fR_of a1 a2 w = some (r, w1)) : CTi E mR_of (d + 4) [pR 46, pI a1, pI a2] w RF NN r w1 RF NN := by
  exact CTi_of (by decide +kernel) (Nat.le_of_ble_eq_true rfl) (Or.inl rfl) (gR_of (res := (r, w1)) E d a1 a2 w h)
def fR_feed (a1 : Int) (w : WD) : Option (Int × WD) := ci (fR_in a1 0 255 w) <| fun (r2 : Int) (u1 : WD) => if r2 ≠ 0 then (if (u1 46 16) ≠ 120 then (ck (0 ≤ (u1 46 16) ∧ (u1 46 16) < 120) <| bw (up u1 57 (u1 46 16) (w8 (w8 a1))) <| fun (u4 : WD) => bw (up u4 46 16 (w32 ((u4 46 16) + 1))) <| fun (u5 : WD) => some ((u5 46 16), u5)) else (some ((-3), u1))) else (some ((-1), u1))
set_option maxRecDepth 100000 in
set_option maxHeartbeats 4000000 in
theorem gR_feed (E : Nat × (Int → Int)) (d : Nat) {res : Int × WD} (a1 : Int) (w : WD) (h : fR_feed a1 w = some res) : G E mR_feed (d + 2) 0 [(0, pR 46), (1, pI a1)] [] w RF NN 0 0 (some (pI res.1), res.2, RF, NN) := by
  unfold fR_feed at h
  refine g_iload_n (pc := 0) (j := 1) (dk d_mR_feed 0 rfl) rfl ?_
  refine g_iconst (pc := 1) (dk d_mR_feed 1 rfl) (by decide) ?_
  refine g_sipush (pc := 2) (dk d_mR_feed 2 rfl) (by decide) ?_
  refine h_callSi (d := d + 1) (pc := 5) (na := 3) (av := [pI a1, pI 0, pI 255]) ⟨rfl, rfl⟩ (dk d_mR_feed 3 rfl) lk_R_140 vm_mR_in rfl rfl (Nat.le_of_ble_eq_true rfl) h (fun r2 u1 hq => kR_in E (d + 0) hq) (fun r2 u1 hb3 h => ?_)
  refine h_if_ne (pc := 8) (tgt := 13) (dk d_mR_feed 4 rfl) rfl h (fun hc7 h => ?_) (fun hc7 h => ?_)
  · refine g_aload_n (pc := 13) (j := 0) (dk d_mR_feed 7 rfl) rfl (by decide) ?_
    refine g_getI (pc := 14) fp_R_191 po_46 (dk d_mR_feed 8 rfl) ?_
    refine g_bipush (pc := 17) (dk d_mR_feed 9 rfl) (by decide) ?_
    refine h_icmp_ne (pc := 19) (tgt := 25) (dk d_mR_feed 10 rfl) rfl h (fun hc6 h => ?_) (fun hc6 h => ?_)
    · refine g_aload_n (pc := 25) (j := 0) (dk d_mR_feed 13 rfl) rfl (by decide) ?_
      refine g_getR (pc := 26) (a := 57) rfl fp_R_42 po_46 (dk d_mR_feed 14 rfl) ?_
      refine g_aload_n (pc := 29) (j := 0) (dk d_mR_feed 15 rfl) rfl (by decide) ?_
      refine g_getI (pc := 30) fp_R_191 po_46 (dk d_mR_feed 16 rfl) ?_
      refine g_iload_n (pc := 33) (j := 1) (dk d_mR_feed 17 rfl) rfl ?_
      refine g_i2b (pc := 34) (dk d_mR_feed 18 rfl) ?_
      refine h_bast (pc := 35) (B := 120) pa_57 rfl (dk d_mR_feed 19 rfl) h (fun u4 h => ?_)
      refine g_aload_n (pc := 36) (j := 0) (dk d_mR_feed 20 rfl) rfl (by decide) ?_
      refine g_dup (pc := 37) (dk d_mR_feed 21 rfl) rfl ?_
      refine g_getI (pc := 38) fp_R_191 po_46 (dk d_mR_feed 22 rfl) ?_
      refine g_iconst (pc := 41) (dk d_mR_feed 23 rfl) (by decide) ?_
      refine g_iadd (pc := 42) (dk d_mR_feed 24 rfl) ?_
      refine h_putI (pc := 43) fp_R_191 po_46 (dk d_mR_feed 25 rfl) h (fun u5 h => ?_)
      refine g_aload_n (pc := 46) (j := 0) (dk d_mR_feed 26 rfl) rfl (by decide) ?_
      refine g_getI (pc := 47) fp_R_191 po_46 (dk d_mR_feed 27 rfl) ?_
      exact h_iret (pc := 50) rfl (dk d_mR_feed 28 rfl) h
    · refine g_bipush (pc := 22) (dk d_mR_feed 11 rfl) (by decide) ?_
      exact h_iret (pc := 24) rfl (dk d_mR_feed 12 rfl) h
  · refine g_iconst (pc := 11) (dk d_mR_feed 5 rfl) (by decide) ?_
    exact h_iret (pc := 12) rfl (dk d_mR_feed 6 rfl) h
set_option maxRecDepth 100000 in
set_option maxHeartbeats 4000000 in
theorem kR_feed (E : Nat × (Int → Int)) (d : Nat) {a1 : Int} {w w1 : WD} {r : Int} (h : fR_feed a1 w = some (r, w1)) : CTi E mR_feed (d + 2) [pR 46, pI a1] w RF NN r w1 RF NN := by
  exact CTi_of (by decide +kernel) (Nat.le_of_ble_eq_true rfl) (Or.inl rfl) (gR_feed (res := (r, w1)) E d a1 w h)
def fR_addStep (a1 : Int) (a2 : Int) (w : WD) : Option WD := ck (0 ≤ (w32 (130 + (w 46 20))) ∧ (w32 (130 + (w 46 20))) < 260) <| bw (up w 58 (w32 (130 + (w 46 20))) (w8 (w8 a1))) <| fun (u1 : WD) => ck (0 ≤ (w32 (130 + (u1 46 20))) ∧ (w32 (130 + (u1 46 20))) < 260) <| bw (up u1 59 (w32 (130 + (u1 46 20))) a2) <| fun (u2 : WD) => bw (up u2 46 20 (w32 ((u2 46 20) + 1))) <| fun (u3 : WD) => some u3
set_option maxRecDepth 100000 in
set_option maxHeartbeats 4000000 in
theorem gR_addStep (E : Nat × (Int → Int)) (d : Nat) {res : WD} (a1 : Int) (a2 : Int) (w : WD) (h : fR_addStep a1 a2 w = some res) : G E mR_addStep (d + 1) 0 [(0, pR 46), (1, pI a1), (2, pI a2)] [] w RF NN 0 0 (none, res, RF, NN) := by
  unfold fR_addStep at h
  refine g_aload_n (pc := 0) (j := 0) (dk d_mR_addStep 0 rfl) rfl (by decide) ?_
  refine g_getR (pc := 1) (a := 58) rfl fp_R_46 po_46 (dk d_mR_addStep 1 rfl) ?_
  refine g_sipush (pc := 4) (dk d_mR_addStep 2 rfl) (by decide) ?_
  refine g_aload_n (pc := 7) (j := 0) (dk d_mR_addStep 3 rfl) rfl (by decide) ?_
  refine g_getI (pc := 8) fp_R_200 po_46 (dk d_mR_addStep 4 rfl) ?_
  refine g_iadd (pc := 11) (dk d_mR_addStep 5 rfl) ?_
  refine g_iload_n (pc := 12) (j := 1) (dk d_mR_addStep 6 rfl) rfl ?_
  refine g_i2b (pc := 13) (dk d_mR_addStep 7 rfl) ?_
  refine h_bast (pc := 14) (B := 260) pa_58 rfl (dk d_mR_addStep 8 rfl) h (fun u1 h => ?_)
  refine g_aload_n (pc := 15) (j := 0) (dk d_mR_addStep 9 rfl) rfl (by decide) ?_
  refine g_getR (pc := 16) (a := 59) rfl fp_R_49 po_46 (dk d_mR_addStep 10 rfl) ?_
  refine g_sipush (pc := 19) (dk d_mR_addStep 11 rfl) (by decide) ?_
  refine g_aload_n (pc := 22) (j := 0) (dk d_mR_addStep 12 rfl) rfl (by decide) ?_
  refine g_getI (pc := 23) fp_R_200 po_46 (dk d_mR_addStep 13 rfl) ?_
  refine g_iadd (pc := 26) (dk d_mR_addStep 14 rfl) ?_
  refine g_iload_n (pc := 27) (j := 2) (dk d_mR_addStep 15 rfl) rfl ?_
  refine h_iast (pc := 28) (B := 260) pa_59 rfl (dk d_mR_addStep 16 rfl) h (fun u2 h => ?_)
  refine g_aload_n (pc := 29) (j := 0) (dk d_mR_addStep 17 rfl) rfl (by decide) ?_
  refine g_dup (pc := 30) (dk d_mR_addStep 18 rfl) rfl ?_
  refine g_getI (pc := 31) fp_R_200 po_46 (dk d_mR_addStep 19 rfl) ?_
  refine g_iconst (pc := 34) (dk d_mR_addStep 20 rfl) (by decide) ?_
  refine g_iadd (pc := 35) (dk d_mR_addStep 21 rfl) ?_
  refine h_putI (pc := 36) fp_R_200 po_46 (dk d_mR_addStep 22 rfl) h (fun u3 h => ?_)
  exact h_vret (pc := 39) (dk d_mR_addStep 23 rfl) h
set_option maxRecDepth 100000 in
set_option maxHeartbeats 4000000 in
theorem kR_addStep (E : Nat × (Int → Int)) (d : Nat) {a1 : Int} {a2 : Int} {w w1 : WD} (h : fR_addStep a1 a2 w = some w1) : CTv E mR_addStep (d + 1) [pR 46, pI a1, pI a2] w RF NN w1 RF NN := by
  exact CTv_of (by decide +kernel) (Nat.le_of_ble_eq_true rfl) rfl (gR_addStep (res := w1) E d a1 a2 w h)
def fR_looksOn (w : WD) : Option (Int × WD) := if (w 46 16) ≤ (w 46 17) then (some ((-1), w)) else (ck (0 ≤ (w 46 17) ∧ (w 46 17) < 120) <| some ((w 57 (w 46 17)), w))
set_option maxRecDepth 100000 in
set_option maxHeartbeats 4000000 in
theorem gR_looksOn (E : Nat × (Int → Int)) (d : Nat) {res : Int × WD} (w : WD) (h : fR_looksOn w = some res) : G E mR_looksOn (d + 1) 0 [(0, pR 46)] [] w RF NN 0 0 (some (pI res.1), res.2, RF, NN) := by
  unfold fR_looksOn at h
  refine g_aload_n (pc := 0) (j := 0) (dk d_mR_looksOn 0 rfl) rfl (by decide) ?_
  refine g_getI (pc := 1) fp_R_194 po_46 (dk d_mR_looksOn 1 rfl) ?_
  refine g_aload_n (pc := 4) (j := 0) (dk d_mR_looksOn 2 rfl) rfl (by decide) ?_
  refine g_getI (pc := 5) fp_R_191 po_46 (dk d_mR_looksOn 3 rfl) ?_
  refine h_icmp_ge (pc := 8) (tgt := 23) (dk d_mR_looksOn 4 rfl) rfl h (fun hc1 h => ?_) (fun hc1 h => ?_)
  · refine g_iconst (pc := 23) (dk d_mR_looksOn 11 rfl) (by decide) ?_
    exact h_iret (pc := 24) rfl (dk d_mR_looksOn 12 rfl) h
  · refine g_aload_n (pc := 11) (j := 0) (dk d_mR_looksOn 5 rfl) rfl (by decide) ?_
    refine g_getR (pc := 12) (a := 57) rfl fp_R_42 po_46 (dk d_mR_looksOn 6 rfl) ?_
    refine g_aload_n (pc := 15) (j := 0) (dk d_mR_looksOn 7 rfl) rfl (by decide) ?_
    refine g_getI (pc := 16) fp_R_194 po_46 (dk d_mR_looksOn 8 rfl) ?_
    refine h_bald (pc := 19) (B := 120) pa_57 rfl (dk d_mR_looksOn 9 rfl) h (fun h => ?_)
    refine g_goto (pc := 20) (tgt := 24) (dk d_mR_looksOn 10 rfl) rfl ?_
    exact h_iret (pc := 24) rfl (dk d_mR_looksOn 12 rfl) h
set_option maxRecDepth 100000 in
set_option maxHeartbeats 4000000 in
theorem kR_looksOn (E : Nat × (Int → Int)) (d : Nat) {w w1 : WD} {r : Int} (h : fR_looksOn w = some (r, w1)) : CTi E mR_looksOn (d + 1) [pR 46] w RF NN r w1 RF NN := by
  exact CTi_of (by decide +kernel) (Nat.le_of_ble_eq_true rfl) (Or.inl rfl) (gR_looksOn (res := (r, w1)) E d w h)
def fR_wrong (w : WD) : Option WD := if 0 ≤ (w 46 18) then (some w) else (bw (up w 46 18 (w 46 17)) <| fun (u1 : WD) => some u1)
set_option maxRecDepth 100000 in
set_option maxHeartbeats 4000000 in
theorem gR_wrong (E : Nat × (Int → Int)) (d : Nat) {res : WD} (w : WD) (h : fR_wrong w = some res) : G E mR_wrong (d + 1) 0 [(0, pR 46)] [] w RF NN 0 0 (none, res, RF, NN) := by
  unfold fR_wrong at h
  refine g_aload_n (pc := 0) (j := 0) (dk d_mR_wrong 0 rfl) rfl (by decide) ?_
  refine g_getI (pc := 1) fp_R_197 po_46 (dk d_mR_wrong 1 rfl) ?_
  refine h_if_ge (pc := 4) (tgt := 15) (dk d_mR_wrong 2 rfl) rfl h (fun hc2 h => ?_) (fun hc2 h => ?_)
  · exact h_vret (pc := 15) (dk d_mR_wrong 7 rfl) h
  · refine g_aload_n (pc := 7) (j := 0) (dk d_mR_wrong 3 rfl) rfl (by decide) ?_
    refine g_aload_n (pc := 8) (j := 0) (dk d_mR_wrong 4 rfl) rfl (by decide) ?_
    refine g_getI (pc := 9) fp_R_194 po_46 (dk d_mR_wrong 5 rfl) ?_
    refine h_putI (pc := 12) fp_R_197 po_46 (dk d_mR_wrong 6 rfl) h (fun u1 h => ?_)
    exact h_vret (pc := 15) (dk d_mR_wrong 7 rfl) h
set_option maxRecDepth 100000 in
set_option maxHeartbeats 4000000 in
theorem kR_wrong (E : Nat × (Int → Int)) (d : Nat) {w w1 : WD} (h : fR_wrong w = some w1) : CTv E mR_wrong (d + 1) [pR 46] w RF NN w1 RF NN := by
  exact CTv_of (by decide +kernel) (Nat.le_of_ble_eq_true rfl) rfl (gR_wrong (res := w1) E d w h)
def fR_figure_l4_b (rec : Int → Int → WD → Option WD) (K0 : Int → Int → WD → Option WD) (x1 : Int) (x2 : Int) (w : WD) : Option WD := if 4 ≤ x2 then (K0 x1 x2 w) else (ci (fR_looksOn w) <| fun (r2 : Int) (u1 : WD) => ci (fR_in r2 48 57 u1) <| fun (r5 : Int) (u4 : WD) => if r5 = 0 then (K0 x1 x2 u4) else (ci (fR_looksOn u4) <| fun (r8 : Int) (u7 : WD) => bv (w32 ((w32 ((w32 (10 * x1)) + r8)) - 48)) <| fun (v1_10 : Int) => bv (w32 (x2 + 1)) <| fun (v2_11 : Int) => bw (up u7 46 17 (w32 ((u7 46 17) + 1))) <| fun (u12 : WD) => rec v1_10 v2_11 u12))
def fR_figure_l4 (K0 : Int → Int → WD → Option WD) : Nat → Int → Int → WD → Option WD
  | 0 => fun _ _ _ => none
  | k + 1 => fR_figure_l4_b ( fR_figure_l4 K0 k) K0
set_option maxRecDepth 100000 in
set_option maxHeartbeats 4000000 in
theorem fR_figure_l4_b_ok (E : Nat × (Int → Int)) (d : Nat) {res : WD} {rec : Int → Int → WD → Option WD} (K0 : Int → Int → WD → Option WD) (hrec : ∀ (x1 : Int) (x2 : Int) (w : WD), rec x1 x2 w = some res → G E mR_figure (d + 2) 4 [(0, pR 46), (1, pI x1), (2, pI x2)] [] w RF NN 0 0 (none, res, RF, NN)) (hK0 : ∀ (x1 : Int) (x2 : Int) (w : WD), K0 x1 x2 w = some res → G E mR_figure (d + 2) 52 [(0, pR 46), (1, pI x1), (2, pI x2)] [] w RF NN 0 0 (none, res, RF, NN)) (x1 : Int) (x2 : Int) (w : WD) (h : fR_figure_l4_b rec K0 x1 x2 w = some res) : G E mR_figure (d + 2) 4 [(0, pR 46), (1, pI x1), (2, pI x2)] [] w RF NN 0 0 (none, res, RF, NN) := by
  unfold fR_figure_l4_b at h
  refine g_iload_n (pc := 4) (j := 2) (dk d_mR_figure 4 rfl) rfl ?_
  refine g_iconst (pc := 5) (dk d_mR_figure 5 rfl) (by decide) ?_
  refine h_icmp_ge (pc := 6) (tgt := 52) (dk d_mR_figure 6 rfl) rfl h (fun hc14 h => ?_) (fun hc14 h => ?_)
  · exact hK0 _ _ _ h
  · refine g_aload_n (pc := 9) (j := 0) (dk d_mR_figure 7 rfl) rfl (by decide) ?_
    refine h_callVi (d := d + 1) (pc := 10) (na := 0) (av := []) (k0 := 46) po_46 ⟨_, rfl⟩ ⟨rfl, rfl⟩ (dk d_mR_figure 8 rfl) lk_R_209 vm_mR_looksOn rfl rfl (Nat.le_of_ble_eq_true rfl) h (fun r2 u1 hq => kR_looksOn E (d + 0) hq) (fun r2 u1 hb3 h => ?_)
    refine g_bipush (pc := 13) (dk d_mR_figure 9 rfl) (by decide) ?_
    refine g_bipush (pc := 15) (dk d_mR_figure 10 rfl) (by decide) ?_
    refine h_callSi (d := d + 1) (pc := 17) (na := 3) (av := [pI r2, pI 48, pI 57]) ⟨rfl, rfl⟩ (dk d_mR_figure 11 rfl) lk_R_140 vm_mR_in rfl rfl (Nat.le_of_ble_eq_true rfl) h (fun r5 u4 hq => kR_in E (d + 0) hq) (fun r5 u4 hb6 h => ?_)
    refine h_if_eq (pc := 20) (tgt := 52) (dk d_mR_figure 12 rfl) rfl h (fun hc13 h => ?_) (fun hc13 h => ?_)
    · exact hK0 _ _ _ h
    · refine g_bipush (pc := 23) (dk d_mR_figure 13 rfl) (by decide) ?_
      refine g_iload_n (pc := 25) (j := 1) (dk d_mR_figure 14 rfl) rfl ?_
      refine g_imul (pc := 26) (dk d_mR_figure 15 rfl) ?_
      refine g_aload_n (pc := 27) (j := 0) (dk d_mR_figure 16 rfl) rfl (by decide) ?_
      refine h_callVi (d := d + 1) (pc := 28) (na := 0) (av := []) (k0 := 46) po_46 ⟨_, rfl⟩ ⟨rfl, rfl⟩ (dk d_mR_figure 17 rfl) lk_R_209 vm_mR_looksOn rfl rfl (Nat.le_of_ble_eq_true rfl) h (fun r8 u7 hq => kR_looksOn E (d + 0) hq) (fun r8 u7 hb9 h => ?_)
      refine g_iadd (pc := 31) (dk d_mR_figure 18 rfl) ?_
      refine g_bipush (pc := 32) (dk d_mR_figure 19 rfl) (by decide) ?_
      refine g_isub (pc := 34) (dk d_mR_figure 20 rfl) ?_
      refine h_bvI h (fun v1_10 h => ?_)
      refine g_istore_n (pc := 35) (l' := [(1, pI v1_10), (0, pR 46), (2, pI x2)]) (dk d_mR_figure 21 rfl) (Nat.le_of_ble_eq_true rfl) rfl ?_
      refine h_iinc (pc := 36) (j := 2) (dk d_mR_figure 22 rfl) rfl (by decide) (Nat.le_of_ble_eq_true rfl) h (fun v2_11 h => ?_)
      refine g_loc (l' := [(2, pI v2_11), (1, pI v1_10), (0, pR 46)]) rfl ?_
      refine g_aload_n (pc := 39) (j := 2) (dk d_mR_figure 23 rfl) rfl (by decide) ?_
      refine g_dup (pc := 40) (dk d_mR_figure 24 rfl) rfl ?_
      refine g_getI (pc := 41) fp_R_194 po_46 (dk d_mR_figure 25 rfl) ?_
      refine g_iconst (pc := 44) (dk d_mR_figure 26 rfl) (by decide) ?_
      refine g_iadd (pc := 45) (dk d_mR_figure 27 rfl) ?_
      refine h_putI (pc := 46) fp_R_194 po_46 (dk d_mR_figure 28 rfl) h (fun u12 h => ?_)
      refine g_goto (pc := 49) (tgt := 4) (dk d_mR_figure 29 rfl) rfl ?_
      refine g_pick [2, 1, 0] rfl (l' := [(0, pR 46), (1, pI v1_10), (2, pI v2_11)]) rfl ?_
      exact hrec _ _ _ h
set_option maxRecDepth 100000 in
set_option maxHeartbeats 4000000 in
theorem fR_figure_l4_ok (E : Nat × (Int → Int)) (d : Nat) {res : WD} (K0 : Int → Int → WD → Option WD) (hK0 : ∀ (x1 : Int) (x2 : Int) (w : WD), K0 x1 x2 w = some res → G E mR_figure (d + 2) 52 [(0, pR 46), (1, pI x1), (2, pI x2)] [] w RF NN 0 0 (none, res, RF, NN)) : ∀ (k : Nat) (x1 : Int) (x2 : Int) (w : WD), fR_figure_l4 K0 k x1 x2 w = some res → G E mR_figure (d + 2) 4 [(0, pR 46), (1, pI x1), (2, pI x2)] [] w RF NN 0 0 (none, res, RF, NN) := by
  intro k
  induction k with
  | zero =>
    intro x1 x2 w h
    exact no_e h
  | succ k ih =>
    intro x1 x2 w h
    exact fR_figure_l4_b_ok E d K0 ih hK0 x1 x2 w h
def fR_figure (w : WD) : Option WD := fR_figure_l4 (fun (v1_15 : Int) (v2_16 : Int) (u17 : WD) => jn (β := WD → Option WD) (fun (u18 : WD) => cv (fR_addStep 1 v1_15 u18) <| fun (u19 : WD) => some u19) <| fun J20 => jn (β := WD → Option WD) (fun (u21 : WD) => cv (fR_wrong u21) <| fun (u22 : WD) => J20 u22) <| fun J23 => if v2_16 = 0 then (J23 u17) else (ci (fR_looksOn u17) <| fun (r25 : Int) (u24 : WD) => ci (fR_in r25 48 57 u24) <| fun (r28 : Int) (u27 : WD) => if r28 = 0 then (J20 u27) else (J23 u27))) FU 0 0 w
set_option maxRecDepth 100000 in
set_option maxHeartbeats 4000000 in
theorem gR_figure (E : Nat × (Int → Int)) (d : Nat) {res : WD} (w : WD) (h : fR_figure w = some res) : G E mR_figure (d + 2) 0 [(0, pR 46)] [] w RF NN 0 0 (none, res, RF, NN) := by
  unfold fR_figure at h
  refine g_iconst (pc := 0) (dk d_mR_figure 0 rfl) (by decide) ?_
  refine g_istore_n (pc := 1) (l' := [(1, pI 0), (0, pR 46)]) (dk d_mR_figure 1 rfl) (Nat.le_of_ble_eq_true rfl) rfl ?_
  refine g_iconst (pc := 2) (dk d_mR_figure 2 rfl) (by decide) ?_
  refine g_istore_n (pc := 3) (l' := [(2, pI 0), (1, pI 0), (0, pR 46)]) (dk d_mR_figure 3 rfl) (Nat.le_of_ble_eq_true rfl) rfl ?_
  refine g_pick [2, 1, 0] rfl (l' := [(0, pR 46), (1, pI 0), (2, pI 0)]) rfl ?_
  refine fR_figure_l4_ok E d _  (fun v1_15 v2_16 u17 h => ?_) FU _ _  _ h
  · refine g_iload_n (pc := 52) (j := 2) (dk d_mR_figure 30 rfl) rfl ?_
    refine jn_e (fun J => ∀ (u18 : WD), J u18 = some res → G E mR_figure (d + 2) 74 [(0, pR 46), (1, pI v1_15)] [] u18 RF NN 0 0 (none, res, RF, NN)) h (fun u18 h => ?_) (fun J20 hJ20 h => ?_)
    · refine g_aload_n (pc := 74) (j := 0) (dk d_mR_figure 40 rfl) rfl (by decide) ?_
      refine g_iconst (pc := 75) (dk d_mR_figure 41 rfl) (by decide) ?_
      refine g_iload_n (pc := 76) (j := 1) (dk d_mR_figure 42 rfl) rfl ?_
      refine h_callVv (d := d + 1) (pc := 77) (na := 2) (av := [pI 1, pI v1_15]) (k0 := 46) po_46 ⟨_, rfl⟩ ⟨rfl, rfl⟩ (dk d_mR_figure 43 rfl) lk_R_213 vm_mR_addStep rfl rfl (Nat.le_of_ble_eq_true rfl) h (fun u19 hq => kR_addStep E (d + 0) hq) (fun u19 h => ?_)
      exact h_vret (pc := 80) (dk d_mR_figure 44 rfl) h
    · refine jn_e (fun J => ∀ (u21 : WD), J u21 = some res → G E mR_figure (d + 2) 70 [(0, pR 46), (1, pI v1_15)] [] u21 RF NN 0 0 (none, res, RF, NN)) h (fun u21 h => ?_) (fun J23 hJ23 h => ?_)
      · refine g_aload_n (pc := 70) (j := 0) (dk d_mR_figure 38 rfl) rfl (by decide) ?_
        refine h_callVv (d := d + 1) (pc := 71) (na := 0) (av := []) (k0 := 46) po_46 ⟨_, rfl⟩ ⟨rfl, rfl⟩ (dk d_mR_figure 39 rfl) lk_R_206 vm_mR_wrong rfl rfl (Nat.le_of_ble_eq_true rfl) h (fun u22 hq => kR_wrong E (d + 0) hq) (fun u22 h => ?_)
        exact hJ20 _ h
      · refine h_if_eq (pc := 53) (tgt := 70) (dk d_mR_figure 31 rfl) rfl h (fun hc31 h => ?_) (fun hc31 h => ?_)
        · refine g_pick [0, 1] rfl (l' := [(0, pR 46), (1, pI v1_15)]) rfl ?_
          exact hJ23 _ h
        · refine g_aload_n (pc := 56) (j := 0) (dk d_mR_figure 32 rfl) rfl (by decide) ?_
          refine h_callVi (d := d + 1) (pc := 57) (na := 0) (av := []) (k0 := 46) po_46 ⟨_, rfl⟩ ⟨rfl, rfl⟩ (dk d_mR_figure 33 rfl) lk_R_209 vm_mR_looksOn rfl rfl (Nat.le_of_ble_eq_true rfl) h (fun r25 u24 hq => kR_looksOn E (d + 0) hq) (fun r25 u24 hb26 h => ?_)
          refine g_bipush (pc := 60) (dk d_mR_figure 34 rfl) (by decide) ?_
          refine g_bipush (pc := 62) (dk d_mR_figure 35 rfl) (by decide) ?_
          refine h_callSi (d := d + 1) (pc := 64) (na := 3) (av := [pI r25, pI 48, pI 57]) ⟨rfl, rfl⟩ (dk d_mR_figure 36 rfl) lk_R_140 vm_mR_in rfl rfl (Nat.le_of_ble_eq_true rfl) h (fun r28 u27 hq => kR_in E (d + 0) hq) (fun r28 u27 hb29 h => ?_)
          refine h_if_eq (pc := 67) (tgt := 74) (dk d_mR_figure 37 rfl) rfl h (fun hc30 h => ?_) (fun hc30 h => ?_)
          · refine g_pick [0, 1] rfl (l' := [(0, pR 46), (1, pI v1_15)]) rfl ?_
            exact hJ20 _ h
          · refine g_pick [0, 1] rfl (l' := [(0, pR 46), (1, pI v1_15)]) rfl ?_
            exact hJ23 _ h
set_option maxRecDepth 100000 in
set_option maxHeartbeats 4000000 in
theorem kR_figure (E : Nat × (Int → Int)) (d : Nat) {w w1 : WD} (h : fR_figure w = some w1) : CTv E mR_figure (d + 2) [pR 46] w RF NN w1 RF NN := by
  exact CTv_of (by decide +kernel) (Nat.le_of_ble_eq_true rfl) rfl (gR_figure (res := w1) E d w h)
def fR_nameOf (a0 : Int) (w : WD) : Option (Int × WD) := if a0 = 100 then (some (5, w)) else (if a0 = 102 then (some (3, w)) else (if a0 = 107 then (some (4, w)) else (if a0 = 115 then (some (0, w)) else (if a0 = 116 then (some (1, w)) else (if a0 = 120 then (some (2, w)) else ((some ((-1), w))))))))
set_option maxRecDepth 100000 in
set_option maxHeartbeats 4000000 in
theorem gR_nameOf (E : Nat × (Int → Int)) (d : Nat) {res : Int × WD} (a0 : Int) (w : WD) (h : fR_nameOf a0 w = some res) : G E mR_nameOf (d + 1) 0 [(0, pI a0)] [] w RF NN 0 0 (some (pI res.1), res.2, RF, NN) := by
  unfold fR_nameOf at h
  refine g_iload_n (pc := 0) (j := 0) (dk d_mR_nameOf 0 rfl) rfl ?_
  refine br h (fun hc1 h => ?_) (fun hc1 h => ?_)
  · refine g_look (pc := 1) (off := 69) (tgt := 70) (dk d_mR_nameOf 1 rfl) rfl (by rw [hc1]; rfl) rfl ?_
    refine g_iconst (pc := 70) (dk d_mR_nameOf 12 rfl) (by decide) ?_
    exact h_iret (pc := 71) rfl (dk d_mR_nameOf 13 rfl) h
  · refine br h (fun hc2 h => ?_) (fun hc2 h => ?_)
    · refine g_look (pc := 1) (off := 65) (tgt := 66) (dk d_mR_nameOf 1 rfl) rfl (by rw [hc2]; rfl) rfl ?_
      refine g_iconst (pc := 66) (dk d_mR_nameOf 8 rfl) (by decide) ?_
      exact h_iret (pc := 67) rfl (dk d_mR_nameOf 9 rfl) h
    · refine br h (fun hc3 h => ?_) (fun hc3 h => ?_)
      · refine g_look (pc := 1) (off := 67) (tgt := 68) (dk d_mR_nameOf 1 rfl) rfl (by rw [hc3]; rfl) rfl ?_
        refine g_iconst (pc := 68) (dk d_mR_nameOf 10 rfl) (by decide) ?_
        exact h_iret (pc := 69) rfl (dk d_mR_nameOf 11 rfl) h
      · refine br h (fun hc4 h => ?_) (fun hc4 h => ?_)
        · refine g_look (pc := 1) (off := 59) (tgt := 60) (dk d_mR_nameOf 1 rfl) rfl (by rw [hc4]; rfl) rfl ?_
          refine g_iconst (pc := 60) (dk d_mR_nameOf 2 rfl) (by decide) ?_
          exact h_iret (pc := 61) rfl (dk d_mR_nameOf 3 rfl) h
        · refine br h (fun hc5 h => ?_) (fun hc5 h => ?_)
          · refine g_look (pc := 1) (off := 61) (tgt := 62) (dk d_mR_nameOf 1 rfl) rfl (by rw [hc5]; rfl) rfl ?_
            refine g_iconst (pc := 62) (dk d_mR_nameOf 4 rfl) (by decide) ?_
            exact h_iret (pc := 63) rfl (dk d_mR_nameOf 5 rfl) h
          · refine br h (fun hc6 h => ?_) (fun hc6 h => ?_)
            · refine g_look (pc := 1) (off := 63) (tgt := 64) (dk d_mR_nameOf 1 rfl) rfl (by rw [hc6]; rfl) rfl ?_
              refine g_iconst (pc := 64) (dk d_mR_nameOf 6 rfl) (by decide) ?_
              exact h_iret (pc := 65) rfl (dk d_mR_nameOf 7 rfl) h
            · refine g_look (pc := 1) (off := 71) (tgt := 72) (dk d_mR_nameOf 1 rfl) rfl (look_d _ _ _ ⟨by simp only; omega, by simp only; omega, by simp only; omega, by simp only; omega, by simp only; omega, by simp only; omega, trivial⟩) rfl ?_
              refine g_iconst (pc := 72) (dk d_mR_nameOf 14 rfl) (by decide) ?_
              exact h_iret (pc := 73) rfl (dk d_mR_nameOf 15 rfl) h
set_option maxRecDepth 100000 in
set_option maxHeartbeats 4000000 in
theorem kR_nameOf (E : Nat × (Int → Int)) (d : Nat) {a0 : Int} {w w1 : WD} {r : Int} (h : fR_nameOf a0 w = some (r, w1)) : CTi E mR_nameOf (d + 1) [pI a0] w RF NN r w1 RF NN := by
  exact CTi_of (by decide +kernel) (Nat.le_of_ble_eq_true rfl) (Or.inl rfl) (gR_nameOf (res := (r, w1)) E d a0 w h)
def fR_opens (w : WD) : Option (Int × WD) := if (w 46 19) ≠ 6 then (bw (up w 46 19 (w32 ((w 46 19) + 1))) <| fun (u1 : WD) => bw (up u1 46 17 (w32 ((u1 46 17) + 1))) <| fun (u2 : WD) => some (1, u2)) else (cv (fR_wrong w) <| fun (u3 : WD) => some (0, u3))
set_option maxRecDepth 100000 in
set_option maxHeartbeats 4000000 in
theorem gR_opens (E : Nat × (Int → Int)) (d : Nat) {res : Int × WD} (w : WD) (h : fR_opens w = some res) : G E mR_opens (d + 2) 0 [(0, pR 46)] [] w RF NN 0 0 (some (pI res.1), res.2, RF, NN) := by
  unfold fR_opens at h
  refine g_aload_n (pc := 0) (j := 0) (dk d_mR_opens 0 rfl) rfl (by decide) ?_
  refine g_getI (pc := 1) fp_R_203 po_46 (dk d_mR_opens 1 rfl) ?_
  refine g_bipush (pc := 4) (dk d_mR_opens 2 rfl) (by decide) ?_
  refine h_icmp_ne (pc := 6) (tgt := 15) (dk d_mR_opens 3 rfl) rfl h (fun hc4 h => ?_) (fun hc4 h => ?_)
  · refine g_aload_n (pc := 15) (j := 0) (dk d_mR_opens 8 rfl) rfl (by decide) ?_
    refine g_dup (pc := 16) (dk d_mR_opens 9 rfl) rfl ?_
    refine g_getI (pc := 17) fp_R_203 po_46 (dk d_mR_opens 10 rfl) ?_
    refine g_iconst (pc := 20) (dk d_mR_opens 11 rfl) (by decide) ?_
    refine g_iadd (pc := 21) (dk d_mR_opens 12 rfl) ?_
    refine h_putI (pc := 22) fp_R_203 po_46 (dk d_mR_opens 13 rfl) h (fun u1 h => ?_)
    refine g_aload_n (pc := 25) (j := 0) (dk d_mR_opens 14 rfl) rfl (by decide) ?_
    refine g_dup (pc := 26) (dk d_mR_opens 15 rfl) rfl ?_
    refine g_getI (pc := 27) fp_R_194 po_46 (dk d_mR_opens 16 rfl) ?_
    refine g_iconst (pc := 30) (dk d_mR_opens 17 rfl) (by decide) ?_
    refine g_iadd (pc := 31) (dk d_mR_opens 18 rfl) ?_
    refine h_putI (pc := 32) fp_R_194 po_46 (dk d_mR_opens 19 rfl) h (fun u2 h => ?_)
    refine g_iconst (pc := 35) (dk d_mR_opens 20 rfl) (by decide) ?_
    exact h_zret (pc := 36) (Or.inr rfl) (dk d_mR_opens 21 rfl) h
  · refine g_aload_n (pc := 9) (j := 0) (dk d_mR_opens 4 rfl) rfl (by decide) ?_
    refine h_callVv (d := d + 1) (pc := 10) (na := 0) (av := []) (k0 := 46) po_46 ⟨_, rfl⟩ ⟨rfl, rfl⟩ (dk d_mR_opens 5 rfl) lk_R_206 vm_mR_wrong rfl rfl (Nat.le_of_ble_eq_true rfl) h (fun u3 hq => kR_wrong E (d + 0) hq) (fun u3 h => ?_)
    refine g_iconst (pc := 13) (dk d_mR_opens 6 rfl) (by decide) ?_
    exact h_zret (pc := 14) (Or.inl rfl) (dk d_mR_opens 7 rfl) h
set_option maxRecDepth 100000 in
set_option maxHeartbeats 4000000 in
theorem kR_opens (E : Nat × (Int → Int)) (d : Nat) {w w1 : WD} {r : Int} (h : fR_opens w = some (r, w1)) : CTi E mR_opens (d + 2) [pR 46] w RF NN r w1 RF NN := by
  exact CTi_of (by decide +kernel) (Nat.le_of_ble_eq_true rfl) (Or.inr rfl) (gR_opens (res := (r, w1)) E d w h)
def fR_either_o_l4_b (rec : WD → Option WD) (o_both : WD → Option WD) (w : WD) : Option WD := if 0 ≤ (w 46 18) then (some w) else (ci (fR_looksOn w) <| fun (r3 : Int) (u2 : WD) => if r3 ≠ 124 then (some u2) else (bw (up u2 46 17 (w32 ((u2 46 17) + 1))) <| fun (u5 : WD) => cv (o_both u5) <| fun (u6 : WD) => cv (fR_addStep 124 0 u6) <| fun (u7 : WD) => rec u7))
def fR_either_o_l4 (o_both : WD → Option WD) : Nat → WD → Option WD
  | 0 => fun _ => none
  | k + 1 => fR_either_o_l4_b ( fR_either_o_l4 o_both k) o_both
set_option maxRecDepth 100000 in
set_option maxHeartbeats 4000000 in
theorem fR_either_o_l4_b_ok (E : Nat × (Int → Int)) (d : Nat) {res : WD} {rec : WD → Option WD} (o_both : WD → Option WD) (hO_R_both : ∀  {w w1 : WD}, o_both  w = some w1 → CTv E mR_both (d + 3) [pR 46] w RF NN w1 RF NN) (hrec : ∀ (w : WD), rec w = some res → G E mR_either (d + 4) 4 [(0, pR 46)] [] w RF NN 0 0 (none, res, RF, NN))  (w : WD) (h : fR_either_o_l4_b rec o_both w = some res) : G E mR_either (d + 4) 4 [(0, pR 46)] [] w RF NN 0 0 (none, res, RF, NN) := by
  unfold fR_either_o_l4_b at h
  refine g_aload_n (pc := 4) (j := 0) (dk d_mR_either 2 rfl) rfl (by decide) ?_
  refine g_getI (pc := 5) fp_R_197 po_46 (dk d_mR_either 3 rfl) ?_
  refine h_if_ge (pc := 8) (tgt := 44) (dk d_mR_either 4 rfl) rfl h (fun hc9 h => ?_) (fun hc9 h => ?_)
  · exact h_vret (pc := 44) (dk d_mR_either 22 rfl) h
  · refine g_aload_n (pc := 11) (j := 0) (dk d_mR_either 5 rfl) rfl (by decide) ?_
    refine h_callVi (d := d + 3) (pc := 12) (na := 0) (av := []) (k0 := 46) po_46 ⟨_, rfl⟩ ⟨rfl, rfl⟩ (dk d_mR_either 6 rfl) lk_R_209 vm_mR_looksOn rfl rfl (Nat.le_of_ble_eq_true rfl) h (fun r3 u2 hq => kR_looksOn E (d + 2) hq) (fun r3 u2 hb4 h => ?_)
    refine g_bipush (pc := 15) (dk d_mR_either 7 rfl) (by decide) ?_
    refine h_icmp_ne (pc := 17) (tgt := 44) (dk d_mR_either 8 rfl) rfl h (fun hc8 h => ?_) (fun hc8 h => ?_)
    · exact h_vret (pc := 44) (dk d_mR_either 22 rfl) h
    · refine g_aload_n (pc := 20) (j := 0) (dk d_mR_either 9 rfl) rfl (by decide) ?_
      refine g_dup (pc := 21) (dk d_mR_either 10 rfl) rfl ?_
      refine g_getI (pc := 22) fp_R_194 po_46 (dk d_mR_either 11 rfl) ?_
      refine g_iconst (pc := 25) (dk d_mR_either 12 rfl) (by decide) ?_
      refine g_iadd (pc := 26) (dk d_mR_either 13 rfl) ?_
      refine h_putI (pc := 27) fp_R_194 po_46 (dk d_mR_either 14 rfl) h (fun u5 h => ?_)
      refine g_aload_n (pc := 30) (j := 0) (dk d_mR_either 15 rfl) rfl (by decide) ?_
      refine h_callVv (d := d + 3) (pc := 31) (na := 0) (av := []) (k0 := 46) po_46 ⟨_, rfl⟩ ⟨rfl, rfl⟩ (dk d_mR_either 16 rfl) lk_R_243 vm_mR_both rfl rfl (Nat.le_of_ble_eq_true rfl) h (fun u6 hq => hO_R_both hq) (fun u6 h => ?_)
      refine g_aload_n (pc := 34) (j := 0) (dk d_mR_either 17 rfl) rfl (by decide) ?_
      refine g_bipush (pc := 35) (dk d_mR_either 18 rfl) (by decide) ?_
      refine g_iconst (pc := 37) (dk d_mR_either 19 rfl) (by decide) ?_
      refine h_callVv (d := d + 3) (pc := 38) (na := 2) (av := [pI 124, pI 0]) (k0 := 46) po_46 ⟨_, rfl⟩ ⟨rfl, rfl⟩ (dk d_mR_either 20 rfl) lk_R_213 vm_mR_addStep rfl rfl (Nat.le_of_ble_eq_true rfl) h (fun u7 hq => kR_addStep E (d + 2) hq) (fun u7 h => ?_)
      refine g_goto (pc := 41) (tgt := 4) (dk d_mR_either 21 rfl) rfl ?_
      exact hrec _ h
set_option maxRecDepth 100000 in
set_option maxHeartbeats 4000000 in
theorem fR_either_o_l4_ok (E : Nat × (Int → Int)) (d : Nat) {res : WD} (o_both : WD → Option WD) (hO_R_both : ∀  {w w1 : WD}, o_both  w = some w1 → CTv E mR_both (d + 3) [pR 46] w RF NN w1 RF NN) : ∀ (k : Nat)  (w : WD), fR_either_o_l4 o_both k w = some res → G E mR_either (d + 4) 4 [(0, pR 46)] [] w RF NN 0 0 (none, res, RF, NN) := by
  intro k
  induction k with
  | zero =>
    intro w h
    exact no_e h
  | succ k ih =>
    intro w h
    exact fR_either_o_l4_b_ok E d o_both hO_R_both ih w h
def fR_either_o (o_both : WD → Option WD) (w : WD) : Option WD := cv (o_both w) <| fun (u1 : WD) => fR_either_o_l4 o_both FU u1
set_option maxRecDepth 100000 in
set_option maxHeartbeats 4000000 in
theorem gR_either_o (E : Nat × (Int → Int)) (d : Nat) {res : WD} (o_both : WD → Option WD) (hO_R_both : ∀  {w w1 : WD}, o_both  w = some w1 → CTv E mR_both (d + 3) [pR 46] w RF NN w1 RF NN) (w : WD) (h : fR_either_o o_both w = some res) : G E mR_either (d + 4) 0 [(0, pR 46)] [] w RF NN 0 0 (none, res, RF, NN) := by
  unfold fR_either_o at h
  refine g_aload_n (pc := 0) (j := 0) (dk d_mR_either 0 rfl) rfl (by decide) ?_
  refine h_callVv (d := d + 3) (pc := 1) (na := 0) (av := []) (k0 := 46) po_46 ⟨_, rfl⟩ ⟨rfl, rfl⟩ (dk d_mR_either 1 rfl) lk_R_243 vm_mR_both rfl rfl (Nat.le_of_ble_eq_true rfl) h (fun u1 hq => hO_R_both hq) (fun u1 h => ?_)
  refine fR_either_o_l4_ok E d o_both hO_R_both FU _ h
set_option maxRecDepth 100000 in
set_option maxHeartbeats 4000000 in
theorem kR_either_o (E : Nat × (Int → Int)) (d : Nat) (o_both : WD → Option WD) (hO_R_both : ∀  {w w1 : WD}, o_both  w = some w1 → CTv E mR_both (d + 3) [pR 46] w RF NN w1 RF NN) {w w1 : WD} (h : fR_either_o o_both w = some w1) : CTv E mR_either (d + 4) [pR 46] w RF NN w1 RF NN := by
  exact CTv_of (by decide +kernel) (Nat.le_of_ble_eq_true rfl) rfl (gR_either_o (res := w1) E d o_both hO_R_both w h)
def fR_both_o_l4_b (rec : WD → Option WD) (o_compared : WD → Option WD) (w : WD) : Option WD := if 0 ≤ (w 46 18) then (some w) else (ci (fR_looksOn w) <| fun (r3 : Int) (u2 : WD) => if r3 ≠ 38 then (some u2) else (bw (up u2 46 17 (w32 ((u2 46 17) + 1))) <| fun (u5 : WD) => cv (o_compared u5) <| fun (u6 : WD) => cv (fR_addStep 38 0 u6) <| fun (u7 : WD) => rec u7))
def fR_both_o_l4 (o_compared : WD → Option WD) : Nat → WD → Option WD
  | 0 => fun _ => none
  | k + 1 => fR_both_o_l4_b ( fR_both_o_l4 o_compared k) o_compared
set_option maxRecDepth 100000 in
set_option maxHeartbeats 4000000 in
theorem fR_both_o_l4_b_ok (E : Nat × (Int → Int)) (d : Nat) {res : WD} {rec : WD → Option WD} (o_compared : WD → Option WD) (hO_R_compared : ∀  {w w1 : WD}, o_compared  w = some w1 → CTv E mR_compared (d + 3) [pR 46] w RF NN w1 RF NN) (hrec : ∀ (w : WD), rec w = some res → G E mR_both (d + 4) 4 [(0, pR 46)] [] w RF NN 0 0 (none, res, RF, NN))  (w : WD) (h : fR_both_o_l4_b rec o_compared w = some res) : G E mR_both (d + 4) 4 [(0, pR 46)] [] w RF NN 0 0 (none, res, RF, NN) := by
  unfold fR_both_o_l4_b at h
  refine g_aload_n (pc := 4) (j := 0) (dk d_mR_both 2 rfl) rfl (by decide) ?_
  refine g_getI (pc := 5) fp_R_197 po_46 (dk d_mR_both 3 rfl) ?_
  refine h_if_ge (pc := 8) (tgt := 44) (dk d_mR_both 4 rfl) rfl h (fun hc9 h => ?_) (fun hc9 h => ?_)
  · exact h_vret (pc := 44) (dk d_mR_both 22 rfl) h
  · refine g_aload_n (pc := 11) (j := 0) (dk d_mR_both 5 rfl) rfl (by decide) ?_
    refine h_callVi (d := d + 3) (pc := 12) (na := 0) (av := []) (k0 := 46) po_46 ⟨_, rfl⟩ ⟨rfl, rfl⟩ (dk d_mR_both 6 rfl) lk_R_209 vm_mR_looksOn rfl rfl (Nat.le_of_ble_eq_true rfl) h (fun r3 u2 hq => kR_looksOn E (d + 2) hq) (fun r3 u2 hb4 h => ?_)
    refine g_bipush (pc := 15) (dk d_mR_both 7 rfl) (by decide) ?_
    refine h_icmp_ne (pc := 17) (tgt := 44) (dk d_mR_both 8 rfl) rfl h (fun hc8 h => ?_) (fun hc8 h => ?_)
    · exact h_vret (pc := 44) (dk d_mR_both 22 rfl) h
    · refine g_aload_n (pc := 20) (j := 0) (dk d_mR_both 9 rfl) rfl (by decide) ?_
      refine g_dup (pc := 21) (dk d_mR_both 10 rfl) rfl ?_
      refine g_getI (pc := 22) fp_R_194 po_46 (dk d_mR_both 11 rfl) ?_
      refine g_iconst (pc := 25) (dk d_mR_both 12 rfl) (by decide) ?_
      refine g_iadd (pc := 26) (dk d_mR_both 13 rfl) ?_
      refine h_putI (pc := 27) fp_R_194 po_46 (dk d_mR_both 14 rfl) h (fun u5 h => ?_)
      refine g_aload_n (pc := 30) (j := 0) (dk d_mR_both 15 rfl) rfl (by decide) ?_
      refine h_callVv (d := d + 3) (pc := 31) (na := 0) (av := []) (k0 := 46) po_46 ⟨_, rfl⟩ ⟨rfl, rfl⟩ (dk d_mR_both 16 rfl) lk_R_240 vm_mR_compared rfl rfl (Nat.le_of_ble_eq_true rfl) h (fun u6 hq => hO_R_compared hq) (fun u6 h => ?_)
      refine g_aload_n (pc := 34) (j := 0) (dk d_mR_both 17 rfl) rfl (by decide) ?_
      refine g_bipush (pc := 35) (dk d_mR_both 18 rfl) (by decide) ?_
      refine g_iconst (pc := 37) (dk d_mR_both 19 rfl) (by decide) ?_
      refine h_callVv (d := d + 3) (pc := 38) (na := 2) (av := [pI 38, pI 0]) (k0 := 46) po_46 ⟨_, rfl⟩ ⟨rfl, rfl⟩ (dk d_mR_both 20 rfl) lk_R_213 vm_mR_addStep rfl rfl (Nat.le_of_ble_eq_true rfl) h (fun u7 hq => kR_addStep E (d + 2) hq) (fun u7 h => ?_)
      refine g_goto (pc := 41) (tgt := 4) (dk d_mR_both 21 rfl) rfl ?_
      exact hrec _ h
set_option maxRecDepth 100000 in
set_option maxHeartbeats 4000000 in
theorem fR_both_o_l4_ok (E : Nat × (Int → Int)) (d : Nat) {res : WD} (o_compared : WD → Option WD) (hO_R_compared : ∀  {w w1 : WD}, o_compared  w = some w1 → CTv E mR_compared (d + 3) [pR 46] w RF NN w1 RF NN) : ∀ (k : Nat)  (w : WD), fR_both_o_l4 o_compared k w = some res → G E mR_both (d + 4) 4 [(0, pR 46)] [] w RF NN 0 0 (none, res, RF, NN) := by
  intro k
  induction k with
  | zero =>
    intro w h
    exact no_e h
  | succ k ih =>
    intro w h
    exact fR_both_o_l4_b_ok E d o_compared hO_R_compared ih w h
def fR_both_o (o_compared : WD → Option WD) (w : WD) : Option WD := cv (o_compared w) <| fun (u1 : WD) => fR_both_o_l4 o_compared FU u1
set_option maxRecDepth 100000 in
set_option maxHeartbeats 4000000 in
theorem gR_both_o (E : Nat × (Int → Int)) (d : Nat) {res : WD} (o_compared : WD → Option WD) (hO_R_compared : ∀  {w w1 : WD}, o_compared  w = some w1 → CTv E mR_compared (d + 3) [pR 46] w RF NN w1 RF NN) (w : WD) (h : fR_both_o o_compared w = some res) : G E mR_both (d + 4) 0 [(0, pR 46)] [] w RF NN 0 0 (none, res, RF, NN) := by
  unfold fR_both_o at h
  refine g_aload_n (pc := 0) (j := 0) (dk d_mR_both 0 rfl) rfl (by decide) ?_
  refine h_callVv (d := d + 3) (pc := 1) (na := 0) (av := []) (k0 := 46) po_46 ⟨_, rfl⟩ ⟨rfl, rfl⟩ (dk d_mR_both 1 rfl) lk_R_240 vm_mR_compared rfl rfl (Nat.le_of_ble_eq_true rfl) h (fun u1 hq => hO_R_compared hq) (fun u1 h => ?_)
  refine fR_both_o_l4_ok E d o_compared hO_R_compared FU _ h
set_option maxRecDepth 100000 in
set_option maxHeartbeats 4000000 in
theorem kR_both_o (E : Nat × (Int → Int)) (d : Nat) (o_compared : WD → Option WD) (hO_R_compared : ∀  {w w1 : WD}, o_compared  w = some w1 → CTv E mR_compared (d + 3) [pR 46] w RF NN w1 RF NN) {w w1 : WD} (h : fR_both_o o_compared w = some w1) : CTv E mR_both (d + 4) [pR 46] w RF NN w1 RF NN := by
  exact CTv_of (by decide +kernel) (Nat.le_of_ble_eq_true rfl) rfl (gR_both_o (res := w1) E d o_compared hO_R_compared w h)
def fR_compared_o (o_sum : WD → Option WD) (w : WD) : Option WD := cv (o_sum w) <| fun (u1 : WD) => ci (fR_looksOn u1) <| fun (r3 : Int) (u2 : WD) => if 0 ≤ (u2 46 18) then (some u2) else (jn (β := WD → Option WD) (fun (u5 : WD) => bw (up u5 46 17 (w32 ((u5 46 17) + 1))) <| fun (u6 : WD) => cv (o_sum u6) <| fun (u7 : WD) => cv (fR_addStep r3 0 u7) <| fun (u8 : WD) => some u8) <| fun J9 => if r3 = 60 then (J9 u2) else (if r3 = 61 then (J9 u2) else (if r3 = 62 then (J9 u2) else (some u2))))
set_option maxRecDepth 100000 in
set_option maxHeartbeats 4000000 in
theorem gR_compared_o (E : Nat × (Int → Int)) (d : Nat) {res : WD} (o_sum : WD → Option WD) (hO_R_sum : ∀  {w w1 : WD}, o_sum  w = some w1 → CTv E mR_sum (d + 3) [pR 46] w RF NN w1 RF NN) (w : WD) (h : fR_compared_o o_sum w = some res) : G E mR_compared (d + 4) 0 [(0, pR 46)] [] w RF NN 0 0 (none, res, RF, NN) := by
  unfold fR_compared_o at h
  refine g_aload_n (pc := 0) (j := 0) (dk d_mR_compared 0 rfl) rfl (by decide) ?_
  refine h_callVv (d := d + 3) (pc := 1) (na := 0) (av := []) (k0 := 46) po_46 ⟨_, rfl⟩ ⟨rfl, rfl⟩ (dk d_mR_compared 1 rfl) lk_R_237 vm_mR_sum rfl rfl (Nat.le_of_ble_eq_true rfl) h (fun u1 hq => hO_R_sum hq) (fun u1 h => ?_)
  refine g_aload_n (pc := 4) (j := 0) (dk d_mR_compared 2 rfl) rfl (by decide) ?_
  refine h_callVi (d := d + 3) (pc := 5) (na := 0) (av := []) (k0 := 46) po_46 ⟨_, rfl⟩ ⟨rfl, rfl⟩ (dk d_mR_compared 3 rfl) lk_R_209 vm_mR_looksOn rfl rfl (Nat.le_of_ble_eq_true rfl) h (fun r3 u2 hq => kR_looksOn E (d + 2) hq) (fun r3 u2 hb4 h => ?_)
  refine g_istore_n (pc := 8) (l' := [(1, pI r3), (0, pR 46)]) (dk d_mR_compared 4 rfl) (Nat.le_of_ble_eq_true rfl) rfl ?_
  refine g_aload_n (pc := 9) (j := 1) (dk d_mR_compared 5 rfl) rfl (by decide) ?_
  refine g_getI (pc := 10) fp_R_197 po_46 (dk d_mR_compared 6 rfl) ?_
  refine h_if_ge (pc := 13) (tgt := 34) (dk d_mR_compared 7 rfl) rfl h (fun hc13 h => ?_) (fun hc13 h => ?_)
  · exact h_vret (pc := 34) (dk d_mR_compared 17 rfl) h
  · refine g_iload_n (pc := 16) (j := 0) (dk d_mR_compared 8 rfl) rfl ?_
    refine g_bipush (pc := 17) (dk d_mR_compared 9 rfl) (by decide) ?_
    refine jn_e (fun J => ∀ (u5 : WD), J u5 = some res → G E mR_compared (d + 4) 35 [(0, pR 46), (1, pI r3)] [] u5 RF NN 0 0 (none, res, RF, NN)) h (fun u5 h => ?_) (fun J9 hJ9 h => ?_)
    · refine g_aload_n (pc := 35) (j := 0) (dk d_mR_compared 18 rfl) rfl (by decide) ?_
      refine g_dup (pc := 36) (dk d_mR_compared 19 rfl) rfl ?_
      refine g_getI (pc := 37) fp_R_194 po_46 (dk d_mR_compared 20 rfl) ?_
      refine g_iconst (pc := 40) (dk d_mR_compared 21 rfl) (by decide) ?_
      refine g_iadd (pc := 41) (dk d_mR_compared 22 rfl) ?_
      refine h_putI (pc := 42) fp_R_194 po_46 (dk d_mR_compared 23 rfl) h (fun u6 h => ?_)
      refine g_aload_n (pc := 45) (j := 0) (dk d_mR_compared 24 rfl) rfl (by decide) ?_
      refine h_callVv (d := d + 3) (pc := 46) (na := 0) (av := []) (k0 := 46) po_46 ⟨_, rfl⟩ ⟨rfl, rfl⟩ (dk d_mR_compared 25 rfl) lk_R_237 vm_mR_sum rfl rfl (Nat.le_of_ble_eq_true rfl) h (fun u7 hq => hO_R_sum hq) (fun u7 h => ?_)
      refine g_aload_n (pc := 49) (j := 0) (dk d_mR_compared 26 rfl) rfl (by decide) ?_
      refine g_iload_n (pc := 50) (j := 1) (dk d_mR_compared 27 rfl) rfl ?_
      refine g_iconst (pc := 51) (dk d_mR_compared 28 rfl) (by decide) ?_
      refine h_callVv (d := d + 3) (pc := 52) (na := 2) (av := [pI r3, pI 0]) (k0 := 46) po_46 ⟨_, rfl⟩ ⟨rfl, rfl⟩ (dk d_mR_compared 29 rfl) lk_R_213 vm_mR_addStep rfl rfl (Nat.le_of_ble_eq_true rfl) h (fun u8 hq => kR_addStep E (d + 2) hq) (fun u8 h => ?_)
      exact h_vret (pc := 55) (dk d_mR_compared 30 rfl) h
    · refine h_icmp_eq (pc := 19) (tgt := 35) (dk d_mR_compared 10 rfl) rfl h (fun hc12 h => ?_) (fun hc12 h => ?_)
      · refine g_pick [1, 0] rfl (l' := [(0, pR 46), (1, pI r3)]) rfl ?_
        exact hJ9 _ h
      · refine g_iload_n (pc := 22) (j := 0) (dk d_mR_compared 11 rfl) rfl ?_
        refine g_bipush (pc := 23) (dk d_mR_compared 12 rfl) (by decide) ?_
        refine h_icmp_eq (pc := 25) (tgt := 35) (dk d_mR_compared 13 rfl) rfl h (fun hc11 h => ?_) (fun hc11 h => ?_)
        · refine g_pick [1, 0] rfl (l' := [(0, pR 46), (1, pI r3)]) rfl ?_
          exact hJ9 _ h
        · refine g_iload_n (pc := 28) (j := 0) (dk d_mR_compared 14 rfl) rfl ?_
          refine g_bipush (pc := 29) (dk d_mR_compared 15 rfl) (by decide) ?_
          refine h_icmp_eq (pc := 31) (tgt := 35) (dk d_mR_compared 16 rfl) rfl h (fun hc10 h => ?_) (fun hc10 h => ?_)
          · refine g_pick [1, 0] rfl (l' := [(0, pR 46), (1, pI r3)]) rfl ?_
            exact hJ9 _ h
          · exact h_vret (pc := 34) (dk d_mR_compared 17 rfl) h
set_option maxRecDepth 100000 in
set_option maxHeartbeats 4000000 in
theorem kR_compared_o (E : Nat × (Int → Int)) (d : Nat) (o_sum : WD → Option WD) (hO_R_sum : ∀  {w w1 : WD}, o_sum  w = some w1 → CTv E mR_sum (d + 3) [pR 46] w RF NN w1 RF NN) {w w1 : WD} (h : fR_compared_o o_sum w = some w1) : CTv E mR_compared (d + 4) [pR 46] w RF NN w1 RF NN := by
  exact CTv_of (by decide +kernel) (Nat.le_of_ble_eq_true rfl) rfl (gR_compared_o (res := w1) E d o_sum hO_R_sum w h)
def fR_sum_o_l4_b (rec : WD → Option WD) (o_product : WD → Option WD) (w : WD) : Option WD := if 0 ≤ (w 46 18) then (some w) else (ci (fR_looksOn w) <| fun (r3 : Int) (u2 : WD) => jn (β := WD → Option WD) (fun (u5 : WD) => ci (fR_looksOn u5) <| fun (r7 : Int) (u6 : WD) => bw (up u6 46 17 (w32 ((u6 46 17) + 1))) <| fun (u9 : WD) => cv (o_product u9) <| fun (u10 : WD) => cv (fR_addStep r7 0 u10) <| fun (u11 : WD) => rec u11) <| fun J12 => if r3 = 43 then (J12 u2) else (ci (fR_looksOn u2) <| fun (r14 : Int) (u13 : WD) => if r14 ≠ 45 then (some u13) else (J12 u13)))
def fR_sum_o_l4 (o_product : WD → Option WD) : Nat → WD → Option WD
  | 0 => fun _ => none
  | k + 1 => fR_sum_o_l4_b ( fR_sum_o_l4 o_product k) o_product
set_option maxRecDepth 100000 in
set_option maxHeartbeats 4000000 in
theorem fR_sum_o_l4_b_ok (E : Nat × (Int → Int)) (d : Nat) {res : WD} {rec : WD → Option WD} (o_product : WD → Option WD) (hO_R_product : ∀  {w w1 : WD}, o_product  w = some w1 → CTv E mR_product (d + 3) [pR 46] w RF NN w1 RF NN) (hrec : ∀ (w : WD), rec w = some res → G E mR_sum (d + 4) 4 [(0, pR 46)] [] w RF NN 0 0 (none, res, RF, NN))  (w : WD) (h : fR_sum_o_l4_b rec o_product w = some res) : G E mR_sum (d + 4) 4 [(0, pR 46)] [] w RF NN 0 0 (none, res, RF, NN) := by
  unfold fR_sum_o_l4_b at h
  refine g_aload_n (pc := 4) (j := 0) (dk d_mR_sum 2 rfl) rfl (by decide) ?_
  refine g_getI (pc := 5) fp_R_197 po_46 (dk d_mR_sum 3 rfl) ?_
  refine h_if_ge (pc := 8) (tgt := 57) (dk d_mR_sum 4 rfl) rfl h (fun hc18 h => ?_) (fun hc18 h => ?_)
  · exact h_vret (pc := 57) (dk d_mR_sum 29 rfl) h
  · refine g_aload_n (pc := 11) (j := 0) (dk d_mR_sum 5 rfl) rfl (by decide) ?_
    refine h_callVi (d := d + 3) (pc := 12) (na := 0) (av := []) (k0 := 46) po_46 ⟨_, rfl⟩ ⟨rfl, rfl⟩ (dk d_mR_sum 6 rfl) lk_R_209 vm_mR_looksOn rfl rfl (Nat.le_of_ble_eq_true rfl) h (fun r3 u2 hq => kR_looksOn E (d + 2) hq) (fun r3 u2 hb4 h => ?_)
    refine g_bipush (pc := 15) (dk d_mR_sum 7 rfl) (by decide) ?_
    refine jn_e (fun J => ∀ (u5 : WD), J u5 = some res → G E mR_sum (d + 4) 29 [(0, pR 46)] [] u5 RF NN 0 0 (none, res, RF, NN)) h (fun u5 h => ?_) (fun J12 hJ12 h => ?_)
    · refine g_aload_n (pc := 29) (j := 0) (dk d_mR_sum 13 rfl) rfl (by decide) ?_
      refine h_callVi (d := d + 3) (pc := 30) (na := 0) (av := []) (k0 := 46) po_46 ⟨_, rfl⟩ ⟨rfl, rfl⟩ (dk d_mR_sum 14 rfl) lk_R_209 vm_mR_looksOn rfl rfl (Nat.le_of_ble_eq_true rfl) h (fun r7 u6 hq => kR_looksOn E (d + 2) hq) (fun r7 u6 hb8 h => ?_)
      refine g_istore_n (pc := 33) (l' := [(1, pI r7), (0, pR 46)]) (dk d_mR_sum 15 rfl) (Nat.le_of_ble_eq_true rfl) rfl ?_
      refine g_aload_n (pc := 34) (j := 1) (dk d_mR_sum 16 rfl) rfl (by decide) ?_
      refine g_dup (pc := 35) (dk d_mR_sum 17 rfl) rfl ?_
      refine g_getI (pc := 36) fp_R_194 po_46 (dk d_mR_sum 18 rfl) ?_
      refine g_iconst (pc := 39) (dk d_mR_sum 19 rfl) (by decide) ?_
      refine g_iadd (pc := 40) (dk d_mR_sum 20 rfl) ?_
      refine h_putI (pc := 41) fp_R_194 po_46 (dk d_mR_sum 21 rfl) h (fun u9 h => ?_)
      refine g_aload_n (pc := 44) (j := 1) (dk d_mR_sum 22 rfl) rfl (by decide) ?_
      refine h_callVv (d := d + 3) (pc := 45) (na := 0) (av := []) (k0 := 46) po_46 ⟨_, rfl⟩ ⟨rfl, rfl⟩ (dk d_mR_sum 23 rfl) lk_R_234 vm_mR_product rfl rfl (Nat.le_of_ble_eq_true rfl) h (fun u10 hq => hO_R_product hq) (fun u10 h => ?_)
      refine g_aload_n (pc := 48) (j := 1) (dk d_mR_sum 24 rfl) rfl (by decide) ?_
      refine g_iload_n (pc := 49) (j := 0) (dk d_mR_sum 25 rfl) rfl ?_
      refine g_iconst (pc := 50) (dk d_mR_sum 26 rfl) (by decide) ?_
      refine h_callVv (d := d + 3) (pc := 51) (na := 2) (av := [pI r7, pI 0]) (k0 := 46) po_46 ⟨_, rfl⟩ ⟨rfl, rfl⟩ (dk d_mR_sum 27 rfl) lk_R_213 vm_mR_addStep rfl rfl (Nat.le_of_ble_eq_true rfl) h (fun u11 hq => kR_addStep E (d + 2) hq) (fun u11 h => ?_)
      refine g_goto (pc := 54) (tgt := 4) (dk d_mR_sum 28 rfl) rfl ?_
      refine g_pick [1] rfl (l' := [(0, pR 46)]) rfl ?_
      exact hrec _ h
    · refine h_icmp_eq (pc := 17) (tgt := 29) (dk d_mR_sum 8 rfl) rfl h (fun hc17 h => ?_) (fun hc17 h => ?_)
      · exact hJ12 _ h
      · refine g_aload_n (pc := 20) (j := 0) (dk d_mR_sum 9 rfl) rfl (by decide) ?_
        refine h_callVi (d := d + 3) (pc := 21) (na := 0) (av := []) (k0 := 46) po_46 ⟨_, rfl⟩ ⟨rfl, rfl⟩ (dk d_mR_sum 10 rfl) lk_R_209 vm_mR_looksOn rfl rfl (Nat.le_of_ble_eq_true rfl) h (fun r14 u13 hq => kR_looksOn E (d + 2) hq) (fun r14 u13 hb15 h => ?_)
        refine g_bipush (pc := 24) (dk d_mR_sum 11 rfl) (by decide) ?_
        refine h_icmp_ne (pc := 26) (tgt := 57) (dk d_mR_sum 12 rfl) rfl h (fun hc16 h => ?_) (fun hc16 h => ?_)
        · exact h_vret (pc := 57) (dk d_mR_sum 29 rfl) h
        · exact hJ12 _ h
set_option maxRecDepth 100000 in
set_option maxHeartbeats 4000000 in
theorem fR_sum_o_l4_ok (E : Nat × (Int → Int)) (d : Nat) {res : WD} (o_product : WD → Option WD) (hO_R_product : ∀  {w w1 : WD}, o_product  w = some w1 → CTv E mR_product (d + 3) [pR 46] w RF NN w1 RF NN) : ∀ (k : Nat)  (w : WD), fR_sum_o_l4 o_product k w = some res → G E mR_sum (d + 4) 4 [(0, pR 46)] [] w RF NN 0 0 (none, res, RF, NN) := by
  intro k
  induction k with
  | zero =>
    intro w h
    exact no_e h
  | succ k ih =>
    intro w h
    exact fR_sum_o_l4_b_ok E d o_product hO_R_product ih w h
def fR_sum_o (o_product : WD → Option WD) (w : WD) : Option WD := cv (o_product w) <| fun (u1 : WD) => fR_sum_o_l4 o_product FU u1
set_option maxRecDepth 100000 in
set_option maxHeartbeats 4000000 in
theorem gR_sum_o (E : Nat × (Int → Int)) (d : Nat) {res : WD} (o_product : WD → Option WD) (hO_R_product : ∀  {w w1 : WD}, o_product  w = some w1 → CTv E mR_product (d + 3) [pR 46] w RF NN w1 RF NN) (w : WD) (h : fR_sum_o o_product w = some res) : G E mR_sum (d + 4) 0 [(0, pR 46)] [] w RF NN 0 0 (none, res, RF, NN) := by
  unfold fR_sum_o at h
  refine g_aload_n (pc := 0) (j := 0) (dk d_mR_sum 0 rfl) rfl (by decide) ?_
  refine h_callVv (d := d + 3) (pc := 1) (na := 0) (av := []) (k0 := 46) po_46 ⟨_, rfl⟩ ⟨rfl, rfl⟩ (dk d_mR_sum 1 rfl) lk_R_234 vm_mR_product rfl rfl (Nat.le_of_ble_eq_true rfl) h (fun u1 hq => hO_R_product hq) (fun u1 h => ?_)
  refine fR_sum_o_l4_ok E d o_product hO_R_product FU _ h
set_option maxRecDepth 100000 in
set_option maxHeartbeats 4000000 in
theorem kR_sum_o (E : Nat × (Int → Int)) (d : Nat) (o_product : WD → Option WD) (hO_R_product : ∀  {w w1 : WD}, o_product  w = some w1 → CTv E mR_product (d + 3) [pR 46] w RF NN w1 RF NN) {w w1 : WD} (h : fR_sum_o o_product w = some w1) : CTv E mR_sum (d + 4) [pR 46] w RF NN w1 RF NN := by
  exact CTv_of (by decide +kernel) (Nat.le_of_ble_eq_true rfl) rfl (gR_sum_o (res := w1) E d o_product hO_R_product w h)
def fR_product_o_l4_b (rec : WD → Option WD) (o_operand : WD → Option WD) (w : WD) : Option WD := if 0 ≤ (w 46 18) then (some w) else (ci (fR_looksOn w) <| fun (r3 : Int) (u2 : WD) => jn (β := WD → Option WD) (fun (u5 : WD) => ci (fR_looksOn u5) <| fun (r7 : Int) (u6 : WD) => bw (up u6 46 17 (w32 ((u6 46 17) + 1))) <| fun (u9 : WD) => cv (o_operand u9) <| fun (u10 : WD) => cv (fR_addStep r7 0 u10) <| fun (u11 : WD) => rec u11) <| fun J12 => if r3 = 42 then (J12 u2) else (ci (fR_looksOn u2) <| fun (r14 : Int) (u13 : WD) => if r14 = 47 then (J12 u13) else (ci (fR_looksOn u13) <| fun (r17 : Int) (u16 : WD) => if r17 ≠ 37 then (some u16) else (J12 u16))))
def fR_product_o_l4 (o_operand : WD → Option WD) : Nat → WD → Option WD
  | 0 => fun _ => none
  | k + 1 => fR_product_o_l4_b ( fR_product_o_l4 o_operand k) o_operand
set_option maxRecDepth 100000 in
set_option maxHeartbeats 4000000 in
theorem fR_product_o_l4_b_ok (E : Nat × (Int → Int)) (d : Nat) {res : WD} {rec : WD → Option WD} (o_operand : WD → Option WD) (hO_R_operand : ∀  {w w1 : WD}, o_operand  w = some w1 → CTv E mR_operand (d + 3) [pR 46] w RF NN w1 RF NN) (hrec : ∀ (w : WD), rec w = some res → G E mR_product (d + 4) 4 [(0, pR 46)] [] w RF NN 0 0 (none, res, RF, NN))  (w : WD) (h : fR_product_o_l4_b rec o_operand w = some res) : G E mR_product (d + 4) 4 [(0, pR 46)] [] w RF NN 0 0 (none, res, RF, NN) := by
  unfold fR_product_o_l4_b at h
  refine g_aload_n (pc := 4) (j := 0) (dk d_mR_product 2 rfl) rfl (by decide) ?_
  refine g_getI (pc := 5) fp_R_197 po_46 (dk d_mR_product 3 rfl) ?_
  refine h_if_ge (pc := 8) (tgt := 66) (dk d_mR_product 4 rfl) rfl h (fun hc22 h => ?_) (fun hc22 h => ?_)
  · exact h_vret (pc := 66) (dk d_mR_product 33 rfl) h
  · refine g_aload_n (pc := 11) (j := 0) (dk d_mR_product 5 rfl) rfl (by decide) ?_
    refine h_callVi (d := d + 3) (pc := 12) (na := 0) (av := []) (k0 := 46) po_46 ⟨_, rfl⟩ ⟨rfl, rfl⟩ (dk d_mR_product 6 rfl) lk_R_209 vm_mR_looksOn rfl rfl (Nat.le_of_ble_eq_true rfl) h (fun r3 u2 hq => kR_looksOn E (d + 2) hq) (fun r3 u2 hb4 h => ?_)
    refine g_bipush (pc := 15) (dk d_mR_product 7 rfl) (by decide) ?_
    refine jn_e (fun J => ∀ (u5 : WD), J u5 = some res → G E mR_product (d + 4) 38 [(0, pR 46)] [] u5 RF NN 0 0 (none, res, RF, NN)) h (fun u5 h => ?_) (fun J12 hJ12 h => ?_)
    · refine g_aload_n (pc := 38) (j := 0) (dk d_mR_product 17 rfl) rfl (by decide) ?_
      refine h_callVi (d := d + 3) (pc := 39) (na := 0) (av := []) (k0 := 46) po_46 ⟨_, rfl⟩ ⟨rfl, rfl⟩ (dk d_mR_product 18 rfl) lk_R_209 vm_mR_looksOn rfl rfl (Nat.le_of_ble_eq_true rfl) h (fun r7 u6 hq => kR_looksOn E (d + 2) hq) (fun r7 u6 hb8 h => ?_)
      refine g_istore_n (pc := 42) (l' := [(1, pI r7), (0, pR 46)]) (dk d_mR_product 19 rfl) (Nat.le_of_ble_eq_true rfl) rfl ?_
      refine g_aload_n (pc := 43) (j := 1) (dk d_mR_product 20 rfl) rfl (by decide) ?_
      refine g_dup (pc := 44) (dk d_mR_product 21 rfl) rfl ?_
      refine g_getI (pc := 45) fp_R_194 po_46 (dk d_mR_product 22 rfl) ?_
      refine g_iconst (pc := 48) (dk d_mR_product 23 rfl) (by decide) ?_
      refine g_iadd (pc := 49) (dk d_mR_product 24 rfl) ?_
      refine h_putI (pc := 50) fp_R_194 po_46 (dk d_mR_product 25 rfl) h (fun u9 h => ?_)
      refine g_aload_n (pc := 53) (j := 1) (dk d_mR_product 26 rfl) rfl (by decide) ?_
      refine h_callVv (d := d + 3) (pc := 54) (na := 0) (av := []) (k0 := 46) po_46 ⟨_, rfl⟩ ⟨rfl, rfl⟩ (dk d_mR_product 27 rfl) lk_R_225 vm_mR_operand rfl rfl (Nat.le_of_ble_eq_true rfl) h (fun u10 hq => hO_R_operand hq) (fun u10 h => ?_)
      refine g_aload_n (pc := 57) (j := 1) (dk d_mR_product 28 rfl) rfl (by decide) ?_
      refine g_iload_n (pc := 58) (j := 0) (dk d_mR_product 29 rfl) rfl ?_
      refine g_iconst (pc := 59) (dk d_mR_product 30 rfl) (by decide) ?_
      refine h_callVv (d := d + 3) (pc := 60) (na := 2) (av := [pI r7, pI 0]) (k0 := 46) po_46 ⟨_, rfl⟩ ⟨rfl, rfl⟩ (dk d_mR_product 31 rfl) lk_R_213 vm_mR_addStep rfl rfl (Nat.le_of_ble_eq_true rfl) h (fun u11 hq => kR_addStep E (d + 2) hq) (fun u11 h => ?_)
      refine g_goto (pc := 63) (tgt := 4) (dk d_mR_product 32 rfl) rfl ?_
      refine g_pick [1] rfl (l' := [(0, pR 46)]) rfl ?_
      exact hrec _ h
    · refine h_icmp_eq (pc := 17) (tgt := 38) (dk d_mR_product 8 rfl) rfl h (fun hc21 h => ?_) (fun hc21 h => ?_)
      · exact hJ12 _ h
      · refine g_aload_n (pc := 20) (j := 0) (dk d_mR_product 9 rfl) rfl (by decide) ?_
        refine h_callVi (d := d + 3) (pc := 21) (na := 0) (av := []) (k0 := 46) po_46 ⟨_, rfl⟩ ⟨rfl, rfl⟩ (dk d_mR_product 10 rfl) lk_R_209 vm_mR_looksOn rfl rfl (Nat.le_of_ble_eq_true rfl) h (fun r14 u13 hq => kR_looksOn E (d + 2) hq) (fun r14 u13 hb15 h => ?_)
        refine g_bipush (pc := 24) (dk d_mR_product 11 rfl) (by decide) ?_
        refine h_icmp_eq (pc := 26) (tgt := 38) (dk d_mR_product 12 rfl) rfl h (fun hc20 h => ?_) (fun hc20 h => ?_)
        · exact hJ12 _ h
        · refine g_aload_n (pc := 29) (j := 0) (dk d_mR_product 13 rfl) rfl (by decide) ?_
          refine h_callVi (d := d + 3) (pc := 30) (na := 0) (av := []) (k0 := 46) po_46 ⟨_, rfl⟩ ⟨rfl, rfl⟩ (dk d_mR_product 14 rfl) lk_R_209 vm_mR_looksOn rfl rfl (Nat.le_of_ble_eq_true rfl) h (fun r17 u16 hq => kR_looksOn E (d + 2) hq) (fun r17 u16 hb18 h => ?_)
          refine g_bipush (pc := 33) (dk d_mR_product 15 rfl) (by decide) ?_
          refine h_icmp_ne (pc := 35) (tgt := 66) (dk d_mR_product 16 rfl) rfl h (fun hc19 h => ?_) (fun hc19 h => ?_)
          · exact h_vret (pc := 66) (dk d_mR_product 33 rfl) h
          · exact hJ12 _ h
set_option maxRecDepth 100000 in
set_option maxHeartbeats 4000000 in
theorem fR_product_o_l4_ok (E : Nat × (Int → Int)) (d : Nat) {res : WD} (o_operand : WD → Option WD) (hO_R_operand : ∀  {w w1 : WD}, o_operand  w = some w1 → CTv E mR_operand (d + 3) [pR 46] w RF NN w1 RF NN) : ∀ (k : Nat)  (w : WD), fR_product_o_l4 o_operand k w = some res → G E mR_product (d + 4) 4 [(0, pR 46)] [] w RF NN 0 0 (none, res, RF, NN) := by
  intro k
  induction k with
  | zero =>
    intro w h
    exact no_e h
  | succ k ih =>
    intro w h
    exact fR_product_o_l4_b_ok E d o_operand hO_R_operand ih w h
def fR_product_o (o_operand : WD → Option WD) (w : WD) : Option WD := cv (o_operand w) <| fun (u1 : WD) => fR_product_o_l4 o_operand FU u1
set_option maxRecDepth 100000 in
set_option maxHeartbeats 4000000 in
theorem gR_product_o (E : Nat × (Int → Int)) (d : Nat) {res : WD} (o_operand : WD → Option WD) (hO_R_operand : ∀  {w w1 : WD}, o_operand  w = some w1 → CTv E mR_operand (d + 3) [pR 46] w RF NN w1 RF NN) (w : WD) (h : fR_product_o o_operand w = some res) : G E mR_product (d + 4) 0 [(0, pR 46)] [] w RF NN 0 0 (none, res, RF, NN) := by
  unfold fR_product_o at h
  refine g_aload_n (pc := 0) (j := 0) (dk d_mR_product 0 rfl) rfl (by decide) ?_
  refine h_callVv (d := d + 3) (pc := 1) (na := 0) (av := []) (k0 := 46) po_46 ⟨_, rfl⟩ ⟨rfl, rfl⟩ (dk d_mR_product 1 rfl) lk_R_225 vm_mR_operand rfl rfl (Nat.le_of_ble_eq_true rfl) h (fun u1 hq => hO_R_operand hq) (fun u1 h => ?_)
  refine fR_product_o_l4_ok E d o_operand hO_R_operand FU _ h
set_option maxRecDepth 100000 in
set_option maxHeartbeats 4000000 in
theorem kR_product_o (E : Nat × (Int → Int)) (d : Nat) (o_operand : WD → Option WD) (hO_R_operand : ∀  {w w1 : WD}, o_operand  w = some w1 → CTv E mR_operand (d + 3) [pR 46] w RF NN w1 RF NN) {w w1 : WD} (h : fR_product_o o_operand w = some w1) : CTv E mR_product (d + 4) [pR 46] w RF NN w1 RF NN := by
  exact CTv_of (by decide +kernel) (Nat.le_of_ble_eq_true rfl) rfl (gR_product_o (res := w1) E d o_operand hO_R_operand w h)
def fR_operand_o (o_either : WD → Option WD) (o_operand : WD → Option WD) (w : WD) : Option WD := ci (fR_looksOn w) <| fun (r2 : Int) (u1 : WD) => ci (fR_nameOf r2 u1) <| fun (r5 : Int) (u4 : WD) => if r5 < 0 then (jn (β := WD → Option WD) (fun (u7 : WD) => ci (fR_opens u7) <| fun (r9 : Int) (u8 : WD) => if r9 ≠ 0 then (cv (o_operand u8) <| fun (u11 : WD) => bw (up u11 46 19 (w32 ((u11 46 19) - 1))) <| fun (u12 : WD) => jn (β := Int → WD → Option WD) (fun (s13 : Int) (u14 : WD) => cv (fR_addStep s13 0 u14) <| fun (u15 : WD) => some u15) <| fun J16 => if r2 ≠ 33 then (J16 4 u12) else (J16 3 u12)) else (some u8)) <| fun J19 => if r2 = 33 then (J19 u4) else (if r2 ≠ 45 then (if r2 ≠ 40 then (cv (fR_figure u4) <| fun (u20 : WD) => some u20) else (ci (fR_opens u4) <| fun (r22 : Int) (u21 : WD) => if r22 ≠ 0 then (cv (o_either u21) <| fun (u24 : WD) => if (u24 46 18) < 0 then (ci (fR_looksOn u24) <| fun (r26 : Int) (u25 : WD) => if r26 = 41 then (bw (up u25 46 17 (w32 ((u25 46 17) + 1))) <| fun (u28 : WD) => bw (up u28 46 19 (w32 ((u28 46 19) - 1))) <| fun (u29 : WD) => some u29) else (cv (fR_wrong u25) <| fun (u30 : WD) => some u30)) else (some u24)) else (some u21))) else (J19 u4))) else (ci (fR_nameOf r2 u4) <| fun (r38 : Int) (u37 : WD) => cv (fR_addStep 2 r38 u37) <| fun (u40 : WD) => bw (up u40 46 17 (w32 ((u40 46 17) + 1))) <| fun (u41 : WD) => some u41)
set_option maxRecDepth 100000 in
set_option maxHeartbeats 4000000 in
theorem gR_operand_o (E : Nat × (Int → Int)) (d : Nat) {res : WD} (o_either : WD → Option WD) (o_operand : WD → Option WD) (hO_R_either : ∀  {w w1 : WD}, o_either  w = some w1 → CTv E mR_either (d + 3) [pR 46] w RF NN w1 RF NN) (hO_R_operand : ∀  {w w1 : WD}, o_operand  w = some w1 → CTv E mR_operand (d + 3) [pR 46] w RF NN w1 RF NN) (w : WD) (h : fR_operand_o o_either o_operand w = some res) : G E mR_operand (d + 4) 0 [(0, pR 46)] [] w RF NN 0 0 (none, res, RF, NN) := by
  unfold fR_operand_o at h
  refine g_aload_n (pc := 0) (j := 0) (dk d_mR_operand 0 rfl) rfl (by decide) ?_
  refine h_callVi (d := d + 3) (pc := 1) (na := 0) (av := []) (k0 := 46) po_46 ⟨_, rfl⟩ ⟨rfl, rfl⟩ (dk d_mR_operand 1 rfl) lk_R_209 vm_mR_looksOn rfl rfl (Nat.le_of_ble_eq_true rfl) h (fun r2 u1 hq => kR_looksOn E (d + 2) hq) (fun r2 u1 hb3 h => ?_)
  refine g_istore_n (pc := 4) (l' := [(1, pI r2), (0, pR 46)]) (dk d_mR_operand 2 rfl) (Nat.le_of_ble_eq_true rfl) rfl ?_
  refine g_iload_n (pc := 5) (j := 0) (dk d_mR_operand 3 rfl) rfl ?_
  refine h_callSi (d := d + 3) (pc := 6) (na := 1) (av := [pI r2]) ⟨rfl, rfl⟩ (dk d_mR_operand 4 rfl) lk_R_217 vm_mR_nameOf rfl rfl (Nat.le_of_ble_eq_true rfl) h (fun r5 u4 hq => kR_nameOf E (d + 2) hq) (fun r5 u4 hb6 h => ?_)
  refine h_if_lt (pc := 9) (tgt := 34) (dk d_mR_operand 5 rfl) rfl h (fun hc42 h => ?_) (fun hc42 h => ?_)
  · refine g_iload_n (pc := 34) (j := 0) (dk d_mR_operand 18 rfl) rfl ?_
    refine g_bipush (pc := 35) (dk d_mR_operand 19 rfl) (by decide) ?_
    refine jn_e (fun J => ∀ (u7 : WD), J u7 = some res → G E mR_operand (d + 4) 46 [(0, pR 46), (1, pI r2)] [] u7 RF NN 0 0 (none, res, RF, NN)) h (fun u7 h => ?_) (fun J19 hJ19 h => ?_)
    · refine g_aload_n (pc := 46) (j := 0) (dk d_mR_operand 24 rfl) rfl (by decide) ?_
      refine h_callVi (d := d + 3) (pc := 47) (na := 0) (av := []) (k0 := 46) po_46 ⟨_, rfl⟩ ⟨rfl, rfl⟩ (dk d_mR_operand 25 rfl) lk_R_221 vm_mR_opens rfl rfl (Nat.le_of_ble_eq_true rfl) h (fun r9 u8 hq => kR_opens E (d + 1) hq) (fun r9 u8 hb10 h => ?_)
      refine h_if_ne (pc := 50) (tgt := 54) (dk d_mR_operand 26 rfl) rfl h (fun hc18 h => ?_) (fun hc18 h => ?_)
      · refine g_aload_n (pc := 54) (j := 0) (dk d_mR_operand 28 rfl) rfl (by decide) ?_
        refine h_callVv (d := d + 3) (pc := 55) (na := 0) (av := []) (k0 := 46) po_46 ⟨_, rfl⟩ ⟨rfl, rfl⟩ (dk d_mR_operand 29 rfl) lk_R_225 vm_mR_operand rfl rfl (Nat.le_of_ble_eq_true rfl) h (fun u11 hq => hO_R_operand hq) (fun u11 h => ?_)
        refine g_aload_n (pc := 58) (j := 0) (dk d_mR_operand 30 rfl) rfl (by decide) ?_
        refine g_dup (pc := 59) (dk d_mR_operand 31 rfl) rfl ?_
        refine g_getI (pc := 60) fp_R_203 po_46 (dk d_mR_operand 32 rfl) ?_
        refine g_iconst (pc := 63) (dk d_mR_operand 33 rfl) (by decide) ?_
        refine g_isub (pc := 64) (dk d_mR_operand 34 rfl) ?_
        refine h_putI (pc := 65) fp_R_203 po_46 (dk d_mR_operand 35 rfl) h (fun u12 h => ?_)
        refine g_aload_n (pc := 68) (j := 0) (dk d_mR_operand 36 rfl) rfl (by decide) ?_
        refine g_iload_n (pc := 69) (j := 1) (dk d_mR_operand 37 rfl) rfl ?_
        refine g_bipush (pc := 70) (dk d_mR_operand 38 rfl) (by decide) ?_
        refine jn_e (fun J => ∀ (s13 : Int) (u14 : WD), J s13 u14 = some res → G E mR_operand (d + 4) 80 [] [pI s13, pR 46] u14 RF NN 0 0 (none, res, RF, NN)) h (fun s13 u14 h => ?_) (fun J16 hJ16 h => ?_)
        · refine g_iconst (pc := 80) (dk d_mR_operand 43 rfl) (by decide) ?_
          refine h_callVv (d := d + 3) (pc := 81) (na := 2) (av := [pI s13, pI 0]) (k0 := 46) po_46 ⟨_, rfl⟩ ⟨rfl, rfl⟩ (dk d_mR_operand 44 rfl) lk_R_213 vm_mR_addStep rfl rfl (Nat.le_of_ble_eq_true rfl) h (fun u15 hq => kR_addStep E (d + 2) hq) (fun u15 h => ?_)
          refine g_goto (pc := 84) (tgt := 154) (dk d_mR_operand 45 rfl) rfl ?_
          exact h_vret (pc := 154) (dk d_mR_operand 81 rfl) h
        · refine h_icmp_ne (pc := 72) (tgt := 79) (dk d_mR_operand 39 rfl) rfl h (fun hc17 h => ?_) (fun hc17 h => ?_)
          · refine g_iconst (pc := 79) (dk d_mR_operand 42 rfl) (by decide) ?_
            refine g_pick [] rfl (l' := []) rfl ?_
            exact hJ16 _ _ h
          · refine g_iconst (pc := 75) (dk d_mR_operand 40 rfl) (by decide) ?_
            refine g_goto (pc := 76) (tgt := 80) (dk d_mR_operand 41 rfl) rfl ?_
            refine g_pick [] rfl (l' := []) rfl ?_
            exact hJ16 _ _ h
      · exact h_vret (pc := 53) (dk d_mR_operand 27 rfl) h
    · refine h_icmp_eq (pc := 37) (tgt := 46) (dk d_mR_operand 20 rfl) rfl h (fun hc36 h => ?_) (fun hc36 h => ?_)
      · refine g_pick [1, 0] rfl (l' := [(0, pR 46), (1, pI r2)]) rfl ?_
        exact hJ19 _ h
      · refine g_iload_n (pc := 40) (j := 0) (dk d_mR_operand 21 rfl) rfl ?_
        refine g_bipush (pc := 41) (dk d_mR_operand 22 rfl) (by decide) ?_
        refine h_icmp_ne (pc := 43) (tgt := 87) (dk d_mR_operand 23 rfl) rfl h (fun hc35 h => ?_) (fun hc35 h => ?_)
        · refine g_iload_n (pc := 87) (j := 0) (dk d_mR_operand 46 rfl) rfl ?_
          refine g_bipush (pc := 88) (dk d_mR_operand 47 rfl) (by decide) ?_
          refine h_icmp_ne (pc := 90) (tgt := 150) (dk d_mR_operand 48 rfl) rfl h (fun hc34 h => ?_) (fun hc34 h => ?_)
          · refine g_aload_n (pc := 150) (j := 1) (dk d_mR_operand 79 rfl) rfl (by decide) ?_
            refine h_callVv (d := d + 3) (pc := 151) (na := 0) (av := []) (k0 := 46) po_46 ⟨_, rfl⟩ ⟨rfl, rfl⟩ (dk d_mR_operand 80 rfl) lk_R_231 vm_mR_figure rfl rfl (Nat.le_of_ble_eq_true rfl) h (fun u20 hq => kR_figure E (d + 1) hq) (fun u20 h => ?_)
            exact h_vret (pc := 154) (dk d_mR_operand 81 rfl) h
          · refine g_aload_n (pc := 93) (j := 1) (dk d_mR_operand 49 rfl) rfl (by decide) ?_
            refine h_callVi (d := d + 3) (pc := 94) (na := 0) (av := []) (k0 := 46) po_46 ⟨_, rfl⟩ ⟨rfl, rfl⟩ (dk d_mR_operand 50 rfl) lk_R_221 vm_mR_opens rfl rfl (Nat.le_of_ble_eq_true rfl) h (fun r22 u21 hq => kR_opens E (d + 1) hq) (fun r22 u21 hb23 h => ?_)
            refine h_if_ne (pc := 97) (tgt := 101) (dk d_mR_operand 51 rfl) rfl h (fun hc33 h => ?_) (fun hc33 h => ?_)
            · refine g_aload_n (pc := 101) (j := 1) (dk d_mR_operand 53 rfl) rfl (by decide) ?_
              refine h_callVv (d := d + 3) (pc := 102) (na := 0) (av := []) (k0 := 46) po_46 ⟨_, rfl⟩ ⟨rfl, rfl⟩ (dk d_mR_operand 54 rfl) lk_R_228 vm_mR_either rfl rfl (Nat.le_of_ble_eq_true rfl) h (fun u24 hq => hO_R_either hq) (fun u24 h => ?_)
              refine g_aload_n (pc := 105) (j := 1) (dk d_mR_operand 55 rfl) rfl (by decide) ?_
              refine g_getI (pc := 106) fp_R_197 po_46 (dk d_mR_operand 56 rfl) ?_
              refine h_if_lt (pc := 109) (tgt := 113) (dk d_mR_operand 57 rfl) rfl h (fun hc32 h => ?_) (fun hc32 h => ?_)
              · refine g_aload_n (pc := 113) (j := 1) (dk d_mR_operand 59 rfl) rfl (by decide) ?_
                refine h_callVi (d := d + 3) (pc := 114) (na := 0) (av := []) (k0 := 46) po_46 ⟨_, rfl⟩ ⟨rfl, rfl⟩ (dk d_mR_operand 60 rfl) lk_R_209 vm_mR_looksOn rfl rfl (Nat.le_of_ble_eq_true rfl) h (fun r26 u25 hq => kR_looksOn E (d + 2) hq) (fun r26 u25 hb27 h => ?_)
                refine g_bipush (pc := 117) (dk d_mR_operand 61 rfl) (by decide) ?_
                refine h_icmp_eq (pc := 119) (tgt := 127) (dk d_mR_operand 62 rfl) rfl h (fun hc31 h => ?_) (fun hc31 h => ?_)
                · refine g_aload_n (pc := 127) (j := 1) (dk d_mR_operand 66 rfl) rfl (by decide) ?_
                  refine g_dup (pc := 128) (dk d_mR_operand 67 rfl) rfl ?_
                  refine g_getI (pc := 129) fp_R_194 po_46 (dk d_mR_operand 68 rfl) ?_
                  refine g_iconst (pc := 132) (dk d_mR_operand 69 rfl) (by decide) ?_
                  refine g_iadd (pc := 133) (dk d_mR_operand 70 rfl) ?_
                  refine h_putI (pc := 134) fp_R_194 po_46 (dk d_mR_operand 71 rfl) h (fun u28 h => ?_)
                  refine g_aload_n (pc := 137) (j := 1) (dk d_mR_operand 72 rfl) rfl (by decide) ?_
                  refine g_dup (pc := 138) (dk d_mR_operand 73 rfl) rfl ?_
                  refine g_getI (pc := 139) fp_R_203 po_46 (dk d_mR_operand 74 rfl) ?_
                  refine g_iconst (pc := 142) (dk d_mR_operand 75 rfl) (by decide) ?_
                  refine g_isub (pc := 143) (dk d_mR_operand 76 rfl) ?_
                  refine h_putI (pc := 144) fp_R_203 po_46 (dk d_mR_operand 77 rfl) h (fun u29 h => ?_)
                  refine g_goto (pc := 147) (tgt := 154) (dk d_mR_operand 78 rfl) rfl ?_
                  exact h_vret (pc := 154) (dk d_mR_operand 81 rfl) h
                · refine g_aload_n (pc := 122) (j := 1) (dk d_mR_operand 63 rfl) rfl (by decide) ?_
                  refine h_callVv (d := d + 3) (pc := 123) (na := 0) (av := []) (k0 := 46) po_46 ⟨_, rfl⟩ ⟨rfl, rfl⟩ (dk d_mR_operand 64 rfl) lk_R_206 vm_mR_wrong rfl rfl (Nat.le_of_ble_eq_true rfl) h (fun u30 hq => kR_wrong E (d + 2) hq) (fun u30 h => ?_)
                  exact h_vret (pc := 126) (dk d_mR_operand 65 rfl) h
              · exact h_vret (pc := 112) (dk d_mR_operand 58 rfl) h
            · exact h_vret (pc := 100) (dk d_mR_operand 52 rfl) h
        · refine g_pick [1, 0] rfl (l' := [(0, pR 46), (1, pI r2)]) rfl ?_
          exact hJ19 _ h
  · refine g_aload_n (pc := 12) (j := 1) (dk d_mR_operand 6 rfl) rfl (by decide) ?_
    refine g_iconst (pc := 13) (dk d_mR_operand 7 rfl) (by decide) ?_
    refine g_iload_n (pc := 14) (j := 0) (dk d_mR_operand 8 rfl) rfl ?_
    refine h_callSi (d := d + 3) (pc := 15) (na := 1) (av := [pI r2]) ⟨rfl, rfl⟩ (dk d_mR_operand 9 rfl) lk_R_217 vm_mR_nameOf rfl rfl (Nat.le_of_ble_eq_true rfl) h (fun r38 u37 hq => kR_nameOf E (d + 2) hq) (fun r38 u37 hb39 h => ?_)
    refine h_callVv (d := d + 3) (pc := 18) (na := 2) (av := [pI 2, pI r38]) (k0 := 46) po_46 ⟨_, rfl⟩ ⟨rfl, rfl⟩ (dk d_mR_operand 10 rfl) lk_R_213 vm_mR_addStep rfl rfl (Nat.le_of_ble_eq_true rfl) h (fun u40 hq => kR_addStep E (d + 2) hq) (fun u40 h => ?_)
    refine g_aload_n (pc := 21) (j := 1) (dk d_mR_operand 11 rfl) rfl (by decide) ?_
    refine g_dup (pc := 22) (dk d_mR_operand 12 rfl) rfl ?_
    refine g_getI (pc := 23) fp_R_194 po_46 (dk d_mR_operand 13 rfl) ?_
    refine g_iconst (pc := 26) (dk d_mR_operand 14 rfl) (by decide) ?_
    refine g_iadd (pc := 27) (dk d_mR_operand 15 rfl) ?_
    refine h_putI (pc := 28) fp_R_194 po_46 (dk d_mR_operand 16 rfl) h (fun u41 h => ?_)
    refine g_goto (pc := 31) (tgt := 154) (dk d_mR_operand 17 rfl) rfl ?_
    exact h_vret (pc := 154) (dk d_mR_operand 81 rfl) h
set_option maxRecDepth 100000 in
set_option maxHeartbeats 4000000 in
theorem kR_operand_o (E : Nat × (Int → Int)) (d : Nat) (o_either : WD → Option WD) (o_operand : WD → Option WD) (hO_R_either : ∀  {w w1 : WD}, o_either  w = some w1 → CTv E mR_either (d + 3) [pR 46] w RF NN w1 RF NN) (hO_R_operand : ∀  {w w1 : WD}, o_operand  w = some w1 → CTv E mR_operand (d + 3) [pR 46] w RF NN w1 RF NN) {w w1 : WD} (h : fR_operand_o o_either o_operand w = some w1) : CTv E mR_operand (d + 4) [pR 46] w RF NN w1 RF NN := by
  exact CTv_of (by decide +kernel) (Nat.le_of_ble_eq_true rfl) rfl (gR_operand_o (res := w1) E d o_either o_operand hO_R_either hO_R_operand w h)
def FR_either : Nat → (WD → Option WD) × (WD → Option WD) × (WD → Option WD) × (WD → Option WD) × (WD → Option WD) × (WD → Option WD)
  | 0 => (fun _ => none, fun _ => none, fun _ => none, fun _ => none, fun _ => none, fun _ => none)
  | k + 1 => (fR_either_o (FR_either k).2.1, fR_both_o (FR_either k).2.2.1, fR_compared_o (FR_either k).2.2.2.1, fR_sum_o (FR_either k).2.2.2.2.1, fR_product_o (FR_either k).2.2.2.2.2, fR_operand_o (FR_either k).1 (FR_either k).2.2.2.2.2)
set_option maxHeartbeats 4000000 in
theorem FR_either_ok (E : Nat × (Int → Int)) (d : Nat) : ∀ k : Nat, (∀  {w w1 : WD}, (FR_either k).1  w = some w1 → CTv E mR_either (d + k + 3) [pR 46] w RF NN w1 RF NN) ∧ (∀  {w w1 : WD}, (FR_either k).2.1  w = some w1 → CTv E mR_both (d + k + 3) [pR 46] w RF NN w1 RF NN) ∧ (∀  {w w1 : WD}, (FR_either k).2.2.1  w = some w1 → CTv E mR_compared (d + k + 3) [pR 46] w RF NN w1 RF NN) ∧ (∀  {w w1 : WD}, (FR_either k).2.2.2.1  w = some w1 → CTv E mR_sum (d + k + 3) [pR 46] w RF NN w1 RF NN) ∧ (∀  {w w1 : WD}, (FR_either k).2.2.2.2.1  w = some w1 → CTv E mR_product (d + k + 3) [pR 46] w RF NN w1 RF NN) ∧ (∀  {w w1 : WD}, (FR_either k).2.2.2.2.2  w = some w1 → CTv E mR_operand (d + k + 3) [pR 46] w RF NN w1 RF NN) := by
  intro k
  induction k with
  | zero =>
    exact ⟨fun h => no_e h, fun h => no_e h, fun h => no_e h, fun h => no_e h, fun h => no_e h, fun h => no_e h⟩
  | succ k ih =>
    have e : d + (k + 1) + 3 = d + k + 4 := by omega
    rw [e]
    exact ⟨by intro  w w1 h; exact kR_either_o E (d + k) (FR_either k).2.1 (fun h => (ih).2.1 h) h, by intro  w w1 h; exact kR_both_o E (d + k) (FR_either k).2.2.1 (fun h => (ih).2.2.1 h) h, by intro  w w1 h; exact kR_compared_o E (d + k) (FR_either k).2.2.2.1 (fun h => (ih).2.2.2.1 h) h, by intro  w w1 h; exact kR_sum_o E (d + k) (FR_either k).2.2.2.2.1 (fun h => (ih).2.2.2.2.1 h) h, by intro  w w1 h; exact kR_product_o E (d + k) (FR_either k).2.2.2.2.2 (fun h => (ih).2.2.2.2.2 h) h, by intro  w w1 h; exact kR_operand_o E (d + k) (FR_either k).1 (FR_either k).2.2.2.2.2 (fun h => (ih).1 h) (fun h => (ih).2.2.2.2.2 h) h⟩
def fR_either : WD → Option WD := (FR_either 200).1
theorem kR_either (E : Nat × (Int → Int)) (d : Nat)  {w w1 : WD} (h : fR_either  w = some w1) : CTv E mR_either (d + 203) [pR 46] w RF NN w1 RF NN := (FR_either_ok E d 200).1 h
def fR_both : WD → Option WD := (FR_either 200).2.1
theorem kR_both (E : Nat × (Int → Int)) (d : Nat)  {w w1 : WD} (h : fR_both  w = some w1) : CTv E mR_both (d + 203) [pR 46] w RF NN w1 RF NN := (FR_either_ok E d 200).2.1 h
def fR_compared : WD → Option WD := (FR_either 200).2.2.1
theorem kR_compared (E : Nat × (Int → Int)) (d : Nat)  {w w1 : WD} (h : fR_compared  w = some w1) : CTv E mR_compared (d + 203) [pR 46] w RF NN w1 RF NN := (FR_either_ok E d 200).2.2.1 h
def fR_sum : WD → Option WD := (FR_either 200).2.2.2.1
theorem kR_sum (E : Nat × (Int → Int)) (d : Nat)  {w w1 : WD} (h : fR_sum  w = some w1) : CTv E mR_sum (d + 203) [pR 46] w RF NN w1 RF NN := (FR_either_ok E d 200).2.2.2.1 h
def fR_product : WD → Option WD := (FR_either 200).2.2.2.2.1
theorem kR_product (E : Nat × (Int → Int)) (d : Nat)  {w w1 : WD} (h : fR_product  w = some w1) : CTv E mR_product (d + 203) [pR 46] w RF NN w1 RF NN := (FR_either_ok E d 200).2.2.2.2.1 h
def fR_operand : WD → Option WD := (FR_either 200).2.2.2.2.2
theorem kR_operand (E : Nat × (Int → Int)) (d : Nat)  {w w1 : WD} (h : fR_operand  w = some w1) : CTv E mR_operand (d + 203) [pR 46] w RF NN w1 RF NN := (FR_either_ok E d 200).2.2.2.2.2 h
def fR_line (w : WD) : Option WD := bv (w32 (61 + (w 60 1))) <| fun (v1_1 : Int) => ck (0 ≤ v1_1 ∧ v1_1 < 122) <| bw (up w 61 v1_1 (w16 (w16 (w 46 20)))) <| fun (u2 : WD) => cv (fR_either u2) <| fun (u3 : WD) => jn (β := WD → Option WD) (fun (u4 : WD) => ck (0 ≤ v1_1 ∧ v1_1 < 122) <| bw (up u4 62 v1_1 (w16 (w16 (u4 46 20)))) <| fun (u5 : WD) => bw (up u5 60 1 (w32 ((u5 60 1) + 1))) <| fun (u6 : WD) => some u6) <| fun J7 => if 0 ≤ (u3 46 18) then (J7 u3) else (ci (fR_looksOn u3) <| fun (r9 : Int) (u8 : WD) => if r9 ≠ 63 then (J7 u8) else (bw (up u8 46 17 (w32 ((u8 46 17) + 1))) <| fun (u11 : WD) => ck (0 ≤ v1_1 ∧ v1_1 < 122) <| bw (up u11 61 v1_1 (w16 (w16 (u11 46 20)))) <| fun (u12 : WD) => cv (fR_either u12) <| fun (u13 : WD) => J7 u13))
set_option maxRecDepth 100000 in
set_option maxHeartbeats 4000000 in
theorem gR_line (E : Nat × (Int → Int)) (d : Nat) {res : WD} (w : WD) (h : fR_line w = some res) : G E mR_line (d + 204) 0 [(0, pR 46)] [] w RF NN 0 0 (none, res, RF, NN) := by
  unfold fR_line at h
  refine g_bipush (pc := 0) (dk d_mR_line 0 rfl) (by decide) ?_
  refine g_aload_n (pc := 2) (j := 0) (dk d_mR_line 1 rfl) rfl (by decide) ?_
  refine g_getR (pc := 3) (a := 60) rfl fp_R_52 po_46 (dk d_mR_line 2 rfl) ?_
  refine g_iconst (pc := 6) (dk d_mR_line 3 rfl) (by decide) ?_
  refine g_iald (pc := 7) pa_60 (dk d_mR_line 4 rfl) (by decide) ?_
  refine g_iadd (pc := 8) (dk d_mR_line 5 rfl) ?_
  refine h_bvI h (fun v1_1 h => ?_)
  refine g_istore_n (pc := 9) (l' := [(1, pI v1_1), (0, pR 46)]) (dk d_mR_line 6 rfl) (Nat.le_of_ble_eq_true rfl) rfl ?_
  refine g_aload_n (pc := 10) (j := 1) (dk d_mR_line 7 rfl) rfl (by decide) ?_
  refine g_getR (pc := 11) (a := 61) rfl fp_R_55 po_46 (dk d_mR_line 8 rfl) ?_
  refine g_iload_n (pc := 14) (j := 0) (dk d_mR_line 9 rfl) rfl ?_
  refine g_aload_n (pc := 15) (j := 1) (dk d_mR_line 10 rfl) rfl (by decide) ?_
  refine g_getI (pc := 16) fp_R_200 po_46 (dk d_mR_line 11 rfl) ?_
  refine g_i2s (pc := 19) (dk d_mR_line 12 rfl) ?_
  refine h_sast (pc := 20) (B := 122) pa_61 rfl (dk d_mR_line 13 rfl) h (fun u2 h => ?_)
  refine g_aload_n (pc := 21) (j := 1) (dk d_mR_line 14 rfl) rfl (by decide) ?_
  refine h_callVv (d := d + 203) (pc := 22) (na := 0) (av := []) (k0 := 46) po_46 ⟨_, rfl⟩ ⟨rfl, rfl⟩ (dk d_mR_line 15 rfl) lk_R_228 vm_mR_either rfl rfl (Nat.le_of_ble_eq_true rfl) h (fun u3 hq => kR_either E (d + 0) hq) (fun u3 h => ?_)
  refine g_aload_n (pc := 25) (j := 1) (dk d_mR_line 16 rfl) rfl (by decide) ?_
  refine g_getI (pc := 26) fp_R_197 po_46 (dk d_mR_line 17 rfl) ?_
  refine jn_e (fun J => ∀ (u4 : WD), J u4 = some res → G E mR_line (d + 204) 66 [(0, pR 46), (1, pI v1_1)] [] u4 RF NN 0 0 (none, res, RF, NN)) h (fun u4 h => ?_) (fun J7 hJ7 h => ?_)
  · refine g_aload_n (pc := 66) (j := 0) (dk d_mR_line 38 rfl) rfl (by decide) ?_
    refine g_getR (pc := 67) (a := 62) rfl fp_R_59 po_46 (dk d_mR_line 39 rfl) ?_
    refine g_iload_n (pc := 70) (j := 1) (dk d_mR_line 40 rfl) rfl ?_
    refine g_aload_n (pc := 71) (j := 0) (dk d_mR_line 41 rfl) rfl (by decide) ?_
    refine g_getI (pc := 72) fp_R_200 po_46 (dk d_mR_line 42 rfl) ?_
    refine g_i2s (pc := 75) (dk d_mR_line 43 rfl) ?_
    refine h_sast (pc := 76) (B := 122) pa_62 rfl (dk d_mR_line 44 rfl) h (fun u5 h => ?_)
    refine g_aload_n (pc := 77) (j := 0) (dk d_mR_line 45 rfl) rfl (by decide) ?_
    refine g_getR (pc := 78) (a := 60) rfl fp_R_52 po_46 (dk d_mR_line 46 rfl) ?_
    refine g_iconst (pc := 81) (dk d_mR_line 47 rfl) (by decide) ?_
    refine g_dup2 (pc := 82) (dk d_mR_line 48 rfl) rfl rfl ?_
    refine g_iald (pc := 83) pa_60 (dk d_mR_line 49 rfl) (by decide) ?_
    refine g_iconst (pc := 84) (dk d_mR_line 50 rfl) (by decide) ?_
    refine g_iadd (pc := 85) (dk d_mR_line 51 rfl) ?_
    refine h_iast0 (pc := 86) pa_60 (dk d_mR_line 52 rfl) (by decide) h (fun u6 h => ?_)
    exact h_vret (pc := 87) (dk d_mR_line 53 rfl) h
  · refine h_if_ge (pc := 29) (tgt := 66) (dk d_mR_line 18 rfl) rfl h (fun hc15 h => ?_) (fun hc15 h => ?_)
    · refine g_pick [1, 0] rfl (l' := [(0, pR 46), (1, pI v1_1)]) rfl ?_
      exact hJ7 _ h
    · refine g_aload_n (pc := 32) (j := 1) (dk d_mR_line 19 rfl) rfl (by decide) ?_
      refine h_callVi (d := d + 203) (pc := 33) (na := 0) (av := []) (k0 := 46) po_46 ⟨_, rfl⟩ ⟨rfl, rfl⟩ (dk d_mR_line 20 rfl) lk_R_209 vm_mR_looksOn rfl rfl (Nat.le_of_ble_eq_true rfl) h (fun r9 u8 hq => kR_looksOn E (d + 202) hq) (fun r9 u8 hb10 h => ?_)
      refine g_bipush (pc := 36) (dk d_mR_line 21 rfl) (by decide) ?_
      refine h_icmp_ne (pc := 38) (tgt := 66) (dk d_mR_line 22 rfl) rfl h (fun hc14 h => ?_) (fun hc14 h => ?_)
      · refine g_pick [1, 0] rfl (l' := [(0, pR 46), (1, pI v1_1)]) rfl ?_
        exact hJ7 _ h
      · refine g_aload_n (pc := 41) (j := 1) (dk d_mR_line 23 rfl) rfl (by decide) ?_
        refine g_dup (pc := 42) (dk d_mR_line 24 rfl) rfl ?_
        refine g_getI (pc := 43) fp_R_194 po_46 (dk d_mR_line 25 rfl) ?_
        refine g_iconst (pc := 46) (dk d_mR_line 26 rfl) (by decide) ?_
        refine g_iadd (pc := 47) (dk d_mR_line 27 rfl) ?_
        refine h_putI (pc := 48) fp_R_194 po_46 (dk d_mR_line 28 rfl) h (fun u11 h => ?_)
        refine g_aload_n (pc := 51) (j := 1) (dk d_mR_line 29 rfl) rfl (by decide) ?_
        refine g_getR (pc := 52) (a := 61) rfl fp_R_55 po_46 (dk d_mR_line 30 rfl) ?_
        refine g_iload_n (pc := 55) (j := 0) (dk d_mR_line 31 rfl) rfl ?_
        refine g_aload_n (pc := 56) (j := 1) (dk d_mR_line 32 rfl) rfl (by decide) ?_
        refine g_getI (pc := 57) fp_R_200 po_46 (dk d_mR_line 33 rfl) ?_
        refine g_i2s (pc := 60) (dk d_mR_line 34 rfl) ?_
        refine h_sast (pc := 61) (B := 122) pa_61 rfl (dk d_mR_line 35 rfl) h (fun u12 h => ?_)
        refine g_aload_n (pc := 62) (j := 1) (dk d_mR_line 36 rfl) rfl (by decide) ?_
        refine h_callVv (d := d + 203) (pc := 63) (na := 0) (av := []) (k0 := 46) po_46 ⟨_, rfl⟩ ⟨rfl, rfl⟩ (dk d_mR_line 37 rfl) lk_R_228 vm_mR_either rfl rfl (Nat.le_of_ble_eq_true rfl) h (fun u13 hq => kR_either E (d + 0) hq) (fun u13 h => ?_)
        refine g_pick [1, 0] rfl (l' := [(0, pR 46), (1, pI v1_1)]) rfl ?_
        exact hJ7 _ h
set_option maxRecDepth 100000 in
set_option maxHeartbeats 4000000 in
theorem kR_line (E : Nat × (Int → Int)) (d : Nat) {w w1 : WD} (h : fR_line w = some w1) : CTv E mR_line (d + 204) [pR 46] w RF NN w1 RF NN := by
  exact CTv_of (by decide +kernel) (Nat.le_of_ble_eq_true rfl) rfl (gR_line (res := w1) E d w h)
def fR_readText_l31_b (rec : WD → Option (Int × WD)) (y1 : Int) (K0 : WD → Option (Int × WD)) (w : WD) : Option (Int × WD) := if 0 ≤ (w 46 18) then (K0 w) else (ci (fR_looksOn w) <| fun (r8 : Int) (u7 : WD) => if r8 ≠ 59 then (K0 u7) else (bw (up u7 46 17 (w32 ((u7 46 17) + 1))) <| fun (u10 : WD) => cv (fR_line u10) <| fun (u11 : WD) => rec u11))
def fR_readText_l31 (y1 : Int) (K0 : WD → Option (Int × WD)) : Nat → WD → Option (Int × WD)
  | 0 => fun _ => none
  | k + 1 => fR_readText_l31_b ( fR_readText_l31 y1 K0 k) y1 K0
set_option maxRecDepth 100000 in
set_option maxHeartbeats 4000000 in
theorem fR_readText_l31_b_ok (E : Nat × (Int → Int)) (d : Nat) {res : Int × WD} {rec : WD → Option (Int × WD)} (y1 : Int) (K0 : WD → Option (Int × WD)) (hrec : ∀ (w : WD), rec w = some res → G E mR_readText (d + 205) 31 [(0, pR 46), (1, pI y1)] [] w RF NN 0 0 (some (pI res.1), res.2, RF, NN)) (hK0 : ∀ (w : WD), K0 w = some res → G E mR_readText (d + 205) 64 [(0, pR 46), (1, pI y1)] [] w RF NN 0 0 (some (pI res.1), res.2, RF, NN))  (w : WD) (h : fR_readText_l31_b rec y1 K0 w = some res) : G E mR_readText (d + 205) 31 [(0, pR 46), (1, pI y1)] [] w RF NN 0 0 (some (pI res.1), res.2, RF, NN) := by
  unfold fR_readText_l31_b at h
  refine g_aload_n (pc := 31) (j := 0) (dk d_mR_readText 19 rfl) rfl (by decide) ?_
  refine g_getI (pc := 32) fp_R_197 po_46 (dk d_mR_readText 20 rfl) ?_
  refine h_if_ge (pc := 35) (tgt := 64) (dk d_mR_readText 21 rfl) rfl h (fun hc13 h => ?_) (fun hc13 h => ?_)
  · exact hK0 _ h
  · refine g_aload_n (pc := 38) (j := 0) (dk d_mR_readText 22 rfl) rfl (by decide) ?_
    refine h_callVi (d := d + 204) (pc := 39) (na := 0) (av := []) (k0 := 46) po_46 ⟨_, rfl⟩ ⟨rfl, rfl⟩ (dk d_mR_readText 23 rfl) lk_R_209 vm_mR_looksOn rfl rfl (Nat.le_of_ble_eq_true rfl) h (fun r8 u7 hq => kR_looksOn E (d + 203) hq) (fun r8 u7 hb9 h => ?_)
    refine g_bipush (pc := 42) (dk d_mR_readText 24 rfl) (by decide) ?_
    refine h_icmp_ne (pc := 44) (tgt := 64) (dk d_mR_readText 25 rfl) rfl h (fun hc12 h => ?_) (fun hc12 h => ?_)
    · exact hK0 _ h
    · refine g_aload_n (pc := 47) (j := 0) (dk d_mR_readText 26 rfl) rfl (by decide) ?_
      refine g_dup (pc := 48) (dk d_mR_readText 27 rfl) rfl ?_
      refine g_getI (pc := 49) fp_R_194 po_46 (dk d_mR_readText 28 rfl) ?_
      refine g_iconst (pc := 52) (dk d_mR_readText 29 rfl) (by decide) ?_
      refine g_iadd (pc := 53) (dk d_mR_readText 30 rfl) ?_
      refine h_putI (pc := 54) fp_R_194 po_46 (dk d_mR_readText 31 rfl) h (fun u10 h => ?_)
      refine g_aload_n (pc := 57) (j := 0) (dk d_mR_readText 32 rfl) rfl (by decide) ?_
      refine h_callVv (d := d + 204) (pc := 58) (na := 0) (av := []) (k0 := 46) po_46 ⟨_, rfl⟩ ⟨rfl, rfl⟩ (dk d_mR_readText 33 rfl) lk_R_246 vm_mR_line rfl rfl (Nat.le_of_ble_eq_true rfl) h (fun u11 hq => kR_line E (d + 0) hq) (fun u11 h => ?_)
      refine g_goto (pc := 61) (tgt := 31) (dk d_mR_readText 34 rfl) rfl ?_
      exact hrec _ h
set_option maxRecDepth 100000 in
set_option maxHeartbeats 4000000 in
theorem fR_readText_l31_ok (E : Nat × (Int → Int)) (d : Nat) {res : Int × WD} (y1 : Int) (K0 : WD → Option (Int × WD)) (hK0 : ∀ (w : WD), K0 w = some res → G E mR_readText (d + 205) 64 [(0, pR 46), (1, pI y1)] [] w RF NN 0 0 (some (pI res.1), res.2, RF, NN)) : ∀ (k : Nat)  (w : WD), fR_readText_l31 y1 K0 k w = some res → G E mR_readText (d + 205) 31 [(0, pR 46), (1, pI y1)] [] w RF NN 0 0 (some (pI res.1), res.2, RF, NN) := by
  intro k
  induction k with
  | zero =>
    intro w h
    exact no_e h
  | succ k ih =>
    intro w h
    exact fR_readText_l31_b_ok E d y1 K0 ih hK0 w h
def fR_readText_l105_b (rec : Int → WD → Option (Int × WD)) (y1 : Int) (K0 : WD → Option (Int × WD)) (x2 : Int) (w : WD) : Option (Int × WD) := if (w 46 20) ≤ x2 then (K0 w) else (ck (0 ≤ (w32 (130 + x2)) ∧ (w32 (130 + x2)) < 260) <| ck (0 ≤ (w32 ((w32 (130 * y1)) + x2)) ∧ (w32 ((w32 (130 * y1)) + x2)) < 260) <| bw (up w 58 (w32 ((w32 (130 * y1)) + x2)) (w8 (w 58 (w32 (130 + x2))))) <| fun (u17 : WD) => ck (0 ≤ (w32 (130 + x2)) ∧ (w32 (130 + x2)) < 260) <| ck (0 ≤ (w32 ((w32 (130 * y1)) + x2)) ∧ (w32 ((w32 (130 * y1)) + x2)) < 260) <| bw (up u17 59 (w32 ((w32 (130 * y1)) + x2)) (u17 59 (w32 (130 + x2)))) <| fun (u18 : WD) => bv (w32 (x2 + 1)) <| fun (v2_19 : Int) => rec v2_19 u18)
def fR_readText_l105 (y1 : Int) (K0 : WD → Option (Int × WD)) : Nat → Int → WD → Option (Int × WD)
  | 0 => fun _ _ => none
  | k + 1 => fR_readText_l105_b ( fR_readText_l105 y1 K0 k) y1 K0
set_option maxRecDepth 100000 in
set_option maxHeartbeats 4000000 in
theorem fR_readText_l105_b_ok (E : Nat × (Int → Int)) (d : Nat) {res : Int × WD} {rec : Int → WD → Option (Int × WD)} (y1 : Int) (K0 : WD → Option (Int × WD)) (hrec : ∀ (x2 : Int) (w : WD), rec x2 w = some res → G E mR_readText (d + 205) 105 [(0, pR 46), (1, pI y1), (2, pI x2)] [] w RF NN 0 0 (some (pI res.1), res.2, RF, NN)) (hK0 : ∀ (w : WD), K0 w = some res → G E mR_readText (d + 205) 163 [(0, pR 46), (1, pI y1)] [] w RF NN 0 0 (some (pI res.1), res.2, RF, NN)) (x2 : Int) (w : WD) (h : fR_readText_l105_b rec y1 K0 x2 w = some res) : G E mR_readText (d + 205) 105 [(0, pR 46), (1, pI y1), (2, pI x2)] [] w RF NN 0 0 (some (pI res.1), res.2, RF, NN) := by
  unfold fR_readText_l105_b at h
  refine g_iload_n (pc := 105) (j := 2) (dk d_mR_readText 56 rfl) rfl ?_
  refine g_aload_n (pc := 106) (j := 0) (dk d_mR_readText 57 rfl) rfl (by decide) ?_
  refine g_getI (pc := 107) fp_R_200 po_46 (dk d_mR_readText 58 rfl) ?_
  refine h_icmp_ge (pc := 110) (tgt := 163) (dk d_mR_readText 59 rfl) rfl h (fun hc20 h => ?_) (fun hc20 h => ?_)
  · refine g_pick [0, 1] rfl (l' := [(0, pR 46), (1, pI y1)]) rfl ?_
    exact hK0 _ h
  · refine g_aload_n (pc := 113) (j := 0) (dk d_mR_readText 60 rfl) rfl (by decide) ?_
    refine g_getR (pc := 114) (a := 58) rfl fp_R_46 po_46 (dk d_mR_readText 61 rfl) ?_
    refine g_sipush (pc := 117) (dk d_mR_readText 62 rfl) (by decide) ?_
    refine g_iload_n (pc := 120) (j := 1) (dk d_mR_readText 63 rfl) rfl ?_
    refine g_imul (pc := 121) (dk d_mR_readText 64 rfl) ?_
    refine g_iload_n (pc := 122) (j := 2) (dk d_mR_readText 65 rfl) rfl ?_
    refine g_iadd (pc := 123) (dk d_mR_readText 66 rfl) ?_
    refine g_aload_n (pc := 124) (j := 0) (dk d_mR_readText 67 rfl) rfl (by decide) ?_
    refine g_getR (pc := 125) (a := 58) rfl fp_R_46 po_46 (dk d_mR_readText 68 rfl) ?_
    refine g_sipush (pc := 128) (dk d_mR_readText 69 rfl) (by decide) ?_
    refine g_iload_n (pc := 131) (j := 2) (dk d_mR_readText 70 rfl) rfl ?_
    refine g_iadd (pc := 132) (dk d_mR_readText 71 rfl) ?_
    refine h_bald (pc := 133) (B := 260) pa_58 rfl (dk d_mR_readText 72 rfl) h (fun h => ?_)
    refine h_bast (pc := 134) (B := 260) pa_58 rfl (dk d_mR_readText 73 rfl) h (fun u17 h => ?_)
    refine g_aload_n (pc := 135) (j := 0) (dk d_mR_readText 74 rfl) rfl (by decide) ?_
    refine g_getR (pc := 136) (a := 59) rfl fp_R_49 po_46 (dk d_mR_readText 75 rfl) ?_
    refine g_sipush (pc := 139) (dk d_mR_readText 76 rfl) (by decide) ?_
    refine g_iload_n (pc := 142) (j := 1) (dk d_mR_readText 77 rfl) rfl ?_
    refine g_imul (pc := 143) (dk d_mR_readText 78 rfl) ?_
    refine g_iload_n (pc := 144) (j := 2) (dk d_mR_readText 79 rfl) rfl ?_
    refine g_iadd (pc := 145) (dk d_mR_readText 80 rfl) ?_
    refine g_aload_n (pc := 146) (j := 0) (dk d_mR_readText 81 rfl) rfl (by decide) ?_
    refine g_getR (pc := 147) (a := 59) rfl fp_R_49 po_46 (dk d_mR_readText 82 rfl) ?_
    refine g_sipush (pc := 150) (dk d_mR_readText 83 rfl) (by decide) ?_
    refine g_iload_n (pc := 153) (j := 2) (dk d_mR_readText 84 rfl) rfl ?_
    refine g_iadd (pc := 154) (dk d_mR_readText 85 rfl) ?_
    refine h_iald (pc := 155) (B := 260) pa_59 rfl (dk d_mR_readText 86 rfl) h (fun h => ?_)
    refine h_iast (pc := 156) (B := 260) pa_59 rfl (dk d_mR_readText 87 rfl) h (fun u18 h => ?_)
    refine h_iinc (pc := 157) (j := 2) (dk d_mR_readText 88 rfl) rfl (by decide) (Nat.le_of_ble_eq_true rfl) h (fun v2_19 h => ?_)
    refine g_loc (l' := [(2, pI v2_19), (0, pR 46), (1, pI y1)]) rfl ?_
    refine g_goto (pc := 160) (tgt := 105) (dk d_mR_readText 89 rfl) rfl ?_
    refine g_pick [1, 2, 0] rfl (l' := [(0, pR 46), (1, pI y1), (2, pI v2_19)]) rfl ?_
    exact hrec _ _ h
set_option maxRecDepth 100000 in
set_option maxHeartbeats 4000000 in
theorem fR_readText_l105_ok (E : Nat × (Int → Int)) (d : Nat) {res : Int × WD} (y1 : Int) (K0 : WD → Option (Int × WD)) (hK0 : ∀ (w : WD), K0 w = some res → G E mR_readText (d + 205) 163 [(0, pR 46), (1, pI y1)] [] w RF NN 0 0 (some (pI res.1), res.2, RF, NN)) : ∀ (k : Nat) (x2 : Int) (w : WD), fR_readText_l105 y1 K0 k x2 w = some res → G E mR_readText (d + 205) 105 [(0, pR 46), (1, pI y1), (2, pI x2)] [] w RF NN 0 0 (some (pI res.1), res.2, RF, NN) := by
  intro k
  induction k with
  | zero =>
    intro x2 w h
    exact no_e h
  | succ k ih =>
    intro x2 w h
    exact fR_readText_l105_b_ok E d y1 K0 ih hK0 x2 w h
def fR_readText_l177_b (rec : Int → WD → Option (Int × WD)) (y1 : Int) (x2 : Int) (w : WD) : Option (Int × WD) := ck (0 ≤ y1 ∧ y1 < 2) <| if (w 60 y1) ≤ x2 then (some ((-1), w)) else (ck (0 ≤ (w32 (61 + x2)) ∧ (w32 (61 + x2)) < 122) <| ck (0 ≤ (w32 ((w32 (61 * y1)) + x2)) ∧ (w32 ((w32 (61 * y1)) + x2)) < 122) <| bw (up w 61 (w32 ((w32 (61 * y1)) + x2)) (w16 (w 61 (w32 (61 + x2))))) <| fun (u23 : WD) => ck (0 ≤ (w32 (61 + x2)) ∧ (w32 (61 + x2)) < 122) <| ck (0 ≤ (w32 ((w32 (61 * y1)) + x2)) ∧ (w32 ((w32 (61 * y1)) + x2)) < 122) <| bw (up u23 62 (w32 ((w32 (61 * y1)) + x2)) (w16 (u23 62 (w32 (61 + x2))))) <| fun (u24 : WD) => bv (w32 (x2 + 1)) <| fun (v2_25 : Int) => rec v2_25 u24)
def fR_readText_l177 (y1 : Int) : Nat → Int → WD → Option (Int × WD)
  | 0 => fun _ _ => none
  | k + 1 => fR_readText_l177_b ( fR_readText_l177 y1 k) y1
set_option maxRecDepth 100000 in
set_option maxHeartbeats 4000000 in
theorem fR_readText_l177_b_ok (E : Nat × (Int → Int)) (d : Nat) {res : Int × WD} {rec : Int → WD → Option (Int × WD)} (y1 : Int) (hrec : ∀ (x2 : Int) (w : WD), rec x2 w = some res → G E mR_readText (d + 205) 177 [(0, pR 46), (1, pI y1), (2, pI x2)] [] w RF NN 0 0 (some (pI res.1), res.2, RF, NN)) (x2 : Int) (w : WD) (h : fR_readText_l177_b rec y1 x2 w = some res) : G E mR_readText (d + 205) 177 [(0, pR 46), (1, pI y1), (2, pI x2)] [] w RF NN 0 0 (some (pI res.1), res.2, RF, NN) := by
  unfold fR_readText_l177_b at h
  refine g_iload_n (pc := 177) (j := 2) (dk d_mR_readText 100 rfl) rfl ?_
  refine g_aload_n (pc := 178) (j := 0) (dk d_mR_readText 101 rfl) rfl (by decide) ?_
  refine g_getR (pc := 179) (a := 60) rfl fp_R_52 po_46 (dk d_mR_readText 102 rfl) ?_
  refine g_iload_n (pc := 182) (j := 1) (dk d_mR_readText 103 rfl) rfl ?_
  refine h_iald (pc := 183) (B := 2) pa_60 rfl (dk d_mR_readText 104 rfl) h (fun h => ?_)
  refine h_icmp_ge (pc := 184) (tgt := 233) (dk d_mR_readText 105 rfl) rfl h (fun hc26 h => ?_) (fun hc26 h => ?_)
  · refine g_iconst (pc := 233) (dk d_mR_readText_1 16 rfl) (by decide) ?_
    exact h_iret (pc := 234) rfl (dk d_mR_readText_1 17 rfl) h
  · refine g_aload_n (pc := 187) (j := 0) (dk d_mR_readText 106 rfl) rfl (by decide) ?_
    refine g_getR (pc := 188) (a := 61) rfl fp_R_55 po_46 (dk d_mR_readText 107 rfl) ?_
    refine g_bipush (pc := 191) (dk d_mR_readText 108 rfl) (by decide) ?_
    refine g_iload_n (pc := 193) (j := 1) (dk d_mR_readText 109 rfl) rfl ?_
    refine g_imul (pc := 194) (dk d_mR_readText 110 rfl) ?_
    refine g_iload_n (pc := 195) (j := 2) (dk d_mR_readText 111 rfl) rfl ?_
    refine g_iadd (pc := 196) (dk d_mR_readText 112 rfl) ?_
    refine g_aload_n (pc := 197) (j := 0) (dk d_mR_readText 113 rfl) rfl (by decide) ?_
    refine g_getR (pc := 198) (a := 61) rfl fp_R_55 po_46 (dk d_mR_readText 114 rfl) ?_
    refine g_bipush (pc := 201) (dk d_mR_readText 115 rfl) (by decide) ?_
    refine g_iload_n (pc := 203) (j := 2) (dk d_mR_readText 116 rfl) rfl ?_
    refine g_iadd (pc := 204) (dk d_mR_readText 117 rfl) ?_
    refine h_sald (pc := 205) (B := 122) pa_61 rfl (dk d_mR_readText 118 rfl) h (fun h => ?_)
    refine h_sast (pc := 206) (B := 122) pa_61 rfl (dk d_mR_readText 119 rfl) h (fun u23 h => ?_)
    refine g_aload_n (pc := 207) (j := 0) (dk d_mR_readText_1 0 rfl) rfl (by decide) ?_
    refine g_getR (pc := 208) (a := 62) rfl fp_R_59 po_46 (dk d_mR_readText_1 1 rfl) ?_
    refine g_bipush (pc := 211) (dk d_mR_readText_1 2 rfl) (by decide) ?_
    refine g_iload_n (pc := 213) (j := 1) (dk d_mR_readText_1 3 rfl) rfl ?_
    refine g_imul (pc := 214) (dk d_mR_readText_1 4 rfl) ?_
    refine g_iload_n (pc := 215) (j := 2) (dk d_mR_readText_1 5 rfl) rfl ?_
    refine g_iadd (pc := 216) (dk d_mR_readText_1 6 rfl) ?_
    refine g_aload_n (pc := 217) (j := 0) (dk d_mR_readText_1 7 rfl) rfl (by decide) ?_
    refine g_getR (pc := 218) (a := 62) rfl fp_R_59 po_46 (dk d_mR_readText_1 8 rfl) ?_
    refine g_bipush (pc := 221) (dk d_mR_readText_1 9 rfl) (by decide) ?_
    refine g_iload_n (pc := 223) (j := 2) (dk d_mR_readText_1 10 rfl) rfl ?_
    refine g_iadd (pc := 224) (dk d_mR_readText_1 11 rfl) ?_
    refine h_sald (pc := 225) (B := 122) pa_62 rfl (dk d_mR_readText_1 12 rfl) h (fun h => ?_)
    refine h_sast (pc := 226) (B := 122) pa_62 rfl (dk d_mR_readText_1 13 rfl) h (fun u24 h => ?_)
    refine h_iinc (pc := 227) (j := 2) (dk d_mR_readText_1 14 rfl) rfl (by decide) (Nat.le_of_ble_eq_true rfl) h (fun v2_25 h => ?_)
    refine g_loc (l' := [(2, pI v2_25), (0, pR 46), (1, pI y1)]) rfl ?_
    refine g_goto (pc := 230) (tgt := 177) (dk d_mR_readText_1 15 rfl) rfl ?_
    refine g_pick [1, 2, 0] rfl (l' := [(0, pR 46), (1, pI y1), (2, pI v2_25)]) rfl ?_
    exact hrec _ _ h
set_option maxRecDepth 100000 in
set_option maxHeartbeats 4000000 in
theorem fR_readText_l177_ok (E : Nat × (Int → Int)) (d : Nat) {res : Int × WD} (y1 : Int) : ∀ (k : Nat) (x2 : Int) (w : WD), fR_readText_l177 y1 k x2 w = some res → G E mR_readText (d + 205) 177 [(0, pR 46), (1, pI y1), (2, pI x2)] [] w RF NN 0 0 (some (pI res.1), res.2, RF, NN) := by
  intro k
  induction k with
  | zero =>
    intro x2 w h
    exact no_e h
  | succ k ih =>
    intro x2 w h
    exact fR_readText_l177_b_ok E d y1 ih x2 w h
def fR_readText (a1 : Int) (w : WD) : Option (Int × WD) := bw (up w 46 17 0) <| fun (u1 : WD) => bw (up u1 46 18 (-1)) <| fun (u2 : WD) => bw (up u2 46 19 0) <| fun (u3 : WD) => bw (up u3 46 20 0) <| fun (u4 : WD) => bw (up u4 60 1 0) <| fun (u5 : WD) => cv (fR_line u5) <| fun (u6 : WD) => fR_readText_l31 a1 (fun (u14 : WD) => jn (β := WD → Option (Int × WD)) (fun (u15 : WD) => bw (up u15 46 16 0) <| fun (u16 : WD) => if (u16 46 18) < 0 then (fR_readText_l105 a1 (fun (u21 : WD) => ck (0 ≤ a1 ∧ a1 < 2) <| bw (up u21 60 a1 (u21 60 1)) <| fun (u22 : WD) => fR_readText_l177 a1 FU 0 u22) FU 0 u16) else (some ((u16 46 18), u16))) <| fun J28 => if 0 ≤ (u14 46 18) then (J28 u14) else (if (u14 46 16) ≤ (u14 46 17) then (J28 u14) else (cv (fR_wrong u14) <| fun (u29 : WD) => J28 u29))) FU u6
set_option maxRecDepth 100000 in
set_option maxHeartbeats 4000000 in
theorem gR_readText (E : Nat × (Int → Int)) (d : Nat) {res : Int × WD} (a1 : Int) (w : WD) (h : fR_readText a1 w = some res) : G E mR_readText (d + 205) 0 [(0, pR 46), (1, pI a1)] [] w RF NN 0 0 (some (pI res.1), res.2, RF, NN) := by
  unfold fR_readText at h
  refine g_aload_n (pc := 0) (j := 0) (dk d_mR_readText 0 rfl) rfl (by decide) ?_
  refine g_iconst (pc := 1) (dk d_mR_readText 1 rfl) (by decide) ?_
  refine h_putI (pc := 2) fp_R_194 po_46 (dk d_mR_readText 2 rfl) h (fun u1 h => ?_)
  refine g_aload_n (pc := 5) (j := 0) (dk d_mR_readText 3 rfl) rfl (by decide) ?_
  refine g_iconst (pc := 6) (dk d_mR_readText 4 rfl) (by decide) ?_
  refine h_putI (pc := 7) fp_R_197 po_46 (dk d_mR_readText 5 rfl) h (fun u2 h => ?_)
  refine g_aload_n (pc := 10) (j := 0) (dk d_mR_readText 6 rfl) rfl (by decide) ?_
  refine g_iconst (pc := 11) (dk d_mR_readText 7 rfl) (by decide) ?_
  refine h_putI (pc := 12) fp_R_203 po_46 (dk d_mR_readText 8 rfl) h (fun u3 h => ?_)
  refine g_aload_n (pc := 15) (j := 0) (dk d_mR_readText 9 rfl) rfl (by decide) ?_
  refine g_iconst (pc := 16) (dk d_mR_readText 10 rfl) (by decide) ?_
  refine h_putI (pc := 17) fp_R_200 po_46 (dk d_mR_readText 11 rfl) h (fun u4 h => ?_)
  refine g_aload_n (pc := 20) (j := 0) (dk d_mR_readText 12 rfl) rfl (by decide) ?_
  refine g_getR (pc := 21) (a := 60) rfl fp_R_52 po_46 (dk d_mR_readText 13 rfl) ?_
  refine g_iconst (pc := 24) (dk d_mR_readText 14 rfl) (by decide) ?_
  refine g_iconst (pc := 25) (dk d_mR_readText 15 rfl) (by decide) ?_
  refine h_iast0 (pc := 26) pa_60 (dk d_mR_readText 16 rfl) (by decide) h (fun u5 h => ?_)
  refine g_aload_n (pc := 27) (j := 0) (dk d_mR_readText 17 rfl) rfl (by decide) ?_
  refine h_callVv (d := d + 204) (pc := 28) (na := 0) (av := []) (k0 := 46) po_46 ⟨_, rfl⟩ ⟨rfl, rfl⟩ (dk d_mR_readText 18 rfl) lk_R_246 vm_mR_line rfl rfl (Nat.le_of_ble_eq_true rfl) h (fun u6 hq => kR_line E (d + 0) hq) (fun u6 h => ?_)
  refine fR_readText_l31_ok E d a1 _  (fun u14 h => ?_) FU _ h
  · refine g_aload_n (pc := 64) (j := 0) (dk d_mR_readText 35 rfl) rfl (by decide) ?_
    refine g_getI (pc := 65) fp_R_197 po_46 (dk d_mR_readText 36 rfl) ?_
    refine jn_e (fun J => ∀ (u15 : WD), J u15 = some res → G E mR_readText (d + 205) 86 [(0, pR 46), (1, pI a1)] [] u15 RF NN 0 0 (some (pI res.1), res.2, RF, NN)) h (fun u15 h => ?_) (fun J28 hJ28 h => ?_)
    · refine g_aload_n (pc := 86) (j := 0) (dk d_mR_readText 45 rfl) rfl (by decide) ?_
      refine g_iconst (pc := 87) (dk d_mR_readText 46 rfl) (by decide) ?_
      refine h_putI (pc := 88) fp_R_191 po_46 (dk d_mR_readText 47 rfl) h (fun u16 h => ?_)
      refine g_aload_n (pc := 91) (j := 0) (dk d_mR_readText 48 rfl) rfl (by decide) ?_
      refine g_getI (pc := 92) fp_R_197 po_46 (dk d_mR_readText 49 rfl) ?_
      refine h_if_lt (pc := 95) (tgt := 103) (dk d_mR_readText 50 rfl) rfl h (fun hc27 h => ?_) (fun hc27 h => ?_)
      · refine g_iconst (pc := 103) (dk d_mR_readText 54 rfl) (by decide) ?_
        refine g_istore_n (pc := 104) (l' := [(2, pI 0), (0, pR 46), (1, pI a1)]) (dk d_mR_readText 55 rfl) (Nat.le_of_ble_eq_true rfl) rfl ?_
        refine g_pick [1, 2, 0] rfl (l' := [(0, pR 46), (1, pI a1), (2, pI 0)]) rfl ?_
        refine fR_readText_l105_ok E d a1 _  (fun u21 h => ?_) FU _  _ h
        · refine g_aload_n (pc := 163) (j := 0) (dk d_mR_readText 90 rfl) rfl (by decide) ?_
          refine g_getR (pc := 164) (a := 60) rfl fp_R_52 po_46 (dk d_mR_readText 91 rfl) ?_
          refine g_iload_n (pc := 167) (j := 1) (dk d_mR_readText 92 rfl) rfl ?_
          refine g_aload_n (pc := 168) (j := 0) (dk d_mR_readText 93 rfl) rfl (by decide) ?_
          refine g_getR (pc := 169) (a := 60) rfl fp_R_52 po_46 (dk d_mR_readText 94 rfl) ?_
          refine g_iconst (pc := 172) (dk d_mR_readText 95 rfl) (by decide) ?_
          refine g_iald (pc := 173) pa_60 (dk d_mR_readText 96 rfl) (by decide) ?_
          refine h_iast (pc := 174) (B := 2) pa_60 rfl (dk d_mR_readText 97 rfl) h (fun u22 h => ?_)
          refine g_iconst (pc := 175) (dk d_mR_readText 98 rfl) (by decide) ?_
          refine g_istore_n (pc := 176) (l' := [(2, pI 0), (0, pR 46), (1, pI a1)]) (dk d_mR_readText 99 rfl) (Nat.le_of_ble_eq_true rfl) rfl ?_
          refine g_pick [1, 2, 0] rfl (l' := [(0, pR 46), (1, pI a1), (2, pI 0)]) rfl ?_
          refine fR_readText_l177_ok E d a1 FU _  _ h
      · refine g_aload_n (pc := 98) (j := 0) (dk d_mR_readText 51 rfl) rfl (by decide) ?_
        refine g_getI (pc := 99) fp_R_197 po_46 (dk d_mR_readText 52 rfl) ?_
        exact h_iret (pc := 102) rfl (dk d_mR_readText 53 rfl) h
    · refine h_if_ge (pc := 68) (tgt := 86) (dk d_mR_readText 37 rfl) rfl h (fun hc31 h => ?_) (fun hc31 h => ?_)
      · exact hJ28 _ h
      · refine g_aload_n (pc := 71) (j := 0) (dk d_mR_readText 38 rfl) rfl (by decide) ?_
        refine g_getI (pc := 72) fp_R_194 po_46 (dk d_mR_readText 39 rfl) ?_
        refine g_aload_n (pc := 75) (j := 0) (dk d_mR_readText 40 rfl) rfl (by decide) ?_
        refine g_getI (pc := 76) fp_R_191 po_46 (dk d_mR_readText 41 rfl) ?_
        refine h_icmp_ge (pc := 79) (tgt := 86) (dk d_mR_readText 42 rfl) rfl h (fun hc30 h => ?_) (fun hc30 h => ?_)
        · exact hJ28 _ h
        · refine g_aload_n (pc := 82) (j := 0) (dk d_mR_readText 43 rfl) rfl (by decide) ?_
          refine h_callVv (d := d + 204) (pc := 83) (na := 0) (av := []) (k0 := 46) po_46 ⟨_, rfl⟩ ⟨rfl, rfl⟩ (dk d_mR_readText 44 rfl) lk_R_206 vm_mR_wrong rfl rfl (Nat.le_of_ble_eq_true rfl) h (fun u29 hq => kR_wrong E (d + 203) hq) (fun u29 h => ?_)
          exact hJ28 _ h
set_option maxRecDepth 100000 in
set_option maxHeartbeats 4000000 in
theorem kR_readText (E : Nat × (Int → Int)) (d : Nat) {a1 : Int} {w w1 : WD} {r : Int} (h : fR_readText a1 w = some (r, w1)) : CTi E mR_readText (d + 205) [pR 46, pI a1] w RF NN r w1 RF NN := by
  exact CTi_of (by decide +kernel) (Nat.le_of_ble_eq_true rfl) (Or.inl rfl) (gR_readText (res := (r, w1)) E d a1 w h)
def fR_law (w : WD) : Option (Int × WD) := ci (fR_readText 0 w) <| fun (r2 : Int) (u1 : WD) => if r2 < 0 then (bw (up u1 46 28 1) <| fun (u4 : WD) => some (1, u4)) else (some ((w32 ((-100) - r2)), u1))
set_option maxRecDepth 100000 in
set_option maxHeartbeats 4000000 in
theorem gR_law (E : Nat × (Int → Int)) (d : Nat) {res : Int × WD} (w : WD) (h : fR_law w = some res) : G E mR_law (d + 206) 0 [(0, pR 46)] [] w RF NN 0 0 (some (pI res.1), res.2, RF, NN) := by
  unfold fR_law at h
  refine g_aload_n (pc := 0) (j := 0) (dk d_mR_law 0 rfl) rfl (by decide) ?_
  refine g_iconst (pc := 1) (dk d_mR_law 1 rfl) (by decide) ?_
  refine h_callVi (d := d + 205) (pc := 2) (na := 1) (av := [pI 0]) (k0 := 46) po_46 ⟨_, rfl⟩ ⟨rfl, rfl⟩ (dk d_mR_law 2 rfl) lk_R_255 vm_mR_readText rfl rfl (Nat.le_of_ble_eq_true rfl) h (fun r2 u1 hq => kR_readText E (d + 0) hq) (fun r2 u1 hb3 h => ?_)
  refine g_istore_n (pc := 5) (l' := [(1, pI r2), (0, pR 46)]) (dk d_mR_law 3 rfl) (Nat.le_of_ble_eq_true rfl) rfl ?_
  refine g_iload_n (pc := 6) (j := 0) (dk d_mR_law 4 rfl) rfl ?_
  refine h_if_lt (pc := 7) (tgt := 15) (dk d_mR_law 5 rfl) rfl h (fun hc5 h => ?_) (fun hc5 h => ?_)
  · refine g_aload_n (pc := 15) (j := 1) (dk d_mR_law 10 rfl) rfl (by decide) ?_
    refine g_iconst (pc := 16) (dk d_mR_law 11 rfl) (by decide) ?_
    refine h_putZ (pc := 17) fp_R_258 po_46 (Or.inr rfl) (dk d_mR_law 12 rfl) h (fun u4 h => ?_)
    refine g_iconst (pc := 20) (dk d_mR_law 13 rfl) (by decide) ?_
    exact h_iret (pc := 21) rfl (dk d_mR_law 14 rfl) h
  · refine g_bipush (pc := 10) (dk d_mR_law 6 rfl) (by decide) ?_
    refine g_iload_n (pc := 12) (j := 0) (dk d_mR_law 7 rfl) rfl ?_
    refine g_isub (pc := 13) (dk d_mR_law 8 rfl) ?_
    exact h_iret (pc := 14) rfl (dk d_mR_law 9 rfl) h
set_option maxRecDepth 100000 in
set_option maxHeartbeats 4000000 in
theorem kR_law (E : Nat × (Int → Int)) (d : Nat) {w w1 : WD} {r : Int} (h : fR_law w = some (r, w1)) : CTi E mR_law (d + 206) [pR 46] w RF NN r w1 RF NN := by
  exact CTi_of (by decide +kernel) (Nat.le_of_ble_eq_true rfl) (Or.inl rfl) (gR_law (res := (r, w1)) E d w h)
def fR_twoOf (a0 : Int) (a1 : Int) (a2 : Int) (w : WD) : Option (Int × WD) := if a0 = 37 then (if a2 = 0 then (some (0, w)) else (if a2 ≠ (-1) then (ck (a2 ≠ 0) <| some ((Int.tmod a1 a2), w)) else (some (0, w)))) else (if a0 = 38 then (if a1 = 0 then (some (0, w)) else (if a2 = 0 then (some (0, w)) else (some (1, w)))) else (if a0 = 39 ∨ a0 = 40 ∨ a0 = 41 ∨ a0 = 44 ∨ a0 = 46 ∨ a0 = 48 ∨ a0 = 49 ∨ a0 = 50 ∨ a0 = 51 ∨ a0 = 52 ∨ a0 = 53 ∨ a0 = 54 ∨ a0 = 55 ∨ a0 = 56 ∨ a0 = 57 ∨ a0 = 58 ∨ a0 = 59 then (if a1 ≠ 0 then (some (1, w)) else (if a2 = 0 then (some (0, w)) else (some (1, w)))) else (if a0 = 42 then (some ((w32 (a1 * a2)), w)) else (if a0 = 43 then (some ((w32 (a1 + a2)), w)) else (if a0 = 45 then (some ((w32 (a1 - a2)), w)) else (if a0 = 47 then (if a2 ≠ 0 then (if a2 ≠ (-1) then (ck (a2 ≠ 0) <| some ((w32 (Int.tdiv a1 a2)), w)) else (some ((w32 (-a1)), w))) else (some (0, w))) else (if a0 = 60 then (if a2 ≤ a1 then (some (0, w)) else (some (1, w))) else (if a0 = 61 then (if a1 ≠ a2 then (some (0, w)) else (some (1, w))) else (if a0 = 62 then (if a1 ≤ a2 then (some (0, w)) else (some (1, w))) else ((if a1 ≠ 0 then (some (1, w)) else (if a2 = 0 then (some (0, w)) else (some (1, w))))))))))))))
set_option maxRecDepth 100000 in
set_option maxHeartbeats 4000000 in
theorem gR_twoOf (E : Nat × (Int → Int)) (d : Nat) {res : Int × WD} (a0 : Int) (a1 : Int) (a2 : Int) (w : WD) (h : fR_twoOf a0 a1 a2 w = some res) : G E mR_twoOf (d + 1) 0 [(0, pI a0), (1, pI a1), (2, pI a2)] [] w RF NN 0 0 (some (pI res.1), res.2, RF, NN) := by
  unfold fR_twoOf at h
  refine g_iload_n (pc := 0) (j := 0) (dk d_mR_twoOf 0 rfl) rfl ?_
  refine br h (fun hc3 h => ?_) (fun hc3 h => ?_)
  · refine g_tin (pc := 1) (off := 153) (tgt := 154) (dk d_mR_twoOf 1 rfl) (by omega) (by omega) (by rw [hc3]; rfl) rfl ?_
    refine g_iload_n (pc := 154) (j := 2) (dk d_mR_twoOf 28 rfl) rfl ?_
    refine h_if_eq (pc := 155) (tgt := 163) (dk d_mR_twoOf 29 rfl) rfl h (fun hc2 h => ?_) (fun hc2 h => ?_)
    · refine g_iconst (pc := 163) (dk d_mR_twoOf 33 rfl) (by decide) ?_
      refine g_goto (pc := 164) (tgt := 170) (dk d_mR_twoOf 34 rfl) rfl ?_
      exact h_iret (pc := 170) rfl (dk d_mR_twoOf 38 rfl) h
    · refine g_iload_n (pc := 158) (j := 2) (dk d_mR_twoOf 30 rfl) rfl ?_
      refine g_iconst (pc := 159) (dk d_mR_twoOf 31 rfl) (by decide) ?_
      refine h_icmp_ne (pc := 160) (tgt := 167) (dk d_mR_twoOf 32 rfl) rfl h (fun hc1 h => ?_) (fun hc1 h => ?_)
      · refine g_iload_n (pc := 167) (j := 1) (dk d_mR_twoOf 35 rfl) rfl ?_
        refine g_iload_n (pc := 168) (j := 2) (dk d_mR_twoOf 36 rfl) rfl ?_
        refine h_irem (pc := 169) (dk d_mR_twoOf 37 rfl) h (fun h => ?_)
        exact h_iret (pc := 170) rfl (dk d_mR_twoOf 38 rfl) h
      · refine g_iconst (pc := 163) (dk d_mR_twoOf 33 rfl) (by decide) ?_
        refine g_goto (pc := 164) (tgt := 170) (dk d_mR_twoOf 34 rfl) rfl ?_
        exact h_iret (pc := 170) rfl (dk d_mR_twoOf 38 rfl) h
  · refine br h (fun hc6 h => ?_) (fun hc6 h => ?_)
    · refine g_tin (pc := 1) (off := 203) (tgt := 204) (dk d_mR_twoOf 1 rfl) (by omega) (by omega) (by rw [hc6]; rfl) rfl ?_
      refine g_iload_n (pc := 204) (j := 1) (dk d_mR_twoOf 60 rfl) rfl ?_
      refine h_if_eq (pc := 205) (tgt := 216) (dk d_mR_twoOf 61 rfl) rfl h (fun hc5 h => ?_) (fun hc5 h => ?_)
      · refine g_iconst (pc := 216) (dk d_mR_twoOf 66 rfl) (by decide) ?_
        exact h_iret (pc := 217) rfl (dk d_mR_twoOf 67 rfl) h
      · refine g_iload_n (pc := 208) (j := 2) (dk d_mR_twoOf 62 rfl) rfl ?_
        refine h_if_eq (pc := 209) (tgt := 216) (dk d_mR_twoOf 63 rfl) rfl h (fun hc4 h => ?_) (fun hc4 h => ?_)
        · refine g_iconst (pc := 216) (dk d_mR_twoOf 66 rfl) (by decide) ?_
          exact h_iret (pc := 217) rfl (dk d_mR_twoOf 67 rfl) h
        · refine g_iconst (pc := 212) (dk d_mR_twoOf 64 rfl) (by decide) ?_
          refine g_goto (pc := 213) (tgt := 217) (dk d_mR_twoOf 65 rfl) rfl ?_
          exact h_iret (pc := 217) rfl (dk d_mR_twoOf 67 rfl) h
    · refine br h (fun hc9 h => ?_) (fun hc9 h => ?_)
      · refine g_tin (pc := 1) (off := 217) (tgt := 218) (dk d_mR_twoOf 1 rfl) (by omega) (by omega) (by rcases hc9 with hc9 | hc9 | hc9 | hc9 | hc9 | hc9 | hc9 | hc9 | hc9 | hc9 | hc9 | hc9 | hc9 | hc9 | hc9 | hc9 | hc9 <;> rw [hc9] <;> rfl) rfl ?_
        refine g_iload_n (pc := 218) (j := 1) (dk d_mR_twoOf 68 rfl) rfl ?_
        refine h_if_ne (pc := 219) (tgt := 226) (dk d_mR_twoOf 69 rfl) rfl h (fun hc8 h => ?_) (fun hc8 h => ?_)
        · refine g_iconst (pc := 226) (dk d_mR_twoOf 72 rfl) (by decide) ?_
          refine g_goto (pc := 227) (tgt := 231) (dk d_mR_twoOf 73 rfl) rfl ?_
          exact h_iret (pc := 231) rfl (dk d_mR_twoOf 75 rfl) h
        · refine g_iload_n (pc := 222) (j := 2) (dk d_mR_twoOf 70 rfl) rfl ?_
          refine h_if_eq (pc := 223) (tgt := 230) (dk d_mR_twoOf 71 rfl) rfl h (fun hc7 h => ?_) (fun hc7 h => ?_)
          · refine g_iconst (pc := 230) (dk d_mR_twoOf 74 rfl) (by decide) ?_
            exact h_iret (pc := 231) rfl (dk d_mR_twoOf 75 rfl) h
          · refine g_iconst (pc := 226) (dk d_mR_twoOf 72 rfl) (by decide) ?_
            refine g_goto (pc := 227) (tgt := 231) (dk d_mR_twoOf 73 rfl) rfl ?_
            exact h_iret (pc := 231) rfl (dk d_mR_twoOf 75 rfl) h
      · refine br h (fun hc10 h => ?_) (fun hc10 h => ?_)
        · refine g_tin (pc := 1) (off := 127) (tgt := 128) (dk d_mR_twoOf 1 rfl) (by omega) (by omega) (by rw [hc10]; rfl) rfl ?_
          refine g_iload_n (pc := 128) (j := 1) (dk d_mR_twoOf 10 rfl) rfl ?_
          refine g_iload_n (pc := 129) (j := 2) (dk d_mR_twoOf 11 rfl) rfl ?_
          refine g_imul (pc := 130) (dk d_mR_twoOf 12 rfl) ?_
          exact h_iret (pc := 131) rfl (dk d_mR_twoOf 13 rfl) h
        · refine br h (fun hc11 h => ?_) (fun hc11 h => ?_)
          · refine g_tin (pc := 1) (off := 119) (tgt := 120) (dk d_mR_twoOf 1 rfl) (by omega) (by omega) (by rw [hc11]; rfl) rfl ?_
            refine g_iload_n (pc := 120) (j := 1) (dk d_mR_twoOf 2 rfl) rfl ?_
            refine g_iload_n (pc := 121) (j := 2) (dk d_mR_twoOf 3 rfl) rfl ?_
            refine g_iadd (pc := 122) (dk d_mR_twoOf 4 rfl) ?_
            exact h_iret (pc := 123) rfl (dk d_mR_twoOf 5 rfl) h
          · refine br h (fun hc12 h => ?_) (fun hc12 h => ?_)
            · refine g_tin (pc := 1) (off := 123) (tgt := 124) (dk d_mR_twoOf 1 rfl) (by omega) (by omega) (by rw [hc12]; rfl) rfl ?_
              refine g_iload_n (pc := 124) (j := 1) (dk d_mR_twoOf 6 rfl) rfl ?_
              refine g_iload_n (pc := 125) (j := 2) (dk d_mR_twoOf 7 rfl) rfl ?_
              refine g_isub (pc := 126) (dk d_mR_twoOf 8 rfl) ?_
              exact h_iret (pc := 127) rfl (dk d_mR_twoOf 9 rfl) h
            · refine br h (fun hc15 h => ?_) (fun hc15 h => ?_)
              · refine g_tin (pc := 1) (off := 131) (tgt := 132) (dk d_mR_twoOf 1 rfl) (by omega) (by omega) (by rw [hc15]; rfl) rfl ?_
                refine g_iload_n (pc := 132) (j := 2) (dk d_mR_twoOf 14 rfl) rfl ?_
                refine h_if_ne (pc := 133) (tgt := 140) (dk d_mR_twoOf 15 rfl) rfl h (fun hc14 h => ?_) (fun hc14 h => ?_)
                · refine g_iload_n (pc := 140) (j := 2) (dk d_mR_twoOf 18 rfl) rfl ?_
                  refine g_iconst (pc := 141) (dk d_mR_twoOf 19 rfl) (by decide) ?_
                  refine h_icmp_ne (pc := 142) (tgt := 150) (dk d_mR_twoOf 20 rfl) rfl h (fun hc13 h => ?_) (fun hc13 h => ?_)
                  · refine g_iload_n (pc := 150) (j := 1) (dk d_mR_twoOf 24 rfl) rfl ?_
                    refine g_iload_n (pc := 151) (j := 2) (dk d_mR_twoOf 25 rfl) rfl ?_
                    refine h_idiv (pc := 152) (dk d_mR_twoOf 26 rfl) h (fun h => ?_)
                    exact h_iret (pc := 153) rfl (dk d_mR_twoOf 27 rfl) h
                  · refine g_iload_n (pc := 145) (j := 1) (dk d_mR_twoOf 21 rfl) rfl ?_
                    refine g_ineg (pc := 146) (dk d_mR_twoOf 22 rfl) ?_
                    refine g_goto (pc := 147) (tgt := 153) (dk d_mR_twoOf 23 rfl) rfl ?_
                    exact h_iret (pc := 153) rfl (dk d_mR_twoOf 27 rfl) h
                · refine g_iconst (pc := 136) (dk d_mR_twoOf 16 rfl) (by decide) ?_
                  refine g_goto (pc := 137) (tgt := 153) (dk d_mR_twoOf 17 rfl) rfl ?_
                  exact h_iret (pc := 153) rfl (dk d_mR_twoOf 27 rfl) h
              · refine br h (fun hc17 h => ?_) (fun hc17 h => ?_)
                · refine g_tin (pc := 1) (off := 170) (tgt := 171) (dk d_mR_twoOf 1 rfl) (by omega) (by omega) (by rw [hc17]; rfl) rfl ?_
                  refine g_iload_n (pc := 171) (j := 1) (dk d_mR_twoOf 39 rfl) rfl ?_
                  refine g_iload_n (pc := 172) (j := 2) (dk d_mR_twoOf 40 rfl) rfl ?_
                  refine h_icmp_ge (pc := 173) (tgt := 180) (dk d_mR_twoOf 41 rfl) rfl h (fun hc16 h => ?_) (fun hc16 h => ?_)
                  · refine g_iconst (pc := 180) (dk d_mR_twoOf 44 rfl) (by decide) ?_
                    exact h_iret (pc := 181) rfl (dk d_mR_twoOf 45 rfl) h
                  · refine g_iconst (pc := 176) (dk d_mR_twoOf 42 rfl) (by decide) ?_
                    refine g_goto (pc := 177) (tgt := 181) (dk d_mR_twoOf 43 rfl) rfl ?_
                    exact h_iret (pc := 181) rfl (dk d_mR_twoOf 45 rfl) h
                · refine br h (fun hc19 h => ?_) (fun hc19 h => ?_)
                  · refine g_tin (pc := 1) (off := 181) (tgt := 182) (dk d_mR_twoOf 1 rfl) (by omega) (by omega) (by rw [hc19]; rfl) rfl ?_
                    refine g_iload_n (pc := 182) (j := 1) (dk d_mR_twoOf 46 rfl) rfl ?_
                    refine g_iload_n (pc := 183) (j := 2) (dk d_mR_twoOf 47 rfl) rfl ?_
                    refine h_icmp_ne (pc := 184) (tgt := 191) (dk d_mR_twoOf 48 rfl) rfl h (fun hc18 h => ?_) (fun hc18 h => ?_)
                    · refine g_iconst (pc := 191) (dk d_mR_twoOf 51 rfl) (by decide) ?_
                      exact h_iret (pc := 192) rfl (dk d_mR_twoOf 52 rfl) h
                    · refine g_iconst (pc := 187) (dk d_mR_twoOf 49 rfl) (by decide) ?_
                      refine g_goto (pc := 188) (tgt := 192) (dk d_mR_twoOf 50 rfl) rfl ?_
                      exact h_iret (pc := 192) rfl (dk d_mR_twoOf 52 rfl) h
                  · refine br h (fun hc21 h => ?_) (fun hc21 h => ?_)
                    · refine g_tin (pc := 1) (off := 192) (tgt := 193) (dk d_mR_twoOf 1 rfl) (by omega) (by omega) (by rw [hc21]; rfl) rfl ?_
                      refine g_iload_n (pc := 193) (j := 1) (dk d_mR_twoOf 53 rfl) rfl ?_
                      refine g_iload_n (pc := 194) (j := 2) (dk d_mR_twoOf 54 rfl) rfl ?_
                      refine h_icmp_le (pc := 195) (tgt := 202) (dk d_mR_twoOf 55 rfl) rfl h (fun hc20 h => ?_) (fun hc20 h => ?_)
                      · refine g_iconst (pc := 202) (dk d_mR_twoOf 58 rfl) (by decide) ?_
                        exact h_iret (pc := 203) rfl (dk d_mR_twoOf 59 rfl) h
                      · refine g_iconst (pc := 198) (dk d_mR_twoOf 56 rfl) (by decide) ?_
                        refine g_goto (pc := 199) (tgt := 203) (dk d_mR_twoOf 57 rfl) rfl ?_
                        exact h_iret (pc := 203) rfl (dk d_mR_twoOf 59 rfl) h
                    · refine g_tout (pc := 1) (tgt := 218) (dk d_mR_twoOf 1 rfl) (by omega) rfl ?_
                      refine g_iload_n (pc := 218) (j := 1) (dk d_mR_twoOf 68 rfl) rfl ?_
                      refine h_if_ne (pc := 219) (tgt := 226) (dk d_mR_twoOf 69 rfl) rfl h (fun hc23 h => ?_) (fun hc23 h => ?_)
                      · refine g_iconst (pc := 226) (dk d_mR_twoOf 72 rfl) (by decide) ?_
                        refine g_goto (pc := 227) (tgt := 231) (dk d_mR_twoOf 73 rfl) rfl ?_
                        exact h_iret (pc := 231) rfl (dk d_mR_twoOf 75 rfl) h
                      · refine g_iload_n (pc := 222) (j := 2) (dk d_mR_twoOf 70 rfl) rfl ?_
                        refine h_if_eq (pc := 223) (tgt := 230) (dk d_mR_twoOf 71 rfl) rfl h (fun hc22 h => ?_) (fun hc22 h => ?_)
                        · refine g_iconst (pc := 230) (dk d_mR_twoOf 74 rfl) (by decide) ?_
                          exact h_iret (pc := 231) rfl (dk d_mR_twoOf 75 rfl) h
                        · refine g_iconst (pc := 226) (dk d_mR_twoOf 72 rfl) (by decide) ?_
                          refine g_goto (pc := 227) (tgt := 231) (dk d_mR_twoOf 73 rfl) rfl ?_
                          exact h_iret (pc := 231) rfl (dk d_mR_twoOf 75 rfl) h
set_option maxRecDepth 100000 in
set_option maxHeartbeats 4000000 in
theorem kR_twoOf (E : Nat × (Int → Int)) (d : Nat) {a0 : Int} {a1 : Int} {a2 : Int} {w w1 : WD} {r : Int} (h : fR_twoOf a0 a1 a2 w = some (r, w1)) : CTi E mR_twoOf (d + 1) [pI a0, pI a1, pI a2] w RF NN r w1 RF NN := by
  exact CTi_of (by decide +kernel) (Nat.le_of_ble_eq_true rfl) (Or.inl rfl) (gR_twoOf (res := (r, w1)) E d a0 a1 a2 w h)
def fR_worked_l12_b (rec : Int → Int → WD → Option (Int × WD)) (y1 : Int) (y3 : Int) (K0 : WD → Option (Int × WD)) (x4 : Int) (x5 : Int) (w : WD) : Option (Int × WD) := if (w32 ((w32 (130 * y1)) + y3)) ≤ x5 then (K0 w) else (ck (0 ≤ x5 ∧ x5 < 260) <| bv (w 58 x5) <| fun (v6_2 : Int) => jn (β := Int → WD → Option (Int × WD)) (fun (v4_3 : Int) (u4 : WD) => bv (w32 (x5 + 1)) <| fun (v5_5 : Int) => rec v4_3 v5_5 u4) <| fun J6 => jn (β := WD → Option (Int × WD)) (fun (u7 : WD) => jn (β := Int → WD → Option (Int × WD)) (fun (s8 : Int) (u9 : WD) => ck (0 ≤ x4 ∧ x4 < 130) <| bw (up u9 64 x4 s8) <| fun (u10 : WD) => bv (w32 (x4 + 1)) <| fun (v4_11 : Int) => J6 v4_11 u10) <| fun J12 => if v6_2 ≠ 1 then (ck (0 ≤ x5 ∧ x5 < 260) <| ck (0 ≤ (u7 59 x5) ∧ (u7 59 x5) < 6) <| J12 (u7 63 (u7 59 x5)) u7) else (ck (0 ≤ x5 ∧ x5 < 260) <| J12 (u7 59 x5) u7)) <| fun J14 => if v6_2 = 1 then (J14 w) else (if v6_2 ≠ 2 then (if v6_2 ≠ 3 then (if v6_2 ≠ 4 then (bv (w32 (x4 + (-1))) <| fun (v4_15 : Int) => ck (0 ≤ (w32 (v4_15 - 1)) ∧ (w32 (v4_15 - 1)) < 130) <| ck (0 ≤ v4_15 ∧ v4_15 < 130) <| ci (fR_twoOf v6_2 (w 64 (w32 (v4_15 - 1))) (w 64 v4_15) w) <| fun (r17 : Int) (u16 : WD) => ck (0 ≤ (w32 (v4_15 - 1)) ∧ (w32 (v4_15 - 1)) < 130) <| bw (up u16 64 (w32 (v4_15 - 1)) r17) <| fun (u19 : WD) => J6 v4_15 u19) else (ck (0 ≤ (w32 (x4 - 1)) ∧ (w32 (x4 - 1)) < 130) <| ck (0 ≤ (w32 (x4 - 1)) ∧ (w32 (x4 - 1)) < 130) <| bw (up w 64 (w32 (x4 - 1)) (w32 (-(w 64 (w32 (x4 - 1)))))) <| fun (u20 : WD) => J6 x4 u20)) else (ck (0 ≤ (w32 (x4 - 1)) ∧ (w32 (x4 - 1)) < 130) <| jn (β := Int → WD → Option (Int × WD)) (fun (s22 : Int) (u23 : WD) => ck (0 ≤ (w32 (x4 - 1)) ∧ (w32 (x4 - 1)) < 130) <| bw (up u23 64 (w32 (x4 - 1)) s22) <| fun (u24 : WD) => J6 x4 u24) <| fun J25 => if (w 64 (w32 (x4 - 1))) ≠ 0 then (J25 0 w) else (J25 1 w))) else (J14 w)))
def fR_worked_l12 (y1 : Int) (y3 : Int) (K0 : WD → Option (Int × WD)) : Nat → Int → Int → WD → Option (Int × WD)
  | 0 => fun _ _ _ => none
  | k + 1 => fR_worked_l12_b ( fR_worked_l12 y1 y3 K0 k) y1 y3 K0
set_option maxRecDepth 100000 in
set_option maxHeartbeats 4000000 in
theorem fR_worked_l12_b_ok (E : Nat × (Int → Int)) (d : Nat) {res : Int × WD} {rec : Int → Int → WD → Option (Int × WD)} (y1 : Int) (y3 : Int) (K0 : WD → Option (Int × WD)) (hrec : ∀ (x4 : Int) (x5 : Int) (w : WD), rec x4 x5 w = some res → G E mR_worked (d + 2) 12 [(0, pR 46), (1, pI y1), (3, pI y3), (4, pI x4), (5, pI x5)] [] w RF NN 0 0 (some (pI res.1), res.2, RF, NN)) (hK0 : ∀ (w : WD), K0 w = some res → G E mR_worked (d + 2) 188 [(0, pR 46)] [] w RF NN 0 0 (some (pI res.1), res.2, RF, NN)) (x4 : Int) (x5 : Int) (w : WD) (h : fR_worked_l12_b rec y1 y3 K0 x4 x5 w = some res) : G E mR_worked (d + 2) 12 [(0, pR 46), (1, pI y1), (3, pI y3), (4, pI x4), (5, pI x5)] [] w RF NN 0 0 (some (pI res.1), res.2, RF, NN) := by
  unfold fR_worked_l12_b at h
  refine g_iload (pc := 12) (j := 4) (dk d_mR_worked 8 rfl) rfl ?_
  refine g_sipush (pc := 14) (dk d_mR_worked 9 rfl) (by decide) ?_
  refine g_iload_n (pc := 17) (j := 1) (dk d_mR_worked 10 rfl) rfl ?_
  refine g_imul (pc := 18) (dk d_mR_worked 11 rfl) ?_
  refine g_iload_n (pc := 19) (j := 2) (dk d_mR_worked 12 rfl) rfl ?_
  refine g_iadd (pc := 20) (dk d_mR_worked 13 rfl) ?_
  refine h_icmp_ge (pc := 21) (tgt := 188) (dk d_mR_worked 14 rfl) rfl h (fun hc30 h => ?_) (fun hc30 h => ?_)
  · refine g_pick [0] rfl (l' := [(0, pR 46)]) rfl ?_
    exact hK0 _ h
  · refine g_aload_n (pc := 24) (j := 0) (dk d_mR_worked 15 rfl) rfl (by decide) ?_
    refine g_getR (pc := 25) (a := 58) rfl fp_R_46 po_46 (dk d_mR_worked 16 rfl) ?_
    refine g_iload (pc := 28) (j := 4) (dk d_mR_worked 17 rfl) rfl ?_
    refine h_bald (pc := 30) (B := 260) pa_58 rfl (dk d_mR_worked 18 rfl) h (fun h => ?_)
    refine h_bvI h (fun v6_2 h => ?_)
    refine g_istore (pc := 31) (l' := [(6, pI v6_2), (0, pR 46), (1, pI y1), (3, pI y3), (4, pI x4), (5, pI x5)]) (dk d_mR_worked 19 rfl) (Nat.le_of_ble_eq_true rfl) rfl ?_
    refine g_iload (pc := 33) (j := 0) (dk d_mR_worked 20 rfl) rfl ?_
    refine g_iconst (pc := 35) (dk d_mR_worked 21 rfl) (by decide) ?_
    refine jn_e (fun J => ∀ (v4_3 : Int) (u4 : WD), J v4_3 u4 = some res → G E mR_worked (d + 2) 182 [(0, pR 46), (1, pI y1), (3, pI y3), (4, pI v4_3), (5, pI x5)] [] u4 RF NN 0 0 (some (pI res.1), res.2, RF, NN)) h (fun v4_3 u4 h => ?_) (fun J6 hJ6 h => ?_)
    · refine h_iinc (pc := 182) (j := 4) (dk d_mR_worked 103 rfl) rfl (by decide) (Nat.le_of_ble_eq_true rfl) h (fun v5_5 h => ?_)
      refine g_loc (l' := [(5, pI v5_5), (0, pR 46), (1, pI y1), (3, pI y3), (4, pI v4_3)]) rfl ?_
      refine g_goto (pc := 185) (tgt := 12) (dk d_mR_worked 104 rfl) rfl ?_
      refine g_pick [1, 2, 3, 4, 0] rfl (l' := [(0, pR 46), (1, pI y1), (3, pI y3), (4, pI v4_3), (5, pI v5_5)]) rfl ?_
      exact hrec _ _ _ h
    · refine jn_e (fun J => ∀ (u7 : WD), J u7 = some res → G E mR_worked (d + 2) 45 [(0, pR 46), (1, pI y1), (3, pI y3), (4, pI x4), (5, pI x5), (6, pI v6_2)] [] u7 RF NN 0 0 (some (pI res.1), res.2, RF, NN)) h (fun u7 h => ?_) (fun J14 hJ14 h => ?_)
      · refine g_aload_n (pc := 45) (j := 0) (dk d_mR_worked 26 rfl) rfl (by decide) ?_
        refine g_getR (pc := 46) (a := 64) rfl fp_R_65 po_46 (dk d_mR_worked 27 rfl) ?_
        refine g_iload (pc := 49) (j := 3) (dk d_mR_worked 28 rfl) rfl ?_
        refine g_iload (pc := 51) (j := 5) (dk d_mR_worked 29 rfl) rfl ?_
        refine g_iconst (pc := 53) (dk d_mR_worked 30 rfl) (by decide) ?_
        refine jn_e (fun J => ∀ (s8 : Int) (u9 : WD), J s8 u9 = some res → G E mR_worked (d + 2) 79 [(0, pR 46), (1, pI y1), (3, pI y3), (4, pI x4), (5, pI x5)] [pI s8, pI x4, pR 64] u9 RF NN 0 0 (some (pI res.1), res.2, RF, NN)) h (fun s8 u9 h => ?_) (fun J12 hJ12 h => ?_)
        · refine h_iast (pc := 79) (B := 130) pa_64 rfl (dk d_mR_worked 44 rfl) h (fun u10 h => ?_)
          refine h_iinc (pc := 80) (j := 3) (dk d_mR_worked 45 rfl) rfl (by decide) (Nat.le_of_ble_eq_true rfl) h (fun v4_11 h => ?_)
          refine g_loc (l' := [(4, pI v4_11), (0, pR 46), (1, pI y1), (3, pI y3), (5, pI x5)]) rfl ?_
          refine g_goto (pc := 83) (tgt := 182) (dk d_mR_worked 46 rfl) rfl ?_
          refine g_pick [1, 2, 3, 0, 4] rfl (l' := [(0, pR 46), (1, pI y1), (3, pI y3), (4, pI v4_11), (5, pI x5)]) rfl ?_
          exact hJ6 _ _ h
        · refine h_icmp_ne (pc := 54) (tgt := 67) (dk d_mR_worked 31 rfl) rfl h (fun hc13 h => ?_) (fun hc13 h => ?_)
          · refine g_aload_n (pc := 67) (j := 0) (dk d_mR_worked 37 rfl) rfl (by decide) ?_
            refine g_getR (pc := 68) (a := 63) rfl fp_R_62 po_46 (dk d_mR_worked 38 rfl) ?_
            refine g_aload_n (pc := 71) (j := 0) (dk d_mR_worked 39 rfl) rfl (by decide) ?_
            refine g_getR (pc := 72) (a := 59) rfl fp_R_49 po_46 (dk d_mR_worked 40 rfl) ?_
            refine g_iload (pc := 75) (j := 4) (dk d_mR_worked 41 rfl) rfl ?_
            refine h_iald (pc := 77) (B := 260) pa_59 rfl (dk d_mR_worked 42 rfl) h (fun h => ?_)
            refine h_iald (pc := 78) (B := 6) pa_63 rfl (dk d_mR_worked 43 rfl) h (fun h => ?_)
            refine g_pick [0, 1, 2, 3, 4] rfl (l' := [(0, pR 46), (1, pI y1), (3, pI y3), (4, pI x4), (5, pI x5)]) rfl ?_
            exact hJ12 _ _ h
          · refine g_aload_n (pc := 57) (j := 0) (dk d_mR_worked 32 rfl) rfl (by decide) ?_
            refine g_getR (pc := 58) (a := 59) rfl fp_R_49 po_46 (dk d_mR_worked 33 rfl) ?_
            refine g_iload (pc := 61) (j := 4) (dk d_mR_worked 34 rfl) rfl ?_
            refine h_iald (pc := 63) (B := 260) pa_59 rfl (dk d_mR_worked 35 rfl) h (fun h => ?_)
            refine g_goto (pc := 64) (tgt := 79) (dk d_mR_worked 36 rfl) rfl ?_
            refine g_pick [0, 1, 2, 3, 4] rfl (l' := [(0, pR 46), (1, pI y1), (3, pI y3), (4, pI x4), (5, pI x5)]) rfl ?_
            exact hJ12 _ _ h
      · refine h_icmp_eq (pc := 36) (tgt := 45) (dk d_mR_worked 22 rfl) rfl h (fun hc29 h => ?_) (fun hc29 h => ?_)
        · refine g_pick [1, 2, 3, 4, 5, 0] rfl (l' := [(0, pR 46), (1, pI y1), (3, pI y3), (4, pI x4), (5, pI x5), (6, pI v6_2)]) rfl ?_
          exact hJ14 _ h
        · refine g_iload (pc := 39) (j := 0) (dk d_mR_worked 23 rfl) rfl ?_
          refine g_iconst (pc := 41) (dk d_mR_worked 24 rfl) (by decide) ?_
          refine h_icmp_ne (pc := 42) (tgt := 86) (dk d_mR_worked 25 rfl) rfl h (fun hc28 h => ?_) (fun hc28 h => ?_)
          · refine g_iload (pc := 86) (j := 0) (dk d_mR_worked 47 rfl) rfl ?_
            refine g_iconst (pc := 88) (dk d_mR_worked 48 rfl) (by decide) ?_
            refine h_icmp_ne (pc := 89) (tgt := 121) (dk d_mR_worked 49 rfl) rfl h (fun hc27 h => ?_) (fun hc27 h => ?_)
            · refine g_iload (pc := 121) (j := 0) (dk d_mR_worked 67 rfl) rfl ?_
              refine g_iconst (pc := 123) (dk d_mR_worked 68 rfl) (by decide) ?_
              refine h_icmp_ne (pc := 124) (tgt := 149) (dk d_mR_worked 69 rfl) rfl h (fun hc21 h => ?_) (fun hc21 h => ?_)
              · refine h_iinc (pc := 149) (j := 4) (dk d_mR_worked 84 rfl) rfl (by decide) (Nat.le_of_ble_eq_true rfl) h (fun v4_15 h => ?_)
                refine g_loc (l' := [(4, pI v4_15), (6, pI v6_2), (0, pR 46), (1, pI y1), (3, pI y3), (5, pI x5)]) rfl ?_
                refine g_aload_n (pc := 152) (j := 2) (dk d_mR_worked 85 rfl) rfl (by decide) ?_
                refine g_getR (pc := 153) (a := 64) rfl fp_R_65 po_46 (dk d_mR_worked 86 rfl) ?_
                refine g_iload (pc := 156) (j := 0) (dk d_mR_worked 87 rfl) rfl ?_
                refine g_iconst (pc := 158) (dk d_mR_worked 88 rfl) (by decide) ?_
                refine g_isub (pc := 159) (dk d_mR_worked 89 rfl) ?_
                refine g_iload (pc := 160) (j := 1) (dk d_mR_worked 90 rfl) rfl ?_
                refine g_aload_n (pc := 162) (j := 2) (dk d_mR_worked 91 rfl) rfl (by decide) ?_
                refine g_getR (pc := 163) (a := 64) rfl fp_R_65 po_46 (dk d_mR_worked 92 rfl) ?_
                refine g_iload (pc := 166) (j := 0) (dk d_mR_worked 93 rfl) rfl ?_
                refine g_iconst (pc := 168) (dk d_mR_worked 94 rfl) (by decide) ?_
                refine g_isub (pc := 169) (dk d_mR_worked 95 rfl) ?_
                refine h_iald (pc := 170) (B := 130) pa_64 rfl (dk d_mR_worked 96 rfl) h (fun h => ?_)
                refine g_aload_n (pc := 171) (j := 2) (dk d_mR_worked 97 rfl) rfl (by decide) ?_
                refine g_getR (pc := 172) (a := 64) rfl fp_R_65 po_46 (dk d_mR_worked 98 rfl) ?_
                refine g_iload (pc := 175) (j := 0) (dk d_mR_worked 99 rfl) rfl ?_
                refine h_iald (pc := 177) (B := 130) pa_64 rfl (dk d_mR_worked 100 rfl) h (fun h => ?_)
                refine h_callSi (d := d + 1) (pc := 178) (na := 3) (av := [pI v6_2, pI (w 64 (w32 (v4_15 - 1))), pI (w 64 v4_15)]) ⟨rfl, rfl⟩ (dk d_mR_worked 101 rfl) lk_R_249 vm_mR_twoOf rfl rfl (Nat.le_of_ble_eq_true rfl) h (fun r17 u16 hq => kR_twoOf E (d + 0) hq) (fun r17 u16 hb18 h => ?_)
                refine h_iast (pc := 181) (B := 130) pa_64 rfl (dk d_mR_worked 102 rfl) h (fun u19 h => ?_)
                refine g_pick [2, 3, 4, 0, 5] rfl (l' := [(0, pR 46), (1, pI y1), (3, pI y3), (4, pI v4_15), (5, pI x5)]) rfl ?_
                exact hJ6 _ _ h
              · refine g_aload_n (pc := 127) (j := 1) (dk d_mR_worked 70 rfl) rfl (by decide) ?_
                refine g_getR (pc := 128) (a := 64) rfl fp_R_65 po_46 (dk d_mR_worked 71 rfl) ?_
                refine g_iload (pc := 131) (j := 4) (dk d_mR_worked 72 rfl) rfl ?_
                refine g_iconst (pc := 133) (dk d_mR_worked 73 rfl) (by decide) ?_
                refine g_isub (pc := 134) (dk d_mR_worked 74 rfl) ?_
                refine g_aload_n (pc := 135) (j := 1) (dk d_mR_worked 75 rfl) rfl (by decide) ?_
                refine g_getR (pc := 136) (a := 64) rfl fp_R_65 po_46 (dk d_mR_worked 76 rfl) ?_
                refine g_iload (pc := 139) (j := 4) (dk d_mR_worked 77 rfl) rfl ?_
                refine g_iconst (pc := 141) (dk d_mR_worked 78 rfl) (by decide) ?_
                refine g_isub (pc := 142) (dk d_mR_worked 79 rfl) ?_
                refine h_iald (pc := 143) (B := 130) pa_64 rfl (dk d_mR_worked 80 rfl) h (fun h => ?_)
                refine g_ineg (pc := 144) (dk d_mR_worked 81 rfl) ?_
                refine h_iast (pc := 145) (B := 130) pa_64 rfl (dk d_mR_worked 82 rfl) h (fun u20 h => ?_)
                refine g_goto (pc := 146) (tgt := 182) (dk d_mR_worked 83 rfl) rfl ?_
                refine g_pick [1, 2, 3, 4, 5] rfl (l' := [(0, pR 46), (1, pI y1), (3, pI y3), (4, pI x4), (5, pI x5)]) rfl ?_
                exact hJ6 _ _ h
            · refine g_aload_n (pc := 92) (j := 1) (dk d_mR_worked 50 rfl) rfl (by decide) ?_
              refine g_getR (pc := 93) (a := 64) rfl fp_R_65 po_46 (dk d_mR_worked 51 rfl) ?_
              refine g_iload (pc := 96) (j := 4) (dk d_mR_worked 52 rfl) rfl ?_
              refine g_iconst (pc := 98) (dk d_mR_worked 53 rfl) (by decide) ?_
              refine g_isub (pc := 99) (dk d_mR_worked 54 rfl) ?_
              refine g_aload_n (pc := 100) (j := 1) (dk d_mR_worked 55 rfl) rfl (by decide) ?_
              refine g_getR (pc := 101) (a := 64) rfl fp_R_65 po_46 (dk d_mR_worked 56 rfl) ?_
              refine g_iload (pc := 104) (j := 4) (dk d_mR_worked 57 rfl) rfl ?_
              refine g_iconst (pc := 106) (dk d_mR_worked 58 rfl) (by decide) ?_
              refine g_isub (pc := 107) (dk d_mR_worked 59 rfl) ?_
              refine h_iald (pc := 108) (B := 130) pa_64 rfl (dk d_mR_worked 60 rfl) h (fun h => ?_)
              refine jn_e (fun J => ∀ (s22 : Int) (u23 : WD), J s22 u23 = some res → G E mR_worked (d + 2) 117 [(0, pR 46), (1, pI y1), (3, pI y3), (4, pI x4), (5, pI x5)] [pI s22, pI (w32 (x4 - 1)), pR 64] u23 RF NN 0 0 (some (pI res.1), res.2, RF, NN)) h (fun s22 u23 h => ?_) (fun J25 hJ25 h => ?_)
              · refine h_iast (pc := 117) (B := 130) pa_64 rfl (dk d_mR_worked 65 rfl) h (fun u24 h => ?_)
                refine g_goto (pc := 118) (tgt := 182) (dk d_mR_worked 66 rfl) rfl ?_
                exact hJ6 _ _ h
              · refine h_if_ne (pc := 109) (tgt := 116) (dk d_mR_worked 61 rfl) rfl h (fun hc26 h => ?_) (fun hc26 h => ?_)
                · refine g_iconst (pc := 116) (dk d_mR_worked 64 rfl) (by decide) ?_
                  refine g_pick [1, 2, 3, 4, 5] rfl (l' := [(0, pR 46), (1, pI y1), (3, pI y3), (4, pI x4), (5, pI x5)]) rfl ?_
                  exact hJ25 _ _ h
                · refine g_iconst (pc := 112) (dk d_mR_worked 62 rfl) (by decide) ?_
                  refine g_goto (pc := 113) (tgt := 117) (dk d_mR_worked 63 rfl) rfl ?_
                  refine g_pick [1, 2, 3, 4, 5] rfl (l' := [(0, pR 46), (1, pI y1), (3, pI y3), (4, pI x4), (5, pI x5)]) rfl ?_
                  exact hJ25 _ _ h
          · refine g_pick [1, 2, 3, 4, 5, 0] rfl (l' := [(0, pR 46), (1, pI y1), (3, pI y3), (4, pI x4), (5, pI x5), (6, pI v6_2)]) rfl ?_
            exact hJ14 _ h
set_option maxRecDepth 100000 in
set_option maxHeartbeats 4000000 in
theorem fR_worked_l12_ok (E : Nat × (Int → Int)) (d : Nat) {res : Int × WD} (y1 : Int) (y3 : Int) (K0 : WD → Option (Int × WD)) (hK0 : ∀ (w : WD), K0 w = some res → G E mR_worked (d + 2) 188 [(0, pR 46)] [] w RF NN 0 0 (some (pI res.1), res.2, RF, NN)) : ∀ (k : Nat) (x4 : Int) (x5 : Int) (w : WD), fR_worked_l12 y1 y3 K0 k x4 x5 w = some res → G E mR_worked (d + 2) 12 [(0, pR 46), (1, pI y1), (3, pI y3), (4, pI x4), (5, pI x5)] [] w RF NN 0 0 (some (pI res.1), res.2, RF, NN) := by
  intro k
  induction k with
  | zero =>
    intro x4 x5 w h
    exact no_e h
  | succ k ih =>
    intro x4 x5 w h
    exact fR_worked_l12_b_ok E d y1 y3 K0 ih hK0 x4 x5 w h
def fR_worked (a1 : Int) (a2 : Int) (a3 : Int) (w : WD) : Option (Int × WD) := bv (w32 ((w32 (130 * a1)) + a2)) <| fun (v5_1 : Int) => fR_worked_l12 a1 a3 (fun (u31 : WD) => some ((u31 64 0), u31)) FU 0 v5_1 w
set_option maxRecDepth 100000 in
set_option maxHeartbeats 4000000 in
theorem gR_worked (E : Nat × (Int → Int)) (d : Nat) {res : Int × WD} (a1 : Int) (a2 : Int) (a3 : Int) (w : WD) (h : fR_worked a1 a2 a3 w = some res) : G E mR_worked (d + 2) 0 [(0, pR 46), (1, pI a1), (2, pI a2), (3, pI a3)] [] w RF NN 0 0 (some (pI res.1), res.2, RF, NN) := by
  unfold fR_worked at h
  refine g_iconst (pc := 0) (dk d_mR_worked 0 rfl) (by decide) ?_
  refine g_istore (pc := 1) (l' := [(4, pI 0), (0, pR 46), (1, pI a1), (2, pI a2), (3, pI a3)]) (dk d_mR_worked 1 rfl) (Nat.le_of_ble_eq_true rfl) rfl ?_
  refine g_sipush (pc := 3) (dk d_mR_worked 2 rfl) (by decide) ?_
  refine g_iload_n (pc := 6) (j := 2) (dk d_mR_worked 3 rfl) rfl ?_
  refine g_imul (pc := 7) (dk d_mR_worked 4 rfl) ?_
  refine g_iload_n (pc := 8) (j := 3) (dk d_mR_worked 5 rfl) rfl ?_
  refine g_iadd (pc := 9) (dk d_mR_worked 6 rfl) ?_
  refine h_bvI h (fun v5_1 h => ?_)
  refine g_istore (pc := 10) (l' := [(5, pI v5_1), (4, pI 0), (0, pR 46), (1, pI a1), (2, pI a2), (3, pI a3)]) (dk d_mR_worked 7 rfl) (Nat.le_of_ble_eq_true rfl) rfl ?_
  refine g_pick [2, 3, 5, 1, 0] rfl (l' := [(0, pR 46), (1, pI a1), (3, pI a3), (4, pI 0), (5, pI v5_1)]) rfl ?_
  refine fR_worked_l12_ok E d a1 a3 _  (fun u31 h => ?_) FU _ _  _ h
  · refine g_aload_n (pc := 188) (j := 0) (dk d_mR_worked 105 rfl) rfl (by decide) ?_
    refine g_getR (pc := 189) (a := 64) rfl fp_R_65 po_46 (dk d_mR_worked 106 rfl) ?_
    refine g_iconst (pc := 192) (dk d_mR_worked 107 rfl) (by decide) ?_
    refine g_iald (pc := 193) pa_64 (dk d_mR_worked 108 rfl) (by decide) ?_
    exact h_iret (pc := 194) rfl (dk d_mR_worked 109 rfl) h
set_option maxRecDepth 100000 in
set_option maxHeartbeats 4000000 in
theorem kR_worked (E : Nat × (Int → Int)) (d : Nat) {a1 : Int} {a2 : Int} {a3 : Int} {w w1 : WD} {r : Int} (h : fR_worked a1 a2 a3 w = some (r, w1)) : CTi E mR_worked (d + 2) [pR 46, pI a1, pI a2, pI a3] w RF NN r w1 RF NN := by
  exact CTi_of (by decide +kernel) (Nat.le_of_ble_eq_true rfl) (Or.inl rfl) (gR_worked (res := (r, w1)) E d a1 a2 a3 w h)
def fR_gives_l7_b (rec : Int → Int → WD → Option (Int × WD)) (y1 : Int) (K0 : Int → WD → Option (Int × WD)) (x2 : Int) (x3 : Int) (w : WD) : Option (Int × WD) := ck (0 ≤ y1 ∧ y1 < 2) <| if (w32 ((w32 (61 * y1)) + (w 60 y1))) ≤ x3 then (some (0, w)) else (ck (0 ≤ x3 ∧ x3 < 122) <| if (w 61 x3) = x2 then (K0 x3 w) else (ck (0 ≤ x3 ∧ x3 < 122) <| ci (fR_worked y1 x2 (w 61 x3) w) <| fun (r3 : Int) (u2 : WD) => if r3 = 0 then (ck (0 ≤ x3 ∧ x3 < 122) <| bv (u2 62 x3) <| fun (v2_5 : Int) => bv (w32 (x3 + 1)) <| fun (v3_6 : Int) => rec v2_5 v3_6 u2) else (K0 x3 u2)))
def fR_gives_l7 (y1 : Int) (K0 : Int → WD → Option (Int × WD)) : Nat → Int → Int → WD → Option (Int × WD)
  | 0 => fun _ _ _ => none
  | k + 1 => fR_gives_l7_b ( fR_gives_l7 y1 K0 k) y1 K0
set_option maxRecDepth 100000 in
set_option maxHeartbeats 4000000 in
theorem fR_gives_l7_b_ok (E : Nat × (Int → Int)) (d : Nat) {res : Int × WD} {rec : Int → Int → WD → Option (Int × WD)} (y1 : Int) (K0 : Int → WD → Option (Int × WD)) (hrec : ∀ (x2 : Int) (x3 : Int) (w : WD), rec x2 x3 w = some res → G E mR_gives (d + 3) 7 [(0, pR 46), (1, pI y1), (2, pI x2), (3, pI x3)] [] w RF NN 0 0 (some (pI res.1), res.2, RF, NN)) (hK0 : ∀ (x3 : Int) (w : WD), K0 x3 w = some res → G E mR_gives (d + 3) 47 [(0, pR 46), (1, pI y1), (3, pI x3)] [] w RF NN 0 0 (some (pI res.1), res.2, RF, NN)) (x2 : Int) (x3 : Int) (w : WD) (h : fR_gives_l7_b rec y1 K0 x2 x3 w = some res) : G E mR_gives (d + 3) 7 [(0, pR 46), (1, pI y1), (2, pI x2), (3, pI x3)] [] w RF NN 0 0 (some (pI res.1), res.2, RF, NN) := by
  unfold fR_gives_l7_b at h
  refine g_iload_n (pc := 7) (j := 3) (dk d_mR_gives 6 rfl) rfl ?_
  refine g_bipush (pc := 8) (dk d_mR_gives 7 rfl) (by decide) ?_
  refine g_iload_n (pc := 10) (j := 1) (dk d_mR_gives 8 rfl) rfl ?_
  refine g_imul (pc := 11) (dk d_mR_gives 9 rfl) ?_
  refine g_aload_n (pc := 12) (j := 0) (dk d_mR_gives 10 rfl) rfl (by decide) ?_
  refine g_getR (pc := 13) (a := 60) rfl fp_R_52 po_46 (dk d_mR_gives 11 rfl) ?_
  refine g_iload_n (pc := 16) (j := 1) (dk d_mR_gives 12 rfl) rfl ?_
  refine h_iald (pc := 17) (B := 2) pa_60 rfl (dk d_mR_gives 13 rfl) h (fun h => ?_)
  refine g_iadd (pc := 18) (dk d_mR_gives 14 rfl) ?_
  refine h_icmp_ge (pc := 19) (tgt := 78) (dk d_mR_gives 15 rfl) rfl h (fun hc9 h => ?_) (fun hc9 h => ?_)
  · refine g_iconst (pc := 78) (dk d_mR_gives 50 rfl) (by decide) ?_
    exact h_iret (pc := 79) rfl (dk d_mR_gives 51 rfl) h
  · refine g_aload_n (pc := 22) (j := 0) (dk d_mR_gives 16 rfl) rfl (by decide) ?_
    refine g_getR (pc := 23) (a := 61) rfl fp_R_55 po_46 (dk d_mR_gives 17 rfl) ?_
    refine g_iload_n (pc := 26) (j := 3) (dk d_mR_gives 18 rfl) rfl ?_
    refine h_sald (pc := 27) (B := 122) pa_61 rfl (dk d_mR_gives 19 rfl) h (fun h => ?_)
    refine g_iload_n (pc := 28) (j := 2) (dk d_mR_gives 20 rfl) rfl ?_
    refine h_icmp_eq (pc := 29) (tgt := 47) (dk d_mR_gives 21 rfl) rfl h (fun hc8 h => ?_) (fun hc8 h => ?_)
    · refine g_pick [0, 1, 3] rfl (l' := [(0, pR 46), (1, pI y1), (3, pI x3)]) rfl ?_
      exact hK0 _ _ h
    · refine g_aload_n (pc := 32) (j := 0) (dk d_mR_gives 22 rfl) rfl (by decide) ?_
      refine g_iload_n (pc := 33) (j := 1) (dk d_mR_gives 23 rfl) rfl ?_
      refine g_iload_n (pc := 34) (j := 2) (dk d_mR_gives 24 rfl) rfl ?_
      refine g_aload_n (pc := 35) (j := 0) (dk d_mR_gives 25 rfl) rfl (by decide) ?_
      refine g_getR (pc := 36) (a := 61) rfl fp_R_55 po_46 (dk d_mR_gives 26 rfl) ?_
      refine g_iload_n (pc := 39) (j := 3) (dk d_mR_gives 27 rfl) rfl ?_
      refine h_sald (pc := 40) (B := 122) pa_61 rfl (dk d_mR_gives 28 rfl) h (fun h => ?_)
      refine h_callVi (d := d + 2) (pc := 41) (na := 3) (av := [pI y1, pI x2, pI (w 61 x3)]) (k0 := 46) po_46 ⟨_, rfl⟩ ⟨rfl, rfl⟩ (dk d_mR_gives 29 rfl) lk_R_252 vm_mR_worked rfl rfl (Nat.le_of_ble_eq_true rfl) h (fun r3 u2 hq => kR_worked E (d + 0) hq) (fun r3 u2 hb4 h => ?_)
      refine h_if_eq (pc := 44) (tgt := 65) (dk d_mR_gives 30 rfl) rfl h (fun hc7 h => ?_) (fun hc7 h => ?_)
      · refine g_aload_n (pc := 65) (j := 0) (dk d_mR_gives 43 rfl) rfl (by decide) ?_
        refine g_getR (pc := 66) (a := 62) rfl fp_R_59 po_46 (dk d_mR_gives 44 rfl) ?_
        refine g_iload_n (pc := 69) (j := 3) (dk d_mR_gives 45 rfl) rfl ?_
        refine h_sald (pc := 70) (B := 122) pa_62 rfl (dk d_mR_gives 46 rfl) h (fun h => ?_)
        refine h_bvI h (fun v2_5 h => ?_)
        refine g_istore_n (pc := 71) (l' := [(2, pI v2_5), (0, pR 46), (1, pI y1), (3, pI x3)]) (dk d_mR_gives 47 rfl) (Nat.le_of_ble_eq_true rfl) rfl ?_
        refine h_iinc (pc := 72) (j := 3) (dk d_mR_gives 48 rfl) rfl (by decide) (Nat.le_of_ble_eq_true rfl) h (fun v3_6 h => ?_)
        refine g_loc (l' := [(3, pI v3_6), (2, pI v2_5), (0, pR 46), (1, pI y1)]) rfl ?_
        refine g_goto (pc := 75) (tgt := 7) (dk d_mR_gives 49 rfl) rfl ?_
        refine g_pick [2, 3, 1, 0] rfl (l' := [(0, pR 46), (1, pI y1), (2, pI v2_5), (3, pI v3_6)]) rfl ?_
        exact hrec _ _ _ h
      · refine g_pick [0, 1, 3] rfl (l' := [(0, pR 46), (1, pI y1), (3, pI x3)]) rfl ?_
        exact hK0 _ _ h
set_option maxRecDepth 100000 in
set_option maxHeartbeats 4000000 in
theorem fR_gives_l7_ok (E : Nat × (Int → Int)) (d : Nat) {res : Int × WD} (y1 : Int) (K0 : Int → WD → Option (Int × WD)) (hK0 : ∀ (x3 : Int) (w : WD), K0 x3 w = some res → G E mR_gives (d + 3) 47 [(0, pR 46), (1, pI y1), (3, pI x3)] [] w RF NN 0 0 (some (pI res.1), res.2, RF, NN)) : ∀ (k : Nat) (x2 : Int) (x3 : Int) (w : WD), fR_gives_l7 y1 K0 k x2 x3 w = some res → G E mR_gives (d + 3) 7 [(0, pR 46), (1, pI y1), (2, pI x2), (3, pI x3)] [] w RF NN 0 0 (some (pI res.1), res.2, RF, NN) := by
  intro k
  induction k with
  | zero =>
    intro x2 x3 w h
    exact no_e h
  | succ k ih =>
    intro x2 x3 w h
    exact fR_gives_l7_b_ok E d y1 K0 ih hK0 x2 x3 w h
def fR_gives (a1 : Int) (w : WD) : Option (Int × WD) := bv (w32 (61 * a1)) <| fun (v3_1 : Int) => fR_gives_l7 a1 (fun (v3_10 : Int) (u11 : WD) => ck (0 ≤ v3_10 ∧ v3_10 < 122) <| ck (0 ≤ v3_10 ∧ v3_10 < 122) <| ci (fR_worked a1 (u11 61 v3_10) (u11 62 v3_10) u11) <| fun (r13 : Int) (u12 : WD) => some (r13, u12)) FU 0 v3_1 w
set_option maxRecDepth 100000 in
set_option maxHeartbeats 4000000 in
theorem gR_gives (E : Nat × (Int → Int)) (d : Nat) {res : Int × WD} (a1 : Int) (w : WD) (h : fR_gives a1 w = some res) : G E mR_gives (d + 3) 0 [(0, pR 46), (1, pI a1)] [] w RF NN 0 0 (some (pI res.1), res.2, RF, NN) := by
  unfold fR_gives at h
  refine g_iconst (pc := 0) (dk d_mR_gives 0 rfl) (by decide) ?_
  refine g_istore_n (pc := 1) (l' := [(2, pI 0), (0, pR 46), (1, pI a1)]) (dk d_mR_gives 1 rfl) (Nat.le_of_ble_eq_true rfl) rfl ?_
  refine g_bipush (pc := 2) (dk d_mR_gives 2 rfl) (by decide) ?_
  refine g_iload_n (pc := 4) (j := 2) (dk d_mR_gives 3 rfl) rfl ?_
  refine g_imul (pc := 5) (dk d_mR_gives 4 rfl) ?_
  refine h_bvI h (fun v3_1 h => ?_)
  refine g_istore_n (pc := 6) (l' := [(3, pI v3_1), (2, pI 0), (0, pR 46), (1, pI a1)]) (dk d_mR_gives 5 rfl) (Nat.le_of_ble_eq_true rfl) rfl ?_
  refine g_pick [2, 3, 1, 0] rfl (l' := [(0, pR 46), (1, pI a1), (2, pI 0), (3, pI v3_1)]) rfl ?_
  refine fR_gives_l7_ok E d a1 _  (fun v3_10 u11 h => ?_) FU _ _  _ h
  · refine g_aload_n (pc := 47) (j := 0) (dk d_mR_gives 31 rfl) rfl (by decide) ?_
    refine g_iload_n (pc := 48) (j := 1) (dk d_mR_gives 32 rfl) rfl ?_
    refine g_aload_n (pc := 49) (j := 0) (dk d_mR_gives 33 rfl) rfl (by decide) ?_
    refine g_getR (pc := 50) (a := 61) rfl fp_R_55 po_46 (dk d_mR_gives 34 rfl) ?_
    refine g_iload_n (pc := 53) (j := 2) (dk d_mR_gives 35 rfl) rfl ?_
    refine h_sald (pc := 54) (B := 122) pa_61 rfl (dk d_mR_gives 36 rfl) h (fun h => ?_)
    refine g_aload_n (pc := 55) (j := 0) (dk d_mR_gives 37 rfl) rfl (by decide) ?_
    refine g_getR (pc := 56) (a := 62) rfl fp_R_59 po_46 (dk d_mR_gives 38 rfl) ?_
    refine g_iload_n (pc := 59) (j := 2) (dk d_mR_gives 39 rfl) rfl ?_
    refine h_sald (pc := 60) (B := 122) pa_62 rfl (dk d_mR_gives 40 rfl) h (fun h => ?_)
    refine h_callVi (d := d + 2) (pc := 61) (na := 3) (av := [pI a1, pI (u11 61 v3_10), pI (u11 62 v3_10)]) (k0 := 46) po_46 ⟨_, rfl⟩ ⟨rfl, rfl⟩ (dk d_mR_gives 41 rfl) lk_R_252 vm_mR_worked rfl rfl (Nat.le_of_ble_eq_true rfl) h (fun r13 u12 hq => kR_worked E (d + 0) hq) (fun r13 u12 hb14 h => ?_)
    exact h_iret (pc := 64) rfl (dk d_mR_gives 42 rfl) h
set_option maxRecDepth 100000 in
set_option maxHeartbeats 4000000 in
theorem kR_gives (E : Nat × (Int → Int)) (d : Nat) {a1 : Int} {w w1 : WD} {r : Int} (h : fR_gives a1 w = some (r, w1)) : CTi E mR_gives (d + 3) [pR 46, pI a1] w RF NN r w1 RF NN := by
  exact CTi_of (by decide +kernel) (Nat.le_of_ble_eq_true rfl) (Or.inl rfl) (gR_gives (res := (r, w1)) E d a1 w h)
def fR_countsBy (a1 : Int) (a2 : Int) (a3 : Int) (w : WD) : Option (Int × WD) := if a1 ≠ 6 then (ck (0 ≤ (w32 ((w32 (3 * a1)) + a2)) ∧ (w32 ((w32 (3 * a1)) + a2)) < 18) <| bv (w 47 (w32 ((w32 (3 * a1)) + a2))) <| fun (v4_1 : Int) => jn (β := Int → WD → Option (Int × WD)) (fun (s2 : Int) (u3 : WD) => jn (β := Int → WD → Option (Int × WD)) (fun (v5_4 : Int) (u5 : WD) => if 0 ≤ v5_4 then (if v5_4 ≤ 9 then (some (v5_4, u5)) else (some (9, u5))) else (some (0, u5))) <| fun J8 => if (u3 46 28) = 0 then (J8 s2 u3) else (bw (up u3 63 0 a2) <| fun (u9 : WD) => bw (up u9 63 1 v4_1) <| fun (u10 : WD) => bw (up u10 63 2 a3) <| fun (u11 : WD) => ck (0 ≤ a1 ∧ a1 < 6) <| bw (up u11 63 3 (u11 48 a1)) <| fun (u12 : WD) => ck (0 ≤ a2 ∧ a2 < 3) <| bw (up u12 63 4 (u12 51 a2)) <| fun (u13 : WD) => jn (β := Int → WD → Option (Int × WD)) (fun (s14 : Int) (u15 : WD) => bw (up u15 63 5 s14) <| fun (u16 : WD) => ci (fR_gives 0 u16) <| fun (r18 : Int) (u17 : WD) => J8 r18 u17) <| fun J20 => if v4_1 ≠ a3 then (J20 0 u13) else (J20 1 u13))) <| fun J23 => if v4_1 ≠ a3 then (ck (0 ≤ a1 ∧ a1 < 6) <| J23 (w 48 a1) w) else (J23 9 w)) else (some ((w 52 1), w))
set_option maxRecDepth 100000 in
set_option maxHeartbeats 4000000 in
theorem gR_countsBy (E : Nat × (Int → Int)) (d : Nat) {res : Int × WD} (a1 : Int) (a2 : Int) (a3 : Int) (w : WD) (h : fR_countsBy a1 a2 a3 w = some res) : G E mR_countsBy (d + 4) 0 [(0, pR 46), (1, pI a1), (2, pI a2), (3, pI a3)] [] w RF NN 0 0 (some (pI res.1), res.2, RF, NN) := by
  unfold fR_countsBy at h
  refine g_iload_n (pc := 0) (j := 1) (dk d_mR_countsBy 0 rfl) rfl ?_
  refine g_bipush (pc := 1) (dk d_mR_countsBy 1 rfl) (by decide) ?_
  refine h_icmp_ne (pc := 3) (tgt := 13) (dk d_mR_countsBy 2 rfl) rfl h (fun hc25 h => ?_) (fun hc25 h => ?_)
  · refine g_aload_n (pc := 13) (j := 0) (dk d_mR_countsBy 8 rfl) rfl (by decide) ?_
    refine g_getR (pc := 14) (a := 47) rfl fp_R_9 po_46 (dk d_mR_countsBy 9 rfl) ?_
    refine g_iconst (pc := 17) (dk d_mR_countsBy 10 rfl) (by decide) ?_
    refine g_iload_n (pc := 18) (j := 1) (dk d_mR_countsBy 11 rfl) rfl ?_
    refine g_imul (pc := 19) (dk d_mR_countsBy 12 rfl) ?_
    refine g_iload_n (pc := 20) (j := 2) (dk d_mR_countsBy 13 rfl) rfl ?_
    refine g_iadd (pc := 21) (dk d_mR_countsBy 14 rfl) ?_
    refine h_iald (pc := 22) (B := 18) pa_47 rfl (dk d_mR_countsBy 15 rfl) h (fun h => ?_)
    refine h_bvI h (fun v4_1 h => ?_)
    refine g_istore (pc := 23) (l' := [(4, pI v4_1), (0, pR 46), (1, pI a1), (2, pI a2), (3, pI a3)]) (dk d_mR_countsBy 16 rfl) (Nat.le_of_ble_eq_true rfl) rfl ?_
    refine g_iload (pc := 25) (j := 0) (dk d_mR_countsBy 17 rfl) rfl ?_
    refine g_iload_n (pc := 27) (j := 4) (dk d_mR_countsBy 18 rfl) rfl ?_
    refine jn_e (fun J => ∀ (s2 : Int) (u3 : WD), J s2 u3 = some res → G E mR_countsBy (d + 4) 42 [(0, pR 46), (1, pI a1), (2, pI a2), (3, pI a3), (4, pI v4_1)] [pI s2] u3 RF NN 0 0 (some (pI res.1), res.2, RF, NN)) h (fun s2 u3 h => ?_) (fun J23 hJ23 h => ?_)
    · refine g_istore (pc := 42) (l' := [(5, pI s2), (0, pR 46), (1, pI a1), (2, pI a2), (3, pI a3), (4, pI v4_1)]) (dk d_mR_countsBy 26 rfl) (Nat.le_of_ble_eq_true rfl) rfl ?_
      refine g_aload_n (pc := 44) (j := 1) (dk d_mR_countsBy 27 rfl) rfl (by decide) ?_
      refine g_getZ (pc := 45) fp_R_258 po_46 (dk d_mR_countsBy 28 rfl) ?_
      refine jn_e (fun J => ∀ (v5_4 : Int) (u5 : WD), J v5_4 u5 = some res → G E mR_countsBy (d + 4) 121 [(5, pI v5_4)] [] u5 RF NN 0 0 (some (pI res.1), res.2, RF, NN)) h (fun v5_4 u5 h => ?_) (fun J8 hJ8 h => ?_)
      · refine g_iload (pc := 121) (j := 0) (dk d_mR_countsBy 75 rfl) rfl ?_
        refine h_if_ge (pc := 123) (tgt := 130) (dk d_mR_countsBy 76 rfl) rfl h (fun hc7 h => ?_) (fun hc7 h => ?_)
        · refine g_iload (pc := 130) (j := 0) (dk d_mR_countsBy 79 rfl) rfl ?_
          refine g_bipush (pc := 132) (dk d_mR_countsBy 80 rfl) (by decide) ?_
          refine h_icmp_le (pc := 134) (tgt := 142) (dk d_mR_countsBy 81 rfl) rfl h (fun hc6 h => ?_) (fun hc6 h => ?_)
          · refine g_iload (pc := 142) (j := 0) (dk d_mR_countsBy 84 rfl) rfl ?_
            exact h_iret (pc := 144) rfl (dk d_mR_countsBy 85 rfl) h
          · refine g_bipush (pc := 137) (dk d_mR_countsBy 82 rfl) (by decide) ?_
            refine g_goto (pc := 139) (tgt := 144) (dk d_mR_countsBy 83 rfl) rfl ?_
            exact h_iret (pc := 144) rfl (dk d_mR_countsBy 85 rfl) h
        · refine g_iconst (pc := 126) (dk d_mR_countsBy 77 rfl) (by decide) ?_
          refine g_goto (pc := 127) (tgt := 144) (dk d_mR_countsBy 78 rfl) rfl ?_
          exact h_iret (pc := 144) rfl (dk d_mR_countsBy 85 rfl) h
      · refine h_if_eq (pc := 48) (tgt := 121) (dk d_mR_countsBy 29 rfl) rfl h (fun hc22 h => ?_) (fun hc22 h => ?_)
        · refine g_pick [0] rfl (l' := [(5, pI s2)]) rfl ?_
          exact hJ8 _ _ h
        · refine g_aload_n (pc := 51) (j := 1) (dk d_mR_countsBy 30 rfl) rfl (by decide) ?_
          refine g_getR (pc := 52) (a := 63) rfl fp_R_62 po_46 (dk d_mR_countsBy 31 rfl) ?_
          refine g_iconst (pc := 55) (dk d_mR_countsBy 32 rfl) (by decide) ?_
          refine g_iload_n (pc := 56) (j := 3) (dk d_mR_countsBy 33 rfl) rfl ?_
          refine h_iast0 (pc := 57) pa_63 (dk d_mR_countsBy 34 rfl) (by decide) h (fun u9 h => ?_)
          refine g_aload_n (pc := 58) (j := 1) (dk d_mR_countsBy 35 rfl) rfl (by decide) ?_
          refine g_getR (pc := 59) (a := 63) rfl fp_R_62 po_46 (dk d_mR_countsBy 36 rfl) ?_
          refine g_iconst (pc := 62) (dk d_mR_countsBy 37 rfl) (by decide) ?_
          refine g_iload (pc := 63) (j := 5) (dk d_mR_countsBy 38 rfl) rfl ?_
          refine h_iast0 (pc := 65) pa_63 (dk d_mR_countsBy 39 rfl) (by decide) h (fun u10 h => ?_)
          refine g_aload_n (pc := 66) (j := 1) (dk d_mR_countsBy 40 rfl) rfl (by decide) ?_
          refine g_getR (pc := 67) (a := 63) rfl fp_R_62 po_46 (dk d_mR_countsBy 41 rfl) ?_
          refine g_iconst (pc := 70) (dk d_mR_countsBy 42 rfl) (by decide) ?_
          refine g_iload_n (pc := 71) (j := 4) (dk d_mR_countsBy 43 rfl) rfl ?_
          refine h_iast0 (pc := 72) pa_63 (dk d_mR_countsBy 44 rfl) (by decide) h (fun u11 h => ?_)
          refine g_aload_n (pc := 73) (j := 1) (dk d_mR_countsBy 45 rfl) rfl (by decide) ?_
          refine g_getR (pc := 74) (a := 63) rfl fp_R_62 po_46 (dk d_mR_countsBy 46 rfl) ?_
          refine g_iconst (pc := 77) (dk d_mR_countsBy 47 rfl) (by decide) ?_
          refine g_aload_n (pc := 78) (j := 1) (dk d_mR_countsBy 48 rfl) rfl (by decide) ?_
          refine g_getR (pc := 79) (a := 48) rfl fp_R_15 po_46 (dk d_mR_countsBy 49 rfl) ?_
          refine g_iload_n (pc := 82) (j := 2) (dk d_mR_countsBy 50 rfl) rfl ?_
          refine h_iald (pc := 83) (B := 6) pa_48 rfl (dk d_mR_countsBy 51 rfl) h (fun h => ?_)
          refine h_iast0 (pc := 84) pa_63 (dk d_mR_countsBy 52 rfl) (by decide) h (fun u12 h => ?_)
          refine g_aload_n (pc := 85) (j := 1) (dk d_mR_countsBy 53 rfl) rfl (by decide) ?_
          refine g_getR (pc := 86) (a := 63) rfl fp_R_62 po_46 (dk d_mR_countsBy 54 rfl) ?_
          refine g_iconst (pc := 89) (dk d_mR_countsBy 55 rfl) (by decide) ?_
          refine g_aload_n (pc := 90) (j := 1) (dk d_mR_countsBy 56 rfl) rfl (by decide) ?_
          refine g_getR (pc := 91) (a := 51) rfl fp_R_24 po_46 (dk d_mR_countsBy 57 rfl) ?_
          refine g_iload_n (pc := 94) (j := 3) (dk d_mR_countsBy 58 rfl) rfl ?_
          refine h_iald (pc := 95) (B := 3) pa_51 rfl (dk d_mR_countsBy 59 rfl) h (fun h => ?_)
          refine h_iast0 (pc := 96) pa_63 (dk d_mR_countsBy 60 rfl) (by decide) h (fun u13 h => ?_)
          refine g_aload_n (pc := 97) (j := 1) (dk d_mR_countsBy 61 rfl) rfl (by decide) ?_
          refine g_getR (pc := 98) (a := 63) rfl fp_R_62 po_46 (dk d_mR_countsBy 62 rfl) ?_
          refine g_iconst (pc := 101) (dk d_mR_countsBy 63 rfl) (by decide) ?_
          refine g_iload (pc := 102) (j := 5) (dk d_mR_countsBy 64 rfl) rfl ?_
          refine g_iload_n (pc := 104) (j := 4) (dk d_mR_countsBy 65 rfl) rfl ?_
          refine jn_e (fun J => ∀ (s14 : Int) (u15 : WD), J s14 u15 = some res → G E mR_countsBy (d + 4) 113 [(0, pR 46)] [pI s14, pI 5, pR 63] u15 RF NN 0 0 (some (pI res.1), res.2, RF, NN)) h (fun s14 u15 h => ?_) (fun J20 hJ20 h => ?_)
          · refine h_iast0 (pc := 113) pa_63 (dk d_mR_countsBy 70 rfl) (by decide) h (fun u16 h => ?_)
            refine g_aload_n (pc := 114) (j := 0) (dk d_mR_countsBy 71 rfl) rfl (by decide) ?_
            refine g_iconst (pc := 115) (dk d_mR_countsBy 72 rfl) (by decide) ?_
            refine h_callVi (d := d + 3) (pc := 116) (na := 1) (av := [pI 0]) (k0 := 46) po_46 ⟨_, rfl⟩ ⟨rfl, rfl⟩ (dk d_mR_countsBy 73 rfl) lk_R_262 vm_mR_gives rfl rfl (Nat.le_of_ble_eq_true rfl) h (fun r18 u17 hq => kR_gives E (d + 0) hq) (fun r18 u17 hb19 h => ?_)
            refine g_istore (pc := 119) (l' := [(5, pI r18), (0, pR 46)]) (dk d_mR_countsBy 74 rfl) (Nat.le_of_ble_eq_true rfl) rfl ?_
            refine g_pick [0] rfl (l' := [(5, pI r18)]) rfl ?_
            exact hJ8 _ _ h
          · refine h_icmp_ne (pc := 105) (tgt := 112) (dk d_mR_countsBy 66 rfl) rfl h (fun hc21 h => ?_) (fun hc21 h => ?_)
            · refine g_iconst (pc := 112) (dk d_mR_countsBy 69 rfl) (by decide) ?_
              refine g_pick [1] rfl (l' := [(0, pR 46)]) rfl ?_
              exact hJ20 _ _ h
            · refine g_iconst (pc := 108) (dk d_mR_countsBy 67 rfl) (by decide) ?_
              refine g_goto (pc := 109) (tgt := 113) (dk d_mR_countsBy 68 rfl) rfl ?_
              refine g_pick [1] rfl (l' := [(0, pR 46)]) rfl ?_
              exact hJ20 _ _ h
    · refine h_icmp_ne (pc := 28) (tgt := 36) (dk d_mR_countsBy 19 rfl) rfl h (fun hc24 h => ?_) (fun hc24 h => ?_)
      · refine g_aload_n (pc := 36) (j := 1) (dk d_mR_countsBy 22 rfl) rfl (by decide) ?_
        refine g_getR (pc := 37) (a := 48) rfl fp_R_15 po_46 (dk d_mR_countsBy 23 rfl) ?_
        refine g_iload_n (pc := 40) (j := 2) (dk d_mR_countsBy 24 rfl) rfl ?_
        refine h_iald (pc := 41) (B := 6) pa_48 rfl (dk d_mR_countsBy 25 rfl) h (fun h => ?_)
        refine g_pick [1, 2, 3, 4, 0] rfl (l' := [(0, pR 46), (1, pI a1), (2, pI a2), (3, pI a3), (4, pI v4_1)]) rfl ?_
        exact hJ23 _ _ h
      · refine g_bipush (pc := 31) (dk d_mR_countsBy 20 rfl) (by decide) ?_
        refine g_goto (pc := 33) (tgt := 42) (dk d_mR_countsBy 21 rfl) rfl ?_
        refine g_pick [1, 2, 3, 4, 0] rfl (l' := [(0, pR 46), (1, pI a1), (2, pI a2), (3, pI a3), (4, pI v4_1)]) rfl ?_
        exact hJ23 _ _ h
  · refine g_aload_n (pc := 6) (j := 0) (dk d_mR_countsBy 3 rfl) rfl (by decide) ?_
    refine g_getR (pc := 7) (a := 52) rfl fp_R_27 po_46 (dk d_mR_countsBy 4 rfl) ?_
    refine g_iconst (pc := 10) (dk d_mR_countsBy 5 rfl) (by decide) ?_
    refine g_iald (pc := 11) pa_52 (dk d_mR_countsBy 6 rfl) (by decide) ?_
    exact h_iret (pc := 12) rfl (dk d_mR_countsBy 7 rfl) h
set_option maxRecDepth 100000 in
set_option maxHeartbeats 4000000 in
theorem kR_countsBy (E : Nat × (Int → Int)) (d : Nat) {a1 : Int} {a2 : Int} {a3 : Int} {w w1 : WD} {r : Int} (h : fR_countsBy a1 a2 a3 w = some (r, w1)) : CTi E mR_countsBy (d + 4) [pR 46, pI a1, pI a2, pI a3] w RF NN r w1 RF NN := by
  exact CTi_of (by decide +kernel) (Nat.le_of_ble_eq_true rfl) (Or.inl rfl) (gR_countsBy (res := (r, w1)) E d a1 a2 a3 w h)
def fR_isWho (a1 : Int) (w : WD) : Option (Int × WD) := if a1 = 6 then (some (1, w)) else (ci (fR_isPerson a1 w) <| fun (r2 : Int) (u1 : WD) => if r2 = 0 then (some (0, u1)) else (some (1, u1)))
set_option maxRecDepth 100000 in
set_option maxHeartbeats 4000000 in
theorem gR_isWho (E : Nat × (Int → Int)) (d : Nat) {res : Int × WD} (a1 : Int) (w : WD) (h : fR_isWho a1 w = some res) : G E mR_isWho (d + 3) 0 [(0, pR 46), (1, pI a1)] [] w RF NN 0 0 (some (pI res.1), res.2, RF, NN) := by
  unfold fR_isWho at h
  refine g_iload_n (pc := 0) (j := 1) (dk d_mR_isWho 0 rfl) rfl ?_
  refine g_bipush (pc := 1) (dk d_mR_isWho 1 rfl) (by decide) ?_
  refine h_icmp_eq (pc := 3) (tgt := 14) (dk d_mR_isWho 2 rfl) rfl h (fun hc5 h => ?_) (fun hc5 h => ?_)
  · refine g_iconst (pc := 14) (dk d_mR_isWho 7 rfl) (by decide) ?_
    refine g_goto (pc := 15) (tgt := 19) (dk d_mR_isWho 8 rfl) rfl ?_
    exact h_zret (pc := 19) (Or.inr rfl) (dk d_mR_isWho 10 rfl) h
  · refine g_aload_n (pc := 6) (j := 0) (dk d_mR_isWho 3 rfl) rfl (by decide) ?_
    refine g_iload_n (pc := 7) (j := 1) (dk d_mR_isWho 4 rfl) rfl ?_
    refine h_callVi (d := d + 2) (pc := 8) (na := 1) (av := [pI a1]) (k0 := 46) po_46 ⟨_, rfl⟩ ⟨rfl, rfl⟩ (dk d_mR_isWho 5 rfl) lk_R_147 vm_mR_isPerson rfl rfl (Nat.le_of_ble_eq_true rfl) h (fun r2 u1 hq => kR_isPerson E (d + 0) hq) (fun r2 u1 hb3 h => ?_)
    refine h_if_eq (pc := 11) (tgt := 18) (dk d_mR_isWho 6 rfl) rfl h (fun hc4 h => ?_) (fun hc4 h => ?_)
    · refine g_iconst (pc := 18) (dk d_mR_isWho 9 rfl) (by decide) ?_
      exact h_zret (pc := 19) (Or.inl rfl) (dk d_mR_isWho 10 rfl) h
    · refine g_iconst (pc := 14) (dk d_mR_isWho 7 rfl) (by decide) ?_
      refine g_goto (pc := 15) (tgt := 19) (dk d_mR_isWho 8 rfl) rfl ?_
      exact h_zret (pc := 19) (Or.inr rfl) (dk d_mR_isWho 10 rfl) h
set_option maxRecDepth 100000 in
set_option maxHeartbeats 4000000 in
theorem kR_isWho (E : Nat × (Int → Int)) (d : Nat) {a1 : Int} {w w1 : WD} {r : Int} (h : fR_isWho a1 w = some (r, w1)) : CTi E mR_isWho (d + 3) [pR 46, pI a1] w RF NN r w1 RF NN := by
  exact CTi_of (by decide +kernel) (Nat.le_of_ble_eq_true rfl) (Or.inr rfl) (gR_isWho (res := (r, w1)) E d a1 w h)
def fR_counts (a1 : Int) (a2 : Int) (w : WD) : Option (Int × WD) := ci (fR_isWho a1 w) <| fun (r2 : Int) (u1 : WD) => if r2 = 0 then (some ((-1), u1)) else (if a2 < 0 then (some ((-1), u1)) else (if 3 ≤ (w32 (Int.tdiv a2 10)) then (some ((-1), u1)) else (if 3 < (Int.tmod a2 10) then (some ((-1), u1)) else (ci (fR_countsBy a1 (w32 (Int.tdiv a2 10)) (Int.tmod a2 10) u1) <| fun (r5 : Int) (u4 : WD) => some (r5, u4)))))
set_option maxRecDepth 100000 in
set_option maxHeartbeats 4000000 in
theorem gR_counts (E : Nat × (Int → Int)) (d : Nat) {res : Int × WD} (a1 : Int) (a2 : Int) (w : WD) (h : fR_counts a1 a2 w = some res) : G E mR_counts (d + 5) 0 [(0, pR 46), (1, pI a1), (2, pI a2)] [] w RF NN 0 0 (some (pI res.1), res.2, RF, NN) := by
  unfold fR_counts at h
  refine g_aload_n (pc := 0) (j := 0) (dk d_mR_counts 0 rfl) rfl (by decide) ?_
  refine g_iload_n (pc := 1) (j := 1) (dk d_mR_counts 1 rfl) rfl ?_
  refine h_callVi (d := d + 4) (pc := 2) (na := 1) (av := [pI a1]) (k0 := 46) po_46 ⟨_, rfl⟩ ⟨rfl, rfl⟩ (dk d_mR_counts 2 rfl) lk_R_265 vm_mR_isWho rfl rfl (Nat.le_of_ble_eq_true rfl) h (fun r2 u1 hq => kR_isWho E (d + 1) hq) (fun r2 u1 hb3 h => ?_)
  refine h_if_eq (pc := 5) (tgt := 44) (dk d_mR_counts 3 rfl) rfl h (fun hc10 h => ?_) (fun hc10 h => ?_)
  · refine g_iconst (pc := 44) (dk d_mR_counts 26 rfl) (by decide) ?_
    exact h_iret (pc := 45) rfl (dk d_mR_counts 27 rfl) h
  · refine g_iload_n (pc := 8) (j := 2) (dk d_mR_counts 4 rfl) rfl ?_
    refine h_if_lt (pc := 9) (tgt := 44) (dk d_mR_counts 5 rfl) rfl h (fun hc9 h => ?_) (fun hc9 h => ?_)
    · refine g_iconst (pc := 44) (dk d_mR_counts 26 rfl) (by decide) ?_
      exact h_iret (pc := 45) rfl (dk d_mR_counts 27 rfl) h
    · refine g_iload_n (pc := 12) (j := 2) (dk d_mR_counts 6 rfl) rfl ?_
      refine g_bipush (pc := 13) (dk d_mR_counts 7 rfl) (by decide) ?_
      refine g_idiv (pc := 15) (dk d_mR_counts 8 rfl) (by decide) ?_
      refine g_iconst (pc := 16) (dk d_mR_counts 9 rfl) (by decide) ?_
      refine h_icmp_ge (pc := 17) (tgt := 44) (dk d_mR_counts 10 rfl) rfl h (fun hc8 h => ?_) (fun hc8 h => ?_)
      · refine g_iconst (pc := 44) (dk d_mR_counts 26 rfl) (by decide) ?_
        exact h_iret (pc := 45) rfl (dk d_mR_counts 27 rfl) h
      · refine g_iload_n (pc := 20) (j := 2) (dk d_mR_counts 11 rfl) rfl ?_
        refine g_bipush (pc := 21) (dk d_mR_counts 12 rfl) (by decide) ?_
        refine g_irem (pc := 23) (dk d_mR_counts 13 rfl) (by decide) ?_
        refine g_iconst (pc := 24) (dk d_mR_counts 14 rfl) (by decide) ?_
        refine h_icmp_gt (pc := 25) (tgt := 44) (dk d_mR_counts 15 rfl) rfl h (fun hc7 h => ?_) (fun hc7 h => ?_)
        · refine g_iconst (pc := 44) (dk d_mR_counts 26 rfl) (by decide) ?_
          exact h_iret (pc := 45) rfl (dk d_mR_counts 27 rfl) h
        · refine g_aload_n (pc := 28) (j := 0) (dk d_mR_counts 16 rfl) rfl (by decide) ?_
          refine g_iload_n (pc := 29) (j := 1) (dk d_mR_counts 17 rfl) rfl ?_
          refine g_iload_n (pc := 30) (j := 2) (dk d_mR_counts 18 rfl) rfl ?_
          refine g_bipush (pc := 31) (dk d_mR_counts 19 rfl) (by decide) ?_
          refine g_idiv (pc := 33) (dk d_mR_counts 20 rfl) (by decide) ?_
          refine g_iload_n (pc := 34) (j := 2) (dk d_mR_counts 21 rfl) rfl ?_
          refine g_bipush (pc := 35) (dk d_mR_counts 22 rfl) (by decide) ?_
          refine g_irem (pc := 37) (dk d_mR_counts 23 rfl) (by decide) ?_
          refine h_callVi (d := d + 4) (pc := 38) (na := 3) (av := [pI a1, pI (w32 (Int.tdiv a2 10)), pI (Int.tmod a2 10)]) (k0 := 46) po_46 ⟨_, rfl⟩ ⟨rfl, rfl⟩ (dk d_mR_counts 24 rfl) lk_R_268 vm_mR_countsBy rfl rfl (Nat.le_of_ble_eq_true rfl) h (fun r5 u4 hq => kR_countsBy E (d + 0) hq) (fun r5 u4 hb6 h => ?_)
          refine g_goto (pc := 41) (tgt := 45) (dk d_mR_counts 25 rfl) rfl ?_
          exact h_iret (pc := 45) rfl (dk d_mR_counts 27 rfl) h
set_option maxRecDepth 100000 in
set_option maxHeartbeats 4000000 in
theorem kR_counts (E : Nat × (Int → Int)) (d : Nat) {a1 : Int} {a2 : Int} {w w1 : WD} {r : Int} (h : fR_counts a1 a2 w = some (r, w1)) : CTi E mR_counts (d + 5) [pR 46, pI a1, pI a2] w RF NN r w1 RF NN := by
  exact CTi_of (by decide +kernel) (Nat.le_of_ble_eq_true rfl) (Or.inl rfl) (gR_counts (res := (r, w1)) E d a1 a2 w h)
def fR_findBy_l49_b (rec : Int → Int → WD → Option WD) (y1 : Int) (y2 : Int) (K0 : Int → WD → Option WD) (x3 : Int) (x5 : Int) (w : WD) : Option WD := if 3 ≤ x5 then (K0 x3 w) else (if x3 ≤ 0 then (K0 x3 w) else (ck (0 ≤ (w32 ((w32 (3 * y1)) + x5)) ∧ (w32 ((w32 (3 * y1)) + x5)) < 15) <| jn (β := Int → WD → Option WD) (fun (v3_6 : Int) (u7 : WD) => bv (w32 (x5 + 1)) <| fun (v5_8 : Int) => rec v3_6 v5_8 u7) <| fun J9 => if (w 49 (w32 ((w32 (3 * y1)) + x5))) < 0 then (J9 x3 w) else (ck (0 ≤ (w32 ((w32 (3 * y1)) + x5)) ∧ (w32 ((w32 (3 * y1)) + x5)) < 15) <| ci (fR_countsBy y2 x5 (w 49 (w32 ((w32 (3 * y1)) + x5))) w) <| fun (r11 : Int) (u10 : WD) => bv (w64 (x3 * r11)) <| fun (v3_13 : Int) => J9 v3_13 u10)))
def fR_findBy_l49 (y1 : Int) (y2 : Int) (K0 : Int → WD → Option WD) : Nat → Int → Int → WD → Option WD
  | 0 => fun _ _ _ => none
  | k + 1 => fR_findBy_l49_b ( fR_findBy_l49 y1 y2 K0 k) y1 y2 K0
set_option maxRecDepth 100000 in
set_option maxHeartbeats 4000000 in
theorem fR_findBy_l49_b_ok (E : Nat × (Int → Int)) (d : Nat) {res : WD} {rec : Int → Int → WD → Option WD} (y1 : Int) (y2 : Int) (K0 : Int → WD → Option WD) (hrec : ∀ (x3 : Int) (x5 : Int) (w : WD), rec x3 x5 w = some res → G E mR_findBy (d + 5) 49 [(0, pR 46), (1, pI y1), (2, pI y2), (3, pL x3), (5, pI x5)] [] w RF NN 0 0 (none, res, RF, NN)) (hK0 : ∀ (x3 : Int) (w : WD), K0 x3 w = some res → G E mR_findBy (d + 5) 103 [(0, pR 46), (1, pI y1), (2, pI y2), (3, pL x3)] [] w RF NN 0 0 (none, res, RF, NN)) (x3 : Int) (x5 : Int) (w : WD) (h : fR_findBy_l49_b rec y1 y2 K0 x3 x5 w = some res) : G E mR_findBy (d + 5) 49 [(0, pR 46), (1, pI y1), (2, pI y2), (3, pL x3), (5, pI x5)] [] w RF NN 0 0 (none, res, RF, NN) := by
  unfold fR_findBy_l49_b at h
  refine g_iload (pc := 49) (j := 4) (dk d_mR_findBy 31 rfl) rfl ?_
  refine g_iconst (pc := 51) (dk d_mR_findBy 32 rfl) (by decide) ?_
  refine h_icmp_ge (pc := 52) (tgt := 103) (dk d_mR_findBy 33 rfl) rfl h (fun hc16 h => ?_) (fun hc16 h => ?_)
  · refine g_pick [0, 1, 2, 3] rfl (l' := [(0, pR 46), (1, pI y1), (2, pI y2), (3, pL x3)]) rfl ?_
    exact hK0 _ _ h
  · refine g_lload_n (pc := 55) (j := 3) (dk d_mR_findBy 34 rfl) rfl ?_
    refine g_lconst0 (pc := 56) (dk d_mR_findBy 35 rfl) ?_
    refine h_lcmp_le (pc := 57) (tgt := 103) (dk d_mR_findBy 36 rfl) (dk d_mR_findBy 37 rfl) rfl h (fun hc15 h => ?_) (fun hc15 h => ?_)
    · refine g_pick [0, 1, 2, 3] rfl (l' := [(0, pR 46), (1, pI y1), (2, pI y2), (3, pL x3)]) rfl ?_
      exact hK0 _ _ h
    · refine g_aload_n (pc := 61) (j := 0) (dk d_mR_findBy 38 rfl) rfl (by decide) ?_
      refine g_getR (pc := 62) (a := 49) rfl fp_R_18 po_46 (dk d_mR_findBy 39 rfl) ?_
      refine g_iconst (pc := 65) (dk d_mR_findBy 40 rfl) (by decide) ?_
      refine g_iload_n (pc := 66) (j := 1) (dk d_mR_findBy 41 rfl) rfl ?_
      refine g_imul (pc := 67) (dk d_mR_findBy 42 rfl) ?_
      refine g_iload (pc := 68) (j := 4) (dk d_mR_findBy 43 rfl) rfl ?_
      refine g_iadd (pc := 70) (dk d_mR_findBy 44 rfl) ?_
      refine h_iald (pc := 71) (B := 15) pa_49 rfl (dk d_mR_findBy 45 rfl) h (fun h => ?_)
      refine jn_e (fun J => ∀ (v3_6 : Int) (u7 : WD), J v3_6 u7 = some res → G E mR_findBy (d + 5) 97 [(0, pR 46), (1, pI y1), (2, pI y2), (3, pL v3_6), (5, pI x5)] [] u7 RF NN 0 0 (none, res, RF, NN)) h (fun v3_6 u7 h => ?_) (fun J9 hJ9 h => ?_)
      · refine h_iinc (pc := 97) (j := 4) (dk d_mR_findBy 63 rfl) rfl (by decide) (Nat.le_of_ble_eq_true rfl) h (fun v5_8 h => ?_)
        refine g_loc (l' := [(5, pI v5_8), (0, pR 46), (1, pI y1), (2, pI y2), (3, pL v3_6)]) rfl ?_
        refine g_goto (pc := 100) (tgt := 49) (dk d_mR_findBy 64 rfl) rfl ?_
        refine g_pick [1, 2, 3, 4, 0] rfl (l' := [(0, pR 46), (1, pI y1), (2, pI y2), (3, pL v3_6), (5, pI v5_8)]) rfl ?_
        exact hrec _ _ _ h
      · refine h_if_lt (pc := 72) (tgt := 97) (dk d_mR_findBy 46 rfl) rfl h (fun hc14 h => ?_) (fun hc14 h => ?_)
        · exact hJ9 _ _ h
        · refine g_lload_n (pc := 75) (j := 3) (dk d_mR_findBy 47 rfl) rfl ?_
          refine g_aload_n (pc := 76) (j := 0) (dk d_mR_findBy 48 rfl) rfl (by decide) ?_
          refine g_iload_n (pc := 77) (j := 2) (dk d_mR_findBy 49 rfl) rfl ?_
          refine g_iload (pc := 78) (j := 4) (dk d_mR_findBy 50 rfl) rfl ?_
          refine g_aload_n (pc := 80) (j := 0) (dk d_mR_findBy 51 rfl) rfl (by decide) ?_
          refine g_getR (pc := 81) (a := 49) rfl fp_R_18 po_46 (dk d_mR_findBy 52 rfl) ?_
          refine g_iconst (pc := 84) (dk d_mR_findBy 53 rfl) (by decide) ?_
          refine g_iload_n (pc := 85) (j := 1) (dk d_mR_findBy 54 rfl) rfl ?_
          refine g_imul (pc := 86) (dk d_mR_findBy 55 rfl) ?_
          refine g_iload (pc := 87) (j := 4) (dk d_mR_findBy 56 rfl) rfl ?_
          refine g_iadd (pc := 89) (dk d_mR_findBy 57 rfl) ?_
          refine h_iald (pc := 90) (B := 15) pa_49 rfl (dk d_mR_findBy 58 rfl) h (fun h => ?_)
          refine h_callVi (d := d + 4) (pc := 91) (na := 3) (av := [pI y2, pI x5, pI (w 49 (w32 ((w32 (3 * y1)) + x5)))]) (k0 := 46) po_46 ⟨_, rfl⟩ ⟨rfl, rfl⟩ (dk d_mR_findBy 59 rfl) lk_R_268 vm_mR_countsBy rfl rfl (Nat.le_of_ble_eq_true rfl) h (fun r11 u10 hq => kR_countsBy E (d + 0) hq) (fun r11 u10 hb12 h => ?_)
          refine g_i2l (pc := 94) (dk d_mR_findBy 60 rfl) ?_
          refine g_lmul (pc := 95) (dk d_mR_findBy 61 rfl) ?_
          refine h_bvL h (fun v3_13 h => ?_)
          refine g_lstore_n (pc := 96) (l' := [(3, pL v3_13), (0, pR 46), (1, pI y1), (2, pI y2), (5, pI x5)]) (dk d_mR_findBy 62 rfl) (Nat.le_of_ble_eq_true rfl) rfl ?_
          refine g_pick [1, 2, 3, 0, 4] rfl (l' := [(0, pR 46), (1, pI y1), (2, pI y2), (3, pL v3_13), (5, pI x5)]) rfl ?_
          exact hJ9 _ _ h
set_option maxRecDepth 100000 in
set_option maxHeartbeats 4000000 in
theorem fR_findBy_l49_ok (E : Nat × (Int → Int)) (d : Nat) {res : WD} (y1 : Int) (y2 : Int) (K0 : Int → WD → Option WD) (hK0 : ∀ (x3 : Int) (w : WD), K0 x3 w = some res → G E mR_findBy (d + 5) 103 [(0, pR 46), (1, pI y1), (2, pI y2), (3, pL x3)] [] w RF NN 0 0 (none, res, RF, NN)) : ∀ (k : Nat) (x3 : Int) (x5 : Int) (w : WD), fR_findBy_l49 y1 y2 K0 k x3 x5 w = some res → G E mR_findBy (d + 5) 49 [(0, pR 46), (1, pI y1), (2, pI y2), (3, pL x3), (5, pI x5)] [] w RF NN 0 0 (none, res, RF, NN) := by
  intro k
  induction k with
  | zero =>
    intro x3 x5 w h
    exact no_e h
  | succ k ih =>
    intro x3 x5 w h
    exact fR_findBy_l49_b_ok E d y1 y2 K0 ih hK0 x3 x5 w h
def fR_findBy_l12_b (rec : Int → WD → Option WD) (y1 : Int) (K0 : WD → Option WD) (x2 : Int) (w : WD) : Option WD := if 6 < x2 then (K0 w) else (ci (fR_isWho x2 w) <| fun (r2 : Int) (u1 : WD) => jn (β := Int → WD → Option WD) (fun (s4 : Int) (u5 : WD) => fR_findBy_l49 y1 x2 (fun (v3_17 : Int) (u18 : WD) => ck (0 ≤ (w32 ((w32 (7 * y1)) + x2)) ∧ (w32 ((w32 (7 * y1)) + x2)) < 35) <| bw (up u18 65 (w32 ((w32 (7 * y1)) + x2)) v3_17) <| fun (u19 : WD) => bv (w32 (x2 + 1)) <| fun (v2_20 : Int) => rec v2_20 u19) FU s4 0 u5) <| fun J21 => jn (β := WD → Option WD) (fun (u22 : WD) => J21 0 u22) <| fun J23 => if r2 = 0 then (J23 u1) else (ck (0 ≤ y1 ∧ y1 < 5) <| if (bAnd (bShr (u1 50 y1) x2) 1) ≠ 1 then (J23 u1) else (J21 1 u1)))
def fR_findBy_l12 (y1 : Int) (K0 : WD → Option WD) : Nat → Int → WD → Option WD
  | 0 => fun _ _ => none
  | k + 1 => fR_findBy_l12_b ( fR_findBy_l12 y1 K0 k) y1 K0
set_option maxRecDepth 100000 in
set_option maxHeartbeats 4000000 in
theorem fR_findBy_l12_b_ok (E : Nat × (Int → Int)) (d : Nat) {res : WD} {rec : Int → WD → Option WD} (y1 : Int) (K0 : WD → Option WD) (hrec : ∀ (x2 : Int) (w : WD), rec x2 w = some res → G E mR_findBy (d + 5) 12 [(0, pR 46), (1, pI y1), (2, pI x2)] [] w RF NN 0 0 (none, res, RF, NN)) (hK0 : ∀ (w : WD), K0 w = some res → G E mR_findBy (d + 5) 121 [(0, pR 46), (1, pI y1)] [] w RF NN 0 0 (none, res, RF, NN)) (x2 : Int) (w : WD) (h : fR_findBy_l12_b rec y1 K0 x2 w = some res) : G E mR_findBy (d + 5) 12 [(0, pR 46), (1, pI y1), (2, pI x2)] [] w RF NN 0 0 (none, res, RF, NN) := by
  unfold fR_findBy_l12_b at h
  refine g_iload_n (pc := 12) (j := 2) (dk d_mR_findBy 8 rfl) rfl ?_
  refine g_bipush (pc := 13) (dk d_mR_findBy 9 rfl) (by decide) ?_
  refine h_icmp_gt (pc := 15) (tgt := 121) (dk d_mR_findBy 10 rfl) rfl h (fun hc26 h => ?_) (fun hc26 h => ?_)
  · refine g_pick [0, 1] rfl (l' := [(0, pR 46), (1, pI y1)]) rfl ?_
    exact hK0 _ h
  · refine g_aload_n (pc := 18) (j := 0) (dk d_mR_findBy 11 rfl) rfl (by decide) ?_
    refine g_iload_n (pc := 19) (j := 2) (dk d_mR_findBy 12 rfl) rfl ?_
    refine h_callVi (d := d + 4) (pc := 20) (na := 1) (av := [pI x2]) (k0 := 46) po_46 ⟨_, rfl⟩ ⟨rfl, rfl⟩ (dk d_mR_findBy 13 rfl) lk_R_265 vm_mR_isWho rfl rfl (Nat.le_of_ble_eq_true rfl) h (fun r2 u1 hq => kR_isWho E (d + 1) hq) (fun r2 u1 hb3 h => ?_)
    refine jn_e (fun J => ∀ (s4 : Int) (u5 : WD), J s4 u5 = some res → G E mR_findBy (d + 5) 45 [(0, pR 46), (1, pI y1), (2, pI x2)] [pL s4] u5 RF NN 0 0 (none, res, RF, NN)) h (fun s4 u5 h => ?_) (fun J21 hJ21 h => ?_)
    · refine g_lstore_n (pc := 45) (l' := [(3, pL s4), (0, pR 46), (1, pI y1), (2, pI x2)]) (dk d_mR_findBy 28 rfl) (Nat.le_of_ble_eq_true rfl) rfl ?_
      refine g_iconst (pc := 46) (dk d_mR_findBy 29 rfl) (by decide) ?_
      refine g_istore (pc := 47) (l' := [(5, pI 0), (3, pL s4), (0, pR 46), (1, pI y1), (2, pI x2)]) (dk d_mR_findBy 30 rfl) (Nat.le_of_ble_eq_true rfl) rfl ?_
      refine g_pick [2, 3, 4, 1, 0] rfl (l' := [(0, pR 46), (1, pI y1), (2, pI x2), (3, pL s4), (5, pI 0)]) rfl ?_
      refine fR_findBy_l49_ok E d y1 x2 _  (fun v3_17 u18 h => ?_) FU _ _  _ h
      · refine g_aload_n (pc := 103) (j := 0) (dk d_mR_findBy 65 rfl) rfl (by decide) ?_
        refine g_getR (pc := 104) (a := 65) rfl fp_R_68 po_46 (dk d_mR_findBy 66 rfl) ?_
        refine g_bipush (pc := 107) (dk d_mR_findBy 67 rfl) (by decide) ?_
        refine g_iload_n (pc := 109) (j := 1) (dk d_mR_findBy 68 rfl) rfl ?_
        refine g_imul (pc := 110) (dk d_mR_findBy 69 rfl) ?_
        refine g_iload_n (pc := 111) (j := 2) (dk d_mR_findBy 70 rfl) rfl ?_
        refine g_iadd (pc := 112) (dk d_mR_findBy 71 rfl) ?_
        refine g_lload_n (pc := 113) (j := 3) (dk d_mR_findBy 72 rfl) rfl ?_
        refine h_last (pc := 114) (B := 35) pa_65 rfl (dk d_mR_findBy 73 rfl) h (fun u19 h => ?_)
        refine h_iinc (pc := 115) (j := 2) (dk d_mR_findBy 74 rfl) rfl (by decide) (Nat.le_of_ble_eq_true rfl) h (fun v2_20 h => ?_)
        refine g_loc (l' := [(2, pI v2_20), (0, pR 46), (1, pI y1), (3, pL v3_17)]) rfl ?_
        refine g_goto (pc := 118) (tgt := 12) (dk d_mR_findBy 75 rfl) rfl ?_
        refine g_pick [1, 2, 0] rfl (l' := [(0, pR 46), (1, pI y1), (2, pI v2_20)]) rfl ?_
        exact hrec _ _ h
    · refine jn_e (fun J => ∀ (u22 : WD), J u22 = some res → G E mR_findBy (d + 5) 44 [(0, pR 46), (1, pI y1), (2, pI x2)] [] u22 RF NN 0 0 (none, res, RF, NN)) h (fun u22 h => ?_) (fun J23 hJ23 h => ?_)
      · refine g_lconst0 (pc := 44) (dk d_mR_findBy 27 rfl) ?_
        exact hJ21 _ _ h
      · refine h_if_eq (pc := 23) (tgt := 44) (dk d_mR_findBy 14 rfl) rfl h (fun hc25 h => ?_) (fun hc25 h => ?_)
        · exact hJ23 _ h
        · refine g_aload_n (pc := 26) (j := 0) (dk d_mR_findBy 15 rfl) rfl (by decide) ?_
          refine g_getR (pc := 27) (a := 50) rfl fp_R_21 po_46 (dk d_mR_findBy 16 rfl) ?_
          refine g_iload_n (pc := 30) (j := 1) (dk d_mR_findBy 17 rfl) rfl ?_
          refine h_iald (pc := 31) (B := 5) pa_50 rfl (dk d_mR_findBy 18 rfl) h (fun h => ?_)
          refine g_iload_n (pc := 32) (j := 2) (dk d_mR_findBy 19 rfl) rfl ?_
          refine g_ishr (pc := 33) (dk d_mR_findBy 20 rfl) ?_
          refine g_iconst (pc := 34) (dk d_mR_findBy 21 rfl) (by decide) ?_
          refine g_iand (pc := 35) (dk d_mR_findBy 22 rfl) ?_
          refine g_iconst (pc := 36) (dk d_mR_findBy 23 rfl) (by decide) ?_
          refine h_icmp_ne (pc := 37) (tgt := 44) (dk d_mR_findBy 24 rfl) rfl h (fun hc24 h => ?_) (fun hc24 h => ?_)
          · exact hJ23 _ h
          · refine g_lconst1 (pc := 40) (dk d_mR_findBy 25 rfl) ?_
            refine g_goto (pc := 41) (tgt := 45) (dk d_mR_findBy 26 rfl) rfl ?_
            exact hJ21 _ _ h
set_option maxRecDepth 100000 in
set_option maxHeartbeats 4000000 in
theorem fR_findBy_l12_ok (E : Nat × (Int → Int)) (d : Nat) {res : WD} (y1 : Int) (K0 : WD → Option WD) (hK0 : ∀ (w : WD), K0 w = some res → G E mR_findBy (d + 5) 121 [(0, pR 46), (1, pI y1)] [] w RF NN 0 0 (none, res, RF, NN)) : ∀ (k : Nat) (x2 : Int) (w : WD), fR_findBy_l12 y1 K0 k x2 w = some res → G E mR_findBy (d + 5) 12 [(0, pR 46), (1, pI y1), (2, pI x2)] [] w RF NN 0 0 (none, res, RF, NN) := by
  intro k
  induction k with
  | zero =>
    intro x2 w h
    exact no_e h
  | succ k ih =>
    intro x2 w h
    exact fR_findBy_l12_b_ok E d y1 K0 ih hK0 x2 w h
def fR_findBy_l2_b (rec : Int → WD → Option WD) (x1 : Int) (w : WD) : Option WD := if (w 46 4) ≤ x1 then (some w) else (fR_findBy_l12 x1 (fun (u27 : WD) => bv (w32 (x1 + 1)) <| fun (v1_28 : Int) => rec v1_28 u27) FU 0 w)
def fR_findBy_l2 : Nat → Int → WD → Option WD
  | 0 => fun _ _ => none
  | k + 1 => fR_findBy_l2_b ( fR_findBy_l2 k)
set_option maxRecDepth 100000 in
set_option maxHeartbeats 4000000 in
theorem fR_findBy_l2_b_ok (E : Nat × (Int → Int)) (d : Nat) {res : WD} {rec : Int → WD → Option WD} (hrec : ∀ (x1 : Int) (w : WD), rec x1 w = some res → G E mR_findBy (d + 5) 2 [(0, pR 46), (1, pI x1)] [] w RF NN 0 0 (none, res, RF, NN)) (x1 : Int) (w : WD) (h : fR_findBy_l2_b rec x1 w = some res) : G E mR_findBy (d + 5) 2 [(0, pR 46), (1, pI x1)] [] w RF NN 0 0 (none, res, RF, NN) := by
  unfold fR_findBy_l2_b at h
  refine g_iload_n (pc := 2) (j := 1) (dk d_mR_findBy 2 rfl) rfl ?_
  refine g_aload_n (pc := 3) (j := 0) (dk d_mR_findBy 3 rfl) rfl (by decide) ?_
  refine g_getI (pc := 4) fp_R_144 po_46 (dk d_mR_findBy 4 rfl) ?_
  refine h_icmp_ge (pc := 7) (tgt := 127) (dk d_mR_findBy 5 rfl) rfl h (fun hc29 h => ?_) (fun hc29 h => ?_)
  · exact h_vret (pc := 127) (dk d_mR_findBy 78 rfl) h
  · refine g_iconst (pc := 10) (dk d_mR_findBy 6 rfl) (by decide) ?_
    refine g_istore_n (pc := 11) (l' := [(2, pI 0), (0, pR 46), (1, pI x1)]) (dk d_mR_findBy 7 rfl) (Nat.le_of_ble_eq_true rfl) rfl ?_
    refine g_pick [1, 2, 0] rfl (l' := [(0, pR 46), (1, pI x1), (2, pI 0)]) rfl ?_
    refine fR_findBy_l12_ok E d x1 _  (fun u27 h => ?_) FU _  _ h
    · refine h_iinc (pc := 121) (j := 1) (dk d_mR_findBy 76 rfl) rfl (by decide) (Nat.le_of_ble_eq_true rfl) h (fun v1_28 h => ?_)
      refine g_loc (l' := [(1, pI v1_28), (0, pR 46)]) rfl ?_
      refine g_goto (pc := 124) (tgt := 2) (dk d_mR_findBy 77 rfl) rfl ?_
      refine g_pick [1, 0] rfl (l' := [(0, pR 46), (1, pI v1_28)]) rfl ?_
      exact hrec _ _ h
set_option maxRecDepth 100000 in
set_option maxHeartbeats 4000000 in
theorem fR_findBy_l2_ok (E : Nat × (Int → Int)) (d : Nat) {res : WD} : ∀ (k : Nat) (x1 : Int) (w : WD), fR_findBy_l2 k x1 w = some res → G E mR_findBy (d + 5) 2 [(0, pR 46), (1, pI x1)] [] w RF NN 0 0 (none, res, RF, NN) := by
  intro k
  induction k with
  | zero =>
    intro x1 w h
    exact no_e h
  | succ k ih =>
    intro x1 w h
    exact fR_findBy_l2_b_ok E d ih x1 w h
def fR_findBy (w : WD) : Option WD := fR_findBy_l2 FU 0 w
set_option maxRecDepth 100000 in
set_option maxHeartbeats 4000000 in
theorem gR_findBy (E : Nat × (Int → Int)) (d : Nat) {res : WD} (w : WD) (h : fR_findBy w = some res) : G E mR_findBy (d + 5) 0 [(0, pR 46)] [] w RF NN 0 0 (none, res, RF, NN) := by
  unfold fR_findBy at h
  refine g_iconst (pc := 0) (dk d_mR_findBy 0 rfl) (by decide) ?_
  refine g_istore_n (pc := 1) (l' := [(1, pI 0), (0, pR 46)]) (dk d_mR_findBy 1 rfl) (Nat.le_of_ble_eq_true rfl) rfl ?_
  refine g_pick [1, 0] rfl (l' := [(0, pR 46), (1, pI 0)]) rfl ?_
  refine fR_findBy_l2_ok E d FU _  _ h
set_option maxRecDepth 100000 in
set_option maxHeartbeats 4000000 in
theorem kR_findBy (E : Nat × (Int → Int)) (d : Nat) {w w1 : WD} (h : fR_findBy w = some w1) : CTv E mR_findBy (d + 5) [pR 46] w RF NN w1 RF NN := by
  exact CTv_of (by decide +kernel) (Nat.le_of_ble_eq_true rfl) rfl (gR_findBy (res := w1) E d w h)
