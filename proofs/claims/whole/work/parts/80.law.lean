section LAW
variable {E : Nat × (Int → Int)} {M : MR} {d pc : Nat} {l : List (Nat × PV)} {st : List PV} {w : WD} {c z : Nat} {res : Option PV × WD × WD × Nat}
theorem l_callVi {ix na : Nat} {M2 : MR} {av S : List PV} {x : Int} {w1 : WD} {k0 : Int} {ci1 N : Nat} (hp2 : PO k0 NN ci1 N) (hcl : ∃ T, classes[ci1]? = some ((mY M2).cls, T, N)) (hz : mC M2 = 0 ∧ mS M2 = 0) (hd : decode (mB M) pc = .ok (.invokevirtual ix, 3)) (hlk : Cond.methodLink (mY M).cls ix (mY M2) ∈ lw_g) (hv : VM M2 na) (hna : av.length = na) (hst : S = av.reverse ++ pR k0 :: st) (hcat : (st.map pcat).sum ≤ 8) (hc : c ≤ mC M ∧ z ≤ mS M) (hct : CTi E M2 d (pR k0 :: av) w RF NN x w1 RF NN) (kk : G E M (d + 1) (pc + 3) l (pI x :: st) w1 RF NN c z res) : G E M (d + 1) pc l S w RF NN c z res := g_callVi hp2 hcl hd hlk hv hna hct hst hcat ⟨by rw [hz.1]; exact hc.1, by rw [hz.2]; exact hc.2⟩ (fun _ => by rw [hz.1, hz.2]; exact kk)
theorem l_callVl {ix na : Nat} {M2 : MR} {av S : List PV} {x : Int} {w1 : WD} {k0 : Int} {ci1 N : Nat} (hp2 : PO k0 NN ci1 N) (hcl : ∃ T, classes[ci1]? = some ((mY M2).cls, T, N)) (hz : mC M2 = 0 ∧ mS M2 = 0) (hd : decode (mB M) pc = .ok (.invokevirtual ix, 3)) (hlk : Cond.methodLink (mY M).cls ix (mY M2) ∈ lw_g) (hv : VM M2 na) (hna : av.length = na) (hst : S = av.reverse ++ pR k0 :: st) (hcat : (st.map pcat).sum ≤ 8) (hc : c ≤ mC M ∧ z ≤ mS M) (hct : CTl E M2 d (pR k0 :: av) w RF NN x w1 RF NN) (kk : G E M (d + 1) (pc + 3) l (pL x :: st) w1 RF NN c z res) : G E M (d + 1) pc l S w RF NN c z res := g_callVl hp2 hcl hd hlk hv hna hct hst hcat ⟨by rw [hz.1]; exact hc.1, by rw [hz.2]; exact hc.2⟩ (by rw [hz.1, hz.2]; exact kk)
end LAW
theorem lbnd {E : Nat × (Int → Int)} {i : Int} (hE : E.1 ≤ 3072) (hi : 0 ≤ i ∧ i + 6 ≤ E.1) (k : Int) (hk : 0 ≤ k ∧ k < 6) : 0 ≤ w32 (i + k) ∧ w32 (i + k) < (roN E 1 : Int) := by
  have e : (roN E 1 : Int) = E.1 := rfl
  rw [e]
  unfold w32
  omega
theorem lbnd0 {E : Nat × (Int → Int)} {i : Int} (hi : 0 ≤ i ∧ i + 6 ≤ E.1) : 0 ≤ i ∧ i < (roN E 1 : Int) := by
  have e : (roN E 1 : Int) = E.1 := rfl
  rw [e]
  omega
theorem lro {E : Nat × (Int → Int)} (hE : ∀ i, I32 (E.2 i)) (x : Int) : I32 (roV E 1 x) := hE x
theorem i64_r (x : Int64) : I64 x.toInt := by
  have h1 := Int64.le_toInt x
  have h2 := Int64.toInt_lt x
  unfold I64
  omega
theorem lor_r (a b : Int) : I64 (lOr a b) := i64_r _
set_option maxRecDepth 100000 in
set_option maxHeartbeats 4000000 in
theorem lc_0 (E : Nat × (Int → Int)) (d : Nat) {c z : Nat} (hL : E.1 ≤ 3072) (hE : ∀ i, I32 (E.2 i)) (hcz : c ≤ mC mL_law ∧ z ≤ mS mL_law) {Inv : WD → Prop} (ho : op1 Inv fB_person fR_person) {i : Int} (hi : 0 ≤ i ∧ i + 6 ≤ E.1) (w : WD) (hI : Inv w) : ∃ v, Inv v ∧ ∀ res, G E mL_law (d + 208) 1645 [(0, pR (-1)), (1, pR 0), (2, pR 46), (3, pI i)] [] v RF NN c z res → G E mL_law (d + 208) 232 [(0, pR (-1)), (1, pR 0), (2, pR 46), (3, pI i)] [] w RF NN c z res := by
  obtain ⟨r, u, v, h1, h2, h3⟩ := ho (roV E 1 (w32 (i + 1))) w (lro hE _) hI
  refine ⟨v, h3, fun res kk => ?_⟩
  refine g_aload_n (pc := 232) (j := 1) (dk d_mL_law 22 rfl) rfl (by decide) ?_
  refine g_aload_n (pc := 233) (j := 0) (dk d_mL_law 23 rfl) rfl (by decide) ?_
  refine g_iload_n (pc := 234) (j := 3) (dk d_mL_law 24 rfl) rfl ?_
  refine g_iconst (pc := 235) (dk d_mL_law 25 rfl) (by decide) ?_
  refine g_iadd (pc := 236) (dk d_mL_law 26 rfl) ?_
  refine g_roald (pc := 237) (q := 1) (by decide) rfl (lbnd hL hi 1 (by decide)) (dk d_mL_law 27 rfl) ?_
  refine l_callVi (d := d + 207) (pc := 238) (na := 1) (av := [pI (roV E 1 (w32 (i + 1)))]) (k0 := 0) po_0 ⟨_, rfl⟩ ⟨rfl, rfl⟩ (dk d_mL_law 28 rfl) lk_L_13 vm_mB_person rfl rfl (Nat.le_of_ble_eq_true rfl) hcz (kB_person E (d + 203) h1) ?_
  refine g_aload_n (pc := 241) (j := 2) (dk d_mL_law 29 rfl) rfl (by decide) ?_
  refine g_aload_n (pc := 242) (j := 0) (dk d_mL_law 30 rfl) rfl (by decide) ?_
  refine g_iload_n (pc := 243) (j := 3) (dk d_mL_law 31 rfl) rfl ?_
  refine g_iconst (pc := 244) (dk d_mL_law 32 rfl) (by decide) ?_
  refine g_iadd (pc := 245) (dk d_mL_law 33 rfl) ?_
  refine g_roald (pc := 246) (q := 1) (by decide) rfl (lbnd hL hi 1 (by decide)) (dk d_mL_law 34 rfl) ?_
  refine l_callVi (d := d + 207) (pc := 247) (na := 1) (av := [pI (roV E 1 (w32 (i + 1)))]) (k0 := 46) po_46 ⟨_, rfl⟩ ⟨rfl, rfl⟩ (dk d_mL_law 35 rfl) lk_L_17 vm_mR_person rfl rfl (Nat.le_of_ble_eq_true rfl) hcz (kR_person E (d + 204) h2) ?_
  exact g_icmp_eq (pc := 250) (tgt := 1645) (dk d_mL_law 36 rfl) rfl (fun _ => kk) (fun q => absurd rfl q)
set_option maxRecDepth 100000 in
set_option maxHeartbeats 4000000 in
theorem lc_1 (E : Nat × (Int → Int)) (d : Nat) {c z : Nat} (hL : E.1 ≤ 3072) (hE : ∀ i, I32 (E.2 i)) (hcz : c ≤ mC mL_law ∧ z ≤ mS mL_law) {Inv : WD → Prop} (ho : op3 Inv fB_people fR_people) {i : Int} (hi : 0 ≤ i ∧ i + 6 ≤ E.1) (w : WD) (hI : Inv w) : ∃ v, Inv v ∧ ∀ res, G E mL_law (d + 208) 1645 [(0, pR (-1)), (1, pR 0), (2, pR 46), (3, pI i)] [] v RF NN c z res → G E mL_law (d + 208) 255 [(0, pR (-1)), (1, pR 0), (2, pR 46), (3, pI i)] [] w RF NN c z res := by
  obtain ⟨r, u, v, h1, h2, h3⟩ := ho (roV E 1 (w32 (i + 1))) (roV E 1 (w32 (i + 2))) (roV E 1 (w32 (i + 3))) w (lro hE _) (lro hE _) (lro hE _) hI
  refine ⟨v, h3, fun res kk => ?_⟩
  refine g_aload_n (pc := 255) (j := 1) (dk d_mL_law 39 rfl) rfl (by decide) ?_
  refine g_aload_n (pc := 256) (j := 0) (dk d_mL_law_1 0 rfl) rfl (by decide) ?_
  refine g_iload_n (pc := 257) (j := 3) (dk d_mL_law_1 1 rfl) rfl ?_
  refine g_iconst (pc := 258) (dk d_mL_law_1 2 rfl) (by decide) ?_
  refine g_iadd (pc := 259) (dk d_mL_law_1 3 rfl) ?_
  refine g_roald (pc := 260) (q := 1) (by decide) rfl (lbnd hL hi 1 (by decide)) (dk d_mL_law_1 4 rfl) ?_
  refine g_aload_n (pc := 261) (j := 0) (dk d_mL_law_1 5 rfl) rfl (by decide) ?_
  refine g_iload_n (pc := 262) (j := 3) (dk d_mL_law_1 6 rfl) rfl ?_
  refine g_iconst (pc := 263) (dk d_mL_law_1 7 rfl) (by decide) ?_
  refine g_iadd (pc := 264) (dk d_mL_law_1 8 rfl) ?_
  refine g_roald (pc := 265) (q := 1) (by decide) rfl (lbnd hL hi 2 (by decide)) (dk d_mL_law_1 9 rfl) ?_
  refine g_aload_n (pc := 266) (j := 0) (dk d_mL_law_1 10 rfl) rfl (by decide) ?_
  refine g_iload_n (pc := 267) (j := 3) (dk d_mL_law_1 11 rfl) rfl ?_
  refine g_iconst (pc := 268) (dk d_mL_law_1 12 rfl) (by decide) ?_
  refine g_iadd (pc := 269) (dk d_mL_law_1 13 rfl) ?_
  refine g_roald (pc := 270) (q := 1) (by decide) rfl (lbnd hL hi 3 (by decide)) (dk d_mL_law_1 14 rfl) ?_
  refine l_callVi (d := d + 207) (pc := 271) (na := 3) (av := [pI (roV E 1 (w32 (i + 1))), pI (roV E 1 (w32 (i + 2))), pI (roV E 1 (w32 (i + 3)))]) (k0 := 0) po_0 ⟨_, rfl⟩ ⟨rfl, rfl⟩ (dk d_mL_law_1 15 rfl) lk_L_18 vm_mB_people rfl rfl (Nat.le_of_ble_eq_true rfl) hcz (kB_people E (d + 202) h1) ?_
  refine g_aload_n (pc := 274) (j := 2) (dk d_mL_law_1 16 rfl) rfl (by decide) ?_
  refine g_aload_n (pc := 275) (j := 0) (dk d_mL_law_1 17 rfl) rfl (by decide) ?_
  refine g_iload_n (pc := 276) (j := 3) (dk d_mL_law_1 18 rfl) rfl ?_
  refine g_iconst (pc := 277) (dk d_mL_law_1 19 rfl) (by decide) ?_
  refine g_iadd (pc := 278) (dk d_mL_law_1 20 rfl) ?_
  refine g_roald (pc := 279) (q := 1) (by decide) rfl (lbnd hL hi 1 (by decide)) (dk d_mL_law_1 21 rfl) ?_
  refine g_aload_n (pc := 280) (j := 0) (dk d_mL_law_1 22 rfl) rfl (by decide) ?_
  refine g_iload_n (pc := 281) (j := 3) (dk d_mL_law_1 23 rfl) rfl ?_
  refine g_iconst (pc := 282) (dk d_mL_law_1 24 rfl) (by decide) ?_
  refine g_iadd (pc := 283) (dk d_mL_law_1 25 rfl) ?_
  refine g_roald (pc := 284) (q := 1) (by decide) rfl (lbnd hL hi 2 (by decide)) (dk d_mL_law_1 26 rfl) ?_
  refine g_aload_n (pc := 285) (j := 0) (dk d_mL_law_1 27 rfl) rfl (by decide) ?_
  refine g_iload_n (pc := 286) (j := 3) (dk d_mL_law_1 28 rfl) rfl ?_
  refine g_iconst (pc := 287) (dk d_mL_law_1 29 rfl) (by decide) ?_
  refine g_iadd (pc := 288) (dk d_mL_law_1 30 rfl) ?_
  refine g_roald (pc := 289) (q := 1) (by decide) rfl (lbnd hL hi 3 (by decide)) (dk d_mL_law_1 31 rfl) ?_
  refine l_callVi (d := d + 207) (pc := 290) (na := 3) (av := [pI (roV E 1 (w32 (i + 1))), pI (roV E 1 (w32 (i + 2))), pI (roV E 1 (w32 (i + 3)))]) (k0 := 46) po_46 ⟨_, rfl⟩ ⟨rfl, rfl⟩ (dk d_mL_law_1 32 rfl) lk_L_22 vm_mR_people rfl rfl (Nat.le_of_ble_eq_true rfl) hcz (kR_people E (d + 204) h2) ?_
  exact g_icmp_eq (pc := 293) (tgt := 1645) (dk d_mL_law_1 33 rfl) rfl (fun _ => kk) (fun q => absurd rfl q)
set_option maxRecDepth 100000 in
set_option maxHeartbeats 4000000 in
theorem lc_2 (E : Nat × (Int → Int)) (d : Nat) {c z : Nat} (hL : E.1 ≤ 3072) (hE : ∀ i, I32 (E.2 i)) (hcz : c ≤ mC mL_law ∧ z ≤ mS mL_law) {Inv : WD → Prop} (ho : op0 Inv fB_mask fR_mask) {i : Int} (hi : 0 ≤ i ∧ i + 6 ≤ E.1) (w : WD) (hI : Inv w) : ∃ v, Inv v ∧ ∀ res, G E mL_law (d + 208) 1645 [(0, pR (-1)), (1, pR 0), (2, pR 46), (3, pI i)] [] v RF NN c z res → G E mL_law (d + 208) 298 [(0, pR (-1)), (1, pR 0), (2, pR 46), (3, pI i)] [] w RF NN c z res := by
  obtain ⟨r, u, v, h1, h2, h3⟩ := ho w hI
  refine ⟨v, h3, fun res kk => ?_⟩
  refine g_aload_n (pc := 298) (j := 1) (dk d_mL_law_1 36 rfl) rfl (by decide) ?_
  refine l_callVi (d := d + 207) (pc := 299) (na := 0) (av := []) (k0 := 0) po_0 ⟨_, rfl⟩ ⟨rfl, rfl⟩ (dk d_mL_law_1 37 rfl) lk_L_23 vm_mB_mask rfl rfl (Nat.le_of_ble_eq_true rfl) hcz (kB_mask E (d + 203) h1) ?_
  refine g_aload_n (pc := 302) (j := 2) (dk d_mL_law_1 38 rfl) rfl (by decide) ?_
  refine l_callVi (d := d + 207) (pc := 303) (na := 0) (av := []) (k0 := 46) po_46 ⟨_, rfl⟩ ⟨rfl, rfl⟩ (dk d_mL_law_1 39 rfl) lk_L_27 vm_mR_mask rfl rfl (Nat.le_of_ble_eq_true rfl) hcz (kR_mask E (d + 206) h2) ?_
  exact g_icmp_eq (pc := 306) (tgt := 1645) (dk d_mL_law_2 0 rfl) rfl (fun _ => kk) (fun q => absurd rfl q)
set_option maxRecDepth 100000 in
set_option maxHeartbeats 4000000 in
theorem lc_3 (E : Nat × (Int → Int)) (d : Nat) {c z : Nat} (hL : E.1 ≤ 3072) (hE : ∀ i, I32 (E.2 i)) (hcz : c ≤ mC mL_law ∧ z ≤ mS mL_law) {Inv : WD → Prop} (ho : op3 Inv fB_mend fR_mend) {i : Int} (hi : 0 ≤ i ∧ i + 6 ≤ E.1) (w : WD) (hI : Inv w) : ∃ v, Inv v ∧ ∀ res, G E mL_law (d + 208) 1645 [(0, pR (-1)), (1, pR 0), (2, pR 46), (3, pI i)] [] v RF NN c z res → G E mL_law (d + 208) 311 [(0, pR (-1)), (1, pR 0), (2, pR 46), (3, pI i)] [] w RF NN c z res := by
  obtain ⟨r, u, v, h1, h2, h3⟩ := ho (roV E 1 (w32 (i + 1))) (roV E 1 (w32 (i + 2))) (roV E 1 (w32 (i + 3))) w (lro hE _) (lro hE _) (lro hE _) hI
  refine ⟨v, h3, fun res kk => ?_⟩
  refine g_aload_n (pc := 311) (j := 1) (dk d_mL_law_2 3 rfl) rfl (by decide) ?_
  refine g_aload_n (pc := 312) (j := 0) (dk d_mL_law_2 4 rfl) rfl (by decide) ?_
  refine g_iload_n (pc := 313) (j := 3) (dk d_mL_law_2 5 rfl) rfl ?_
  refine g_iconst (pc := 314) (dk d_mL_law_2 6 rfl) (by decide) ?_
  refine g_iadd (pc := 315) (dk d_mL_law_2 7 rfl) ?_
  refine g_roald (pc := 316) (q := 1) (by decide) rfl (lbnd hL hi 1 (by decide)) (dk d_mL_law_2 8 rfl) ?_
  refine g_aload_n (pc := 317) (j := 0) (dk d_mL_law_2 9 rfl) rfl (by decide) ?_
  refine g_iload_n (pc := 318) (j := 3) (dk d_mL_law_2 10 rfl) rfl ?_
  refine g_iconst (pc := 319) (dk d_mL_law_2 11 rfl) (by decide) ?_
  refine g_iadd (pc := 320) (dk d_mL_law_2 12 rfl) ?_
  refine g_roald (pc := 321) (q := 1) (by decide) rfl (lbnd hL hi 2 (by decide)) (dk d_mL_law_2 13 rfl) ?_
  refine g_aload_n (pc := 322) (j := 0) (dk d_mL_law_2 14 rfl) rfl (by decide) ?_
  refine g_iload_n (pc := 323) (j := 3) (dk d_mL_law_2 15 rfl) rfl ?_
  refine g_iconst (pc := 324) (dk d_mL_law_2 16 rfl) (by decide) ?_
  refine g_iadd (pc := 325) (dk d_mL_law_2 17 rfl) ?_
  refine g_roald (pc := 326) (q := 1) (by decide) rfl (lbnd hL hi 3 (by decide)) (dk d_mL_law_2 18 rfl) ?_
  refine l_callVi (d := d + 207) (pc := 327) (na := 3) (av := [pI (roV E 1 (w32 (i + 1))), pI (roV E 1 (w32 (i + 2))), pI (roV E 1 (w32 (i + 3)))]) (k0 := 0) po_0 ⟨_, rfl⟩ ⟨rfl, rfl⟩ (dk d_mL_law_2 19 rfl) lk_L_28 vm_mB_mend rfl rfl (Nat.le_of_ble_eq_true rfl) hcz (kB_mend E (d + 203) h1) ?_
  refine g_aload_n (pc := 330) (j := 2) (dk d_mL_law_2 20 rfl) rfl (by decide) ?_
  refine g_aload_n (pc := 331) (j := 0) (dk d_mL_law_2 21 rfl) rfl (by decide) ?_
  refine g_iload_n (pc := 332) (j := 3) (dk d_mL_law_2 22 rfl) rfl ?_
  refine g_iconst (pc := 333) (dk d_mL_law_2 23 rfl) (by decide) ?_
  refine g_iadd (pc := 334) (dk d_mL_law_2 24 rfl) ?_
  refine g_roald (pc := 335) (q := 1) (by decide) rfl (lbnd hL hi 1 (by decide)) (dk d_mL_law_2 25 rfl) ?_
  refine g_aload_n (pc := 336) (j := 0) (dk d_mL_law_2 26 rfl) rfl (by decide) ?_
  refine g_iload_n (pc := 337) (j := 3) (dk d_mL_law_2 27 rfl) rfl ?_
  refine g_iconst (pc := 338) (dk d_mL_law_2 28 rfl) (by decide) ?_
  refine g_iadd (pc := 339) (dk d_mL_law_2 29 rfl) ?_
  refine g_roald (pc := 340) (q := 1) (by decide) rfl (lbnd hL hi 2 (by decide)) (dk d_mL_law_2 30 rfl) ?_
  refine g_aload_n (pc := 341) (j := 0) (dk d_mL_law_2 31 rfl) rfl (by decide) ?_
  refine g_iload_n (pc := 342) (j := 3) (dk d_mL_law_2 32 rfl) rfl ?_
  refine g_iconst (pc := 343) (dk d_mL_law_2 33 rfl) (by decide) ?_
  refine g_iadd (pc := 344) (dk d_mL_law_2 34 rfl) ?_
  refine g_roald (pc := 345) (q := 1) (by decide) rfl (lbnd hL hi 3 (by decide)) (dk d_mL_law_2 35 rfl) ?_
  refine l_callVi (d := d + 207) (pc := 346) (na := 3) (av := [pI (roV E 1 (w32 (i + 1))), pI (roV E 1 (w32 (i + 2))), pI (roV E 1 (w32 (i + 3)))]) (k0 := 46) po_46 ⟨_, rfl⟩ ⟨rfl, rfl⟩ (dk d_mL_law_2 36 rfl) lk_L_31 vm_mR_mend rfl rfl (Nat.le_of_ble_eq_true rfl) hcz (kR_mend E (d + 203) h2) ?_
  exact g_icmp_eq (pc := 349) (tgt := 1645) (dk d_mL_law_2 37 rfl) rfl (fun _ => kk) (fun q => absurd rfl q)
set_option maxRecDepth 100000 in
set_option maxHeartbeats 4000000 in
theorem lc_4 (E : Nat × (Int → Int)) (d : Nat) {c z : Nat} (hL : E.1 ≤ 3072) (hE : ∀ i, I32 (E.2 i)) (hcz : c ≤ mC mL_law ∧ z ≤ mS mL_law) {Inv : WD → Prop} (ho : op2 Inv fB_of fR_of) {i : Int} (hi : 0 ≤ i ∧ i + 6 ≤ E.1) (w : WD) (hI : Inv w) : ∃ v, Inv v ∧ ∀ res, G E mL_law (d + 208) 1645 [(0, pR (-1)), (1, pR 0), (2, pR 46), (3, pI i)] [] v RF NN c z res → G E mL_law (d + 208) 354 [(0, pR (-1)), (1, pR 0), (2, pR 46), (3, pI i)] [] w RF NN c z res := by
  obtain ⟨r, u, v, h1, h2, h3⟩ := ho (roV E 1 (w32 (i + 1))) (roV E 1 (w32 (i + 2))) w (lro hE _) (lro hE _) hI
  refine ⟨v, h3, fun res kk => ?_⟩
  refine g_aload_n (pc := 354) (j := 1) (dk d_mL_law_3 0 rfl) rfl (by decide) ?_
  refine g_aload_n (pc := 355) (j := 0) (dk d_mL_law_3 1 rfl) rfl (by decide) ?_
  refine g_iload_n (pc := 356) (j := 3) (dk d_mL_law_3 2 rfl) rfl ?_
  refine g_iconst (pc := 357) (dk d_mL_law_3 3 rfl) (by decide) ?_
  refine g_iadd (pc := 358) (dk d_mL_law_3 4 rfl) ?_
  refine g_roald (pc := 359) (q := 1) (by decide) rfl (lbnd hL hi 1 (by decide)) (dk d_mL_law_3 5 rfl) ?_
  refine g_aload_n (pc := 360) (j := 0) (dk d_mL_law_3 6 rfl) rfl (by decide) ?_
  refine g_iload_n (pc := 361) (j := 3) (dk d_mL_law_3 7 rfl) rfl ?_
  refine g_iconst (pc := 362) (dk d_mL_law_3 8 rfl) (by decide) ?_
  refine g_iadd (pc := 363) (dk d_mL_law_3 9 rfl) ?_
  refine g_roald (pc := 364) (q := 1) (by decide) rfl (lbnd hL hi 2 (by decide)) (dk d_mL_law_3 10 rfl) ?_
  refine l_callVi (d := d + 207) (pc := 365) (na := 2) (av := [pI (roV E 1 (w32 (i + 1))), pI (roV E 1 (w32 (i + 2)))]) (k0 := 0) po_0 ⟨_, rfl⟩ ⟨rfl, rfl⟩ (dk d_mL_law_3 11 rfl) lk_L_32 vm_mB_of rfl rfl (Nat.le_of_ble_eq_true rfl) hcz (kB_of E (d + 204) h1) ?_
  refine g_aload_n (pc := 368) (j := 2) (dk d_mL_law_3 12 rfl) rfl (by decide) ?_
  refine g_aload_n (pc := 369) (j := 0) (dk d_mL_law_3 13 rfl) rfl (by decide) ?_
  refine g_iload_n (pc := 370) (j := 3) (dk d_mL_law_3 14 rfl) rfl ?_
  refine g_iconst (pc := 371) (dk d_mL_law_3 15 rfl) (by decide) ?_
  refine g_iadd (pc := 372) (dk d_mL_law_3 16 rfl) ?_
  refine g_roald (pc := 373) (q := 1) (by decide) rfl (lbnd hL hi 1 (by decide)) (dk d_mL_law_3 17 rfl) ?_
  refine g_aload_n (pc := 374) (j := 0) (dk d_mL_law_3 18 rfl) rfl (by decide) ?_
  refine g_iload_n (pc := 375) (j := 3) (dk d_mL_law_3 19 rfl) rfl ?_
  refine g_iconst (pc := 376) (dk d_mL_law_3 20 rfl) (by decide) ?_
  refine g_iadd (pc := 377) (dk d_mL_law_3 21 rfl) ?_
  refine g_roald (pc := 378) (q := 1) (by decide) rfl (lbnd hL hi 2 (by decide)) (dk d_mL_law_3 22 rfl) ?_
  refine l_callVi (d := d + 207) (pc := 379) (na := 2) (av := [pI (roV E 1 (w32 (i + 1))), pI (roV E 1 (w32 (i + 2)))]) (k0 := 46) po_46 ⟨_, rfl⟩ ⟨rfl, rfl⟩ (dk d_mL_law_3 23 rfl) lk_L_36 vm_mR_of rfl rfl (Nat.le_of_ble_eq_true rfl) hcz (kR_of E (d + 203) h2) ?_
  exact g_icmp_eq (pc := 382) (tgt := 1645) (dk d_mL_law_3 24 rfl) rfl (fun _ => kk) (fun q => absurd rfl q)
set_option maxRecDepth 100000 in
set_option maxHeartbeats 4000000 in
theorem lc_5 (E : Nat × (Int → Int)) (d : Nat) {c z : Nat} (hL : E.1 ≤ 3072) (hE : ∀ i, I32 (E.2 i)) (hcz : c ≤ mC mL_law ∧ z ≤ mS mL_law) {Inv : WD → Prop} (ho : op1 Inv fB_feed fR_feed) {i : Int} (hi : 0 ≤ i ∧ i + 6 ≤ E.1) (w : WD) (hI : Inv w) : ∃ v, Inv v ∧ ∀ res, G E mL_law (d + 208) 1645 [(0, pR (-1)), (1, pR 0), (2, pR 46), (3, pI i)] [] v RF NN c z res → G E mL_law (d + 208) 387 [(0, pR (-1)), (1, pR 0), (2, pR 46), (3, pI i)] [] w RF NN c z res := by
  obtain ⟨r, u, v, h1, h2, h3⟩ := ho (roV E 1 (w32 (i + 1))) w (lro hE _) hI
  refine ⟨v, h3, fun res kk => ?_⟩
  refine g_aload_n (pc := 387) (j := 1) (dk d_mL_law_3 27 rfl) rfl (by decide) ?_
  refine g_aload_n (pc := 388) (j := 0) (dk d_mL_law_3 28 rfl) rfl (by decide) ?_
  refine g_iload_n (pc := 389) (j := 3) (dk d_mL_law_3 29 rfl) rfl ?_
  refine g_iconst (pc := 390) (dk d_mL_law_3 30 rfl) (by decide) ?_
  refine g_iadd (pc := 391) (dk d_mL_law_3 31 rfl) ?_
  refine g_roald (pc := 392) (q := 1) (by decide) rfl (lbnd hL hi 1 (by decide)) (dk d_mL_law_3 32 rfl) ?_
  refine l_callVi (d := d + 207) (pc := 393) (na := 1) (av := [pI (roV E 1 (w32 (i + 1)))]) (k0 := 0) po_0 ⟨_, rfl⟩ ⟨rfl, rfl⟩ (dk d_mL_law_3 33 rfl) lk_L_37 vm_mB_feed rfl rfl (Nat.le_of_ble_eq_true rfl) hcz (kB_feed E (d + 205) h1) ?_
  refine g_aload_n (pc := 396) (j := 2) (dk d_mL_law_3 34 rfl) rfl (by decide) ?_
  refine g_aload_n (pc := 397) (j := 0) (dk d_mL_law_3 35 rfl) rfl (by decide) ?_
  refine g_iload_n (pc := 398) (j := 3) (dk d_mL_law_3 36 rfl) rfl ?_
  refine g_iconst (pc := 399) (dk d_mL_law_3 37 rfl) (by decide) ?_
  refine g_iadd (pc := 400) (dk d_mL_law_3 38 rfl) ?_
  refine g_roald (pc := 401) (q := 1) (by decide) rfl (lbnd hL hi 1 (by decide)) (dk d_mL_law_3 39 rfl) ?_
  refine l_callVi (d := d + 207) (pc := 402) (na := 1) (av := [pI (roV E 1 (w32 (i + 1)))]) (k0 := 46) po_46 ⟨_, rfl⟩ ⟨rfl, rfl⟩ (dk d_mL_law_4 0 rfl) lk_L_40 vm_mR_feed rfl rfl (Nat.le_of_ble_eq_true rfl) hcz (kR_feed E (d + 205) h2) ?_
  exact g_icmp_eq (pc := 405) (tgt := 1645) (dk d_mL_law_4 1 rfl) rfl (fun _ => kk) (fun q => absurd rfl q)
set_option maxRecDepth 100000 in
set_option maxHeartbeats 4000000 in
theorem lc_6 (E : Nat × (Int → Int)) (d : Nat) {c z : Nat} (hL : E.1 ≤ 3072) (hE : ∀ i, I32 (E.2 i)) (hcz : c ≤ mC mL_law ∧ z ≤ mS mL_law) {Inv : WD → Prop} (ho : op0 Inv fB_law fR_law) {i : Int} (hi : 0 ≤ i ∧ i + 6 ≤ E.1) (w : WD) (hI : Inv w) : ∃ v, Inv v ∧ ∀ res, G E mL_law (d + 208) 1645 [(0, pR (-1)), (1, pR 0), (2, pR 46), (3, pI i)] [] v RF NN c z res → G E mL_law (d + 208) 410 [(0, pR (-1)), (1, pR 0), (2, pR 46), (3, pI i)] [] w RF NN c z res := by
  obtain ⟨r, u, v, h1, h2, h3⟩ := ho w hI
  refine ⟨v, h3, fun res kk => ?_⟩
  refine g_aload_n (pc := 410) (j := 1) (dk d_mL_law_4 4 rfl) rfl (by decide) ?_
  refine l_callVi (d := d + 207) (pc := 411) (na := 0) (av := []) (k0 := 0) po_0 ⟨_, rfl⟩ ⟨rfl, rfl⟩ (dk d_mL_law_4 5 rfl) lk_L_41 vm_mB_law rfl rfl (Nat.le_of_ble_eq_true rfl) hcz (kB_law E (d + 0) h1) ?_
  refine g_aload_n (pc := 414) (j := 2) (dk d_mL_law_4 6 rfl) rfl (by decide) ?_
  refine l_callVi (d := d + 207) (pc := 415) (na := 0) (av := []) (k0 := 46) po_46 ⟨_, rfl⟩ ⟨rfl, rfl⟩ (dk d_mL_law_4 7 rfl) lk_L_44 vm_mR_law rfl rfl (Nat.le_of_ble_eq_true rfl) hcz (kR_law E (d + 1) h2) ?_
  exact g_icmp_eq (pc := 418) (tgt := 1645) (dk d_mL_law_4 8 rfl) rfl (fun _ => kk) (fun q => absurd rfl q)
set_option maxRecDepth 100000 in
set_option maxHeartbeats 4000000 in
theorem lc_7 (E : Nat × (Int → Int)) (d : Nat) {c z : Nat} (hL : E.1 ≤ 3072) (hE : ∀ i, I32 (E.2 i)) (hcz : c ≤ mC mL_law ∧ z ≤ mS mL_law) {Inv : WD → Prop} (ho : op2 Inv fB_counts fR_counts) {i : Int} (hi : 0 ≤ i ∧ i + 6 ≤ E.1) (w : WD) (hI : Inv w) : ∃ v, Inv v ∧ ∀ res, G E mL_law (d + 208) 1645 [(0, pR (-1)), (1, pR 0), (2, pR 46), (3, pI i)] [] v RF NN c z res → G E mL_law (d + 208) 423 [(0, pR (-1)), (1, pR 0), (2, pR 46), (3, pI i)] [] w RF NN c z res := by
  obtain ⟨r, u, v, h1, h2, h3⟩ := ho (roV E 1 (w32 (i + 1))) (roV E 1 (w32 (i + 2))) w (lro hE _) (lro hE _) hI
  refine ⟨v, h3, fun res kk => ?_⟩
  refine g_aload_n (pc := 423) (j := 1) (dk d_mL_law_4 11 rfl) rfl (by decide) ?_
  refine g_aload_n (pc := 424) (j := 0) (dk d_mL_law_4 12 rfl) rfl (by decide) ?_
  refine g_iload_n (pc := 425) (j := 3) (dk d_mL_law_4 13 rfl) rfl ?_
  refine g_iconst (pc := 426) (dk d_mL_law_4 14 rfl) (by decide) ?_
  refine g_iadd (pc := 427) (dk d_mL_law_4 15 rfl) ?_
  refine g_roald (pc := 428) (q := 1) (by decide) rfl (lbnd hL hi 1 (by decide)) (dk d_mL_law_4 16 rfl) ?_
  refine g_aload_n (pc := 429) (j := 0) (dk d_mL_law_4 17 rfl) rfl (by decide) ?_
  refine g_iload_n (pc := 430) (j := 3) (dk d_mL_law_4 18 rfl) rfl ?_
  refine g_iconst (pc := 431) (dk d_mL_law_4 19 rfl) (by decide) ?_
  refine g_iadd (pc := 432) (dk d_mL_law_4 20 rfl) ?_
  refine g_roald (pc := 433) (q := 1) (by decide) rfl (lbnd hL hi 2 (by decide)) (dk d_mL_law_4 21 rfl) ?_
  refine l_callVi (d := d + 207) (pc := 434) (na := 2) (av := [pI (roV E 1 (w32 (i + 1))), pI (roV E 1 (w32 (i + 2)))]) (k0 := 0) po_0 ⟨_, rfl⟩ ⟨rfl, rfl⟩ (dk d_mL_law_4 22 rfl) lk_L_45 vm_mB_counts rfl rfl (Nat.le_of_ble_eq_true rfl) hcz (kB_counts E (d + 201) h1) ?_
  refine g_aload_n (pc := 437) (j := 2) (dk d_mL_law_4 23 rfl) rfl (by decide) ?_
  refine g_aload_n (pc := 438) (j := 0) (dk d_mL_law_4 24 rfl) rfl (by decide) ?_
  refine g_iload_n (pc := 439) (j := 3) (dk d_mL_law_4 25 rfl) rfl ?_
  refine g_iconst (pc := 440) (dk d_mL_law_4 26 rfl) (by decide) ?_
  refine g_iadd (pc := 441) (dk d_mL_law_4 27 rfl) ?_
  refine g_roald (pc := 442) (q := 1) (by decide) rfl (lbnd hL hi 1 (by decide)) (dk d_mL_law_4 28 rfl) ?_
  refine g_aload_n (pc := 443) (j := 0) (dk d_mL_law_4 29 rfl) rfl (by decide) ?_
  refine g_iload_n (pc := 444) (j := 3) (dk d_mL_law_4 30 rfl) rfl ?_
  refine g_iconst (pc := 445) (dk d_mL_law_4 31 rfl) (by decide) ?_
  refine g_iadd (pc := 446) (dk d_mL_law_4 32 rfl) ?_
  refine g_roald (pc := 447) (q := 1) (by decide) rfl (lbnd hL hi 2 (by decide)) (dk d_mL_law_4 33 rfl) ?_
  refine l_callVi (d := d + 207) (pc := 448) (na := 2) (av := [pI (roV E 1 (w32 (i + 1))), pI (roV E 1 (w32 (i + 2)))]) (k0 := 46) po_46 ⟨_, rfl⟩ ⟨rfl, rfl⟩ (dk d_mL_law_4 34 rfl) lk_L_48 vm_mR_counts rfl rfl (Nat.le_of_ble_eq_true rfl) hcz (kR_counts E (d + 202) h2) ?_
  exact g_icmp_eq (pc := 451) (tgt := 1645) (dk d_mL_law_4 35 rfl) rfl (fun _ => kk) (fun q => absurd rfl q)
set_option maxRecDepth 100000 in
set_option maxHeartbeats 4000000 in
theorem lc_8 (E : Nat × (Int → Int)) (d : Nat) {c z : Nat} (hL : E.1 ≤ 3072) (hE : ∀ i, I32 (E.2 i)) (hcz : c ≤ mC mL_law ∧ z ≤ mS mL_law) {Inv : WD → Prop} (ho : op1 Inv fB_ways fR_ways) {i : Int} (hi : 0 ≤ i ∧ i + 6 ≤ E.1) (w : WD) (hI : Inv w) : ∃ v, Inv v ∧ ∀ res, G E mL_law (d + 208) 1645 [(0, pR (-1)), (1, pR 0), (2, pR 46), (3, pI i)] [] v RF NN c z res → G E mL_law (d + 208) 456 [(0, pR (-1)), (1, pR 0), (2, pR 46), (3, pI i)] [] w RF NN c z res := by
  obtain ⟨r, u, v, h1, h2, h3⟩ := ho (roV E 1 (w32 (i + 1))) w (lro hE _) hI
  refine ⟨v, h3, fun res kk => ?_⟩
  refine g_aload_n (pc := 456) (j := 1) (dk d_mL_law_4 38 rfl) rfl (by decide) ?_
  refine g_aload_n (pc := 457) (j := 0) (dk d_mL_law_4 39 rfl) rfl (by decide) ?_
  refine g_iload_n (pc := 458) (j := 3) (dk d_mL_law_5 0 rfl) rfl ?_
  refine g_iconst (pc := 459) (dk d_mL_law_5 1 rfl) (by decide) ?_
  refine g_iadd (pc := 460) (dk d_mL_law_5 2 rfl) ?_
  refine g_roald (pc := 461) (q := 1) (by decide) rfl (lbnd hL hi 1 (by decide)) (dk d_mL_law_5 3 rfl) ?_
  refine l_callVl (d := d + 207) (pc := 462) (na := 1) (av := [pI (roV E 1 (w32 (i + 1)))]) (k0 := 0) po_0 ⟨_, rfl⟩ ⟨rfl, rfl⟩ (dk d_mL_law_5 4 rfl) lk_L_49 vm_mB_ways rfl rfl (Nat.le_of_ble_eq_true rfl) hcz (kB_ways E (d + 200) h1) ?_
  refine g_aload_n (pc := 465) (j := 2) (dk d_mL_law_5 5 rfl) rfl (by decide) ?_
  refine g_aload_n (pc := 466) (j := 0) (dk d_mL_law_5 6 rfl) rfl (by decide) ?_
  refine g_iload_n (pc := 467) (j := 3) (dk d_mL_law_5 7 rfl) rfl ?_
  refine g_iconst (pc := 468) (dk d_mL_law_5 8 rfl) (by decide) ?_
  refine g_iadd (pc := 469) (dk d_mL_law_5 9 rfl) ?_
  refine g_roald (pc := 470) (q := 1) (by decide) rfl (lbnd hL hi 1 (by decide)) (dk d_mL_law_5 10 rfl) ?_
  refine l_callVl (d := d + 207) (pc := 471) (na := 1) (av := [pI (roV E 1 (w32 (i + 1)))]) (k0 := 46) po_46 ⟨_, rfl⟩ ⟨rfl, rfl⟩ (dk d_mL_law_5 11 rfl) lk_L_53 vm_mR_ways rfl rfl (Nat.le_of_ble_eq_true rfl) hcz (kR_ways E (d + 3) h2) ?_
  exact g_lcmp_eq (pc := 474) (tgt := 1645) (dk d_mL_law_5 12 rfl) (dk d_mL_law_5 13 rfl) rfl (fun _ => kk) (fun q => absurd rfl q)
set_option maxRecDepth 100000 in
set_option maxHeartbeats 4000000 in
theorem lc_9 (E : Nat × (Int → Int)) (d : Nat) {c z : Nat} (hL : E.1 ≤ 3072) (hE : ∀ i, I32 (E.2 i)) (hcz : c ≤ mC mL_law ∧ z ≤ mS mL_law) {Inv : WD → Prop} (ho : op3 Inv fB_likely fR_likely) {i : Int} (hi : 0 ≤ i ∧ i + 6 ≤ E.1) (w : WD) (hI : Inv w) : ∃ v, Inv v ∧ ∀ res, G E mL_law (d + 208) 1645 [(0, pR (-1)), (1, pR 0), (2, pR 46), (3, pI i)] [] v RF NN c z res → G E mL_law (d + 208) 480 [(0, pR (-1)), (1, pR 0), (2, pR 46), (3, pI i)] [] w RF NN c z res := by
  obtain ⟨r, u, v, h1, h2, h3⟩ := ho (roV E 1 (w32 (i + 1))) (roV E 1 (w32 (i + 2))) (roV E 1 (w32 (i + 3))) w (lro hE _) (lro hE _) (lro hE _) hI
  refine ⟨v, h3, fun res kk => ?_⟩
  refine g_aload_n (pc := 480) (j := 1) (dk d_mL_law_5 16 rfl) rfl (by decide) ?_
  refine g_aload_n (pc := 481) (j := 0) (dk d_mL_law_5 17 rfl) rfl (by decide) ?_
  refine g_iload_n (pc := 482) (j := 3) (dk d_mL_law_5 18 rfl) rfl ?_
  refine g_iconst (pc := 483) (dk d_mL_law_5 19 rfl) (by decide) ?_
  refine g_iadd (pc := 484) (dk d_mL_law_5 20 rfl) ?_
  refine g_roald (pc := 485) (q := 1) (by decide) rfl (lbnd hL hi 1 (by decide)) (dk d_mL_law_5 21 rfl) ?_
  refine g_aload_n (pc := 486) (j := 0) (dk d_mL_law_5 22 rfl) rfl (by decide) ?_
  refine g_iload_n (pc := 487) (j := 3) (dk d_mL_law_5 23 rfl) rfl ?_
  refine g_iconst (pc := 488) (dk d_mL_law_5 24 rfl) (by decide) ?_
  refine g_iadd (pc := 489) (dk d_mL_law_5 25 rfl) ?_
  refine g_roald (pc := 490) (q := 1) (by decide) rfl (lbnd hL hi 2 (by decide)) (dk d_mL_law_5 26 rfl) ?_
  refine g_aload_n (pc := 491) (j := 0) (dk d_mL_law_5 27 rfl) rfl (by decide) ?_
  refine g_iload_n (pc := 492) (j := 3) (dk d_mL_law_5 28 rfl) rfl ?_
  refine g_iconst (pc := 493) (dk d_mL_law_5 29 rfl) (by decide) ?_
  refine g_iadd (pc := 494) (dk d_mL_law_5 30 rfl) ?_
  refine g_roald (pc := 495) (q := 1) (by decide) rfl (lbnd hL hi 3 (by decide)) (dk d_mL_law_5 31 rfl) ?_
  refine l_callVl (d := d + 207) (pc := 496) (na := 3) (av := [pI (roV E 1 (w32 (i + 1))), pI (roV E 1 (w32 (i + 2))), pI (roV E 1 (w32 (i + 3)))]) (k0 := 0) po_0 ⟨_, rfl⟩ ⟨rfl, rfl⟩ (dk d_mL_law_5 32 rfl) lk_L_54 vm_mB_likely rfl rfl (Nat.le_of_ble_eq_true rfl) hcz (kB_likely E (d + 200) h1) ?_
  refine g_aload_n (pc := 499) (j := 2) (dk d_mL_law_5 33 rfl) rfl (by decide) ?_
  refine g_aload_n (pc := 500) (j := 0) (dk d_mL_law_5 34 rfl) rfl (by decide) ?_
  refine g_iload_n (pc := 501) (j := 3) (dk d_mL_law_5 35 rfl) rfl ?_
  refine g_iconst (pc := 502) (dk d_mL_law_5 36 rfl) (by decide) ?_
  refine g_iadd (pc := 503) (dk d_mL_law_5 37 rfl) ?_
  refine g_roald (pc := 504) (q := 1) (by decide) rfl (lbnd hL hi 1 (by decide)) (dk d_mL_law_5 38 rfl) ?_
  refine g_aload_n (pc := 505) (j := 0) (dk d_mL_law_5 39 rfl) rfl (by decide) ?_
  refine g_iload_n (pc := 506) (j := 3) (dk d_mL_law_6 0 rfl) rfl ?_
  refine g_iconst (pc := 507) (dk d_mL_law_6 1 rfl) (by decide) ?_
  refine g_iadd (pc := 508) (dk d_mL_law_6 2 rfl) ?_
  refine g_roald (pc := 509) (q := 1) (by decide) rfl (lbnd hL hi 2 (by decide)) (dk d_mL_law_6 3 rfl) ?_
  refine g_aload_n (pc := 510) (j := 0) (dk d_mL_law_6 4 rfl) rfl (by decide) ?_
  refine g_iload_n (pc := 511) (j := 3) (dk d_mL_law_6 5 rfl) rfl ?_
  refine g_iconst (pc := 512) (dk d_mL_law_6 6 rfl) (by decide) ?_
  refine g_iadd (pc := 513) (dk d_mL_law_6 7 rfl) ?_
  refine g_roald (pc := 514) (q := 1) (by decide) rfl (lbnd hL hi 3 (by decide)) (dk d_mL_law_6 8 rfl) ?_
  refine l_callVl (d := d + 207) (pc := 515) (na := 3) (av := [pI (roV E 1 (w32 (i + 1))), pI (roV E 1 (w32 (i + 2))), pI (roV E 1 (w32 (i + 3)))]) (k0 := 46) po_46 ⟨_, rfl⟩ ⟨rfl, rfl⟩ (dk d_mL_law_6 9 rfl) lk_L_58 vm_mR_likely rfl rfl (Nat.le_of_ble_eq_true rfl) hcz (kR_likely E (d + 3) h2) ?_
  exact g_lcmp_eq (pc := 518) (tgt := 1645) (dk d_mL_law_6 10 rfl) (dk d_mL_law_6 11 rfl) rfl (fun _ => kk) (fun q => absurd rfl q)
set_option maxRecDepth 100000 in
set_option maxHeartbeats 4000000 in
theorem lc_10 (E : Nat × (Int → Int)) (d : Nat) {c z : Nat} (hL : E.1 ≤ 3072) (hE : ∀ i, I32 (E.2 i)) (hcz : c ≤ mC mL_law ∧ z ≤ mS mL_law) {Inv : WD → Prop} (ho : op1 Inv fB_best fR_best) {i : Int} (hi : 0 ≤ i ∧ i + 6 ≤ E.1) (w : WD) (hI : Inv w) : ∃ v, Inv v ∧ ∀ res, G E mL_law (d + 208) 1645 [(0, pR (-1)), (1, pR 0), (2, pR 46), (3, pI i)] [] v RF NN c z res → G E mL_law (d + 208) 524 [(0, pR (-1)), (1, pR 0), (2, pR 46), (3, pI i)] [] w RF NN c z res := by
  obtain ⟨r, u, v, h1, h2, h3⟩ := ho (roV E 1 (w32 (i + 1))) w (lro hE _) hI
  refine ⟨v, h3, fun res kk => ?_⟩
  refine g_aload_n (pc := 524) (j := 1) (dk d_mL_law_6 14 rfl) rfl (by decide) ?_
  refine g_aload_n (pc := 525) (j := 0) (dk d_mL_law_6 15 rfl) rfl (by decide) ?_
  refine g_iload_n (pc := 526) (j := 3) (dk d_mL_law_6 16 rfl) rfl ?_
  refine g_iconst (pc := 527) (dk d_mL_law_6 17 rfl) (by decide) ?_
  refine g_iadd (pc := 528) (dk d_mL_law_6 18 rfl) ?_
  refine g_roald (pc := 529) (q := 1) (by decide) rfl (lbnd hL hi 1 (by decide)) (dk d_mL_law_6 19 rfl) ?_
  refine l_callVl (d := d + 207) (pc := 530) (na := 1) (av := [pI (roV E 1 (w32 (i + 1)))]) (k0 := 0) po_0 ⟨_, rfl⟩ ⟨rfl, rfl⟩ (dk d_mL_law_6 20 rfl) lk_L_59 vm_mB_best rfl rfl (Nat.le_of_ble_eq_true rfl) hcz (kB_best E (d + 200) h1) ?_
  refine g_aload_n (pc := 533) (j := 2) (dk d_mL_law_6 21 rfl) rfl (by decide) ?_
  refine g_aload_n (pc := 534) (j := 0) (dk d_mL_law_6 22 rfl) rfl (by decide) ?_
  refine g_iload_n (pc := 535) (j := 3) (dk d_mL_law_6 23 rfl) rfl ?_
  refine g_iconst (pc := 536) (dk d_mL_law_6 24 rfl) (by decide) ?_
  refine g_iadd (pc := 537) (dk d_mL_law_6 25 rfl) ?_
  refine g_roald (pc := 538) (q := 1) (by decide) rfl (lbnd hL hi 1 (by decide)) (dk d_mL_law_6 26 rfl) ?_
  refine l_callVl (d := d + 207) (pc := 539) (na := 1) (av := [pI (roV E 1 (w32 (i + 1)))]) (k0 := 46) po_46 ⟨_, rfl⟩ ⟨rfl, rfl⟩ (dk d_mL_law_6 27 rfl) lk_L_62 vm_mR_best rfl rfl (Nat.le_of_ble_eq_true rfl) hcz (kR_best E (d + 3) h2) ?_
  exact g_lcmp_eq (pc := 542) (tgt := 1645) (dk d_mL_law_6 28 rfl) (dk d_mL_law_6 29 rfl) rfl (fun _ => kk) (fun q => absurd rfl q)
set_option maxRecDepth 100000 in
set_option maxHeartbeats 4000000 in
theorem lc_11 (E : Nat × (Int → Int)) (d : Nat) {c z : Nat} (hL : E.1 ≤ 3072) (hE : ∀ i, I32 (E.2 i)) (hcz : c ≤ mC mL_law ∧ z ≤ mS mL_law) {Inv : WD → Prop} (ho : op1 Inv fB_sure fR_sure) {i : Int} (hi : 0 ≤ i ∧ i + 6 ≤ E.1) (w : WD) (hI : Inv w) : ∃ v, Inv v ∧ ∀ res, G E mL_law (d + 208) 1645 [(0, pR (-1)), (1, pR 0), (2, pR 46), (3, pI i)] [] v RF NN c z res → G E mL_law (d + 208) 548 [(0, pR (-1)), (1, pR 0), (2, pR 46), (3, pI i)] [] w RF NN c z res := by
  obtain ⟨r, u, v, h1, h2, h3⟩ := ho (roV E 1 (w32 (i + 1))) w (lro hE _) hI
  refine ⟨v, h3, fun res kk => ?_⟩
  refine g_aload_n (pc := 548) (j := 1) (dk d_mL_law_6 32 rfl) rfl (by decide) ?_
  refine g_aload_n (pc := 549) (j := 0) (dk d_mL_law_6 33 rfl) rfl (by decide) ?_
  refine g_iload_n (pc := 550) (j := 3) (dk d_mL_law_6 34 rfl) rfl ?_
  refine g_iconst (pc := 551) (dk d_mL_law_6 35 rfl) (by decide) ?_
  refine g_iadd (pc := 552) (dk d_mL_law_6 36 rfl) ?_
  refine g_roald (pc := 553) (q := 1) (by decide) rfl (lbnd hL hi 1 (by decide)) (dk d_mL_law_6 37 rfl) ?_
  refine l_callVi (d := d + 207) (pc := 554) (na := 1) (av := [pI (roV E 1 (w32 (i + 1)))]) (k0 := 0) po_0 ⟨_, rfl⟩ ⟨rfl, rfl⟩ (dk d_mL_law_6 38 rfl) lk_L_63 vm_mB_sure rfl rfl (Nat.le_of_ble_eq_true rfl) hcz (kB_sure E (d + 199) h1) ?_
  refine g_aload_n (pc := 557) (j := 2) (dk d_mL_law_6 39 rfl) rfl (by decide) ?_
  refine g_aload_n (pc := 558) (j := 0) (dk d_mL_law_7 0 rfl) rfl (by decide) ?_
  refine g_iload_n (pc := 559) (j := 3) (dk d_mL_law_7 1 rfl) rfl ?_
  refine g_iconst (pc := 560) (dk d_mL_law_7 2 rfl) (by decide) ?_
  refine g_iadd (pc := 561) (dk d_mL_law_7 3 rfl) ?_
  refine g_roald (pc := 562) (q := 1) (by decide) rfl (lbnd hL hi 1 (by decide)) (dk d_mL_law_7 4 rfl) ?_
  refine l_callVi (d := d + 207) (pc := 563) (na := 1) (av := [pI (roV E 1 (w32 (i + 1)))]) (k0 := 46) po_46 ⟨_, rfl⟩ ⟨rfl, rfl⟩ (dk d_mL_law_7 5 rfl) lk_L_66 vm_mR_sure rfl rfl (Nat.le_of_ble_eq_true rfl) hcz (kR_sure E (d + 3) h2) ?_
  exact g_icmp_eq (pc := 566) (tgt := 1645) (dk d_mL_law_7 6 rfl) rfl (fun _ => kk) (fun q => absurd rfl q)
set_option maxRecDepth 100000 in
set_option maxHeartbeats 4000000 in
theorem lc_12 (E : Nat × (Int → Int)) (d : Nat) {c z : Nat} (hL : E.1 ≤ 3072) (hE : ∀ i, I32 (E.2 i)) (hcz : c ≤ mC mL_law ∧ z ≤ mS mL_law) {Inv : WD → Prop} (ho : op1 Inv fB_look fR_look) {i : Int} (hi : 0 ≤ i ∧ i + 6 ≤ E.1) (w : WD) (hI : Inv w) : ∃ v, Inv v ∧ ∀ res, G E mL_law (d + 208) 1645 [(0, pR (-1)), (1, pR 0), (2, pR 46), (3, pI i)] [] v RF NN c z res → G E mL_law (d + 208) 571 [(0, pR (-1)), (1, pR 0), (2, pR 46), (3, pI i)] [] w RF NN c z res := by
  obtain ⟨r, u, v, h1, h2, h3⟩ := ho (roV E 1 (w32 (i + 1))) w (lro hE _) hI
  refine ⟨v, h3, fun res kk => ?_⟩
  refine g_aload_n (pc := 571) (j := 1) (dk d_mL_law_7 9 rfl) rfl (by decide) ?_
  refine g_aload_n (pc := 572) (j := 0) (dk d_mL_law_7 10 rfl) rfl (by decide) ?_
  refine g_iload_n (pc := 573) (j := 3) (dk d_mL_law_7 11 rfl) rfl ?_
  refine g_iconst (pc := 574) (dk d_mL_law_7 12 rfl) (by decide) ?_
  refine g_iadd (pc := 575) (dk d_mL_law_7 13 rfl) ?_
  refine g_roald (pc := 576) (q := 1) (by decide) rfl (lbnd hL hi 1 (by decide)) (dk d_mL_law_7 14 rfl) ?_
  refine l_callVi (d := d + 207) (pc := 577) (na := 1) (av := [pI (roV E 1 (w32 (i + 1)))]) (k0 := 0) po_0 ⟨_, rfl⟩ ⟨rfl, rfl⟩ (dk d_mL_law_7 15 rfl) lk_L_67 vm_mB_look rfl rfl (Nat.le_of_ble_eq_true rfl) hcz (kB_look E (d + 200) h1) ?_
  refine g_aload_n (pc := 580) (j := 2) (dk d_mL_law_7 16 rfl) rfl (by decide) ?_
  refine g_aload_n (pc := 581) (j := 0) (dk d_mL_law_7 17 rfl) rfl (by decide) ?_
  refine g_iload_n (pc := 582) (j := 3) (dk d_mL_law_7 18 rfl) rfl ?_
  refine g_iconst (pc := 583) (dk d_mL_law_7 19 rfl) (by decide) ?_
  refine g_iadd (pc := 584) (dk d_mL_law_7 20 rfl) ?_
  refine g_roald (pc := 585) (q := 1) (by decide) rfl (lbnd hL hi 1 (by decide)) (dk d_mL_law_7 21 rfl) ?_
  refine l_callVi (d := d + 207) (pc := 586) (na := 1) (av := [pI (roV E 1 (w32 (i + 1)))]) (k0 := 46) po_46 ⟨_, rfl⟩ ⟨rfl, rfl⟩ (dk d_mL_law_7 22 rfl) lk_L_70 vm_mR_look rfl rfl (Nat.le_of_ble_eq_true rfl) hcz (kR_look E (d + 1) h2) ?_
  exact g_icmp_eq (pc := 589) (tgt := 1645) (dk d_mL_law_7 23 rfl) rfl (fun _ => kk) (fun q => absurd rfl q)
set_option maxRecDepth 100000 in
set_option maxHeartbeats 4000000 in
theorem lc_13 (E : Nat × (Int → Int)) (d : Nat) {c z : Nat} (hL : E.1 ≤ 3072) (hE : ∀ i, I32 (E.2 i)) (hcz : c ≤ mC mL_law ∧ z ≤ mS mL_law) {Inv : WD → Prop} (ho : op3 Inv fB_question fR_question) {i : Int} (hi : 0 ≤ i ∧ i + 6 ≤ E.1) (w : WD) (hI : Inv w) : ∃ v, Inv v ∧ ∀ res, G E mL_law (d + 208) 1645 [(0, pR (-1)), (1, pR 0), (2, pR 46), (3, pI i)] [] v RF NN c z res → G E mL_law (d + 208) 594 [(0, pR (-1)), (1, pR 0), (2, pR 46), (3, pI i)] [] w RF NN c z res := by
  obtain ⟨r, u, v, h1, h2, h3⟩ := ho (roV E 1 (w32 (i + 1))) (roV E 1 (w32 (i + 2))) (roV E 1 (w32 (i + 3))) w (lro hE _) (lro hE _) (lro hE _) hI
  refine ⟨v, h3, fun res kk => ?_⟩
  refine g_aload_n (pc := 594) (j := 1) (dk d_mL_law_7 26 rfl) rfl (by decide) ?_
  refine g_aload_n (pc := 595) (j := 0) (dk d_mL_law_7 27 rfl) rfl (by decide) ?_
  refine g_iload_n (pc := 596) (j := 3) (dk d_mL_law_7 28 rfl) rfl ?_
  refine g_iconst (pc := 597) (dk d_mL_law_7 29 rfl) (by decide) ?_
  refine g_iadd (pc := 598) (dk d_mL_law_7 30 rfl) ?_
  refine g_roald (pc := 599) (q := 1) (by decide) rfl (lbnd hL hi 1 (by decide)) (dk d_mL_law_7 31 rfl) ?_
  refine g_aload_n (pc := 600) (j := 0) (dk d_mL_law_7 32 rfl) rfl (by decide) ?_
  refine g_iload_n (pc := 601) (j := 3) (dk d_mL_law_7 33 rfl) rfl ?_
  refine g_iconst (pc := 602) (dk d_mL_law_7 34 rfl) (by decide) ?_
  refine g_iadd (pc := 603) (dk d_mL_law_7 35 rfl) ?_
  refine g_roald (pc := 604) (q := 1) (by decide) rfl (lbnd hL hi 2 (by decide)) (dk d_mL_law_7 36 rfl) ?_
  refine g_aload_n (pc := 605) (j := 0) (dk d_mL_law_7 37 rfl) rfl (by decide) ?_
  refine g_iload_n (pc := 606) (j := 3) (dk d_mL_law_7 38 rfl) rfl ?_
  refine g_iconst (pc := 607) (dk d_mL_law_7 39 rfl) (by decide) ?_
  refine g_iadd (pc := 608) (dk d_mL_law_8 0 rfl) ?_
  refine g_roald (pc := 609) (q := 1) (by decide) rfl (lbnd hL hi 3 (by decide)) (dk d_mL_law_8 1 rfl) ?_
  refine l_callVi (d := d + 207) (pc := 610) (na := 3) (av := [pI (roV E 1 (w32 (i + 1))), pI (roV E 1 (w32 (i + 2))), pI (roV E 1 (w32 (i + 3)))]) (k0 := 0) po_0 ⟨_, rfl⟩ ⟨rfl, rfl⟩ (dk d_mL_law_8 2 rfl) lk_L_71 vm_mB_question rfl rfl (Nat.le_of_ble_eq_true rfl) hcz (kB_question E (d + 200) h1) ?_
  refine g_aload_n (pc := 613) (j := 2) (dk d_mL_law_8 3 rfl) rfl (by decide) ?_
  refine g_aload_n (pc := 614) (j := 0) (dk d_mL_law_8 4 rfl) rfl (by decide) ?_
  refine g_iload_n (pc := 615) (j := 3) (dk d_mL_law_8 5 rfl) rfl ?_
  refine g_iconst (pc := 616) (dk d_mL_law_8 6 rfl) (by decide) ?_
  refine g_iadd (pc := 617) (dk d_mL_law_8 7 rfl) ?_
  refine g_roald (pc := 618) (q := 1) (by decide) rfl (lbnd hL hi 1 (by decide)) (dk d_mL_law_8 8 rfl) ?_
  refine g_aload_n (pc := 619) (j := 0) (dk d_mL_law_8 9 rfl) rfl (by decide) ?_
  refine g_iload_n (pc := 620) (j := 3) (dk d_mL_law_8 10 rfl) rfl ?_
  refine g_iconst (pc := 621) (dk d_mL_law_8 11 rfl) (by decide) ?_
  refine g_iadd (pc := 622) (dk d_mL_law_8 12 rfl) ?_
  refine g_roald (pc := 623) (q := 1) (by decide) rfl (lbnd hL hi 2 (by decide)) (dk d_mL_law_8 13 rfl) ?_
  refine g_aload_n (pc := 624) (j := 0) (dk d_mL_law_8 14 rfl) rfl (by decide) ?_
  refine g_iload_n (pc := 625) (j := 3) (dk d_mL_law_8 15 rfl) rfl ?_
  refine g_iconst (pc := 626) (dk d_mL_law_8 16 rfl) (by decide) ?_
  refine g_iadd (pc := 627) (dk d_mL_law_8 17 rfl) ?_
  refine g_roald (pc := 628) (q := 1) (by decide) rfl (lbnd hL hi 3 (by decide)) (dk d_mL_law_8 18 rfl) ?_
  refine l_callVi (d := d + 207) (pc := 629) (na := 3) (av := [pI (roV E 1 (w32 (i + 1))), pI (roV E 1 (w32 (i + 2))), pI (roV E 1 (w32 (i + 3)))]) (k0 := 46) po_46 ⟨_, rfl⟩ ⟨rfl, rfl⟩ (dk d_mL_law_8 19 rfl) lk_L_74 vm_mR_question rfl rfl (Nat.le_of_ble_eq_true rfl) hcz (kR_question E (d + 1) h2) ?_
  exact g_icmp_eq (pc := 632) (tgt := 1645) (dk d_mL_law_8 20 rfl) rfl (fun _ => kk) (fun q => absurd rfl q)
set_option maxRecDepth 100000 in
set_option maxHeartbeats 4000000 in
theorem lc_14 (E : Nat × (Int → Int)) (d : Nat) {c z : Nat} (hL : E.1 ≤ 3072) (hE : ∀ i, I32 (E.2 i)) (hcz : c ≤ mC mL_law ∧ z ≤ mS mL_law) {Inv : WD → Prop} (ho : op1 Inv fB_whom fR_whom) {i : Int} (hi : 0 ≤ i ∧ i + 6 ≤ E.1) (w : WD) (hI : Inv w) : ∃ v, Inv v ∧ ∀ res, G E mL_law (d + 208) 1645 [(0, pR (-1)), (1, pR 0), (2, pR 46), (3, pI i)] [] v RF NN c z res → G E mL_law (d + 208) 637 [(0, pR (-1)), (1, pR 0), (2, pR 46), (3, pI i)] [] w RF NN c z res := by
  obtain ⟨r, u, v, h1, h2, h3⟩ := ho (roV E 1 (w32 (i + 1))) w (lro hE _) hI
  refine ⟨v, h3, fun res kk => ?_⟩
  refine g_aload_n (pc := 637) (j := 1) (dk d_mL_law_8 23 rfl) rfl (by decide) ?_
  refine g_aload_n (pc := 638) (j := 0) (dk d_mL_law_8 24 rfl) rfl (by decide) ?_
  refine g_iload_n (pc := 639) (j := 3) (dk d_mL_law_8 25 rfl) rfl ?_
  refine g_iconst (pc := 640) (dk d_mL_law_8 26 rfl) (by decide) ?_
  refine g_iadd (pc := 641) (dk d_mL_law_8 27 rfl) ?_
  refine g_roald (pc := 642) (q := 1) (by decide) rfl (lbnd hL hi 1 (by decide)) (dk d_mL_law_8 28 rfl) ?_
  refine l_callVi (d := d + 207) (pc := 643) (na := 1) (av := [pI (roV E 1 (w32 (i + 1)))]) (k0 := 0) po_0 ⟨_, rfl⟩ ⟨rfl, rfl⟩ (dk d_mL_law_8 29 rfl) lk_L_75 vm_mB_whom rfl rfl (Nat.le_of_ble_eq_true rfl) hcz (kB_whom E (d + 200) h1) ?_
  refine g_aload_n (pc := 646) (j := 2) (dk d_mL_law_8 30 rfl) rfl (by decide) ?_
  refine g_aload_n (pc := 647) (j := 0) (dk d_mL_law_8 31 rfl) rfl (by decide) ?_
  refine g_iload_n (pc := 648) (j := 3) (dk d_mL_law_8 32 rfl) rfl ?_
  refine g_iconst (pc := 649) (dk d_mL_law_8 33 rfl) (by decide) ?_
  refine g_iadd (pc := 650) (dk d_mL_law_8 34 rfl) ?_
  refine g_roald (pc := 651) (q := 1) (by decide) rfl (lbnd hL hi 1 (by decide)) (dk d_mL_law_8 35 rfl) ?_
  refine l_callVi (d := d + 207) (pc := 652) (na := 1) (av := [pI (roV E 1 (w32 (i + 1)))]) (k0 := 46) po_46 ⟨_, rfl⟩ ⟨rfl, rfl⟩ (dk d_mL_law_8 36 rfl) lk_L_78 vm_mR_whom rfl rfl (Nat.le_of_ble_eq_true rfl) hcz (kR_whom E (d + 1) h2) ?_
  exact g_icmp_eq (pc := 655) (tgt := 1645) (dk d_mL_law_8 37 rfl) rfl (fun _ => kk) (fun q => absurd rfl q)
set_option maxRecDepth 100000 in
set_option maxHeartbeats 4000000 in
theorem lc_15 (E : Nat × (Int → Int)) (d : Nat) {c z : Nat} (hL : E.1 ≤ 3072) (hE : ∀ i, I32 (E.2 i)) (hcz : c ≤ mC mL_law ∧ z ≤ mS mL_law) {Inv : WD → Prop} (ho : op3 Inv fB_guess fR_guess) {i : Int} (hi : 0 ≤ i ∧ i + 6 ≤ E.1) (w : WD) (hI : Inv w) : ∃ v, Inv v ∧ ∀ res, G E mL_law (d + 208) 1645 [(0, pR (-1)), (1, pR 0), (2, pR 46), (3, pI i)] [] v RF NN c z res → G E mL_law (d + 208) 660 [(0, pR (-1)), (1, pR 0), (2, pR 46), (3, pI i)] [] w RF NN c z res := by
  obtain ⟨r, u, v, h1, h2, h3⟩ := ho (roV E 1 (w32 (i + 1))) (roV E 1 (w32 (i + 2))) (roV E 1 (w32 (i + 3))) w (lro hE _) (lro hE _) (lro hE _) hI
  refine ⟨v, h3, fun res kk => ?_⟩
  refine g_aload_n (pc := 660) (j := 1) (dk d_mL_law_9 0 rfl) rfl (by decide) ?_
  refine g_aload_n (pc := 661) (j := 0) (dk d_mL_law_9 1 rfl) rfl (by decide) ?_
  refine g_iload_n (pc := 662) (j := 3) (dk d_mL_law_9 2 rfl) rfl ?_
  refine g_iconst (pc := 663) (dk d_mL_law_9 3 rfl) (by decide) ?_
  refine g_iadd (pc := 664) (dk d_mL_law_9 4 rfl) ?_
  refine g_roald (pc := 665) (q := 1) (by decide) rfl (lbnd hL hi 1 (by decide)) (dk d_mL_law_9 5 rfl) ?_
  refine g_aload_n (pc := 666) (j := 0) (dk d_mL_law_9 6 rfl) rfl (by decide) ?_
  refine g_iload_n (pc := 667) (j := 3) (dk d_mL_law_9 7 rfl) rfl ?_
  refine g_iconst (pc := 668) (dk d_mL_law_9 8 rfl) (by decide) ?_
  refine g_iadd (pc := 669) (dk d_mL_law_9 9 rfl) ?_
  refine g_roald (pc := 670) (q := 1) (by decide) rfl (lbnd hL hi 2 (by decide)) (dk d_mL_law_9 10 rfl) ?_
  refine g_aload_n (pc := 671) (j := 0) (dk d_mL_law_9 11 rfl) rfl (by decide) ?_
  refine g_iload_n (pc := 672) (j := 3) (dk d_mL_law_9 12 rfl) rfl ?_
  refine g_iconst (pc := 673) (dk d_mL_law_9 13 rfl) (by decide) ?_
  refine g_iadd (pc := 674) (dk d_mL_law_9 14 rfl) ?_
  refine g_roald (pc := 675) (q := 1) (by decide) rfl (lbnd hL hi 3 (by decide)) (dk d_mL_law_9 15 rfl) ?_
  refine l_callVi (d := d + 207) (pc := 676) (na := 3) (av := [pI (roV E 1 (w32 (i + 1))), pI (roV E 1 (w32 (i + 2))), pI (roV E 1 (w32 (i + 3)))]) (k0 := 0) po_0 ⟨_, rfl⟩ ⟨rfl, rfl⟩ (dk d_mL_law_9 16 rfl) lk_L_79 vm_mB_guess rfl rfl (Nat.le_of_ble_eq_true rfl) hcz (kB_guess E (d + 199) h1) ?_
  refine g_aload_n (pc := 679) (j := 2) (dk d_mL_law_9 17 rfl) rfl (by decide) ?_
  refine g_aload_n (pc := 680) (j := 0) (dk d_mL_law_9 18 rfl) rfl (by decide) ?_
  refine g_iload_n (pc := 681) (j := 3) (dk d_mL_law_9 19 rfl) rfl ?_
  refine g_iconst (pc := 682) (dk d_mL_law_9 20 rfl) (by decide) ?_
  refine g_iadd (pc := 683) (dk d_mL_law_9 21 rfl) ?_
  refine g_roald (pc := 684) (q := 1) (by decide) rfl (lbnd hL hi 1 (by decide)) (dk d_mL_law_9 22 rfl) ?_
  refine g_aload_n (pc := 685) (j := 0) (dk d_mL_law_9 23 rfl) rfl (by decide) ?_
  refine g_iload_n (pc := 686) (j := 3) (dk d_mL_law_9 24 rfl) rfl ?_
  refine g_iconst (pc := 687) (dk d_mL_law_9 25 rfl) (by decide) ?_
  refine g_iadd (pc := 688) (dk d_mL_law_9 26 rfl) ?_
  refine g_roald (pc := 689) (q := 1) (by decide) rfl (lbnd hL hi 2 (by decide)) (dk d_mL_law_9 27 rfl) ?_
  refine g_aload_n (pc := 690) (j := 0) (dk d_mL_law_9 28 rfl) rfl (by decide) ?_
  refine g_iload_n (pc := 691) (j := 3) (dk d_mL_law_9 29 rfl) rfl ?_
  refine g_iconst (pc := 692) (dk d_mL_law_9 30 rfl) (by decide) ?_
  refine g_iadd (pc := 693) (dk d_mL_law_9 31 rfl) ?_
  refine g_roald (pc := 694) (q := 1) (by decide) rfl (lbnd hL hi 3 (by decide)) (dk d_mL_law_9 32 rfl) ?_
  refine l_callVi (d := d + 207) (pc := 695) (na := 3) (av := [pI (roV E 1 (w32 (i + 1))), pI (roV E 1 (w32 (i + 2))), pI (roV E 1 (w32 (i + 3)))]) (k0 := 46) po_46 ⟨_, rfl⟩ ⟨rfl, rfl⟩ (dk d_mL_law_9 33 rfl) lk_L_82 vm_mR_guess rfl rfl (Nat.le_of_ble_eq_true rfl) hcz (kR_guess E (d + 3) h2) ?_
  exact g_icmp_eq (pc := 698) (tgt := 1645) (dk d_mL_law_9 34 rfl) rfl (fun _ => kk) (fun q => absurd rfl q)
set_option maxRecDepth 100000 in
set_option maxHeartbeats 4000000 in
theorem lc_16 (E : Nat × (Int → Int)) (d : Nat) {c z : Nat} (hL : E.1 ≤ 3072) (hE : ∀ i, I32 (E.2 i)) (hcz : c ≤ mC mL_law ∧ z ≤ mS mL_law) {Inv : WD → Prop} (ho : op2 Inv fB_lacks fR_lacks) {i : Int} (hi : 0 ≤ i ∧ i + 6 ≤ E.1) (w : WD) (hI : Inv w) : ∃ v, Inv v ∧ ∀ res, G E mL_law (d + 208) 1645 [(0, pR (-1)), (1, pR 0), (2, pR 46), (3, pI i)] [] v RF NN c z res → G E mL_law (d + 208) 703 [(0, pR (-1)), (1, pR 0), (2, pR 46), (3, pI i)] [] w RF NN c z res := by
  obtain ⟨r, u, v, h1, h2, h3⟩ := ho (roV E 1 (w32 (i + 1))) (roV E 1 (w32 (i + 2))) w (lro hE _) (lro hE _) hI
  refine ⟨v, h3, fun res kk => ?_⟩
  refine g_aload_n (pc := 703) (j := 1) (dk d_mL_law_9 37 rfl) rfl (by decide) ?_
  refine g_aload_n (pc := 704) (j := 0) (dk d_mL_law_9 38 rfl) rfl (by decide) ?_
  refine g_iload_n (pc := 705) (j := 3) (dk d_mL_law_9 39 rfl) rfl ?_
  refine g_iconst (pc := 706) (dk d_mL_law_10 0 rfl) (by decide) ?_
  refine g_iadd (pc := 707) (dk d_mL_law_10 1 rfl) ?_
  refine g_roald (pc := 708) (q := 1) (by decide) rfl (lbnd hL hi 1 (by decide)) (dk d_mL_law_10 2 rfl) ?_
  refine g_aload_n (pc := 709) (j := 0) (dk d_mL_law_10 3 rfl) rfl (by decide) ?_
  refine g_iload_n (pc := 710) (j := 3) (dk d_mL_law_10 4 rfl) rfl ?_
  refine g_iconst (pc := 711) (dk d_mL_law_10 5 rfl) (by decide) ?_
  refine g_iadd (pc := 712) (dk d_mL_law_10 6 rfl) ?_
  refine g_roald (pc := 713) (q := 1) (by decide) rfl (lbnd hL hi 2 (by decide)) (dk d_mL_law_10 7 rfl) ?_
  refine l_callVi (d := d + 207) (pc := 714) (na := 2) (av := [pI (roV E 1 (w32 (i + 1))), pI (roV E 1 (w32 (i + 2)))]) (k0 := 0) po_0 ⟨_, rfl⟩ ⟨rfl, rfl⟩ (dk d_mL_law_10 8 rfl) lk_L_83 vm_mB_lacks rfl rfl (Nat.le_of_ble_eq_true rfl) hcz (kB_lacks E (d + 200) h1) ?_
  refine g_aload_n (pc := 717) (j := 2) (dk d_mL_law_10 9 rfl) rfl (by decide) ?_
  refine g_aload_n (pc := 718) (j := 0) (dk d_mL_law_10 10 rfl) rfl (by decide) ?_
  refine g_iload_n (pc := 719) (j := 3) (dk d_mL_law_10 11 rfl) rfl ?_
  refine g_iconst (pc := 720) (dk d_mL_law_10 12 rfl) (by decide) ?_
  refine g_iadd (pc := 721) (dk d_mL_law_10 13 rfl) ?_
  refine g_roald (pc := 722) (q := 1) (by decide) rfl (lbnd hL hi 1 (by decide)) (dk d_mL_law_10 14 rfl) ?_
  refine g_aload_n (pc := 723) (j := 0) (dk d_mL_law_10 15 rfl) rfl (by decide) ?_
  refine g_iload_n (pc := 724) (j := 3) (dk d_mL_law_10 16 rfl) rfl ?_
  refine g_iconst (pc := 725) (dk d_mL_law_10 17 rfl) (by decide) ?_
  refine g_iadd (pc := 726) (dk d_mL_law_10 18 rfl) ?_
  refine g_roald (pc := 727) (q := 1) (by decide) rfl (lbnd hL hi 2 (by decide)) (dk d_mL_law_10 19 rfl) ?_
  refine l_callVi (d := d + 207) (pc := 728) (na := 2) (av := [pI (roV E 1 (w32 (i + 1))), pI (roV E 1 (w32 (i + 2)))]) (k0 := 46) po_46 ⟨_, rfl⟩ ⟨rfl, rfl⟩ (dk d_mL_law_10 20 rfl) lk_L_86 vm_mR_lacks rfl rfl (Nat.le_of_ble_eq_true rfl) hcz (kR_lacks E (d + 3) h2) ?_
  exact g_icmp_eq (pc := 731) (tgt := 1645) (dk d_mL_law_10 21 rfl) rfl (fun _ => kk) (fun q => absurd rfl q)
set_option maxRecDepth 100000 in
set_option maxHeartbeats 4000000 in
theorem lc_17 (E : Nat × (Int → Int)) (d : Nat) {c z : Nat} (hL : E.1 ≤ 3072) (hE : ∀ i, I32 (E.2 i)) (hcz : c ≤ mC mL_law ∧ z ≤ mS mL_law) {Inv : WD → Prop} (ho : op1 Inv fB_parts fR_parts) {i : Int} (hi : 0 ≤ i ∧ i + 6 ≤ E.1) (w : WD) (hI : Inv w) : ∃ v, Inv v ∧ ∀ res, G E mL_law (d + 208) 1645 [(0, pR (-1)), (1, pR 0), (2, pR 46), (3, pI i)] [] v RF NN c z res → G E mL_law (d + 208) 736 [(0, pR (-1)), (1, pR 0), (2, pR 46), (3, pI i)] [] w RF NN c z res := by
  obtain ⟨r, u, v, h1, h2, h3⟩ := ho (roV E 1 (w32 (i + 1))) w (lro hE _) hI
  refine ⟨v, h3, fun res kk => ?_⟩
  refine g_aload_n (pc := 736) (j := 1) (dk d_mL_law_10 24 rfl) rfl (by decide) ?_
  refine g_aload_n (pc := 737) (j := 0) (dk d_mL_law_10 25 rfl) rfl (by decide) ?_
  refine g_iload_n (pc := 738) (j := 3) (dk d_mL_law_10 26 rfl) rfl ?_
  refine g_iconst (pc := 739) (dk d_mL_law_10 27 rfl) (by decide) ?_
  refine g_iadd (pc := 740) (dk d_mL_law_10 28 rfl) ?_
  refine g_roald (pc := 741) (q := 1) (by decide) rfl (lbnd hL hi 1 (by decide)) (dk d_mL_law_10 29 rfl) ?_
  refine l_callVi (d := d + 207) (pc := 742) (na := 1) (av := [pI (roV E 1 (w32 (i + 1)))]) (k0 := 0) po_0 ⟨_, rfl⟩ ⟨rfl, rfl⟩ (dk d_mL_law_10 30 rfl) lk_L_87 vm_mB_parts rfl rfl (Nat.le_of_ble_eq_true rfl) hcz (kB_parts E (d + 202) h1) ?_
  refine g_aload_n (pc := 745) (j := 2) (dk d_mL_law_10 31 rfl) rfl (by decide) ?_
  refine g_aload_n (pc := 746) (j := 0) (dk d_mL_law_10 32 rfl) rfl (by decide) ?_
  refine g_iload_n (pc := 747) (j := 3) (dk d_mL_law_10 33 rfl) rfl ?_
  refine g_iconst (pc := 748) (dk d_mL_law_10 34 rfl) (by decide) ?_
  refine g_iadd (pc := 749) (dk d_mL_law_10 35 rfl) ?_
  refine g_roald (pc := 750) (q := 1) (by decide) rfl (lbnd hL hi 1 (by decide)) (dk d_mL_law_10 36 rfl) ?_
  refine l_callVi (d := d + 207) (pc := 751) (na := 1) (av := [pI (roV E 1 (w32 (i + 1)))]) (k0 := 46) po_46 ⟨_, rfl⟩ ⟨rfl, rfl⟩ (dk d_mL_law_10 37 rfl) lk_L_90 vm_mR_parts rfl rfl (Nat.le_of_ble_eq_true rfl) hcz (kR_parts E (d + 204) h2) ?_
  exact g_icmp_eq (pc := 754) (tgt := 1645) (dk d_mL_law_10 38 rfl) rfl (fun _ => kk) (fun q => absurd rfl q)
set_option maxRecDepth 100000 in
set_option maxHeartbeats 4000000 in
theorem lc_18 (E : Nat × (Int → Int)) (d : Nat) {c z : Nat} (hL : E.1 ≤ 3072) (hE : ∀ i, I32 (E.2 i)) (hcz : c ≤ mC mL_law ∧ z ≤ mS mL_law) {Inv : WD → Prop} (ho : op2 Inv fB_truth fR_truth) {i : Int} (hi : 0 ≤ i ∧ i + 6 ≤ E.1) (w : WD) (hI : Inv w) : ∃ v, Inv v ∧ ∀ res, G E mL_law (d + 208) 1645 [(0, pR (-1)), (1, pR 0), (2, pR 46), (3, pI i)] [] v RF NN c z res → G E mL_law (d + 208) 759 [(0, pR (-1)), (1, pR 0), (2, pR 46), (3, pI i)] [] w RF NN c z res := by
  obtain ⟨r, u, v, h1, h2, h3⟩ := ho (roV E 1 (w32 (i + 1))) (roV E 1 (w32 (i + 2))) w (lro hE _) (lro hE _) hI
  refine ⟨v, h3, fun res kk => ?_⟩
  refine g_aload_n (pc := 759) (j := 1) (dk d_mL_law_11 1 rfl) rfl (by decide) ?_
  refine g_aload_n (pc := 760) (j := 0) (dk d_mL_law_11 2 rfl) rfl (by decide) ?_
  refine g_iload_n (pc := 761) (j := 3) (dk d_mL_law_11 3 rfl) rfl ?_
  refine g_iconst (pc := 762) (dk d_mL_law_11 4 rfl) (by decide) ?_
  refine g_iadd (pc := 763) (dk d_mL_law_11 5 rfl) ?_
  refine g_roald (pc := 764) (q := 1) (by decide) rfl (lbnd hL hi 1 (by decide)) (dk d_mL_law_11 6 rfl) ?_
  refine g_aload_n (pc := 765) (j := 0) (dk d_mL_law_11 7 rfl) rfl (by decide) ?_
  refine g_iload_n (pc := 766) (j := 3) (dk d_mL_law_11 8 rfl) rfl ?_
  refine g_iconst (pc := 767) (dk d_mL_law_11 9 rfl) (by decide) ?_
  refine g_iadd (pc := 768) (dk d_mL_law_11 10 rfl) ?_
  refine g_roald (pc := 769) (q := 1) (by decide) rfl (lbnd hL hi 2 (by decide)) (dk d_mL_law_11 11 rfl) ?_
  refine l_callVl (d := d + 207) (pc := 770) (na := 2) (av := [pI (roV E 1 (w32 (i + 1))), pI (roV E 1 (w32 (i + 2)))]) (k0 := 0) po_0 ⟨_, rfl⟩ ⟨rfl, rfl⟩ (dk d_mL_law_11 12 rfl) lk_L_91 vm_mB_truth rfl rfl (Nat.le_of_ble_eq_true rfl) hcz (kB_truth E (d + 200) h1) ?_
  refine g_aload_n (pc := 773) (j := 2) (dk d_mL_law_11 13 rfl) rfl (by decide) ?_
  refine g_aload_n (pc := 774) (j := 0) (dk d_mL_law_11 14 rfl) rfl (by decide) ?_
  refine g_iload_n (pc := 775) (j := 3) (dk d_mL_law_11 15 rfl) rfl ?_
  refine g_iconst (pc := 776) (dk d_mL_law_11 16 rfl) (by decide) ?_
  refine g_iadd (pc := 777) (dk d_mL_law_11 17 rfl) ?_
  refine g_roald (pc := 778) (q := 1) (by decide) rfl (lbnd hL hi 1 (by decide)) (dk d_mL_law_11 18 rfl) ?_
  refine g_aload_n (pc := 779) (j := 0) (dk d_mL_law_11 19 rfl) rfl (by decide) ?_
  refine g_iload_n (pc := 780) (j := 3) (dk d_mL_law_11 20 rfl) rfl ?_
  refine g_iconst (pc := 781) (dk d_mL_law_11 21 rfl) (by decide) ?_
  refine g_iadd (pc := 782) (dk d_mL_law_11 22 rfl) ?_
  refine g_roald (pc := 783) (q := 1) (by decide) rfl (lbnd hL hi 2 (by decide)) (dk d_mL_law_11 23 rfl) ?_
  refine l_callVl (d := d + 207) (pc := 784) (na := 2) (av := [pI (roV E 1 (w32 (i + 1))), pI (roV E 1 (w32 (i + 2)))]) (k0 := 46) po_46 ⟨_, rfl⟩ ⟨rfl, rfl⟩ (dk d_mL_law_11 24 rfl) lk_L_95 vm_mR_truth rfl rfl (Nat.le_of_ble_eq_true rfl) hcz (kR_truth E (d + 2) h2) ?_
  exact g_lcmp_eq (pc := 787) (tgt := 1645) (dk d_mL_law_11 25 rfl) (dk d_mL_law_11 26 rfl) rfl (fun _ => kk) (fun q => absurd rfl q)
set_option maxRecDepth 100000 in
set_option maxHeartbeats 4000000 in
theorem lc_19 (E : Nat × (Int → Int)) (d : Nat) {c z : Nat} (hL : E.1 ≤ 3072) (hE : ∀ i, I32 (E.2 i)) (hcz : c ≤ mC mL_law ∧ z ≤ mS mL_law) {Inv : WD → Prop} (ho : op3 Inv fB_feign fR_feign) {i : Int} (hi : 0 ≤ i ∧ i + 6 ≤ E.1) (w : WD) (hI : Inv w) : ∃ v, Inv v ∧ ∀ res, G E mL_law (d + 208) 1645 [(0, pR (-1)), (1, pR 0), (2, pR 46), (3, pI i)] [] v RF NN c z res → G E mL_law (d + 208) 793 [(0, pR (-1)), (1, pR 0), (2, pR 46), (3, pI i)] [] w RF NN c z res := by
  obtain ⟨r, u, v, h1, h2, h3⟩ := ho (roV E 1 (w32 (i + 1))) (roV E 1 (w32 (i + 2))) (roV E 1 (w32 (i + 3))) w (lro hE _) (lro hE _) (lro hE _) hI
  refine ⟨v, h3, fun res kk => ?_⟩
  refine g_aload_n (pc := 793) (j := 1) (dk d_mL_law_11 29 rfl) rfl (by decide) ?_
  refine g_aload_n (pc := 794) (j := 0) (dk d_mL_law_11 30 rfl) rfl (by decide) ?_
  refine g_iload_n (pc := 795) (j := 3) (dk d_mL_law_11 31 rfl) rfl ?_
  refine g_iconst (pc := 796) (dk d_mL_law_11 32 rfl) (by decide) ?_
  refine g_iadd (pc := 797) (dk d_mL_law_11 33 rfl) ?_
  refine g_roald (pc := 798) (q := 1) (by decide) rfl (lbnd hL hi 1 (by decide)) (dk d_mL_law_11 34 rfl) ?_
  refine g_aload_n (pc := 799) (j := 0) (dk d_mL_law_11 35 rfl) rfl (by decide) ?_
  refine g_iload_n (pc := 800) (j := 3) (dk d_mL_law_11 36 rfl) rfl ?_
  refine g_iconst (pc := 801) (dk d_mL_law_11 37 rfl) (by decide) ?_
  refine g_iadd (pc := 802) (dk d_mL_law_11 38 rfl) ?_
  refine g_roald (pc := 803) (q := 1) (by decide) rfl (lbnd hL hi 2 (by decide)) (dk d_mL_law_11 39 rfl) ?_
  refine g_aload_n (pc := 804) (j := 0) (dk d_mL_law_12 0 rfl) rfl (by decide) ?_
  refine g_iload_n (pc := 805) (j := 3) (dk d_mL_law_12 1 rfl) rfl ?_
  refine g_iconst (pc := 806) (dk d_mL_law_12 2 rfl) (by decide) ?_
  refine g_iadd (pc := 807) (dk d_mL_law_12 3 rfl) ?_
  refine g_roald (pc := 808) (q := 1) (by decide) rfl (lbnd hL hi 3 (by decide)) (dk d_mL_law_12 4 rfl) ?_
  refine l_callVi (d := d + 207) (pc := 809) (na := 3) (av := [pI (roV E 1 (w32 (i + 1))), pI (roV E 1 (w32 (i + 2))), pI (roV E 1 (w32 (i + 3)))]) (k0 := 0) po_0 ⟨_, rfl⟩ ⟨rfl, rfl⟩ (dk d_mL_law_12 5 rfl) lk_L_96 vm_mB_feign rfl rfl (Nat.le_of_ble_eq_true rfl) hcz (kB_feign E (d + 200) h1) ?_
  refine g_aload_n (pc := 812) (j := 2) (dk d_mL_law_12 6 rfl) rfl (by decide) ?_
  refine g_aload_n (pc := 813) (j := 0) (dk d_mL_law_12 7 rfl) rfl (by decide) ?_
  refine g_iload_n (pc := 814) (j := 3) (dk d_mL_law_12 8 rfl) rfl ?_
  refine g_iconst (pc := 815) (dk d_mL_law_12 9 rfl) (by decide) ?_
  refine g_iadd (pc := 816) (dk d_mL_law_12 10 rfl) ?_
  refine g_roald (pc := 817) (q := 1) (by decide) rfl (lbnd hL hi 1 (by decide)) (dk d_mL_law_12 11 rfl) ?_
  refine g_aload_n (pc := 818) (j := 0) (dk d_mL_law_12 12 rfl) rfl (by decide) ?_
  refine g_iload_n (pc := 819) (j := 3) (dk d_mL_law_12 13 rfl) rfl ?_
  refine g_iconst (pc := 820) (dk d_mL_law_12 14 rfl) (by decide) ?_
  refine g_iadd (pc := 821) (dk d_mL_law_12 15 rfl) ?_
  refine g_roald (pc := 822) (q := 1) (by decide) rfl (lbnd hL hi 2 (by decide)) (dk d_mL_law_12 16 rfl) ?_
  refine g_aload_n (pc := 823) (j := 0) (dk d_mL_law_12 17 rfl) rfl (by decide) ?_
  refine g_iload_n (pc := 824) (j := 3) (dk d_mL_law_12 18 rfl) rfl ?_
  refine g_iconst (pc := 825) (dk d_mL_law_12 19 rfl) (by decide) ?_
  refine g_iadd (pc := 826) (dk d_mL_law_12 20 rfl) ?_
  refine g_roald (pc := 827) (q := 1) (by decide) rfl (lbnd hL hi 3 (by decide)) (dk d_mL_law_12 21 rfl) ?_
  refine l_callVi (d := d + 207) (pc := 828) (na := 3) (av := [pI (roV E 1 (w32 (i + 1))), pI (roV E 1 (w32 (i + 2))), pI (roV E 1 (w32 (i + 3)))]) (k0 := 46) po_46 ⟨_, rfl⟩ ⟨rfl, rfl⟩ (dk d_mL_law_12 22 rfl) lk_L_99 vm_mR_feign rfl rfl (Nat.le_of_ble_eq_true rfl) hcz (kR_feign E (d + 2) h2) ?_
  exact g_icmp_eq (pc := 831) (tgt := 1645) (dk d_mL_law_12 23 rfl) rfl (fun _ => kk) (fun q => absurd rfl q)
set_option maxRecDepth 100000 in
set_option maxHeartbeats 4000000 in
theorem lc_20 (E : Nat × (Int → Int)) (d : Nat) {c z : Nat} (hL : E.1 ≤ 3072) (hE : ∀ i, I32 (E.2 i)) (hcz : c ≤ mC mL_law ∧ z ≤ mS mL_law) {Inv : WD → Prop} (ho : op1 Inv fB_change fR_change) {i : Int} (hi : 0 ≤ i ∧ i + 6 ≤ E.1) (w : WD) (hI : Inv w) : ∃ v, Inv v ∧ ∀ res, G E mL_law (d + 208) 1645 [(0, pR (-1)), (1, pR 0), (2, pR 46), (3, pI i)] [] v RF NN c z res → G E mL_law (d + 208) 836 [(0, pR (-1)), (1, pR 0), (2, pR 46), (3, pI i)] [] w RF NN c z res := by
  obtain ⟨r, u, v, h1, h2, h3⟩ := ho (roV E 1 (w32 (i + 1))) w (lro hE _) hI
  refine ⟨v, h3, fun res kk => ?_⟩
  refine g_aload_n (pc := 836) (j := 1) (dk d_mL_law_12 26 rfl) rfl (by decide) ?_
  refine g_aload_n (pc := 837) (j := 0) (dk d_mL_law_12 27 rfl) rfl (by decide) ?_
  refine g_iload_n (pc := 838) (j := 3) (dk d_mL_law_12 28 rfl) rfl ?_
  refine g_iconst (pc := 839) (dk d_mL_law_12 29 rfl) (by decide) ?_
  refine g_iadd (pc := 840) (dk d_mL_law_12 30 rfl) ?_
  refine g_roald (pc := 841) (q := 1) (by decide) rfl (lbnd hL hi 1 (by decide)) (dk d_mL_law_12 31 rfl) ?_
  refine l_callVi (d := d + 207) (pc := 842) (na := 1) (av := [pI (roV E 1 (w32 (i + 1)))]) (k0 := 0) po_0 ⟨_, rfl⟩ ⟨rfl, rfl⟩ (dk d_mL_law_12 32 rfl) lk_L_100 vm_mB_change rfl rfl (Nat.le_of_ble_eq_true rfl) hcz (kB_change E (d + 200) h1) ?_
  refine g_aload_n (pc := 845) (j := 2) (dk d_mL_law_12 33 rfl) rfl (by decide) ?_
  refine g_aload_n (pc := 846) (j := 0) (dk d_mL_law_12 34 rfl) rfl (by decide) ?_
  refine g_iload_n (pc := 847) (j := 3) (dk d_mL_law_12 35 rfl) rfl ?_
  refine g_iconst (pc := 848) (dk d_mL_law_12 36 rfl) (by decide) ?_
  refine g_iadd (pc := 849) (dk d_mL_law_12 37 rfl) ?_
  refine g_roald (pc := 850) (q := 1) (by decide) rfl (lbnd hL hi 1 (by decide)) (dk d_mL_law_12 38 rfl) ?_
  refine l_callVi (d := d + 207) (pc := 851) (na := 1) (av := [pI (roV E 1 (w32 (i + 1)))]) (k0 := 46) po_46 ⟨_, rfl⟩ ⟨rfl, rfl⟩ (dk d_mL_law_12 39 rfl) lk_L_103 vm_mR_change rfl rfl (Nat.le_of_ble_eq_true rfl) hcz (kR_change E (d + 2) h2) ?_
  exact g_icmp_eq (pc := 854) (tgt := 1645) (dk d_mL_law_13 0 rfl) rfl (fun _ => kk) (fun q => absurd rfl q)
set_option maxRecDepth 100000 in
set_option maxHeartbeats 4000000 in
theorem lc_21 (E : Nat × (Int → Int)) (d : Nat) {c z : Nat} (hL : E.1 ≤ 3072) (hE : ∀ i, I32 (E.2 i)) (hcz : c ≤ mC mL_law ∧ z ≤ mS mL_law) {Inv : WD → Prop} (ho : op1 Inv fB_right fR_right) {i : Int} (hi : 0 ≤ i ∧ i + 6 ≤ E.1) (w : WD) (hI : Inv w) : ∃ v, Inv v ∧ ∀ res, G E mL_law (d + 208) 1645 [(0, pR (-1)), (1, pR 0), (2, pR 46), (3, pI i)] [] v RF NN c z res → G E mL_law (d + 208) 859 [(0, pR (-1)), (1, pR 0), (2, pR 46), (3, pI i)] [] w RF NN c z res := by
  obtain ⟨r, u, v, h1, h2, h3⟩ := ho (roV E 1 (w32 (i + 1))) w (lro hE _) hI
  refine ⟨v, h3, fun res kk => ?_⟩
  refine g_aload_n (pc := 859) (j := 1) (dk d_mL_law_13 3 rfl) rfl (by decide) ?_
  refine g_aload_n (pc := 860) (j := 0) (dk d_mL_law_13 4 rfl) rfl (by decide) ?_
  refine g_iload_n (pc := 861) (j := 3) (dk d_mL_law_13 5 rfl) rfl ?_
  refine g_iconst (pc := 862) (dk d_mL_law_13 6 rfl) (by decide) ?_
  refine g_iadd (pc := 863) (dk d_mL_law_13 7 rfl) ?_
  refine g_roald (pc := 864) (q := 1) (by decide) rfl (lbnd hL hi 1 (by decide)) (dk d_mL_law_13 8 rfl) ?_
  refine l_callVi (d := d + 207) (pc := 865) (na := 1) (av := [pI (roV E 1 (w32 (i + 1)))]) (k0 := 0) po_0 ⟨_, rfl⟩ ⟨rfl, rfl⟩ (dk d_mL_law_13 9 rfl) lk_L_104 vm_mB_right rfl rfl (Nat.le_of_ble_eq_true rfl) hcz (kB_right E (d + 202) h1) ?_
  refine g_aload_n (pc := 868) (j := 2) (dk d_mL_law_13 10 rfl) rfl (by decide) ?_
  refine g_aload_n (pc := 869) (j := 0) (dk d_mL_law_13 11 rfl) rfl (by decide) ?_
  refine g_iload_n (pc := 870) (j := 3) (dk d_mL_law_13 12 rfl) rfl ?_
  refine g_iconst (pc := 871) (dk d_mL_law_13 13 rfl) (by decide) ?_
  refine g_iadd (pc := 872) (dk d_mL_law_13 14 rfl) ?_
  refine g_roald (pc := 873) (q := 1) (by decide) rfl (lbnd hL hi 1 (by decide)) (dk d_mL_law_13 15 rfl) ?_
  refine l_callVi (d := d + 207) (pc := 874) (na := 1) (av := [pI (roV E 1 (w32 (i + 1)))]) (k0 := 46) po_46 ⟨_, rfl⟩ ⟨rfl, rfl⟩ (dk d_mL_law_13 16 rfl) lk_L_107 vm_mR_right rfl rfl (Nat.le_of_ble_eq_true rfl) hcz (kR_right E (d + 202) h2) ?_
  exact g_icmp_eq (pc := 877) (tgt := 1645) (dk d_mL_law_13 17 rfl) rfl (fun _ => kk) (fun q => absurd rfl q)
set_option maxRecDepth 100000 in
set_option maxHeartbeats 4000000 in
theorem lc_22 (E : Nat × (Int → Int)) (d : Nat) {c z : Nat} (hL : E.1 ≤ 3072) (hE : ∀ i, I32 (E.2 i)) (hcz : c ≤ mC mL_law ∧ z ≤ mS mL_law) {Inv : WD → Prop} (ho : op2 Inv fB_cards fR_cards) {i : Int} (hi : 0 ≤ i ∧ i + 6 ≤ E.1) (w : WD) (hI : Inv w) : ∃ v, Inv v ∧ ∀ res, G E mL_law (d + 208) 1645 [(0, pR (-1)), (1, pR 0), (2, pR 46), (3, pI i)] [] v RF NN c z res → G E mL_law (d + 208) 882 [(0, pR (-1)), (1, pR 0), (2, pR 46), (3, pI i)] [] w RF NN c z res := by
  obtain ⟨r, u, v, h1, h2, h3⟩ := ho (roV E 1 (w32 (i + 1))) (roV E 1 (w32 (i + 2))) w (lro hE _) (lro hE _) hI
  refine ⟨v, h3, fun res kk => ?_⟩
  refine g_aload_n (pc := 882) (j := 1) (dk d_mL_law_13 20 rfl) rfl (by decide) ?_
  refine g_aload_n (pc := 883) (j := 0) (dk d_mL_law_13 21 rfl) rfl (by decide) ?_
  refine g_iload_n (pc := 884) (j := 3) (dk d_mL_law_13 22 rfl) rfl ?_
  refine g_iconst (pc := 885) (dk d_mL_law_13 23 rfl) (by decide) ?_
  refine g_iadd (pc := 886) (dk d_mL_law_13 24 rfl) ?_
  refine g_roald (pc := 887) (q := 1) (by decide) rfl (lbnd hL hi 1 (by decide)) (dk d_mL_law_13 25 rfl) ?_
  refine g_aload_n (pc := 888) (j := 0) (dk d_mL_law_13 26 rfl) rfl (by decide) ?_
  refine g_iload_n (pc := 889) (j := 3) (dk d_mL_law_13 27 rfl) rfl ?_
  refine g_iconst (pc := 890) (dk d_mL_law_13 28 rfl) (by decide) ?_
  refine g_iadd (pc := 891) (dk d_mL_law_13 29 rfl) ?_
  refine g_roald (pc := 892) (q := 1) (by decide) rfl (lbnd hL hi 2 (by decide)) (dk d_mL_law_13 30 rfl) ?_
  refine l_callVi (d := d + 207) (pc := 893) (na := 2) (av := [pI (roV E 1 (w32 (i + 1))), pI (roV E 1 (w32 (i + 2)))]) (k0 := 0) po_0 ⟨_, rfl⟩ ⟨rfl, rfl⟩ (dk d_mL_law_13 31 rfl) lk_L_108 vm_mB_cards rfl rfl (Nat.le_of_ble_eq_true rfl) hcz (kB_cards E (d + 200) h1) ?_
  refine g_aload_n (pc := 896) (j := 2) (dk d_mL_law_13 32 rfl) rfl (by decide) ?_
  refine g_aload_n (pc := 897) (j := 0) (dk d_mL_law_13 33 rfl) rfl (by decide) ?_
  refine g_iload_n (pc := 898) (j := 3) (dk d_mL_law_13 34 rfl) rfl ?_
  refine g_iconst (pc := 899) (dk d_mL_law_13 35 rfl) (by decide) ?_
  refine g_iadd (pc := 900) (dk d_mL_law_13 36 rfl) ?_
  refine g_roald (pc := 901) (q := 1) (by decide) rfl (lbnd hL hi 1 (by decide)) (dk d_mL_law_13 37 rfl) ?_
  refine g_aload_n (pc := 902) (j := 0) (dk d_mL_law_13 38 rfl) rfl (by decide) ?_
  refine g_iload_n (pc := 903) (j := 3) (dk d_mL_law_13 39 rfl) rfl ?_
  refine g_iconst (pc := 904) (dk d_mL_law_14 0 rfl) (by decide) ?_
  refine g_iadd (pc := 905) (dk d_mL_law_14 1 rfl) ?_
  refine g_roald (pc := 906) (q := 1) (by decide) rfl (lbnd hL hi 2 (by decide)) (dk d_mL_law_14 2 rfl) ?_
  refine l_callVi (d := d + 207) (pc := 907) (na := 2) (av := [pI (roV E 1 (w32 (i + 1))), pI (roV E 1 (w32 (i + 2)))]) (k0 := 46) po_46 ⟨_, rfl⟩ ⟨rfl, rfl⟩ (dk d_mL_law_14 3 rfl) lk_L_111 vm_mR_cards rfl rfl (Nat.le_of_ble_eq_true rfl) hcz (kR_cards E (d + 3) h2) ?_
  exact g_icmp_eq (pc := 910) (tgt := 1645) (dk d_mL_law_14 4 rfl) rfl (fun _ => kk) (fun q => absurd rfl q)
set_option maxRecDepth 100000 in
set_option maxHeartbeats 4000000 in
theorem lc_23 (E : Nat × (Int → Int)) (d : Nat) {c z : Nat} (hL : E.1 ≤ 3072) (hE : ∀ i, I32 (E.2 i)) (hcz : c ≤ mC mL_law ∧ z ≤ mS mL_law) {Inv : WD → Prop} (ho : op2 Inv fB_dances fR_dances) {i : Int} (hi : 0 ≤ i ∧ i + 6 ≤ E.1) (w : WD) (hI : Inv w) : ∃ v, Inv v ∧ ∀ res, G E mL_law (d + 208) 1645 [(0, pR (-1)), (1, pR 0), (2, pR 46), (3, pI i)] [] v RF NN c z res → G E mL_law (d + 208) 915 [(0, pR (-1)), (1, pR 0), (2, pR 46), (3, pI i)] [] w RF NN c z res := by
  obtain ⟨r, u, v, h1, h2, h3⟩ := ho (roV E 1 (w32 (i + 1))) (roV E 1 (w32 (i + 2))) w (lro hE _) (lro hE _) hI
  refine ⟨v, h3, fun res kk => ?_⟩
  refine g_aload_n (pc := 915) (j := 1) (dk d_mL_law_14 7 rfl) rfl (by decide) ?_
  refine g_aload_n (pc := 916) (j := 0) (dk d_mL_law_14 8 rfl) rfl (by decide) ?_
  refine g_iload_n (pc := 917) (j := 3) (dk d_mL_law_14 9 rfl) rfl ?_
  refine g_iconst (pc := 918) (dk d_mL_law_14 10 rfl) (by decide) ?_
  refine g_iadd (pc := 919) (dk d_mL_law_14 11 rfl) ?_
  refine g_roald (pc := 920) (q := 1) (by decide) rfl (lbnd hL hi 1 (by decide)) (dk d_mL_law_14 12 rfl) ?_
  refine g_aload_n (pc := 921) (j := 0) (dk d_mL_law_14 13 rfl) rfl (by decide) ?_
  refine g_iload_n (pc := 922) (j := 3) (dk d_mL_law_14 14 rfl) rfl ?_
  refine g_iconst (pc := 923) (dk d_mL_law_14 15 rfl) (by decide) ?_
  refine g_iadd (pc := 924) (dk d_mL_law_14 16 rfl) ?_
  refine g_roald (pc := 925) (q := 1) (by decide) rfl (lbnd hL hi 2 (by decide)) (dk d_mL_law_14 17 rfl) ?_
  refine l_callVi (d := d + 207) (pc := 926) (na := 2) (av := [pI (roV E 1 (w32 (i + 1))), pI (roV E 1 (w32 (i + 2)))]) (k0 := 0) po_0 ⟨_, rfl⟩ ⟨rfl, rfl⟩ (dk d_mL_law_14 18 rfl) lk_L_112 vm_mB_dances rfl rfl (Nat.le_of_ble_eq_true rfl) hcz (kB_dances E (d + 202) h1) ?_
  refine g_aload_n (pc := 929) (j := 2) (dk d_mL_law_14 19 rfl) rfl (by decide) ?_
  refine g_aload_n (pc := 930) (j := 0) (dk d_mL_law_14 20 rfl) rfl (by decide) ?_
  refine g_iload_n (pc := 931) (j := 3) (dk d_mL_law_14 21 rfl) rfl ?_
  refine g_iconst (pc := 932) (dk d_mL_law_14 22 rfl) (by decide) ?_
  refine g_iadd (pc := 933) (dk d_mL_law_14 23 rfl) ?_
  refine g_roald (pc := 934) (q := 1) (by decide) rfl (lbnd hL hi 1 (by decide)) (dk d_mL_law_14 24 rfl) ?_
  refine g_aload_n (pc := 935) (j := 0) (dk d_mL_law_14 25 rfl) rfl (by decide) ?_
  refine g_iload_n (pc := 936) (j := 3) (dk d_mL_law_14 26 rfl) rfl ?_
  refine g_iconst (pc := 937) (dk d_mL_law_14 27 rfl) (by decide) ?_
  refine g_iadd (pc := 938) (dk d_mL_law_14 28 rfl) ?_
  refine g_roald (pc := 939) (q := 1) (by decide) rfl (lbnd hL hi 2 (by decide)) (dk d_mL_law_14 29 rfl) ?_
  refine l_callVi (d := d + 207) (pc := 940) (na := 2) (av := [pI (roV E 1 (w32 (i + 1))), pI (roV E 1 (w32 (i + 2)))]) (k0 := 46) po_46 ⟨_, rfl⟩ ⟨rfl, rfl⟩ (dk d_mL_law_14 30 rfl) lk_L_115 vm_mR_dances rfl rfl (Nat.le_of_ble_eq_true rfl) hcz (kR_dances E (d + 203) h2) ?_
  exact g_icmp_eq (pc := 943) (tgt := 1645) (dk d_mL_law_14 31 rfl) rfl (fun _ => kk) (fun q => absurd rfl q)
set_option maxRecDepth 100000 in
set_option maxHeartbeats 4000000 in
theorem lc_24 (E : Nat × (Int → Int)) (d : Nat) {c z : Nat} (hL : E.1 ≤ 3072) (hE : ∀ i, I32 (E.2 i)) (hcz : c ≤ mC mL_law ∧ z ≤ mS mL_law) {Inv : WD → Prop} (ho : op2 Inv fB_avoid fR_avoid) {i : Int} (hi : 0 ≤ i ∧ i + 6 ≤ E.1) (w : WD) (hI : Inv w) : ∃ v, Inv v ∧ ∀ res, G E mL_law (d + 208) 1645 [(0, pR (-1)), (1, pR 0), (2, pR 46), (3, pI i)] [] v RF NN c z res → G E mL_law (d + 208) 948 [(0, pR (-1)), (1, pR 0), (2, pR 46), (3, pI i)] [] w RF NN c z res := by
  obtain ⟨r, u, v, h1, h2, h3⟩ := ho (roV E 1 (w32 (i + 1))) (roV E 1 (w32 (i + 2))) w (lro hE _) (lro hE _) hI
  refine ⟨v, h3, fun res kk => ?_⟩
  refine g_aload_n (pc := 948) (j := 1) (dk d_mL_law_14 34 rfl) rfl (by decide) ?_
  refine g_aload_n (pc := 949) (j := 0) (dk d_mL_law_14 35 rfl) rfl (by decide) ?_
  refine g_iload_n (pc := 950) (j := 3) (dk d_mL_law_14 36 rfl) rfl ?_
  refine g_iconst (pc := 951) (dk d_mL_law_14 37 rfl) (by decide) ?_
  refine g_iadd (pc := 952) (dk d_mL_law_14 38 rfl) ?_
  refine g_roald (pc := 953) (q := 1) (by decide) rfl (lbnd hL hi 1 (by decide)) (dk d_mL_law_14 39 rfl) ?_
  refine g_aload_n (pc := 954) (j := 0) (dk d_mL_law_15 0 rfl) rfl (by decide) ?_
  refine g_iload_n (pc := 955) (j := 3) (dk d_mL_law_15 1 rfl) rfl ?_
  refine g_iconst (pc := 956) (dk d_mL_law_15 2 rfl) (by decide) ?_
  refine g_iadd (pc := 957) (dk d_mL_law_15 3 rfl) ?_
  refine g_roald (pc := 958) (q := 1) (by decide) rfl (lbnd hL hi 2 (by decide)) (dk d_mL_law_15 4 rfl) ?_
  refine l_callVi (d := d + 207) (pc := 959) (na := 2) (av := [pI (roV E 1 (w32 (i + 1))), pI (roV E 1 (w32 (i + 2)))]) (k0 := 0) po_0 ⟨_, rfl⟩ ⟨rfl, rfl⟩ (dk d_mL_law_15 5 rfl) lk_L_116 vm_mB_avoid rfl rfl (Nat.le_of_ble_eq_true rfl) hcz (kB_avoid E (d + 202) h1) ?_
  refine g_aload_n (pc := 962) (j := 2) (dk d_mL_law_15 6 rfl) rfl (by decide) ?_
  refine g_aload_n (pc := 963) (j := 0) (dk d_mL_law_15 7 rfl) rfl (by decide) ?_
  refine g_iload_n (pc := 964) (j := 3) (dk d_mL_law_15 8 rfl) rfl ?_
  refine g_iconst (pc := 965) (dk d_mL_law_15 9 rfl) (by decide) ?_
  refine g_iadd (pc := 966) (dk d_mL_law_15 10 rfl) ?_
  refine g_roald (pc := 967) (q := 1) (by decide) rfl (lbnd hL hi 1 (by decide)) (dk d_mL_law_15 11 rfl) ?_
  refine g_aload_n (pc := 968) (j := 0) (dk d_mL_law_15 12 rfl) rfl (by decide) ?_
  refine g_iload_n (pc := 969) (j := 3) (dk d_mL_law_15 13 rfl) rfl ?_
  refine g_iconst (pc := 970) (dk d_mL_law_15 14 rfl) (by decide) ?_
  refine g_iadd (pc := 971) (dk d_mL_law_15 15 rfl) ?_
  refine g_roald (pc := 972) (q := 1) (by decide) rfl (lbnd hL hi 2 (by decide)) (dk d_mL_law_15 16 rfl) ?_
  refine l_callVi (d := d + 207) (pc := 973) (na := 2) (av := [pI (roV E 1 (w32 (i + 1))), pI (roV E 1 (w32 (i + 2)))]) (k0 := 46) po_46 ⟨_, rfl⟩ ⟨rfl, rfl⟩ (dk d_mL_law_15 17 rfl) lk_L_119 vm_mR_avoid rfl rfl (Nat.le_of_ble_eq_true rfl) hcz (kR_avoid E (d + 203) h2) ?_
  exact g_icmp_eq (pc := 976) (tgt := 1645) (dk d_mL_law_15 18 rfl) rfl (fun _ => kk) (fun q => absurd rfl q)
set_option maxRecDepth 100000 in
set_option maxHeartbeats 4000000 in
theorem lc_25 (E : Nat × (Int → Int)) (d : Nat) {c z : Nat} (hL : E.1 ≤ 3072) (hE : ∀ i, I32 (E.2 i)) (hcz : c ≤ mC mL_law ∧ z ≤ mS mL_law) {Inv : WD → Prop} (ho : op2 Inv fB_favourite fR_favourite) {i : Int} (hi : 0 ≤ i ∧ i + 6 ≤ E.1) (w : WD) (hI : Inv w) : ∃ v, Inv v ∧ ∀ res, G E mL_law (d + 208) 1645 [(0, pR (-1)), (1, pR 0), (2, pR 46), (3, pI i)] [] v RF NN c z res → G E mL_law (d + 208) 981 [(0, pR (-1)), (1, pR 0), (2, pR 46), (3, pI i)] [] w RF NN c z res := by
  obtain ⟨r, u, v, h1, h2, h3⟩ := ho (roV E 1 (w32 (i + 1))) (roV E 1 (w32 (i + 2))) w (lro hE _) (lro hE _) hI
  refine ⟨v, h3, fun res kk => ?_⟩
  refine g_aload_n (pc := 981) (j := 1) (dk d_mL_law_15 21 rfl) rfl (by decide) ?_
  refine g_aload_n (pc := 982) (j := 0) (dk d_mL_law_15 22 rfl) rfl (by decide) ?_
  refine g_iload_n (pc := 983) (j := 3) (dk d_mL_law_15 23 rfl) rfl ?_
  refine g_iconst (pc := 984) (dk d_mL_law_15 24 rfl) (by decide) ?_
  refine g_iadd (pc := 985) (dk d_mL_law_15 25 rfl) ?_
  refine g_roald (pc := 986) (q := 1) (by decide) rfl (lbnd hL hi 1 (by decide)) (dk d_mL_law_15 26 rfl) ?_
  refine g_aload_n (pc := 987) (j := 0) (dk d_mL_law_15 27 rfl) rfl (by decide) ?_
  refine g_iload_n (pc := 988) (j := 3) (dk d_mL_law_15 28 rfl) rfl ?_
  refine g_iconst (pc := 989) (dk d_mL_law_15 29 rfl) (by decide) ?_
  refine g_iadd (pc := 990) (dk d_mL_law_15 30 rfl) ?_
  refine g_roald (pc := 991) (q := 1) (by decide) rfl (lbnd hL hi 2 (by decide)) (dk d_mL_law_15 31 rfl) ?_
  refine l_callVi (d := d + 207) (pc := 992) (na := 2) (av := [pI (roV E 1 (w32 (i + 1))), pI (roV E 1 (w32 (i + 2)))]) (k0 := 0) po_0 ⟨_, rfl⟩ ⟨rfl, rfl⟩ (dk d_mL_law_15 32 rfl) lk_L_120 vm_mB_favourite rfl rfl (Nat.le_of_ble_eq_true rfl) hcz (kB_favourite E (d + 202) h1) ?_
  refine g_aload_n (pc := 995) (j := 2) (dk d_mL_law_15 33 rfl) rfl (by decide) ?_
  refine g_aload_n (pc := 996) (j := 0) (dk d_mL_law_15 34 rfl) rfl (by decide) ?_
  refine g_iload_n (pc := 997) (j := 3) (dk d_mL_law_15 35 rfl) rfl ?_
  refine g_iconst (pc := 998) (dk d_mL_law_15 36 rfl) (by decide) ?_
  refine g_iadd (pc := 999) (dk d_mL_law_15 37 rfl) ?_
  refine g_roald (pc := 1000) (q := 1) (by decide) rfl (lbnd hL hi 1 (by decide)) (dk d_mL_law_15 38 rfl) ?_
  refine g_aload_n (pc := 1001) (j := 0) (dk d_mL_law_15 39 rfl) rfl (by decide) ?_
  refine g_iload_n (pc := 1002) (j := 3) (dk d_mL_law_16 0 rfl) rfl ?_
  refine g_iconst (pc := 1003) (dk d_mL_law_16 1 rfl) (by decide) ?_
  refine g_iadd (pc := 1004) (dk d_mL_law_16 2 rfl) ?_
  refine g_roald (pc := 1005) (q := 1) (by decide) rfl (lbnd hL hi 2 (by decide)) (dk d_mL_law_16 3 rfl) ?_
  refine l_callVi (d := d + 207) (pc := 1006) (na := 2) (av := [pI (roV E 1 (w32 (i + 1))), pI (roV E 1 (w32 (i + 2)))]) (k0 := 46) po_46 ⟨_, rfl⟩ ⟨rfl, rfl⟩ (dk d_mL_law_16 4 rfl) lk_L_123 vm_mR_favourite rfl rfl (Nat.le_of_ble_eq_true rfl) hcz (kR_favourite E (d + 203) h2) ?_
  exact g_icmp_eq (pc := 1009) (tgt := 1645) (dk d_mL_law_16 5 rfl) rfl (fun _ => kk) (fun q => absurd rfl q)
set_option maxRecDepth 100000 in
set_option maxHeartbeats 4000000 in
theorem lc_26 (E : Nat × (Int → Int)) (d : Nat) {c z : Nat} (hL : E.1 ≤ 3072) (hE : ∀ i, I32 (E.2 i)) (hcz : c ≤ mC mL_law ∧ z ≤ mS mL_law) {Inv : WD → Prop} (ho : op4 Inv fB_drawn fR_drawn) {i : Int} (hi : 0 ≤ i ∧ i + 6 ≤ E.1) (w : WD) (hI : Inv w) : ∃ v, Inv v ∧ ∀ res, G E mL_law (d + 208) 1645 [(0, pR (-1)), (1, pR 0), (2, pR 46), (3, pI i)] [] v RF NN c z res → G E mL_law (d + 208) 1014 [(0, pR (-1)), (1, pR 0), (2, pR 46), (3, pI i)] [] w RF NN c z res := by
  obtain ⟨r, u, v, h1, h2, h3⟩ := ho (roV E 1 (w32 (i + 1))) (roV E 1 (w32 (i + 2))) (roV E 1 (w32 (i + 3))) (roV E 1 (w32 (i + 4))) w (lro hE _) (lro hE _) (lro hE _) (lro hE _) hI
  refine ⟨v, h3, fun res kk => ?_⟩
  refine g_aload_n (pc := 1014) (j := 1) (dk d_mL_law_16 8 rfl) rfl (by decide) ?_
  refine g_aload_n (pc := 1015) (j := 0) (dk d_mL_law_16 9 rfl) rfl (by decide) ?_
  refine g_iload_n (pc := 1016) (j := 3) (dk d_mL_law_16 10 rfl) rfl ?_
  refine g_iconst (pc := 1017) (dk d_mL_law_16 11 rfl) (by decide) ?_
  refine g_iadd (pc := 1018) (dk d_mL_law_16 12 rfl) ?_
  refine g_roald (pc := 1019) (q := 1) (by decide) rfl (lbnd hL hi 1 (by decide)) (dk d_mL_law_16 13 rfl) ?_
  refine g_aload_n (pc := 1020) (j := 0) (dk d_mL_law_16 14 rfl) rfl (by decide) ?_
  refine g_iload_n (pc := 1021) (j := 3) (dk d_mL_law_16 15 rfl) rfl ?_
  refine g_iconst (pc := 1022) (dk d_mL_law_16 16 rfl) (by decide) ?_
  refine g_iadd (pc := 1023) (dk d_mL_law_16 17 rfl) ?_
  refine g_roald (pc := 1024) (q := 1) (by decide) rfl (lbnd hL hi 2 (by decide)) (dk d_mL_law_16 18 rfl) ?_
  refine g_aload_n (pc := 1025) (j := 0) (dk d_mL_law_16 19 rfl) rfl (by decide) ?_
  refine g_iload_n (pc := 1026) (j := 3) (dk d_mL_law_16 20 rfl) rfl ?_
  refine g_iconst (pc := 1027) (dk d_mL_law_16 21 rfl) (by decide) ?_
  refine g_iadd (pc := 1028) (dk d_mL_law_16 22 rfl) ?_
  refine g_roald (pc := 1029) (q := 1) (by decide) rfl (lbnd hL hi 3 (by decide)) (dk d_mL_law_16 23 rfl) ?_
  refine g_aload_n (pc := 1030) (j := 0) (dk d_mL_law_16 24 rfl) rfl (by decide) ?_
  refine g_iload_n (pc := 1031) (j := 3) (dk d_mL_law_16 25 rfl) rfl ?_
  refine g_iconst (pc := 1032) (dk d_mL_law_16 26 rfl) (by decide) ?_
  refine g_iadd (pc := 1033) (dk d_mL_law_16 27 rfl) ?_
  refine g_roald (pc := 1034) (q := 1) (by decide) rfl (lbnd hL hi 4 (by decide)) (dk d_mL_law_16 28 rfl) ?_
  refine l_callVi (d := d + 207) (pc := 1035) (na := 4) (av := [pI (roV E 1 (w32 (i + 1))), pI (roV E 1 (w32 (i + 2))), pI (roV E 1 (w32 (i + 3))), pI (roV E 1 (w32 (i + 4)))]) (k0 := 0) po_0 ⟨_, rfl⟩ ⟨rfl, rfl⟩ (dk d_mL_law_16 29 rfl) lk_L_124 vm_mB_drawn rfl rfl (Nat.le_of_ble_eq_true rfl) hcz (kB_drawn E (d + 199) h1) ?_
  refine g_aload_n (pc := 1038) (j := 2) (dk d_mL_law_16 30 rfl) rfl (by decide) ?_
  refine g_aload_n (pc := 1039) (j := 0) (dk d_mL_law_16 31 rfl) rfl (by decide) ?_
  refine g_iload_n (pc := 1040) (j := 3) (dk d_mL_law_16 32 rfl) rfl ?_
  refine g_iconst (pc := 1041) (dk d_mL_law_16 33 rfl) (by decide) ?_
  refine g_iadd (pc := 1042) (dk d_mL_law_16 34 rfl) ?_
  refine g_roald (pc := 1043) (q := 1) (by decide) rfl (lbnd hL hi 1 (by decide)) (dk d_mL_law_16 35 rfl) ?_
  refine g_aload_n (pc := 1044) (j := 0) (dk d_mL_law_16 36 rfl) rfl (by decide) ?_
  refine g_iload_n (pc := 1045) (j := 3) (dk d_mL_law_16 37 rfl) rfl ?_
  refine g_iconst (pc := 1046) (dk d_mL_law_16 38 rfl) (by decide) ?_
  refine g_iadd (pc := 1047) (dk d_mL_law_16 39 rfl) ?_
  refine g_roald (pc := 1048) (q := 1) (by decide) rfl (lbnd hL hi 2 (by decide)) (dk d_mL_law_17 0 rfl) ?_
  refine g_aload_n (pc := 1049) (j := 0) (dk d_mL_law_17 1 rfl) rfl (by decide) ?_
  refine g_iload_n (pc := 1050) (j := 3) (dk d_mL_law_17 2 rfl) rfl ?_
  refine g_iconst (pc := 1051) (dk d_mL_law_17 3 rfl) (by decide) ?_
  refine g_iadd (pc := 1052) (dk d_mL_law_17 4 rfl) ?_
  refine g_roald (pc := 1053) (q := 1) (by decide) rfl (lbnd hL hi 3 (by decide)) (dk d_mL_law_17 5 rfl) ?_
  refine g_aload_n (pc := 1054) (j := 0) (dk d_mL_law_17 6 rfl) rfl (by decide) ?_
  refine g_iload_n (pc := 1055) (j := 3) (dk d_mL_law_17 7 rfl) rfl ?_
  refine g_iconst (pc := 1056) (dk d_mL_law_17 8 rfl) (by decide) ?_
  refine g_iadd (pc := 1057) (dk d_mL_law_17 9 rfl) ?_
  refine g_roald (pc := 1058) (q := 1) (by decide) rfl (lbnd hL hi 4 (by decide)) (dk d_mL_law_17 10 rfl) ?_
  refine l_callVi (d := d + 207) (pc := 1059) (na := 4) (av := [pI (roV E 1 (w32 (i + 1))), pI (roV E 1 (w32 (i + 2))), pI (roV E 1 (w32 (i + 3))), pI (roV E 1 (w32 (i + 4)))]) (k0 := 46) po_46 ⟨_, rfl⟩ ⟨rfl, rfl⟩ (dk d_mL_law_17 11 rfl) lk_L_128 vm_mR_drawn rfl rfl (Nat.le_of_ble_eq_true rfl) hcz (kR_drawn E (d + 3) h2) ?_
  exact g_icmp_eq (pc := 1062) (tgt := 1645) (dk d_mL_law_17 12 rfl) rfl (fun _ => kk) (fun q => absurd rfl q)
set_option maxRecDepth 100000 in
set_option maxHeartbeats 4000000 in
theorem lc_27 (E : Nat × (Int → Int)) (d : Nat) {c z : Nat} (hL : E.1 ≤ 3072) (hE : ∀ i, I32 (E.2 i)) (hcz : c ≤ mC mL_law ∧ z ≤ mS mL_law) {Inv : WD → Prop} (ho : op2 Inv fB_behind fR_behind) {i : Int} (hi : 0 ≤ i ∧ i + 6 ≤ E.1) (w : WD) (hI : Inv w) : ∃ v, Inv v ∧ ∀ res, G E mL_law (d + 208) 1645 [(0, pR (-1)), (1, pR 0), (2, pR 46), (3, pI i)] [] v RF NN c z res → G E mL_law (d + 208) 1067 [(0, pR (-1)), (1, pR 0), (2, pR 46), (3, pI i)] [] w RF NN c z res := by
  obtain ⟨r, u, v, h1, h2, h3⟩ := ho (roV E 1 (w32 (i + 1))) (roV E 1 (w32 (i + 2))) w (lro hE _) (lro hE _) hI
  refine ⟨v, h3, fun res kk => ?_⟩
  refine g_aload_n (pc := 1067) (j := 1) (dk d_mL_law_17 15 rfl) rfl (by decide) ?_
  refine g_aload_n (pc := 1068) (j := 0) (dk d_mL_law_17 16 rfl) rfl (by decide) ?_
  refine g_iload_n (pc := 1069) (j := 3) (dk d_mL_law_17 17 rfl) rfl ?_
  refine g_iconst (pc := 1070) (dk d_mL_law_17 18 rfl) (by decide) ?_
  refine g_iadd (pc := 1071) (dk d_mL_law_17 19 rfl) ?_
  refine g_roald (pc := 1072) (q := 1) (by decide) rfl (lbnd hL hi 1 (by decide)) (dk d_mL_law_17 20 rfl) ?_
  refine g_aload_n (pc := 1073) (j := 0) (dk d_mL_law_17 21 rfl) rfl (by decide) ?_
  refine g_iload_n (pc := 1074) (j := 3) (dk d_mL_law_17 22 rfl) rfl ?_
  refine g_iconst (pc := 1075) (dk d_mL_law_17 23 rfl) (by decide) ?_
  refine g_iadd (pc := 1076) (dk d_mL_law_17 24 rfl) ?_
  refine g_roald (pc := 1077) (q := 1) (by decide) rfl (lbnd hL hi 2 (by decide)) (dk d_mL_law_17 25 rfl) ?_
  refine l_callVi (d := d + 207) (pc := 1078) (na := 2) (av := [pI (roV E 1 (w32 (i + 1))), pI (roV E 1 (w32 (i + 2)))]) (k0 := 0) po_0 ⟨_, rfl⟩ ⟨rfl, rfl⟩ (dk d_mL_law_17 26 rfl) lk_L_129 vm_mB_behind rfl rfl (Nat.le_of_ble_eq_true rfl) hcz (kB_behind E (d + 203) h1) ?_
  refine g_aload_n (pc := 1081) (j := 2) (dk d_mL_law_17 27 rfl) rfl (by decide) ?_
  refine g_aload_n (pc := 1082) (j := 0) (dk d_mL_law_17 28 rfl) rfl (by decide) ?_
  refine g_iload_n (pc := 1083) (j := 3) (dk d_mL_law_17 29 rfl) rfl ?_
  refine g_iconst (pc := 1084) (dk d_mL_law_17 30 rfl) (by decide) ?_
  refine g_iadd (pc := 1085) (dk d_mL_law_17 31 rfl) ?_
  refine g_roald (pc := 1086) (q := 1) (by decide) rfl (lbnd hL hi 1 (by decide)) (dk d_mL_law_17 32 rfl) ?_
  refine g_aload_n (pc := 1087) (j := 0) (dk d_mL_law_17 33 rfl) rfl (by decide) ?_
  refine g_iload_n (pc := 1088) (j := 3) (dk d_mL_law_17 34 rfl) rfl ?_
  refine g_iconst (pc := 1089) (dk d_mL_law_17 35 rfl) (by decide) ?_
  refine g_iadd (pc := 1090) (dk d_mL_law_17 36 rfl) ?_
  refine g_roald (pc := 1091) (q := 1) (by decide) rfl (lbnd hL hi 2 (by decide)) (dk d_mL_law_17 37 rfl) ?_
  refine l_callVi (d := d + 207) (pc := 1092) (na := 2) (av := [pI (roV E 1 (w32 (i + 1))), pI (roV E 1 (w32 (i + 2)))]) (k0 := 46) po_46 ⟨_, rfl⟩ ⟨rfl, rfl⟩ (dk d_mL_law_17 38 rfl) lk_L_132 vm_mR_behind rfl rfl (Nat.le_of_ble_eq_true rfl) hcz (kR_behind E (d + 203) h2) ?_
  exact g_icmp_eq (pc := 1095) (tgt := 1645) (dk d_mL_law_17 39 rfl) rfl (fun _ => kk) (fun q => absurd rfl q)
set_option maxRecDepth 100000 in
set_option maxHeartbeats 4000000 in
theorem lc_28 (E : Nat × (Int → Int)) (d : Nat) {c z : Nat} (hL : E.1 ≤ 3072) (hE : ∀ i, I32 (E.2 i)) (hcz : c ≤ mC mL_law ∧ z ≤ mS mL_law) {Inv : WD → Prop} (ho : op1 Inv fB_dance fR_dance) {i : Int} (hi : 0 ≤ i ∧ i + 6 ≤ E.1) (w : WD) (hI : Inv w) : ∃ v, Inv v ∧ ∀ res, G E mL_law (d + 208) 1645 [(0, pR (-1)), (1, pR 0), (2, pR 46), (3, pI i)] [] v RF NN c z res → G E mL_law (d + 208) 1100 [(0, pR (-1)), (1, pR 0), (2, pR 46), (3, pI i)] [] w RF NN c z res := by
  obtain ⟨r, u, v, h1, h2, h3⟩ := ho (roV E 1 (w32 (i + 1))) w (lro hE _) hI
  refine ⟨v, h3, fun res kk => ?_⟩
  refine g_aload_n (pc := 1100) (j := 1) (dk d_mL_law_18 2 rfl) rfl (by decide) ?_
  refine g_aload_n (pc := 1101) (j := 0) (dk d_mL_law_18 3 rfl) rfl (by decide) ?_
  refine g_iload_n (pc := 1102) (j := 3) (dk d_mL_law_18 4 rfl) rfl ?_
  refine g_iconst (pc := 1103) (dk d_mL_law_18 5 rfl) (by decide) ?_
  refine g_iadd (pc := 1104) (dk d_mL_law_18 6 rfl) ?_
  refine g_roald (pc := 1105) (q := 1) (by decide) rfl (lbnd hL hi 1 (by decide)) (dk d_mL_law_18 7 rfl) ?_
  refine l_callVi (d := d + 207) (pc := 1106) (na := 1) (av := [pI (roV E 1 (w32 (i + 1)))]) (k0 := 0) po_0 ⟨_, rfl⟩ ⟨rfl, rfl⟩ (dk d_mL_law_18 8 rfl) lk_L_133 vm_mB_dance rfl rfl (Nat.le_of_ble_eq_true rfl) hcz (kB_dance E (d + 203) h1) ?_
  refine g_aload_n (pc := 1109) (j := 2) (dk d_mL_law_18 9 rfl) rfl (by decide) ?_
  refine g_aload_n (pc := 1110) (j := 0) (dk d_mL_law_18 10 rfl) rfl (by decide) ?_
  refine g_iload_n (pc := 1111) (j := 3) (dk d_mL_law_18 11 rfl) rfl ?_
  refine g_iconst (pc := 1112) (dk d_mL_law_18 12 rfl) (by decide) ?_
  refine g_iadd (pc := 1113) (dk d_mL_law_18 13 rfl) ?_
  refine g_roald (pc := 1114) (q := 1) (by decide) rfl (lbnd hL hi 1 (by decide)) (dk d_mL_law_18 14 rfl) ?_
  refine l_callVi (d := d + 207) (pc := 1115) (na := 1) (av := [pI (roV E 1 (w32 (i + 1)))]) (k0 := 46) po_46 ⟨_, rfl⟩ ⟨rfl, rfl⟩ (dk d_mL_law_18 15 rfl) lk_L_136 vm_mR_dance rfl rfl (Nat.le_of_ble_eq_true rfl) hcz (kR_dance E (d + 204) h2) ?_
  exact g_icmp_eq (pc := 1118) (tgt := 1645) (dk d_mL_law_18 16 rfl) rfl (fun _ => kk) (fun q => absurd rfl q)
set_option maxRecDepth 100000 in
set_option maxHeartbeats 4000000 in
theorem lc_29 (E : Nat × (Int → Int)) (d : Nat) {c z : Nat} (hL : E.1 ≤ 3072) (hE : ∀ i, I32 (E.2 i)) (hcz : c ≤ mC mL_law ∧ z ≤ mS mL_law) {Inv : WD → Prop} (ho : op1 Inv fB_swap fR_swap) {i : Int} (hi : 0 ≤ i ∧ i + 6 ≤ E.1) (w : WD) (hI : Inv w) : ∃ v, Inv v ∧ ∀ res, G E mL_law (d + 208) 1645 [(0, pR (-1)), (1, pR 0), (2, pR 46), (3, pI i)] [] v RF NN c z res → G E mL_law (d + 208) 1123 [(0, pR (-1)), (1, pR 0), (2, pR 46), (3, pI i)] [] w RF NN c z res := by
  obtain ⟨r, u, v, h1, h2, h3⟩ := ho (roV E 1 (w32 (i + 1))) w (lro hE _) hI
  refine ⟨v, h3, fun res kk => ?_⟩
  refine g_aload_n (pc := 1123) (j := 1) (dk d_mL_law_18 19 rfl) rfl (by decide) ?_
  refine g_aload_n (pc := 1124) (j := 0) (dk d_mL_law_18 20 rfl) rfl (by decide) ?_
  refine g_iload_n (pc := 1125) (j := 3) (dk d_mL_law_18 21 rfl) rfl ?_
  refine g_iconst (pc := 1126) (dk d_mL_law_18 22 rfl) (by decide) ?_
  refine g_iadd (pc := 1127) (dk d_mL_law_18 23 rfl) ?_
  refine g_roald (pc := 1128) (q := 1) (by decide) rfl (lbnd hL hi 1 (by decide)) (dk d_mL_law_18 24 rfl) ?_
  refine l_callVi (d := d + 207) (pc := 1129) (na := 1) (av := [pI (roV E 1 (w32 (i + 1)))]) (k0 := 0) po_0 ⟨_, rfl⟩ ⟨rfl, rfl⟩ (dk d_mL_law_18 25 rfl) lk_L_137 vm_mB_swap rfl rfl (Nat.le_of_ble_eq_true rfl) hcz (kB_swap E (d + 204) h1) ?_
  refine g_aload_n (pc := 1132) (j := 2) (dk d_mL_law_18 26 rfl) rfl (by decide) ?_
  refine g_aload_n (pc := 1133) (j := 0) (dk d_mL_law_18 27 rfl) rfl (by decide) ?_
  refine g_iload_n (pc := 1134) (j := 3) (dk d_mL_law_18 28 rfl) rfl ?_
  refine g_iconst (pc := 1135) (dk d_mL_law_18 29 rfl) (by decide) ?_
  refine g_iadd (pc := 1136) (dk d_mL_law_18 30 rfl) ?_
  refine g_roald (pc := 1137) (q := 1) (by decide) rfl (lbnd hL hi 1 (by decide)) (dk d_mL_law_18 31 rfl) ?_
  refine l_callVi (d := d + 207) (pc := 1138) (na := 1) (av := [pI (roV E 1 (w32 (i + 1)))]) (k0 := 46) po_46 ⟨_, rfl⟩ ⟨rfl, rfl⟩ (dk d_mL_law_18 32 rfl) lk_L_140 vm_mR_swap rfl rfl (Nat.le_of_ble_eq_true rfl) hcz (kR_swap E (d + 204) h2) ?_
  exact g_icmp_eq (pc := 1141) (tgt := 1645) (dk d_mL_law_18 33 rfl) rfl (fun _ => kk) (fun q => absurd rfl q)
set_option maxRecDepth 100000 in
set_option maxHeartbeats 4000000 in
theorem lc_30 (E : Nat × (Int → Int)) (d : Nat) {c z : Nat} (hL : E.1 ≤ 3072) (hE : ∀ i, I32 (E.2 i)) (hcz : c ≤ mC mL_law ∧ z ≤ mS mL_law) {Inv : WD → Prop} (ho : op2 Inv fB_bet fR_bet) {i : Int} (hi : 0 ≤ i ∧ i + 6 ≤ E.1) (w : WD) (hI : Inv w) : ∃ v, Inv v ∧ ∀ res, G E mL_law (d + 208) 1645 [(0, pR (-1)), (1, pR 0), (2, pR 46), (3, pI i)] [] v RF NN c z res → G E mL_law (d + 208) 1146 [(0, pR (-1)), (1, pR 0), (2, pR 46), (3, pI i)] [] w RF NN c z res := by
  obtain ⟨r, u, v, h1, h2, h3⟩ := ho (roV E 1 (w32 (i + 1))) (roV E 1 (w32 (i + 2))) w (lro hE _) (lro hE _) hI
  refine ⟨v, h3, fun res kk => ?_⟩
  refine g_aload_n (pc := 1146) (j := 1) (dk d_mL_law_18 36 rfl) rfl (by decide) ?_
  refine g_aload_n (pc := 1147) (j := 0) (dk d_mL_law_18 37 rfl) rfl (by decide) ?_
  refine g_iload_n (pc := 1148) (j := 3) (dk d_mL_law_18 38 rfl) rfl ?_
  refine g_iconst (pc := 1149) (dk d_mL_law_18 39 rfl) (by decide) ?_
  refine g_iadd (pc := 1150) (dk d_mL_law_19 0 rfl) ?_
  refine g_roald (pc := 1151) (q := 1) (by decide) rfl (lbnd hL hi 1 (by decide)) (dk d_mL_law_19 1 rfl) ?_
  refine g_aload_n (pc := 1152) (j := 0) (dk d_mL_law_19 2 rfl) rfl (by decide) ?_
  refine g_iload_n (pc := 1153) (j := 3) (dk d_mL_law_19 3 rfl) rfl ?_
  refine g_iconst (pc := 1154) (dk d_mL_law_19 4 rfl) (by decide) ?_
  refine g_iadd (pc := 1155) (dk d_mL_law_19 5 rfl) ?_
  refine g_roald (pc := 1156) (q := 1) (by decide) rfl (lbnd hL hi 2 (by decide)) (dk d_mL_law_19 6 rfl) ?_
  refine l_callVi (d := d + 207) (pc := 1157) (na := 2) (av := [pI (roV E 1 (w32 (i + 1))), pI (roV E 1 (w32 (i + 2)))]) (k0 := 0) po_0 ⟨_, rfl⟩ ⟨rfl, rfl⟩ (dk d_mL_law_19 7 rfl) lk_L_141 vm_mB_bet rfl rfl (Nat.le_of_ble_eq_true rfl) hcz (kB_bet E (d + 202) h1) ?_
  refine g_aload_n (pc := 1160) (j := 2) (dk d_mL_law_19 8 rfl) rfl (by decide) ?_
  refine g_aload_n (pc := 1161) (j := 0) (dk d_mL_law_19 9 rfl) rfl (by decide) ?_
  refine g_iload_n (pc := 1162) (j := 3) (dk d_mL_law_19 10 rfl) rfl ?_
  refine g_iconst (pc := 1163) (dk d_mL_law_19 11 rfl) (by decide) ?_
  refine g_iadd (pc := 1164) (dk d_mL_law_19 12 rfl) ?_
  refine g_roald (pc := 1165) (q := 1) (by decide) rfl (lbnd hL hi 1 (by decide)) (dk d_mL_law_19 13 rfl) ?_
  refine g_aload_n (pc := 1166) (j := 0) (dk d_mL_law_19 14 rfl) rfl (by decide) ?_
  refine g_iload_n (pc := 1167) (j := 3) (dk d_mL_law_19 15 rfl) rfl ?_
  refine g_iconst (pc := 1168) (dk d_mL_law_19 16 rfl) (by decide) ?_
  refine g_iadd (pc := 1169) (dk d_mL_law_19 17 rfl) ?_
  refine g_roald (pc := 1170) (q := 1) (by decide) rfl (lbnd hL hi 2 (by decide)) (dk d_mL_law_19 18 rfl) ?_
  refine l_callVi (d := d + 207) (pc := 1171) (na := 2) (av := [pI (roV E 1 (w32 (i + 1))), pI (roV E 1 (w32 (i + 2)))]) (k0 := 46) po_46 ⟨_, rfl⟩ ⟨rfl, rfl⟩ (dk d_mL_law_19 19 rfl) lk_L_144 vm_mR_bet rfl rfl (Nat.le_of_ble_eq_true rfl) hcz (kR_bet E (d + 203) h2) ?_
  exact g_icmp_eq (pc := 1174) (tgt := 1645) (dk d_mL_law_19 20 rfl) rfl (fun _ => kk) (fun q => absurd rfl q)
set_option maxRecDepth 100000 in
set_option maxHeartbeats 4000000 in
theorem lc_31 (E : Nat × (Int → Int)) (d : Nat) {c z : Nat} (hL : E.1 ≤ 3072) (hE : ∀ i, I32 (E.2 i)) (hcz : c ≤ mC mL_law ∧ z ≤ mS mL_law) {Inv : WD → Prop} (ho : op1 Inv fB_led fR_led) {i : Int} (hi : 0 ≤ i ∧ i + 6 ≤ E.1) (w : WD) (hI : Inv w) : ∃ v, Inv v ∧ ∀ res, G E mL_law (d + 208) 1645 [(0, pR (-1)), (1, pR 0), (2, pR 46), (3, pI i)] [] v RF NN c z res → G E mL_law (d + 208) 1179 [(0, pR (-1)), (1, pR 0), (2, pR 46), (3, pI i)] [] w RF NN c z res := by
  obtain ⟨r, u, v, h1, h2, h3⟩ := ho (roV E 1 (w32 (i + 1))) w (lro hE _) hI
  refine ⟨v, h3, fun res kk => ?_⟩
  refine g_aload_n (pc := 1179) (j := 1) (dk d_mL_law_19 23 rfl) rfl (by decide) ?_
  refine g_aload_n (pc := 1180) (j := 0) (dk d_mL_law_19 24 rfl) rfl (by decide) ?_
  refine g_iload_n (pc := 1181) (j := 3) (dk d_mL_law_19 25 rfl) rfl ?_
  refine g_iconst (pc := 1182) (dk d_mL_law_19 26 rfl) (by decide) ?_
  refine g_iadd (pc := 1183) (dk d_mL_law_19 27 rfl) ?_
  refine g_roald (pc := 1184) (q := 1) (by decide) rfl (lbnd hL hi 1 (by decide)) (dk d_mL_law_19 28 rfl) ?_
  refine l_callVi (d := d + 207) (pc := 1185) (na := 1) (av := [pI (roV E 1 (w32 (i + 1)))]) (k0 := 0) po_0 ⟨_, rfl⟩ ⟨rfl, rfl⟩ (dk d_mL_law_19 29 rfl) lk_L_145 vm_mB_led rfl rfl (Nat.le_of_ble_eq_true rfl) hcz (kB_led E (d + 205) h1) ?_
  refine g_aload_n (pc := 1188) (j := 2) (dk d_mL_law_19 30 rfl) rfl (by decide) ?_
  refine g_aload_n (pc := 1189) (j := 0) (dk d_mL_law_19 31 rfl) rfl (by decide) ?_
  refine g_iload_n (pc := 1190) (j := 3) (dk d_mL_law_19 32 rfl) rfl ?_
  refine g_iconst (pc := 1191) (dk d_mL_law_19 33 rfl) (by decide) ?_
  refine g_iadd (pc := 1192) (dk d_mL_law_19 34 rfl) ?_
  refine g_roald (pc := 1193) (q := 1) (by decide) rfl (lbnd hL hi 1 (by decide)) (dk d_mL_law_19 35 rfl) ?_
  refine l_callVi (d := d + 207) (pc := 1194) (na := 1) (av := [pI (roV E 1 (w32 (i + 1)))]) (k0 := 46) po_46 ⟨_, rfl⟩ ⟨rfl, rfl⟩ (dk d_mL_law_19 36 rfl) lk_L_148 vm_mR_led rfl rfl (Nat.le_of_ble_eq_true rfl) hcz (kR_led E (d + 205) h2) ?_
  exact g_icmp_eq (pc := 1197) (tgt := 1645) (dk d_mL_law_19 37 rfl) rfl (fun _ => kk) (fun q => absurd rfl q)
set_option maxRecDepth 100000 in
set_option maxHeartbeats 4000000 in
theorem lc_32 (E : Nat × (Int → Int)) (d : Nat) {c z : Nat} (hL : E.1 ≤ 3072) (hE : ∀ i, I32 (E.2 i)) (hcz : c ≤ mC mL_law ∧ z ≤ mS mL_law) {Inv : WD → Prop} (ho : op0 Inv fB_image fR_image) {i : Int} (hi : 0 ≤ i ∧ i + 6 ≤ E.1) (w : WD) (hI : Inv w) : ∃ v, Inv v ∧ ∀ res, G E mL_law (d + 208) 1645 [(0, pR (-1)), (1, pR 0), (2, pR 46), (3, pI i)] [] v RF NN c z res → G E mL_law (d + 208) 1202 [(0, pR (-1)), (1, pR 0), (2, pR 46), (3, pI i)] [] w RF NN c z res := by
  obtain ⟨r, u, v, h1, h2, h3⟩ := ho w hI
  refine ⟨v, h3, fun res kk => ?_⟩
  refine g_aload_n (pc := 1202) (j := 1) (dk d_mL_law_20 0 rfl) rfl (by decide) ?_
  refine l_callVi (d := d + 207) (pc := 1203) (na := 0) (av := []) (k0 := 0) po_0 ⟨_, rfl⟩ ⟨rfl, rfl⟩ (dk d_mL_law_20 1 rfl) lk_L_149 vm_mB_image rfl rfl (Nat.le_of_ble_eq_true rfl) hcz (kB_image E (d + 203) h1) ?_
  refine g_aload_n (pc := 1206) (j := 2) (dk d_mL_law_20 2 rfl) rfl (by decide) ?_
  refine l_callVi (d := d + 207) (pc := 1207) (na := 0) (av := []) (k0 := 46) po_46 ⟨_, rfl⟩ ⟨rfl, rfl⟩ (dk d_mL_law_20 3 rfl) lk_L_152 vm_mR_image rfl rfl (Nat.le_of_ble_eq_true rfl) hcz (kR_image E (d + 206) h2) ?_
  exact g_icmp_eq (pc := 1210) (tgt := 1645) (dk d_mL_law_20 4 rfl) rfl (fun _ => kk) (fun q => absurd rfl q)
set_option maxRecDepth 100000 in
set_option maxHeartbeats 4000000 in
theorem lc_33 (E : Nat × (Int → Int)) (d : Nat) {c z : Nat} (hL : E.1 ≤ 3072) (hE : ∀ i, I32 (E.2 i)) (hcz : c ≤ mC mL_law ∧ z ≤ mS mL_law) {Inv : WD → Prop} (ho : op0 Inv fB_back fR_back) {i : Int} (hi : 0 ≤ i ∧ i + 6 ≤ E.1) (w : WD) (hI : Inv w) : ∃ v, Inv v ∧ ∀ res, G E mL_law (d + 208) 1645 [(0, pR (-1)), (1, pR 0), (2, pR 46), (3, pI i)] [] v RF NN c z res → G E mL_law (d + 208) 1215 [(0, pR (-1)), (1, pR 0), (2, pR 46), (3, pI i)] [] w RF NN c z res := by
  obtain ⟨r, u, v, h1, h2, h3⟩ := ho w hI
  refine ⟨v, h3, fun res kk => ?_⟩
  refine g_aload_n (pc := 1215) (j := 1) (dk d_mL_law_20 7 rfl) rfl (by decide) ?_
  refine l_callVi (d := d + 207) (pc := 1216) (na := 0) (av := []) (k0 := 0) po_0 ⟨_, rfl⟩ ⟨rfl, rfl⟩ (dk d_mL_law_20 8 rfl) lk_L_153 vm_mB_back rfl rfl (Nat.le_of_ble_eq_true rfl) hcz (kB_back E (d + 203) h1) ?_
  refine g_aload_n (pc := 1219) (j := 2) (dk d_mL_law_20 9 rfl) rfl (by decide) ?_
  refine l_callVi (d := d + 207) (pc := 1220) (na := 0) (av := []) (k0 := 46) po_46 ⟨_, rfl⟩ ⟨rfl, rfl⟩ (dk d_mL_law_20 10 rfl) lk_L_156 vm_mR_back rfl rfl (Nat.le_of_ble_eq_true rfl) hcz (kR_back E (d + 206) h2) ?_
  exact g_icmp_eq (pc := 1223) (tgt := 1645) (dk d_mL_law_20 11 rfl) rfl (fun _ => kk) (fun q => absurd rfl q)
set_option maxRecDepth 100000 in
set_option maxHeartbeats 4000000 in
theorem lc_34 (E : Nat × (Int → Int)) (d : Nat) {c z : Nat} (hL : E.1 ≤ 3072) (hE : ∀ i, I32 (E.2 i)) (hcz : c ≤ mC mL_law ∧ z ≤ mS mL_law) {Inv : WD → Prop} (ho : op0 Inv fB_undo fR_undo) {i : Int} (hi : 0 ≤ i ∧ i + 6 ≤ E.1) (w : WD) (hI : Inv w) : ∃ v, Inv v ∧ ∀ res, G E mL_law (d + 208) 1645 [(0, pR (-1)), (1, pR 0), (2, pR 46), (3, pI i)] [] v RF NN c z res → G E mL_law (d + 208) 1228 [(0, pR (-1)), (1, pR 0), (2, pR 46), (3, pI i)] [] w RF NN c z res := by
  obtain ⟨r, u, v, h1, h2, h3⟩ := ho w hI
  refine ⟨v, h3, fun res kk => ?_⟩
  refine g_aload_n (pc := 1228) (j := 1) (dk d_mL_law_20 14 rfl) rfl (by decide) ?_
  refine l_callVi (d := d + 207) (pc := 1229) (na := 0) (av := []) (k0 := 0) po_0 ⟨_, rfl⟩ ⟨rfl, rfl⟩ (dk d_mL_law_20 15 rfl) lk_L_157 vm_mB_undo rfl rfl (Nat.le_of_ble_eq_true rfl) hcz (kB_undo E (d + 204) h1) ?_
  refine g_aload_n (pc := 1232) (j := 2) (dk d_mL_law_20 16 rfl) rfl (by decide) ?_
  refine l_callVi (d := d + 207) (pc := 1233) (na := 0) (av := []) (k0 := 46) po_46 ⟨_, rfl⟩ ⟨rfl, rfl⟩ (dk d_mL_law_20 17 rfl) lk_L_160 vm_mR_undo rfl rfl (Nat.le_of_ble_eq_true rfl) hcz (kR_undo E (d + 205) h2) ?_
  exact g_icmp_eq (pc := 1236) (tgt := 1645) (dk d_mL_law_20 18 rfl) rfl (fun _ => kk) (fun q => absurd rfl q)
set_option maxRecDepth 100000 in
set_option maxHeartbeats 4000000 in
theorem lc_35 (E : Nat × (Int → Int)) (d : Nat) {c z : Nat} (hL : E.1 ≤ 3072) (hE : ∀ i, I32 (E.2 i)) (hcz : c ≤ mC mL_law ∧ z ≤ mS mL_law) {Inv : WD → Prop} (ho : op0 Inv fB_redo fR_redo) {i : Int} (hi : 0 ≤ i ∧ i + 6 ≤ E.1) (w : WD) (hI : Inv w) : ∃ v, Inv v ∧ ∀ res, G E mL_law (d + 208) 1645 [(0, pR (-1)), (1, pR 0), (2, pR 46), (3, pI i)] [] v RF NN c z res → G E mL_law (d + 208) 1241 [(0, pR (-1)), (1, pR 0), (2, pR 46), (3, pI i)] [] w RF NN c z res := by
  obtain ⟨r, u, v, h1, h2, h3⟩ := ho w hI
  refine ⟨v, h3, fun res kk => ?_⟩
  refine g_aload_n (pc := 1241) (j := 1) (dk d_mL_law_20 21 rfl) rfl (by decide) ?_
  refine l_callVi (d := d + 207) (pc := 1242) (na := 0) (av := []) (k0 := 0) po_0 ⟨_, rfl⟩ ⟨rfl, rfl⟩ (dk d_mL_law_20 22 rfl) lk_L_161 vm_mB_redo rfl rfl (Nat.le_of_ble_eq_true rfl) hcz (kB_redo E (d + 204) h1) ?_
  refine g_aload_n (pc := 1245) (j := 2) (dk d_mL_law_20 23 rfl) rfl (by decide) ?_
  refine l_callVi (d := d + 207) (pc := 1246) (na := 0) (av := []) (k0 := 46) po_46 ⟨_, rfl⟩ ⟨rfl, rfl⟩ (dk d_mL_law_20 24 rfl) lk_L_164 vm_mR_redo rfl rfl (Nat.le_of_ble_eq_true rfl) hcz (kR_redo E (d + 205) h2) ?_
  exact g_icmp_eq (pc := 1249) (tgt := 1645) (dk d_mL_law_20 25 rfl) rfl (fun _ => kk) (fun q => absurd rfl q)
set_option maxRecDepth 100000 in
set_option maxHeartbeats 4000000 in
theorem lc_36 (E : Nat × (Int → Int)) (d : Nat) {c z : Nat} (hL : E.1 ≤ 3072) (hE : ∀ i, I32 (E.2 i)) (hcz : c ≤ mC mL_law ∧ z ≤ mS mL_law) {Inv : WD → Prop} (ho : op1 Inv fB_body fR_body) {i : Int} (hi : 0 ≤ i ∧ i + 6 ≤ E.1) (w : WD) (hI : Inv w) : ∃ v, Inv v ∧ ∀ res, G E mL_law (d + 208) 1645 [(0, pR (-1)), (1, pR 0), (2, pR 46), (3, pI i)] [] v RF NN c z res → G E mL_law (d + 208) 1254 [(0, pR (-1)), (1, pR 0), (2, pR 46), (3, pI i)] [] w RF NN c z res := by
  obtain ⟨r, u, v, h1, h2, h3⟩ := ho (roV E 1 (w32 (i + 1))) w (lro hE _) hI
  refine ⟨v, h3, fun res kk => ?_⟩
  refine g_aload_n (pc := 1254) (j := 1) (dk d_mL_law_20 28 rfl) rfl (by decide) ?_
  refine g_aload_n (pc := 1255) (j := 0) (dk d_mL_law_20 29 rfl) rfl (by decide) ?_
  refine g_iload_n (pc := 1256) (j := 3) (dk d_mL_law_20 30 rfl) rfl ?_
  refine g_iconst (pc := 1257) (dk d_mL_law_20 31 rfl) (by decide) ?_
  refine g_iadd (pc := 1258) (dk d_mL_law_20 32 rfl) ?_
  refine g_roald (pc := 1259) (q := 1) (by decide) rfl (lbnd hL hi 1 (by decide)) (dk d_mL_law_20 33 rfl) ?_
  refine l_callVi (d := d + 207) (pc := 1260) (na := 1) (av := [pI (roV E 1 (w32 (i + 1)))]) (k0 := 0) po_0 ⟨_, rfl⟩ ⟨rfl, rfl⟩ (dk d_mL_law_20 34 rfl) lk_L_165 vm_mB_body rfl rfl (Nat.le_of_ble_eq_true rfl) hcz (kB_body E (d + 205) h1) ?_
  refine g_aload_n (pc := 1263) (j := 2) (dk d_mL_law_20 35 rfl) rfl (by decide) ?_
  refine g_aload_n (pc := 1264) (j := 0) (dk d_mL_law_20 36 rfl) rfl (by decide) ?_
  refine g_iload_n (pc := 1265) (j := 3) (dk d_mL_law_20 37 rfl) rfl ?_
  refine g_iconst (pc := 1266) (dk d_mL_law_20 38 rfl) (by decide) ?_
  refine g_iadd (pc := 1267) (dk d_mL_law_20 39 rfl) ?_
  refine g_roald (pc := 1268) (q := 1) (by decide) rfl (lbnd hL hi 1 (by decide)) (dk d_mL_law_21 0 rfl) ?_
  refine l_callVi (d := d + 207) (pc := 1269) (na := 1) (av := [pI (roV E 1 (w32 (i + 1)))]) (k0 := 46) po_46 ⟨_, rfl⟩ ⟨rfl, rfl⟩ (dk d_mL_law_21 1 rfl) lk_L_168 vm_mR_body rfl rfl (Nat.le_of_ble_eq_true rfl) hcz (kR_body E (d + 205) h2) ?_
  exact g_icmp_eq (pc := 1272) (tgt := 1645) (dk d_mL_law_21 2 rfl) rfl (fun _ => kk) (fun q => absurd rfl q)
set_option maxRecDepth 100000 in
set_option maxHeartbeats 4000000 in
theorem lc_37 (E : Nat × (Int → Int)) (d : Nat) {c z : Nat} (hL : E.1 ≤ 3072) (hE : ∀ i, I32 (E.2 i)) (hcz : c ≤ mC mL_law ∧ z ≤ mS mL_law) {Inv : WD → Prop} (ho : op3 Inv fB_act fR_act) {i : Int} (hi : 0 ≤ i ∧ i + 6 ≤ E.1) (w : WD) (hI : Inv w) : ∃ v, Inv v ∧ ∀ res, G E mL_law (d + 208) 1645 [(0, pR (-1)), (1, pR 0), (2, pR 46), (3, pI i)] [] v RF NN c z res → G E mL_law (d + 208) 1277 [(0, pR (-1)), (1, pR 0), (2, pR 46), (3, pI i)] [] w RF NN c z res := by
  obtain ⟨r, u, v, h1, h2, h3⟩ := ho (roV E 1 (w32 (i + 1))) (roV E 1 (w32 (i + 2))) (roV E 1 (w32 (i + 3))) w (lro hE _) (lro hE _) (lro hE _) hI
  refine ⟨v, h3, fun res kk => ?_⟩
  refine g_aload_n (pc := 1277) (j := 1) (dk d_mL_law_21 5 rfl) rfl (by decide) ?_
  refine g_aload_n (pc := 1278) (j := 0) (dk d_mL_law_21 6 rfl) rfl (by decide) ?_
  refine g_iload_n (pc := 1279) (j := 3) (dk d_mL_law_21 7 rfl) rfl ?_
  refine g_iconst (pc := 1280) (dk d_mL_law_21 8 rfl) (by decide) ?_
  refine g_iadd (pc := 1281) (dk d_mL_law_21 9 rfl) ?_
  refine g_roald (pc := 1282) (q := 1) (by decide) rfl (lbnd hL hi 1 (by decide)) (dk d_mL_law_21 10 rfl) ?_
  refine g_aload_n (pc := 1283) (j := 0) (dk d_mL_law_21 11 rfl) rfl (by decide) ?_
  refine g_iload_n (pc := 1284) (j := 3) (dk d_mL_law_21 12 rfl) rfl ?_
  refine g_iconst (pc := 1285) (dk d_mL_law_21 13 rfl) (by decide) ?_
  refine g_iadd (pc := 1286) (dk d_mL_law_21 14 rfl) ?_
  refine g_roald (pc := 1287) (q := 1) (by decide) rfl (lbnd hL hi 2 (by decide)) (dk d_mL_law_21 15 rfl) ?_
  refine g_aload_n (pc := 1288) (j := 0) (dk d_mL_law_21 16 rfl) rfl (by decide) ?_
  refine g_iload_n (pc := 1289) (j := 3) (dk d_mL_law_21 17 rfl) rfl ?_
  refine g_iconst (pc := 1290) (dk d_mL_law_21 18 rfl) (by decide) ?_
  refine g_iadd (pc := 1291) (dk d_mL_law_21 19 rfl) ?_
  refine g_roald (pc := 1292) (q := 1) (by decide) rfl (lbnd hL hi 3 (by decide)) (dk d_mL_law_21 20 rfl) ?_
  refine l_callVi (d := d + 207) (pc := 1293) (na := 3) (av := [pI (roV E 1 (w32 (i + 1))), pI (roV E 1 (w32 (i + 2))), pI (roV E 1 (w32 (i + 3)))]) (k0 := 0) po_0 ⟨_, rfl⟩ ⟨rfl, rfl⟩ (dk d_mL_law_21 21 rfl) lk_L_169 vm_mB_act rfl rfl (Nat.le_of_ble_eq_true rfl) hcz (kB_act E (d + 2) h1) ?_
  refine g_aload_n (pc := 1296) (j := 2) (dk d_mL_law_21 22 rfl) rfl (by decide) ?_
  refine g_aload_n (pc := 1297) (j := 0) (dk d_mL_law_21 23 rfl) rfl (by decide) ?_
  refine g_iload_n (pc := 1298) (j := 3) (dk d_mL_law_21 24 rfl) rfl ?_
  refine g_iconst (pc := 1299) (dk d_mL_law_21 25 rfl) (by decide) ?_
  refine g_iadd (pc := 1300) (dk d_mL_law_21 26 rfl) ?_
  refine g_roald (pc := 1301) (q := 1) (by decide) rfl (lbnd hL hi 1 (by decide)) (dk d_mL_law_21 27 rfl) ?_
  refine g_aload_n (pc := 1302) (j := 0) (dk d_mL_law_21 28 rfl) rfl (by decide) ?_
  refine g_iload_n (pc := 1303) (j := 3) (dk d_mL_law_21 29 rfl) rfl ?_
  refine g_iconst (pc := 1304) (dk d_mL_law_21 30 rfl) (by decide) ?_
  refine g_iadd (pc := 1305) (dk d_mL_law_21 31 rfl) ?_
  refine g_roald (pc := 1306) (q := 1) (by decide) rfl (lbnd hL hi 2 (by decide)) (dk d_mL_law_21 32 rfl) ?_
  refine g_aload_n (pc := 1307) (j := 0) (dk d_mL_law_21 33 rfl) rfl (by decide) ?_
  refine g_iload_n (pc := 1308) (j := 3) (dk d_mL_law_21 34 rfl) rfl ?_
  refine g_iconst (pc := 1309) (dk d_mL_law_21 35 rfl) (by decide) ?_
  refine g_iadd (pc := 1310) (dk d_mL_law_21 36 rfl) ?_
  refine g_roald (pc := 1311) (q := 1) (by decide) rfl (lbnd hL hi 3 (by decide)) (dk d_mL_law_21 37 rfl) ?_
  refine l_callVi (d := d + 207) (pc := 1312) (na := 3) (av := [pI (roV E 1 (w32 (i + 1))), pI (roV E 1 (w32 (i + 2))), pI (roV E 1 (w32 (i + 3)))]) (k0 := 46) po_46 ⟨_, rfl⟩ ⟨rfl, rfl⟩ (dk d_mL_law_21 38 rfl) lk_L_172 vm_mR_act rfl rfl (Nat.le_of_ble_eq_true rfl) hcz (kR_act E (d + 197) h2) ?_
  exact g_icmp_eq (pc := 1315) (tgt := 1645) (dk d_mL_law_21 39 rfl) rfl (fun _ => kk) (fun q => absurd rfl q)
set_option maxRecDepth 100000 in
set_option maxHeartbeats 4000000 in
theorem lc_38 (E : Nat × (Int → Int)) (d : Nat) {c z : Nat} (hL : E.1 ≤ 3072) (hE : ∀ i, I32 (E.2 i)) (hcz : c ≤ mC mL_law ∧ z ≤ mS mL_law) {Inv : WD → Prop} (ho : op1 Inv fB_trace fR_trace) {i : Int} (hi : 0 ≤ i ∧ i + 6 ≤ E.1) (w : WD) (hI : Inv w) : ∃ v, Inv v ∧ ∀ res, G E mL_law (d + 208) 1645 [(0, pR (-1)), (1, pR 0), (2, pR 46), (3, pI i)] [] v RF NN c z res → G E mL_law (d + 208) 1320 [(0, pR (-1)), (1, pR 0), (2, pR 46), (3, pI i)] [] w RF NN c z res := by
  obtain ⟨r, u, v, h1, h2, h3⟩ := ho (roV E 1 (w32 (i + 1))) w (lro hE _) hI
  refine ⟨v, h3, fun res kk => ?_⟩
  refine g_aload_n (pc := 1320) (j := 1) (dk d_mL_law_22 2 rfl) rfl (by decide) ?_
  refine g_aload_n (pc := 1321) (j := 0) (dk d_mL_law_22 3 rfl) rfl (by decide) ?_
  refine g_iload_n (pc := 1322) (j := 3) (dk d_mL_law_22 4 rfl) rfl ?_
  refine g_iconst (pc := 1323) (dk d_mL_law_22 5 rfl) (by decide) ?_
  refine g_iadd (pc := 1324) (dk d_mL_law_22 6 rfl) ?_
  refine g_roald (pc := 1325) (q := 1) (by decide) rfl (lbnd hL hi 1 (by decide)) (dk d_mL_law_22 7 rfl) ?_
  refine l_callVi (d := d + 207) (pc := 1326) (na := 1) (av := [pI (roV E 1 (w32 (i + 1)))]) (k0 := 0) po_0 ⟨_, rfl⟩ ⟨rfl, rfl⟩ (dk d_mL_law_22 8 rfl) lk_L_173 vm_mB_trace rfl rfl (Nat.le_of_ble_eq_true rfl) hcz (kB_trace E (d + 205) h1) ?_
  refine g_aload_n (pc := 1329) (j := 2) (dk d_mL_law_22 9 rfl) rfl (by decide) ?_
  refine g_aload_n (pc := 1330) (j := 0) (dk d_mL_law_22 10 rfl) rfl (by decide) ?_
  refine g_iload_n (pc := 1331) (j := 3) (dk d_mL_law_22 11 rfl) rfl ?_
  refine g_iconst (pc := 1332) (dk d_mL_law_22 12 rfl) (by decide) ?_
  refine g_iadd (pc := 1333) (dk d_mL_law_22 13 rfl) ?_
  refine g_roald (pc := 1334) (q := 1) (by decide) rfl (lbnd hL hi 1 (by decide)) (dk d_mL_law_22 14 rfl) ?_
  refine l_callVi (d := d + 207) (pc := 1335) (na := 1) (av := [pI (roV E 1 (w32 (i + 1)))]) (k0 := 46) po_46 ⟨_, rfl⟩ ⟨rfl, rfl⟩ (dk d_mL_law_22 15 rfl) lk_L_176 vm_mR_trace rfl rfl (Nat.le_of_ble_eq_true rfl) hcz (kR_trace E (d + 206) h2) ?_
  exact g_icmp_eq (pc := 1338) (tgt := 1645) (dk d_mL_law_22 16 rfl) rfl (fun _ => kk) (fun q => absurd rfl q)
set_option maxRecDepth 100000 in
set_option maxHeartbeats 4000000 in
theorem lc_39 (E : Nat × (Int → Int)) (d : Nat) {c z : Nat} (hL : E.1 ≤ 3072) (hE : ∀ i, I32 (E.2 i)) (hcz : c ≤ mC mL_law ∧ z ≤ mS mL_law) {Inv : WD → Prop} (ho : op2 Inv fB_keep fR_keep) {i : Int} (hi : 0 ≤ i ∧ i + 6 ≤ E.1) (w : WD) (hI : Inv w) : ∃ v, Inv v ∧ ∀ res, G E mL_law (d + 208) 1645 [(0, pR (-1)), (1, pR 0), (2, pR 46), (3, pI i)] [] v RF NN c z res → G E mL_law (d + 208) 1343 [(0, pR (-1)), (1, pR 0), (2, pR 46), (3, pI i)] [] w RF NN c z res := by
  obtain ⟨r, u, v, h1, h2, h3⟩ := ho (roV E 1 (w32 (i + 1))) (roV E 1 (w32 (i + 2))) w (lro hE _) (lro hE _) hI
  refine ⟨v, h3, fun res kk => ?_⟩
  refine g_aload_n (pc := 1343) (j := 1) (dk d_mL_law_22 19 rfl) rfl (by decide) ?_
  refine g_aload_n (pc := 1344) (j := 0) (dk d_mL_law_22 20 rfl) rfl (by decide) ?_
  refine g_iload_n (pc := 1345) (j := 3) (dk d_mL_law_22 21 rfl) rfl ?_
  refine g_iconst (pc := 1346) (dk d_mL_law_22 22 rfl) (by decide) ?_
  refine g_iadd (pc := 1347) (dk d_mL_law_22 23 rfl) ?_
  refine g_roald (pc := 1348) (q := 1) (by decide) rfl (lbnd hL hi 1 (by decide)) (dk d_mL_law_22 24 rfl) ?_
  refine g_aload_n (pc := 1349) (j := 0) (dk d_mL_law_22 25 rfl) rfl (by decide) ?_
  refine g_iload_n (pc := 1350) (j := 3) (dk d_mL_law_22 26 rfl) rfl ?_
  refine g_iconst (pc := 1351) (dk d_mL_law_22 27 rfl) (by decide) ?_
  refine g_iadd (pc := 1352) (dk d_mL_law_22 28 rfl) ?_
  refine g_roald (pc := 1353) (q := 1) (by decide) rfl (lbnd hL hi 2 (by decide)) (dk d_mL_law_22 29 rfl) ?_
  refine l_callVi (d := d + 207) (pc := 1354) (na := 2) (av := [pI (roV E 1 (w32 (i + 1))), pI (roV E 1 (w32 (i + 2)))]) (k0 := 0) po_0 ⟨_, rfl⟩ ⟨rfl, rfl⟩ (dk d_mL_law_22 30 rfl) lk_L_177 vm_mB_keep rfl rfl (Nat.le_of_ble_eq_true rfl) hcz (kB_keep E (d + 205) h1) ?_
  refine g_aload_n (pc := 1357) (j := 2) (dk d_mL_law_22 31 rfl) rfl (by decide) ?_
  refine g_aload_n (pc := 1358) (j := 0) (dk d_mL_law_22 32 rfl) rfl (by decide) ?_
  refine g_iload_n (pc := 1359) (j := 3) (dk d_mL_law_22 33 rfl) rfl ?_
  refine g_iconst (pc := 1360) (dk d_mL_law_22 34 rfl) (by decide) ?_
  refine g_iadd (pc := 1361) (dk d_mL_law_22 35 rfl) ?_
  refine g_roald (pc := 1362) (q := 1) (by decide) rfl (lbnd hL hi 1 (by decide)) (dk d_mL_law_22 36 rfl) ?_
  refine g_aload_n (pc := 1363) (j := 0) (dk d_mL_law_22 37 rfl) rfl (by decide) ?_
  refine g_iload_n (pc := 1364) (j := 3) (dk d_mL_law_22 38 rfl) rfl ?_
  refine g_iconst (pc := 1365) (dk d_mL_law_22 39 rfl) (by decide) ?_
  refine g_iadd (pc := 1366) (dk d_mL_law_23 0 rfl) ?_
  refine g_roald (pc := 1367) (q := 1) (by decide) rfl (lbnd hL hi 2 (by decide)) (dk d_mL_law_23 1 rfl) ?_
  refine l_callVi (d := d + 207) (pc := 1368) (na := 2) (av := [pI (roV E 1 (w32 (i + 1))), pI (roV E 1 (w32 (i + 2)))]) (k0 := 46) po_46 ⟨_, rfl⟩ ⟨rfl, rfl⟩ (dk d_mL_law_23 2 rfl) lk_L_180 vm_mR_keep rfl rfl (Nat.le_of_ble_eq_true rfl) hcz (kR_keep E (d + 204) h2) ?_
  exact g_icmp_eq (pc := 1371) (tgt := 1645) (dk d_mL_law_23 3 rfl) rfl (fun _ => kk) (fun q => absurd rfl q)
set_option maxRecDepth 100000 in
set_option maxHeartbeats 4000000 in
theorem lc_40 (E : Nat × (Int → Int)) (d : Nat) {c z : Nat} (hL : E.1 ≤ 3072) (hE : ∀ i, I32 (E.2 i)) (hcz : c ≤ mC mL_law ∧ z ≤ mS mL_law) {Inv : WD → Prop} (ho : op3 Inv fB_row fR_row) {i : Int} (hi : 0 ≤ i ∧ i + 6 ≤ E.1) (w : WD) (hI : Inv w) : ∃ v, Inv v ∧ ∀ res, G E mL_law (d + 208) 1645 [(0, pR (-1)), (1, pR 0), (2, pR 46), (3, pI i)] [] v RF NN c z res → G E mL_law (d + 208) 1376 [(0, pR (-1)), (1, pR 0), (2, pR 46), (3, pI i)] [] w RF NN c z res := by
  obtain ⟨r, u, v, h1, h2, h3⟩ := ho (roV E 1 (w32 (i + 1))) (roV E 1 (w32 (i + 2))) (roV E 1 (w32 (i + 3))) w (lro hE _) (lro hE _) (lro hE _) hI
  refine ⟨v, h3, fun res kk => ?_⟩
  refine g_aload_n (pc := 1376) (j := 1) (dk d_mL_law_23 6 rfl) rfl (by decide) ?_
  refine g_aload_n (pc := 1377) (j := 0) (dk d_mL_law_23 7 rfl) rfl (by decide) ?_
  refine g_iload_n (pc := 1378) (j := 3) (dk d_mL_law_23 8 rfl) rfl ?_
  refine g_iconst (pc := 1379) (dk d_mL_law_23 9 rfl) (by decide) ?_
  refine g_iadd (pc := 1380) (dk d_mL_law_23 10 rfl) ?_
  refine g_roald (pc := 1381) (q := 1) (by decide) rfl (lbnd hL hi 1 (by decide)) (dk d_mL_law_23 11 rfl) ?_
  refine g_aload_n (pc := 1382) (j := 0) (dk d_mL_law_23 12 rfl) rfl (by decide) ?_
  refine g_iload_n (pc := 1383) (j := 3) (dk d_mL_law_23 13 rfl) rfl ?_
  refine g_iconst (pc := 1384) (dk d_mL_law_23 14 rfl) (by decide) ?_
  refine g_iadd (pc := 1385) (dk d_mL_law_23 15 rfl) ?_
  refine g_roald (pc := 1386) (q := 1) (by decide) rfl (lbnd hL hi 2 (by decide)) (dk d_mL_law_23 16 rfl) ?_
  refine g_aload_n (pc := 1387) (j := 0) (dk d_mL_law_23 17 rfl) rfl (by decide) ?_
  refine g_iload_n (pc := 1388) (j := 3) (dk d_mL_law_23 18 rfl) rfl ?_
  refine g_iconst (pc := 1389) (dk d_mL_law_23 19 rfl) (by decide) ?_
  refine g_iadd (pc := 1390) (dk d_mL_law_23 20 rfl) ?_
  refine g_roald (pc := 1391) (q := 1) (by decide) rfl (lbnd hL hi 3 (by decide)) (dk d_mL_law_23 21 rfl) ?_
  refine l_callVi (d := d + 207) (pc := 1392) (na := 3) (av := [pI (roV E 1 (w32 (i + 1))), pI (roV E 1 (w32 (i + 2))), pI (roV E 1 (w32 (i + 3)))]) (k0 := 0) po_0 ⟨_, rfl⟩ ⟨rfl, rfl⟩ (dk d_mL_law_23 22 rfl) lk_L_181 vm_mB_row rfl rfl (Nat.le_of_ble_eq_true rfl) hcz (kB_row E (d + 205) h1) ?_
  refine g_aload_n (pc := 1395) (j := 2) (dk d_mL_law_23 23 rfl) rfl (by decide) ?_
  refine g_aload_n (pc := 1396) (j := 0) (dk d_mL_law_23 24 rfl) rfl (by decide) ?_
  refine g_iload_n (pc := 1397) (j := 3) (dk d_mL_law_23 25 rfl) rfl ?_
  refine g_iconst (pc := 1398) (dk d_mL_law_23 26 rfl) (by decide) ?_
  refine g_iadd (pc := 1399) (dk d_mL_law_23 27 rfl) ?_
  refine g_roald (pc := 1400) (q := 1) (by decide) rfl (lbnd hL hi 1 (by decide)) (dk d_mL_law_23 28 rfl) ?_
  refine g_aload_n (pc := 1401) (j := 0) (dk d_mL_law_23 29 rfl) rfl (by decide) ?_
  refine g_iload_n (pc := 1402) (j := 3) (dk d_mL_law_23 30 rfl) rfl ?_
  refine g_iconst (pc := 1403) (dk d_mL_law_23 31 rfl) (by decide) ?_
  refine g_iadd (pc := 1404) (dk d_mL_law_23 32 rfl) ?_
  refine g_roald (pc := 1405) (q := 1) (by decide) rfl (lbnd hL hi 2 (by decide)) (dk d_mL_law_23 33 rfl) ?_
  refine g_aload_n (pc := 1406) (j := 0) (dk d_mL_law_23 34 rfl) rfl (by decide) ?_
  refine g_iload_n (pc := 1407) (j := 3) (dk d_mL_law_23 35 rfl) rfl ?_
  refine g_iconst (pc := 1408) (dk d_mL_law_23 36 rfl) (by decide) ?_
  refine g_iadd (pc := 1409) (dk d_mL_law_23 37 rfl) ?_
  refine g_roald (pc := 1410) (q := 1) (by decide) rfl (lbnd hL hi 3 (by decide)) (dk d_mL_law_23 38 rfl) ?_
  refine l_callVi (d := d + 207) (pc := 1411) (na := 3) (av := [pI (roV E 1 (w32 (i + 1))), pI (roV E 1 (w32 (i + 2))), pI (roV E 1 (w32 (i + 3)))]) (k0 := 46) po_46 ⟨_, rfl⟩ ⟨rfl, rfl⟩ (dk d_mL_law_23 39 rfl) lk_L_184 vm_mR_row rfl rfl (Nat.le_of_ble_eq_true rfl) hcz (kR_row E (d + 204) h2) ?_
  exact g_icmp_eq (pc := 1414) (tgt := 1645) (dk d_mL_law_24 0 rfl) rfl (fun _ => kk) (fun q => absurd rfl q)
set_option maxRecDepth 100000 in
set_option maxHeartbeats 4000000 in
theorem lc_41 (E : Nat × (Int → Int)) (d : Nat) {c z : Nat} (hL : E.1 ≤ 3072) (hE : ∀ i, I32 (E.2 i)) (hcz : c ≤ mC mL_law ∧ z ≤ mS mL_law) {Inv : WD → Prop} (ho : op3l Inv fB_put fR_put) {i : Int} (hi : 0 ≤ i ∧ i + 6 ≤ E.1) (w : WD) (hI : Inv w) : ∃ v, Inv v ∧ ∀ res, G E mL_law (d + 208) 1645 [(0, pR (-1)), (1, pR 0), (2, pR 46), (3, pI i)] [] v RF NN c z res → G E mL_law (d + 208) 1419 [(0, pR (-1)), (1, pR 0), (2, pR 46), (3, pI i)] [] w RF NN c z res := by
  obtain ⟨r, u, v, h1, h2, h3⟩ := ho (roV E 1 (w32 (i + 1))) (roV E 1 (w32 (i + 2))) (lOr (lShl (roV E 1 (w32 (i + 3))) 32) (lAnd (roV E 1 (w32 (i + 4))) 4294967295)) w (lro hE _) (lro hE _) (lor_r _ _) hI
  refine ⟨v, h3, fun res kk => ?_⟩
  refine g_aload_n (pc := 1419) (j := 1) (dk d_mL_law_24 3 rfl) rfl (by decide) ?_
  refine g_aload_n (pc := 1420) (j := 0) (dk d_mL_law_24 4 rfl) rfl (by decide) ?_
  refine g_iload_n (pc := 1421) (j := 3) (dk d_mL_law_24 5 rfl) rfl ?_
  refine g_iconst (pc := 1422) (dk d_mL_law_24 6 rfl) (by decide) ?_
  refine g_iadd (pc := 1423) (dk d_mL_law_24 7 rfl) ?_
  refine g_roald (pc := 1424) (q := 1) (by decide) rfl (lbnd hL hi 1 (by decide)) (dk d_mL_law_24 8 rfl) ?_
  refine g_aload_n (pc := 1425) (j := 0) (dk d_mL_law_24 9 rfl) rfl (by decide) ?_
  refine g_iload_n (pc := 1426) (j := 3) (dk d_mL_law_24 10 rfl) rfl ?_
  refine g_iconst (pc := 1427) (dk d_mL_law_24 11 rfl) (by decide) ?_
  refine g_iadd (pc := 1428) (dk d_mL_law_24 12 rfl) ?_
  refine g_roald (pc := 1429) (q := 1) (by decide) rfl (lbnd hL hi 2 (by decide)) (dk d_mL_law_24 13 rfl) ?_
  refine g_aload_n (pc := 1430) (j := 0) (dk d_mL_law_24 14 rfl) rfl (by decide) ?_
  refine g_iload_n (pc := 1431) (j := 3) (dk d_mL_law_24 15 rfl) rfl ?_
  refine g_iconst (pc := 1432) (dk d_mL_law_24 16 rfl) (by decide) ?_
  refine g_iadd (pc := 1433) (dk d_mL_law_24 17 rfl) ?_
  refine g_roald (pc := 1434) (q := 1) (by decide) rfl (lbnd hL hi 3 (by decide)) (dk d_mL_law_24 18 rfl) ?_
  refine g_i2l (pc := 1435) (dk d_mL_law_24 19 rfl) ?_
  refine g_bipush (pc := 1436) (dk d_mL_law_24 20 rfl) (by decide) ?_
  refine g_lshl (pc := 1438) (dk d_mL_law_24 21 rfl) ?_
  refine g_aload_n (pc := 1439) (j := 0) (dk d_mL_law_24 22 rfl) rfl (by decide) ?_
  refine g_iload_n (pc := 1440) (j := 3) (dk d_mL_law_24 23 rfl) rfl ?_
  refine g_iconst (pc := 1441) (dk d_mL_law_24 24 rfl) (by decide) ?_
  refine g_iadd (pc := 1442) (dk d_mL_law_24 25 rfl) ?_
  refine g_roald (pc := 1443) (q := 1) (by decide) rfl (lbnd hL hi 4 (by decide)) (dk d_mL_law_24 26 rfl) ?_
  refine g_i2l (pc := 1444) (dk d_mL_law_24 27 rfl) ?_
  refine g_ldc2 (pc := 1445) (u := 4294967295) ck_L_185 (by decide) (dk d_mL_law_24 28 rfl) ?_
  refine g_land (pc := 1448) (dk d_mL_law_24 29 rfl) ?_
  refine g_lor (pc := 1449) (dk d_mL_law_24 30 rfl) ?_
  refine l_callVi (d := d + 207) (pc := 1450) (na := 3) (av := [pI (roV E 1 (w32 (i + 1))), pI (roV E 1 (w32 (i + 2))), pL (lOr (lShl (roV E 1 (w32 (i + 3))) 32) (lAnd (roV E 1 (w32 (i + 4))) 4294967295))]) (k0 := 0) po_0 ⟨_, rfl⟩ ⟨rfl, rfl⟩ (dk d_mL_law_24 31 rfl) lk_L_187 vm_mB_put rfl rfl (Nat.le_of_ble_eq_true rfl) hcz (kB_put E (d + 204) h1) ?_
  refine g_aload_n (pc := 1453) (j := 2) (dk d_mL_law_24 32 rfl) rfl (by decide) ?_
  refine g_aload_n (pc := 1454) (j := 0) (dk d_mL_law_24 33 rfl) rfl (by decide) ?_
  refine g_iload_n (pc := 1455) (j := 3) (dk d_mL_law_24 34 rfl) rfl ?_
  refine g_iconst (pc := 1456) (dk d_mL_law_24 35 rfl) (by decide) ?_
  refine g_iadd (pc := 1457) (dk d_mL_law_24 36 rfl) ?_
  refine g_roald (pc := 1458) (q := 1) (by decide) rfl (lbnd hL hi 1 (by decide)) (dk d_mL_law_24 37 rfl) ?_
  refine g_aload_n (pc := 1459) (j := 0) (dk d_mL_law_24 38 rfl) rfl (by decide) ?_
  refine g_iload_n (pc := 1460) (j := 3) (dk d_mL_law_24 39 rfl) rfl ?_
  refine g_iconst (pc := 1461) (dk d_mL_law_25 0 rfl) (by decide) ?_
  refine g_iadd (pc := 1462) (dk d_mL_law_25 1 rfl) ?_
  refine g_roald (pc := 1463) (q := 1) (by decide) rfl (lbnd hL hi 2 (by decide)) (dk d_mL_law_25 2 rfl) ?_
  refine g_aload_n (pc := 1464) (j := 0) (dk d_mL_law_25 3 rfl) rfl (by decide) ?_
  refine g_iload_n (pc := 1465) (j := 3) (dk d_mL_law_25 4 rfl) rfl ?_
  refine g_iconst (pc := 1466) (dk d_mL_law_25 5 rfl) (by decide) ?_
  refine g_iadd (pc := 1467) (dk d_mL_law_25 6 rfl) ?_
  refine g_roald (pc := 1468) (q := 1) (by decide) rfl (lbnd hL hi 3 (by decide)) (dk d_mL_law_25 7 rfl) ?_
  refine g_i2l (pc := 1469) (dk d_mL_law_25 8 rfl) ?_
  refine g_bipush (pc := 1470) (dk d_mL_law_25 9 rfl) (by decide) ?_
  refine g_lshl (pc := 1472) (dk d_mL_law_25 10 rfl) ?_
  refine g_aload_n (pc := 1473) (j := 0) (dk d_mL_law_25 11 rfl) rfl (by decide) ?_
  refine g_iload_n (pc := 1474) (j := 3) (dk d_mL_law_25 12 rfl) rfl ?_
  refine g_iconst (pc := 1475) (dk d_mL_law_25 13 rfl) (by decide) ?_
  refine g_iadd (pc := 1476) (dk d_mL_law_25 14 rfl) ?_
  refine g_roald (pc := 1477) (q := 1) (by decide) rfl (lbnd hL hi 4 (by decide)) (dk d_mL_law_25 15 rfl) ?_
  refine g_i2l (pc := 1478) (dk d_mL_law_25 16 rfl) ?_
  refine g_ldc2 (pc := 1479) (u := 4294967295) ck_L_185 (by decide) (dk d_mL_law_25 17 rfl) ?_
  refine g_land (pc := 1482) (dk d_mL_law_25 18 rfl) ?_
  refine g_lor (pc := 1483) (dk d_mL_law_25 19 rfl) ?_
  refine l_callVi (d := d + 207) (pc := 1484) (na := 3) (av := [pI (roV E 1 (w32 (i + 1))), pI (roV E 1 (w32 (i + 2))), pL (lOr (lShl (roV E 1 (w32 (i + 3))) 32) (lAnd (roV E 1 (w32 (i + 4))) 4294967295))]) (k0 := 46) po_46 ⟨_, rfl⟩ ⟨rfl, rfl⟩ (dk d_mL_law_25 20 rfl) lk_L_191 vm_mR_put rfl rfl (Nat.le_of_ble_eq_true rfl) hcz (kR_put E (d + 203) h2) ?_
  exact g_icmp_eq (pc := 1487) (tgt := 1645) (dk d_mL_law_25 21 rfl) rfl (fun _ => kk) (fun q => absurd rfl q)
set_option maxRecDepth 100000 in
set_option maxHeartbeats 4000000 in
theorem lc_42 (E : Nat × (Int → Int)) (d : Nat) {c z : Nat} (hL : E.1 ≤ 3072) (hE : ∀ i, I32 (E.2 i)) (hcz : c ≤ mC mL_law ∧ z ≤ mS mL_law) {Inv : WD → Prop} (ho : op2 Inv fB_element fR_element) {i : Int} (hi : 0 ≤ i ∧ i + 6 ≤ E.1) (w : WD) (hI : Inv w) : ∃ v, Inv v ∧ ∀ res, G E mL_law (d + 208) 1645 [(0, pR (-1)), (1, pR 0), (2, pR 46), (3, pI i)] [] v RF NN c z res → G E mL_law (d + 208) 1492 [(0, pR (-1)), (1, pR 0), (2, pR 46), (3, pI i)] [] w RF NN c z res := by
  obtain ⟨r, u, v, h1, h2, h3⟩ := ho (roV E 1 (w32 (i + 1))) (roV E 1 (w32 (i + 2))) w (lro hE _) (lro hE _) hI
  refine ⟨v, h3, fun res kk => ?_⟩
  refine g_aload_n (pc := 1492) (j := 1) (dk d_mL_law_25 24 rfl) rfl (by decide) ?_
  refine g_aload_n (pc := 1493) (j := 0) (dk d_mL_law_25 25 rfl) rfl (by decide) ?_
  refine g_iload_n (pc := 1494) (j := 3) (dk d_mL_law_25 26 rfl) rfl ?_
  refine g_iconst (pc := 1495) (dk d_mL_law_25 27 rfl) (by decide) ?_
  refine g_iadd (pc := 1496) (dk d_mL_law_25 28 rfl) ?_
  refine g_roald (pc := 1497) (q := 1) (by decide) rfl (lbnd hL hi 1 (by decide)) (dk d_mL_law_25 29 rfl) ?_
  refine g_aload_n (pc := 1498) (j := 0) (dk d_mL_law_25 30 rfl) rfl (by decide) ?_
  refine g_iload_n (pc := 1499) (j := 3) (dk d_mL_law_25 31 rfl) rfl ?_
  refine g_iconst (pc := 1500) (dk d_mL_law_25 32 rfl) (by decide) ?_
  refine g_iadd (pc := 1501) (dk d_mL_law_25 33 rfl) ?_
  refine g_roald (pc := 1502) (q := 1) (by decide) rfl (lbnd hL hi 2 (by decide)) (dk d_mL_law_25 34 rfl) ?_
  refine l_callVl (d := d + 207) (pc := 1503) (na := 2) (av := [pI (roV E 1 (w32 (i + 1))), pI (roV E 1 (w32 (i + 2)))]) (k0 := 0) po_0 ⟨_, rfl⟩ ⟨rfl, rfl⟩ (dk d_mL_law_25 35 rfl) lk_L_192 vm_mB_element rfl rfl (Nat.le_of_ble_eq_true rfl) hcz (kB_element E (d + 204) h1) ?_
  refine g_aload_n (pc := 1506) (j := 2) (dk d_mL_law_25 36 rfl) rfl (by decide) ?_
  refine g_aload_n (pc := 1507) (j := 0) (dk d_mL_law_25 37 rfl) rfl (by decide) ?_
  refine g_iload_n (pc := 1508) (j := 3) (dk d_mL_law_25 38 rfl) rfl ?_
  refine g_iconst (pc := 1509) (dk d_mL_law_25 39 rfl) (by decide) ?_
  refine g_iadd (pc := 1510) (dk d_mL_law_26 0 rfl) ?_
  refine g_roald (pc := 1511) (q := 1) (by decide) rfl (lbnd hL hi 1 (by decide)) (dk d_mL_law_26 1 rfl) ?_
  refine g_aload_n (pc := 1512) (j := 0) (dk d_mL_law_26 2 rfl) rfl (by decide) ?_
  refine g_iload_n (pc := 1513) (j := 3) (dk d_mL_law_26 3 rfl) rfl ?_
  refine g_iconst (pc := 1514) (dk d_mL_law_26 4 rfl) (by decide) ?_
  refine g_iadd (pc := 1515) (dk d_mL_law_26 5 rfl) ?_
  refine g_roald (pc := 1516) (q := 1) (by decide) rfl (lbnd hL hi 2 (by decide)) (dk d_mL_law_26 6 rfl) ?_
  refine l_callVl (d := d + 207) (pc := 1517) (na := 2) (av := [pI (roV E 1 (w32 (i + 1))), pI (roV E 1 (w32 (i + 2)))]) (k0 := 46) po_46 ⟨_, rfl⟩ ⟨rfl, rfl⟩ (dk d_mL_law_26 7 rfl) lk_L_195 vm_mR_element rfl rfl (Nat.le_of_ble_eq_true rfl) hcz (kR_element E (d + 203) h2) ?_
  exact g_lcmp_eq (pc := 1520) (tgt := 1645) (dk d_mL_law_26 8 rfl) (dk d_mL_law_26 9 rfl) rfl (fun _ => kk) (fun q => absurd rfl q)
set_option maxRecDepth 100000 in
set_option maxHeartbeats 4000000 in
theorem lc_43 (E : Nat × (Int → Int)) (d : Nat) {c z : Nat} (hL : E.1 ≤ 3072) (hE : ∀ i, I32 (E.2 i)) (hcz : c ≤ mC mL_law ∧ z ≤ mS mL_law) {Inv : WD → Prop} (ho : op5 Inv fB_shift fR_shift) {i : Int} (hi : 0 ≤ i ∧ i + 6 ≤ E.1) (w : WD) (hI : Inv w) : ∃ v, Inv v ∧ ∀ res, G E mL_law (d + 208) 1645 [(0, pR (-1)), (1, pR 0), (2, pR 46), (3, pI i)] [] v RF NN c z res → G E mL_law (d + 208) 1526 [(0, pR (-1)), (1, pR 0), (2, pR 46), (3, pI i)] [] w RF NN c z res := by
  obtain ⟨r, u, v, h1, h2, h3⟩ := ho (roV E 1 (w32 (i + 1))) (roV E 1 (w32 (i + 2))) (roV E 1 (w32 (i + 3))) (roV E 1 (w32 (i + 4))) (roV E 1 (w32 (i + 5))) w (lro hE _) (lro hE _) (lro hE _) (lro hE _) (lro hE _) hI
  refine ⟨v, h3, fun res kk => ?_⟩
  refine g_aload_n (pc := 1526) (j := 1) (dk d_mL_law_26 12 rfl) rfl (by decide) ?_
  refine g_aload_n (pc := 1527) (j := 0) (dk d_mL_law_26 13 rfl) rfl (by decide) ?_
  refine g_iload_n (pc := 1528) (j := 3) (dk d_mL_law_26 14 rfl) rfl ?_
  refine g_iconst (pc := 1529) (dk d_mL_law_26 15 rfl) (by decide) ?_
  refine g_iadd (pc := 1530) (dk d_mL_law_26 16 rfl) ?_
  refine g_roald (pc := 1531) (q := 1) (by decide) rfl (lbnd hL hi 1 (by decide)) (dk d_mL_law_26 17 rfl) ?_
  refine g_aload_n (pc := 1532) (j := 0) (dk d_mL_law_26 18 rfl) rfl (by decide) ?_
  refine g_iload_n (pc := 1533) (j := 3) (dk d_mL_law_26 19 rfl) rfl ?_
  refine g_iconst (pc := 1534) (dk d_mL_law_26 20 rfl) (by decide) ?_
  refine g_iadd (pc := 1535) (dk d_mL_law_26 21 rfl) ?_
  refine g_roald (pc := 1536) (q := 1) (by decide) rfl (lbnd hL hi 2 (by decide)) (dk d_mL_law_26 22 rfl) ?_
  refine g_aload_n (pc := 1537) (j := 0) (dk d_mL_law_26 23 rfl) rfl (by decide) ?_
  refine g_iload_n (pc := 1538) (j := 3) (dk d_mL_law_26 24 rfl) rfl ?_
  refine g_iconst (pc := 1539) (dk d_mL_law_26 25 rfl) (by decide) ?_
  refine g_iadd (pc := 1540) (dk d_mL_law_26 26 rfl) ?_
  refine g_roald (pc := 1541) (q := 1) (by decide) rfl (lbnd hL hi 3 (by decide)) (dk d_mL_law_26 27 rfl) ?_
  refine g_aload_n (pc := 1542) (j := 0) (dk d_mL_law_26 28 rfl) rfl (by decide) ?_
  refine g_iload_n (pc := 1543) (j := 3) (dk d_mL_law_26 29 rfl) rfl ?_
  refine g_iconst (pc := 1544) (dk d_mL_law_26 30 rfl) (by decide) ?_
  refine g_iadd (pc := 1545) (dk d_mL_law_26 31 rfl) ?_
  refine g_roald (pc := 1546) (q := 1) (by decide) rfl (lbnd hL hi 4 (by decide)) (dk d_mL_law_26 32 rfl) ?_
  refine g_aload_n (pc := 1547) (j := 0) (dk d_mL_law_26 33 rfl) rfl (by decide) ?_
  refine g_iload_n (pc := 1548) (j := 3) (dk d_mL_law_26 34 rfl) rfl ?_
  refine g_iconst (pc := 1549) (dk d_mL_law_26 35 rfl) (by decide) ?_
  refine g_iadd (pc := 1550) (dk d_mL_law_26 36 rfl) ?_
  refine g_roald (pc := 1551) (q := 1) (by decide) rfl (lbnd hL hi 5 (by decide)) (dk d_mL_law_26 37 rfl) ?_
  refine l_callVi (d := d + 207) (pc := 1552) (na := 5) (av := [pI (roV E 1 (w32 (i + 1))), pI (roV E 1 (w32 (i + 2))), pI (roV E 1 (w32 (i + 3))), pI (roV E 1 (w32 (i + 4))), pI (roV E 1 (w32 (i + 5)))]) (k0 := 0) po_0 ⟨_, rfl⟩ ⟨rfl, rfl⟩ (dk d_mL_law_26 38 rfl) lk_L_196 vm_mB_shift rfl rfl (Nat.le_of_ble_eq_true rfl) hcz (kB_shift E (d + 204) h1) ?_
  refine g_aload_n (pc := 1555) (j := 2) (dk d_mL_law_26 39 rfl) rfl (by decide) ?_
  refine g_aload_n (pc := 1556) (j := 0) (dk d_mL_law_27 0 rfl) rfl (by decide) ?_
  refine g_iload_n (pc := 1557) (j := 3) (dk d_mL_law_27 1 rfl) rfl ?_
  refine g_iconst (pc := 1558) (dk d_mL_law_27 2 rfl) (by decide) ?_
  refine g_iadd (pc := 1559) (dk d_mL_law_27 3 rfl) ?_
  refine g_roald (pc := 1560) (q := 1) (by decide) rfl (lbnd hL hi 1 (by decide)) (dk d_mL_law_27 4 rfl) ?_
  refine g_aload_n (pc := 1561) (j := 0) (dk d_mL_law_27 5 rfl) rfl (by decide) ?_
  refine g_iload_n (pc := 1562) (j := 3) (dk d_mL_law_27 6 rfl) rfl ?_
  refine g_iconst (pc := 1563) (dk d_mL_law_27 7 rfl) (by decide) ?_
  refine g_iadd (pc := 1564) (dk d_mL_law_27 8 rfl) ?_
  refine g_roald (pc := 1565) (q := 1) (by decide) rfl (lbnd hL hi 2 (by decide)) (dk d_mL_law_27 9 rfl) ?_
  refine g_aload_n (pc := 1566) (j := 0) (dk d_mL_law_27 10 rfl) rfl (by decide) ?_
  refine g_iload_n (pc := 1567) (j := 3) (dk d_mL_law_27 11 rfl) rfl ?_
  refine g_iconst (pc := 1568) (dk d_mL_law_27 12 rfl) (by decide) ?_
  refine g_iadd (pc := 1569) (dk d_mL_law_27 13 rfl) ?_
  refine g_roald (pc := 1570) (q := 1) (by decide) rfl (lbnd hL hi 3 (by decide)) (dk d_mL_law_27 14 rfl) ?_
  refine g_aload_n (pc := 1571) (j := 0) (dk d_mL_law_27 15 rfl) rfl (by decide) ?_
  refine g_iload_n (pc := 1572) (j := 3) (dk d_mL_law_27 16 rfl) rfl ?_
  refine g_iconst (pc := 1573) (dk d_mL_law_27 17 rfl) (by decide) ?_
  refine g_iadd (pc := 1574) (dk d_mL_law_27 18 rfl) ?_
  refine g_roald (pc := 1575) (q := 1) (by decide) rfl (lbnd hL hi 4 (by decide)) (dk d_mL_law_27 19 rfl) ?_
  refine g_aload_n (pc := 1576) (j := 0) (dk d_mL_law_27 20 rfl) rfl (by decide) ?_
  refine g_iload_n (pc := 1577) (j := 3) (dk d_mL_law_27 21 rfl) rfl ?_
  refine g_iconst (pc := 1578) (dk d_mL_law_27 22 rfl) (by decide) ?_
  refine g_iadd (pc := 1579) (dk d_mL_law_27 23 rfl) ?_
  refine g_roald (pc := 1580) (q := 1) (by decide) rfl (lbnd hL hi 5 (by decide)) (dk d_mL_law_27 24 rfl) ?_
  refine l_callVi (d := d + 207) (pc := 1581) (na := 5) (av := [pI (roV E 1 (w32 (i + 1))), pI (roV E 1 (w32 (i + 2))), pI (roV E 1 (w32 (i + 3))), pI (roV E 1 (w32 (i + 4))), pI (roV E 1 (w32 (i + 5)))]) (k0 := 46) po_46 ⟨_, rfl⟩ ⟨rfl, rfl⟩ (dk d_mL_law_27 25 rfl) lk_L_200 vm_mR_shift rfl rfl (Nat.le_of_ble_eq_true rfl) hcz (kR_shift E (d + 204) h2) ?_
  exact g_icmp_eq (pc := 1584) (tgt := 1645) (dk d_mL_law_27 26 rfl) rfl (fun _ => kk) (fun q => absurd rfl q)
set_option maxRecDepth 100000 in
set_option maxHeartbeats 4000000 in
theorem lc_44 (E : Nat × (Int → Int)) (d : Nat) {c z : Nat} (hL : E.1 ≤ 3072) (hE : ∀ i, I32 (E.2 i)) (hcz : c ≤ mC mL_law ∧ z ≤ mS mL_law) {Inv : WD → Prop} (ho : op2 Inv fB_taken fR_taken) {i : Int} (hi : 0 ≤ i ∧ i + 6 ≤ E.1) (w : WD) (hI : Inv w) : ∃ v, Inv v ∧ ∀ res, G E mL_law (d + 208) 1645 [(0, pR (-1)), (1, pR 0), (2, pR 46), (3, pI i)] [] v RF NN c z res → G E mL_law (d + 208) 1589 [(0, pR (-1)), (1, pR 0), (2, pR 46), (3, pI i)] [] w RF NN c z res := by
  obtain ⟨r, u, v, h1, h2, h3⟩ := ho (roV E 1 (w32 (i + 1))) (roV E 1 (w32 (i + 2))) w (lro hE _) (lro hE _) hI
  refine ⟨v, h3, fun res kk => ?_⟩
  refine g_aload_n (pc := 1589) (j := 1) (dk d_mL_law_27 29 rfl) rfl (by decide) ?_
  refine g_aload_n (pc := 1590) (j := 0) (dk d_mL_law_27 30 rfl) rfl (by decide) ?_
  refine g_iload_n (pc := 1591) (j := 3) (dk d_mL_law_27 31 rfl) rfl ?_
  refine g_iconst (pc := 1592) (dk d_mL_law_27 32 rfl) (by decide) ?_
  refine g_iadd (pc := 1593) (dk d_mL_law_27 33 rfl) ?_
  refine g_roald (pc := 1594) (q := 1) (by decide) rfl (lbnd hL hi 1 (by decide)) (dk d_mL_law_27 34 rfl) ?_
  refine g_aload_n (pc := 1595) (j := 0) (dk d_mL_law_27 35 rfl) rfl (by decide) ?_
  refine g_iload_n (pc := 1596) (j := 3) (dk d_mL_law_27 36 rfl) rfl ?_
  refine g_iconst (pc := 1597) (dk d_mL_law_27 37 rfl) (by decide) ?_
  refine g_iadd (pc := 1598) (dk d_mL_law_27 38 rfl) ?_
  refine g_roald (pc := 1599) (q := 1) (by decide) rfl (lbnd hL hi 2 (by decide)) (dk d_mL_law_27 39 rfl) ?_
  refine l_callVi (d := d + 207) (pc := 1600) (na := 2) (av := [pI (roV E 1 (w32 (i + 1))), pI (roV E 1 (w32 (i + 2)))]) (k0 := 0) po_0 ⟨_, rfl⟩ ⟨rfl, rfl⟩ (dk d_mL_law_28 0 rfl) lk_L_201 vm_mB_taken rfl rfl (Nat.le_of_ble_eq_true rfl) hcz (kB_taken E (d + 204) h1) ?_
  refine g_aload_n (pc := 1603) (j := 2) (dk d_mL_law_28 1 rfl) rfl (by decide) ?_
  refine g_aload_n (pc := 1604) (j := 0) (dk d_mL_law_28 2 rfl) rfl (by decide) ?_
  refine g_iload_n (pc := 1605) (j := 3) (dk d_mL_law_28 3 rfl) rfl ?_
  refine g_iconst (pc := 1606) (dk d_mL_law_28 4 rfl) (by decide) ?_
  refine g_iadd (pc := 1607) (dk d_mL_law_28 5 rfl) ?_
  refine g_roald (pc := 1608) (q := 1) (by decide) rfl (lbnd hL hi 1 (by decide)) (dk d_mL_law_28 6 rfl) ?_
  refine g_aload_n (pc := 1609) (j := 0) (dk d_mL_law_28 7 rfl) rfl (by decide) ?_
  refine g_iload_n (pc := 1610) (j := 3) (dk d_mL_law_28 8 rfl) rfl ?_
  refine g_iconst (pc := 1611) (dk d_mL_law_28 9 rfl) (by decide) ?_
  refine g_iadd (pc := 1612) (dk d_mL_law_28 10 rfl) ?_
  refine g_roald (pc := 1613) (q := 1) (by decide) rfl (lbnd hL hi 2 (by decide)) (dk d_mL_law_28 11 rfl) ?_
  refine l_callVi (d := d + 207) (pc := 1614) (na := 2) (av := [pI (roV E 1 (w32 (i + 1))), pI (roV E 1 (w32 (i + 2)))]) (k0 := 46) po_46 ⟨_, rfl⟩ ⟨rfl, rfl⟩ (dk d_mL_law_28 12 rfl) lk_L_204 vm_mR_taken rfl rfl (Nat.le_of_ble_eq_true rfl) hcz (kR_taken E (d + 204) h2) ?_
  exact g_icmp_eq (pc := 1617) (tgt := 1645) (dk d_mL_law_28 13 rfl) rfl (fun _ => kk) (fun q => absurd rfl q)
set_option maxRecDepth 100000 in
set_option maxHeartbeats 4000000 in
theorem lc_45 (E : Nat × (Int → Int)) (d : Nat) {c z : Nat} (hL : E.1 ≤ 3072) (hE : ∀ i, I32 (E.2 i)) (hcz : c ≤ mC mL_law ∧ z ≤ mS mL_law) {Inv : WD → Prop} (ho : op1 Inv fB_count fR_count) {i : Int} (hi : 0 ≤ i ∧ i + 6 ≤ E.1) (w : WD) (hI : Inv w) : ∃ v, Inv v ∧ ∀ res, G E mL_law (d + 208) 1645 [(0, pR (-1)), (1, pR 0), (2, pR 46), (3, pI i)] [] v RF NN c z res → G E mL_law (d + 208) 1622 [(0, pR (-1)), (1, pR 0), (2, pR 46), (3, pI i)] [] w RF NN c z res := by
  obtain ⟨r, u, v, h1, h2, h3⟩ := ho (roV E 1 (w32 (i + 1))) w (lro hE _) hI
  refine ⟨v, h3, fun res kk => ?_⟩
  refine g_aload_n (pc := 1622) (j := 1) (dk d_mL_law_28 16 rfl) rfl (by decide) ?_
  refine g_aload_n (pc := 1623) (j := 0) (dk d_mL_law_28 17 rfl) rfl (by decide) ?_
  refine g_iload_n (pc := 1624) (j := 3) (dk d_mL_law_28 18 rfl) rfl ?_
  refine g_iconst (pc := 1625) (dk d_mL_law_28 19 rfl) (by decide) ?_
  refine g_iadd (pc := 1626) (dk d_mL_law_28 20 rfl) ?_
  refine g_roald (pc := 1627) (q := 1) (by decide) rfl (lbnd hL hi 1 (by decide)) (dk d_mL_law_28 21 rfl) ?_
  refine l_callVi (d := d + 207) (pc := 1628) (na := 1) (av := [pI (roV E 1 (w32 (i + 1)))]) (k0 := 0) po_0 ⟨_, rfl⟩ ⟨rfl, rfl⟩ (dk d_mL_law_28 22 rfl) lk_L_205 vm_mB_count rfl rfl (Nat.le_of_ble_eq_true rfl) hcz (kB_count E (d + 205) h1) ?_
  refine g_aload_n (pc := 1631) (j := 2) (dk d_mL_law_28 23 rfl) rfl (by decide) ?_
  refine g_aload_n (pc := 1632) (j := 0) (dk d_mL_law_28 24 rfl) rfl (by decide) ?_
  refine g_iload_n (pc := 1633) (j := 3) (dk d_mL_law_28 25 rfl) rfl ?_
  refine g_iconst (pc := 1634) (dk d_mL_law_28 26 rfl) (by decide) ?_
  refine g_iadd (pc := 1635) (dk d_mL_law_28 27 rfl) ?_
  refine g_roald (pc := 1636) (q := 1) (by decide) rfl (lbnd hL hi 1 (by decide)) (dk d_mL_law_28 28 rfl) ?_
  refine l_callVi (d := d + 207) (pc := 1637) (na := 1) (av := [pI (roV E 1 (w32 (i + 1)))]) (k0 := 46) po_46 ⟨_, rfl⟩ ⟨rfl, rfl⟩ (dk d_mL_law_28 29 rfl) lk_L_208 vm_mR_count rfl rfl (Nat.le_of_ble_eq_true rfl) hcz (kR_count E (d + 206) h2) ?_
  exact g_icmp_eq (pc := 1640) (tgt := 1645) (dk d_mL_law_28 30 rfl) rfl (fun _ => kk) (fun q => absurd rfl q)
set_option maxRecDepth 100000 in
set_option maxHeartbeats 4000000 in
theorem law_case (E : Nat × (Int → Int)) (d : Nat) {c z : Nat} (hL : E.1 ≤ 3072) (hE : ∀ i, I32 (E.2 i)) (hcz : c ≤ mC mL_law ∧ z ≤ mS mL_law) {Inv : WD → Prop} (ho : OpsOK Inv) {i : Int} (hi : 0 ≤ i ∧ i + 6 ≤ E.1) (w : WD) (hI : Inv w) (a : Int) : ∃ v, Inv v ∧ ∀ res, G E mL_law (d + 208) 1645 [(0, pR (-1)), (1, pR 0), (2, pR 46), (3, pI i)] [] v RF NN c z res → G E mL_law (d + 208) 33 [(0, pR (-1)), (1, pR 0), (2, pR 46), (3, pI i)] [pI a] w RF NN c z res := by
  by_cases h : a < 0 ∨ 45 < a
  · exact ⟨w, hI, fun res kk => g_tout (pc := 33) (tgt := 1645) (dk d_mL_law 21 rfl) h rfl kk⟩
  · rcases (by omega : a = 0 ∨ a = 1 ∨ a = 2 ∨ a = 3 ∨ a = 4 ∨ a = 5 ∨ a = 6 ∨ a = 7 ∨ a = 8 ∨ a = 9 ∨ a = 10 ∨ a = 11 ∨ a = 12 ∨ a = 13 ∨ a = 14 ∨ a = 15 ∨ a = 16 ∨ a = 17 ∨ a = 18 ∨ a = 19 ∨ a = 20 ∨ a = 21 ∨ a = 22 ∨ a = 23 ∨ a = 24 ∨ a = 25 ∨ a = 26 ∨ a = 27 ∨ a = 28 ∨ a = 29 ∨ a = 30 ∨ a = 31 ∨ a = 32 ∨ a = 33 ∨ a = 34 ∨ a = 35 ∨ a = 36 ∨ a = 37 ∨ a = 38 ∨ a = 39 ∨ a = 40 ∨ a = 41 ∨ a = 42 ∨ a = 43 ∨ a = 44 ∨ a = 45) with rfl | rfl | rfl | rfl | rfl | rfl | rfl | rfl | rfl | rfl | rfl | rfl | rfl | rfl | rfl | rfl | rfl | rfl | rfl | rfl | rfl | rfl | rfl | rfl | rfl | rfl | rfl | rfl | rfl | rfl | rfl | rfl | rfl | rfl | rfl | rfl | rfl | rfl | rfl | rfl | rfl | rfl | rfl | rfl | rfl | rfl
    · obtain ⟨v, h1, h2⟩ := lc_0 E d hL hE hcz ho.1 hi w hI
      exact ⟨v, h1, fun res kk => g_tin (pc := 33) (off := 199) (tgt := 232) (dk d_mL_law 21 rfl) (by decide) (by decide) rfl rfl (h2 res kk)⟩
    · obtain ⟨v, h1, h2⟩ := lc_1 E d hL hE hcz ho.2.1 hi w hI
      exact ⟨v, h1, fun res kk => g_tin (pc := 33) (off := 222) (tgt := 255) (dk d_mL_law 21 rfl) (by decide) (by decide) rfl rfl (h2 res kk)⟩
    · obtain ⟨v, h1, h2⟩ := lc_2 E d hL hE hcz ho.2.2.1 hi w hI
      exact ⟨v, h1, fun res kk => g_tin (pc := 33) (off := 265) (tgt := 298) (dk d_mL_law 21 rfl) (by decide) (by decide) rfl rfl (h2 res kk)⟩
    · obtain ⟨v, h1, h2⟩ := lc_3 E d hL hE hcz ho.2.2.2.1 hi w hI
      exact ⟨v, h1, fun res kk => g_tin (pc := 33) (off := 278) (tgt := 311) (dk d_mL_law 21 rfl) (by decide) (by decide) rfl rfl (h2 res kk)⟩
    · obtain ⟨v, h1, h2⟩ := lc_4 E d hL hE hcz ho.2.2.2.2.1 hi w hI
      exact ⟨v, h1, fun res kk => g_tin (pc := 33) (off := 321) (tgt := 354) (dk d_mL_law 21 rfl) (by decide) (by decide) rfl rfl (h2 res kk)⟩
    · obtain ⟨v, h1, h2⟩ := lc_5 E d hL hE hcz ho.2.2.2.2.2.1 hi w hI
      exact ⟨v, h1, fun res kk => g_tin (pc := 33) (off := 354) (tgt := 387) (dk d_mL_law 21 rfl) (by decide) (by decide) rfl rfl (h2 res kk)⟩
    · obtain ⟨v, h1, h2⟩ := lc_6 E d hL hE hcz ho.2.2.2.2.2.2.1 hi w hI
      exact ⟨v, h1, fun res kk => g_tin (pc := 33) (off := 377) (tgt := 410) (dk d_mL_law 21 rfl) (by decide) (by decide) rfl rfl (h2 res kk)⟩
    · obtain ⟨v, h1, h2⟩ := lc_7 E d hL hE hcz ho.2.2.2.2.2.2.2.1 hi w hI
      exact ⟨v, h1, fun res kk => g_tin (pc := 33) (off := 390) (tgt := 423) (dk d_mL_law 21 rfl) (by decide) (by decide) rfl rfl (h2 res kk)⟩
    · obtain ⟨v, h1, h2⟩ := lc_8 E d hL hE hcz ho.2.2.2.2.2.2.2.2.1 hi w hI
      exact ⟨v, h1, fun res kk => g_tin (pc := 33) (off := 423) (tgt := 456) (dk d_mL_law 21 rfl) (by decide) (by decide) rfl rfl (h2 res kk)⟩
    · obtain ⟨v, h1, h2⟩ := lc_9 E d hL hE hcz ho.2.2.2.2.2.2.2.2.2.1 hi w hI
      exact ⟨v, h1, fun res kk => g_tin (pc := 33) (off := 447) (tgt := 480) (dk d_mL_law 21 rfl) (by decide) (by decide) rfl rfl (h2 res kk)⟩
    · obtain ⟨v, h1, h2⟩ := lc_10 E d hL hE hcz ho.2.2.2.2.2.2.2.2.2.2.1 hi w hI
      exact ⟨v, h1, fun res kk => g_tin (pc := 33) (off := 491) (tgt := 524) (dk d_mL_law 21 rfl) (by decide) (by decide) rfl rfl (h2 res kk)⟩
    · obtain ⟨v, h1, h2⟩ := lc_11 E d hL hE hcz ho.2.2.2.2.2.2.2.2.2.2.2.1 hi w hI
      exact ⟨v, h1, fun res kk => g_tin (pc := 33) (off := 515) (tgt := 548) (dk d_mL_law 21 rfl) (by decide) (by decide) rfl rfl (h2 res kk)⟩
    · obtain ⟨v, h1, h2⟩ := lc_12 E d hL hE hcz ho.2.2.2.2.2.2.2.2.2.2.2.2.1 hi w hI
      exact ⟨v, h1, fun res kk => g_tin (pc := 33) (off := 538) (tgt := 571) (dk d_mL_law 21 rfl) (by decide) (by decide) rfl rfl (h2 res kk)⟩
    · obtain ⟨v, h1, h2⟩ := lc_13 E d hL hE hcz ho.2.2.2.2.2.2.2.2.2.2.2.2.2.1 hi w hI
      exact ⟨v, h1, fun res kk => g_tin (pc := 33) (off := 561) (tgt := 594) (dk d_mL_law 21 rfl) (by decide) (by decide) rfl rfl (h2 res kk)⟩
    · obtain ⟨v, h1, h2⟩ := lc_14 E d hL hE hcz ho.2.2.2.2.2.2.2.2.2.2.2.2.2.2.1 hi w hI
      exact ⟨v, h1, fun res kk => g_tin (pc := 33) (off := 604) (tgt := 637) (dk d_mL_law 21 rfl) (by decide) (by decide) rfl rfl (h2 res kk)⟩
    · obtain ⟨v, h1, h2⟩ := lc_15 E d hL hE hcz ho.2.2.2.2.2.2.2.2.2.2.2.2.2.2.2.1 hi w hI
      exact ⟨v, h1, fun res kk => g_tin (pc := 33) (off := 627) (tgt := 660) (dk d_mL_law 21 rfl) (by decide) (by decide) rfl rfl (h2 res kk)⟩
    · obtain ⟨v, h1, h2⟩ := lc_16 E d hL hE hcz ho.2.2.2.2.2.2.2.2.2.2.2.2.2.2.2.2.1 hi w hI
      exact ⟨v, h1, fun res kk => g_tin (pc := 33) (off := 670) (tgt := 703) (dk d_mL_law 21 rfl) (by decide) (by decide) rfl rfl (h2 res kk)⟩
    · obtain ⟨v, h1, h2⟩ := lc_17 E d hL hE hcz ho.2.2.2.2.2.2.2.2.2.2.2.2.2.2.2.2.2.1 hi w hI
      exact ⟨v, h1, fun res kk => g_tin (pc := 33) (off := 703) (tgt := 736) (dk d_mL_law 21 rfl) (by decide) (by decide) rfl rfl (h2 res kk)⟩
    · obtain ⟨v, h1, h2⟩ := lc_18 E d hL hE hcz ho.2.2.2.2.2.2.2.2.2.2.2.2.2.2.2.2.2.2.1 hi w hI
      exact ⟨v, h1, fun res kk => g_tin (pc := 33) (off := 726) (tgt := 759) (dk d_mL_law 21 rfl) (by decide) (by decide) rfl rfl (h2 res kk)⟩
    · obtain ⟨v, h1, h2⟩ := lc_19 E d hL hE hcz ho.2.2.2.2.2.2.2.2.2.2.2.2.2.2.2.2.2.2.2.1 hi w hI
      exact ⟨v, h1, fun res kk => g_tin (pc := 33) (off := 760) (tgt := 793) (dk d_mL_law 21 rfl) (by decide) (by decide) rfl rfl (h2 res kk)⟩
    · obtain ⟨v, h1, h2⟩ := lc_20 E d hL hE hcz ho.2.2.2.2.2.2.2.2.2.2.2.2.2.2.2.2.2.2.2.2.1 hi w hI
      exact ⟨v, h1, fun res kk => g_tin (pc := 33) (off := 803) (tgt := 836) (dk d_mL_law 21 rfl) (by decide) (by decide) rfl rfl (h2 res kk)⟩
    · obtain ⟨v, h1, h2⟩ := lc_21 E d hL hE hcz ho.2.2.2.2.2.2.2.2.2.2.2.2.2.2.2.2.2.2.2.2.2.1 hi w hI
      exact ⟨v, h1, fun res kk => g_tin (pc := 33) (off := 826) (tgt := 859) (dk d_mL_law 21 rfl) (by decide) (by decide) rfl rfl (h2 res kk)⟩
    · obtain ⟨v, h1, h2⟩ := lc_22 E d hL hE hcz ho.2.2.2.2.2.2.2.2.2.2.2.2.2.2.2.2.2.2.2.2.2.2.1 hi w hI
      exact ⟨v, h1, fun res kk => g_tin (pc := 33) (off := 849) (tgt := 882) (dk d_mL_law 21 rfl) (by decide) (by decide) rfl rfl (h2 res kk)⟩
    · obtain ⟨v, h1, h2⟩ := lc_23 E d hL hE hcz ho.2.2.2.2.2.2.2.2.2.2.2.2.2.2.2.2.2.2.2.2.2.2.2.1 hi w hI
      exact ⟨v, h1, fun res kk => g_tin (pc := 33) (off := 882) (tgt := 915) (dk d_mL_law 21 rfl) (by decide) (by decide) rfl rfl (h2 res kk)⟩
    · obtain ⟨v, h1, h2⟩ := lc_24 E d hL hE hcz ho.2.2.2.2.2.2.2.2.2.2.2.2.2.2.2.2.2.2.2.2.2.2.2.2.1 hi w hI
      exact ⟨v, h1, fun res kk => g_tin (pc := 33) (off := 915) (tgt := 948) (dk d_mL_law 21 rfl) (by decide) (by decide) rfl rfl (h2 res kk)⟩
    · obtain ⟨v, h1, h2⟩ := lc_25 E d hL hE hcz ho.2.2.2.2.2.2.2.2.2.2.2.2.2.2.2.2.2.2.2.2.2.2.2.2.2.1 hi w hI
      exact ⟨v, h1, fun res kk => g_tin (pc := 33) (off := 948) (tgt := 981) (dk d_mL_law 21 rfl) (by decide) (by decide) rfl rfl (h2 res kk)⟩
    · obtain ⟨v, h1, h2⟩ := lc_26 E d hL hE hcz ho.2.2.2.2.2.2.2.2.2.2.2.2.2.2.2.2.2.2.2.2.2.2.2.2.2.2.1 hi w hI
      exact ⟨v, h1, fun res kk => g_tin (pc := 33) (off := 981) (tgt := 1014) (dk d_mL_law 21 rfl) (by decide) (by decide) rfl rfl (h2 res kk)⟩
    · obtain ⟨v, h1, h2⟩ := lc_27 E d hL hE hcz ho.2.2.2.2.2.2.2.2.2.2.2.2.2.2.2.2.2.2.2.2.2.2.2.2.2.2.2.1 hi w hI
      exact ⟨v, h1, fun res kk => g_tin (pc := 33) (off := 1034) (tgt := 1067) (dk d_mL_law 21 rfl) (by decide) (by decide) rfl rfl (h2 res kk)⟩
    · obtain ⟨v, h1, h2⟩ := lc_28 E d hL hE hcz ho.2.2.2.2.2.2.2.2.2.2.2.2.2.2.2.2.2.2.2.2.2.2.2.2.2.2.2.2.1 hi w hI
      exact ⟨v, h1, fun res kk => g_tin (pc := 33) (off := 1067) (tgt := 1100) (dk d_mL_law 21 rfl) (by decide) (by decide) rfl rfl (h2 res kk)⟩
    · obtain ⟨v, h1, h2⟩ := lc_29 E d hL hE hcz ho.2.2.2.2.2.2.2.2.2.2.2.2.2.2.2.2.2.2.2.2.2.2.2.2.2.2.2.2.2.1 hi w hI
      exact ⟨v, h1, fun res kk => g_tin (pc := 33) (off := 1090) (tgt := 1123) (dk d_mL_law 21 rfl) (by decide) (by decide) rfl rfl (h2 res kk)⟩
    · obtain ⟨v, h1, h2⟩ := lc_30 E d hL hE hcz ho.2.2.2.2.2.2.2.2.2.2.2.2.2.2.2.2.2.2.2.2.2.2.2.2.2.2.2.2.2.2.1 hi w hI
      exact ⟨v, h1, fun res kk => g_tin (pc := 33) (off := 1113) (tgt := 1146) (dk d_mL_law 21 rfl) (by decide) (by decide) rfl rfl (h2 res kk)⟩
    · obtain ⟨v, h1, h2⟩ := lc_31 E d hL hE hcz ho.2.2.2.2.2.2.2.2.2.2.2.2.2.2.2.2.2.2.2.2.2.2.2.2.2.2.2.2.2.2.2.1 hi w hI
      exact ⟨v, h1, fun res kk => g_tin (pc := 33) (off := 1146) (tgt := 1179) (dk d_mL_law 21 rfl) (by decide) (by decide) rfl rfl (h2 res kk)⟩
    · obtain ⟨v, h1, h2⟩ := lc_32 E d hL hE hcz ho.2.2.2.2.2.2.2.2.2.2.2.2.2.2.2.2.2.2.2.2.2.2.2.2.2.2.2.2.2.2.2.2.1 hi w hI
      exact ⟨v, h1, fun res kk => g_tin (pc := 33) (off := 1169) (tgt := 1202) (dk d_mL_law 21 rfl) (by decide) (by decide) rfl rfl (h2 res kk)⟩
    · obtain ⟨v, h1, h2⟩ := lc_33 E d hL hE hcz ho.2.2.2.2.2.2.2.2.2.2.2.2.2.2.2.2.2.2.2.2.2.2.2.2.2.2.2.2.2.2.2.2.2.1 hi w hI
      exact ⟨v, h1, fun res kk => g_tin (pc := 33) (off := 1182) (tgt := 1215) (dk d_mL_law 21 rfl) (by decide) (by decide) rfl rfl (h2 res kk)⟩
    · obtain ⟨v, h1, h2⟩ := lc_34 E d hL hE hcz ho.2.2.2.2.2.2.2.2.2.2.2.2.2.2.2.2.2.2.2.2.2.2.2.2.2.2.2.2.2.2.2.2.2.2.1 hi w hI
      exact ⟨v, h1, fun res kk => g_tin (pc := 33) (off := 1195) (tgt := 1228) (dk d_mL_law 21 rfl) (by decide) (by decide) rfl rfl (h2 res kk)⟩
    · obtain ⟨v, h1, h2⟩ := lc_35 E d hL hE hcz ho.2.2.2.2.2.2.2.2.2.2.2.2.2.2.2.2.2.2.2.2.2.2.2.2.2.2.2.2.2.2.2.2.2.2.2.1 hi w hI
      exact ⟨v, h1, fun res kk => g_tin (pc := 33) (off := 1208) (tgt := 1241) (dk d_mL_law 21 rfl) (by decide) (by decide) rfl rfl (h2 res kk)⟩
    · obtain ⟨v, h1, h2⟩ := lc_36 E d hL hE hcz ho.2.2.2.2.2.2.2.2.2.2.2.2.2.2.2.2.2.2.2.2.2.2.2.2.2.2.2.2.2.2.2.2.2.2.2.2.1 hi w hI
      exact ⟨v, h1, fun res kk => g_tin (pc := 33) (off := 1221) (tgt := 1254) (dk d_mL_law 21 rfl) (by decide) (by decide) rfl rfl (h2 res kk)⟩
    · obtain ⟨v, h1, h2⟩ := lc_37 E d hL hE hcz ho.2.2.2.2.2.2.2.2.2.2.2.2.2.2.2.2.2.2.2.2.2.2.2.2.2.2.2.2.2.2.2.2.2.2.2.2.2.1 hi w hI
      exact ⟨v, h1, fun res kk => g_tin (pc := 33) (off := 1244) (tgt := 1277) (dk d_mL_law 21 rfl) (by decide) (by decide) rfl rfl (h2 res kk)⟩
    · obtain ⟨v, h1, h2⟩ := lc_38 E d hL hE hcz ho.2.2.2.2.2.2.2.2.2.2.2.2.2.2.2.2.2.2.2.2.2.2.2.2.2.2.2.2.2.2.2.2.2.2.2.2.2.2.1 hi w hI
      exact ⟨v, h1, fun res kk => g_tin (pc := 33) (off := 1287) (tgt := 1320) (dk d_mL_law 21 rfl) (by decide) (by decide) rfl rfl (h2 res kk)⟩
    · obtain ⟨v, h1, h2⟩ := lc_39 E d hL hE hcz ho.2.2.2.2.2.2.2.2.2.2.2.2.2.2.2.2.2.2.2.2.2.2.2.2.2.2.2.2.2.2.2.2.2.2.2.2.2.2.2.1 hi w hI
      exact ⟨v, h1, fun res kk => g_tin (pc := 33) (off := 1310) (tgt := 1343) (dk d_mL_law 21 rfl) (by decide) (by decide) rfl rfl (h2 res kk)⟩
    · obtain ⟨v, h1, h2⟩ := lc_40 E d hL hE hcz ho.2.2.2.2.2.2.2.2.2.2.2.2.2.2.2.2.2.2.2.2.2.2.2.2.2.2.2.2.2.2.2.2.2.2.2.2.2.2.2.2.1 hi w hI
      exact ⟨v, h1, fun res kk => g_tin (pc := 33) (off := 1343) (tgt := 1376) (dk d_mL_law 21 rfl) (by decide) (by decide) rfl rfl (h2 res kk)⟩
    · obtain ⟨v, h1, h2⟩ := lc_41 E d hL hE hcz ho.2.2.2.2.2.2.2.2.2.2.2.2.2.2.2.2.2.2.2.2.2.2.2.2.2.2.2.2.2.2.2.2.2.2.2.2.2.2.2.2.2.1 hi w hI
      exact ⟨v, h1, fun res kk => g_tin (pc := 33) (off := 1386) (tgt := 1419) (dk d_mL_law 21 rfl) (by decide) (by decide) rfl rfl (h2 res kk)⟩
    · obtain ⟨v, h1, h2⟩ := lc_42 E d hL hE hcz ho.2.2.2.2.2.2.2.2.2.2.2.2.2.2.2.2.2.2.2.2.2.2.2.2.2.2.2.2.2.2.2.2.2.2.2.2.2.2.2.2.2.2.1 hi w hI
      exact ⟨v, h1, fun res kk => g_tin (pc := 33) (off := 1459) (tgt := 1492) (dk d_mL_law 21 rfl) (by decide) (by decide) rfl rfl (h2 res kk)⟩
    · obtain ⟨v, h1, h2⟩ := lc_43 E d hL hE hcz ho.2.2.2.2.2.2.2.2.2.2.2.2.2.2.2.2.2.2.2.2.2.2.2.2.2.2.2.2.2.2.2.2.2.2.2.2.2.2.2.2.2.2.2.1 hi w hI
      exact ⟨v, h1, fun res kk => g_tin (pc := 33) (off := 1493) (tgt := 1526) (dk d_mL_law 21 rfl) (by decide) (by decide) rfl rfl (h2 res kk)⟩
    · obtain ⟨v, h1, h2⟩ := lc_44 E d hL hE hcz ho.2.2.2.2.2.2.2.2.2.2.2.2.2.2.2.2.2.2.2.2.2.2.2.2.2.2.2.2.2.2.2.2.2.2.2.2.2.2.2.2.2.2.2.2.1 hi w hI
      exact ⟨v, h1, fun res kk => g_tin (pc := 33) (off := 1556) (tgt := 1589) (dk d_mL_law 21 rfl) (by decide) (by decide) rfl rfl (h2 res kk)⟩
    · obtain ⟨v, h1, h2⟩ := lc_45 E d hL hE hcz ho.2.2.2.2.2.2.2.2.2.2.2.2.2.2.2.2.2.2.2.2.2.2.2.2.2.2.2.2.2.2.2.2.2.2.2.2.2.2.2.2.2.2.2.2.2 hi w hI
      exact ⟨v, h1, fun res kk => g_tin (pc := 33) (off := 1589) (tgt := 1622) (dk d_mL_law 21 rfl) (by decide) (by decide) rfl rfl (h2 res kk)⟩
set_option maxRecDepth 100000 in
set_option maxHeartbeats 4000000 in
theorem law_loop (E : Nat × (Int → Int)) (d : Nat) {c z : Nat} (hL : E.1 ≤ 3072) (hE : ∀ i, I32 (E.2 i)) (hcz : c ≤ mC mL_law ∧ z ≤ mS mL_law) {Inv : WD → Prop} (ho : OpsOK Inv) : ∀ (n : Nat) (i : Int) (w : WD), 0 ≤ i → (E.1 : Int) < i + 6 * n → Inv w → ∃ wE, G E mL_law (d + 208) 18 [(0, pR (-1)), (1, pR 0), (2, pR 46), (3, pI i)] [] w RF NN c z (some (pI 1), wE, RF, NN) := by
  intro n
  induction n with
  | zero =>
    intro i w h0 h1 hI
    refine ⟨w, ?_⟩
    refine g_iload_n (pc := 18) (j := 3) (dk d_mL_law 10 rfl) rfl ?_
    refine g_aload_n (pc := 19) (j := 0) (dk d_mL_law 11 rfl) rfl (by decide) ?_
    refine g_rolen (pc := 20) (q := 1) (by decide) rfl (dk d_mL_law 12 rfl) ?_
    refine g_bipush (pc := 21) (dk d_mL_law 13 rfl) (by decide) ?_
    refine g_isub (pc := 23) (dk d_mL_law 14 rfl) ?_
    refine g_icmp_gt (pc := 24) (tgt := 1651) (dk d_mL_law 15 rfl) rfl (fun _ => ?_) (fun q => ?_)
    · refine g_iconst (pc := 1651) (dk d_mL_law_28 35 rfl) (by decide) ?_
      exact g_ireturn (pc := 1652) (dk d_mL_law_28 36 rfl) (fun _ => Or.inr rfl) hcz.1 hcz.2
    · exfalso
      have e : (roN E 1 : Int) = E.1 := rfl
      rw [e] at q
      unfold w32 at q
      omega
  | succ n ih =>
    intro i w h0 h1 hI
    by_cases hlt : i + 6 ≤ E.1
    · obtain ⟨v, hv, hk⟩ := law_case E d hL hE hcz ho ⟨h0, hlt⟩ w hI (bAnd (roV E 1 i) 63)
      obtain ⟨wE, hG⟩ := ih (i + 6) v (by omega) (by omega) hv
      refine ⟨wE, ?_⟩
      refine g_iload_n (pc := 18) (j := 3) (dk d_mL_law 10 rfl) rfl ?_
      refine g_aload_n (pc := 19) (j := 0) (dk d_mL_law 11 rfl) rfl (by decide) ?_
      refine g_rolen (pc := 20) (q := 1) (by decide) rfl (dk d_mL_law 12 rfl) ?_
      refine g_bipush (pc := 21) (dk d_mL_law 13 rfl) (by decide) ?_
      refine g_isub (pc := 23) (dk d_mL_law 14 rfl) ?_
      refine g_icmp_gt (pc := 24) (tgt := 1651) (dk d_mL_law 15 rfl) rfl (fun q => ?_) (fun _ => ?_)
      · exfalso
        have e : (roN E 1 : Int) = E.1 := rfl
        rw [e] at q
        unfold w32 at q
        omega
      · refine g_aload_n (pc := 27) (j := 0) (dk d_mL_law 16 rfl) rfl (by decide) ?_
        refine g_iload_n (pc := 28) (j := 3) (dk d_mL_law 17 rfl) rfl ?_
        refine g_roald (pc := 29) (q := 1) (by decide) rfl (lbnd0 ⟨h0, hlt⟩) (dk d_mL_law 18 rfl) ?_
        refine g_bipush (pc := 30) (dk d_mL_law 19 rfl) (by decide) ?_
        refine g_iand (pc := 32) (dk d_mL_law 20 rfl) ?_
        refine hk _ ?_
        refine g_iinc (pc := 1645) (j := 3) (l' := [(3, pI (w32 (i + 6))), (0, pR (-1)), (1, pR 0), (2, pR 46)]) (dk d_mL_law_28 33 rfl) rfl (by decide) (Nat.le_of_ble_eq_true rfl) rfl ?_
        refine g_goto (pc := 1648) (tgt := 18) (dk d_mL_law_28 34 rfl) rfl ?_
        have e6 : w32 (i + 6) = i + 6 := by unfold w32; omega
        rw [e6]
        refine g_pick [1, 2, 3, 0] rfl (l' := [(0, pR (-1)), (1, pR 0), (2, pR 46), (3, pI (i + 6))]) rfl ?_
        exact hG
    · refine ⟨w, ?_⟩
      refine g_iload_n (pc := 18) (j := 3) (dk d_mL_law 10 rfl) rfl ?_
      refine g_aload_n (pc := 19) (j := 0) (dk d_mL_law 11 rfl) rfl (by decide) ?_
      refine g_rolen (pc := 20) (q := 1) (by decide) rfl (dk d_mL_law 12 rfl) ?_
      refine g_bipush (pc := 21) (dk d_mL_law 13 rfl) (by decide) ?_
      refine g_isub (pc := 23) (dk d_mL_law 14 rfl) ?_
      refine g_icmp_gt (pc := 24) (tgt := 1651) (dk d_mL_law 15 rfl) rfl (fun _ => ?_) (fun q => ?_)
      · refine g_iconst (pc := 1651) (dk d_mL_law_28 35 rfl) (by decide) ?_
        exact g_ireturn (pc := 1652) (dk d_mL_law_28 36 rfl) (fun _ => Or.inr rfl) hcz.1 hcz.2
      · exfalso
        have e : (roN E 1 : Int) = E.1 := rfl
        rw [e] at q
        unfold w32 at q
        omega
set_option maxRecDepth 100000 in
set_option maxHeartbeats 4000000 in
/-- the law, from its first instruction -/
theorem law_all (E : Nat × (Int → Int)) (d : Nat) (hL : E.1 ≤ 3072) (hE : ∀ i, I32 (E.2 i)) {Inv : WD → Prop} (ho : OpsOK Inv) (h0 : Inv W0) : ∃ wE, G E mL_law (d + 208) 0 [(0, pR (-1))] [] (fun _ _ => 0) (fun _ _ => -9) 0 0 0 (some (pI 1), wE, RF, NN) := by
  obtain ⟨wE, hG⟩ := law_loop E d (c := 0 + 1 + mC mB_init + 1 + mC mR_init) (z := 0 + 7 + mS mB_init + 66 + mS mR_init) hL hE ⟨Nat.le_of_ble_eq_true rfl, Nat.le_of_ble_eq_true rfl⟩ ho (E.1 + 1) 0 W0 (by omega) (by omega) h0
  refine ⟨wE, ?_⟩
  refine c_new (pc := 0) (k := 0) (n2 := 1) (dk d_mL_law 0 rfl) np_L_7 rfl rfl rfl (by decide) ⟨Nat.le_of_ble_eq_true rfl, Nat.le_of_ble_eq_true rfl⟩ ?_
  refine g_dup (pc := 3) (dk d_mL_law 1 rfl) rfl ?_
  refine g_callI (d := d + 207) (pc := 4) (na := 0) (av := []) (k0 := 0) (ci := 7) (N := 7) ⟨by decide, by decide, rfl⟩ (dk d_mL_law 2 rfl) lk_L_9 vm_mB_init rfl (kB_init_0 E (d + 205) _ _) rfl (Nat.le_of_ble_eq_true rfl) ⟨Nat.le_of_ble_eq_true rfl, Nat.le_of_ble_eq_true rfl⟩ ?_
  refine g_astore_n (pc := 7) (l' := [(1, pR 0), (0, pR (-1))]) (dk d_mL_law 3 rfl) (Nat.le_of_ble_eq_true rfl) (by decide) rfl ?_
  refine c_new (pc := 8) (k := 46) (n2 := 47) (dk d_mL_law 4 rfl) np_L_10 rfl rfl rfl (by decide) ⟨Nat.le_of_ble_eq_true rfl, Nat.le_of_ble_eq_true rfl⟩ ?_
  refine g_dup (pc := 11) (dk d_mL_law 5 rfl) rfl ?_
  refine g_callI (d := d + 207) (pc := 12) (na := 0) (av := []) (k0 := 46) (ci := 8) (N := 66) ⟨by decide, by decide, rfl⟩ (dk d_mL_law 6 rfl) lk_L_12 vm_mR_init rfl (kR_init_46 E (d + 206) _ _) rfl (Nat.le_of_ble_eq_true rfl) ⟨Nat.le_of_ble_eq_true rfl, Nat.le_of_ble_eq_true rfl⟩ ?_
  refine g_astore_n (pc := 15) (l' := [(2, pR 46), (1, pR 0), (0, pR (-1))]) (dk d_mL_law 7 rfl) (Nat.le_of_ble_eq_true rfl) (by decide) rfl ?_
  refine g_iconst (pc := 16) (dk d_mL_law 8 rfl) (by decide) ?_
  refine g_istore_n (pc := 17) (l' := [(3, pI 0), (2, pR 46), (1, pR 0), (0, pR (-1))]) (dk d_mL_law 9 rfl) (Nat.le_of_ble_eq_true rfl) rfl ?_
  refine g_pick [3, 2, 1, 0] rfl (l' := [(0, pR (-1)), (1, pR 0), (2, pR 46), (3, pI 0)]) rfl ?_
  refine g_alike (w2 := W0) (rf2 := RF) W0_ok ?_
  exact hG
