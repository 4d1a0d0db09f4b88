/-- a row of ints that nobody writes, of a static field: what the claim gives of it -/
theorem st_of {args : Array Value} {s : State} {A : Nat → Prop} {C nm : String} {l : List Int} (hN : l.length < 2 ^ 31) (hl : (Cond.laysStatic C nm "[I").before args s = true) (hi : (Cond.initialized C).before args s = true)
    (hw : ∀ q ∈ ([.arrayOf (.static C nm "[I") .int, .eq (.length (.static C nm "[I")) (.int (Int32.ofNat l.length))] ++ (List.range l.length).map (fun j => Cond.eq (.elem (.static C nm "[I") (.int (Int32.ofNat j))) (.int (Int32.ofInt (l.getD j 0)))) : List Cond), q.before args s = true)
    (hr : ∀ x ∈ l, (Int32.ofInt x).toInt = x) (hA : ∀ a : Nat, a < s.heap.size → ¬ A a) : ∃ (t : Nat) (f : Nat → Value), va_T .int t l.length f A s s.heap ∧ va_Z C nm "[I" (.ref t) A s s.heap ∧ ∀ j : Nat, j < l.length → ∃ x : Int32, f j = .int x ∧ x.toInt = l.getD j 0 := by
  obtain ⟨t, ht, hT⟩ := va_Tof (ty := .int) (tm := .static C nm "[I") (f := fun j => .int (Int32.ofInt (l.getD j 0))) (A := A) hN (hw _ (by simp)) (va_eqt (hw _ (by simp))) (fun j hj => va_eqt (hw _ (List.mem_append_right _ (List.mem_map.mpr ⟨j, List.mem_range.mpr hj, rfl⟩)))) hA
  refine ⟨t, _, hT, va_Zof hl hi ht hA, fun j hj => ⟨_, rfl, ?_⟩⟩
  rw [List.getD_eq_getElem?_getD, List.getElem?_eq_getElem hj]
  exact hr _ (List.getElem_mem hj)
/-- an array class of the tables -/
theorem ac_of {args : Array Value} {s : State} {t : FieldType} (ht : ∀ C, t ≠ .object C) (h : (Cond.arrayClass t).before args s = true) : ∃ c : ClassId, ArrOfT s c t ∧ va_RA s c t := by
  obtain ⟨c, kA, comp, h1, h2, h3⟩ := Cond.arrayClass_spec h
  refine ⟨c, fun N z => ⟨(fun k h => by cases h), kA, h2, comp, h3⟩, ?_⟩
  cases t with
  | object C => exact absurd rfl (ht C)
  | _ => exact h1
theorem ao_of {args : Array Value} {s : State} {C : String} (h : (Cond.arrayOver (.object C)).before args s = true) : ∃ c : ClassId, ArrOfT s c (.object C) ∧ va_RA s c (.object C) := by
  obtain ⟨comp, c, k, h1, -, h2, h3, h4⟩ := Cond.arrayOver_spec h
  exact ⟨c, fun N z => ⟨(fun k h => by cases h), k, h2, comp, h3⟩, k, comp, h2, h3, h1, h4⟩
theorem kn_of {s : State} {args : Array Value} (hts : ∀ w ∈ lw_g, w.before args s = true) : ∃ D : va_G, ∀ (c : Nat) (q : vw_C), classes[c]? = some q → u_Kn s q.1 q.2.1 q.2.2 (D.1 c) (D.2 c) := by
  obtain ⟨c0, i0, h0⟩ := u_known hts inX0 (hts _ (inG (tin_1 _ (List.mem_of_getElem? (i := 180) rfl)) rfl))
  obtain ⟨c1, i1, h1⟩ := u_known hts inX1 (hts _ (inG (tin_1 _ (List.mem_of_getElem? (i := 161) rfl)) rfl))
  obtain ⟨c2, i2, h2⟩ := u_known hts inX2 (hts _ (inG (tin_1 _ (List.mem_of_getElem? (i := 23) rfl)) rfl))
  obtain ⟨c3, i3, h3⟩ := u_known hts inX3 (hts _ (inG (tin_1 _ (List.mem_of_getElem? (i := 55) rfl)) rfl))
  obtain ⟨c4, i4, h4⟩ := u_known hts inX4 (hts _ (inG (tin_1 _ (List.mem_of_getElem? (i := 127) rfl)) rfl))
  obtain ⟨c5, i5, h5⟩ := u_known hts inX5 (hts _ (inG (tin_1 _ (List.mem_of_getElem? (i := 203) rfl)) rfl))
  obtain ⟨c6, i6, h6⟩ := u_known hts inX6 (hts _ (inG (tin_1 _ (List.mem_of_getElem? (i := 92) rfl)) rfl))
  obtain ⟨c7, i7, h7⟩ := u_known hts inX7 (hts _ (inG (tin_1 _ (List.mem_of_getElem? (i := 15) rfl)) rfl))
  obtain ⟨c8, i8, h8⟩ := u_known hts inX8 (hts _ (inG (tin_5 _ (List.mem_of_getElem? (i := 71) rfl)) rfl))
  refine ⟨(fun c => match c with | 0 => c0 | 1 => c1 | 2 => c2 | 3 => c3 | 4 => c4 | 5 => c5 | 6 => c6 | 7 => c7 | _ => c8, fun c => match c with | 0 => i0 | 1 => i1 | 2 => i2 | 3 => i3 | 4 => i4 | 5 => i5 | 6 => i6 | 7 => i7 | _ => i8), fun c q hq => ?_⟩
  have hc : c < 9 := (List.getElem?_eq_some_iff.mp hq).1
  rcases (by omega : c = 0 ∨ c = 1 ∨ c = 2 ∨ c = 3 ∨ c = 4 ∨ c = 5 ∨ c = 6 ∨ c = 7 ∨ c = 8) with rfl | rfl | rfl | rfl | rfl | rfl | rfl | rfl | rfl
  · cases hq; exact h0
  · cases hq; exact h1
  · cases hq; exact h2
  · cases hq; exact h3
  · cases hq; exact h4
  · cases hq; exact h5
  · cases hq; exact h6
  · cases hq; exact h7
  · cases hq; exact h8
theorem ty_of {s : State} {args : Array Value} (hts : ∀ w ∈ lw_g, w.before args s = true) (hts0 : ∀ w ∈ lw_tbl, w.before args s = true) : ∃ ty : Nat → ClassId, ∀ (k : Nat) (q : ClassId × FieldType), (TYS ty)[k]? = some q → ArrOfT s q.1 q.2 ∧ va_RA s q.1 q.2 := by
  obtain ⟨c0, h0⟩ := ac_of (t := .int) (by intro C h; cases h) (hts _ ar_int)
  obtain ⟨c1, h1⟩ := ac_of (t := .byte) (by intro C h; cases h) (hts _ ar_byte)
  obtain ⟨c2, h2⟩ := ac_of (t := .boolean) (by intro C h; cases h) (hts _ ar_boolean)
  obtain ⟨c3, h3⟩ := ac_of (t := .short) (by intro C h; cases h) (hts _ ar_short)
  obtain ⟨c4, h4⟩ := ac_of (t := .long) (by intro C h; cases h) (hts _ ar_long)
  obtain ⟨c5, h5⟩ := ao_of (C := "BehindTheMask$Shelf") (hts0 _ (tin_1 _ (List.mem_of_getElem? (i := 202) rfl)))
  refine ⟨fun k => match k with | 0 => c0 | 1 => c1 | 2 => c2 | 3 => c3 | 4 => c4 | _ => c5, fun k q hq => ?_⟩
  have hk : k < 6 := (List.getElem?_eq_some_iff.mp hq).1
  rcases (by omega : k = 0 ∨ k = 1 ∨ k = 2 ∨ k = 3 ∨ k = 4 ∨ k = 5) with rfl | rfl | rfl | rfl | rfl | rfl
  · cases hq; exact h0
  · cases hq; exact h1
  · cases hq; exact h2
  · cases hq; exact h3
  · cases hq; exact h4
  · cases hq; exact h5
theorem nest_of {s : State} {args : Array Value} (hts : ∀ w ∈ lw_tbl, w.before args s = true) : ∀ q ∈ nests, va_Nw (.methodLinkNest RX7 q.1 q.2 "BehindTheMask") s := by
  intro q hq
  rcases List.mem_cons.mp hq with rfl | hq
  · exact va_Nw.of rfl (hts _ (tin_1 _ (List.mem_of_getElem? (i := 56) rfl)))
  rcases List.mem_cons.mp hq with rfl | hq
  · exact va_Nw.of rfl (hts _ (tin_1 _ (List.mem_of_getElem? (i := 162) rfl)))
  rcases List.mem_cons.mp hq with rfl | hq
  · exact va_Nw.of rfl (hts _ (tin_1 _ (List.mem_of_getElem? (i := 181) rfl)))
  rcases List.mem_singleton.mp hq with rfl
  · exact va_Nw.of rfl (hts _ (tin_1 _ (List.mem_of_getElem? (i := 204) rfl)))
set_option maxRecDepth 100000 in
theorem st_2 {args : Array Value} {s : State} {A : Nat → Prop} (hts : ∀ w ∈ lw_tbl, w.before args s = true) (hgv : (Jvm.Cond.and given_1 narrow_1).before args s = true) (hA : ∀ a : Nat, a < s.heap.size → ¬ A a) : ∃ (t : Nat) (f : Nat → Value), va_T .int t (roT.getD 2 []).length f A s s.heap ∧ va_Z (stN 2).1 (stN 2).2 "[I" (.ref t) A s s.heap ∧ ∀ j : Nat, j < (roT.getD 2 []).length → ∃ x : Int32, f j = .int x ∧ x.toInt = (roT.getD 2 []).getD j 0 := by
  have hall : ([.arrayOf (.static (stN 2).1 (stN 2).2 "[I") .int, .eq (.length (.static (stN 2).1 (stN 2).2 "[I")) (.int (Int32.ofNat (roT.getD 2 []).length))] ++ (List.range (roT.getD 2 []).length).map (fun j => Cond.eq (.elem (.static (stN 2).1 (stN 2).2 "[I") (.int (Int32.ofNat j))) (.int (Int32.ofInt ((roT.getD 2 []).getD j 0)))) : List Cond).all (fun q => decide (q ∈ flatC (Jvm.Cond.and given_1 narrow_1))) = true := by decide +kernel
  exact st_of (l := roT.getD 2 []) (by decide) (hts _ (tin_2 _ (List.mem_of_getElem? (i := 75) rfl))) (hts _ (List.mem_filter.mp (inG (tin_1 _ (List.mem_of_getElem? (i := 2) rfl)) rfl)).1) (fun q hq => flat_of_before _ hgv _ (of_decide_eq_true (List.all_eq_true.mp hall q hq))) (by decide +kernel) hA
set_option maxRecDepth 100000 in
theorem st_3 {args : Array Value} {s : State} {A : Nat → Prop} (hts : ∀ w ∈ lw_tbl, w.before args s = true) (hgv : (Jvm.Cond.and given_1 narrow_1).before args s = true) (hA : ∀ a : Nat, a < s.heap.size → ¬ A a) : ∃ (t : Nat) (f : Nat → Value), va_T .int t (roT.getD 3 []).length f A s s.heap ∧ va_Z (stN 3).1 (stN 3).2 "[I" (.ref t) A s s.heap ∧ ∀ j : Nat, j < (roT.getD 3 []).length → ∃ x : Int32, f j = .int x ∧ x.toInt = (roT.getD 3 []).getD j 0 := by
  have hall : ([.arrayOf (.static (stN 3).1 (stN 3).2 "[I") .int, .eq (.length (.static (stN 3).1 (stN 3).2 "[I")) (.int (Int32.ofNat (roT.getD 3 []).length))] ++ (List.range (roT.getD 3 []).length).map (fun j => Cond.eq (.elem (.static (stN 3).1 (stN 3).2 "[I") (.int (Int32.ofNat j))) (.int (Int32.ofInt ((roT.getD 3 []).getD j 0)))) : List Cond).all (fun q => decide (q ∈ flatC (Jvm.Cond.and given_1 narrow_1))) = true := by decide +kernel
  exact st_of (l := roT.getD 3 []) (by decide) (hts _ (tin_2 _ (List.mem_of_getElem? (i := 77) rfl))) (hts _ (List.mem_filter.mp (inG (tin_1 _ (List.mem_of_getElem? (i := 2) rfl)) rfl)).1) (fun q hq => flat_of_before _ hgv _ (of_decide_eq_true (List.all_eq_true.mp hall q hq))) (by decide +kernel) hA
set_option maxRecDepth 100000 in
theorem st_4 {args : Array Value} {s : State} {A : Nat → Prop} (hts : ∀ w ∈ lw_tbl, w.before args s = true) (hgv : (Jvm.Cond.and given_1 narrow_1).before args s = true) (hA : ∀ a : Nat, a < s.heap.size → ¬ A a) : ∃ (t : Nat) (f : Nat → Value), va_T .int t (roT.getD 4 []).length f A s s.heap ∧ va_Z (stN 4).1 (stN 4).2 "[I" (.ref t) A s s.heap ∧ ∀ j : Nat, j < (roT.getD 4 []).length → ∃ x : Int32, f j = .int x ∧ x.toInt = (roT.getD 4 []).getD j 0 := by
  have hall : ([.arrayOf (.static (stN 4).1 (stN 4).2 "[I") .int, .eq (.length (.static (stN 4).1 (stN 4).2 "[I")) (.int (Int32.ofNat (roT.getD 4 []).length))] ++ (List.range (roT.getD 4 []).length).map (fun j => Cond.eq (.elem (.static (stN 4).1 (stN 4).2 "[I") (.int (Int32.ofNat j))) (.int (Int32.ofInt ((roT.getD 4 []).getD j 0)))) : List Cond).all (fun q => decide (q ∈ flatC (Jvm.Cond.and given_1 narrow_1))) = true := by decide +kernel
  exact st_of (l := roT.getD 4 []) (by decide) (hts _ (tin_4 _ (List.mem_of_getElem? (i := 191) rfl))) (hts _ (List.mem_filter.mp (inG (tin_1 _ (List.mem_of_getElem? (i := 7) rfl)) rfl)).1) (fun q hq => flat_of_before _ hgv _ (of_decide_eq_true (List.all_eq_true.mp hall q hq))) (by decide +kernel) hA
set_option maxRecDepth 100000 in
theorem st_5 {args : Array Value} {s : State} {A : Nat → Prop} (hts : ∀ w ∈ lw_tbl, w.before args s = true) (hgv : (Jvm.Cond.and given_1 narrow_1).before args s = true) (hA : ∀ a : Nat, a < s.heap.size → ¬ A a) : ∃ (t : Nat) (f : Nat → Value), va_T .int t (roT.getD 5 []).length f A s s.heap ∧ va_Z (stN 5).1 (stN 5).2 "[I" (.ref t) A s s.heap ∧ ∀ j : Nat, j < (roT.getD 5 []).length → ∃ x : Int32, f j = .int x ∧ x.toInt = (roT.getD 5 []).getD j 0 := by
  have hall : ([.arrayOf (.static (stN 5).1 (stN 5).2 "[I") .int, .eq (.length (.static (stN 5).1 (stN 5).2 "[I")) (.int (Int32.ofNat (roT.getD 5 []).length))] ++ (List.range (roT.getD 5 []).length).map (fun j => Cond.eq (.elem (.static (stN 5).1 (stN 5).2 "[I") (.int (Int32.ofNat j))) (.int (Int32.ofInt ((roT.getD 5 []).getD j 0)))) : List Cond).all (fun q => decide (q ∈ flatC (Jvm.Cond.and given_1 narrow_1))) = true := by decide +kernel
  exact st_of (l := roT.getD 5 []) (by decide) (hts _ (tin_4 _ (List.mem_of_getElem? (i := 196) rfl))) (hts _ (List.mem_filter.mp (inG (tin_1 _ (List.mem_of_getElem? (i := 7) rfl)) rfl)).1) (fun q hq => flat_of_before _ hgv _ (of_decide_eq_true (List.all_eq_true.mp hall q hq))) (by decide +kernel) hA
/-- the law's world at its entry, and the law walked: what is left is its end -/
theorem start_of {Inv : WD → Prop} (ho : OpsOK Inv) (h0 : Inv W0) {p : Program} {e : Env} {s : State} {m : MethodId} {below : List Frame} {meth : Method} {c : Code} (l : Launch) {b L : Nat} {xs : Nat → Int32} {Q : State → Prop} (hL : L ≤ 3072) (h1 : p.tables.exec = Jvm.exec) (h2 : c.code = code) (h3 : meth.sig.returnType = ret) (h4 : c.maxLocals = 4) (h5 : s.vm.findClass (mY mL_law).cls = some m.cls) (hts0 : ∀ w ∈ lw_tbl, w.before #[Value.ref b] s = true) (hX : va_X b L xs s s.heap) (hb : b < s.heap.size) (h6 : meth.locks = false) (hgv : (Jvm.Cond.and given_1 narrow_1).before #[Value.ref b] s = true)
    (K : ∀ (H : Heap) (locs : List Loc) (pc : Nat) (ls : Array Slot) (c' z : Nat), (∀ q ∈ locs, s.heap.size ≤ q.base) → c' ≤ mC mL_law → z ≤ mS mL_law → decode code pc = .ok (.ireturn, 1) → W p l e room_1 s m #[Value.ref b] below meth c H locs c' z Q (F0 m pc ls [.int 1])) :
    W p l e room_1 s m #[Value.ref b] below meth c s.heap [] 0 0 Q (entryFrame m ([Value.ref b] : List Value).toArray 4) := by
  have hts : ∀ w ∈ lw_g, w.before #[Value.ref b] s = true := fun w hw => hts0 w (List.mem_filter.mp hw).1
  have hA : ∀ a : Nat, a < s.heap.size → ¬ (fun q => s.heap.size ≤ q) a := fun a h q => Nat.not_lt.mpr q h
  obtain ⟨D, hD⟩ := kn_of hts
  obtain ⟨ty, hty⟩ := ty_of hts hts0
  obtain ⟨t2, f2, a2, b2, e2⟩ := st_2 (A := fun q => s.heap.size ≤ q) hts0 hgv hA
  obtain ⟨t3, f3, a3, b3, e3⟩ := st_3 (A := fun q => s.heap.size ≤ q) hts0 hgv hA
  obtain ⟨t4, f4, a4, b4, e4⟩ := st_4 (A := fun q => s.heap.size ≤ q) hts0 hgv hA
  obtain ⟨t5, f5, a5, b5, e5⟩ := st_5 (A := fun q => s.heap.size ≤ q) hts0 hgv hA
  let ro : Nat → Nat := fun k => match k with | 1 => b | 2 => t2 | 3 => t3 | 4 => t4 | _ => t5
  let E : Nat × (Int → Int) := (L, fun i => (xs i.toNat).toInt)
  obtain ⟨wE, hG⟩ := law_all E 0 hL (fun i => ⟨Int32.le_toInt _, Int32.toInt_lt _⟩) ho h0
  have hgx : gX E ro (fun q => s.heap.size ≤ q) s := by
    refine ⟨fun k k1 k5 => ?_, fun k k2 k5 => ?_, va_AO.of (hts0 _ (tin_1 _ (List.mem_of_getElem? (i := 202) rfl))), hL, nest_of hts0⟩
    · rcases (by omega : k = 1 ∨ k = 2 ∨ k = 3 ∨ k = 4 ∨ k = 5) with rfl | rfl | rfl | rfl | rfl
      · obtain ⟨scr, g1, g2, g3, g4, g5⟩ := hX
        exact ⟨fun j => .int (xs j), ⟨scr, g1, g2, g3, Nat.le_of_eq g4.symm, by rw [g4]; rfl, g5, hA b hb⟩, fun j _ => ⟨xs j, rfl, rfl⟩⟩
      · exact ⟨f2, a2, fun j hj => by obtain ⟨x, q1, q2⟩ := e2 j hj; exact ⟨x, q1, by rw [q2]; unfold roV; rw [if_neg (by decide), if_neg (by omega)]; rfl⟩⟩
      · exact ⟨f3, a3, fun j hj => by obtain ⟨x, q1, q2⟩ := e3 j hj; exact ⟨x, q1, by rw [q2]; unfold roV; rw [if_neg (by decide), if_neg (by omega)]; rfl⟩⟩
      · exact ⟨f4, a4, fun j hj => by obtain ⟨x, q1, q2⟩ := e4 j hj; exact ⟨x, q1, by rw [q2]; unfold roV; rw [if_neg (by decide), if_neg (by omega)]; rfl⟩⟩
      · exact ⟨f5, a5, fun j hj => by obtain ⟨x, q1, q2⟩ := e5 j hj; exact ⟨x, q1, by rw [q2]; unfold roV; rw [if_neg (by decide), if_neg (by omega)]; rfl⟩⟩
    · rcases (by omega : k = 2 ∨ k = 3 ∨ k = 4 ∨ k = 5) with rfl | rfl | rfl | rfl
      · exact b2
      · exact b3
      · exact b4
      · exact b5
  have hC : CX E mL_law 208 D ty ro p room_1 s m #[Value.ref b] meth c (fun q => s.heap.size ≤ q) :=
    ⟨h1, h2, h4, h3, h5, hts, ⟨hD, hty⟩, fun q hq => hq, hgx, ⟨by decide, by decide, by decide, by decide⟩, h6, fun q => absurd q (by decide)⟩
  have hl := lv_entry ([Value.ref b] : List Value) (n := 4) (by rw [sl_len]; exact Nat.le_of_ble_eq_true rfl)
  rw [lg_entry_eq]
  refine hG (fun _ => 0) 0 l D ty ro p e room_1 s m #[Value.ref b] below meth c (fun q => s.heap.size ≤ q) Q hC ?_ (fun _ => 0) [] s.heap [] _ _ []
    ⟨fun k q h => by simp at h, ⟨fun i j p q h => by simp at h, fun k q h => by simp at h⟩, va_S.rf, ⟨rfl, fun j hj => by omega⟩, Nat.le_refl _, fun _ _ => rfl⟩ hl (pargs_r (av := [pR (-1)]) 0 ⟨?_, trivial⟩) trivial
  · intro ad ws H locs pc ls c' z I hc hz x hx _ hd
    have e1 : x = 1 := Int32.toInt_inj.mp (by rw [hx]; rfl)
    subst e1
    obtain ⟨-, -, hS, -⟩ := I
    exact K H locs pc ls c' z (fun q hq => hS.2.2 q hq) hc hz hd
  · exact Or.inr (Or.inl ⟨1, rfl, by decide, by decide, rfl⟩)
