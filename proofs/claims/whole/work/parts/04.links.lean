/-- a row of a table of decoded instructions -/
theorem dk {b : ByteArray} {t : List (Nat × Instr × Nat)} (h : t.all (fun q => decide (decode b q.1 = .ok q.2)) = true) (j : Nat) {pc : Nat} {ins : Instr} {len : Nat} (e : t[j]? = some (pc, ins, len)) : decode b pc = .ok (ins, len) := by
  have h1 := List.all_eq_true.mp h _ (List.mem_of_getElem? e)
  exact of_decide_eq_true h1
theorem tin_0 : ∀ w ∈ k2_sels lw_privs, w ∈ lw_tbl := fun w h => List.mem_append_left _ h
theorem tin_t : ∀ w ∈ tables_1, w ∈ lw_tbl := fun w h => List.mem_append_right _ h
theorem tin_1 : ∀ w ∈ tables_1_1, w ∈ lw_tbl := fun w h => tin_t w (List.mem_append_left _ h)
theorem tin_2 : ∀ w ∈ tables_1_2, w ∈ lw_tbl := fun w h => tin_t w (List.mem_append_right _ (List.mem_append_left _ h))
theorem tin_3 : ∀ w ∈ tables_1_3, w ∈ lw_tbl := fun w h => tin_t w (List.mem_append_right _ (List.mem_append_right _ (List.mem_append_left _ h)))
theorem tin_4 : ∀ w ∈ tables_1_4, w ∈ lw_tbl := fun w h => tin_t w (List.mem_append_right _ (List.mem_append_right _ (List.mem_append_right _ (List.mem_append_left _ h))))
theorem tin_5 : ∀ w ∈ tables_1_5, w ∈ lw_tbl := fun w h => tin_t w (List.mem_append_right _ (List.mem_append_right _ (List.mem_append_right _ (List.mem_append_right _ (List.mem_append_left _ h)))))
theorem tin_6 : ∀ w ∈ tables_1_6, w ∈ lw_tbl := fun w h => tin_t w (List.mem_append_right _ (List.mem_append_right _ (List.mem_append_right _ (List.mem_append_right _ (List.mem_append_right _ (List.mem_append_left _ h))))))
theorem tin_7 : ∀ w ∈ tables_1_7, w ∈ lw_tbl := fun w h => tin_t w (List.mem_append_right _ (List.mem_append_right _ (List.mem_append_right _ (List.mem_append_right _ (List.mem_append_right _ (List.mem_append_right _ (List.mem_append_left _ h)))))))
theorem tin_8 : ∀ w ∈ tables_1_8, w ∈ lw_tbl := fun w h => tin_t w (List.mem_append_right _ (List.mem_append_right _ (List.mem_append_right _ (List.mem_append_right _ (List.mem_append_right _ (List.mem_append_right _ (List.mem_append_right _ (h))))))))
theorem inX0 : ∀ w ∈ wsX00, w ∈ lw_g := by
  have h : (wsX00.zip [292, 294, 296, 298, 300]).all (fun q => decide (lw_tbl[q.2]? = some q.1)) = true := by decide +kernel
  have hg : wsX00.all goodWord = true := by decide +kernel
  have hl : wsX00.length = 5 := by decide +kernel
  intro w hw
  refine inG ?_ (List.all_eq_true.mp hg w hw)
  obtain ⟨j, hj, e⟩ := List.getElem_of_mem hw
  have hz : (w, ([292, 294, 296, 298, 300] : List Nat)[j]'(by rw [hl] at hj; exact hj)) ∈ wsX00.zip [292, 294, 296, 298, 300] := by
    rw [List.mem_iff_getElem]
    exact ⟨j, by rw [List.length_zip]; simp only [hl] at hj ⊢; simpa using hj, by rw [List.getElem_zip, e]⟩
  exact List.mem_of_getElem? (of_decide_eq_true (List.all_eq_true.mp h _ hz))
theorem inX1 : ∀ w ∈ wsX10, w ∈ lw_g := by
  have h : (wsX10.zip [272, 274, 276, 278]).all (fun q => decide (lw_tbl[q.2]? = some q.1)) = true := by decide +kernel
  have hg : wsX10.all goodWord = true := by decide +kernel
  have hl : wsX10.length = 4 := by decide +kernel
  intro w hw
  refine inG ?_ (List.all_eq_true.mp hg w hw)
  obtain ⟨j, hj, e⟩ := List.getElem_of_mem hw
  have hz : (w, ([272, 274, 276, 278] : List Nat)[j]'(by rw [hl] at hj; exact hj)) ∈ wsX10.zip [272, 274, 276, 278] := by
    rw [List.mem_iff_getElem]
    exact ⟨j, by rw [List.length_zip]; simp only [hl] at hj ⊢; simpa using hj, by rw [List.getElem_zip, e]⟩
  exact List.mem_of_getElem? (of_decide_eq_true (List.all_eq_true.mp h _ hz))
theorem inX2 : ∀ w ∈ wsX20, w ∈ lw_g := by
  have h : (wsX20.zip [138, 140, 142, 144, 146, 148, 150, 152]).all (fun q => decide (lw_tbl[q.2]? = some q.1)) = true := by decide +kernel
  have hg : wsX20.all goodWord = true := by decide +kernel
  have hl : wsX20.length = 8 := by decide +kernel
  intro w hw
  refine inG ?_ (List.all_eq_true.mp hg w hw)
  obtain ⟨j, hj, e⟩ := List.getElem_of_mem hw
  have hz : (w, ([138, 140, 142, 144, 146, 148, 150, 152] : List Nat)[j]'(by rw [hl] at hj; exact hj)) ∈ wsX20.zip [138, 140, 142, 144, 146, 148, 150, 152] := by
    rw [List.mem_iff_getElem]
    exact ⟨j, by rw [List.length_zip]; simp only [hl] at hj ⊢; simpa using hj, by rw [List.getElem_zip, e]⟩
  exact List.mem_of_getElem? (of_decide_eq_true (List.all_eq_true.mp h _ hz))
theorem inX3 : ∀ w ∈ wsX30, w ∈ lw_g := by
  have h : (wsX30.zip [172, 174, 176, 178, 180, 182, 184, 186, 188, 190]).all (fun q => decide (lw_tbl[q.2]? = some q.1)) = true := by decide +kernel
  have hg : wsX30.all goodWord = true := by decide +kernel
  have hl : wsX30.length = 10 := by decide +kernel
  intro w hw
  refine inG ?_ (List.all_eq_true.mp hg w hw)
  obtain ⟨j, hj, e⟩ := List.getElem_of_mem hw
  have hz : (w, ([172, 174, 176, 178, 180, 182, 184, 186, 188, 190] : List Nat)[j]'(by rw [hl] at hj; exact hj)) ∈ wsX30.zip [172, 174, 176, 178, 180, 182, 184, 186, 188, 190] := by
    rw [List.mem_iff_getElem]
    exact ⟨j, by rw [List.length_zip]; simp only [hl] at hj ⊢; simpa using hj, by rw [List.getElem_zip, e]⟩
  exact List.mem_of_getElem? (of_decide_eq_true (List.all_eq_true.mp h _ hz))
theorem inX4 : ∀ w ∈ wsX40, w ∈ lw_g := by
  have h : (wsX40.zip [243, 245, 247, 249, 251, 253, 255, 257, 259]).all (fun q => decide (lw_tbl[q.2]? = some q.1)) = true := by decide +kernel
  have hg : wsX40.all goodWord = true := by decide +kernel
  have hl : wsX40.length = 9 := by decide +kernel
  intro w hw
  refine inG ?_ (List.all_eq_true.mp hg w hw)
  obtain ⟨j, hj, e⟩ := List.getElem_of_mem hw
  have hz : (w, ([243, 245, 247, 249, 251, 253, 255, 257, 259] : List Nat)[j]'(by rw [hl] at hj; exact hj)) ∈ wsX40.zip [243, 245, 247, 249, 251, 253, 255, 257, 259] := by
    rw [List.mem_iff_getElem]
    exact ⟨j, by rw [List.length_zip]; simp only [hl] at hj ⊢; simpa using hj, by rw [List.getElem_zip, e]⟩
  exact List.mem_of_getElem? (of_decide_eq_true (List.all_eq_true.mp h _ hz))
theorem inX5 : ∀ w ∈ wsX50, w ∈ lw_g := by
  have h : (wsX50.zip [314, 316, 318, 320]).all (fun q => decide (lw_tbl[q.2]? = some q.1)) = true := by decide +kernel
  have hg : wsX50.all goodWord = true := by decide +kernel
  have hl : wsX50.length = 4 := by decide +kernel
  intro w hw
  refine inG ?_ (List.all_eq_true.mp hg w hw)
  obtain ⟨j, hj, e⟩ := List.getElem_of_mem hw
  have hz : (w, ([314, 316, 318, 320] : List Nat)[j]'(by rw [hl] at hj; exact hj)) ∈ wsX50.zip [314, 316, 318, 320] := by
    rw [List.mem_iff_getElem]
    exact ⟨j, by rw [List.length_zip]; simp only [hl] at hj ⊢; simpa using hj, by rw [List.getElem_zip, e]⟩
  exact List.mem_of_getElem? (of_decide_eq_true (List.all_eq_true.mp h _ hz))
theorem inX6 : ∀ w ∈ wsX60, w ∈ lw_g := by
  have h : (wsX60.zip [208, 210, 212, 214, 216, 218, 220, 222, 224]).all (fun q => decide (lw_tbl[q.2]? = some q.1)) = true := by decide +kernel
  have hg : wsX60.all goodWord = true := by decide +kernel
  have hl : wsX60.length = 9 := by decide +kernel
  intro w hw
  refine inG ?_ (List.all_eq_true.mp hg w hw)
  obtain ⟨j, hj, e⟩ := List.getElem_of_mem hw
  have hz : (w, ([208, 210, 212, 214, 216, 218, 220, 222, 224] : List Nat)[j]'(by rw [hl] at hj; exact hj)) ∈ wsX60.zip [208, 210, 212, 214, 216, 218, 220, 222, 224] := by
    rw [List.mem_iff_getElem]
    exact ⟨j, by rw [List.length_zip]; simp only [hl] at hj ⊢; simpa using hj, by rw [List.getElem_zip, e]⟩
  exact List.mem_of_getElem? (of_decide_eq_true (List.all_eq_true.mp h _ hz))
theorem inX7 : ∀ w ∈ wsX70, w ∈ lw_g := by
  have h : (wsX70.zip [330, 332, 334, 336, 338, 340, 342]).all (fun q => decide (lw_tbl[q.2]? = some q.1)) = true := by decide +kernel
  have hg : wsX70.all goodWord = true := by decide +kernel
  have hl : wsX70.length = 7 := by decide +kernel
  intro w hw
  refine inG ?_ (List.all_eq_true.mp hg w hw)
  obtain ⟨j, hj, e⟩ := List.getElem_of_mem hw
  have hz : (w, ([330, 332, 334, 336, 338, 340, 342] : List Nat)[j]'(by rw [hl] at hj; exact hj)) ∈ wsX70.zip [330, 332, 334, 336, 338, 340, 342] := by
    rw [List.mem_iff_getElem]
    exact ⟨j, by rw [List.length_zip]; simp only [hl] at hj ⊢; simpa using hj, by rw [List.getElem_zip, e]⟩
  exact List.mem_of_getElem? (of_decide_eq_true (List.all_eq_true.mp h _ hz))
theorem inX8 : ∀ w ∈ wsX80, w ∈ lw_g := by
  have h : (wsX80.zip [1203, 1205, 1207, 1209, 1211, 1213, 1215, 1217, 1219, 1221, 1223, 1225, 1227, 1229, 1231, 1233, 1235, 1237, 1239, 1241, 1243, 1245, 1247, 1249, 1251, 1253, 1255, 1257, 1259, 1261, 1263, 1265, 1267, 1269, 1271, 1273, 1275, 1277, 1279, 1281, 1283, 1285, 1287, 1289, 1291, 1293, 1295, 1297, 1299, 1301, 1303, 1305, 1307, 1309, 1311, 1313, 1315, 1317, 1319, 1321, 1323, 1325, 1327, 1329, 1331, 1333]).all (fun q => decide (lw_tbl[q.2]? = some q.1)) = true := by decide +kernel
  have hg : wsX80.all goodWord = true := by decide +kernel
  have hl : wsX80.length = 66 := by decide +kernel
  intro w hw
  refine inG ?_ (List.all_eq_true.mp hg w hw)
  obtain ⟨j, hj, e⟩ := List.getElem_of_mem hw
  have hz : (w, ([1203, 1205, 1207, 1209, 1211, 1213, 1215, 1217, 1219, 1221, 1223, 1225, 1227, 1229, 1231, 1233, 1235, 1237, 1239, 1241, 1243, 1245, 1247, 1249, 1251, 1253, 1255, 1257, 1259, 1261, 1263, 1265, 1267, 1269, 1271, 1273, 1275, 1277, 1279, 1281, 1283, 1285, 1287, 1289, 1291, 1293, 1295, 1297, 1299, 1301, 1303, 1305, 1307, 1309, 1311, 1313, 1315, 1317, 1319, 1321, 1323, 1325, 1327, 1329, 1331, 1333] : List Nat)[j]'(by rw [hl] at hj; exact hj)) ∈ wsX80.zip [1203, 1205, 1207, 1209, 1211, 1213, 1215, 1217, 1219, 1221, 1223, 1225, 1227, 1229, 1231, 1233, 1235, 1237, 1239, 1241, 1243, 1245, 1247, 1249, 1251, 1253, 1255, 1257, 1259, 1261, 1263, 1265, 1267, 1269, 1271, 1273, 1275, 1277, 1279, 1281, 1283, 1285, 1287, 1289, 1291, 1293, 1295, 1297, 1299, 1301, 1303, 1305, 1307, 1309, 1311, 1313, 1315, 1317, 1319, 1321, 1323, 1325, 1327, 1329, 1331, 1333] := by
    rw [List.mem_iff_getElem]
    exact ⟨j, by rw [List.length_zip]; simp only [hl] at hj ⊢; simpa using hj, by rw [List.getElem_zip, e]⟩
  exact List.mem_of_getElem? (of_decide_eq_true (List.all_eq_true.mp h _ hz))
theorem fp_Ha_11 : FP RX2 11 2 0 2 8 true := ⟨RX2, TX2, tyX2, rfl, by decide, inX2, inG (tin_1 _ (List.mem_of_getElem? (i := 28) rfl)) rfl, rfl, tyX2_ok, nmX2, rfl, rfl, Or.inr ⟨_, rfl⟩⟩
theorem fp_Ha_15 : FP RX2 15 2 1 2 8 true := ⟨RX2, TX2, tyX2, rfl, by decide, inX2, inG (tin_1 _ (List.mem_of_getElem? (i := 29) rfl)) rfl, rfl, tyX2_ok, nmX2, rfl, rfl, Or.inr ⟨_, rfl⟩⟩
theorem fp_Ha_18 : FP RX2 18 2 2 2 8 true := ⟨RX2, TX2, tyX2, rfl, by decide, inX2, inG (tin_1 _ (List.mem_of_getElem? (i := 30) rfl)) rfl, rfl, tyX2_ok, nmX2, rfl, rfl, Or.inr ⟨_, rfl⟩⟩
theorem fp_Ha_21 : FP RX2 21 2 3 2 8 true := ⟨RX2, TX2, tyX2, rfl, by decide, inX2, inG (tin_1 _ (List.mem_of_getElem? (i := 31) rfl)) rfl, rfl, tyX2_ok, nmX2, rfl, rfl, Or.inr ⟨_, rfl⟩⟩
theorem fp_Ha_24 : FP RX2 24 2 4 0 8 false := ⟨RX2, TX2, tyX2, rfl, by decide, inX2, inG (tin_1 _ (List.mem_of_getElem? (i := 32) rfl)) rfl, rfl, tyX2_ok, nmX2, rfl, rfl, rfl⟩
theorem fp_Ha_28 : FP RX2 28 2 5 0 8 false := ⟨RX2, TX2, tyX2, rfl, by decide, inX2, inG (tin_1 _ (List.mem_of_getElem? (i := 33) rfl)) rfl, rfl, tyX2_ok, nmX2, rfl, rfl, rfl⟩
theorem fp_Ha_31 : FP RX2 31 2 6 0 8 false := ⟨RX2, TX2, tyX2, rfl, by decide, inX2, inG (tin_1 _ (List.mem_of_getElem? (i := 34) rfl)) rfl, rfl, tyX2_ok, nmX2, rfl, rfl, rfl⟩
theorem fp_Ha_64 : FP RX2 64 2 7 0 8 false := ⟨RX2, TX2, tyX2, rfl, by decide, inX2, inG (tin_1 _ (List.mem_of_getElem? (i := 35) rfl)) rfl, rfl, tyX2_ok, nmX2, rfl, rfl, rfl⟩
theorem fp_La_11 : FP RX3 11 3 0 2 10 true := ⟨RX3, TX3, tyX3, rfl, by decide, inX3, inG (tin_1 _ (List.mem_of_getElem? (i := 60) rfl)) rfl, rfl, tyX3_ok, nmX3, rfl, rfl, Or.inr ⟨_, rfl⟩⟩
theorem fp_La_15 : FP RX3 15 3 1 2 10 true := ⟨RX3, TX3, tyX3, rfl, by decide, inX3, inG (tin_1 _ (List.mem_of_getElem? (i := 61) rfl)) rfl, rfl, tyX3_ok, nmX3, rfl, rfl, Or.inr ⟨_, rfl⟩⟩
theorem fp_La_18 : FP RX3 18 3 2 2 10 true := ⟨RX3, TX3, tyX3, rfl, by decide, inX3, inG (tin_1 _ (List.mem_of_getElem? (i := 62) rfl)) rfl, rfl, tyX3_ok, nmX3, rfl, rfl, Or.inr ⟨_, rfl⟩⟩
theorem fp_La_21 : FP RX3 21 3 3 2 10 true := ⟨RX3, TX3, tyX3, rfl, by decide, inX3, inG (tin_1 _ (List.mem_of_getElem? (i := 63) rfl)) rfl, rfl, tyX3_ok, nmX3, rfl, rfl, Or.inr ⟨_, rfl⟩⟩
theorem fp_La_24 : FP RX3 24 3 4 2 10 true := ⟨RX3, TX3, tyX3, rfl, by decide, inX3, inG (tin_1 _ (List.mem_of_getElem? (i := 64) rfl)) rfl, rfl, tyX3_ok, nmX3, rfl, rfl, Or.inr ⟨_, rfl⟩⟩
theorem fp_La_27 : FP RX3 27 3 5 0 10 false := ⟨RX3, TX3, tyX3, rfl, by decide, inX3, inG (tin_1 _ (List.mem_of_getElem? (i := 65) rfl)) rfl, rfl, tyX3_ok, nmX3, rfl, rfl, rfl⟩
theorem fp_La_31 : FP RX3 31 3 6 0 10 false := ⟨RX3, TX3, tyX3, rfl, by decide, inX3, inG (tin_1 _ (List.mem_of_getElem? (i := 66) rfl)) rfl, rfl, tyX3_ok, nmX3, rfl, rfl, rfl⟩
theorem fp_La_34 : FP RX3 34 3 7 0 10 false := ⟨RX3, TX3, tyX3, rfl, by decide, inX3, inG (tin_1 _ (List.mem_of_getElem? (i := 67) rfl)) rfl, rfl, tyX3_ok, nmX3, rfl, rfl, rfl⟩
theorem fp_La_41 : FP RX3 41 3 8 0 10 false := ⟨RX3, TX3, tyX3, rfl, by decide, inX3, inG (tin_1 _ (List.mem_of_getElem? (i := 68) rfl)) rfl, rfl, tyX3_ok, nmX3, rfl, rfl, rfl⟩
theorem fp_La_100 : FP RX3 100 3 9 0 10 false := ⟨RX3, TX3, tyX3, rfl, by decide, inX3, inG (tin_1 _ (List.mem_of_getElem? (i := 69) rfl)) rfl, rfl, tyX3_ok, nmX3, rfl, rfl, rfl⟩
theorem fp_Th_31 : FP RX6 31 6 0 2 9 true := ⟨RX6, TX6, tyX6, rfl, by decide, inX6, inG (tin_1 _ (List.mem_of_getElem? (i := 97) rfl)) rfl, rfl, tyX6_ok, nmX6, rfl, rfl, Or.inl ⟨_, rfl⟩⟩
theorem fp_Th_35 : FP RX6 35 6 1 2 9 true := ⟨RX6, TX6, tyX6, rfl, by decide, inX6, inG (tin_1 _ (List.mem_of_getElem? (i := 98) rfl)) rfl, rfl, tyX6_ok, nmX6, rfl, rfl, Or.inl ⟨_, rfl⟩⟩
theorem fp_Th_11 : FP RX6 11 6 2 2 9 true := ⟨RX6, TX6, tyX6, rfl, by decide, inX6, inG (tin_1 _ (List.mem_of_getElem? (i := 99) rfl)) rfl, rfl, tyX6_ok, nmX6, rfl, rfl, Or.inr ⟨_, rfl⟩⟩
theorem fp_Th_15 : FP RX6 15 6 3 2 9 true := ⟨RX6, TX6, tyX6, rfl, by decide, inX6, inG (tin_1 _ (List.mem_of_getElem? (i := 100) rfl)) rfl, rfl, tyX6_ok, nmX6, rfl, rfl, Or.inr ⟨_, rfl⟩⟩
theorem fp_Th_19 : FP RX6 19 6 4 2 9 true := ⟨RX6, TX6, tyX6, rfl, by decide, inX6, inG (tin_1 _ (List.mem_of_getElem? (i := 101) rfl)) rfl, rfl, tyX6_ok, nmX6, rfl, rfl, Or.inr ⟨_, rfl⟩⟩
theorem fp_Th_22 : FP RX6 22 6 5 2 9 true := ⟨RX6, TX6, tyX6, rfl, by decide, inX6, inG (tin_1 _ (List.mem_of_getElem? (i := 102) rfl)) rfl, rfl, tyX6_ok, nmX6, rfl, rfl, Or.inr ⟨_, rfl⟩⟩
theorem fp_Th_25 : FP RX6 25 6 6 2 9 true := ⟨RX6, TX6, tyX6, rfl, by decide, inX6, inG (tin_1 _ (List.mem_of_getElem? (i := 103) rfl)) rfl, rfl, tyX6_ok, nmX6, rfl, rfl, Or.inr ⟨_, rfl⟩⟩
theorem fp_Th_28 : FP RX6 28 6 7 2 9 true := ⟨RX6, TX6, tyX6, rfl, by decide, inX6, inG (tin_1 _ (List.mem_of_getElem? (i := 104) rfl)) rfl, rfl, tyX6_ok, nmX6, rfl, rfl, Or.inr ⟨_, rfl⟩⟩
theorem fp_Th_51 : FP RX6 51 6 8 0 9 false := ⟨RX6, TX6, tyX6, rfl, by decide, inX6, inG (tin_1 _ (List.mem_of_getElem? (i := 105) rfl)) rfl, rfl, tyX6_ok, nmX6, rfl, rfl, rfl⟩
theorem fp_Ni_37 : FP RX4 37 4 0 2 9 true := ⟨RX4, TX4, tyX4, rfl, by decide, inX4, inG (tin_1 _ (List.mem_of_getElem? (i := 132) rfl)) rfl, rfl, tyX4_ok, nmX4, rfl, rfl, Or.inl ⟨_, rfl⟩⟩
theorem fp_Ni_9 : FP RX4 9 4 1 2 9 true := ⟨RX4, TX4, tyX4, rfl, by decide, inX4, inG (tin_1 _ (List.mem_of_getElem? (i := 133) rfl)) rfl, rfl, tyX4_ok, nmX4, rfl, rfl, Or.inr ⟨_, rfl⟩⟩
theorem fp_Ni_15 : FP RX4 15 4 2 2 9 true := ⟨RX4, TX4, tyX4, rfl, by decide, inX4, inG (tin_1 _ (List.mem_of_getElem? (i := 134) rfl)) rfl, rfl, tyX4_ok, nmX4, rfl, rfl, Or.inr ⟨_, rfl⟩⟩
theorem fp_Ni_18 : FP RX4 18 4 3 2 9 true := ⟨RX4, TX4, tyX4, rfl, by decide, inX4, inG (tin_1 _ (List.mem_of_getElem? (i := 135) rfl)) rfl, rfl, tyX4_ok, nmX4, rfl, rfl, Or.inr ⟨_, rfl⟩⟩
theorem fp_Ni_21 : FP RX4 21 4 4 2 9 true := ⟨RX4, TX4, tyX4, rfl, by decide, inX4, inG (tin_1 _ (List.mem_of_getElem? (i := 136) rfl)) rfl, rfl, tyX4_ok, nmX4, rfl, rfl, Or.inr ⟨_, rfl⟩⟩
theorem fp_Ni_24 : FP RX4 24 4 5 2 9 true := ⟨RX4, TX4, tyX4, rfl, by decide, inX4, inG (tin_1 _ (List.mem_of_getElem? (i := 137) rfl)) rfl, rfl, tyX4_ok, nmX4, rfl, rfl, Or.inr ⟨_, rfl⟩⟩
theorem fp_Ni_27 : FP RX4 27 4 6 2 9 true := ⟨RX4, TX4, tyX4, rfl, by decide, inX4, inG (tin_1 _ (List.mem_of_getElem? (i := 138) rfl)) rfl, rfl, tyX4_ok, nmX4, rfl, rfl, Or.inr ⟨_, rfl⟩⟩
theorem fp_Ni_30 : FP RX4 30 4 7 2 9 true := ⟨RX4, TX4, tyX4, rfl, by decide, inX4, inG (tin_1 _ (List.mem_of_getElem? (i := 139) rfl)) rfl, rfl, tyX4_ok, nmX4, rfl, rfl, Or.inr ⟨_, rfl⟩⟩
theorem fp_Ni_33 : FP RX4 33 4 8 0 9 false := ⟨RX4, TX4, tyX4, rfl, by decide, inX4, inG (tin_1 _ (List.mem_of_getElem? (i := 140) rfl)) rfl, rfl, tyX4_ok, nmX4, rfl, rfl, rfl⟩
theorem fp_Fl_9 : FP RX1 9 1 0 2 4 true := ⟨RX1, TX1, tyX1, rfl, by decide, inX1, inG (tin_1 _ (List.mem_of_getElem? (i := 166) rfl)) rfl, rfl, tyX1_ok, nmX1, rfl, rfl, Or.inr ⟨_, rfl⟩⟩
theorem fp_Fl_15 : FP RX1 15 1 1 2 4 true := ⟨RX1, TX1, tyX1, rfl, by decide, inX1, inG (tin_1 _ (List.mem_of_getElem? (i := 167) rfl)) rfl, rfl, tyX1_ok, nmX1, rfl, rfl, Or.inr ⟨_, rfl⟩⟩
theorem fp_Fl_28 : FP RX1 28 1 2 0 4 false := ⟨RX1, TX1, tyX1, rfl, by decide, inX1, inG (tin_1 _ (List.mem_of_getElem? (i := 168) rfl)) rfl, rfl, tyX1_ok, nmX1, rfl, rfl, rfl⟩
theorem fp_Fl_18 : FP RX1 18 1 3 0 4 false := ⟨RX1, TX1, tyX1, rfl, by decide, inX1, inG (tin_1 _ (List.mem_of_getElem? (i := 169) rfl)) rfl, rfl, tyX1_ok, nmX1, rfl, rfl, rfl⟩
theorem fp_Bo_11 : FP RX0 11 0 0 2 5 true := ⟨RX0, TX0, tyX0, rfl, by decide, inX0, inG (tin_1 _ (List.mem_of_getElem? (i := 185) rfl)) rfl, rfl, tyX0_ok, nmX0, rfl, rfl, Or.inr ⟨_, rfl⟩⟩
theorem fp_Bo_15 : FP RX0 15 0 1 2 5 true := ⟨RX0, TX0, tyX0, rfl, by decide, inX0, inG (tin_1 _ (List.mem_of_getElem? (i := 186) rfl)) rfl, rfl, tyX0_ok, nmX0, rfl, rfl, Or.inr ⟨_, rfl⟩⟩
theorem fp_Bo_18 : FP RX0 18 0 2 0 5 false := ⟨RX0, TX0, tyX0, rfl, by decide, inX0, inG (tin_1 _ (List.mem_of_getElem? (i := 187) rfl)) rfl, rfl, tyX0_ok, nmX0, rfl, rfl, rfl⟩
theorem fp_Bo_22 : FP RX0 22 0 3 0 5 false := ⟨RX0, TX0, tyX0, rfl, by decide, inX0, inG (tin_1 _ (List.mem_of_getElem? (i := 188) rfl)) rfl, rfl, tyX0_ok, nmX0, rfl, rfl, rfl⟩
theorem fp_Bo_36 : FP RX0 36 0 4 0 5 false := ⟨RX0, TX0, tyX0, rfl, by decide, inX0, inG (tin_1 _ (List.mem_of_getElem? (i := 189) rfl)) rfl, rfl, tyX0_ok, nmX0, rfl, rfl, rfl⟩
theorem fp_Sh_9 : FP RX5 9 5 0 2 4 true := ⟨RX5, TX5, tyX5, rfl, by decide, inX5, inG (tin_1 _ (List.mem_of_getElem? (i := 208) rfl)) rfl, rfl, tyX5_ok, nmX5, rfl, rfl, Or.inr ⟨_, rfl⟩⟩
theorem fp_Sh_13 : FP RX5 13 5 1 0 4 false := ⟨RX5, TX5, tyX5, rfl, by decide, inX5, inG (tin_1 _ (List.mem_of_getElem? (i := 209) rfl)) rfl, rfl, tyX5_ok, nmX5, rfl, rfl, rfl⟩
theorem fp_Sh_17 : FP RX5 17 5 2 0 4 false := ⟨RX5, TX5, tyX5, rfl, by decide, inX5, inG (tin_1 _ (List.mem_of_getElem? (i := 210) rfl)) rfl, rfl, tyX5_ok, nmX5, rfl, rfl, rfl⟩
theorem fp_Sh_20 : FP RX5 20 5 3 0 4 false := ⟨RX5, TX5, tyX5, rfl, by decide, inX5, inG (tin_1 _ (List.mem_of_getElem? (i := 211) rfl)) rfl, rfl, tyX5_ok, nmX5, rfl, rfl, rfl⟩
theorem fp_B_10 : FP RX7 10 7 0 2 7 true := ⟨RX7, TX7, tyX7, rfl, by decide, inX7, inG (tin_1 _ (List.mem_of_getElem? (i := 221) rfl)) rfl, rfl, tyX7_ok, nmX7, rfl, rfl, Or.inl ⟨_, rfl⟩⟩
theorem fp_B_19 : FP RX7 19 7 1 2 7 true := ⟨RX7, TX7, tyX7, rfl, by decide, inX7, inG (tin_1 _ (List.mem_of_getElem? (i := 222) rfl)) rfl, rfl, tyX7_ok, nmX7, rfl, rfl, Or.inl ⟨_, rfl⟩⟩
theorem fp_B_28 : FP RX7 28 7 2 2 7 true := ⟨RX7, TX7, tyX7, rfl, by decide, inX7, inG (tin_1 _ (List.mem_of_getElem? (i := 223) rfl)) rfl, rfl, tyX7_ok, nmX7, rfl, rfl, Or.inl ⟨_, rfl⟩⟩
theorem fp_B_37 : FP RX7 37 7 3 2 7 true := ⟨RX7, TX7, tyX7, rfl, by decide, inX7, inG (tin_1 _ (List.mem_of_getElem? (i := 224) rfl)) rfl, rfl, tyX7_ok, nmX7, rfl, rfl, Or.inl ⟨_, rfl⟩⟩
theorem fp_B_44 : FP RX7 44 7 4 2 7 true := ⟨RX7, TX7, tyX7, rfl, by decide, inX7, inG (tin_1 _ (List.mem_of_getElem? (i := 225) rfl)) rfl, rfl, tyX7_ok, nmX7, rfl, rfl, Or.inl ⟨_, rfl⟩⟩
theorem fp_B_57 : FP RX7 57 7 5 2 7 true := ⟨RX7, TX7, tyX7, rfl, by decide, inX7, inG (tin_1 _ (List.mem_of_getElem? (i := 226) rfl)) rfl, rfl, tyX7_ok, nmX7, rfl, rfl, Or.inr ⟨_, rfl⟩⟩
theorem fp_B_51 : FP RX7 51 7 6 2 7 true := ⟨RX7, TX7, tyX7, rfl, by decide, inX7, inG (tin_1 _ (List.mem_of_getElem? (i := 227) rfl)) rfl, rfl, tyX7_ok, nmX7, rfl, rfl, Or.inl ⟨_, rfl⟩⟩
theorem fs_Ha_54 : Cond.fieldLink RX2 54 (stN 2).1 (stN 2).2 "[I" ∈ lw_g := inG (tin_2 _ (List.mem_of_getElem? (i := 74) rfl)) rfl
theorem fs_Ha_57 : Cond.fieldLink RX2 57 (stN 3).1 (stN 3).2 "[I" ∈ lw_g := inG (tin_2 _ (List.mem_of_getElem? (i := 76) rfl)) rfl
theorem fs_Bo_43 : Cond.fieldLink RX0 43 (stN 4).1 (stN 4).2 "[I" ∈ lw_g := inG (tin_4 _ (List.mem_of_getElem? (i := 190) rfl)) rfl
theorem fs_Bo_29 : Cond.fieldLink RX0 29 (stN 5).1 (stN 5).2 "[I" ∈ lw_g := inG (tin_4 _ (List.mem_of_getElem? (i := 195) rfl)) rfl
theorem fp_R_137 : FP RX8 137 8 1 0 66 false := ⟨RX8, TX8, tyX8, rfl, by decide, inX8, inG (tin_5 _ (List.mem_of_getElem? (i := 76) rfl)) rfl, rfl, tyX8_ok, nmX8, rfl, rfl, rfl⟩
theorem fp_R_9 : FP RX8 9 8 2 2 66 true := ⟨RX8, TX8, tyX8, rfl, by decide, inX8, inG (tin_5 _ (List.mem_of_getElem? (i := 77) rfl)) rfl, rfl, tyX8_ok, nmX8, rfl, rfl, Or.inr ⟨_, rfl⟩⟩
theorem fp_R_15 : FP RX8 15 8 3 2 66 true := ⟨RX8, TX8, tyX8, rfl, by decide, inX8, inG (tin_5 _ (List.mem_of_getElem? (i := 78) rfl)) rfl, rfl, tyX8_ok, nmX8, rfl, rfl, Or.inr ⟨_, rfl⟩⟩
theorem fp_R_144 : FP RX8 144 8 4 0 66 false := ⟨RX8, TX8, tyX8, rfl, by decide, inX8, inG (tin_5 _ (List.mem_of_getElem? (i := 79) rfl)) rfl, rfl, tyX8_ok, nmX8, rfl, rfl, rfl⟩
theorem fp_R_18 : FP RX8 18 8 5 2 66 true := ⟨RX8, TX8, tyX8, rfl, by decide, inX8, inG (tin_5 _ (List.mem_of_getElem? (i := 80) rfl)) rfl, rfl, tyX8_ok, nmX8, rfl, rfl, Or.inr ⟨_, rfl⟩⟩
theorem fp_R_21 : FP RX8 21 8 6 2 66 true := ⟨RX8, TX8, tyX8, rfl, by decide, inX8, inG (tin_5 _ (List.mem_of_getElem? (i := 81) rfl)) rfl, rfl, tyX8_ok, nmX8, rfl, rfl, Or.inr ⟨_, rfl⟩⟩
theorem fp_R_24 : FP RX8 24 8 7 2 66 true := ⟨RX8, TX8, tyX8, rfl, by decide, inX8, inG (tin_5 _ (List.mem_of_getElem? (i := 82) rfl)) rfl, rfl, tyX8_ok, nmX8, rfl, rfl, Or.inr ⟨_, rfl⟩⟩
theorem fp_R_27 : FP RX8 27 8 8 2 66 true := ⟨RX8, TX8, tyX8, rfl, by decide, inX8, inG (tin_5 _ (List.mem_of_getElem? (i := 83) rfl)) rfl, rfl, tyX8_ok, nmX8, rfl, rfl, Or.inr ⟨_, rfl⟩⟩
theorem fp_R_170 : FP RX8 170 8 9 0 66 false := ⟨RX8, TX8, tyX8, rfl, by decide, inX8, inG (tin_5 _ (List.mem_of_getElem? (i := 84) rfl)) rfl, rfl, tyX8_ok, nmX8, rfl, rfl, rfl⟩
theorem fp_R_167 : FP RX8 167 8 10 0 66 false := ⟨RX8, TX8, tyX8, rfl, by decide, inX8, inG (tin_5 _ (List.mem_of_getElem? (i := 85) rfl)) rfl, rfl, tyX8_ok, nmX8, rfl, rfl, rfl⟩
theorem fp_R_30 : FP RX8 30 8 11 2 66 true := ⟨RX8, TX8, tyX8, rfl, by decide, inX8, inG (tin_5 _ (List.mem_of_getElem? (i := 86) rfl)) rfl, rfl, tyX8_ok, nmX8, rfl, rfl, Or.inr ⟨_, rfl⟩⟩
theorem fp_R_33 : FP RX8 33 8 12 2 66 true := ⟨RX8, TX8, tyX8, rfl, by decide, inX8, inG (tin_5 _ (List.mem_of_getElem? (i := 87) rfl)) rfl, rfl, tyX8_ok, nmX8, rfl, rfl, Or.inr ⟨_, rfl⟩⟩
theorem fp_R_36 : FP RX8 36 8 13 2 66 true := ⟨RX8, TX8, tyX8, rfl, by decide, inX8, inG (tin_5 _ (List.mem_of_getElem? (i := 88) rfl)) rfl, rfl, tyX8_ok, nmX8, rfl, rfl, Or.inr ⟨_, rfl⟩⟩
theorem fp_R_39 : FP RX8 39 8 14 2 66 true := ⟨RX8, TX8, tyX8, rfl, by decide, inX8, inG (tin_5 _ (List.mem_of_getElem? (i := 89) rfl)) rfl, rfl, tyX8_ok, nmX8, rfl, rfl, Or.inr ⟨_, rfl⟩⟩
theorem fp_R_42 : FP RX8 42 8 15 2 66 true := ⟨RX8, TX8, tyX8, rfl, by decide, inX8, inG (tin_5 _ (List.mem_of_getElem? (i := 90) rfl)) rfl, rfl, tyX8_ok, nmX8, rfl, rfl, Or.inr ⟨_, rfl⟩⟩
theorem fp_R_191 : FP RX8 191 8 16 0 66 false := ⟨RX8, TX8, tyX8, rfl, by decide, inX8, inG (tin_5 _ (List.mem_of_getElem? (i := 91) rfl)) rfl, rfl, tyX8_ok, nmX8, rfl, rfl, rfl⟩
theorem fp_R_194 : FP RX8 194 8 17 0 66 false := ⟨RX8, TX8, tyX8, rfl, by decide, inX8, inG (tin_5 _ (List.mem_of_getElem? (i := 92) rfl)) rfl, rfl, tyX8_ok, nmX8, rfl, rfl, rfl⟩
theorem fp_R_197 : FP RX8 197 8 18 0 66 false := ⟨RX8, TX8, tyX8, rfl, by decide, inX8, inG (tin_5 _ (List.mem_of_getElem? (i := 93) rfl)) rfl, rfl, tyX8_ok, nmX8, rfl, rfl, rfl⟩
theorem fp_R_203 : FP RX8 203 8 19 0 66 false := ⟨RX8, TX8, tyX8, rfl, by decide, inX8, inG (tin_5 _ (List.mem_of_getElem? (i := 94) rfl)) rfl, rfl, tyX8_ok, nmX8, rfl, rfl, rfl⟩
theorem fp_R_200 : FP RX8 200 8 20 0 66 false := ⟨RX8, TX8, tyX8, rfl, by decide, inX8, inG (tin_5 _ (List.mem_of_getElem? (i := 95) rfl)) rfl, rfl, tyX8_ok, nmX8, rfl, rfl, rfl⟩
theorem fp_R_46 : FP RX8 46 8 21 2 66 true := ⟨RX8, TX8, tyX8, rfl, by decide, inX8, inG (tin_5 _ (List.mem_of_getElem? (i := 96) rfl)) rfl, rfl, tyX8_ok, nmX8, rfl, rfl, Or.inr ⟨_, rfl⟩⟩
theorem fp_R_49 : FP RX8 49 8 22 2 66 true := ⟨RX8, TX8, tyX8, rfl, by decide, inX8, inG (tin_5 _ (List.mem_of_getElem? (i := 97) rfl)) rfl, rfl, tyX8_ok, nmX8, rfl, rfl, Or.inr ⟨_, rfl⟩⟩
theorem fp_R_52 : FP RX8 52 8 23 2 66 true := ⟨RX8, TX8, tyX8, rfl, by decide, inX8, inG (tin_5 _ (List.mem_of_getElem? (i := 98) rfl)) rfl, rfl, tyX8_ok, nmX8, rfl, rfl, Or.inr ⟨_, rfl⟩⟩
theorem fp_R_55 : FP RX8 55 8 24 2 66 true := ⟨RX8, TX8, tyX8, rfl, by decide, inX8, inG (tin_5 _ (List.mem_of_getElem? (i := 99) rfl)) rfl, rfl, tyX8_ok, nmX8, rfl, rfl, Or.inr ⟨_, rfl⟩⟩
theorem fp_R_59 : FP RX8 59 8 25 2 66 true := ⟨RX8, TX8, tyX8, rfl, by decide, inX8, inG (tin_5 _ (List.mem_of_getElem? (i := 100) rfl)) rfl, rfl, tyX8_ok, nmX8, rfl, rfl, Or.inr ⟨_, rfl⟩⟩
theorem fp_R_62 : FP RX8 62 8 26 2 66 true := ⟨RX8, TX8, tyX8, rfl, by decide, inX8, inG (tin_5 _ (List.mem_of_getElem? (i := 101) rfl)) rfl, rfl, tyX8_ok, nmX8, rfl, rfl, Or.inr ⟨_, rfl⟩⟩
theorem fp_R_65 : FP RX8 65 8 27 2 66 true := ⟨RX8, TX8, tyX8, rfl, by decide, inX8, inG (tin_5 _ (List.mem_of_getElem? (i := 102) rfl)) rfl, rfl, tyX8_ok, nmX8, rfl, rfl, Or.inr ⟨_, rfl⟩⟩
theorem fp_R_258 : FP RX8 258 8 28 3 66 false := ⟨RX8, TX8, tyX8, rfl, by decide, inX8, inG (tin_5 _ (List.mem_of_getElem? (i := 103) rfl)) rfl, rfl, tyX8_ok, nmX8, rfl, rfl, rfl⟩
theorem fp_R_68 : FP RX8 68 8 29 2 66 true := ⟨RX8, TX8, tyX8, rfl, by decide, inX8, inG (tin_5 _ (List.mem_of_getElem? (i := 104) rfl)) rfl, rfl, tyX8_ok, nmX8, rfl, rfl, Or.inr ⟨_, rfl⟩⟩
theorem fp_R_72 : FP RX8 72 8 30 2 66 true := ⟨RX8, TX8, tyX8, rfl, by decide, inX8, inG (tin_5 _ (List.mem_of_getElem? (i := 105) rfl)) rfl, rfl, tyX8_ok, nmX8, rfl, rfl, Or.inr ⟨_, rfl⟩⟩
theorem fp_R_271 : FP RX8 271 8 31 1 66 false := ⟨RX8, TX8, tyX8, rfl, by decide, inX8, inG (tin_5 _ (List.mem_of_getElem? (i := 106) rfl)) rfl, rfl, tyX8_ok, nmX8, rfl, rfl, rfl⟩
theorem fp_R_290 : FP RX8 290 8 32 1 66 false := ⟨RX8, TX8, tyX8, rfl, by decide, inX8, inG (tin_5 _ (List.mem_of_getElem? (i := 107) rfl)) rfl, rfl, tyX8_ok, nmX8, rfl, rfl, rfl⟩
theorem fp_R_287 : FP RX8 287 8 33 1 66 false := ⟨RX8, TX8, tyX8, rfl, by decide, inX8, inG (tin_5 _ (List.mem_of_getElem? (i := 108) rfl)) rfl, rfl, tyX8_ok, nmX8, rfl, rfl, rfl⟩
theorem fp_R_75 : FP RX8 75 8 34 2 66 true := ⟨RX8, TX8, tyX8, rfl, by decide, inX8, inG (tin_5 _ (List.mem_of_getElem? (i := 109) rfl)) rfl, rfl, tyX8_ok, nmX8, rfl, rfl, Or.inr ⟨_, rfl⟩⟩
theorem fp_R_78 : FP RX8 78 8 35 2 66 true := ⟨RX8, TX8, tyX8, rfl, by decide, inX8, inG (tin_5 _ (List.mem_of_getElem? (i := 110) rfl)) rfl, rfl, tyX8_ok, nmX8, rfl, rfl, Or.inr ⟨_, rfl⟩⟩
theorem fp_R_275 : FP RX8 275 8 36 0 66 false := ⟨RX8, TX8, tyX8, rfl, by decide, inX8, inG (tin_5 _ (List.mem_of_getElem? (i := 111) rfl)) rfl, rfl, tyX8_ok, nmX8, rfl, rfl, rfl⟩
theorem fp_R_278 : FP RX8 278 8 37 0 66 false := ⟨RX8, TX8, tyX8, rfl, by decide, inX8, inG (tin_5 _ (List.mem_of_getElem? (i := 112) rfl)) rfl, rfl, tyX8_ok, nmX8, rfl, rfl, rfl⟩
theorem fp_R_81 : FP RX8 81 8 38 2 66 true := ⟨RX8, TX8, tyX8, rfl, by decide, inX8, inG (tin_5 _ (List.mem_of_getElem? (i := 113) rfl)) rfl, rfl, tyX8_ok, nmX8, rfl, rfl, Or.inr ⟨_, rfl⟩⟩
theorem fp_R_84 : FP RX8 84 8 39 2 66 true := ⟨RX8, TX8, tyX8, rfl, by decide, inX8, inG (tin_5 _ (List.mem_of_getElem? (i := 114) rfl)) rfl, rfl, tyX8_ok, nmX8, rfl, rfl, Or.inr ⟨_, rfl⟩⟩
theorem fp_R_284 : FP RX8 284 8 40 0 66 false := ⟨RX8, TX8, tyX8, rfl, by decide, inX8, inG (tin_5 _ (List.mem_of_getElem? (i := 115) rfl)) rfl, rfl, tyX8_ok, nmX8, rfl, rfl, rfl⟩
theorem fp_R_281 : FP RX8 281 8 41 0 66 false := ⟨RX8, TX8, tyX8, rfl, by decide, inX8, inG (tin_5 _ (List.mem_of_getElem? (i := 116) rfl)) rfl, rfl, tyX8_ok, nmX8, rfl, rfl, rfl⟩
theorem fp_R_320 : FP RX8 320 8 42 0 66 false := ⟨RX8, TX8, tyX8, rfl, by decide, inX8, inG (tin_5 _ (List.mem_of_getElem? (i := 117) rfl)) rfl, rfl, tyX8_ok, nmX8, rfl, rfl, rfl⟩
theorem fp_R_323 : FP RX8 323 8 43 0 66 false := ⟨RX8, TX8, tyX8, rfl, by decide, inX8, inG (tin_5 _ (List.mem_of_getElem? (i := 118) rfl)) rfl, rfl, tyX8_ok, nmX8, rfl, rfl, rfl⟩
theorem fp_R_87 : FP RX8 87 8 44 2 66 true := ⟨RX8, TX8, tyX8, rfl, by decide, inX8, inG (tin_5 _ (List.mem_of_getElem? (i := 119) rfl)) rfl, rfl, tyX8_ok, nmX8, rfl, rfl, Or.inr ⟨_, rfl⟩⟩
theorem fp_R_90 : FP RX8 90 8 45 2 66 true := ⟨RX8, TX8, tyX8, rfl, by decide, inX8, inG (tin_5 _ (List.mem_of_getElem? (i := 120) rfl)) rfl, rfl, tyX8_ok, nmX8, rfl, rfl, Or.inr ⟨_, rfl⟩⟩
theorem fp_R_379 : FP RX8 379 8 46 0 66 false := ⟨RX8, TX8, tyX8, rfl, by decide, inX8, inG (tin_5 _ (List.mem_of_getElem? (i := 121) rfl)) rfl, rfl, tyX8_ok, nmX8, rfl, rfl, rfl⟩
theorem fp_R_93 : FP RX8 93 8 47 2 66 true := ⟨RX8, TX8, tyX8, rfl, by decide, inX8, inG (tin_5 _ (List.mem_of_getElem? (i := 122) rfl)) rfl, rfl, tyX8_ok, nmX8, rfl, rfl, Or.inr ⟨_, rfl⟩⟩
theorem fp_R_96 : FP RX8 96 8 48 2 66 true := ⟨RX8, TX8, tyX8, rfl, by decide, inX8, inG (tin_5 _ (List.mem_of_getElem? (i := 123) rfl)) rfl, rfl, tyX8_ok, nmX8, rfl, rfl, Or.inr ⟨_, rfl⟩⟩
theorem fp_R_393 : FP RX8 393 8 49 0 66 false := ⟨RX8, TX8, tyX8, rfl, by decide, inX8, inG (tin_5 _ (List.mem_of_getElem? (i := 124) rfl)) rfl, rfl, tyX8_ok, nmX8, rfl, rfl, rfl⟩
theorem fp_R_100 : FP RX8 100 8 50 2 66 true := ⟨RX8, TX8, tyX8, rfl, by decide, inX8, inG (tin_5 _ (List.mem_of_getElem? (i := 125) rfl)) rfl, rfl, tyX8_ok, nmX8, rfl, rfl, Or.inr ⟨_, rfl⟩⟩
theorem fp_R_396 : FP RX8 396 8 51 3 66 false := ⟨RX8, TX8, tyX8, rfl, by decide, inX8, inG (tin_5 _ (List.mem_of_getElem? (i := 126) rfl)) rfl, rfl, tyX8_ok, nmX8, rfl, rfl, rfl⟩
theorem fp_R_399 : FP RX8 399 8 52 0 66 false := ⟨RX8, TX8, tyX8, rfl, by decide, inX8, inG (tin_5 _ (List.mem_of_getElem? (i := 127) rfl)) rfl, rfl, tyX8_ok, nmX8, rfl, rfl, rfl⟩
theorem fp_R_402 : FP RX8 402 8 53 0 66 false := ⟨RX8, TX8, tyX8, rfl, by decide, inX8, inG (tin_5 _ (List.mem_of_getElem? (i := 128) rfl)) rfl, rfl, tyX8_ok, nmX8, rfl, rfl, rfl⟩
theorem fp_R_103 : FP RX8 103 8 54 2 66 true := ⟨RX8, TX8, tyX8, rfl, by decide, inX8, inG (tin_5 _ (List.mem_of_getElem? (i := 129) rfl)) rfl, rfl, tyX8_ok, nmX8, rfl, rfl, Or.inr ⟨_, rfl⟩⟩
theorem fp_R_106 : FP RX8 106 8 55 2 66 true := ⟨RX8, TX8, tyX8, rfl, by decide, inX8, inG (tin_5 _ (List.mem_of_getElem? (i := 130) rfl)) rfl, rfl, tyX8_ok, nmX8, rfl, rfl, Or.inr ⟨_, rfl⟩⟩
theorem fp_R_109 : FP RX8 109 8 56 2 66 true := ⟨RX8, TX8, tyX8, rfl, by decide, inX8, inG (tin_5 _ (List.mem_of_getElem? (i := 131) rfl)) rfl, rfl, tyX8_ok, nmX8, rfl, rfl, Or.inr ⟨_, rfl⟩⟩
theorem fp_R_112 : FP RX8 112 8 57 2 66 true := ⟨RX8, TX8, tyX8, rfl, by decide, inX8, inG (tin_5 _ (List.mem_of_getElem? (i := 132) rfl)) rfl, rfl, tyX8_ok, nmX8, rfl, rfl, Or.inr ⟨_, rfl⟩⟩
theorem fp_R_405 : FP RX8 405 8 58 0 66 false := ⟨RX8, TX8, tyX8, rfl, by decide, inX8, inG (tin_5 _ (List.mem_of_getElem? (i := 133) rfl)) rfl, rfl, tyX8_ok, nmX8, rfl, rfl, rfl⟩
theorem fp_R_115 : FP RX8 115 8 59 2 66 true := ⟨RX8, TX8, tyX8, rfl, by decide, inX8, inG (tin_5 _ (List.mem_of_getElem? (i := 134) rfl)) rfl, rfl, tyX8_ok, nmX8, rfl, rfl, Or.inr ⟨_, rfl⟩⟩
theorem fp_R_408 : FP RX8 408 8 60 0 66 false := ⟨RX8, TX8, tyX8, rfl, by decide, inX8, inG (tin_5 _ (List.mem_of_getElem? (i := 135) rfl)) rfl, rfl, tyX8_ok, nmX8, rfl, rfl, rfl⟩
theorem fp_R_118 : FP RX8 118 8 61 2 66 true := ⟨RX8, TX8, tyX8, rfl, by decide, inX8, inG (tin_5 _ (List.mem_of_getElem? (i := 136) rfl)) rfl, rfl, tyX8_ok, nmX8, rfl, rfl, Or.inr ⟨_, rfl⟩⟩
theorem fp_R_121 : FP RX8 121 8 62 2 66 true := ⟨RX8, TX8, tyX8, rfl, by decide, inX8, inG (tin_5 _ (List.mem_of_getElem? (i := 137) rfl)) rfl, rfl, tyX8_ok, nmX8, rfl, rfl, Or.inr ⟨_, rfl⟩⟩
theorem fp_R_124 : FP RX8 124 8 63 2 66 true := ⟨RX8, TX8, tyX8, rfl, by decide, inX8, inG (tin_5 _ (List.mem_of_getElem? (i := 138) rfl)) rfl, rfl, tyX8_ok, nmX8, rfl, rfl, Or.inr ⟨_, rfl⟩⟩
theorem fp_R_127 : FP RX8 127 8 64 2 66 true := ⟨RX8, TX8, tyX8, rfl, by decide, inX8, inG (tin_5 _ (List.mem_of_getElem? (i := 139) rfl)) rfl, rfl, tyX8_ok, nmX8, rfl, rfl, Or.inr ⟨_, rfl⟩⟩
theorem fp_R_130 : FP RX8 130 8 65 2 66 true := ⟨RX8, TX8, tyX8, rfl, by decide, inX8, inG (tin_5 _ (List.mem_of_getElem? (i := 140) rfl)) rfl, rfl, tyX8_ok, nmX8, rfl, rfl, Or.inr ⟨_, rfl⟩⟩
theorem lk_L_9 : Cond.methodLink "BehindTheMaskLaw" 9 (mY mB_init) ∈ lw_g := inG (tin_1 _ (List.mem_of_getElem? (i := 16) rfl)) rfl
theorem oi_B_1 : OI RX7 1 := ⟨inG (tin_1 _ (List.mem_of_getElem? (i := 19) rfl)) rfl, inG (tin_1 _ (List.mem_of_getElem? (i := 20) rfl)) rfl, inG (tin_1 _ (List.mem_of_getElem? (i := 21) rfl)) rfl⟩
theorem lk_B_9 : Cond.methodLink RX7 9 (mY mHa_init) ∈ lw_g := inG (tin_1 _ (List.mem_of_getElem? (i := 24) rfl)) rfl
theorem oi_Ha_3 : OI RX2 3 := ⟨inG (tin_1 _ (List.mem_of_getElem? (i := 27) rfl)) rfl, inG (tin_1 _ (List.mem_of_getElem? (i := 20) rfl)) rfl, inG (tin_1 _ (List.mem_of_getElem? (i := 21) rfl)) rfl⟩
theorem lk_B_18 : (18, mY mLa_init) ∈ nests ∧ RX7 = RX7 := ⟨by decide +kernel, rfl⟩
theorem oi_La_3 : OI RX3 3 := ⟨inG (tin_1 _ (List.mem_of_getElem? (i := 59) rfl)) rfl, inG (tin_1 _ (List.mem_of_getElem? (i := 20) rfl)) rfl, inG (tin_1 _ (List.mem_of_getElem? (i := 21) rfl)) rfl⟩
theorem lk_B_25 : Cond.methodLink RX7 25 (mY mTh_init) ∈ lw_g := inG (tin_1 _ (List.mem_of_getElem? (i := 93) rfl)) rfl
theorem oi_Th_3 : OI RX6 3 := ⟨inG (tin_1 _ (List.mem_of_getElem? (i := 96) rfl)) rfl, inG (tin_1 _ (List.mem_of_getElem? (i := 20) rfl)) rfl, inG (tin_1 _ (List.mem_of_getElem? (i := 21) rfl)) rfl⟩
theorem lk_B_34 : Cond.methodLink RX7 34 (mY mNi_init) ∈ lw_g := inG (tin_1 _ (List.mem_of_getElem? (i := 128) rfl)) rfl
theorem oi_Ni_3 : OI RX4 3 := ⟨inG (tin_1 _ (List.mem_of_getElem? (i := 131) rfl)) rfl, inG (tin_1 _ (List.mem_of_getElem? (i := 20) rfl)) rfl, inG (tin_1 _ (List.mem_of_getElem? (i := 21) rfl)) rfl⟩
theorem lk_B_43 : (43, mY mFl_init) ∈ nests ∧ RX7 = RX7 := ⟨by decide +kernel, rfl⟩
theorem oi_Fl_3 : OI RX1 3 := ⟨inG (tin_1 _ (List.mem_of_getElem? (i := 165) rfl)) rfl, inG (tin_1 _ (List.mem_of_getElem? (i := 20) rfl)) rfl, inG (tin_1 _ (List.mem_of_getElem? (i := 21) rfl)) rfl⟩
theorem lk_B_50 : (50, mY mBo_init) ∈ nests ∧ RX7 = RX7 := ⟨by decide +kernel, rfl⟩
theorem oi_Bo_3 : OI RX0 3 := ⟨inG (tin_1 _ (List.mem_of_getElem? (i := 184) rfl)) rfl, inG (tin_1 _ (List.mem_of_getElem? (i := 20) rfl)) rfl, inG (tin_1 _ (List.mem_of_getElem? (i := 21) rfl)) rfl⟩
theorem lk_B_61 : (61, mY mSh_init) ∈ nests ∧ RX7 = RX7 := ⟨by decide +kernel, rfl⟩
theorem oi_Sh_1 : OI RX5 1 := ⟨inG (tin_1 _ (List.mem_of_getElem? (i := 207) rfl)) rfl, inG (tin_1 _ (List.mem_of_getElem? (i := 20) rfl)) rfl, inG (tin_1 _ (List.mem_of_getElem? (i := 21) rfl)) rfl⟩
theorem lk_L_13 : Cond.methodLink "BehindTheMaskLaw" 13 (mY mB_person) ∈ lw_g := inG (tin_2 _ (List.mem_of_getElem? (i := 3) rfl)) rfl
theorem lk_B_62 : Cond.methodLink RX7 62 (mY mHa_arrive) ∈ lw_g := inG (tin_2 _ (List.mem_of_getElem? (i := 7) rfl)) rfl
theorem lk_Ha_34 : Cond.methodLink RX2 34 (mY mHa_isValue) ∈ lw_g := inG (tin_2 _ (List.mem_of_getElem? (i := 11) rfl)) rfl
theorem lk_Ha_38 : Cond.methodLink RX2 38 (mY mHa_note) ∈ lw_g := inG (tin_2 _ (List.mem_of_getElem? (i := 14) rfl)) rfl
theorem lk_Ha_42 : Cond.methodLink RX2 42 (mY mHa_placeOf) ∈ lw_g := inG (tin_2 _ (List.mem_of_getElem? (i := 18) rfl)) rfl
theorem lk_Ha_50 : Cond.methodLink RX2 50 (mY mHa_set) ∈ lw_g := inG (tin_2 _ (List.mem_of_getElem? (i := 22) rfl)) rfl
theorem lk_L_18 : Cond.methodLink "BehindTheMaskLaw" 18 (mY mB_people) ∈ lw_g := inG (tin_2 _ (List.mem_of_getElem? (i := 26) rfl)) rfl
theorem lk_B_66 : Cond.methodLink RX7 66 (mY mB_isShelf) ∈ lw_g := inG (tin_2 _ (List.mem_of_getElem? (i := 30) rfl)) rfl
theorem lk_B_70 : Cond.methodLink RX7 70 (mY mSh_isEmpty) ∈ lw_g := inG (tin_2 _ (List.mem_of_getElem? (i := 33) rfl)) rfl
theorem lk_B_74 : Cond.methodLink RX7 74 (mY mSh_holdsBytes) ∈ lw_g := inG (tin_2 _ (List.mem_of_getElem? (i := 37) rfl)) rfl
theorem lk_B_79 : Cond.methodLink RX7 79 (mY mB_arriveFrom) ∈ lw_g := inG (tin_2 _ (List.mem_of_getElem? (i := 42) rfl)) rfl
theorem lk_B_357 : Cond.methodLink RX7 357 (mY mSh_size) ∈ lw_g := inG (tin_2 _ (List.mem_of_getElem? (i := 46) rfl)) rfl
theorem lk_B_236 : Cond.methodLink RX7 236 (mY mSh_at) ∈ lw_g := inG (tin_2 _ (List.mem_of_getElem? (i := 50) rfl)) rfl
theorem lk_Sh_32 : Cond.methodLink RX5 32 (mY mSh_has) ∈ lw_g := inG (tin_2 _ (List.mem_of_getElem? (i := 54) rfl)) rfl
theorem lk_L_23 : Cond.methodLink "BehindTheMaskLaw" 23 (mY mB_mask) ∈ lw_g := inG (tin_2 _ (List.mem_of_getElem? (i := 58) rfl)) rfl
theorem lk_B_83 : Cond.methodLink RX7 83 (mY mHa_addMask) ∈ lw_g := inG (tin_2 _ (List.mem_of_getElem? (i := 62) rfl)) rfl
theorem lk_L_28 : Cond.methodLink "BehindTheMaskLaw" 28 (mY mB_mend) ∈ lw_g := inG (tin_2 _ (List.mem_of_getElem? (i := 66) rfl)) rfl
theorem lk_B_87 : Cond.methodLink RX7 87 (mY mHa_alter) ∈ lw_g := inG (tin_2 _ (List.mem_of_getElem? (i := 70) rfl)) rfl
theorem lk_Ha_46 : Cond.methodLink RX2 46 (mY mHa_get) ∈ lw_g := inG (tin_2 _ (List.mem_of_getElem? (i := 79) rfl)) rfl
theorem lk_Ha_61 : Cond.methodLink RX2 61 (mY mHa_keepChange) ∈ lw_g := inG (tin_2 _ (List.mem_of_getElem? (i := 83) rfl)) rfl
theorem lk_Ha_67 : Cond.methodLink RX2 67 (mY mHa_forgetFirst) ∈ lw_g := inG (tin_2 _ (List.mem_of_getElem? (i := 87) rfl)) rfl
theorem ac_Ha_71 : ACP RX2 71 := ⟨inG (tin_2 _ (List.mem_of_getElem? (i := 90) rfl)) rfl, inG (tin_2 _ (List.mem_of_getElem? (i := 92) rfl)) rfl, inG (tin_2 _ (List.mem_of_getElem? (i := 91) rfl)) rfl, inG (tin_1 _ (List.mem_of_getElem? (i := 10) rfl)) rfl⟩
theorem lk_L_32 : Cond.methodLink "BehindTheMaskLaw" 32 (mY mB_of) ∈ lw_g := inG (tin_2 _ (List.mem_of_getElem? (i := 93) rfl)) rfl
theorem lk_B_90 : Cond.methodLink RX7 90 (mY mHa_isMask) ∈ lw_g := inG (tin_2 _ (List.mem_of_getElem? (i := 97) rfl)) rfl
theorem lk_B_94 : Cond.methodLink RX7 94 (mY mNi_whoIs) ∈ lw_g := inG (tin_2 _ (List.mem_of_getElem? (i := 102) rfl)) rfl
theorem lk_Ni_41 : Cond.methodLink RX4 41 (mY mNi_isIn) ∈ lw_g := inG (tin_2 _ (List.mem_of_getElem? (i := 106) rfl)) rfl
theorem lk_B_98 : Cond.methodLink RX7 98 (mY mNi_betMade) ∈ lw_g := inG (tin_2 _ (List.mem_of_getElem? (i := 109) rfl)) rfl
theorem lk_B_101 : Cond.methodLink RX7 101 (mY mHa_placeOf) ∈ lw_g := inG (tin_2 _ (List.mem_of_getElem? (i := 113) rfl)) rfl
theorem lk_B_105 : Cond.methodLink RX7 105 (mY mHa_at) ∈ lw_g := inG (tin_2 _ (List.mem_of_getElem? (i := 114) rfl)) rfl
theorem lk_L_37 : Cond.methodLink "BehindTheMaskLaw" 37 (mY mB_feed) ∈ lw_g := inG (tin_2 _ (List.mem_of_getElem? (i := 118) rfl)) rfl
theorem lk_B_108 : Cond.methodLink RX7 108 (mY mLa_take) ∈ lw_g := inG (tin_2 _ (List.mem_of_getElem? (i := 122) rfl)) rfl
theorem lk_L_41 : Cond.methodLink "BehindTheMaskLaw" 41 (mY mB_law) ∈ lw_g := inG (tin_2 _ (List.mem_of_getElem? (i := 126) rfl)) rfl
theorem lk_B_111 : Cond.methodLink RX7 111 (mY mLa_enact) ∈ lw_g := inG (tin_2 _ (List.mem_of_getElem? (i := 130) rfl)) rfl
theorem lk_La_37 : Cond.methodLink RX3 37 (mY mLa_readText) ∈ lw_g := inG (tin_2 _ (List.mem_of_getElem? (i := 134) rfl)) rfl
theorem lk_La_50 : Cond.methodLink RX3 50 (mY mLa_readLine) ∈ lw_g := inG (tin_2 _ (List.mem_of_getElem? (i := 138) rfl)) rfl
theorem lk_La_57 : Cond.methodLink RX3 57 (mY mLa_readTerm) ∈ lw_g := inG (tin_2 _ (List.mem_of_getElem? (i := 142) rfl)) rfl
theorem lk_La_65 : Cond.methodLink RX3 65 (mY mLa_readOperand) ∈ lw_g := inG (tin_2 _ (List.mem_of_getElem? (i := 146) rfl)) rfl
theorem lk_La_53 : Cond.methodLink RX3 53 (mY mLa_next) ∈ lw_g := inG (tin_2 _ (List.mem_of_getElem? (i := 150) rfl)) rfl
theorem lk_La_73 : Cond.methodLink RX3 73 (mY mLa_isDigit) ∈ lw_g := inG (tin_2 _ (List.mem_of_getElem? (i := 154) rfl)) rfl
theorem lk_La_76 : Cond.methodLink RX3 76 (mY mLa_readNumber) ∈ lw_g := inG (tin_2 _ (List.mem_of_getElem? (i := 157) rfl)) rfl
theorem lk_La_61 : Cond.methodLink RX3 61 (mY mLa_emit) ∈ lw_g := inG (tin_2 _ (List.mem_of_getElem? (i := 161) rfl)) rfl
theorem lk_La_79 : Cond.methodLink RX3 79 (mY mLa_nameOf) ∈ lw_g := inG (tin_2 _ (List.mem_of_getElem? (i := 165) rfl)) rfl
theorem lk_La_82 : Cond.methodLink RX3 82 (mY mLa_readInside) ∈ lw_g := inG (tin_2 _ (List.mem_of_getElem? (i := 168) rfl)) rfl
theorem lk_La_85 : Cond.methodLink RX3 85 (mY mLa_readSigned) ∈ lw_g := inG (tin_2 _ (List.mem_of_getElem? (i := 172) rfl)) rfl
theorem lk_La_69 : Cond.methodLink RX3 69 (mY mLa_levelOf) ∈ lw_g := inG (tin_2 _ (List.mem_of_getElem? (i := 176) rfl)) rfl
theorem ac_La_44 : ACP RX3 44 := ⟨inG (tin_2 _ (List.mem_of_getElem? (i := 179) rfl)) rfl, inG (tin_2 _ (List.mem_of_getElem? (i := 92) rfl)) rfl, inG (tin_2 _ (List.mem_of_getElem? (i := 91) rfl)) rfl, inG (tin_1 _ (List.mem_of_getElem? (i := 10) rfl)) rfl⟩
theorem lk_L_45 : Cond.methodLink "BehindTheMaskLaw" 45 (mY mB_counts) ∈ lw_g := inG (tin_2 _ (List.mem_of_getElem? (i := 180) rfl)) rfl
theorem lk_B_114 : Cond.methodLink RX7 114 (mY mHa_isOne) ∈ lw_g := inG (tin_2 _ (List.mem_of_getElem? (i := 184) rfl)) rfl
theorem lk_B_117 : Cond.methodLink RX7 117 (mY mTh_worthOf) ∈ lw_g := inG (tin_2 _ (List.mem_of_getElem? (i := 188) rfl)) rfl
theorem lk_Th_41 : Cond.methodLink RX6 41 (mY mHa_at) ∈ lw_g := inG (tin_2 _ (List.mem_of_getElem? (i := 192) rfl)) rfl
theorem lk_Th_45 : Cond.methodLink RX6 45 (mY mLa_weightOf) ∈ lw_g := inG (tin_2 _ (List.mem_of_getElem? (i := 193) rfl)) rfl
theorem lk_La_88 : Cond.methodLink RX3 88 (mY mLa_run) ∈ lw_g := inG (tin_2 _ (List.mem_of_getElem? (i := 197) rfl)) rfl
theorem lk_La_103 : Cond.methodLink RX3 103 (mY mLa_pop) ∈ lw_g := inG (tin_2 _ (List.mem_of_getElem? (i := 201) rfl)) rfl
theorem lk_La_106 : Cond.methodLink RX3 106 (mY mLa_step) ∈ lw_g := inG (tin_2 _ (List.mem_of_getElem? (i := 205) rfl)) rfl
theorem lk_La_109 : Cond.methodLink RX3 109 (mY mLa_push) ∈ lw_g := inG (tin_2 _ (List.mem_of_getElem? (i := 209) rfl)) rfl
theorem lk_La_112 : Cond.methodLink RX3 112 (mY mLa_joined) ∈ lw_g := inG (tin_2 _ (List.mem_of_getElem? (i := 213) rfl)) rfl
theorem lk_La_91 : Cond.methodLink RX3 91 (mY mJM_min_III) ∈ lw_g := inG (tin_2 _ (List.mem_of_getElem? (i := 216) rfl)) rfl
theorem lk_La_97 : Cond.methodLink RX3 97 (mY mJM_max_III) ∈ lw_g := inG (tin_2 _ (List.mem_of_getElem? (i := 219) rfl)) rfl
theorem lk_L_49 : Cond.methodLink "BehindTheMaskLaw" 49 (mY mB_ways) ∈ lw_g := inG (tin_2 _ (List.mem_of_getElem? (i := 222) rfl)) rfl
theorem lk_B_120 : Cond.methodLink RX7 120 (mY mB_isBit) ∈ lw_g := inG (tin_2 _ (List.mem_of_getElem? (i := 226) rfl)) rfl
theorem lk_B_127 : Cond.methodLink RX7 127 (mY mTh_load) ∈ lw_g := inG (tin_2 _ (List.mem_of_getElem? (i := 230) rfl)) rfl
theorem lk_Th_55 : Cond.methodLink RX6 55 (mY mHa_isOne) ∈ lw_g := inG (tin_2 _ (List.mem_of_getElem? (i := 234) rfl)) rfl
theorem lk_Th_59 : Cond.methodLink RX6 59 (mY mTh_worthOf) ∈ lw_g := inG (tin_2 _ (List.mem_of_getElem? (i := 235) rfl)) rfl
theorem lk_Th_63 : Cond.methodLink RX6 63 (mY mTh_weigh) ∈ lw_g := inG (tin_2 _ (List.mem_of_getElem? (i := 236) rfl)) rfl
theorem lk_B_130 : Cond.methodLink RX7 130 (mY mTh_number) ∈ lw_g := inG (tin_3 _ (List.mem_of_getElem? (i := 0) rfl)) rfl
theorem lk_Th_106 : Cond.methodLink RX6 106 (mY mTh_price) ∈ lw_g := inG (tin_3 _ (List.mem_of_getElem? (i := 4) rfl)) rfl
theorem lk_Th_67 : Cond.methodLink RX6 67 (mY mTh_mayBe) ∈ lw_g := inG (tin_3 _ (List.mem_of_getElem? (i := 8) rfl)) rfl
theorem lk_Th_71 : Cond.methodLink RX6 71 (mY mTh_weightOf) ∈ lw_g := inG (tin_3 _ (List.mem_of_getElem? (i := 12) rfl)) rfl
theorem lk_Th_74 : Cond.methodLink RX6 74 (mY mJM_min_JJJ) ∈ lw_g := inG (tin_3 _ (List.mem_of_getElem? (i := 16) rfl)) rfl
theorem lk_Th_110 : Cond.methodLink RX6 110 (mY mTh_reckon) ∈ lw_g := inG (tin_3 _ (List.mem_of_getElem? (i := 19) rfl)) rfl
theorem lk_Th_80 : Cond.methodLink RX6 80 (mY mHa_persons) ∈ lw_g := inG (tin_3 _ (List.mem_of_getElem? (i := 23) rfl)) rfl
theorem lk_Th_84 : Cond.methodLink RX6 84 (mY mJM_min_III) ∈ lw_g := inG (tin_3 _ (List.mem_of_getElem? (i := 27) rfl)) rfl
theorem lk_Th_86 : Cond.methodLink RX6 86 (mY mHa_masks) ∈ lw_g := inG (tin_3 _ (List.mem_of_getElem? (i := 28) rfl)) rfl
theorem lk_Th_89 : Cond.methodLink RX6 89 (mY mTh_restOf) ∈ lw_g := inG (tin_3 _ (List.mem_of_getElem? (i := 32) rfl)) rfl
theorem lk_Th_93 : Cond.methodLink RX6 93 (mY mJI_bitCount) ∈ lw_g := inG (tin_3 _ (List.mem_of_getElem? (i := 36) rfl)) rfl
theorem lk_Th_99 : Cond.methodLink RX6 99 (mY mTh_withOne) ∈ lw_g := inG (tin_3 _ (List.mem_of_getElem? (i := 42) rfl)) rfl
theorem lk_Th_103 : Cond.methodLink RX6 103 (mY mJM_max_JJJ) ∈ lw_g := inG (tin_3 _ (List.mem_of_getElem? (i := 46) rfl)) rfl
theorem lk_B_134 : Cond.methodLink RX7 134 (mY mTh_together) ∈ lw_g := inG (tin_3 _ (List.mem_of_getElem? (i := 49) rfl)) rfl
theorem lk_L_54 : Cond.methodLink "BehindTheMaskLaw" 54 (mY mB_likely) ∈ lw_g := inG (tin_3 _ (List.mem_of_getElem? (i := 53) rfl)) rfl
theorem lk_B_137 : Cond.methodLink RX7 137 (mY mTh_togetherIf) ∈ lw_g := inG (tin_3 _ (List.mem_of_getElem? (i := 57) rfl)) rfl
theorem lk_Th_114 : Cond.methodLink RX6 114 (mY mTh_narrowed) ∈ lw_g := inG (tin_3 _ (List.mem_of_getElem? (i := 61) rfl)) rfl
theorem lk_B_141 : Cond.methodLink RX7 141 (mY mB_commonDivisor) ∈ lw_g := inG (tin_3 _ (List.mem_of_getElem? (i := 65) rfl)) rfl
theorem lk_B_168 : Cond.methodLink RX7 168 (mY mJM_max_JJJ) ∈ lw_g := inG (tin_3 _ (List.mem_of_getElem? (i := 68) rfl)) rfl
theorem lk_L_59 : Cond.methodLink "BehindTheMaskLaw" 59 (mY mB_best) ∈ lw_g := inG (tin_3 _ (List.mem_of_getElem? (i := 69) rfl)) rfl
theorem lk_B_145 : Cond.methodLink RX7 145 (mY mTh_bestWay) ∈ lw_g := inG (tin_3 _ (List.mem_of_getElem? (i := 73) rfl)) rfl
theorem lk_Th_118 : Cond.methodLink RX6 118 (mY mTh_staysGreatest) ∈ lw_g := inG (tin_3 _ (List.mem_of_getElem? (i := 77) rfl)) rfl
theorem lk_Th_122 : Cond.methodLink RX6 122 (mY mTh_usedWith) ∈ lw_g := inG (tin_3 _ (List.mem_of_getElem? (i := 81) rfl)) rfl
theorem lk_B_150 : Cond.methodLink RX7 150 (mY mTh_inWay) ∈ lw_g := inG (tin_3 _ (List.mem_of_getElem? (i := 85) rfl)) rfl
theorem lk_L_63 : Cond.methodLink "BehindTheMaskLaw" 63 (mY mB_sure) ∈ lw_g := inG (tin_3 _ (List.mem_of_getElem? (i := 89) rfl)) rfl
theorem lk_B_153 : Cond.methodLink RX7 153 (mY mTh_sureMasks) ∈ lw_g := inG (tin_3 _ (List.mem_of_getElem? (i := 93) rfl)) rfl
theorem lk_Th_128 : Cond.methodLink RX6 128 (mY mTh_number) ∈ lw_g := inG (tin_3 _ (List.mem_of_getElem? (i := 97) rfl)) rfl
theorem lk_Th_132 : Cond.methodLink RX6 132 (mY mTh_numberIf) ∈ lw_g := inG (tin_3 _ (List.mem_of_getElem? (i := 98) rfl)) rfl
theorem lk_B_156 : Cond.methodLink RX7 156 (mY mTh_outOnes) ∈ lw_g := inG (tin_3 _ (List.mem_of_getElem? (i := 102) rfl)) rfl
theorem lk_Th_135 : Cond.methodLink RX6 135 (mY mTh_isOut) ∈ lw_g := inG (tin_3 _ (List.mem_of_getElem? (i := 106) rfl)) rfl
theorem lk_L_67 : Cond.methodLink "BehindTheMaskLaw" 67 (mY mB_look) ∈ lw_g := inG (tin_3 _ (List.mem_of_getElem? (i := 110) rfl)) rfl
theorem lk_B_159 : Cond.methodLink RX7 159 (mY mHa_masks) ∈ lw_g := inG (tin_3 _ (List.mem_of_getElem? (i := 114) rfl)) rfl
theorem lk_B_162 : Cond.methodLink RX7 162 (mY mTh_mostLeft) ∈ lw_g := inG (tin_3 _ (List.mem_of_getElem? (i := 115) rfl)) rfl
theorem lk_L_71 : Cond.methodLink "BehindTheMaskLaw" 71 (mY mB_question) ∈ lw_g := inG (tin_3 _ (List.mem_of_getElem? (i := 119) rfl)) rfl
theorem lk_B_165 : Cond.methodLink RX7 165 (mY mTh_numberIf) ∈ lw_g := inG (tin_3 _ (List.mem_of_getElem? (i := 123) rfl)) rfl
theorem lk_L_75 : Cond.methodLink "BehindTheMaskLaw" 75 (mY mB_whom) ∈ lw_g := inG (tin_3 _ (List.mem_of_getElem? (i := 124) rfl)) rfl
theorem lk_L_79 : Cond.methodLink "BehindTheMaskLaw" 79 (mY mB_guess) ∈ lw_g := inG (tin_3 _ (List.mem_of_getElem? (i := 128) rfl)) rfl
theorem lk_B_173 : Cond.methodLink RX7 173 (mY mB_isMinute) ∈ lw_g := inG (tin_3 _ (List.mem_of_getElem? (i := 132) rfl)) rfl
theorem lk_B_176 : Cond.methodLink RX7 176 (mY mTh_likeliest) ∈ lw_g := inG (tin_3 _ (List.mem_of_getElem? (i := 135) rfl)) rfl
theorem lk_Th_138 : Cond.methodLink RX6 138 (mY mTh_togetherIf) ∈ lw_g := inG (tin_3 _ (List.mem_of_getElem? (i := 139) rfl)) rfl
theorem lk_B_179 : Cond.methodLink RX7 179 (mY mHa_pointsAt) ∈ lw_g := inG (tin_3 _ (List.mem_of_getElem? (i := 140) rfl)) rfl
theorem lk_Ha_77 : Cond.methodLink RX2 77 (mY mHa_at) ∈ lw_g := inG (tin_3 _ (List.mem_of_getElem? (i := 144) rfl)) rfl
theorem lk_B_182 : Cond.methodLink RX7 182 (mY mTh_worthOfGuess) ∈ lw_g := inG (tin_3 _ (List.mem_of_getElem? (i := 145) rfl)) rfl
theorem lk_Th_141 : Cond.methodLink RX6 141 (mY mTh_likeliest) ∈ lw_g := inG (tin_3 _ (List.mem_of_getElem? (i := 149) rfl)) rfl
theorem lk_Th_144 : Cond.methodLink RX6 144 (mY mTh_together) ∈ lw_g := inG (tin_3 _ (List.mem_of_getElem? (i := 150) rfl)) rfl
theorem lk_Th_147 : Cond.methodLink RX6 147 (mY mTh_cut) ∈ lw_g := inG (tin_3 _ (List.mem_of_getElem? (i := 151) rfl)) rfl
theorem lk_L_83 : Cond.methodLink "BehindTheMaskLaw" 83 (mY mB_lacks) ∈ lw_g := inG (tin_3 _ (List.mem_of_getElem? (i := 155) rfl)) rfl
theorem lk_B_185 : Cond.methodLink RX7 185 (mY mTh_thousandths) ∈ lw_g := inG (tin_3 _ (List.mem_of_getElem? (i := 159) rfl)) rfl
theorem lk_B_188 : Cond.methodLink RX7 188 (mY mJM_min_III) ∈ lw_g := inG (tin_3 _ (List.mem_of_getElem? (i := 163) rfl)) rfl
theorem lk_L_87 : Cond.methodLink "BehindTheMaskLaw" 87 (mY mB_parts) ∈ lw_g := inG (tin_3 _ (List.mem_of_getElem? (i := 164) rfl)) rfl
theorem lk_B_191 : Cond.methodLink RX7 191 (mY mHa_twins) ∈ lw_g := inG (tin_3 _ (List.mem_of_getElem? (i := 168) rfl)) rfl
theorem lk_Ha_80 : Cond.methodLink RX2 80 (mY mHa_alike) ∈ lw_g := inG (tin_3 _ (List.mem_of_getElem? (i := 172) rfl)) rfl
theorem lk_B_194 : Cond.methodLink RX7 194 (mY mJI_bitCount) ∈ lw_g := inG (tin_3 _ (List.mem_of_getElem? (i := 176) rfl)) rfl
theorem lk_B_199 : Cond.methodLink RX7 199 (mY mHa_partedBy) ∈ lw_g := inG (tin_3 _ (List.mem_of_getElem? (i := 177) rfl)) rfl
theorem lk_L_91 : Cond.methodLink "BehindTheMaskLaw" 91 (mY mB_truth) ∈ lw_g := inG (tin_3 _ (List.mem_of_getElem? (i := 181) rfl)) rfl
theorem lk_B_202 : Cond.methodLink RX7 202 (mY mB_bytesFault) ∈ lw_g := inG (tin_3 _ (List.mem_of_getElem? (i := 185) rfl)) rfl
theorem lk_B_205 : Cond.methodLink RX7 205 (mY mTh_readTruth) ∈ lw_g := inG (tin_3 _ (List.mem_of_getElem? (i := 189) rfl)) rfl
theorem lk_Th_153 : Cond.methodLink RX6 153 (mY mSh_size) ∈ lw_g := inG (tin_3 _ (List.mem_of_getElem? (i := 193) rfl)) rfl
theorem lk_Th_158 : Cond.methodLink RX6 158 (mY mSh_at) ∈ lw_g := inG (tin_3 _ (List.mem_of_getElem? (i := 194) rfl)) rfl
theorem lk_B_209 : Cond.methodLink RX7 209 (mY mTh_countOfWay) ∈ lw_g := inG (tin_3 _ (List.mem_of_getElem? (i := 195) rfl)) rfl
theorem lk_Th_125 : Cond.methodLink RX6 125 (mY mTh_inWay) ∈ lw_g := inG (tin_3 _ (List.mem_of_getElem? (i := 199) rfl)) rfl
theorem lk_B_212 : Cond.methodLink RX7 212 (mY mTh_foundOut) ∈ lw_g := inG (tin_3 _ (List.mem_of_getElem? (i := 200) rfl)) rfl
theorem lk_Th_161 : Cond.methodLink RX6 161 (mY mTh_countOfWay) ∈ lw_g := inG (tin_3 _ (List.mem_of_getElem? (i := 204) rfl)) rfl
theorem lk_L_96 : Cond.methodLink "BehindTheMaskLaw" 96 (mY mB_feign) ∈ lw_g := inG (tin_3 _ (List.mem_of_getElem? (i := 205) rfl)) rfl
theorem lk_B_215 : Cond.methodLink RX7 215 (mY mHa_persons) ∈ lw_g := inG (tin_3 _ (List.mem_of_getElem? (i := 209) rfl)) rfl
theorem lk_B_218 : Cond.methodLink RX7 218 (mY mB_truthFault) ∈ lw_g := inG (tin_3 _ (List.mem_of_getElem? (i := 210) rfl)) rfl
theorem lk_B_221 : Cond.methodLink RX7 221 (mY mTh_maskInWay) ∈ lw_g := inG (tin_3 _ (List.mem_of_getElem? (i := 214) rfl)) rfl
theorem lk_B_224 : Cond.methodLink RX7 224 (mY mTh_weigh) ∈ lw_g := inG (tin_3 _ (List.mem_of_getElem? (i := 218) rfl)) rfl
theorem lk_L_100 : Cond.methodLink "BehindTheMaskLaw" 100 (mY mB_change) ∈ lw_g := inG (tin_3 _ (List.mem_of_getElem? (i := 219) rfl)) rfl
theorem lk_B_228 : Cond.methodLink RX7 228 (mY mTh_exchange) ∈ lw_g := inG (tin_3 _ (List.mem_of_getElem? (i := 223) rfl)) rfl
theorem lk_L_104 : Cond.methodLink "BehindTheMaskLaw" 104 (mY mB_right) ∈ lw_g := inG (tin_3 _ (List.mem_of_getElem? (i := 227) rfl)) rfl
theorem lk_B_232 : Cond.methodLink RX7 232 (mY mB_cardsOn) ∈ lw_g := inG (tin_3 _ (List.mem_of_getElem? (i := 231) rfl)) rfl
theorem lk_L_108 : Cond.methodLink "BehindTheMaskLaw" 108 (mY mB_cards) ∈ lw_g := inG (tin_3 _ (List.mem_of_getElem? (i := 235) rfl)) rfl
theorem lk_B_239 : Cond.methodLink RX7 239 (mY mTh_mostRight) ∈ lw_g := inG (tin_3 _ (List.mem_of_getElem? (i := 239) rfl)) rfl
theorem lk_Th_168 : Cond.methodLink RX6 168 (mY mJL_bitCount) ∈ lw_g := inG (tin_4 _ (List.mem_of_getElem? (i := 5) rfl)) rfl
theorem lk_B_245 : Cond.methodLink RX7 245 (mY mTh_mayBeRight) ∈ lw_g := inG (tin_4 _ (List.mem_of_getElem? (i := 12) rfl)) rfl
theorem lk_L_112 : Cond.methodLink "BehindTheMaskLaw" 112 (mY mB_dances) ∈ lw_g := inG (tin_4 _ (List.mem_of_getElem? (i := 16) rfl)) rfl
theorem lk_B_249 : Cond.methodLink RX7 249 (mY mB_readFloor) ∈ lw_g := inG (tin_4 _ (List.mem_of_getElem? (i := 20) rfl)) rfl
theorem lk_B_360 : Cond.methodLink RX7 360 (mY mFl_read) ∈ lw_g := inG (tin_4 _ (List.mem_of_getElem? (i := 24) rfl)) rfl
theorem lk_Fl_22 : Cond.methodLink RX1 22 (mY mJM_min_III) ∈ lw_g := inG (tin_4 _ (List.mem_of_getElem? (i := 28) rfl)) rfl
theorem lk_Fl_31 : Cond.methodLink RX1 31 (mY mSh_size) ∈ lw_g := inG (tin_4 _ (List.mem_of_getElem? (i := 29) rfl)) rfl
theorem lk_Fl_37 : Cond.methodLink RX1 37 (mY mSh_at) ∈ lw_g := inG (tin_4 _ (List.mem_of_getElem? (i := 30) rfl)) rfl
theorem lk_Fl_41 : Cond.methodLink RX1 41 (mY mFl_join) ∈ lw_g := inG (tin_4 _ (List.mem_of_getElem? (i := 31) rfl)) rfl
theorem lk_Fl_45 : Cond.methodLink RX1 45 (mY mFl_isOn) ∈ lw_g := inG (tin_4 _ (List.mem_of_getElem? (i := 35) rfl)) rfl
theorem lk_B_252 : Cond.methodLink RX7 252 (mY mJM_max_III) ∈ lw_g := inG (tin_4 _ (List.mem_of_getElem? (i := 39) rfl)) rfl
theorem lk_B_254 : Cond.methodLink RX7 254 (mY mFl_all) ∈ lw_g := inG (tin_4 _ (List.mem_of_getElem? (i := 40) rfl)) rfl
theorem lk_L_116 : Cond.methodLink "BehindTheMaskLaw" 116 (mY mB_avoid) ∈ lw_g := inG (tin_4 _ (List.mem_of_getElem? (i := 44) rfl)) rfl
theorem lk_B_257 : Cond.methodLink RX7 257 (mY mFl_avoiding) ∈ lw_g := inG (tin_4 _ (List.mem_of_getElem? (i := 48) rfl)) rfl
theorem lk_L_120 : Cond.methodLink "BehindTheMaskLaw" 120 (mY mB_favourite) ∈ lw_g := inG (tin_4 _ (List.mem_of_getElem? (i := 52) rfl)) rfl
theorem lk_B_260 : Cond.methodLink RX7 260 (mY mFl_mostWith) ∈ lw_g := inG (tin_4 _ (List.mem_of_getElem? (i := 56) rfl)) rfl
theorem lk_L_124 : Cond.methodLink "BehindTheMaskLaw" 124 (mY mB_drawn) ∈ lw_g := inG (tin_4 _ (List.mem_of_getElem? (i := 60) rfl)) rfl
theorem lk_B_263 : Cond.methodLink RX7 263 (mY mTh_guessAll) ∈ lw_g := inG (tin_4 _ (List.mem_of_getElem? (i := 64) rfl)) rfl
theorem lk_B_266 : Cond.methodLink RX7 266 (mY mTh_rightInNights) ∈ lw_g := inG (tin_4 _ (List.mem_of_getElem? (i := 68) rfl)) rfl
theorem lk_Th_174 : Cond.methodLink RX6 174 (mY mTh_pick) ∈ lw_g := inG (tin_4 _ (List.mem_of_getElem? (i := 73) rfl)) rfl
theorem lk_L_129 : Cond.methodLink "BehindTheMaskLaw" 129 (mY mB_behind) ∈ lw_g := inG (tin_4 _ (List.mem_of_getElem? (i := 77) rfl)) rfl
theorem lk_B_269 : Cond.methodLink RX7 269 (mY mNi_seat) ∈ lw_g := inG (tin_4 _ (List.mem_of_getElem? (i := 81) rfl)) rfl
theorem lk_Ni_45 : Cond.methodLink RX4 45 (mY mNi_whoIs) ∈ lw_g := inG (tin_4 _ (List.mem_of_getElem? (i := 85) rfl)) rfl
theorem lk_L_133 : Cond.methodLink "BehindTheMaskLaw" 133 (mY mB_dance) ∈ lw_g := inG (tin_4 _ (List.mem_of_getElem? (i := 86) rfl)) rfl
theorem lk_B_272 : Cond.methodLink RX7 272 (mY mNi_danceWith) ∈ lw_g := inG (tin_4 _ (List.mem_of_getElem? (i := 90) rfl)) rfl
theorem lk_Ni_51 : Cond.methodLink RX4 51 (mY mHa_at) ∈ lw_g := inG (tin_4 _ (List.mem_of_getElem? (i := 94) rfl)) rfl
theorem lk_Ni_55 : Cond.methodLink RX4 55 (mY mHa_note) ∈ lw_g := inG (tin_4 _ (List.mem_of_getElem? (i := 95) rfl)) rfl
theorem lk_L_137 : Cond.methodLink "BehindTheMaskLaw" 137 (mY mB_swap) ∈ lw_g := inG (tin_4 _ (List.mem_of_getElem? (i := 96) rfl)) rfl
theorem lk_B_275 : Cond.methodLink RX7 275 (mY mNi_trade) ∈ lw_g := inG (tin_4 _ (List.mem_of_getElem? (i := 100) rfl)) rfl
theorem lk_L_141 : Cond.methodLink "BehindTheMaskLaw" 141 (mY mB_bet) ∈ lw_g := inG (tin_4 _ (List.mem_of_getElem? (i := 104) rfl)) rfl
theorem lk_B_278 : Cond.methodLink RX7 278 (mY mNi_wager) ∈ lw_g := inG (tin_4 _ (List.mem_of_getElem? (i := 108) rfl)) rfl
theorem lk_Ni_59 : Cond.methodLink RX4 59 (mY mHa_pointsAt) ∈ lw_g := inG (tin_4 _ (List.mem_of_getElem? (i := 112) rfl)) rfl
theorem lk_L_145 : Cond.methodLink "BehindTheMaskLaw" 145 (mY mB_led) ∈ lw_g := inG (tin_4 _ (List.mem_of_getElem? (i := 113) rfl)) rfl
theorem lk_B_281 : Cond.methodLink RX7 281 (mY mNi_told) ∈ lw_g := inG (tin_4 _ (List.mem_of_getElem? (i := 117) rfl)) rfl
theorem lk_L_149 : Cond.methodLink "BehindTheMaskLaw" 149 (mY mB_image) ∈ lw_g := inG (tin_4 _ (List.mem_of_getElem? (i := 121) rfl)) rfl
theorem lk_B_284 : Cond.methodLink RX7 284 (mY mNi_remember) ∈ lw_g := inG (tin_4 _ (List.mem_of_getElem? (i := 125) rfl)) rfl
theorem lk_Ni_62 : Cond.methodLink RX4 62 (mY mHa_masks) ∈ lw_g := inG (tin_4 _ (List.mem_of_getElem? (i := 129) rfl)) rfl
theorem ac_Ni_66 : ACP RX4 66 := ⟨inG (tin_4 _ (List.mem_of_getElem? (i := 130) rfl)) rfl, inG (tin_2 _ (List.mem_of_getElem? (i := 92) rfl)) rfl, inG (tin_2 _ (List.mem_of_getElem? (i := 91) rfl)) rfl, inG (tin_1 _ (List.mem_of_getElem? (i := 10) rfl)) rfl⟩
theorem lk_L_153 : Cond.methodLink "BehindTheMaskLaw" 153 (mY mB_back) ∈ lw_g := inG (tin_4 _ (List.mem_of_getElem? (i := 131) rfl)) rfl
theorem lk_B_287 : Cond.methodLink RX7 287 (mY mNi_recall) ∈ lw_g := inG (tin_4 _ (List.mem_of_getElem? (i := 135) rfl)) rfl
theorem lk_L_157 : Cond.methodLink "BehindTheMaskLaw" 157 (mY mB_undo) ∈ lw_g := inG (tin_4 _ (List.mem_of_getElem? (i := 139) rfl)) rfl
theorem lk_B_290 : Cond.methodLink RX7 290 (mY mHa_takeBack) ∈ lw_g := inG (tin_4 _ (List.mem_of_getElem? (i := 143) rfl)) rfl
theorem lk_L_161 : Cond.methodLink "BehindTheMaskLaw" 161 (mY mB_redo) ∈ lw_g := inG (tin_4 _ (List.mem_of_getElem? (i := 147) rfl)) rfl
theorem lk_B_293 : Cond.methodLink RX7 293 (mY mHa_doAgain) ∈ lw_g := inG (tin_4 _ (List.mem_of_getElem? (i := 151) rfl)) rfl
theorem lk_L_165 : Cond.methodLink "BehindTheMaskLaw" 165 (mY mB_body) ∈ lw_g := inG (tin_4 _ (List.mem_of_getElem? (i := 155) rfl)) rfl
theorem lk_B_296 : Cond.methodLink RX7 296 (mY mBo_make) ∈ lw_g := inG (tin_4 _ (List.mem_of_getElem? (i := 159) rfl)) rfl
theorem lk_L_169 : Cond.methodLink "BehindTheMaskLaw" 169 (mY mB_act) ∈ lw_g := inG (tin_4 _ (List.mem_of_getElem? (i := 163) rfl)) rfl
theorem lk_B_299 : Cond.methodLink RX7 299 (mY mBo_perform) ∈ lw_g := inG (tin_4 _ (List.mem_of_getElem? (i := 167) rfl)) rfl
theorem lk_Bo_25 : Cond.methodLink RX0 25 (mY mBo_isBody) ∈ lw_g := inG (tin_4 _ (List.mem_of_getElem? (i := 171) rfl)) rfl
theorem lk_Bo_39 : Cond.methodLink RX0 39 (mY mBo_own) ∈ lw_g := inG (tin_4 _ (List.mem_of_getElem? (i := 175) rfl)) rfl
theorem lk_Bo_46 : Cond.methodLink RX0 46 (mY mBo_kindOf) ∈ lw_g := inG (tin_4 _ (List.mem_of_getElem? (i := 179) rfl)) rfl
theorem lk_Bo_49 : Cond.methodLink RX0 49 (mY mBo_begin) ∈ lw_g := inG (tin_4 _ (List.mem_of_getElem? (i := 183) rfl)) rfl
theorem lk_Bo_53 : Cond.methodLink RX0 53 (mY mBo_ownOf) ∈ lw_g := inG (tin_4 _ (List.mem_of_getElem? (i := 187) rfl)) rfl
theorem lk_Bo_32 : Cond.methodLink RX0 32 (mY mBo_above) ∈ lw_g := inG (tin_4 _ (List.mem_of_getElem? (i := 192) rfl)) rfl
theorem lk_Bo_57 : Cond.methodLink RX0 57 (mY mBo_note) ∈ lw_g := inG (tin_4 _ (List.mem_of_getElem? (i := 197) rfl)) rfl
theorem lk_Bo_61 : Cond.methodLink RX0 61 (mY mBo_work) ∈ lw_g := inG (tin_4 _ (List.mem_of_getElem? (i := 201) rfl)) rfl
theorem lk_Bo_64 : Cond.methodLink RX0 64 (mY mBo_higher) ∈ lw_g := inG (tin_4 _ (List.mem_of_getElem? (i := 205) rfl)) rfl
theorem lk_L_173 : Cond.methodLink "BehindTheMaskLaw" 173 (mY mB_trace) ∈ lw_g := inG (tin_4 _ (List.mem_of_getElem? (i := 209) rfl)) rfl
theorem lk_B_302 : Cond.methodLink RX7 302 (mY mBo_traced) ∈ lw_g := inG (tin_4 _ (List.mem_of_getElem? (i := 213) rfl)) rfl
theorem lk_L_177 : Cond.methodLink "BehindTheMaskLaw" 177 (mY mB_keep) ∈ lw_g := inG (tin_4 _ (List.mem_of_getElem? (i := 217) rfl)) rfl
theorem lk_B_305 : Cond.methodLink RX7 305 (mY mBo_isBody) ∈ lw_g := inG (tin_4 _ (List.mem_of_getElem? (i := 221) rfl)) rfl
theorem lk_B_308 : Cond.methodLink RX7 308 (mY mSh_hold) ∈ lw_g := inG (tin_4 _ (List.mem_of_getElem? (i := 222) rfl)) rfl
theorem lk_L_181 : Cond.methodLink "BehindTheMaskLaw" 181 (mY mB_row) ∈ lw_g := inG (tin_4 _ (List.mem_of_getElem? (i := 226) rfl)) rfl
theorem lk_B_312 : Cond.methodLink RX7 312 (mY mSh_lay) ∈ lw_g := inG (tin_4 _ (List.mem_of_getElem? (i := 230) rfl)) rfl
theorem lk_Sh_23 : Cond.methodLink RX5 23 (mY mJM_min_III) ∈ lw_g := inG (tin_4 _ (List.mem_of_getElem? (i := 234) rfl)) rfl
theorem lk_Sh_29 : Cond.methodLink RX5 29 (mY mJM_max_III) ∈ lw_g := inG (tin_4 _ (List.mem_of_getElem? (i := 235) rfl)) rfl
theorem lk_L_187 : Cond.methodLink "BehindTheMaskLaw" 187 (mY mB_put) ∈ lw_g := inG (tin_4 _ (List.mem_of_getElem? (i := 236) rfl)) rfl
theorem lk_B_315 : Cond.methodLink RX7 315 (mY mB_cellFault) ∈ lw_g := inG (tin_5 _ (List.mem_of_getElem? (i := 0) rfl)) rfl
theorem lk_B_322 : Cond.methodLink RX7 322 (mY mSh_isRow) ∈ lw_g := inG (tin_5 _ (List.mem_of_getElem? (i := 4) rfl)) rfl
theorem lk_B_318 : Cond.methodLink RX7 318 (mY mSh_set) ∈ lw_g := inG (tin_5 _ (List.mem_of_getElem? (i := 8) rfl)) rfl
theorem lk_Sh_36 : Cond.methodLink RX5 36 (mY mSh_fitted) ∈ lw_g := inG (tin_5 _ (List.mem_of_getElem? (i := 12) rfl)) rfl
theorem lk_L_192 : Cond.methodLink "BehindTheMaskLaw" 192 (mY mB_element) ∈ lw_g := inG (tin_5 _ (List.mem_of_getElem? (i := 16) rfl)) rfl
theorem lk_L_196 : Cond.methodLink "BehindTheMaskLaw" 196 (mY mB_shift) ∈ lw_g := inG (tin_5 _ (List.mem_of_getElem? (i := 20) rfl)) rfl
theorem lk_B_325 : Cond.methodLink RX7 325 (mY mSh_sort) ∈ lw_g := inG (tin_5 _ (List.mem_of_getElem? (i := 24) rfl)) rfl
theorem lk_B_328 : Cond.methodLink RX7 328 (mY mSh_hasPart) ∈ lw_g := inG (tin_5 _ (List.mem_of_getElem? (i := 28) rfl)) rfl
theorem lk_B_332 : Cond.methodLink RX7 332 (mY mSh_copyTo) ∈ lw_g := inG (tin_5 _ (List.mem_of_getElem? (i := 32) rfl)) rfl
theorem lk_Sh_40 : Cond.methodLink RX5 40 (mY mSh_hasPart) ∈ lw_g := inG (tin_5 _ (List.mem_of_getElem? (i := 36) rfl)) rfl
theorem ac_Sh_44 : ACP RX5 44 := ⟨inG (tin_5 _ (List.mem_of_getElem? (i := 37) rfl)) rfl, inG (tin_2 _ (List.mem_of_getElem? (i := 92) rfl)) rfl, inG (tin_2 _ (List.mem_of_getElem? (i := 91) rfl)) rfl, inG (tin_1 _ (List.mem_of_getElem? (i := 10) rfl)) rfl⟩
theorem lk_L_201 : Cond.methodLink "BehindTheMaskLaw" 201 (mY mB_taken) ∈ lw_g := inG (tin_5 _ (List.mem_of_getElem? (i := 38) rfl)) rfl
theorem lk_B_336 : Cond.methodLink RX7 336 (mY mSh_held) ∈ lw_g := inG (tin_5 _ (List.mem_of_getElem? (i := 42) rfl)) rfl
theorem lk_B_339 : Cond.methodLink RX7 339 (mY mBo_kindOf) ∈ lw_g := inG (tin_5 _ (List.mem_of_getElem? (i := 46) rfl)) rfl
theorem lk_B_342 : Cond.methodLink RX7 342 (mY mBo_isUnder) ∈ lw_g := inG (tin_5 _ (List.mem_of_getElem? (i := 47) rfl)) rfl
theorem lk_L_205 : Cond.methodLink "BehindTheMaskLaw" 205 (mY mB_count) ∈ lw_g := inG (tin_5 _ (List.mem_of_getElem? (i := 50) rfl)) rfl
theorem lk_B_345 : Cond.methodLink RX7 345 (mY mLa_fed) ∈ lw_g := inG (tin_5 _ (List.mem_of_getElem? (i := 54) rfl)) rfl
theorem lk_B_348 : Cond.methodLink RX7 348 (mY mHa_undoable) ∈ lw_g := inG (tin_5 _ (List.mem_of_getElem? (i := 58) rfl)) rfl
theorem lk_B_351 : Cond.methodLink RX7 351 (mY mBo_made) ∈ lw_g := inG (tin_5 _ (List.mem_of_getElem? (i := 62) rfl)) rfl
theorem lk_B_354 : Cond.methodLink RX7 354 (mY mBo_ran) ∈ lw_g := inG (tin_5 _ (List.mem_of_getElem? (i := 66) rfl)) rfl
theorem lk_L_12 : Cond.methodLink "BehindTheMaskLaw" 12 (mY mR_init) ∈ lw_g := inG (tin_5 _ (List.mem_of_getElem? (i := 72) rfl)) rfl
theorem oi_R_3 : OI RX8 3 := ⟨inG (tin_5 _ (List.mem_of_getElem? (i := 75) rfl)) rfl, inG (tin_1 _ (List.mem_of_getElem? (i := 20) rfl)) rfl, inG (tin_1 _ (List.mem_of_getElem? (i := 21) rfl)) rfl⟩
theorem lk_L_17 : Cond.methodLink "BehindTheMaskLaw" 17 (mY mR_person) ∈ lw_g := inG (tin_6 _ (List.mem_of_getElem? (i := 37) rfl)) rfl
theorem lk_R_151 : Cond.methodLink RX8 151 (mY mR_areSigns) ∈ lw_g := inG (tin_6 _ (List.mem_of_getElem? (i := 41) rfl)) rfl
theorem lk_R_140 : Cond.methodLink RX8 140 (mY mR_in) ∈ lw_g := inG (tin_6 _ (List.mem_of_getElem? (i := 44) rfl)) rfl
theorem lk_R_154 : Cond.methodLink RX8 154 (mY mR_addPerson) ∈ lw_g := inG (tin_6 _ (List.mem_of_getElem? (i := 47) rfl)) rfl
theorem lk_L_22 : Cond.methodLink "BehindTheMaskLaw" 22 (mY mR_people) ∈ lw_g := inG (tin_6 _ (List.mem_of_getElem? (i := 51) rfl)) rfl
theorem lk_R_158 : Cond.methodLink RX8 158 (mY mR_isShelf) ∈ lw_g := inG (tin_6 _ (List.mem_of_getElem? (i := 55) rfl)) rfl
theorem lk_L_27 : Cond.methodLink "BehindTheMaskLaw" 27 (mY mR_mask) ∈ lw_g := inG (tin_6 _ (List.mem_of_getElem? (i := 59) rfl)) rfl
theorem lk_L_160 : Cond.methodLink "BehindTheMaskLaw" 160 (mY mR_undo) ∈ lw_g := inG (tin_6 _ (List.mem_of_getElem? (i := 63) rfl)) rfl
theorem lk_R_173 : Cond.methodLink RX8 173 (mY mR_lays) ∈ lw_g := inG (tin_6 _ (List.mem_of_getElem? (i := 67) rfl)) rfl
theorem lk_L_164 : Cond.methodLink "BehindTheMaskLaw" 164 (mY mR_redo) ∈ lw_g := inG (tin_6 _ (List.mem_of_getElem? (i := 71) rfl)) rfl
theorem lk_L_31 : Cond.methodLink "BehindTheMaskLaw" 31 (mY mR_mend) ∈ lw_g := inG (tin_6 _ (List.mem_of_getElem? (i := 75) rfl)) rfl
theorem lk_R_180 : Cond.methodLink RX8 180 (mY mR_isOne) ∈ lw_g := inG (tin_6 _ (List.mem_of_getElem? (i := 79) rfl)) rfl
theorem lk_R_147 : Cond.methodLink RX8 147 (mY mR_isPerson) ∈ lw_g := inG (tin_6 _ (List.mem_of_getElem? (i := 83) rfl)) rfl
theorem lk_R_177 : Cond.methodLink RX8 177 (mY mR_isMask) ∈ lw_g := inG (tin_6 _ (List.mem_of_getElem? (i := 87) rfl)) rfl
theorem lk_R_184 : Cond.methodLink RX8 184 (mY mR_mayHave) ∈ lw_g := inG (tin_6 _ (List.mem_of_getElem? (i := 91) rfl)) rfl
theorem lk_R_187 : Cond.methodLink RX8 187 (mY mR_changes) ∈ lw_g := inG (tin_6 _ (List.mem_of_getElem? (i := 94) rfl)) rfl
theorem lk_R_163 : Cond.methodLink RX8 163 (mY mR_valueAt) ∈ lw_g := inG (tin_6 _ (List.mem_of_getElem? (i := 98) rfl)) rfl
theorem lk_L_36 : Cond.methodLink "BehindTheMaskLaw" 36 (mY mR_of) ∈ lw_g := inG (tin_6 _ (List.mem_of_getElem? (i := 103) rfl)) rfl
theorem lk_L_40 : Cond.methodLink "BehindTheMaskLaw" 40 (mY mR_feed) ∈ lw_g := inG (tin_6 _ (List.mem_of_getElem? (i := 107) rfl)) rfl
theorem lk_L_44 : Cond.methodLink "BehindTheMaskLaw" 44 (mY mR_law) ∈ lw_g := inG (tin_6 _ (List.mem_of_getElem? (i := 111) rfl)) rfl
theorem lk_R_255 : Cond.methodLink RX8 255 (mY mR_readText) ∈ lw_g := inG (tin_6 _ (List.mem_of_getElem? (i := 115) rfl)) rfl
theorem lk_R_246 : Cond.methodLink RX8 246 (mY mR_line) ∈ lw_g := inG (tin_6 _ (List.mem_of_getElem? (i := 119) rfl)) rfl
theorem lk_R_228 : Cond.methodLink RX8 228 (mY mR_either) ∈ lw_g := inG (tin_6 _ (List.mem_of_getElem? (i := 123) rfl)) rfl
theorem lk_R_243 : Cond.methodLink RX8 243 (mY mR_both) ∈ lw_g := inG (tin_6 _ (List.mem_of_getElem? (i := 127) rfl)) rfl
theorem lk_R_240 : Cond.methodLink RX8 240 (mY mR_compared) ∈ lw_g := inG (tin_6 _ (List.mem_of_getElem? (i := 131) rfl)) rfl
theorem lk_R_237 : Cond.methodLink RX8 237 (mY mR_sum) ∈ lw_g := inG (tin_6 _ (List.mem_of_getElem? (i := 135) rfl)) rfl
theorem lk_R_234 : Cond.methodLink RX8 234 (mY mR_product) ∈ lw_g := inG (tin_6 _ (List.mem_of_getElem? (i := 139) rfl)) rfl
theorem lk_R_225 : Cond.methodLink RX8 225 (mY mR_operand) ∈ lw_g := inG (tin_6 _ (List.mem_of_getElem? (i := 143) rfl)) rfl
theorem lk_R_209 : Cond.methodLink RX8 209 (mY mR_looksOn) ∈ lw_g := inG (tin_6 _ (List.mem_of_getElem? (i := 147) rfl)) rfl
theorem lk_R_217 : Cond.methodLink RX8 217 (mY mR_nameOf) ∈ lw_g := inG (tin_6 _ (List.mem_of_getElem? (i := 151) rfl)) rfl
theorem lk_R_213 : Cond.methodLink RX8 213 (mY mR_addStep) ∈ lw_g := inG (tin_6 _ (List.mem_of_getElem? (i := 154) rfl)) rfl
theorem lk_R_221 : Cond.methodLink RX8 221 (mY mR_opens) ∈ lw_g := inG (tin_6 _ (List.mem_of_getElem? (i := 158) rfl)) rfl
theorem lk_R_206 : Cond.methodLink RX8 206 (mY mR_wrong) ∈ lw_g := inG (tin_6 _ (List.mem_of_getElem? (i := 162) rfl)) rfl
theorem lk_R_231 : Cond.methodLink RX8 231 (mY mR_figure) ∈ lw_g := inG (tin_6 _ (List.mem_of_getElem? (i := 166) rfl)) rfl
theorem lk_L_48 : Cond.methodLink "BehindTheMaskLaw" 48 (mY mR_counts) ∈ lw_g := inG (tin_6 _ (List.mem_of_getElem? (i := 170) rfl)) rfl
theorem lk_R_265 : Cond.methodLink RX8 265 (mY mR_isWho) ∈ lw_g := inG (tin_6 _ (List.mem_of_getElem? (i := 174) rfl)) rfl
theorem lk_R_268 : Cond.methodLink RX8 268 (mY mR_countsBy) ∈ lw_g := inG (tin_6 _ (List.mem_of_getElem? (i := 178) rfl)) rfl
theorem lk_R_262 : Cond.methodLink RX8 262 (mY mR_gives) ∈ lw_g := inG (tin_6 _ (List.mem_of_getElem? (i := 182) rfl)) rfl
theorem lk_R_252 : Cond.methodLink RX8 252 (mY mR_worked) ∈ lw_g := inG (tin_6 _ (List.mem_of_getElem? (i := 186) rfl)) rfl
theorem lk_R_249 : Cond.methodLink RX8 249 (mY mR_twoOf) ∈ lw_g := inG (tin_6 _ (List.mem_of_getElem? (i := 190) rfl)) rfl
theorem lk_L_53 : Cond.methodLink "BehindTheMaskLaw" 53 (mY mR_ways) ∈ lw_g := inG (tin_6 _ (List.mem_of_getElem? (i := 193) rfl)) rfl
theorem lk_R_306 : Cond.methodLink RX8 306 (mY mR_findWays) ∈ lw_g := inG (tin_6 _ (List.mem_of_getElem? (i := 198) rfl)) rfl
theorem lk_R_301 : Cond.methodLink RX8 301 (mY mR_findBy) ∈ lw_g := inG (tin_6 _ (List.mem_of_getElem? (i := 202) rfl)) rfl
theorem lk_R_297 : Cond.methodLink RX8 297 (mY mR_goWays) ∈ lw_g := inG (tin_6 _ (List.mem_of_getElem? (i := 206) rfl)) rfl
theorem lk_R_293 : Cond.methodLink RX8 293 (mY mR_meets) ∈ lw_g := inG (tin_6 _ (List.mem_of_getElem? (i := 210) rfl)) rfl
theorem lk_L_58 : Cond.methodLink "BehindTheMaskLaw" 58 (mY mR_likely) ∈ lw_g := inG (tin_6 _ (List.mem_of_getElem? (i := 214) rfl)) rfl
theorem lk_R_309 : Cond.methodLink RX8 309 (mY mR_lowest) ∈ lw_g := inG (tin_6 _ (List.mem_of_getElem? (i := 218) rfl)) rfl
theorem lk_L_62 : Cond.methodLink "BehindTheMaskLaw" 62 (mY mR_best) ∈ lw_g := inG (tin_6 _ (List.mem_of_getElem? (i := 221) rfl)) rfl
theorem lk_L_66 : Cond.methodLink "BehindTheMaskLaw" 66 (mY mR_sure) ∈ lw_g := inG (tin_6 _ (List.mem_of_getElem? (i := 226) rfl)) rfl
theorem lk_L_70 : Cond.methodLink "BehindTheMaskLaw" 70 (mY mR_look) ∈ lw_g := inG (tin_6 _ (List.mem_of_getElem? (i := 230) rfl)) rfl
theorem lk_R_326 : Cond.methodLink RX8 326 (mY mR_tryLook) ∈ lw_g := inG (tin_6 _ (List.mem_of_getElem? (i := 234) rfl)) rfl
theorem lk_R_317 : Cond.methodLink RX8 317 (mY mR_waysNow) ∈ lw_g := inG (tin_6 _ (List.mem_of_getElem? (i := 238) rfl)) rfl
theorem lk_L_74 : Cond.methodLink "BehindTheMaskLaw" 74 (mY mR_question) ∈ lw_g := inG (tin_7 _ (List.mem_of_getElem? (i := 2) rfl)) rfl
theorem lk_R_329 : Cond.methodLink RX8 329 (mY mR_waysIf) ∈ lw_g := inG (tin_7 _ (List.mem_of_getElem? (i := 6) rfl)) rfl
theorem lk_L_78 : Cond.methodLink "BehindTheMaskLaw" 78 (mY mR_whom) ∈ lw_g := inG (tin_7 _ (List.mem_of_getElem? (i := 10) rfl)) rfl
theorem lk_L_82 : Cond.methodLink "BehindTheMaskLaw" 82 (mY mR_guess) ∈ lw_g := inG (tin_7 _ (List.mem_of_getElem? (i := 14) rfl)) rfl
theorem lk_R_335 : Cond.methodLink RX8 335 (mY mR_guessNow) ∈ lw_g := inG (tin_7 _ (List.mem_of_getElem? (i := 18) rfl)) rfl
theorem lk_R_342 : Cond.methodLink RX8 342 (mY mR_worthNow) ∈ lw_g := inG (tin_7 _ (List.mem_of_getElem? (i := 22) rfl)) rfl
theorem lk_R_332 : Cond.methodLink RX8 332 (mY mR_pointsAt) ∈ lw_g := inG (tin_7 _ (List.mem_of_getElem? (i := 26) rfl)) rfl
theorem lk_R_338 : Cond.methodLink RX8 338 (mY mR_shareOf) ∈ lw_g := inG (tin_7 _ (List.mem_of_getElem? (i := 30) rfl)) rfl
theorem lk_L_86 : Cond.methodLink "BehindTheMaskLaw" 86 (mY mR_lacks) ∈ lw_g := inG (tin_7 _ (List.mem_of_getElem? (i := 34) rfl)) rfl
theorem lk_L_90 : Cond.methodLink "BehindTheMaskLaw" 90 (mY mR_parts) ∈ lw_g := inG (tin_7 _ (List.mem_of_getElem? (i := 38) rfl)) rfl
theorem lk_R_345 : Cond.methodLink RX8 345 (mY mR_areLike) ∈ lw_g := inG (tin_7 _ (List.mem_of_getElem? (i := 42) rfl)) rfl
theorem lk_R_348 : Cond.methodLink RX8 348 (mY mR_allDiffer) ∈ lw_g := inG (tin_7 _ (List.mem_of_getElem? (i := 46) rfl)) rfl
theorem lk_R_351 : Cond.methodLink RX8 351 (mY mR_bitsOf) ∈ lw_g := inG (tin_7 _ (List.mem_of_getElem? (i := 50) rfl)) rfl
theorem lk_L_95 : Cond.methodLink "BehindTheMaskLaw" 95 (mY mR_truth) ∈ lw_g := inG (tin_7 _ (List.mem_of_getElem? (i := 53) rfl)) rfl
theorem lk_R_361 : Cond.methodLink RX8 361 (mY mR_rowFault) ∈ lw_g := inG (tin_7 _ (List.mem_of_getElem? (i := 57) rfl)) rfl
theorem lk_R_364 : Cond.methodLink RX8 364 (mY mR_layTruth) ∈ lw_g := inG (tin_7 _ (List.mem_of_getElem? (i := 61) rfl)) rfl
theorem lk_R_354 : Cond.methodLink RX8 354 (mY mR_at) ∈ lw_g := inG (tin_7 _ (List.mem_of_getElem? (i := 65) rfl)) rfl
theorem lk_R_357 : Cond.methodLink RX8 357 (mY mR_truthCounts) ∈ lw_g := inG (tin_7 _ (List.mem_of_getElem? (i := 69) rfl)) rfl
theorem lk_R_367 : Cond.methodLink RX8 367 (mY mR_foundOut) ∈ lw_g := inG (tin_7 _ (List.mem_of_getElem? (i := 73) rfl)) rfl
theorem lk_L_99 : Cond.methodLink "BehindTheMaskLaw" 99 (mY mR_feign) ∈ lw_g := inG (tin_7 _ (List.mem_of_getElem? (i := 77) rfl)) rfl
theorem lk_R_370 : Cond.methodLink RX8 370 (mY mR_maskOf) ∈ lw_g := inG (tin_7 _ (List.mem_of_getElem? (i := 81) rfl)) rfl
theorem lk_R_373 : Cond.methodLink RX8 373 (mY mR_thousandths) ∈ lw_g := inG (tin_7 _ (List.mem_of_getElem? (i := 85) rfl)) rfl
theorem lk_L_103 : Cond.methodLink "BehindTheMaskLaw" 103 (mY mR_change) ∈ lw_g := inG (tin_7 _ (List.mem_of_getElem? (i := 89) rfl)) rfl
theorem lk_R_376 : Cond.methodLink RX8 376 (mY mR_exchange) ∈ lw_g := inG (tin_7 _ (List.mem_of_getElem? (i := 93) rfl)) rfl
theorem lk_L_107 : Cond.methodLink "BehindTheMaskLaw" 107 (mY mR_right) ∈ lw_g := inG (tin_7 _ (List.mem_of_getElem? (i := 97) rfl)) rfl
theorem lk_L_111 : Cond.methodLink "BehindTheMaskLaw" 111 (mY mR_cards) ∈ lw_g := inG (tin_7 _ (List.mem_of_getElem? (i := 101) rfl)) rfl
theorem lk_L_115 : Cond.methodLink "BehindTheMaskLaw" 115 (mY mR_dances) ∈ lw_g := inG (tin_7 _ (List.mem_of_getElem? (i := 105) rfl)) rfl
theorem lk_R_382 : Cond.methodLink RX8 382 (mY mR_layDances) ∈ lw_g := inG (tin_7 _ (List.mem_of_getElem? (i := 109) rfl)) rfl
theorem lk_L_119 : Cond.methodLink "BehindTheMaskLaw" 119 (mY mR_avoid) ∈ lw_g := inG (tin_7 _ (List.mem_of_getElem? (i := 113) rfl)) rfl
theorem lk_R_386 : Cond.methodLink RX8 386 (mY mR_dancesOf) ∈ lw_g := inG (tin_7 _ (List.mem_of_getElem? (i := 117) rfl)) rfl
theorem lk_L_123 : Cond.methodLink "BehindTheMaskLaw" 123 (mY mR_favourite) ∈ lw_g := inG (tin_7 _ (List.mem_of_getElem? (i := 121) rfl)) rfl
theorem lk_L_128 : Cond.methodLink "BehindTheMaskLaw" 128 (mY mR_drawn) ∈ lw_g := inG (tin_7 _ (List.mem_of_getElem? (i := 125) rfl)) rfl
theorem lk_R_390 : Cond.methodLink RX8 390 (mY mR_bitAt) ∈ lw_g := inG (tin_7 _ (List.mem_of_getElem? (i := 130) rfl)) rfl
theorem lk_L_132 : Cond.methodLink "BehindTheMaskLaw" 132 (mY mR_behind) ∈ lw_g := inG (tin_7 _ (List.mem_of_getElem? (i := 133) rfl)) rfl
theorem lk_L_136 : Cond.methodLink "BehindTheMaskLaw" 136 (mY mR_dance) ∈ lw_g := inG (tin_7 _ (List.mem_of_getElem? (i := 137) rfl)) rfl
theorem lk_L_140 : Cond.methodLink "BehindTheMaskLaw" 140 (mY mR_swap) ∈ lw_g := inG (tin_7 _ (List.mem_of_getElem? (i := 141) rfl)) rfl
theorem lk_L_144 : Cond.methodLink "BehindTheMaskLaw" 144 (mY mR_bet) ∈ lw_g := inG (tin_7 _ (List.mem_of_getElem? (i := 145) rfl)) rfl
theorem lk_L_148 : Cond.methodLink "BehindTheMaskLaw" 148 (mY mR_led) ∈ lw_g := inG (tin_7 _ (List.mem_of_getElem? (i := 149) rfl)) rfl
theorem lk_L_152 : Cond.methodLink "BehindTheMaskLaw" 152 (mY mR_image) ∈ lw_g := inG (tin_7 _ (List.mem_of_getElem? (i := 153) rfl)) rfl
theorem lk_L_156 : Cond.methodLink "BehindTheMaskLaw" 156 (mY mR_back) ∈ lw_g := inG (tin_7 _ (List.mem_of_getElem? (i := 157) rfl)) rfl
theorem lk_L_176 : Cond.methodLink "BehindTheMaskLaw" 176 (mY mR_trace) ∈ lw_g := inG (tin_7 _ (List.mem_of_getElem? (i := 161) rfl)) rfl
theorem lk_L_168 : Cond.methodLink "BehindTheMaskLaw" 168 (mY mR_body) ∈ lw_g := inG (tin_7 _ (List.mem_of_getElem? (i := 165) rfl)) rfl
theorem lk_L_172 : Cond.methodLink "BehindTheMaskLaw" 172 (mY mR_act) ∈ lw_g := inG (tin_7 _ (List.mem_of_getElem? (i := 169) rfl)) rfl
theorem lk_R_447 : Cond.methodLink RX8 447 (mY mR_isBody) ∈ lw_g := inG (tin_7 _ (List.mem_of_getElem? (i := 173) rfl)) rfl
theorem lk_R_423 : Cond.methodLink RX8 423 (mY mR_showing) ∈ lw_g := inG (tin_7 _ (List.mem_of_getElem? (i := 177) rfl)) rfl
theorem lk_R_417 : Cond.methodLink RX8 417 (mY mR_isUnder) ∈ lw_g := inG (tin_7 _ (List.mem_of_getElem? (i := 181) rfl)) rfl
theorem lk_R_411 : Cond.methodLink RX8 411 (mY mR_ran) ∈ lw_g := inG (tin_7 _ (List.mem_of_getElem? (i := 184) rfl)) rfl
theorem lk_R_414 : Cond.methodLink RX8 414 (mY mR_plainShows) ∈ lw_g := inG (tin_7 _ (List.mem_of_getElem? (i := 188) rfl)) rfl
theorem lk_R_420 : Cond.methodLink RX8 420 (mY mR_absentShows) ∈ lw_g := inG (tin_7 _ (List.mem_of_getElem? (i := 192) rfl)) rfl
theorem lk_R_441 : Cond.methodLink RX8 441 (mY mR_asking) ∈ lw_g := inG (tin_7 _ (List.mem_of_getElem? (i := 196) rfl)) rfl
theorem lk_R_429 : Cond.methodLink RX8 429 (mY mR_feignedAsks) ∈ lw_g := inG (tin_7 _ (List.mem_of_getElem? (i := 200) rfl)) rfl
theorem lk_R_426 : Cond.methodLink RX8 426 (mY mR_plainAsks) ∈ lw_g := inG (tin_7 _ (List.mem_of_getElem? (i := 204) rfl)) rfl
theorem lk_R_432 : Cond.methodLink RX8 432 (mY mR_believing) ∈ lw_g := inG (tin_7 _ (List.mem_of_getElem? (i := 208) rfl)) rfl
theorem lk_R_438 : Cond.methodLink RX8 438 (mY mR_borrowedBelieves) ∈ lw_g := inG (tin_7 _ (List.mem_of_getElem? (i := 212) rfl)) rfl
theorem lk_R_435 : Cond.methodLink RX8 435 (mY mR_plainBelieves) ∈ lw_g := inG (tin_7 _ (List.mem_of_getElem? (i := 216) rfl)) rfl
theorem lk_R_450 : Cond.methodLink RX8 450 (mY mR_telling) ∈ lw_g := inG (tin_7 _ (List.mem_of_getElem? (i := 220) rfl)) rfl
theorem lk_R_444 : Cond.methodLink RX8 444 (mY mR_plainTells) ∈ lw_g := inG (tin_7 _ (List.mem_of_getElem? (i := 224) rfl)) rfl
theorem lk_L_208 : Cond.methodLink "BehindTheMaskLaw" 208 (mY mR_count) ∈ lw_g := inG (tin_7 _ (List.mem_of_getElem? (i := 228) rfl)) rfl
theorem lk_L_180 : Cond.methodLink "BehindTheMaskLaw" 180 (mY mR_keep) ∈ lw_g := inG (tin_7 _ (List.mem_of_getElem? (i := 232) rfl)) rfl
theorem lk_L_184 : Cond.methodLink "BehindTheMaskLaw" 184 (mY mR_row) ∈ lw_g := inG (tin_7 _ (List.mem_of_getElem? (i := 236) rfl)) rfl
theorem lk_L_191 : Cond.methodLink "BehindTheMaskLaw" 191 (mY mR_put) ∈ lw_g := inG (tin_8 _ (List.mem_of_getElem? (i := 0) rfl)) rfl
theorem lk_R_453 : Cond.methodLink RX8 453 (mY mR_whyNoPlace) ∈ lw_g := inG (tin_8 _ (List.mem_of_getElem? (i := 4) rfl)) rfl
theorem lk_L_195 : Cond.methodLink "BehindTheMaskLaw" 195 (mY mR_element) ∈ lw_g := inG (tin_8 _ (List.mem_of_getElem? (i := 8) rfl)) rfl
theorem lk_L_200 : Cond.methodLink "BehindTheMaskLaw" 200 (mY mR_shift) ∈ lw_g := inG (tin_8 _ (List.mem_of_getElem? (i := 12) rfl)) rfl
theorem lk_L_204 : Cond.methodLink "BehindTheMaskLaw" 204 (mY mR_taken) ∈ lw_g := inG (tin_8 _ (List.mem_of_getElem? (i := 16) rfl)) rfl
theorem ck_B_77 : Cond.constantLong RX7 77 (3 : Int64) ∈ lw_g := inG (tin_2 _ (List.mem_of_getElem? (i := 41) rfl)) rfl
theorem ck_Ha_60 : Cond.constant RX2 60 (-2000000000 : Int32) ∈ lw_g := inG (tin_2 _ (List.mem_of_getElem? (i := 78) rfl)) rfl
theorem ck_B_93 : Cond.constant RX7 93 (-2000000000 : Int32) ∈ lw_g := inG (tin_2 _ (List.mem_of_getElem? (i := 101) rfl)) rfl
theorem ck_B_125 : Cond.constantLong RX7 125 (-9223372036854775808 : Int64) ∈ lw_g := inG (tin_2 _ (List.mem_of_getElem? (i := 229) rfl)) rfl
theorem ck_JI_265 : Cond.constant "java/lang/Integer" 265 (1431655765 : Int32) ∈ lw_g := inG (tin_3 _ (List.mem_of_getElem? (i := 39) rfl)) rfl
theorem ck_JI_266 : Cond.constant "java/lang/Integer" 266 (858993459 : Int32) ∈ lw_g := inG (tin_3 _ (List.mem_of_getElem? (i := 40) rfl)) rfl
theorem ck_JI_267 : Cond.constant "java/lang/Integer" 267 (252645135 : Int32) ∈ lw_g := inG (tin_3 _ (List.mem_of_getElem? (i := 41) rfl)) rfl
theorem ck_B_148 : Cond.constantLong RX7 148 (-2 : Int64) ∈ lw_g := inG (tin_3 _ (List.mem_of_getElem? (i := 84) rfl)) rfl
theorem ck_Th_151 : Cond.constantLong RX6 151 (10 : Int64) ∈ lw_g := inG (tin_3 _ (List.mem_of_getElem? (i := 154) rfl)) rfl
theorem ck_Th_164 : Cond.constantLong RX6 164 (7 : Int64) ∈ lw_g := inG (tin_4 _ (List.mem_of_getElem? (i := 3) rfl)) rfl
theorem ck_Th_166 : Cond.constantLong RX6 166 (2 : Int64) ∈ lw_g := inG (tin_4 _ (List.mem_of_getElem? (i := 4) rfl)) rfl
theorem ck_JL_314 : Cond.constantLong "java/lang/Long" 314 (6148914691236517205 : Int64) ∈ lw_g := inG (tin_4 _ (List.mem_of_getElem? (i := 8) rfl)) rfl
theorem ck_JL_316 : Cond.constantLong "java/lang/Long" 316 (3689348814741910323 : Int64) ∈ lw_g := inG (tin_4 _ (List.mem_of_getElem? (i := 9) rfl)) rfl
theorem ck_JL_318 : Cond.constantLong "java/lang/Long" 318 (1085102592571150095 : Int64) ∈ lw_g := inG (tin_4 _ (List.mem_of_getElem? (i := 10) rfl)) rfl
theorem ck_B_243 : Cond.constantLong RX7 243 (-1 : Int64) ∈ lw_g := inG (tin_4 _ (List.mem_of_getElem? (i := 11) rfl)) rfl
theorem ck_Th_173 : Cond.constant RX6 173 (1103515245 : Int32) ∈ lw_g := inG (tin_4 _ (List.mem_of_getElem? (i := 72) rfl)) rfl
theorem ck_R_161 : Cond.constantLong RX8 161 (2 : Int64) ∈ lw_g := inG (tin_6 _ (List.mem_of_getElem? (i := 58) rfl)) rfl
theorem ck_R_190 : Cond.constant RX8 190 (-2000000000 : Int32) ∈ lw_g := inG (tin_6 _ (List.mem_of_getElem? (i := 102) rfl)) rfl
theorem ck_R_304 : Cond.constantLong RX8 304 (-9223372036854775808 : Int64) ∈ lw_g := inG (tin_6 _ (List.mem_of_getElem? (i := 197) rfl)) rfl
theorem ck_R_315 : Cond.constantLong RX8 315 (-2 : Int64) ∈ lw_g := inG (tin_6 _ (List.mem_of_getElem? (i := 225) rfl)) rfl
theorem ck_R_313 : Cond.constantLong RX8 313 (10 : Int64) ∈ lw_g := inG (tin_7 _ (List.mem_of_getElem? (i := 33) rfl)) rfl
theorem ck_R_389 : Cond.constant RX8 389 (1103515245 : Int32) ∈ lw_g := inG (tin_7 _ (List.mem_of_getElem? (i := 129) rfl)) rfl
theorem ck_L_185 : Cond.constantLong "BehindTheMaskLaw" 185 (4294967295 : Int64) ∈ lw_g := inG (tin_8 _ (List.mem_of_getElem? (i := 20) rfl)) rfl
theorem cw_L_7 : Cond.classLink "BehindTheMaskLaw" 7 "BehindTheMask" ∈ lw_g := inG (tin_1 _ (List.mem_of_getElem? (i := 14) rfl)) rfl
theorem np_L_7 : NP "BehindTheMaskLaw" 7 7 7 := ⟨RX7, TX7, tyX7, rfl, inX7, tyX7_ok, by
  intro k hk
  rcases (by omega : k = 0 ∨ k = 1 ∨ k = 2 ∨ k = 3 ∨ k = 4 ∨ k = 5 ∨ k = 6) with rfl | rfl | rfl | rfl | rfl | rfl | rfl <;> first | exact rfl | exact Or.inl ⟨_, rfl⟩ | exact Or.inr ⟨_, rfl⟩, cw_L_7, inG (tin_1 _ (List.mem_of_getElem? (i := 15) rfl)) rfl, inG (tin_1 _ (List.mem_of_getElem? (i := 1) rfl)) rfl⟩
theorem cw_B_7 : Cond.classLink RX7 7 "BehindTheMask$Hall" ∈ lw_g := inG (tin_1 _ (List.mem_of_getElem? (i := 22) rfl)) rfl
theorem np_B_7 : NP RX7 7 2 8 := ⟨RX2, TX2, tyX2, rfl, inX2, tyX2_ok, by
  intro k hk
  rcases (by omega : k = 0 ∨ k = 1 ∨ k = 2 ∨ k = 3 ∨ k = 4 ∨ k = 5 ∨ k = 6 ∨ k = 7) with rfl | rfl | rfl | rfl | rfl | rfl | rfl | rfl <;> first | exact rfl | exact Or.inl ⟨_, rfl⟩ | exact Or.inr ⟨_, rfl⟩, cw_B_7, inG (tin_1 _ (List.mem_of_getElem? (i := 23) rfl)) rfl, inG (tin_1 _ (List.mem_of_getElem? (i := 2) rfl)) rfl⟩
theorem cw_B_16 : Cond.classLink RX7 16 "BehindTheMask$Law" ∈ lw_g := inG (tin_1 _ (List.mem_of_getElem? (i := 54) rfl)) rfl
theorem np_B_16 : NP RX7 16 3 10 := ⟨RX3, TX3, tyX3, rfl, inX3, tyX3_ok, by
  intro k hk
  rcases (by omega : k = 0 ∨ k = 1 ∨ k = 2 ∨ k = 3 ∨ k = 4 ∨ k = 5 ∨ k = 6 ∨ k = 7 ∨ k = 8 ∨ k = 9) with rfl | rfl | rfl | rfl | rfl | rfl | rfl | rfl | rfl | rfl <;> first | exact rfl | exact Or.inl ⟨_, rfl⟩ | exact Or.inr ⟨_, rfl⟩, cw_B_16, inG (tin_1 _ (List.mem_of_getElem? (i := 55) rfl)) rfl, inG (tin_1 _ (List.mem_of_getElem? (i := 3) rfl)) rfl⟩
theorem cw_B_23 : Cond.classLink RX7 23 "BehindTheMask$Thought" ∈ lw_g := inG (tin_1 _ (List.mem_of_getElem? (i := 91) rfl)) rfl
theorem np_B_23 : NP RX7 23 6 9 := ⟨RX6, TX6, tyX6, rfl, inX6, tyX6_ok, by
  intro k hk
  rcases (by omega : k = 0 ∨ k = 1 ∨ k = 2 ∨ k = 3 ∨ k = 4 ∨ k = 5 ∨ k = 6 ∨ k = 7 ∨ k = 8) with rfl | rfl | rfl | rfl | rfl | rfl | rfl | rfl | rfl <;> first | exact rfl | exact Or.inl ⟨_, rfl⟩ | exact Or.inr ⟨_, rfl⟩, cw_B_23, inG (tin_1 _ (List.mem_of_getElem? (i := 92) rfl)) rfl, inG (tin_1 _ (List.mem_of_getElem? (i := 4) rfl)) rfl⟩
theorem cw_B_32 : Cond.classLink RX7 32 "BehindTheMask$Night" ∈ lw_g := inG (tin_1 _ (List.mem_of_getElem? (i := 126) rfl)) rfl
theorem np_B_32 : NP RX7 32 4 9 := ⟨RX4, TX4, tyX4, rfl, inX4, tyX4_ok, by
  intro k hk
  rcases (by omega : k = 0 ∨ k = 1 ∨ k = 2 ∨ k = 3 ∨ k = 4 ∨ k = 5 ∨ k = 6 ∨ k = 7 ∨ k = 8) with rfl | rfl | rfl | rfl | rfl | rfl | rfl | rfl | rfl <;> first | exact rfl | exact Or.inl ⟨_, rfl⟩ | exact Or.inr ⟨_, rfl⟩, cw_B_32, inG (tin_1 _ (List.mem_of_getElem? (i := 127) rfl)) rfl, inG (tin_1 _ (List.mem_of_getElem? (i := 5) rfl)) rfl⟩
theorem cw_B_41 : Cond.classLink RX7 41 "BehindTheMask$Floor" ∈ lw_g := inG (tin_1 _ (List.mem_of_getElem? (i := 160) rfl)) rfl
theorem np_B_41 : NP RX7 41 1 4 := ⟨RX1, TX1, tyX1, rfl, inX1, tyX1_ok, by
  intro k hk
  rcases (by omega : k = 0 ∨ k = 1 ∨ k = 2 ∨ k = 3) with rfl | rfl | rfl | rfl <;> first | exact rfl | exact Or.inl ⟨_, rfl⟩ | exact Or.inr ⟨_, rfl⟩, cw_B_41, inG (tin_1 _ (List.mem_of_getElem? (i := 161) rfl)) rfl, inG (tin_1 _ (List.mem_of_getElem? (i := 6) rfl)) rfl⟩
theorem cw_B_48 : Cond.classLink RX7 48 "BehindTheMask$Bodies" ∈ lw_g := inG (tin_1 _ (List.mem_of_getElem? (i := 179) rfl)) rfl
theorem np_B_48 : NP RX7 48 0 5 := ⟨RX0, TX0, tyX0, rfl, inX0, tyX0_ok, by
  intro k hk
  rcases (by omega : k = 0 ∨ k = 1 ∨ k = 2 ∨ k = 3 ∨ k = 4) with rfl | rfl | rfl | rfl | rfl <;> first | exact rfl | exact Or.inl ⟨_, rfl⟩ | exact Or.inr ⟨_, rfl⟩, cw_B_48, inG (tin_1 _ (List.mem_of_getElem? (i := 180) rfl)) rfl, inG (tin_1 _ (List.mem_of_getElem? (i := 7) rfl)) rfl⟩
theorem cw_B_55 : Cond.classLink RX7 55 "BehindTheMask$Shelf" ∈ lw_g := inG (tin_1 _ (List.mem_of_getElem? (i := 201) rfl)) rfl
theorem np_B_55 : NP RX7 55 5 4 := ⟨RX5, TX5, tyX5, rfl, inX5, tyX5_ok, by
  intro k hk
  rcases (by omega : k = 0 ∨ k = 1 ∨ k = 2 ∨ k = 3) with rfl | rfl | rfl | rfl <;> first | exact rfl | exact Or.inl ⟨_, rfl⟩ | exact Or.inr ⟨_, rfl⟩, cw_B_55, inG (tin_1 _ (List.mem_of_getElem? (i := 203) rfl)) rfl, inG (tin_1 _ (List.mem_of_getElem? (i := 8) rfl)) rfl⟩
theorem cw_L_10 : Cond.classLink "BehindTheMaskLaw" 10 "BehindTheMaskModel" ∈ lw_g := inG (tin_5 _ (List.mem_of_getElem? (i := 70) rfl)) rfl
theorem np_L_10 : NP "BehindTheMaskLaw" 10 8 66 := ⟨RX8, TX8, tyX8, rfl, inX8, tyX8_ok, by
  intro k hk
  rcases (by omega : k = 0 ∨ k = 1 ∨ k = 2 ∨ k = 3 ∨ k = 4 ∨ k = 5 ∨ k = 6 ∨ k = 7 ∨ k = 8 ∨ k = 9 ∨ k = 10 ∨ k = 11 ∨ k = 12 ∨ k = 13 ∨ k = 14 ∨ k = 15 ∨ k = 16 ∨ k = 17 ∨ k = 18 ∨ k = 19 ∨ k = 20 ∨ k = 21 ∨ k = 22 ∨ k = 23 ∨ k = 24 ∨ k = 25 ∨ k = 26 ∨ k = 27 ∨ k = 28 ∨ k = 29 ∨ k = 30 ∨ k = 31 ∨ k = 32 ∨ k = 33 ∨ k = 34 ∨ k = 35 ∨ k = 36 ∨ k = 37 ∨ k = 38 ∨ k = 39 ∨ k = 40 ∨ k = 41 ∨ k = 42 ∨ k = 43 ∨ k = 44 ∨ k = 45 ∨ k = 46 ∨ k = 47 ∨ k = 48 ∨ k = 49 ∨ k = 50 ∨ k = 51 ∨ k = 52 ∨ k = 53 ∨ k = 54 ∨ k = 55 ∨ k = 56 ∨ k = 57 ∨ k = 58 ∨ k = 59 ∨ k = 60 ∨ k = 61 ∨ k = 62 ∨ k = 63 ∨ k = 64 ∨ k = 65) with rfl | rfl | rfl | rfl | rfl | rfl | rfl | rfl | rfl | rfl | rfl | rfl | rfl | rfl | rfl | rfl | rfl | rfl | rfl | rfl | rfl | rfl | rfl | rfl | rfl | rfl | rfl | rfl | rfl | rfl | rfl | rfl | rfl | rfl | rfl | rfl | rfl | rfl | rfl | rfl | rfl | rfl | rfl | rfl | rfl | rfl | rfl | rfl | rfl | rfl | rfl | rfl | rfl | rfl | rfl | rfl | rfl | rfl | rfl | rfl | rfl | rfl | rfl | rfl | rfl | rfl <;> first | exact rfl | exact Or.inl ⟨_, rfl⟩ | exact Or.inr ⟨_, rfl⟩, cw_L_10, inG (tin_5 _ (List.mem_of_getElem? (i := 71) rfl)) rfl, inG (tin_1 _ (List.mem_of_getElem? (i := 9) rfl)) rfl⟩
theorem ar_int : Cond.arrayClass (newarray.typeOf .int) ∈ lw_g := inG (tin_1 _ (List.mem_of_getElem? (i := 53) rfl)) rfl
theorem ar_long : Cond.arrayClass (newarray.typeOf .long) ∈ lw_g := inG (tin_1 _ (List.mem_of_getElem? (i := 125) rfl)) rfl
theorem ar_byte : Cond.arrayClass (newarray.typeOf .byte) ∈ lw_g := inG (tin_6 _ (List.mem_of_getElem? (i := 34) rfl)) rfl
theorem ar_short : Cond.arrayClass (newarray.typeOf .short) ∈ lw_g := inG (tin_6 _ (List.mem_of_getElem? (i := 35) rfl)) rfl
theorem ar_boolean : Cond.arrayClass (newarray.typeOf .boolean) ∈ lw_g := inG (tin_6 _ (List.mem_of_getElem? (i := 36) rfl)) rfl
theorem vm_mB_init : IM mB_init 0 := ⟨⟨⟨by decide +kernel, by decide +kernel⟩, by decide +kernel, by decide, inG (tin_1 _ (List.mem_of_getElem? (i := 1) rfl)) rfl, inG (tin_1 _ (List.mem_of_getElem? (i := 18) rfl)) rfl⟩, inG (tin_1 _ (List.mem_of_getElem? (i := 17) rfl)) rfl, rfl, rfl⟩
theorem vm_mHa_init : IM mHa_init 0 := ⟨⟨⟨by decide +kernel, by decide +kernel⟩, by decide +kernel, by decide, inG (tin_1 _ (List.mem_of_getElem? (i := 2) rfl)) rfl, inG (tin_1 _ (List.mem_of_getElem? (i := 26) rfl)) rfl⟩, inG (tin_1 _ (List.mem_of_getElem? (i := 25) rfl)) rfl, rfl, rfl⟩
theorem vm_mLa_init : IM mLa_init 0 := ⟨⟨⟨by decide +kernel, by decide +kernel⟩, by decide +kernel, by decide, inG (tin_1 _ (List.mem_of_getElem? (i := 3) rfl)) rfl, inG (tin_1 _ (List.mem_of_getElem? (i := 58) rfl)) rfl⟩, inG (tin_1 _ (List.mem_of_getElem? (i := 57) rfl)) rfl, rfl, rfl⟩
theorem vm_mTh_init : IM mTh_init 2 := ⟨⟨⟨by decide +kernel, by decide +kernel⟩, by decide +kernel, by decide, inG (tin_1 _ (List.mem_of_getElem? (i := 4) rfl)) rfl, inG (tin_1 _ (List.mem_of_getElem? (i := 95) rfl)) rfl⟩, inG (tin_1 _ (List.mem_of_getElem? (i := 94) rfl)) rfl, rfl, rfl⟩
theorem vm_mNi_init : IM mNi_init 1 := ⟨⟨⟨by decide +kernel, by decide +kernel⟩, by decide +kernel, by decide, inG (tin_1 _ (List.mem_of_getElem? (i := 5) rfl)) rfl, inG (tin_1 _ (List.mem_of_getElem? (i := 130) rfl)) rfl⟩, inG (tin_1 _ (List.mem_of_getElem? (i := 129) rfl)) rfl, rfl, rfl⟩
theorem vm_mFl_init : IM mFl_init 0 := ⟨⟨⟨by decide +kernel, by decide +kernel⟩, by decide +kernel, by decide, inG (tin_1 _ (List.mem_of_getElem? (i := 6) rfl)) rfl, inG (tin_1 _ (List.mem_of_getElem? (i := 164) rfl)) rfl⟩, inG (tin_1 _ (List.mem_of_getElem? (i := 163) rfl)) rfl, rfl, rfl⟩
theorem vm_mBo_init : IM mBo_init 0 := ⟨⟨⟨by decide +kernel, by decide +kernel⟩, by decide +kernel, by decide, inG (tin_1 _ (List.mem_of_getElem? (i := 7) rfl)) rfl, inG (tin_1 _ (List.mem_of_getElem? (i := 183) rfl)) rfl⟩, inG (tin_1 _ (List.mem_of_getElem? (i := 182) rfl)) rfl, rfl, rfl⟩
theorem vm_mSh_init : IM mSh_init 0 := ⟨⟨⟨by decide +kernel, by decide +kernel⟩, by decide +kernel, by decide, inG (tin_1 _ (List.mem_of_getElem? (i := 8) rfl)) rfl, inG (tin_1 _ (List.mem_of_getElem? (i := 206) rfl)) rfl⟩, inG (tin_1 _ (List.mem_of_getElem? (i := 205) rfl)) rfl, rfl, rfl⟩
theorem vm_mB_person : VM mB_person 1 := ⟨⟨⟨by decide +kernel, by decide +kernel⟩, by decide +kernel, by decide, inG (tin_1 _ (List.mem_of_getElem? (i := 1) rfl)) rfl, inG (tin_2 _ (List.mem_of_getElem? (i := 6) rfl)) rfl⟩, inG (tin_2 _ (List.mem_of_getElem? (i := 4) rfl)) rfl, inG (tin_2 _ (List.mem_of_getElem? (i := 5) rfl)) rfl⟩
theorem vm_mHa_arrive : VM mHa_arrive 3 := ⟨⟨⟨by decide +kernel, by decide +kernel⟩, by decide +kernel, by decide, inG (tin_1 _ (List.mem_of_getElem? (i := 2) rfl)) rfl, inG (tin_2 _ (List.mem_of_getElem? (i := 10) rfl)) rfl⟩, inG (tin_2 _ (List.mem_of_getElem? (i := 8) rfl)) rfl, inG (tin_2 _ (List.mem_of_getElem? (i := 9) rfl)) rfl⟩
theorem vm_mHa_isValue : SM mHa_isValue 1 := ⟨⟨⟨by decide +kernel, by decide +kernel⟩, by decide +kernel, by decide, inG (tin_1 _ (List.mem_of_getElem? (i := 2) rfl)) rfl, inG (tin_2 _ (List.mem_of_getElem? (i := 13) rfl)) rfl⟩, inG (tin_2 _ (List.mem_of_getElem? (i := 12) rfl)) rfl⟩
theorem vm_mHa_note : VM mHa_note 3 := ⟨⟨⟨by decide +kernel, by decide +kernel⟩, by decide +kernel, by decide, inG (tin_1 _ (List.mem_of_getElem? (i := 2) rfl)) rfl, inG (tin_2 _ (List.mem_of_getElem? (i := 17) rfl)) rfl⟩, inG (tin_2 _ (List.mem_of_getElem? (i := 15) rfl)) rfl, inG (tin_2 _ (List.mem_of_getElem? (i := 16) rfl)) rfl⟩
theorem vm_mHa_placeOf : VM mHa_placeOf 2 := ⟨⟨⟨by decide +kernel, by decide +kernel⟩, by decide +kernel, by decide, inG (tin_1 _ (List.mem_of_getElem? (i := 2) rfl)) rfl, inG (tin_2 _ (List.mem_of_getElem? (i := 21) rfl)) rfl⟩, inG (tin_2 _ (List.mem_of_getElem? (i := 19) rfl)) rfl, inG (tin_2 _ (List.mem_of_getElem? (i := 20) rfl)) rfl⟩
theorem vm_mHa_set : VM mHa_set 2 := ⟨⟨⟨by decide +kernel, by decide +kernel⟩, by decide +kernel, by decide, inG (tin_1 _ (List.mem_of_getElem? (i := 2) rfl)) rfl, inG (tin_2 _ (List.mem_of_getElem? (i := 25) rfl)) rfl⟩, inG (tin_2 _ (List.mem_of_getElem? (i := 24) rfl)) rfl, inG (tin_0 _ (List.mem_of_getElem? (i := 0) rfl)) rfl⟩
theorem vm_mB_people : VM mB_people 3 := ⟨⟨⟨by decide +kernel, by decide +kernel⟩, by decide +kernel, by decide, inG (tin_1 _ (List.mem_of_getElem? (i := 1) rfl)) rfl, inG (tin_2 _ (List.mem_of_getElem? (i := 29) rfl)) rfl⟩, inG (tin_2 _ (List.mem_of_getElem? (i := 27) rfl)) rfl, inG (tin_2 _ (List.mem_of_getElem? (i := 28) rfl)) rfl⟩
theorem vm_mB_isShelf : SM mB_isShelf 1 := ⟨⟨⟨by decide +kernel, by decide +kernel⟩, by decide +kernel, by decide, inG (tin_1 _ (List.mem_of_getElem? (i := 1) rfl)) rfl, inG (tin_2 _ (List.mem_of_getElem? (i := 32) rfl)) rfl⟩, inG (tin_2 _ (List.mem_of_getElem? (i := 31) rfl)) rfl⟩
theorem vm_mSh_isEmpty : VM mSh_isEmpty 0 := ⟨⟨⟨by decide +kernel, by decide +kernel⟩, by decide +kernel, by decide, inG (tin_1 _ (List.mem_of_getElem? (i := 8) rfl)) rfl, inG (tin_2 _ (List.mem_of_getElem? (i := 36) rfl)) rfl⟩, inG (tin_2 _ (List.mem_of_getElem? (i := 34) rfl)) rfl, inG (tin_2 _ (List.mem_of_getElem? (i := 35) rfl)) rfl⟩
theorem vm_mSh_holdsBytes : VM mSh_holdsBytes 0 := ⟨⟨⟨by decide +kernel, by decide +kernel⟩, by decide +kernel, by decide, inG (tin_1 _ (List.mem_of_getElem? (i := 8) rfl)) rfl, inG (tin_2 _ (List.mem_of_getElem? (i := 40) rfl)) rfl⟩, inG (tin_2 _ (List.mem_of_getElem? (i := 38) rfl)) rfl, inG (tin_2 _ (List.mem_of_getElem? (i := 39) rfl)) rfl⟩
theorem vm_mB_arriveFrom : VM mB_arriveFrom 2 := ⟨⟨⟨by decide +kernel, by decide +kernel⟩, by decide +kernel, by decide, inG (tin_1 _ (List.mem_of_getElem? (i := 1) rfl)) rfl, inG (tin_2 _ (List.mem_of_getElem? (i := 45) rfl)) rfl⟩, inG (tin_2 _ (List.mem_of_getElem? (i := 44) rfl)) rfl, inG (tin_0 _ (List.mem_of_getElem? (i := 1) rfl)) rfl⟩
theorem vm_mSh_size : VM mSh_size 0 := ⟨⟨⟨by decide +kernel, by decide +kernel⟩, by decide +kernel, by decide, inG (tin_1 _ (List.mem_of_getElem? (i := 8) rfl)) rfl, inG (tin_2 _ (List.mem_of_getElem? (i := 49) rfl)) rfl⟩, inG (tin_2 _ (List.mem_of_getElem? (i := 47) rfl)) rfl, inG (tin_2 _ (List.mem_of_getElem? (i := 48) rfl)) rfl⟩
theorem vm_mSh_at : VM mSh_at 1 := ⟨⟨⟨by decide +kernel, by decide +kernel⟩, by decide +kernel, by decide, inG (tin_1 _ (List.mem_of_getElem? (i := 8) rfl)) rfl, inG (tin_2 _ (List.mem_of_getElem? (i := 53) rfl)) rfl⟩, inG (tin_2 _ (List.mem_of_getElem? (i := 51) rfl)) rfl, inG (tin_2 _ (List.mem_of_getElem? (i := 52) rfl)) rfl⟩
theorem vm_mSh_has : VM mSh_has 1 := ⟨⟨⟨by decide +kernel, by decide +kernel⟩, by decide +kernel, by decide, inG (tin_1 _ (List.mem_of_getElem? (i := 8) rfl)) rfl, inG (tin_2 _ (List.mem_of_getElem? (i := 57) rfl)) rfl⟩, inG (tin_2 _ (List.mem_of_getElem? (i := 56) rfl)) rfl, inG (tin_0 _ (List.mem_of_getElem? (i := 2) rfl)) rfl⟩
theorem vm_mB_mask : VM mB_mask 0 := ⟨⟨⟨by decide +kernel, by decide +kernel⟩, by decide +kernel, by decide, inG (tin_1 _ (List.mem_of_getElem? (i := 1) rfl)) rfl, inG (tin_2 _ (List.mem_of_getElem? (i := 61) rfl)) rfl⟩, inG (tin_2 _ (List.mem_of_getElem? (i := 59) rfl)) rfl, inG (tin_2 _ (List.mem_of_getElem? (i := 60) rfl)) rfl⟩
theorem vm_mHa_addMask : VM mHa_addMask 0 := ⟨⟨⟨by decide +kernel, by decide +kernel⟩, by decide +kernel, by decide, inG (tin_1 _ (List.mem_of_getElem? (i := 2) rfl)) rfl, inG (tin_2 _ (List.mem_of_getElem? (i := 65) rfl)) rfl⟩, inG (tin_2 _ (List.mem_of_getElem? (i := 63) rfl)) rfl, inG (tin_2 _ (List.mem_of_getElem? (i := 64) rfl)) rfl⟩
theorem vm_mB_mend : VM mB_mend 3 := ⟨⟨⟨by decide +kernel, by decide +kernel⟩, by decide +kernel, by decide, inG (tin_1 _ (List.mem_of_getElem? (i := 1) rfl)) rfl, inG (tin_2 _ (List.mem_of_getElem? (i := 69) rfl)) rfl⟩, inG (tin_2 _ (List.mem_of_getElem? (i := 67) rfl)) rfl, inG (tin_2 _ (List.mem_of_getElem? (i := 68) rfl)) rfl⟩
theorem vm_mHa_alter : VM mHa_alter 3 := ⟨⟨⟨by decide +kernel, by decide +kernel⟩, by decide +kernel, by decide, inG (tin_1 _ (List.mem_of_getElem? (i := 2) rfl)) rfl, inG (tin_2 _ (List.mem_of_getElem? (i := 73) rfl)) rfl⟩, inG (tin_2 _ (List.mem_of_getElem? (i := 71) rfl)) rfl, inG (tin_2 _ (List.mem_of_getElem? (i := 72) rfl)) rfl⟩
theorem vm_mHa_get : VM mHa_get 1 := ⟨⟨⟨by decide +kernel, by decide +kernel⟩, by decide +kernel, by decide, inG (tin_1 _ (List.mem_of_getElem? (i := 2) rfl)) rfl, inG (tin_2 _ (List.mem_of_getElem? (i := 82) rfl)) rfl⟩, inG (tin_2 _ (List.mem_of_getElem? (i := 81) rfl)) rfl, inG (tin_0 _ (List.mem_of_getElem? (i := 3) rfl)) rfl⟩
theorem vm_mHa_keepChange : VM mHa_keepChange 3 := ⟨⟨⟨by decide +kernel, by decide +kernel⟩, by decide +kernel, by decide, inG (tin_1 _ (List.mem_of_getElem? (i := 2) rfl)) rfl, inG (tin_2 _ (List.mem_of_getElem? (i := 86) rfl)) rfl⟩, inG (tin_2 _ (List.mem_of_getElem? (i := 85) rfl)) rfl, inG (tin_0 _ (List.mem_of_getElem? (i := 4) rfl)) rfl⟩
theorem vm_mHa_forgetFirst : SM mHa_forgetFirst 1 := ⟨⟨⟨by decide +kernel, by decide +kernel⟩, by decide +kernel, by decide, inG (tin_1 _ (List.mem_of_getElem? (i := 2) rfl)) rfl, inG (tin_2 _ (List.mem_of_getElem? (i := 89) rfl)) rfl⟩, inG (tin_2 _ (List.mem_of_getElem? (i := 88) rfl)) rfl⟩
theorem vm_mB_of : VM mB_of 2 := ⟨⟨⟨by decide +kernel, by decide +kernel⟩, by decide +kernel, by decide, inG (tin_1 _ (List.mem_of_getElem? (i := 1) rfl)) rfl, inG (tin_2 _ (List.mem_of_getElem? (i := 96) rfl)) rfl⟩, inG (tin_2 _ (List.mem_of_getElem? (i := 94) rfl)) rfl, inG (tin_2 _ (List.mem_of_getElem? (i := 95) rfl)) rfl⟩
theorem vm_mHa_isMask : VM mHa_isMask 1 := ⟨⟨⟨by decide +kernel, by decide +kernel⟩, by decide +kernel, by decide, inG (tin_1 _ (List.mem_of_getElem? (i := 2) rfl)) rfl, inG (tin_2 _ (List.mem_of_getElem? (i := 100) rfl)) rfl⟩, inG (tin_2 _ (List.mem_of_getElem? (i := 98) rfl)) rfl, inG (tin_2 _ (List.mem_of_getElem? (i := 99) rfl)) rfl⟩
theorem vm_mNi_whoIs : VM mNi_whoIs 1 := ⟨⟨⟨by decide +kernel, by decide +kernel⟩, by decide +kernel, by decide, inG (tin_1 _ (List.mem_of_getElem? (i := 5) rfl)) rfl, inG (tin_2 _ (List.mem_of_getElem? (i := 105) rfl)) rfl⟩, inG (tin_2 _ (List.mem_of_getElem? (i := 103) rfl)) rfl, inG (tin_2 _ (List.mem_of_getElem? (i := 104) rfl)) rfl⟩
theorem vm_mNi_isIn : SM mNi_isIn 1 := ⟨⟨⟨by decide +kernel, by decide +kernel⟩, by decide +kernel, by decide, inG (tin_1 _ (List.mem_of_getElem? (i := 5) rfl)) rfl, inG (tin_2 _ (List.mem_of_getElem? (i := 108) rfl)) rfl⟩, inG (tin_2 _ (List.mem_of_getElem? (i := 107) rfl)) rfl⟩
theorem vm_mNi_betMade : VM mNi_betMade 1 := ⟨⟨⟨by decide +kernel, by decide +kernel⟩, by decide +kernel, by decide, inG (tin_1 _ (List.mem_of_getElem? (i := 5) rfl)) rfl, inG (tin_2 _ (List.mem_of_getElem? (i := 112) rfl)) rfl⟩, inG (tin_2 _ (List.mem_of_getElem? (i := 110) rfl)) rfl, inG (tin_2 _ (List.mem_of_getElem? (i := 111) rfl)) rfl⟩
theorem vm_mHa_at : VM mHa_at 2 := ⟨⟨⟨by decide +kernel, by decide +kernel⟩, by decide +kernel, by decide, inG (tin_1 _ (List.mem_of_getElem? (i := 2) rfl)) rfl, inG (tin_2 _ (List.mem_of_getElem? (i := 117) rfl)) rfl⟩, inG (tin_2 _ (List.mem_of_getElem? (i := 115) rfl)) rfl, inG (tin_2 _ (List.mem_of_getElem? (i := 116) rfl)) rfl⟩
theorem vm_mB_feed : VM mB_feed 1 := ⟨⟨⟨by decide +kernel, by decide +kernel⟩, by decide +kernel, by decide, inG (tin_1 _ (List.mem_of_getElem? (i := 1) rfl)) rfl, inG (tin_2 _ (List.mem_of_getElem? (i := 121) rfl)) rfl⟩, inG (tin_2 _ (List.mem_of_getElem? (i := 119) rfl)) rfl, inG (tin_2 _ (List.mem_of_getElem? (i := 120) rfl)) rfl⟩
theorem vm_mLa_take : VM mLa_take 1 := ⟨⟨⟨by decide +kernel, by decide +kernel⟩, by decide +kernel, by decide, inG (tin_1 _ (List.mem_of_getElem? (i := 3) rfl)) rfl, inG (tin_2 _ (List.mem_of_getElem? (i := 125) rfl)) rfl⟩, inG (tin_2 _ (List.mem_of_getElem? (i := 123) rfl)) rfl, inG (tin_2 _ (List.mem_of_getElem? (i := 124) rfl)) rfl⟩
theorem vm_mB_law : VM mB_law 0 := ⟨⟨⟨by decide +kernel, by decide +kernel⟩, by decide +kernel, by decide, inG (tin_1 _ (List.mem_of_getElem? (i := 1) rfl)) rfl, inG (tin_2 _ (List.mem_of_getElem? (i := 129) rfl)) rfl⟩, inG (tin_2 _ (List.mem_of_getElem? (i := 127) rfl)) rfl, inG (tin_2 _ (List.mem_of_getElem? (i := 128) rfl)) rfl⟩
theorem vm_mLa_enact : VM mLa_enact 0 := ⟨⟨⟨by decide +kernel, by decide +kernel⟩, by decide +kernel, by decide, inG (tin_1 _ (List.mem_of_getElem? (i := 3) rfl)) rfl, inG (tin_2 _ (List.mem_of_getElem? (i := 133) rfl)) rfl⟩, inG (tin_2 _ (List.mem_of_getElem? (i := 131) rfl)) rfl, inG (tin_2 _ (List.mem_of_getElem? (i := 132) rfl)) rfl⟩
theorem vm_mLa_readText : VM mLa_readText 0 := ⟨⟨⟨by decide +kernel, by decide +kernel⟩, by decide +kernel, by decide, inG (tin_1 _ (List.mem_of_getElem? (i := 3) rfl)) rfl, inG (tin_2 _ (List.mem_of_getElem? (i := 137) rfl)) rfl⟩, inG (tin_2 _ (List.mem_of_getElem? (i := 136) rfl)) rfl, inG (tin_0 _ (List.mem_of_getElem? (i := 5) rfl)) rfl⟩
theorem vm_mLa_readLine : VM mLa_readLine 0 := ⟨⟨⟨by decide +kernel, by decide +kernel⟩, by decide +kernel, by decide, inG (tin_1 _ (List.mem_of_getElem? (i := 3) rfl)) rfl, inG (tin_2 _ (List.mem_of_getElem? (i := 141) rfl)) rfl⟩, inG (tin_2 _ (List.mem_of_getElem? (i := 140) rfl)) rfl, inG (tin_0 _ (List.mem_of_getElem? (i := 6) rfl)) rfl⟩
theorem vm_mLa_readTerm : VM mLa_readTerm 2 := ⟨⟨⟨by decide +kernel, by decide +kernel⟩, by decide +kernel, by decide, inG (tin_1 _ (List.mem_of_getElem? (i := 3) rfl)) rfl, inG (tin_2 _ (List.mem_of_getElem? (i := 145) rfl)) rfl⟩, inG (tin_2 _ (List.mem_of_getElem? (i := 144) rfl)) rfl, inG (tin_0 _ (List.mem_of_getElem? (i := 7) rfl)) rfl⟩
theorem vm_mLa_readOperand : VM mLa_readOperand 1 := ⟨⟨⟨by decide +kernel, by decide +kernel⟩, by decide +kernel, by decide, inG (tin_1 _ (List.mem_of_getElem? (i := 3) rfl)) rfl, inG (tin_2 _ (List.mem_of_getElem? (i := 149) rfl)) rfl⟩, inG (tin_2 _ (List.mem_of_getElem? (i := 148) rfl)) rfl, inG (tin_0 _ (List.mem_of_getElem? (i := 8) rfl)) rfl⟩
theorem vm_mLa_next : VM mLa_next 0 := ⟨⟨⟨by decide +kernel, by decide +kernel⟩, by decide +kernel, by decide, inG (tin_1 _ (List.mem_of_getElem? (i := 3) rfl)) rfl, inG (tin_2 _ (List.mem_of_getElem? (i := 153) rfl)) rfl⟩, inG (tin_2 _ (List.mem_of_getElem? (i := 152) rfl)) rfl, inG (tin_0 _ (List.mem_of_getElem? (i := 9) rfl)) rfl⟩
theorem vm_mLa_isDigit : SM mLa_isDigit 1 := ⟨⟨⟨by decide +kernel, by decide +kernel⟩, by decide +kernel, by decide, inG (tin_1 _ (List.mem_of_getElem? (i := 3) rfl)) rfl, inG (tin_2 _ (List.mem_of_getElem? (i := 156) rfl)) rfl⟩, inG (tin_2 _ (List.mem_of_getElem? (i := 155) rfl)) rfl⟩
theorem vm_mLa_readNumber : VM mLa_readNumber 0 := ⟨⟨⟨by decide +kernel, by decide +kernel⟩, by decide +kernel, by decide, inG (tin_1 _ (List.mem_of_getElem? (i := 3) rfl)) rfl, inG (tin_2 _ (List.mem_of_getElem? (i := 160) rfl)) rfl⟩, inG (tin_2 _ (List.mem_of_getElem? (i := 159) rfl)) rfl, inG (tin_0 _ (List.mem_of_getElem? (i := 10) rfl)) rfl⟩
theorem vm_mLa_emit : VM mLa_emit 1 := ⟨⟨⟨by decide +kernel, by decide +kernel⟩, by decide +kernel, by decide, inG (tin_1 _ (List.mem_of_getElem? (i := 3) rfl)) rfl, inG (tin_2 _ (List.mem_of_getElem? (i := 164) rfl)) rfl⟩, inG (tin_2 _ (List.mem_of_getElem? (i := 163) rfl)) rfl, inG (tin_0 _ (List.mem_of_getElem? (i := 11) rfl)) rfl⟩
theorem vm_mLa_nameOf : SM mLa_nameOf 1 := ⟨⟨⟨by decide +kernel, by decide +kernel⟩, by decide +kernel, by decide, inG (tin_1 _ (List.mem_of_getElem? (i := 3) rfl)) rfl, inG (tin_2 _ (List.mem_of_getElem? (i := 167) rfl)) rfl⟩, inG (tin_2 _ (List.mem_of_getElem? (i := 166) rfl)) rfl⟩
theorem vm_mLa_readInside : VM mLa_readInside 1 := ⟨⟨⟨by decide +kernel, by decide +kernel⟩, by decide +kernel, by decide, inG (tin_1 _ (List.mem_of_getElem? (i := 3) rfl)) rfl, inG (tin_2 _ (List.mem_of_getElem? (i := 171) rfl)) rfl⟩, inG (tin_2 _ (List.mem_of_getElem? (i := 170) rfl)) rfl, inG (tin_0 _ (List.mem_of_getElem? (i := 12) rfl)) rfl⟩
theorem vm_mLa_readSigned : VM mLa_readSigned 2 := ⟨⟨⟨by decide +kernel, by decide +kernel⟩, by decide +kernel, by decide, inG (tin_1 _ (List.mem_of_getElem? (i := 3) rfl)) rfl, inG (tin_2 _ (List.mem_of_getElem? (i := 175) rfl)) rfl⟩, inG (tin_2 _ (List.mem_of_getElem? (i := 174) rfl)) rfl, inG (tin_0 _ (List.mem_of_getElem? (i := 13) rfl)) rfl⟩
theorem vm_mLa_levelOf : SM mLa_levelOf 1 := ⟨⟨⟨by decide +kernel, by decide +kernel⟩, by decide +kernel, by decide, inG (tin_1 _ (List.mem_of_getElem? (i := 3) rfl)) rfl, inG (tin_2 _ (List.mem_of_getElem? (i := 178) rfl)) rfl⟩, inG (tin_2 _ (List.mem_of_getElem? (i := 177) rfl)) rfl⟩
theorem vm_mB_counts : VM mB_counts 2 := ⟨⟨⟨by decide +kernel, by decide +kernel⟩, by decide +kernel, by decide, inG (tin_1 _ (List.mem_of_getElem? (i := 1) rfl)) rfl, inG (tin_2 _ (List.mem_of_getElem? (i := 183) rfl)) rfl⟩, inG (tin_2 _ (List.mem_of_getElem? (i := 181) rfl)) rfl, inG (tin_2 _ (List.mem_of_getElem? (i := 182) rfl)) rfl⟩
theorem vm_mHa_isOne : VM mHa_isOne 1 := ⟨⟨⟨by decide +kernel, by decide +kernel⟩, by decide +kernel, by decide, inG (tin_1 _ (List.mem_of_getElem? (i := 2) rfl)) rfl, inG (tin_2 _ (List.mem_of_getElem? (i := 187) rfl)) rfl⟩, inG (tin_2 _ (List.mem_of_getElem? (i := 185) rfl)) rfl, inG (tin_2 _ (List.mem_of_getElem? (i := 186) rfl)) rfl⟩
theorem vm_mTh_worthOf : VM mTh_worthOf 3 := ⟨⟨⟨by decide +kernel, by decide +kernel⟩, by decide +kernel, by decide, inG (tin_1 _ (List.mem_of_getElem? (i := 4) rfl)) rfl, inG (tin_2 _ (List.mem_of_getElem? (i := 191) rfl)) rfl⟩, inG (tin_2 _ (List.mem_of_getElem? (i := 189) rfl)) rfl, inG (tin_2 _ (List.mem_of_getElem? (i := 190) rfl)) rfl⟩
theorem vm_mLa_weightOf : VM mLa_weightOf 5 := ⟨⟨⟨by decide +kernel, by decide +kernel⟩, by decide +kernel, by decide, inG (tin_1 _ (List.mem_of_getElem? (i := 3) rfl)) rfl, inG (tin_2 _ (List.mem_of_getElem? (i := 196) rfl)) rfl⟩, inG (tin_2 _ (List.mem_of_getElem? (i := 194) rfl)) rfl, inG (tin_2 _ (List.mem_of_getElem? (i := 195) rfl)) rfl⟩
theorem vm_mLa_run : VM mLa_run 0 := ⟨⟨⟨by decide +kernel, by decide +kernel⟩, by decide +kernel, by decide, inG (tin_1 _ (List.mem_of_getElem? (i := 3) rfl)) rfl, inG (tin_2 _ (List.mem_of_getElem? (i := 200) rfl)) rfl⟩, inG (tin_2 _ (List.mem_of_getElem? (i := 199) rfl)) rfl, inG (tin_0 _ (List.mem_of_getElem? (i := 14) rfl)) rfl⟩
theorem vm_mLa_pop : VM mLa_pop 0 := ⟨⟨⟨by decide +kernel, by decide +kernel⟩, by decide +kernel, by decide, inG (tin_1 _ (List.mem_of_getElem? (i := 3) rfl)) rfl, inG (tin_2 _ (List.mem_of_getElem? (i := 204) rfl)) rfl⟩, inG (tin_2 _ (List.mem_of_getElem? (i := 203) rfl)) rfl, inG (tin_0 _ (List.mem_of_getElem? (i := 15) rfl)) rfl⟩
theorem vm_mLa_step : VM mLa_step 1 := ⟨⟨⟨by decide +kernel, by decide +kernel⟩, by decide +kernel, by decide, inG (tin_1 _ (List.mem_of_getElem? (i := 3) rfl)) rfl, inG (tin_2 _ (List.mem_of_getElem? (i := 208) rfl)) rfl⟩, inG (tin_2 _ (List.mem_of_getElem? (i := 207) rfl)) rfl, inG (tin_0 _ (List.mem_of_getElem? (i := 16) rfl)) rfl⟩
theorem vm_mLa_push : VM mLa_push 1 := ⟨⟨⟨by decide +kernel, by decide +kernel⟩, by decide +kernel, by decide, inG (tin_1 _ (List.mem_of_getElem? (i := 3) rfl)) rfl, inG (tin_2 _ (List.mem_of_getElem? (i := 212) rfl)) rfl⟩, inG (tin_2 _ (List.mem_of_getElem? (i := 211) rfl)) rfl, inG (tin_0 _ (List.mem_of_getElem? (i := 17) rfl)) rfl⟩
theorem vm_mLa_joined : SM mLa_joined 3 := ⟨⟨⟨by decide +kernel, by decide +kernel⟩, by decide +kernel, by decide, inG (tin_1 _ (List.mem_of_getElem? (i := 3) rfl)) rfl, inG (tin_2 _ (List.mem_of_getElem? (i := 215) rfl)) rfl⟩, inG (tin_2 _ (List.mem_of_getElem? (i := 214) rfl)) rfl⟩
theorem vm_mJM_min_III : SM mJM_min_III 2 := ⟨⟨⟨by decide +kernel, by decide +kernel⟩, by decide +kernel, by decide, inG (tin_1 _ (List.mem_of_getElem? (i := 11) rfl)) rfl, inG (tin_2 _ (List.mem_of_getElem? (i := 218) rfl)) rfl⟩, inG (tin_2 _ (List.mem_of_getElem? (i := 217) rfl)) rfl⟩
theorem vm_mJM_max_III : SM mJM_max_III 2 := ⟨⟨⟨by decide +kernel, by decide +kernel⟩, by decide +kernel, by decide, inG (tin_1 _ (List.mem_of_getElem? (i := 11) rfl)) rfl, inG (tin_2 _ (List.mem_of_getElem? (i := 221) rfl)) rfl⟩, inG (tin_2 _ (List.mem_of_getElem? (i := 220) rfl)) rfl⟩
theorem vm_mB_ways : VM mB_ways 1 := ⟨⟨⟨by decide +kernel, by decide +kernel⟩, by decide +kernel, by decide, inG (tin_1 _ (List.mem_of_getElem? (i := 1) rfl)) rfl, inG (tin_2 _ (List.mem_of_getElem? (i := 225) rfl)) rfl⟩, inG (tin_2 _ (List.mem_of_getElem? (i := 223) rfl)) rfl, inG (tin_2 _ (List.mem_of_getElem? (i := 224) rfl)) rfl⟩
theorem vm_mB_isBit : SM mB_isBit 1 := ⟨⟨⟨by decide +kernel, by decide +kernel⟩, by decide +kernel, by decide, inG (tin_1 _ (List.mem_of_getElem? (i := 1) rfl)) rfl, inG (tin_2 _ (List.mem_of_getElem? (i := 228) rfl)) rfl⟩, inG (tin_2 _ (List.mem_of_getElem? (i := 227) rfl)) rfl⟩
theorem vm_mTh_load : VM mTh_load 0 := ⟨⟨⟨by decide +kernel, by decide +kernel⟩, by decide +kernel, by decide, inG (tin_1 _ (List.mem_of_getElem? (i := 4) rfl)) rfl, inG (tin_2 _ (List.mem_of_getElem? (i := 233) rfl)) rfl⟩, inG (tin_2 _ (List.mem_of_getElem? (i := 231) rfl)) rfl, inG (tin_2 _ (List.mem_of_getElem? (i := 232) rfl)) rfl⟩
theorem vm_mTh_weigh : VM mTh_weigh 3 := ⟨⟨⟨by decide +kernel, by decide +kernel⟩, by decide +kernel, by decide, inG (tin_1 _ (List.mem_of_getElem? (i := 4) rfl)) rfl, inG (tin_2 _ (List.mem_of_getElem? (i := 239) rfl)) rfl⟩, inG (tin_2 _ (List.mem_of_getElem? (i := 237) rfl)) rfl, inG (tin_2 _ (List.mem_of_getElem? (i := 238) rfl)) rfl⟩
theorem vm_mTh_number : VM mTh_number 0 := ⟨⟨⟨by decide +kernel, by decide +kernel⟩, by decide +kernel, by decide, inG (tin_1 _ (List.mem_of_getElem? (i := 4) rfl)) rfl, inG (tin_3 _ (List.mem_of_getElem? (i := 3) rfl)) rfl⟩, inG (tin_3 _ (List.mem_of_getElem? (i := 1) rfl)) rfl, inG (tin_3 _ (List.mem_of_getElem? (i := 2) rfl)) rfl⟩
theorem vm_mTh_price : VM mTh_price 1 := ⟨⟨⟨by decide +kernel, by decide +kernel⟩, by decide +kernel, by decide, inG (tin_1 _ (List.mem_of_getElem? (i := 4) rfl)) rfl, inG (tin_3 _ (List.mem_of_getElem? (i := 7) rfl)) rfl⟩, inG (tin_3 _ (List.mem_of_getElem? (i := 6) rfl)) rfl, inG (tin_0 _ (List.mem_of_getElem? (i := 18) rfl)) rfl⟩
theorem vm_mTh_mayBe : VM mTh_mayBe 2 := ⟨⟨⟨by decide +kernel, by decide +kernel⟩, by decide +kernel, by decide, inG (tin_1 _ (List.mem_of_getElem? (i := 4) rfl)) rfl, inG (tin_3 _ (List.mem_of_getElem? (i := 11) rfl)) rfl⟩, inG (tin_3 _ (List.mem_of_getElem? (i := 10) rfl)) rfl, inG (tin_0 _ (List.mem_of_getElem? (i := 19) rfl)) rfl⟩
theorem vm_mTh_weightOf : VM mTh_weightOf 2 := ⟨⟨⟨by decide +kernel, by decide +kernel⟩, by decide +kernel, by decide, inG (tin_1 _ (List.mem_of_getElem? (i := 4) rfl)) rfl, inG (tin_3 _ (List.mem_of_getElem? (i := 15) rfl)) rfl⟩, inG (tin_3 _ (List.mem_of_getElem? (i := 14) rfl)) rfl, inG (tin_0 _ (List.mem_of_getElem? (i := 20) rfl)) rfl⟩
theorem vm_mJM_min_JJJ : SM mJM_min_JJJ 2 := ⟨⟨⟨by decide +kernel, by decide +kernel⟩, by decide +kernel, by decide, inG (tin_1 _ (List.mem_of_getElem? (i := 11) rfl)) rfl, inG (tin_3 _ (List.mem_of_getElem? (i := 18) rfl)) rfl⟩, inG (tin_3 _ (List.mem_of_getElem? (i := 17) rfl)) rfl⟩
theorem vm_mTh_reckon : VM mTh_reckon 1 := ⟨⟨⟨by decide +kernel, by decide +kernel⟩, by decide +kernel, by decide, inG (tin_1 _ (List.mem_of_getElem? (i := 4) rfl)) rfl, inG (tin_3 _ (List.mem_of_getElem? (i := 22) rfl)) rfl⟩, inG (tin_3 _ (List.mem_of_getElem? (i := 21) rfl)) rfl, inG (tin_0 _ (List.mem_of_getElem? (i := 21) rfl)) rfl⟩
theorem vm_mHa_persons : VM mHa_persons 0 := ⟨⟨⟨by decide +kernel, by decide +kernel⟩, by decide +kernel, by decide, inG (tin_1 _ (List.mem_of_getElem? (i := 2) rfl)) rfl, inG (tin_3 _ (List.mem_of_getElem? (i := 26) rfl)) rfl⟩, inG (tin_3 _ (List.mem_of_getElem? (i := 24) rfl)) rfl, inG (tin_3 _ (List.mem_of_getElem? (i := 25) rfl)) rfl⟩
theorem vm_mHa_masks : VM mHa_masks 0 := ⟨⟨⟨by decide +kernel, by decide +kernel⟩, by decide +kernel, by decide, inG (tin_1 _ (List.mem_of_getElem? (i := 2) rfl)) rfl, inG (tin_3 _ (List.mem_of_getElem? (i := 31) rfl)) rfl⟩, inG (tin_3 _ (List.mem_of_getElem? (i := 29) rfl)) rfl, inG (tin_3 _ (List.mem_of_getElem? (i := 30) rfl)) rfl⟩
theorem vm_mTh_restOf : VM mTh_restOf 4 := ⟨⟨⟨by decide +kernel, by decide +kernel⟩, by decide +kernel, by decide, inG (tin_1 _ (List.mem_of_getElem? (i := 4) rfl)) rfl, inG (tin_3 _ (List.mem_of_getElem? (i := 35) rfl)) rfl⟩, inG (tin_3 _ (List.mem_of_getElem? (i := 34) rfl)) rfl, inG (tin_0 _ (List.mem_of_getElem? (i := 22) rfl)) rfl⟩
theorem vm_mJI_bitCount : SM mJI_bitCount 1 := ⟨⟨⟨by decide +kernel, by decide +kernel⟩, by decide +kernel, by decide, inG (tin_1 _ (List.mem_of_getElem? (i := 12) rfl)) rfl, inG (tin_3 _ (List.mem_of_getElem? (i := 38) rfl)) rfl⟩, inG (tin_3 _ (List.mem_of_getElem? (i := 37) rfl)) rfl⟩
theorem vm_mTh_withOne : VM mTh_withOne 3 := ⟨⟨⟨by decide +kernel, by decide +kernel⟩, by decide +kernel, by decide, inG (tin_1 _ (List.mem_of_getElem? (i := 4) rfl)) rfl, inG (tin_3 _ (List.mem_of_getElem? (i := 45) rfl)) rfl⟩, inG (tin_3 _ (List.mem_of_getElem? (i := 44) rfl)) rfl, inG (tin_0 _ (List.mem_of_getElem? (i := 23) rfl)) rfl⟩
theorem vm_mJM_max_JJJ : SM mJM_max_JJJ 2 := ⟨⟨⟨by decide +kernel, by decide +kernel⟩, by decide +kernel, by decide, inG (tin_1 _ (List.mem_of_getElem? (i := 11) rfl)) rfl, inG (tin_3 _ (List.mem_of_getElem? (i := 48) rfl)) rfl⟩, inG (tin_3 _ (List.mem_of_getElem? (i := 47) rfl)) rfl⟩
theorem vm_mTh_together : VM mTh_together 0 := ⟨⟨⟨by decide +kernel, by decide +kernel⟩, by decide +kernel, by decide, inG (tin_1 _ (List.mem_of_getElem? (i := 4) rfl)) rfl, inG (tin_3 _ (List.mem_of_getElem? (i := 52) rfl)) rfl⟩, inG (tin_3 _ (List.mem_of_getElem? (i := 50) rfl)) rfl, inG (tin_3 _ (List.mem_of_getElem? (i := 51) rfl)) rfl⟩
theorem vm_mB_likely : VM mB_likely 3 := ⟨⟨⟨by decide +kernel, by decide +kernel⟩, by decide +kernel, by decide, inG (tin_1 _ (List.mem_of_getElem? (i := 1) rfl)) rfl, inG (tin_3 _ (List.mem_of_getElem? (i := 56) rfl)) rfl⟩, inG (tin_3 _ (List.mem_of_getElem? (i := 54) rfl)) rfl, inG (tin_3 _ (List.mem_of_getElem? (i := 55) rfl)) rfl⟩
theorem vm_mTh_togetherIf : VM mTh_togetherIf 2 := ⟨⟨⟨by decide +kernel, by decide +kernel⟩, by decide +kernel, by decide, inG (tin_1 _ (List.mem_of_getElem? (i := 4) rfl)) rfl, inG (tin_3 _ (List.mem_of_getElem? (i := 60) rfl)) rfl⟩, inG (tin_3 _ (List.mem_of_getElem? (i := 58) rfl)) rfl, inG (tin_3 _ (List.mem_of_getElem? (i := 59) rfl)) rfl⟩
theorem vm_mTh_narrowed : VM mTh_narrowed 3 := ⟨⟨⟨by decide +kernel, by decide +kernel⟩, by decide +kernel, by decide, inG (tin_1 _ (List.mem_of_getElem? (i := 4) rfl)) rfl, inG (tin_3 _ (List.mem_of_getElem? (i := 64) rfl)) rfl⟩, inG (tin_3 _ (List.mem_of_getElem? (i := 63) rfl)) rfl, inG (tin_0 _ (List.mem_of_getElem? (i := 24) rfl)) rfl⟩
theorem vm_mB_commonDivisor : SM mB_commonDivisor 2 := ⟨⟨⟨by decide +kernel, by decide +kernel⟩, by decide +kernel, by decide, inG (tin_1 _ (List.mem_of_getElem? (i := 1) rfl)) rfl, inG (tin_3 _ (List.mem_of_getElem? (i := 67) rfl)) rfl⟩, inG (tin_3 _ (List.mem_of_getElem? (i := 66) rfl)) rfl⟩
theorem vm_mB_best : VM mB_best 1 := ⟨⟨⟨by decide +kernel, by decide +kernel⟩, by decide +kernel, by decide, inG (tin_1 _ (List.mem_of_getElem? (i := 1) rfl)) rfl, inG (tin_3 _ (List.mem_of_getElem? (i := 72) rfl)) rfl⟩, inG (tin_3 _ (List.mem_of_getElem? (i := 70) rfl)) rfl, inG (tin_3 _ (List.mem_of_getElem? (i := 71) rfl)) rfl⟩
theorem vm_mTh_bestWay : VM mTh_bestWay 0 := ⟨⟨⟨by decide +kernel, by decide +kernel⟩, by decide +kernel, by decide, inG (tin_1 _ (List.mem_of_getElem? (i := 4) rfl)) rfl, inG (tin_3 _ (List.mem_of_getElem? (i := 76) rfl)) rfl⟩, inG (tin_3 _ (List.mem_of_getElem? (i := 74) rfl)) rfl, inG (tin_3 _ (List.mem_of_getElem? (i := 75) rfl)) rfl⟩
theorem vm_mTh_staysGreatest : VM mTh_staysGreatest 3 := ⟨⟨⟨by decide +kernel, by decide +kernel⟩, by decide +kernel, by decide, inG (tin_1 _ (List.mem_of_getElem? (i := 4) rfl)) rfl, inG (tin_3 _ (List.mem_of_getElem? (i := 80) rfl)) rfl⟩, inG (tin_3 _ (List.mem_of_getElem? (i := 79) rfl)) rfl, inG (tin_0 _ (List.mem_of_getElem? (i := 25) rfl)) rfl⟩
theorem vm_mTh_usedWith : SM mTh_usedWith 2 := ⟨⟨⟨by decide +kernel, by decide +kernel⟩, by decide +kernel, by decide, inG (tin_1 _ (List.mem_of_getElem? (i := 4) rfl)) rfl, inG (tin_3 _ (List.mem_of_getElem? (i := 83) rfl)) rfl⟩, inG (tin_3 _ (List.mem_of_getElem? (i := 82) rfl)) rfl⟩
theorem vm_mTh_inWay : VM mTh_inWay 1 := ⟨⟨⟨by decide +kernel, by decide +kernel⟩, by decide +kernel, by decide, inG (tin_1 _ (List.mem_of_getElem? (i := 4) rfl)) rfl, inG (tin_3 _ (List.mem_of_getElem? (i := 88) rfl)) rfl⟩, inG (tin_3 _ (List.mem_of_getElem? (i := 86) rfl)) rfl, inG (tin_3 _ (List.mem_of_getElem? (i := 87) rfl)) rfl⟩
theorem vm_mB_sure : VM mB_sure 1 := ⟨⟨⟨by decide +kernel, by decide +kernel⟩, by decide +kernel, by decide, inG (tin_1 _ (List.mem_of_getElem? (i := 1) rfl)) rfl, inG (tin_3 _ (List.mem_of_getElem? (i := 92) rfl)) rfl⟩, inG (tin_3 _ (List.mem_of_getElem? (i := 90) rfl)) rfl, inG (tin_3 _ (List.mem_of_getElem? (i := 91) rfl)) rfl⟩
theorem vm_mTh_sureMasks : VM mTh_sureMasks 0 := ⟨⟨⟨by decide +kernel, by decide +kernel⟩, by decide +kernel, by decide, inG (tin_1 _ (List.mem_of_getElem? (i := 4) rfl)) rfl, inG (tin_3 _ (List.mem_of_getElem? (i := 96) rfl)) rfl⟩, inG (tin_3 _ (List.mem_of_getElem? (i := 94) rfl)) rfl, inG (tin_3 _ (List.mem_of_getElem? (i := 95) rfl)) rfl⟩
theorem vm_mTh_numberIf : VM mTh_numberIf 2 := ⟨⟨⟨by decide +kernel, by decide +kernel⟩, by decide +kernel, by decide, inG (tin_1 _ (List.mem_of_getElem? (i := 4) rfl)) rfl, inG (tin_3 _ (List.mem_of_getElem? (i := 101) rfl)) rfl⟩, inG (tin_3 _ (List.mem_of_getElem? (i := 99) rfl)) rfl, inG (tin_3 _ (List.mem_of_getElem? (i := 100) rfl)) rfl⟩
theorem vm_mTh_outOnes : VM mTh_outOnes 0 := ⟨⟨⟨by decide +kernel, by decide +kernel⟩, by decide +kernel, by decide, inG (tin_1 _ (List.mem_of_getElem? (i := 4) rfl)) rfl, inG (tin_3 _ (List.mem_of_getElem? (i := 105) rfl)) rfl⟩, inG (tin_3 _ (List.mem_of_getElem? (i := 103) rfl)) rfl, inG (tin_3 _ (List.mem_of_getElem? (i := 104) rfl)) rfl⟩
theorem vm_mTh_isOut : VM mTh_isOut 1 := ⟨⟨⟨by decide +kernel, by decide +kernel⟩, by decide +kernel, by decide, inG (tin_1 _ (List.mem_of_getElem? (i := 4) rfl)) rfl, inG (tin_3 _ (List.mem_of_getElem? (i := 109) rfl)) rfl⟩, inG (tin_3 _ (List.mem_of_getElem? (i := 108) rfl)) rfl, inG (tin_0 _ (List.mem_of_getElem? (i := 26) rfl)) rfl⟩
theorem vm_mB_look : VM mB_look 1 := ⟨⟨⟨by decide +kernel, by decide +kernel⟩, by decide +kernel, by decide, inG (tin_1 _ (List.mem_of_getElem? (i := 1) rfl)) rfl, inG (tin_3 _ (List.mem_of_getElem? (i := 113) rfl)) rfl⟩, inG (tin_3 _ (List.mem_of_getElem? (i := 111) rfl)) rfl, inG (tin_3 _ (List.mem_of_getElem? (i := 112) rfl)) rfl⟩
theorem vm_mTh_mostLeft : VM mTh_mostLeft 2 := ⟨⟨⟨by decide +kernel, by decide +kernel⟩, by decide +kernel, by decide, inG (tin_1 _ (List.mem_of_getElem? (i := 4) rfl)) rfl, inG (tin_3 _ (List.mem_of_getElem? (i := 118) rfl)) rfl⟩, inG (tin_3 _ (List.mem_of_getElem? (i := 116) rfl)) rfl, inG (tin_3 _ (List.mem_of_getElem? (i := 117) rfl)) rfl⟩
theorem vm_mB_question : VM mB_question 3 := ⟨⟨⟨by decide +kernel, by decide +kernel⟩, by decide +kernel, by decide, inG (tin_1 _ (List.mem_of_getElem? (i := 1) rfl)) rfl, inG (tin_3 _ (List.mem_of_getElem? (i := 122) rfl)) rfl⟩, inG (tin_3 _ (List.mem_of_getElem? (i := 120) rfl)) rfl, inG (tin_3 _ (List.mem_of_getElem? (i := 121) rfl)) rfl⟩
theorem vm_mB_whom : VM mB_whom 1 := ⟨⟨⟨by decide +kernel, by decide +kernel⟩, by decide +kernel, by decide, inG (tin_1 _ (List.mem_of_getElem? (i := 1) rfl)) rfl, inG (tin_3 _ (List.mem_of_getElem? (i := 127) rfl)) rfl⟩, inG (tin_3 _ (List.mem_of_getElem? (i := 125) rfl)) rfl, inG (tin_3 _ (List.mem_of_getElem? (i := 126) rfl)) rfl⟩
theorem vm_mB_guess : VM mB_guess 3 := ⟨⟨⟨by decide +kernel, by decide +kernel⟩, by decide +kernel, by decide, inG (tin_1 _ (List.mem_of_getElem? (i := 1) rfl)) rfl, inG (tin_3 _ (List.mem_of_getElem? (i := 131) rfl)) rfl⟩, inG (tin_3 _ (List.mem_of_getElem? (i := 129) rfl)) rfl, inG (tin_3 _ (List.mem_of_getElem? (i := 130) rfl)) rfl⟩
theorem vm_mB_isMinute : SM mB_isMinute 1 := ⟨⟨⟨by decide +kernel, by decide +kernel⟩, by decide +kernel, by decide, inG (tin_1 _ (List.mem_of_getElem? (i := 1) rfl)) rfl, inG (tin_3 _ (List.mem_of_getElem? (i := 134) rfl)) rfl⟩, inG (tin_3 _ (List.mem_of_getElem? (i := 133) rfl)) rfl⟩
theorem vm_mTh_likeliest : VM mTh_likeliest 1 := ⟨⟨⟨by decide +kernel, by decide +kernel⟩, by decide +kernel, by decide, inG (tin_1 _ (List.mem_of_getElem? (i := 4) rfl)) rfl, inG (tin_3 _ (List.mem_of_getElem? (i := 138) rfl)) rfl⟩, inG (tin_3 _ (List.mem_of_getElem? (i := 136) rfl)) rfl, inG (tin_3 _ (List.mem_of_getElem? (i := 137) rfl)) rfl⟩
theorem vm_mHa_pointsAt : VM mHa_pointsAt 1 := ⟨⟨⟨by decide +kernel, by decide +kernel⟩, by decide +kernel, by decide, inG (tin_1 _ (List.mem_of_getElem? (i := 2) rfl)) rfl, inG (tin_3 _ (List.mem_of_getElem? (i := 143) rfl)) rfl⟩, inG (tin_3 _ (List.mem_of_getElem? (i := 141) rfl)) rfl, inG (tin_3 _ (List.mem_of_getElem? (i := 142) rfl)) rfl⟩
theorem vm_mTh_worthOfGuess : VM mTh_worthOfGuess 2 := ⟨⟨⟨by decide +kernel, by decide +kernel⟩, by decide +kernel, by decide, inG (tin_1 _ (List.mem_of_getElem? (i := 4) rfl)) rfl, inG (tin_3 _ (List.mem_of_getElem? (i := 148) rfl)) rfl⟩, inG (tin_3 _ (List.mem_of_getElem? (i := 146) rfl)) rfl, inG (tin_3 _ (List.mem_of_getElem? (i := 147) rfl)) rfl⟩
theorem vm_mTh_cut : SM mTh_cut 3 := ⟨⟨⟨by decide +kernel, by decide +kernel⟩, by decide +kernel, by decide, inG (tin_1 _ (List.mem_of_getElem? (i := 4) rfl)) rfl, inG (tin_3 _ (List.mem_of_getElem? (i := 153) rfl)) rfl⟩, inG (tin_3 _ (List.mem_of_getElem? (i := 152) rfl)) rfl⟩
theorem vm_mB_lacks : VM mB_lacks 2 := ⟨⟨⟨by decide +kernel, by decide +kernel⟩, by decide +kernel, by decide, inG (tin_1 _ (List.mem_of_getElem? (i := 1) rfl)) rfl, inG (tin_3 _ (List.mem_of_getElem? (i := 158) rfl)) rfl⟩, inG (tin_3 _ (List.mem_of_getElem? (i := 156) rfl)) rfl, inG (tin_3 _ (List.mem_of_getElem? (i := 157) rfl)) rfl⟩
theorem vm_mTh_thousandths : VM mTh_thousandths 2 := ⟨⟨⟨by decide +kernel, by decide +kernel⟩, by decide +kernel, by decide, inG (tin_1 _ (List.mem_of_getElem? (i := 4) rfl)) rfl, inG (tin_3 _ (List.mem_of_getElem? (i := 162) rfl)) rfl⟩, inG (tin_3 _ (List.mem_of_getElem? (i := 160) rfl)) rfl, inG (tin_3 _ (List.mem_of_getElem? (i := 161) rfl)) rfl⟩
theorem vm_mB_parts : VM mB_parts 1 := ⟨⟨⟨by decide +kernel, by decide +kernel⟩, by decide +kernel, by decide, inG (tin_1 _ (List.mem_of_getElem? (i := 1) rfl)) rfl, inG (tin_3 _ (List.mem_of_getElem? (i := 167) rfl)) rfl⟩, inG (tin_3 _ (List.mem_of_getElem? (i := 165) rfl)) rfl, inG (tin_3 _ (List.mem_of_getElem? (i := 166) rfl)) rfl⟩
theorem vm_mHa_twins : VM mHa_twins 0 := ⟨⟨⟨by decide +kernel, by decide +kernel⟩, by decide +kernel, by decide, inG (tin_1 _ (List.mem_of_getElem? (i := 2) rfl)) rfl, inG (tin_3 _ (List.mem_of_getElem? (i := 171) rfl)) rfl⟩, inG (tin_3 _ (List.mem_of_getElem? (i := 169) rfl)) rfl, inG (tin_3 _ (List.mem_of_getElem? (i := 170) rfl)) rfl⟩
theorem vm_mHa_alike : VM mHa_alike 3 := ⟨⟨⟨by decide +kernel, by decide +kernel⟩, by decide +kernel, by decide, inG (tin_1 _ (List.mem_of_getElem? (i := 2) rfl)) rfl, inG (tin_3 _ (List.mem_of_getElem? (i := 175) rfl)) rfl⟩, inG (tin_3 _ (List.mem_of_getElem? (i := 174) rfl)) rfl, inG (tin_0 _ (List.mem_of_getElem? (i := 27) rfl)) rfl⟩
theorem vm_mHa_partedBy : VM mHa_partedBy 1 := ⟨⟨⟨by decide +kernel, by decide +kernel⟩, by decide +kernel, by decide, inG (tin_1 _ (List.mem_of_getElem? (i := 2) rfl)) rfl, inG (tin_3 _ (List.mem_of_getElem? (i := 180) rfl)) rfl⟩, inG (tin_3 _ (List.mem_of_getElem? (i := 178) rfl)) rfl, inG (tin_3 _ (List.mem_of_getElem? (i := 179) rfl)) rfl⟩
theorem vm_mB_truth : VM mB_truth 2 := ⟨⟨⟨by decide +kernel, by decide +kernel⟩, by decide +kernel, by decide, inG (tin_1 _ (List.mem_of_getElem? (i := 1) rfl)) rfl, inG (tin_3 _ (List.mem_of_getElem? (i := 184) rfl)) rfl⟩, inG (tin_3 _ (List.mem_of_getElem? (i := 182) rfl)) rfl, inG (tin_3 _ (List.mem_of_getElem? (i := 183) rfl)) rfl⟩
theorem vm_mB_bytesFault : VM mB_bytesFault 1 := ⟨⟨⟨by decide +kernel, by decide +kernel⟩, by decide +kernel, by decide, inG (tin_1 _ (List.mem_of_getElem? (i := 1) rfl)) rfl, inG (tin_3 _ (List.mem_of_getElem? (i := 188) rfl)) rfl⟩, inG (tin_3 _ (List.mem_of_getElem? (i := 187) rfl)) rfl, inG (tin_0 _ (List.mem_of_getElem? (i := 28) rfl)) rfl⟩
theorem vm_mTh_readTruth : VM mTh_readTruth 1 := ⟨⟨⟨by decide +kernel, by decide +kernel⟩, by decide +kernel, by decide, inG (tin_1 _ (List.mem_of_getElem? (i := 4) rfl)) rfl, inG (tin_3 _ (List.mem_of_getElem? (i := 192) rfl)) rfl⟩, inG (tin_3 _ (List.mem_of_getElem? (i := 190) rfl)) rfl, inG (tin_3 _ (List.mem_of_getElem? (i := 191) rfl)) rfl⟩
theorem vm_mTh_countOfWay : VM mTh_countOfWay 0 := ⟨⟨⟨by decide +kernel, by decide +kernel⟩, by decide +kernel, by decide, inG (tin_1 _ (List.mem_of_getElem? (i := 4) rfl)) rfl, inG (tin_3 _ (List.mem_of_getElem? (i := 198) rfl)) rfl⟩, inG (tin_3 _ (List.mem_of_getElem? (i := 196) rfl)) rfl, inG (tin_3 _ (List.mem_of_getElem? (i := 197) rfl)) rfl⟩
theorem vm_mTh_foundOut : VM mTh_foundOut 0 := ⟨⟨⟨by decide +kernel, by decide +kernel⟩, by decide +kernel, by decide, inG (tin_1 _ (List.mem_of_getElem? (i := 4) rfl)) rfl, inG (tin_3 _ (List.mem_of_getElem? (i := 203) rfl)) rfl⟩, inG (tin_3 _ (List.mem_of_getElem? (i := 201) rfl)) rfl, inG (tin_3 _ (List.mem_of_getElem? (i := 202) rfl)) rfl⟩
theorem vm_mB_feign : VM mB_feign 3 := ⟨⟨⟨by decide +kernel, by decide +kernel⟩, by decide +kernel, by decide, inG (tin_1 _ (List.mem_of_getElem? (i := 1) rfl)) rfl, inG (tin_3 _ (List.mem_of_getElem? (i := 208) rfl)) rfl⟩, inG (tin_3 _ (List.mem_of_getElem? (i := 206) rfl)) rfl, inG (tin_3 _ (List.mem_of_getElem? (i := 207) rfl)) rfl⟩
theorem vm_mB_truthFault : VM mB_truthFault 1 := ⟨⟨⟨by decide +kernel, by decide +kernel⟩, by decide +kernel, by decide, inG (tin_1 _ (List.mem_of_getElem? (i := 1) rfl)) rfl, inG (tin_3 _ (List.mem_of_getElem? (i := 213) rfl)) rfl⟩, inG (tin_3 _ (List.mem_of_getElem? (i := 212) rfl)) rfl, inG (tin_0 _ (List.mem_of_getElem? (i := 29) rfl)) rfl⟩
theorem vm_mTh_maskInWay : VM mTh_maskInWay 1 := ⟨⟨⟨by decide +kernel, by decide +kernel⟩, by decide +kernel, by decide, inG (tin_1 _ (List.mem_of_getElem? (i := 4) rfl)) rfl, inG (tin_3 _ (List.mem_of_getElem? (i := 217) rfl)) rfl⟩, inG (tin_3 _ (List.mem_of_getElem? (i := 215) rfl)) rfl, inG (tin_3 _ (List.mem_of_getElem? (i := 216) rfl)) rfl⟩
theorem vm_mB_change : VM mB_change 1 := ⟨⟨⟨by decide +kernel, by decide +kernel⟩, by decide +kernel, by decide, inG (tin_1 _ (List.mem_of_getElem? (i := 1) rfl)) rfl, inG (tin_3 _ (List.mem_of_getElem? (i := 222) rfl)) rfl⟩, inG (tin_3 _ (List.mem_of_getElem? (i := 220) rfl)) rfl, inG (tin_3 _ (List.mem_of_getElem? (i := 221) rfl)) rfl⟩
theorem vm_mTh_exchange : VM mTh_exchange 2 := ⟨⟨⟨by decide +kernel, by decide +kernel⟩, by decide +kernel, by decide, inG (tin_1 _ (List.mem_of_getElem? (i := 4) rfl)) rfl, inG (tin_3 _ (List.mem_of_getElem? (i := 226) rfl)) rfl⟩, inG (tin_3 _ (List.mem_of_getElem? (i := 224) rfl)) rfl, inG (tin_3 _ (List.mem_of_getElem? (i := 225) rfl)) rfl⟩
theorem vm_mB_right : VM mB_right 1 := ⟨⟨⟨by decide +kernel, by decide +kernel⟩, by decide +kernel, by decide, inG (tin_1 _ (List.mem_of_getElem? (i := 1) rfl)) rfl, inG (tin_3 _ (List.mem_of_getElem? (i := 230) rfl)) rfl⟩, inG (tin_3 _ (List.mem_of_getElem? (i := 228) rfl)) rfl, inG (tin_3 _ (List.mem_of_getElem? (i := 229) rfl)) rfl⟩
theorem vm_mB_cardsOn : VM mB_cardsOn 1 := ⟨⟨⟨by decide +kernel, by decide +kernel⟩, by decide +kernel, by decide, inG (tin_1 _ (List.mem_of_getElem? (i := 1) rfl)) rfl, inG (tin_3 _ (List.mem_of_getElem? (i := 234) rfl)) rfl⟩, inG (tin_3 _ (List.mem_of_getElem? (i := 233) rfl)) rfl, inG (tin_0 _ (List.mem_of_getElem? (i := 30) rfl)) rfl⟩
theorem vm_mB_cards : VM mB_cards 2 := ⟨⟨⟨by decide +kernel, by decide +kernel⟩, by decide +kernel, by decide, inG (tin_1 _ (List.mem_of_getElem? (i := 1) rfl)) rfl, inG (tin_3 _ (List.mem_of_getElem? (i := 238) rfl)) rfl⟩, inG (tin_3 _ (List.mem_of_getElem? (i := 236) rfl)) rfl, inG (tin_3 _ (List.mem_of_getElem? (i := 237) rfl)) rfl⟩
theorem vm_mTh_mostRight : VM mTh_mostRight 2 := ⟨⟨⟨by decide +kernel, by decide +kernel⟩, by decide +kernel, by decide, inG (tin_1 _ (List.mem_of_getElem? (i := 4) rfl)) rfl, inG (tin_4 _ (List.mem_of_getElem? (i := 2) rfl)) rfl⟩, inG (tin_4 _ (List.mem_of_getElem? (i := 0) rfl)) rfl, inG (tin_4 _ (List.mem_of_getElem? (i := 1) rfl)) rfl⟩
theorem vm_mJL_bitCount : SM mJL_bitCount 1 := ⟨⟨⟨by decide +kernel, by decide +kernel⟩, by decide +kernel, by decide, inG (tin_1 _ (List.mem_of_getElem? (i := 13) rfl)) rfl, inG (tin_4 _ (List.mem_of_getElem? (i := 7) rfl)) rfl⟩, inG (tin_4 _ (List.mem_of_getElem? (i := 6) rfl)) rfl⟩
theorem vm_mTh_mayBeRight : VM mTh_mayBeRight 2 := ⟨⟨⟨by decide +kernel, by decide +kernel⟩, by decide +kernel, by decide, inG (tin_1 _ (List.mem_of_getElem? (i := 4) rfl)) rfl, inG (tin_4 _ (List.mem_of_getElem? (i := 15) rfl)) rfl⟩, inG (tin_4 _ (List.mem_of_getElem? (i := 13) rfl)) rfl, inG (tin_4 _ (List.mem_of_getElem? (i := 14) rfl)) rfl⟩
theorem vm_mB_dances : VM mB_dances 2 := ⟨⟨⟨by decide +kernel, by decide +kernel⟩, by decide +kernel, by decide, inG (tin_1 _ (List.mem_of_getElem? (i := 1) rfl)) rfl, inG (tin_4 _ (List.mem_of_getElem? (i := 19) rfl)) rfl⟩, inG (tin_4 _ (List.mem_of_getElem? (i := 17) rfl)) rfl, inG (tin_4 _ (List.mem_of_getElem? (i := 18) rfl)) rfl⟩
theorem vm_mB_readFloor : VM mB_readFloor 1 := ⟨⟨⟨by decide +kernel, by decide +kernel⟩, by decide +kernel, by decide, inG (tin_1 _ (List.mem_of_getElem? (i := 1) rfl)) rfl, inG (tin_4 _ (List.mem_of_getElem? (i := 23) rfl)) rfl⟩, inG (tin_4 _ (List.mem_of_getElem? (i := 22) rfl)) rfl, inG (tin_0 _ (List.mem_of_getElem? (i := 31) rfl)) rfl⟩
theorem vm_mFl_read : VM mFl_read 2 := ⟨⟨⟨by decide +kernel, by decide +kernel⟩, by decide +kernel, by decide, inG (tin_1 _ (List.mem_of_getElem? (i := 6) rfl)) rfl, inG (tin_4 _ (List.mem_of_getElem? (i := 27) rfl)) rfl⟩, inG (tin_4 _ (List.mem_of_getElem? (i := 25) rfl)) rfl, inG (tin_4 _ (List.mem_of_getElem? (i := 26) rfl)) rfl⟩
theorem vm_mFl_join : VM mFl_join 2 := ⟨⟨⟨by decide +kernel, by decide +kernel⟩, by decide +kernel, by decide, inG (tin_1 _ (List.mem_of_getElem? (i := 6) rfl)) rfl, inG (tin_4 _ (List.mem_of_getElem? (i := 34) rfl)) rfl⟩, inG (tin_4 _ (List.mem_of_getElem? (i := 33) rfl)) rfl, inG (tin_0 _ (List.mem_of_getElem? (i := 32) rfl)) rfl⟩
theorem vm_mFl_isOn : VM mFl_isOn 1 := ⟨⟨⟨by decide +kernel, by decide +kernel⟩, by decide +kernel, by decide, inG (tin_1 _ (List.mem_of_getElem? (i := 6) rfl)) rfl, inG (tin_4 _ (List.mem_of_getElem? (i := 38) rfl)) rfl⟩, inG (tin_4 _ (List.mem_of_getElem? (i := 37) rfl)) rfl, inG (tin_0 _ (List.mem_of_getElem? (i := 33) rfl)) rfl⟩
theorem vm_mFl_all : VM mFl_all 0 := ⟨⟨⟨by decide +kernel, by decide +kernel⟩, by decide +kernel, by decide, inG (tin_1 _ (List.mem_of_getElem? (i := 6) rfl)) rfl, inG (tin_4 _ (List.mem_of_getElem? (i := 43) rfl)) rfl⟩, inG (tin_4 _ (List.mem_of_getElem? (i := 41) rfl)) rfl, inG (tin_4 _ (List.mem_of_getElem? (i := 42) rfl)) rfl⟩
theorem vm_mB_avoid : VM mB_avoid 2 := ⟨⟨⟨by decide +kernel, by decide +kernel⟩, by decide +kernel, by decide, inG (tin_1 _ (List.mem_of_getElem? (i := 1) rfl)) rfl, inG (tin_4 _ (List.mem_of_getElem? (i := 47) rfl)) rfl⟩, inG (tin_4 _ (List.mem_of_getElem? (i := 45) rfl)) rfl, inG (tin_4 _ (List.mem_of_getElem? (i := 46) rfl)) rfl⟩
theorem vm_mFl_avoiding : VM mFl_avoiding 1 := ⟨⟨⟨by decide +kernel, by decide +kernel⟩, by decide +kernel, by decide, inG (tin_1 _ (List.mem_of_getElem? (i := 6) rfl)) rfl, inG (tin_4 _ (List.mem_of_getElem? (i := 51) rfl)) rfl⟩, inG (tin_4 _ (List.mem_of_getElem? (i := 49) rfl)) rfl, inG (tin_4 _ (List.mem_of_getElem? (i := 50) rfl)) rfl⟩
theorem vm_mB_favourite : VM mB_favourite 2 := ⟨⟨⟨by decide +kernel, by decide +kernel⟩, by decide +kernel, by decide, inG (tin_1 _ (List.mem_of_getElem? (i := 1) rfl)) rfl, inG (tin_4 _ (List.mem_of_getElem? (i := 55) rfl)) rfl⟩, inG (tin_4 _ (List.mem_of_getElem? (i := 53) rfl)) rfl, inG (tin_4 _ (List.mem_of_getElem? (i := 54) rfl)) rfl⟩
theorem vm_mFl_mostWith : VM mFl_mostWith 1 := ⟨⟨⟨by decide +kernel, by decide +kernel⟩, by decide +kernel, by decide, inG (tin_1 _ (List.mem_of_getElem? (i := 6) rfl)) rfl, inG (tin_4 _ (List.mem_of_getElem? (i := 59) rfl)) rfl⟩, inG (tin_4 _ (List.mem_of_getElem? (i := 57) rfl)) rfl, inG (tin_4 _ (List.mem_of_getElem? (i := 58) rfl)) rfl⟩
theorem vm_mB_drawn : VM mB_drawn 4 := ⟨⟨⟨by decide +kernel, by decide +kernel⟩, by decide +kernel, by decide, inG (tin_1 _ (List.mem_of_getElem? (i := 1) rfl)) rfl, inG (tin_4 _ (List.mem_of_getElem? (i := 63) rfl)) rfl⟩, inG (tin_4 _ (List.mem_of_getElem? (i := 61) rfl)) rfl, inG (tin_4 _ (List.mem_of_getElem? (i := 62) rfl)) rfl⟩
theorem vm_mTh_guessAll : VM mTh_guessAll 0 := ⟨⟨⟨by decide +kernel, by decide +kernel⟩, by decide +kernel, by decide, inG (tin_1 _ (List.mem_of_getElem? (i := 4) rfl)) rfl, inG (tin_4 _ (List.mem_of_getElem? (i := 67) rfl)) rfl⟩, inG (tin_4 _ (List.mem_of_getElem? (i := 65) rfl)) rfl, inG (tin_4 _ (List.mem_of_getElem? (i := 66) rfl)) rfl⟩
theorem vm_mTh_rightInNights : VM mTh_rightInNights 3 := ⟨⟨⟨by decide +kernel, by decide +kernel⟩, by decide +kernel, by decide, inG (tin_1 _ (List.mem_of_getElem? (i := 4) rfl)) rfl, inG (tin_4 _ (List.mem_of_getElem? (i := 71) rfl)) rfl⟩, inG (tin_4 _ (List.mem_of_getElem? (i := 69) rfl)) rfl, inG (tin_4 _ (List.mem_of_getElem? (i := 70) rfl)) rfl⟩
theorem vm_mTh_pick : VM mTh_pick 2 := ⟨⟨⟨by decide +kernel, by decide +kernel⟩, by decide +kernel, by decide, inG (tin_1 _ (List.mem_of_getElem? (i := 4) rfl)) rfl, inG (tin_4 _ (List.mem_of_getElem? (i := 76) rfl)) rfl⟩, inG (tin_4 _ (List.mem_of_getElem? (i := 75) rfl)) rfl, inG (tin_0 _ (List.mem_of_getElem? (i := 34) rfl)) rfl⟩
theorem vm_mB_behind : VM mB_behind 2 := ⟨⟨⟨by decide +kernel, by decide +kernel⟩, by decide +kernel, by decide, inG (tin_1 _ (List.mem_of_getElem? (i := 1) rfl)) rfl, inG (tin_4 _ (List.mem_of_getElem? (i := 80) rfl)) rfl⟩, inG (tin_4 _ (List.mem_of_getElem? (i := 78) rfl)) rfl, inG (tin_4 _ (List.mem_of_getElem? (i := 79) rfl)) rfl⟩
theorem vm_mNi_seat : VM mNi_seat 2 := ⟨⟨⟨by decide +kernel, by decide +kernel⟩, by decide +kernel, by decide, inG (tin_1 _ (List.mem_of_getElem? (i := 5) rfl)) rfl, inG (tin_4 _ (List.mem_of_getElem? (i := 84) rfl)) rfl⟩, inG (tin_4 _ (List.mem_of_getElem? (i := 82) rfl)) rfl, inG (tin_4 _ (List.mem_of_getElem? (i := 83) rfl)) rfl⟩
theorem vm_mB_dance : VM mB_dance 1 := ⟨⟨⟨by decide +kernel, by decide +kernel⟩, by decide +kernel, by decide, inG (tin_1 _ (List.mem_of_getElem? (i := 1) rfl)) rfl, inG (tin_4 _ (List.mem_of_getElem? (i := 89) rfl)) rfl⟩, inG (tin_4 _ (List.mem_of_getElem? (i := 87) rfl)) rfl, inG (tin_4 _ (List.mem_of_getElem? (i := 88) rfl)) rfl⟩
theorem vm_mNi_danceWith : VM mNi_danceWith 1 := ⟨⟨⟨by decide +kernel, by decide +kernel⟩, by decide +kernel, by decide, inG (tin_1 _ (List.mem_of_getElem? (i := 5) rfl)) rfl, inG (tin_4 _ (List.mem_of_getElem? (i := 93) rfl)) rfl⟩, inG (tin_4 _ (List.mem_of_getElem? (i := 91) rfl)) rfl, inG (tin_4 _ (List.mem_of_getElem? (i := 92) rfl)) rfl⟩
theorem vm_mB_swap : VM mB_swap 1 := ⟨⟨⟨by decide +kernel, by decide +kernel⟩, by decide +kernel, by decide, inG (tin_1 _ (List.mem_of_getElem? (i := 1) rfl)) rfl, inG (tin_4 _ (List.mem_of_getElem? (i := 99) rfl)) rfl⟩, inG (tin_4 _ (List.mem_of_getElem? (i := 97) rfl)) rfl, inG (tin_4 _ (List.mem_of_getElem? (i := 98) rfl)) rfl⟩
theorem vm_mNi_trade : VM mNi_trade 2 := ⟨⟨⟨by decide +kernel, by decide +kernel⟩, by decide +kernel, by decide, inG (tin_1 _ (List.mem_of_getElem? (i := 5) rfl)) rfl, inG (tin_4 _ (List.mem_of_getElem? (i := 103) rfl)) rfl⟩, inG (tin_4 _ (List.mem_of_getElem? (i := 101) rfl)) rfl, inG (tin_4 _ (List.mem_of_getElem? (i := 102) rfl)) rfl⟩
theorem vm_mB_bet : VM mB_bet 2 := ⟨⟨⟨by decide +kernel, by decide +kernel⟩, by decide +kernel, by decide, inG (tin_1 _ (List.mem_of_getElem? (i := 1) rfl)) rfl, inG (tin_4 _ (List.mem_of_getElem? (i := 107) rfl)) rfl⟩, inG (tin_4 _ (List.mem_of_getElem? (i := 105) rfl)) rfl, inG (tin_4 _ (List.mem_of_getElem? (i := 106) rfl)) rfl⟩
theorem vm_mNi_wager : VM mNi_wager 2 := ⟨⟨⟨by decide +kernel, by decide +kernel⟩, by decide +kernel, by decide, inG (tin_1 _ (List.mem_of_getElem? (i := 5) rfl)) rfl, inG (tin_4 _ (List.mem_of_getElem? (i := 111) rfl)) rfl⟩, inG (tin_4 _ (List.mem_of_getElem? (i := 109) rfl)) rfl, inG (tin_4 _ (List.mem_of_getElem? (i := 110) rfl)) rfl⟩
theorem vm_mB_led : VM mB_led 1 := ⟨⟨⟨by decide +kernel, by decide +kernel⟩, by decide +kernel, by decide, inG (tin_1 _ (List.mem_of_getElem? (i := 1) rfl)) rfl, inG (tin_4 _ (List.mem_of_getElem? (i := 116) rfl)) rfl⟩, inG (tin_4 _ (List.mem_of_getElem? (i := 114) rfl)) rfl, inG (tin_4 _ (List.mem_of_getElem? (i := 115) rfl)) rfl⟩
theorem vm_mNi_told : VM mNi_told 1 := ⟨⟨⟨by decide +kernel, by decide +kernel⟩, by decide +kernel, by decide, inG (tin_1 _ (List.mem_of_getElem? (i := 5) rfl)) rfl, inG (tin_4 _ (List.mem_of_getElem? (i := 120) rfl)) rfl⟩, inG (tin_4 _ (List.mem_of_getElem? (i := 118) rfl)) rfl, inG (tin_4 _ (List.mem_of_getElem? (i := 119) rfl)) rfl⟩
theorem vm_mB_image : VM mB_image 0 := ⟨⟨⟨by decide +kernel, by decide +kernel⟩, by decide +kernel, by decide, inG (tin_1 _ (List.mem_of_getElem? (i := 1) rfl)) rfl, inG (tin_4 _ (List.mem_of_getElem? (i := 124) rfl)) rfl⟩, inG (tin_4 _ (List.mem_of_getElem? (i := 122) rfl)) rfl, inG (tin_4 _ (List.mem_of_getElem? (i := 123) rfl)) rfl⟩
theorem vm_mNi_remember : VM mNi_remember 0 := ⟨⟨⟨by decide +kernel, by decide +kernel⟩, by decide +kernel, by decide, inG (tin_1 _ (List.mem_of_getElem? (i := 5) rfl)) rfl, inG (tin_4 _ (List.mem_of_getElem? (i := 128) rfl)) rfl⟩, inG (tin_4 _ (List.mem_of_getElem? (i := 126) rfl)) rfl, inG (tin_4 _ (List.mem_of_getElem? (i := 127) rfl)) rfl⟩
theorem vm_mB_back : VM mB_back 0 := ⟨⟨⟨by decide +kernel, by decide +kernel⟩, by decide +kernel, by decide, inG (tin_1 _ (List.mem_of_getElem? (i := 1) rfl)) rfl, inG (tin_4 _ (List.mem_of_getElem? (i := 134) rfl)) rfl⟩, inG (tin_4 _ (List.mem_of_getElem? (i := 132) rfl)) rfl, inG (tin_4 _ (List.mem_of_getElem? (i := 133) rfl)) rfl⟩
theorem vm_mNi_recall : VM mNi_recall 0 := ⟨⟨⟨by decide +kernel, by decide +kernel⟩, by decide +kernel, by decide, inG (tin_1 _ (List.mem_of_getElem? (i := 5) rfl)) rfl, inG (tin_4 _ (List.mem_of_getElem? (i := 138) rfl)) rfl⟩, inG (tin_4 _ (List.mem_of_getElem? (i := 136) rfl)) rfl, inG (tin_4 _ (List.mem_of_getElem? (i := 137) rfl)) rfl⟩
theorem vm_mB_undo : VM mB_undo 0 := ⟨⟨⟨by decide +kernel, by decide +kernel⟩, by decide +kernel, by decide, inG (tin_1 _ (List.mem_of_getElem? (i := 1) rfl)) rfl, inG (tin_4 _ (List.mem_of_getElem? (i := 142) rfl)) rfl⟩, inG (tin_4 _ (List.mem_of_getElem? (i := 140) rfl)) rfl, inG (tin_4 _ (List.mem_of_getElem? (i := 141) rfl)) rfl⟩
theorem vm_mHa_takeBack : VM mHa_takeBack 0 := ⟨⟨⟨by decide +kernel, by decide +kernel⟩, by decide +kernel, by decide, inG (tin_1 _ (List.mem_of_getElem? (i := 2) rfl)) rfl, inG (tin_4 _ (List.mem_of_getElem? (i := 146) rfl)) rfl⟩, inG (tin_4 _ (List.mem_of_getElem? (i := 144) rfl)) rfl, inG (tin_4 _ (List.mem_of_getElem? (i := 145) rfl)) rfl⟩
theorem vm_mB_redo : VM mB_redo 0 := ⟨⟨⟨by decide +kernel, by decide +kernel⟩, by decide +kernel, by decide, inG (tin_1 _ (List.mem_of_getElem? (i := 1) rfl)) rfl, inG (tin_4 _ (List.mem_of_getElem? (i := 150) rfl)) rfl⟩, inG (tin_4 _ (List.mem_of_getElem? (i := 148) rfl)) rfl, inG (tin_4 _ (List.mem_of_getElem? (i := 149) rfl)) rfl⟩
theorem vm_mHa_doAgain : VM mHa_doAgain 0 := ⟨⟨⟨by decide +kernel, by decide +kernel⟩, by decide +kernel, by decide, inG (tin_1 _ (List.mem_of_getElem? (i := 2) rfl)) rfl, inG (tin_4 _ (List.mem_of_getElem? (i := 154) rfl)) rfl⟩, inG (tin_4 _ (List.mem_of_getElem? (i := 152) rfl)) rfl, inG (tin_4 _ (List.mem_of_getElem? (i := 153) rfl)) rfl⟩
theorem vm_mB_body : VM mB_body 1 := ⟨⟨⟨by decide +kernel, by decide +kernel⟩, by decide +kernel, by decide, inG (tin_1 _ (List.mem_of_getElem? (i := 1) rfl)) rfl, inG (tin_4 _ (List.mem_of_getElem? (i := 158) rfl)) rfl⟩, inG (tin_4 _ (List.mem_of_getElem? (i := 156) rfl)) rfl, inG (tin_4 _ (List.mem_of_getElem? (i := 157) rfl)) rfl⟩
theorem vm_mBo_make : VM mBo_make 1 := ⟨⟨⟨by decide +kernel, by decide +kernel⟩, by decide +kernel, by decide, inG (tin_1 _ (List.mem_of_getElem? (i := 7) rfl)) rfl, inG (tin_4 _ (List.mem_of_getElem? (i := 162) rfl)) rfl⟩, inG (tin_4 _ (List.mem_of_getElem? (i := 160) rfl)) rfl, inG (tin_4 _ (List.mem_of_getElem? (i := 161) rfl)) rfl⟩
theorem vm_mB_act : VM mB_act 3 := ⟨⟨⟨by decide +kernel, by decide +kernel⟩, by decide +kernel, by decide, inG (tin_1 _ (List.mem_of_getElem? (i := 1) rfl)) rfl, inG (tin_4 _ (List.mem_of_getElem? (i := 166) rfl)) rfl⟩, inG (tin_4 _ (List.mem_of_getElem? (i := 164) rfl)) rfl, inG (tin_4 _ (List.mem_of_getElem? (i := 165) rfl)) rfl⟩
theorem vm_mBo_perform : VM mBo_perform 3 := ⟨⟨⟨by decide +kernel, by decide +kernel⟩, by decide +kernel, by decide, inG (tin_1 _ (List.mem_of_getElem? (i := 7) rfl)) rfl, inG (tin_4 _ (List.mem_of_getElem? (i := 170) rfl)) rfl⟩, inG (tin_4 _ (List.mem_of_getElem? (i := 168) rfl)) rfl, inG (tin_4 _ (List.mem_of_getElem? (i := 169) rfl)) rfl⟩
theorem vm_mBo_isBody : VM mBo_isBody 1 := ⟨⟨⟨by decide +kernel, by decide +kernel⟩, by decide +kernel, by decide, inG (tin_1 _ (List.mem_of_getElem? (i := 7) rfl)) rfl, inG (tin_4 _ (List.mem_of_getElem? (i := 174) rfl)) rfl⟩, inG (tin_4 _ (List.mem_of_getElem? (i := 172) rfl)) rfl, inG (tin_4 _ (List.mem_of_getElem? (i := 173) rfl)) rfl⟩
theorem vm_mBo_own : VM mBo_own 3 := ⟨⟨⟨by decide +kernel, by decide +kernel⟩, by decide +kernel, by decide, inG (tin_1 _ (List.mem_of_getElem? (i := 7) rfl)) rfl, inG (tin_4 _ (List.mem_of_getElem? (i := 178) rfl)) rfl⟩, inG (tin_4 _ (List.mem_of_getElem? (i := 177) rfl)) rfl, inG (tin_0 _ (List.mem_of_getElem? (i := 35) rfl)) rfl⟩
theorem vm_mBo_kindOf : VM mBo_kindOf 1 := ⟨⟨⟨by decide +kernel, by decide +kernel⟩, by decide +kernel, by decide, inG (tin_1 _ (List.mem_of_getElem? (i := 7) rfl)) rfl, inG (tin_4 _ (List.mem_of_getElem? (i := 182) rfl)) rfl⟩, inG (tin_4 _ (List.mem_of_getElem? (i := 180) rfl)) rfl, inG (tin_4 _ (List.mem_of_getElem? (i := 181) rfl)) rfl⟩
theorem vm_mBo_begin : VM mBo_begin 4 := ⟨⟨⟨by decide +kernel, by decide +kernel⟩, by decide +kernel, by decide, inG (tin_1 _ (List.mem_of_getElem? (i := 7) rfl)) rfl, inG (tin_4 _ (List.mem_of_getElem? (i := 186) rfl)) rfl⟩, inG (tin_4 _ (List.mem_of_getElem? (i := 185) rfl)) rfl, inG (tin_0 _ (List.mem_of_getElem? (i := 36) rfl)) rfl⟩
theorem vm_mBo_ownOf : SM mBo_ownOf 2 := ⟨⟨⟨by decide +kernel, by decide +kernel⟩, by decide +kernel, by decide, inG (tin_1 _ (List.mem_of_getElem? (i := 7) rfl)) rfl, inG (tin_4 _ (List.mem_of_getElem? (i := 189) rfl)) rfl⟩, inG (tin_4 _ (List.mem_of_getElem? (i := 188) rfl)) rfl⟩
theorem vm_mBo_above : SM mBo_above 1 := ⟨⟨⟨by decide +kernel, by decide +kernel⟩, by decide +kernel, by decide, inG (tin_1 _ (List.mem_of_getElem? (i := 7) rfl)) rfl, inG (tin_4 _ (List.mem_of_getElem? (i := 194) rfl)) rfl⟩, inG (tin_4 _ (List.mem_of_getElem? (i := 193) rfl)) rfl⟩
theorem vm_mBo_note : VM mBo_note 1 := ⟨⟨⟨by decide +kernel, by decide +kernel⟩, by decide +kernel, by decide, inG (tin_1 _ (List.mem_of_getElem? (i := 7) rfl)) rfl, inG (tin_4 _ (List.mem_of_getElem? (i := 200) rfl)) rfl⟩, inG (tin_4 _ (List.mem_of_getElem? (i := 199) rfl)) rfl, inG (tin_0 _ (List.mem_of_getElem? (i := 37) rfl)) rfl⟩
theorem vm_mBo_work : VM mBo_work 4 := ⟨⟨⟨by decide +kernel, by decide +kernel⟩, by decide +kernel, by decide, inG (tin_1 _ (List.mem_of_getElem? (i := 7) rfl)) rfl, inG (tin_4 _ (List.mem_of_getElem? (i := 204) rfl)) rfl⟩, inG (tin_4 _ (List.mem_of_getElem? (i := 203) rfl)) rfl, inG (tin_0 _ (List.mem_of_getElem? (i := 38) rfl)) rfl⟩
theorem vm_mBo_higher : VM mBo_higher 4 := ⟨⟨⟨by decide +kernel, by decide +kernel⟩, by decide +kernel, by decide, inG (tin_1 _ (List.mem_of_getElem? (i := 7) rfl)) rfl, inG (tin_4 _ (List.mem_of_getElem? (i := 208) rfl)) rfl⟩, inG (tin_4 _ (List.mem_of_getElem? (i := 207) rfl)) rfl, inG (tin_0 _ (List.mem_of_getElem? (i := 39) rfl)) rfl⟩
theorem vm_mB_trace : VM mB_trace 1 := ⟨⟨⟨by decide +kernel, by decide +kernel⟩, by decide +kernel, by decide, inG (tin_1 _ (List.mem_of_getElem? (i := 1) rfl)) rfl, inG (tin_4 _ (List.mem_of_getElem? (i := 212) rfl)) rfl⟩, inG (tin_4 _ (List.mem_of_getElem? (i := 210) rfl)) rfl, inG (tin_4 _ (List.mem_of_getElem? (i := 211) rfl)) rfl⟩
theorem vm_mBo_traced : VM mBo_traced 1 := ⟨⟨⟨by decide +kernel, by decide +kernel⟩, by decide +kernel, by decide, inG (tin_1 _ (List.mem_of_getElem? (i := 7) rfl)) rfl, inG (tin_4 _ (List.mem_of_getElem? (i := 216) rfl)) rfl⟩, inG (tin_4 _ (List.mem_of_getElem? (i := 214) rfl)) rfl, inG (tin_4 _ (List.mem_of_getElem? (i := 215) rfl)) rfl⟩
theorem vm_mB_keep : VM mB_keep 2 := ⟨⟨⟨by decide +kernel, by decide +kernel⟩, by decide +kernel, by decide, inG (tin_1 _ (List.mem_of_getElem? (i := 1) rfl)) rfl, inG (tin_4 _ (List.mem_of_getElem? (i := 220) rfl)) rfl⟩, inG (tin_4 _ (List.mem_of_getElem? (i := 218) rfl)) rfl, inG (tin_4 _ (List.mem_of_getElem? (i := 219) rfl)) rfl⟩
theorem vm_mSh_hold : VM mSh_hold 1 := ⟨⟨⟨by decide +kernel, by decide +kernel⟩, by decide +kernel, by decide, inG (tin_1 _ (List.mem_of_getElem? (i := 8) rfl)) rfl, inG (tin_4 _ (List.mem_of_getElem? (i := 225) rfl)) rfl⟩, inG (tin_4 _ (List.mem_of_getElem? (i := 223) rfl)) rfl, inG (tin_4 _ (List.mem_of_getElem? (i := 224) rfl)) rfl⟩
theorem vm_mB_row : VM mB_row 3 := ⟨⟨⟨by decide +kernel, by decide +kernel⟩, by decide +kernel, by decide, inG (tin_1 _ (List.mem_of_getElem? (i := 1) rfl)) rfl, inG (tin_4 _ (List.mem_of_getElem? (i := 229) rfl)) rfl⟩, inG (tin_4 _ (List.mem_of_getElem? (i := 227) rfl)) rfl, inG (tin_4 _ (List.mem_of_getElem? (i := 228) rfl)) rfl⟩
theorem vm_mSh_lay : VM mSh_lay 2 := ⟨⟨⟨by decide +kernel, by decide +kernel⟩, by decide +kernel, by decide, inG (tin_1 _ (List.mem_of_getElem? (i := 8) rfl)) rfl, inG (tin_4 _ (List.mem_of_getElem? (i := 233) rfl)) rfl⟩, inG (tin_4 _ (List.mem_of_getElem? (i := 231) rfl)) rfl, inG (tin_4 _ (List.mem_of_getElem? (i := 232) rfl)) rfl⟩
theorem vm_mB_put : VM mB_put 3 := ⟨⟨⟨by decide +kernel, by decide +kernel⟩, by decide +kernel, by decide, inG (tin_1 _ (List.mem_of_getElem? (i := 1) rfl)) rfl, inG (tin_4 _ (List.mem_of_getElem? (i := 239) rfl)) rfl⟩, inG (tin_4 _ (List.mem_of_getElem? (i := 237) rfl)) rfl, inG (tin_4 _ (List.mem_of_getElem? (i := 238) rfl)) rfl⟩
theorem vm_mB_cellFault : VM mB_cellFault 2 := ⟨⟨⟨by decide +kernel, by decide +kernel⟩, by decide +kernel, by decide, inG (tin_1 _ (List.mem_of_getElem? (i := 1) rfl)) rfl, inG (tin_5 _ (List.mem_of_getElem? (i := 3) rfl)) rfl⟩, inG (tin_5 _ (List.mem_of_getElem? (i := 2) rfl)) rfl, inG (tin_0 _ (List.mem_of_getElem? (i := 40) rfl)) rfl⟩
theorem vm_mSh_isRow : VM mSh_isRow 0 := ⟨⟨⟨by decide +kernel, by decide +kernel⟩, by decide +kernel, by decide, inG (tin_1 _ (List.mem_of_getElem? (i := 8) rfl)) rfl, inG (tin_5 _ (List.mem_of_getElem? (i := 7) rfl)) rfl⟩, inG (tin_5 _ (List.mem_of_getElem? (i := 5) rfl)) rfl, inG (tin_5 _ (List.mem_of_getElem? (i := 6) rfl)) rfl⟩
theorem vm_mSh_set : VM mSh_set 2 := ⟨⟨⟨by decide +kernel, by decide +kernel⟩, by decide +kernel, by decide, inG (tin_1 _ (List.mem_of_getElem? (i := 8) rfl)) rfl, inG (tin_5 _ (List.mem_of_getElem? (i := 11) rfl)) rfl⟩, inG (tin_5 _ (List.mem_of_getElem? (i := 9) rfl)) rfl, inG (tin_5 _ (List.mem_of_getElem? (i := 10) rfl)) rfl⟩
theorem vm_mSh_fitted : VM mSh_fitted 1 := ⟨⟨⟨by decide +kernel, by decide +kernel⟩, by decide +kernel, by decide, inG (tin_1 _ (List.mem_of_getElem? (i := 8) rfl)) rfl, inG (tin_5 _ (List.mem_of_getElem? (i := 15) rfl)) rfl⟩, inG (tin_5 _ (List.mem_of_getElem? (i := 14) rfl)) rfl, inG (tin_0 _ (List.mem_of_getElem? (i := 41) rfl)) rfl⟩
theorem vm_mB_element : VM mB_element 2 := ⟨⟨⟨by decide +kernel, by decide +kernel⟩, by decide +kernel, by decide, inG (tin_1 _ (List.mem_of_getElem? (i := 1) rfl)) rfl, inG (tin_5 _ (List.mem_of_getElem? (i := 19) rfl)) rfl⟩, inG (tin_5 _ (List.mem_of_getElem? (i := 17) rfl)) rfl, inG (tin_5 _ (List.mem_of_getElem? (i := 18) rfl)) rfl⟩
theorem vm_mB_shift : VM mB_shift 5 := ⟨⟨⟨by decide +kernel, by decide +kernel⟩, by decide +kernel, by decide, inG (tin_1 _ (List.mem_of_getElem? (i := 1) rfl)) rfl, inG (tin_5 _ (List.mem_of_getElem? (i := 23) rfl)) rfl⟩, inG (tin_5 _ (List.mem_of_getElem? (i := 21) rfl)) rfl, inG (tin_5 _ (List.mem_of_getElem? (i := 22) rfl)) rfl⟩
theorem vm_mSh_sort : VM mSh_sort 0 := ⟨⟨⟨by decide +kernel, by decide +kernel⟩, by decide +kernel, by decide, inG (tin_1 _ (List.mem_of_getElem? (i := 8) rfl)) rfl, inG (tin_5 _ (List.mem_of_getElem? (i := 27) rfl)) rfl⟩, inG (tin_5 _ (List.mem_of_getElem? (i := 25) rfl)) rfl, inG (tin_5 _ (List.mem_of_getElem? (i := 26) rfl)) rfl⟩
theorem vm_mSh_hasPart : VM mSh_hasPart 2 := ⟨⟨⟨by decide +kernel, by decide +kernel⟩, by decide +kernel, by decide, inG (tin_1 _ (List.mem_of_getElem? (i := 8) rfl)) rfl, inG (tin_5 _ (List.mem_of_getElem? (i := 31) rfl)) rfl⟩, inG (tin_5 _ (List.mem_of_getElem? (i := 29) rfl)) rfl, inG (tin_5 _ (List.mem_of_getElem? (i := 30) rfl)) rfl⟩
theorem vm_mSh_copyTo : VM mSh_copyTo 4 := ⟨⟨⟨by decide +kernel, by decide +kernel⟩, by decide +kernel, by decide, inG (tin_1 _ (List.mem_of_getElem? (i := 8) rfl)) rfl, inG (tin_5 _ (List.mem_of_getElem? (i := 35) rfl)) rfl⟩, inG (tin_5 _ (List.mem_of_getElem? (i := 33) rfl)) rfl, inG (tin_5 _ (List.mem_of_getElem? (i := 34) rfl)) rfl⟩
theorem vm_mB_taken : VM mB_taken 2 := ⟨⟨⟨by decide +kernel, by decide +kernel⟩, by decide +kernel, by decide, inG (tin_1 _ (List.mem_of_getElem? (i := 1) rfl)) rfl, inG (tin_5 _ (List.mem_of_getElem? (i := 41) rfl)) rfl⟩, inG (tin_5 _ (List.mem_of_getElem? (i := 39) rfl)) rfl, inG (tin_5 _ (List.mem_of_getElem? (i := 40) rfl)) rfl⟩
theorem vm_mSh_held : VM mSh_held 0 := ⟨⟨⟨by decide +kernel, by decide +kernel⟩, by decide +kernel, by decide, inG (tin_1 _ (List.mem_of_getElem? (i := 8) rfl)) rfl, inG (tin_5 _ (List.mem_of_getElem? (i := 45) rfl)) rfl⟩, inG (tin_5 _ (List.mem_of_getElem? (i := 43) rfl)) rfl, inG (tin_5 _ (List.mem_of_getElem? (i := 44) rfl)) rfl⟩
theorem vm_mBo_isUnder : SM mBo_isUnder 2 := ⟨⟨⟨by decide +kernel, by decide +kernel⟩, by decide +kernel, by decide, inG (tin_1 _ (List.mem_of_getElem? (i := 7) rfl)) rfl, inG (tin_5 _ (List.mem_of_getElem? (i := 49) rfl)) rfl⟩, inG (tin_5 _ (List.mem_of_getElem? (i := 48) rfl)) rfl⟩
theorem vm_mB_count : VM mB_count 1 := ⟨⟨⟨by decide +kernel, by decide +kernel⟩, by decide +kernel, by decide, inG (tin_1 _ (List.mem_of_getElem? (i := 1) rfl)) rfl, inG (tin_5 _ (List.mem_of_getElem? (i := 53) rfl)) rfl⟩, inG (tin_5 _ (List.mem_of_getElem? (i := 51) rfl)) rfl, inG (tin_5 _ (List.mem_of_getElem? (i := 52) rfl)) rfl⟩
theorem vm_mLa_fed : VM mLa_fed 0 := ⟨⟨⟨by decide +kernel, by decide +kernel⟩, by decide +kernel, by decide, inG (tin_1 _ (List.mem_of_getElem? (i := 3) rfl)) rfl, inG (tin_5 _ (List.mem_of_getElem? (i := 57) rfl)) rfl⟩, inG (tin_5 _ (List.mem_of_getElem? (i := 55) rfl)) rfl, inG (tin_5 _ (List.mem_of_getElem? (i := 56) rfl)) rfl⟩
theorem vm_mHa_undoable : VM mHa_undoable 0 := ⟨⟨⟨by decide +kernel, by decide +kernel⟩, by decide +kernel, by decide, inG (tin_1 _ (List.mem_of_getElem? (i := 2) rfl)) rfl, inG (tin_5 _ (List.mem_of_getElem? (i := 61) rfl)) rfl⟩, inG (tin_5 _ (List.mem_of_getElem? (i := 59) rfl)) rfl, inG (tin_5 _ (List.mem_of_getElem? (i := 60) rfl)) rfl⟩
theorem vm_mBo_made : VM mBo_made 0 := ⟨⟨⟨by decide +kernel, by decide +kernel⟩, by decide +kernel, by decide, inG (tin_1 _ (List.mem_of_getElem? (i := 7) rfl)) rfl, inG (tin_5 _ (List.mem_of_getElem? (i := 65) rfl)) rfl⟩, inG (tin_5 _ (List.mem_of_getElem? (i := 63) rfl)) rfl, inG (tin_5 _ (List.mem_of_getElem? (i := 64) rfl)) rfl⟩
theorem vm_mBo_ran : VM mBo_ran 0 := ⟨⟨⟨by decide +kernel, by decide +kernel⟩, by decide +kernel, by decide, inG (tin_1 _ (List.mem_of_getElem? (i := 7) rfl)) rfl, inG (tin_5 _ (List.mem_of_getElem? (i := 69) rfl)) rfl⟩, inG (tin_5 _ (List.mem_of_getElem? (i := 67) rfl)) rfl, inG (tin_5 _ (List.mem_of_getElem? (i := 68) rfl)) rfl⟩
theorem vm_mR_init : IM mR_init 0 := ⟨⟨⟨by decide +kernel, by decide +kernel⟩, by decide +kernel, by decide, inG (tin_1 _ (List.mem_of_getElem? (i := 9) rfl)) rfl, inG (tin_5 _ (List.mem_of_getElem? (i := 74) rfl)) rfl⟩, inG (tin_5 _ (List.mem_of_getElem? (i := 73) rfl)) rfl, rfl, rfl⟩
theorem vm_mR_person : VM mR_person 1 := ⟨⟨⟨by decide +kernel, by decide +kernel⟩, by decide +kernel, by decide, inG (tin_1 _ (List.mem_of_getElem? (i := 9) rfl)) rfl, inG (tin_6 _ (List.mem_of_getElem? (i := 40) rfl)) rfl⟩, inG (tin_6 _ (List.mem_of_getElem? (i := 38) rfl)) rfl, inG (tin_6 _ (List.mem_of_getElem? (i := 39) rfl)) rfl⟩
theorem vm_mR_areSigns : SM mR_areSigns 3 := ⟨⟨⟨by decide +kernel, by decide +kernel⟩, by decide +kernel, by decide, inG (tin_1 _ (List.mem_of_getElem? (i := 9) rfl)) rfl, inG (tin_6 _ (List.mem_of_getElem? (i := 43) rfl)) rfl⟩, inG (tin_6 _ (List.mem_of_getElem? (i := 42) rfl)) rfl⟩
theorem vm_mR_in : SM mR_in 3 := ⟨⟨⟨by decide +kernel, by decide +kernel⟩, by decide +kernel, by decide, inG (tin_1 _ (List.mem_of_getElem? (i := 9) rfl)) rfl, inG (tin_6 _ (List.mem_of_getElem? (i := 46) rfl)) rfl⟩, inG (tin_6 _ (List.mem_of_getElem? (i := 45) rfl)) rfl⟩
theorem vm_mR_addPerson : VM mR_addPerson 3 := ⟨⟨⟨by decide +kernel, by decide +kernel⟩, by decide +kernel, by decide, inG (tin_1 _ (List.mem_of_getElem? (i := 9) rfl)) rfl, inG (tin_6 _ (List.mem_of_getElem? (i := 50) rfl)) rfl⟩, inG (tin_6 _ (List.mem_of_getElem? (i := 49) rfl)) rfl, inG (tin_0 _ (List.mem_of_getElem? (i := 42) rfl)) rfl⟩
theorem vm_mR_people : VM mR_people 3 := ⟨⟨⟨by decide +kernel, by decide +kernel⟩, by decide +kernel, by decide, inG (tin_1 _ (List.mem_of_getElem? (i := 9) rfl)) rfl, inG (tin_6 _ (List.mem_of_getElem? (i := 54) rfl)) rfl⟩, inG (tin_6 _ (List.mem_of_getElem? (i := 52) rfl)) rfl, inG (tin_6 _ (List.mem_of_getElem? (i := 53) rfl)) rfl⟩
theorem vm_mR_isShelf : SM mR_isShelf 1 := ⟨⟨⟨by decide +kernel, by decide +kernel⟩, by decide +kernel, by decide, inG (tin_1 _ (List.mem_of_getElem? (i := 9) rfl)) rfl, inG (tin_6 _ (List.mem_of_getElem? (i := 57) rfl)) rfl⟩, inG (tin_6 _ (List.mem_of_getElem? (i := 56) rfl)) rfl⟩
theorem vm_mR_mask : VM mR_mask 0 := ⟨⟨⟨by decide +kernel, by decide +kernel⟩, by decide +kernel, by decide, inG (tin_1 _ (List.mem_of_getElem? (i := 9) rfl)) rfl, inG (tin_6 _ (List.mem_of_getElem? (i := 62) rfl)) rfl⟩, inG (tin_6 _ (List.mem_of_getElem? (i := 60) rfl)) rfl, inG (tin_6 _ (List.mem_of_getElem? (i := 61) rfl)) rfl⟩
theorem vm_mR_undo : VM mR_undo 0 := ⟨⟨⟨by decide +kernel, by decide +kernel⟩, by decide +kernel, by decide, inG (tin_1 _ (List.mem_of_getElem? (i := 9) rfl)) rfl, inG (tin_6 _ (List.mem_of_getElem? (i := 66) rfl)) rfl⟩, inG (tin_6 _ (List.mem_of_getElem? (i := 64) rfl)) rfl, inG (tin_6 _ (List.mem_of_getElem? (i := 65) rfl)) rfl⟩
theorem vm_mR_lays : VM mR_lays 3 := ⟨⟨⟨by decide +kernel, by decide +kernel⟩, by decide +kernel, by decide, inG (tin_1 _ (List.mem_of_getElem? (i := 9) rfl)) rfl, inG (tin_6 _ (List.mem_of_getElem? (i := 70) rfl)) rfl⟩, inG (tin_6 _ (List.mem_of_getElem? (i := 69) rfl)) rfl, inG (tin_0 _ (List.mem_of_getElem? (i := 43) rfl)) rfl⟩
theorem vm_mR_redo : VM mR_redo 0 := ⟨⟨⟨by decide +kernel, by decide +kernel⟩, by decide +kernel, by decide, inG (tin_1 _ (List.mem_of_getElem? (i := 9) rfl)) rfl, inG (tin_6 _ (List.mem_of_getElem? (i := 74) rfl)) rfl⟩, inG (tin_6 _ (List.mem_of_getElem? (i := 72) rfl)) rfl, inG (tin_6 _ (List.mem_of_getElem? (i := 73) rfl)) rfl⟩
theorem vm_mR_mend : VM mR_mend 3 := ⟨⟨⟨by decide +kernel, by decide +kernel⟩, by decide +kernel, by decide, inG (tin_1 _ (List.mem_of_getElem? (i := 9) rfl)) rfl, inG (tin_6 _ (List.mem_of_getElem? (i := 78) rfl)) rfl⟩, inG (tin_6 _ (List.mem_of_getElem? (i := 76) rfl)) rfl, inG (tin_6 _ (List.mem_of_getElem? (i := 77) rfl)) rfl⟩
theorem vm_mR_isOne : VM mR_isOne 2 := ⟨⟨⟨by decide +kernel, by decide +kernel⟩, by decide +kernel, by decide, inG (tin_1 _ (List.mem_of_getElem? (i := 9) rfl)) rfl, inG (tin_6 _ (List.mem_of_getElem? (i := 82) rfl)) rfl⟩, inG (tin_6 _ (List.mem_of_getElem? (i := 81) rfl)) rfl, inG (tin_0 _ (List.mem_of_getElem? (i := 44) rfl)) rfl⟩
theorem vm_mR_isPerson : VM mR_isPerson 1 := ⟨⟨⟨by decide +kernel, by decide +kernel⟩, by decide +kernel, by decide, inG (tin_1 _ (List.mem_of_getElem? (i := 9) rfl)) rfl, inG (tin_6 _ (List.mem_of_getElem? (i := 86) rfl)) rfl⟩, inG (tin_6 _ (List.mem_of_getElem? (i := 85) rfl)) rfl, inG (tin_0 _ (List.mem_of_getElem? (i := 45) rfl)) rfl⟩
theorem vm_mR_isMask : VM mR_isMask 1 := ⟨⟨⟨by decide +kernel, by decide +kernel⟩, by decide +kernel, by decide, inG (tin_1 _ (List.mem_of_getElem? (i := 9) rfl)) rfl, inG (tin_6 _ (List.mem_of_getElem? (i := 90) rfl)) rfl⟩, inG (tin_6 _ (List.mem_of_getElem? (i := 89) rfl)) rfl, inG (tin_0 _ (List.mem_of_getElem? (i := 46) rfl)) rfl⟩
theorem vm_mR_mayHave : SM mR_mayHave 2 := ⟨⟨⟨by decide +kernel, by decide +kernel⟩, by decide +kernel, by decide, inG (tin_1 _ (List.mem_of_getElem? (i := 9) rfl)) rfl, inG (tin_6 _ (List.mem_of_getElem? (i := 93) rfl)) rfl⟩, inG (tin_6 _ (List.mem_of_getElem? (i := 92) rfl)) rfl⟩
theorem vm_mR_changes : VM mR_changes 3 := ⟨⟨⟨by decide +kernel, by decide +kernel⟩, by decide +kernel, by decide, inG (tin_1 _ (List.mem_of_getElem? (i := 9) rfl)) rfl, inG (tin_6 _ (List.mem_of_getElem? (i := 97) rfl)) rfl⟩, inG (tin_6 _ (List.mem_of_getElem? (i := 96) rfl)) rfl, inG (tin_0 _ (List.mem_of_getElem? (i := 47) rfl)) rfl⟩
theorem vm_mR_valueAt : VM mR_valueAt 2 := ⟨⟨⟨by decide +kernel, by decide +kernel⟩, by decide +kernel, by decide, inG (tin_1 _ (List.mem_of_getElem? (i := 9) rfl)) rfl, inG (tin_6 _ (List.mem_of_getElem? (i := 101) rfl)) rfl⟩, inG (tin_6 _ (List.mem_of_getElem? (i := 100) rfl)) rfl, inG (tin_0 _ (List.mem_of_getElem? (i := 48) rfl)) rfl⟩
theorem vm_mR_of : VM mR_of 2 := ⟨⟨⟨by decide +kernel, by decide +kernel⟩, by decide +kernel, by decide, inG (tin_1 _ (List.mem_of_getElem? (i := 9) rfl)) rfl, inG (tin_6 _ (List.mem_of_getElem? (i := 106) rfl)) rfl⟩, inG (tin_6 _ (List.mem_of_getElem? (i := 104) rfl)) rfl, inG (tin_6 _ (List.mem_of_getElem? (i := 105) rfl)) rfl⟩
theorem vm_mR_feed : VM mR_feed 1 := ⟨⟨⟨by decide +kernel, by decide +kernel⟩, by decide +kernel, by decide, inG (tin_1 _ (List.mem_of_getElem? (i := 9) rfl)) rfl, inG (tin_6 _ (List.mem_of_getElem? (i := 110) rfl)) rfl⟩, inG (tin_6 _ (List.mem_of_getElem? (i := 108) rfl)) rfl, inG (tin_6 _ (List.mem_of_getElem? (i := 109) rfl)) rfl⟩
theorem vm_mR_law : VM mR_law 0 := ⟨⟨⟨by decide +kernel, by decide +kernel⟩, by decide +kernel, by decide, inG (tin_1 _ (List.mem_of_getElem? (i := 9) rfl)) rfl, inG (tin_6 _ (List.mem_of_getElem? (i := 114) rfl)) rfl⟩, inG (tin_6 _ (List.mem_of_getElem? (i := 112) rfl)) rfl, inG (tin_6 _ (List.mem_of_getElem? (i := 113) rfl)) rfl⟩
theorem vm_mR_readText : VM mR_readText 1 := ⟨⟨⟨by decide +kernel, by decide +kernel⟩, by decide +kernel, by decide, inG (tin_1 _ (List.mem_of_getElem? (i := 9) rfl)) rfl, inG (tin_6 _ (List.mem_of_getElem? (i := 118) rfl)) rfl⟩, inG (tin_6 _ (List.mem_of_getElem? (i := 117) rfl)) rfl, inG (tin_0 _ (List.mem_of_getElem? (i := 49) rfl)) rfl⟩
theorem vm_mR_line : VM mR_line 0 := ⟨⟨⟨by decide +kernel, by decide +kernel⟩, by decide +kernel, by decide, inG (tin_1 _ (List.mem_of_getElem? (i := 9) rfl)) rfl, inG (tin_6 _ (List.mem_of_getElem? (i := 122) rfl)) rfl⟩, inG (tin_6 _ (List.mem_of_getElem? (i := 121) rfl)) rfl, inG (tin_0 _ (List.mem_of_getElem? (i := 50) rfl)) rfl⟩
theorem vm_mR_either : VM mR_either 0 := ⟨⟨⟨by decide +kernel, by decide +kernel⟩, by decide +kernel, by decide, inG (tin_1 _ (List.mem_of_getElem? (i := 9) rfl)) rfl, inG (tin_6 _ (List.mem_of_getElem? (i := 126) rfl)) rfl⟩, inG (tin_6 _ (List.mem_of_getElem? (i := 125) rfl)) rfl, inG (tin_0 _ (List.mem_of_getElem? (i := 51) rfl)) rfl⟩
theorem vm_mR_both : VM mR_both 0 := ⟨⟨⟨by decide +kernel, by decide +kernel⟩, by decide +kernel, by decide, inG (tin_1 _ (List.mem_of_getElem? (i := 9) rfl)) rfl, inG (tin_6 _ (List.mem_of_getElem? (i := 130) rfl)) rfl⟩, inG (tin_6 _ (List.mem_of_getElem? (i := 129) rfl)) rfl, inG (tin_0 _ (List.mem_of_getElem? (i := 52) rfl)) rfl⟩
theorem vm_mR_compared : VM mR_compared 0 := ⟨⟨⟨by decide +kernel, by decide +kernel⟩, by decide +kernel, by decide, inG (tin_1 _ (List.mem_of_getElem? (i := 9) rfl)) rfl, inG (tin_6 _ (List.mem_of_getElem? (i := 134) rfl)) rfl⟩, inG (tin_6 _ (List.mem_of_getElem? (i := 133) rfl)) rfl, inG (tin_0 _ (List.mem_of_getElem? (i := 53) rfl)) rfl⟩
theorem vm_mR_sum : VM mR_sum 0 := ⟨⟨⟨by decide +kernel, by decide +kernel⟩, by decide +kernel, by decide, inG (tin_1 _ (List.mem_of_getElem? (i := 9) rfl)) rfl, inG (tin_6 _ (List.mem_of_getElem? (i := 138) rfl)) rfl⟩, inG (tin_6 _ (List.mem_of_getElem? (i := 137) rfl)) rfl, inG (tin_0 _ (List.mem_of_getElem? (i := 54) rfl)) rfl⟩
theorem vm_mR_product : VM mR_product 0 := ⟨⟨⟨by decide +kernel, by decide +kernel⟩, by decide +kernel, by decide, inG (tin_1 _ (List.mem_of_getElem? (i := 9) rfl)) rfl, inG (tin_6 _ (List.mem_of_getElem? (i := 142) rfl)) rfl⟩, inG (tin_6 _ (List.mem_of_getElem? (i := 141) rfl)) rfl, inG (tin_0 _ (List.mem_of_getElem? (i := 55) rfl)) rfl⟩
theorem vm_mR_operand : VM mR_operand 0 := ⟨⟨⟨by decide +kernel, by decide +kernel⟩, by decide +kernel, by decide, inG (tin_1 _ (List.mem_of_getElem? (i := 9) rfl)) rfl, inG (tin_6 _ (List.mem_of_getElem? (i := 146) rfl)) rfl⟩, inG (tin_6 _ (List.mem_of_getElem? (i := 145) rfl)) rfl, inG (tin_0 _ (List.mem_of_getElem? (i := 56) rfl)) rfl⟩
theorem vm_mR_looksOn : VM mR_looksOn 0 := ⟨⟨⟨by decide +kernel, by decide +kernel⟩, by decide +kernel, by decide, inG (tin_1 _ (List.mem_of_getElem? (i := 9) rfl)) rfl, inG (tin_6 _ (List.mem_of_getElem? (i := 150) rfl)) rfl⟩, inG (tin_6 _ (List.mem_of_getElem? (i := 149) rfl)) rfl, inG (tin_0 _ (List.mem_of_getElem? (i := 57) rfl)) rfl⟩
theorem vm_mR_nameOf : SM mR_nameOf 1 := ⟨⟨⟨by decide +kernel, by decide +kernel⟩, by decide +kernel, by decide, inG (tin_1 _ (List.mem_of_getElem? (i := 9) rfl)) rfl, inG (tin_6 _ (List.mem_of_getElem? (i := 153) rfl)) rfl⟩, inG (tin_6 _ (List.mem_of_getElem? (i := 152) rfl)) rfl⟩
theorem vm_mR_addStep : VM mR_addStep 2 := ⟨⟨⟨by decide +kernel, by decide +kernel⟩, by decide +kernel, by decide, inG (tin_1 _ (List.mem_of_getElem? (i := 9) rfl)) rfl, inG (tin_6 _ (List.mem_of_getElem? (i := 157) rfl)) rfl⟩, inG (tin_6 _ (List.mem_of_getElem? (i := 156) rfl)) rfl, inG (tin_0 _ (List.mem_of_getElem? (i := 58) rfl)) rfl⟩
theorem vm_mR_opens : VM mR_opens 0 := ⟨⟨⟨by decide +kernel, by decide +kernel⟩, by decide +kernel, by decide, inG (tin_1 _ (List.mem_of_getElem? (i := 9) rfl)) rfl, inG (tin_6 _ (List.mem_of_getElem? (i := 161) rfl)) rfl⟩, inG (tin_6 _ (List.mem_of_getElem? (i := 160) rfl)) rfl, inG (tin_0 _ (List.mem_of_getElem? (i := 59) rfl)) rfl⟩
theorem vm_mR_wrong : VM mR_wrong 0 := ⟨⟨⟨by decide +kernel, by decide +kernel⟩, by decide +kernel, by decide, inG (tin_1 _ (List.mem_of_getElem? (i := 9) rfl)) rfl, inG (tin_6 _ (List.mem_of_getElem? (i := 165) rfl)) rfl⟩, inG (tin_6 _ (List.mem_of_getElem? (i := 164) rfl)) rfl, inG (tin_0 _ (List.mem_of_getElem? (i := 60) rfl)) rfl⟩
theorem vm_mR_figure : VM mR_figure 0 := ⟨⟨⟨by decide +kernel, by decide +kernel⟩, by decide +kernel, by decide, inG (tin_1 _ (List.mem_of_getElem? (i := 9) rfl)) rfl, inG (tin_6 _ (List.mem_of_getElem? (i := 169) rfl)) rfl⟩, inG (tin_6 _ (List.mem_of_getElem? (i := 168) rfl)) rfl, inG (tin_0 _ (List.mem_of_getElem? (i := 61) rfl)) rfl⟩
theorem vm_mR_counts : VM mR_counts 2 := ⟨⟨⟨by decide +kernel, by decide +kernel⟩, by decide +kernel, by decide, inG (tin_1 _ (List.mem_of_getElem? (i := 9) rfl)) rfl, inG (tin_6 _ (List.mem_of_getElem? (i := 173) rfl)) rfl⟩, inG (tin_6 _ (List.mem_of_getElem? (i := 171) rfl)) rfl, inG (tin_6 _ (List.mem_of_getElem? (i := 172) rfl)) rfl⟩
theorem vm_mR_isWho : VM mR_isWho 1 := ⟨⟨⟨by decide +kernel, by decide +kernel⟩, by decide +kernel, by decide, inG (tin_1 _ (List.mem_of_getElem? (i := 9) rfl)) rfl, inG (tin_6 _ (List.mem_of_getElem? (i := 177) rfl)) rfl⟩, inG (tin_6 _ (List.mem_of_getElem? (i := 176) rfl)) rfl, inG (tin_0 _ (List.mem_of_getElem? (i := 62) rfl)) rfl⟩
theorem vm_mR_countsBy : VM mR_countsBy 3 := ⟨⟨⟨by decide +kernel, by decide +kernel⟩, by decide +kernel, by decide, inG (tin_1 _ (List.mem_of_getElem? (i := 9) rfl)) rfl, inG (tin_6 _ (List.mem_of_getElem? (i := 181) rfl)) rfl⟩, inG (tin_6 _ (List.mem_of_getElem? (i := 180) rfl)) rfl, inG (tin_0 _ (List.mem_of_getElem? (i := 63) rfl)) rfl⟩
theorem vm_mR_gives : VM mR_gives 1 := ⟨⟨⟨by decide +kernel, by decide +kernel⟩, by decide +kernel, by decide, inG (tin_1 _ (List.mem_of_getElem? (i := 9) rfl)) rfl, inG (tin_6 _ (List.mem_of_getElem? (i := 185) rfl)) rfl⟩, inG (tin_6 _ (List.mem_of_getElem? (i := 184) rfl)) rfl, inG (tin_0 _ (List.mem_of_getElem? (i := 64) rfl)) rfl⟩
theorem vm_mR_worked : VM mR_worked 3 := ⟨⟨⟨by decide +kernel, by decide +kernel⟩, by decide +kernel, by decide, inG (tin_1 _ (List.mem_of_getElem? (i := 9) rfl)) rfl, inG (tin_6 _ (List.mem_of_getElem? (i := 189) rfl)) rfl⟩, inG (tin_6 _ (List.mem_of_getElem? (i := 188) rfl)) rfl, inG (tin_0 _ (List.mem_of_getElem? (i := 65) rfl)) rfl⟩
theorem vm_mR_twoOf : SM mR_twoOf 3 := ⟨⟨⟨by decide +kernel, by decide +kernel⟩, by decide +kernel, by decide, inG (tin_1 _ (List.mem_of_getElem? (i := 9) rfl)) rfl, inG (tin_6 _ (List.mem_of_getElem? (i := 192) rfl)) rfl⟩, inG (tin_6 _ (List.mem_of_getElem? (i := 191) rfl)) rfl⟩
theorem vm_mR_ways : VM mR_ways 1 := ⟨⟨⟨by decide +kernel, by decide +kernel⟩, by decide +kernel, by decide, inG (tin_1 _ (List.mem_of_getElem? (i := 9) rfl)) rfl, inG (tin_6 _ (List.mem_of_getElem? (i := 196) rfl)) rfl⟩, inG (tin_6 _ (List.mem_of_getElem? (i := 194) rfl)) rfl, inG (tin_6 _ (List.mem_of_getElem? (i := 195) rfl)) rfl⟩
theorem vm_mR_findWays : VM mR_findWays 0 := ⟨⟨⟨by decide +kernel, by decide +kernel⟩, by decide +kernel, by decide, inG (tin_1 _ (List.mem_of_getElem? (i := 9) rfl)) rfl, inG (tin_6 _ (List.mem_of_getElem? (i := 201) rfl)) rfl⟩, inG (tin_6 _ (List.mem_of_getElem? (i := 200) rfl)) rfl, inG (tin_0 _ (List.mem_of_getElem? (i := 66) rfl)) rfl⟩
theorem vm_mR_findBy : VM mR_findBy 0 := ⟨⟨⟨by decide +kernel, by decide +kernel⟩, by decide +kernel, by decide, inG (tin_1 _ (List.mem_of_getElem? (i := 9) rfl)) rfl, inG (tin_6 _ (List.mem_of_getElem? (i := 205) rfl)) rfl⟩, inG (tin_6 _ (List.mem_of_getElem? (i := 204) rfl)) rfl, inG (tin_0 _ (List.mem_of_getElem? (i := 67) rfl)) rfl⟩
theorem vm_mR_goWays : VM mR_goWays 4 := ⟨⟨⟨by decide +kernel, by decide +kernel⟩, by decide +kernel, by decide, inG (tin_1 _ (List.mem_of_getElem? (i := 9) rfl)) rfl, inG (tin_6 _ (List.mem_of_getElem? (i := 209) rfl)) rfl⟩, inG (tin_6 _ (List.mem_of_getElem? (i := 208) rfl)) rfl, inG (tin_0 _ (List.mem_of_getElem? (i := 68) rfl)) rfl⟩
theorem vm_mR_meets : VM mR_meets 1 := ⟨⟨⟨by decide +kernel, by decide +kernel⟩, by decide +kernel, by decide, inG (tin_1 _ (List.mem_of_getElem? (i := 9) rfl)) rfl, inG (tin_6 _ (List.mem_of_getElem? (i := 213) rfl)) rfl⟩, inG (tin_6 _ (List.mem_of_getElem? (i := 212) rfl)) rfl, inG (tin_0 _ (List.mem_of_getElem? (i := 69) rfl)) rfl⟩
theorem vm_mR_likely : VM mR_likely 3 := ⟨⟨⟨by decide +kernel, by decide +kernel⟩, by decide +kernel, by decide, inG (tin_1 _ (List.mem_of_getElem? (i := 9) rfl)) rfl, inG (tin_6 _ (List.mem_of_getElem? (i := 217) rfl)) rfl⟩, inG (tin_6 _ (List.mem_of_getElem? (i := 215) rfl)) rfl, inG (tin_6 _ (List.mem_of_getElem? (i := 216) rfl)) rfl⟩
theorem vm_mR_lowest : SM mR_lowest 3 := ⟨⟨⟨by decide +kernel, by decide +kernel⟩, by decide +kernel, by decide, inG (tin_1 _ (List.mem_of_getElem? (i := 9) rfl)) rfl, inG (tin_6 _ (List.mem_of_getElem? (i := 220) rfl)) rfl⟩, inG (tin_6 _ (List.mem_of_getElem? (i := 219) rfl)) rfl⟩
theorem vm_mR_best : VM mR_best 1 := ⟨⟨⟨by decide +kernel, by decide +kernel⟩, by decide +kernel, by decide, inG (tin_1 _ (List.mem_of_getElem? (i := 9) rfl)) rfl, inG (tin_6 _ (List.mem_of_getElem? (i := 224) rfl)) rfl⟩, inG (tin_6 _ (List.mem_of_getElem? (i := 222) rfl)) rfl, inG (tin_6 _ (List.mem_of_getElem? (i := 223) rfl)) rfl⟩
theorem vm_mR_sure : VM mR_sure 1 := ⟨⟨⟨by decide +kernel, by decide +kernel⟩, by decide +kernel, by decide, inG (tin_1 _ (List.mem_of_getElem? (i := 9) rfl)) rfl, inG (tin_6 _ (List.mem_of_getElem? (i := 229) rfl)) rfl⟩, inG (tin_6 _ (List.mem_of_getElem? (i := 227) rfl)) rfl, inG (tin_6 _ (List.mem_of_getElem? (i := 228) rfl)) rfl⟩
theorem vm_mR_look : VM mR_look 1 := ⟨⟨⟨by decide +kernel, by decide +kernel⟩, by decide +kernel, by decide, inG (tin_1 _ (List.mem_of_getElem? (i := 9) rfl)) rfl, inG (tin_6 _ (List.mem_of_getElem? (i := 233) rfl)) rfl⟩, inG (tin_6 _ (List.mem_of_getElem? (i := 231) rfl)) rfl, inG (tin_6 _ (List.mem_of_getElem? (i := 232) rfl)) rfl⟩
theorem vm_mR_tryLook : VM mR_tryLook 2 := ⟨⟨⟨by decide +kernel, by decide +kernel⟩, by decide +kernel, by decide, inG (tin_1 _ (List.mem_of_getElem? (i := 9) rfl)) rfl, inG (tin_6 _ (List.mem_of_getElem? (i := 237) rfl)) rfl⟩, inG (tin_6 _ (List.mem_of_getElem? (i := 236) rfl)) rfl, inG (tin_0 _ (List.mem_of_getElem? (i := 70) rfl)) rfl⟩
theorem vm_mR_waysNow : VM mR_waysNow 0 := ⟨⟨⟨by decide +kernel, by decide +kernel⟩, by decide +kernel, by decide, inG (tin_1 _ (List.mem_of_getElem? (i := 9) rfl)) rfl, inG (tin_7 _ (List.mem_of_getElem? (i := 1) rfl)) rfl⟩, inG (tin_7 _ (List.mem_of_getElem? (i := 0) rfl)) rfl, inG (tin_0 _ (List.mem_of_getElem? (i := 71) rfl)) rfl⟩
theorem vm_mR_question : VM mR_question 3 := ⟨⟨⟨by decide +kernel, by decide +kernel⟩, by decide +kernel, by decide, inG (tin_1 _ (List.mem_of_getElem? (i := 9) rfl)) rfl, inG (tin_7 _ (List.mem_of_getElem? (i := 5) rfl)) rfl⟩, inG (tin_7 _ (List.mem_of_getElem? (i := 3) rfl)) rfl, inG (tin_7 _ (List.mem_of_getElem? (i := 4) rfl)) rfl⟩
theorem vm_mR_waysIf : VM mR_waysIf 2 := ⟨⟨⟨by decide +kernel, by decide +kernel⟩, by decide +kernel, by decide, inG (tin_1 _ (List.mem_of_getElem? (i := 9) rfl)) rfl, inG (tin_7 _ (List.mem_of_getElem? (i := 9) rfl)) rfl⟩, inG (tin_7 _ (List.mem_of_getElem? (i := 8) rfl)) rfl, inG (tin_0 _ (List.mem_of_getElem? (i := 72) rfl)) rfl⟩
theorem vm_mR_whom : VM mR_whom 1 := ⟨⟨⟨by decide +kernel, by decide +kernel⟩, by decide +kernel, by decide, inG (tin_1 _ (List.mem_of_getElem? (i := 9) rfl)) rfl, inG (tin_7 _ (List.mem_of_getElem? (i := 13) rfl)) rfl⟩, inG (tin_7 _ (List.mem_of_getElem? (i := 11) rfl)) rfl, inG (tin_7 _ (List.mem_of_getElem? (i := 12) rfl)) rfl⟩
theorem vm_mR_guess : VM mR_guess 3 := ⟨⟨⟨by decide +kernel, by decide +kernel⟩, by decide +kernel, by decide, inG (tin_1 _ (List.mem_of_getElem? (i := 9) rfl)) rfl, inG (tin_7 _ (List.mem_of_getElem? (i := 17) rfl)) rfl⟩, inG (tin_7 _ (List.mem_of_getElem? (i := 15) rfl)) rfl, inG (tin_7 _ (List.mem_of_getElem? (i := 16) rfl)) rfl⟩
theorem vm_mR_guessNow : VM mR_guessNow 1 := ⟨⟨⟨by decide +kernel, by decide +kernel⟩, by decide +kernel, by decide, inG (tin_1 _ (List.mem_of_getElem? (i := 9) rfl)) rfl, inG (tin_7 _ (List.mem_of_getElem? (i := 21) rfl)) rfl⟩, inG (tin_7 _ (List.mem_of_getElem? (i := 20) rfl)) rfl, inG (tin_0 _ (List.mem_of_getElem? (i := 73) rfl)) rfl⟩
theorem vm_mR_worthNow : VM mR_worthNow 2 := ⟨⟨⟨by decide +kernel, by decide +kernel⟩, by decide +kernel, by decide, inG (tin_1 _ (List.mem_of_getElem? (i := 9) rfl)) rfl, inG (tin_7 _ (List.mem_of_getElem? (i := 25) rfl)) rfl⟩, inG (tin_7 _ (List.mem_of_getElem? (i := 24) rfl)) rfl, inG (tin_0 _ (List.mem_of_getElem? (i := 74) rfl)) rfl⟩
theorem vm_mR_pointsAt : VM mR_pointsAt 1 := ⟨⟨⟨by decide +kernel, by decide +kernel⟩, by decide +kernel, by decide, inG (tin_1 _ (List.mem_of_getElem? (i := 9) rfl)) rfl, inG (tin_7 _ (List.mem_of_getElem? (i := 29) rfl)) rfl⟩, inG (tin_7 _ (List.mem_of_getElem? (i := 28) rfl)) rfl, inG (tin_0 _ (List.mem_of_getElem? (i := 75) rfl)) rfl⟩
theorem vm_mR_shareOf : SM mR_shareOf 3 := ⟨⟨⟨by decide +kernel, by decide +kernel⟩, by decide +kernel, by decide, inG (tin_1 _ (List.mem_of_getElem? (i := 9) rfl)) rfl, inG (tin_7 _ (List.mem_of_getElem? (i := 32) rfl)) rfl⟩, inG (tin_7 _ (List.mem_of_getElem? (i := 31) rfl)) rfl⟩
theorem vm_mR_lacks : VM mR_lacks 2 := ⟨⟨⟨by decide +kernel, by decide +kernel⟩, by decide +kernel, by decide, inG (tin_1 _ (List.mem_of_getElem? (i := 9) rfl)) rfl, inG (tin_7 _ (List.mem_of_getElem? (i := 37) rfl)) rfl⟩, inG (tin_7 _ (List.mem_of_getElem? (i := 35) rfl)) rfl, inG (tin_7 _ (List.mem_of_getElem? (i := 36) rfl)) rfl⟩
theorem vm_mR_parts : VM mR_parts 1 := ⟨⟨⟨by decide +kernel, by decide +kernel⟩, by decide +kernel, by decide, inG (tin_1 _ (List.mem_of_getElem? (i := 9) rfl)) rfl, inG (tin_7 _ (List.mem_of_getElem? (i := 41) rfl)) rfl⟩, inG (tin_7 _ (List.mem_of_getElem? (i := 39) rfl)) rfl, inG (tin_7 _ (List.mem_of_getElem? (i := 40) rfl)) rfl⟩
theorem vm_mR_areLike : VM mR_areLike 3 := ⟨⟨⟨by decide +kernel, by decide +kernel⟩, by decide +kernel, by decide, inG (tin_1 _ (List.mem_of_getElem? (i := 9) rfl)) rfl, inG (tin_7 _ (List.mem_of_getElem? (i := 45) rfl)) rfl⟩, inG (tin_7 _ (List.mem_of_getElem? (i := 44) rfl)) rfl, inG (tin_0 _ (List.mem_of_getElem? (i := 76) rfl)) rfl⟩
theorem vm_mR_allDiffer : VM mR_allDiffer 1 := ⟨⟨⟨by decide +kernel, by decide +kernel⟩, by decide +kernel, by decide, inG (tin_1 _ (List.mem_of_getElem? (i := 9) rfl)) rfl, inG (tin_7 _ (List.mem_of_getElem? (i := 49) rfl)) rfl⟩, inG (tin_7 _ (List.mem_of_getElem? (i := 48) rfl)) rfl, inG (tin_0 _ (List.mem_of_getElem? (i := 77) rfl)) rfl⟩
theorem vm_mR_bitsOf : SM mR_bitsOf 1 := ⟨⟨⟨by decide +kernel, by decide +kernel⟩, by decide +kernel, by decide, inG (tin_1 _ (List.mem_of_getElem? (i := 9) rfl)) rfl, inG (tin_7 _ (List.mem_of_getElem? (i := 52) rfl)) rfl⟩, inG (tin_7 _ (List.mem_of_getElem? (i := 51) rfl)) rfl⟩
theorem vm_mR_truth : VM mR_truth 2 := ⟨⟨⟨by decide +kernel, by decide +kernel⟩, by decide +kernel, by decide, inG (tin_1 _ (List.mem_of_getElem? (i := 9) rfl)) rfl, inG (tin_7 _ (List.mem_of_getElem? (i := 56) rfl)) rfl⟩, inG (tin_7 _ (List.mem_of_getElem? (i := 54) rfl)) rfl, inG (tin_7 _ (List.mem_of_getElem? (i := 55) rfl)) rfl⟩
theorem vm_mR_rowFault : VM mR_rowFault 1 := ⟨⟨⟨by decide +kernel, by decide +kernel⟩, by decide +kernel, by decide, inG (tin_1 _ (List.mem_of_getElem? (i := 9) rfl)) rfl, inG (tin_7 _ (List.mem_of_getElem? (i := 60) rfl)) rfl⟩, inG (tin_7 _ (List.mem_of_getElem? (i := 59) rfl)) rfl, inG (tin_0 _ (List.mem_of_getElem? (i := 78) rfl)) rfl⟩
theorem vm_mR_layTruth : VM mR_layTruth 1 := ⟨⟨⟨by decide +kernel, by decide +kernel⟩, by decide +kernel, by decide, inG (tin_1 _ (List.mem_of_getElem? (i := 9) rfl)) rfl, inG (tin_7 _ (List.mem_of_getElem? (i := 64) rfl)) rfl⟩, inG (tin_7 _ (List.mem_of_getElem? (i := 63) rfl)) rfl, inG (tin_0 _ (List.mem_of_getElem? (i := 79) rfl)) rfl⟩
theorem vm_mR_at : VM mR_at 2 := ⟨⟨⟨by decide +kernel, by decide +kernel⟩, by decide +kernel, by decide, inG (tin_1 _ (List.mem_of_getElem? (i := 9) rfl)) rfl, inG (tin_7 _ (List.mem_of_getElem? (i := 68) rfl)) rfl⟩, inG (tin_7 _ (List.mem_of_getElem? (i := 67) rfl)) rfl, inG (tin_0 _ (List.mem_of_getElem? (i := 80) rfl)) rfl⟩
theorem vm_mR_truthCounts : VM mR_truthCounts 0 := ⟨⟨⟨by decide +kernel, by decide +kernel⟩, by decide +kernel, by decide, inG (tin_1 _ (List.mem_of_getElem? (i := 9) rfl)) rfl, inG (tin_7 _ (List.mem_of_getElem? (i := 72) rfl)) rfl⟩, inG (tin_7 _ (List.mem_of_getElem? (i := 71) rfl)) rfl, inG (tin_0 _ (List.mem_of_getElem? (i := 81) rfl)) rfl⟩
theorem vm_mR_foundOut : VM mR_foundOut 0 := ⟨⟨⟨by decide +kernel, by decide +kernel⟩, by decide +kernel, by decide, inG (tin_1 _ (List.mem_of_getElem? (i := 9) rfl)) rfl, inG (tin_7 _ (List.mem_of_getElem? (i := 76) rfl)) rfl⟩, inG (tin_7 _ (List.mem_of_getElem? (i := 75) rfl)) rfl, inG (tin_0 _ (List.mem_of_getElem? (i := 82) rfl)) rfl⟩
theorem vm_mR_feign : VM mR_feign 3 := ⟨⟨⟨by decide +kernel, by decide +kernel⟩, by decide +kernel, by decide, inG (tin_1 _ (List.mem_of_getElem? (i := 9) rfl)) rfl, inG (tin_7 _ (List.mem_of_getElem? (i := 80) rfl)) rfl⟩, inG (tin_7 _ (List.mem_of_getElem? (i := 78) rfl)) rfl, inG (tin_7 _ (List.mem_of_getElem? (i := 79) rfl)) rfl⟩
theorem vm_mR_maskOf : VM mR_maskOf 1 := ⟨⟨⟨by decide +kernel, by decide +kernel⟩, by decide +kernel, by decide, inG (tin_1 _ (List.mem_of_getElem? (i := 9) rfl)) rfl, inG (tin_7 _ (List.mem_of_getElem? (i := 84) rfl)) rfl⟩, inG (tin_7 _ (List.mem_of_getElem? (i := 83) rfl)) rfl, inG (tin_0 _ (List.mem_of_getElem? (i := 83) rfl)) rfl⟩
theorem vm_mR_thousandths : VM mR_thousandths 2 := ⟨⟨⟨by decide +kernel, by decide +kernel⟩, by decide +kernel, by decide, inG (tin_1 _ (List.mem_of_getElem? (i := 9) rfl)) rfl, inG (tin_7 _ (List.mem_of_getElem? (i := 88) rfl)) rfl⟩, inG (tin_7 _ (List.mem_of_getElem? (i := 87) rfl)) rfl, inG (tin_0 _ (List.mem_of_getElem? (i := 84) rfl)) rfl⟩
theorem vm_mR_change : VM mR_change 1 := ⟨⟨⟨by decide +kernel, by decide +kernel⟩, by decide +kernel, by decide, inG (tin_1 _ (List.mem_of_getElem? (i := 9) rfl)) rfl, inG (tin_7 _ (List.mem_of_getElem? (i := 92) rfl)) rfl⟩, inG (tin_7 _ (List.mem_of_getElem? (i := 90) rfl)) rfl, inG (tin_7 _ (List.mem_of_getElem? (i := 91) rfl)) rfl⟩
theorem vm_mR_exchange : VM mR_exchange 2 := ⟨⟨⟨by decide +kernel, by decide +kernel⟩, by decide +kernel, by decide, inG (tin_1 _ (List.mem_of_getElem? (i := 9) rfl)) rfl, inG (tin_7 _ (List.mem_of_getElem? (i := 96) rfl)) rfl⟩, inG (tin_7 _ (List.mem_of_getElem? (i := 95) rfl)) rfl, inG (tin_0 _ (List.mem_of_getElem? (i := 85) rfl)) rfl⟩
theorem vm_mR_right : VM mR_right 1 := ⟨⟨⟨by decide +kernel, by decide +kernel⟩, by decide +kernel, by decide, inG (tin_1 _ (List.mem_of_getElem? (i := 9) rfl)) rfl, inG (tin_7 _ (List.mem_of_getElem? (i := 100) rfl)) rfl⟩, inG (tin_7 _ (List.mem_of_getElem? (i := 98) rfl)) rfl, inG (tin_7 _ (List.mem_of_getElem? (i := 99) rfl)) rfl⟩
theorem vm_mR_cards : VM mR_cards 2 := ⟨⟨⟨by decide +kernel, by decide +kernel⟩, by decide +kernel, by decide, inG (tin_1 _ (List.mem_of_getElem? (i := 9) rfl)) rfl, inG (tin_7 _ (List.mem_of_getElem? (i := 104) rfl)) rfl⟩, inG (tin_7 _ (List.mem_of_getElem? (i := 102) rfl)) rfl, inG (tin_7 _ (List.mem_of_getElem? (i := 103) rfl)) rfl⟩
theorem vm_mR_dances : VM mR_dances 2 := ⟨⟨⟨by decide +kernel, by decide +kernel⟩, by decide +kernel, by decide, inG (tin_1 _ (List.mem_of_getElem? (i := 9) rfl)) rfl, inG (tin_7 _ (List.mem_of_getElem? (i := 108) rfl)) rfl⟩, inG (tin_7 _ (List.mem_of_getElem? (i := 106) rfl)) rfl, inG (tin_7 _ (List.mem_of_getElem? (i := 107) rfl)) rfl⟩
theorem vm_mR_layDances : VM mR_layDances 1 := ⟨⟨⟨by decide +kernel, by decide +kernel⟩, by decide +kernel, by decide, inG (tin_1 _ (List.mem_of_getElem? (i := 9) rfl)) rfl, inG (tin_7 _ (List.mem_of_getElem? (i := 112) rfl)) rfl⟩, inG (tin_7 _ (List.mem_of_getElem? (i := 111) rfl)) rfl, inG (tin_0 _ (List.mem_of_getElem? (i := 86) rfl)) rfl⟩
theorem vm_mR_avoid : VM mR_avoid 2 := ⟨⟨⟨by decide +kernel, by decide +kernel⟩, by decide +kernel, by decide, inG (tin_1 _ (List.mem_of_getElem? (i := 9) rfl)) rfl, inG (tin_7 _ (List.mem_of_getElem? (i := 116) rfl)) rfl⟩, inG (tin_7 _ (List.mem_of_getElem? (i := 114) rfl)) rfl, inG (tin_7 _ (List.mem_of_getElem? (i := 115) rfl)) rfl⟩
theorem vm_mR_dancesOf : VM mR_dancesOf 1 := ⟨⟨⟨by decide +kernel, by decide +kernel⟩, by decide +kernel, by decide, inG (tin_1 _ (List.mem_of_getElem? (i := 9) rfl)) rfl, inG (tin_7 _ (List.mem_of_getElem? (i := 120) rfl)) rfl⟩, inG (tin_7 _ (List.mem_of_getElem? (i := 119) rfl)) rfl, inG (tin_0 _ (List.mem_of_getElem? (i := 87) rfl)) rfl⟩
theorem vm_mR_favourite : VM mR_favourite 2 := ⟨⟨⟨by decide +kernel, by decide +kernel⟩, by decide +kernel, by decide, inG (tin_1 _ (List.mem_of_getElem? (i := 9) rfl)) rfl, inG (tin_7 _ (List.mem_of_getElem? (i := 124) rfl)) rfl⟩, inG (tin_7 _ (List.mem_of_getElem? (i := 122) rfl)) rfl, inG (tin_7 _ (List.mem_of_getElem? (i := 123) rfl)) rfl⟩
theorem vm_mR_drawn : VM mR_drawn 4 := ⟨⟨⟨by decide +kernel, by decide +kernel⟩, by decide +kernel, by decide, inG (tin_1 _ (List.mem_of_getElem? (i := 9) rfl)) rfl, inG (tin_7 _ (List.mem_of_getElem? (i := 128) rfl)) rfl⟩, inG (tin_7 _ (List.mem_of_getElem? (i := 126) rfl)) rfl, inG (tin_7 _ (List.mem_of_getElem? (i := 127) rfl)) rfl⟩
theorem vm_mR_bitAt : SM mR_bitAt 2 := ⟨⟨⟨by decide +kernel, by decide +kernel⟩, by decide +kernel, by decide, inG (tin_1 _ (List.mem_of_getElem? (i := 9) rfl)) rfl, inG (tin_7 _ (List.mem_of_getElem? (i := 132) rfl)) rfl⟩, inG (tin_7 _ (List.mem_of_getElem? (i := 131) rfl)) rfl⟩
theorem vm_mR_behind : VM mR_behind 2 := ⟨⟨⟨by decide +kernel, by decide +kernel⟩, by decide +kernel, by decide, inG (tin_1 _ (List.mem_of_getElem? (i := 9) rfl)) rfl, inG (tin_7 _ (List.mem_of_getElem? (i := 136) rfl)) rfl⟩, inG (tin_7 _ (List.mem_of_getElem? (i := 134) rfl)) rfl, inG (tin_7 _ (List.mem_of_getElem? (i := 135) rfl)) rfl⟩
theorem vm_mR_dance : VM mR_dance 1 := ⟨⟨⟨by decide +kernel, by decide +kernel⟩, by decide +kernel, by decide, inG (tin_1 _ (List.mem_of_getElem? (i := 9) rfl)) rfl, inG (tin_7 _ (List.mem_of_getElem? (i := 140) rfl)) rfl⟩, inG (tin_7 _ (List.mem_of_getElem? (i := 138) rfl)) rfl, inG (tin_7 _ (List.mem_of_getElem? (i := 139) rfl)) rfl⟩
theorem vm_mR_swap : VM mR_swap 1 := ⟨⟨⟨by decide +kernel, by decide +kernel⟩, by decide +kernel, by decide, inG (tin_1 _ (List.mem_of_getElem? (i := 9) rfl)) rfl, inG (tin_7 _ (List.mem_of_getElem? (i := 144) rfl)) rfl⟩, inG (tin_7 _ (List.mem_of_getElem? (i := 142) rfl)) rfl, inG (tin_7 _ (List.mem_of_getElem? (i := 143) rfl)) rfl⟩
theorem vm_mR_bet : VM mR_bet 2 := ⟨⟨⟨by decide +kernel, by decide +kernel⟩, by decide +kernel, by decide, inG (tin_1 _ (List.mem_of_getElem? (i := 9) rfl)) rfl, inG (tin_7 _ (List.mem_of_getElem? (i := 148) rfl)) rfl⟩, inG (tin_7 _ (List.mem_of_getElem? (i := 146) rfl)) rfl, inG (tin_7 _ (List.mem_of_getElem? (i := 147) rfl)) rfl⟩
theorem vm_mR_led : VM mR_led 1 := ⟨⟨⟨by decide +kernel, by decide +kernel⟩, by decide +kernel, by decide, inG (tin_1 _ (List.mem_of_getElem? (i := 9) rfl)) rfl, inG (tin_7 _ (List.mem_of_getElem? (i := 152) rfl)) rfl⟩, inG (tin_7 _ (List.mem_of_getElem? (i := 150) rfl)) rfl, inG (tin_7 _ (List.mem_of_getElem? (i := 151) rfl)) rfl⟩
theorem vm_mR_image : VM mR_image 0 := ⟨⟨⟨by decide +kernel, by decide +kernel⟩, by decide +kernel, by decide, inG (tin_1 _ (List.mem_of_getElem? (i := 9) rfl)) rfl, inG (tin_7 _ (List.mem_of_getElem? (i := 156) rfl)) rfl⟩, inG (tin_7 _ (List.mem_of_getElem? (i := 154) rfl)) rfl, inG (tin_7 _ (List.mem_of_getElem? (i := 155) rfl)) rfl⟩
theorem vm_mR_back : VM mR_back 0 := ⟨⟨⟨by decide +kernel, by decide +kernel⟩, by decide +kernel, by decide, inG (tin_1 _ (List.mem_of_getElem? (i := 9) rfl)) rfl, inG (tin_7 _ (List.mem_of_getElem? (i := 160) rfl)) rfl⟩, inG (tin_7 _ (List.mem_of_getElem? (i := 158) rfl)) rfl, inG (tin_7 _ (List.mem_of_getElem? (i := 159) rfl)) rfl⟩
theorem vm_mR_trace : VM mR_trace 1 := ⟨⟨⟨by decide +kernel, by decide +kernel⟩, by decide +kernel, by decide, inG (tin_1 _ (List.mem_of_getElem? (i := 9) rfl)) rfl, inG (tin_7 _ (List.mem_of_getElem? (i := 164) rfl)) rfl⟩, inG (tin_7 _ (List.mem_of_getElem? (i := 162) rfl)) rfl, inG (tin_7 _ (List.mem_of_getElem? (i := 163) rfl)) rfl⟩
theorem vm_mR_body : VM mR_body 1 := ⟨⟨⟨by decide +kernel, by decide +kernel⟩, by decide +kernel, by decide, inG (tin_1 _ (List.mem_of_getElem? (i := 9) rfl)) rfl, inG (tin_7 _ (List.mem_of_getElem? (i := 168) rfl)) rfl⟩, inG (tin_7 _ (List.mem_of_getElem? (i := 166) rfl)) rfl, inG (tin_7 _ (List.mem_of_getElem? (i := 167) rfl)) rfl⟩
theorem vm_mR_act : VM mR_act 3 := ⟨⟨⟨by decide +kernel, by decide +kernel⟩, by decide +kernel, by decide, inG (tin_1 _ (List.mem_of_getElem? (i := 9) rfl)) rfl, inG (tin_7 _ (List.mem_of_getElem? (i := 172) rfl)) rfl⟩, inG (tin_7 _ (List.mem_of_getElem? (i := 170) rfl)) rfl, inG (tin_7 _ (List.mem_of_getElem? (i := 171) rfl)) rfl⟩
theorem vm_mR_isBody : VM mR_isBody 1 := ⟨⟨⟨by decide +kernel, by decide +kernel⟩, by decide +kernel, by decide, inG (tin_1 _ (List.mem_of_getElem? (i := 9) rfl)) rfl, inG (tin_7 _ (List.mem_of_getElem? (i := 176) rfl)) rfl⟩, inG (tin_7 _ (List.mem_of_getElem? (i := 175) rfl)) rfl, inG (tin_0 _ (List.mem_of_getElem? (i := 88) rfl)) rfl⟩
theorem vm_mR_showing : VM mR_showing 2 := ⟨⟨⟨by decide +kernel, by decide +kernel⟩, by decide +kernel, by decide, inG (tin_1 _ (List.mem_of_getElem? (i := 9) rfl)) rfl, inG (tin_7 _ (List.mem_of_getElem? (i := 180) rfl)) rfl⟩, inG (tin_7 _ (List.mem_of_getElem? (i := 179) rfl)) rfl, inG (tin_0 _ (List.mem_of_getElem? (i := 89) rfl)) rfl⟩
theorem vm_mR_isUnder : SM mR_isUnder 2 := ⟨⟨⟨by decide +kernel, by decide +kernel⟩, by decide +kernel, by decide, inG (tin_1 _ (List.mem_of_getElem? (i := 9) rfl)) rfl, inG (tin_7 _ (List.mem_of_getElem? (i := 183) rfl)) rfl⟩, inG (tin_7 _ (List.mem_of_getElem? (i := 182) rfl)) rfl⟩
theorem vm_mR_ran : VM mR_ran 1 := ⟨⟨⟨by decide +kernel, by decide +kernel⟩, by decide +kernel, by decide, inG (tin_1 _ (List.mem_of_getElem? (i := 9) rfl)) rfl, inG (tin_7 _ (List.mem_of_getElem? (i := 187) rfl)) rfl⟩, inG (tin_7 _ (List.mem_of_getElem? (i := 186) rfl)) rfl, inG (tin_0 _ (List.mem_of_getElem? (i := 90) rfl)) rfl⟩
theorem vm_mR_plainShows : VM mR_plainShows 2 := ⟨⟨⟨by decide +kernel, by decide +kernel⟩, by decide +kernel, by decide, inG (tin_1 _ (List.mem_of_getElem? (i := 9) rfl)) rfl, inG (tin_7 _ (List.mem_of_getElem? (i := 191) rfl)) rfl⟩, inG (tin_7 _ (List.mem_of_getElem? (i := 190) rfl)) rfl, inG (tin_0 _ (List.mem_of_getElem? (i := 91) rfl)) rfl⟩
theorem vm_mR_absentShows : VM mR_absentShows 2 := ⟨⟨⟨by decide +kernel, by decide +kernel⟩, by decide +kernel, by decide, inG (tin_1 _ (List.mem_of_getElem? (i := 9) rfl)) rfl, inG (tin_7 _ (List.mem_of_getElem? (i := 195) rfl)) rfl⟩, inG (tin_7 _ (List.mem_of_getElem? (i := 194) rfl)) rfl, inG (tin_0 _ (List.mem_of_getElem? (i := 92) rfl)) rfl⟩
theorem vm_mR_asking : VM mR_asking 2 := ⟨⟨⟨by decide +kernel, by decide +kernel⟩, by decide +kernel, by decide, inG (tin_1 _ (List.mem_of_getElem? (i := 9) rfl)) rfl, inG (tin_7 _ (List.mem_of_getElem? (i := 199) rfl)) rfl⟩, inG (tin_7 _ (List.mem_of_getElem? (i := 198) rfl)) rfl, inG (tin_0 _ (List.mem_of_getElem? (i := 93) rfl)) rfl⟩
theorem vm_mR_feignedAsks : VM mR_feignedAsks 2 := ⟨⟨⟨by decide +kernel, by decide +kernel⟩, by decide +kernel, by decide, inG (tin_1 _ (List.mem_of_getElem? (i := 9) rfl)) rfl, inG (tin_7 _ (List.mem_of_getElem? (i := 203) rfl)) rfl⟩, inG (tin_7 _ (List.mem_of_getElem? (i := 202) rfl)) rfl, inG (tin_0 _ (List.mem_of_getElem? (i := 94) rfl)) rfl⟩
theorem vm_mR_plainAsks : VM mR_plainAsks 2 := ⟨⟨⟨by decide +kernel, by decide +kernel⟩, by decide +kernel, by decide, inG (tin_1 _ (List.mem_of_getElem? (i := 9) rfl)) rfl, inG (tin_7 _ (List.mem_of_getElem? (i := 207) rfl)) rfl⟩, inG (tin_7 _ (List.mem_of_getElem? (i := 206) rfl)) rfl, inG (tin_0 _ (List.mem_of_getElem? (i := 95) rfl)) rfl⟩
theorem vm_mR_believing : VM mR_believing 2 := ⟨⟨⟨by decide +kernel, by decide +kernel⟩, by decide +kernel, by decide, inG (tin_1 _ (List.mem_of_getElem? (i := 9) rfl)) rfl, inG (tin_7 _ (List.mem_of_getElem? (i := 211) rfl)) rfl⟩, inG (tin_7 _ (List.mem_of_getElem? (i := 210) rfl)) rfl, inG (tin_0 _ (List.mem_of_getElem? (i := 96) rfl)) rfl⟩
theorem vm_mR_borrowedBelieves : VM mR_borrowedBelieves 2 := ⟨⟨⟨by decide +kernel, by decide +kernel⟩, by decide +kernel, by decide, inG (tin_1 _ (List.mem_of_getElem? (i := 9) rfl)) rfl, inG (tin_7 _ (List.mem_of_getElem? (i := 215) rfl)) rfl⟩, inG (tin_7 _ (List.mem_of_getElem? (i := 214) rfl)) rfl, inG (tin_0 _ (List.mem_of_getElem? (i := 97) rfl)) rfl⟩
theorem vm_mR_plainBelieves : VM mR_plainBelieves 2 := ⟨⟨⟨by decide +kernel, by decide +kernel⟩, by decide +kernel, by decide, inG (tin_1 _ (List.mem_of_getElem? (i := 9) rfl)) rfl, inG (tin_7 _ (List.mem_of_getElem? (i := 219) rfl)) rfl⟩, inG (tin_7 _ (List.mem_of_getElem? (i := 218) rfl)) rfl, inG (tin_0 _ (List.mem_of_getElem? (i := 98) rfl)) rfl⟩
theorem vm_mR_telling : VM mR_telling 2 := ⟨⟨⟨by decide +kernel, by decide +kernel⟩, by decide +kernel, by decide, inG (tin_1 _ (List.mem_of_getElem? (i := 9) rfl)) rfl, inG (tin_7 _ (List.mem_of_getElem? (i := 223) rfl)) rfl⟩, inG (tin_7 _ (List.mem_of_getElem? (i := 222) rfl)) rfl, inG (tin_0 _ (List.mem_of_getElem? (i := 99) rfl)) rfl⟩
theorem vm_mR_plainTells : VM mR_plainTells 2 := ⟨⟨⟨by decide +kernel, by decide +kernel⟩, by decide +kernel, by decide, inG (tin_1 _ (List.mem_of_getElem? (i := 9) rfl)) rfl, inG (tin_7 _ (List.mem_of_getElem? (i := 227) rfl)) rfl⟩, inG (tin_7 _ (List.mem_of_getElem? (i := 226) rfl)) rfl, inG (tin_0 _ (List.mem_of_getElem? (i := 100) rfl)) rfl⟩
theorem vm_mR_count : VM mR_count 1 := ⟨⟨⟨by decide +kernel, by decide +kernel⟩, by decide +kernel, by decide, inG (tin_1 _ (List.mem_of_getElem? (i := 9) rfl)) rfl, inG (tin_7 _ (List.mem_of_getElem? (i := 231) rfl)) rfl⟩, inG (tin_7 _ (List.mem_of_getElem? (i := 229) rfl)) rfl, inG (tin_7 _ (List.mem_of_getElem? (i := 230) rfl)) rfl⟩
theorem vm_mR_keep : VM mR_keep 2 := ⟨⟨⟨by decide +kernel, by decide +kernel⟩, by decide +kernel, by decide, inG (tin_1 _ (List.mem_of_getElem? (i := 9) rfl)) rfl, inG (tin_7 _ (List.mem_of_getElem? (i := 235) rfl)) rfl⟩, inG (tin_7 _ (List.mem_of_getElem? (i := 233) rfl)) rfl, inG (tin_7 _ (List.mem_of_getElem? (i := 234) rfl)) rfl⟩
theorem vm_mR_row : VM mR_row 3 := ⟨⟨⟨by decide +kernel, by decide +kernel⟩, by decide +kernel, by decide, inG (tin_1 _ (List.mem_of_getElem? (i := 9) rfl)) rfl, inG (tin_7 _ (List.mem_of_getElem? (i := 239) rfl)) rfl⟩, inG (tin_7 _ (List.mem_of_getElem? (i := 237) rfl)) rfl, inG (tin_7 _ (List.mem_of_getElem? (i := 238) rfl)) rfl⟩
theorem vm_mR_put : VM mR_put 3 := ⟨⟨⟨by decide +kernel, by decide +kernel⟩, by decide +kernel, by decide, inG (tin_1 _ (List.mem_of_getElem? (i := 9) rfl)) rfl, inG (tin_8 _ (List.mem_of_getElem? (i := 3) rfl)) rfl⟩, inG (tin_8 _ (List.mem_of_getElem? (i := 1) rfl)) rfl, inG (tin_8 _ (List.mem_of_getElem? (i := 2) rfl)) rfl⟩
theorem vm_mR_whyNoPlace : VM mR_whyNoPlace 2 := ⟨⟨⟨by decide +kernel, by decide +kernel⟩, by decide +kernel, by decide, inG (tin_1 _ (List.mem_of_getElem? (i := 9) rfl)) rfl, inG (tin_8 _ (List.mem_of_getElem? (i := 7) rfl)) rfl⟩, inG (tin_8 _ (List.mem_of_getElem? (i := 6) rfl)) rfl, inG (tin_0 _ (List.mem_of_getElem? (i := 101) rfl)) rfl⟩
theorem vm_mR_element : VM mR_element 2 := ⟨⟨⟨by decide +kernel, by decide +kernel⟩, by decide +kernel, by decide, inG (tin_1 _ (List.mem_of_getElem? (i := 9) rfl)) rfl, inG (tin_8 _ (List.mem_of_getElem? (i := 11) rfl)) rfl⟩, inG (tin_8 _ (List.mem_of_getElem? (i := 9) rfl)) rfl, inG (tin_8 _ (List.mem_of_getElem? (i := 10) rfl)) rfl⟩
theorem vm_mR_shift : VM mR_shift 5 := ⟨⟨⟨by decide +kernel, by decide +kernel⟩, by decide +kernel, by decide, inG (tin_1 _ (List.mem_of_getElem? (i := 9) rfl)) rfl, inG (tin_8 _ (List.mem_of_getElem? (i := 15) rfl)) rfl⟩, inG (tin_8 _ (List.mem_of_getElem? (i := 13) rfl)) rfl, inG (tin_8 _ (List.mem_of_getElem? (i := 14) rfl)) rfl⟩
theorem vm_mR_taken : VM mR_taken 2 := ⟨⟨⟨by decide +kernel, by decide +kernel⟩, by decide +kernel, by decide, inG (tin_1 _ (List.mem_of_getElem? (i := 9) rfl)) rfl, inG (tin_8 _ (List.mem_of_getElem? (i := 19) rfl)) rfl⟩, inG (tin_8 _ (List.mem_of_getElem? (i := 17) rfl)) rfl, inG (tin_8 _ (List.mem_of_getElem? (i := 18) rfl)) rfl⟩
