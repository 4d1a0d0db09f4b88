/-! THE PURE LAYER: from here on no machine, only whole numbers. First: what a program's end satisfies -/
def WI (m : Option (Int × WD)) (Q : Int → WD → Prop) : Prop := ∃ r u, m = some (r, u) ∧ Q r u
def WV (m : Option WD) (Q : WD → Prop) : Prop := ∃ u, m = some u ∧ Q u
section
variable {Q Q' : Int → WD → Prop} {P P' : WD → Prop}
theorem i_some {r : Int} {u : WD} (h : Q r u) : WI (some (r, u)) Q := ⟨r, u, rfl, h⟩
theorem i_if {c : Prop} [Decidable c] {a b : Option (Int × WD)} (h1 : c → WI a Q) (h2 : ¬ c → WI b Q) : WI (if c then a else b) Q := by
  by_cases h : c
  · rw [if_pos h]; exact h1 h
  · rw [if_neg h]; exact h2 h
theorem i_ck {c : Prop} [Decidable c] {k : Option (Int × WD)} (h1 : c) (h2 : WI k Q) : WI (ck c k) Q := by unfold ck; rw [if_pos h1]; exact h2
theorem i_bv {v : Int} {k : Int → Option (Int × WD)} (h : WI (k v) Q) : WI (bv v k) Q := h
theorem i_bw {v : WD} {k : WD → Option (Int × WD)} (h : WI (k v) Q) : WI (bw v k) Q := h
theorem i_jn {β : Type} {R : β} {k : β → Option (Int × WD)} (h : WI (k R) Q) : WI (jn R k) Q := h
theorem i_ci {m : Option (Int × WD)} {k : Int → WD → Option (Int × WD)} (h : WI m (fun r u => WI (k r u) Q)) : WI (ci m k) Q := by
  obtain ⟨r, u, rfl, h⟩ := h
  exact h
theorem i_cv {m : Option WD} {k : WD → Option (Int × WD)} (h : WV m (fun u => WI (k u) Q)) : WI (cv m k) Q := by
  obtain ⟨u, rfl, h⟩ := h
  exact h
theorem i_mono {m : Option (Int × WD)} (h : WI m Q') (hq : ∀ r u, Q' r u → Q r u) : WI m Q := by
  obtain ⟨r, u, e, h⟩ := h
  exact ⟨r, u, e, hq r u h⟩
theorem v_some {u : WD} (h : P u) : WV (some u) P := ⟨u, rfl, h⟩
theorem v_if {c : Prop} [Decidable c] {a b : Option WD} (h1 : c → WV a P) (h2 : ¬ c → WV b P) : WV (if c then a else b) P := by
  by_cases h : c
  · rw [if_pos h]; exact h1 h
  · rw [if_neg h]; exact h2 h
theorem v_ck {c : Prop} [Decidable c] {k : Option WD} (h1 : c) (h2 : WV k P) : WV (ck c k) P := by unfold ck; rw [if_pos h1]; exact h2
theorem v_bv {v : Int} {k : Int → Option WD} (h : WV (k v) P) : WV (bv v k) P := h
theorem v_bw {v : WD} {k : WD → Option WD} (h : WV (k v) P) : WV (bw v k) P := h
theorem v_jn {β : Type} {R : β} {k : β → Option WD} (h : WV (k R) P) : WV (jn R k) P := h
theorem v_ci {m : Option (Int × WD)} {k : Int → WD → Option WD} (h : WI m (fun r u => WV (k r u) P)) : WV (ci m k) P := by
  obtain ⟨r, u, rfl, h⟩ := h
  exact h
theorem v_cv {m : Option WD} {k : WD → Option WD} (h : WV m (fun u => WV (k u) P)) : WV (cv m k) P := by
  obtain ⟨u, rfl, h⟩ := h
  exact h
theorem v_mono {m : Option WD} (h : WV m P') (hq : ∀ u, P' u → P u) : WV m P := by
  obtain ⟨u, e, h⟩ := h
  exact ⟨u, e, hq u h⟩
end
theorem i_eq {m : Option (Int × WD)} {r : Int} {u : WD} {Q : Int → WD → Prop} (e : m = some (r, u)) (h : Q r u) : WI m Q := ⟨r, u, e, h⟩
theorem v_eq {m : Option WD} {u : WD} {P : WD → Prop} (e : m = some u) (h : P u) : WV m P := ⟨u, e, h⟩
theorem same_of {Inv : WD → Prop} {f g : WD → R1} {w : WD} (h : WI (f w) (fun r u => WI (g u) (fun r' v => r' = r ∧ Inv v))) : same Inv f g w := by
  obtain ⟨r, u, e, r', v, e', rfl, h⟩ := h
  exact ⟨_, u, v, e, e', h⟩
/-! worlds: rows as functions -/
theorem up_s {w : WD} {k i v : Int} : up w k i v k i = v := if_pos ⟨rfl, rfl⟩
theorem up_k {w : WD} {k i v k' : Int} (h : k' ≠ k) : up w k i v k' = w k' := funext fun _ => if_neg (fun q => h q.1)
theorem up_i {w : WD} {k i v i' : Int} (h : i' ≠ i) : up w k i v k i' = w k i' := if_neg (fun q => h q.2)
theorem up_x {w : WD} {k i v i' : Int} : up w k i v k i' = if i' = i then v else w k i' := by
  unfold up
  by_cases h : i' = i
  · rw [if_pos h, if_pos ⟨rfl, h⟩]
  · rw [if_neg h, if_neg (fun q => h q.2)]
theorem cp_k {w : WD} {k0 sp k1 dp q k' : Int} (h : k' ≠ k1) : cp w k0 sp k1 dp q k' = w k' := funext fun _ => if_neg (fun z => h z.1)
theorem cp_x {w : WD} {k0 sp k1 dp q i' : Int} : cp w k0 sp k1 dp q k1 i' = if dp ≤ i' ∧ i' < dp + q then w k0 (sp + (i' - dp)) else w k1 i' := by
  unfold cp
  by_cases h : dp ≤ i' ∧ i' < dp + q
  · rw [if_pos h, if_pos ⟨rfl, h⟩]
  · rw [if_neg h, if_neg (fun z => h z.2)]
theorem w32_i {x : Int} (h1 : -2147483648 ≤ x) (h2 : x < 2147483648) : w32 x = x := by unfold w32; omega
theorem w64_i {x : Int} (h1 : -9223372036854775808 ≤ x) (h2 : x < 9223372036854775808) : w64 x = x := by unfold w64; omega
theorem w8_i {x : Int} (h1 : -128 ≤ x) (h2 : x < 128) : w8 x = x := by unfold w8; omega
theorem w16_i {x : Int} (h1 : -32768 ≤ x) (h2 : x < 32768) : w16 x = x := by unfold w16; omega
theorem up_e {w : WD} {k i v i' : Int} (h : i' = i) : up w k i v k i' = v := if_pos ⟨rfl, h⟩
/-- a row with one cell written -/
def ur (r : Int → Int) (i v : Int) : Int → Int := fun j => if j = i then v else r j
theorem up_r {w : WD} {k i v : Int} : up w k i v k = ur (w k) i v := by
  funext j
  rw [up_x]
  rfl
theorem ur_s {r : Int → Int} {i v : Int} : ur r i v i = v := if_pos rfl
theorem ur_e {r : Int → Int} {i v i' : Int} (h : i' = i) : ur r i v i' = v := if_pos h
theorem ur_i {r : Int → Int} {i v i' : Int} (h : i' ≠ i) : ur r i v i' = r i' := if_neg h
theorem ur_x {r : Int → Int} {i v i' : Int} : ur r i v i' = if i' = i then v else r i' := rfl
theorem ur_ur {r : Int → Int} {i v v' : Int} : ur (ur r i v) i v' = ur r i v' := by
  funext j
  unfold ur
  split <;> rfl
theorem ur_id {r : Int → Int} {i v : Int} (h : v = r i) : ur r i v = r := by
  funext j
  unfold ur
  split
  · rename_i q; rw [q, h]
  · rfl
