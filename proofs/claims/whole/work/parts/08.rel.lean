/-! the abstract heap and the machine's -/
def eV (ad : Nat → Nat) (bv : Nat → Value) : Value → Value
  | .ref i => .ref (ad i)
  | .retAddr j => bv j
  | v => v
/-- what stands outside is null or a reference -/
def eBv (bv : Nat → Value) : Prop := ∀ j, bv j = .null ∨ ∃ a, bv j = .ref a
def eL (ad : Nat → Nat) (bv : Nat → Value) (lv : eLv) : List (Nat × Value) := lv.map (fun q => (q.1, eV ad bv q.2))
def eXm (ad : Nat → Nat) : ((Nat → Int32) ⊕ (Nat → Int64) ⊕ (Nat → UInt32) ⊕ (Nat → UInt64) ⊕ (Nat → Option Nat)) → ((Nat → Int32) ⊕ (Nat → Int64) ⊕ (Nat → UInt32) ⊕ (Nat → UInt64) ⊕ (Nat → Option Nat))
  | .inl f => .inl f
  | .inr (.inl f) => .inr (.inl f)
  | .inr (.inr (.inl f)) => .inr (.inr (.inl f))
  | .inr (.inr (.inr (.inl f))) => .inr (.inr (.inr (.inl f)))
  | .inr (.inr (.inr (.inr f))) => .inr (.inr (.inr (.inr (fun i => (f i).map ad))))
def eE (ad : Nat → Nat) (bv : Nat → Value) (cA : Nat → ClassId) : va_E → va_E
  | .inl (q, n, x) => .inl (cA q, n, eXm ad x)
  | .inr (c, fs) => .inr (c, fs.map (eV ad bv))
def eW (ad : Nat → Nat) (bv : Nat → Value) (cA : Nat → ClassId) (N : Nat) (h : eHp) : va_W := (List.range N).map (fun i => (ad i, eE ad bv cA (h i)))
theorem eV_cat {ad : Nat → Nat} {bv : Nat → Value} (hb : eBv bv) (v : Value) : (eV ad bv v).category = v.category := by
  cases v <;> try rfl
  rename_i j
  show (bv j).category = 1
  rcases hb j with h | ⟨a, h⟩ <;> rw [h] <;> rfl
theorem eV_cats {ad : Nat → Nat} {bv : Nat → Value} (hb : eBv bv) (r : List Value) : ((r.map (eV ad bv)).map fun v => v.category) = r.map fun v => v.category := by
  rw [List.map_map]
  exact List.map_congr_left (fun v _ => eV_cat hb v)
theorem eW_get {ad : Nat → Nat} {bv : Nat → Value} {cA : Nat → ClassId} {N : Nat} {h : eHp} {i : Nat} (hi : i < N) : (eW ad bv cA N h)[i]? = some (ad i, eE ad bv cA (h i)) := by
  simp [eW, hi]
theorem eW_ble {ad : Nat → Nat} {bv : Nat → Value} {cA : Nat → ClassId} {N : Nat} {h : eHp} {i : Nat} {x : va_E} (hi : Nat.ble (i + 1) N = true) (hx : h i = x) : (eW ad bv cA N h)[i]? = some (ad i, eE ad bv cA x) := by
  rw [← hx]; exact eW_get (Nat.le_of_ble_eq_true hi)
theorem eW_set {ad : Nat → Nat} {bv : Nat → Value} {cA : Nat → ClassId} {N : Nat} {h : eHp} {i : Nat} (x : va_E) : (eW ad bv cA N h).set i (ad i, eE ad bv cA x) = eW ad bv cA N (va_up h i x) := by
  apply List.ext_getElem?
  intro j
  by_cases hij : i = j
  · subst hij
    by_cases hi : i < N
    · rw [List.getElem?_set_self (by simp [eW, hi]), eW_get hi]; simp [va_up]
    · rw [List.getElem?_eq_none (by simp [eW]; omega), List.getElem?_eq_none (by simp [eW]; omega)]
  · rw [List.getElem?_set_ne hij]
    by_cases hj : j < N
    · rw [eW_get hj, eW_get hj]; simp [va_up, Ne.symm hij]
    · rw [List.getElem?_eq_none (by simp [eW]; omega), List.getElem?_eq_none (by simp [eW]; omega)]
theorem eV_cl {ad ad' : Nat → Nat} {bv : Nat → Value} {N : Nat} (hh : ∀ i, i < N → ad' i = ad i) {v : Value} (hc : eClV N v = true) : eV ad' bv v = eV ad bv v := by
  cases v <;> try rfl
  rename_i i
  show Value.ref (ad' i) = Value.ref (ad i)
  rw [hh i (Nat.le_of_ble_eq_true hc)]
theorem eVs_cl {ad ad' : Nat → Nat} {bv : Nat → Value} {N : Nat} (hh : ∀ i, i < N → ad' i = ad i) {r : List Value} (hc : r.all (eClV N) = true) : r.map (eV ad' bv) = r.map (eV ad bv) :=
  List.map_congr_left (fun v hv => eV_cl hh (List.all_eq_true.mp hc v hv))
theorem eL_cl {ad ad' : Nat → Nat} {bv : Nat → Value} {N : Nat} (hh : ∀ i, i < N → ad' i = ad i) {lv : eLv} (hc : eClL N lv = true) : eL ad' bv lv = eL ad bv lv :=
  List.map_congr_left (fun q hq => by rw [eV_cl hh (List.all_eq_true.mp hc q hq)])
theorem eLk_mem {α : Type} {k : Nat} {v : α} : ∀ {l : List (Nat × α)}, eLk k l = some v → (k, v) ∈ l
  | [], h => by simp [eLk] at h
  | q :: l, h => by
    simp only [eLk] at h
    split at h
    · rename_i hb
      have := Nat.eq_of_beq_eq_true hb
      cases h
      rw [← this]; exact List.mem_cons_self
    · exact List.mem_cons_of_mem _ (eLk_mem h)
theorem eL_lk {ad : Nat → Nat} {bv : Nat → Value} {ls : Array Slot} {nL : Nat} {lv : eLv} (hl : lv_has ls nL (eL ad bv lv)) {j : Nat} {v : Value} (h : eLk j lv = some v) : ls[j]? = some (.val (eV ad bv v)) :=
  hl.2.2 (j, eV ad bv v) (List.mem_map.mpr ⟨(j, v), eLk_mem h, rfl⟩)
theorem eL_P1 {ad : Nat → Nat} {bv : Nat → Value} (hb : eBv bv) (j : Nat) (v : Value) (lv : eLv) : (j, eV ad bv v) :: (eL ad bv lv).filter (fun q => !(q.1 == j) && !(q.1 + 1 == j && q.2.category == 2)) = eL ad bv (eP1 j v lv) := by
  simp only [eL, eP1, List.map_cons, List.filter_map]
  congr 1
  congr 1
  apply List.filter_congr
  intro q _
  simp only [Function.comp, eV_cat hb]
theorem eL_P2 {ad : Nat → Nat} {bv : Nat → Value} (hb : eBv bv) (j : Nat) (v : Value) (lv : eLv) : (j, eV ad bv v) :: (eL ad bv lv).filter (fun q => !(q.1 == j) && (!(q.1 == j + 1) && !(q.1 + 1 == j && q.2.category == 2))) = eL ad bv (eP2 j v lv) := by
  simp only [eL, eP2, List.map_cons, List.filter_map]
  congr 1
  congr 1
  apply List.filter_congr
  intro q _
  simp only [Function.comp, eV_cat hb]
theorem eXm_cl {ad ad' : Nat → Nat} {N n : Nat} (hh : ∀ i, i < N → ad' i = ad i) {f : Nat → Option Nat} (hc : eClO N n f = true) (i : Nat) (hi : i < n) : (f i).map ad' = (f i).map ad := by
  have h1 := List.all_eq_true.mp hc i (List.mem_range.mpr hi)
  cases hf : f i with
  | none => rfl
  | some b =>
    rw [hf] at h1
    show some (ad' b) = some (ad b)
    rw [hh b (Nat.le_of_ble_eq_true h1)]
theorem eXm_cell {ad ad' : Nat → Nat} {N n q0 : Nat} {cA : ClassId} (hh : ∀ i, i < N → ad' i = ad i) {x : (Nat → Int32) ⊕ (Nat → Int64) ⊕ (Nat → UInt32) ⊕ (Nat → UInt64) ⊕ (Nat → Option Nat)} (hc : eClE N (.inl (q0, n, x)) = true) : vp_cell cA (n, eXm ad' x) = vp_cell cA (n, eXm ad x) := by
  rcases x with f | f | f | f | f <;> try rfl
  have hc' : eClO N n f = true := hc
  simp only [eXm, vp_cell]
  simp only [arrV]
  congr 1
  congr 1
  funext j
  show va_rf ((f j.val).map ad') = va_rf ((f j.val).map ad)
  rw [eXm_cl hh hc' j.val j.isLt]
theorem eW_clP {D : va_G} {cl : List vw_C} {ad ad' : Nat → Nat} {bv : Nat → Value} {cA : Nat → ClassId} {N : Nat} {h : eHp} {H : Heap} (hh : ∀ i, i < N → ad' i = ad i) (hc : eClH N h = true) (hP : va_P D cl (eW ad bv cA N h) H) : va_P D cl (eW ad' bv cA N h) H := by
  intro k q hk
  have hkN : k < N := by
    have := (List.getElem?_eq_some_iff.mp hk).1
    simpa [eW] using this
  rw [eW_get hkN] at hk
  cases hk
  have h0 := hP k _ (eW_get hkN)
  have hcE := List.all_eq_true.mp hc k (List.mem_range.mpr hkN)
  unfold va_at at h0 ⊢
  rw [hh k hkN]
  cases hx : h k with
  | inl x =>
    obtain ⟨q, n, x⟩ := x
    rw [hx] at h0 hcE
    show H[ad k]? = some (vp_cell (cA q) (n, eXm ad' x))
    rw [eXm_cell hh (x := x) (n := n) hcE]
    exact h0
  | inr x =>
    obtain ⟨cx, fs⟩ := x
    rw [hx] at h0 hcE
    show ∃ r, cl[cx]? = some r ∧ t_OB (ad k) (D.1 cx) r.2.2 (D.2 cx) H (vp_V (fs.map (eV ad' bv)))
    rw [eVs_cl hh hcE]
    exact h0
theorem eW_clD {ad ad' : Nat → Nat} {bv : Nat → Value} {cA : Nat → ClassId} {N : Nat} {h : eHp} {A : Nat → Prop} (hh : ∀ i, i < N → ad' i = ad i) (hD : va_D A (eW ad bv cA N h)) : va_D A (eW ad' bv cA N h) := by
  have key : ∀ (k : Nat) (q : Nat × va_E), (eW ad' bv cA N h)[k]? = some q → k < N ∧ q.1 = ad k := by
    intro k q hk
    have hkN : k < N := by
      have := (List.getElem?_eq_some_iff.mp hk).1
      simpa [eW] using this
    rw [eW_get hkN] at hk
    cases hk
    exact ⟨hkN, hh k hkN⟩
  refine ⟨fun i j x y hi hj hxy => ?_, fun k q hk => ?_⟩
  · obtain ⟨i1, i2⟩ := key i x hi
    obtain ⟨j1, j2⟩ := key j y hj
    exact hD.1 i j _ _ (eW_get i1) (eW_get j1) (by show ad i = ad j; rw [← i2, ← j2]; exact hxy)
  · obtain ⟨k1, k2⟩ := key k q hk
    rw [k2]
    exact hD.2 k _ (eW_get k1)
/-- a world, and a new cell behind it -/
theorem eW_pushL {ad : Nat → Nat} {bv : Nat → Value} {cA : Nat → ClassId} {N a : Nat} {h : eHp} {x : va_E} {x' : va_E} (hx : eE (va_up ad N a) bv cA x = x') : eW (va_up ad N a) bv cA N h ++ [(a, x')] = eW (va_up ad N a) bv cA (N + 1) (va_up h N x) := by
  simp only [eW, List.range_succ, List.map_append, List.map_cons, List.map_nil]
  congr 1
  · apply List.map_congr_left
    intro i hi
    have := List.mem_range.mp hi
    simp [va_up, Nat.ne_of_lt this]
  · simp [va_up, hx]
theorem eUp_lt {ad : Nat → Nat} {N a : Nat} : ∀ i, i < N → va_up ad N a i = ad i := fun i hi => by simp [va_up, Nat.ne_of_lt hi]
/-- the types of the rows, by kind -/
def eRow (q : Nat) : FieldType := match q with
  | 0 => .int | 1 => .char | 2 => .boolean | 3 => .byte | 4 => .long | 5 => .object "MonkMarbles$Garden" | _ => .double
def eTys (cA : Nat → ClassId) : List (ClassId × FieldType) := [(cA 0, eRow 0), (cA 1, eRow 1), (cA 2, eRow 2), (cA 3, eRow 3), (cA 4, eRow 4), (cA 5, eRow 5), (cA 6, eRow 6)]
