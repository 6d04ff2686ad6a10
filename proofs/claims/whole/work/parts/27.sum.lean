/-! ===== the sum of values: a scoop that makes it 0 is there if it isn't 0, and none if it is ===== -/
/-- the highest bit -/
theorem eTopBit {x : Nat} (h : x ≠ 0) : ∃ b, x.testBit b = true ∧ ∀ j, b < j → x.testBit j = false := by
  refine ⟨x.log2, ?_, fun j hj => ?_⟩
  · exact Nat.testBit_log2 h
  · exact Nat.testBit_lt_two_pow (Nat.lt_of_lt_of_le Nat.lt_log2_self (Nat.pow_le_pow_right (by decide) hj))
/-- of numbers put together, one is lessened by the whole -/
theorem eLessenB : ((List.range 32).all fun a => (List.range 32).all fun x => (List.range 5).all fun b => !(a.testBit b && x.testBit b && (List.range 5).all (fun j => !(decide (b < j)) || !x.testBit j)) || decide (a ^^^ x < a)) = true := by decide +kernel
theorem eLessenD (a : Nat) (ha : a < 32) (x : Nat) (hx : x < 32) (b : Nat) (hb : b < 5) (h1 : a.testBit b = true) (h2 : x.testBit b = true) (h3 : ∀ j, j < 5 → b < j → x.testBit j = false) : a ^^^ x < a := by
  have h := List.all_eq_true.mp (List.all_eq_true.mp (List.all_eq_true.mp eLessenB a (List.mem_range.mpr ha)) x (List.mem_range.mpr hx)) b (List.mem_range.mpr hb)
  have h4 : (List.range 5).all (fun j => !(decide (b < j)) || !x.testBit j) = true := by
    refine List.all_eq_true.mpr (fun j hj => ?_)
    by_cases hbj : b < j
    · rw [h3 j (List.mem_range.mp hj) hbj, Bool.not_false, Bool.or_true]
    · rw [decide_eq_false hbj]; rfl
  rw [h1, h2, h4] at h
  exact of_decide_eq_true h
theorem eLessen {a x b : Nat} (ha5 : a < 32) (hx5 : x < 32) (ha : a.testBit b = true) (hx : x.testBit b = true) (ht : ∀ j, b < j → x.testBit j = false) : a ^^^ x < a := by
  have hb : b < 5 := by
    by_cases h : b < 5
    · exact h
    · rw [Nat.testBit_lt_two_pow (Nat.lt_of_lt_of_le ha5 (Nat.pow_le_pow_right (n := 2) (i := 5) (by decide) (by omega)))] at ha
      cases ha
  exact eLessenD a ha5 x hx5 b hb ha hx (fun j _ h => ht j h)
def gXorS (F : Nat → Int) : Nat → Int
  | 0 => 0
  | n + 1 => gXr (gXorS F n) (F n)
theorem gXr_bit (a b : Int) (j : Nat) : (gXr a b).toNat.testBit j = (a.toNat.testBit j ^^ b.toNat.testBit j) := by
  unfold gXr
  rw [Int.toNat_natCast, Nat.testBit_xor]
theorem gXorS_bit {F : Nat → Int} {j : Nat} : ∀ {n : Nat}, (gXorS F n).toNat.testBit j = true → ∃ i, i < n ∧ (F i).toNat.testBit j = true
  | 0, h => by
    have : (gXorS F 0).toNat = 0 := rfl
    rw [this, Nat.zero_testBit] at h; cases h
  | n + 1, h => by
    rw [show gXorS F (n + 1) = gXr (gXorS F n) (F n) from rfl, gXr_bit] at h
    by_cases h1 : (gXorS F n).toNat.testBit j = true
    · obtain ⟨i, h2, h3⟩ := gXorS_bit h1
      exact ⟨i, by omega, h3⟩
    · refine ⟨n, by omega, ?_⟩
      rw [Bool.eq_false_iff.mpr h1, Bool.false_xor] at h
      exact h
theorem gXorS_le {F : Nat → Int} : ∀ {n : Nat}, (∀ i, i < n → F i ≤ 31) → 0 ≤ gXorS F n ∧ gXorS F n ≤ 31
  | 0, _ => ⟨Int.le_refl _, by show (0 : Int) ≤ 31; omega⟩
  | n + 1, h => gXr_lt (gXorS_le (fun i hi => h i (by omega))).2 (h n (by omega))
/-- a sum that is not 0 lessens a pit -/
theorem gXorS_less {F : Nat → Int} {n : Nat} (hF : ∀ i, i < n → 0 ≤ F i ∧ F i ≤ 31) (h : gXorS F n ≠ 0) : ∃ i, i < n ∧ 0 ≤ gXr (F i) (gXorS F n) ∧ gXr (F i) (gXorS F n) < F i := by
  have h0 := gXorS_le (F := F) (n := n) (fun i hi => (hF i hi).2)
  obtain ⟨b, h1, h2⟩ := eTopBit (x := (gXorS F n).toNat) (by omega)
  obtain ⟨i, hi, h3⟩ := gXorS_bit h1
  refine ⟨i, hi, ?_⟩
  have h5 := hF i hi
  have h4 := eLessen (by omega) (by omega) h3 h1 h2
  unfold gXr
  omega
theorem gXr_assoc (a b c : Int) : gXr (gXr a b) c = gXr a (gXr b c) := by
  unfold gXr
  rw [Int.toNat_natCast, Int.toNat_natCast, Nat.xor_assoc]
theorem gXr_self (a : Int) : gXr a a = 0 := by unfold gXr; rw [Nat.xor_self]; rfl
theorem gXr_eq0 {a b : Int} (ha : 0 ≤ a) (hb : 0 ≤ b) : gXr a b = 0 ↔ a = b := by
  constructor
  · intro h
    have h1 : a.toNat ^^^ b.toNat = 0 := by unfold gXr at h; omega
    have h2 : a.toNat = b.toNat := by
      apply Nat.eq_of_testBit_eq
      intro i
      have h3 : (a.toNat ^^^ b.toNat).testBit i = false := by rw [h1, Nat.zero_testBit]
      rw [Nat.testBit_xor] at h3
      revert h3
      cases a.toNat.testBit i <;> cases b.toNat.testBit i <;> simp
    omega
  · intro h; rw [h, gXr_self]
/-- every value below that of m can be had of m; its own can't -/
theorem gv_has {D : Int → Int} {m x : Int} (hm : 0 ≤ m ∧ m ≤ 30) (hx : 0 ≤ x) (h : x < gvv D m) : gOpt D (gvv D) m x = true := by
  have e : gvv D m = gMex (gOpt D (gvv D) m) := by
    unfold gvv
    rw [gVal_t hm, gvv_mex, Int.toNat_of_nonneg hm.1]; rfl
  obtain ⟨-, -, h3, -⟩ := gMex_spec (m := m) (by omega) (gv_no (D := D) (i := m) (by omega) (Int.le_refl _))
  exact h3 x hx (by rw [← e]; exact h)
theorem gv_hasnt {D : Int → Int} {m : Int} (hm : 0 ≤ m ∧ m ≤ 30) : gOpt D (gvv D) m (gvv D m) = false := by
  have e : gvv D m = gMex (gOpt D (gvv D) m) := by
    unfold gvv
    rw [gVal_t hm, gvv_mex, Int.toNat_of_nonneg hm.1]; rfl
  obtain ⟨-, -, -, h4⟩ := gMex_spec (m := m) (by omega) (gv_no (D := D) (i := m) (by omega) (Int.le_refl _))
  rw [e]; exact h4
