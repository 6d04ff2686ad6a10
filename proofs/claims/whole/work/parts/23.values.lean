theorem eXorN (a b : Nat) : Int32.ofInt (a : Int) ^^^ Int32.ofInt (b : Int) = Int32.ofInt ((a ^^^ b : Nat) : Int) := by
  rw [← Int32.toBitVec_inj, Int32.toBitVec_xor]
  simp only [Int32.toBitVec_ofInt, BitVec.ofInt_natCast]
  rw [BitVec.ofNat_xor]
theorem eOrN (a b : Nat) : Int32.ofInt (a : Int) ||| Int32.ofInt (b : Int) = Int32.ofInt ((a ||| b : Nat) : Int) := by
  rw [← Int32.toBitVec_inj, Int32.toBitVec_or]
  simp only [Int32.toBitVec_ofInt, BitVec.ofInt_natCast]
  rw [BitVec.ofNat_or]
theorem eAndN (a b : Nat) : Int32.ofInt (a : Int) &&& Int32.ofInt (b : Int) = Int32.ofInt ((a &&& b : Nat) : Int) := by
  rw [← Int32.toBitVec_inj, Int32.toBitVec_and]
  simp only [Int32.toBitVec_ofInt, BitVec.ofInt_natCast]
  rw [BitVec.ofNat_and]
theorem eShlN {n : Nat} (h : n < 31) : Int32.ofInt 1 <<< (Int32.ofInt (n : Int) &&& 31) = Int32.ofInt ((1 <<< n : Nat) : Int) := by
  revert n; decide +kernel
theorem eXle : ∀ a, a < 32 → ∀ b, b < 32 → a ^^^ b ≤ a + b := by decide +kernel
/-! the values at the name v: digits, by list, by bits, bits, listed -/
abbrev eVs : Type := (Nat → Int) × (Nat → Int) × (Nat → Int) × (Nat → Int) × (Nat → Int)
def gV (h : eHp) (v : Nat) (V : eVs) : Prop := h v = .inr (9, [.ref (v + 1), .ref (v + 2), .ref (v + 3), .ref (v + 4), .ref (v + 5)]) ∧ h (v + 1) = .inl (0, 7, .inl (eIA V.1)) ∧ h (v + 2) = .inl (0, 31, .inl (eIA V.2.1)) ∧ h (v + 3) = .inl (0, 31, .inl (eIA V.2.2.1)) ∧ h (v + 4) = .inl (0, 31, .inl (eIA V.2.2.2.1)) ∧ h (v + 5) = .inl (2, 32, .inl (eIA V.2.2.2.2))
/-- what the rows may hold -/
def gVO (V : eVs) : Prop := (∀ i, i < 31 → 0 ≤ V.2.1 i ∧ V.2.1 i ≤ 31) ∧ (∀ i, i < 31 → 0 ≤ V.2.2.1 i ∧ V.2.2.1 i ≤ 31) ∧ (∀ i, i < 31 → 0 ≤ V.2.2.2.1 i ∧ V.2.2.2.1 i ≤ 2147483647) ∧ (∀ i, i < 32 → V.2.2.2.2 i = 0 ∨ V.2.2.2.2 i = 1) ∧ (∀ i, i < 7 → 0 ≤ V.1 i ∧ V.1 i ≤ 7)
def gNum (m : Int) : Bool := decide (0 ≤ m) && decide (m ≤ 30)
theorem gNum_t {m : Int} (h : 0 ≤ m ∧ m ≤ 30) : gNum m = true := by unfold gNum; rw [decide_eq_true h.1, decide_eq_true h.2]; rfl
theorem gNum_f {m : Int} (h : ¬ (0 ≤ m ∧ m ≤ 30)) : gNum m = false := by
  unfold gNum
  by_cases h1 : 0 ≤ m
  · rw [decide_eq_false (by omega : ¬ m ≤ 30), Bool.and_false]
  · rw [decide_eq_false h1]; rfl
theorem gNum_c (m : Int) : ((0 ≤ m ∧ m ≤ 30) ∧ gNum m = true ∧ eB01 (gNum m) = 1) ∨ (¬ (0 ≤ m ∧ m ≤ 30) ∧ gNum m = false ∧ eB01 (gNum m) = 0) := by
  by_cases h : 0 ≤ m ∧ m ≤ 30
  · exact Or.inl ⟨h, gNum_t h, by rw [gNum_t h]; rfl⟩
  · exact Or.inr ⟨h, gNum_f h, by rw [gNum_f h]; rfl⟩
def gVal (F : Nat → Int) (m : Int) : Int := match gNum m with | true => F m.toNat | false => 0
theorem gVal_t {F : Nat → Int} {m : Int} (h : 0 ≤ m ∧ m ≤ 30) : gVal F m = F m.toNat := by unfold gVal; rw [gNum_t h]
theorem gVal_f {F : Nat → Int} {m : Int} (h : ¬ (0 ≤ m ∧ m ≤ 30)) : gVal F m = 0 := by unfold gVal; rw [gNum_f h]
theorem gVal_le {F : Nat → Int} {b : Int} (hb : 0 ≤ b) (hF : ∀ i, i < 31 → 0 ≤ F i ∧ F i ≤ b) (m : Int) : 0 ≤ gVal F m ∧ gVal F m ≤ b := by
  by_cases h : 0 ≤ m ∧ m ≤ 30
  · rw [gVal_t h]; exact hF _ (by omega)
  · rw [gVal_f h]; exact ⟨Int.le_refl _, hb⟩
def gXr (a b : Int) : Int := ((a.toNat ^^^ b.toNat : Nat) : Int)
theorem gXr_ok {a b : Int} (ha : 0 ≤ a) (hb : 0 ≤ b) : Int32.ofInt a ^^^ Int32.ofInt b = Int32.ofInt (gXr a b) := by
  unfold gXr
  rw [← eXorN, Int.toNat_of_nonneg ha, Int.toNat_of_nonneg hb]
theorem gXr_lt {a b : Int} (ha : a ≤ 31) (hb : b ≤ 31) : 0 ≤ gXr a b ∧ gXr a b ≤ 31 := by
  unfold gXr
  have := Nat.xor_lt_two_pow (n := 5) (x := a.toNat) (y := b.toNat) (by omega) (by omega)
  omega
theorem gXr_le {a b : Int} (ha : 0 ≤ a ∧ a ≤ 31) (hb : 0 ≤ b ∧ b ≤ 31) : gXr a b ≤ a + b := by
  unfold gXr
  have := eXle a.toNat (by omega) b.toNat (by omega)
  omega
/-- what can be had -/
def gOptL (D : Int → Int) (T : Int → Int) (m t x : Int) : Nat → Bool
  | 0 => false
  | k + 1 => gOptL D T m t x k || (gLets D m t k && decide (gXr (T k) (T (m - t - k)) = x))
def gOptT (D : Int → Int) (T : Int → Int) (m x : Int) : Nat → Bool
  | 0 => false
  | t + 1 => gOptT D T m x t || gOptL D T m (t + 1) x (m - t).toNat
def gOpt (D : Int → Int) (T : Int → Int) (m x : Int) : Bool := gOptT D T m x 6
theorem gOptL_succ {D T : Int → Int} {m t x l : Int} (h : 0 ≤ l) : gOptL D T m t x (l + 1).toNat = (gOptL D T m t x l.toNat || (gLets D m t l && decide (gXr (T l) (T (m - t - l)) = x))) := by
  obtain ⟨k, rfl⟩ : ∃ k : Nat, l = k := ⟨l.toNat, by omega⟩
  rw [show ((k : Int) + 1).toNat = k + 1 by omega, show (k : Int).toNat = k by omega]; rfl
theorem gOptT_succ {D T : Int → Int} {m t x : Int} (h : 1 ≤ t) : gOptT D T m x t.toNat = (gOptT D T m x (t - 1).toNat || gOptL D T m t x (m - t + 1).toNat) := by
  obtain ⟨k, rfl⟩ : ∃ k : Nat, t = k + 1 := ⟨(t - 1).toNat, by omega⟩
  rw [show ((k : Int) + 1).toNat = k + 1 by omega, show ((k : Int) + 1 - 1).toNat = k by omega, show m - ((k : Int) + 1) + 1 = m - k by omega]; rfl
/-- the first place from v on that is not 1 -/
def gLook (F : Nat → Int) : Nat → Nat → Int
  | 0, v => v
  | k + 1, v => match decide (F v = 1) with | true => gLook F k (v + 1) | false => v
theorem gLook_t {F : Nat → Int} {k v : Nat} (h : F v = 1) : gLook F (k + 1) v = gLook F k (v + 1) := by rw [gLook, decide_eq_true h]
theorem gLook_f {F : Nat → Int} {k v : Nat} (h : ¬ F v = 1) : gLook F (k + 1) v = v := by rw [gLook, decide_eq_false h]
theorem gV_0 {h h' : eHp} {v : Nat} {V : eVs} {F : Nat → Int} (hv : gV h v V) (e : h' (v + 1) = .inl (0, 7, .inl (eIA F))) (o : ∀ i, i ≠ v + 1 → h' i = h i) : gV h' v (F, V.2.1, V.2.2.1, V.2.2.2.1, V.2.2.2.2) := ⟨by rw [o _ (by omega)]; exact hv.1, e, by rw [o _ (by omega)]; exact hv.2.2.1, by rw [o _ (by omega)]; exact hv.2.2.2.1, by rw [o _ (by omega)]; exact hv.2.2.2.2.1, by rw [o _ (by omega)]; exact hv.2.2.2.2.2⟩
theorem gV_1 {h h' : eHp} {v : Nat} {V : eVs} {F : Nat → Int} (hv : gV h v V) (e : h' (v + 2) = .inl (0, 31, .inl (eIA F))) (o : ∀ i, i ≠ v + 2 → h' i = h i) : gV h' v (V.1, F, V.2.2.1, V.2.2.2.1, V.2.2.2.2) := ⟨by rw [o _ (by omega)]; exact hv.1, by rw [o _ (by omega)]; exact hv.2.1, e, by rw [o _ (by omega)]; exact hv.2.2.2.1, by rw [o _ (by omega)]; exact hv.2.2.2.2.1, by rw [o _ (by omega)]; exact hv.2.2.2.2.2⟩
theorem gV_2 {h h' : eHp} {v : Nat} {V : eVs} {F : Nat → Int} (hv : gV h v V) (e : h' (v + 3) = .inl (0, 31, .inl (eIA F))) (o : ∀ i, i ≠ v + 3 → h' i = h i) : gV h' v (V.1, V.2.1, F, V.2.2.2.1, V.2.2.2.2) := ⟨by rw [o _ (by omega)]; exact hv.1, by rw [o _ (by omega)]; exact hv.2.1, by rw [o _ (by omega)]; exact hv.2.2.1, e, by rw [o _ (by omega)]; exact hv.2.2.2.2.1, by rw [o _ (by omega)]; exact hv.2.2.2.2.2⟩
theorem gV_3 {h h' : eHp} {v : Nat} {V : eVs} {F : Nat → Int} (hv : gV h v V) (e : h' (v + 4) = .inl (0, 31, .inl (eIA F))) (o : ∀ i, i ≠ v + 4 → h' i = h i) : gV h' v (V.1, V.2.1, V.2.2.1, F, V.2.2.2.2) := ⟨by rw [o _ (by omega)]; exact hv.1, by rw [o _ (by omega)]; exact hv.2.1, by rw [o _ (by omega)]; exact hv.2.2.1, by rw [o _ (by omega)]; exact hv.2.2.2.1, e, by rw [o _ (by omega)]; exact hv.2.2.2.2.2⟩
theorem gV_4 {h h' : eHp} {v : Nat} {V : eVs} {F : Nat → Int} (hv : gV h v V) (e : h' (v + 5) = .inl (2, 32, .inl (eIA F))) (o : ∀ i, i ≠ v + 5 → h' i = h i) : gV h' v (V.1, V.2.1, V.2.2.1, V.2.2.2.1, F) := ⟨by rw [o _ (by omega)]; exact hv.1, by rw [o _ (by omega)]; exact hv.2.1, by rw [o _ (by omega)]; exact hv.2.2.1, by rw [o _ (by omega)]; exact hv.2.2.2.1, by rw [o _ (by omega)]; exact hv.2.2.2.2.1, e⟩
theorem gV_k {h h' : eHp} {v : Nat} {V : eVs} (hv : gV h v V) (o : ∀ i, v ≤ i → i ≤ v + 5 → h' i = h i) : gV h' v V := ⟨by rw [o _ (by omega) (by omega)]; exact hv.1, by rw [o _ (by omega) (by omega)]; exact hv.2.1, by rw [o _ (by omega) (by omega)]; exact hv.2.2.1, by rw [o _ (by omega) (by omega)]; exact hv.2.2.2.1, by rw [o _ (by omega) (by omega)]; exact hv.2.2.2.2.1, by rw [o _ (by omega) (by omega)]; exact hv.2.2.2.2.2⟩
theorem x_isNumber {d N : Nat} {h : eHp} {m : Int} (hm : i32 m) : eSp (d + 1) eM_X6_isNumber [vI m] N h (eRet (some (vI (eB01 (gNum m)))) N h) := by
  refine eSp_of [(0, vI m)] rfl rfl ?_
  unfold i32 at hm
  refine eW_iload_n 1 rfl rfl rfl ?_
  refine eW_if_lt 4 rfl rfl (by unfold i32; omega) (fun c1 => ?_) (fun c1 => ?_)
  · refine eW_iconst 15 rfl rfl ?_
    refine eW_ret_i rfl rfl (Or.inr (Or.inl ⟨rfl, rfl⟩)) ?_
    first | (rw [gNum_t (by omega)]; rfl) | (rw [gNum_f (by omega)]; rfl)
  · refine eW_iload_n 5 rfl rfl rfl ?_
    refine eW_bipush 7 rfl rfl 30 rfl ?_
    refine eW_icmp_gt 10 rfl rfl (by unfold i32; omega) (by unfold i32; omega) (fun c2 => ?_) (fun c2 => ?_)
    · refine eW_iconst 15 rfl rfl ?_
      refine eW_ret_i rfl rfl (Or.inr (Or.inl ⟨rfl, rfl⟩)) ?_
      first | (rw [gNum_t (by omega)]; rfl) | (rw [gNum_f (by omega)]; rfl)
    · refine eW_iconst 11 rfl rfl ?_
      refine eW_goto rfl ?_
      refine eW_ret_i rfl rfl (Or.inr (Or.inl ⟨rfl, rfl⟩)) ?_
      first | (rw [gNum_t (by omega)]; rfl) | (rw [gNum_f (by omega)]; rfl)
theorem v_of {d N : Nat} {h : eHp} {v : Nat} {V : eVs} (hv : gV h v V) (hV : gVO V) (hN : v + 6 ≤ N) {m : Int} (hm : i32 m) : eSp (d + 2) eM_X5_of [.ref v, vI m] N h (eRet (some (vI (gVal V.2.1 m))) N h) := by
  refine eSp_of [(0, .ref v), (1, vI m)] rfl rfl ?_
  have hb := gNum_c m
  refine eW_iload_n 1 rfl rfl rfl ?_
  refine eW_callS 4 [vI m] [] [vI (eB01 (gNum m))] rfl rfl rfl (Or.inr rfl) rfl rfl rfl (x_isNumber (d := d + 0) (by assumption)) rfl rfl ?_
  refine eW_if_eq 7 rfl rfl (by unfold i32; omega) (fun c1 => ?_) (fun c1 => ?_)
  · refine eW_iconst 17 rfl rfl ?_
    refine eW_ret_i rfl rfl (Or.inl rfl) ?_
    refine eRet_i ?_
    first | (rw [gVal_t (by omega)]) | (rw [gVal_f (by omega)])
  · refine eW_aload_n 8 rfl rfl rfl ?_
    refine eW_getfield 11 rfl rfl (Nat.ble_eq_true_of_le (by omega)) rfl hv.1 rfl ⟨rfl, fun _ h9 => nomatch h9⟩ ?_
    refine eW_iload_n 12 rfl rfl rfl ?_
    refine eW_iaload 13 rfl rfl (V.2.1 m.toNat) (Nat.ble_eq_true_of_le (by omega)) (show h (v + 2) = .inl (0, 31, .inl (eIA V.2.1)) from hv.2.2.1) (by omega) (by omega) (by unfold i32; omega) rfl ?_
    refine eW_goto rfl ?_
    refine eW_ret_i rfl rfl (Or.inl rfl) ?_
    refine eRet_i ?_
    first | (rw [gVal_t (by omega)]) | (rw [gVal_f (by omega)])
theorem v_ofBits {d N : Nat} {h : eHp} {v : Nat} {V : eVs} (hv : gV h v V) (hV : gVO V) (hN : v + 6 ≤ N) {m : Int} (hm : i32 m) : eSp (d + 2) eM_X5_ofBits [.ref v, vI m] N h (eRet (some (vI (gVal V.2.2.1 m))) N h) := by
  refine eSp_of [(0, .ref v), (1, vI m)] rfl rfl ?_
  have hb := gNum_c m
  refine eW_iload_n 1 rfl rfl rfl ?_
  refine eW_callS 4 [vI m] [] [vI (eB01 (gNum m))] rfl rfl rfl (Or.inr rfl) rfl rfl rfl (x_isNumber (d := d + 0) (by assumption)) rfl rfl ?_
  refine eW_if_eq 7 rfl rfl (by unfold i32; omega) (fun c1 => ?_) (fun c1 => ?_)
  · refine eW_iconst 17 rfl rfl ?_
    refine eW_ret_i rfl rfl (Or.inl rfl) ?_
    refine eRet_i ?_
    first | (rw [gVal_t (by omega)]) | (rw [gVal_f (by omega)])
  · refine eW_aload_n 8 rfl rfl rfl ?_
    refine eW_getfield 11 rfl rfl (Nat.ble_eq_true_of_le (by omega)) rfl hv.1 rfl ⟨rfl, fun _ h9 => nomatch h9⟩ ?_
    refine eW_iload_n 12 rfl rfl rfl ?_
    refine eW_iaload 13 rfl rfl (V.2.2.1 m.toNat) (Nat.ble_eq_true_of_le (by omega)) (show h (v + 3) = .inl (0, 31, .inl (eIA V.2.2.1)) from hv.2.2.2.1) (by omega) (by omega) (by unfold i32; omega) rfl ?_
    refine eW_goto rfl ?_
    refine eW_ret_i rfl rfl (Or.inl rfl) ?_
    refine eRet_i ?_
    first | (rw [gVal_t (by omega)]) | (rw [gVal_f (by omega)])
theorem v_look_l {d N k z : Nat} {h : eHp} {v : Nat} {V : eVs} {P : eR → Prop} (hv : gV h v V) (hV : gVO V) (hN : v + 6 ≤ N)  : ∀ (m9 : Nat) (c : Int), 32 - c ≤ m9 → 0 ≤ c → c ≤ 32 → gLook V.2.2.2.2 (32 - c).toNat c.toNat = gLook V.2.2.2.2 32 0 → (∀ (c : Int), c = gLook V.2.2.2.2 32 0 → eWp eOx (eEv (d + 0)) eM_X5_lookThroughList (23, [(0, .ref v), (1, vI c)], [], N, h, k, z) P) → eWp eOx (eEv (d + 0)) eM_X5_lookThroughList (2, [(0, .ref v), (1, vI c)], [], N, h, k, z) P := by
  intro m9
  induction m9 with
  | zero =>
    intro c hm q0 q1 q2 kk
    have hil : c < 32 → V.2.2.2.2 c.toNat = 0 ∨ V.2.2.2.2 c.toNat = 1 := fun h9 => hV.2.2.2.1 _ (by omega)
    refine eW_iload_n 3 rfl rfl rfl ?_
    refine eW_bipush 5 rfl rfl 32 rfl ?_
    refine eW_icmp_ge 8 rfl rfl (by unfold i32; omega) (by unfold i32; omega) (fun c1 => ?_) (fun c1 => ?_)
    · refine kk _ ?_
      rw [← q2]
      by_cases h32 : c = 32
      · rw [h32]; rfl
      · rw [show (32 - c).toNat = (32 - (c + 1)).toNat + 1 by omega]; rw [gLook_f (by omega)]; omega
    · refine eW_aload_n 9 rfl rfl rfl ?_
      refine eW_getfield 12 rfl rfl (Nat.ble_eq_true_of_le (by omega)) rfl hv.1 rfl ⟨rfl, fun _ h9 => nomatch h9⟩ ?_
      refine eW_iload_n 13 rfl rfl rfl ?_
      refine eW_baload 14 rfl rfl (V.2.2.2.2 c.toNat) (Nat.ble_eq_true_of_le (by omega)) rfl (show h (v + 5) = .inl (2, 32, .inl (eIA V.2.2.2.2)) from hv.2.2.2.2.2) (by omega) (by omega) (by unfold i32; omega) rfl ?_
      refine eW_if_eq 17 rfl rfl (by unfold i32; omega) (fun c2 => ?_) (fun c2 => ?_)
      · refine kk _ ?_
        rw [← q2]
        by_cases h32 : c = 32
        · rw [h32]; rfl
        · rw [show (32 - c).toNat = (32 - (c + 1)).toNat + 1 by omega]; rw [gLook_f (by omega)]; omega
      · refine eW_iinc 20 rfl rfl [(1, vI (c + 1)), (0, .ref v)] rfl rfl rfl ?_
        refine eW_goto rfl ?_
        refine eW_re [(0, .ref v), (1, vI (c + 1))] rfl rfl (List.forall_mem_cons.mpr ⟨rfl, List.forall_mem_cons.mpr ⟨rfl, fun _ h => absurd h List.not_mem_nil⟩⟩) (List.forall_mem_cons.mpr ⟨Or.inl rfl, List.forall_mem_cons.mpr ⟨Or.inl rfl, fun _ h => absurd h List.not_mem_nil⟩⟩) ?_
        exact absurd hm (by omega)
  | succ m9 ih =>
    intro c hm q0 q1 q2 kk
    have hil : c < 32 → V.2.2.2.2 c.toNat = 0 ∨ V.2.2.2.2 c.toNat = 1 := fun h9 => hV.2.2.2.1 _ (by omega)
    refine eW_iload_n 3 rfl rfl rfl ?_
    refine eW_bipush 5 rfl rfl 32 rfl ?_
    refine eW_icmp_ge 8 rfl rfl (by unfold i32; omega) (by unfold i32; omega) (fun c1 => ?_) (fun c1 => ?_)
    · refine kk _ ?_
      rw [← q2]
      by_cases h32 : c = 32
      · rw [h32]; rfl
      · rw [show (32 - c).toNat = (32 - (c + 1)).toNat + 1 by omega]; rw [gLook_f (by omega)]; omega
    · refine eW_aload_n 9 rfl rfl rfl ?_
      refine eW_getfield 12 rfl rfl (Nat.ble_eq_true_of_le (by omega)) rfl hv.1 rfl ⟨rfl, fun _ h9 => nomatch h9⟩ ?_
      refine eW_iload_n 13 rfl rfl rfl ?_
      refine eW_baload 14 rfl rfl (V.2.2.2.2 c.toNat) (Nat.ble_eq_true_of_le (by omega)) rfl (show h (v + 5) = .inl (2, 32, .inl (eIA V.2.2.2.2)) from hv.2.2.2.2.2) (by omega) (by omega) (by unfold i32; omega) rfl ?_
      refine eW_if_eq 17 rfl rfl (by unfold i32; omega) (fun c2 => ?_) (fun c2 => ?_)
      · refine kk _ ?_
        rw [← q2]
        by_cases h32 : c = 32
        · rw [h32]; rfl
        · rw [show (32 - c).toNat = (32 - (c + 1)).toNat + 1 by omega]; rw [gLook_f (by omega)]; omega
      · refine eW_iinc 20 rfl rfl [(1, vI (c + 1)), (0, .ref v)] rfl rfl rfl ?_
        refine eW_goto rfl ?_
        refine eW_re [(0, .ref v), (1, vI (c + 1))] rfl rfl (List.forall_mem_cons.mpr ⟨rfl, List.forall_mem_cons.mpr ⟨rfl, fun _ h => absurd h List.not_mem_nil⟩⟩) (List.forall_mem_cons.mpr ⟨Or.inl rfl, List.forall_mem_cons.mpr ⟨Or.inl rfl, fun _ h => absurd h List.not_mem_nil⟩⟩) ?_
        refine ih (c + 1) (by omega) (by omega) (by omega) ?_ kk
        rw [← q2, show (32 - c).toNat = (32 - (c + 1)).toNat + 1 by omega, show (c + 1).toNat = c.toNat + 1 by omega]
        exact (gLook_t (by omega)).symm
theorem v_look {d N : Nat} {h : eHp} {v : Nat} {V : eVs} (hv : gV h v V) (hV : gVO V) (hN : v + 6 ≤ N)  : eSp (d + 1) eM_X5_lookThroughList [.ref v] N h (eRet (some (vI (gLook V.2.2.2.2 32 0))) N h) := by
  refine eSp_of [(0, .ref v)] rfl rfl ?_
  refine eW_iconst 1 rfl rfl ?_
  refine eW_istore_n 2 rfl rfl [(1, vI 0), (0, .ref v)] rfl rfl ?_
  refine eW_re [(0, .ref v), (1, vI 0)] rfl rfl (List.forall_mem_cons.mpr ⟨rfl, List.forall_mem_cons.mpr ⟨rfl, fun _ h => absurd h List.not_mem_nil⟩⟩) (List.forall_mem_cons.mpr ⟨Or.inl rfl, List.forall_mem_cons.mpr ⟨Or.inl rfl, fun _ h => absurd h List.not_mem_nil⟩⟩) ?_
  refine v_look_l hv hV hN _ 0 (Int.self_le_toNat _) (by omega) (by omega) rfl (fun c q => ?_)
  refine eW_iload_n 24 rfl rfl rfl ?_
  refine eW_ret_i rfl rfl (Or.inl rfl) ?_
  exact eRet_i q
def gTop (F : Nat → Int) : Nat → Int
  | 0 => 0
  | n + 1 => gMax (gTop F n) (F n)
theorem gTop_succ {F : Nat → Int} {i : Int} (h : 0 ≤ i) : gTop F (i + 1).toNat = gMax (gTop F i.toNat) (F i.toNat) := by
  rw [show (i + 1).toNat = i.toNat + 1 by omega]; rfl
theorem gMax_le {a b c : Int} (ha : 0 ≤ a ∧ a ≤ c) (hb : 0 ≤ b ∧ b ≤ c) : 0 ≤ gMax a b ∧ gMax a b ≤ c := by
  unfold gMax
  cases decide (a < b) <;> assumption
theorem v_top_l {d N k z : Nat} {h : eHp} {v : Nat} {V : eVs} {P : eR → Prop} (hv : gV h v V) (hV : gVO V) (hN : v + 6 ≤ N)  : ∀ (m9 : Nat) (a i : Int), 31 - i ≤ m9 → 0 ≤ i → i ≤ 31 → a = gTop V.2.1 i.toNat → 0 ≤ a ∧ a ≤ 31 → (∀ (a i : Int), a = gTop V.2.1 31 → eWp eOx (eEv (d + 0)) eM_X5_greatest (27, [(0, .ref v), (1, vI a), (2, vI i)], [], N, h, k, z) P) → eWp eOx (eEv (d + 0)) eM_X5_greatest (4, [(0, .ref v), (1, vI a), (2, vI i)], [], N, h, k, z) P := by
  intro m9
  induction m9 with
  | zero =>
    intro a i hm q0 q1 q2 q3 kk
    have hil : i < 31 → 0 ≤ V.2.1 i.toNat ∧ V.2.1 i.toNat ≤ 31 := fun h9 => hV.1 _ (by omega)
    refine eW_iload_n 5 rfl rfl rfl ?_
    refine eW_bipush 7 rfl rfl 30 rfl ?_
    refine eW_icmp_gt 10 rfl rfl (by unfold i32; omega) (by unfold i32; omega) (fun c1 => ?_) (fun c1 => ?_)
    · refine kk _ _ ?_
      rw [q2, show i = 31 by omega]; rfl
    · refine eW_iload_n 11 rfl rfl rfl ?_
      refine eW_aload_n 12 rfl rfl rfl ?_
      refine eW_getfield 15 rfl rfl (Nat.ble_eq_true_of_le (by omega)) rfl hv.1 rfl ⟨rfl, fun _ h9 => nomatch h9⟩ ?_
      refine eW_iload_n 16 rfl rfl rfl ?_
      refine eW_iaload 17 rfl rfl (V.2.1 i.toNat) (Nat.ble_eq_true_of_le (by omega)) (show h (v + 2) = .inl (0, 31, .inl (eIA V.2.1)) from hv.2.2.1) (by omega) (by omega) (by unfold i32; omega) rfl ?_
      refine eW_max 20 rfl rfl rfl rfl (by unfold i32; omega) (by unfold i32; omega) ?_
      refine eW_istore_n 21 rfl rfl [(1, vI (gMax a (V.2.1 i.toNat))), (0, .ref v), (2, vI i)] rfl rfl ?_
      refine eW_iinc 24 rfl rfl [(2, vI (i + 1)), (1, vI (gMax a (V.2.1 i.toNat))), (0, .ref v)] rfl rfl rfl ?_
      refine eW_goto rfl ?_
      refine eW_re [(0, .ref v), (1, vI (gMax a (V.2.1 i.toNat))), (2, vI (i + 1))] rfl rfl (List.forall_mem_cons.mpr ⟨rfl, List.forall_mem_cons.mpr ⟨rfl, List.forall_mem_cons.mpr ⟨rfl, fun _ h => absurd h List.not_mem_nil⟩⟩⟩) (List.forall_mem_cons.mpr ⟨Or.inl rfl, List.forall_mem_cons.mpr ⟨Or.inl rfl, List.forall_mem_cons.mpr ⟨Or.inl rfl, fun _ h => absurd h List.not_mem_nil⟩⟩⟩) ?_
      exact absurd hm (by omega)
  | succ m9 ih =>
    intro a i hm q0 q1 q2 q3 kk
    have hil : i < 31 → 0 ≤ V.2.1 i.toNat ∧ V.2.1 i.toNat ≤ 31 := fun h9 => hV.1 _ (by omega)
    refine eW_iload_n 5 rfl rfl rfl ?_
    refine eW_bipush 7 rfl rfl 30 rfl ?_
    refine eW_icmp_gt 10 rfl rfl (by unfold i32; omega) (by unfold i32; omega) (fun c1 => ?_) (fun c1 => ?_)
    · refine kk _ _ ?_
      rw [q2, show i = 31 by omega]; rfl
    · refine eW_iload_n 11 rfl rfl rfl ?_
      refine eW_aload_n 12 rfl rfl rfl ?_
      refine eW_getfield 15 rfl rfl (Nat.ble_eq_true_of_le (by omega)) rfl hv.1 rfl ⟨rfl, fun _ h9 => nomatch h9⟩ ?_
      refine eW_iload_n 16 rfl rfl rfl ?_
      refine eW_iaload 17 rfl rfl (V.2.1 i.toNat) (Nat.ble_eq_true_of_le (by omega)) (show h (v + 2) = .inl (0, 31, .inl (eIA V.2.1)) from hv.2.2.1) (by omega) (by omega) (by unfold i32; omega) rfl ?_
      refine eW_max 20 rfl rfl rfl rfl (by unfold i32; omega) (by unfold i32; omega) ?_
      refine eW_istore_n 21 rfl rfl [(1, vI (gMax a (V.2.1 i.toNat))), (0, .ref v), (2, vI i)] rfl rfl ?_
      refine eW_iinc 24 rfl rfl [(2, vI (i + 1)), (1, vI (gMax a (V.2.1 i.toNat))), (0, .ref v)] rfl rfl rfl ?_
      refine eW_goto rfl ?_
      refine eW_re [(0, .ref v), (1, vI (gMax a (V.2.1 i.toNat))), (2, vI (i + 1))] rfl rfl (List.forall_mem_cons.mpr ⟨rfl, List.forall_mem_cons.mpr ⟨rfl, List.forall_mem_cons.mpr ⟨rfl, fun _ h => absurd h List.not_mem_nil⟩⟩⟩) (List.forall_mem_cons.mpr ⟨Or.inl rfl, List.forall_mem_cons.mpr ⟨Or.inl rfl, List.forall_mem_cons.mpr ⟨Or.inl rfl, fun _ h => absurd h List.not_mem_nil⟩⟩⟩) ?_
      refine ih _ (i + 1) (by omega) (by omega) (by omega) ?_ (gMax_le q3 (hV.1 _ (by omega))) kk
      rw [gTop_succ q0, q2]
theorem v_top {d N : Nat} {h : eHp} {v : Nat} {V : eVs} (hv : gV h v V) (hV : gVO V) (hN : v + 6 ≤ N)  : eSp (d + 1) eM_X5_greatest [.ref v] N h (eRet (some (vI (gTop V.2.1 31))) N h) := by
  refine eSp_of [(0, .ref v)] rfl rfl ?_
  refine eW_iconst 1 rfl rfl ?_
  refine eW_istore_n 2 rfl rfl [(1, vI 0), (0, .ref v)] rfl rfl ?_
  refine eW_iconst 3 rfl rfl ?_
  refine eW_istore_n 4 rfl rfl [(2, vI 0), (1, vI 0), (0, .ref v)] rfl rfl ?_
  refine eW_re [(0, .ref v), (1, vI 0), (2, vI 0)] rfl rfl (List.forall_mem_cons.mpr ⟨rfl, List.forall_mem_cons.mpr ⟨rfl, List.forall_mem_cons.mpr ⟨rfl, fun _ h => absurd h List.not_mem_nil⟩⟩⟩) (List.forall_mem_cons.mpr ⟨Or.inl rfl, List.forall_mem_cons.mpr ⟨Or.inl rfl, List.forall_mem_cons.mpr ⟨Or.inl rfl, fun _ h => absurd h List.not_mem_nil⟩⟩⟩) ?_
  refine v_top_l hv hV hN _ 0 0 (Int.self_le_toNat _) (by omega) (by omega) rfl (by omega) (fun a i q => ?_)
  refine eW_iload_n 28 rfl rfl rfl ?_
  refine eW_ret_i rfl rfl (Or.inl rfl) ?_
  exact eRet_i q
/-- n places from i on hold p -/
def gAllF (p : Int → Bool) (i : Int) : Nat → Bool
  | 0 => true
  | n + 1 => p i && gAllF p (i + 1) n
theorem gAllF_0 {p : Int → Bool} {i : Int} {k : Int} (h : k ≤ 0) : gAllF p i k.toNat = true := by rw [show k.toNat = 0 by omega]; rfl
theorem gAllF_t {p : Int → Bool} {i k : Int} (h : 0 < k) (hp : p i = true) : gAllF p i k.toNat = gAllF p (i + 1) (k - 1).toNat := by
  rw [show k.toNat = (k - 1).toNat + 1 by omega, gAllF, hp, Bool.true_and]
theorem gAllF_f {p : Int → Bool} {i k : Int} (h : 0 < k) (hp : p i = false) : gAllF p i k.toNat = false := by
  rw [show k.toNat = (k - 1).toNat + 1 by omega, gAllF, hp, Bool.false_and]
def gAlike (V : eVs) (i : Int) : Bool := decide (V.2.1 i.toNat = V.2.2.1 i.toNat)
def gPer (V : eVs) (n i : Int) : Bool := decide (gVal V.2.1 i = gVal V.2.1 (i + n))
theorem v_alike_l {d N : Nat} {h : eHp} {v : Nat} {V : eVs} (hv : gV h v V) (hV : gVO V) (hN : v + 6 ≤ N)  : ∀ (m9 : Nat) (i : Int), 31 - i ≤ m9 → 0 ≤ i → i ≤ 31 → eWp eOx (eEv (d + 0)) eM_X5_areAlike (2, [(0, .ref v), (1, vI i)], [], N, h, 0, 0) (eRet (some (vI (eB01 (gAllF (gAlike V) i (31 - i).toNat)))) N h) := by
  intro m9
  induction m9 with
  | zero =>
    intro i hm q0 q1
    have hil : i < 31 → 0 ≤ V.2.1 i.toNat ∧ V.2.1 i.toNat ≤ 31 := fun h9 => hV.1 _ (by omega)
    have hil2 : i < 31 → 0 ≤ V.2.2.1 i.toNat ∧ V.2.2.1 i.toNat ≤ 31 := fun h9 => hV.2.1 _ (by omega)
    refine eW_iload_n 3 rfl rfl rfl ?_
    refine eW_bipush 5 rfl rfl 30 rfl ?_
    refine eW_icmp_gt 8 rfl rfl (by unfold i32; omega) (by unfold i32; omega) (fun c1 => ?_) (fun c1 => ?_)
    · refine eW_iconst 32 rfl rfl ?_
      refine eW_ret_i rfl rfl (Or.inr (Or.inl ⟨rfl, rfl⟩)) ?_
      refine eRet_i ?_
      first | (rw [gAllF_f (by omega) (decide_eq_false (by assumption))]; rfl) | (rw [gAllF_0 (by omega)]; rfl)
    · refine eW_aload_n 9 rfl rfl rfl ?_
      refine eW_getfield 12 rfl rfl (Nat.ble_eq_true_of_le (by omega)) rfl hv.1 rfl ⟨rfl, fun _ h9 => nomatch h9⟩ ?_
      refine eW_iload_n 13 rfl rfl rfl ?_
      refine eW_iaload 14 rfl rfl (V.2.1 i.toNat) (Nat.ble_eq_true_of_le (by omega)) (show h (v + 2) = .inl (0, 31, .inl (eIA V.2.1)) from hv.2.2.1) (by omega) (by omega) (by unfold i32; omega) rfl ?_
      refine eW_aload_n 15 rfl rfl rfl ?_
      refine eW_getfield 18 rfl rfl (Nat.ble_eq_true_of_le (by omega)) rfl hv.1 rfl ⟨rfl, fun _ h9 => nomatch h9⟩ ?_
      refine eW_iload_n 19 rfl rfl rfl ?_
      refine eW_iaload 20 rfl rfl (V.2.2.1 i.toNat) (Nat.ble_eq_true_of_le (by omega)) (show h (v + 3) = .inl (0, 31, .inl (eIA V.2.2.1)) from hv.2.2.2.1) (by omega) (by omega) (by unfold i32; omega) rfl ?_
      refine eW_icmp_eq 23 rfl rfl (by unfold i32; omega) (by unfold i32; omega) (fun c2 => ?_) (fun c2 => ?_)
      · refine eW_iinc 28 rfl rfl [(1, vI (i + 1)), (0, .ref v)] rfl rfl rfl ?_
        refine eW_goto rfl ?_
        refine eW_re [(0, .ref v), (1, vI (i + 1))] rfl rfl (List.forall_mem_cons.mpr ⟨rfl, List.forall_mem_cons.mpr ⟨rfl, fun _ h => absurd h List.not_mem_nil⟩⟩) (List.forall_mem_cons.mpr ⟨Or.inl rfl, List.forall_mem_cons.mpr ⟨Or.inl rfl, fun _ h => absurd h List.not_mem_nil⟩⟩) ?_
        exact absurd hm (by omega)
      · refine eW_iconst 24 rfl rfl ?_
        refine eW_ret_i rfl rfl (Or.inr (Or.inl ⟨rfl, rfl⟩)) ?_
        refine eRet_i ?_
        first | (rw [gAllF_f (by omega) (decide_eq_false (by assumption))]; rfl) | (rw [gAllF_0 (by omega)]; rfl)
  | succ m9 ih =>
    intro i hm q0 q1
    have hil : i < 31 → 0 ≤ V.2.1 i.toNat ∧ V.2.1 i.toNat ≤ 31 := fun h9 => hV.1 _ (by omega)
    have hil2 : i < 31 → 0 ≤ V.2.2.1 i.toNat ∧ V.2.2.1 i.toNat ≤ 31 := fun h9 => hV.2.1 _ (by omega)
    refine eW_iload_n 3 rfl rfl rfl ?_
    refine eW_bipush 5 rfl rfl 30 rfl ?_
    refine eW_icmp_gt 8 rfl rfl (by unfold i32; omega) (by unfold i32; omega) (fun c1 => ?_) (fun c1 => ?_)
    · refine eW_iconst 32 rfl rfl ?_
      refine eW_ret_i rfl rfl (Or.inr (Or.inl ⟨rfl, rfl⟩)) ?_
      refine eRet_i ?_
      first | (rw [gAllF_f (by omega) (decide_eq_false (by assumption))]; rfl) | (rw [gAllF_0 (by omega)]; rfl)
    · refine eW_aload_n 9 rfl rfl rfl ?_
      refine eW_getfield 12 rfl rfl (Nat.ble_eq_true_of_le (by omega)) rfl hv.1 rfl ⟨rfl, fun _ h9 => nomatch h9⟩ ?_
      refine eW_iload_n 13 rfl rfl rfl ?_
      refine eW_iaload 14 rfl rfl (V.2.1 i.toNat) (Nat.ble_eq_true_of_le (by omega)) (show h (v + 2) = .inl (0, 31, .inl (eIA V.2.1)) from hv.2.2.1) (by omega) (by omega) (by unfold i32; omega) rfl ?_
      refine eW_aload_n 15 rfl rfl rfl ?_
      refine eW_getfield 18 rfl rfl (Nat.ble_eq_true_of_le (by omega)) rfl hv.1 rfl ⟨rfl, fun _ h9 => nomatch h9⟩ ?_
      refine eW_iload_n 19 rfl rfl rfl ?_
      refine eW_iaload 20 rfl rfl (V.2.2.1 i.toNat) (Nat.ble_eq_true_of_le (by omega)) (show h (v + 3) = .inl (0, 31, .inl (eIA V.2.2.1)) from hv.2.2.2.1) (by omega) (by omega) (by unfold i32; omega) rfl ?_
      refine eW_icmp_eq 23 rfl rfl (by unfold i32; omega) (by unfold i32; omega) (fun c2 => ?_) (fun c2 => ?_)
      · refine eW_iinc 28 rfl rfl [(1, vI (i + 1)), (0, .ref v)] rfl rfl rfl ?_
        refine eW_goto rfl ?_
        refine eW_re [(0, .ref v), (1, vI (i + 1))] rfl rfl (List.forall_mem_cons.mpr ⟨rfl, List.forall_mem_cons.mpr ⟨rfl, fun _ h => absurd h List.not_mem_nil⟩⟩) (List.forall_mem_cons.mpr ⟨Or.inl rfl, List.forall_mem_cons.mpr ⟨Or.inl rfl, fun _ h => absurd h List.not_mem_nil⟩⟩) ?_
        rw [gAllF_t (by omega) (decide_eq_true (by assumption)), show 31 - i - 1 = 31 - (i + 1) by omega]
        exact ih (i + 1) (by omega) (by omega) (by omega)
      · refine eW_iconst 24 rfl rfl ?_
        refine eW_ret_i rfl rfl (Or.inr (Or.inl ⟨rfl, rfl⟩)) ?_
        refine eRet_i ?_
        first | (rw [gAllF_f (by omega) (decide_eq_false (by assumption))]; rfl) | (rw [gAllF_0 (by omega)]; rfl)
theorem v_alike {d N : Nat} {h : eHp} {v : Nat} {V : eVs} (hv : gV h v V) (hV : gVO V) (hN : v + 6 ≤ N)  : eSp (d + 1) eM_X5_areAlike [.ref v] N h (eRet (some (vI (eB01 (gAllF (gAlike V) 0 31)))) N h) := by
  refine eSp_of [(0, .ref v)] rfl rfl ?_
  refine eW_iconst 1 rfl rfl ?_
  refine eW_istore_n 2 rfl rfl [(1, vI 0), (0, .ref v)] rfl rfl ?_
  refine eW_re [(0, .ref v), (1, vI 0)] rfl rfl (List.forall_mem_cons.mpr ⟨rfl, List.forall_mem_cons.mpr ⟨rfl, fun _ h => absurd h List.not_mem_nil⟩⟩) (List.forall_mem_cons.mpr ⟨Or.inl rfl, List.forall_mem_cons.mpr ⟨Or.inl rfl, fun _ h => absurd h List.not_mem_nil⟩⟩) ?_
  exact v_alike_l hv hV hN _ 0 (Int.self_le_toNat _) (by omega) (by omega)
theorem v_per_l {d N : Nat} {h : eHp} {v : Nat} {V : eVs} (hv : gV h v V) (hV : gVO V) (hN : v + 6 ≤ N) {a n : Int} (hn : 1 ≤ n ∧ n ≤ 30) : ∀ (m9 : Nat) (i : Int), 31 - n - i ≤ m9 → 0 ≤ i → i ≤ 31 → eWp eOx (eEv (d + 2)) eM_X5_isPeriod (2, [(0, .ref v), (1, vI a), (2, vI n), (3, vI i)], [], N, h, 0, 0) (eRet (some (vI (eB01 (gAllF (gPer V n) i (31 - n - i).toNat)))) N h) := by
  intro m9
  induction m9 with
  | zero =>
    intro i hm q0 q1
    refine eW_iload_n 3 rfl rfl rfl ?_
    refine eW_bipush 5 rfl rfl 30 rfl ?_
    refine eW_iload_n 6 rfl rfl rfl ?_
    refine eW_isub 7 rfl rfl ?_
    refine eW_icmp_gt 10 rfl rfl (by unfold i32; omega) (by unfold i32; omega) (fun c1 => ?_) (fun c1 => ?_)
    · refine eW_iconst 34 rfl rfl ?_
      refine eW_ret_i rfl rfl (Or.inr (Or.inl ⟨rfl, rfl⟩)) ?_
      refine eRet_i ?_
      first | (rw [gAllF_f (by omega) (decide_eq_false (by assumption))]; rfl) | (rw [gAllF_0 (by omega)]; rfl)
    · refine eW_aload_n 11 rfl rfl rfl ?_
      refine eW_iload_n 12 rfl rfl rfl ?_
      have hlex2 := gVal_le (by omega) hV.1 i
      refine eW_callV 15 [.ref v, vI i] [] [vI (gVal V.2.1 i)] rfl rfl rfl rfl (Nat.ble_eq_true_of_le (by omega)) hv.1 rfl rfl rfl (v_of (d := d + 0) hv hV hN (by unfold i32; omega)) rfl rfl ?_
      refine eW_aload_n 16 rfl rfl rfl ?_
      refine eW_iload_n 17 rfl rfl rfl ?_
      refine eW_iload_n 18 rfl rfl rfl ?_
      refine eW_iadd 19 rfl rfl ?_
      have hlex3 := gVal_le (by omega) hV.1 (i + n)
      refine eW_callV 22 [.ref v, vI (i + n)] [vI (gVal V.2.1 i)] [vI (gVal V.2.1 (i + n)), vI (gVal V.2.1 i)] rfl rfl rfl rfl (Nat.ble_eq_true_of_le (by omega)) hv.1 rfl rfl rfl (v_of (d := d + 0) hv hV hN (by unfold i32; omega)) rfl rfl ?_
      refine eW_icmp_eq 25 rfl rfl (by unfold i32; omega) (by unfold i32; omega) (fun c4 => ?_) (fun c4 => ?_)
      · refine eW_iinc 30 rfl rfl [(3, vI (i + 1)), (0, .ref v), (1, vI a), (2, vI n)] rfl rfl rfl ?_
        refine eW_goto rfl ?_
        refine eW_re [(0, .ref v), (1, vI a), (2, vI n), (3, vI (i + 1))] rfl rfl (List.forall_mem_cons.mpr ⟨rfl, List.forall_mem_cons.mpr ⟨rfl, List.forall_mem_cons.mpr ⟨rfl, List.forall_mem_cons.mpr ⟨rfl, fun _ h => absurd h List.not_mem_nil⟩⟩⟩⟩) (List.forall_mem_cons.mpr ⟨Or.inl rfl, List.forall_mem_cons.mpr ⟨Or.inl rfl, List.forall_mem_cons.mpr ⟨Or.inl rfl, List.forall_mem_cons.mpr ⟨Or.inl rfl, fun _ h => absurd h List.not_mem_nil⟩⟩⟩⟩) ?_
        exact absurd hm (by omega)
      · refine eW_iconst 26 rfl rfl ?_
        refine eW_ret_i rfl rfl (Or.inr (Or.inl ⟨rfl, rfl⟩)) ?_
        refine eRet_i ?_
        first | (rw [gAllF_f (by omega) (decide_eq_false (by assumption))]; rfl) | (rw [gAllF_0 (by omega)]; rfl)
  | succ m9 ih =>
    intro i hm q0 q1
    refine eW_iload_n 3 rfl rfl rfl ?_
    refine eW_bipush 5 rfl rfl 30 rfl ?_
    refine eW_iload_n 6 rfl rfl rfl ?_
    refine eW_isub 7 rfl rfl ?_
    refine eW_icmp_gt 10 rfl rfl (by unfold i32; omega) (by unfold i32; omega) (fun c1 => ?_) (fun c1 => ?_)
    · refine eW_iconst 34 rfl rfl ?_
      refine eW_ret_i rfl rfl (Or.inr (Or.inl ⟨rfl, rfl⟩)) ?_
      refine eRet_i ?_
      first | (rw [gAllF_f (by omega) (decide_eq_false (by assumption))]; rfl) | (rw [gAllF_0 (by omega)]; rfl)
    · refine eW_aload_n 11 rfl rfl rfl ?_
      refine eW_iload_n 12 rfl rfl rfl ?_
      have hlex2 := gVal_le (by omega) hV.1 i
      refine eW_callV 15 [.ref v, vI i] [] [vI (gVal V.2.1 i)] rfl rfl rfl rfl (Nat.ble_eq_true_of_le (by omega)) hv.1 rfl rfl rfl (v_of (d := d + 0) hv hV hN (by unfold i32; omega)) rfl rfl ?_
      refine eW_aload_n 16 rfl rfl rfl ?_
      refine eW_iload_n 17 rfl rfl rfl ?_
      refine eW_iload_n 18 rfl rfl rfl ?_
      refine eW_iadd 19 rfl rfl ?_
      have hlex3 := gVal_le (by omega) hV.1 (i + n)
      refine eW_callV 22 [.ref v, vI (i + n)] [vI (gVal V.2.1 i)] [vI (gVal V.2.1 (i + n)), vI (gVal V.2.1 i)] rfl rfl rfl rfl (Nat.ble_eq_true_of_le (by omega)) hv.1 rfl rfl rfl (v_of (d := d + 0) hv hV hN (by unfold i32; omega)) rfl rfl ?_
      refine eW_icmp_eq 25 rfl rfl (by unfold i32; omega) (by unfold i32; omega) (fun c4 => ?_) (fun c4 => ?_)
      · refine eW_iinc 30 rfl rfl [(3, vI (i + 1)), (0, .ref v), (1, vI a), (2, vI n)] rfl rfl rfl ?_
        refine eW_goto rfl ?_
        refine eW_re [(0, .ref v), (1, vI a), (2, vI n), (3, vI (i + 1))] rfl rfl (List.forall_mem_cons.mpr ⟨rfl, List.forall_mem_cons.mpr ⟨rfl, List.forall_mem_cons.mpr ⟨rfl, List.forall_mem_cons.mpr ⟨rfl, fun _ h => absurd h List.not_mem_nil⟩⟩⟩⟩) (List.forall_mem_cons.mpr ⟨Or.inl rfl, List.forall_mem_cons.mpr ⟨Or.inl rfl, List.forall_mem_cons.mpr ⟨Or.inl rfl, List.forall_mem_cons.mpr ⟨Or.inl rfl, fun _ h => absurd h List.not_mem_nil⟩⟩⟩⟩) ?_
        rw [gAllF_t (by omega) (decide_eq_true (by assumption)), show 31 - n - i - 1 = 31 - n - (i + 1) by omega]
        exact ih (i + 1) (by omega) (by omega) (by omega)
      · refine eW_iconst 26 rfl rfl ?_
        refine eW_ret_i rfl rfl (Or.inr (Or.inl ⟨rfl, rfl⟩)) ?_
        refine eRet_i ?_
        first | (rw [gAllF_f (by omega) (decide_eq_false (by assumption))]; rfl) | (rw [gAllF_0 (by omega)]; rfl)
theorem v_per {d N : Nat} {h : eHp} {v : Nat} {V : eVs} (hv : gV h v V) (hV : gVO V) (hN : v + 6 ≤ N) {a n : Int} (hn : 1 ≤ n ∧ n ≤ 30) (ha : 0 ≤ a ∧ a ≤ 30) : eSp (d + 3) eM_X5_isPeriod [.ref v, vI a, vI n] N h (eRet (some (vI (eB01 (gAllF (gPer V n) a (31 - n - a).toNat)))) N h) := by
  refine eSp_of [(0, .ref v), (1, vI a), (2, vI n)] rfl rfl ?_
  refine eW_iload_n 1 rfl rfl rfl ?_
  refine eW_istore_n 2 rfl rfl [(3, vI a), (0, .ref v), (1, vI a), (2, vI n)] rfl rfl ?_
  refine eW_re [(0, .ref v), (1, vI a), (2, vI n), (3, vI a)] rfl rfl (List.forall_mem_cons.mpr ⟨rfl, List.forall_mem_cons.mpr ⟨rfl, List.forall_mem_cons.mpr ⟨rfl, List.forall_mem_cons.mpr ⟨rfl, fun _ h => absurd h List.not_mem_nil⟩⟩⟩⟩) (List.forall_mem_cons.mpr ⟨Or.inl rfl, List.forall_mem_cons.mpr ⟨Or.inl rfl, List.forall_mem_cons.mpr ⟨Or.inl rfl, List.forall_mem_cons.mpr ⟨Or.inl rfl, fun _ h => absurd h List.not_mem_nil⟩⟩⟩⟩) ?_
  exact v_per_l hv hV hN hn _ a (Int.self_le_toNat _) (by omega) (by omega)
theorem v_put {d N : Nat} {h : eHp} {v : Nat} {V : eVs} (hv : gV h v V) (hN : v + 6 ≤ N) {x : Int} (hx : 0 ≤ x ∧ x ≤ 31) : eSp (d + 1) eM_X5_putInList [.ref v, vI x] N h (eChg none N (fun h' => gV h' v (V.1, V.2.1, V.2.2.1, V.2.2.2.1, eUp V.2.2.2.2 x.toNat 1) ∧ ∀ i, (i < v ∨ v + 5 < i) → h' i = h i)) := by
  refine eSp_of [(0, .ref v), (1, vI x)] rfl rfl ?_
  refine eW_iload_n 1 rfl rfl rfl ?_
  refine eW_if_lt 4 rfl rfl (by unfold i32; omega) (fun c1 => absurd c1 (by omega)) (fun c1 => ?_)
  refine eW_iload_n 5 rfl rfl rfl ?_
  refine eW_bipush 7 rfl rfl 32 rfl ?_
  refine eW_icmp_ge 10 rfl rfl (by unfold i32; omega) (by unfold i32; omega) (fun c2 => absurd c2 (by omega)) (fun c2 => ?_)
  refine eW_aload_n 11 rfl rfl rfl ?_
  refine eW_getfield 14 rfl rfl (Nat.ble_eq_true_of_le (by omega)) rfl hv.1 rfl ⟨rfl, fun _ h9 => nomatch h9⟩ ?_
  refine eW_iload_n 15 rfl rfl rfl ?_
  refine eW_iconst 16 rfl rfl ?_
  refine eW_bastore 17 rfl rfl (Nat.ble_eq_true_of_le (by omega)) (show h (v + 5) = .inl (2, 32, .inl (eIA V.2.2.2.2)) from hv.2.2.2.2.2) (by omega) (by omega) (by unfold i32; omega) rfl ?_
  intro h3 eh3 oh3
  have hvh3 : gV h3 v (V.1, V.2.1, V.2.2.1, V.2.2.2.1, eUp V.2.2.2.2 x.toNat 1) := gV_4 (V := (V.1, V.2.1, V.2.2.1, V.2.2.2.1, V.2.2.2.2)) hv eh3 oh3
  have uh3 : ∀ i, (i < v ∨ v + 5 < i) → h3 i = h i := fun i hi => (oh3 i (by omega)).trans ((fun _ _ => rfl) i hi)
  refine eW_ret rfl rfl ?_
  exact ⟨_, rfl, hvh3, uh3⟩
theorem gLets_le {D : Int → Int} {n t l : Int} (h : gLets D n t l = true) : 0 ≤ l ∧ t + l ≤ n := ⟨(gLets_iff.mp h).1, (gLets_iff.mp h).2.1⟩
theorem eB01_or (a b : Bool) : eB01 (a || b) = match b with | true => 1 | false => eB01 a := by cases a <;> cases b <;> rfl
theorem v_clear_l {d N k z : Nat} {h0 : eHp} {v : Nat} {V : eVs} {g : Nat} {G : eGd} {P : eR → Prop} (hV : gVO V) (hN : v + 6 ≤ N) (hg : gG h0 g G) (hG : gOk G) (hN2 : g + 4 ≤ N) (hd : g + 3 < v ∨ v + 5 < g) {m : Int} : ∀ (m9 : Nat) (c : Int) (F : Nat → Int) (h : eHp), 32 - c ≤ m9 → 0 ≤ c ∧ c ≤ 32 → gV h v (V.1, V.2.1, V.2.2.1, V.2.2.2.1, F) → (∀ j : Nat, (j : Int) < c → F j = 0) → (∀ i, (i < v ∨ v + 5 < i) → h i = h0 i) → (∀ (F : Nat → Int) (h : eHp), gV h v (V.1, V.2.1, V.2.2.1, V.2.2.2.1, F) → (∀ j : Nat, j < 32 → F j = 0) → (∀ i, (i < v ∨ v + 5 < i) → h i = h0 i) → eWp eOx (eEv (d + 2)) eM_X5_makeList (21, [(0, .ref v), (1, .ref g), (2, vI m)], [], N, h, k, z) P) → eWp eOx (eEv (d + 2)) eM_X5_makeList (2, [(0, .ref v), (1, .ref g), (2, vI m), (3, vI c)], [], N, h, k, z) P := by
  intro m9
  induction m9 with
  | zero =>
    intro c F h hm q0 q1 q2 q3 kk
    refine eW_iload_n 3 rfl rfl rfl ?_
    refine eW_bipush 5 rfl rfl 32 rfl ?_
    refine eW_icmp_ge 8 rfl rfl (by unfold i32; omega) (by unfold i32; omega) (fun c1 => ?_) (fun c1 => ?_)
    · refine eW_re [(0, .ref v), (1, .ref g), (2, vI m)] rfl rfl (List.forall_mem_cons.mpr ⟨rfl, List.forall_mem_cons.mpr ⟨rfl, List.forall_mem_cons.mpr ⟨rfl, fun _ h => absurd h List.not_mem_nil⟩⟩⟩) (List.forall_mem_cons.mpr ⟨Or.inl rfl, List.forall_mem_cons.mpr ⟨Or.inl rfl, List.forall_mem_cons.mpr ⟨Or.inl rfl, List.forall_mem_cons.mpr ⟨Or.inr ⟨_, rfl⟩, fun _ h => absurd h List.not_mem_nil⟩⟩⟩⟩) ?_
      exact kk F h q1 (fun j hj => q2 j (by omega)) q3
    · refine eW_aload_n 9 rfl rfl rfl ?_
      refine eW_getfield 12 rfl rfl (Nat.ble_eq_true_of_le (by omega)) rfl q1.1 rfl ⟨rfl, fun _ h9 => nomatch h9⟩ ?_
      refine eW_iload_n 13 rfl rfl rfl ?_
      refine eW_iconst 14 rfl rfl ?_
      refine eW_bastore 15 rfl rfl (Nat.ble_eq_true_of_le (by omega)) (show h (v + 5) = .inl (2, 32, .inl (eIA F)) from q1.2.2.2.2.2) (by omega) (by omega) (by unfold i32; omega) rfl ?_
      intro h2 eh2 oh2
      have hvh2 : gV h2 v (V.1, V.2.1, V.2.2.1, V.2.2.2.1, eUp F c.toNat 0) := gV_4 (V := (V.1, V.2.1, V.2.2.1, V.2.2.2.1, F)) q1 eh2 oh2
      have uh2 : ∀ i, (i < v ∨ v + 5 < i) → h2 i = h0 i := fun i hi => (oh2 i (by omega)).trans (q3 i hi)
      refine eW_iinc 18 rfl rfl [(3, vI (c + 1)), (0, .ref v), (1, .ref g), (2, vI m)] rfl rfl rfl ?_
      refine eW_goto rfl ?_
      refine eW_re [(0, .ref v), (1, .ref g), (2, vI m), (3, vI (c + 1))] rfl rfl (List.forall_mem_cons.mpr ⟨rfl, List.forall_mem_cons.mpr ⟨rfl, List.forall_mem_cons.mpr ⟨rfl, List.forall_mem_cons.mpr ⟨rfl, fun _ h => absurd h List.not_mem_nil⟩⟩⟩⟩) (List.forall_mem_cons.mpr ⟨Or.inl rfl, List.forall_mem_cons.mpr ⟨Or.inl rfl, List.forall_mem_cons.mpr ⟨Or.inl rfl, List.forall_mem_cons.mpr ⟨Or.inl rfl, fun _ h => absurd h List.not_mem_nil⟩⟩⟩⟩) ?_
      exact absurd hm (by omega)
  | succ m9 ih =>
    intro c F h hm q0 q1 q2 q3 kk
    refine eW_iload_n 3 rfl rfl rfl ?_
    refine eW_bipush 5 rfl rfl 32 rfl ?_
    refine eW_icmp_ge 8 rfl rfl (by unfold i32; omega) (by unfold i32; omega) (fun c1 => ?_) (fun c1 => ?_)
    · refine eW_re [(0, .ref v), (1, .ref g), (2, vI m)] rfl rfl (List.forall_mem_cons.mpr ⟨rfl, List.forall_mem_cons.mpr ⟨rfl, List.forall_mem_cons.mpr ⟨rfl, fun _ h => absurd h List.not_mem_nil⟩⟩⟩) (List.forall_mem_cons.mpr ⟨Or.inl rfl, List.forall_mem_cons.mpr ⟨Or.inl rfl, List.forall_mem_cons.mpr ⟨Or.inl rfl, List.forall_mem_cons.mpr ⟨Or.inr ⟨_, rfl⟩, fun _ h => absurd h List.not_mem_nil⟩⟩⟩⟩) ?_
      exact kk F h q1 (fun j hj => q2 j (by omega)) q3
    · refine eW_aload_n 9 rfl rfl rfl ?_
      refine eW_getfield 12 rfl rfl (Nat.ble_eq_true_of_le (by omega)) rfl q1.1 rfl ⟨rfl, fun _ h9 => nomatch h9⟩ ?_
      refine eW_iload_n 13 rfl rfl rfl ?_
      refine eW_iconst 14 rfl rfl ?_
      refine eW_bastore 15 rfl rfl (Nat.ble_eq_true_of_le (by omega)) (show h (v + 5) = .inl (2, 32, .inl (eIA F)) from q1.2.2.2.2.2) (by omega) (by omega) (by unfold i32; omega) rfl ?_
      intro h2 eh2 oh2
      have hvh2 : gV h2 v (V.1, V.2.1, V.2.2.1, V.2.2.2.1, eUp F c.toNat 0) := gV_4 (V := (V.1, V.2.1, V.2.2.1, V.2.2.2.1, F)) q1 eh2 oh2
      have uh2 : ∀ i, (i < v ∨ v + 5 < i) → h2 i = h0 i := fun i hi => (oh2 i (by omega)).trans (q3 i hi)
      refine eW_iinc 18 rfl rfl [(3, vI (c + 1)), (0, .ref v), (1, .ref g), (2, vI m)] rfl rfl rfl ?_
      refine eW_goto rfl ?_
      refine eW_re [(0, .ref v), (1, .ref g), (2, vI m), (3, vI (c + 1))] rfl rfl (List.forall_mem_cons.mpr ⟨rfl, List.forall_mem_cons.mpr ⟨rfl, List.forall_mem_cons.mpr ⟨rfl, List.forall_mem_cons.mpr ⟨rfl, fun _ h => absurd h List.not_mem_nil⟩⟩⟩⟩) (List.forall_mem_cons.mpr ⟨Or.inl rfl, List.forall_mem_cons.mpr ⟨Or.inl rfl, List.forall_mem_cons.mpr ⟨Or.inl rfl, List.forall_mem_cons.mpr ⟨Or.inl rfl, fun _ h => absurd h List.not_mem_nil⟩⟩⟩⟩) ?_
      refine ih (c + 1) _ h2 (by omega) (by omega) hvh2 (fun j hj => ?_) uh2 kk
      unfold eUp
      split
      · rfl
      · exact q2 j (by omega)
theorem v_mk_i {d N k z : Nat} {h0 : eHp} {v : Nat} {V : eVs} {g : Nat} {G : eGd} {P : eR → Prop} (hV : gVO V) (hN : v + 6 ≤ N) (hg : gG h0 g G) (hG : gOk G) (hN2 : g + 4 ≤ N) (hd : g + 3 < v ∨ v + 5 < g) {m t : Int} (hm2 : 0 ≤ m ∧ m ≤ 30) (ht : 1 ≤ t ∧ t ≤ 6) : ∀ (m9 : Nat) (l : Int) (F : Nat → Int) (h : eHp), m - t + 1 - l ≤ m9 → 0 ≤ l ∧ (l ≤ m - t + 1 ∨ l = 0) → gV h v (V.1, V.2.1, V.2.2.1, V.2.2.2.1, F) → (∀ j : Nat, j < 32 → F j = eB01 (gOptT (gDig G) (gVal V.2.1) m j (t - 1).toNat || gOptL (gDig G) (gVal V.2.1) m t j l.toNat)) → (∀ i, (i < v ∨ v + 5 < i) → h i = h0 i) → (∀ (F : Nat → Int) (h : eHp), gV h v (V.1, V.2.1, V.2.2.1, V.2.2.2.1, F) → (∀ j : Nat, j < 32 → F j = eB01 (gOptT (gDig G) (gVal V.2.1) m j t.toNat)) → (∀ i, (i < v ∨ v + 5 < i) → h i = h0 i) → eWp eOx (eEv (d + 2)) eM_X5_makeList (78, [(0, .ref v), (1, .ref g), (2, vI m), (3, vI t)], [], N, h, k, z) P) → eWp eOx (eEv (d + 2)) eM_X5_makeList (32, [(0, .ref v), (1, .ref g), (2, vI m), (3, vI t), (4, vI l)], [], N, h, k, z) P := by
  intro m9
  induction m9 with
  | zero =>
    intro l F h hm q0 q1 q2 q3 kk
    have hV' : gVO (V.1, V.2.1, V.2.2.1, V.2.2.2.1, F) := ⟨hV.1, hV.2.1, hV.2.2.1, (fun j hj => by show F j = 0 ∨ F j = 1; rw [q2 j hj]; exact (eB01_c _).elim (fun a => Or.inr a.2) (fun a => Or.inl a.2)), hV.2.2.2.2⟩
    refine eW_iload 34 rfl rfl rfl ?_
    refine eW_iload_n 35 rfl rfl rfl ?_
    refine eW_iload_n 36 rfl rfl rfl ?_
    refine eW_isub 37 rfl rfl ?_
    refine eW_icmp_gt 40 rfl rfl (by unfold i32; omega) (by unfold i32; omega) (fun c1 => ?_) (fun c1 => ?_)
    · refine eW_re [(0, .ref v), (1, .ref g), (2, vI m), (3, vI t)] rfl rfl (List.forall_mem_cons.mpr ⟨rfl, List.forall_mem_cons.mpr ⟨rfl, List.forall_mem_cons.mpr ⟨rfl, List.forall_mem_cons.mpr ⟨rfl, fun _ h => absurd h List.not_mem_nil⟩⟩⟩⟩) (List.forall_mem_cons.mpr ⟨Or.inl rfl, List.forall_mem_cons.mpr ⟨Or.inl rfl, List.forall_mem_cons.mpr ⟨Or.inl rfl, List.forall_mem_cons.mpr ⟨Or.inl rfl, List.forall_mem_cons.mpr ⟨Or.inr ⟨_, rfl⟩, fun _ h => absurd h List.not_mem_nil⟩⟩⟩⟩⟩) ?_
      refine kk F h q1 (fun j hj => ?_) q3
      rw [q2 j hj, gOptT_succ ht.1, show (m - t + 1).toNat = l.toNat by omega]
    · refine eW_aload_n 41 rfl rfl rfl ?_
      refine eW_iload_n 42 rfl rfl rfl ?_
      refine eW_iload_n 43 rfl rfl rfl ?_
      refine eW_iload 45 rfl rfl rfl ?_
      have hb := eB01_c (gLets (gDig G) m t l)
      refine eW_callV 48 [.ref g, vI m, vI t, vI l] [] [vI (eB01 (gLets (gDig G) m t l))] rfl rfl rfl rfl (Nat.ble_eq_true_of_le (by omega)) (show h g = _ from (q3 _ (by omega)).trans hg.1) rfl rfl rfl (g_lets (d := d) (gG_k hg (fun i _ _ => q3 i (by omega))) hG hN2 (by omega) (by unfold i32; omega) (by unfold i32; omega) (by unfold i32; omega) (by unfold i32; omega)) rfl rfl ?_
      refine eW_if_eq 51 rfl rfl (by unfold i32; omega) (fun c3 => ?_) (fun c3 => ?_)
      · refine eW_iinc 75 rfl rfl [(4, vI (l + 1)), (0, .ref v), (1, .ref g), (2, vI m), (3, vI t)] rfl rfl rfl ?_
        refine eW_goto rfl ?_
        refine eW_re [(0, .ref v), (1, .ref g), (2, vI m), (3, vI t), (4, vI (l + 1))] rfl rfl (List.forall_mem_cons.mpr ⟨rfl, List.forall_mem_cons.mpr ⟨rfl, List.forall_mem_cons.mpr ⟨rfl, List.forall_mem_cons.mpr ⟨rfl, List.forall_mem_cons.mpr ⟨rfl, fun _ h => absurd h List.not_mem_nil⟩⟩⟩⟩⟩) (List.forall_mem_cons.mpr ⟨Or.inl rfl, List.forall_mem_cons.mpr ⟨Or.inl rfl, List.forall_mem_cons.mpr ⟨Or.inl rfl, List.forall_mem_cons.mpr ⟨Or.inl rfl, List.forall_mem_cons.mpr ⟨Or.inl rfl, fun _ h => absurd h List.not_mem_nil⟩⟩⟩⟩⟩) ?_
        exact absurd hm (by omega)
      · refine eW_aload_n 52 rfl rfl rfl ?_
        refine eW_aload_n 53 rfl rfl rfl ?_
        refine eW_iload 55 rfl rfl rfl ?_
        have hlex4 := gVal_le (by omega) hV.1 l
        refine eW_callV 58 [.ref v, vI l] [.ref v] [vI (gVal V.2.1 l), .ref v] rfl rfl rfl rfl (Nat.ble_eq_true_of_le (by omega)) q1.1 rfl rfl rfl (v_of (d := d) (V := (V.1, V.2.1, V.2.2.1, V.2.2.2.1, F)) q1 hV' hN (by unfold i32; omega)) rfl rfl ?_
        refine eW_aload_n 59 rfl rfl rfl ?_
        refine eW_iload_n 60 rfl rfl rfl ?_
        refine eW_iload_n 61 rfl rfl rfl ?_
        refine eW_isub 62 rfl rfl ?_
        refine eW_iload 64 rfl rfl rfl ?_
        refine eW_isub 65 rfl rfl ?_
        have hlex5 := gVal_le (by omega) hV.1 ((m - t) - l)
        refine eW_callV 68 [.ref v, vI ((m - t) - l)] [vI (gVal V.2.1 l), .ref v] [vI (gVal V.2.1 ((m - t) - l)), vI (gVal V.2.1 l), .ref v] rfl rfl rfl rfl (Nat.ble_eq_true_of_le (by omega)) q1.1 rfl rfl rfl (v_of (d := d) (V := (V.1, V.2.1, V.2.2.1, V.2.2.2.1, F)) q1 hV' hN (by unfold i32; omega)) rfl rfl ?_
        refine eW_ixor 69 rfl rfl (gXr (gVal V.2.1 l) (gVal V.2.1 ((m - t) - l))) (gXr_ok (by omega) (by omega)) ?_
        refine eW_callVH 72 [.ref v, vI (gXr (gVal V.2.1 l) (gVal V.2.1 ((m - t) - l)))] [] [] rfl rfl rfl rfl (Nat.ble_eq_true_of_le (by omega)) q1.1 rfl rfl rfl (v_put (d := d + 1) (V := (V.1, V.2.1, V.2.2.1, V.2.2.2.1, F)) q1 hN (gXr_lt (by omega) (by omega))) rfl rfl ?_
        intro h6 fh6
        have hvh6 : gV h6 v (V.1, V.2.1, V.2.2.1, V.2.2.2.1, eUp F (gXr (gVal V.2.1 l) (gVal V.2.1 ((m - t) - l))).toNat 1) := fh6.1
        have uh6 : ∀ i, (i < v ∨ v + 5 < i) → h6 i = h0 i := fun i hi => (fh6.2 i hi).trans (q3 i hi)
        refine eW_iinc 75 rfl rfl [(4, vI (l + 1)), (0, .ref v), (1, .ref g), (2, vI m), (3, vI t)] rfl rfl rfl ?_
        refine eW_goto rfl ?_
        refine eW_re [(0, .ref v), (1, .ref g), (2, vI m), (3, vI t), (4, vI (l + 1))] rfl rfl (List.forall_mem_cons.mpr ⟨rfl, List.forall_mem_cons.mpr ⟨rfl, List.forall_mem_cons.mpr ⟨rfl, List.forall_mem_cons.mpr ⟨rfl, List.forall_mem_cons.mpr ⟨rfl, fun _ h => absurd h List.not_mem_nil⟩⟩⟩⟩⟩) (List.forall_mem_cons.mpr ⟨Or.inl rfl, List.forall_mem_cons.mpr ⟨Or.inl rfl, List.forall_mem_cons.mpr ⟨Or.inl rfl, List.forall_mem_cons.mpr ⟨Or.inl rfl, List.forall_mem_cons.mpr ⟨Or.inl rfl, fun _ h => absurd h List.not_mem_nil⟩⟩⟩⟩⟩) ?_
        exact absurd hm (by omega)
  | succ m9 ih =>
    intro l F h hm q0 q1 q2 q3 kk
    have hV' : gVO (V.1, V.2.1, V.2.2.1, V.2.2.2.1, F) := ⟨hV.1, hV.2.1, hV.2.2.1, (fun j hj => by show F j = 0 ∨ F j = 1; rw [q2 j hj]; exact (eB01_c _).elim (fun a => Or.inr a.2) (fun a => Or.inl a.2)), hV.2.2.2.2⟩
    refine eW_iload 34 rfl rfl rfl ?_
    refine eW_iload_n 35 rfl rfl rfl ?_
    refine eW_iload_n 36 rfl rfl rfl ?_
    refine eW_isub 37 rfl rfl ?_
    refine eW_icmp_gt 40 rfl rfl (by unfold i32; omega) (by unfold i32; omega) (fun c1 => ?_) (fun c1 => ?_)
    · refine eW_re [(0, .ref v), (1, .ref g), (2, vI m), (3, vI t)] rfl rfl (List.forall_mem_cons.mpr ⟨rfl, List.forall_mem_cons.mpr ⟨rfl, List.forall_mem_cons.mpr ⟨rfl, List.forall_mem_cons.mpr ⟨rfl, fun _ h => absurd h List.not_mem_nil⟩⟩⟩⟩) (List.forall_mem_cons.mpr ⟨Or.inl rfl, List.forall_mem_cons.mpr ⟨Or.inl rfl, List.forall_mem_cons.mpr ⟨Or.inl rfl, List.forall_mem_cons.mpr ⟨Or.inl rfl, List.forall_mem_cons.mpr ⟨Or.inr ⟨_, rfl⟩, fun _ h => absurd h List.not_mem_nil⟩⟩⟩⟩⟩) ?_
      refine kk F h q1 (fun j hj => ?_) q3
      rw [q2 j hj, gOptT_succ ht.1, show (m - t + 1).toNat = l.toNat by omega]
    · refine eW_aload_n 41 rfl rfl rfl ?_
      refine eW_iload_n 42 rfl rfl rfl ?_
      refine eW_iload_n 43 rfl rfl rfl ?_
      refine eW_iload 45 rfl rfl rfl ?_
      have hb := eB01_c (gLets (gDig G) m t l)
      refine eW_callV 48 [.ref g, vI m, vI t, vI l] [] [vI (eB01 (gLets (gDig G) m t l))] rfl rfl rfl rfl (Nat.ble_eq_true_of_le (by omega)) (show h g = _ from (q3 _ (by omega)).trans hg.1) rfl rfl rfl (g_lets (d := d) (gG_k hg (fun i _ _ => q3 i (by omega))) hG hN2 (by omega) (by unfold i32; omega) (by unfold i32; omega) (by unfold i32; omega) (by unfold i32; omega)) rfl rfl ?_
      refine eW_if_eq 51 rfl rfl (by unfold i32; omega) (fun c3 => ?_) (fun c3 => ?_)
      · refine eW_iinc 75 rfl rfl [(4, vI (l + 1)), (0, .ref v), (1, .ref g), (2, vI m), (3, vI t)] rfl rfl rfl ?_
        refine eW_goto rfl ?_
        refine eW_re [(0, .ref v), (1, .ref g), (2, vI m), (3, vI t), (4, vI (l + 1))] rfl rfl (List.forall_mem_cons.mpr ⟨rfl, List.forall_mem_cons.mpr ⟨rfl, List.forall_mem_cons.mpr ⟨rfl, List.forall_mem_cons.mpr ⟨rfl, List.forall_mem_cons.mpr ⟨rfl, fun _ h => absurd h List.not_mem_nil⟩⟩⟩⟩⟩) (List.forall_mem_cons.mpr ⟨Or.inl rfl, List.forall_mem_cons.mpr ⟨Or.inl rfl, List.forall_mem_cons.mpr ⟨Or.inl rfl, List.forall_mem_cons.mpr ⟨Or.inl rfl, List.forall_mem_cons.mpr ⟨Or.inl rfl, fun _ h => absurd h List.not_mem_nil⟩⟩⟩⟩⟩) ?_
        have hl : gLets (gDig G) m t l = false := by
          rcases hb with hb | hb
          · omega
          · exact hb.1
        refine ih (l + 1) _ h (by omega) (by omega) q1 (fun j hj => ?_) q3 kk
        rw [q2 j hj, gOptL_succ q0.1, hl, Bool.false_and, Bool.or_false]
      · refine eW_aload_n 52 rfl rfl rfl ?_
        refine eW_aload_n 53 rfl rfl rfl ?_
        refine eW_iload 55 rfl rfl rfl ?_
        have hlex4 := gVal_le (by omega) hV.1 l
        refine eW_callV 58 [.ref v, vI l] [.ref v] [vI (gVal V.2.1 l), .ref v] rfl rfl rfl rfl (Nat.ble_eq_true_of_le (by omega)) q1.1 rfl rfl rfl (v_of (d := d) (V := (V.1, V.2.1, V.2.2.1, V.2.2.2.1, F)) q1 hV' hN (by unfold i32; omega)) rfl rfl ?_
        refine eW_aload_n 59 rfl rfl rfl ?_
        refine eW_iload_n 60 rfl rfl rfl ?_
        refine eW_iload_n 61 rfl rfl rfl ?_
        refine eW_isub 62 rfl rfl ?_
        refine eW_iload 64 rfl rfl rfl ?_
        refine eW_isub 65 rfl rfl ?_
        have hlex5 := gVal_le (by omega) hV.1 ((m - t) - l)
        refine eW_callV 68 [.ref v, vI ((m - t) - l)] [vI (gVal V.2.1 l), .ref v] [vI (gVal V.2.1 ((m - t) - l)), vI (gVal V.2.1 l), .ref v] rfl rfl rfl rfl (Nat.ble_eq_true_of_le (by omega)) q1.1 rfl rfl rfl (v_of (d := d) (V := (V.1, V.2.1, V.2.2.1, V.2.2.2.1, F)) q1 hV' hN (by unfold i32; omega)) rfl rfl ?_
        refine eW_ixor 69 rfl rfl (gXr (gVal V.2.1 l) (gVal V.2.1 ((m - t) - l))) (gXr_ok (by omega) (by omega)) ?_
        refine eW_callVH 72 [.ref v, vI (gXr (gVal V.2.1 l) (gVal V.2.1 ((m - t) - l)))] [] [] rfl rfl rfl rfl (Nat.ble_eq_true_of_le (by omega)) q1.1 rfl rfl rfl (v_put (d := d + 1) (V := (V.1, V.2.1, V.2.2.1, V.2.2.2.1, F)) q1 hN (gXr_lt (by omega) (by omega))) rfl rfl ?_
        intro h6 fh6
        have hvh6 : gV h6 v (V.1, V.2.1, V.2.2.1, V.2.2.2.1, eUp F (gXr (gVal V.2.1 l) (gVal V.2.1 ((m - t) - l))).toNat 1) := fh6.1
        have uh6 : ∀ i, (i < v ∨ v + 5 < i) → h6 i = h0 i := fun i hi => (fh6.2 i hi).trans (q3 i hi)
        refine eW_iinc 75 rfl rfl [(4, vI (l + 1)), (0, .ref v), (1, .ref g), (2, vI m), (3, vI t)] rfl rfl rfl ?_
        refine eW_goto rfl ?_
        refine eW_re [(0, .ref v), (1, .ref g), (2, vI m), (3, vI t), (4, vI (l + 1))] rfl rfl (List.forall_mem_cons.mpr ⟨rfl, List.forall_mem_cons.mpr ⟨rfl, List.forall_mem_cons.mpr ⟨rfl, List.forall_mem_cons.mpr ⟨rfl, List.forall_mem_cons.mpr ⟨rfl, fun _ h => absurd h List.not_mem_nil⟩⟩⟩⟩⟩) (List.forall_mem_cons.mpr ⟨Or.inl rfl, List.forall_mem_cons.mpr ⟨Or.inl rfl, List.forall_mem_cons.mpr ⟨Or.inl rfl, List.forall_mem_cons.mpr ⟨Or.inl rfl, List.forall_mem_cons.mpr ⟨Or.inl rfl, fun _ h => absurd h List.not_mem_nil⟩⟩⟩⟩⟩) ?_
        have hl : gLets (gDig G) m t l = true := by
          rcases hb with hb | hb
          · exact hb.1
          · omega
        have hx := gXr_lt (a := gVal V.2.1 l) (b := gVal V.2.1 (m - t - l)) (by omega) (by omega)
        refine ih (l + 1) _ h6 (by omega) (by omega) hvh6 (fun j hj => ?_) uh6 kk
        rw [gOptL_succ q0.1, hl, Bool.true_and]
        unfold eUp
        split
        · rw [decide_eq_true (by omega : gXr (gVal V.2.1 l) (gVal V.2.1 (m - t - l)) = (j : Int)), Bool.or_true, Bool.or_true]; rfl
        · rw [q2 j hj, decide_eq_false (by omega : ¬ gXr (gVal V.2.1 l) (gVal V.2.1 (m - t - l)) = (j : Int)), Bool.or_false]
theorem v_mk_o {d N k z : Nat} {h0 : eHp} {v : Nat} {V : eVs} {g : Nat} {G : eGd} {P : eR → Prop} (hV : gVO V) (hN : v + 6 ≤ N) (hg : gG h0 g G) (hG : gOk G) (hN2 : g + 4 ≤ N) (hd : g + 3 < v ∨ v + 5 < g) {m : Int} (hm2 : 0 ≤ m ∧ m ≤ 30) : ∀ (m9 : Nat) (t : Int) (F : Nat → Int) (h : eHp), 7 - t ≤ m9 → 1 ≤ t ∧ t ≤ 7 → gV h v (V.1, V.2.1, V.2.2.1, V.2.2.2.1, F) → (∀ j : Nat, j < 32 → F j = eB01 (gOptT (gDig G) (gVal V.2.1) m j (t - 1).toNat)) → (∀ i, (i < v ∨ v + 5 < i) → h i = h0 i) → (∀ (F : Nat → Int) (h : eHp), gV h v (V.1, V.2.1, V.2.2.1, V.2.2.2.1, F) → (∀ j : Nat, j < 32 → F j = eB01 (gOpt (gDig G) (gVal V.2.1) m j)) → (∀ i, (i < v ∨ v + 5 < i) → h i = h0 i) → eWp eOx (eEv (d + 2)) eM_X5_makeList (84, [(0, .ref v), (1, .ref g), (2, vI m)], [], N, h, k, z) P) → eWp eOx (eEv (d + 2)) eM_X5_makeList (23, [(0, .ref v), (1, .ref g), (2, vI m), (3, vI t)], [], N, h, k, z) P := by
  intro m9
  induction m9 with
  | zero =>
    intro t F h hm q0 q1 q2 q3 kk
    refine eW_iload_n 24 rfl rfl rfl ?_
    refine eW_bipush 26 rfl rfl 6 rfl ?_
    refine eW_icmp_gt 29 rfl rfl (by unfold i32; omega) (by unfold i32; omega) (fun c1 => ?_) (fun c1 => ?_)
    · refine eW_re [(0, .ref v), (1, .ref g), (2, vI m)] rfl rfl (List.forall_mem_cons.mpr ⟨rfl, List.forall_mem_cons.mpr ⟨rfl, List.forall_mem_cons.mpr ⟨rfl, fun _ h => absurd h List.not_mem_nil⟩⟩⟩) (List.forall_mem_cons.mpr ⟨Or.inl rfl, List.forall_mem_cons.mpr ⟨Or.inl rfl, List.forall_mem_cons.mpr ⟨Or.inl rfl, List.forall_mem_cons.mpr ⟨Or.inr ⟨_, rfl⟩, fun _ h => absurd h List.not_mem_nil⟩⟩⟩⟩) ?_
      refine kk F h q1 (fun j hj => ?_) q3
      rw [q2 j hj, show t = 7 by omega]; rfl
    · refine eW_iconst 30 rfl rfl ?_
      refine eW_istore 32 rfl rfl [(4, vI 0), (0, .ref v), (1, .ref g), (2, vI m), (3, vI t)] rfl rfl ?_
      refine eW_re [(0, .ref v), (1, .ref g), (2, vI m), (3, vI t), (4, vI 0)] rfl rfl (List.forall_mem_cons.mpr ⟨rfl, List.forall_mem_cons.mpr ⟨rfl, List.forall_mem_cons.mpr ⟨rfl, List.forall_mem_cons.mpr ⟨rfl, List.forall_mem_cons.mpr ⟨rfl, fun _ h => absurd h List.not_mem_nil⟩⟩⟩⟩⟩) (List.forall_mem_cons.mpr ⟨Or.inl rfl, List.forall_mem_cons.mpr ⟨Or.inl rfl, List.forall_mem_cons.mpr ⟨Or.inl rfl, List.forall_mem_cons.mpr ⟨Or.inl rfl, List.forall_mem_cons.mpr ⟨Or.inl rfl, fun _ h => absurd h List.not_mem_nil⟩⟩⟩⟩⟩) ?_
      refine v_mk_i hV hN hg hG hN2 hd hm2 (by omega) _ 0 F h (Int.self_le_toNat _) (by omega) q1 (fun j hj => by rw [q2 j hj]; simp [gOptL]) q3 (fun Fh2 h2 r1h2 r2h2 r3h2 => ?_)
      refine eW_iinc 81 rfl rfl [(3, vI (t + 1)), (0, .ref v), (1, .ref g), (2, vI m)] rfl rfl rfl ?_
      refine eW_goto rfl ?_
      refine eW_re [(0, .ref v), (1, .ref g), (2, vI m), (3, vI (t + 1))] rfl rfl (List.forall_mem_cons.mpr ⟨rfl, List.forall_mem_cons.mpr ⟨rfl, List.forall_mem_cons.mpr ⟨rfl, List.forall_mem_cons.mpr ⟨rfl, fun _ h => absurd h List.not_mem_nil⟩⟩⟩⟩) (List.forall_mem_cons.mpr ⟨Or.inl rfl, List.forall_mem_cons.mpr ⟨Or.inl rfl, List.forall_mem_cons.mpr ⟨Or.inl rfl, List.forall_mem_cons.mpr ⟨Or.inl rfl, fun _ h => absurd h List.not_mem_nil⟩⟩⟩⟩) ?_
      exact absurd hm (by omega)
  | succ m9 ih =>
    intro t F h hm q0 q1 q2 q3 kk
    refine eW_iload_n 24 rfl rfl rfl ?_
    refine eW_bipush 26 rfl rfl 6 rfl ?_
    refine eW_icmp_gt 29 rfl rfl (by unfold i32; omega) (by unfold i32; omega) (fun c1 => ?_) (fun c1 => ?_)
    · refine eW_re [(0, .ref v), (1, .ref g), (2, vI m)] rfl rfl (List.forall_mem_cons.mpr ⟨rfl, List.forall_mem_cons.mpr ⟨rfl, List.forall_mem_cons.mpr ⟨rfl, fun _ h => absurd h List.not_mem_nil⟩⟩⟩) (List.forall_mem_cons.mpr ⟨Or.inl rfl, List.forall_mem_cons.mpr ⟨Or.inl rfl, List.forall_mem_cons.mpr ⟨Or.inl rfl, List.forall_mem_cons.mpr ⟨Or.inr ⟨_, rfl⟩, fun _ h => absurd h List.not_mem_nil⟩⟩⟩⟩) ?_
      refine kk F h q1 (fun j hj => ?_) q3
      rw [q2 j hj, show t = 7 by omega]; rfl
    · refine eW_iconst 30 rfl rfl ?_
      refine eW_istore 32 rfl rfl [(4, vI 0), (0, .ref v), (1, .ref g), (2, vI m), (3, vI t)] rfl rfl ?_
      refine eW_re [(0, .ref v), (1, .ref g), (2, vI m), (3, vI t), (4, vI 0)] rfl rfl (List.forall_mem_cons.mpr ⟨rfl, List.forall_mem_cons.mpr ⟨rfl, List.forall_mem_cons.mpr ⟨rfl, List.forall_mem_cons.mpr ⟨rfl, List.forall_mem_cons.mpr ⟨rfl, fun _ h => absurd h List.not_mem_nil⟩⟩⟩⟩⟩) (List.forall_mem_cons.mpr ⟨Or.inl rfl, List.forall_mem_cons.mpr ⟨Or.inl rfl, List.forall_mem_cons.mpr ⟨Or.inl rfl, List.forall_mem_cons.mpr ⟨Or.inl rfl, List.forall_mem_cons.mpr ⟨Or.inl rfl, fun _ h => absurd h List.not_mem_nil⟩⟩⟩⟩⟩) ?_
      refine v_mk_i hV hN hg hG hN2 hd hm2 (by omega) _ 0 F h (Int.self_le_toNat _) (by omega) q1 (fun j hj => by rw [q2 j hj]; simp [gOptL]) q3 (fun Fh2 h2 r1h2 r2h2 r3h2 => ?_)
      refine eW_iinc 81 rfl rfl [(3, vI (t + 1)), (0, .ref v), (1, .ref g), (2, vI m)] rfl rfl rfl ?_
      refine eW_goto rfl ?_
      refine eW_re [(0, .ref v), (1, .ref g), (2, vI m), (3, vI (t + 1))] rfl rfl (List.forall_mem_cons.mpr ⟨rfl, List.forall_mem_cons.mpr ⟨rfl, List.forall_mem_cons.mpr ⟨rfl, List.forall_mem_cons.mpr ⟨rfl, fun _ h => absurd h List.not_mem_nil⟩⟩⟩⟩) (List.forall_mem_cons.mpr ⟨Or.inl rfl, List.forall_mem_cons.mpr ⟨Or.inl rfl, List.forall_mem_cons.mpr ⟨Or.inl rfl, List.forall_mem_cons.mpr ⟨Or.inl rfl, fun _ h => absurd h List.not_mem_nil⟩⟩⟩⟩) ?_
      refine ih (t + 1) Fh2 h2 (by omega) (by omega) r1h2 (fun j hj => ?_) r3h2 kk
      rw [r2h2 j hj, show t + 1 - 1 = t by omega]
theorem v_make {d N : Nat} {h : eHp} {v : Nat} {V : eVs} (hv : gV h v V) (hV : gVO V) (hN : v + 6 ≤ N) {g : Nat} {G : eGd} (hg : gG h g G) (hG : gOk G) (hN2 : g + 4 ≤ N) (hd : g + 3 < v ∨ v + 5 < g) {m : Int} (hm2 : 0 ≤ m ∧ m ≤ 30) : eSp (d + 3) eM_X5_makeList [.ref v, .ref g, vI m] N h (eChg none N (fun h' => ∃ F, gV h' v (V.1, V.2.1, V.2.2.1, V.2.2.2.1, F) ∧ (∀ j : Nat, j < 32 → F j = eB01 (gOpt (gDig G) (gVal V.2.1) m j)) ∧ ∀ i, (i < v ∨ v + 5 < i) → h' i = h i)) := by
  refine eSp_of [(0, .ref v), (1, .ref g), (2, vI m)] rfl rfl ?_
  refine eW_iconst 1 rfl rfl ?_
  refine eW_istore_n 2 rfl rfl [(3, vI 0), (0, .ref v), (1, .ref g), (2, vI m)] rfl rfl ?_
  refine eW_re [(0, .ref v), (1, .ref g), (2, vI m), (3, vI 0)] rfl rfl (List.forall_mem_cons.mpr ⟨rfl, List.forall_mem_cons.mpr ⟨rfl, List.forall_mem_cons.mpr ⟨rfl, List.forall_mem_cons.mpr ⟨rfl, fun _ h => absurd h List.not_mem_nil⟩⟩⟩⟩) (List.forall_mem_cons.mpr ⟨Or.inl rfl, List.forall_mem_cons.mpr ⟨Or.inl rfl, List.forall_mem_cons.mpr ⟨Or.inl rfl, List.forall_mem_cons.mpr ⟨Or.inl rfl, fun _ h => absurd h List.not_mem_nil⟩⟩⟩⟩) ?_
  refine v_clear_l hV hN hg hG hN2 hd _ 0 V.2.2.2.2 h (Int.self_le_toNat _) (by omega) hv (fun j hj => absurd hj (by omega)) (fun _ _ => rfl) (fun Fh1 h1 r1h1 r2h1 r3h1 => ?_)
  refine eW_iconst 22 rfl rfl ?_
  refine eW_istore_n 23 rfl rfl [(3, vI 1), (0, .ref v), (1, .ref g), (2, vI m)] rfl rfl ?_
  refine eW_re [(0, .ref v), (1, .ref g), (2, vI m), (3, vI 1)] rfl rfl (List.forall_mem_cons.mpr ⟨rfl, List.forall_mem_cons.mpr ⟨rfl, List.forall_mem_cons.mpr ⟨rfl, List.forall_mem_cons.mpr ⟨rfl, fun _ h => absurd h List.not_mem_nil⟩⟩⟩⟩) (List.forall_mem_cons.mpr ⟨Or.inl rfl, List.forall_mem_cons.mpr ⟨Or.inl rfl, List.forall_mem_cons.mpr ⟨Or.inl rfl, List.forall_mem_cons.mpr ⟨Or.inl rfl, fun _ h => absurd h List.not_mem_nil⟩⟩⟩⟩) ?_
  refine v_mk_o (h0 := h) hV hN hg hG hN2 hd hm2 _ 1 Fh1 h1 (Int.self_le_toNat _) (by omega) r1h1 (fun j hj => by rw [r2h1 j hj]; rfl) r3h1 (fun Fh2 h2 r1h2 r2h2 r3h2 => ?_)
  refine eW_ret rfl rfl ?_
  exact ⟨_, rfl, Fh2, r1h2, r2h2, r3h2⟩
theorem gShl {x : Int} (h : 0 ≤ x ∧ x ≤ 30) : Int32.ofInt 1 <<< (Int32.ofInt x &&& 31) = Int32.ofInt ((1 <<< x.toNat : Nat) : Int) := by
  have := eShlN (n := x.toNat) (by omega)
  rw [Int.toNat_of_nonneg h.1] at this
  exact this
theorem gShl_lt {x : Int} (h : 0 ≤ x ∧ x ≤ 30) : 1 <<< x.toNat < 2 ^ 31 := by
  rw [Nat.one_shiftLeft]
  exact Nat.pow_lt_pow_right (by decide) (by omega)
theorem gBit_or {b : Nat} {x : Int} (h : 0 ≤ x) (j : Nat) : (b ||| 1 <<< x.toNat).testBit j = (b.testBit j || decide (x = (j : Int))) := by
  rw [Nat.testBit_or, Nat.one_shiftLeft, Nat.testBit_two_pow]
  congr 1
  rw [decide_eq_decide]
  omega
/-- parted: less than k pits of the smaller half -/
def gSpl (T : Int → Int) (n x : Int) : Nat → Bool
  | 0 => false
  | k + 1 => gSpl T n x k || decide (gXr (T (k + 1)) (T (n - (k + 1))) = x)
theorem gSpl_succ {T : Int → Int} {n x l : Int} (h : 1 ≤ l) : gSpl T n x l.toNat = (gSpl T n x (l - 1).toNat || decide (gXr (T l) (T (n - l)) = x)) := by
  obtain ⟨k, rfl⟩ : ∃ k : Nat, l = k + 1 := ⟨(l - 1).toNat, by omega⟩
  rw [show ((k : Int) + 1).toNat = k + 1 by omega, show ((k : Int) + 1 - 1).toNat = k by omega]; rfl
theorem v_spl_l {d N k z : Nat} {h : eHp} {v : Nat} {V : eVs} {P : eR → Prop} (hv : gV h v V) (hV : gVO V) (hN : v + 6 ≤ N) {n : Int} (hn : n ≤ 30) (hn0 : -10 ≤ n) (hT : ∀ i : Int, 0 ≤ i → i ≤ n → gVal V.2.2.1 i ≤ i) : ∀ (m9 : Nat) (b : Nat) (l : Int), n + 1 - l ≤ m9 → 1 ≤ l ∧ (l - 1 ≤ n - l + 1 ∨ l = 1) → b < 2 ^ 31 → (∀ j : Nat, j < 31 → b.testBit j = gSpl (gVal V.2.2.1) n j (l - 1).toNat) → (∀ (b : Nat), b < 2 ^ 31 → (∀ j : Nat, j < 31 → b.testBit j = gSpl (gVal V.2.2.1) n j (n / 2).toNat) → eWp eOx (eEv (d + 2)) eM_X5_bitsOfSplits (35, [(0, .ref v), (1, vI n), (2, vI (((b : Nat) : Int)))], [], N, h, k, z) P) → eWp eOx (eEv (d + 2)) eM_X5_bitsOfSplits (4, [(0, .ref v), (1, vI n), (2, vI (((b : Nat) : Int))), (3, vI l)], [], N, h, k, z) P := by
  intro m9
  induction m9 with
  | zero =>
    intro b l hm q0 q1 q2 kk
    have hxx : l ≤ n - l → 0 ≤ gXr (gVal V.2.2.1 l) (gVal V.2.2.1 (n - l)) ∧ gXr (gVal V.2.2.1 l) (gVal V.2.2.1 (n - l)) ≤ 30 := fun h9 => by
      have h1 := gVal_le (by omega) hV.2.1 l
      have h2 := gVal_le (by omega) hV.2.1 (n - l)
      have h3 := hT l (by omega) (by omega)
      have h4 := hT (n - l) (by omega) (by omega)
      have h5 := gXr_le (a := gVal V.2.2.1 l) (b := gVal V.2.2.1 (n - l)) h1 h2
      have h6 := gXr_lt (a := gVal V.2.2.1 l) (b := gVal V.2.2.1 (n - l)) (by omega) (by omega)
      omega
    refine eW_iload_n 5 rfl rfl rfl ?_
    refine eW_iload_n 6 rfl rfl rfl ?_
    refine eW_iload_n 7 rfl rfl rfl ?_
    refine eW_isub 8 rfl rfl ?_
    refine eW_icmp_gt 11 rfl rfl (by unfold i32; omega) (by unfold i32; omega) (fun c1 => ?_) (fun c1 => ?_)
    · refine eW_re [(0, .ref v), (1, vI n), (2, vI (((b : Nat) : Int)))] rfl rfl (List.forall_mem_cons.mpr ⟨rfl, List.forall_mem_cons.mpr ⟨rfl, List.forall_mem_cons.mpr ⟨rfl, fun _ h => absurd h List.not_mem_nil⟩⟩⟩) (List.forall_mem_cons.mpr ⟨Or.inl rfl, List.forall_mem_cons.mpr ⟨Or.inl rfl, List.forall_mem_cons.mpr ⟨Or.inl rfl, List.forall_mem_cons.mpr ⟨Or.inr ⟨_, rfl⟩, fun _ h => absurd h List.not_mem_nil⟩⟩⟩⟩) ?_
      refine kk b q1 (fun j hj => ?_)
      rw [q2 j hj, show (n / 2).toNat = (l - 1).toNat by omega]
    · refine eW_iload_n 12 rfl rfl rfl ?_
      refine eW_iconst 13 rfl rfl ?_
      refine eW_aload_n 14 rfl rfl rfl ?_
      refine eW_iload_n 15 rfl rfl rfl ?_
      have hlex2 := gVal_le (by omega) hV.2.1 l
      refine eW_callV 18 [.ref v, vI l] [vI 1, vI (((b : Nat) : Int))] [vI (gVal V.2.2.1 l), vI 1, vI (((b : Nat) : Int))] rfl rfl rfl rfl (Nat.ble_eq_true_of_le (by omega)) hv.1 rfl rfl rfl (v_ofBits (d := d + 0) hv hV hN (by unfold i32; omega)) rfl rfl ?_
      refine eW_aload_n 19 rfl rfl rfl ?_
      refine eW_iload_n 20 rfl rfl rfl ?_
      refine eW_iload_n 21 rfl rfl rfl ?_
      refine eW_isub 22 rfl rfl ?_
      have hlex3 := gVal_le (by omega) hV.2.1 (n - l)
      refine eW_callV 25 [.ref v, vI (n - l)] [vI (gVal V.2.2.1 l), vI 1, vI (((b : Nat) : Int))] [vI (gVal V.2.2.1 (n - l)), vI (gVal V.2.2.1 l), vI 1, vI (((b : Nat) : Int))] rfl rfl rfl rfl (Nat.ble_eq_true_of_le (by omega)) hv.1 rfl rfl rfl (v_ofBits (d := d + 0) hv hV hN (by unfold i32; omega)) rfl rfl ?_
      refine eW_ixor 26 rfl rfl (gXr (gVal V.2.2.1 l) (gVal V.2.2.1 (n - l))) (gXr_ok (by omega) (by omega)) ?_
      refine eW_ishl 27 rfl rfl (((1 <<< (gXr (gVal V.2.2.1 l) (gVal V.2.2.1 (n - l))).toNat : Nat) : Int)) (gShl (by omega)) ?_
      refine eW_ior 28 rfl rfl (((b ||| 1 <<< (gXr (gVal V.2.2.1 l) (gVal V.2.2.1 (n - l))).toNat : Nat) : Int)) (eOrN _ _) ?_
      refine eW_istore_n 29 rfl rfl [(2, vI (((b ||| 1 <<< (gXr (gVal V.2.2.1 l) (gVal V.2.2.1 (n - l))).toNat : Nat) : Int))), (0, .ref v), (1, vI n), (3, vI l)] rfl rfl ?_
      refine eW_iinc 32 rfl rfl [(3, vI (l + 1)), (2, vI (((b ||| 1 <<< (gXr (gVal V.2.2.1 l) (gVal V.2.2.1 (n - l))).toNat : Nat) : Int))), (0, .ref v), (1, vI n)] rfl rfl rfl ?_
      refine eW_goto rfl ?_
      refine eW_re [(0, .ref v), (1, vI n), (2, vI (((b ||| 1 <<< (gXr (gVal V.2.2.1 l) (gVal V.2.2.1 (n - l))).toNat : Nat) : Int))), (3, vI (l + 1))] rfl rfl (List.forall_mem_cons.mpr ⟨rfl, List.forall_mem_cons.mpr ⟨rfl, List.forall_mem_cons.mpr ⟨rfl, List.forall_mem_cons.mpr ⟨rfl, fun _ h => absurd h List.not_mem_nil⟩⟩⟩⟩) (List.forall_mem_cons.mpr ⟨Or.inl rfl, List.forall_mem_cons.mpr ⟨Or.inl rfl, List.forall_mem_cons.mpr ⟨Or.inl rfl, List.forall_mem_cons.mpr ⟨Or.inl rfl, fun _ h => absurd h List.not_mem_nil⟩⟩⟩⟩) ?_
      exact absurd hm (by omega)
  | succ m9 ih =>
    intro b l hm q0 q1 q2 kk
    have hxx : l ≤ n - l → 0 ≤ gXr (gVal V.2.2.1 l) (gVal V.2.2.1 (n - l)) ∧ gXr (gVal V.2.2.1 l) (gVal V.2.2.1 (n - l)) ≤ 30 := fun h9 => by
      have h1 := gVal_le (by omega) hV.2.1 l
      have h2 := gVal_le (by omega) hV.2.1 (n - l)
      have h3 := hT l (by omega) (by omega)
      have h4 := hT (n - l) (by omega) (by omega)
      have h5 := gXr_le (a := gVal V.2.2.1 l) (b := gVal V.2.2.1 (n - l)) h1 h2
      have h6 := gXr_lt (a := gVal V.2.2.1 l) (b := gVal V.2.2.1 (n - l)) (by omega) (by omega)
      omega
    refine eW_iload_n 5 rfl rfl rfl ?_
    refine eW_iload_n 6 rfl rfl rfl ?_
    refine eW_iload_n 7 rfl rfl rfl ?_
    refine eW_isub 8 rfl rfl ?_
    refine eW_icmp_gt 11 rfl rfl (by unfold i32; omega) (by unfold i32; omega) (fun c1 => ?_) (fun c1 => ?_)
    · refine eW_re [(0, .ref v), (1, vI n), (2, vI (((b : Nat) : Int)))] rfl rfl (List.forall_mem_cons.mpr ⟨rfl, List.forall_mem_cons.mpr ⟨rfl, List.forall_mem_cons.mpr ⟨rfl, fun _ h => absurd h List.not_mem_nil⟩⟩⟩) (List.forall_mem_cons.mpr ⟨Or.inl rfl, List.forall_mem_cons.mpr ⟨Or.inl rfl, List.forall_mem_cons.mpr ⟨Or.inl rfl, List.forall_mem_cons.mpr ⟨Or.inr ⟨_, rfl⟩, fun _ h => absurd h List.not_mem_nil⟩⟩⟩⟩) ?_
      refine kk b q1 (fun j hj => ?_)
      rw [q2 j hj, show (n / 2).toNat = (l - 1).toNat by omega]
    · refine eW_iload_n 12 rfl rfl rfl ?_
      refine eW_iconst 13 rfl rfl ?_
      refine eW_aload_n 14 rfl rfl rfl ?_
      refine eW_iload_n 15 rfl rfl rfl ?_
      have hlex2 := gVal_le (by omega) hV.2.1 l
      refine eW_callV 18 [.ref v, vI l] [vI 1, vI (((b : Nat) : Int))] [vI (gVal V.2.2.1 l), vI 1, vI (((b : Nat) : Int))] rfl rfl rfl rfl (Nat.ble_eq_true_of_le (by omega)) hv.1 rfl rfl rfl (v_ofBits (d := d + 0) hv hV hN (by unfold i32; omega)) rfl rfl ?_
      refine eW_aload_n 19 rfl rfl rfl ?_
      refine eW_iload_n 20 rfl rfl rfl ?_
      refine eW_iload_n 21 rfl rfl rfl ?_
      refine eW_isub 22 rfl rfl ?_
      have hlex3 := gVal_le (by omega) hV.2.1 (n - l)
      refine eW_callV 25 [.ref v, vI (n - l)] [vI (gVal V.2.2.1 l), vI 1, vI (((b : Nat) : Int))] [vI (gVal V.2.2.1 (n - l)), vI (gVal V.2.2.1 l), vI 1, vI (((b : Nat) : Int))] rfl rfl rfl rfl (Nat.ble_eq_true_of_le (by omega)) hv.1 rfl rfl rfl (v_ofBits (d := d + 0) hv hV hN (by unfold i32; omega)) rfl rfl ?_
      refine eW_ixor 26 rfl rfl (gXr (gVal V.2.2.1 l) (gVal V.2.2.1 (n - l))) (gXr_ok (by omega) (by omega)) ?_
      refine eW_ishl 27 rfl rfl (((1 <<< (gXr (gVal V.2.2.1 l) (gVal V.2.2.1 (n - l))).toNat : Nat) : Int)) (gShl (by omega)) ?_
      refine eW_ior 28 rfl rfl (((b ||| 1 <<< (gXr (gVal V.2.2.1 l) (gVal V.2.2.1 (n - l))).toNat : Nat) : Int)) (eOrN _ _) ?_
      refine eW_istore_n 29 rfl rfl [(2, vI (((b ||| 1 <<< (gXr (gVal V.2.2.1 l) (gVal V.2.2.1 (n - l))).toNat : Nat) : Int))), (0, .ref v), (1, vI n), (3, vI l)] rfl rfl ?_
      refine eW_iinc 32 rfl rfl [(3, vI (l + 1)), (2, vI (((b ||| 1 <<< (gXr (gVal V.2.2.1 l) (gVal V.2.2.1 (n - l))).toNat : Nat) : Int))), (0, .ref v), (1, vI n)] rfl rfl rfl ?_
      refine eW_goto rfl ?_
      refine eW_re [(0, .ref v), (1, vI n), (2, vI (((b ||| 1 <<< (gXr (gVal V.2.2.1 l) (gVal V.2.2.1 (n - l))).toNat : Nat) : Int))), (3, vI (l + 1))] rfl rfl (List.forall_mem_cons.mpr ⟨rfl, List.forall_mem_cons.mpr ⟨rfl, List.forall_mem_cons.mpr ⟨rfl, List.forall_mem_cons.mpr ⟨rfl, fun _ h => absurd h List.not_mem_nil⟩⟩⟩⟩) (List.forall_mem_cons.mpr ⟨Or.inl rfl, List.forall_mem_cons.mpr ⟨Or.inl rfl, List.forall_mem_cons.mpr ⟨Or.inl rfl, List.forall_mem_cons.mpr ⟨Or.inl rfl, fun _ h => absurd h List.not_mem_nil⟩⟩⟩⟩) ?_
      refine ih _ (l + 1) (by omega) (by omega) (Nat.or_lt_two_pow q1 (gShl_lt (by omega))) (fun j hj => ?_) kk
      rw [gBit_or (by omega), q2 j hj, show l + 1 - 1 = l by omega, gSpl_succ q0.1]
theorem v_spl {d N : Nat} {h : eHp} {v : Nat} {V : eVs} (hv : gV h v V) (hV : gVO V) (hN : v + 6 ≤ N) {n : Int} (hn : n ≤ 30) (hn0 : -10 ≤ n) (hT : ∀ i : Int, 0 ≤ i → i ≤ n → gVal V.2.2.1 i ≤ i) : eSp (d + 3) eM_X5_bitsOfSplits [.ref v, vI n] N h (fun q => ∃ b : Nat, (b < 2 ^ 31 ∧ ∀ j : Nat, j < 31 → b.testBit j = gSpl (gVal V.2.2.1) n j (n / 2).toNat) ∧ eRet (some (vI ((b : Nat) : Int))) N h q) := by
  refine eSp_of [(0, .ref v), (1, vI n)] rfl rfl ?_
  refine eW_iconst 1 rfl rfl ?_
  refine eW_istore_n 2 rfl rfl [(2, vI 0), (0, .ref v), (1, vI n)] rfl rfl ?_
  refine eW_iconst 3 rfl rfl ?_
  refine eW_istore_n 4 rfl rfl [(3, vI 1), (2, vI 0), (0, .ref v), (1, vI n)] rfl rfl ?_
  refine eW_re [(0, .ref v), (1, vI n), (2, vI 0), (3, vI 1)] rfl rfl (List.forall_mem_cons.mpr ⟨rfl, List.forall_mem_cons.mpr ⟨rfl, List.forall_mem_cons.mpr ⟨rfl, List.forall_mem_cons.mpr ⟨rfl, fun _ h => absurd h List.not_mem_nil⟩⟩⟩⟩) (List.forall_mem_cons.mpr ⟨Or.inl rfl, List.forall_mem_cons.mpr ⟨Or.inl rfl, List.forall_mem_cons.mpr ⟨Or.inl rfl, List.forall_mem_cons.mpr ⟨Or.inl rfl, fun _ h => absurd h List.not_mem_nil⟩⟩⟩⟩) ?_
  refine v_spl_l hv hV hN hn hn0 hT _ 0 1 (Int.self_le_toNat _) (by omega) (by decide) (fun j hj => by simp [gSpl]) (fun b q1 q2 => ?_)
  refine eW_iload_n 36 rfl rfl rfl ?_
  refine eW_ret_i rfl rfl (Or.inl rfl) ?_
  exact ⟨b, ⟨q1, q2⟩, rfl⟩
/-- what taking t adds -/
def gBt (D T : Int → Int) (m t x : Int) : Bool := ((decide (m - t = 0) && decide (D t % 2 = 1)) && decide (x = 0)) || ((decide (0 < m - t) && decide (D t / 2 % 2 = 1)) && decide (T (m - t) = x)) || (decide (D t / 4 % 2 = 1) && gSpl T (m - t) x ((m - t) / 2).toNat)
def gBts (D T : Int → Int) (m x : Int) : Nat → Bool
  | 0 => false
  | k + 1 => gBts D T m x k || gBt D T m (k + 1) x
theorem gBts_succ {D T : Int → Int} {m x t : Int} (h : 1 ≤ t) : gBts D T m x t.toNat = (gBts D T m x (t - 1).toNat || gBt D T m t x) := by
  obtain ⟨k, rfl⟩ : ∃ k : Nat, t = k + 1 := ⟨(t - 1).toNat, by omega⟩
  rw [show ((k : Int) + 1).toNat = k + 1 by omega, show ((k : Int) + 1 - 1).toNat = k by omega]; rfl
theorem gBit1 (b : Nat) (j : Nat) : (b ||| 1).testBit j = (b.testBit j || decide ((j : Int) = 0)) := by
  have := gBit_or (b := b) (x := 0) (Int.le_refl _) j
  rw [show (1 <<< (0 : Int).toNat) = 1 from rfl] at this
  rw [this]
  congr 1
  rw [decide_eq_decide]
  omega
theorem eAndT {p q : Prop} [Decidable p] [Decidable q] (h : p ∧ q) : (decide p && decide q) = true := by rw [decide_eq_true h.1, decide_eq_true h.2]; rfl
theorem eAndF {p q : Prop} [Decidable p] [Decidable q] (h : ¬ (p ∧ q)) : (decide p && decide q) = false := by
  by_cases hp : p
  · rw [decide_eq_false (fun hq => h ⟨hp, hq⟩), Bool.and_false]
  · rw [decide_eq_false hp, Bool.false_and]
theorem v_bits_l {d N k z : Nat} {h : eHp} {v : Nat} {V : eVs} {g : Nat} {G : eGd} {P : eR → Prop} (hv : gV h v V) (hV : gVO V) (hN : v + 6 ≤ N) (hg : gG h g G) (hG : gOk G) (hN2 : g + 4 ≤ N) {m : Int} (hm2 : 0 ≤ m ∧ m ≤ 30) (hT : ∀ i : Int, 0 ≤ i → i < m → gVal V.2.2.1 i ≤ i) : ∀ (m9 : Nat) (b : Nat) (t : Int), 7 - t ≤ m9 → 1 ≤ t ∧ t ≤ 7 → b < 2 ^ 31 → (∀ j : Nat, j < 31 → b.testBit j = gBts (gDig G) (gVal V.2.2.1) m j (t - 1).toNat) → (∀ (b : Nat), b < 2 ^ 31 → (∀ j : Nat, j < 31 → b.testBit j = gBts (gDig G) (gVal V.2.2.1) m j 6) → eWp eOx (eEv (d + 3)) eM_X5_bitsOf (87, [(0, .ref v), (1, .ref g), (2, vI m), (3, vI (((b : Nat) : Int)))], [], N, h, k, z) P) → eWp eOx (eEv (d + 3)) eM_X5_bitsOf (5, [(0, .ref v), (1, .ref g), (2, vI m), (3, vI (((b : Nat) : Int))), (4, vI t)], [], N, h, k, z) P := by
  intro m9
  induction m9 with
  | zero =>
    intro b t hm q0 q1 q2 kk
    have hd7 := gDig_le hG t
    have hyy : 0 < m - t → gVal V.2.2.1 (m - t) ≤ 29 := fun h9 => by have := hT (m - t) (by omega) (by omega); omega
    refine eW_iload 7 rfl rfl rfl ?_
    refine eW_bipush 9 rfl rfl 6 rfl ?_
    refine eW_icmp_gt 12 rfl rfl (by unfold i32; omega) (by unfold i32; omega) (fun c1 => ?_) (fun c1 => ?_)
    · refine eW_re [(0, .ref v), (1, .ref g), (2, vI m), (3, vI (((b : Nat) : Int)))] rfl rfl (List.forall_mem_cons.mpr ⟨rfl, List.forall_mem_cons.mpr ⟨rfl, List.forall_mem_cons.mpr ⟨rfl, List.forall_mem_cons.mpr ⟨rfl, fun _ h => absurd h List.not_mem_nil⟩⟩⟩⟩) (List.forall_mem_cons.mpr ⟨Or.inl rfl, List.forall_mem_cons.mpr ⟨Or.inl rfl, List.forall_mem_cons.mpr ⟨Or.inl rfl, List.forall_mem_cons.mpr ⟨Or.inl rfl, List.forall_mem_cons.mpr ⟨Or.inr ⟨_, rfl⟩, fun _ h => absurd h List.not_mem_nil⟩⟩⟩⟩⟩) ?_
      refine kk b q1 (fun j hj => ?_)
      rw [q2 j hj, show t = 7 by omega]; rfl
    · refine eW_aload_n 13 rfl rfl rfl ?_
      refine eW_iload 15 rfl rfl rfl ?_
      refine eW_callV 18 [.ref g, vI t] [] [vI (gDig G t)] rfl rfl rfl rfl (Nat.ble_eq_true_of_le (by omega)) hg.1 rfl rfl rfl (g_digitFor (d := d + 2) hg hG hN2 (by unfold i32; omega)) rfl rfl ?_
      refine eW_istore 20 rfl rfl [(5, vI (gDig G t)), (0, .ref v), (1, .ref g), (2, vI m), (3, vI (((b : Nat) : Int))), (4, vI t)] rfl rfl ?_
      refine eW_iload_n 21 rfl rfl rfl ?_
      refine eW_iload 23 rfl rfl rfl ?_
      refine eW_isub 24 rfl rfl ?_
      refine eW_istore 26 rfl rfl [(6, vI (m - t)), (5, vI (gDig G t)), (0, .ref v), (1, .ref g), (2, vI m), (3, vI (((b : Nat) : Int))), (4, vI t)] rfl rfl ?_
      refine eW_iload 28 rfl rfl rfl ?_
      refine eW_if_ne 31 rfl rfl (by unfold i32; omega) (fun c2 => ?_) (fun c2 => ?_)
      · refine eW_iload 44 rfl rfl rfl ?_
        refine eW_if_le 47 rfl rfl (by unfold i32; omega) (fun c3 => ?_) (fun c3 => ?_)
        · refine eW_iload 67 rfl rfl rfl ?_
          refine eW_iconst 68 rfl rfl ?_
          refine eW_iand 69 rfl rfl ((gDig G t) / 4 % 2 * 4) (eAnd4 (gDig_le hG t).1 (gDig_le hG t).2) ?_
          refine eW_if_eq 72 rfl rfl (by unfold i32; omega) (fun c4 => ?_) (fun c4 => ?_)
          · refine eW_iinc 84 rfl rfl [(4, vI (t + 1)), (6, vI (m - t)), (5, vI (gDig G t)), (0, .ref v), (1, .ref g), (2, vI m), (3, vI (((b : Nat) : Int)))] rfl rfl rfl ?_
            refine eW_goto rfl ?_
            refine eW_re [(0, .ref v), (1, .ref g), (2, vI m), (3, vI (((b : Nat) : Int))), (4, vI (t + 1))] rfl rfl (List.forall_mem_cons.mpr ⟨rfl, List.forall_mem_cons.mpr ⟨rfl, List.forall_mem_cons.mpr ⟨rfl, List.forall_mem_cons.mpr ⟨rfl, List.forall_mem_cons.mpr ⟨rfl, fun _ h => absurd h List.not_mem_nil⟩⟩⟩⟩⟩) (List.forall_mem_cons.mpr ⟨Or.inl rfl, List.forall_mem_cons.mpr ⟨Or.inr ⟨_, rfl⟩, List.forall_mem_cons.mpr ⟨Or.inr ⟨_, rfl⟩, List.forall_mem_cons.mpr ⟨Or.inl rfl, List.forall_mem_cons.mpr ⟨Or.inl rfl, List.forall_mem_cons.mpr ⟨Or.inl rfl, List.forall_mem_cons.mpr ⟨Or.inl rfl, fun _ h => absurd h List.not_mem_nil⟩⟩⟩⟩⟩⟩⟩) ?_
            exact absurd hm (by omega)
          · refine eW_iload_n 73 rfl rfl rfl ?_
            refine eW_aload_n 74 rfl rfl rfl ?_
            refine eW_iload 76 rfl rfl rfl ?_
            refine eW_callVX 79 (α := Nat) _ (fun b2 => vI (((b2 : Nat) : Int))) [.ref v, vI (m - t)] [vI (((b : Nat) : Int))] rfl rfl rfl rfl (Nat.ble_eq_true_of_le (by omega)) hv.1 rfl rfl rfl (v_spl (d := d) hv hV hN (by omega) (by omega) (fun i h1 h2 => hT i h1 (by omega))) (fun _ => rfl) (fun b2 hb2 => ?_)
            refine eW_ior 80 rfl rfl (((b ||| b2 : Nat) : Int)) (eOrN _ _) ?_
            refine eW_istore_n 81 rfl rfl [(3, vI (((b ||| b2 : Nat) : Int))), (6, vI (m - t)), (5, vI (gDig G t)), (0, .ref v), (1, .ref g), (2, vI m), (4, vI t)] rfl rfl ?_
            refine eW_iinc 84 rfl rfl [(4, vI (t + 1)), (3, vI (((b ||| b2 : Nat) : Int))), (6, vI (m - t)), (5, vI (gDig G t)), (0, .ref v), (1, .ref g), (2, vI m)] rfl rfl rfl ?_
            refine eW_goto rfl ?_
            refine eW_re [(0, .ref v), (1, .ref g), (2, vI m), (3, vI (((b ||| b2 : Nat) : Int))), (4, vI (t + 1))] rfl rfl (List.forall_mem_cons.mpr ⟨rfl, List.forall_mem_cons.mpr ⟨rfl, List.forall_mem_cons.mpr ⟨rfl, List.forall_mem_cons.mpr ⟨rfl, List.forall_mem_cons.mpr ⟨rfl, fun _ h => absurd h List.not_mem_nil⟩⟩⟩⟩⟩) (List.forall_mem_cons.mpr ⟨Or.inl rfl, List.forall_mem_cons.mpr ⟨Or.inl rfl, List.forall_mem_cons.mpr ⟨Or.inr ⟨_, rfl⟩, List.forall_mem_cons.mpr ⟨Or.inr ⟨_, rfl⟩, List.forall_mem_cons.mpr ⟨Or.inl rfl, List.forall_mem_cons.mpr ⟨Or.inl rfl, List.forall_mem_cons.mpr ⟨Or.inl rfl, fun _ h => absurd h List.not_mem_nil⟩⟩⟩⟩⟩⟩⟩) ?_
            exact absurd hm (by omega)
        · refine eW_iload 49 rfl rfl rfl ?_
          refine eW_iconst 50 rfl rfl ?_
          refine eW_iand 51 rfl rfl ((gDig G t) / 2 % 2 * 2) (eAnd2 (gDig_le hG t).1 (gDig_le hG t).2) ?_
          refine eW_if_eq 54 rfl rfl (by unfold i32; omega) (fun c5 => ?_) (fun c5 => ?_)
          · refine eW_iload 67 rfl rfl rfl ?_
            refine eW_iconst 68 rfl rfl ?_
            refine eW_iand 69 rfl rfl ((gDig G t) / 4 % 2 * 4) (eAnd4 (gDig_le hG t).1 (gDig_le hG t).2) ?_
            refine eW_if_eq 72 rfl rfl (by unfold i32; omega) (fun c6 => ?_) (fun c6 => ?_)
            · refine eW_iinc 84 rfl rfl [(4, vI (t + 1)), (6, vI (m - t)), (5, vI (gDig G t)), (0, .ref v), (1, .ref g), (2, vI m), (3, vI (((b : Nat) : Int)))] rfl rfl rfl ?_
              refine eW_goto rfl ?_
              refine eW_re [(0, .ref v), (1, .ref g), (2, vI m), (3, vI (((b : Nat) : Int))), (4, vI (t + 1))] rfl rfl (List.forall_mem_cons.mpr ⟨rfl, List.forall_mem_cons.mpr ⟨rfl, List.forall_mem_cons.mpr ⟨rfl, List.forall_mem_cons.mpr ⟨rfl, List.forall_mem_cons.mpr ⟨rfl, fun _ h => absurd h List.not_mem_nil⟩⟩⟩⟩⟩) (List.forall_mem_cons.mpr ⟨Or.inl rfl, List.forall_mem_cons.mpr ⟨Or.inr ⟨_, rfl⟩, List.forall_mem_cons.mpr ⟨Or.inr ⟨_, rfl⟩, List.forall_mem_cons.mpr ⟨Or.inl rfl, List.forall_mem_cons.mpr ⟨Or.inl rfl, List.forall_mem_cons.mpr ⟨Or.inl rfl, List.forall_mem_cons.mpr ⟨Or.inl rfl, fun _ h => absurd h List.not_mem_nil⟩⟩⟩⟩⟩⟩⟩) ?_
              exact absurd hm (by omega)
            · refine eW_iload_n 73 rfl rfl rfl ?_
              refine eW_aload_n 74 rfl rfl rfl ?_
              refine eW_iload 76 rfl rfl rfl ?_
              refine eW_callVX 79 (α := Nat) _ (fun b2 => vI (((b2 : Nat) : Int))) [.ref v, vI (m - t)] [vI (((b : Nat) : Int))] rfl rfl rfl rfl (Nat.ble_eq_true_of_le (by omega)) hv.1 rfl rfl rfl (v_spl (d := d) hv hV hN (by omega) (by omega) (fun i h1 h2 => hT i h1 (by omega))) (fun _ => rfl) (fun b2 hb2 => ?_)
              refine eW_ior 80 rfl rfl (((b ||| b2 : Nat) : Int)) (eOrN _ _) ?_
              refine eW_istore_n 81 rfl rfl [(3, vI (((b ||| b2 : Nat) : Int))), (6, vI (m - t)), (5, vI (gDig G t)), (0, .ref v), (1, .ref g), (2, vI m), (4, vI t)] rfl rfl ?_
              refine eW_iinc 84 rfl rfl [(4, vI (t + 1)), (3, vI (((b ||| b2 : Nat) : Int))), (6, vI (m - t)), (5, vI (gDig G t)), (0, .ref v), (1, .ref g), (2, vI m)] rfl rfl rfl ?_
              refine eW_goto rfl ?_
              refine eW_re [(0, .ref v), (1, .ref g), (2, vI m), (3, vI (((b ||| b2 : Nat) : Int))), (4, vI (t + 1))] rfl rfl (List.forall_mem_cons.mpr ⟨rfl, List.forall_mem_cons.mpr ⟨rfl, List.forall_mem_cons.mpr ⟨rfl, List.forall_mem_cons.mpr ⟨rfl, List.forall_mem_cons.mpr ⟨rfl, fun _ h => absurd h List.not_mem_nil⟩⟩⟩⟩⟩) (List.forall_mem_cons.mpr ⟨Or.inl rfl, List.forall_mem_cons.mpr ⟨Or.inl rfl, List.forall_mem_cons.mpr ⟨Or.inr ⟨_, rfl⟩, List.forall_mem_cons.mpr ⟨Or.inr ⟨_, rfl⟩, List.forall_mem_cons.mpr ⟨Or.inl rfl, List.forall_mem_cons.mpr ⟨Or.inl rfl, List.forall_mem_cons.mpr ⟨Or.inl rfl, fun _ h => absurd h List.not_mem_nil⟩⟩⟩⟩⟩⟩⟩) ?_
              exact absurd hm (by omega)
          · refine eW_iload_n 55 rfl rfl rfl ?_
            refine eW_iconst 56 rfl rfl ?_
            refine eW_aload_n 57 rfl rfl rfl ?_
            refine eW_iload 59 rfl rfl rfl ?_
            have hlex7 := gVal_le (by omega) hV.2.1 (m - t)
            refine eW_callV 62 [.ref v, vI (m - t)] [vI 1, vI (((b : Nat) : Int))] [vI (gVal V.2.2.1 (m - t)), vI 1, vI (((b : Nat) : Int))] rfl rfl rfl rfl (Nat.ble_eq_true_of_le (by omega)) hv.1 rfl rfl rfl (v_ofBits (d := d + 1) hv hV hN (by unfold i32; omega)) rfl rfl ?_
            refine eW_ishl 63 rfl rfl (((1 <<< (gVal V.2.2.1 (m - t)).toNat : Nat) : Int)) (gShl (by omega)) ?_
            refine eW_ior 64 rfl rfl (((b ||| 1 <<< (gVal V.2.2.1 (m - t)).toNat : Nat) : Int)) (eOrN _ _) ?_
            refine eW_istore_n 65 rfl rfl [(3, vI (((b ||| 1 <<< (gVal V.2.2.1 (m - t)).toNat : Nat) : Int))), (6, vI (m - t)), (5, vI (gDig G t)), (0, .ref v), (1, .ref g), (2, vI m), (4, vI t)] rfl rfl ?_
            refine eW_iload 67 rfl rfl rfl ?_
            refine eW_iconst 68 rfl rfl ?_
            refine eW_iand 69 rfl rfl ((gDig G t) / 4 % 2 * 4) (eAnd4 (gDig_le hG t).1 (gDig_le hG t).2) ?_
            refine eW_if_eq 72 rfl rfl (by unfold i32; omega) (fun c8 => ?_) (fun c8 => ?_)
            · refine eW_iinc 84 rfl rfl [(4, vI (t + 1)), (3, vI (((b ||| 1 <<< (gVal V.2.2.1 (m - t)).toNat : Nat) : Int))), (6, vI (m - t)), (5, vI (gDig G t)), (0, .ref v), (1, .ref g), (2, vI m)] rfl rfl rfl ?_
              refine eW_goto rfl ?_
              refine eW_re [(0, .ref v), (1, .ref g), (2, vI m), (3, vI (((b ||| 1 <<< (gVal V.2.2.1 (m - t)).toNat : Nat) : Int))), (4, vI (t + 1))] rfl rfl (List.forall_mem_cons.mpr ⟨rfl, List.forall_mem_cons.mpr ⟨rfl, List.forall_mem_cons.mpr ⟨rfl, List.forall_mem_cons.mpr ⟨rfl, List.forall_mem_cons.mpr ⟨rfl, fun _ h => absurd h List.not_mem_nil⟩⟩⟩⟩⟩) (List.forall_mem_cons.mpr ⟨Or.inl rfl, List.forall_mem_cons.mpr ⟨Or.inl rfl, List.forall_mem_cons.mpr ⟨Or.inr ⟨_, rfl⟩, List.forall_mem_cons.mpr ⟨Or.inr ⟨_, rfl⟩, List.forall_mem_cons.mpr ⟨Or.inl rfl, List.forall_mem_cons.mpr ⟨Or.inl rfl, List.forall_mem_cons.mpr ⟨Or.inl rfl, fun _ h => absurd h List.not_mem_nil⟩⟩⟩⟩⟩⟩⟩) ?_
              exact absurd hm (by omega)
            · refine eW_iload_n 73 rfl rfl rfl ?_
              refine eW_aload_n 74 rfl rfl rfl ?_
              refine eW_iload 76 rfl rfl rfl ?_
              refine eW_callVX 79 (α := Nat) _ (fun b2 => vI (((b2 : Nat) : Int))) [.ref v, vI (m - t)] [vI (((b ||| 1 <<< (gVal V.2.2.1 (m - t)).toNat : Nat) : Int))] rfl rfl rfl rfl (Nat.ble_eq_true_of_le (by omega)) hv.1 rfl rfl rfl (v_spl (d := d) hv hV hN (by omega) (by omega) (fun i h1 h2 => hT i h1 (by omega))) (fun _ => rfl) (fun b2 hb2 => ?_)
              refine eW_ior 80 rfl rfl (((b ||| 1 <<< (gVal V.2.2.1 (m - t)).toNat ||| b2 : Nat) : Int)) (eOrN _ _) ?_
              refine eW_istore_n 81 rfl rfl [(3, vI (((b ||| 1 <<< (gVal V.2.2.1 (m - t)).toNat ||| b2 : Nat) : Int))), (6, vI (m - t)), (5, vI (gDig G t)), (0, .ref v), (1, .ref g), (2, vI m), (4, vI t)] rfl rfl ?_
              refine eW_iinc 84 rfl rfl [(4, vI (t + 1)), (3, vI (((b ||| 1 <<< (gVal V.2.2.1 (m - t)).toNat ||| b2 : Nat) : Int))), (6, vI (m - t)), (5, vI (gDig G t)), (0, .ref v), (1, .ref g), (2, vI m)] rfl rfl rfl ?_
              refine eW_goto rfl ?_
              refine eW_re [(0, .ref v), (1, .ref g), (2, vI m), (3, vI (((b ||| 1 <<< (gVal V.2.2.1 (m - t)).toNat ||| b2 : Nat) : Int))), (4, vI (t + 1))] rfl rfl (List.forall_mem_cons.mpr ⟨rfl, List.forall_mem_cons.mpr ⟨rfl, List.forall_mem_cons.mpr ⟨rfl, List.forall_mem_cons.mpr ⟨rfl, List.forall_mem_cons.mpr ⟨rfl, fun _ h => absurd h List.not_mem_nil⟩⟩⟩⟩⟩) (List.forall_mem_cons.mpr ⟨Or.inl rfl, List.forall_mem_cons.mpr ⟨Or.inl rfl, List.forall_mem_cons.mpr ⟨Or.inr ⟨_, rfl⟩, List.forall_mem_cons.mpr ⟨Or.inr ⟨_, rfl⟩, List.forall_mem_cons.mpr ⟨Or.inl rfl, List.forall_mem_cons.mpr ⟨Or.inl rfl, List.forall_mem_cons.mpr ⟨Or.inl rfl, fun _ h => absurd h List.not_mem_nil⟩⟩⟩⟩⟩⟩⟩) ?_
              exact absurd hm (by omega)
      · refine eW_iload 33 rfl rfl rfl ?_
        refine eW_iconst 34 rfl rfl ?_
        refine eW_iand 35 rfl rfl ((gDig G t) % 2) (eAnd1 (gDig_le hG t).1 (gDig_le hG t).2) ?_
        refine eW_if_eq 38 rfl rfl (by unfold i32; omega) (fun c9 => ?_) (fun c9 => ?_)
        · refine eW_iload 44 rfl rfl rfl ?_
          refine eW_if_le 47 rfl rfl (by unfold i32; omega) (fun c10 => ?_) (fun c10 => ?_)
          · refine eW_iload 67 rfl rfl rfl ?_
            refine eW_iconst 68 rfl rfl ?_
            refine eW_iand 69 rfl rfl ((gDig G t) / 4 % 2 * 4) (eAnd4 (gDig_le hG t).1 (gDig_le hG t).2) ?_
            refine eW_if_eq 72 rfl rfl (by unfold i32; omega) (fun c11 => ?_) (fun c11 => ?_)
            · refine eW_iinc 84 rfl rfl [(4, vI (t + 1)), (6, vI (m - t)), (5, vI (gDig G t)), (0, .ref v), (1, .ref g), (2, vI m), (3, vI (((b : Nat) : Int)))] rfl rfl rfl ?_
              refine eW_goto rfl ?_
              refine eW_re [(0, .ref v), (1, .ref g), (2, vI m), (3, vI (((b : Nat) : Int))), (4, vI (t + 1))] rfl rfl (List.forall_mem_cons.mpr ⟨rfl, List.forall_mem_cons.mpr ⟨rfl, List.forall_mem_cons.mpr ⟨rfl, List.forall_mem_cons.mpr ⟨rfl, List.forall_mem_cons.mpr ⟨rfl, fun _ h => absurd h List.not_mem_nil⟩⟩⟩⟩⟩) (List.forall_mem_cons.mpr ⟨Or.inl rfl, List.forall_mem_cons.mpr ⟨Or.inr ⟨_, rfl⟩, List.forall_mem_cons.mpr ⟨Or.inr ⟨_, rfl⟩, List.forall_mem_cons.mpr ⟨Or.inl rfl, List.forall_mem_cons.mpr ⟨Or.inl rfl, List.forall_mem_cons.mpr ⟨Or.inl rfl, List.forall_mem_cons.mpr ⟨Or.inl rfl, fun _ h => absurd h List.not_mem_nil⟩⟩⟩⟩⟩⟩⟩) ?_
              exact absurd hm (by omega)
            · refine eW_iload_n 73 rfl rfl rfl ?_
              refine eW_aload_n 74 rfl rfl rfl ?_
              refine eW_iload 76 rfl rfl rfl ?_
              refine eW_callVX 79 (α := Nat) _ (fun b2 => vI (((b2 : Nat) : Int))) [.ref v, vI (m - t)] [vI (((b : Nat) : Int))] rfl rfl rfl rfl (Nat.ble_eq_true_of_le (by omega)) hv.1 rfl rfl rfl (v_spl (d := d) hv hV hN (by omega) (by omega) (fun i h1 h2 => hT i h1 (by omega))) (fun _ => rfl) (fun b2 hb2 => ?_)
              refine eW_ior 80 rfl rfl (((b ||| b2 : Nat) : Int)) (eOrN _ _) ?_
              refine eW_istore_n 81 rfl rfl [(3, vI (((b ||| b2 : Nat) : Int))), (6, vI (m - t)), (5, vI (gDig G t)), (0, .ref v), (1, .ref g), (2, vI m), (4, vI t)] rfl rfl ?_
              refine eW_iinc 84 rfl rfl [(4, vI (t + 1)), (3, vI (((b ||| b2 : Nat) : Int))), (6, vI (m - t)), (5, vI (gDig G t)), (0, .ref v), (1, .ref g), (2, vI m)] rfl rfl rfl ?_
              refine eW_goto rfl ?_
              refine eW_re [(0, .ref v), (1, .ref g), (2, vI m), (3, vI (((b ||| b2 : Nat) : Int))), (4, vI (t + 1))] rfl rfl (List.forall_mem_cons.mpr ⟨rfl, List.forall_mem_cons.mpr ⟨rfl, List.forall_mem_cons.mpr ⟨rfl, List.forall_mem_cons.mpr ⟨rfl, List.forall_mem_cons.mpr ⟨rfl, fun _ h => absurd h List.not_mem_nil⟩⟩⟩⟩⟩) (List.forall_mem_cons.mpr ⟨Or.inl rfl, List.forall_mem_cons.mpr ⟨Or.inl rfl, List.forall_mem_cons.mpr ⟨Or.inr ⟨_, rfl⟩, List.forall_mem_cons.mpr ⟨Or.inr ⟨_, rfl⟩, List.forall_mem_cons.mpr ⟨Or.inl rfl, List.forall_mem_cons.mpr ⟨Or.inl rfl, List.forall_mem_cons.mpr ⟨Or.inl rfl, fun _ h => absurd h List.not_mem_nil⟩⟩⟩⟩⟩⟩⟩) ?_
              exact absurd hm (by omega)
          · refine eW_iload 49 rfl rfl rfl ?_
            refine eW_iconst 50 rfl rfl ?_
            refine eW_iand 51 rfl rfl ((gDig G t) / 2 % 2 * 2) (eAnd2 (gDig_le hG t).1 (gDig_le hG t).2) ?_
            refine eW_if_eq 54 rfl rfl (by unfold i32; omega) (fun c12 => ?_) (fun c12 => ?_)
            · refine eW_iload 67 rfl rfl rfl ?_
              refine eW_iconst 68 rfl rfl ?_
              refine eW_iand 69 rfl rfl ((gDig G t) / 4 % 2 * 4) (eAnd4 (gDig_le hG t).1 (gDig_le hG t).2) ?_
              refine eW_if_eq 72 rfl rfl (by unfold i32; omega) (fun c13 => ?_) (fun c13 => ?_)
              · refine eW_iinc 84 rfl rfl [(4, vI (t + 1)), (6, vI (m - t)), (5, vI (gDig G t)), (0, .ref v), (1, .ref g), (2, vI m), (3, vI (((b : Nat) : Int)))] rfl rfl rfl ?_
                refine eW_goto rfl ?_
                refine eW_re [(0, .ref v), (1, .ref g), (2, vI m), (3, vI (((b : Nat) : Int))), (4, vI (t + 1))] rfl rfl (List.forall_mem_cons.mpr ⟨rfl, List.forall_mem_cons.mpr ⟨rfl, List.forall_mem_cons.mpr ⟨rfl, List.forall_mem_cons.mpr ⟨rfl, List.forall_mem_cons.mpr ⟨rfl, fun _ h => absurd h List.not_mem_nil⟩⟩⟩⟩⟩) (List.forall_mem_cons.mpr ⟨Or.inl rfl, List.forall_mem_cons.mpr ⟨Or.inr ⟨_, rfl⟩, List.forall_mem_cons.mpr ⟨Or.inr ⟨_, rfl⟩, List.forall_mem_cons.mpr ⟨Or.inl rfl, List.forall_mem_cons.mpr ⟨Or.inl rfl, List.forall_mem_cons.mpr ⟨Or.inl rfl, List.forall_mem_cons.mpr ⟨Or.inl rfl, fun _ h => absurd h List.not_mem_nil⟩⟩⟩⟩⟩⟩⟩) ?_
                exact absurd hm (by omega)
              · refine eW_iload_n 73 rfl rfl rfl ?_
                refine eW_aload_n 74 rfl rfl rfl ?_
                refine eW_iload 76 rfl rfl rfl ?_
                refine eW_callVX 79 (α := Nat) _ (fun b2 => vI (((b2 : Nat) : Int))) [.ref v, vI (m - t)] [vI (((b : Nat) : Int))] rfl rfl rfl rfl (Nat.ble_eq_true_of_le (by omega)) hv.1 rfl rfl rfl (v_spl (d := d) hv hV hN (by omega) (by omega) (fun i h1 h2 => hT i h1 (by omega))) (fun _ => rfl) (fun b2 hb2 => ?_)
                refine eW_ior 80 rfl rfl (((b ||| b2 : Nat) : Int)) (eOrN _ _) ?_
                refine eW_istore_n 81 rfl rfl [(3, vI (((b ||| b2 : Nat) : Int))), (6, vI (m - t)), (5, vI (gDig G t)), (0, .ref v), (1, .ref g), (2, vI m), (4, vI t)] rfl rfl ?_
                refine eW_iinc 84 rfl rfl [(4, vI (t + 1)), (3, vI (((b ||| b2 : Nat) : Int))), (6, vI (m - t)), (5, vI (gDig G t)), (0, .ref v), (1, .ref g), (2, vI m)] rfl rfl rfl ?_
                refine eW_goto rfl ?_
                refine eW_re [(0, .ref v), (1, .ref g), (2, vI m), (3, vI (((b ||| b2 : Nat) : Int))), (4, vI (t + 1))] rfl rfl (List.forall_mem_cons.mpr ⟨rfl, List.forall_mem_cons.mpr ⟨rfl, List.forall_mem_cons.mpr ⟨rfl, List.forall_mem_cons.mpr ⟨rfl, List.forall_mem_cons.mpr ⟨rfl, fun _ h => absurd h List.not_mem_nil⟩⟩⟩⟩⟩) (List.forall_mem_cons.mpr ⟨Or.inl rfl, List.forall_mem_cons.mpr ⟨Or.inl rfl, List.forall_mem_cons.mpr ⟨Or.inr ⟨_, rfl⟩, List.forall_mem_cons.mpr ⟨Or.inr ⟨_, rfl⟩, List.forall_mem_cons.mpr ⟨Or.inl rfl, List.forall_mem_cons.mpr ⟨Or.inl rfl, List.forall_mem_cons.mpr ⟨Or.inl rfl, fun _ h => absurd h List.not_mem_nil⟩⟩⟩⟩⟩⟩⟩) ?_
                exact absurd hm (by omega)
            · refine eW_iload_n 55 rfl rfl rfl ?_
              refine eW_iconst 56 rfl rfl ?_
              refine eW_aload_n 57 rfl rfl rfl ?_
              refine eW_iload 59 rfl rfl rfl ?_
              have hlex14 := gVal_le (by omega) hV.2.1 (m - t)
              refine eW_callV 62 [.ref v, vI (m - t)] [vI 1, vI (((b : Nat) : Int))] [vI (gVal V.2.2.1 (m - t)), vI 1, vI (((b : Nat) : Int))] rfl rfl rfl rfl (Nat.ble_eq_true_of_le (by omega)) hv.1 rfl rfl rfl (v_ofBits (d := d + 1) hv hV hN (by unfold i32; omega)) rfl rfl ?_
              refine eW_ishl 63 rfl rfl (((1 <<< (gVal V.2.2.1 (m - t)).toNat : Nat) : Int)) (gShl (by omega)) ?_
              refine eW_ior 64 rfl rfl (((b ||| 1 <<< (gVal V.2.2.1 (m - t)).toNat : Nat) : Int)) (eOrN _ _) ?_
              refine eW_istore_n 65 rfl rfl [(3, vI (((b ||| 1 <<< (gVal V.2.2.1 (m - t)).toNat : Nat) : Int))), (6, vI (m - t)), (5, vI (gDig G t)), (0, .ref v), (1, .ref g), (2, vI m), (4, vI t)] rfl rfl ?_
              refine eW_iload 67 rfl rfl rfl ?_
              refine eW_iconst 68 rfl rfl ?_
              refine eW_iand 69 rfl rfl ((gDig G t) / 4 % 2 * 4) (eAnd4 (gDig_le hG t).1 (gDig_le hG t).2) ?_
              refine eW_if_eq 72 rfl rfl (by unfold i32; omega) (fun c15 => ?_) (fun c15 => ?_)
              · refine eW_iinc 84 rfl rfl [(4, vI (t + 1)), (3, vI (((b ||| 1 <<< (gVal V.2.2.1 (m - t)).toNat : Nat) : Int))), (6, vI (m - t)), (5, vI (gDig G t)), (0, .ref v), (1, .ref g), (2, vI m)] rfl rfl rfl ?_
                refine eW_goto rfl ?_
                refine eW_re [(0, .ref v), (1, .ref g), (2, vI m), (3, vI (((b ||| 1 <<< (gVal V.2.2.1 (m - t)).toNat : Nat) : Int))), (4, vI (t + 1))] rfl rfl (List.forall_mem_cons.mpr ⟨rfl, List.forall_mem_cons.mpr ⟨rfl, List.forall_mem_cons.mpr ⟨rfl, List.forall_mem_cons.mpr ⟨rfl, List.forall_mem_cons.mpr ⟨rfl, fun _ h => absurd h List.not_mem_nil⟩⟩⟩⟩⟩) (List.forall_mem_cons.mpr ⟨Or.inl rfl, List.forall_mem_cons.mpr ⟨Or.inl rfl, List.forall_mem_cons.mpr ⟨Or.inr ⟨_, rfl⟩, List.forall_mem_cons.mpr ⟨Or.inr ⟨_, rfl⟩, List.forall_mem_cons.mpr ⟨Or.inl rfl, List.forall_mem_cons.mpr ⟨Or.inl rfl, List.forall_mem_cons.mpr ⟨Or.inl rfl, fun _ h => absurd h List.not_mem_nil⟩⟩⟩⟩⟩⟩⟩) ?_
                exact absurd hm (by omega)
              · refine eW_iload_n 73 rfl rfl rfl ?_
                refine eW_aload_n 74 rfl rfl rfl ?_
                refine eW_iload 76 rfl rfl rfl ?_
                refine eW_callVX 79 (α := Nat) _ (fun b2 => vI (((b2 : Nat) : Int))) [.ref v, vI (m - t)] [vI (((b ||| 1 <<< (gVal V.2.2.1 (m - t)).toNat : Nat) : Int))] rfl rfl rfl rfl (Nat.ble_eq_true_of_le (by omega)) hv.1 rfl rfl rfl (v_spl (d := d) hv hV hN (by omega) (by omega) (fun i h1 h2 => hT i h1 (by omega))) (fun _ => rfl) (fun b2 hb2 => ?_)
                refine eW_ior 80 rfl rfl (((b ||| 1 <<< (gVal V.2.2.1 (m - t)).toNat ||| b2 : Nat) : Int)) (eOrN _ _) ?_
                refine eW_istore_n 81 rfl rfl [(3, vI (((b ||| 1 <<< (gVal V.2.2.1 (m - t)).toNat ||| b2 : Nat) : Int))), (6, vI (m - t)), (5, vI (gDig G t)), (0, .ref v), (1, .ref g), (2, vI m), (4, vI t)] rfl rfl ?_
                refine eW_iinc 84 rfl rfl [(4, vI (t + 1)), (3, vI (((b ||| 1 <<< (gVal V.2.2.1 (m - t)).toNat ||| b2 : Nat) : Int))), (6, vI (m - t)), (5, vI (gDig G t)), (0, .ref v), (1, .ref g), (2, vI m)] rfl rfl rfl ?_
                refine eW_goto rfl ?_
                refine eW_re [(0, .ref v), (1, .ref g), (2, vI m), (3, vI (((b ||| 1 <<< (gVal V.2.2.1 (m - t)).toNat ||| b2 : Nat) : Int))), (4, vI (t + 1))] rfl rfl (List.forall_mem_cons.mpr ⟨rfl, List.forall_mem_cons.mpr ⟨rfl, List.forall_mem_cons.mpr ⟨rfl, List.forall_mem_cons.mpr ⟨rfl, List.forall_mem_cons.mpr ⟨rfl, fun _ h => absurd h List.not_mem_nil⟩⟩⟩⟩⟩) (List.forall_mem_cons.mpr ⟨Or.inl rfl, List.forall_mem_cons.mpr ⟨Or.inl rfl, List.forall_mem_cons.mpr ⟨Or.inr ⟨_, rfl⟩, List.forall_mem_cons.mpr ⟨Or.inr ⟨_, rfl⟩, List.forall_mem_cons.mpr ⟨Or.inl rfl, List.forall_mem_cons.mpr ⟨Or.inl rfl, List.forall_mem_cons.mpr ⟨Or.inl rfl, fun _ h => absurd h List.not_mem_nil⟩⟩⟩⟩⟩⟩⟩) ?_
                exact absurd hm (by omega)
        · refine eW_iload_n 39 rfl rfl rfl ?_
          refine eW_iconst 40 rfl rfl ?_
          refine eW_ior 41 rfl rfl (((b ||| 1 : Nat) : Int)) (eOrN _ _) ?_
          refine eW_istore_n 42 rfl rfl [(3, vI (((b ||| 1 : Nat) : Int))), (6, vI (m - t)), (5, vI (gDig G t)), (0, .ref v), (1, .ref g), (2, vI m), (4, vI t)] rfl rfl ?_
          refine eW_iload 44 rfl rfl rfl ?_
          refine eW_if_le 47 rfl rfl (by unfold i32; omega) (fun c16 => ?_) (fun c16 => ?_)
          · refine eW_iload 67 rfl rfl rfl ?_
            refine eW_iconst 68 rfl rfl ?_
            refine eW_iand 69 rfl rfl ((gDig G t) / 4 % 2 * 4) (eAnd4 (gDig_le hG t).1 (gDig_le hG t).2) ?_
            refine eW_if_eq 72 rfl rfl (by unfold i32; omega) (fun c17 => ?_) (fun c17 => ?_)
            · refine eW_iinc 84 rfl rfl [(4, vI (t + 1)), (3, vI (((b ||| 1 : Nat) : Int))), (6, vI (m - t)), (5, vI (gDig G t)), (0, .ref v), (1, .ref g), (2, vI m)] rfl rfl rfl ?_
              refine eW_goto rfl ?_
              refine eW_re [(0, .ref v), (1, .ref g), (2, vI m), (3, vI (((b ||| 1 : Nat) : Int))), (4, vI (t + 1))] rfl rfl (List.forall_mem_cons.mpr ⟨rfl, List.forall_mem_cons.mpr ⟨rfl, List.forall_mem_cons.mpr ⟨rfl, List.forall_mem_cons.mpr ⟨rfl, List.forall_mem_cons.mpr ⟨rfl, fun _ h => absurd h List.not_mem_nil⟩⟩⟩⟩⟩) (List.forall_mem_cons.mpr ⟨Or.inl rfl, List.forall_mem_cons.mpr ⟨Or.inl rfl, List.forall_mem_cons.mpr ⟨Or.inr ⟨_, rfl⟩, List.forall_mem_cons.mpr ⟨Or.inr ⟨_, rfl⟩, List.forall_mem_cons.mpr ⟨Or.inl rfl, List.forall_mem_cons.mpr ⟨Or.inl rfl, List.forall_mem_cons.mpr ⟨Or.inl rfl, fun _ h => absurd h List.not_mem_nil⟩⟩⟩⟩⟩⟩⟩) ?_
              exact absurd hm (by omega)
            · refine eW_iload_n 73 rfl rfl rfl ?_
              refine eW_aload_n 74 rfl rfl rfl ?_
              refine eW_iload 76 rfl rfl rfl ?_
              refine eW_callVX 79 (α := Nat) _ (fun b2 => vI (((b2 : Nat) : Int))) [.ref v, vI (m - t)] [vI (((b ||| 1 : Nat) : Int))] rfl rfl rfl rfl (Nat.ble_eq_true_of_le (by omega)) hv.1 rfl rfl rfl (v_spl (d := d) hv hV hN (by omega) (by omega) (fun i h1 h2 => hT i h1 (by omega))) (fun _ => rfl) (fun b2 hb2 => ?_)
              refine eW_ior 80 rfl rfl (((b ||| 1 ||| b2 : Nat) : Int)) (eOrN _ _) ?_
              refine eW_istore_n 81 rfl rfl [(3, vI (((b ||| 1 ||| b2 : Nat) : Int))), (6, vI (m - t)), (5, vI (gDig G t)), (0, .ref v), (1, .ref g), (2, vI m), (4, vI t)] rfl rfl ?_
              refine eW_iinc 84 rfl rfl [(4, vI (t + 1)), (3, vI (((b ||| 1 ||| b2 : Nat) : Int))), (6, vI (m - t)), (5, vI (gDig G t)), (0, .ref v), (1, .ref g), (2, vI m)] rfl rfl rfl ?_
              refine eW_goto rfl ?_
              refine eW_re [(0, .ref v), (1, .ref g), (2, vI m), (3, vI (((b ||| 1 ||| b2 : Nat) : Int))), (4, vI (t + 1))] rfl rfl (List.forall_mem_cons.mpr ⟨rfl, List.forall_mem_cons.mpr ⟨rfl, List.forall_mem_cons.mpr ⟨rfl, List.forall_mem_cons.mpr ⟨rfl, List.forall_mem_cons.mpr ⟨rfl, fun _ h => absurd h List.not_mem_nil⟩⟩⟩⟩⟩) (List.forall_mem_cons.mpr ⟨Or.inl rfl, List.forall_mem_cons.mpr ⟨Or.inl rfl, List.forall_mem_cons.mpr ⟨Or.inr ⟨_, rfl⟩, List.forall_mem_cons.mpr ⟨Or.inr ⟨_, rfl⟩, List.forall_mem_cons.mpr ⟨Or.inl rfl, List.forall_mem_cons.mpr ⟨Or.inl rfl, List.forall_mem_cons.mpr ⟨Or.inl rfl, fun _ h => absurd h List.not_mem_nil⟩⟩⟩⟩⟩⟩⟩) ?_
              exact absurd hm (by omega)
          · refine eW_iload 49 rfl rfl rfl ?_
            refine eW_iconst 50 rfl rfl ?_
            refine eW_iand 51 rfl rfl ((gDig G t) / 2 % 2 * 2) (eAnd2 (gDig_le hG t).1 (gDig_le hG t).2) ?_
            refine eW_if_eq 54 rfl rfl (by unfold i32; omega) (fun c18 => ?_) (fun c18 => ?_)
            · refine eW_iload 67 rfl rfl rfl ?_
              refine eW_iconst 68 rfl rfl ?_
              refine eW_iand 69 rfl rfl ((gDig G t) / 4 % 2 * 4) (eAnd4 (gDig_le hG t).1 (gDig_le hG t).2) ?_
              refine eW_if_eq 72 rfl rfl (by unfold i32; omega) (fun c19 => ?_) (fun c19 => ?_)
              · refine eW_iinc 84 rfl rfl [(4, vI (t + 1)), (3, vI (((b ||| 1 : Nat) : Int))), (6, vI (m - t)), (5, vI (gDig G t)), (0, .ref v), (1, .ref g), (2, vI m)] rfl rfl rfl ?_
                refine eW_goto rfl ?_
                refine eW_re [(0, .ref v), (1, .ref g), (2, vI m), (3, vI (((b ||| 1 : Nat) : Int))), (4, vI (t + 1))] rfl rfl (List.forall_mem_cons.mpr ⟨rfl, List.forall_mem_cons.mpr ⟨rfl, List.forall_mem_cons.mpr ⟨rfl, List.forall_mem_cons.mpr ⟨rfl, List.forall_mem_cons.mpr ⟨rfl, fun _ h => absurd h List.not_mem_nil⟩⟩⟩⟩⟩) (List.forall_mem_cons.mpr ⟨Or.inl rfl, List.forall_mem_cons.mpr ⟨Or.inl rfl, List.forall_mem_cons.mpr ⟨Or.inr ⟨_, rfl⟩, List.forall_mem_cons.mpr ⟨Or.inr ⟨_, rfl⟩, List.forall_mem_cons.mpr ⟨Or.inl rfl, List.forall_mem_cons.mpr ⟨Or.inl rfl, List.forall_mem_cons.mpr ⟨Or.inl rfl, fun _ h => absurd h List.not_mem_nil⟩⟩⟩⟩⟩⟩⟩) ?_
                exact absurd hm (by omega)
              · refine eW_iload_n 73 rfl rfl rfl ?_
                refine eW_aload_n 74 rfl rfl rfl ?_
                refine eW_iload 76 rfl rfl rfl ?_
                refine eW_callVX 79 (α := Nat) _ (fun b2 => vI (((b2 : Nat) : Int))) [.ref v, vI (m - t)] [vI (((b ||| 1 : Nat) : Int))] rfl rfl rfl rfl (Nat.ble_eq_true_of_le (by omega)) hv.1 rfl rfl rfl (v_spl (d := d) hv hV hN (by omega) (by omega) (fun i h1 h2 => hT i h1 (by omega))) (fun _ => rfl) (fun b2 hb2 => ?_)
                refine eW_ior 80 rfl rfl (((b ||| 1 ||| b2 : Nat) : Int)) (eOrN _ _) ?_
                refine eW_istore_n 81 rfl rfl [(3, vI (((b ||| 1 ||| b2 : Nat) : Int))), (6, vI (m - t)), (5, vI (gDig G t)), (0, .ref v), (1, .ref g), (2, vI m), (4, vI t)] rfl rfl ?_
                refine eW_iinc 84 rfl rfl [(4, vI (t + 1)), (3, vI (((b ||| 1 ||| b2 : Nat) : Int))), (6, vI (m - t)), (5, vI (gDig G t)), (0, .ref v), (1, .ref g), (2, vI m)] rfl rfl rfl ?_
                refine eW_goto rfl ?_
                refine eW_re [(0, .ref v), (1, .ref g), (2, vI m), (3, vI (((b ||| 1 ||| b2 : Nat) : Int))), (4, vI (t + 1))] rfl rfl (List.forall_mem_cons.mpr ⟨rfl, List.forall_mem_cons.mpr ⟨rfl, List.forall_mem_cons.mpr ⟨rfl, List.forall_mem_cons.mpr ⟨rfl, List.forall_mem_cons.mpr ⟨rfl, fun _ h => absurd h List.not_mem_nil⟩⟩⟩⟩⟩) (List.forall_mem_cons.mpr ⟨Or.inl rfl, List.forall_mem_cons.mpr ⟨Or.inl rfl, List.forall_mem_cons.mpr ⟨Or.inr ⟨_, rfl⟩, List.forall_mem_cons.mpr ⟨Or.inr ⟨_, rfl⟩, List.forall_mem_cons.mpr ⟨Or.inl rfl, List.forall_mem_cons.mpr ⟨Or.inl rfl, List.forall_mem_cons.mpr ⟨Or.inl rfl, fun _ h => absurd h List.not_mem_nil⟩⟩⟩⟩⟩⟩⟩) ?_
                exact absurd hm (by omega)
            · refine eW_iload_n 55 rfl rfl rfl ?_
              refine eW_iconst 56 rfl rfl ?_
              refine eW_aload_n 57 rfl rfl rfl ?_
              refine eW_iload 59 rfl rfl rfl ?_
              have hlex20 := gVal_le (by omega) hV.2.1 (m - t)
              refine eW_callV 62 [.ref v, vI (m - t)] [vI 1, vI (((b ||| 1 : Nat) : Int))] [vI (gVal V.2.2.1 (m - t)), vI 1, vI (((b ||| 1 : Nat) : Int))] rfl rfl rfl rfl (Nat.ble_eq_true_of_le (by omega)) hv.1 rfl rfl rfl (v_ofBits (d := d + 1) hv hV hN (by unfold i32; omega)) rfl rfl ?_
              refine eW_ishl 63 rfl rfl (((1 <<< (gVal V.2.2.1 (m - t)).toNat : Nat) : Int)) (gShl (by omega)) ?_
              refine eW_ior 64 rfl rfl (((b ||| 1 ||| 1 <<< (gVal V.2.2.1 (m - t)).toNat : Nat) : Int)) (eOrN _ _) ?_
              refine eW_istore_n 65 rfl rfl [(3, vI (((b ||| 1 ||| 1 <<< (gVal V.2.2.1 (m - t)).toNat : Nat) : Int))), (6, vI (m - t)), (5, vI (gDig G t)), (0, .ref v), (1, .ref g), (2, vI m), (4, vI t)] rfl rfl ?_
              refine eW_iload 67 rfl rfl rfl ?_
              refine eW_iconst 68 rfl rfl ?_
              refine eW_iand 69 rfl rfl ((gDig G t) / 4 % 2 * 4) (eAnd4 (gDig_le hG t).1 (gDig_le hG t).2) ?_
              refine eW_if_eq 72 rfl rfl (by unfold i32; omega) (fun c21 => ?_) (fun c21 => ?_)
              · refine eW_iinc 84 rfl rfl [(4, vI (t + 1)), (3, vI (((b ||| 1 ||| 1 <<< (gVal V.2.2.1 (m - t)).toNat : Nat) : Int))), (6, vI (m - t)), (5, vI (gDig G t)), (0, .ref v), (1, .ref g), (2, vI m)] rfl rfl rfl ?_
                refine eW_goto rfl ?_
                refine eW_re [(0, .ref v), (1, .ref g), (2, vI m), (3, vI (((b ||| 1 ||| 1 <<< (gVal V.2.2.1 (m - t)).toNat : Nat) : Int))), (4, vI (t + 1))] rfl rfl (List.forall_mem_cons.mpr ⟨rfl, List.forall_mem_cons.mpr ⟨rfl, List.forall_mem_cons.mpr ⟨rfl, List.forall_mem_cons.mpr ⟨rfl, List.forall_mem_cons.mpr ⟨rfl, fun _ h => absurd h List.not_mem_nil⟩⟩⟩⟩⟩) (List.forall_mem_cons.mpr ⟨Or.inl rfl, List.forall_mem_cons.mpr ⟨Or.inl rfl, List.forall_mem_cons.mpr ⟨Or.inr ⟨_, rfl⟩, List.forall_mem_cons.mpr ⟨Or.inr ⟨_, rfl⟩, List.forall_mem_cons.mpr ⟨Or.inl rfl, List.forall_mem_cons.mpr ⟨Or.inl rfl, List.forall_mem_cons.mpr ⟨Or.inl rfl, fun _ h => absurd h List.not_mem_nil⟩⟩⟩⟩⟩⟩⟩) ?_
                exact absurd hm (by omega)
              · refine eW_iload_n 73 rfl rfl rfl ?_
                refine eW_aload_n 74 rfl rfl rfl ?_
                refine eW_iload 76 rfl rfl rfl ?_
                refine eW_callVX 79 (α := Nat) _ (fun b2 => vI (((b2 : Nat) : Int))) [.ref v, vI (m - t)] [vI (((b ||| 1 ||| 1 <<< (gVal V.2.2.1 (m - t)).toNat : Nat) : Int))] rfl rfl rfl rfl (Nat.ble_eq_true_of_le (by omega)) hv.1 rfl rfl rfl (v_spl (d := d) hv hV hN (by omega) (by omega) (fun i h1 h2 => hT i h1 (by omega))) (fun _ => rfl) (fun b2 hb2 => ?_)
                refine eW_ior 80 rfl rfl (((b ||| 1 ||| 1 <<< (gVal V.2.2.1 (m - t)).toNat ||| b2 : Nat) : Int)) (eOrN _ _) ?_
                refine eW_istore_n 81 rfl rfl [(3, vI (((b ||| 1 ||| 1 <<< (gVal V.2.2.1 (m - t)).toNat ||| b2 : Nat) : Int))), (6, vI (m - t)), (5, vI (gDig G t)), (0, .ref v), (1, .ref g), (2, vI m), (4, vI t)] rfl rfl ?_
                refine eW_iinc 84 rfl rfl [(4, vI (t + 1)), (3, vI (((b ||| 1 ||| 1 <<< (gVal V.2.2.1 (m - t)).toNat ||| b2 : Nat) : Int))), (6, vI (m - t)), (5, vI (gDig G t)), (0, .ref v), (1, .ref g), (2, vI m)] rfl rfl rfl ?_
                refine eW_goto rfl ?_
                refine eW_re [(0, .ref v), (1, .ref g), (2, vI m), (3, vI (((b ||| 1 ||| 1 <<< (gVal V.2.2.1 (m - t)).toNat ||| b2 : Nat) : Int))), (4, vI (t + 1))] rfl rfl (List.forall_mem_cons.mpr ⟨rfl, List.forall_mem_cons.mpr ⟨rfl, List.forall_mem_cons.mpr ⟨rfl, List.forall_mem_cons.mpr ⟨rfl, List.forall_mem_cons.mpr ⟨rfl, fun _ h => absurd h List.not_mem_nil⟩⟩⟩⟩⟩) (List.forall_mem_cons.mpr ⟨Or.inl rfl, List.forall_mem_cons.mpr ⟨Or.inl rfl, List.forall_mem_cons.mpr ⟨Or.inr ⟨_, rfl⟩, List.forall_mem_cons.mpr ⟨Or.inr ⟨_, rfl⟩, List.forall_mem_cons.mpr ⟨Or.inl rfl, List.forall_mem_cons.mpr ⟨Or.inl rfl, List.forall_mem_cons.mpr ⟨Or.inl rfl, fun _ h => absurd h List.not_mem_nil⟩⟩⟩⟩⟩⟩⟩) ?_
                exact absurd hm (by omega)
  | succ m9 ih =>
    intro b t hm q0 q1 q2 kk
    have hd7 := gDig_le hG t
    have hyy : 0 < m - t → gVal V.2.2.1 (m - t) ≤ 29 := fun h9 => by have := hT (m - t) (by omega) (by omega); omega
    refine eW_iload 7 rfl rfl rfl ?_
    refine eW_bipush 9 rfl rfl 6 rfl ?_
    refine eW_icmp_gt 12 rfl rfl (by unfold i32; omega) (by unfold i32; omega) (fun c1 => ?_) (fun c1 => ?_)
    · refine eW_re [(0, .ref v), (1, .ref g), (2, vI m), (3, vI (((b : Nat) : Int)))] rfl rfl (List.forall_mem_cons.mpr ⟨rfl, List.forall_mem_cons.mpr ⟨rfl, List.forall_mem_cons.mpr ⟨rfl, List.forall_mem_cons.mpr ⟨rfl, fun _ h => absurd h List.not_mem_nil⟩⟩⟩⟩) (List.forall_mem_cons.mpr ⟨Or.inl rfl, List.forall_mem_cons.mpr ⟨Or.inl rfl, List.forall_mem_cons.mpr ⟨Or.inl rfl, List.forall_mem_cons.mpr ⟨Or.inl rfl, List.forall_mem_cons.mpr ⟨Or.inr ⟨_, rfl⟩, fun _ h => absurd h List.not_mem_nil⟩⟩⟩⟩⟩) ?_
      refine kk b q1 (fun j hj => ?_)
      rw [q2 j hj, show t = 7 by omega]; rfl
    · refine eW_aload_n 13 rfl rfl rfl ?_
      refine eW_iload 15 rfl rfl rfl ?_
      refine eW_callV 18 [.ref g, vI t] [] [vI (gDig G t)] rfl rfl rfl rfl (Nat.ble_eq_true_of_le (by omega)) hg.1 rfl rfl rfl (g_digitFor (d := d + 2) hg hG hN2 (by unfold i32; omega)) rfl rfl ?_
      refine eW_istore 20 rfl rfl [(5, vI (gDig G t)), (0, .ref v), (1, .ref g), (2, vI m), (3, vI (((b : Nat) : Int))), (4, vI t)] rfl rfl ?_
      refine eW_iload_n 21 rfl rfl rfl ?_
      refine eW_iload 23 rfl rfl rfl ?_
      refine eW_isub 24 rfl rfl ?_
      refine eW_istore 26 rfl rfl [(6, vI (m - t)), (5, vI (gDig G t)), (0, .ref v), (1, .ref g), (2, vI m), (3, vI (((b : Nat) : Int))), (4, vI t)] rfl rfl ?_
      refine eW_iload 28 rfl rfl rfl ?_
      refine eW_if_ne 31 rfl rfl (by unfold i32; omega) (fun c2 => ?_) (fun c2 => ?_)
      · refine eW_iload 44 rfl rfl rfl ?_
        refine eW_if_le 47 rfl rfl (by unfold i32; omega) (fun c3 => ?_) (fun c3 => ?_)
        · refine eW_iload 67 rfl rfl rfl ?_
          refine eW_iconst 68 rfl rfl ?_
          refine eW_iand 69 rfl rfl ((gDig G t) / 4 % 2 * 4) (eAnd4 (gDig_le hG t).1 (gDig_le hG t).2) ?_
          refine eW_if_eq 72 rfl rfl (by unfold i32; omega) (fun c4 => ?_) (fun c4 => ?_)
          · refine eW_iinc 84 rfl rfl [(4, vI (t + 1)), (6, vI (m - t)), (5, vI (gDig G t)), (0, .ref v), (1, .ref g), (2, vI m), (3, vI (((b : Nat) : Int)))] rfl rfl rfl ?_
            refine eW_goto rfl ?_
            refine eW_re [(0, .ref v), (1, .ref g), (2, vI m), (3, vI (((b : Nat) : Int))), (4, vI (t + 1))] rfl rfl (List.forall_mem_cons.mpr ⟨rfl, List.forall_mem_cons.mpr ⟨rfl, List.forall_mem_cons.mpr ⟨rfl, List.forall_mem_cons.mpr ⟨rfl, List.forall_mem_cons.mpr ⟨rfl, fun _ h => absurd h List.not_mem_nil⟩⟩⟩⟩⟩) (List.forall_mem_cons.mpr ⟨Or.inl rfl, List.forall_mem_cons.mpr ⟨Or.inr ⟨_, rfl⟩, List.forall_mem_cons.mpr ⟨Or.inr ⟨_, rfl⟩, List.forall_mem_cons.mpr ⟨Or.inl rfl, List.forall_mem_cons.mpr ⟨Or.inl rfl, List.forall_mem_cons.mpr ⟨Or.inl rfl, List.forall_mem_cons.mpr ⟨Or.inl rfl, fun _ h => absurd h List.not_mem_nil⟩⟩⟩⟩⟩⟩⟩) ?_
            refine ih (b) (t + 1) (by omega) (by omega) ?_ (fun j hj => ?_) kk
            · repeat (first | exact q1 | exact hb2.1 | exact (by decide : 1 < 2 ^ 31) | exact gShl_lt (by omega) | apply Nat.or_lt_two_pow)
            · have e1 : (decide (m - t = 0) && decide (gDig G t % 2 = 1)) = false := eAndF (by omega)
              have e2 : (decide (0 < m - t) && decide (gDig G t / 2 % 2 = 1)) = false := eAndF (by omega)
              have e3 : decide (gDig G t / 4 % 2 = 1) = false := decide_eq_false (by omega)
              rw [show t + 1 - 1 = t by omega, gBts_succ q0.1, ← q2 j hj]
              unfold gBt
              rw [e1, e2, e3]
              simp only [Bool.true_and, Bool.false_and, Bool.or_false, Bool.false_or, Bool.or_assoc]
          · refine eW_iload_n 73 rfl rfl rfl ?_
            refine eW_aload_n 74 rfl rfl rfl ?_
            refine eW_iload 76 rfl rfl rfl ?_
            refine eW_callVX 79 (α := Nat) _ (fun b2 => vI (((b2 : Nat) : Int))) [.ref v, vI (m - t)] [vI (((b : Nat) : Int))] rfl rfl rfl rfl (Nat.ble_eq_true_of_le (by omega)) hv.1 rfl rfl rfl (v_spl (d := d) hv hV hN (by omega) (by omega) (fun i h1 h2 => hT i h1 (by omega))) (fun _ => rfl) (fun b2 hb2 => ?_)
            refine eW_ior 80 rfl rfl (((b ||| b2 : Nat) : Int)) (eOrN _ _) ?_
            refine eW_istore_n 81 rfl rfl [(3, vI (((b ||| b2 : Nat) : Int))), (6, vI (m - t)), (5, vI (gDig G t)), (0, .ref v), (1, .ref g), (2, vI m), (4, vI t)] rfl rfl ?_
            refine eW_iinc 84 rfl rfl [(4, vI (t + 1)), (3, vI (((b ||| b2 : Nat) : Int))), (6, vI (m - t)), (5, vI (gDig G t)), (0, .ref v), (1, .ref g), (2, vI m)] rfl rfl rfl ?_
            refine eW_goto rfl ?_
            refine eW_re [(0, .ref v), (1, .ref g), (2, vI m), (3, vI (((b ||| b2 : Nat) : Int))), (4, vI (t + 1))] rfl rfl (List.forall_mem_cons.mpr ⟨rfl, List.forall_mem_cons.mpr ⟨rfl, List.forall_mem_cons.mpr ⟨rfl, List.forall_mem_cons.mpr ⟨rfl, List.forall_mem_cons.mpr ⟨rfl, fun _ h => absurd h List.not_mem_nil⟩⟩⟩⟩⟩) (List.forall_mem_cons.mpr ⟨Or.inl rfl, List.forall_mem_cons.mpr ⟨Or.inl rfl, List.forall_mem_cons.mpr ⟨Or.inr ⟨_, rfl⟩, List.forall_mem_cons.mpr ⟨Or.inr ⟨_, rfl⟩, List.forall_mem_cons.mpr ⟨Or.inl rfl, List.forall_mem_cons.mpr ⟨Or.inl rfl, List.forall_mem_cons.mpr ⟨Or.inl rfl, fun _ h => absurd h List.not_mem_nil⟩⟩⟩⟩⟩⟩⟩) ?_
            refine ih (b ||| b2) (t + 1) (by omega) (by omega) ?_ (fun j hj => ?_) kk
            · repeat (first | exact q1 | exact hb2.1 | exact (by decide : 1 < 2 ^ 31) | exact gShl_lt (by omega) | apply Nat.or_lt_two_pow)
            · have e1 : (decide (m - t = 0) && decide (gDig G t % 2 = 1)) = false := eAndF (by omega)
              have e2 : (decide (0 < m - t) && decide (gDig G t / 2 % 2 = 1)) = false := eAndF (by omega)
              have e3 : decide (gDig G t / 4 % 2 = 1) = true := decide_eq_true (by omega)
              rw [show t + 1 - 1 = t by omega, gBts_succ q0.1, ← q2 j hj]
              rw [Nat.testBit_or, hb2.2 j hj]
              unfold gBt
              rw [e1, e2, e3]
              simp only [Bool.true_and, Bool.false_and, Bool.or_false, Bool.false_or, Bool.or_assoc]
        · refine eW_iload 49 rfl rfl rfl ?_
          refine eW_iconst 50 rfl rfl ?_
          refine eW_iand 51 rfl rfl ((gDig G t) / 2 % 2 * 2) (eAnd2 (gDig_le hG t).1 (gDig_le hG t).2) ?_
          refine eW_if_eq 54 rfl rfl (by unfold i32; omega) (fun c5 => ?_) (fun c5 => ?_)
          · refine eW_iload 67 rfl rfl rfl ?_
            refine eW_iconst 68 rfl rfl ?_
            refine eW_iand 69 rfl rfl ((gDig G t) / 4 % 2 * 4) (eAnd4 (gDig_le hG t).1 (gDig_le hG t).2) ?_
            refine eW_if_eq 72 rfl rfl (by unfold i32; omega) (fun c6 => ?_) (fun c6 => ?_)
            · refine eW_iinc 84 rfl rfl [(4, vI (t + 1)), (6, vI (m - t)), (5, vI (gDig G t)), (0, .ref v), (1, .ref g), (2, vI m), (3, vI (((b : Nat) : Int)))] rfl rfl rfl ?_
              refine eW_goto rfl ?_
              refine eW_re [(0, .ref v), (1, .ref g), (2, vI m), (3, vI (((b : Nat) : Int))), (4, vI (t + 1))] rfl rfl (List.forall_mem_cons.mpr ⟨rfl, List.forall_mem_cons.mpr ⟨rfl, List.forall_mem_cons.mpr ⟨rfl, List.forall_mem_cons.mpr ⟨rfl, List.forall_mem_cons.mpr ⟨rfl, fun _ h => absurd h List.not_mem_nil⟩⟩⟩⟩⟩) (List.forall_mem_cons.mpr ⟨Or.inl rfl, List.forall_mem_cons.mpr ⟨Or.inr ⟨_, rfl⟩, List.forall_mem_cons.mpr ⟨Or.inr ⟨_, rfl⟩, List.forall_mem_cons.mpr ⟨Or.inl rfl, List.forall_mem_cons.mpr ⟨Or.inl rfl, List.forall_mem_cons.mpr ⟨Or.inl rfl, List.forall_mem_cons.mpr ⟨Or.inl rfl, fun _ h => absurd h List.not_mem_nil⟩⟩⟩⟩⟩⟩⟩) ?_
              refine ih (b) (t + 1) (by omega) (by omega) ?_ (fun j hj => ?_) kk
              · repeat (first | exact q1 | exact hb2.1 | exact (by decide : 1 < 2 ^ 31) | exact gShl_lt (by omega) | apply Nat.or_lt_two_pow)
              · have e1 : (decide (m - t = 0) && decide (gDig G t % 2 = 1)) = false := eAndF (by omega)
                have e2 : (decide (0 < m - t) && decide (gDig G t / 2 % 2 = 1)) = false := eAndF (by omega)
                have e3 : decide (gDig G t / 4 % 2 = 1) = false := decide_eq_false (by omega)
                rw [show t + 1 - 1 = t by omega, gBts_succ q0.1, ← q2 j hj]
                unfold gBt
                rw [e1, e2, e3]
                simp only [Bool.true_and, Bool.false_and, Bool.or_false, Bool.false_or, Bool.or_assoc]
            · refine eW_iload_n 73 rfl rfl rfl ?_
              refine eW_aload_n 74 rfl rfl rfl ?_
              refine eW_iload 76 rfl rfl rfl ?_
              refine eW_callVX 79 (α := Nat) _ (fun b2 => vI (((b2 : Nat) : Int))) [.ref v, vI (m - t)] [vI (((b : Nat) : Int))] rfl rfl rfl rfl (Nat.ble_eq_true_of_le (by omega)) hv.1 rfl rfl rfl (v_spl (d := d) hv hV hN (by omega) (by omega) (fun i h1 h2 => hT i h1 (by omega))) (fun _ => rfl) (fun b2 hb2 => ?_)
              refine eW_ior 80 rfl rfl (((b ||| b2 : Nat) : Int)) (eOrN _ _) ?_
              refine eW_istore_n 81 rfl rfl [(3, vI (((b ||| b2 : Nat) : Int))), (6, vI (m - t)), (5, vI (gDig G t)), (0, .ref v), (1, .ref g), (2, vI m), (4, vI t)] rfl rfl ?_
              refine eW_iinc 84 rfl rfl [(4, vI (t + 1)), (3, vI (((b ||| b2 : Nat) : Int))), (6, vI (m - t)), (5, vI (gDig G t)), (0, .ref v), (1, .ref g), (2, vI m)] rfl rfl rfl ?_
              refine eW_goto rfl ?_
              refine eW_re [(0, .ref v), (1, .ref g), (2, vI m), (3, vI (((b ||| b2 : Nat) : Int))), (4, vI (t + 1))] rfl rfl (List.forall_mem_cons.mpr ⟨rfl, List.forall_mem_cons.mpr ⟨rfl, List.forall_mem_cons.mpr ⟨rfl, List.forall_mem_cons.mpr ⟨rfl, List.forall_mem_cons.mpr ⟨rfl, fun _ h => absurd h List.not_mem_nil⟩⟩⟩⟩⟩) (List.forall_mem_cons.mpr ⟨Or.inl rfl, List.forall_mem_cons.mpr ⟨Or.inl rfl, List.forall_mem_cons.mpr ⟨Or.inr ⟨_, rfl⟩, List.forall_mem_cons.mpr ⟨Or.inr ⟨_, rfl⟩, List.forall_mem_cons.mpr ⟨Or.inl rfl, List.forall_mem_cons.mpr ⟨Or.inl rfl, List.forall_mem_cons.mpr ⟨Or.inl rfl, fun _ h => absurd h List.not_mem_nil⟩⟩⟩⟩⟩⟩⟩) ?_
              refine ih (b ||| b2) (t + 1) (by omega) (by omega) ?_ (fun j hj => ?_) kk
              · repeat (first | exact q1 | exact hb2.1 | exact (by decide : 1 < 2 ^ 31) | exact gShl_lt (by omega) | apply Nat.or_lt_two_pow)
              · have e1 : (decide (m - t = 0) && decide (gDig G t % 2 = 1)) = false := eAndF (by omega)
                have e2 : (decide (0 < m - t) && decide (gDig G t / 2 % 2 = 1)) = false := eAndF (by omega)
                have e3 : decide (gDig G t / 4 % 2 = 1) = true := decide_eq_true (by omega)
                rw [show t + 1 - 1 = t by omega, gBts_succ q0.1, ← q2 j hj]
                rw [Nat.testBit_or, hb2.2 j hj]
                unfold gBt
                rw [e1, e2, e3]
                simp only [Bool.true_and, Bool.false_and, Bool.or_false, Bool.false_or, Bool.or_assoc]
          · refine eW_iload_n 55 rfl rfl rfl ?_
            refine eW_iconst 56 rfl rfl ?_
            refine eW_aload_n 57 rfl rfl rfl ?_
            refine eW_iload 59 rfl rfl rfl ?_
            have hlex7 := gVal_le (by omega) hV.2.1 (m - t)
            refine eW_callV 62 [.ref v, vI (m - t)] [vI 1, vI (((b : Nat) : Int))] [vI (gVal V.2.2.1 (m - t)), vI 1, vI (((b : Nat) : Int))] rfl rfl rfl rfl (Nat.ble_eq_true_of_le (by omega)) hv.1 rfl rfl rfl (v_ofBits (d := d + 1) hv hV hN (by unfold i32; omega)) rfl rfl ?_
            refine eW_ishl 63 rfl rfl (((1 <<< (gVal V.2.2.1 (m - t)).toNat : Nat) : Int)) (gShl (by omega)) ?_
            refine eW_ior 64 rfl rfl (((b ||| 1 <<< (gVal V.2.2.1 (m - t)).toNat : Nat) : Int)) (eOrN _ _) ?_
            refine eW_istore_n 65 rfl rfl [(3, vI (((b ||| 1 <<< (gVal V.2.2.1 (m - t)).toNat : Nat) : Int))), (6, vI (m - t)), (5, vI (gDig G t)), (0, .ref v), (1, .ref g), (2, vI m), (4, vI t)] rfl rfl ?_
            refine eW_iload 67 rfl rfl rfl ?_
            refine eW_iconst 68 rfl rfl ?_
            refine eW_iand 69 rfl rfl ((gDig G t) / 4 % 2 * 4) (eAnd4 (gDig_le hG t).1 (gDig_le hG t).2) ?_
            refine eW_if_eq 72 rfl rfl (by unfold i32; omega) (fun c8 => ?_) (fun c8 => ?_)
            · refine eW_iinc 84 rfl rfl [(4, vI (t + 1)), (3, vI (((b ||| 1 <<< (gVal V.2.2.1 (m - t)).toNat : Nat) : Int))), (6, vI (m - t)), (5, vI (gDig G t)), (0, .ref v), (1, .ref g), (2, vI m)] rfl rfl rfl ?_
              refine eW_goto rfl ?_
              refine eW_re [(0, .ref v), (1, .ref g), (2, vI m), (3, vI (((b ||| 1 <<< (gVal V.2.2.1 (m - t)).toNat : Nat) : Int))), (4, vI (t + 1))] rfl rfl (List.forall_mem_cons.mpr ⟨rfl, List.forall_mem_cons.mpr ⟨rfl, List.forall_mem_cons.mpr ⟨rfl, List.forall_mem_cons.mpr ⟨rfl, List.forall_mem_cons.mpr ⟨rfl, fun _ h => absurd h List.not_mem_nil⟩⟩⟩⟩⟩) (List.forall_mem_cons.mpr ⟨Or.inl rfl, List.forall_mem_cons.mpr ⟨Or.inl rfl, List.forall_mem_cons.mpr ⟨Or.inr ⟨_, rfl⟩, List.forall_mem_cons.mpr ⟨Or.inr ⟨_, rfl⟩, List.forall_mem_cons.mpr ⟨Or.inl rfl, List.forall_mem_cons.mpr ⟨Or.inl rfl, List.forall_mem_cons.mpr ⟨Or.inl rfl, fun _ h => absurd h List.not_mem_nil⟩⟩⟩⟩⟩⟩⟩) ?_
              refine ih (b ||| 1 <<< (gVal V.2.2.1 (m - t)).toNat) (t + 1) (by omega) (by omega) ?_ (fun j hj => ?_) kk
              · repeat (first | exact q1 | exact hb2.1 | exact (by decide : 1 < 2 ^ 31) | exact gShl_lt (by omega) | apply Nat.or_lt_two_pow)
              · have e1 : (decide (m - t = 0) && decide (gDig G t % 2 = 1)) = false := eAndF (by omega)
                have e2 : (decide (0 < m - t) && decide (gDig G t / 2 % 2 = 1)) = true := eAndT (by omega)
                have e3 : decide (gDig G t / 4 % 2 = 1) = false := decide_eq_false (by omega)
                rw [show t + 1 - 1 = t by omega, gBts_succ q0.1, ← q2 j hj]
                rw [gBit_or (by omega)]
                unfold gBt
                rw [e1, e2, e3]
                simp only [Bool.true_and, Bool.false_and, Bool.or_false, Bool.false_or, Bool.or_assoc]
            · refine eW_iload_n 73 rfl rfl rfl ?_
              refine eW_aload_n 74 rfl rfl rfl ?_
              refine eW_iload 76 rfl rfl rfl ?_
              refine eW_callVX 79 (α := Nat) _ (fun b2 => vI (((b2 : Nat) : Int))) [.ref v, vI (m - t)] [vI (((b ||| 1 <<< (gVal V.2.2.1 (m - t)).toNat : Nat) : Int))] rfl rfl rfl rfl (Nat.ble_eq_true_of_le (by omega)) hv.1 rfl rfl rfl (v_spl (d := d) hv hV hN (by omega) (by omega) (fun i h1 h2 => hT i h1 (by omega))) (fun _ => rfl) (fun b2 hb2 => ?_)
              refine eW_ior 80 rfl rfl (((b ||| 1 <<< (gVal V.2.2.1 (m - t)).toNat ||| b2 : Nat) : Int)) (eOrN _ _) ?_
              refine eW_istore_n 81 rfl rfl [(3, vI (((b ||| 1 <<< (gVal V.2.2.1 (m - t)).toNat ||| b2 : Nat) : Int))), (6, vI (m - t)), (5, vI (gDig G t)), (0, .ref v), (1, .ref g), (2, vI m), (4, vI t)] rfl rfl ?_
              refine eW_iinc 84 rfl rfl [(4, vI (t + 1)), (3, vI (((b ||| 1 <<< (gVal V.2.2.1 (m - t)).toNat ||| b2 : Nat) : Int))), (6, vI (m - t)), (5, vI (gDig G t)), (0, .ref v), (1, .ref g), (2, vI m)] rfl rfl rfl ?_
              refine eW_goto rfl ?_
              refine eW_re [(0, .ref v), (1, .ref g), (2, vI m), (3, vI (((b ||| 1 <<< (gVal V.2.2.1 (m - t)).toNat ||| b2 : Nat) : Int))), (4, vI (t + 1))] rfl rfl (List.forall_mem_cons.mpr ⟨rfl, List.forall_mem_cons.mpr ⟨rfl, List.forall_mem_cons.mpr ⟨rfl, List.forall_mem_cons.mpr ⟨rfl, List.forall_mem_cons.mpr ⟨rfl, fun _ h => absurd h List.not_mem_nil⟩⟩⟩⟩⟩) (List.forall_mem_cons.mpr ⟨Or.inl rfl, List.forall_mem_cons.mpr ⟨Or.inl rfl, List.forall_mem_cons.mpr ⟨Or.inr ⟨_, rfl⟩, List.forall_mem_cons.mpr ⟨Or.inr ⟨_, rfl⟩, List.forall_mem_cons.mpr ⟨Or.inl rfl, List.forall_mem_cons.mpr ⟨Or.inl rfl, List.forall_mem_cons.mpr ⟨Or.inl rfl, fun _ h => absurd h List.not_mem_nil⟩⟩⟩⟩⟩⟩⟩) ?_
              refine ih (b ||| 1 <<< (gVal V.2.2.1 (m - t)).toNat ||| b2) (t + 1) (by omega) (by omega) ?_ (fun j hj => ?_) kk
              · repeat (first | exact q1 | exact hb2.1 | exact (by decide : 1 < 2 ^ 31) | exact gShl_lt (by omega) | apply Nat.or_lt_two_pow)
              · have e1 : (decide (m - t = 0) && decide (gDig G t % 2 = 1)) = false := eAndF (by omega)
                have e2 : (decide (0 < m - t) && decide (gDig G t / 2 % 2 = 1)) = true := eAndT (by omega)
                have e3 : decide (gDig G t / 4 % 2 = 1) = true := decide_eq_true (by omega)
                rw [show t + 1 - 1 = t by omega, gBts_succ q0.1, ← q2 j hj]
                rw [Nat.testBit_or, hb2.2 j hj]
                rw [gBit_or (by omega)]
                unfold gBt
                rw [e1, e2, e3]
                simp only [Bool.true_and, Bool.false_and, Bool.or_false, Bool.false_or, Bool.or_assoc]
      · refine eW_iload 33 rfl rfl rfl ?_
        refine eW_iconst 34 rfl rfl ?_
        refine eW_iand 35 rfl rfl ((gDig G t) % 2) (eAnd1 (gDig_le hG t).1 (gDig_le hG t).2) ?_
        refine eW_if_eq 38 rfl rfl (by unfold i32; omega) (fun c9 => ?_) (fun c9 => ?_)
        · refine eW_iload 44 rfl rfl rfl ?_
          refine eW_if_le 47 rfl rfl (by unfold i32; omega) (fun c10 => ?_) (fun c10 => ?_)
          · refine eW_iload 67 rfl rfl rfl ?_
            refine eW_iconst 68 rfl rfl ?_
            refine eW_iand 69 rfl rfl ((gDig G t) / 4 % 2 * 4) (eAnd4 (gDig_le hG t).1 (gDig_le hG t).2) ?_
            refine eW_if_eq 72 rfl rfl (by unfold i32; omega) (fun c11 => ?_) (fun c11 => ?_)
            · refine eW_iinc 84 rfl rfl [(4, vI (t + 1)), (6, vI (m - t)), (5, vI (gDig G t)), (0, .ref v), (1, .ref g), (2, vI m), (3, vI (((b : Nat) : Int)))] rfl rfl rfl ?_
              refine eW_goto rfl ?_
              refine eW_re [(0, .ref v), (1, .ref g), (2, vI m), (3, vI (((b : Nat) : Int))), (4, vI (t + 1))] rfl rfl (List.forall_mem_cons.mpr ⟨rfl, List.forall_mem_cons.mpr ⟨rfl, List.forall_mem_cons.mpr ⟨rfl, List.forall_mem_cons.mpr ⟨rfl, List.forall_mem_cons.mpr ⟨rfl, fun _ h => absurd h List.not_mem_nil⟩⟩⟩⟩⟩) (List.forall_mem_cons.mpr ⟨Or.inl rfl, List.forall_mem_cons.mpr ⟨Or.inr ⟨_, rfl⟩, List.forall_mem_cons.mpr ⟨Or.inr ⟨_, rfl⟩, List.forall_mem_cons.mpr ⟨Or.inl rfl, List.forall_mem_cons.mpr ⟨Or.inl rfl, List.forall_mem_cons.mpr ⟨Or.inl rfl, List.forall_mem_cons.mpr ⟨Or.inl rfl, fun _ h => absurd h List.not_mem_nil⟩⟩⟩⟩⟩⟩⟩) ?_
              refine ih (b) (t + 1) (by omega) (by omega) ?_ (fun j hj => ?_) kk
              · repeat (first | exact q1 | exact hb2.1 | exact (by decide : 1 < 2 ^ 31) | exact gShl_lt (by omega) | apply Nat.or_lt_two_pow)
              · have e1 : (decide (m - t = 0) && decide (gDig G t % 2 = 1)) = false := eAndF (by omega)
                have e2 : (decide (0 < m - t) && decide (gDig G t / 2 % 2 = 1)) = false := eAndF (by omega)
                have e3 : decide (gDig G t / 4 % 2 = 1) = false := decide_eq_false (by omega)
                rw [show t + 1 - 1 = t by omega, gBts_succ q0.1, ← q2 j hj]
                unfold gBt
                rw [e1, e2, e3]
                simp only [Bool.true_and, Bool.false_and, Bool.or_false, Bool.false_or, Bool.or_assoc]
            · refine eW_iload_n 73 rfl rfl rfl ?_
              refine eW_aload_n 74 rfl rfl rfl ?_
              refine eW_iload 76 rfl rfl rfl ?_
              refine eW_callVX 79 (α := Nat) _ (fun b2 => vI (((b2 : Nat) : Int))) [.ref v, vI (m - t)] [vI (((b : Nat) : Int))] rfl rfl rfl rfl (Nat.ble_eq_true_of_le (by omega)) hv.1 rfl rfl rfl (v_spl (d := d) hv hV hN (by omega) (by omega) (fun i h1 h2 => hT i h1 (by omega))) (fun _ => rfl) (fun b2 hb2 => ?_)
              refine eW_ior 80 rfl rfl (((b ||| b2 : Nat) : Int)) (eOrN _ _) ?_
              refine eW_istore_n 81 rfl rfl [(3, vI (((b ||| b2 : Nat) : Int))), (6, vI (m - t)), (5, vI (gDig G t)), (0, .ref v), (1, .ref g), (2, vI m), (4, vI t)] rfl rfl ?_
              refine eW_iinc 84 rfl rfl [(4, vI (t + 1)), (3, vI (((b ||| b2 : Nat) : Int))), (6, vI (m - t)), (5, vI (gDig G t)), (0, .ref v), (1, .ref g), (2, vI m)] rfl rfl rfl ?_
              refine eW_goto rfl ?_
              refine eW_re [(0, .ref v), (1, .ref g), (2, vI m), (3, vI (((b ||| b2 : Nat) : Int))), (4, vI (t + 1))] rfl rfl (List.forall_mem_cons.mpr ⟨rfl, List.forall_mem_cons.mpr ⟨rfl, List.forall_mem_cons.mpr ⟨rfl, List.forall_mem_cons.mpr ⟨rfl, List.forall_mem_cons.mpr ⟨rfl, fun _ h => absurd h List.not_mem_nil⟩⟩⟩⟩⟩) (List.forall_mem_cons.mpr ⟨Or.inl rfl, List.forall_mem_cons.mpr ⟨Or.inl rfl, List.forall_mem_cons.mpr ⟨Or.inr ⟨_, rfl⟩, List.forall_mem_cons.mpr ⟨Or.inr ⟨_, rfl⟩, List.forall_mem_cons.mpr ⟨Or.inl rfl, List.forall_mem_cons.mpr ⟨Or.inl rfl, List.forall_mem_cons.mpr ⟨Or.inl rfl, fun _ h => absurd h List.not_mem_nil⟩⟩⟩⟩⟩⟩⟩) ?_
              refine ih (b ||| b2) (t + 1) (by omega) (by omega) ?_ (fun j hj => ?_) kk
              · repeat (first | exact q1 | exact hb2.1 | exact (by decide : 1 < 2 ^ 31) | exact gShl_lt (by omega) | apply Nat.or_lt_two_pow)
              · have e1 : (decide (m - t = 0) && decide (gDig G t % 2 = 1)) = false := eAndF (by omega)
                have e2 : (decide (0 < m - t) && decide (gDig G t / 2 % 2 = 1)) = false := eAndF (by omega)
                have e3 : decide (gDig G t / 4 % 2 = 1) = true := decide_eq_true (by omega)
                rw [show t + 1 - 1 = t by omega, gBts_succ q0.1, ← q2 j hj]
                rw [Nat.testBit_or, hb2.2 j hj]
                unfold gBt
                rw [e1, e2, e3]
                simp only [Bool.true_and, Bool.false_and, Bool.or_false, Bool.false_or, Bool.or_assoc]
          · refine eW_iload 49 rfl rfl rfl ?_
            refine eW_iconst 50 rfl rfl ?_
            refine eW_iand 51 rfl rfl ((gDig G t) / 2 % 2 * 2) (eAnd2 (gDig_le hG t).1 (gDig_le hG t).2) ?_
            refine eW_if_eq 54 rfl rfl (by unfold i32; omega) (fun c12 => ?_) (fun c12 => ?_)
            · refine eW_iload 67 rfl rfl rfl ?_
              refine eW_iconst 68 rfl rfl ?_
              refine eW_iand 69 rfl rfl ((gDig G t) / 4 % 2 * 4) (eAnd4 (gDig_le hG t).1 (gDig_le hG t).2) ?_
              refine eW_if_eq 72 rfl rfl (by unfold i32; omega) (fun c13 => ?_) (fun c13 => ?_)
              · refine eW_iinc 84 rfl rfl [(4, vI (t + 1)), (6, vI (m - t)), (5, vI (gDig G t)), (0, .ref v), (1, .ref g), (2, vI m), (3, vI (((b : Nat) : Int)))] rfl rfl rfl ?_
                refine eW_goto rfl ?_
                refine eW_re [(0, .ref v), (1, .ref g), (2, vI m), (3, vI (((b : Nat) : Int))), (4, vI (t + 1))] rfl rfl (List.forall_mem_cons.mpr ⟨rfl, List.forall_mem_cons.mpr ⟨rfl, List.forall_mem_cons.mpr ⟨rfl, List.forall_mem_cons.mpr ⟨rfl, List.forall_mem_cons.mpr ⟨rfl, fun _ h => absurd h List.not_mem_nil⟩⟩⟩⟩⟩) (List.forall_mem_cons.mpr ⟨Or.inl rfl, List.forall_mem_cons.mpr ⟨Or.inr ⟨_, rfl⟩, List.forall_mem_cons.mpr ⟨Or.inr ⟨_, rfl⟩, List.forall_mem_cons.mpr ⟨Or.inl rfl, List.forall_mem_cons.mpr ⟨Or.inl rfl, List.forall_mem_cons.mpr ⟨Or.inl rfl, List.forall_mem_cons.mpr ⟨Or.inl rfl, fun _ h => absurd h List.not_mem_nil⟩⟩⟩⟩⟩⟩⟩) ?_
                refine ih (b) (t + 1) (by omega) (by omega) ?_ (fun j hj => ?_) kk
                · repeat (first | exact q1 | exact hb2.1 | exact (by decide : 1 < 2 ^ 31) | exact gShl_lt (by omega) | apply Nat.or_lt_two_pow)
                · have e1 : (decide (m - t = 0) && decide (gDig G t % 2 = 1)) = false := eAndF (by omega)
                  have e2 : (decide (0 < m - t) && decide (gDig G t / 2 % 2 = 1)) = false := eAndF (by omega)
                  have e3 : decide (gDig G t / 4 % 2 = 1) = false := decide_eq_false (by omega)
                  rw [show t + 1 - 1 = t by omega, gBts_succ q0.1, ← q2 j hj]
                  unfold gBt
                  rw [e1, e2, e3]
                  simp only [Bool.true_and, Bool.false_and, Bool.or_false, Bool.false_or, Bool.or_assoc]
              · refine eW_iload_n 73 rfl rfl rfl ?_
                refine eW_aload_n 74 rfl rfl rfl ?_
                refine eW_iload 76 rfl rfl rfl ?_
                refine eW_callVX 79 (α := Nat) _ (fun b2 => vI (((b2 : Nat) : Int))) [.ref v, vI (m - t)] [vI (((b : Nat) : Int))] rfl rfl rfl rfl (Nat.ble_eq_true_of_le (by omega)) hv.1 rfl rfl rfl (v_spl (d := d) hv hV hN (by omega) (by omega) (fun i h1 h2 => hT i h1 (by omega))) (fun _ => rfl) (fun b2 hb2 => ?_)
                refine eW_ior 80 rfl rfl (((b ||| b2 : Nat) : Int)) (eOrN _ _) ?_
                refine eW_istore_n 81 rfl rfl [(3, vI (((b ||| b2 : Nat) : Int))), (6, vI (m - t)), (5, vI (gDig G t)), (0, .ref v), (1, .ref g), (2, vI m), (4, vI t)] rfl rfl ?_
                refine eW_iinc 84 rfl rfl [(4, vI (t + 1)), (3, vI (((b ||| b2 : Nat) : Int))), (6, vI (m - t)), (5, vI (gDig G t)), (0, .ref v), (1, .ref g), (2, vI m)] rfl rfl rfl ?_
                refine eW_goto rfl ?_
                refine eW_re [(0, .ref v), (1, .ref g), (2, vI m), (3, vI (((b ||| b2 : Nat) : Int))), (4, vI (t + 1))] rfl rfl (List.forall_mem_cons.mpr ⟨rfl, List.forall_mem_cons.mpr ⟨rfl, List.forall_mem_cons.mpr ⟨rfl, List.forall_mem_cons.mpr ⟨rfl, List.forall_mem_cons.mpr ⟨rfl, fun _ h => absurd h List.not_mem_nil⟩⟩⟩⟩⟩) (List.forall_mem_cons.mpr ⟨Or.inl rfl, List.forall_mem_cons.mpr ⟨Or.inl rfl, List.forall_mem_cons.mpr ⟨Or.inr ⟨_, rfl⟩, List.forall_mem_cons.mpr ⟨Or.inr ⟨_, rfl⟩, List.forall_mem_cons.mpr ⟨Or.inl rfl, List.forall_mem_cons.mpr ⟨Or.inl rfl, List.forall_mem_cons.mpr ⟨Or.inl rfl, fun _ h => absurd h List.not_mem_nil⟩⟩⟩⟩⟩⟩⟩) ?_
                refine ih (b ||| b2) (t + 1) (by omega) (by omega) ?_ (fun j hj => ?_) kk
                · repeat (first | exact q1 | exact hb2.1 | exact (by decide : 1 < 2 ^ 31) | exact gShl_lt (by omega) | apply Nat.or_lt_two_pow)
                · have e1 : (decide (m - t = 0) && decide (gDig G t % 2 = 1)) = false := eAndF (by omega)
                  have e2 : (decide (0 < m - t) && decide (gDig G t / 2 % 2 = 1)) = false := eAndF (by omega)
                  have e3 : decide (gDig G t / 4 % 2 = 1) = true := decide_eq_true (by omega)
                  rw [show t + 1 - 1 = t by omega, gBts_succ q0.1, ← q2 j hj]
                  rw [Nat.testBit_or, hb2.2 j hj]
                  unfold gBt
                  rw [e1, e2, e3]
                  simp only [Bool.true_and, Bool.false_and, Bool.or_false, Bool.false_or, Bool.or_assoc]
            · refine eW_iload_n 55 rfl rfl rfl ?_
              refine eW_iconst 56 rfl rfl ?_
              refine eW_aload_n 57 rfl rfl rfl ?_
              refine eW_iload 59 rfl rfl rfl ?_
              have hlex14 := gVal_le (by omega) hV.2.1 (m - t)
              refine eW_callV 62 [.ref v, vI (m - t)] [vI 1, vI (((b : Nat) : Int))] [vI (gVal V.2.2.1 (m - t)), vI 1, vI (((b : Nat) : Int))] rfl rfl rfl rfl (Nat.ble_eq_true_of_le (by omega)) hv.1 rfl rfl rfl (v_ofBits (d := d + 1) hv hV hN (by unfold i32; omega)) rfl rfl ?_
              refine eW_ishl 63 rfl rfl (((1 <<< (gVal V.2.2.1 (m - t)).toNat : Nat) : Int)) (gShl (by omega)) ?_
              refine eW_ior 64 rfl rfl (((b ||| 1 <<< (gVal V.2.2.1 (m - t)).toNat : Nat) : Int)) (eOrN _ _) ?_
              refine eW_istore_n 65 rfl rfl [(3, vI (((b ||| 1 <<< (gVal V.2.2.1 (m - t)).toNat : Nat) : Int))), (6, vI (m - t)), (5, vI (gDig G t)), (0, .ref v), (1, .ref g), (2, vI m), (4, vI t)] rfl rfl ?_
              refine eW_iload 67 rfl rfl rfl ?_
              refine eW_iconst 68 rfl rfl ?_
              refine eW_iand 69 rfl rfl ((gDig G t) / 4 % 2 * 4) (eAnd4 (gDig_le hG t).1 (gDig_le hG t).2) ?_
              refine eW_if_eq 72 rfl rfl (by unfold i32; omega) (fun c15 => ?_) (fun c15 => ?_)
              · refine eW_iinc 84 rfl rfl [(4, vI (t + 1)), (3, vI (((b ||| 1 <<< (gVal V.2.2.1 (m - t)).toNat : Nat) : Int))), (6, vI (m - t)), (5, vI (gDig G t)), (0, .ref v), (1, .ref g), (2, vI m)] rfl rfl rfl ?_
                refine eW_goto rfl ?_
                refine eW_re [(0, .ref v), (1, .ref g), (2, vI m), (3, vI (((b ||| 1 <<< (gVal V.2.2.1 (m - t)).toNat : Nat) : Int))), (4, vI (t + 1))] rfl rfl (List.forall_mem_cons.mpr ⟨rfl, List.forall_mem_cons.mpr ⟨rfl, List.forall_mem_cons.mpr ⟨rfl, List.forall_mem_cons.mpr ⟨rfl, List.forall_mem_cons.mpr ⟨rfl, fun _ h => absurd h List.not_mem_nil⟩⟩⟩⟩⟩) (List.forall_mem_cons.mpr ⟨Or.inl rfl, List.forall_mem_cons.mpr ⟨Or.inl rfl, List.forall_mem_cons.mpr ⟨Or.inr ⟨_, rfl⟩, List.forall_mem_cons.mpr ⟨Or.inr ⟨_, rfl⟩, List.forall_mem_cons.mpr ⟨Or.inl rfl, List.forall_mem_cons.mpr ⟨Or.inl rfl, List.forall_mem_cons.mpr ⟨Or.inl rfl, fun _ h => absurd h List.not_mem_nil⟩⟩⟩⟩⟩⟩⟩) ?_
                refine ih (b ||| 1 <<< (gVal V.2.2.1 (m - t)).toNat) (t + 1) (by omega) (by omega) ?_ (fun j hj => ?_) kk
                · repeat (first | exact q1 | exact hb2.1 | exact (by decide : 1 < 2 ^ 31) | exact gShl_lt (by omega) | apply Nat.or_lt_two_pow)
                · have e1 : (decide (m - t = 0) && decide (gDig G t % 2 = 1)) = false := eAndF (by omega)
                  have e2 : (decide (0 < m - t) && decide (gDig G t / 2 % 2 = 1)) = true := eAndT (by omega)
                  have e3 : decide (gDig G t / 4 % 2 = 1) = false := decide_eq_false (by omega)
                  rw [show t + 1 - 1 = t by omega, gBts_succ q0.1, ← q2 j hj]
                  rw [gBit_or (by omega)]
                  unfold gBt
                  rw [e1, e2, e3]
                  simp only [Bool.true_and, Bool.false_and, Bool.or_false, Bool.false_or, Bool.or_assoc]
              · refine eW_iload_n 73 rfl rfl rfl ?_
                refine eW_aload_n 74 rfl rfl rfl ?_
                refine eW_iload 76 rfl rfl rfl ?_
                refine eW_callVX 79 (α := Nat) _ (fun b2 => vI (((b2 : Nat) : Int))) [.ref v, vI (m - t)] [vI (((b ||| 1 <<< (gVal V.2.2.1 (m - t)).toNat : Nat) : Int))] rfl rfl rfl rfl (Nat.ble_eq_true_of_le (by omega)) hv.1 rfl rfl rfl (v_spl (d := d) hv hV hN (by omega) (by omega) (fun i h1 h2 => hT i h1 (by omega))) (fun _ => rfl) (fun b2 hb2 => ?_)
                refine eW_ior 80 rfl rfl (((b ||| 1 <<< (gVal V.2.2.1 (m - t)).toNat ||| b2 : Nat) : Int)) (eOrN _ _) ?_
                refine eW_istore_n 81 rfl rfl [(3, vI (((b ||| 1 <<< (gVal V.2.2.1 (m - t)).toNat ||| b2 : Nat) : Int))), (6, vI (m - t)), (5, vI (gDig G t)), (0, .ref v), (1, .ref g), (2, vI m), (4, vI t)] rfl rfl ?_
                refine eW_iinc 84 rfl rfl [(4, vI (t + 1)), (3, vI (((b ||| 1 <<< (gVal V.2.2.1 (m - t)).toNat ||| b2 : Nat) : Int))), (6, vI (m - t)), (5, vI (gDig G t)), (0, .ref v), (1, .ref g), (2, vI m)] rfl rfl rfl ?_
                refine eW_goto rfl ?_
                refine eW_re [(0, .ref v), (1, .ref g), (2, vI m), (3, vI (((b ||| 1 <<< (gVal V.2.2.1 (m - t)).toNat ||| b2 : Nat) : Int))), (4, vI (t + 1))] rfl rfl (List.forall_mem_cons.mpr ⟨rfl, List.forall_mem_cons.mpr ⟨rfl, List.forall_mem_cons.mpr ⟨rfl, List.forall_mem_cons.mpr ⟨rfl, List.forall_mem_cons.mpr ⟨rfl, fun _ h => absurd h List.not_mem_nil⟩⟩⟩⟩⟩) (List.forall_mem_cons.mpr ⟨Or.inl rfl, List.forall_mem_cons.mpr ⟨Or.inl rfl, List.forall_mem_cons.mpr ⟨Or.inr ⟨_, rfl⟩, List.forall_mem_cons.mpr ⟨Or.inr ⟨_, rfl⟩, List.forall_mem_cons.mpr ⟨Or.inl rfl, List.forall_mem_cons.mpr ⟨Or.inl rfl, List.forall_mem_cons.mpr ⟨Or.inl rfl, fun _ h => absurd h List.not_mem_nil⟩⟩⟩⟩⟩⟩⟩) ?_
                refine ih (b ||| 1 <<< (gVal V.2.2.1 (m - t)).toNat ||| b2) (t + 1) (by omega) (by omega) ?_ (fun j hj => ?_) kk
                · repeat (first | exact q1 | exact hb2.1 | exact (by decide : 1 < 2 ^ 31) | exact gShl_lt (by omega) | apply Nat.or_lt_two_pow)
                · have e1 : (decide (m - t = 0) && decide (gDig G t % 2 = 1)) = false := eAndF (by omega)
                  have e2 : (decide (0 < m - t) && decide (gDig G t / 2 % 2 = 1)) = true := eAndT (by omega)
                  have e3 : decide (gDig G t / 4 % 2 = 1) = true := decide_eq_true (by omega)
                  rw [show t + 1 - 1 = t by omega, gBts_succ q0.1, ← q2 j hj]
                  rw [Nat.testBit_or, hb2.2 j hj]
                  rw [gBit_or (by omega)]
                  unfold gBt
                  rw [e1, e2, e3]
                  simp only [Bool.true_and, Bool.false_and, Bool.or_false, Bool.false_or, Bool.or_assoc]
        · refine eW_iload_n 39 rfl rfl rfl ?_
          refine eW_iconst 40 rfl rfl ?_
          refine eW_ior 41 rfl rfl (((b ||| 1 : Nat) : Int)) (eOrN _ _) ?_
          refine eW_istore_n 42 rfl rfl [(3, vI (((b ||| 1 : Nat) : Int))), (6, vI (m - t)), (5, vI (gDig G t)), (0, .ref v), (1, .ref g), (2, vI m), (4, vI t)] rfl rfl ?_
          refine eW_iload 44 rfl rfl rfl ?_
          refine eW_if_le 47 rfl rfl (by unfold i32; omega) (fun c16 => ?_) (fun c16 => ?_)
          · refine eW_iload 67 rfl rfl rfl ?_
            refine eW_iconst 68 rfl rfl ?_
            refine eW_iand 69 rfl rfl ((gDig G t) / 4 % 2 * 4) (eAnd4 (gDig_le hG t).1 (gDig_le hG t).2) ?_
            refine eW_if_eq 72 rfl rfl (by unfold i32; omega) (fun c17 => ?_) (fun c17 => ?_)
            · refine eW_iinc 84 rfl rfl [(4, vI (t + 1)), (3, vI (((b ||| 1 : Nat) : Int))), (6, vI (m - t)), (5, vI (gDig G t)), (0, .ref v), (1, .ref g), (2, vI m)] rfl rfl rfl ?_
              refine eW_goto rfl ?_
              refine eW_re [(0, .ref v), (1, .ref g), (2, vI m), (3, vI (((b ||| 1 : Nat) : Int))), (4, vI (t + 1))] rfl rfl (List.forall_mem_cons.mpr ⟨rfl, List.forall_mem_cons.mpr ⟨rfl, List.forall_mem_cons.mpr ⟨rfl, List.forall_mem_cons.mpr ⟨rfl, List.forall_mem_cons.mpr ⟨rfl, fun _ h => absurd h List.not_mem_nil⟩⟩⟩⟩⟩) (List.forall_mem_cons.mpr ⟨Or.inl rfl, List.forall_mem_cons.mpr ⟨Or.inl rfl, List.forall_mem_cons.mpr ⟨Or.inr ⟨_, rfl⟩, List.forall_mem_cons.mpr ⟨Or.inr ⟨_, rfl⟩, List.forall_mem_cons.mpr ⟨Or.inl rfl, List.forall_mem_cons.mpr ⟨Or.inl rfl, List.forall_mem_cons.mpr ⟨Or.inl rfl, fun _ h => absurd h List.not_mem_nil⟩⟩⟩⟩⟩⟩⟩) ?_
              refine ih (b ||| 1) (t + 1) (by omega) (by omega) ?_ (fun j hj => ?_) kk
              · repeat (first | exact q1 | exact hb2.1 | exact (by decide : 1 < 2 ^ 31) | exact gShl_lt (by omega) | apply Nat.or_lt_two_pow)
              · have e1 : (decide (m - t = 0) && decide (gDig G t % 2 = 1)) = true := eAndT (by omega)
                have e2 : (decide (0 < m - t) && decide (gDig G t / 2 % 2 = 1)) = false := eAndF (by omega)
                have e3 : decide (gDig G t / 4 % 2 = 1) = false := decide_eq_false (by omega)
                rw [show t + 1 - 1 = t by omega, gBts_succ q0.1, ← q2 j hj]
                rw [gBit1]
                unfold gBt
                rw [e1, e2, e3]
                simp only [Bool.true_and, Bool.false_and, Bool.or_false, Bool.false_or, Bool.or_assoc]
            · refine eW_iload_n 73 rfl rfl rfl ?_
              refine eW_aload_n 74 rfl rfl rfl ?_
              refine eW_iload 76 rfl rfl rfl ?_
              refine eW_callVX 79 (α := Nat) _ (fun b2 => vI (((b2 : Nat) : Int))) [.ref v, vI (m - t)] [vI (((b ||| 1 : Nat) : Int))] rfl rfl rfl rfl (Nat.ble_eq_true_of_le (by omega)) hv.1 rfl rfl rfl (v_spl (d := d) hv hV hN (by omega) (by omega) (fun i h1 h2 => hT i h1 (by omega))) (fun _ => rfl) (fun b2 hb2 => ?_)
              refine eW_ior 80 rfl rfl (((b ||| 1 ||| b2 : Nat) : Int)) (eOrN _ _) ?_
              refine eW_istore_n 81 rfl rfl [(3, vI (((b ||| 1 ||| b2 : Nat) : Int))), (6, vI (m - t)), (5, vI (gDig G t)), (0, .ref v), (1, .ref g), (2, vI m), (4, vI t)] rfl rfl ?_
              refine eW_iinc 84 rfl rfl [(4, vI (t + 1)), (3, vI (((b ||| 1 ||| b2 : Nat) : Int))), (6, vI (m - t)), (5, vI (gDig G t)), (0, .ref v), (1, .ref g), (2, vI m)] rfl rfl rfl ?_
              refine eW_goto rfl ?_
              refine eW_re [(0, .ref v), (1, .ref g), (2, vI m), (3, vI (((b ||| 1 ||| b2 : Nat) : Int))), (4, vI (t + 1))] rfl rfl (List.forall_mem_cons.mpr ⟨rfl, List.forall_mem_cons.mpr ⟨rfl, List.forall_mem_cons.mpr ⟨rfl, List.forall_mem_cons.mpr ⟨rfl, List.forall_mem_cons.mpr ⟨rfl, fun _ h => absurd h List.not_mem_nil⟩⟩⟩⟩⟩) (List.forall_mem_cons.mpr ⟨Or.inl rfl, List.forall_mem_cons.mpr ⟨Or.inl rfl, List.forall_mem_cons.mpr ⟨Or.inr ⟨_, rfl⟩, List.forall_mem_cons.mpr ⟨Or.inr ⟨_, rfl⟩, List.forall_mem_cons.mpr ⟨Or.inl rfl, List.forall_mem_cons.mpr ⟨Or.inl rfl, List.forall_mem_cons.mpr ⟨Or.inl rfl, fun _ h => absurd h List.not_mem_nil⟩⟩⟩⟩⟩⟩⟩) ?_
              refine ih (b ||| 1 ||| b2) (t + 1) (by omega) (by omega) ?_ (fun j hj => ?_) kk
              · repeat (first | exact q1 | exact hb2.1 | exact (by decide : 1 < 2 ^ 31) | exact gShl_lt (by omega) | apply Nat.or_lt_two_pow)
              · have e1 : (decide (m - t = 0) && decide (gDig G t % 2 = 1)) = true := eAndT (by omega)
                have e2 : (decide (0 < m - t) && decide (gDig G t / 2 % 2 = 1)) = false := eAndF (by omega)
                have e3 : decide (gDig G t / 4 % 2 = 1) = true := decide_eq_true (by omega)
                rw [show t + 1 - 1 = t by omega, gBts_succ q0.1, ← q2 j hj]
                rw [Nat.testBit_or, hb2.2 j hj]
                rw [gBit1]
                unfold gBt
                rw [e1, e2, e3]
                simp only [Bool.true_and, Bool.false_and, Bool.or_false, Bool.false_or, Bool.or_assoc]
          · refine eW_iload 49 rfl rfl rfl ?_
            refine eW_iconst 50 rfl rfl ?_
            refine eW_iand 51 rfl rfl ((gDig G t) / 2 % 2 * 2) (eAnd2 (gDig_le hG t).1 (gDig_le hG t).2) ?_
            refine eW_if_eq 54 rfl rfl (by unfold i32; omega) (fun c18 => ?_) (fun c18 => ?_)
            · refine eW_iload 67 rfl rfl rfl ?_
              refine eW_iconst 68 rfl rfl ?_
              refine eW_iand 69 rfl rfl ((gDig G t) / 4 % 2 * 4) (eAnd4 (gDig_le hG t).1 (gDig_le hG t).2) ?_
              refine eW_if_eq 72 rfl rfl (by unfold i32; omega) (fun c19 => ?_) (fun c19 => ?_)
              · refine eW_iinc 84 rfl rfl [(4, vI (t + 1)), (3, vI (((b ||| 1 : Nat) : Int))), (6, vI (m - t)), (5, vI (gDig G t)), (0, .ref v), (1, .ref g), (2, vI m)] rfl rfl rfl ?_
                refine eW_goto rfl ?_
                refine eW_re [(0, .ref v), (1, .ref g), (2, vI m), (3, vI (((b ||| 1 : Nat) : Int))), (4, vI (t + 1))] rfl rfl (List.forall_mem_cons.mpr ⟨rfl, List.forall_mem_cons.mpr ⟨rfl, List.forall_mem_cons.mpr ⟨rfl, List.forall_mem_cons.mpr ⟨rfl, List.forall_mem_cons.mpr ⟨rfl, fun _ h => absurd h List.not_mem_nil⟩⟩⟩⟩⟩) (List.forall_mem_cons.mpr ⟨Or.inl rfl, List.forall_mem_cons.mpr ⟨Or.inl rfl, List.forall_mem_cons.mpr ⟨Or.inr ⟨_, rfl⟩, List.forall_mem_cons.mpr ⟨Or.inr ⟨_, rfl⟩, List.forall_mem_cons.mpr ⟨Or.inl rfl, List.forall_mem_cons.mpr ⟨Or.inl rfl, List.forall_mem_cons.mpr ⟨Or.inl rfl, fun _ h => absurd h List.not_mem_nil⟩⟩⟩⟩⟩⟩⟩) ?_
                refine ih (b ||| 1) (t + 1) (by omega) (by omega) ?_ (fun j hj => ?_) kk
                · repeat (first | exact q1 | exact hb2.1 | exact (by decide : 1 < 2 ^ 31) | exact gShl_lt (by omega) | apply Nat.or_lt_two_pow)
                · have e1 : (decide (m - t = 0) && decide (gDig G t % 2 = 1)) = true := eAndT (by omega)
                  have e2 : (decide (0 < m - t) && decide (gDig G t / 2 % 2 = 1)) = false := eAndF (by omega)
                  have e3 : decide (gDig G t / 4 % 2 = 1) = false := decide_eq_false (by omega)
                  rw [show t + 1 - 1 = t by omega, gBts_succ q0.1, ← q2 j hj]
                  rw [gBit1]
                  unfold gBt
                  rw [e1, e2, e3]
                  simp only [Bool.true_and, Bool.false_and, Bool.or_false, Bool.false_or, Bool.or_assoc]
              · refine eW_iload_n 73 rfl rfl rfl ?_
                refine eW_aload_n 74 rfl rfl rfl ?_
                refine eW_iload 76 rfl rfl rfl ?_
                refine eW_callVX 79 (α := Nat) _ (fun b2 => vI (((b2 : Nat) : Int))) [.ref v, vI (m - t)] [vI (((b ||| 1 : Nat) : Int))] rfl rfl rfl rfl (Nat.ble_eq_true_of_le (by omega)) hv.1 rfl rfl rfl (v_spl (d := d) hv hV hN (by omega) (by omega) (fun i h1 h2 => hT i h1 (by omega))) (fun _ => rfl) (fun b2 hb2 => ?_)
                refine eW_ior 80 rfl rfl (((b ||| 1 ||| b2 : Nat) : Int)) (eOrN _ _) ?_
                refine eW_istore_n 81 rfl rfl [(3, vI (((b ||| 1 ||| b2 : Nat) : Int))), (6, vI (m - t)), (5, vI (gDig G t)), (0, .ref v), (1, .ref g), (2, vI m), (4, vI t)] rfl rfl ?_
                refine eW_iinc 84 rfl rfl [(4, vI (t + 1)), (3, vI (((b ||| 1 ||| b2 : Nat) : Int))), (6, vI (m - t)), (5, vI (gDig G t)), (0, .ref v), (1, .ref g), (2, vI m)] rfl rfl rfl ?_
                refine eW_goto rfl ?_
                refine eW_re [(0, .ref v), (1, .ref g), (2, vI m), (3, vI (((b ||| 1 ||| b2 : Nat) : Int))), (4, vI (t + 1))] rfl rfl (List.forall_mem_cons.mpr ⟨rfl, List.forall_mem_cons.mpr ⟨rfl, List.forall_mem_cons.mpr ⟨rfl, List.forall_mem_cons.mpr ⟨rfl, List.forall_mem_cons.mpr ⟨rfl, fun _ h => absurd h List.not_mem_nil⟩⟩⟩⟩⟩) (List.forall_mem_cons.mpr ⟨Or.inl rfl, List.forall_mem_cons.mpr ⟨Or.inl rfl, List.forall_mem_cons.mpr ⟨Or.inr ⟨_, rfl⟩, List.forall_mem_cons.mpr ⟨Or.inr ⟨_, rfl⟩, List.forall_mem_cons.mpr ⟨Or.inl rfl, List.forall_mem_cons.mpr ⟨Or.inl rfl, List.forall_mem_cons.mpr ⟨Or.inl rfl, fun _ h => absurd h List.not_mem_nil⟩⟩⟩⟩⟩⟩⟩) ?_
                refine ih (b ||| 1 ||| b2) (t + 1) (by omega) (by omega) ?_ (fun j hj => ?_) kk
                · repeat (first | exact q1 | exact hb2.1 | exact (by decide : 1 < 2 ^ 31) | exact gShl_lt (by omega) | apply Nat.or_lt_two_pow)
                · have e1 : (decide (m - t = 0) && decide (gDig G t % 2 = 1)) = true := eAndT (by omega)
                  have e2 : (decide (0 < m - t) && decide (gDig G t / 2 % 2 = 1)) = false := eAndF (by omega)
                  have e3 : decide (gDig G t / 4 % 2 = 1) = true := decide_eq_true (by omega)
                  rw [show t + 1 - 1 = t by omega, gBts_succ q0.1, ← q2 j hj]
                  rw [Nat.testBit_or, hb2.2 j hj]
                  rw [gBit1]
                  unfold gBt
                  rw [e1, e2, e3]
                  simp only [Bool.true_and, Bool.false_and, Bool.or_false, Bool.false_or, Bool.or_assoc]
            · refine eW_iload_n 55 rfl rfl rfl ?_
              refine eW_iconst 56 rfl rfl ?_
              refine eW_aload_n 57 rfl rfl rfl ?_
              refine eW_iload 59 rfl rfl rfl ?_
              have hlex20 := gVal_le (by omega) hV.2.1 (m - t)
              refine eW_callV 62 [.ref v, vI (m - t)] [vI 1, vI (((b ||| 1 : Nat) : Int))] [vI (gVal V.2.2.1 (m - t)), vI 1, vI (((b ||| 1 : Nat) : Int))] rfl rfl rfl rfl (Nat.ble_eq_true_of_le (by omega)) hv.1 rfl rfl rfl (v_ofBits (d := d + 1) hv hV hN (by unfold i32; omega)) rfl rfl ?_
              refine eW_ishl 63 rfl rfl (((1 <<< (gVal V.2.2.1 (m - t)).toNat : Nat) : Int)) (gShl (by omega)) ?_
              refine eW_ior 64 rfl rfl (((b ||| 1 ||| 1 <<< (gVal V.2.2.1 (m - t)).toNat : Nat) : Int)) (eOrN _ _) ?_
              refine eW_istore_n 65 rfl rfl [(3, vI (((b ||| 1 ||| 1 <<< (gVal V.2.2.1 (m - t)).toNat : Nat) : Int))), (6, vI (m - t)), (5, vI (gDig G t)), (0, .ref v), (1, .ref g), (2, vI m), (4, vI t)] rfl rfl ?_
              refine eW_iload 67 rfl rfl rfl ?_
              refine eW_iconst 68 rfl rfl ?_
              refine eW_iand 69 rfl rfl ((gDig G t) / 4 % 2 * 4) (eAnd4 (gDig_le hG t).1 (gDig_le hG t).2) ?_
              refine eW_if_eq 72 rfl rfl (by unfold i32; omega) (fun c21 => ?_) (fun c21 => ?_)
              · refine eW_iinc 84 rfl rfl [(4, vI (t + 1)), (3, vI (((b ||| 1 ||| 1 <<< (gVal V.2.2.1 (m - t)).toNat : Nat) : Int))), (6, vI (m - t)), (5, vI (gDig G t)), (0, .ref v), (1, .ref g), (2, vI m)] rfl rfl rfl ?_
                refine eW_goto rfl ?_
                refine eW_re [(0, .ref v), (1, .ref g), (2, vI m), (3, vI (((b ||| 1 ||| 1 <<< (gVal V.2.2.1 (m - t)).toNat : Nat) : Int))), (4, vI (t + 1))] rfl rfl (List.forall_mem_cons.mpr ⟨rfl, List.forall_mem_cons.mpr ⟨rfl, List.forall_mem_cons.mpr ⟨rfl, List.forall_mem_cons.mpr ⟨rfl, List.forall_mem_cons.mpr ⟨rfl, fun _ h => absurd h List.not_mem_nil⟩⟩⟩⟩⟩) (List.forall_mem_cons.mpr ⟨Or.inl rfl, List.forall_mem_cons.mpr ⟨Or.inl rfl, List.forall_mem_cons.mpr ⟨Or.inr ⟨_, rfl⟩, List.forall_mem_cons.mpr ⟨Or.inr ⟨_, rfl⟩, List.forall_mem_cons.mpr ⟨Or.inl rfl, List.forall_mem_cons.mpr ⟨Or.inl rfl, List.forall_mem_cons.mpr ⟨Or.inl rfl, fun _ h => absurd h List.not_mem_nil⟩⟩⟩⟩⟩⟩⟩) ?_
                refine ih (b ||| 1 ||| 1 <<< (gVal V.2.2.1 (m - t)).toNat) (t + 1) (by omega) (by omega) ?_ (fun j hj => ?_) kk
                · repeat (first | exact q1 | exact hb2.1 | exact (by decide : 1 < 2 ^ 31) | exact gShl_lt (by omega) | apply Nat.or_lt_two_pow)
                · have e1 : (decide (m - t = 0) && decide (gDig G t % 2 = 1)) = true := eAndT (by omega)
                  have e2 : (decide (0 < m - t) && decide (gDig G t / 2 % 2 = 1)) = true := eAndT (by omega)
                  have e3 : decide (gDig G t / 4 % 2 = 1) = false := decide_eq_false (by omega)
                  rw [show t + 1 - 1 = t by omega, gBts_succ q0.1, ← q2 j hj]
                  rw [gBit_or (by omega)]
                  rw [gBit1]
                  unfold gBt
                  rw [e1, e2, e3]
                  simp only [Bool.true_and, Bool.false_and, Bool.or_false, Bool.false_or, Bool.or_assoc]
              · refine eW_iload_n 73 rfl rfl rfl ?_
                refine eW_aload_n 74 rfl rfl rfl ?_
                refine eW_iload 76 rfl rfl rfl ?_
                refine eW_callVX 79 (α := Nat) _ (fun b2 => vI (((b2 : Nat) : Int))) [.ref v, vI (m - t)] [vI (((b ||| 1 ||| 1 <<< (gVal V.2.2.1 (m - t)).toNat : Nat) : Int))] rfl rfl rfl rfl (Nat.ble_eq_true_of_le (by omega)) hv.1 rfl rfl rfl (v_spl (d := d) hv hV hN (by omega) (by omega) (fun i h1 h2 => hT i h1 (by omega))) (fun _ => rfl) (fun b2 hb2 => ?_)
                refine eW_ior 80 rfl rfl (((b ||| 1 ||| 1 <<< (gVal V.2.2.1 (m - t)).toNat ||| b2 : Nat) : Int)) (eOrN _ _) ?_
                refine eW_istore_n 81 rfl rfl [(3, vI (((b ||| 1 ||| 1 <<< (gVal V.2.2.1 (m - t)).toNat ||| b2 : Nat) : Int))), (6, vI (m - t)), (5, vI (gDig G t)), (0, .ref v), (1, .ref g), (2, vI m), (4, vI t)] rfl rfl ?_
                refine eW_iinc 84 rfl rfl [(4, vI (t + 1)), (3, vI (((b ||| 1 ||| 1 <<< (gVal V.2.2.1 (m - t)).toNat ||| b2 : Nat) : Int))), (6, vI (m - t)), (5, vI (gDig G t)), (0, .ref v), (1, .ref g), (2, vI m)] rfl rfl rfl ?_
                refine eW_goto rfl ?_
                refine eW_re [(0, .ref v), (1, .ref g), (2, vI m), (3, vI (((b ||| 1 ||| 1 <<< (gVal V.2.2.1 (m - t)).toNat ||| b2 : Nat) : Int))), (4, vI (t + 1))] rfl rfl (List.forall_mem_cons.mpr ⟨rfl, List.forall_mem_cons.mpr ⟨rfl, List.forall_mem_cons.mpr ⟨rfl, List.forall_mem_cons.mpr ⟨rfl, List.forall_mem_cons.mpr ⟨rfl, fun _ h => absurd h List.not_mem_nil⟩⟩⟩⟩⟩) (List.forall_mem_cons.mpr ⟨Or.inl rfl, List.forall_mem_cons.mpr ⟨Or.inl rfl, List.forall_mem_cons.mpr ⟨Or.inr ⟨_, rfl⟩, List.forall_mem_cons.mpr ⟨Or.inr ⟨_, rfl⟩, List.forall_mem_cons.mpr ⟨Or.inl rfl, List.forall_mem_cons.mpr ⟨Or.inl rfl, List.forall_mem_cons.mpr ⟨Or.inl rfl, fun _ h => absurd h List.not_mem_nil⟩⟩⟩⟩⟩⟩⟩) ?_
                refine ih (b ||| 1 ||| 1 <<< (gVal V.2.2.1 (m - t)).toNat ||| b2) (t + 1) (by omega) (by omega) ?_ (fun j hj => ?_) kk
                · repeat (first | exact q1 | exact hb2.1 | exact (by decide : 1 < 2 ^ 31) | exact gShl_lt (by omega) | apply Nat.or_lt_two_pow)
                · have e1 : (decide (m - t = 0) && decide (gDig G t % 2 = 1)) = true := eAndT (by omega)
                  have e2 : (decide (0 < m - t) && decide (gDig G t / 2 % 2 = 1)) = true := eAndT (by omega)
                  have e3 : decide (gDig G t / 4 % 2 = 1) = true := decide_eq_true (by omega)
                  rw [show t + 1 - 1 = t by omega, gBts_succ q0.1, ← q2 j hj]
                  rw [Nat.testBit_or, hb2.2 j hj]
                  rw [gBit_or (by omega)]
                  rw [gBit1]
                  unfold gBt
                  rw [e1, e2, e3]
                  simp only [Bool.true_and, Bool.false_and, Bool.or_false, Bool.false_or, Bool.or_assoc]
theorem v_bits {d N : Nat} {h : eHp} {v : Nat} {V : eVs} {g : Nat} {G : eGd} (hv : gV h v V) (hV : gVO V) (hN : v + 6 ≤ N) (hg : gG h g G) (hG : gOk G) (hN2 : g + 4 ≤ N) {m : Int} (hm2 : 0 ≤ m ∧ m ≤ 30) (hT : ∀ i : Int, 0 ≤ i → i < m → gVal V.2.2.1 i ≤ i) : eSp (d + 4) eM_X5_bitsOf [.ref v, .ref g, vI m] N h (fun q => ∃ b : Nat, (b < 2 ^ 31 ∧ ∀ j : Nat, j < 31 → b.testBit j = gBts (gDig G) (gVal V.2.2.1) m j 6) ∧ eRet (some (vI ((b : Nat) : Int))) N h q) := by
  refine eSp_of [(0, .ref v), (1, .ref g), (2, vI m)] rfl rfl ?_
  refine eW_iconst 1 rfl rfl ?_
  refine eW_istore_n 2 rfl rfl [(3, vI 0), (0, .ref v), (1, .ref g), (2, vI m)] rfl rfl ?_
  refine eW_iconst 3 rfl rfl ?_
  refine eW_istore 5 rfl rfl [(4, vI 1), (3, vI 0), (0, .ref v), (1, .ref g), (2, vI m)] rfl rfl ?_
  refine eW_re [(0, .ref v), (1, .ref g), (2, vI m), (3, vI 0), (4, vI 1)] rfl rfl (List.forall_mem_cons.mpr ⟨rfl, List.forall_mem_cons.mpr ⟨rfl, List.forall_mem_cons.mpr ⟨rfl, List.forall_mem_cons.mpr ⟨rfl, List.forall_mem_cons.mpr ⟨rfl, fun _ h => absurd h List.not_mem_nil⟩⟩⟩⟩⟩) (List.forall_mem_cons.mpr ⟨Or.inl rfl, List.forall_mem_cons.mpr ⟨Or.inl rfl, List.forall_mem_cons.mpr ⟨Or.inl rfl, List.forall_mem_cons.mpr ⟨Or.inl rfl, List.forall_mem_cons.mpr ⟨Or.inl rfl, fun _ h => absurd h List.not_mem_nil⟩⟩⟩⟩⟩) ?_
  refine v_bits_l hv hV hN hg hG hN2 hm2 hT _ 0 1 (Int.self_le_toNat _) (by omega) (by decide) (fun j hj => by simp [gBts]) (fun b q1 q2 => ?_)
  refine eW_iload_n 88 rfl rfl rfl ?_
  refine eW_ret_i rfl rfl (Or.inl rfl) ?_
  exact ⟨b, ⟨q1, q2⟩, rfl⟩
