theorem eCharN (a : Nat) (h : a < 65536) : vp_nar .char (Int32.ofInt (a : Int)) = Int32.ofInt (a : Int) := by
  rw [← Int32.toBitVec_inj]
  apply BitVec.eq_of_toNat_eq
  have hb : (Int32.ofInt (a : Int)).toBitVec.toNat = a := by rw [Int32.toBitVec_ofInt, BitVec.ofInt_natCast, BitVec.toNat_ofNat]; omega
  rw [hb]
  show ((Int32.ofInt (a : Int)).toUInt32.toUInt16.toUInt32.toInt32).toBitVec.toNat = a
  show ((Int32.ofInt (a : Int)).toUInt32.toUInt16.toUInt32).toNat = a
  rw [UInt16.toNat_toUInt32, UInt32.toNat_toUInt16]
  show (Int32.ofInt (a : Int)).toBitVec.toNat % 65536 = a
  rw [hb]; omega
/-! the text at the name t: signs, kinds, numbers; length, position, orders -/
abbrev eTx : Type := (Nat → Int) × (Nat → Int) × (Nat → Int) × Int × Int × Int
def gT (h : eHp) (t : Nat) (T : eTx) : Prop := h t = .inr (7, [.ref (t + 1), .ref (t + 2), .ref (t + 3), vI T.2.2.2.1, vI T.2.2.2.2.1, vI T.2.2.2.2.2]) ∧ h (t + 1) = .inl (1, 60, .inl (eIA T.1)) ∧ h (t + 2) = .inl (1, 30, .inl (eIA T.2.1)) ∧ h (t + 3) = .inl (0, 90, .inl (eIA T.2.2.1))
/-- what a text may hold -/
def gTO (T : eTx) : Prop := (0 ≤ T.2.2.2.1 ∧ T.2.2.2.1 ≤ 60) ∧ (0 ≤ T.2.2.2.2.1 ∧ T.2.2.2.2.1 ≤ 60) ∧ (0 ≤ T.2.2.2.2.2 ∧ T.2.2.2.2.2 ≤ 30) ∧ (∀ i, i < 60 → 0 ≤ T.1 i ∧ T.1 i ≤ 65535) ∧ (∀ i, i < 30 → 0 ≤ T.2.1 i ∧ T.2.1 i ≤ 65535) ∧ (∀ i, i < 90 → -1 ≤ T.2.2.1 i ∧ T.2.2.1 i ≤ 99)
theorem gT_o {h h' : eHp} {t : Nat} {T T' : eTx} (hg : gT h t T) (e : h' t = .inr (7, [.ref (t + 1), .ref (t + 2), .ref (t + 3), vI T'.2.2.2.1, vI T'.2.2.2.2.1, vI T'.2.2.2.2.2])) (o : ∀ i, i ≠ t → h' i = h i) (e1 : T'.1 = T.1) (e2 : T'.2.1 = T.2.1) (e3 : T'.2.2.1 = T.2.2.1) : gT h' t T' :=
  ⟨e, by rw [o _ (by omega), e1]; exact hg.2.1, by rw [o _ (by omega), e2]; exact hg.2.2.1, by rw [o _ (by omega), e3]; exact hg.2.2.2⟩
theorem gT_0 {h h' : eHp} {t : Nat} {T : eTx} {F : Nat → Int} (hg : gT h t T) (e : h' (t + 1) = .inl (1, 60, .inl (eIA F))) (o : ∀ i, i ≠ t + 1 → h' i = h i) : gT h' t (F, T.2) :=
  ⟨by rw [o _ (by omega)]; exact hg.1, e, by rw [o _ (by omega)]; exact hg.2.2.1, by rw [o _ (by omega)]; exact hg.2.2.2⟩
theorem gT_1 {h h' : eHp} {t : Nat} {T : eTx} {F : Nat → Int} (hg : gT h t T) (e : h' (t + 2) = .inl (1, 30, .inl (eIA F))) (o : ∀ i, i ≠ t + 2 → h' i = h i) : gT h' t (T.1, F, T.2.2) :=
  ⟨by rw [o _ (by omega)]; exact hg.1, by rw [o _ (by omega)]; exact hg.2.1, e, by rw [o _ (by omega)]; exact hg.2.2.2⟩
theorem gT_2 {h h' : eHp} {t : Nat} {T : eTx} {F : Nat → Int} (hg : gT h t T) (e : h' (t + 3) = .inl (0, 90, .inl (eIA F))) (o : ∀ i, i ≠ t + 3 → h' i = h i) : gT h' t (T.1, T.2.1, F, T.2.2.2) :=
  ⟨by rw [o _ (by omega)]; exact hg.1, by rw [o _ (by omega)]; exact hg.2.1, by rw [o _ (by omega)]; exact hg.2.2.1, e⟩
theorem gT_k {h h' : eHp} {t : Nat} {T : eTx} (hg : gT h t T) (o : ∀ i, t ≤ i → i ≤ t + 3 → h' i = h i) : gT h' t T :=
  ⟨by rw [o _ (by omega) (by omega)]; exact hg.1, by rw [o _ (by omega) (by omega)]; exact hg.2.1, by rw [o _ (by omega) (by omega)]; exact hg.2.2.1, by rw [o _ (by omega) (by omega)]; exact hg.2.2.2⟩
theorem tx_char {x : Int} (h : 0 ≤ x ∧ x ≤ 65535) : vp_nar .char (Int32.ofInt x) = Int32.ofInt x := by
  have := eCharN x.toNat (by omega)
  rw [Int.toNat_of_nonneg h.1] at this
  exact this
theorem t_length {d N : Nat} {h : eHp} {t : Nat} {T : eTx} (ht : gT h t T) (hT : gTO T) (hN : t + 4 ≤ N)  : eSp (d + 1) eM_X3_length [.ref t] N h (eRet (some (vI T.2.2.2.1)) N h) := by
  refine eSp_of [(0, .ref t)] rfl rfl ?_
  refine eW_aload_n 1 rfl rfl rfl ?_
  refine eW_getfield 4 rfl rfl (Nat.ble_eq_true_of_le (by omega)) rfl (show h t = .inr (7, [.ref (t + 1), .ref (t + 2), .ref (t + 3), vI T.2.2.2.1, vI T.2.2.2.2.1, vI T.2.2.2.2.2]) from ht.1) rfl ⟨rfl, fun _ h9 => nomatch h9⟩ ?_
  refine eW_ret_i rfl rfl (Or.inl rfl) ?_
  rfl
theorem t_orders {d N : Nat} {h : eHp} {t : Nat} {T : eTx} (ht : gT h t T) (hT : gTO T) (hN : t + 4 ≤ N)  : eSp (d + 1) eM_X3_orders [.ref t] N h (eRet (some (vI T.2.2.2.2.2)) N h) := by
  refine eSp_of [(0, .ref t)] rfl rfl ?_
  refine eW_aload_n 1 rfl rfl rfl ?_
  refine eW_getfield 4 rfl rfl (Nat.ble_eq_true_of_le (by omega)) rfl (show h t = .inr (7, [.ref (t + 1), .ref (t + 2), .ref (t + 3), vI T.2.2.2.1, vI T.2.2.2.2.1, vI T.2.2.2.2.2]) from ht.1) rfl ⟨rfl, fun _ h9 => nomatch h9⟩ ?_
  refine eW_ret_i rfl rfl (Or.inl rfl) ?_
  rfl
theorem t_isFull {d N : Nat} {h : eHp} {t : Nat} {T : eTx} (ht : gT h t T) (hT : gTO T) (hN : t + 4 ≤ N)  : eSp (d + 1) eM_X3_isFull [.ref t] N h (eRet (some (vI (eB01 (decide (T.2.2.2.1 = 60))))) N h) := by
  refine eSp_of [(0, .ref t)] rfl rfl ?_
  obtain ⟨t1, t2, t3, t4, t5, t6⟩ := hT
  refine eW_aload_n 1 rfl rfl rfl ?_
  refine eW_getfield 4 rfl rfl (Nat.ble_eq_true_of_le (by omega)) rfl (show h t = .inr (7, [.ref (t + 1), .ref (t + 2), .ref (t + 3), vI T.2.2.2.1, vI T.2.2.2.2.1, vI T.2.2.2.2.2]) from ht.1) rfl ⟨rfl, fun _ h9 => nomatch h9⟩ ?_
  refine eW_bipush 6 rfl rfl 60 rfl ?_
  refine eW_icmp_lt 9 rfl rfl (by unfold i32; omega) (by unfold i32; omega) (fun c1 => ?_) (fun c1 => ?_)
  · refine eW_iconst 14 rfl rfl ?_
    refine eW_ret_i rfl rfl (Or.inr (Or.inl ⟨rfl, rfl⟩)) ?_
    refine eRet_i ?_
    first | (rw [decide_eq_true (by omega)]; rfl) | (rw [decide_eq_false (by omega)]; rfl)
  · refine eW_iconst 10 rfl rfl ?_
    refine eW_goto rfl ?_
    refine eW_ret_i rfl rfl (Or.inr (Or.inl ⟨rfl, rfl⟩)) ?_
    refine eRet_i ?_
    first | (rw [decide_eq_true (by omega)]; rfl) | (rw [decide_eq_false (by omega)]; rfl)
theorem t_clear {d N : Nat} {h : eHp} {t : Nat} {T : eTx} (ht : gT h t T) (hT : gTO T) (hN : t + 4 ≤ N)  : eSp (d + 1) eM_X3_clear [.ref t] N h (eChg none N (fun h' => gT h' t (T.1, T.2.1, T.2.2.1, 0, T.2.2.2.2) ∧ ∀ i, (i < t ∨ t + 3 < i) → h' i = h i)) := by
  refine eSp_of [(0, .ref t)] rfl rfl ?_
  refine eW_aload_n 1 rfl rfl rfl ?_
  refine eW_iconst 2 rfl rfl ?_
  refine eW_putfield 5 [.ref (t + 1), .ref (t + 2), .ref (t + 3), vI 0, vI T.2.2.2.2.1, vI T.2.2.2.2.2] rfl rfl (Nat.ble_eq_true_of_le (by omega)) rfl (show h t = .inr (7, [.ref (t + 1), .ref (t + 2), .ref (t + 3), vI T.2.2.2.1, vI T.2.2.2.2.1, vI T.2.2.2.2.2]) from ht.1) rfl rfl ?_
  intro h1 eh1 oh1
  have hth1 : gT h1 t (T.1, T.2.1, T.2.2.1, 0, T.2.2.2.2.1, T.2.2.2.2.2) := gT_o (T := (T.1, T.2.1, T.2.2.1, T.2.2.2.1, T.2.2.2.2.1, T.2.2.2.2.2)) ht eh1 oh1 rfl rfl rfl
  have uh1 : ∀ i, (i < t ∨ t + 3 < i) → h1 i = h i := fun i hi => (oh1 i (by omega)).trans ((fun _ _ => rfl) i hi)
  refine eW_ret rfl rfl ?_
  exact ⟨_, rfl, hth1, uh1⟩
theorem t_add {d N : Nat} {h : eHp} {t : Nat} {T : eTx} (ht : gT h t T) (hT : gTO T) (hN : t + 4 ≤ N) {x : Int} (hx : 0 ≤ x ∧ x ≤ 65535) (hl : T.2.2.2.1 < 60) : eSp (d + 1) eM_X3_add [.ref t, vI x] N h (eChg none N (fun h' => gT h' t (eUp T.1 T.2.2.2.1.toNat x, T.2.1, T.2.2.1, T.2.2.2.1 + 1, T.2.2.2.2) ∧ ∀ i, (i < t ∨ t + 3 < i) → h' i = h i)) := by
  refine eSp_of [(0, .ref t), (1, vI x)] rfl rfl ?_
  obtain ⟨t1, t2, t3, t4, t5, t6⟩ := hT
  refine eW_aload_n 1 rfl rfl rfl ?_
  refine eW_getfield 4 rfl rfl (Nat.ble_eq_true_of_le (by omega)) rfl (show h t = .inr (7, [.ref (t + 1), .ref (t + 2), .ref (t + 3), vI T.2.2.2.1, vI T.2.2.2.2.1, vI T.2.2.2.2.2]) from ht.1) rfl ⟨rfl, fun _ h9 => nomatch h9⟩ ?_
  refine eW_if_lt 7 rfl rfl (by unfold i32; omega) (fun c1 => absurd c1 (by omega)) (fun c1 => ?_)
  refine eW_aload_n 8 rfl rfl rfl ?_
  refine eW_getfield 11 rfl rfl (Nat.ble_eq_true_of_le (by omega)) rfl (show h t = .inr (7, [.ref (t + 1), .ref (t + 2), .ref (t + 3), vI T.2.2.2.1, vI T.2.2.2.2.1, vI T.2.2.2.2.2]) from ht.1) rfl ⟨rfl, fun _ h9 => nomatch h9⟩ ?_
  refine eW_bipush 13 rfl rfl 60 rfl ?_
  refine eW_icmp_ge 16 rfl rfl (by unfold i32; omega) (by unfold i32; omega) (fun c2 => absurd c2 (by omega)) (fun c2 => ?_)
  refine eW_aload_n 17 rfl rfl rfl ?_
  refine eW_getfield 20 rfl rfl (Nat.ble_eq_true_of_le (by omega)) rfl (show h t = .inr (7, [.ref (t + 1), .ref (t + 2), .ref (t + 3), vI T.2.2.2.1, vI T.2.2.2.2.1, vI T.2.2.2.2.2]) from ht.1) rfl ⟨rfl, fun _ h9 => nomatch h9⟩ ?_
  refine eW_aload_n 21 rfl rfl rfl ?_
  refine eW_getfield 24 rfl rfl (Nat.ble_eq_true_of_le (by omega)) rfl (show h t = .inr (7, [.ref (t + 1), .ref (t + 2), .ref (t + 3), vI T.2.2.2.1, vI T.2.2.2.2.1, vI T.2.2.2.2.2]) from ht.1) rfl ⟨rfl, fun _ h9 => nomatch h9⟩ ?_
  refine eW_iload_n 25 rfl rfl rfl ?_
  refine eW_castore 26 rfl rfl (Nat.ble_eq_true_of_le (by omega)) (show h (t + 1) = .inl (1, 60, .inl (eIA T.1)) from ht.2.1) (by omega) (by omega) (by unfold i32; omega) (tx_char hx) ?_
  intro h3 eh3 oh3
  have hth3 : gT h3 t (eUp T.1 T.2.2.2.1.toNat x, T.2.1, T.2.2.1, T.2.2.2.1, T.2.2.2.2.1, T.2.2.2.2.2) := gT_0 (T := (T.1, T.2.1, T.2.2.1, T.2.2.2.1, T.2.2.2.2.1, T.2.2.2.2.2)) ht eh3 oh3
  have uh3 : ∀ i, (i < t ∨ t + 3 < i) → h3 i = h i := fun i hi => (oh3 i (by omega)).trans ((fun _ _ => rfl) i hi)
  refine eW_aload_n 27 rfl rfl rfl ?_
  refine eW_dup 28 rfl rfl rfl ?_
  refine eW_getfield 31 rfl rfl (Nat.ble_eq_true_of_le (by omega)) rfl (show h3 t = .inr (7, [.ref (t + 1), .ref (t + 2), .ref (t + 3), vI T.2.2.2.1, vI T.2.2.2.2.1, vI T.2.2.2.2.2]) from hth3.1) rfl ⟨rfl, fun _ h9 => nomatch h9⟩ ?_
  refine eW_iconst 32 rfl rfl ?_
  refine eW_iadd 33 rfl rfl ?_
  refine eW_putfield 36 [.ref (t + 1), .ref (t + 2), .ref (t + 3), vI (T.2.2.2.1 + 1), vI T.2.2.2.2.1, vI T.2.2.2.2.2] rfl rfl (Nat.ble_eq_true_of_le (by omega)) rfl (show h3 t = .inr (7, [.ref (t + 1), .ref (t + 2), .ref (t + 3), vI T.2.2.2.1, vI T.2.2.2.2.1, vI T.2.2.2.2.2]) from hth3.1) rfl rfl ?_
  intro h4 eh4 oh4
  have hth4 : gT h4 t (eUp T.1 T.2.2.2.1.toNat x, T.2.1, T.2.2.1, T.2.2.2.1 + 1, T.2.2.2.2.1, T.2.2.2.2.2) := gT_o (T := (eUp T.1 T.2.2.2.1.toNat x, T.2.1, T.2.2.1, T.2.2.2.1, T.2.2.2.2.1, T.2.2.2.2.2)) hth3 eh4 oh4 rfl rfl rfl
  have uh4 : ∀ i, (i < t ∨ t + 3 < i) → h4 i = h i := fun i hi => (oh4 i (by omega)).trans (uh3 i hi)
  refine eW_ret rfl rfl ?_
  exact ⟨_, rfl, hth4, uh4⟩
def tKind (T : eTx) (i : Int) : Int := match decide (0 ≤ i ∧ i < 30) with | true => T.2.1 i.toNat | false => 110
def tNo (T : eTx) (i w : Int) : Int := match decide (0 ≤ i ∧ i < 30 ∧ 0 ≤ w ∧ w < 3) with | true => T.2.2.1 (i * 3 + w).toNat | false => -1
def tSg (T : eTx) : Int := match decide (T.2.2.2.2.1 < T.2.2.2.1 ∧ T.2.2.2.2.1 < 60) with | true => T.1 T.2.2.2.2.1.toNat | false => 0
theorem tSg_le {T : eTx} (hT : gTO T) : 0 ≤ tSg T ∧ tSg T ≤ 65535 := by
  unfold tSg
  by_cases h : T.2.2.2.2.1 < T.2.2.2.1 ∧ T.2.2.2.2.1 < 60
  · rw [decide_eq_true h]; exact hT.2.2.2.1 _ (by have := hT.2.1; omega)
  · rw [decide_eq_false h]; show (0 : Int) ≤ 0 ∧ (0 : Int) ≤ 65535; omega
theorem tNo_le {T : eTx} (hT : gTO T) (i w : Int) : -1 ≤ tNo T i w ∧ tNo T i w ≤ 99 := by
  unfold tNo
  by_cases h : 0 ≤ i ∧ i < 30 ∧ 0 ≤ w ∧ w < 3
  · rw [decide_eq_true h]; exact hT.2.2.2.2.2 _ (by omega)
  · rw [decide_eq_false h]; show (-1 : Int) ≤ -1 ∧ (-1 : Int) ≤ 99; omega
theorem t_kind {d N : Nat} {h : eHp} {t : Nat} {T : eTx} (ht : gT h t T) (hT : gTO T) (hN : t + 4 ≤ N) {i : Int} (hi : i32 i) : eSp (d + 1) eM_X3_kind [.ref t, vI i] N h (eRet (some (vI (tKind T i))) N h) := by
  refine eSp_of [(0, .ref t), (1, vI i)] rfl rfl ?_
  obtain ⟨t1, t2, t3, t4, t5, t6⟩ := hT
  unfold i32 at hi
  refine eW_iload_n 1 rfl rfl rfl ?_
  refine eW_if_lt 4 rfl rfl (by unfold i32; omega) (fun c1 => ?_) (fun c1 => ?_)
  · refine eW_bipush 21 rfl rfl 110 rfl ?_
    refine eW_ret_i rfl rfl (Or.inr (Or.inr ⟨rfl, rfl⟩)) ?_
    refine eRet_i ?_
    unfold tKind
    first | (exfalso; omega) | (rw [decide_eq_true (by omega)]; done) | (rw [decide_eq_false (by omega)]; done)
  · refine eW_iload_n 5 rfl rfl rfl ?_
    refine eW_bipush 7 rfl rfl 30 rfl ?_
    refine eW_icmp_ge 10 rfl rfl (by unfold i32; omega) (by unfold i32; omega) (fun c2 => ?_) (fun c2 => ?_)
    · refine eW_bipush 21 rfl rfl 110 rfl ?_
      refine eW_ret_i rfl rfl (Or.inr (Or.inr ⟨rfl, rfl⟩)) ?_
      refine eRet_i ?_
      unfold tKind
      first | (exfalso; omega) | (rw [decide_eq_true (by omega)]; done) | (rw [decide_eq_false (by omega)]; done)
    · refine eW_aload_n 11 rfl rfl rfl ?_
      refine eW_getfield 14 rfl rfl (Nat.ble_eq_true_of_le (by omega)) rfl (show h t = .inr (7, [.ref (t + 1), .ref (t + 2), .ref (t + 3), vI T.2.2.2.1, vI T.2.2.2.2.1, vI T.2.2.2.2.2]) from ht.1) rfl ⟨rfl, fun _ h9 => nomatch h9⟩ ?_
      refine eW_iload_n 15 rfl rfl rfl ?_
      refine eW_caload 16 rfl rfl (T.2.1 i.toNat) (Nat.ble_eq_true_of_le (by omega)) (show h (t + 2) = .inl (1, 30, .inl (eIA T.2.1)) from ht.2.2.1) (by omega) (by omega) (by unfold i32; omega) rfl ?_
      refine eW_goto rfl ?_
      refine eW_ret_i rfl rfl (Or.inr (Or.inr ⟨rfl, (tx_char (t5 _ (by omega)))⟩)) ?_
      refine eRet_i ?_
      unfold tKind
      first | (exfalso; omega) | (rw [decide_eq_true (by omega)]; done) | (rw [decide_eq_false (by omega)]; done)
theorem t_number {d N : Nat} {h : eHp} {t : Nat} {T : eTx} (ht : gT h t T) (hT : gTO T) (hN : t + 4 ≤ N) {i w : Int} (hi : i32 i) (hw : i32 w) : eSp (d + 1) eM_X3_number [.ref t, vI i, vI w] N h (eRet (some (vI (tNo T i w))) N h) := by
  refine eSp_of [(0, .ref t), (1, vI i), (2, vI w)] rfl rfl ?_
  obtain ⟨t1, t2, t3, t4, t5, t6⟩ := hT
  unfold i32 at hi hw
  refine eW_iload_n 1 rfl rfl rfl ?_
  refine eW_if_lt 4 rfl rfl (by unfold i32; omega) (fun c1 => ?_) (fun c1 => ?_)
  · refine eW_iconst 33 rfl rfl ?_
    refine eW_ret_i rfl rfl (Or.inl rfl) ?_
    refine eRet_i ?_
    unfold tNo
    first | (exfalso; omega) | (rw [decide_eq_true (by omega)]; done) | (rw [decide_eq_false (by omega)]; done)
  · refine eW_iload_n 5 rfl rfl rfl ?_
    refine eW_bipush 7 rfl rfl 30 rfl ?_
    refine eW_icmp_ge 10 rfl rfl (by unfold i32; omega) (by unfold i32; omega) (fun c2 => ?_) (fun c2 => ?_)
    · refine eW_iconst 33 rfl rfl ?_
      refine eW_ret_i rfl rfl (Or.inl rfl) ?_
      refine eRet_i ?_
      unfold tNo
      first | (exfalso; omega) | (rw [decide_eq_true (by omega)]; done) | (rw [decide_eq_false (by omega)]; done)
    · refine eW_iload_n 11 rfl rfl rfl ?_
      refine eW_if_lt 14 rfl rfl (by unfold i32; omega) (fun c3 => ?_) (fun c3 => ?_)
      · refine eW_iconst 33 rfl rfl ?_
        refine eW_ret_i rfl rfl (Or.inl rfl) ?_
        refine eRet_i ?_
        unfold tNo
        first | (exfalso; omega) | (rw [decide_eq_true (by omega)]; done) | (rw [decide_eq_false (by omega)]; done)
      · refine eW_iload_n 15 rfl rfl rfl ?_
        refine eW_iconst 16 rfl rfl ?_
        refine eW_icmp_ge 19 rfl rfl (by unfold i32; omega) (by unfold i32; omega) (fun c4 => ?_) (fun c4 => ?_)
        · refine eW_iconst 33 rfl rfl ?_
          refine eW_ret_i rfl rfl (Or.inl rfl) ?_
          refine eRet_i ?_
          unfold tNo
          first | (exfalso; omega) | (rw [decide_eq_true (by omega)]; done) | (rw [decide_eq_false (by omega)]; done)
        · refine eW_aload_n 20 rfl rfl rfl ?_
          refine eW_getfield 23 rfl rfl (Nat.ble_eq_true_of_le (by omega)) rfl (show h t = .inr (7, [.ref (t + 1), .ref (t + 2), .ref (t + 3), vI T.2.2.2.1, vI T.2.2.2.2.1, vI T.2.2.2.2.2]) from ht.1) rfl ⟨rfl, fun _ h9 => nomatch h9⟩ ?_
          refine eW_iload_n 24 rfl rfl rfl ?_
          refine eW_iconst 25 rfl rfl ?_
          refine eW_imul 26 rfl rfl ?_
          refine eW_iload_n 27 rfl rfl rfl ?_
          refine eW_iadd 28 rfl rfl ?_
          refine eW_iaload 29 rfl rfl (T.2.2.1 ((i * 3) + w).toNat) (Nat.ble_eq_true_of_le (by omega)) (show h (t + 3) = .inl (0, 90, .inl (eIA T.2.2.1)) from ht.2.2.2) (by omega) (by omega) (by unfold i32; omega) rfl ?_
          refine eW_goto rfl ?_
          refine eW_ret_i rfl rfl (Or.inl rfl) ?_
          refine eRet_i ?_
          unfold tNo
          first | (exfalso; omega) | (rw [decide_eq_true (by omega)]; done) | (rw [decide_eq_false (by omega)]; done)
theorem t_sign {d N : Nat} {h : eHp} {t : Nat} {T : eTx} (ht : gT h t T) (hT : gTO T) (hN : t + 4 ≤ N)  : eSp (d + 1) eM_X3_sign [.ref t] N h (eRet (some (vI (tSg T))) N h) := by
  refine eSp_of [(0, .ref t)] rfl rfl ?_
  obtain ⟨t1, t2, t3, t4, t5, t6⟩ := hT
  refine eW_aload_n 1 rfl rfl rfl ?_
  refine eW_getfield 4 rfl rfl (Nat.ble_eq_true_of_le (by omega)) rfl (show h t = .inr (7, [.ref (t + 1), .ref (t + 2), .ref (t + 3), vI T.2.2.2.1, vI T.2.2.2.2.1, vI T.2.2.2.2.2]) from ht.1) rfl ⟨rfl, fun _ h9 => nomatch h9⟩ ?_
  refine eW_if_lt 7 rfl rfl (by unfold i32; omega) (fun c1 => ?_) (fun c1 => ?_)
  · refine eW_iconst 40 rfl rfl ?_
    refine eW_ret_i rfl rfl (Or.inr (Or.inr ⟨rfl, rfl⟩)) ?_
    refine eRet_i ?_
    unfold tSg
    first | (exfalso; omega) | (rw [decide_eq_true (by omega)]; done) | (rw [decide_eq_false (by omega)]; done)
  · refine eW_aload_n 8 rfl rfl rfl ?_
    refine eW_getfield 11 rfl rfl (Nat.ble_eq_true_of_le (by omega)) rfl (show h t = .inr (7, [.ref (t + 1), .ref (t + 2), .ref (t + 3), vI T.2.2.2.1, vI T.2.2.2.2.1, vI T.2.2.2.2.2]) from ht.1) rfl ⟨rfl, fun _ h9 => nomatch h9⟩ ?_
    refine eW_aload_n 12 rfl rfl rfl ?_
    refine eW_getfield 15 rfl rfl (Nat.ble_eq_true_of_le (by omega)) rfl (show h t = .inr (7, [.ref (t + 1), .ref (t + 2), .ref (t + 3), vI T.2.2.2.1, vI T.2.2.2.2.1, vI T.2.2.2.2.2]) from ht.1) rfl ⟨rfl, fun _ h9 => nomatch h9⟩ ?_
    refine eW_icmp_ge 18 rfl rfl (by unfold i32; omega) (by unfold i32; omega) (fun c2 => ?_) (fun c2 => ?_)
    · refine eW_iconst 40 rfl rfl ?_
      refine eW_ret_i rfl rfl (Or.inr (Or.inr ⟨rfl, rfl⟩)) ?_
      refine eRet_i ?_
      unfold tSg
      first | (exfalso; omega) | (rw [decide_eq_true (by omega)]; done) | (rw [decide_eq_false (by omega)]; done)
    · refine eW_aload_n 19 rfl rfl rfl ?_
      refine eW_getfield 22 rfl rfl (Nat.ble_eq_true_of_le (by omega)) rfl (show h t = .inr (7, [.ref (t + 1), .ref (t + 2), .ref (t + 3), vI T.2.2.2.1, vI T.2.2.2.2.1, vI T.2.2.2.2.2]) from ht.1) rfl ⟨rfl, fun _ h9 => nomatch h9⟩ ?_
      refine eW_bipush 24 rfl rfl 60 rfl ?_
      refine eW_icmp_ge 27 rfl rfl (by unfold i32; omega) (by unfold i32; omega) (fun c3 => ?_) (fun c3 => ?_)
      · refine eW_iconst 40 rfl rfl ?_
        refine eW_ret_i rfl rfl (Or.inr (Or.inr ⟨rfl, rfl⟩)) ?_
        refine eRet_i ?_
        unfold tSg
        first | (exfalso; omega) | (rw [decide_eq_true (by omega)]; done) | (rw [decide_eq_false (by omega)]; done)
      · refine eW_aload_n 28 rfl rfl rfl ?_
        refine eW_getfield 31 rfl rfl (Nat.ble_eq_true_of_le (by omega)) rfl (show h t = .inr (7, [.ref (t + 1), .ref (t + 2), .ref (t + 3), vI T.2.2.2.1, vI T.2.2.2.2.1, vI T.2.2.2.2.2]) from ht.1) rfl ⟨rfl, fun _ h9 => nomatch h9⟩ ?_
        refine eW_aload_n 32 rfl rfl rfl ?_
        refine eW_getfield 35 rfl rfl (Nat.ble_eq_true_of_le (by omega)) rfl (show h t = .inr (7, [.ref (t + 1), .ref (t + 2), .ref (t + 3), vI T.2.2.2.1, vI T.2.2.2.2.1, vI T.2.2.2.2.2]) from ht.1) rfl ⟨rfl, fun _ h9 => nomatch h9⟩ ?_
        refine eW_caload 36 rfl rfl (T.1 T.2.2.2.2.1.toNat) (Nat.ble_eq_true_of_le (by omega)) (show h (t + 1) = .inl (1, 60, .inl (eIA T.1)) from ht.2.1) (by omega) (by omega) (by unfold i32; omega) rfl ?_
        refine eW_goto rfl ?_
        refine eW_ret_i rfl rfl (Or.inr (Or.inr ⟨rfl, (tx_char (t4 _ (by omega)))⟩)) ?_
        refine eRet_i ?_
        unfold tSg
        first | (exfalso; omega) | (rw [decide_eq_true (by omega)]; done) | (rw [decide_eq_false (by omega)]; done)
theorem t_setNumber {d N : Nat} {h : eHp} {t : Nat} {T : eTx} (ht : gT h t T) (hT : gTO T) (hN : t + 4 ≤ N) {w x : Int} (hw : 0 ≤ w ∧ w < 3) (ho : T.2.2.2.2.2 < 30) : eSp (d + 1) eM_X3_setNumber [.ref t, vI w, vI x] N h (eChg none N (fun h' => gT h' t (T.1, T.2.1, eUp T.2.2.1 (T.2.2.2.2.2 * 3 + w).toNat x, T.2.2.2) ∧ ∀ i, (i < t ∨ t + 3 < i) → h' i = h i)) := by
  refine eSp_of [(0, .ref t), (1, vI w), (2, vI x)] rfl rfl ?_
  obtain ⟨t1, t2, t3, t4, t5, t6⟩ := hT
  refine eW_aload_n 1 rfl rfl rfl ?_
  refine eW_getfield 4 rfl rfl (Nat.ble_eq_true_of_le (by omega)) rfl (show h t = .inr (7, [.ref (t + 1), .ref (t + 2), .ref (t + 3), vI T.2.2.2.1, vI T.2.2.2.2.1, vI T.2.2.2.2.2]) from ht.1) rfl ⟨rfl, fun _ h9 => nomatch h9⟩ ?_
  refine eW_if_lt 7 rfl rfl (by unfold i32; omega) (fun c1 => absurd c1 (by omega)) (fun c1 => ?_)
  refine eW_aload_n 8 rfl rfl rfl ?_
  refine eW_getfield 11 rfl rfl (Nat.ble_eq_true_of_le (by omega)) rfl (show h t = .inr (7, [.ref (t + 1), .ref (t + 2), .ref (t + 3), vI T.2.2.2.1, vI T.2.2.2.2.1, vI T.2.2.2.2.2]) from ht.1) rfl ⟨rfl, fun _ h9 => nomatch h9⟩ ?_
  refine eW_bipush 13 rfl rfl 30 rfl ?_
  refine eW_icmp_ge 16 rfl rfl (by unfold i32; omega) (by unfold i32; omega) (fun c2 => absurd c2 (by omega)) (fun c2 => ?_)
  refine eW_iload_n 17 rfl rfl rfl ?_
  refine eW_if_lt 20 rfl rfl (by unfold i32; omega) (fun c3 => absurd c3 (by omega)) (fun c3 => ?_)
  refine eW_iload_n 21 rfl rfl rfl ?_
  refine eW_iconst 22 rfl rfl ?_
  refine eW_icmp_ge 25 rfl rfl (by unfold i32; omega) (by unfold i32; omega) (fun c4 => absurd c4 (by omega)) (fun c4 => ?_)
  refine eW_aload_n 26 rfl rfl rfl ?_
  refine eW_getfield 29 rfl rfl (Nat.ble_eq_true_of_le (by omega)) rfl (show h t = .inr (7, [.ref (t + 1), .ref (t + 2), .ref (t + 3), vI T.2.2.2.1, vI T.2.2.2.2.1, vI T.2.2.2.2.2]) from ht.1) rfl ⟨rfl, fun _ h9 => nomatch h9⟩ ?_
  refine eW_aload_n 30 rfl rfl rfl ?_
  refine eW_getfield 33 rfl rfl (Nat.ble_eq_true_of_le (by omega)) rfl (show h t = .inr (7, [.ref (t + 1), .ref (t + 2), .ref (t + 3), vI T.2.2.2.1, vI T.2.2.2.2.1, vI T.2.2.2.2.2]) from ht.1) rfl ⟨rfl, fun _ h9 => nomatch h9⟩ ?_
  refine eW_iconst 34 rfl rfl ?_
  refine eW_imul 35 rfl rfl ?_
  refine eW_iload_n 36 rfl rfl rfl ?_
  refine eW_iadd 37 rfl rfl ?_
  refine eW_iload_n 38 rfl rfl rfl ?_
  refine eW_iastore 39 rfl rfl (Nat.ble_eq_true_of_le (by omega)) (show h (t + 3) = .inl (0, 90, .inl (eIA T.2.2.1)) from ht.2.2.2) (by omega) (by omega) (by unfold i32; omega) rfl ?_
  intro h5 eh5 oh5
  have hth5 : gT h5 t (T.1, T.2.1, eUp T.2.2.1 ((T.2.2.2.2.2 * 3) + w).toNat x, T.2.2.2.1, T.2.2.2.2.1, T.2.2.2.2.2) := gT_2 (T := (T.1, T.2.1, T.2.2.1, T.2.2.2.1, T.2.2.2.2.1, T.2.2.2.2.2)) ht eh5 oh5
  have uh5 : ∀ i, (i < t ∨ t + 3 < i) → h5 i = h i := fun i hi => (oh5 i (by omega)).trans ((fun _ _ => rfl) i hi)
  refine eW_ret rfl rfl ?_
  exact ⟨_, rfl, hth5, uh5⟩
def tSkip (c : Int) (T : eTx) : Bool × eTx := match decide (T.2.2.2.2.1 < T.2.2.2.1 ∧ tSg T = c) with | true => (true, (T.1, T.2.1, T.2.2.1, T.2.2.2.1, T.2.2.2.2.1 + 1, T.2.2.2.2.2)) | false => (false, T)
def tDig (w : Int) (T : eTx) : Bool × eTx := match decide (48 ≤ tSg T ∧ tSg T ≤ 57) with | true => (true, (T.1, T.2.1, eUp T.2.2.1 (T.2.2.2.2.2 * 3 + w).toNat (tSg T - 48), T.2.2.2.1, T.2.2.2.2.1 + 1, T.2.2.2.2.2)) | false => (false, T)
theorem tSkip_t {c : Int} {T : eTx} (h : T.2.2.2.2.1 < T.2.2.2.1 ∧ tSg T = c) : tSkip c T = (true, (T.1, T.2.1, T.2.2.1, T.2.2.2.1, T.2.2.2.2.1 + 1, T.2.2.2.2.2)) := by unfold tSkip; rw [decide_eq_true h]
theorem tSkip_f {c : Int} {T : eTx} (h : ¬ (T.2.2.2.2.1 < T.2.2.2.1 ∧ tSg T = c)) : tSkip c T = (false, T) := by unfold tSkip; rw [decide_eq_false h]
theorem tDig_t {w : Int} {T : eTx} (h : 48 ≤ tSg T ∧ tSg T ≤ 57) : tDig w T = (true, (T.1, T.2.1, eUp T.2.2.1 (T.2.2.2.2.2 * 3 + w).toNat (tSg T - 48), T.2.2.2.1, T.2.2.2.2.1 + 1, T.2.2.2.2.2)) := by unfold tDig; rw [decide_eq_true h]
theorem tDig_f {w : Int} {T : eTx} (h : ¬ (48 ≤ tSg T ∧ tSg T ≤ 57)) : tDig w T = (false, T) := by unfold tDig; rw [decide_eq_false h]
theorem tSg_pos {T : eTx} (h : tSg T ≠ 0) : T.2.2.2.2.1 < T.2.2.2.1 ∧ T.2.2.2.2.1 < 60 := by
  by_cases h9 : T.2.2.2.2.1 < T.2.2.2.1 ∧ T.2.2.2.2.1 < 60
  · exact h9
  · exact absurd (by unfold tSg; rw [decide_eq_false h9]) h
theorem t_skip {d N : Nat} {h : eHp} {t : Nat} {T : eTx} (ht : gT h t T) (hT : gTO T) (hN : t + 4 ≤ N) {c : Int} (hc : i32 c) : eSp (d + 2) eM_X3_skip [.ref t, vI c] N h (eChg (some (vI (eB01 (tSkip c T).1))) N (fun h' => gT h' t (tSkip c T).2 ∧ ∀ i, (i < t ∨ t + 3 < i) → h' i = h i)) := by
  refine eSp_of [(0, .ref t), (1, vI c)] rfl rfl ?_
  unfold i32 at hc
  have hs := tSg_le hT
  have hT9 := hT
  obtain ⟨t1, t2, t3, t4, t5, t6⟩ := hT9
  refine eW_aload_n 1 rfl rfl rfl ?_
  refine eW_getfield 4 rfl rfl (Nat.ble_eq_true_of_le (by omega)) rfl (show h t = .inr (7, [.ref (t + 1), .ref (t + 2), .ref (t + 3), vI T.2.2.2.1, vI T.2.2.2.2.1, vI T.2.2.2.2.2]) from ht.1) rfl ⟨rfl, fun _ h9 => nomatch h9⟩ ?_
  refine eW_aload_n 5 rfl rfl rfl ?_
  refine eW_getfield 8 rfl rfl (Nat.ble_eq_true_of_le (by omega)) rfl (show h t = .inr (7, [.ref (t + 1), .ref (t + 2), .ref (t + 3), vI T.2.2.2.1, vI T.2.2.2.2.1, vI T.2.2.2.2.2]) from ht.1) rfl ⟨rfl, fun _ h9 => nomatch h9⟩ ?_
  refine eW_icmp_ge 11 rfl rfl (by unfold i32; omega) (by unfold i32; omega) (fun c1 => ?_) (fun c1 => ?_)
  · refine eW_iconst 20 rfl rfl ?_
    refine eW_ret_i rfl rfl (Or.inr (Or.inl ⟨rfl, rfl⟩)) ?_
    exact ⟨_, by rw [tSkip_f (T := T) (by omega)]; rfl, by rw [tSkip_f (T := T) (by omega)]; exact ht, (fun _ _ => rfl)⟩
  · refine eW_aload_n 12 rfl rfl rfl ?_
    refine eW_callV 15 [.ref t] [] [vI (tSg T)] rfl rfl rfl rfl (Nat.ble_eq_true_of_le (by omega)) (show h t = .inr (7, [.ref (t + 1), .ref (t + 2), .ref (t + 3), vI T.2.2.2.1, vI T.2.2.2.2.1, vI T.2.2.2.2.2]) from ht.1) rfl rfl rfl (t_sign (d := d) ht hT hN) rfl rfl ?_
    refine eW_iload_n 16 rfl rfl rfl ?_
    refine eW_icmp_eq 19 rfl rfl (by unfold i32; omega) (by unfold i32; omega) (fun c2 => ?_) (fun c2 => ?_)
    · refine eW_aload_n 22 rfl rfl rfl ?_
      refine eW_dup 23 rfl rfl rfl ?_
      refine eW_getfield 26 rfl rfl (Nat.ble_eq_true_of_le (by omega)) rfl (show h t = .inr (7, [.ref (t + 1), .ref (t + 2), .ref (t + 3), vI T.2.2.2.1, vI T.2.2.2.2.1, vI T.2.2.2.2.2]) from ht.1) rfl ⟨rfl, fun _ h9 => nomatch h9⟩ ?_
      refine eW_iconst 27 rfl rfl ?_
      refine eW_iadd 28 rfl rfl ?_
      refine eW_putfield 31 [.ref (t + 1), .ref (t + 2), .ref (t + 3), vI T.2.2.2.1, vI (T.2.2.2.2.1 + 1), vI T.2.2.2.2.2] rfl rfl (Nat.ble_eq_true_of_le (by omega)) rfl (show h t = .inr (7, [.ref (t + 1), .ref (t + 2), .ref (t + 3), vI T.2.2.2.1, vI T.2.2.2.2.1, vI T.2.2.2.2.2]) from ht.1) rfl rfl ?_
      intro h3 eh3 oh3
      have hth3 : gT h3 t (T.1, T.2.1, T.2.2.1, T.2.2.2.1, T.2.2.2.2.1 + 1, T.2.2.2.2.2) := gT_o (T := (T.1, T.2.1, T.2.2.1, T.2.2.2.1, T.2.2.2.2.1, T.2.2.2.2.2)) ht eh3 oh3 rfl rfl rfl
      have uh3 : ∀ i, (i < t ∨ t + 3 < i) → h3 i = h i := fun i hi => (oh3 i (by omega)).trans ((fun _ _ => rfl) i hi)
      refine eW_iconst 32 rfl rfl ?_
      refine eW_ret_i rfl rfl (Or.inr (Or.inl ⟨rfl, rfl⟩)) ?_
      exact ⟨_, by rw [tSkip_t (T := T) (by omega)]; rfl, by rw [tSkip_t (T := T) (by omega)]; exact hth3, uh3⟩
    · refine eW_iconst 20 rfl rfl ?_
      refine eW_ret_i rfl rfl (Or.inr (Or.inl ⟨rfl, rfl⟩)) ?_
      exact ⟨_, by rw [tSkip_f (T := T) (by omega)]; rfl, by rw [tSkip_f (T := T) (by omega)]; exact ht, (fun _ _ => rfl)⟩
theorem t_digit {d N : Nat} {h : eHp} {t : Nat} {T : eTx} (ht : gT h t T) (hT : gTO T) (hN : t + 4 ≤ N) {w : Int} (hw : 0 ≤ w ∧ w < 3) (ho : T.2.2.2.2.2 < 30) : eSp (d + 2) eM_X3_readDigit [.ref t, vI w] N h (eChg (some (vI (eB01 (tDig w T).1))) N (fun h' => gT h' t (tDig w T).2 ∧ ∀ i, (i < t ∨ t + 3 < i) → h' i = h i)) := by
  refine eSp_of [(0, .ref t), (1, vI w)] rfl rfl ?_
  have hs := tSg_le hT
  have hT9 := hT
  obtain ⟨t1, t2, t3, t4, t5, t6⟩ := hT9
  refine eW_aload_n 1 rfl rfl rfl ?_
  refine eW_callV 4 [.ref t] [] [vI (tSg T)] rfl rfl rfl rfl (Nat.ble_eq_true_of_le (by omega)) (show h t = .inr (7, [.ref (t + 1), .ref (t + 2), .ref (t + 3), vI T.2.2.2.1, vI T.2.2.2.2.1, vI T.2.2.2.2.2]) from ht.1) rfl rfl rfl (t_sign (d := d) ht hT hN) rfl rfl ?_
  refine eW_istore_n 5 rfl rfl [(2, vI (tSg T)), (0, .ref t), (1, vI w)] rfl rfl ?_
  refine eW_iload_n 6 rfl rfl rfl ?_
  refine eW_bipush 8 rfl rfl 48 rfl ?_
  refine eW_icmp_lt 11 rfl rfl (by unfold i32; omega) (by unfold i32; omega) (fun c1 => ?_) (fun c1 => ?_)
  · refine eW_iconst 18 rfl rfl ?_
    refine eW_ret_i rfl rfl (Or.inr (Or.inl ⟨rfl, rfl⟩)) ?_
    exact ⟨_, by rw [tDig_f (T := T) (by omega)]; rfl, by rw [tDig_f (T := T) (by omega)]; exact ht, (fun _ _ => rfl)⟩
  · refine eW_iload_n 12 rfl rfl rfl ?_
    refine eW_bipush 14 rfl rfl 57 rfl ?_
    refine eW_icmp_le 17 rfl rfl (by unfold i32; omega) (by unfold i32; omega) (fun c2 => ?_) (fun c2 => ?_)
    · refine eW_aload_n 20 rfl rfl rfl ?_
      refine eW_iload_n 21 rfl rfl rfl ?_
      refine eW_iload_n 22 rfl rfl rfl ?_
      refine eW_bipush 24 rfl rfl 48 rfl ?_
      refine eW_isub 25 rfl rfl ?_
      refine eW_callVH 28 [.ref t, vI w, vI ((tSg T) - 48)] [] [] rfl rfl rfl rfl (Nat.ble_eq_true_of_le (by omega)) (show h t = .inr (7, [.ref (t + 1), .ref (t + 2), .ref (t + 3), vI T.2.2.2.1, vI T.2.2.2.2.1, vI T.2.2.2.2.2]) from ht.1) rfl rfl rfl (t_setNumber (d := d) (T := (T.1, T.2.1, T.2.2.1, T.2.2.2.1, T.2.2.2.2.1, T.2.2.2.2.2)) ht hT hN hw ho) rfl rfl ?_
      intro h3 fh3
      have uh3 : ∀ i, (i < t ∨ t + 3 < i) → h3 i = h i := fun i hi => (fh3.2 i hi).trans ((fun _ _ => rfl) i hi)
      refine eW_aload_n 29 rfl rfl rfl ?_
      refine eW_dup 30 rfl rfl rfl ?_
      refine eW_getfield 33 rfl rfl (Nat.ble_eq_true_of_le (by omega)) rfl (show h3 t = .inr (7, [.ref (t + 1), .ref (t + 2), .ref (t + 3), vI T.2.2.2.1, vI T.2.2.2.2.1, vI T.2.2.2.2.2]) from fh3.1.1) rfl ⟨rfl, fun _ h9 => nomatch h9⟩ ?_
      refine eW_iconst 34 rfl rfl ?_
      refine eW_iadd 35 rfl rfl ?_
      refine eW_putfield 38 [.ref (t + 1), .ref (t + 2), .ref (t + 3), vI T.2.2.2.1, vI (T.2.2.2.2.1 + 1), vI T.2.2.2.2.2] rfl rfl (Nat.ble_eq_true_of_le (by omega)) rfl (show h3 t = .inr (7, [.ref (t + 1), .ref (t + 2), .ref (t + 3), vI T.2.2.2.1, vI T.2.2.2.2.1, vI T.2.2.2.2.2]) from fh3.1.1) rfl rfl ?_
      intro h4 eh4 oh4
      have hth4 : gT h4 t (T.1, T.2.1, eUp T.2.2.1 (T.2.2.2.2.2 * 3 + w).toNat ((tSg T) - 48), T.2.2.2.1, T.2.2.2.2.1 + 1, T.2.2.2.2.2) := gT_o (T := (T.1, T.2.1, eUp T.2.2.1 (T.2.2.2.2.2 * 3 + w).toNat ((tSg T) - 48), T.2.2.2.1, T.2.2.2.2.1, T.2.2.2.2.2)) fh3.1 eh4 oh4 rfl rfl rfl
      have uh4 : ∀ i, (i < t ∨ t + 3 < i) → h4 i = h i := fun i hi => (oh4 i (by omega)).trans (uh3 i hi)
      refine eW_iconst 39 rfl rfl ?_
      refine eW_ret_i rfl rfl (Or.inr (Or.inl ⟨rfl, rfl⟩)) ?_
      exact ⟨_, by rw [tDig_t (T := T) (by omega)]; rfl, by rw [tDig_t (T := T) (by omega)]; exact hth4, uh4⟩
    · refine eW_iconst 18 rfl rfl ?_
      refine eW_ret_i rfl rfl (Or.inr (Or.inl ⟨rfl, rfl⟩)) ?_
      exact ⟨_, by rw [tDig_f (T := T) (by omega)]; rfl, by rw [tDig_f (T := T) (by omega)]; exact ht, (fun _ _ => rfl)⟩
theorem tSkip_ok {c : Int} {T : eTx} (hT : gTO T) : gTO (tSkip c T).2 ∧ (tSkip c T).2.2.2.2.2.2 = T.2.2.2.2.2 := by
  by_cases h : T.2.2.2.2.1 < T.2.2.2.1 ∧ tSg T = c
  · rw [tSkip_t h]
    obtain ⟨t1, t2, t3, t4⟩ := hT
    exact ⟨⟨t1, ⟨by show 0 ≤ T.2.2.2.2.1 + 1; omega, by show T.2.2.2.2.1 + 1 ≤ 60; omega⟩, t3, t4⟩, rfl⟩
  · rw [tSkip_f h]; exact ⟨hT, rfl⟩
theorem tSet_ok {T : eTx} (hT : gTO T) {w x : Int} (hw : 0 ≤ w ∧ w < 3) (ho : T.2.2.2.2.2 < 30) (hx : -1 ≤ x ∧ x ≤ 99) : gTO (T.1, T.2.1, eUp T.2.2.1 (T.2.2.2.2.2 * 3 + w).toNat x, T.2.2.2) := by
  obtain ⟨t1, t2, t3, t4, t5, t6⟩ := hT
  refine ⟨t1, t2, t3, t4, t5, fun i hi => ?_⟩
  show -1 ≤ eUp _ _ _ _ ∧ eUp _ _ _ _ ≤ 99
  unfold eUp
  split
  · exact hx
  · exact t6 i hi
theorem tDig_ok {w : Int} {T : eTx} (hT : gTO T) (hw : 0 ≤ w ∧ w < 3) (ho : T.2.2.2.2.2 < 30) : gTO (tDig w T).2 ∧ (tDig w T).2.2.2.2.2.2 = T.2.2.2.2.2 ∧ ((tDig w T).1 = true → 0 ≤ tNo (tDig w T).2 T.2.2.2.2.2 w ∧ tNo (tDig w T).2 T.2.2.2.2.2 w ≤ 9) := by
  by_cases h : 48 ≤ tSg T ∧ tSg T ≤ 57
  · rw [tDig_t h]
    have hp := tSg_pos (T := T) (by omega)
    have hs := tSet_ok hT hw ho (x := tSg T - 48) (by omega)
    have h3 := hT.2.2.1
    have h2 := hT.2.1
    refine ⟨⟨hs.1, ⟨by show 0 ≤ T.2.2.2.2.1 + 1; omega, by show T.2.2.2.2.1 + 1 ≤ 60; omega⟩, hs.2.2⟩, rfl, fun _ => ?_⟩
    unfold tNo
    rw [decide_eq_true (by omega)]
    show 0 ≤ eUp _ _ _ _ ∧ eUp _ _ _ _ ≤ 9
    unfold eUp
    rw [if_pos rfl]
    omega
  · rw [tDig_f h]; exact ⟨hT, rfl, fun e => nomatch e⟩
def tSet (w x : Int) (T : eTx) : eTx := (T.1, T.2.1, eUp T.2.2.1 (T.2.2.2.2.2 * 3 + w).toNat x, T.2.2.2)
def tNum (w : Int) (T : eTx) : Bool × eTx := match (tDig w T).1 with
  | false => (false, (tDig w T).2)
  | true => match (tDig w (tDig w T).2).1 with
    | false => (true, (tDig w (tDig w T).2).2)
    | true => (true, tSet w (tNo (tDig w T).2 T.2.2.2.2.2 w * 10 + tNo (tDig w (tDig w T).2).2 T.2.2.2.2.2 w) (tDig w (tDig w T).2).2)
theorem tNum_ok {w : Int} {T : eTx} (hT : gTO T) (hw : 0 ≤ w ∧ w < 3) (ho : T.2.2.2.2.2 < 30) : gTO (tNum w T).2 ∧ (tNum w T).2.2.2.2.2.2 = T.2.2.2.2.2 := by
  obtain ⟨a1, a2, a3⟩ := tDig_ok hT hw ho
  unfold tNum
  cases h1 : (tDig w T).1 with
  | false => exact ⟨a1, a2⟩
  | true =>
    obtain ⟨b1, b2, b3⟩ := tDig_ok a1 hw (by rw [a2]; exact ho)
    dsimp only
    cases h2 : (tDig w (tDig w T).2).1 with
    | false => exact ⟨b1, by rw [b2, a2]⟩
    | true =>
      dsimp only
      have c1 := a3 h1
      have c2 := b3 h2
      rw [a2] at c2
      exact ⟨tSet_ok b1 hw (by rw [b2, a2]; exact ho) (by omega), by show (tDig w (tDig w T).2).2.2.2.2.2.2 = _; rw [b2, a2]⟩
theorem t_num {d N : Nat} {h : eHp} {t : Nat} {T : eTx} (ht : gT h t T) (hT : gTO T) (hN : t + 4 ≤ N) {w : Int} (hw : 0 ≤ w ∧ w < 3) (ho : T.2.2.2.2.2 < 30) : eSp (d + 3) eM_X3_readNumber [.ref t, vI w] N h (eChg (some (vI (eB01 (tNum w T).1))) N (fun h' => gT h' t (tNum w T).2 ∧ ∀ i, (i < t ∨ t + 3 < i) → h' i = h i)) := by
  refine eSp_of [(0, .ref t), (1, vI w)] rfl rfl ?_
  have h0 := hT.2.2.1
  refine eW_aload_n 1 rfl rfl rfl ?_
  refine eW_iload_n 2 rfl rfl rfl ?_
  refine eW_callVH 5 [.ref t, vI w] [] [vI (eB01 (tDig w T).1)] rfl rfl rfl rfl (Nat.ble_eq_true_of_le (by omega)) (show h t = .inr (7, [.ref (t + 1), .ref (t + 2), .ref (t + 3), vI T.2.2.2.1, vI T.2.2.2.2.1, vI T.2.2.2.2.2]) from ht.1) rfl rfl rfl (t_digit (d := d) ht hT hN hw ho) rfl rfl ?_
  intro h1 fh1
  have uh1 : ∀ i, (i < t ∨ t + 3 < i) → h1 i = h i := fun i hi => (fh1.2 i hi).trans ((fun _ _ => rfl) i hi)
  have hb1 := eB01_c (tDig w T).1
  obtain ⟨a1, a2, a3⟩ := tDig_ok hT hw ho
  refine eW_if_ne 8 rfl rfl (by unfold i32; omega) (fun c2 => ?_) (fun c2 => ?_)
  · refine eW_aload_n 11 rfl rfl rfl ?_
    refine eW_aload_n 12 rfl rfl rfl ?_
    refine eW_getfield 15 rfl rfl (Nat.ble_eq_true_of_le (by omega)) rfl (show h1 t = .inr (7, [.ref (t + 1), .ref (t + 2), .ref (t + 3), vI (((tDig w T).2).2.2.2.1), vI (((tDig w T).2).2.2.2.2.1), vI (((tDig w T).2).2.2.2.2.2)]) from fh1.1.1) rfl ⟨rfl, fun _ h9 => nomatch h9⟩ ?_
    refine eW_iload_n 16 rfl rfl rfl ?_
    refine eW_callV 19 [.ref t, vI (((tDig w T).2).2.2.2.2.2), vI w] [] [vI (tNo (tDig w T).2 (((tDig w T).2).2.2.2.2.2) w)] rfl rfl rfl rfl (Nat.ble_eq_true_of_le (by omega)) (show h1 t = .inr (7, [.ref (t + 1), .ref (t + 2), .ref (t + 3), vI (((tDig w T).2).2.2.2.1), vI (((tDig w T).2).2.2.2.2.1), vI (((tDig w T).2).2.2.2.2.2)]) from fh1.1.1) rfl rfl rfl (t_number (d := d + 1) fh1.1 a1 hN (by unfold i32; omega) (by unfold i32; omega)) rfl rfl ?_
    refine eW_istore_n 20 rfl rfl [(2, vI (tNo (tDig w T).2 (((tDig w T).2).2.2.2.2.2) w)), (0, .ref t), (1, vI w)] rfl rfl ?_
    refine eW_aload_n 21 rfl rfl rfl ?_
    refine eW_iload_n 22 rfl rfl rfl ?_
    refine eW_callVH 25 [.ref t, vI w] [] [vI (eB01 (tDig w (tDig w T).2).1)] rfl rfl rfl rfl (Nat.ble_eq_true_of_le (by omega)) (show h1 t = .inr (7, [.ref (t + 1), .ref (t + 2), .ref (t + 3), vI (((tDig w T).2).2.2.2.1), vI (((tDig w T).2).2.2.2.2.1), vI (((tDig w T).2).2.2.2.2.2)]) from fh1.1.1) rfl rfl rfl (t_digit (d := d) fh1.1 a1 hN hw (by rw [a2]; exact ho)) rfl rfl ?_
    intro h3 fh3
    have uh3 : ∀ i, (i < t ∨ t + 3 < i) → h3 i = h i := fun i hi => (fh3.2 i hi).trans (uh1 i hi)
    have hb2 := eB01_c (tDig w (tDig w T).2).1
    obtain ⟨b1, b2, b3⟩ := tDig_ok a1 hw (by rw [a2]; exact ho)
    have b4 := b2.trans a2
    refine eW_if_eq 28 rfl rfl (by unfold i32; omega) (fun c4 => ?_) (fun c4 => ?_)
    · refine eW_iconst 48 rfl rfl ?_
      refine eW_ret_i rfl rfl (Or.inr (Or.inl ⟨rfl, rfl⟩)) ?_
      have k1 : (tDig w T).1 = true := by rcases hb1 with hb1 | hb1 <;> first | exact hb1.1 | (exfalso; omega)
      have k2 : (tDig w (tDig w T).2).1 = false := by rcases hb2 with hb2 | hb2 <;> first | exact hb2.1 | (exfalso; omega)
      exact ⟨_, by unfold tNum; rw [k1]; dsimp only; rw [k2]; rfl, by unfold tNum; rw [k1]; dsimp only; rw [k2]; exact fh3.1, uh3⟩
    · refine eW_aload_n 29 rfl rfl rfl ?_
      refine eW_iload_n 30 rfl rfl rfl ?_
      refine eW_iload_n 31 rfl rfl rfl ?_
      refine eW_bipush 33 rfl rfl 10 rfl ?_
      refine eW_imul 34 rfl rfl ?_
      refine eW_aload_n 35 rfl rfl rfl ?_
      refine eW_aload_n 36 rfl rfl rfl ?_
      refine eW_getfield 39 rfl rfl (Nat.ble_eq_true_of_le (by omega)) rfl (show h3 t = .inr (7, [.ref (t + 1), .ref (t + 2), .ref (t + 3), vI (((tDig w (tDig w T).2).2).2.2.2.1), vI (((tDig w (tDig w T).2).2).2.2.2.2.1), vI (((tDig w (tDig w T).2).2).2.2.2.2.2)]) from fh3.1.1) rfl ⟨rfl, fun _ h9 => nomatch h9⟩ ?_
      refine eW_iload_n 40 rfl rfl rfl ?_
      refine eW_callV 43 [.ref t, vI (((tDig w (tDig w T).2).2).2.2.2.2.2), vI w] [vI ((tNo (tDig w T).2 (((tDig w T).2).2.2.2.2.2) w) * 10), vI w, .ref t] [vI (tNo (tDig w (tDig w T).2).2 (((tDig w (tDig w T).2).2).2.2.2.2.2) w), vI ((tNo (tDig w T).2 (((tDig w T).2).2.2.2.2.2) w) * 10), vI w, .ref t] rfl rfl rfl rfl (Nat.ble_eq_true_of_le (by omega)) (show h3 t = .inr (7, [.ref (t + 1), .ref (t + 2), .ref (t + 3), vI (((tDig w (tDig w T).2).2).2.2.2.1), vI (((tDig w (tDig w T).2).2).2.2.2.2.1), vI (((tDig w (tDig w T).2).2).2.2.2.2.2)]) from fh3.1.1) rfl rfl rfl (t_number (d := d + 1) fh3.1 b1 hN (by unfold i32; omega) (by unfold i32; omega)) rfl rfl ?_
      refine eW_iadd 44 rfl rfl ?_
      refine eW_callVH 47 [.ref t, vI w, vI (((tNo (tDig w T).2 (((tDig w T).2).2.2.2.2.2) w) * 10) + (tNo (tDig w (tDig w T).2).2 (((tDig w (tDig w T).2).2).2.2.2.2.2) w))] [] [] rfl rfl rfl rfl (Nat.ble_eq_true_of_le (by omega)) (show h3 t = .inr (7, [.ref (t + 1), .ref (t + 2), .ref (t + 3), vI (((tDig w (tDig w T).2).2).2.2.2.1), vI (((tDig w (tDig w T).2).2).2.2.2.2.1), vI (((tDig w (tDig w T).2).2).2.2.2.2.2)]) from fh3.1.1) rfl rfl rfl (t_setNumber (d := d + 1) fh3.1 b1 hN hw (by rw [b4]; exact ho)) rfl rfl ?_
      intro h5 fh5
      have uh5 : ∀ i, (i < t ∨ t + 3 < i) → h5 i = h i := fun i hi => (fh5.2 i hi).trans (uh3 i hi)
      refine eW_iconst 48 rfl rfl ?_
      refine eW_ret_i rfl rfl (Or.inr (Or.inl ⟨rfl, rfl⟩)) ?_
      have k1 : (tDig w T).1 = true := by rcases hb1 with hb1 | hb1 <;> first | exact hb1.1 | (exfalso; omega)
      have k2 : (tDig w (tDig w T).2).1 = true := by rcases hb2 with hb2 | hb2 <;> first | exact hb2.1 | (exfalso; omega)
      have k3 := fh5.1
      rw [show tNo (tDig w T).2 (tDig w T).2.2.2.2.2.2 w = tNo (tDig w T).2 T.2.2.2.2.2 w by rw [a2], show tNo (tDig w (tDig w T).2).2 (tDig w (tDig w T).2).2.2.2.2.2.2 w = tNo (tDig w (tDig w T).2).2 T.2.2.2.2.2 w by rw [b4]] at k3
      exact ⟨_, by unfold tNum; rw [k1]; dsimp only; rw [k2]; rfl, by unfold tNum; rw [k1]; dsimp only; rw [k2]; exact k3, uh5⟩
  · refine eW_iconst 9 rfl rfl ?_
    refine eW_ret_i rfl rfl (Or.inr (Or.inl ⟨rfl, rfl⟩)) ?_
    have k1 : (tDig w T).1 = false := by rcases hb1 with hb1 | hb1 <;> first | exact hb1.1 | (exfalso; omega)
    exact ⟨_, by unfold tNum; rw [k1]; rfl, by unfold tNum; rw [k1]; exact fh1.1, uh1⟩
def tThen (r : Bool × eTx) (f : eTx → Bool × eTx) : Bool × eTx := match r.1 with | false => r | true => f r.2
theorem tThen_t {r : Bool × eTx} {f : eTx → Bool × eTx} (h : r.1 = true) : tThen r f = f r.2 := by unfold tThen; rw [h]
theorem tThen_f {r : Bool × eTx} {f : eTx → Bool × eTx} (h : r.1 = false) : tThen r f = r := by unfold tThen; rw [h]
def tTail (r : Bool × eTx) : Bool × eTx := match r.1 && decide (tSg r.2 = 47) with | false => r | true => tThen (tSkip 47 r.2) (tNum 2)
theorem tTail_t {r : Bool × eTx} (h1 : r.1 = true) (h2 : tSg r.2 = 47) : tTail r = tThen (tSkip 47 r.2) (tNum 2) := by unfold tTail; rw [h1, decide_eq_true h2]; rfl
theorem tTail_f {r : Bool × eTx} (h : r.1 = false ∨ tSg r.2 ≠ 47) : tTail r = r := by
  unfold tTail
  rcases h with h | h
  · rw [h]; rfl
  · rw [decide_eq_false h, Bool.and_false]
def tNums (k : Int) (T : eTx) : Bool × eTx := match decide (k = 112) with
  | true => tNum 0 T
  | false => match decide (k = 99) with
    | true => tThen (tThen (tDig 0 T) (tSkip 61)) (tDig 1)
    | false => match decide (k = 115) with
      | true => tTail (tThen (tThen (tNum 0 T) (tSkip 45)) (tDig 1))
      | false => (true, T)
theorem tNums_p {T : eTx} : tNums 112 T = tNum 0 T := rfl
theorem tNums_c {T : eTx} : tNums 99 T = tThen (tThen (tDig 0 T) (tSkip 61)) (tDig 1) := rfl
theorem tNums_s {T : eTx} : tNums 115 T = tTail (tThen (tThen (tNum 0 T) (tSkip 45)) (tDig 1)) := rfl
theorem tNums_o {k : Int} {T : eTx} (h1 : k ≠ 112) (h2 : k ≠ 99) (h3 : k ≠ 115) : tNums k T = (true, T) := by unfold tNums; rw [decide_eq_false h1, decide_eq_false h2, decide_eq_false h3]
theorem t_nums {d N : Nat} {h : eHp} {t : Nat} {T : eTx} (ht : gT h t T) (hT : gTO T) (hN : t + 4 ≤ N) {c : Int} (hc : i32 c) (ho : T.2.2.2.2.2 < 30) : eSp (d + 4) eM_X3_readNumbers [.ref t, vI c] N h (eChg (some (vI (eB01 (tNums c T).1))) N (fun h' => gT h' t (tNums c T).2 ∧ ∀ i, (i < t ∨ t + 3 < i) → h' i = h i)) := by
  refine eSp_of [(0, .ref t), (1, vI c)] rfl rfl ?_
  unfold i32 at hc
  have h0 := hT.2.2.1
  refine eW_iload_n 1 rfl rfl rfl ?_
  refine eW_bipush 3 rfl rfl 112 rfl ?_
  refine eW_icmp_ne 6 rfl rfl (by unfold i32; omega) (by unfold i32; omega) (fun c1 => ?_) (fun c1 => ?_)
  · refine eW_iload_n 13 rfl rfl rfl ?_
    refine eW_bipush 15 rfl rfl 99 rfl ?_
    refine eW_icmp_ne 18 rfl rfl (by unfold i32; omega) (by unfold i32; omega) (fun c2 => ?_) (fun c2 => ?_)
    · refine eW_iload_n 50 rfl rfl rfl ?_
      refine eW_bipush 52 rfl rfl 115 rfl ?_
      refine eW_icmp_ne 55 rfl rfl (by unfold i32; omega) (by unfold i32; omega) (fun c3 => ?_) (fun c3 => ?_)
      · refine eW_iconst 127 rfl rfl ?_
        refine eW_ret_i rfl rfl (Or.inr (Or.inl ⟨rfl, rfl⟩)) ?_
        refine ⟨_, ?_, ?_, (fun _ _ => rfl)⟩
        · rw [tNums_o (by omega) (by omega) (by omega)]; rfl
        · rw [tNums_o (by omega) (by omega) (by omega)]; exact ht
      · refine eW_aload_n 56 rfl rfl rfl ?_
        refine eW_iconst 57 rfl rfl ?_
        refine eW_callVH 60 [.ref t, vI 0] [] [vI (eB01 (tNum 0 T).1)] rfl rfl rfl rfl (Nat.ble_eq_true_of_le (by omega)) (show h t = .inr (7, [.ref (t + 1), .ref (t + 2), .ref (t + 3), vI T.2.2.2.1, vI T.2.2.2.2.1, vI T.2.2.2.2.2]) from ht.1) rfl rfl rfl (t_num (d := d + 0) ht hT hN (by omega) (by rw [show (T.2.2.2.2.2) = T.2.2.2.2.2 from rfl]; exact ho)) rfl rfl ?_
        intro h4 fh4
        have uh4 : ∀ i, (i < t ∨ t + 3 < i) → h4 i = h i := fun i hi => (fh4.2 i hi).trans ((fun _ _ => rfl) i hi)
        have hb1 := eB01_c (tNum 0 T).1
        have ok1 := (tNum_ok (w := 0) hT (by omega) (by rw [show (T.2.2.2.2.2) = T.2.2.2.2.2 from rfl]; exact ho)).1
        have or1 : (tNum 0 T).2.2.2.2.2.2 = T.2.2.2.2.2 := (tNum_ok (w := 0) hT (by omega) (by rw [show (T.2.2.2.2.2) = T.2.2.2.2.2 from rfl]; exact ho)).2
        refine eW_if_eq 63 rfl rfl (by unfold i32; omega) (fun c5 => ?_) (fun c5 => ?_)
        · refine eW_iconst 85 rfl rfl ?_
          refine eW_istore_n 86 rfl rfl [(2, vI 0), (0, .ref t), (1, vI c)] rfl rfl ?_
          refine eW_iload_n 87 rfl rfl rfl ?_
          refine eW_if_eq 90 rfl rfl (by unfold i32; omega) (fun c6 => ?_) (fun c6 => absurd c6 (by omega))
          refine eW_iload_n 125 rfl rfl rfl ?_
          refine eW_ret_i rfl rfl (Or.inr (Or.inl ⟨rfl, rfl⟩)) ?_
          have hk : c = 115 := by omega
          subst hk
          have k1 : (tNum 0 T).1 = false := by rcases hb1 with hb1 | hb1 <;> first | exact hb1.1 | (exfalso; omega)
          refine ⟨_, ?_, ?_, uh4⟩
          · rw [tNums_s, tThen_f (r := tThen (tNum 0 T) (tSkip 45)) (by rw [tThen_f k1]; exact k1), tThen_f k1, tTail_f (Or.inl k1), k1]; rfl
          · rw [tNums_s, tThen_f (r := tThen (tNum 0 T) (tSkip 45)) (by rw [tThen_f k1]; exact k1), tThen_f k1, tTail_f (Or.inl k1)]; exact fh4.1
        · refine eW_aload_n 64 rfl rfl rfl ?_
          refine eW_bipush 66 rfl rfl 45 rfl ?_
          refine eW_callVH 69 [.ref t, vI 45] [] [vI (eB01 (tSkip 45 (tNum 0 T).2).1)] rfl rfl rfl rfl (Nat.ble_eq_true_of_le (by omega)) (show h4 t = .inr (7, [.ref (t + 1), .ref (t + 2), .ref (t + 3), vI (((tNum 0 T).2).2.2.2.1), vI (((tNum 0 T).2).2.2.2.2.1), vI (((tNum 0 T).2).2.2.2.2.2)]) from fh4.1.1) rfl rfl rfl (t_skip (d := d + 1) fh4.1 ok1 hN (by unfold i32; omega)) rfl rfl ?_
          intro h7 fh7
          have uh7 : ∀ i, (i < t ∨ t + 3 < i) → h7 i = h i := fun i hi => (fh7.2 i hi).trans (uh4 i hi)
          have hb2 := eB01_c (tSkip 45 (tNum 0 T).2).1
          have ok2 := (tSkip_ok (c := 45) ok1).1
          have or2 : (tSkip 45 (tNum 0 T).2).2.2.2.2.2.2 = T.2.2.2.2.2 := ((tSkip_ok (c := 45) ok1).2).trans or1
          refine eW_if_eq 72 rfl rfl (by unfold i32; omega) (fun c8 => ?_) (fun c8 => ?_)
          · refine eW_iconst 85 rfl rfl ?_
            refine eW_istore_n 86 rfl rfl [(2, vI 0), (0, .ref t), (1, vI c)] rfl rfl ?_
            refine eW_iload_n 87 rfl rfl rfl ?_
            refine eW_if_eq 90 rfl rfl (by unfold i32; omega) (fun c9 => ?_) (fun c9 => absurd c9 (by omega))
            refine eW_iload_n 125 rfl rfl rfl ?_
            refine eW_ret_i rfl rfl (Or.inr (Or.inl ⟨rfl, rfl⟩)) ?_
            have hk : c = 115 := by omega
            subst hk
            have k1 : (tNum 0 T).1 = true := by rcases hb1 with hb1 | hb1 <;> first | exact hb1.1 | (exfalso; omega)
            have k2 : (tSkip 45 (tNum 0 T).2).1 = false := by rcases hb2 with hb2 | hb2 <;> first | exact hb2.1 | (exfalso; omega)
            refine ⟨_, ?_, ?_, uh7⟩
            · rw [tNums_s, tThen_t k1, tThen_f k2, tTail_f (Or.inl k2), k2]; rfl
            · rw [tNums_s, tThen_t k1, tThen_f k2, tTail_f (Or.inl k2)]; exact fh7.1
          · refine eW_aload_n 73 rfl rfl rfl ?_
            refine eW_iconst 74 rfl rfl ?_
            refine eW_callVH 77 [.ref t, vI 1] [] [vI (eB01 (tDig 1 (tSkip 45 (tNum 0 T).2).2).1)] rfl rfl rfl rfl (Nat.ble_eq_true_of_le (by omega)) (show h7 t = .inr (7, [.ref (t + 1), .ref (t + 2), .ref (t + 3), vI (((tSkip 45 (tNum 0 T).2).2).2.2.2.1), vI (((tSkip 45 (tNum 0 T).2).2).2.2.2.2.1), vI (((tSkip 45 (tNum 0 T).2).2).2.2.2.2.2)]) from fh7.1.1) rfl rfl rfl (t_digit (d := d + 1) fh7.1 ok2 hN (by omega) (by rw [or2]; exact ho)) rfl rfl ?_
            intro h10 fh10
            have uh10 : ∀ i, (i < t ∨ t + 3 < i) → h10 i = h i := fun i hi => (fh10.2 i hi).trans (uh7 i hi)
            have hb3 := eB01_c (tDig 1 (tSkip 45 (tNum 0 T).2).2).1
            have ok3 := (tDig_ok (w := 1) ok2 (by omega) (by rw [or2]; exact ho)).1
            have or3 : (tDig 1 (tSkip 45 (tNum 0 T).2).2).2.2.2.2.2.2 = T.2.2.2.2.2 := (((tDig_ok (w := 1) ok2 (by omega) (by rw [or2]; exact ho)).2).1).trans or2
            refine eW_if_eq 80 rfl rfl (by unfold i32; omega) (fun c11 => ?_) (fun c11 => ?_)
            · refine eW_iconst 85 rfl rfl ?_
              refine eW_istore_n 86 rfl rfl [(2, vI 0), (0, .ref t), (1, vI c)] rfl rfl ?_
              refine eW_iload_n 87 rfl rfl rfl ?_
              refine eW_if_eq 90 rfl rfl (by unfold i32; omega) (fun c12 => ?_) (fun c12 => absurd c12 (by omega))
              refine eW_iload_n 125 rfl rfl rfl ?_
              refine eW_ret_i rfl rfl (Or.inr (Or.inl ⟨rfl, rfl⟩)) ?_
              have hk : c = 115 := by omega
              subst hk
              have k1 : (tNum 0 T).1 = true := by rcases hb1 with hb1 | hb1 <;> first | exact hb1.1 | (exfalso; omega)
              have k2 : (tSkip 45 (tNum 0 T).2).1 = true := by rcases hb2 with hb2 | hb2 <;> first | exact hb2.1 | (exfalso; omega)
              have k3 : (tDig 1 (tSkip 45 (tNum 0 T).2).2).1 = false := by rcases hb3 with hb3 | hb3 <;> first | exact hb3.1 | (exfalso; omega)
              refine ⟨_, ?_, ?_, uh10⟩
              · rw [tNums_s, tThen_t k1, tThen_t k2, tTail_f (Or.inl k3), k3]; rfl
              · rw [tNums_s, tThen_t k1, tThen_t k2, tTail_f (Or.inl k3)]; exact fh10.1
            · refine eW_iconst 81 rfl rfl ?_
              refine eW_goto rfl ?_
              refine eW_istore_n 86 rfl rfl [(2, vI 1), (0, .ref t), (1, vI c)] rfl rfl ?_
              refine eW_iload_n 87 rfl rfl rfl ?_
              refine eW_if_eq 90 rfl rfl (by unfold i32; omega) (fun c13 => absurd c13 (by omega)) (fun c13 => ?_)
              refine eW_aload_n 91 rfl rfl rfl ?_
              refine eW_callV 94 [.ref t] [] [vI (tSg (tDig 1 (tSkip 45 (tNum 0 T).2).2).2)] rfl rfl rfl rfl (Nat.ble_eq_true_of_le (by omega)) (show h10 t = .inr (7, [.ref (t + 1), .ref (t + 2), .ref (t + 3), vI (((tDig 1 (tSkip 45 (tNum 0 T).2).2).2).2.2.2.1), vI (((tDig 1 (tSkip 45 (tNum 0 T).2).2).2).2.2.2.2.1), vI (((tDig 1 (tSkip 45 (tNum 0 T).2).2).2).2.2.2.2.2)]) from fh10.1.1) rfl rfl rfl (t_sign (d := d + 2) fh10.1 ok3 hN) rfl rfl ?_
              refine eW_bipush 96 rfl rfl 47 rfl ?_
              have hsg := tSg_le ok3
              refine eW_icmp_ne 99 rfl rfl (by unfold i32; omega) (by unfold i32; omega) (fun c14 => ?_) (fun c14 => ?_)
              · refine eW_iload_n 125 rfl rfl rfl ?_
                refine eW_ret_i rfl rfl (Or.inr (Or.inl ⟨rfl, rfl⟩)) ?_
                have hk : c = 115 := by omega
                subst hk
                have k1 : (tNum 0 T).1 = true := by rcases hb1 with hb1 | hb1 <;> first | exact hb1.1 | (exfalso; omega)
                have k2 : (tSkip 45 (tNum 0 T).2).1 = true := by rcases hb2 with hb2 | hb2 <;> first | exact hb2.1 | (exfalso; omega)
                have k3 : (tDig 1 (tSkip 45 (tNum 0 T).2).2).1 = true := by rcases hb3 with hb3 | hb3 <;> first | exact hb3.1 | (exfalso; omega)
                refine ⟨_, ?_, ?_, uh10⟩
                · rw [tNums_s, tThen_t k1, tThen_t k2, tTail_f (Or.inr (by assumption)), k3]; rfl
                · rw [tNums_s, tThen_t k1, tThen_t k2, tTail_f (Or.inr (by assumption))]; exact fh10.1
              · refine eW_aload_n 100 rfl rfl rfl ?_
                refine eW_bipush 102 rfl rfl 47 rfl ?_
                refine eW_callVH 105 [.ref t, vI 47] [] [vI (eB01 (tSkip 47 (tDig 1 (tSkip 45 (tNum 0 T).2).2).2).1)] rfl rfl rfl rfl (Nat.ble_eq_true_of_le (by omega)) (show h10 t = .inr (7, [.ref (t + 1), .ref (t + 2), .ref (t + 3), vI (((tDig 1 (tSkip 45 (tNum 0 T).2).2).2).2.2.2.1), vI (((tDig 1 (tSkip 45 (tNum 0 T).2).2).2).2.2.2.2.1), vI (((tDig 1 (tSkip 45 (tNum 0 T).2).2).2).2.2.2.2.2)]) from fh10.1.1) rfl rfl rfl (t_skip (d := d + 1) fh10.1 ok3 hN (by unfold i32; omega)) rfl rfl ?_
                intro h15 fh15
                have uh15 : ∀ i, (i < t ∨ t + 3 < i) → h15 i = h i := fun i hi => (fh15.2 i hi).trans (uh10 i hi)
                have hb4 := eB01_c (tSkip 47 (tDig 1 (tSkip 45 (tNum 0 T).2).2).2).1
                have ok4 := (tSkip_ok (c := 47) ok3).1
                have or4 : (tSkip 47 (tDig 1 (tSkip 45 (tNum 0 T).2).2).2).2.2.2.2.2.2 = T.2.2.2.2.2 := ((tSkip_ok (c := 47) ok3).2).trans or3
                refine eW_if_eq 108 rfl rfl (by unfold i32; omega) (fun c16 => ?_) (fun c16 => ?_)
                · refine eW_iconst 121 rfl rfl ?_
                  refine eW_goto rfl ?_
                  refine eW_ret_i rfl rfl (Or.inr (Or.inl ⟨rfl, rfl⟩)) ?_
                  have hk : c = 115 := by omega
                  subst hk
                  have k1 : (tNum 0 T).1 = true := by rcases hb1 with hb1 | hb1 <;> first | exact hb1.1 | (exfalso; omega)
                  have k2 : (tSkip 45 (tNum 0 T).2).1 = true := by rcases hb2 with hb2 | hb2 <;> first | exact hb2.1 | (exfalso; omega)
                  have k3 : (tDig 1 (tSkip 45 (tNum 0 T).2).2).1 = true := by rcases hb3 with hb3 | hb3 <;> first | exact hb3.1 | (exfalso; omega)
                  have k4 : (tSkip 47 (tDig 1 (tSkip 45 (tNum 0 T).2).2).2).1 = false := by rcases hb4 with hb4 | hb4 <;> first | exact hb4.1 | (exfalso; omega)
                  refine ⟨_, ?_, ?_, uh15⟩
                  · rw [tNums_s, tThen_t k1, tThen_t k2, tTail_t k3 (by omega), tThen_f k4, k4]; rfl
                  · rw [tNums_s, tThen_t k1, tThen_t k2, tTail_t k3 (by omega), tThen_f k4]; exact fh15.1
                · refine eW_aload_n 109 rfl rfl rfl ?_
                  refine eW_iconst 110 rfl rfl ?_
                  refine eW_callVH 113 [.ref t, vI 2] [] [vI (eB01 (tNum 2 (tSkip 47 (tDig 1 (tSkip 45 (tNum 0 T).2).2).2).2).1)] rfl rfl rfl rfl (Nat.ble_eq_true_of_le (by omega)) (show h15 t = .inr (7, [.ref (t + 1), .ref (t + 2), .ref (t + 3), vI (((tSkip 47 (tDig 1 (tSkip 45 (tNum 0 T).2).2).2).2).2.2.2.1), vI (((tSkip 47 (tDig 1 (tSkip 45 (tNum 0 T).2).2).2).2).2.2.2.2.1), vI (((tSkip 47 (tDig 1 (tSkip 45 (tNum 0 T).2).2).2).2).2.2.2.2.2)]) from fh15.1.1) rfl rfl rfl (t_num (d := d + 0) fh15.1 ok4 hN (by omega) (by rw [or4]; exact ho)) rfl rfl ?_
                  intro h17 fh17
                  have uh17 : ∀ i, (i < t ∨ t + 3 < i) → h17 i = h i := fun i hi => (fh17.2 i hi).trans (uh15 i hi)
                  have hb5 := eB01_c (tNum 2 (tSkip 47 (tDig 1 (tSkip 45 (tNum 0 T).2).2).2).2).1
                  have ok5 := (tNum_ok (w := 2) ok4 (by omega) (by rw [or4]; exact ho)).1
                  have or5 : (tNum 2 (tSkip 47 (tDig 1 (tSkip 45 (tNum 0 T).2).2).2).2).2.2.2.2.2.2 = T.2.2.2.2.2 := ((tNum_ok (w := 2) ok4 (by omega) (by rw [or4]; exact ho)).2).trans or4
                  refine eW_if_eq 116 rfl rfl (by unfold i32; omega) (fun c18 => ?_) (fun c18 => ?_)
                  · refine eW_iconst 121 rfl rfl ?_
                    refine eW_goto rfl ?_
                    refine eW_ret_i rfl rfl (Or.inr (Or.inl ⟨rfl, rfl⟩)) ?_
                    have hk : c = 115 := by omega
                    subst hk
                    have k1 : (tNum 0 T).1 = true := by rcases hb1 with hb1 | hb1 <;> first | exact hb1.1 | (exfalso; omega)
                    have k2 : (tSkip 45 (tNum 0 T).2).1 = true := by rcases hb2 with hb2 | hb2 <;> first | exact hb2.1 | (exfalso; omega)
                    have k3 : (tDig 1 (tSkip 45 (tNum 0 T).2).2).1 = true := by rcases hb3 with hb3 | hb3 <;> first | exact hb3.1 | (exfalso; omega)
                    have k4 : (tSkip 47 (tDig 1 (tSkip 45 (tNum 0 T).2).2).2).1 = true := by rcases hb4 with hb4 | hb4 <;> first | exact hb4.1 | (exfalso; omega)
                    have k5 : (tNum 2 (tSkip 47 (tDig 1 (tSkip 45 (tNum 0 T).2).2).2).2).1 = false := by rcases hb5 with hb5 | hb5 <;> first | exact hb5.1 | (exfalso; omega)
                    refine ⟨_, ?_, ?_, uh17⟩
                    · rw [tNums_s, tThen_t k1, tThen_t k2, tTail_t k3 (by omega), tThen_t k4, k5]; rfl
                    · rw [tNums_s, tThen_t k1, tThen_t k2, tTail_t k3 (by omega), tThen_t k4]; exact fh17.1
                  · refine eW_iconst 117 rfl rfl ?_
                    refine eW_goto rfl ?_
                    refine eW_ret_i rfl rfl (Or.inr (Or.inl ⟨rfl, rfl⟩)) ?_
                    have hk : c = 115 := by omega
                    subst hk
                    have k1 : (tNum 0 T).1 = true := by rcases hb1 with hb1 | hb1 <;> first | exact hb1.1 | (exfalso; omega)
                    have k2 : (tSkip 45 (tNum 0 T).2).1 = true := by rcases hb2 with hb2 | hb2 <;> first | exact hb2.1 | (exfalso; omega)
                    have k3 : (tDig 1 (tSkip 45 (tNum 0 T).2).2).1 = true := by rcases hb3 with hb3 | hb3 <;> first | exact hb3.1 | (exfalso; omega)
                    have k4 : (tSkip 47 (tDig 1 (tSkip 45 (tNum 0 T).2).2).2).1 = true := by rcases hb4 with hb4 | hb4 <;> first | exact hb4.1 | (exfalso; omega)
                    have k5 : (tNum 2 (tSkip 47 (tDig 1 (tSkip 45 (tNum 0 T).2).2).2).2).1 = true := by rcases hb5 with hb5 | hb5 <;> first | exact hb5.1 | (exfalso; omega)
                    refine ⟨_, ?_, ?_, uh17⟩
                    · rw [tNums_s, tThen_t k1, tThen_t k2, tTail_t k3 (by omega), tThen_t k4, k5]; rfl
                    · rw [tNums_s, tThen_t k1, tThen_t k2, tTail_t k3 (by omega), tThen_t k4]; exact fh17.1
    · refine eW_aload_n 19 rfl rfl rfl ?_
      refine eW_iconst 20 rfl rfl ?_
      refine eW_callVH 23 [.ref t, vI 0] [] [vI (eB01 (tDig 0 T).1)] rfl rfl rfl rfl (Nat.ble_eq_true_of_le (by omega)) (show h t = .inr (7, [.ref (t + 1), .ref (t + 2), .ref (t + 3), vI T.2.2.2.1, vI T.2.2.2.2.1, vI T.2.2.2.2.2]) from ht.1) rfl rfl rfl (t_digit (d := d + 1) ht hT hN (by omega) (by rw [show (T.2.2.2.2.2) = T.2.2.2.2.2 from rfl]; exact ho)) rfl rfl ?_
      intro h19 fh19
      have uh19 : ∀ i, (i < t ∨ t + 3 < i) → h19 i = h i := fun i hi => (fh19.2 i hi).trans ((fun _ _ => rfl) i hi)
      have hb6 := eB01_c (tDig 0 T).1
      have ok6 := (tDig_ok (w := 0) hT (by omega) (by rw [show (T.2.2.2.2.2) = T.2.2.2.2.2 from rfl]; exact ho)).1
      have or6 : (tDig 0 T).2.2.2.2.2.2 = T.2.2.2.2.2 := ((tDig_ok (w := 0) hT (by omega) (by rw [show (T.2.2.2.2.2) = T.2.2.2.2.2 from rfl]; exact ho)).2).1
      refine eW_if_eq 26 rfl rfl (by unfold i32; omega) (fun c20 => ?_) (fun c20 => ?_)
      · refine eW_iconst 48 rfl rfl ?_
        refine eW_ret_i rfl rfl (Or.inr (Or.inl ⟨rfl, rfl⟩)) ?_
        have hk : c = 99 := by omega
        subst hk
        have k1 : (tDig 0 T).1 = false := by rcases hb6 with hb6 | hb6 <;> first | exact hb6.1 | (exfalso; omega)
        refine ⟨_, ?_, ?_, uh19⟩
        · rw [tNums_c, tThen_f (r := tThen (tDig 0 T) (tSkip 61)) (by rw [tThen_f k1]; exact k1), tThen_f k1, k1]; rfl
        · rw [tNums_c, tThen_f (r := tThen (tDig 0 T) (tSkip 61)) (by rw [tThen_f k1]; exact k1), tThen_f k1]; exact fh19.1
      · refine eW_aload_n 27 rfl rfl rfl ?_
        refine eW_bipush 29 rfl rfl 61 rfl ?_
        refine eW_callVH 32 [.ref t, vI 61] [] [vI (eB01 (tSkip 61 (tDig 0 T).2).1)] rfl rfl rfl rfl (Nat.ble_eq_true_of_le (by omega)) (show h19 t = .inr (7, [.ref (t + 1), .ref (t + 2), .ref (t + 3), vI (((tDig 0 T).2).2.2.2.1), vI (((tDig 0 T).2).2.2.2.2.1), vI (((tDig 0 T).2).2.2.2.2.2)]) from fh19.1.1) rfl rfl rfl (t_skip (d := d + 1) fh19.1 ok6 hN (by unfold i32; omega)) rfl rfl ?_
        intro h21 fh21
        have uh21 : ∀ i, (i < t ∨ t + 3 < i) → h21 i = h i := fun i hi => (fh21.2 i hi).trans (uh19 i hi)
        have hb7 := eB01_c (tSkip 61 (tDig 0 T).2).1
        have ok7 := (tSkip_ok (c := 61) ok6).1
        have or7 : (tSkip 61 (tDig 0 T).2).2.2.2.2.2.2 = T.2.2.2.2.2 := ((tSkip_ok (c := 61) ok6).2).trans or6
        refine eW_if_eq 35 rfl rfl (by unfold i32; omega) (fun c22 => ?_) (fun c22 => ?_)
        · refine eW_iconst 48 rfl rfl ?_
          refine eW_ret_i rfl rfl (Or.inr (Or.inl ⟨rfl, rfl⟩)) ?_
          have hk : c = 99 := by omega
          subst hk
          have k1 : (tDig 0 T).1 = true := by rcases hb6 with hb6 | hb6 <;> first | exact hb6.1 | (exfalso; omega)
          have k2 : (tSkip 61 (tDig 0 T).2).1 = false := by rcases hb7 with hb7 | hb7 <;> first | exact hb7.1 | (exfalso; omega)
          refine ⟨_, ?_, ?_, uh21⟩
          · rw [tNums_c, tThen_t k1, tThen_f k2, k2]; rfl
          · rw [tNums_c, tThen_t k1, tThen_f k2]; exact fh21.1
        · refine eW_aload_n 36 rfl rfl rfl ?_
          refine eW_iconst 37 rfl rfl ?_
          refine eW_callVH 40 [.ref t, vI 1] [] [vI (eB01 (tDig 1 (tSkip 61 (tDig 0 T).2).2).1)] rfl rfl rfl rfl (Nat.ble_eq_true_of_le (by omega)) (show h21 t = .inr (7, [.ref (t + 1), .ref (t + 2), .ref (t + 3), vI (((tSkip 61 (tDig 0 T).2).2).2.2.2.1), vI (((tSkip 61 (tDig 0 T).2).2).2.2.2.2.1), vI (((tSkip 61 (tDig 0 T).2).2).2.2.2.2.2)]) from fh21.1.1) rfl rfl rfl (t_digit (d := d + 1) fh21.1 ok7 hN (by omega) (by rw [or7]; exact ho)) rfl rfl ?_
          intro h23 fh23
          have uh23 : ∀ i, (i < t ∨ t + 3 < i) → h23 i = h i := fun i hi => (fh23.2 i hi).trans (uh21 i hi)
          have hb8 := eB01_c (tDig 1 (tSkip 61 (tDig 0 T).2).2).1
          have ok8 := (tDig_ok (w := 1) ok7 (by omega) (by rw [or7]; exact ho)).1
          have or8 : (tDig 1 (tSkip 61 (tDig 0 T).2).2).2.2.2.2.2.2 = T.2.2.2.2.2 := (((tDig_ok (w := 1) ok7 (by omega) (by rw [or7]; exact ho)).2).1).trans or7
          refine eW_if_eq 43 rfl rfl (by unfold i32; omega) (fun c24 => ?_) (fun c24 => ?_)
          · refine eW_iconst 48 rfl rfl ?_
            refine eW_ret_i rfl rfl (Or.inr (Or.inl ⟨rfl, rfl⟩)) ?_
            have hk : c = 99 := by omega
            subst hk
            have k1 : (tDig 0 T).1 = true := by rcases hb6 with hb6 | hb6 <;> first | exact hb6.1 | (exfalso; omega)
            have k2 : (tSkip 61 (tDig 0 T).2).1 = true := by rcases hb7 with hb7 | hb7 <;> first | exact hb7.1 | (exfalso; omega)
            have k3 : (tDig 1 (tSkip 61 (tDig 0 T).2).2).1 = false := by rcases hb8 with hb8 | hb8 <;> first | exact hb8.1 | (exfalso; omega)
            refine ⟨_, ?_, ?_, uh23⟩
            · rw [tNums_c, tThen_t k1, tThen_t k2, k3]; rfl
            · rw [tNums_c, tThen_t k1, tThen_t k2]; exact fh23.1
          · refine eW_iconst 44 rfl rfl ?_
            refine eW_goto rfl ?_
            refine eW_ret_i rfl rfl (Or.inr (Or.inl ⟨rfl, rfl⟩)) ?_
            have hk : c = 99 := by omega
            subst hk
            have k1 : (tDig 0 T).1 = true := by rcases hb6 with hb6 | hb6 <;> first | exact hb6.1 | (exfalso; omega)
            have k2 : (tSkip 61 (tDig 0 T).2).1 = true := by rcases hb7 with hb7 | hb7 <;> first | exact hb7.1 | (exfalso; omega)
            have k3 : (tDig 1 (tSkip 61 (tDig 0 T).2).2).1 = true := by rcases hb8 with hb8 | hb8 <;> first | exact hb8.1 | (exfalso; omega)
            refine ⟨_, ?_, ?_, uh23⟩
            · rw [tNums_c, tThen_t k1, tThen_t k2, k3]; rfl
            · rw [tNums_c, tThen_t k1, tThen_t k2]; exact fh23.1
  · refine eW_aload_n 7 rfl rfl rfl ?_
    refine eW_iconst 8 rfl rfl ?_
    refine eW_callVH 11 [.ref t, vI 0] [] [vI (eB01 (tNum 0 T).1)] rfl rfl rfl rfl (Nat.ble_eq_true_of_le (by omega)) (show h t = .inr (7, [.ref (t + 1), .ref (t + 2), .ref (t + 3), vI T.2.2.2.1, vI T.2.2.2.2.1, vI T.2.2.2.2.2]) from ht.1) rfl rfl rfl (t_num (d := d + 0) ht hT hN (by omega) (by rw [show (T.2.2.2.2.2) = T.2.2.2.2.2 from rfl]; exact ho)) rfl rfl ?_
    intro h25 fh25
    have uh25 : ∀ i, (i < t ∨ t + 3 < i) → h25 i = h i := fun i hi => (fh25.2 i hi).trans ((fun _ _ => rfl) i hi)
    have hb9 := eB01_c (tNum 0 T).1
    have ok9 := (tNum_ok (w := 0) hT (by omega) (by rw [show (T.2.2.2.2.2) = T.2.2.2.2.2 from rfl]; exact ho)).1
    have or9 : (tNum 0 T).2.2.2.2.2.2 = T.2.2.2.2.2 := (tNum_ok (w := 0) hT (by omega) (by rw [show (T.2.2.2.2.2) = T.2.2.2.2.2 from rfl]; exact ho)).2
    refine eW_ret_i rfl rfl (Or.inr (Or.inl ⟨rfl, (by rcases hb9 with e9 | e9 <;> rw [e9.2] <;> rfl)⟩)) ?_
    have hk : c = 112 := by omega
    subst hk
    exact ⟨_, rfl, fh25.1, uh25⟩
theorem tKd_ok {T : eTx} (hT : gTO T) {i : Nat} {x : Int} (hx : 0 ≤ x ∧ x ≤ 65535) : gTO (T.1, eUp T.2.1 i x, T.2.2) := by
  obtain ⟨t1, t2, t3, t4, t5, t6⟩ := hT
  refine ⟨t1, t2, t3, t4, fun j hj => ?_, t6⟩
  show 0 ≤ eUp _ _ _ _ ∧ eUp _ _ _ _ ≤ 65535
  unfold eUp
  split
  · exact hx
  · exact t5 j hj
def tIni (T : eTx) : eTx := tSet 2 (-1) (tSet 1 (-1) (tSet 0 (-1) (T.1, eUp T.2.1 T.2.2.2.2.2.toNat (tSg T), T.2.2)))
theorem tIni_ok {T : eTx} (hT : gTO T) (ho : T.2.2.2.2.2 < 30) : gTO (tIni T) := tSet_ok (T := tSet 1 (-1) (tSet 0 (-1) (T.1, eUp T.2.1 T.2.2.2.2.2.toNat (tSg T), T.2.2))) (tSet_ok (T := tSet 0 (-1) (T.1, eUp T.2.1 T.2.2.2.2.2.toNat (tSg T), T.2.2)) (tSet_ok (T := (T.1, eUp T.2.1 T.2.2.2.2.2.toNat (tSg T), T.2.2)) (tKd_ok hT (tSg_le hT)) (by omega) ho (by omega)) (by omega) ho (by omega)) (by omega) ho (by omega)
theorem tNums_ok {k : Int} {T : eTx} (hT : gTO T) (ho : T.2.2.2.2.2 < 30) : gTO (tNums k T).2 ∧ (tNums k T).2.2.2.2.2.2 = T.2.2.2.2.2 := by
  have th : ∀ {r : Bool × eTx} {f : eTx → Bool × eTx}, (gTO r.2 ∧ r.2.2.2.2.2.2 = T.2.2.2.2.2) → (∀ X, gTO X → X.2.2.2.2.2 = T.2.2.2.2.2 → gTO (f X).2 ∧ (f X).2.2.2.2.2.2 = T.2.2.2.2.2) → gTO (tThen r f).2 ∧ (tThen r f).2.2.2.2.2.2 = T.2.2.2.2.2 := by
    intro r f h1 h2
    unfold tThen
    cases r.1 with
    | false => exact h1
    | true => exact h2 _ h1.1 h1.2
  have fd : ∀ {w : Int}, 0 ≤ w ∧ w < 3 → ∀ X, gTO X → X.2.2.2.2.2 = T.2.2.2.2.2 → gTO (tDig w X).2 ∧ (tDig w X).2.2.2.2.2.2 = T.2.2.2.2.2 := fun hw X h1 h2 => ⟨(tDig_ok h1 hw (by rw [h2]; exact ho)).1, (tDig_ok h1 hw (by rw [h2]; exact ho)).2.1.trans h2⟩
  have fn : ∀ {w : Int}, 0 ≤ w ∧ w < 3 → ∀ X, gTO X → X.2.2.2.2.2 = T.2.2.2.2.2 → gTO (tNum w X).2 ∧ (tNum w X).2.2.2.2.2.2 = T.2.2.2.2.2 := fun hw X h1 h2 => ⟨(tNum_ok h1 hw (by rw [h2]; exact ho)).1, (tNum_ok h1 hw (by rw [h2]; exact ho)).2.trans h2⟩
  have fs : ∀ {c : Int}, ∀ X, gTO X → X.2.2.2.2.2 = T.2.2.2.2.2 → gTO (tSkip c X).2 ∧ (tSkip c X).2.2.2.2.2.2 = T.2.2.2.2.2 := fun X h1 h2 => ⟨(tSkip_ok h1).1, (tSkip_ok h1).2.trans h2⟩
  unfold tNums
  cases decide (k = 112) with
  | true => exact fn (by omega) T hT rfl
  | false =>
    dsimp only
    cases decide (k = 99) with
    | true => exact th (th (fd (by omega) T hT rfl) fs) (fd (by omega))
    | false =>
      dsimp only
      cases decide (k = 115) with
      | true =>
        have h9 := th (th (fn (w := 0) (by omega) T hT rfl) (fs (c := 45))) (fd (w := 1) (by omega))
        dsimp only
        unfold tTail
        cases (tThen (tThen (tNum 0 T) (tSkip 45)) (tDig 1)).1 && decide (tSg (tThen (tThen (tNum 0 T) (tSkip 45)) (tDig 1)).2 = 47) with
        | false => exact h9
        | true => exact th (fs _ h9.1 h9.2) (fn (by omega))
      | false => exact ⟨hT, rfl⟩
def tIs (k : Int) : Bool := decide (k = 112 ∨ k = 99 ∨ k = 115 ∨ k = 110)
def tMid (T : eTx) : Bool × eTx := match tIs (tSg T) with | false => (false, tIni T) | true => tThen (tSkip (tSg T) (tIni T)) (tNums (tSg T))
def tInc (T : eTx) : eTx := (T.1, T.2.1, T.2.2.1, T.2.2.2.1, T.2.2.2.2.1, T.2.2.2.2.2 + 1)
def tOrd (T : eTx) : Bool × eTx := match decide (T.2.2.2.2.2 < 30) with | false => (false, T) | true => ((tMid T).1, tInc (tMid T).2)
theorem tOrd_t {T : eTx} (h : T.2.2.2.2.2 < 30) : tOrd T = ((tMid T).1, tInc (tMid T).2) := by unfold tOrd; rw [decide_eq_true h]
theorem tOrd_f {T : eTx} (h : ¬ T.2.2.2.2.2 < 30) : tOrd T = (false, T) := by unfold tOrd; rw [decide_eq_false h]
theorem tMid_f {T : eTx} (h : ¬ (tSg T = 112 ∨ tSg T = 99 ∨ tSg T = 115 ∨ tSg T = 110)) : tMid T = (false, tIni T) := by unfold tMid; rw [show tIs (tSg T) = false from decide_eq_false h]
theorem tMid_t {T : eTx} (h : tSg T = 112 ∨ tSg T = 99 ∨ tSg T = 115 ∨ tSg T = 110) : tMid T = tThen (tSkip (tSg T) (tIni T)) (tNums (tSg T)) := by unfold tMid; rw [show tIs (tSg T) = true from decide_eq_true h]
theorem t_order {d N : Nat} {h : eHp} {t : Nat} {T : eTx} (ht : gT h t T) (hT : gTO T) (hN : t + 4 ≤ N)  : eSp (d + 5) eM_X3_readOrder [.ref t] N h (eChg (some (vI (eB01 (tOrd T).1))) N (fun h' => gT h' t (tOrd T).2 ∧ ∀ i, (i < t ∨ t + 3 < i) → h' i = h i)) := by
  refine eSp_of [(0, .ref t)] rfl rfl ?_
  have hs := tSg_le hT
  have h0 := hT.2.2.1
  refine eW_aload_n 1 rfl rfl rfl ?_
  refine eW_getfield 4 rfl rfl (Nat.ble_eq_true_of_le (by omega)) rfl (show h t = .inr (7, [.ref (t + 1), .ref (t + 2), .ref (t + 3), vI T.2.2.2.1, vI T.2.2.2.2.1, vI T.2.2.2.2.2]) from ht.1) rfl ⟨rfl, fun _ h9 => nomatch h9⟩ ?_
  refine eW_if_lt 7 rfl rfl (by unfold i32; omega) (fun c1 => absurd c1 (by omega)) (fun c1 => ?_)
  refine eW_aload_n 8 rfl rfl rfl ?_
  refine eW_getfield 11 rfl rfl (Nat.ble_eq_true_of_le (by omega)) rfl (show h t = .inr (7, [.ref (t + 1), .ref (t + 2), .ref (t + 3), vI T.2.2.2.1, vI T.2.2.2.2.1, vI T.2.2.2.2.2]) from ht.1) rfl ⟨rfl, fun _ h9 => nomatch h9⟩ ?_
  refine eW_bipush 13 rfl rfl 30 rfl ?_
  refine eW_icmp_lt 16 rfl rfl (by unfold i32; omega) (by unfold i32; omega) (fun c2 => ?_) (fun c2 => ?_)
  · refine eW_aload_n 19 rfl rfl rfl ?_
    refine eW_callV 22 [.ref t] [] [vI (tSg T)] rfl rfl rfl rfl (Nat.ble_eq_true_of_le (by omega)) (show h t = .inr (7, [.ref (t + 1), .ref (t + 2), .ref (t + 3), vI T.2.2.2.1, vI T.2.2.2.2.1, vI T.2.2.2.2.2]) from ht.1) rfl rfl rfl (t_sign (d := d + 3) ht hT hN) rfl rfl ?_
    refine eW_istore_n 23 rfl rfl [(1, vI (tSg T)), (0, .ref t)] rfl rfl ?_
    refine eW_aload_n 24 rfl rfl rfl ?_
    refine eW_getfield 27 rfl rfl (Nat.ble_eq_true_of_le (by omega)) rfl (show h t = .inr (7, [.ref (t + 1), .ref (t + 2), .ref (t + 3), vI T.2.2.2.1, vI T.2.2.2.2.1, vI T.2.2.2.2.2]) from ht.1) rfl ⟨rfl, fun _ h9 => nomatch h9⟩ ?_
    refine eW_aload_n 28 rfl rfl rfl ?_
    refine eW_getfield 31 rfl rfl (Nat.ble_eq_true_of_le (by omega)) rfl (show h t = .inr (7, [.ref (t + 1), .ref (t + 2), .ref (t + 3), vI T.2.2.2.1, vI T.2.2.2.2.1, vI T.2.2.2.2.2]) from ht.1) rfl ⟨rfl, fun _ h9 => nomatch h9⟩ ?_
    refine eW_iload_n 32 rfl rfl rfl ?_
    refine eW_castore 33 rfl rfl (Nat.ble_eq_true_of_le (by omega)) (show h (t + 2) = .inl (1, 30, .inl (eIA T.2.1)) from ht.2.2.1) (by omega) (by omega) (by unfold i32; omega) (tx_char hs) ?_
    intro h3 eh3 oh3
    have hth3 : gT h3 t (T.1, eUp T.2.1 T.2.2.2.2.2.toNat (tSg T), T.2.2.1, T.2.2.2.1, T.2.2.2.2.1, T.2.2.2.2.2) := gT_1 (T := (T.1, T.2.1, T.2.2.1, T.2.2.2.1, T.2.2.2.2.1, T.2.2.2.2.2)) ht eh3 oh3
    have uh3 : ∀ i, (i < t ∨ t + 3 < i) → h3 i = h i := fun i hi => (oh3 i (by omega)).trans ((fun _ _ => rfl) i hi)
    have okK : gTO (T.1, eUp T.2.1 T.2.2.2.2.2.toNat (tSg T), T.2.2.1, T.2.2.2.1, T.2.2.2.2.1, T.2.2.2.2.2) := tKd_ok hT (tSg_le hT)
    refine eW_iconst 34 rfl rfl ?_
    refine eW_istore_n 35 rfl rfl [(2, vI 0), (1, vI (tSg T)), (0, .ref t)] rfl rfl ?_
    refine eW_iload_n 36 rfl rfl rfl ?_
    refine eW_iconst 37 rfl rfl ?_
    refine eW_icmp_ge 40 rfl rfl (by unfold i32; omega) (by unfold i32; omega) (fun c4 => absurd c4 (by omega)) (fun c4 => ?_)
    refine eW_aload_n 41 rfl rfl rfl ?_
    refine eW_iload_n 42 rfl rfl rfl ?_
    refine eW_iconst 43 rfl rfl ?_
    refine eW_callVH 46 [.ref t, vI 0, vI (-1)] [] [] rfl rfl rfl rfl (Nat.ble_eq_true_of_le (by omega)) (show h3 t = .inr (7, [.ref (t + 1), .ref (t + 2), .ref (t + 3), vI T.2.2.2.1, vI T.2.2.2.2.1, vI T.2.2.2.2.2]) from hth3.1) rfl rfl rfl (t_setNumber (d := d + 3) (T := (T.1, eUp T.2.1 T.2.2.2.2.2.toNat (tSg T), T.2.2.1, T.2.2.2.1, T.2.2.2.2.1, T.2.2.2.2.2)) hth3 okK hN (by omega) (by show T.2.2.2.2.2 < 30; omega)) rfl rfl ?_
    intro h5 fh5
    have uh5 : ∀ i, (i < t ∨ t + 3 < i) → h5 i = h i := fun i hi => (fh5.2 i hi).trans (uh3 i hi)
    have okA : gTO (T.1, eUp T.2.1 T.2.2.2.2.2.toNat (tSg T), eUp T.2.2.1 (T.2.2.2.2.2 * 3 + 0).toNat (-1), T.2.2.2.1, T.2.2.2.2.1, T.2.2.2.2.2) := tSet_ok (T := (T.1, eUp T.2.1 T.2.2.2.2.2.toNat (tSg T), T.2.2.1, T.2.2.2.1, T.2.2.2.2.1, T.2.2.2.2.2)) okK (by omega) (by show T.2.2.2.2.2 < 30; omega) (by omega)
    refine eW_iinc 49 rfl rfl [(2, vI (0 + 1)), (1, vI (tSg T)), (0, .ref t)] rfl rfl rfl ?_
    refine eW_goto rfl ?_
    refine eW_iload_n 36 rfl rfl rfl ?_
    refine eW_iconst 37 rfl rfl ?_
    refine eW_icmp_ge 40 rfl rfl (by unfold i32; omega) (by unfold i32; omega) (fun c6 => absurd c6 (by omega)) (fun c6 => ?_)
    refine eW_aload_n 41 rfl rfl rfl ?_
    refine eW_iload_n 42 rfl rfl rfl ?_
    refine eW_iconst 43 rfl rfl ?_
    refine eW_callVH 46 [.ref t, vI (0 + 1), vI (-1)] [] [] rfl rfl rfl rfl (Nat.ble_eq_true_of_le (by omega)) (show h5 t = .inr (7, [.ref (t + 1), .ref (t + 2), .ref (t + 3), vI T.2.2.2.1, vI T.2.2.2.2.1, vI T.2.2.2.2.2]) from fh5.1.1) rfl rfl rfl (t_setNumber (d := d + 3) (T := (T.1, eUp T.2.1 T.2.2.2.2.2.toNat (tSg T), eUp T.2.2.1 (T.2.2.2.2.2 * 3 + 0).toNat (-1), T.2.2.2.1, T.2.2.2.2.1, T.2.2.2.2.2)) fh5.1 okA hN (by omega) (by show T.2.2.2.2.2 < 30; omega)) rfl rfl ?_
    intro h7 fh7
    have uh7 : ∀ i, (i < t ∨ t + 3 < i) → h7 i = h i := fun i hi => (fh7.2 i hi).trans (uh5 i hi)
    have okB : gTO (T.1, eUp T.2.1 T.2.2.2.2.2.toNat (tSg T), eUp (eUp T.2.2.1 (T.2.2.2.2.2 * 3 + 0).toNat (-1)) (T.2.2.2.2.2 * 3 + (0 + 1)).toNat (-1), T.2.2.2.1, T.2.2.2.2.1, T.2.2.2.2.2) := tSet_ok (T := (T.1, eUp T.2.1 T.2.2.2.2.2.toNat (tSg T), eUp T.2.2.1 (T.2.2.2.2.2 * 3 + 0).toNat (-1), T.2.2.2.1, T.2.2.2.2.1, T.2.2.2.2.2)) okA (by omega) (by show T.2.2.2.2.2 < 30; omega) (by omega)
    refine eW_iinc 49 rfl rfl [(2, vI ((0 + 1) + 1)), (1, vI (tSg T)), (0, .ref t)] rfl rfl rfl ?_
    refine eW_goto rfl ?_
    refine eW_iload_n 36 rfl rfl rfl ?_
    refine eW_iconst 37 rfl rfl ?_
    refine eW_icmp_ge 40 rfl rfl (by unfold i32; omega) (by unfold i32; omega) (fun c8 => absurd c8 (by omega)) (fun c8 => ?_)
    refine eW_aload_n 41 rfl rfl rfl ?_
    refine eW_iload_n 42 rfl rfl rfl ?_
    refine eW_iconst 43 rfl rfl ?_
    refine eW_callVH 46 [.ref t, vI ((0 + 1) + 1), vI (-1)] [] [] rfl rfl rfl rfl (Nat.ble_eq_true_of_le (by omega)) (show h7 t = .inr (7, [.ref (t + 1), .ref (t + 2), .ref (t + 3), vI T.2.2.2.1, vI T.2.2.2.2.1, vI T.2.2.2.2.2]) from fh7.1.1) rfl rfl rfl (t_setNumber (d := d + 3) (T := (T.1, eUp T.2.1 T.2.2.2.2.2.toNat (tSg T), eUp (eUp T.2.2.1 (T.2.2.2.2.2 * 3 + 0).toNat (-1)) (T.2.2.2.2.2 * 3 + (0 + 1)).toNat (-1), T.2.2.2.1, T.2.2.2.2.1, T.2.2.2.2.2)) fh7.1 okB hN (by omega) (by show T.2.2.2.2.2 < 30; omega)) rfl rfl ?_
    intro h9 fh9
    have uh9 : ∀ i, (i < t ∨ t + 3 < i) → h9 i = h i := fun i hi => (fh9.2 i hi).trans (uh7 i hi)
    have ht9 : gT h9 t (tIni T) := fh9.1
    have okI := tIni_ok hT (by omega)
    refine eW_iinc 49 rfl rfl [(2, vI (((0 + 1) + 1) + 1)), (1, vI (tSg T)), (0, .ref t)] rfl rfl rfl ?_
    refine eW_goto rfl ?_
    refine eW_iload_n 36 rfl rfl rfl ?_
    refine eW_iconst 37 rfl rfl ?_
    refine eW_icmp_ge 40 rfl rfl (by unfold i32; omega) (by unfold i32; omega) (fun c10 => ?_) (fun c10 => absurd c10 (by omega))
    refine eW_iload_n 53 rfl rfl rfl ?_
    refine eW_bipush 55 rfl rfl 112 rfl ?_
    refine eW_icmp_eq 58 rfl rfl (by unfold i32; omega) (by unfold i32; omega) (fun c11 => ?_) (fun c11 => ?_)
    · refine eW_aload_n 77 rfl rfl rfl ?_
      refine eW_iload_n 78 rfl rfl rfl ?_
      refine eW_callVH 81 [.ref t, vI (tSg T)] [] [vI (eB01 (tSkip (tSg T) (tIni T)).1)] rfl rfl rfl rfl (Nat.ble_eq_true_of_le (by omega)) (show h9 t = .inr (7, [.ref (t + 1), .ref (t + 2), .ref (t + 3), vI (((tIni T)).2.2.2.1), vI (((tIni T)).2.2.2.2.1), vI (((tIni T)).2.2.2.2.2)]) from ht9.1) rfl rfl rfl (t_skip (d := d + 2) ht9 okI hN (by unfold i32; omega)) rfl rfl ?_
      intro h12 fh12
      have uh12 : ∀ i, (i < t ∨ t + 3 < i) → h12 i = h i := fun i hi => (fh12.2 i hi).trans (uh9 i hi)
      have hb1 := eB01_c (tSkip (tSg T) (tIni T)).1
      have ok1 := (tSkip_ok (c := tSg T) okI).1
      have or1 : (tSkip (tSg T) (tIni T)).2.2.2.2.2.2 = T.2.2.2.2.2 := (tSkip_ok (c := tSg T) okI).2
      refine eW_if_eq 84 rfl rfl (by unfold i32; omega) (fun c13 => ?_) (fun c13 => ?_)
      · refine eW_iconst 97 rfl rfl ?_
        refine eW_istore_n 98 rfl rfl [(2, vI 0), (1, vI (tSg T)), (0, .ref t)] rfl rfl ?_
        refine eW_aload_n 99 rfl rfl rfl ?_
        refine eW_dup 100 rfl rfl rfl ?_
        refine eW_getfield 103 rfl rfl (Nat.ble_eq_true_of_le (by omega)) rfl (show h12 t = .inr (7, [.ref (t + 1), .ref (t + 2), .ref (t + 3), vI (((tSkip (tSg T) (tIni T)).2).2.2.2.1), vI (((tSkip (tSg T) (tIni T)).2).2.2.2.2.1), vI (((tSkip (tSg T) (tIni T)).2).2.2.2.2.2)]) from fh12.1.1) rfl ⟨rfl, fun _ h9 => nomatch h9⟩ ?_
        refine eW_iconst 104 rfl rfl ?_
        refine eW_iadd 105 rfl rfl ?_
        refine eW_putfield 108 [.ref (t + 1), .ref (t + 2), .ref (t + 3), vI (((tSkip (tSg T) (tIni T)).2).2.2.2.1), vI (((tSkip (tSg T) (tIni T)).2).2.2.2.2.1), vI ((((tSkip (tSg T) (tIni T)).2).2.2.2.2.2) + 1)] rfl rfl (Nat.ble_eq_true_of_le (by omega)) rfl (show h12 t = .inr (7, [.ref (t + 1), .ref (t + 2), .ref (t + 3), vI (((tSkip (tSg T) (tIni T)).2).2.2.2.1), vI (((tSkip (tSg T) (tIni T)).2).2.2.2.2.1), vI (((tSkip (tSg T) (tIni T)).2).2.2.2.2.2)]) from fh12.1.1) rfl rfl ?_
        intro h14 eh14 oh14
        have hth14 : gT h14 t (((tSkip (tSg T) (tIni T)).2).1, ((tSkip (tSg T) (tIni T)).2).2.1, ((tSkip (tSg T) (tIni T)).2).2.2.1, ((tSkip (tSg T) (tIni T)).2).2.2.2.1, ((tSkip (tSg T) (tIni T)).2).2.2.2.2.1, (((tSkip (tSg T) (tIni T)).2).2.2.2.2.2) + 1) := gT_o (T := (((tSkip (tSg T) (tIni T)).2).1, ((tSkip (tSg T) (tIni T)).2).2.1, ((tSkip (tSg T) (tIni T)).2).2.2.1, ((tSkip (tSg T) (tIni T)).2).2.2.2.1, ((tSkip (tSg T) (tIni T)).2).2.2.2.2.1, ((tSkip (tSg T) (tIni T)).2).2.2.2.2.2)) fh12.1 eh14 oh14 rfl rfl rfl
        have uh14 : ∀ i, (i < t ∨ t + 3 < i) → h14 i = h i := fun i hi => (oh14 i (by omega)).trans (uh12 i hi)
        refine eW_iload_n 109 rfl rfl rfl ?_
        refine eW_ret_i rfl rfl (Or.inr (Or.inl ⟨rfl, rfl⟩)) ?_
        have k1 : (tSkip (tSg T) (tIni T)).1 = false := by rcases hb1 with hb1 | hb1 <;> first | exact hb1.1 | (exfalso; omega)
        refine ⟨_, ?_, ?_, uh14⟩
        · rw [tOrd_t (by omega), tMid_t (by omega), tThen_f k1]; dsimp only; rw [k1]; rfl
        · rw [tOrd_t (by omega), tMid_t (by omega), tThen_f k1]; exact hth14
      · refine eW_aload_n 85 rfl rfl rfl ?_
        refine eW_iload_n 86 rfl rfl rfl ?_
        refine eW_callVH 89 [.ref t, vI (tSg T)] [] [vI (eB01 (tNums (tSg T) (tSkip (tSg T) (tIni T)).2).1)] rfl rfl rfl rfl (Nat.ble_eq_true_of_le (by omega)) (show h12 t = .inr (7, [.ref (t + 1), .ref (t + 2), .ref (t + 3), vI (((tSkip (tSg T) (tIni T)).2).2.2.2.1), vI (((tSkip (tSg T) (tIni T)).2).2.2.2.2.1), vI (((tSkip (tSg T) (tIni T)).2).2.2.2.2.2)]) from fh12.1.1) rfl rfl rfl (t_nums (d := d) fh12.1 ok1 hN (by unfold i32; omega) (by rw [or1]; show T.2.2.2.2.2 < 30; omega)) rfl rfl ?_
        intro h15 fh15
        have uh15 : ∀ i, (i < t ∨ t + 3 < i) → h15 i = h i := fun i hi => (fh15.2 i hi).trans (uh12 i hi)
        have hb2 := eB01_c (tNums (tSg T) (tSkip (tSg T) (tIni T)).2).1
        have ok2 := (tNums_ok (k := tSg T) ok1 (by rw [or1]; show T.2.2.2.2.2 < 30; omega)).1
        have or2 : (tNums (tSg T) (tSkip (tSg T) (tIni T)).2).2.2.2.2.2.2 = T.2.2.2.2.2 := (tNums_ok (k := tSg T) ok1 (by rw [or1]; show T.2.2.2.2.2 < 30; omega)).2.trans or1
        refine eW_if_eq 92 rfl rfl (by unfold i32; omega) (fun c16 => ?_) (fun c16 => ?_)
        · refine eW_iconst 97 rfl rfl ?_
          refine eW_istore_n 98 rfl rfl [(2, vI 0), (1, vI (tSg T)), (0, .ref t)] rfl rfl ?_
          refine eW_aload_n 99 rfl rfl rfl ?_
          refine eW_dup 100 rfl rfl rfl ?_
          refine eW_getfield 103 rfl rfl (Nat.ble_eq_true_of_le (by omega)) rfl (show h15 t = .inr (7, [.ref (t + 1), .ref (t + 2), .ref (t + 3), vI (((tNums (tSg T) (tSkip (tSg T) (tIni T)).2).2).2.2.2.1), vI (((tNums (tSg T) (tSkip (tSg T) (tIni T)).2).2).2.2.2.2.1), vI (((tNums (tSg T) (tSkip (tSg T) (tIni T)).2).2).2.2.2.2.2)]) from fh15.1.1) rfl ⟨rfl, fun _ h9 => nomatch h9⟩ ?_
          refine eW_iconst 104 rfl rfl ?_
          refine eW_iadd 105 rfl rfl ?_
          refine eW_putfield 108 [.ref (t + 1), .ref (t + 2), .ref (t + 3), vI (((tNums (tSg T) (tSkip (tSg T) (tIni T)).2).2).2.2.2.1), vI (((tNums (tSg T) (tSkip (tSg T) (tIni T)).2).2).2.2.2.2.1), vI ((((tNums (tSg T) (tSkip (tSg T) (tIni T)).2).2).2.2.2.2.2) + 1)] rfl rfl (Nat.ble_eq_true_of_le (by omega)) rfl (show h15 t = .inr (7, [.ref (t + 1), .ref (t + 2), .ref (t + 3), vI (((tNums (tSg T) (tSkip (tSg T) (tIni T)).2).2).2.2.2.1), vI (((tNums (tSg T) (tSkip (tSg T) (tIni T)).2).2).2.2.2.2.1), vI (((tNums (tSg T) (tSkip (tSg T) (tIni T)).2).2).2.2.2.2.2)]) from fh15.1.1) rfl rfl ?_
          intro h17 eh17 oh17
          have hth17 : gT h17 t (((tNums (tSg T) (tSkip (tSg T) (tIni T)).2).2).1, ((tNums (tSg T) (tSkip (tSg T) (tIni T)).2).2).2.1, ((tNums (tSg T) (tSkip (tSg T) (tIni T)).2).2).2.2.1, ((tNums (tSg T) (tSkip (tSg T) (tIni T)).2).2).2.2.2.1, ((tNums (tSg T) (tSkip (tSg T) (tIni T)).2).2).2.2.2.2.1, (((tNums (tSg T) (tSkip (tSg T) (tIni T)).2).2).2.2.2.2.2) + 1) := gT_o (T := (((tNums (tSg T) (tSkip (tSg T) (tIni T)).2).2).1, ((tNums (tSg T) (tSkip (tSg T) (tIni T)).2).2).2.1, ((tNums (tSg T) (tSkip (tSg T) (tIni T)).2).2).2.2.1, ((tNums (tSg T) (tSkip (tSg T) (tIni T)).2).2).2.2.2.1, ((tNums (tSg T) (tSkip (tSg T) (tIni T)).2).2).2.2.2.2.1, ((tNums (tSg T) (tSkip (tSg T) (tIni T)).2).2).2.2.2.2.2)) fh15.1 eh17 oh17 rfl rfl rfl
          have uh17 : ∀ i, (i < t ∨ t + 3 < i) → h17 i = h i := fun i hi => (oh17 i (by omega)).trans (uh15 i hi)
          refine eW_iload_n 109 rfl rfl rfl ?_
          refine eW_ret_i rfl rfl (Or.inr (Or.inl ⟨rfl, rfl⟩)) ?_
          have k1 : (tSkip (tSg T) (tIni T)).1 = true := by rcases hb1 with hb1 | hb1 <;> first | exact hb1.1 | (exfalso; omega)
          have k2 : (tNums (tSg T) (tSkip (tSg T) (tIni T)).2).1 = false := by rcases hb2 with hb2 | hb2 <;> first | exact hb2.1 | (exfalso; omega)
          refine ⟨_, ?_, ?_, uh17⟩
          · rw [tOrd_t (by omega), tMid_t (by omega), tThen_t k1]; dsimp only; rw [k2]; rfl
          · rw [tOrd_t (by omega), tMid_t (by omega), tThen_t k1]; exact hth17
        · refine eW_iconst 93 rfl rfl ?_
          refine eW_goto rfl ?_
          refine eW_istore_n 98 rfl rfl [(2, vI 1), (1, vI (tSg T)), (0, .ref t)] rfl rfl ?_
          refine eW_aload_n 99 rfl rfl rfl ?_
          refine eW_dup 100 rfl rfl rfl ?_
          refine eW_getfield 103 rfl rfl (Nat.ble_eq_true_of_le (by omega)) rfl (show h15 t = .inr (7, [.ref (t + 1), .ref (t + 2), .ref (t + 3), vI (((tNums (tSg T) (tSkip (tSg T) (tIni T)).2).2).2.2.2.1), vI (((tNums (tSg T) (tSkip (tSg T) (tIni T)).2).2).2.2.2.2.1), vI (((tNums (tSg T) (tSkip (tSg T) (tIni T)).2).2).2.2.2.2.2)]) from fh15.1.1) rfl ⟨rfl, fun _ h9 => nomatch h9⟩ ?_
          refine eW_iconst 104 rfl rfl ?_
          refine eW_iadd 105 rfl rfl ?_
          refine eW_putfield 108 [.ref (t + 1), .ref (t + 2), .ref (t + 3), vI (((tNums (tSg T) (tSkip (tSg T) (tIni T)).2).2).2.2.2.1), vI (((tNums (tSg T) (tSkip (tSg T) (tIni T)).2).2).2.2.2.2.1), vI ((((tNums (tSg T) (tSkip (tSg T) (tIni T)).2).2).2.2.2.2.2) + 1)] rfl rfl (Nat.ble_eq_true_of_le (by omega)) rfl (show h15 t = .inr (7, [.ref (t + 1), .ref (t + 2), .ref (t + 3), vI (((tNums (tSg T) (tSkip (tSg T) (tIni T)).2).2).2.2.2.1), vI (((tNums (tSg T) (tSkip (tSg T) (tIni T)).2).2).2.2.2.2.1), vI (((tNums (tSg T) (tSkip (tSg T) (tIni T)).2).2).2.2.2.2.2)]) from fh15.1.1) rfl rfl ?_
          intro h18 eh18 oh18
          have hth18 : gT h18 t (((tNums (tSg T) (tSkip (tSg T) (tIni T)).2).2).1, ((tNums (tSg T) (tSkip (tSg T) (tIni T)).2).2).2.1, ((tNums (tSg T) (tSkip (tSg T) (tIni T)).2).2).2.2.1, ((tNums (tSg T) (tSkip (tSg T) (tIni T)).2).2).2.2.2.1, ((tNums (tSg T) (tSkip (tSg T) (tIni T)).2).2).2.2.2.2.1, (((tNums (tSg T) (tSkip (tSg T) (tIni T)).2).2).2.2.2.2.2) + 1) := gT_o (T := (((tNums (tSg T) (tSkip (tSg T) (tIni T)).2).2).1, ((tNums (tSg T) (tSkip (tSg T) (tIni T)).2).2).2.1, ((tNums (tSg T) (tSkip (tSg T) (tIni T)).2).2).2.2.1, ((tNums (tSg T) (tSkip (tSg T) (tIni T)).2).2).2.2.2.1, ((tNums (tSg T) (tSkip (tSg T) (tIni T)).2).2).2.2.2.2.1, ((tNums (tSg T) (tSkip (tSg T) (tIni T)).2).2).2.2.2.2.2)) fh15.1 eh18 oh18 rfl rfl rfl
          have uh18 : ∀ i, (i < t ∨ t + 3 < i) → h18 i = h i := fun i hi => (oh18 i (by omega)).trans (uh15 i hi)
          refine eW_iload_n 109 rfl rfl rfl ?_
          refine eW_ret_i rfl rfl (Or.inr (Or.inl ⟨rfl, rfl⟩)) ?_
          have k1 : (tSkip (tSg T) (tIni T)).1 = true := by rcases hb1 with hb1 | hb1 <;> first | exact hb1.1 | (exfalso; omega)
          have k2 : (tNums (tSg T) (tSkip (tSg T) (tIni T)).2).1 = true := by rcases hb2 with hb2 | hb2 <;> first | exact hb2.1 | (exfalso; omega)
          refine ⟨_, ?_, ?_, uh18⟩
          · rw [tOrd_t (by omega), tMid_t (by omega), tThen_t k1]; dsimp only; rw [k2]; rfl
          · rw [tOrd_t (by omega), tMid_t (by omega), tThen_t k1]; exact hth18
    · refine eW_iload_n 59 rfl rfl rfl ?_
      refine eW_bipush 61 rfl rfl 99 rfl ?_
      refine eW_icmp_eq 64 rfl rfl (by unfold i32; omega) (by unfold i32; omega) (fun c19 => ?_) (fun c19 => ?_)
      · refine eW_aload_n 77 rfl rfl rfl ?_
        refine eW_iload_n 78 rfl rfl rfl ?_
        refine eW_callVH 81 [.ref t, vI (tSg T)] [] [vI (eB01 (tSkip (tSg T) (tIni T)).1)] rfl rfl rfl rfl (Nat.ble_eq_true_of_le (by omega)) (show h9 t = .inr (7, [.ref (t + 1), .ref (t + 2), .ref (t + 3), vI (((tIni T)).2.2.2.1), vI (((tIni T)).2.2.2.2.1), vI (((tIni T)).2.2.2.2.2)]) from ht9.1) rfl rfl rfl (t_skip (d := d + 2) ht9 okI hN (by unfold i32; omega)) rfl rfl ?_
        intro h20 fh20
        have uh20 : ∀ i, (i < t ∨ t + 3 < i) → h20 i = h i := fun i hi => (fh20.2 i hi).trans (uh9 i hi)
        have hb3 := eB01_c (tSkip (tSg T) (tIni T)).1
        have ok3 := (tSkip_ok (c := tSg T) okI).1
        have or3 : (tSkip (tSg T) (tIni T)).2.2.2.2.2.2 = T.2.2.2.2.2 := (tSkip_ok (c := tSg T) okI).2
        refine eW_if_eq 84 rfl rfl (by unfold i32; omega) (fun c21 => ?_) (fun c21 => ?_)
        · refine eW_iconst 97 rfl rfl ?_
          refine eW_istore_n 98 rfl rfl [(2, vI 0), (1, vI (tSg T)), (0, .ref t)] rfl rfl ?_
          refine eW_aload_n 99 rfl rfl rfl ?_
          refine eW_dup 100 rfl rfl rfl ?_
          refine eW_getfield 103 rfl rfl (Nat.ble_eq_true_of_le (by omega)) rfl (show h20 t = .inr (7, [.ref (t + 1), .ref (t + 2), .ref (t + 3), vI (((tSkip (tSg T) (tIni T)).2).2.2.2.1), vI (((tSkip (tSg T) (tIni T)).2).2.2.2.2.1), vI (((tSkip (tSg T) (tIni T)).2).2.2.2.2.2)]) from fh20.1.1) rfl ⟨rfl, fun _ h9 => nomatch h9⟩ ?_
          refine eW_iconst 104 rfl rfl ?_
          refine eW_iadd 105 rfl rfl ?_
          refine eW_putfield 108 [.ref (t + 1), .ref (t + 2), .ref (t + 3), vI (((tSkip (tSg T) (tIni T)).2).2.2.2.1), vI (((tSkip (tSg T) (tIni T)).2).2.2.2.2.1), vI ((((tSkip (tSg T) (tIni T)).2).2.2.2.2.2) + 1)] rfl rfl (Nat.ble_eq_true_of_le (by omega)) rfl (show h20 t = .inr (7, [.ref (t + 1), .ref (t + 2), .ref (t + 3), vI (((tSkip (tSg T) (tIni T)).2).2.2.2.1), vI (((tSkip (tSg T) (tIni T)).2).2.2.2.2.1), vI (((tSkip (tSg T) (tIni T)).2).2.2.2.2.2)]) from fh20.1.1) rfl rfl ?_
          intro h22 eh22 oh22
          have hth22 : gT h22 t (((tSkip (tSg T) (tIni T)).2).1, ((tSkip (tSg T) (tIni T)).2).2.1, ((tSkip (tSg T) (tIni T)).2).2.2.1, ((tSkip (tSg T) (tIni T)).2).2.2.2.1, ((tSkip (tSg T) (tIni T)).2).2.2.2.2.1, (((tSkip (tSg T) (tIni T)).2).2.2.2.2.2) + 1) := gT_o (T := (((tSkip (tSg T) (tIni T)).2).1, ((tSkip (tSg T) (tIni T)).2).2.1, ((tSkip (tSg T) (tIni T)).2).2.2.1, ((tSkip (tSg T) (tIni T)).2).2.2.2.1, ((tSkip (tSg T) (tIni T)).2).2.2.2.2.1, ((tSkip (tSg T) (tIni T)).2).2.2.2.2.2)) fh20.1 eh22 oh22 rfl rfl rfl
          have uh22 : ∀ i, (i < t ∨ t + 3 < i) → h22 i = h i := fun i hi => (oh22 i (by omega)).trans (uh20 i hi)
          refine eW_iload_n 109 rfl rfl rfl ?_
          refine eW_ret_i rfl rfl (Or.inr (Or.inl ⟨rfl, rfl⟩)) ?_
          have k1 : (tSkip (tSg T) (tIni T)).1 = false := by rcases hb3 with hb3 | hb3 <;> first | exact hb3.1 | (exfalso; omega)
          refine ⟨_, ?_, ?_, uh22⟩
          · rw [tOrd_t (by omega), tMid_t (by omega), tThen_f k1]; dsimp only; rw [k1]; rfl
          · rw [tOrd_t (by omega), tMid_t (by omega), tThen_f k1]; exact hth22
        · refine eW_aload_n 85 rfl rfl rfl ?_
          refine eW_iload_n 86 rfl rfl rfl ?_
          refine eW_callVH 89 [.ref t, vI (tSg T)] [] [vI (eB01 (tNums (tSg T) (tSkip (tSg T) (tIni T)).2).1)] rfl rfl rfl rfl (Nat.ble_eq_true_of_le (by omega)) (show h20 t = .inr (7, [.ref (t + 1), .ref (t + 2), .ref (t + 3), vI (((tSkip (tSg T) (tIni T)).2).2.2.2.1), vI (((tSkip (tSg T) (tIni T)).2).2.2.2.2.1), vI (((tSkip (tSg T) (tIni T)).2).2.2.2.2.2)]) from fh20.1.1) rfl rfl rfl (t_nums (d := d) fh20.1 ok3 hN (by unfold i32; omega) (by rw [or3]; show T.2.2.2.2.2 < 30; omega)) rfl rfl ?_
          intro h23 fh23
          have uh23 : ∀ i, (i < t ∨ t + 3 < i) → h23 i = h i := fun i hi => (fh23.2 i hi).trans (uh20 i hi)
          have hb4 := eB01_c (tNums (tSg T) (tSkip (tSg T) (tIni T)).2).1
          have ok4 := (tNums_ok (k := tSg T) ok3 (by rw [or3]; show T.2.2.2.2.2 < 30; omega)).1
          have or4 : (tNums (tSg T) (tSkip (tSg T) (tIni T)).2).2.2.2.2.2.2 = T.2.2.2.2.2 := (tNums_ok (k := tSg T) ok3 (by rw [or3]; show T.2.2.2.2.2 < 30; omega)).2.trans or3
          refine eW_if_eq 92 rfl rfl (by unfold i32; omega) (fun c24 => ?_) (fun c24 => ?_)
          · refine eW_iconst 97 rfl rfl ?_
            refine eW_istore_n 98 rfl rfl [(2, vI 0), (1, vI (tSg T)), (0, .ref t)] rfl rfl ?_
            refine eW_aload_n 99 rfl rfl rfl ?_
            refine eW_dup 100 rfl rfl rfl ?_
            refine eW_getfield 103 rfl rfl (Nat.ble_eq_true_of_le (by omega)) rfl (show h23 t = .inr (7, [.ref (t + 1), .ref (t + 2), .ref (t + 3), vI (((tNums (tSg T) (tSkip (tSg T) (tIni T)).2).2).2.2.2.1), vI (((tNums (tSg T) (tSkip (tSg T) (tIni T)).2).2).2.2.2.2.1), vI (((tNums (tSg T) (tSkip (tSg T) (tIni T)).2).2).2.2.2.2.2)]) from fh23.1.1) rfl ⟨rfl, fun _ h9 => nomatch h9⟩ ?_
            refine eW_iconst 104 rfl rfl ?_
            refine eW_iadd 105 rfl rfl ?_
            refine eW_putfield 108 [.ref (t + 1), .ref (t + 2), .ref (t + 3), vI (((tNums (tSg T) (tSkip (tSg T) (tIni T)).2).2).2.2.2.1), vI (((tNums (tSg T) (tSkip (tSg T) (tIni T)).2).2).2.2.2.2.1), vI ((((tNums (tSg T) (tSkip (tSg T) (tIni T)).2).2).2.2.2.2.2) + 1)] rfl rfl (Nat.ble_eq_true_of_le (by omega)) rfl (show h23 t = .inr (7, [.ref (t + 1), .ref (t + 2), .ref (t + 3), vI (((tNums (tSg T) (tSkip (tSg T) (tIni T)).2).2).2.2.2.1), vI (((tNums (tSg T) (tSkip (tSg T) (tIni T)).2).2).2.2.2.2.1), vI (((tNums (tSg T) (tSkip (tSg T) (tIni T)).2).2).2.2.2.2.2)]) from fh23.1.1) rfl rfl ?_
            intro h25 eh25 oh25
            have hth25 : gT h25 t (((tNums (tSg T) (tSkip (tSg T) (tIni T)).2).2).1, ((tNums (tSg T) (tSkip (tSg T) (tIni T)).2).2).2.1, ((tNums (tSg T) (tSkip (tSg T) (tIni T)).2).2).2.2.1, ((tNums (tSg T) (tSkip (tSg T) (tIni T)).2).2).2.2.2.1, ((tNums (tSg T) (tSkip (tSg T) (tIni T)).2).2).2.2.2.2.1, (((tNums (tSg T) (tSkip (tSg T) (tIni T)).2).2).2.2.2.2.2) + 1) := gT_o (T := (((tNums (tSg T) (tSkip (tSg T) (tIni T)).2).2).1, ((tNums (tSg T) (tSkip (tSg T) (tIni T)).2).2).2.1, ((tNums (tSg T) (tSkip (tSg T) (tIni T)).2).2).2.2.1, ((tNums (tSg T) (tSkip (tSg T) (tIni T)).2).2).2.2.2.1, ((tNums (tSg T) (tSkip (tSg T) (tIni T)).2).2).2.2.2.2.1, ((tNums (tSg T) (tSkip (tSg T) (tIni T)).2).2).2.2.2.2.2)) fh23.1 eh25 oh25 rfl rfl rfl
            have uh25 : ∀ i, (i < t ∨ t + 3 < i) → h25 i = h i := fun i hi => (oh25 i (by omega)).trans (uh23 i hi)
            refine eW_iload_n 109 rfl rfl rfl ?_
            refine eW_ret_i rfl rfl (Or.inr (Or.inl ⟨rfl, rfl⟩)) ?_
            have k1 : (tSkip (tSg T) (tIni T)).1 = true := by rcases hb3 with hb3 | hb3 <;> first | exact hb3.1 | (exfalso; omega)
            have k2 : (tNums (tSg T) (tSkip (tSg T) (tIni T)).2).1 = false := by rcases hb4 with hb4 | hb4 <;> first | exact hb4.1 | (exfalso; omega)
            refine ⟨_, ?_, ?_, uh25⟩
            · rw [tOrd_t (by omega), tMid_t (by omega), tThen_t k1]; dsimp only; rw [k2]; rfl
            · rw [tOrd_t (by omega), tMid_t (by omega), tThen_t k1]; exact hth25
          · refine eW_iconst 93 rfl rfl ?_
            refine eW_goto rfl ?_
            refine eW_istore_n 98 rfl rfl [(2, vI 1), (1, vI (tSg T)), (0, .ref t)] rfl rfl ?_
            refine eW_aload_n 99 rfl rfl rfl ?_
            refine eW_dup 100 rfl rfl rfl ?_
            refine eW_getfield 103 rfl rfl (Nat.ble_eq_true_of_le (by omega)) rfl (show h23 t = .inr (7, [.ref (t + 1), .ref (t + 2), .ref (t + 3), vI (((tNums (tSg T) (tSkip (tSg T) (tIni T)).2).2).2.2.2.1), vI (((tNums (tSg T) (tSkip (tSg T) (tIni T)).2).2).2.2.2.2.1), vI (((tNums (tSg T) (tSkip (tSg T) (tIni T)).2).2).2.2.2.2.2)]) from fh23.1.1) rfl ⟨rfl, fun _ h9 => nomatch h9⟩ ?_
            refine eW_iconst 104 rfl rfl ?_
            refine eW_iadd 105 rfl rfl ?_
            refine eW_putfield 108 [.ref (t + 1), .ref (t + 2), .ref (t + 3), vI (((tNums (tSg T) (tSkip (tSg T) (tIni T)).2).2).2.2.2.1), vI (((tNums (tSg T) (tSkip (tSg T) (tIni T)).2).2).2.2.2.2.1), vI ((((tNums (tSg T) (tSkip (tSg T) (tIni T)).2).2).2.2.2.2.2) + 1)] rfl rfl (Nat.ble_eq_true_of_le (by omega)) rfl (show h23 t = .inr (7, [.ref (t + 1), .ref (t + 2), .ref (t + 3), vI (((tNums (tSg T) (tSkip (tSg T) (tIni T)).2).2).2.2.2.1), vI (((tNums (tSg T) (tSkip (tSg T) (tIni T)).2).2).2.2.2.2.1), vI (((tNums (tSg T) (tSkip (tSg T) (tIni T)).2).2).2.2.2.2.2)]) from fh23.1.1) rfl rfl ?_
            intro h26 eh26 oh26
            have hth26 : gT h26 t (((tNums (tSg T) (tSkip (tSg T) (tIni T)).2).2).1, ((tNums (tSg T) (tSkip (tSg T) (tIni T)).2).2).2.1, ((tNums (tSg T) (tSkip (tSg T) (tIni T)).2).2).2.2.1, ((tNums (tSg T) (tSkip (tSg T) (tIni T)).2).2).2.2.2.1, ((tNums (tSg T) (tSkip (tSg T) (tIni T)).2).2).2.2.2.2.1, (((tNums (tSg T) (tSkip (tSg T) (tIni T)).2).2).2.2.2.2.2) + 1) := gT_o (T := (((tNums (tSg T) (tSkip (tSg T) (tIni T)).2).2).1, ((tNums (tSg T) (tSkip (tSg T) (tIni T)).2).2).2.1, ((tNums (tSg T) (tSkip (tSg T) (tIni T)).2).2).2.2.1, ((tNums (tSg T) (tSkip (tSg T) (tIni T)).2).2).2.2.2.1, ((tNums (tSg T) (tSkip (tSg T) (tIni T)).2).2).2.2.2.2.1, ((tNums (tSg T) (tSkip (tSg T) (tIni T)).2).2).2.2.2.2.2)) fh23.1 eh26 oh26 rfl rfl rfl
            have uh26 : ∀ i, (i < t ∨ t + 3 < i) → h26 i = h i := fun i hi => (oh26 i (by omega)).trans (uh23 i hi)
            refine eW_iload_n 109 rfl rfl rfl ?_
            refine eW_ret_i rfl rfl (Or.inr (Or.inl ⟨rfl, rfl⟩)) ?_
            have k1 : (tSkip (tSg T) (tIni T)).1 = true := by rcases hb3 with hb3 | hb3 <;> first | exact hb3.1 | (exfalso; omega)
            have k2 : (tNums (tSg T) (tSkip (tSg T) (tIni T)).2).1 = true := by rcases hb4 with hb4 | hb4 <;> first | exact hb4.1 | (exfalso; omega)
            refine ⟨_, ?_, ?_, uh26⟩
            · rw [tOrd_t (by omega), tMid_t (by omega), tThen_t k1]; dsimp only; rw [k2]; rfl
            · rw [tOrd_t (by omega), tMid_t (by omega), tThen_t k1]; exact hth26
      · refine eW_iload_n 65 rfl rfl rfl ?_
        refine eW_bipush 67 rfl rfl 115 rfl ?_
        refine eW_icmp_eq 70 rfl rfl (by unfold i32; omega) (by unfold i32; omega) (fun c27 => ?_) (fun c27 => ?_)
        · refine eW_aload_n 77 rfl rfl rfl ?_
          refine eW_iload_n 78 rfl rfl rfl ?_
          refine eW_callVH 81 [.ref t, vI (tSg T)] [] [vI (eB01 (tSkip (tSg T) (tIni T)).1)] rfl rfl rfl rfl (Nat.ble_eq_true_of_le (by omega)) (show h9 t = .inr (7, [.ref (t + 1), .ref (t + 2), .ref (t + 3), vI (((tIni T)).2.2.2.1), vI (((tIni T)).2.2.2.2.1), vI (((tIni T)).2.2.2.2.2)]) from ht9.1) rfl rfl rfl (t_skip (d := d + 2) ht9 okI hN (by unfold i32; omega)) rfl rfl ?_
          intro h28 fh28
          have uh28 : ∀ i, (i < t ∨ t + 3 < i) → h28 i = h i := fun i hi => (fh28.2 i hi).trans (uh9 i hi)
          have hb5 := eB01_c (tSkip (tSg T) (tIni T)).1
          have ok5 := (tSkip_ok (c := tSg T) okI).1
          have or5 : (tSkip (tSg T) (tIni T)).2.2.2.2.2.2 = T.2.2.2.2.2 := (tSkip_ok (c := tSg T) okI).2
          refine eW_if_eq 84 rfl rfl (by unfold i32; omega) (fun c29 => ?_) (fun c29 => ?_)
          · refine eW_iconst 97 rfl rfl ?_
            refine eW_istore_n 98 rfl rfl [(2, vI 0), (1, vI (tSg T)), (0, .ref t)] rfl rfl ?_
            refine eW_aload_n 99 rfl rfl rfl ?_
            refine eW_dup 100 rfl rfl rfl ?_
            refine eW_getfield 103 rfl rfl (Nat.ble_eq_true_of_le (by omega)) rfl (show h28 t = .inr (7, [.ref (t + 1), .ref (t + 2), .ref (t + 3), vI (((tSkip (tSg T) (tIni T)).2).2.2.2.1), vI (((tSkip (tSg T) (tIni T)).2).2.2.2.2.1), vI (((tSkip (tSg T) (tIni T)).2).2.2.2.2.2)]) from fh28.1.1) rfl ⟨rfl, fun _ h9 => nomatch h9⟩ ?_
            refine eW_iconst 104 rfl rfl ?_
            refine eW_iadd 105 rfl rfl ?_
            refine eW_putfield 108 [.ref (t + 1), .ref (t + 2), .ref (t + 3), vI (((tSkip (tSg T) (tIni T)).2).2.2.2.1), vI (((tSkip (tSg T) (tIni T)).2).2.2.2.2.1), vI ((((tSkip (tSg T) (tIni T)).2).2.2.2.2.2) + 1)] rfl rfl (Nat.ble_eq_true_of_le (by omega)) rfl (show h28 t = .inr (7, [.ref (t + 1), .ref (t + 2), .ref (t + 3), vI (((tSkip (tSg T) (tIni T)).2).2.2.2.1), vI (((tSkip (tSg T) (tIni T)).2).2.2.2.2.1), vI (((tSkip (tSg T) (tIni T)).2).2.2.2.2.2)]) from fh28.1.1) rfl rfl ?_
            intro h30 eh30 oh30
            have hth30 : gT h30 t (((tSkip (tSg T) (tIni T)).2).1, ((tSkip (tSg T) (tIni T)).2).2.1, ((tSkip (tSg T) (tIni T)).2).2.2.1, ((tSkip (tSg T) (tIni T)).2).2.2.2.1, ((tSkip (tSg T) (tIni T)).2).2.2.2.2.1, (((tSkip (tSg T) (tIni T)).2).2.2.2.2.2) + 1) := gT_o (T := (((tSkip (tSg T) (tIni T)).2).1, ((tSkip (tSg T) (tIni T)).2).2.1, ((tSkip (tSg T) (tIni T)).2).2.2.1, ((tSkip (tSg T) (tIni T)).2).2.2.2.1, ((tSkip (tSg T) (tIni T)).2).2.2.2.2.1, ((tSkip (tSg T) (tIni T)).2).2.2.2.2.2)) fh28.1 eh30 oh30 rfl rfl rfl
            have uh30 : ∀ i, (i < t ∨ t + 3 < i) → h30 i = h i := fun i hi => (oh30 i (by omega)).trans (uh28 i hi)
            refine eW_iload_n 109 rfl rfl rfl ?_
            refine eW_ret_i rfl rfl (Or.inr (Or.inl ⟨rfl, rfl⟩)) ?_
            have k1 : (tSkip (tSg T) (tIni T)).1 = false := by rcases hb5 with hb5 | hb5 <;> first | exact hb5.1 | (exfalso; omega)
            refine ⟨_, ?_, ?_, uh30⟩
            · rw [tOrd_t (by omega), tMid_t (by omega), tThen_f k1]; dsimp only; rw [k1]; rfl
            · rw [tOrd_t (by omega), tMid_t (by omega), tThen_f k1]; exact hth30
          · refine eW_aload_n 85 rfl rfl rfl ?_
            refine eW_iload_n 86 rfl rfl rfl ?_
            refine eW_callVH 89 [.ref t, vI (tSg T)] [] [vI (eB01 (tNums (tSg T) (tSkip (tSg T) (tIni T)).2).1)] rfl rfl rfl rfl (Nat.ble_eq_true_of_le (by omega)) (show h28 t = .inr (7, [.ref (t + 1), .ref (t + 2), .ref (t + 3), vI (((tSkip (tSg T) (tIni T)).2).2.2.2.1), vI (((tSkip (tSg T) (tIni T)).2).2.2.2.2.1), vI (((tSkip (tSg T) (tIni T)).2).2.2.2.2.2)]) from fh28.1.1) rfl rfl rfl (t_nums (d := d) fh28.1 ok5 hN (by unfold i32; omega) (by rw [or5]; show T.2.2.2.2.2 < 30; omega)) rfl rfl ?_
            intro h31 fh31
            have uh31 : ∀ i, (i < t ∨ t + 3 < i) → h31 i = h i := fun i hi => (fh31.2 i hi).trans (uh28 i hi)
            have hb6 := eB01_c (tNums (tSg T) (tSkip (tSg T) (tIni T)).2).1
            have ok6 := (tNums_ok (k := tSg T) ok5 (by rw [or5]; show T.2.2.2.2.2 < 30; omega)).1
            have or6 : (tNums (tSg T) (tSkip (tSg T) (tIni T)).2).2.2.2.2.2.2 = T.2.2.2.2.2 := (tNums_ok (k := tSg T) ok5 (by rw [or5]; show T.2.2.2.2.2 < 30; omega)).2.trans or5
            refine eW_if_eq 92 rfl rfl (by unfold i32; omega) (fun c32 => ?_) (fun c32 => ?_)
            · refine eW_iconst 97 rfl rfl ?_
              refine eW_istore_n 98 rfl rfl [(2, vI 0), (1, vI (tSg T)), (0, .ref t)] rfl rfl ?_
              refine eW_aload_n 99 rfl rfl rfl ?_
              refine eW_dup 100 rfl rfl rfl ?_
              refine eW_getfield 103 rfl rfl (Nat.ble_eq_true_of_le (by omega)) rfl (show h31 t = .inr (7, [.ref (t + 1), .ref (t + 2), .ref (t + 3), vI (((tNums (tSg T) (tSkip (tSg T) (tIni T)).2).2).2.2.2.1), vI (((tNums (tSg T) (tSkip (tSg T) (tIni T)).2).2).2.2.2.2.1), vI (((tNums (tSg T) (tSkip (tSg T) (tIni T)).2).2).2.2.2.2.2)]) from fh31.1.1) rfl ⟨rfl, fun _ h9 => nomatch h9⟩ ?_
              refine eW_iconst 104 rfl rfl ?_
              refine eW_iadd 105 rfl rfl ?_
              refine eW_putfield 108 [.ref (t + 1), .ref (t + 2), .ref (t + 3), vI (((tNums (tSg T) (tSkip (tSg T) (tIni T)).2).2).2.2.2.1), vI (((tNums (tSg T) (tSkip (tSg T) (tIni T)).2).2).2.2.2.2.1), vI ((((tNums (tSg T) (tSkip (tSg T) (tIni T)).2).2).2.2.2.2.2) + 1)] rfl rfl (Nat.ble_eq_true_of_le (by omega)) rfl (show h31 t = .inr (7, [.ref (t + 1), .ref (t + 2), .ref (t + 3), vI (((tNums (tSg T) (tSkip (tSg T) (tIni T)).2).2).2.2.2.1), vI (((tNums (tSg T) (tSkip (tSg T) (tIni T)).2).2).2.2.2.2.1), vI (((tNums (tSg T) (tSkip (tSg T) (tIni T)).2).2).2.2.2.2.2)]) from fh31.1.1) rfl rfl ?_
              intro h33 eh33 oh33
              have hth33 : gT h33 t (((tNums (tSg T) (tSkip (tSg T) (tIni T)).2).2).1, ((tNums (tSg T) (tSkip (tSg T) (tIni T)).2).2).2.1, ((tNums (tSg T) (tSkip (tSg T) (tIni T)).2).2).2.2.1, ((tNums (tSg T) (tSkip (tSg T) (tIni T)).2).2).2.2.2.1, ((tNums (tSg T) (tSkip (tSg T) (tIni T)).2).2).2.2.2.2.1, (((tNums (tSg T) (tSkip (tSg T) (tIni T)).2).2).2.2.2.2.2) + 1) := gT_o (T := (((tNums (tSg T) (tSkip (tSg T) (tIni T)).2).2).1, ((tNums (tSg T) (tSkip (tSg T) (tIni T)).2).2).2.1, ((tNums (tSg T) (tSkip (tSg T) (tIni T)).2).2).2.2.1, ((tNums (tSg T) (tSkip (tSg T) (tIni T)).2).2).2.2.2.1, ((tNums (tSg T) (tSkip (tSg T) (tIni T)).2).2).2.2.2.2.1, ((tNums (tSg T) (tSkip (tSg T) (tIni T)).2).2).2.2.2.2.2)) fh31.1 eh33 oh33 rfl rfl rfl
              have uh33 : ∀ i, (i < t ∨ t + 3 < i) → h33 i = h i := fun i hi => (oh33 i (by omega)).trans (uh31 i hi)
              refine eW_iload_n 109 rfl rfl rfl ?_
              refine eW_ret_i rfl rfl (Or.inr (Or.inl ⟨rfl, rfl⟩)) ?_
              have k1 : (tSkip (tSg T) (tIni T)).1 = true := by rcases hb5 with hb5 | hb5 <;> first | exact hb5.1 | (exfalso; omega)
              have k2 : (tNums (tSg T) (tSkip (tSg T) (tIni T)).2).1 = false := by rcases hb6 with hb6 | hb6 <;> first | exact hb6.1 | (exfalso; omega)
              refine ⟨_, ?_, ?_, uh33⟩
              · rw [tOrd_t (by omega), tMid_t (by omega), tThen_t k1]; dsimp only; rw [k2]; rfl
              · rw [tOrd_t (by omega), tMid_t (by omega), tThen_t k1]; exact hth33
            · refine eW_iconst 93 rfl rfl ?_
              refine eW_goto rfl ?_
              refine eW_istore_n 98 rfl rfl [(2, vI 1), (1, vI (tSg T)), (0, .ref t)] rfl rfl ?_
              refine eW_aload_n 99 rfl rfl rfl ?_
              refine eW_dup 100 rfl rfl rfl ?_
              refine eW_getfield 103 rfl rfl (Nat.ble_eq_true_of_le (by omega)) rfl (show h31 t = .inr (7, [.ref (t + 1), .ref (t + 2), .ref (t + 3), vI (((tNums (tSg T) (tSkip (tSg T) (tIni T)).2).2).2.2.2.1), vI (((tNums (tSg T) (tSkip (tSg T) (tIni T)).2).2).2.2.2.2.1), vI (((tNums (tSg T) (tSkip (tSg T) (tIni T)).2).2).2.2.2.2.2)]) from fh31.1.1) rfl ⟨rfl, fun _ h9 => nomatch h9⟩ ?_
              refine eW_iconst 104 rfl rfl ?_
              refine eW_iadd 105 rfl rfl ?_
              refine eW_putfield 108 [.ref (t + 1), .ref (t + 2), .ref (t + 3), vI (((tNums (tSg T) (tSkip (tSg T) (tIni T)).2).2).2.2.2.1), vI (((tNums (tSg T) (tSkip (tSg T) (tIni T)).2).2).2.2.2.2.1), vI ((((tNums (tSg T) (tSkip (tSg T) (tIni T)).2).2).2.2.2.2.2) + 1)] rfl rfl (Nat.ble_eq_true_of_le (by omega)) rfl (show h31 t = .inr (7, [.ref (t + 1), .ref (t + 2), .ref (t + 3), vI (((tNums (tSg T) (tSkip (tSg T) (tIni T)).2).2).2.2.2.1), vI (((tNums (tSg T) (tSkip (tSg T) (tIni T)).2).2).2.2.2.2.1), vI (((tNums (tSg T) (tSkip (tSg T) (tIni T)).2).2).2.2.2.2.2)]) from fh31.1.1) rfl rfl ?_
              intro h34 eh34 oh34
              have hth34 : gT h34 t (((tNums (tSg T) (tSkip (tSg T) (tIni T)).2).2).1, ((tNums (tSg T) (tSkip (tSg T) (tIni T)).2).2).2.1, ((tNums (tSg T) (tSkip (tSg T) (tIni T)).2).2).2.2.1, ((tNums (tSg T) (tSkip (tSg T) (tIni T)).2).2).2.2.2.1, ((tNums (tSg T) (tSkip (tSg T) (tIni T)).2).2).2.2.2.2.1, (((tNums (tSg T) (tSkip (tSg T) (tIni T)).2).2).2.2.2.2.2) + 1) := gT_o (T := (((tNums (tSg T) (tSkip (tSg T) (tIni T)).2).2).1, ((tNums (tSg T) (tSkip (tSg T) (tIni T)).2).2).2.1, ((tNums (tSg T) (tSkip (tSg T) (tIni T)).2).2).2.2.1, ((tNums (tSg T) (tSkip (tSg T) (tIni T)).2).2).2.2.2.1, ((tNums (tSg T) (tSkip (tSg T) (tIni T)).2).2).2.2.2.2.1, ((tNums (tSg T) (tSkip (tSg T) (tIni T)).2).2).2.2.2.2.2)) fh31.1 eh34 oh34 rfl rfl rfl
              have uh34 : ∀ i, (i < t ∨ t + 3 < i) → h34 i = h i := fun i hi => (oh34 i (by omega)).trans (uh31 i hi)
              refine eW_iload_n 109 rfl rfl rfl ?_
              refine eW_ret_i rfl rfl (Or.inr (Or.inl ⟨rfl, rfl⟩)) ?_
              have k1 : (tSkip (tSg T) (tIni T)).1 = true := by rcases hb5 with hb5 | hb5 <;> first | exact hb5.1 | (exfalso; omega)
              have k2 : (tNums (tSg T) (tSkip (tSg T) (tIni T)).2).1 = true := by rcases hb6 with hb6 | hb6 <;> first | exact hb6.1 | (exfalso; omega)
              refine ⟨_, ?_, ?_, uh34⟩
              · rw [tOrd_t (by omega), tMid_t (by omega), tThen_t k1]; dsimp only; rw [k2]; rfl
              · rw [tOrd_t (by omega), tMid_t (by omega), tThen_t k1]; exact hth34
        · refine eW_iload_n 71 rfl rfl rfl ?_
          refine eW_bipush 73 rfl rfl 110 rfl ?_
          refine eW_icmp_ne 76 rfl rfl (by unfold i32; omega) (by unfold i32; omega) (fun c35 => ?_) (fun c35 => ?_)
          · refine eW_iconst 97 rfl rfl ?_
            refine eW_istore_n 98 rfl rfl [(2, vI 0), (1, vI (tSg T)), (0, .ref t)] rfl rfl ?_
            refine eW_aload_n 99 rfl rfl rfl ?_
            refine eW_dup 100 rfl rfl rfl ?_
            refine eW_getfield 103 rfl rfl (Nat.ble_eq_true_of_le (by omega)) rfl (show h9 t = .inr (7, [.ref (t + 1), .ref (t + 2), .ref (t + 3), vI (((tIni T)).2.2.2.1), vI (((tIni T)).2.2.2.2.1), vI (((tIni T)).2.2.2.2.2)]) from ht9.1) rfl ⟨rfl, fun _ h9 => nomatch h9⟩ ?_
            refine eW_iconst 104 rfl rfl ?_
            refine eW_iadd 105 rfl rfl ?_
            refine eW_putfield 108 [.ref (t + 1), .ref (t + 2), .ref (t + 3), vI (((tIni T)).2.2.2.1), vI (((tIni T)).2.2.2.2.1), vI ((((tIni T)).2.2.2.2.2) + 1)] rfl rfl (Nat.ble_eq_true_of_le (by omega)) rfl (show h9 t = .inr (7, [.ref (t + 1), .ref (t + 2), .ref (t + 3), vI (((tIni T)).2.2.2.1), vI (((tIni T)).2.2.2.2.1), vI (((tIni T)).2.2.2.2.2)]) from ht9.1) rfl rfl ?_
            intro h36 eh36 oh36
            have hth36 : gT h36 t (((tIni T)).1, ((tIni T)).2.1, ((tIni T)).2.2.1, ((tIni T)).2.2.2.1, ((tIni T)).2.2.2.2.1, (((tIni T)).2.2.2.2.2) + 1) := gT_o (T := (((tIni T)).1, ((tIni T)).2.1, ((tIni T)).2.2.1, ((tIni T)).2.2.2.1, ((tIni T)).2.2.2.2.1, ((tIni T)).2.2.2.2.2)) ht9 eh36 oh36 rfl rfl rfl
            have uh36 : ∀ i, (i < t ∨ t + 3 < i) → h36 i = h i := fun i hi => (oh36 i (by omega)).trans (uh9 i hi)
            refine eW_iload_n 109 rfl rfl rfl ?_
            refine eW_ret_i rfl rfl (Or.inr (Or.inl ⟨rfl, rfl⟩)) ?_
            refine ⟨_, ?_, ?_, uh36⟩
            · rw [tOrd_t (by omega), tMid_f (by omega)]; dsimp only; rfl
            · rw [tOrd_t (by omega), tMid_f (by omega)]; exact hth36
          · refine eW_aload_n 77 rfl rfl rfl ?_
            refine eW_iload_n 78 rfl rfl rfl ?_
            refine eW_callVH 81 [.ref t, vI (tSg T)] [] [vI (eB01 (tSkip (tSg T) (tIni T)).1)] rfl rfl rfl rfl (Nat.ble_eq_true_of_le (by omega)) (show h9 t = .inr (7, [.ref (t + 1), .ref (t + 2), .ref (t + 3), vI (((tIni T)).2.2.2.1), vI (((tIni T)).2.2.2.2.1), vI (((tIni T)).2.2.2.2.2)]) from ht9.1) rfl rfl rfl (t_skip (d := d + 2) ht9 okI hN (by unfold i32; omega)) rfl rfl ?_
            intro h37 fh37
            have uh37 : ∀ i, (i < t ∨ t + 3 < i) → h37 i = h i := fun i hi => (fh37.2 i hi).trans (uh9 i hi)
            have hb7 := eB01_c (tSkip (tSg T) (tIni T)).1
            have ok7 := (tSkip_ok (c := tSg T) okI).1
            have or7 : (tSkip (tSg T) (tIni T)).2.2.2.2.2.2 = T.2.2.2.2.2 := (tSkip_ok (c := tSg T) okI).2
            refine eW_if_eq 84 rfl rfl (by unfold i32; omega) (fun c38 => ?_) (fun c38 => ?_)
            · refine eW_iconst 97 rfl rfl ?_
              refine eW_istore_n 98 rfl rfl [(2, vI 0), (1, vI (tSg T)), (0, .ref t)] rfl rfl ?_
              refine eW_aload_n 99 rfl rfl rfl ?_
              refine eW_dup 100 rfl rfl rfl ?_
              refine eW_getfield 103 rfl rfl (Nat.ble_eq_true_of_le (by omega)) rfl (show h37 t = .inr (7, [.ref (t + 1), .ref (t + 2), .ref (t + 3), vI (((tSkip (tSg T) (tIni T)).2).2.2.2.1), vI (((tSkip (tSg T) (tIni T)).2).2.2.2.2.1), vI (((tSkip (tSg T) (tIni T)).2).2.2.2.2.2)]) from fh37.1.1) rfl ⟨rfl, fun _ h9 => nomatch h9⟩ ?_
              refine eW_iconst 104 rfl rfl ?_
              refine eW_iadd 105 rfl rfl ?_
              refine eW_putfield 108 [.ref (t + 1), .ref (t + 2), .ref (t + 3), vI (((tSkip (tSg T) (tIni T)).2).2.2.2.1), vI (((tSkip (tSg T) (tIni T)).2).2.2.2.2.1), vI ((((tSkip (tSg T) (tIni T)).2).2.2.2.2.2) + 1)] rfl rfl (Nat.ble_eq_true_of_le (by omega)) rfl (show h37 t = .inr (7, [.ref (t + 1), .ref (t + 2), .ref (t + 3), vI (((tSkip (tSg T) (tIni T)).2).2.2.2.1), vI (((tSkip (tSg T) (tIni T)).2).2.2.2.2.1), vI (((tSkip (tSg T) (tIni T)).2).2.2.2.2.2)]) from fh37.1.1) rfl rfl ?_
              intro h39 eh39 oh39
              have hth39 : gT h39 t (((tSkip (tSg T) (tIni T)).2).1, ((tSkip (tSg T) (tIni T)).2).2.1, ((tSkip (tSg T) (tIni T)).2).2.2.1, ((tSkip (tSg T) (tIni T)).2).2.2.2.1, ((tSkip (tSg T) (tIni T)).2).2.2.2.2.1, (((tSkip (tSg T) (tIni T)).2).2.2.2.2.2) + 1) := gT_o (T := (((tSkip (tSg T) (tIni T)).2).1, ((tSkip (tSg T) (tIni T)).2).2.1, ((tSkip (tSg T) (tIni T)).2).2.2.1, ((tSkip (tSg T) (tIni T)).2).2.2.2.1, ((tSkip (tSg T) (tIni T)).2).2.2.2.2.1, ((tSkip (tSg T) (tIni T)).2).2.2.2.2.2)) fh37.1 eh39 oh39 rfl rfl rfl
              have uh39 : ∀ i, (i < t ∨ t + 3 < i) → h39 i = h i := fun i hi => (oh39 i (by omega)).trans (uh37 i hi)
              refine eW_iload_n 109 rfl rfl rfl ?_
              refine eW_ret_i rfl rfl (Or.inr (Or.inl ⟨rfl, rfl⟩)) ?_
              have k1 : (tSkip (tSg T) (tIni T)).1 = false := by rcases hb7 with hb7 | hb7 <;> first | exact hb7.1 | (exfalso; omega)
              refine ⟨_, ?_, ?_, uh39⟩
              · rw [tOrd_t (by omega), tMid_t (by omega), tThen_f k1]; dsimp only; rw [k1]; rfl
              · rw [tOrd_t (by omega), tMid_t (by omega), tThen_f k1]; exact hth39
            · refine eW_aload_n 85 rfl rfl rfl ?_
              refine eW_iload_n 86 rfl rfl rfl ?_
              refine eW_callVH 89 [.ref t, vI (tSg T)] [] [vI (eB01 (tNums (tSg T) (tSkip (tSg T) (tIni T)).2).1)] rfl rfl rfl rfl (Nat.ble_eq_true_of_le (by omega)) (show h37 t = .inr (7, [.ref (t + 1), .ref (t + 2), .ref (t + 3), vI (((tSkip (tSg T) (tIni T)).2).2.2.2.1), vI (((tSkip (tSg T) (tIni T)).2).2.2.2.2.1), vI (((tSkip (tSg T) (tIni T)).2).2.2.2.2.2)]) from fh37.1.1) rfl rfl rfl (t_nums (d := d) fh37.1 ok7 hN (by unfold i32; omega) (by rw [or7]; show T.2.2.2.2.2 < 30; omega)) rfl rfl ?_
              intro h40 fh40
              have uh40 : ∀ i, (i < t ∨ t + 3 < i) → h40 i = h i := fun i hi => (fh40.2 i hi).trans (uh37 i hi)
              have hb8 := eB01_c (tNums (tSg T) (tSkip (tSg T) (tIni T)).2).1
              have ok8 := (tNums_ok (k := tSg T) ok7 (by rw [or7]; show T.2.2.2.2.2 < 30; omega)).1
              have or8 : (tNums (tSg T) (tSkip (tSg T) (tIni T)).2).2.2.2.2.2.2 = T.2.2.2.2.2 := (tNums_ok (k := tSg T) ok7 (by rw [or7]; show T.2.2.2.2.2 < 30; omega)).2.trans or7
              refine eW_if_eq 92 rfl rfl (by unfold i32; omega) (fun c41 => ?_) (fun c41 => ?_)
              · refine eW_iconst 97 rfl rfl ?_
                refine eW_istore_n 98 rfl rfl [(2, vI 0), (1, vI (tSg T)), (0, .ref t)] rfl rfl ?_
                refine eW_aload_n 99 rfl rfl rfl ?_
                refine eW_dup 100 rfl rfl rfl ?_
                refine eW_getfield 103 rfl rfl (Nat.ble_eq_true_of_le (by omega)) rfl (show h40 t = .inr (7, [.ref (t + 1), .ref (t + 2), .ref (t + 3), vI (((tNums (tSg T) (tSkip (tSg T) (tIni T)).2).2).2.2.2.1), vI (((tNums (tSg T) (tSkip (tSg T) (tIni T)).2).2).2.2.2.2.1), vI (((tNums (tSg T) (tSkip (tSg T) (tIni T)).2).2).2.2.2.2.2)]) from fh40.1.1) rfl ⟨rfl, fun _ h9 => nomatch h9⟩ ?_
                refine eW_iconst 104 rfl rfl ?_
                refine eW_iadd 105 rfl rfl ?_
                refine eW_putfield 108 [.ref (t + 1), .ref (t + 2), .ref (t + 3), vI (((tNums (tSg T) (tSkip (tSg T) (tIni T)).2).2).2.2.2.1), vI (((tNums (tSg T) (tSkip (tSg T) (tIni T)).2).2).2.2.2.2.1), vI ((((tNums (tSg T) (tSkip (tSg T) (tIni T)).2).2).2.2.2.2.2) + 1)] rfl rfl (Nat.ble_eq_true_of_le (by omega)) rfl (show h40 t = .inr (7, [.ref (t + 1), .ref (t + 2), .ref (t + 3), vI (((tNums (tSg T) (tSkip (tSg T) (tIni T)).2).2).2.2.2.1), vI (((tNums (tSg T) (tSkip (tSg T) (tIni T)).2).2).2.2.2.2.1), vI (((tNums (tSg T) (tSkip (tSg T) (tIni T)).2).2).2.2.2.2.2)]) from fh40.1.1) rfl rfl ?_
                intro h42 eh42 oh42
                have hth42 : gT h42 t (((tNums (tSg T) (tSkip (tSg T) (tIni T)).2).2).1, ((tNums (tSg T) (tSkip (tSg T) (tIni T)).2).2).2.1, ((tNums (tSg T) (tSkip (tSg T) (tIni T)).2).2).2.2.1, ((tNums (tSg T) (tSkip (tSg T) (tIni T)).2).2).2.2.2.1, ((tNums (tSg T) (tSkip (tSg T) (tIni T)).2).2).2.2.2.2.1, (((tNums (tSg T) (tSkip (tSg T) (tIni T)).2).2).2.2.2.2.2) + 1) := gT_o (T := (((tNums (tSg T) (tSkip (tSg T) (tIni T)).2).2).1, ((tNums (tSg T) (tSkip (tSg T) (tIni T)).2).2).2.1, ((tNums (tSg T) (tSkip (tSg T) (tIni T)).2).2).2.2.1, ((tNums (tSg T) (tSkip (tSg T) (tIni T)).2).2).2.2.2.1, ((tNums (tSg T) (tSkip (tSg T) (tIni T)).2).2).2.2.2.2.1, ((tNums (tSg T) (tSkip (tSg T) (tIni T)).2).2).2.2.2.2.2)) fh40.1 eh42 oh42 rfl rfl rfl
                have uh42 : ∀ i, (i < t ∨ t + 3 < i) → h42 i = h i := fun i hi => (oh42 i (by omega)).trans (uh40 i hi)
                refine eW_iload_n 109 rfl rfl rfl ?_
                refine eW_ret_i rfl rfl (Or.inr (Or.inl ⟨rfl, rfl⟩)) ?_
                have k1 : (tSkip (tSg T) (tIni T)).1 = true := by rcases hb7 with hb7 | hb7 <;> first | exact hb7.1 | (exfalso; omega)
                have k2 : (tNums (tSg T) (tSkip (tSg T) (tIni T)).2).1 = false := by rcases hb8 with hb8 | hb8 <;> first | exact hb8.1 | (exfalso; omega)
                refine ⟨_, ?_, ?_, uh42⟩
                · rw [tOrd_t (by omega), tMid_t (by omega), tThen_t k1]; dsimp only; rw [k2]; rfl
                · rw [tOrd_t (by omega), tMid_t (by omega), tThen_t k1]; exact hth42
              · refine eW_iconst 93 rfl rfl ?_
                refine eW_goto rfl ?_
                refine eW_istore_n 98 rfl rfl [(2, vI 1), (1, vI (tSg T)), (0, .ref t)] rfl rfl ?_
                refine eW_aload_n 99 rfl rfl rfl ?_
                refine eW_dup 100 rfl rfl rfl ?_
                refine eW_getfield 103 rfl rfl (Nat.ble_eq_true_of_le (by omega)) rfl (show h40 t = .inr (7, [.ref (t + 1), .ref (t + 2), .ref (t + 3), vI (((tNums (tSg T) (tSkip (tSg T) (tIni T)).2).2).2.2.2.1), vI (((tNums (tSg T) (tSkip (tSg T) (tIni T)).2).2).2.2.2.2.1), vI (((tNums (tSg T) (tSkip (tSg T) (tIni T)).2).2).2.2.2.2.2)]) from fh40.1.1) rfl ⟨rfl, fun _ h9 => nomatch h9⟩ ?_
                refine eW_iconst 104 rfl rfl ?_
                refine eW_iadd 105 rfl rfl ?_
                refine eW_putfield 108 [.ref (t + 1), .ref (t + 2), .ref (t + 3), vI (((tNums (tSg T) (tSkip (tSg T) (tIni T)).2).2).2.2.2.1), vI (((tNums (tSg T) (tSkip (tSg T) (tIni T)).2).2).2.2.2.2.1), vI ((((tNums (tSg T) (tSkip (tSg T) (tIni T)).2).2).2.2.2.2.2) + 1)] rfl rfl (Nat.ble_eq_true_of_le (by omega)) rfl (show h40 t = .inr (7, [.ref (t + 1), .ref (t + 2), .ref (t + 3), vI (((tNums (tSg T) (tSkip (tSg T) (tIni T)).2).2).2.2.2.1), vI (((tNums (tSg T) (tSkip (tSg T) (tIni T)).2).2).2.2.2.2.1), vI (((tNums (tSg T) (tSkip (tSg T) (tIni T)).2).2).2.2.2.2.2)]) from fh40.1.1) rfl rfl ?_
                intro h43 eh43 oh43
                have hth43 : gT h43 t (((tNums (tSg T) (tSkip (tSg T) (tIni T)).2).2).1, ((tNums (tSg T) (tSkip (tSg T) (tIni T)).2).2).2.1, ((tNums (tSg T) (tSkip (tSg T) (tIni T)).2).2).2.2.1, ((tNums (tSg T) (tSkip (tSg T) (tIni T)).2).2).2.2.2.1, ((tNums (tSg T) (tSkip (tSg T) (tIni T)).2).2).2.2.2.2.1, (((tNums (tSg T) (tSkip (tSg T) (tIni T)).2).2).2.2.2.2.2) + 1) := gT_o (T := (((tNums (tSg T) (tSkip (tSg T) (tIni T)).2).2).1, ((tNums (tSg T) (tSkip (tSg T) (tIni T)).2).2).2.1, ((tNums (tSg T) (tSkip (tSg T) (tIni T)).2).2).2.2.1, ((tNums (tSg T) (tSkip (tSg T) (tIni T)).2).2).2.2.2.1, ((tNums (tSg T) (tSkip (tSg T) (tIni T)).2).2).2.2.2.2.1, ((tNums (tSg T) (tSkip (tSg T) (tIni T)).2).2).2.2.2.2.2)) fh40.1 eh43 oh43 rfl rfl rfl
                have uh43 : ∀ i, (i < t ∨ t + 3 < i) → h43 i = h i := fun i hi => (oh43 i (by omega)).trans (uh40 i hi)
                refine eW_iload_n 109 rfl rfl rfl ?_
                refine eW_ret_i rfl rfl (Or.inr (Or.inl ⟨rfl, rfl⟩)) ?_
                have k1 : (tSkip (tSg T) (tIni T)).1 = true := by rcases hb7 with hb7 | hb7 <;> first | exact hb7.1 | (exfalso; omega)
                have k2 : (tNums (tSg T) (tSkip (tSg T) (tIni T)).2).1 = true := by rcases hb8 with hb8 | hb8 <;> first | exact hb8.1 | (exfalso; omega)
                refine ⟨_, ?_, ?_, uh43⟩
                · rw [tOrd_t (by omega), tMid_t (by omega), tThen_t k1]; dsimp only; rw [k2]; rfl
                · rw [tOrd_t (by omega), tMid_t (by omega), tThen_t k1]; exact hth43
  · refine eW_iconst 17 rfl rfl ?_
    refine eW_ret_i rfl rfl (Or.inr (Or.inl ⟨rfl, rfl⟩)) ?_
    refine ⟨_, ?_, ?_, (fun _ _ => rfl)⟩
    · rw [tOrd_f (by omega)]; rfl
    · rw [tOrd_f (by omega)]; exact ht
theorem tOrd_ok {T : eTx} (hT : gTO T) : gTO (tOrd T).2 := by
  by_cases h : T.2.2.2.2.2 < 30
  · rw [tOrd_t h]
    have h1 := tIni_ok hT h
    have h2 : (tIni T).2.2.2.2.2 < 30 := h
    have hm : gTO (tMid T).2 ∧ (tMid T).2.2.2.2.2.2 = T.2.2.2.2.2 := by
      unfold tMid
      cases tIs (tSg T) with
      | false => exact ⟨h1, rfl⟩
      | true =>
        have h3 := tSkip_ok (c := tSg T) h1
        show gTO (tThen (tSkip (tSg T) (tIni T)) (tNums (tSg T))).2 ∧ _
        unfold tThen
        cases (tSkip (tSg T) (tIni T)).1 with
        | false => exact h3
        | true =>
          have h4 := tNums_ok (k := tSg T) h3.1 (by rw [h3.2]; exact h2)
          exact ⟨h4.1, h4.2.trans h3.2⟩
    obtain ⟨⟨t1, t2, t3, t4⟩, h5⟩ := hm
    have h6 := hT.2.2.1
    exact ⟨t1, t2, ⟨by show 0 ≤ (tMid T).2.2.2.2.2.2 + 1; omega, by show (tMid T).2.2.2.2.2.2 + 1 ≤ 30; omega⟩, t4⟩
  · rw [tOrd_f h]; exact hT
def tRdL : Nat → Bool × eTx → Bool × eTx
  | 0, r => r
  | n + 1, r => match r.1 && decide (r.2.2.2.2.2.1 < r.2.2.2.2.1) with | false => r | true => tRdL n (tThen (tSkip 59 r.2) tOrd)
theorem tRdL_t {n : Nat} {r : Bool × eTx} (h1 : r.1 = true) (h2 : r.2.2.2.2.2.1 < r.2.2.2.2.1) : tRdL (n + 1) r = tRdL n (tThen (tSkip 59 r.2) tOrd) := by
  show (match r.1 && decide (r.2.2.2.2.2.1 < r.2.2.2.2.1) with | false => r | true => tRdL n (tThen (tSkip 59 r.2) tOrd)) = _
  rw [h1, decide_eq_true h2]; rfl
theorem tRdL_f {n : Nat} {r : Bool × eTx} (h : r.1 = false ∨ ¬ r.2.2.2.2.2.1 < r.2.2.2.2.1) : tRdL n r = r := by
  cases n with
  | zero => rfl
  | succ n =>
    unfold tRdL
    rcases h with h | h
    · rw [h]; rfl
    · rw [decide_eq_false h, Bool.and_false]
def tRead (T : eTx) : Bool × eTx := tRdL 60 (tOrd (T.1, T.2.1, T.2.2.1, T.2.2.2.1, 0, 0))
def tPos (r : Bool × eTx) : Int := match r.1 with | true => -1 | false => r.2.2.2.2.2.1
theorem t_read_l {d N k z : Nat} {h0 : eHp} {t : Nat} {R : Bool × eTx} {P : eR → Prop} (hN : t + 4 ≤ N)  : ∀ (m9 : Nat) (i : Int) (r : Bool) (X : eTx) (h : eHp), 60 - i ≤ m9 → 0 ≤ i ∧ i ≤ 60 → True → gT h t X → gTO X → tRdL (60 - i).toNat (r, X) = R → (∀ i, (i < t ∨ t + 3 < i) → h i = h0 i) → (∀ (h : eHp), gT h t R.2 → gTO R.2 → (∀ i, (i < t ∨ t + 3 < i) → h i = h0 i) → eWp eOx (eEv (d + 5)) eM_X3_readOrders (66, [(0, .ref t), (1, vI (eB01 R.1))], [], N, h, k, z) P) → eWp eOx (eEv (d + 5)) eM_X3_readOrders (17, [(0, .ref t), (1, vI (eB01 r)), (2, vI i)], [], N, h, k, z) P := by
  intro m9
  induction m9 with
  | zero =>
    intro i r X h hm q0 q1 q2 q3 q4 q5 kk
    have hbr := eB01_c r
    have q39 := q3
    obtain ⟨t1, t2, t3, t4, t5, t6⟩ := q39
    refine eW_iload_n 18 rfl rfl rfl ?_
    refine eW_bipush 20 rfl rfl 60 rfl ?_
    refine eW_icmp_ge 23 rfl rfl (by unfold i32; omega) (by unfold i32; omega) (fun c1 => ?_) (fun c1 => ?_)
    · refine eW_re [(0, .ref t), (1, vI (eB01 r))] rfl rfl (List.forall_mem_cons.mpr ⟨rfl, List.forall_mem_cons.mpr ⟨rfl, fun _ h => absurd h List.not_mem_nil⟩⟩) (List.forall_mem_cons.mpr ⟨Or.inl rfl, List.forall_mem_cons.mpr ⟨Or.inl rfl, List.forall_mem_cons.mpr ⟨Or.inr ⟨_, rfl⟩, fun _ h => absurd h List.not_mem_nil⟩⟩⟩) ?_
      have hR : R = (r, X) := by
        rw [← q4]
        first
          | (rw [show (60 - i).toNat = 0 by omega]; rfl)
          | (refine tRdL_f (Or.inr ?_); show ¬ X.2.2.2.2.1 < X.2.2.2.1; omega)
          | (refine tRdL_f (Or.inl ?_); rcases hbr with e9 | e9 <;> first | exact e9.1 | (exfalso; omega))
      subst hR
      exact kk h q2 q3 q5
    · refine eW_iload_n 24 rfl rfl rfl ?_
      refine eW_if_eq 27 rfl rfl (by unfold i32; omega) (fun c2 => ?_) (fun c2 => ?_)
      · refine eW_re [(0, .ref t), (1, vI (eB01 r))] rfl rfl (List.forall_mem_cons.mpr ⟨rfl, List.forall_mem_cons.mpr ⟨rfl, fun _ h => absurd h List.not_mem_nil⟩⟩) (List.forall_mem_cons.mpr ⟨Or.inl rfl, List.forall_mem_cons.mpr ⟨Or.inl rfl, List.forall_mem_cons.mpr ⟨Or.inr ⟨_, rfl⟩, fun _ h => absurd h List.not_mem_nil⟩⟩⟩) ?_
        have hR : R = (r, X) := by
          rw [← q4]
          first
            | (rw [show (60 - i).toNat = 0 by omega]; rfl)
            | (refine tRdL_f (Or.inr ?_); show ¬ X.2.2.2.2.1 < X.2.2.2.1; omega)
            | (refine tRdL_f (Or.inl ?_); rcases hbr with e9 | e9 <;> first | exact e9.1 | (exfalso; omega))
        subst hR
        exact kk h q2 q3 q5
      · refine eW_aload_n 28 rfl rfl rfl ?_
        refine eW_getfield 31 rfl rfl (Nat.ble_eq_true_of_le (by omega)) rfl (show h t = .inr (7, [.ref (t + 1), .ref (t + 2), .ref (t + 3), vI X.2.2.2.1, vI X.2.2.2.2.1, vI X.2.2.2.2.2]) from q2.1) rfl ⟨rfl, fun _ h9 => nomatch h9⟩ ?_
        refine eW_aload_n 32 rfl rfl rfl ?_
        refine eW_getfield 35 rfl rfl (Nat.ble_eq_true_of_le (by omega)) rfl (show h t = .inr (7, [.ref (t + 1), .ref (t + 2), .ref (t + 3), vI X.2.2.2.1, vI X.2.2.2.2.1, vI X.2.2.2.2.2]) from q2.1) rfl ⟨rfl, fun _ h9 => nomatch h9⟩ ?_
        refine eW_icmp_ge 38 rfl rfl (by unfold i32; omega) (by unfold i32; omega) (fun c3 => ?_) (fun c3 => ?_)
        · refine eW_re [(0, .ref t), (1, vI (eB01 r))] rfl rfl (List.forall_mem_cons.mpr ⟨rfl, List.forall_mem_cons.mpr ⟨rfl, fun _ h => absurd h List.not_mem_nil⟩⟩) (List.forall_mem_cons.mpr ⟨Or.inl rfl, List.forall_mem_cons.mpr ⟨Or.inl rfl, List.forall_mem_cons.mpr ⟨Or.inr ⟨_, rfl⟩, fun _ h => absurd h List.not_mem_nil⟩⟩⟩) ?_
          have hR : R = (r, X) := by
            rw [← q4]
            first
              | (rw [show (60 - i).toNat = 0 by omega]; rfl)
              | (refine tRdL_f (Or.inr ?_); show ¬ X.2.2.2.2.1 < X.2.2.2.1; omega)
              | (refine tRdL_f (Or.inl ?_); rcases hbr with e9 | e9 <;> first | exact e9.1 | (exfalso; omega))
          subst hR
          exact kk h q2 q3 q5
        · refine eW_aload_n 39 rfl rfl rfl ?_
          refine eW_bipush 41 rfl rfl 59 rfl ?_
          refine eW_callVH 44 [.ref t, vI 59] [] [vI (eB01 (tSkip 59 X).1)] rfl rfl rfl rfl (Nat.ble_eq_true_of_le (by omega)) (show h t = .inr (7, [.ref (t + 1), .ref (t + 2), .ref (t + 3), vI X.2.2.2.1, vI X.2.2.2.2.1, vI X.2.2.2.2.2]) from q2.1) rfl rfl rfl (t_skip (d := d + 3) q2 q3 hN (by unfold i32; omega)) rfl rfl ?_
          intro h4 fh4
          have uh4 : ∀ i, (i < t ∨ t + 3 < i) → h4 i = h0 i := fun i hi => (fh4.2 i hi).trans (q5 i hi)
          have hb1 := eB01_c (tSkip 59 X).1
          have ok1 := (tSkip_ok (c := 59) q3).1
          have or1 : (tSkip 59 X).2.2.2.2.2.2 = X.2.2.2.2.2 := (tSkip_ok (c := 59) q3).2
          refine eW_if_eq 47 rfl rfl (by unfold i32; omega) (fun c5 => ?_) (fun c5 => ?_)
          · refine eW_iconst 59 rfl rfl ?_
            refine eW_istore_n 60 rfl rfl [(1, vI 0), (0, .ref t), (2, vI i)] rfl rfl ?_
            refine eW_iinc 63 rfl rfl [(2, vI (i + 1)), (1, vI 0), (0, .ref t)] rfl rfl rfl ?_
            refine eW_goto rfl ?_
            refine eW_re [(0, .ref t), (1, vI 0), (2, vI (i + 1))] rfl rfl (List.forall_mem_cons.mpr ⟨rfl, List.forall_mem_cons.mpr ⟨rfl, List.forall_mem_cons.mpr ⟨rfl, fun _ h => absurd h List.not_mem_nil⟩⟩⟩) (List.forall_mem_cons.mpr ⟨Or.inl rfl, List.forall_mem_cons.mpr ⟨Or.inl rfl, List.forall_mem_cons.mpr ⟨Or.inl rfl, fun _ h => absurd h List.not_mem_nil⟩⟩⟩) ?_
            exact absurd hm (by omega)
          · refine eW_aload_n 48 rfl rfl rfl ?_
            refine eW_callVH 51 [.ref t] [] [vI (eB01 (tOrd (tSkip 59 X).2).1)] rfl rfl rfl rfl (Nat.ble_eq_true_of_le (by omega)) (show h4 t = .inr (7, [.ref (t + 1), .ref (t + 2), .ref (t + 3), vI (((tSkip 59 X).2).2.2.2.1), vI (((tSkip 59 X).2).2.2.2.2.1), vI (((tSkip 59 X).2).2.2.2.2.2)]) from fh4.1.1) rfl rfl rfl (t_order (d := d) fh4.1 ok1 hN) rfl rfl ?_
            intro h6 fh6
            have uh6 : ∀ i, (i < t ∨ t + 3 < i) → h6 i = h0 i := fun i hi => (fh6.2 i hi).trans (uh4 i hi)
            have hb2 := eB01_c (tOrd (tSkip 59 X).2).1
            have ok2 := tOrd_ok ok1
            refine eW_if_eq 54 rfl rfl (by unfold i32; omega) (fun c7 => ?_) (fun c7 => ?_)
            · refine eW_iconst 59 rfl rfl ?_
              refine eW_istore_n 60 rfl rfl [(1, vI 0), (0, .ref t), (2, vI i)] rfl rfl ?_
              refine eW_iinc 63 rfl rfl [(2, vI (i + 1)), (1, vI 0), (0, .ref t)] rfl rfl rfl ?_
              refine eW_goto rfl ?_
              refine eW_re [(0, .ref t), (1, vI 0), (2, vI (i + 1))] rfl rfl (List.forall_mem_cons.mpr ⟨rfl, List.forall_mem_cons.mpr ⟨rfl, List.forall_mem_cons.mpr ⟨rfl, fun _ h => absurd h List.not_mem_nil⟩⟩⟩) (List.forall_mem_cons.mpr ⟨Or.inl rfl, List.forall_mem_cons.mpr ⟨Or.inl rfl, List.forall_mem_cons.mpr ⟨Or.inl rfl, fun _ h => absurd h List.not_mem_nil⟩⟩⟩) ?_
              exact absurd hm (by omega)
            · refine eW_iconst 55 rfl rfl ?_
              refine eW_goto rfl ?_
              refine eW_istore_n 60 rfl rfl [(1, vI 1), (0, .ref t), (2, vI i)] rfl rfl ?_
              refine eW_iinc 63 rfl rfl [(2, vI (i + 1)), (1, vI 1), (0, .ref t)] rfl rfl rfl ?_
              refine eW_goto rfl ?_
              refine eW_re [(0, .ref t), (1, vI 1), (2, vI (i + 1))] rfl rfl (List.forall_mem_cons.mpr ⟨rfl, List.forall_mem_cons.mpr ⟨rfl, List.forall_mem_cons.mpr ⟨rfl, fun _ h => absurd h List.not_mem_nil⟩⟩⟩) (List.forall_mem_cons.mpr ⟨Or.inl rfl, List.forall_mem_cons.mpr ⟨Or.inl rfl, List.forall_mem_cons.mpr ⟨Or.inl rfl, fun _ h => absurd h List.not_mem_nil⟩⟩⟩) ?_
              exact absurd hm (by omega)
  | succ m9 ih =>
    intro i r X h hm q0 q1 q2 q3 q4 q5 kk
    have hbr := eB01_c r
    have q39 := q3
    obtain ⟨t1, t2, t3, t4, t5, t6⟩ := q39
    refine eW_iload_n 18 rfl rfl rfl ?_
    refine eW_bipush 20 rfl rfl 60 rfl ?_
    refine eW_icmp_ge 23 rfl rfl (by unfold i32; omega) (by unfold i32; omega) (fun c1 => ?_) (fun c1 => ?_)
    · refine eW_re [(0, .ref t), (1, vI (eB01 r))] rfl rfl (List.forall_mem_cons.mpr ⟨rfl, List.forall_mem_cons.mpr ⟨rfl, fun _ h => absurd h List.not_mem_nil⟩⟩) (List.forall_mem_cons.mpr ⟨Or.inl rfl, List.forall_mem_cons.mpr ⟨Or.inl rfl, List.forall_mem_cons.mpr ⟨Or.inr ⟨_, rfl⟩, fun _ h => absurd h List.not_mem_nil⟩⟩⟩) ?_
      have hR : R = (r, X) := by
        rw [← q4]
        first
          | (rw [show (60 - i).toNat = 0 by omega]; rfl)
          | (refine tRdL_f (Or.inr ?_); show ¬ X.2.2.2.2.1 < X.2.2.2.1; omega)
          | (refine tRdL_f (Or.inl ?_); rcases hbr with e9 | e9 <;> first | exact e9.1 | (exfalso; omega))
      subst hR
      exact kk h q2 q3 q5
    · refine eW_iload_n 24 rfl rfl rfl ?_
      refine eW_if_eq 27 rfl rfl (by unfold i32; omega) (fun c2 => ?_) (fun c2 => ?_)
      · refine eW_re [(0, .ref t), (1, vI (eB01 r))] rfl rfl (List.forall_mem_cons.mpr ⟨rfl, List.forall_mem_cons.mpr ⟨rfl, fun _ h => absurd h List.not_mem_nil⟩⟩) (List.forall_mem_cons.mpr ⟨Or.inl rfl, List.forall_mem_cons.mpr ⟨Or.inl rfl, List.forall_mem_cons.mpr ⟨Or.inr ⟨_, rfl⟩, fun _ h => absurd h List.not_mem_nil⟩⟩⟩) ?_
        have hR : R = (r, X) := by
          rw [← q4]
          first
            | (rw [show (60 - i).toNat = 0 by omega]; rfl)
            | (refine tRdL_f (Or.inr ?_); show ¬ X.2.2.2.2.1 < X.2.2.2.1; omega)
            | (refine tRdL_f (Or.inl ?_); rcases hbr with e9 | e9 <;> first | exact e9.1 | (exfalso; omega))
        subst hR
        exact kk h q2 q3 q5
      · refine eW_aload_n 28 rfl rfl rfl ?_
        refine eW_getfield 31 rfl rfl (Nat.ble_eq_true_of_le (by omega)) rfl (show h t = .inr (7, [.ref (t + 1), .ref (t + 2), .ref (t + 3), vI X.2.2.2.1, vI X.2.2.2.2.1, vI X.2.2.2.2.2]) from q2.1) rfl ⟨rfl, fun _ h9 => nomatch h9⟩ ?_
        refine eW_aload_n 32 rfl rfl rfl ?_
        refine eW_getfield 35 rfl rfl (Nat.ble_eq_true_of_le (by omega)) rfl (show h t = .inr (7, [.ref (t + 1), .ref (t + 2), .ref (t + 3), vI X.2.2.2.1, vI X.2.2.2.2.1, vI X.2.2.2.2.2]) from q2.1) rfl ⟨rfl, fun _ h9 => nomatch h9⟩ ?_
        refine eW_icmp_ge 38 rfl rfl (by unfold i32; omega) (by unfold i32; omega) (fun c3 => ?_) (fun c3 => ?_)
        · refine eW_re [(0, .ref t), (1, vI (eB01 r))] rfl rfl (List.forall_mem_cons.mpr ⟨rfl, List.forall_mem_cons.mpr ⟨rfl, fun _ h => absurd h List.not_mem_nil⟩⟩) (List.forall_mem_cons.mpr ⟨Or.inl rfl, List.forall_mem_cons.mpr ⟨Or.inl rfl, List.forall_mem_cons.mpr ⟨Or.inr ⟨_, rfl⟩, fun _ h => absurd h List.not_mem_nil⟩⟩⟩) ?_
          have hR : R = (r, X) := by
            rw [← q4]
            first
              | (rw [show (60 - i).toNat = 0 by omega]; rfl)
              | (refine tRdL_f (Or.inr ?_); show ¬ X.2.2.2.2.1 < X.2.2.2.1; omega)
              | (refine tRdL_f (Or.inl ?_); rcases hbr with e9 | e9 <;> first | exact e9.1 | (exfalso; omega))
          subst hR
          exact kk h q2 q3 q5
        · refine eW_aload_n 39 rfl rfl rfl ?_
          refine eW_bipush 41 rfl rfl 59 rfl ?_
          refine eW_callVH 44 [.ref t, vI 59] [] [vI (eB01 (tSkip 59 X).1)] rfl rfl rfl rfl (Nat.ble_eq_true_of_le (by omega)) (show h t = .inr (7, [.ref (t + 1), .ref (t + 2), .ref (t + 3), vI X.2.2.2.1, vI X.2.2.2.2.1, vI X.2.2.2.2.2]) from q2.1) rfl rfl rfl (t_skip (d := d + 3) q2 q3 hN (by unfold i32; omega)) rfl rfl ?_
          intro h4 fh4
          have uh4 : ∀ i, (i < t ∨ t + 3 < i) → h4 i = h0 i := fun i hi => (fh4.2 i hi).trans (q5 i hi)
          have hb3 := eB01_c (tSkip 59 X).1
          have ok3 := (tSkip_ok (c := 59) q3).1
          have or3 : (tSkip 59 X).2.2.2.2.2.2 = X.2.2.2.2.2 := (tSkip_ok (c := 59) q3).2
          refine eW_if_eq 47 rfl rfl (by unfold i32; omega) (fun c5 => ?_) (fun c5 => ?_)
          · refine eW_iconst 59 rfl rfl ?_
            refine eW_istore_n 60 rfl rfl [(1, vI 0), (0, .ref t), (2, vI i)] rfl rfl ?_
            refine eW_iinc 63 rfl rfl [(2, vI (i + 1)), (1, vI 0), (0, .ref t)] rfl rfl rfl ?_
            refine eW_goto rfl ?_
            refine eW_re [(0, .ref t), (1, vI 0), (2, vI (i + 1))] rfl rfl (List.forall_mem_cons.mpr ⟨rfl, List.forall_mem_cons.mpr ⟨rfl, List.forall_mem_cons.mpr ⟨rfl, fun _ h => absurd h List.not_mem_nil⟩⟩⟩) (List.forall_mem_cons.mpr ⟨Or.inl rfl, List.forall_mem_cons.mpr ⟨Or.inl rfl, List.forall_mem_cons.mpr ⟨Or.inl rfl, fun _ h => absurd h List.not_mem_nil⟩⟩⟩) ?_
            have kr : r = true := by rcases hbr with e9 | e9 <;> first | exact e9.1 | (exfalso; omega)
            have k1 : (tSkip 59 X).1 = false := by rcases hb3 with hb3 | hb3 <;> first | exact hb3.1 | (exfalso; omega)
            refine ih (i + 1) false (tSkip 59 X).2 h4 (by omega) (by omega) trivial fh4.1 ok3 ?_ uh4 kk
            rw [← q4, show (60 - i).toNat = (60 - (i + 1)).toNat + 1 by omega, tRdL_t (r := (r, X)) kr (show X.2.2.2.2.1 < X.2.2.2.1 by omega)]
            show _ = tRdL _ (tThen (tSkip 59 X) tOrd)
            rw [tThen_f k1, ← k1]
          · refine eW_aload_n 48 rfl rfl rfl ?_
            refine eW_callVH 51 [.ref t] [] [vI (eB01 (tOrd (tSkip 59 X).2).1)] rfl rfl rfl rfl (Nat.ble_eq_true_of_le (by omega)) (show h4 t = .inr (7, [.ref (t + 1), .ref (t + 2), .ref (t + 3), vI (((tSkip 59 X).2).2.2.2.1), vI (((tSkip 59 X).2).2.2.2.2.1), vI (((tSkip 59 X).2).2.2.2.2.2)]) from fh4.1.1) rfl rfl rfl (t_order (d := d) fh4.1 ok3 hN) rfl rfl ?_
            intro h6 fh6
            have uh6 : ∀ i, (i < t ∨ t + 3 < i) → h6 i = h0 i := fun i hi => (fh6.2 i hi).trans (uh4 i hi)
            have hb4 := eB01_c (tOrd (tSkip 59 X).2).1
            have ok4 := tOrd_ok ok3
            refine eW_if_eq 54 rfl rfl (by unfold i32; omega) (fun c7 => ?_) (fun c7 => ?_)
            · refine eW_iconst 59 rfl rfl ?_
              refine eW_istore_n 60 rfl rfl [(1, vI 0), (0, .ref t), (2, vI i)] rfl rfl ?_
              refine eW_iinc 63 rfl rfl [(2, vI (i + 1)), (1, vI 0), (0, .ref t)] rfl rfl rfl ?_
              refine eW_goto rfl ?_
              refine eW_re [(0, .ref t), (1, vI 0), (2, vI (i + 1))] rfl rfl (List.forall_mem_cons.mpr ⟨rfl, List.forall_mem_cons.mpr ⟨rfl, List.forall_mem_cons.mpr ⟨rfl, fun _ h => absurd h List.not_mem_nil⟩⟩⟩) (List.forall_mem_cons.mpr ⟨Or.inl rfl, List.forall_mem_cons.mpr ⟨Or.inl rfl, List.forall_mem_cons.mpr ⟨Or.inl rfl, fun _ h => absurd h List.not_mem_nil⟩⟩⟩) ?_
              have kr : r = true := by rcases hbr with e9 | e9 <;> first | exact e9.1 | (exfalso; omega)
              have k1 : (tSkip 59 X).1 = true := by rcases hb3 with hb3 | hb3 <;> first | exact hb3.1 | (exfalso; omega)
              have k2 : (tOrd (tSkip 59 X).2).1 = false := by rcases hb4 with hb4 | hb4 <;> first | exact hb4.1 | (exfalso; omega)
              refine ih (i + 1) false (tOrd (tSkip 59 X).2).2 h6 (by omega) (by omega) trivial fh6.1 ok4 ?_ uh6 kk
              rw [← q4, show (60 - i).toNat = (60 - (i + 1)).toNat + 1 by omega, tRdL_t (r := (r, X)) kr (show X.2.2.2.2.1 < X.2.2.2.1 by omega)]
              show _ = tRdL _ (tThen (tSkip 59 X) tOrd)
              rw [tThen_t k1, ← k2]
            · refine eW_iconst 55 rfl rfl ?_
              refine eW_goto rfl ?_
              refine eW_istore_n 60 rfl rfl [(1, vI 1), (0, .ref t), (2, vI i)] rfl rfl ?_
              refine eW_iinc 63 rfl rfl [(2, vI (i + 1)), (1, vI 1), (0, .ref t)] rfl rfl rfl ?_
              refine eW_goto rfl ?_
              refine eW_re [(0, .ref t), (1, vI 1), (2, vI (i + 1))] rfl rfl (List.forall_mem_cons.mpr ⟨rfl, List.forall_mem_cons.mpr ⟨rfl, List.forall_mem_cons.mpr ⟨rfl, fun _ h => absurd h List.not_mem_nil⟩⟩⟩) (List.forall_mem_cons.mpr ⟨Or.inl rfl, List.forall_mem_cons.mpr ⟨Or.inl rfl, List.forall_mem_cons.mpr ⟨Or.inl rfl, fun _ h => absurd h List.not_mem_nil⟩⟩⟩) ?_
              have kr : r = true := by rcases hbr with e9 | e9 <;> first | exact e9.1 | (exfalso; omega)
              have k1 : (tSkip 59 X).1 = true := by rcases hb3 with hb3 | hb3 <;> first | exact hb3.1 | (exfalso; omega)
              have k2 : (tOrd (tSkip 59 X).2).1 = true := by rcases hb4 with hb4 | hb4 <;> first | exact hb4.1 | (exfalso; omega)
              refine ih (i + 1) true (tOrd (tSkip 59 X).2).2 h6 (by omega) (by omega) trivial fh6.1 ok4 ?_ uh6 kk
              rw [← q4, show (60 - i).toNat = (60 - (i + 1)).toNat + 1 by omega, tRdL_t (r := (r, X)) kr (show X.2.2.2.2.1 < X.2.2.2.1 by omega)]
              show _ = tRdL _ (tThen (tSkip 59 X) tOrd)
              rw [tThen_t k1, ← k2]
theorem t_read {d N : Nat} {h : eHp} {t : Nat} {T : eTx} (ht : gT h t T) (hT : gTO T) (hN : t + 4 ≤ N)  : eSp (d + 6) eM_X3_readOrders [.ref t] N h (eChg (some (vI (tPos (tRead T)))) N (fun h' => gT h' t (tRead T).2 ∧ gTO (tRead T).2 ∧ ∀ i, (i < t ∨ t + 3 < i) → h' i = h i)) := by
  refine eSp_of [(0, .ref t)] rfl rfl ?_
  have ok0 : gTO (T.1, T.2.1, T.2.2.1, T.2.2.2.1, 0, 0) := ⟨hT.1, ⟨by show (0 : Int) ≤ 0; omega, by show (0 : Int) ≤ 60; omega⟩, ⟨by show (0 : Int) ≤ 0; omega, by show (0 : Int) ≤ 30; omega⟩, hT.2.2.2⟩
  refine eW_aload_n 1 rfl rfl rfl ?_
  refine eW_iconst 2 rfl rfl ?_
  refine eW_putfield 5 [.ref (t + 1), .ref (t + 2), .ref (t + 3), vI T.2.2.2.1, vI 0, vI T.2.2.2.2.2] rfl rfl (Nat.ble_eq_true_of_le (by omega)) rfl (show h t = .inr (7, [.ref (t + 1), .ref (t + 2), .ref (t + 3), vI T.2.2.2.1, vI T.2.2.2.2.1, vI T.2.2.2.2.2]) from ht.1) rfl rfl ?_
  intro h1 eh1 oh1
  have hth1 : gT h1 t (T.1, T.2.1, T.2.2.1, T.2.2.2.1, 0, T.2.2.2.2.2) := gT_o (T := (T.1, T.2.1, T.2.2.1, T.2.2.2.1, T.2.2.2.2.1, T.2.2.2.2.2)) ht eh1 oh1 rfl rfl rfl
  have uh1 : ∀ i, (i < t ∨ t + 3 < i) → h1 i = h i := fun i hi => (oh1 i (by omega)).trans ((fun _ _ => rfl) i hi)
  refine eW_aload_n 6 rfl rfl rfl ?_
  refine eW_iconst 7 rfl rfl ?_
  refine eW_putfield 10 [.ref (t + 1), .ref (t + 2), .ref (t + 3), vI T.2.2.2.1, vI 0, vI 0] rfl rfl (Nat.ble_eq_true_of_le (by omega)) rfl (show h1 t = .inr (7, [.ref (t + 1), .ref (t + 2), .ref (t + 3), vI T.2.2.2.1, vI 0, vI T.2.2.2.2.2]) from hth1.1) rfl rfl ?_
  intro h2 eh2 oh2
  have hth2 : gT h2 t (T.1, T.2.1, T.2.2.1, T.2.2.2.1, 0, 0) := gT_o (T := (T.1, T.2.1, T.2.2.1, T.2.2.2.1, 0, T.2.2.2.2.2)) hth1 eh2 oh2 rfl rfl rfl
  have uh2 : ∀ i, (i < t ∨ t + 3 < i) → h2 i = h i := fun i hi => (oh2 i (by omega)).trans (uh1 i hi)
  refine eW_aload_n 11 rfl rfl rfl ?_
  refine eW_callVH 14 [.ref t] [] [vI (eB01 (tOrd (T.1, T.2.1, T.2.2.1, T.2.2.2.1, 0, 0)).1)] rfl rfl rfl rfl (Nat.ble_eq_true_of_le (by omega)) (show h2 t = .inr (7, [.ref (t + 1), .ref (t + 2), .ref (t + 3), vI T.2.2.2.1, vI 0, vI 0]) from hth2.1) rfl rfl rfl (t_order (d := d) (T := (T.1, T.2.1, T.2.2.1, T.2.2.2.1, 0, 0)) hth2 ok0 hN) rfl rfl ?_
  intro h3 fh3
  have uh3 : ∀ i, (i < t ∨ t + 3 < i) → h3 i = h i := fun i hi => (fh3.2 i hi).trans (uh2 i hi)
  have okO := tOrd_ok ok0
  refine eW_istore_n 15 rfl rfl [(1, vI (eB01 (tOrd (T.1, T.2.1, T.2.2.1, T.2.2.2.1, 0, 0)).1)), (0, .ref t)] rfl rfl ?_
  refine eW_iconst 16 rfl rfl ?_
  refine eW_istore_n 17 rfl rfl [(2, vI 0), (1, vI (eB01 (tOrd (T.1, T.2.1, T.2.2.1, T.2.2.2.1, 0, 0)).1)), (0, .ref t)] rfl rfl ?_
  refine eW_re [(0, .ref t), (1, vI (eB01 (tOrd (T.1, T.2.1, T.2.2.1, T.2.2.2.1, 0, 0)).1)), (2, vI 0)] rfl rfl (List.forall_mem_cons.mpr ⟨rfl, List.forall_mem_cons.mpr ⟨rfl, List.forall_mem_cons.mpr ⟨rfl, fun _ h => absurd h List.not_mem_nil⟩⟩⟩) (List.forall_mem_cons.mpr ⟨Or.inl rfl, List.forall_mem_cons.mpr ⟨Or.inl rfl, List.forall_mem_cons.mpr ⟨Or.inl rfl, fun _ h => absurd h List.not_mem_nil⟩⟩⟩) ?_
  refine t_read_l (h0 := h) (R := tRead T) hN _ 0 (tOrd (T.1, T.2.1, T.2.2.1, T.2.2.2.1, 0, 0)).1 (tOrd (T.1, T.2.1, T.2.2.1, T.2.2.2.1, 0, 0)).2 h3 (Int.self_le_toNat _) (by omega) trivial fh3.1 okO rfl uh3 (fun h4 r1 r2 r3 => ?_)
  have hbR := eB01_c (tRead T).1
  have r29 := r2
  obtain ⟨z1, z2, z3, z4⟩ := r29
  refine eW_iload_n 67 rfl rfl rfl ?_
  refine eW_if_eq 70 rfl rfl (by unfold i32; omega) (fun c5 => ?_) (fun c5 => ?_)
  · refine eW_aload_n 75 rfl rfl rfl ?_
    refine eW_getfield 78 rfl rfl (Nat.ble_eq_true_of_le (by omega)) rfl (show h4 t = .inr (7, [.ref (t + 1), .ref (t + 2), .ref (t + 3), vI ((tRead T).2.2.2.2.1), vI ((tRead T).2.2.2.2.2.1), vI ((tRead T).2.2.2.2.2.2)]) from r1.1) rfl ⟨rfl, fun _ h9 => nomatch h9⟩ ?_
    refine eW_ret_i rfl rfl (Or.inl rfl) ?_
    have kR : (tRead T).1 = false := by rcases hbR with e9 | e9 <;> first | exact e9.1 | (exfalso; omega)
    exact ⟨_, by unfold tPos; rw [kR], r1, r2, r3⟩
  · refine eW_iconst 71 rfl rfl ?_
    refine eW_goto rfl ?_
    refine eW_ret_i rfl rfl (Or.inl rfl) ?_
    have kR : (tRead T).1 = true := by rcases hbR with e9 | e9 <;> first | exact e9.1 | (exfalso; omega)
    exact ⟨_, by unfold tPos; rw [kR], r1, r2, r3⟩
