/-! the line's builder -/
theorem eRet_M {C : eM → List Value → Nat → eHp → eR → Prop} {M : eM} {args : List Value} {N : Nat} {h : eHp} {v : Int} (k : ∃ q, C M args N h q ∧ eRet (some (vI v)) N h q) : ∃ q, C M args N h q ∧ ∃ v9 N9 h9 a9 b9, q = (.inl v9, N9, h9, a9, b9) ∧ v9.toList.all eN9 = true ∧ (some (vI v) = v9 ∧ N = N9 ∧ h = h9 ∧ 0 = a9 ∧ 0 = b9) := by
  obtain ⟨q, h1, h2⟩ := k
  exact ⟨q, h1, some (vI v), N, h, 0, 0, h2, rfl, rfl, rfl, rfl, rfl, rfl⟩
def bCap : Nat → Nat
  | 0 => 16
  | g + 1 => 2 * bCap g + 2
def bSum : Nat → Nat
  | 0 => 0
  | g + 1 => bSum g + bCap (g + 1)
theorem bCap_le {g : Nat} (h : g ≤ 5) : 16 ≤ bCap g ∧ bCap g ≤ 574 := by
  rcases (show g = 0 ∨ g = 1 ∨ g = 2 ∨ g = 3 ∨ g = 4 ∨ g = 5 by omega) with e | e | e | e | e | e <;> subst e <;> decide
theorem bCap_5 {g : Nat} (h : g ≤ 5) (h2 : bCap g < 500) : g ≤ 4 := by
  by_cases e : g = 5
  · subst e; exact absurd h2 (by decide)
  · omega
theorem bSum_le : ∀ {g g' : Nat}, g ≤ g' → bSum g ≤ bSum g'
  | g, 0, h => by rw [show g = 0 by omega]; exact Nat.le_refl _
  | g, g' + 1, h => by
    by_cases e : g = g' + 1
    · rw [e]; exact Nat.le_refl _
    · have := bSum_le (show g ≤ g' by omega)
      show bSum g ≤ bSum g' + bCap (g' + 1)
      omega
def bW (h : eHp) (g : Nat) (L : List Int) : Prop := ∃ (b : Nat) (B : Nat → Int) (ml : Int), h 61 = .inr (1, [.ref b, vI 0, vI ml, vI L.length]) ∧ h b = .inl (3, bCap g, .inl (eIA B)) ∧ (b = 62 ∨ (75 ≤ b ∧ b < 75 + g)) ∧ (ml = 0 ∨ ml = 1) ∧ (∀ i, 0 ≤ B i ∧ B i ≤ 127) ∧ lnR B L.length L ∧ L.length ≤ bCap g ∧ g ≤ 5 ∧ (∀ i, 75 ≤ i → i < 75 + g → ∃ n f, h i = .inl (3, n, .inl f))
def bFr (h h' : eHp) : Prop := ∀ i, i ≠ 61 → i ≠ 62 → i < 75 → h' i = h i
/-- the names are closed -/
theorem eClH_up {N : Nat} {h h' : eHp} {a : Nat} {e : va_E} (hc : eClH N h = true) (h1 : h' a = e) (h2 : eClE N e = true) (h3 : ∀ i, i ≠ a → h' i = h i) : eClH N h' = true := by
  refine List.all_eq_true.mpr (fun i hi => ?_)
  by_cases e9 : i = a
  · rw [e9, h1]; exact h2
  · rw [h3 i e9]; exact List.all_eq_true.mp hc i hi
theorem eClV_up {N : Nat} {v : Value} (h : eClV N v = true) : eClV (N + 1) v = true := by
  unfold eClV at h ⊢
  split at h
  · exact Nat.ble_eq_true_of_le (by have := Nat.le_of_ble_eq_true h; omega)
  · rfl
theorem eClE_up {N : Nat} {e : va_E} (h : eClE N e = true) : eClE (N + 1) e = true := by
  unfold eClE at h ⊢
  split at h
  · refine List.all_eq_true.mpr (fun i hi => ?_)
    have := List.all_eq_true.mp h i hi
    revert this
    split
    · intro h9; exact Nat.ble_eq_true_of_le (by have := Nat.le_of_ble_eq_true h9; omega)
    · intro _; rfl
  · rfl
  · exact List.all_eq_true.mpr (fun v hv => eClV_up (List.all_eq_true.mp h v hv))
theorem eClH_new {N : Nat} {h h' : eHp} {e : va_E} (hc : eClH N h = true) (h1 : h' N = e) (h2 : eClE (N + 1) e = true) (h3 : ∀ i, i ≠ N → h' i = h i) : eClH (N + 1) h' = true := by
  refine List.all_eq_true.mpr (fun i hi => ?_)
  have hi := List.mem_range.mp hi
  by_cases e9 : i = N
  · rw [e9, h1]; exact h2
  · rw [h3 i e9]; exact eClE_up (List.all_eq_true.mp hc i (List.mem_range.mpr (by omega)))
def bP (g : Nat) (h : eHp) (v : Option Value) (G : Nat → eHp → Prop) : eR → Prop := fun q => ∃ g' h', q = (.inl v, 75 + g', h', g' - g, bSum g' - bSum g) ∧ g ≤ g' ∧ bFr h h' ∧ eClH (75 + g') h' = true ∧ G g' h'
theorem bP_M {C : eM → List Value → Nat → eHp → eR → Prop} {M : eM} {args : List Value} {g : Nat} {h : eHp} {v : Option Value} {G : Nat → eHp → Prop} (hv : v.toList.all eN9 = true) (k : ∃ q, C M args (75 + g) h q ∧ bP g h v G q) : ∃ q, C M args (75 + g) h q ∧ ∃ v9 N9 h9 a9 b9, q = (.inl v9, N9, h9, a9, b9) ∧ v9.toList.all eN9 = true ∧ (v = v9 ∧ ∃ g', 75 + g' = N9 ∧ g' - g = a9 ∧ bSum g' - bSum g = b9 ∧ g ≤ g' ∧ bFr h h9 ∧ eClH (75 + g') h9 = true ∧ G g' h9) := by
  obtain ⟨q, h1, g', h', h2, h3, h4, h5, h6⟩ := k
  exact ⟨q, h1, v, 75 + g', h', g' - g, bSum g' - bSum g, h2, hv, rfl, g', rfl, rfl, rfl, h3, h4, h5, h6⟩
theorem b_isLatin1 {d : Nat} {h : eHp} {b g : Nat} {B : Nat → Int} {ml cnt : Int} (h61 : h 61 = .inr (1, [.ref b, vI 0, vI ml, vI cnt])) (hbb : h b = .inl (3, bCap g, .inl (eIA B))) (hbd : b = 62 ∨ (75 ≤ b ∧ b < 75 + g)) (hg5 : g ≤ 5) : eSp (d + 1) eM_J5_isLatin1_aae02 [.ref 61] (75 + g) h (eRet (some (vI 1)) (75 + g) h) := by
  refine eSp_of [(0, .ref 61)] rfl rfl ?_
  refine eW_getstatic 3 (v := vI 1) rfl rfl rfl ?_
  refine eW_if_eq 6 rfl rfl (by unfold i32; omega) (fun c1 => absurd c1 (by omega)) (fun c1 => ?_)
  refine eW_aload_n 7 rfl rfl rfl ?_
  refine eW_getfield 10 rfl rfl (Nat.ble_eq_true_of_le (by omega)) rfl h61 rfl ⟨rfl, fun _ h9 => nomatch h9⟩ ?_
  refine eW_if_ne 13 rfl rfl (by unfold i32; omega) (fun c2 => absurd c2 (by omega)) (fun c2 => ?_)
  refine eW_iconst 14 rfl rfl ?_
  refine eW_goto rfl ?_
  refine eW_ret_i rfl rfl (Or.inr (Or.inl ⟨rfl, rfl⟩)) ?_
  rfl
theorem b_canEncode {d : Nat} {h : eHp} {N : Nat} {c : Int} (hc : 0 ≤ c ∧ c ≤ 127) : eSp (d + 1) eM_J1_canEncode_fc78d [vI c] N h (eRet (some (vI 1)) N h) := by
  refine eSp_of [(0, vI c)] rfl rfl ?_
  refine eW_iload_n 1 rfl rfl rfl ?_
  refine eW_sipush 4 rfl rfl 255 rfl ?_
  refine eW_icmp_gt 7 rfl rfl (by unfold i32; omega) (by unfold i32; omega) (fun c1 => absurd c1 (by omega)) (fun c1 => ?_)
  refine eW_iconst 8 rfl rfl ?_
  refine eW_goto rfl ?_
  refine eW_ret_i rfl rfl (Or.inr (Or.inl ⟨rfl, rfl⟩)) ?_
  rfl
theorem b_newLength {d : Nat} {h : eHp} {N : Nat} {n m : Int} (hn : 0 ≤ n ∧ n ≤ 1000) (hm : 0 ≤ m ∧ m ≤ n + 2) : eSp (d + 1) eM_J8_newLength_cabcc [vI n, vI m, vI (n + 2)] N h (eRet (some (vI (2 * n + 2))) N h) := by
  have hmx : gMax m (n + 2) = n + 2 := by unfold gMax; by_cases e : m < n + 2; rw [decide_eq_true e]; rw [decide_eq_false e]; show m = n + 2; omega
  refine eSp_of [(0, vI n), (1, vI m), (2, vI (n + 2))] rfl rfl ?_
  refine eW_iload_n 1 rfl rfl rfl ?_
  refine eW_iload_n 2 rfl rfl rfl ?_
  refine eW_iload_n 3 rfl rfl rfl ?_
  refine eW_max 6 rfl rfl rfl rfl (by unfold i32; omega) (by unfold i32; omega) ?_
  refine eW_iadd 7 rfl rfl ?_
  rw [show (n + (gMax m (n + 2)) : Int) = 2 * n + 2 from (by rw [hmx]; omega)]
  refine eW_istore_n 8 rfl rfl [(3, vI (2 * n + 2)), (0, vI n), (1, vI m), (2, vI (n + 2))] rfl rfl ?_
  refine eW_iconst 9 rfl rfl ?_
  refine eW_iload_n 10 rfl rfl rfl ?_
  refine eW_icmp_ge 13 rfl rfl (by unfold i32; omega) (by unfold i32; omega) (fun c1 => absurd c1 (by omega)) (fun c1 => ?_)
  refine eW_iload_n 14 rfl rfl rfl ?_
  refine eW_ldc 16 rfl rfl 2147483639 rfl ?_
  refine eW_icmp_gt 19 rfl rfl (by unfold i32; omega) (by unfold i32; omega) (fun c2 => absurd c2 (by omega)) (fun c2 => ?_)
  refine eW_iload_n 20 rfl rfl rfl ?_
  refine eW_ret_i rfl rfl (Or.inl rfl) ?_
  rfl
theorem b_length5 {d : Nat} {h : eHp} {b g : Nat} {B : Nat → Int} {ml cnt : Int} (h61 : h 61 = .inr (1, [.ref b, vI 0, vI ml, vI cnt])) (hbb : h b = .inl (3, bCap g, .inl (eIA B))) (hbd : b = 62 ∨ (75 ≤ b ∧ b < 75 + g)) (hg5 : g ≤ 5) : eSp (d + 1) eM_J5_length_8abf5 [.ref 61] (75 + g) h (eRet (some (vI cnt)) (75 + g) h) := by
  refine eSp_of [(0, .ref 61)] rfl rfl ?_
  refine eW_aload_n 1 rfl rfl rfl ?_
  refine eW_getfield 4 rfl rfl (Nat.ble_eq_true_of_le (by omega)) rfl h61 rfl ⟨rfl, fun _ h9 => nomatch h9⟩ ?_
  refine eW_ret_i rfl rfl (Or.inl rfl) ?_
  rfl
theorem b_newCap {d : Nat} {h : eHp} {b g : Nat} {B : Nat → Int} {ml cnt : Int} (h61 : h 61 = .inr (1, [.ref b, vI 0, vI ml, vI cnt])) (hbb : h b = .inl (3, bCap g, .inl (eIA B))) (hbd : b = 62 ∨ (75 ≤ b ∧ b < 75 + g)) (hg5 : g ≤ 5) {m : Int} (hm : ((bCap g : Nat) : Int) < m ∧ m ≤ ((bCap g : Nat) : Int) + 2) : eSp (d + 2) eM_J5_newCapacity_0f7a4 [.ref 61, vI m] (75 + g) h (eRet (some (vI (2 * ((bCap g : Nat) : Int) + 2))) (75 + g) h) := by
  have hcp := bCap_le hg5
  refine eSp_of [(0, .ref 61), (1, vI m)] rfl rfl ?_
  refine eW_aload_n 1 rfl rfl rfl ?_
  refine eW_getfield 4 rfl rfl (Nat.ble_eq_true_of_le (by omega)) rfl h61 rfl ⟨rfl, fun _ h9 => nomatch h9⟩ ?_
  refine eW_arraylength 5 rfl rfl (Nat.ble_eq_true_of_le (by omega)) hbb rfl ?_
  refine eW_istore_n 6 rfl rfl [(2, vI ((((bCap g) : Nat) : Int))), (0, .ref 61), (1, vI m)] rfl rfl ?_
  refine eW_iload_n 7 rfl rfl rfl ?_
  refine eW_aload_n 8 rfl rfl rfl ?_
  refine eW_getfield 11 rfl rfl (Nat.ble_eq_true_of_le (by omega)) rfl h61 rfl ⟨rfl, fun _ h9 => nomatch h9⟩ ?_
  refine eW_ishl0 12 rfl rfl m (eShl0 _) ?_
  refine eW_istore_n 13 rfl rfl [(3, vI m), (2, vI ((((bCap g) : Nat) : Int))), (0, .ref 61), (1, vI m)] rfl rfl ?_
  refine eW_iload_n 14 rfl rfl rfl ?_
  refine eW_iload_n 15 rfl rfl rfl ?_
  refine eW_isub 16 rfl rfl ?_
  refine eW_istore 18 rfl rfl [(4, vI (m - ((((bCap g) : Nat) : Int)))), (3, vI m), (2, vI ((((bCap g) : Nat) : Int))), (0, .ref 61), (1, vI m)] rfl rfl ?_
  refine eW_iload_n 19 rfl rfl rfl ?_
  refine eW_iload 21 rfl rfl rfl ?_
  refine eW_iload_n 22 rfl rfl rfl ?_
  refine eW_iconst 23 rfl rfl ?_
  refine eW_aload_n 24 rfl rfl rfl ?_
  refine eW_getfield 27 rfl rfl (Nat.ble_eq_true_of_le (by omega)) rfl h61 rfl ⟨rfl, fun _ h9 => nomatch h9⟩ ?_
  refine eW_ishl0 28 rfl rfl 2 (eShl0 _) ?_
  refine eW_iadd 29 rfl rfl ?_
  refine eW_callM 32 [vI ((((bCap g) : Nat) : Int)), vI (m - ((((bCap g) : Nat) : Int))), vI (((((bCap g) : Nat) : Int)) + 2)] [] (eS_callS rfl rfl (Or.inl rfl) rfl) rfl rfl rfl (by first | rfl | (simp only [eClL, eClV, List.all_cons, List.all_nil, Bool.and_true, Bool.and_eq_true, Bool.true_and, Nat.ble_eq]; first | done | omega)) (eRet_M (b_newLength (d := d) (m := m - ((((bCap g) : Nat) : Int))) (by omega) (by omega))) ?_
  intro vh1 nh1 h1 ah1 bh1 fh1
  obtain ⟨rfl, rfl, rfl, rfl, rfl⟩ := fh1
  show eWp _ _ _ (32, [(4, vI (m - ((((bCap g) : Nat) : Int)))), (3, vI m), (2, vI ((((bCap g) : Nat) : Int))), (0, .ref 61), (1, vI m)], [vI (2 * ((bCap g : Nat) : Int) + 2)], _, h, _, _) _
  refine eW_istore 34 rfl rfl [(5, vI (2 * ((bCap g : Nat) : Int) + 2)), (4, vI (m - ((((bCap g) : Nat) : Int)))), (3, vI m), (2, vI ((((bCap g) : Nat) : Int))), (0, .ref 61), (1, vI m)] rfl rfl ?_
  refine eW_iload 36 rfl rfl rfl ?_
  refine eW_ldc 38 rfl rfl 2147483647 rfl ?_
  refine eW_icmp_ne 41 rfl rfl (by unfold i32; omega) (by unfold i32; omega) (fun c2 => ?_) (fun c2 => absurd c2 (by omega))
  refine eW_iload 53 rfl rfl rfl ?_
  refine eW_aload_n 54 rfl rfl rfl ?_
  refine eW_getfield 57 rfl rfl (Nat.ble_eq_true_of_le (by omega)) rfl h61 rfl ⟨rfl, fun _ h9 => nomatch h9⟩ ?_
  refine eW_ishr 58 rfl rfl (2 * ((bCap g : Nat) : Int) + 2) (eShr0 _) ?_
  refine eW_ret_i rfl rfl (Or.inl rfl) ?_
  rfl
