theorem eLow {b k : Nat} (h1 : ∀ j, j < k → b.testBit j = true) (h2 : b.testBit k = false) : b % 2 ^ (k + 1) = 2 ^ k - 1 := by
  apply Nat.eq_of_testBit_eq
  intro i
  rw [Nat.testBit_mod_two_pow, Nat.testBit_two_pow_sub_one]
  by_cases h : i < k
  · rw [h1 i h, decide_eq_true h, decide_eq_true (by omega)]; rfl
  · rw [decide_eq_false h]
    by_cases h3 : i = k
    · rw [h3, h2, Bool.and_false]
    · rw [decide_eq_false (by omega), Bool.false_and]
theorem eLow2 {b k : Nat} (h1 : ∀ j, j < k → b.testBit j = true) (h2 : b.testBit k = false) (i : Nat) : (b.testBit i && !(b + 1).testBit i) = (2 ^ k - 1).testBit i := by
  have h3 := eLow h1 h2
  have hp : 0 < 2 ^ k := Nat.two_pow_pos k
  have hq : 2 ^ (k + 1) = 2 ^ k + 2 ^ k := by rw [Nat.pow_succ]; omega
  have h4 : b = 2 ^ (k + 1) * (b / 2 ^ (k + 1)) + (2 ^ k - 1) := by rw [← h3]; exact (Nat.div_add_mod b _).symm
  have h5 : b + 1 = 2 ^ (k + 1) * (b / 2 ^ (k + 1)) + 2 ^ k := by omega
  have e1 : b.testBit i = if i < k + 1 then (2 ^ k - 1).testBit i else (b / 2 ^ (k + 1)).testBit (i - (k + 1)) := by
    conv => lhs; rw [h4]
    exact Nat.testBit_two_pow_mul_add _ (by omega) i
  have e2 : (b + 1).testBit i = if i < k + 1 then (2 ^ k).testBit i else (b / 2 ^ (k + 1)).testBit (i - (k + 1)) := by
    rw [h5]
    exact Nat.testBit_two_pow_mul_add _ (by omega) i
  rw [e1, e2, Nat.testBit_two_pow_sub_one, Nat.testBit_two_pow]
  by_cases h : i < k
  · rw [if_pos (by omega), if_pos (by omega), decide_eq_true h, decide_eq_false (by omega)]; rfl
  · by_cases h6 : i = k
    · rw [if_pos (by omega), if_pos (by omega), decide_eq_false h]; rfl
    · rw [if_neg (by omega), if_neg (by omega), decide_eq_false h]
      cases (b / 2 ^ (k + 1)).testBit (i - (k + 1)) <;> rfl
theorem eNotI (x : Int) : BitVec.ofInt 32 (-1 - x) = ~~~ BitVec.ofInt 32 x := by
  apply BitVec.eq_of_toNat_eq
  rw [BitVec.toNat_not, BitVec.toNat_ofInt, BitVec.toNat_ofInt]
  omega
theorem eNtzA {b k : Nat} (hb : b < 2 ^ 31) (h1 : ∀ j, j < k → b.testBit j = true) (h2 : b.testBit k = false) : Int32.ofInt (b : Int) &&& Int32.ofInt (-1 - (b : Int) - 1) = Int32.ofInt ((2 ^ k - 1 : Nat) : Int) := by
  rw [← Int32.toBitVec_inj, Int32.toBitVec_and]
  simp only [Int32.toBitVec_ofInt]
  rw [show -1 - (b : Int) - 1 = -1 - ((b + 1 : Nat) : Int) by omega, eNotI]
  simp only [BitVec.ofInt_natCast]
  apply BitVec.eq_of_getLsbD_eq
  intro i hi
  rw [BitVec.getLsbD_and, BitVec.getLsbD_not, BitVec.getLsbD_ofNat, BitVec.getLsbD_ofNat, BitVec.getLsbD_ofNat, decide_eq_true hi, Bool.true_and, Bool.true_and, Bool.true_and, Bool.true_and]
  exact eLow2 h1 h2 i
theorem eXorM {b : Nat} : Int32.ofInt (-1 - (b : Int)) ^^^ Int32.ofInt (-1) = Int32.ofInt (b : Int) := by
  rw [← Int32.toBitVec_inj, Int32.toBitVec_xor]
  simp only [Int32.toBitVec_ofInt]
  rw [eNotI, show BitVec.ofInt 32 (-1) = BitVec.allOnes 32 by rfl, BitVec.xor_allOnes, BitVec.not_not]
theorem eXorM2 {b : Nat} : Int32.ofInt (b : Int) ^^^ Int32.ofInt (-1) = Int32.ofInt (-1 - (b : Int)) := by
  rw [← Int32.toBitVec_inj, Int32.toBitVec_xor]
  simp only [Int32.toBitVec_ofInt]
  rw [eNotI, show BitVec.ofInt 32 (-1) = BitVec.allOnes 32 by rfl, BitVec.xor_allOnes]
theorem j_ntz2 {d N : Nat} {h : eHp} {k : Nat} (hk : k ≤ 30) : eWp eOx (eEv d) eM_J6_numberOfTrailingZeros_0f7a4 (8, [(0, vI ((2 ^ k - 1 : Nat) : Int))], [], N, h, 0, 0) (eRet (some (vI (k : Int))) N h) := by
  have hc : k = 0 ∨ k = 1 ∨ k = 2 ∨ k = 3 ∨ k = 4 ∨ k = 5 ∨ k = 6 ∨ k = 7 ∨ k = 8 ∨ k = 9 ∨ k = 10 ∨ k = 11 ∨ k = 12 ∨ k = 13 ∨ k = 14 ∨ k = 15 ∨ k = 16 ∨ k = 17 ∨ k = 18 ∨ k = 19 ∨ k = 20 ∨ k = 21 ∨ k = 22 ∨ k = 23 ∨ k = 24 ∨ k = 25 ∨ k = 26 ∨ k = 27 ∨ k = 28 ∨ k = 29 ∨ k = 30 := by omega
  rcases hc with rfl | rfl | rfl | rfl | rfl | rfl | rfl | rfl | rfl | rfl | rfl | rfl | rfl | rfl | rfl | rfl | rfl | rfl | rfl | rfl | rfl | rfl | rfl | rfl | rfl | rfl | rfl | rfl | rfl | rfl | rfl
  · show eWp _ _ _ (8, [(0, vI 0)], [], N, h, 0, 0) _
    refine eW_iload_n 9 rfl rfl rfl ?_
    refine eW_if_gt 12 rfl rfl (by unfold i32; omega) (fun c1 => absurd c1 (by omega)) (fun c1 => ?_)
    refine eW_iload_n 13 rfl rfl rfl ?_
    refine eW_bipush 15 rfl rfl 32 rfl ?_
    refine eW_iand 16 rfl rfl 0 (by decide) ?_
    refine eW_ret_i rfl rfl (Or.inl rfl) ?_
    exact eRet_i (by omega)
  · show eWp _ _ _ (8, [(0, vI 1)], [], N, h, 0, 0) _
    refine eW_iload_n 9 rfl rfl rfl ?_
    refine eW_if_gt 12 rfl rfl (by unfold i32; omega) (fun c1 => ?_) (fun c1 => absurd c1 (by omega))
    refine eW_iconst 18 rfl rfl ?_
    refine eW_istore_n 19 rfl rfl [(1, vI 1), (0, vI 1)] rfl rfl ?_
    refine eW_iload_n 20 rfl rfl rfl ?_
    refine eW_ldc_w 23 rfl rfl 65536 rfl ?_
    refine eW_icmp_le 26 rfl rfl (by unfold i32; omega) (by unfold i32; omega) (fun c2 => ?_) (fun c2 => absurd c2 (by omega))
    refine eW_iload_n 35 rfl rfl rfl ?_
    refine eW_sipush 38 rfl rfl 256 rfl ?_
    refine eW_icmp_le 41 rfl rfl (by unfold i32; omega) (by unfold i32; omega) (fun c3 => ?_) (fun c3 => absurd c3 (by omega))
    refine eW_iload_n 50 rfl rfl rfl ?_
    refine eW_bipush 52 rfl rfl 16 rfl ?_
    refine eW_icmp_le 55 rfl rfl (by unfold i32; omega) (by unfold i32; omega) (fun c4 => ?_) (fun c4 => absurd c4 (by omega))
    refine eW_iload_n 63 rfl rfl rfl ?_
    refine eW_iconst 64 rfl rfl ?_
    refine eW_icmp_le 67 rfl rfl (by unfold i32; omega) (by unfold i32; omega) (fun c5 => ?_) (fun c5 => absurd c5 (by omega))
    refine eW_iload_n 75 rfl rfl rfl ?_
    refine eW_iload_n 76 rfl rfl rfl ?_
    refine eW_iconst 77 rfl rfl ?_
    refine eW_iushr 78 rfl rfl 0 (by decide +kernel) ?_
    refine eW_iadd 79 rfl rfl ?_
    refine eW_ret_i rfl rfl (Or.inl rfl) ?_
    exact eRet_i (by omega)
  · show eWp _ _ _ (8, [(0, vI 3)], [], N, h, 0, 0) _
    refine eW_iload_n 9 rfl rfl rfl ?_
    refine eW_if_gt 12 rfl rfl (by unfold i32; omega) (fun c1 => ?_) (fun c1 => absurd c1 (by omega))
    refine eW_iconst 18 rfl rfl ?_
    refine eW_istore_n 19 rfl rfl [(1, vI 1), (0, vI 3)] rfl rfl ?_
    refine eW_iload_n 20 rfl rfl rfl ?_
    refine eW_ldc_w 23 rfl rfl 65536 rfl ?_
    refine eW_icmp_le 26 rfl rfl (by unfold i32; omega) (by unfold i32; omega) (fun c2 => ?_) (fun c2 => absurd c2 (by omega))
    refine eW_iload_n 35 rfl rfl rfl ?_
    refine eW_sipush 38 rfl rfl 256 rfl ?_
    refine eW_icmp_le 41 rfl rfl (by unfold i32; omega) (by unfold i32; omega) (fun c3 => ?_) (fun c3 => absurd c3 (by omega))
    refine eW_iload_n 50 rfl rfl rfl ?_
    refine eW_bipush 52 rfl rfl 16 rfl ?_
    refine eW_icmp_le 55 rfl rfl (by unfold i32; omega) (by unfold i32; omega) (fun c4 => ?_) (fun c4 => absurd c4 (by omega))
    refine eW_iload_n 63 rfl rfl rfl ?_
    refine eW_iconst 64 rfl rfl ?_
    refine eW_icmp_le 67 rfl rfl (by unfold i32; omega) (by unfold i32; omega) (fun c5 => ?_) (fun c5 => absurd c5 (by omega))
    refine eW_iload_n 75 rfl rfl rfl ?_
    refine eW_iload_n 76 rfl rfl rfl ?_
    refine eW_iconst 77 rfl rfl ?_
    refine eW_iushr 78 rfl rfl 1 (by decide +kernel) ?_
    refine eW_iadd 79 rfl rfl ?_
    refine eW_ret_i rfl rfl (Or.inl rfl) ?_
    exact eRet_i (by omega)
  · show eWp _ _ _ (8, [(0, vI 7)], [], N, h, 0, 0) _
    refine eW_iload_n 9 rfl rfl rfl ?_
    refine eW_if_gt 12 rfl rfl (by unfold i32; omega) (fun c1 => ?_) (fun c1 => absurd c1 (by omega))
    refine eW_iconst 18 rfl rfl ?_
    refine eW_istore_n 19 rfl rfl [(1, vI 1), (0, vI 7)] rfl rfl ?_
    refine eW_iload_n 20 rfl rfl rfl ?_
    refine eW_ldc_w 23 rfl rfl 65536 rfl ?_
    refine eW_icmp_le 26 rfl rfl (by unfold i32; omega) (by unfold i32; omega) (fun c2 => ?_) (fun c2 => absurd c2 (by omega))
    refine eW_iload_n 35 rfl rfl rfl ?_
    refine eW_sipush 38 rfl rfl 256 rfl ?_
    refine eW_icmp_le 41 rfl rfl (by unfold i32; omega) (by unfold i32; omega) (fun c3 => ?_) (fun c3 => absurd c3 (by omega))
    refine eW_iload_n 50 rfl rfl rfl ?_
    refine eW_bipush 52 rfl rfl 16 rfl ?_
    refine eW_icmp_le 55 rfl rfl (by unfold i32; omega) (by unfold i32; omega) (fun c4 => ?_) (fun c4 => absurd c4 (by omega))
    refine eW_iload_n 63 rfl rfl rfl ?_
    refine eW_iconst 64 rfl rfl ?_
    refine eW_icmp_le 67 rfl rfl (by unfold i32; omega) (by unfold i32; omega) (fun c5 => absurd c5 (by omega)) (fun c5 => ?_)
    refine eW_iinc 70 rfl rfl [(1, vI (1 + 2)), (0, vI 7)] rfl rfl rfl ?_
    refine eW_iload_n 71 rfl rfl rfl ?_
    refine eW_iconst 72 rfl rfl ?_
    refine eW_iushr 73 rfl rfl 1 (by decide +kernel) ?_
    refine eW_istore_n 74 rfl rfl [(0, vI 1), (1, vI (1 + 2))] rfl rfl ?_
    refine eW_iload_n 75 rfl rfl rfl ?_
    refine eW_iload_n 76 rfl rfl rfl ?_
    refine eW_iconst 77 rfl rfl ?_
    refine eW_iushr 78 rfl rfl 0 (by decide +kernel) ?_
    refine eW_iadd 79 rfl rfl ?_
    refine eW_ret_i rfl rfl (Or.inl rfl) ?_
    exact eRet_i (by omega)
  · show eWp _ _ _ (8, [(0, vI 15)], [], N, h, 0, 0) _
    refine eW_iload_n 9 rfl rfl rfl ?_
    refine eW_if_gt 12 rfl rfl (by unfold i32; omega) (fun c1 => ?_) (fun c1 => absurd c1 (by omega))
    refine eW_iconst 18 rfl rfl ?_
    refine eW_istore_n 19 rfl rfl [(1, vI 1), (0, vI 15)] rfl rfl ?_
    refine eW_iload_n 20 rfl rfl rfl ?_
    refine eW_ldc_w 23 rfl rfl 65536 rfl ?_
    refine eW_icmp_le 26 rfl rfl (by unfold i32; omega) (by unfold i32; omega) (fun c2 => ?_) (fun c2 => absurd c2 (by omega))
    refine eW_iload_n 35 rfl rfl rfl ?_
    refine eW_sipush 38 rfl rfl 256 rfl ?_
    refine eW_icmp_le 41 rfl rfl (by unfold i32; omega) (by unfold i32; omega) (fun c3 => ?_) (fun c3 => absurd c3 (by omega))
    refine eW_iload_n 50 rfl rfl rfl ?_
    refine eW_bipush 52 rfl rfl 16 rfl ?_
    refine eW_icmp_le 55 rfl rfl (by unfold i32; omega) (by unfold i32; omega) (fun c4 => ?_) (fun c4 => absurd c4 (by omega))
    refine eW_iload_n 63 rfl rfl rfl ?_
    refine eW_iconst 64 rfl rfl ?_
    refine eW_icmp_le 67 rfl rfl (by unfold i32; omega) (by unfold i32; omega) (fun c5 => absurd c5 (by omega)) (fun c5 => ?_)
    refine eW_iinc 70 rfl rfl [(1, vI (1 + 2)), (0, vI 15)] rfl rfl rfl ?_
    refine eW_iload_n 71 rfl rfl rfl ?_
    refine eW_iconst 72 rfl rfl ?_
    refine eW_iushr 73 rfl rfl 3 (by decide +kernel) ?_
    refine eW_istore_n 74 rfl rfl [(0, vI 3), (1, vI (1 + 2))] rfl rfl ?_
    refine eW_iload_n 75 rfl rfl rfl ?_
    refine eW_iload_n 76 rfl rfl rfl ?_
    refine eW_iconst 77 rfl rfl ?_
    refine eW_iushr 78 rfl rfl 1 (by decide +kernel) ?_
    refine eW_iadd 79 rfl rfl ?_
    refine eW_ret_i rfl rfl (Or.inl rfl) ?_
    exact eRet_i (by omega)
  · show eWp _ _ _ (8, [(0, vI 31)], [], N, h, 0, 0) _
    refine eW_iload_n 9 rfl rfl rfl ?_
    refine eW_if_gt 12 rfl rfl (by unfold i32; omega) (fun c1 => ?_) (fun c1 => absurd c1 (by omega))
    refine eW_iconst 18 rfl rfl ?_
    refine eW_istore_n 19 rfl rfl [(1, vI 1), (0, vI 31)] rfl rfl ?_
    refine eW_iload_n 20 rfl rfl rfl ?_
    refine eW_ldc_w 23 rfl rfl 65536 rfl ?_
    refine eW_icmp_le 26 rfl rfl (by unfold i32; omega) (by unfold i32; omega) (fun c2 => ?_) (fun c2 => absurd c2 (by omega))
    refine eW_iload_n 35 rfl rfl rfl ?_
    refine eW_sipush 38 rfl rfl 256 rfl ?_
    refine eW_icmp_le 41 rfl rfl (by unfold i32; omega) (by unfold i32; omega) (fun c3 => ?_) (fun c3 => absurd c3 (by omega))
    refine eW_iload_n 50 rfl rfl rfl ?_
    refine eW_bipush 52 rfl rfl 16 rfl ?_
    refine eW_icmp_le 55 rfl rfl (by unfold i32; omega) (by unfold i32; omega) (fun c4 => absurd c4 (by omega)) (fun c4 => ?_)
    refine eW_iinc 58 rfl rfl [(1, vI (1 + 4)), (0, vI 31)] rfl rfl rfl ?_
    refine eW_iload_n 59 rfl rfl rfl ?_
    refine eW_iconst 60 rfl rfl ?_
    refine eW_iushr 61 rfl rfl 1 (by decide +kernel) ?_
    refine eW_istore_n 62 rfl rfl [(0, vI 1), (1, vI (1 + 4))] rfl rfl ?_
    refine eW_iload_n 63 rfl rfl rfl ?_
    refine eW_iconst 64 rfl rfl ?_
    refine eW_icmp_le 67 rfl rfl (by unfold i32; omega) (by unfold i32; omega) (fun c5 => ?_) (fun c5 => absurd c5 (by omega))
    refine eW_iload_n 75 rfl rfl rfl ?_
    refine eW_iload_n 76 rfl rfl rfl ?_
    refine eW_iconst 77 rfl rfl ?_
    refine eW_iushr 78 rfl rfl 0 (by decide +kernel) ?_
    refine eW_iadd 79 rfl rfl ?_
    refine eW_ret_i rfl rfl (Or.inl rfl) ?_
    exact eRet_i (by omega)
  · show eWp _ _ _ (8, [(0, vI 63)], [], N, h, 0, 0) _
    refine eW_iload_n 9 rfl rfl rfl ?_
    refine eW_if_gt 12 rfl rfl (by unfold i32; omega) (fun c1 => ?_) (fun c1 => absurd c1 (by omega))
    refine eW_iconst 18 rfl rfl ?_
    refine eW_istore_n 19 rfl rfl [(1, vI 1), (0, vI 63)] rfl rfl ?_
    refine eW_iload_n 20 rfl rfl rfl ?_
    refine eW_ldc_w 23 rfl rfl 65536 rfl ?_
    refine eW_icmp_le 26 rfl rfl (by unfold i32; omega) (by unfold i32; omega) (fun c2 => ?_) (fun c2 => absurd c2 (by omega))
    refine eW_iload_n 35 rfl rfl rfl ?_
    refine eW_sipush 38 rfl rfl 256 rfl ?_
    refine eW_icmp_le 41 rfl rfl (by unfold i32; omega) (by unfold i32; omega) (fun c3 => ?_) (fun c3 => absurd c3 (by omega))
    refine eW_iload_n 50 rfl rfl rfl ?_
    refine eW_bipush 52 rfl rfl 16 rfl ?_
    refine eW_icmp_le 55 rfl rfl (by unfold i32; omega) (by unfold i32; omega) (fun c4 => absurd c4 (by omega)) (fun c4 => ?_)
    refine eW_iinc 58 rfl rfl [(1, vI (1 + 4)), (0, vI 63)] rfl rfl rfl ?_
    refine eW_iload_n 59 rfl rfl rfl ?_
    refine eW_iconst 60 rfl rfl ?_
    refine eW_iushr 61 rfl rfl 3 (by decide +kernel) ?_
    refine eW_istore_n 62 rfl rfl [(0, vI 3), (1, vI (1 + 4))] rfl rfl ?_
    refine eW_iload_n 63 rfl rfl rfl ?_
    refine eW_iconst 64 rfl rfl ?_
    refine eW_icmp_le 67 rfl rfl (by unfold i32; omega) (by unfold i32; omega) (fun c5 => ?_) (fun c5 => absurd c5 (by omega))
    refine eW_iload_n 75 rfl rfl rfl ?_
    refine eW_iload_n 76 rfl rfl rfl ?_
    refine eW_iconst 77 rfl rfl ?_
    refine eW_iushr 78 rfl rfl 1 (by decide +kernel) ?_
    refine eW_iadd 79 rfl rfl ?_
    refine eW_ret_i rfl rfl (Or.inl rfl) ?_
    exact eRet_i (by omega)
  · show eWp _ _ _ (8, [(0, vI 127)], [], N, h, 0, 0) _
    refine eW_iload_n 9 rfl rfl rfl ?_
    refine eW_if_gt 12 rfl rfl (by unfold i32; omega) (fun c1 => ?_) (fun c1 => absurd c1 (by omega))
    refine eW_iconst 18 rfl rfl ?_
    refine eW_istore_n 19 rfl rfl [(1, vI 1), (0, vI 127)] rfl rfl ?_
    refine eW_iload_n 20 rfl rfl rfl ?_
    refine eW_ldc_w 23 rfl rfl 65536 rfl ?_
    refine eW_icmp_le 26 rfl rfl (by unfold i32; omega) (by unfold i32; omega) (fun c2 => ?_) (fun c2 => absurd c2 (by omega))
    refine eW_iload_n 35 rfl rfl rfl ?_
    refine eW_sipush 38 rfl rfl 256 rfl ?_
    refine eW_icmp_le 41 rfl rfl (by unfold i32; omega) (by unfold i32; omega) (fun c3 => ?_) (fun c3 => absurd c3 (by omega))
    refine eW_iload_n 50 rfl rfl rfl ?_
    refine eW_bipush 52 rfl rfl 16 rfl ?_
    refine eW_icmp_le 55 rfl rfl (by unfold i32; omega) (by unfold i32; omega) (fun c4 => absurd c4 (by omega)) (fun c4 => ?_)
    refine eW_iinc 58 rfl rfl [(1, vI (1 + 4)), (0, vI 127)] rfl rfl rfl ?_
    refine eW_iload_n 59 rfl rfl rfl ?_
    refine eW_iconst 60 rfl rfl ?_
    refine eW_iushr 61 rfl rfl 7 (by decide +kernel) ?_
    refine eW_istore_n 62 rfl rfl [(0, vI 7), (1, vI (1 + 4))] rfl rfl ?_
    refine eW_iload_n 63 rfl rfl rfl ?_
    refine eW_iconst 64 rfl rfl ?_
    refine eW_icmp_le 67 rfl rfl (by unfold i32; omega) (by unfold i32; omega) (fun c5 => absurd c5 (by omega)) (fun c5 => ?_)
    refine eW_iinc 70 rfl rfl [(1, vI ((1 + 4) + 2)), (0, vI 7)] rfl rfl rfl ?_
    refine eW_iload_n 71 rfl rfl rfl ?_
    refine eW_iconst 72 rfl rfl ?_
    refine eW_iushr 73 rfl rfl 1 (by decide +kernel) ?_
    refine eW_istore_n 74 rfl rfl [(0, vI 1), (1, vI ((1 + 4) + 2))] rfl rfl ?_
    refine eW_iload_n 75 rfl rfl rfl ?_
    refine eW_iload_n 76 rfl rfl rfl ?_
    refine eW_iconst 77 rfl rfl ?_
    refine eW_iushr 78 rfl rfl 0 (by decide +kernel) ?_
    refine eW_iadd 79 rfl rfl ?_
    refine eW_ret_i rfl rfl (Or.inl rfl) ?_
    exact eRet_i (by omega)
  · show eWp _ _ _ (8, [(0, vI 255)], [], N, h, 0, 0) _
    refine eW_iload_n 9 rfl rfl rfl ?_
    refine eW_if_gt 12 rfl rfl (by unfold i32; omega) (fun c1 => ?_) (fun c1 => absurd c1 (by omega))
    refine eW_iconst 18 rfl rfl ?_
    refine eW_istore_n 19 rfl rfl [(1, vI 1), (0, vI 255)] rfl rfl ?_
    refine eW_iload_n 20 rfl rfl rfl ?_
    refine eW_ldc_w 23 rfl rfl 65536 rfl ?_
    refine eW_icmp_le 26 rfl rfl (by unfold i32; omega) (by unfold i32; omega) (fun c2 => ?_) (fun c2 => absurd c2 (by omega))
    refine eW_iload_n 35 rfl rfl rfl ?_
    refine eW_sipush 38 rfl rfl 256 rfl ?_
    refine eW_icmp_le 41 rfl rfl (by unfold i32; omega) (by unfold i32; omega) (fun c3 => ?_) (fun c3 => absurd c3 (by omega))
    refine eW_iload_n 50 rfl rfl rfl ?_
    refine eW_bipush 52 rfl rfl 16 rfl ?_
    refine eW_icmp_le 55 rfl rfl (by unfold i32; omega) (by unfold i32; omega) (fun c4 => absurd c4 (by omega)) (fun c4 => ?_)
    refine eW_iinc 58 rfl rfl [(1, vI (1 + 4)), (0, vI 255)] rfl rfl rfl ?_
    refine eW_iload_n 59 rfl rfl rfl ?_
    refine eW_iconst 60 rfl rfl ?_
    refine eW_iushr 61 rfl rfl 15 (by decide +kernel) ?_
    refine eW_istore_n 62 rfl rfl [(0, vI 15), (1, vI (1 + 4))] rfl rfl ?_
    refine eW_iload_n 63 rfl rfl rfl ?_
    refine eW_iconst 64 rfl rfl ?_
    refine eW_icmp_le 67 rfl rfl (by unfold i32; omega) (by unfold i32; omega) (fun c5 => absurd c5 (by omega)) (fun c5 => ?_)
    refine eW_iinc 70 rfl rfl [(1, vI ((1 + 4) + 2)), (0, vI 15)] rfl rfl rfl ?_
    refine eW_iload_n 71 rfl rfl rfl ?_
    refine eW_iconst 72 rfl rfl ?_
    refine eW_iushr 73 rfl rfl 3 (by decide +kernel) ?_
    refine eW_istore_n 74 rfl rfl [(0, vI 3), (1, vI ((1 + 4) + 2))] rfl rfl ?_
    refine eW_iload_n 75 rfl rfl rfl ?_
    refine eW_iload_n 76 rfl rfl rfl ?_
    refine eW_iconst 77 rfl rfl ?_
    refine eW_iushr 78 rfl rfl 1 (by decide +kernel) ?_
    refine eW_iadd 79 rfl rfl ?_
    refine eW_ret_i rfl rfl (Or.inl rfl) ?_
    exact eRet_i (by omega)
  · show eWp _ _ _ (8, [(0, vI 511)], [], N, h, 0, 0) _
    refine eW_iload_n 9 rfl rfl rfl ?_
    refine eW_if_gt 12 rfl rfl (by unfold i32; omega) (fun c1 => ?_) (fun c1 => absurd c1 (by omega))
    refine eW_iconst 18 rfl rfl ?_
    refine eW_istore_n 19 rfl rfl [(1, vI 1), (0, vI 511)] rfl rfl ?_
    refine eW_iload_n 20 rfl rfl rfl ?_
    refine eW_ldc_w 23 rfl rfl 65536 rfl ?_
    refine eW_icmp_le 26 rfl rfl (by unfold i32; omega) (by unfold i32; omega) (fun c2 => ?_) (fun c2 => absurd c2 (by omega))
    refine eW_iload_n 35 rfl rfl rfl ?_
    refine eW_sipush 38 rfl rfl 256 rfl ?_
    refine eW_icmp_le 41 rfl rfl (by unfold i32; omega) (by unfold i32; omega) (fun c3 => absurd c3 (by omega)) (fun c3 => ?_)
    refine eW_iinc 44 rfl rfl [(1, vI (1 + 8)), (0, vI 511)] rfl rfl rfl ?_
    refine eW_iload_n 45 rfl rfl rfl ?_
    refine eW_bipush 47 rfl rfl 8 rfl ?_
    refine eW_iushr 48 rfl rfl 1 (by decide +kernel) ?_
    refine eW_istore_n 49 rfl rfl [(0, vI 1), (1, vI (1 + 8))] rfl rfl ?_
    refine eW_iload_n 50 rfl rfl rfl ?_
    refine eW_bipush 52 rfl rfl 16 rfl ?_
    refine eW_icmp_le 55 rfl rfl (by unfold i32; omega) (by unfold i32; omega) (fun c4 => ?_) (fun c4 => absurd c4 (by omega))
    refine eW_iload_n 63 rfl rfl rfl ?_
    refine eW_iconst 64 rfl rfl ?_
    refine eW_icmp_le 67 rfl rfl (by unfold i32; omega) (by unfold i32; omega) (fun c5 => ?_) (fun c5 => absurd c5 (by omega))
    refine eW_iload_n 75 rfl rfl rfl ?_
    refine eW_iload_n 76 rfl rfl rfl ?_
    refine eW_iconst 77 rfl rfl ?_
    refine eW_iushr 78 rfl rfl 0 (by decide +kernel) ?_
    refine eW_iadd 79 rfl rfl ?_
    refine eW_ret_i rfl rfl (Or.inl rfl) ?_
    exact eRet_i (by omega)
  · show eWp _ _ _ (8, [(0, vI 1023)], [], N, h, 0, 0) _
    refine eW_iload_n 9 rfl rfl rfl ?_
    refine eW_if_gt 12 rfl rfl (by unfold i32; omega) (fun c1 => ?_) (fun c1 => absurd c1 (by omega))
    refine eW_iconst 18 rfl rfl ?_
    refine eW_istore_n 19 rfl rfl [(1, vI 1), (0, vI 1023)] rfl rfl ?_
    refine eW_iload_n 20 rfl rfl rfl ?_
    refine eW_ldc_w 23 rfl rfl 65536 rfl ?_
    refine eW_icmp_le 26 rfl rfl (by unfold i32; omega) (by unfold i32; omega) (fun c2 => ?_) (fun c2 => absurd c2 (by omega))
    refine eW_iload_n 35 rfl rfl rfl ?_
    refine eW_sipush 38 rfl rfl 256 rfl ?_
    refine eW_icmp_le 41 rfl rfl (by unfold i32; omega) (by unfold i32; omega) (fun c3 => absurd c3 (by omega)) (fun c3 => ?_)
    refine eW_iinc 44 rfl rfl [(1, vI (1 + 8)), (0, vI 1023)] rfl rfl rfl ?_
    refine eW_iload_n 45 rfl rfl rfl ?_
    refine eW_bipush 47 rfl rfl 8 rfl ?_
    refine eW_iushr 48 rfl rfl 3 (by decide +kernel) ?_
    refine eW_istore_n 49 rfl rfl [(0, vI 3), (1, vI (1 + 8))] rfl rfl ?_
    refine eW_iload_n 50 rfl rfl rfl ?_
    refine eW_bipush 52 rfl rfl 16 rfl ?_
    refine eW_icmp_le 55 rfl rfl (by unfold i32; omega) (by unfold i32; omega) (fun c4 => ?_) (fun c4 => absurd c4 (by omega))
    refine eW_iload_n 63 rfl rfl rfl ?_
    refine eW_iconst 64 rfl rfl ?_
    refine eW_icmp_le 67 rfl rfl (by unfold i32; omega) (by unfold i32; omega) (fun c5 => ?_) (fun c5 => absurd c5 (by omega))
    refine eW_iload_n 75 rfl rfl rfl ?_
    refine eW_iload_n 76 rfl rfl rfl ?_
    refine eW_iconst 77 rfl rfl ?_
    refine eW_iushr 78 rfl rfl 1 (by decide +kernel) ?_
    refine eW_iadd 79 rfl rfl ?_
    refine eW_ret_i rfl rfl (Or.inl rfl) ?_
    exact eRet_i (by omega)
  · show eWp _ _ _ (8, [(0, vI 2047)], [], N, h, 0, 0) _
    refine eW_iload_n 9 rfl rfl rfl ?_
    refine eW_if_gt 12 rfl rfl (by unfold i32; omega) (fun c1 => ?_) (fun c1 => absurd c1 (by omega))
    refine eW_iconst 18 rfl rfl ?_
    refine eW_istore_n 19 rfl rfl [(1, vI 1), (0, vI 2047)] rfl rfl ?_
    refine eW_iload_n 20 rfl rfl rfl ?_
    refine eW_ldc_w 23 rfl rfl 65536 rfl ?_
    refine eW_icmp_le 26 rfl rfl (by unfold i32; omega) (by unfold i32; omega) (fun c2 => ?_) (fun c2 => absurd c2 (by omega))
    refine eW_iload_n 35 rfl rfl rfl ?_
    refine eW_sipush 38 rfl rfl 256 rfl ?_
    refine eW_icmp_le 41 rfl rfl (by unfold i32; omega) (by unfold i32; omega) (fun c3 => absurd c3 (by omega)) (fun c3 => ?_)
    refine eW_iinc 44 rfl rfl [(1, vI (1 + 8)), (0, vI 2047)] rfl rfl rfl ?_
    refine eW_iload_n 45 rfl rfl rfl ?_
    refine eW_bipush 47 rfl rfl 8 rfl ?_
    refine eW_iushr 48 rfl rfl 7 (by decide +kernel) ?_
    refine eW_istore_n 49 rfl rfl [(0, vI 7), (1, vI (1 + 8))] rfl rfl ?_
    refine eW_iload_n 50 rfl rfl rfl ?_
    refine eW_bipush 52 rfl rfl 16 rfl ?_
    refine eW_icmp_le 55 rfl rfl (by unfold i32; omega) (by unfold i32; omega) (fun c4 => ?_) (fun c4 => absurd c4 (by omega))
    refine eW_iload_n 63 rfl rfl rfl ?_
    refine eW_iconst 64 rfl rfl ?_
    refine eW_icmp_le 67 rfl rfl (by unfold i32; omega) (by unfold i32; omega) (fun c5 => absurd c5 (by omega)) (fun c5 => ?_)
    refine eW_iinc 70 rfl rfl [(1, vI ((1 + 8) + 2)), (0, vI 7)] rfl rfl rfl ?_
    refine eW_iload_n 71 rfl rfl rfl ?_
    refine eW_iconst 72 rfl rfl ?_
    refine eW_iushr 73 rfl rfl 1 (by decide +kernel) ?_
    refine eW_istore_n 74 rfl rfl [(0, vI 1), (1, vI ((1 + 8) + 2))] rfl rfl ?_
    refine eW_iload_n 75 rfl rfl rfl ?_
    refine eW_iload_n 76 rfl rfl rfl ?_
    refine eW_iconst 77 rfl rfl ?_
    refine eW_iushr 78 rfl rfl 0 (by decide +kernel) ?_
    refine eW_iadd 79 rfl rfl ?_
    refine eW_ret_i rfl rfl (Or.inl rfl) ?_
    exact eRet_i (by omega)
  · show eWp _ _ _ (8, [(0, vI 4095)], [], N, h, 0, 0) _
    refine eW_iload_n 9 rfl rfl rfl ?_
    refine eW_if_gt 12 rfl rfl (by unfold i32; omega) (fun c1 => ?_) (fun c1 => absurd c1 (by omega))
    refine eW_iconst 18 rfl rfl ?_
    refine eW_istore_n 19 rfl rfl [(1, vI 1), (0, vI 4095)] rfl rfl ?_
    refine eW_iload_n 20 rfl rfl rfl ?_
    refine eW_ldc_w 23 rfl rfl 65536 rfl ?_
    refine eW_icmp_le 26 rfl rfl (by unfold i32; omega) (by unfold i32; omega) (fun c2 => ?_) (fun c2 => absurd c2 (by omega))
    refine eW_iload_n 35 rfl rfl rfl ?_
    refine eW_sipush 38 rfl rfl 256 rfl ?_
    refine eW_icmp_le 41 rfl rfl (by unfold i32; omega) (by unfold i32; omega) (fun c3 => absurd c3 (by omega)) (fun c3 => ?_)
    refine eW_iinc 44 rfl rfl [(1, vI (1 + 8)), (0, vI 4095)] rfl rfl rfl ?_
    refine eW_iload_n 45 rfl rfl rfl ?_
    refine eW_bipush 47 rfl rfl 8 rfl ?_
    refine eW_iushr 48 rfl rfl 15 (by decide +kernel) ?_
    refine eW_istore_n 49 rfl rfl [(0, vI 15), (1, vI (1 + 8))] rfl rfl ?_
    refine eW_iload_n 50 rfl rfl rfl ?_
    refine eW_bipush 52 rfl rfl 16 rfl ?_
    refine eW_icmp_le 55 rfl rfl (by unfold i32; omega) (by unfold i32; omega) (fun c4 => ?_) (fun c4 => absurd c4 (by omega))
    refine eW_iload_n 63 rfl rfl rfl ?_
    refine eW_iconst 64 rfl rfl ?_
    refine eW_icmp_le 67 rfl rfl (by unfold i32; omega) (by unfold i32; omega) (fun c5 => absurd c5 (by omega)) (fun c5 => ?_)
    refine eW_iinc 70 rfl rfl [(1, vI ((1 + 8) + 2)), (0, vI 15)] rfl rfl rfl ?_
    refine eW_iload_n 71 rfl rfl rfl ?_
    refine eW_iconst 72 rfl rfl ?_
    refine eW_iushr 73 rfl rfl 3 (by decide +kernel) ?_
    refine eW_istore_n 74 rfl rfl [(0, vI 3), (1, vI ((1 + 8) + 2))] rfl rfl ?_
    refine eW_iload_n 75 rfl rfl rfl ?_
    refine eW_iload_n 76 rfl rfl rfl ?_
    refine eW_iconst 77 rfl rfl ?_
    refine eW_iushr 78 rfl rfl 1 (by decide +kernel) ?_
    refine eW_iadd 79 rfl rfl ?_
    refine eW_ret_i rfl rfl (Or.inl rfl) ?_
    exact eRet_i (by omega)
  · show eWp _ _ _ (8, [(0, vI 8191)], [], N, h, 0, 0) _
    refine eW_iload_n 9 rfl rfl rfl ?_
    refine eW_if_gt 12 rfl rfl (by unfold i32; omega) (fun c1 => ?_) (fun c1 => absurd c1 (by omega))
    refine eW_iconst 18 rfl rfl ?_
    refine eW_istore_n 19 rfl rfl [(1, vI 1), (0, vI 8191)] rfl rfl ?_
    refine eW_iload_n 20 rfl rfl rfl ?_
    refine eW_ldc_w 23 rfl rfl 65536 rfl ?_
    refine eW_icmp_le 26 rfl rfl (by unfold i32; omega) (by unfold i32; omega) (fun c2 => ?_) (fun c2 => absurd c2 (by omega))
    refine eW_iload_n 35 rfl rfl rfl ?_
    refine eW_sipush 38 rfl rfl 256 rfl ?_
    refine eW_icmp_le 41 rfl rfl (by unfold i32; omega) (by unfold i32; omega) (fun c3 => absurd c3 (by omega)) (fun c3 => ?_)
    refine eW_iinc 44 rfl rfl [(1, vI (1 + 8)), (0, vI 8191)] rfl rfl rfl ?_
    refine eW_iload_n 45 rfl rfl rfl ?_
    refine eW_bipush 47 rfl rfl 8 rfl ?_
    refine eW_iushr 48 rfl rfl 31 (by decide +kernel) ?_
    refine eW_istore_n 49 rfl rfl [(0, vI 31), (1, vI (1 + 8))] rfl rfl ?_
    refine eW_iload_n 50 rfl rfl rfl ?_
    refine eW_bipush 52 rfl rfl 16 rfl ?_
    refine eW_icmp_le 55 rfl rfl (by unfold i32; omega) (by unfold i32; omega) (fun c4 => absurd c4 (by omega)) (fun c4 => ?_)
    refine eW_iinc 58 rfl rfl [(1, vI ((1 + 8) + 4)), (0, vI 31)] rfl rfl rfl ?_
    refine eW_iload_n 59 rfl rfl rfl ?_
    refine eW_iconst 60 rfl rfl ?_
    refine eW_iushr 61 rfl rfl 1 (by decide +kernel) ?_
    refine eW_istore_n 62 rfl rfl [(0, vI 1), (1, vI ((1 + 8) + 4))] rfl rfl ?_
    refine eW_iload_n 63 rfl rfl rfl ?_
    refine eW_iconst 64 rfl rfl ?_
    refine eW_icmp_le 67 rfl rfl (by unfold i32; omega) (by unfold i32; omega) (fun c5 => ?_) (fun c5 => absurd c5 (by omega))
    refine eW_iload_n 75 rfl rfl rfl ?_
    refine eW_iload_n 76 rfl rfl rfl ?_
    refine eW_iconst 77 rfl rfl ?_
    refine eW_iushr 78 rfl rfl 0 (by decide +kernel) ?_
    refine eW_iadd 79 rfl rfl ?_
    refine eW_ret_i rfl rfl (Or.inl rfl) ?_
    exact eRet_i (by omega)
  · show eWp _ _ _ (8, [(0, vI 16383)], [], N, h, 0, 0) _
    refine eW_iload_n 9 rfl rfl rfl ?_
    refine eW_if_gt 12 rfl rfl (by unfold i32; omega) (fun c1 => ?_) (fun c1 => absurd c1 (by omega))
    refine eW_iconst 18 rfl rfl ?_
    refine eW_istore_n 19 rfl rfl [(1, vI 1), (0, vI 16383)] rfl rfl ?_
    refine eW_iload_n 20 rfl rfl rfl ?_
    refine eW_ldc_w 23 rfl rfl 65536 rfl ?_
    refine eW_icmp_le 26 rfl rfl (by unfold i32; omega) (by unfold i32; omega) (fun c2 => ?_) (fun c2 => absurd c2 (by omega))
    refine eW_iload_n 35 rfl rfl rfl ?_
    refine eW_sipush 38 rfl rfl 256 rfl ?_
    refine eW_icmp_le 41 rfl rfl (by unfold i32; omega) (by unfold i32; omega) (fun c3 => absurd c3 (by omega)) (fun c3 => ?_)
    refine eW_iinc 44 rfl rfl [(1, vI (1 + 8)), (0, vI 16383)] rfl rfl rfl ?_
    refine eW_iload_n 45 rfl rfl rfl ?_
    refine eW_bipush 47 rfl rfl 8 rfl ?_
    refine eW_iushr 48 rfl rfl 63 (by decide +kernel) ?_
    refine eW_istore_n 49 rfl rfl [(0, vI 63), (1, vI (1 + 8))] rfl rfl ?_
    refine eW_iload_n 50 rfl rfl rfl ?_
    refine eW_bipush 52 rfl rfl 16 rfl ?_
    refine eW_icmp_le 55 rfl rfl (by unfold i32; omega) (by unfold i32; omega) (fun c4 => absurd c4 (by omega)) (fun c4 => ?_)
    refine eW_iinc 58 rfl rfl [(1, vI ((1 + 8) + 4)), (0, vI 63)] rfl rfl rfl ?_
    refine eW_iload_n 59 rfl rfl rfl ?_
    refine eW_iconst 60 rfl rfl ?_
    refine eW_iushr 61 rfl rfl 3 (by decide +kernel) ?_
    refine eW_istore_n 62 rfl rfl [(0, vI 3), (1, vI ((1 + 8) + 4))] rfl rfl ?_
    refine eW_iload_n 63 rfl rfl rfl ?_
    refine eW_iconst 64 rfl rfl ?_
    refine eW_icmp_le 67 rfl rfl (by unfold i32; omega) (by unfold i32; omega) (fun c5 => ?_) (fun c5 => absurd c5 (by omega))
    refine eW_iload_n 75 rfl rfl rfl ?_
    refine eW_iload_n 76 rfl rfl rfl ?_
    refine eW_iconst 77 rfl rfl ?_
    refine eW_iushr 78 rfl rfl 1 (by decide +kernel) ?_
    refine eW_iadd 79 rfl rfl ?_
    refine eW_ret_i rfl rfl (Or.inl rfl) ?_
    exact eRet_i (by omega)
  · show eWp _ _ _ (8, [(0, vI 32767)], [], N, h, 0, 0) _
    refine eW_iload_n 9 rfl rfl rfl ?_
    refine eW_if_gt 12 rfl rfl (by unfold i32; omega) (fun c1 => ?_) (fun c1 => absurd c1 (by omega))
    refine eW_iconst 18 rfl rfl ?_
    refine eW_istore_n 19 rfl rfl [(1, vI 1), (0, vI 32767)] rfl rfl ?_
    refine eW_iload_n 20 rfl rfl rfl ?_
    refine eW_ldc_w 23 rfl rfl 65536 rfl ?_
    refine eW_icmp_le 26 rfl rfl (by unfold i32; omega) (by unfold i32; omega) (fun c2 => ?_) (fun c2 => absurd c2 (by omega))
    refine eW_iload_n 35 rfl rfl rfl ?_
    refine eW_sipush 38 rfl rfl 256 rfl ?_
    refine eW_icmp_le 41 rfl rfl (by unfold i32; omega) (by unfold i32; omega) (fun c3 => absurd c3 (by omega)) (fun c3 => ?_)
    refine eW_iinc 44 rfl rfl [(1, vI (1 + 8)), (0, vI 32767)] rfl rfl rfl ?_
    refine eW_iload_n 45 rfl rfl rfl ?_
    refine eW_bipush 47 rfl rfl 8 rfl ?_
    refine eW_iushr 48 rfl rfl 127 (by decide +kernel) ?_
    refine eW_istore_n 49 rfl rfl [(0, vI 127), (1, vI (1 + 8))] rfl rfl ?_
    refine eW_iload_n 50 rfl rfl rfl ?_
    refine eW_bipush 52 rfl rfl 16 rfl ?_
    refine eW_icmp_le 55 rfl rfl (by unfold i32; omega) (by unfold i32; omega) (fun c4 => absurd c4 (by omega)) (fun c4 => ?_)
    refine eW_iinc 58 rfl rfl [(1, vI ((1 + 8) + 4)), (0, vI 127)] rfl rfl rfl ?_
    refine eW_iload_n 59 rfl rfl rfl ?_
    refine eW_iconst 60 rfl rfl ?_
    refine eW_iushr 61 rfl rfl 7 (by decide +kernel) ?_
    refine eW_istore_n 62 rfl rfl [(0, vI 7), (1, vI ((1 + 8) + 4))] rfl rfl ?_
    refine eW_iload_n 63 rfl rfl rfl ?_
    refine eW_iconst 64 rfl rfl ?_
    refine eW_icmp_le 67 rfl rfl (by unfold i32; omega) (by unfold i32; omega) (fun c5 => absurd c5 (by omega)) (fun c5 => ?_)
    refine eW_iinc 70 rfl rfl [(1, vI (((1 + 8) + 4) + 2)), (0, vI 7)] rfl rfl rfl ?_
    refine eW_iload_n 71 rfl rfl rfl ?_
    refine eW_iconst 72 rfl rfl ?_
    refine eW_iushr 73 rfl rfl 1 (by decide +kernel) ?_
    refine eW_istore_n 74 rfl rfl [(0, vI 1), (1, vI (((1 + 8) + 4) + 2))] rfl rfl ?_
    refine eW_iload_n 75 rfl rfl rfl ?_
    refine eW_iload_n 76 rfl rfl rfl ?_
    refine eW_iconst 77 rfl rfl ?_
    refine eW_iushr 78 rfl rfl 0 (by decide +kernel) ?_
    refine eW_iadd 79 rfl rfl ?_
    refine eW_ret_i rfl rfl (Or.inl rfl) ?_
    exact eRet_i (by omega)
  · show eWp _ _ _ (8, [(0, vI 65535)], [], N, h, 0, 0) _
    refine eW_iload_n 9 rfl rfl rfl ?_
    refine eW_if_gt 12 rfl rfl (by unfold i32; omega) (fun c1 => ?_) (fun c1 => absurd c1 (by omega))
    refine eW_iconst 18 rfl rfl ?_
    refine eW_istore_n 19 rfl rfl [(1, vI 1), (0, vI 65535)] rfl rfl ?_
    refine eW_iload_n 20 rfl rfl rfl ?_
    refine eW_ldc_w 23 rfl rfl 65536 rfl ?_
    refine eW_icmp_le 26 rfl rfl (by unfold i32; omega) (by unfold i32; omega) (fun c2 => ?_) (fun c2 => absurd c2 (by omega))
    refine eW_iload_n 35 rfl rfl rfl ?_
    refine eW_sipush 38 rfl rfl 256 rfl ?_
    refine eW_icmp_le 41 rfl rfl (by unfold i32; omega) (by unfold i32; omega) (fun c3 => absurd c3 (by omega)) (fun c3 => ?_)
    refine eW_iinc 44 rfl rfl [(1, vI (1 + 8)), (0, vI 65535)] rfl rfl rfl ?_
    refine eW_iload_n 45 rfl rfl rfl ?_
    refine eW_bipush 47 rfl rfl 8 rfl ?_
    refine eW_iushr 48 rfl rfl 255 (by decide +kernel) ?_
    refine eW_istore_n 49 rfl rfl [(0, vI 255), (1, vI (1 + 8))] rfl rfl ?_
    refine eW_iload_n 50 rfl rfl rfl ?_
    refine eW_bipush 52 rfl rfl 16 rfl ?_
    refine eW_icmp_le 55 rfl rfl (by unfold i32; omega) (by unfold i32; omega) (fun c4 => absurd c4 (by omega)) (fun c4 => ?_)
    refine eW_iinc 58 rfl rfl [(1, vI ((1 + 8) + 4)), (0, vI 255)] rfl rfl rfl ?_
    refine eW_iload_n 59 rfl rfl rfl ?_
    refine eW_iconst 60 rfl rfl ?_
    refine eW_iushr 61 rfl rfl 15 (by decide +kernel) ?_
    refine eW_istore_n 62 rfl rfl [(0, vI 15), (1, vI ((1 + 8) + 4))] rfl rfl ?_
    refine eW_iload_n 63 rfl rfl rfl ?_
    refine eW_iconst 64 rfl rfl ?_
    refine eW_icmp_le 67 rfl rfl (by unfold i32; omega) (by unfold i32; omega) (fun c5 => absurd c5 (by omega)) (fun c5 => ?_)
    refine eW_iinc 70 rfl rfl [(1, vI (((1 + 8) + 4) + 2)), (0, vI 15)] rfl rfl rfl ?_
    refine eW_iload_n 71 rfl rfl rfl ?_
    refine eW_iconst 72 rfl rfl ?_
    refine eW_iushr 73 rfl rfl 3 (by decide +kernel) ?_
    refine eW_istore_n 74 rfl rfl [(0, vI 3), (1, vI (((1 + 8) + 4) + 2))] rfl rfl ?_
    refine eW_iload_n 75 rfl rfl rfl ?_
    refine eW_iload_n 76 rfl rfl rfl ?_
    refine eW_iconst 77 rfl rfl ?_
    refine eW_iushr 78 rfl rfl 1 (by decide +kernel) ?_
    refine eW_iadd 79 rfl rfl ?_
    refine eW_ret_i rfl rfl (Or.inl rfl) ?_
    exact eRet_i (by omega)
  · show eWp _ _ _ (8, [(0, vI 131071)], [], N, h, 0, 0) _
    refine eW_iload_n 9 rfl rfl rfl ?_
    refine eW_if_gt 12 rfl rfl (by unfold i32; omega) (fun c1 => ?_) (fun c1 => absurd c1 (by omega))
    refine eW_iconst 18 rfl rfl ?_
    refine eW_istore_n 19 rfl rfl [(1, vI 1), (0, vI 131071)] rfl rfl ?_
    refine eW_iload_n 20 rfl rfl rfl ?_
    refine eW_ldc_w 23 rfl rfl 65536 rfl ?_
    refine eW_icmp_le 26 rfl rfl (by unfold i32; omega) (by unfold i32; omega) (fun c2 => absurd c2 (by omega)) (fun c2 => ?_)
    refine eW_iinc 29 rfl rfl [(1, vI (1 + 16)), (0, vI 131071)] rfl rfl rfl ?_
    refine eW_iload_n 30 rfl rfl rfl ?_
    refine eW_bipush 32 rfl rfl 16 rfl ?_
    refine eW_iushr 33 rfl rfl 1 (by decide +kernel) ?_
    refine eW_istore_n 34 rfl rfl [(0, vI 1), (1, vI (1 + 16))] rfl rfl ?_
    refine eW_iload_n 35 rfl rfl rfl ?_
    refine eW_sipush 38 rfl rfl 256 rfl ?_
    refine eW_icmp_le 41 rfl rfl (by unfold i32; omega) (by unfold i32; omega) (fun c3 => ?_) (fun c3 => absurd c3 (by omega))
    refine eW_iload_n 50 rfl rfl rfl ?_
    refine eW_bipush 52 rfl rfl 16 rfl ?_
    refine eW_icmp_le 55 rfl rfl (by unfold i32; omega) (by unfold i32; omega) (fun c4 => ?_) (fun c4 => absurd c4 (by omega))
    refine eW_iload_n 63 rfl rfl rfl ?_
    refine eW_iconst 64 rfl rfl ?_
    refine eW_icmp_le 67 rfl rfl (by unfold i32; omega) (by unfold i32; omega) (fun c5 => ?_) (fun c5 => absurd c5 (by omega))
    refine eW_iload_n 75 rfl rfl rfl ?_
    refine eW_iload_n 76 rfl rfl rfl ?_
    refine eW_iconst 77 rfl rfl ?_
    refine eW_iushr 78 rfl rfl 0 (by decide +kernel) ?_
    refine eW_iadd 79 rfl rfl ?_
    refine eW_ret_i rfl rfl (Or.inl rfl) ?_
    exact eRet_i (by omega)
  · show eWp _ _ _ (8, [(0, vI 262143)], [], N, h, 0, 0) _
    refine eW_iload_n 9 rfl rfl rfl ?_
    refine eW_if_gt 12 rfl rfl (by unfold i32; omega) (fun c1 => ?_) (fun c1 => absurd c1 (by omega))
    refine eW_iconst 18 rfl rfl ?_
    refine eW_istore_n 19 rfl rfl [(1, vI 1), (0, vI 262143)] rfl rfl ?_
    refine eW_iload_n 20 rfl rfl rfl ?_
    refine eW_ldc_w 23 rfl rfl 65536 rfl ?_
    refine eW_icmp_le 26 rfl rfl (by unfold i32; omega) (by unfold i32; omega) (fun c2 => absurd c2 (by omega)) (fun c2 => ?_)
    refine eW_iinc 29 rfl rfl [(1, vI (1 + 16)), (0, vI 262143)] rfl rfl rfl ?_
    refine eW_iload_n 30 rfl rfl rfl ?_
    refine eW_bipush 32 rfl rfl 16 rfl ?_
    refine eW_iushr 33 rfl rfl 3 (by decide +kernel) ?_
    refine eW_istore_n 34 rfl rfl [(0, vI 3), (1, vI (1 + 16))] rfl rfl ?_
    refine eW_iload_n 35 rfl rfl rfl ?_
    refine eW_sipush 38 rfl rfl 256 rfl ?_
    refine eW_icmp_le 41 rfl rfl (by unfold i32; omega) (by unfold i32; omega) (fun c3 => ?_) (fun c3 => absurd c3 (by omega))
    refine eW_iload_n 50 rfl rfl rfl ?_
    refine eW_bipush 52 rfl rfl 16 rfl ?_
    refine eW_icmp_le 55 rfl rfl (by unfold i32; omega) (by unfold i32; omega) (fun c4 => ?_) (fun c4 => absurd c4 (by omega))
    refine eW_iload_n 63 rfl rfl rfl ?_
    refine eW_iconst 64 rfl rfl ?_
    refine eW_icmp_le 67 rfl rfl (by unfold i32; omega) (by unfold i32; omega) (fun c5 => ?_) (fun c5 => absurd c5 (by omega))
    refine eW_iload_n 75 rfl rfl rfl ?_
    refine eW_iload_n 76 rfl rfl rfl ?_
    refine eW_iconst 77 rfl rfl ?_
    refine eW_iushr 78 rfl rfl 1 (by decide +kernel) ?_
    refine eW_iadd 79 rfl rfl ?_
    refine eW_ret_i rfl rfl (Or.inl rfl) ?_
    exact eRet_i (by omega)
  · show eWp _ _ _ (8, [(0, vI 524287)], [], N, h, 0, 0) _
    refine eW_iload_n 9 rfl rfl rfl ?_
    refine eW_if_gt 12 rfl rfl (by unfold i32; omega) (fun c1 => ?_) (fun c1 => absurd c1 (by omega))
    refine eW_iconst 18 rfl rfl ?_
    refine eW_istore_n 19 rfl rfl [(1, vI 1), (0, vI 524287)] rfl rfl ?_
    refine eW_iload_n 20 rfl rfl rfl ?_
    refine eW_ldc_w 23 rfl rfl 65536 rfl ?_
    refine eW_icmp_le 26 rfl rfl (by unfold i32; omega) (by unfold i32; omega) (fun c2 => absurd c2 (by omega)) (fun c2 => ?_)
    refine eW_iinc 29 rfl rfl [(1, vI (1 + 16)), (0, vI 524287)] rfl rfl rfl ?_
    refine eW_iload_n 30 rfl rfl rfl ?_
    refine eW_bipush 32 rfl rfl 16 rfl ?_
    refine eW_iushr 33 rfl rfl 7 (by decide +kernel) ?_
    refine eW_istore_n 34 rfl rfl [(0, vI 7), (1, vI (1 + 16))] rfl rfl ?_
    refine eW_iload_n 35 rfl rfl rfl ?_
    refine eW_sipush 38 rfl rfl 256 rfl ?_
    refine eW_icmp_le 41 rfl rfl (by unfold i32; omega) (by unfold i32; omega) (fun c3 => ?_) (fun c3 => absurd c3 (by omega))
    refine eW_iload_n 50 rfl rfl rfl ?_
    refine eW_bipush 52 rfl rfl 16 rfl ?_
    refine eW_icmp_le 55 rfl rfl (by unfold i32; omega) (by unfold i32; omega) (fun c4 => ?_) (fun c4 => absurd c4 (by omega))
    refine eW_iload_n 63 rfl rfl rfl ?_
    refine eW_iconst 64 rfl rfl ?_
    refine eW_icmp_le 67 rfl rfl (by unfold i32; omega) (by unfold i32; omega) (fun c5 => absurd c5 (by omega)) (fun c5 => ?_)
    refine eW_iinc 70 rfl rfl [(1, vI ((1 + 16) + 2)), (0, vI 7)] rfl rfl rfl ?_
    refine eW_iload_n 71 rfl rfl rfl ?_
    refine eW_iconst 72 rfl rfl ?_
    refine eW_iushr 73 rfl rfl 1 (by decide +kernel) ?_
    refine eW_istore_n 74 rfl rfl [(0, vI 1), (1, vI ((1 + 16) + 2))] rfl rfl ?_
    refine eW_iload_n 75 rfl rfl rfl ?_
    refine eW_iload_n 76 rfl rfl rfl ?_
    refine eW_iconst 77 rfl rfl ?_
    refine eW_iushr 78 rfl rfl 0 (by decide +kernel) ?_
    refine eW_iadd 79 rfl rfl ?_
    refine eW_ret_i rfl rfl (Or.inl rfl) ?_
    exact eRet_i (by omega)
  · show eWp _ _ _ (8, [(0, vI 1048575)], [], N, h, 0, 0) _
    refine eW_iload_n 9 rfl rfl rfl ?_
    refine eW_if_gt 12 rfl rfl (by unfold i32; omega) (fun c1 => ?_) (fun c1 => absurd c1 (by omega))
    refine eW_iconst 18 rfl rfl ?_
    refine eW_istore_n 19 rfl rfl [(1, vI 1), (0, vI 1048575)] rfl rfl ?_
    refine eW_iload_n 20 rfl rfl rfl ?_
    refine eW_ldc_w 23 rfl rfl 65536 rfl ?_
    refine eW_icmp_le 26 rfl rfl (by unfold i32; omega) (by unfold i32; omega) (fun c2 => absurd c2 (by omega)) (fun c2 => ?_)
    refine eW_iinc 29 rfl rfl [(1, vI (1 + 16)), (0, vI 1048575)] rfl rfl rfl ?_
    refine eW_iload_n 30 rfl rfl rfl ?_
    refine eW_bipush 32 rfl rfl 16 rfl ?_
    refine eW_iushr 33 rfl rfl 15 (by decide +kernel) ?_
    refine eW_istore_n 34 rfl rfl [(0, vI 15), (1, vI (1 + 16))] rfl rfl ?_
    refine eW_iload_n 35 rfl rfl rfl ?_
    refine eW_sipush 38 rfl rfl 256 rfl ?_
    refine eW_icmp_le 41 rfl rfl (by unfold i32; omega) (by unfold i32; omega) (fun c3 => ?_) (fun c3 => absurd c3 (by omega))
    refine eW_iload_n 50 rfl rfl rfl ?_
    refine eW_bipush 52 rfl rfl 16 rfl ?_
    refine eW_icmp_le 55 rfl rfl (by unfold i32; omega) (by unfold i32; omega) (fun c4 => ?_) (fun c4 => absurd c4 (by omega))
    refine eW_iload_n 63 rfl rfl rfl ?_
    refine eW_iconst 64 rfl rfl ?_
    refine eW_icmp_le 67 rfl rfl (by unfold i32; omega) (by unfold i32; omega) (fun c5 => absurd c5 (by omega)) (fun c5 => ?_)
    refine eW_iinc 70 rfl rfl [(1, vI ((1 + 16) + 2)), (0, vI 15)] rfl rfl rfl ?_
    refine eW_iload_n 71 rfl rfl rfl ?_
    refine eW_iconst 72 rfl rfl ?_
    refine eW_iushr 73 rfl rfl 3 (by decide +kernel) ?_
    refine eW_istore_n 74 rfl rfl [(0, vI 3), (1, vI ((1 + 16) + 2))] rfl rfl ?_
    refine eW_iload_n 75 rfl rfl rfl ?_
    refine eW_iload_n 76 rfl rfl rfl ?_
    refine eW_iconst 77 rfl rfl ?_
    refine eW_iushr 78 rfl rfl 1 (by decide +kernel) ?_
    refine eW_iadd 79 rfl rfl ?_
    refine eW_ret_i rfl rfl (Or.inl rfl) ?_
    exact eRet_i (by omega)
  · show eWp _ _ _ (8, [(0, vI 2097151)], [], N, h, 0, 0) _
    refine eW_iload_n 9 rfl rfl rfl ?_
    refine eW_if_gt 12 rfl rfl (by unfold i32; omega) (fun c1 => ?_) (fun c1 => absurd c1 (by omega))
    refine eW_iconst 18 rfl rfl ?_
    refine eW_istore_n 19 rfl rfl [(1, vI 1), (0, vI 2097151)] rfl rfl ?_
    refine eW_iload_n 20 rfl rfl rfl ?_
    refine eW_ldc_w 23 rfl rfl 65536 rfl ?_
    refine eW_icmp_le 26 rfl rfl (by unfold i32; omega) (by unfold i32; omega) (fun c2 => absurd c2 (by omega)) (fun c2 => ?_)
    refine eW_iinc 29 rfl rfl [(1, vI (1 + 16)), (0, vI 2097151)] rfl rfl rfl ?_
    refine eW_iload_n 30 rfl rfl rfl ?_
    refine eW_bipush 32 rfl rfl 16 rfl ?_
    refine eW_iushr 33 rfl rfl 31 (by decide +kernel) ?_
    refine eW_istore_n 34 rfl rfl [(0, vI 31), (1, vI (1 + 16))] rfl rfl ?_
    refine eW_iload_n 35 rfl rfl rfl ?_
    refine eW_sipush 38 rfl rfl 256 rfl ?_
    refine eW_icmp_le 41 rfl rfl (by unfold i32; omega) (by unfold i32; omega) (fun c3 => ?_) (fun c3 => absurd c3 (by omega))
    refine eW_iload_n 50 rfl rfl rfl ?_
    refine eW_bipush 52 rfl rfl 16 rfl ?_
    refine eW_icmp_le 55 rfl rfl (by unfold i32; omega) (by unfold i32; omega) (fun c4 => absurd c4 (by omega)) (fun c4 => ?_)
    refine eW_iinc 58 rfl rfl [(1, vI ((1 + 16) + 4)), (0, vI 31)] rfl rfl rfl ?_
    refine eW_iload_n 59 rfl rfl rfl ?_
    refine eW_iconst 60 rfl rfl ?_
    refine eW_iushr 61 rfl rfl 1 (by decide +kernel) ?_
    refine eW_istore_n 62 rfl rfl [(0, vI 1), (1, vI ((1 + 16) + 4))] rfl rfl ?_
    refine eW_iload_n 63 rfl rfl rfl ?_
    refine eW_iconst 64 rfl rfl ?_
    refine eW_icmp_le 67 rfl rfl (by unfold i32; omega) (by unfold i32; omega) (fun c5 => ?_) (fun c5 => absurd c5 (by omega))
    refine eW_iload_n 75 rfl rfl rfl ?_
    refine eW_iload_n 76 rfl rfl rfl ?_
    refine eW_iconst 77 rfl rfl ?_
    refine eW_iushr 78 rfl rfl 0 (by decide +kernel) ?_
    refine eW_iadd 79 rfl rfl ?_
    refine eW_ret_i rfl rfl (Or.inl rfl) ?_
    exact eRet_i (by omega)
  · show eWp _ _ _ (8, [(0, vI 4194303)], [], N, h, 0, 0) _
    refine eW_iload_n 9 rfl rfl rfl ?_
    refine eW_if_gt 12 rfl rfl (by unfold i32; omega) (fun c1 => ?_) (fun c1 => absurd c1 (by omega))
    refine eW_iconst 18 rfl rfl ?_
    refine eW_istore_n 19 rfl rfl [(1, vI 1), (0, vI 4194303)] rfl rfl ?_
    refine eW_iload_n 20 rfl rfl rfl ?_
    refine eW_ldc_w 23 rfl rfl 65536 rfl ?_
    refine eW_icmp_le 26 rfl rfl (by unfold i32; omega) (by unfold i32; omega) (fun c2 => absurd c2 (by omega)) (fun c2 => ?_)
    refine eW_iinc 29 rfl rfl [(1, vI (1 + 16)), (0, vI 4194303)] rfl rfl rfl ?_
    refine eW_iload_n 30 rfl rfl rfl ?_
    refine eW_bipush 32 rfl rfl 16 rfl ?_
    refine eW_iushr 33 rfl rfl 63 (by decide +kernel) ?_
    refine eW_istore_n 34 rfl rfl [(0, vI 63), (1, vI (1 + 16))] rfl rfl ?_
    refine eW_iload_n 35 rfl rfl rfl ?_
    refine eW_sipush 38 rfl rfl 256 rfl ?_
    refine eW_icmp_le 41 rfl rfl (by unfold i32; omega) (by unfold i32; omega) (fun c3 => ?_) (fun c3 => absurd c3 (by omega))
    refine eW_iload_n 50 rfl rfl rfl ?_
    refine eW_bipush 52 rfl rfl 16 rfl ?_
    refine eW_icmp_le 55 rfl rfl (by unfold i32; omega) (by unfold i32; omega) (fun c4 => absurd c4 (by omega)) (fun c4 => ?_)
    refine eW_iinc 58 rfl rfl [(1, vI ((1 + 16) + 4)), (0, vI 63)] rfl rfl rfl ?_
    refine eW_iload_n 59 rfl rfl rfl ?_
    refine eW_iconst 60 rfl rfl ?_
    refine eW_iushr 61 rfl rfl 3 (by decide +kernel) ?_
    refine eW_istore_n 62 rfl rfl [(0, vI 3), (1, vI ((1 + 16) + 4))] rfl rfl ?_
    refine eW_iload_n 63 rfl rfl rfl ?_
    refine eW_iconst 64 rfl rfl ?_
    refine eW_icmp_le 67 rfl rfl (by unfold i32; omega) (by unfold i32; omega) (fun c5 => ?_) (fun c5 => absurd c5 (by omega))
    refine eW_iload_n 75 rfl rfl rfl ?_
    refine eW_iload_n 76 rfl rfl rfl ?_
    refine eW_iconst 77 rfl rfl ?_
    refine eW_iushr 78 rfl rfl 1 (by decide +kernel) ?_
    refine eW_iadd 79 rfl rfl ?_
    refine eW_ret_i rfl rfl (Or.inl rfl) ?_
    exact eRet_i (by omega)
  · show eWp _ _ _ (8, [(0, vI 8388607)], [], N, h, 0, 0) _
    refine eW_iload_n 9 rfl rfl rfl ?_
    refine eW_if_gt 12 rfl rfl (by unfold i32; omega) (fun c1 => ?_) (fun c1 => absurd c1 (by omega))
    refine eW_iconst 18 rfl rfl ?_
    refine eW_istore_n 19 rfl rfl [(1, vI 1), (0, vI 8388607)] rfl rfl ?_
    refine eW_iload_n 20 rfl rfl rfl ?_
    refine eW_ldc_w 23 rfl rfl 65536 rfl ?_
    refine eW_icmp_le 26 rfl rfl (by unfold i32; omega) (by unfold i32; omega) (fun c2 => absurd c2 (by omega)) (fun c2 => ?_)
    refine eW_iinc 29 rfl rfl [(1, vI (1 + 16)), (0, vI 8388607)] rfl rfl rfl ?_
    refine eW_iload_n 30 rfl rfl rfl ?_
    refine eW_bipush 32 rfl rfl 16 rfl ?_
    refine eW_iushr 33 rfl rfl 127 (by decide +kernel) ?_
    refine eW_istore_n 34 rfl rfl [(0, vI 127), (1, vI (1 + 16))] rfl rfl ?_
    refine eW_iload_n 35 rfl rfl rfl ?_
    refine eW_sipush 38 rfl rfl 256 rfl ?_
    refine eW_icmp_le 41 rfl rfl (by unfold i32; omega) (by unfold i32; omega) (fun c3 => ?_) (fun c3 => absurd c3 (by omega))
    refine eW_iload_n 50 rfl rfl rfl ?_
    refine eW_bipush 52 rfl rfl 16 rfl ?_
    refine eW_icmp_le 55 rfl rfl (by unfold i32; omega) (by unfold i32; omega) (fun c4 => absurd c4 (by omega)) (fun c4 => ?_)
    refine eW_iinc 58 rfl rfl [(1, vI ((1 + 16) + 4)), (0, vI 127)] rfl rfl rfl ?_
    refine eW_iload_n 59 rfl rfl rfl ?_
    refine eW_iconst 60 rfl rfl ?_
    refine eW_iushr 61 rfl rfl 7 (by decide +kernel) ?_
    refine eW_istore_n 62 rfl rfl [(0, vI 7), (1, vI ((1 + 16) + 4))] rfl rfl ?_
    refine eW_iload_n 63 rfl rfl rfl ?_
    refine eW_iconst 64 rfl rfl ?_
    refine eW_icmp_le 67 rfl rfl (by unfold i32; omega) (by unfold i32; omega) (fun c5 => absurd c5 (by omega)) (fun c5 => ?_)
    refine eW_iinc 70 rfl rfl [(1, vI (((1 + 16) + 4) + 2)), (0, vI 7)] rfl rfl rfl ?_
    refine eW_iload_n 71 rfl rfl rfl ?_
    refine eW_iconst 72 rfl rfl ?_
    refine eW_iushr 73 rfl rfl 1 (by decide +kernel) ?_
    refine eW_istore_n 74 rfl rfl [(0, vI 1), (1, vI (((1 + 16) + 4) + 2))] rfl rfl ?_
    refine eW_iload_n 75 rfl rfl rfl ?_
    refine eW_iload_n 76 rfl rfl rfl ?_
    refine eW_iconst 77 rfl rfl ?_
    refine eW_iushr 78 rfl rfl 0 (by decide +kernel) ?_
    refine eW_iadd 79 rfl rfl ?_
    refine eW_ret_i rfl rfl (Or.inl rfl) ?_
    exact eRet_i (by omega)
  · show eWp _ _ _ (8, [(0, vI 16777215)], [], N, h, 0, 0) _
    refine eW_iload_n 9 rfl rfl rfl ?_
    refine eW_if_gt 12 rfl rfl (by unfold i32; omega) (fun c1 => ?_) (fun c1 => absurd c1 (by omega))
    refine eW_iconst 18 rfl rfl ?_
    refine eW_istore_n 19 rfl rfl [(1, vI 1), (0, vI 16777215)] rfl rfl ?_
    refine eW_iload_n 20 rfl rfl rfl ?_
    refine eW_ldc_w 23 rfl rfl 65536 rfl ?_
    refine eW_icmp_le 26 rfl rfl (by unfold i32; omega) (by unfold i32; omega) (fun c2 => absurd c2 (by omega)) (fun c2 => ?_)
    refine eW_iinc 29 rfl rfl [(1, vI (1 + 16)), (0, vI 16777215)] rfl rfl rfl ?_
    refine eW_iload_n 30 rfl rfl rfl ?_
    refine eW_bipush 32 rfl rfl 16 rfl ?_
    refine eW_iushr 33 rfl rfl 255 (by decide +kernel) ?_
    refine eW_istore_n 34 rfl rfl [(0, vI 255), (1, vI (1 + 16))] rfl rfl ?_
    refine eW_iload_n 35 rfl rfl rfl ?_
    refine eW_sipush 38 rfl rfl 256 rfl ?_
    refine eW_icmp_le 41 rfl rfl (by unfold i32; omega) (by unfold i32; omega) (fun c3 => ?_) (fun c3 => absurd c3 (by omega))
    refine eW_iload_n 50 rfl rfl rfl ?_
    refine eW_bipush 52 rfl rfl 16 rfl ?_
    refine eW_icmp_le 55 rfl rfl (by unfold i32; omega) (by unfold i32; omega) (fun c4 => absurd c4 (by omega)) (fun c4 => ?_)
    refine eW_iinc 58 rfl rfl [(1, vI ((1 + 16) + 4)), (0, vI 255)] rfl rfl rfl ?_
    refine eW_iload_n 59 rfl rfl rfl ?_
    refine eW_iconst 60 rfl rfl ?_
    refine eW_iushr 61 rfl rfl 15 (by decide +kernel) ?_
    refine eW_istore_n 62 rfl rfl [(0, vI 15), (1, vI ((1 + 16) + 4))] rfl rfl ?_
    refine eW_iload_n 63 rfl rfl rfl ?_
    refine eW_iconst 64 rfl rfl ?_
    refine eW_icmp_le 67 rfl rfl (by unfold i32; omega) (by unfold i32; omega) (fun c5 => absurd c5 (by omega)) (fun c5 => ?_)
    refine eW_iinc 70 rfl rfl [(1, vI (((1 + 16) + 4) + 2)), (0, vI 15)] rfl rfl rfl ?_
    refine eW_iload_n 71 rfl rfl rfl ?_
    refine eW_iconst 72 rfl rfl ?_
    refine eW_iushr 73 rfl rfl 3 (by decide +kernel) ?_
    refine eW_istore_n 74 rfl rfl [(0, vI 3), (1, vI (((1 + 16) + 4) + 2))] rfl rfl ?_
    refine eW_iload_n 75 rfl rfl rfl ?_
    refine eW_iload_n 76 rfl rfl rfl ?_
    refine eW_iconst 77 rfl rfl ?_
    refine eW_iushr 78 rfl rfl 1 (by decide +kernel) ?_
    refine eW_iadd 79 rfl rfl ?_
    refine eW_ret_i rfl rfl (Or.inl rfl) ?_
    exact eRet_i (by omega)
  · show eWp _ _ _ (8, [(0, vI 33554431)], [], N, h, 0, 0) _
    refine eW_iload_n 9 rfl rfl rfl ?_
    refine eW_if_gt 12 rfl rfl (by unfold i32; omega) (fun c1 => ?_) (fun c1 => absurd c1 (by omega))
    refine eW_iconst 18 rfl rfl ?_
    refine eW_istore_n 19 rfl rfl [(1, vI 1), (0, vI 33554431)] rfl rfl ?_
    refine eW_iload_n 20 rfl rfl rfl ?_
    refine eW_ldc_w 23 rfl rfl 65536 rfl ?_
    refine eW_icmp_le 26 rfl rfl (by unfold i32; omega) (by unfold i32; omega) (fun c2 => absurd c2 (by omega)) (fun c2 => ?_)
    refine eW_iinc 29 rfl rfl [(1, vI (1 + 16)), (0, vI 33554431)] rfl rfl rfl ?_
    refine eW_iload_n 30 rfl rfl rfl ?_
    refine eW_bipush 32 rfl rfl 16 rfl ?_
    refine eW_iushr 33 rfl rfl 511 (by decide +kernel) ?_
    refine eW_istore_n 34 rfl rfl [(0, vI 511), (1, vI (1 + 16))] rfl rfl ?_
    refine eW_iload_n 35 rfl rfl rfl ?_
    refine eW_sipush 38 rfl rfl 256 rfl ?_
    refine eW_icmp_le 41 rfl rfl (by unfold i32; omega) (by unfold i32; omega) (fun c3 => absurd c3 (by omega)) (fun c3 => ?_)
    refine eW_iinc 44 rfl rfl [(1, vI ((1 + 16) + 8)), (0, vI 511)] rfl rfl rfl ?_
    refine eW_iload_n 45 rfl rfl rfl ?_
    refine eW_bipush 47 rfl rfl 8 rfl ?_
    refine eW_iushr 48 rfl rfl 1 (by decide +kernel) ?_
    refine eW_istore_n 49 rfl rfl [(0, vI 1), (1, vI ((1 + 16) + 8))] rfl rfl ?_
    refine eW_iload_n 50 rfl rfl rfl ?_
    refine eW_bipush 52 rfl rfl 16 rfl ?_
    refine eW_icmp_le 55 rfl rfl (by unfold i32; omega) (by unfold i32; omega) (fun c4 => ?_) (fun c4 => absurd c4 (by omega))
    refine eW_iload_n 63 rfl rfl rfl ?_
    refine eW_iconst 64 rfl rfl ?_
    refine eW_icmp_le 67 rfl rfl (by unfold i32; omega) (by unfold i32; omega) (fun c5 => ?_) (fun c5 => absurd c5 (by omega))
    refine eW_iload_n 75 rfl rfl rfl ?_
    refine eW_iload_n 76 rfl rfl rfl ?_
    refine eW_iconst 77 rfl rfl ?_
    refine eW_iushr 78 rfl rfl 0 (by decide +kernel) ?_
    refine eW_iadd 79 rfl rfl ?_
    refine eW_ret_i rfl rfl (Or.inl rfl) ?_
    exact eRet_i (by omega)
  · show eWp _ _ _ (8, [(0, vI 67108863)], [], N, h, 0, 0) _
    refine eW_iload_n 9 rfl rfl rfl ?_
    refine eW_if_gt 12 rfl rfl (by unfold i32; omega) (fun c1 => ?_) (fun c1 => absurd c1 (by omega))
    refine eW_iconst 18 rfl rfl ?_
    refine eW_istore_n 19 rfl rfl [(1, vI 1), (0, vI 67108863)] rfl rfl ?_
    refine eW_iload_n 20 rfl rfl rfl ?_
    refine eW_ldc_w 23 rfl rfl 65536 rfl ?_
    refine eW_icmp_le 26 rfl rfl (by unfold i32; omega) (by unfold i32; omega) (fun c2 => absurd c2 (by omega)) (fun c2 => ?_)
    refine eW_iinc 29 rfl rfl [(1, vI (1 + 16)), (0, vI 67108863)] rfl rfl rfl ?_
    refine eW_iload_n 30 rfl rfl rfl ?_
    refine eW_bipush 32 rfl rfl 16 rfl ?_
    refine eW_iushr 33 rfl rfl 1023 (by decide +kernel) ?_
    refine eW_istore_n 34 rfl rfl [(0, vI 1023), (1, vI (1 + 16))] rfl rfl ?_
    refine eW_iload_n 35 rfl rfl rfl ?_
    refine eW_sipush 38 rfl rfl 256 rfl ?_
    refine eW_icmp_le 41 rfl rfl (by unfold i32; omega) (by unfold i32; omega) (fun c3 => absurd c3 (by omega)) (fun c3 => ?_)
    refine eW_iinc 44 rfl rfl [(1, vI ((1 + 16) + 8)), (0, vI 1023)] rfl rfl rfl ?_
    refine eW_iload_n 45 rfl rfl rfl ?_
    refine eW_bipush 47 rfl rfl 8 rfl ?_
    refine eW_iushr 48 rfl rfl 3 (by decide +kernel) ?_
    refine eW_istore_n 49 rfl rfl [(0, vI 3), (1, vI ((1 + 16) + 8))] rfl rfl ?_
    refine eW_iload_n 50 rfl rfl rfl ?_
    refine eW_bipush 52 rfl rfl 16 rfl ?_
    refine eW_icmp_le 55 rfl rfl (by unfold i32; omega) (by unfold i32; omega) (fun c4 => ?_) (fun c4 => absurd c4 (by omega))
    refine eW_iload_n 63 rfl rfl rfl ?_
    refine eW_iconst 64 rfl rfl ?_
    refine eW_icmp_le 67 rfl rfl (by unfold i32; omega) (by unfold i32; omega) (fun c5 => ?_) (fun c5 => absurd c5 (by omega))
    refine eW_iload_n 75 rfl rfl rfl ?_
    refine eW_iload_n 76 rfl rfl rfl ?_
    refine eW_iconst 77 rfl rfl ?_
    refine eW_iushr 78 rfl rfl 1 (by decide +kernel) ?_
    refine eW_iadd 79 rfl rfl ?_
    refine eW_ret_i rfl rfl (Or.inl rfl) ?_
    exact eRet_i (by omega)
  · show eWp _ _ _ (8, [(0, vI 134217727)], [], N, h, 0, 0) _
    refine eW_iload_n 9 rfl rfl rfl ?_
    refine eW_if_gt 12 rfl rfl (by unfold i32; omega) (fun c1 => ?_) (fun c1 => absurd c1 (by omega))
    refine eW_iconst 18 rfl rfl ?_
    refine eW_istore_n 19 rfl rfl [(1, vI 1), (0, vI 134217727)] rfl rfl ?_
    refine eW_iload_n 20 rfl rfl rfl ?_
    refine eW_ldc_w 23 rfl rfl 65536 rfl ?_
    refine eW_icmp_le 26 rfl rfl (by unfold i32; omega) (by unfold i32; omega) (fun c2 => absurd c2 (by omega)) (fun c2 => ?_)
    refine eW_iinc 29 rfl rfl [(1, vI (1 + 16)), (0, vI 134217727)] rfl rfl rfl ?_
    refine eW_iload_n 30 rfl rfl rfl ?_
    refine eW_bipush 32 rfl rfl 16 rfl ?_
    refine eW_iushr 33 rfl rfl 2047 (by decide +kernel) ?_
    refine eW_istore_n 34 rfl rfl [(0, vI 2047), (1, vI (1 + 16))] rfl rfl ?_
    refine eW_iload_n 35 rfl rfl rfl ?_
    refine eW_sipush 38 rfl rfl 256 rfl ?_
    refine eW_icmp_le 41 rfl rfl (by unfold i32; omega) (by unfold i32; omega) (fun c3 => absurd c3 (by omega)) (fun c3 => ?_)
    refine eW_iinc 44 rfl rfl [(1, vI ((1 + 16) + 8)), (0, vI 2047)] rfl rfl rfl ?_
    refine eW_iload_n 45 rfl rfl rfl ?_
    refine eW_bipush 47 rfl rfl 8 rfl ?_
    refine eW_iushr 48 rfl rfl 7 (by decide +kernel) ?_
    refine eW_istore_n 49 rfl rfl [(0, vI 7), (1, vI ((1 + 16) + 8))] rfl rfl ?_
    refine eW_iload_n 50 rfl rfl rfl ?_
    refine eW_bipush 52 rfl rfl 16 rfl ?_
    refine eW_icmp_le 55 rfl rfl (by unfold i32; omega) (by unfold i32; omega) (fun c4 => ?_) (fun c4 => absurd c4 (by omega))
    refine eW_iload_n 63 rfl rfl rfl ?_
    refine eW_iconst 64 rfl rfl ?_
    refine eW_icmp_le 67 rfl rfl (by unfold i32; omega) (by unfold i32; omega) (fun c5 => absurd c5 (by omega)) (fun c5 => ?_)
    refine eW_iinc 70 rfl rfl [(1, vI (((1 + 16) + 8) + 2)), (0, vI 7)] rfl rfl rfl ?_
    refine eW_iload_n 71 rfl rfl rfl ?_
    refine eW_iconst 72 rfl rfl ?_
    refine eW_iushr 73 rfl rfl 1 (by decide +kernel) ?_
    refine eW_istore_n 74 rfl rfl [(0, vI 1), (1, vI (((1 + 16) + 8) + 2))] rfl rfl ?_
    refine eW_iload_n 75 rfl rfl rfl ?_
    refine eW_iload_n 76 rfl rfl rfl ?_
    refine eW_iconst 77 rfl rfl ?_
    refine eW_iushr 78 rfl rfl 0 (by decide +kernel) ?_
    refine eW_iadd 79 rfl rfl ?_
    refine eW_ret_i rfl rfl (Or.inl rfl) ?_
    exact eRet_i (by omega)
  · show eWp _ _ _ (8, [(0, vI 268435455)], [], N, h, 0, 0) _
    refine eW_iload_n 9 rfl rfl rfl ?_
    refine eW_if_gt 12 rfl rfl (by unfold i32; omega) (fun c1 => ?_) (fun c1 => absurd c1 (by omega))
    refine eW_iconst 18 rfl rfl ?_
    refine eW_istore_n 19 rfl rfl [(1, vI 1), (0, vI 268435455)] rfl rfl ?_
    refine eW_iload_n 20 rfl rfl rfl ?_
    refine eW_ldc_w 23 rfl rfl 65536 rfl ?_
    refine eW_icmp_le 26 rfl rfl (by unfold i32; omega) (by unfold i32; omega) (fun c2 => absurd c2 (by omega)) (fun c2 => ?_)
    refine eW_iinc 29 rfl rfl [(1, vI (1 + 16)), (0, vI 268435455)] rfl rfl rfl ?_
    refine eW_iload_n 30 rfl rfl rfl ?_
    refine eW_bipush 32 rfl rfl 16 rfl ?_
    refine eW_iushr 33 rfl rfl 4095 (by decide +kernel) ?_
    refine eW_istore_n 34 rfl rfl [(0, vI 4095), (1, vI (1 + 16))] rfl rfl ?_
    refine eW_iload_n 35 rfl rfl rfl ?_
    refine eW_sipush 38 rfl rfl 256 rfl ?_
    refine eW_icmp_le 41 rfl rfl (by unfold i32; omega) (by unfold i32; omega) (fun c3 => absurd c3 (by omega)) (fun c3 => ?_)
    refine eW_iinc 44 rfl rfl [(1, vI ((1 + 16) + 8)), (0, vI 4095)] rfl rfl rfl ?_
    refine eW_iload_n 45 rfl rfl rfl ?_
    refine eW_bipush 47 rfl rfl 8 rfl ?_
    refine eW_iushr 48 rfl rfl 15 (by decide +kernel) ?_
    refine eW_istore_n 49 rfl rfl [(0, vI 15), (1, vI ((1 + 16) + 8))] rfl rfl ?_
    refine eW_iload_n 50 rfl rfl rfl ?_
    refine eW_bipush 52 rfl rfl 16 rfl ?_
    refine eW_icmp_le 55 rfl rfl (by unfold i32; omega) (by unfold i32; omega) (fun c4 => ?_) (fun c4 => absurd c4 (by omega))
    refine eW_iload_n 63 rfl rfl rfl ?_
    refine eW_iconst 64 rfl rfl ?_
    refine eW_icmp_le 67 rfl rfl (by unfold i32; omega) (by unfold i32; omega) (fun c5 => absurd c5 (by omega)) (fun c5 => ?_)
    refine eW_iinc 70 rfl rfl [(1, vI (((1 + 16) + 8) + 2)), (0, vI 15)] rfl rfl rfl ?_
    refine eW_iload_n 71 rfl rfl rfl ?_
    refine eW_iconst 72 rfl rfl ?_
    refine eW_iushr 73 rfl rfl 3 (by decide +kernel) ?_
    refine eW_istore_n 74 rfl rfl [(0, vI 3), (1, vI (((1 + 16) + 8) + 2))] rfl rfl ?_
    refine eW_iload_n 75 rfl rfl rfl ?_
    refine eW_iload_n 76 rfl rfl rfl ?_
    refine eW_iconst 77 rfl rfl ?_
    refine eW_iushr 78 rfl rfl 1 (by decide +kernel) ?_
    refine eW_iadd 79 rfl rfl ?_
    refine eW_ret_i rfl rfl (Or.inl rfl) ?_
    exact eRet_i (by omega)
  · show eWp _ _ _ (8, [(0, vI 536870911)], [], N, h, 0, 0) _
    refine eW_iload_n 9 rfl rfl rfl ?_
    refine eW_if_gt 12 rfl rfl (by unfold i32; omega) (fun c1 => ?_) (fun c1 => absurd c1 (by omega))
    refine eW_iconst 18 rfl rfl ?_
    refine eW_istore_n 19 rfl rfl [(1, vI 1), (0, vI 536870911)] rfl rfl ?_
    refine eW_iload_n 20 rfl rfl rfl ?_
    refine eW_ldc_w 23 rfl rfl 65536 rfl ?_
    refine eW_icmp_le 26 rfl rfl (by unfold i32; omega) (by unfold i32; omega) (fun c2 => absurd c2 (by omega)) (fun c2 => ?_)
    refine eW_iinc 29 rfl rfl [(1, vI (1 + 16)), (0, vI 536870911)] rfl rfl rfl ?_
    refine eW_iload_n 30 rfl rfl rfl ?_
    refine eW_bipush 32 rfl rfl 16 rfl ?_
    refine eW_iushr 33 rfl rfl 8191 (by decide +kernel) ?_
    refine eW_istore_n 34 rfl rfl [(0, vI 8191), (1, vI (1 + 16))] rfl rfl ?_
    refine eW_iload_n 35 rfl rfl rfl ?_
    refine eW_sipush 38 rfl rfl 256 rfl ?_
    refine eW_icmp_le 41 rfl rfl (by unfold i32; omega) (by unfold i32; omega) (fun c3 => absurd c3 (by omega)) (fun c3 => ?_)
    refine eW_iinc 44 rfl rfl [(1, vI ((1 + 16) + 8)), (0, vI 8191)] rfl rfl rfl ?_
    refine eW_iload_n 45 rfl rfl rfl ?_
    refine eW_bipush 47 rfl rfl 8 rfl ?_
    refine eW_iushr 48 rfl rfl 31 (by decide +kernel) ?_
    refine eW_istore_n 49 rfl rfl [(0, vI 31), (1, vI ((1 + 16) + 8))] rfl rfl ?_
    refine eW_iload_n 50 rfl rfl rfl ?_
    refine eW_bipush 52 rfl rfl 16 rfl ?_
    refine eW_icmp_le 55 rfl rfl (by unfold i32; omega) (by unfold i32; omega) (fun c4 => absurd c4 (by omega)) (fun c4 => ?_)
    refine eW_iinc 58 rfl rfl [(1, vI (((1 + 16) + 8) + 4)), (0, vI 31)] rfl rfl rfl ?_
    refine eW_iload_n 59 rfl rfl rfl ?_
    refine eW_iconst 60 rfl rfl ?_
    refine eW_iushr 61 rfl rfl 1 (by decide +kernel) ?_
    refine eW_istore_n 62 rfl rfl [(0, vI 1), (1, vI (((1 + 16) + 8) + 4))] rfl rfl ?_
    refine eW_iload_n 63 rfl rfl rfl ?_
    refine eW_iconst 64 rfl rfl ?_
    refine eW_icmp_le 67 rfl rfl (by unfold i32; omega) (by unfold i32; omega) (fun c5 => ?_) (fun c5 => absurd c5 (by omega))
    refine eW_iload_n 75 rfl rfl rfl ?_
    refine eW_iload_n 76 rfl rfl rfl ?_
    refine eW_iconst 77 rfl rfl ?_
    refine eW_iushr 78 rfl rfl 0 (by decide +kernel) ?_
    refine eW_iadd 79 rfl rfl ?_
    refine eW_ret_i rfl rfl (Or.inl rfl) ?_
    exact eRet_i (by omega)
  · show eWp _ _ _ (8, [(0, vI 1073741823)], [], N, h, 0, 0) _
    refine eW_iload_n 9 rfl rfl rfl ?_
    refine eW_if_gt 12 rfl rfl (by unfold i32; omega) (fun c1 => ?_) (fun c1 => absurd c1 (by omega))
    refine eW_iconst 18 rfl rfl ?_
    refine eW_istore_n 19 rfl rfl [(1, vI 1), (0, vI 1073741823)] rfl rfl ?_
    refine eW_iload_n 20 rfl rfl rfl ?_
    refine eW_ldc_w 23 rfl rfl 65536 rfl ?_
    refine eW_icmp_le 26 rfl rfl (by unfold i32; omega) (by unfold i32; omega) (fun c2 => absurd c2 (by omega)) (fun c2 => ?_)
    refine eW_iinc 29 rfl rfl [(1, vI (1 + 16)), (0, vI 1073741823)] rfl rfl rfl ?_
    refine eW_iload_n 30 rfl rfl rfl ?_
    refine eW_bipush 32 rfl rfl 16 rfl ?_
    refine eW_iushr 33 rfl rfl 16383 (by decide +kernel) ?_
    refine eW_istore_n 34 rfl rfl [(0, vI 16383), (1, vI (1 + 16))] rfl rfl ?_
    refine eW_iload_n 35 rfl rfl rfl ?_
    refine eW_sipush 38 rfl rfl 256 rfl ?_
    refine eW_icmp_le 41 rfl rfl (by unfold i32; omega) (by unfold i32; omega) (fun c3 => absurd c3 (by omega)) (fun c3 => ?_)
    refine eW_iinc 44 rfl rfl [(1, vI ((1 + 16) + 8)), (0, vI 16383)] rfl rfl rfl ?_
    refine eW_iload_n 45 rfl rfl rfl ?_
    refine eW_bipush 47 rfl rfl 8 rfl ?_
    refine eW_iushr 48 rfl rfl 63 (by decide +kernel) ?_
    refine eW_istore_n 49 rfl rfl [(0, vI 63), (1, vI ((1 + 16) + 8))] rfl rfl ?_
    refine eW_iload_n 50 rfl rfl rfl ?_
    refine eW_bipush 52 rfl rfl 16 rfl ?_
    refine eW_icmp_le 55 rfl rfl (by unfold i32; omega) (by unfold i32; omega) (fun c4 => absurd c4 (by omega)) (fun c4 => ?_)
    refine eW_iinc 58 rfl rfl [(1, vI (((1 + 16) + 8) + 4)), (0, vI 63)] rfl rfl rfl ?_
    refine eW_iload_n 59 rfl rfl rfl ?_
    refine eW_iconst 60 rfl rfl ?_
    refine eW_iushr 61 rfl rfl 3 (by decide +kernel) ?_
    refine eW_istore_n 62 rfl rfl [(0, vI 3), (1, vI (((1 + 16) + 8) + 4))] rfl rfl ?_
    refine eW_iload_n 63 rfl rfl rfl ?_
    refine eW_iconst 64 rfl rfl ?_
    refine eW_icmp_le 67 rfl rfl (by unfold i32; omega) (by unfold i32; omega) (fun c5 => ?_) (fun c5 => absurd c5 (by omega))
    refine eW_iload_n 75 rfl rfl rfl ?_
    refine eW_iload_n 76 rfl rfl rfl ?_
    refine eW_iconst 77 rfl rfl ?_
    refine eW_iushr 78 rfl rfl 1 (by decide +kernel) ?_
    refine eW_iadd 79 rfl rfl ?_
    refine eW_ret_i rfl rfl (Or.inl rfl) ?_
    exact eRet_i (by omega)
theorem j_ntz {d N : Nat} {h : eHp} {b k : Nat} (hk : k ≤ 30) (hb : b < 2 ^ 31) (h1 : ∀ j, j < k → b.testBit j = true) (h2 : b.testBit k = false) : eSp (d + 1) eM_J6_numberOfTrailingZeros_0f7a4 [vI (-1 - (b : Int))] N h (eRet (some (vI (k : Int))) N h) := by
  refine eSp_of [(0, vI (-1 - (b : Int)))] rfl rfl ?_
  have hA := eNtzA hb h1 h2
  have hb' : b < 2147483648 := hb
  refine eW_iload_n 1 rfl rfl rfl ?_
  refine eW_iconst 2 rfl rfl ?_
  refine eW_ixor 3 rfl rfl ((b : Int)) eXorM ?_
  refine eW_iload_n 4 rfl rfl rfl ?_
  refine eW_iconst 5 rfl rfl ?_
  refine eW_isub 6 rfl rfl ?_
  refine eW_iand 7 rfl rfl (((2 ^ k - 1 : Nat) : Int)) hA ?_
  refine eW_istore_n 8 rfl rfl [(0, vI (((2 ^ k - 1 : Nat) : Int)))] rfl rfl ?_
  exact j_ntz2 hk
theorem eUshrN {a n : Nat} (ha : a < 2 ^ 32) (hn : n < 32) : ((Int32.ofInt (a : Int)).toUInt32 >>> ((Int32.ofInt (n : Int)).toUInt32 &&& Int32.toUInt32 31)).toInt32 = Int32.ofInt ((a >>> n : Nat) : Int) := by
  rw [← Int32.toBitVec_inj]
  apply BitVec.eq_of_toNat_eq
  have e1 : ((Int32.ofInt (a : Int)).toUInt32).toNat = a := by
    show ((Int32.ofInt (a : Int)).toBitVec).toNat = a
    rw [Int32.toBitVec_ofInt, BitVec.ofInt_natCast, BitVec.toNat_ofNat, Nat.mod_eq_of_lt ha]
  have e2 : ((Int32.ofInt (n : Int)).toUInt32 &&& Int32.toUInt32 31).toNat = n := by
    revert hn; revert n; decide +kernel
  show (((Int32.ofInt (a : Int)).toUInt32 >>> ((Int32.ofInt (n : Int)).toUInt32 &&& Int32.toUInt32 31))).toNat = _
  rw [UInt32.toNat_shiftRight, e1, e2, Nat.mod_eq_of_lt hn, Int32.toBitVec_ofInt, BitVec.ofInt_natCast, BitVec.toNat_ofNat, Nat.mod_eq_of_lt]
  exact Nat.lt_of_le_of_lt (Nat.shiftRight_le a n) ha
theorem eBitTest (a n : Nat) : (a >>> n) &&& 1 = (match a.testBit n with | true => 1 | false => 0) := by
  unfold Nat.testBit
  rw [Nat.and_comm]
  have h : 1 &&& (a >>> n) < 2 := Nat.lt_of_le_of_lt Nat.and_le_left (by decide)
  generalize 1 &&& (a >>> n) = y at h
  have : y = 0 ∨ y = 1 := by omega
  rcases this with rfl | rfl <;> rfl
theorem eAndSplit (x y : Nat) : x &&& y = ((x % 256) &&& (y % 256)) + 256 * ((x / 256) &&& (y / 256)) := by
  have h1 : (x &&& y) % 256 = x % 256 &&& y % 256 := Nat.and_mod_two_pow (a := x) (b := y) (n := 8)
  have h2 : (x &&& y) / 256 = x / 256 &&& y / 256 := Nat.and_div_two_pow (a := x) (b := y) (n := 8)
  rw [← h1, ← h2]
  omega
def pM (m : Nat) : Nat → Nat
  | 0 => 0
  | k + 1 => m + 256 * pM m k
theorem pM_split {m : Nat} (hm : m < 256) (k x : Nat) : x &&& pM m (k + 1) = ((x % 256) &&& m) + 256 * ((x / 256) &&& pM m k) := by
  rw [eAndSplit, show pM m (k + 1) % 256 = m by simp only [pM]; omega, show pM m (k + 1) / 256 = pM m k by simp only [pM]; omega]
def p1 (k b : Nat) : Nat := b - ((b / 2) &&& pM 0x55 k)
def p2 (k x : Nat) : Nat := (x &&& pM 0x33 k) + ((x / 4) &&& pM 0x33 k)
def p3 (k x : Nat) : Nat := (x + x / 16) &&& pM 0x0f k
def q1 (b : Nat) : Nat := b - ((b / 2) &&& 0x55)
def q2 (x : Nat) : Nat := (x &&& 0x33) + ((x / 4) &&& 0x33)
def q3 (x : Nat) : Nat := (x + x / 16) &&& 0x0f
theorem pT1 : ∀ b, b < 256 → ∀ e, e < 2 → (b / 2 + 128 * e) &&& 0x55 = (b / 2) &&& 0x55 := by decide +kernel
theorem pT2 : ∀ b, b < 256 → ∀ e, e < 4 → (b / 4 + 64 * e) &&& 0x33 = (b / 4) &&& 0x33 := by decide +kernel
theorem pT3 : ∀ b, b < 69 → ∀ e, e < 5 → (b + b / 16 + 16 * e) &&& 0x0f = (b + b / 16) &&& 0x0f := by decide +kernel
theorem pQ1 : ∀ b, b < 256 → q1 b < 256 ∧ (b / 2 &&& 0x55) ≤ b := by decide +kernel
theorem pQ2 : ∀ b, b < 256 → q2 b < 256 ∧ q2 (q1 b) < 69 ∧ q2 (q1 b) % 16 < 5 := by decide +kernel
theorem p1_s (k b q : Nat) (hb : b < 256) : p1 (k + 1) (b + 256 * q) = q1 b + 256 * p1 k q := by
  unfold p1
  rw [pM_split (by decide), show (b + 256 * q) / 2 % 256 = b / 2 + 128 * (q % 2) by omega, show (b + 256 * q) / 2 / 256 = q / 2 by omega, pT1 b hb _ (by omega)]
  have h1 := (pQ1 b hb).2
  have h2 : (q / 2 &&& pM 0x55 k) ≤ q / 2 := Nat.and_le_left
  unfold q1
  omega
theorem p2_s (k b q : Nat) (hb : b < 256) : p2 (k + 1) (b + 256 * q) = q2 b + 256 * p2 k q := by
  unfold p2
  rw [pM_split (by decide), pM_split (by decide), show (b + 256 * q) % 256 = b by omega, show (b + 256 * q) / 256 = q by omega, show (b + 256 * q) / 4 % 256 = b / 4 + 64 * (q % 4) by omega, show (b + 256 * q) / 4 / 256 = q / 4 by omega, pT2 b hb _ (by omega)]
  unfold q2
  omega
theorem p3_s (k b q : Nat) (hb : b < 69) (hq : q % 16 < 5) : p3 (k + 1) (b + 256 * q) = q3 b + 256 * p3 k q := by
  unfold p3
  rw [pM_split (by decide), show (b + 256 * q + (b + 256 * q) / 16) % 256 = b + b / 16 + 16 * (q % 16) by omega, show (b + 256 * q + (b + 256 * q) / 16) / 256 = q + q / 16 by omega, pT3 b hb _ hq]
  rfl
def pF (k b : Nat) : Nat := p3 k (p2 k (p1 k b))
theorem pF_s (k b q : Nat) (hb : b < 256) (hq : q < 256 ^ k) : pF (k + 1) (b + 256 * q) = q3 (q2 (q1 b)) + 256 * pF k q := by
  unfold pF
  have h1 := pQ1 b hb
  have h2 := pQ2 b hb
  rw [p1_s k b q hb, p2_s k _ _ h1.1]
  refine p3_s k _ _ h2.2.1 ?_
  cases k with
  | zero =>
    have : q = 0 := by omega
    subst this
    decide
  | succ k =>
    have e : q = q % 256 + 256 * (q / 256) := by omega
    rw [e, p1_s k _ _ (by omega), p2_s k _ _ (pQ1 _ (by omega)).1]
    have := pQ2 (q % 256) (by omega)
    omega
/-- how many of the first n bits are set -/
def gPop (b : Nat) : Nat → Nat
  | 0 => 0
  | n + 1 => gPop b n + (match b.testBit n with | true => 1 | false => 0)
theorem pPop : ∀ b, b < 256 → q3 (q2 (q1 b)) = gPop b 8 ∧ gPop b 8 ≤ 8 := by decide +kernel
theorem gPop_add (b n : Nat) : ∀ m, gPop b (n + m) = gPop b n + gPop (b / 2 ^ n) m
  | 0 => rfl
  | m + 1 => by
    show gPop b (n + m) + _ = gPop b n + (gPop (b / 2 ^ n) m + _)
    rw [gPop_add b n m, Nat.testBit_div_two_pow, show n.add m = m + n from Nat.add_comm n m, Nat.add_assoc]
theorem gPop_mod (b n : Nat) : ∀ m, m ≤ n → gPop (b % 2 ^ n) m = gPop b m
  | 0, _ => rfl
  | m + 1, h => by
    show gPop (b % 2 ^ n) m + _ = gPop b m + _
    rw [gPop_mod b n m (by omega), Nat.testBit_mod_two_pow, decide_eq_true (by omega), Bool.true_and]
theorem pF4 (b : Nat) (hb : b < 2 ^ 32) : pF 4 b = gPop (b % 256) 8 + 256 * (gPop (b / 256 % 256) 8 + 256 * (gPop (b / 65536 % 256) 8 + 256 * gPop (b / 16777216) 8)) := by
  have e0 : b = b % 256 + 256 * (b / 256) := by omega
  have e1 : b / 256 = b / 256 % 256 + 256 * (b / 65536) := by omega
  have e2 : b / 65536 = b / 65536 % 256 + 256 * (b / 16777216) := by omega
  have e3 : b / 16777216 = b / 16777216 + 256 * 0 := by omega
  conv => lhs; rw [e0]
  rw [pF_s 3 _ _ (by omega) (by omega), (pPop _ (by omega)).1]
  congr 2
  conv => lhs; rw [e1]
  rw [pF_s 2 _ _ (by omega) (by omega), (pPop _ (by omega)).1]
  congr 2
  conv => lhs; rw [e2]
  rw [pF_s 1 _ _ (by omega) (by omega), (pPop _ (by omega)).1]
  congr 2
  conv => lhs; rw [e3]
  rw [pF_s 0 _ _ (by omega) (by omega), (pPop _ (by omega)).1]
  rfl
theorem gPop32 (b : Nat) : gPop b 32 = gPop (b % 256) 8 + (gPop (b / 256 % 256) 8 + (gPop (b / 65536 % 256) 8 + gPop (b / 16777216) 8)) := by
  rw [show (32 : Nat) = 8 + 24 from rfl, gPop_add, show (24 : Nat) = 8 + 16 from rfl, gPop_add, show (16 : Nat) = 8 + 8 from rfl, gPop_add]
  have h1 := gPop_mod b 8 8 (by omega)
  have h2 := gPop_mod (b / 256) 8 8 (by omega)
  have h3 := gPop_mod (b / 65536) 8 8 (by omega)
  rw [← h1, show b / 2 ^ 8 = b / 256 from rfl, ← h2, show b / 256 / 2 ^ 8 = b / 65536 by omega, ← h3, show b / 65536 / 2 ^ 8 = b / 16777216 by omega]
theorem pEnd {a b c d : Nat} (ha : a ≤ 8) (hb : b ≤ 8) (hc : c ≤ 8) (hd : d ≤ 8) {s t : Nat} (hs : s = a + 256 * (b + 256 * (c + 256 * d))) (ht : t = s + s / 256) : (t + t / 65536) % 64 = a + (b + (c + d)) := by
  have h1 : s / 256 = b + 256 * (c + 256 * d) := by omega
  have h2 : t = (a + b) + 256 * (b + c) + 65536 * ((c + d) + 256 * d) := by omega
  have h3 : t / 65536 = (c + d) + 256 * d := by omega
  rw [h3]
  omega
theorem eAndC (a b : Nat) : Int32.ofInt (a : Int) &&& Int32.ofInt (b : Int) = Int32.ofInt ((a &&& b : Nat) : Int) := by
  rw [← Int32.toBitVec_inj, Int32.toBitVec_and]
  simp only [Int32.toBitVec_ofInt, BitVec.ofInt_natCast]
  rw [BitVec.ofNat_and]
theorem eUshrD {a n m : Nat} (ha : a < 2 ^ 32) (hn : n < 32) (hm : 2 ^ n = m) : ((Int32.ofInt (a : Int)).toUInt32 >>> ((Int32.ofInt (n : Int)).toUInt32 &&& Int32.toUInt32 31)).toInt32 = Int32.ofInt ((a / m : Nat) : Int) := by rw [eUshrN ha hn, Nat.shiftRight_eq_div_pow, hm]
theorem j_bitCount {d N : Nat} {h : eHp} {b : Nat} (hb : b < 2 ^ 31) : eSp (d + 1) eM_J6_bitCount_0f7a4 [vI (b : Int)] N h (eRet (some (vI ((gPop b 32 : Nat) : Int))) N h) := by
  refine eSp_of [(0, vI (b : Int))] rfl rfl ?_
  have z1 : p1 4 b ≤ b := Nat.sub_le _ _
  have z2 : p2 4 (p1 4 b) < 2147483648 := by
    unfold p2
    have a1 : (p1 4 b &&& pM 0x33 4) ≤ 858993459 := Nat.and_le_right
    have a2 : (p1 4 b / 4 &&& pM 0x33 4) ≤ 858993459 := Nat.and_le_right
    omega
  have z3 : p3 4 (p2 4 (p1 4 b)) ≤ 252645135 := Nat.and_le_right
  refine eW_iload_n 1 rfl rfl rfl ?_
  refine eW_iload_n 2 rfl rfl rfl ?_
  refine eW_iconst 3 rfl rfl ?_
  refine eW_iushr 4 rfl rfl (((b / 2 : Nat) : Int)) (eUshrD (a := b) (n := 1) (by omega) (by decide) rfl) ?_
  refine eW_ldc_w 7 rfl rfl 1431655765 rfl ?_
  refine eW_iand 8 rfl rfl ((((b / 2) &&& 1431655765 : Nat) : Int)) (eAndC (b / 2) (1431655765)) ?_
  refine eW_isub 9 rfl rfl ?_
  rw [show (((b : Int)) - ((((b / 2) &&& 1431655765 : Nat) : Int)) : Int) = ((p1 4 b : Nat) : Int) from (by unfold p1; rw [show pM 0x55 4 = 1431655765 from rfl]; have := Nat.and_le_left (n := b / 2) (m := 1431655765); omega)]
  refine eW_istore_n 10 rfl rfl [(0, vI (((p1 4 b : Nat) : Int)))] rfl rfl ?_
  refine eW_iload_n 11 rfl rfl rfl ?_
  refine eW_ldc_w 14 rfl rfl 858993459 rfl ?_
  refine eW_iand 15 rfl rfl ((((p1 4 b) &&& 858993459 : Nat) : Int)) (eAndC (p1 4 b) (858993459)) ?_
  refine eW_iload_n 16 rfl rfl rfl ?_
  refine eW_iconst 17 rfl rfl ?_
  refine eW_iushr 18 rfl rfl ((((p1 4 b) / 4 : Nat) : Int)) (eUshrD (a := p1 4 b) (n := 2) (by omega) (by decide) rfl) ?_
  refine eW_ldc_w 21 rfl rfl 858993459 rfl ?_
  refine eW_iand 22 rfl rfl (((((p1 4 b) / 4) &&& 858993459 : Nat) : Int)) (eAndC ((p1 4 b) / 4) (858993459)) ?_
  refine eW_iadd 23 rfl rfl ?_
  rw [show (((((p1 4 b) &&& 858993459 : Nat) : Int)) + (((((p1 4 b) / 4) &&& 858993459 : Nat) : Int)) : Int) = ((p2 4 (p1 4 b) : Nat) : Int) from (by unfold p2; rw [show pM 0x33 4 = 858993459 from rfl]; omega)]
  refine eW_istore_n 24 rfl rfl [(0, vI (((p2 4 (p1 4 b) : Nat) : Int)))] rfl rfl ?_
  refine eW_iload_n 25 rfl rfl rfl ?_
  refine eW_iload_n 26 rfl rfl rfl ?_
  refine eW_iconst 27 rfl rfl ?_
  refine eW_iushr 28 rfl rfl ((((p2 4 (p1 4 b)) / 16 : Nat) : Int)) (eUshrD (a := p2 4 (p1 4 b)) (n := 4) (by omega) (by decide) rfl) ?_
  refine eW_iadd 29 rfl rfl ?_
  rw [show ((((p2 4 (p1 4 b) : Nat) : Int)) + ((((p2 4 (p1 4 b)) / 16 : Nat) : Int)) : Int) = ((p2 4 (p1 4 b) + p2 4 (p1 4 b) / 16 : Nat) : Int) from (by omega)]
  refine eW_ldc_w 32 rfl rfl 252645135 rfl ?_
  refine eW_iand 33 rfl rfl ((((p2 4 (p1 4 b) + p2 4 (p1 4 b) / 16) &&& 252645135 : Nat) : Int)) (eAndC (p2 4 (p1 4 b) + p2 4 (p1 4 b) / 16) (252645135)) ?_
  rw [show ((((p2 4 (p1 4 b) + p2 4 (p1 4 b) / 16) &&& 252645135 : Nat) : Int) : Int) = ((p3 4 (p2 4 (p1 4 b)) : Nat) : Int) from (by unfold p3; rw [show pM 0x0f 4 = 252645135 from rfl])]
  refine eW_istore_n 34 rfl rfl [(0, vI (((p3 4 (p2 4 (p1 4 b)) : Nat) : Int)))] rfl rfl ?_
  refine eW_iload_n 35 rfl rfl rfl ?_
  refine eW_iload_n 36 rfl rfl rfl ?_
  refine eW_bipush 38 rfl rfl 8 rfl ?_
  refine eW_iushr 39 rfl rfl ((((p3 4 (p2 4 (p1 4 b))) / 256 : Nat) : Int)) (eUshrD (a := p3 4 (p2 4 (p1 4 b))) (n := 8) (by omega) (by decide) rfl) ?_
  refine eW_iadd 40 rfl rfl ?_
  rw [show ((((p3 4 (p2 4 (p1 4 b)) : Nat) : Int)) + ((((p3 4 (p2 4 (p1 4 b))) / 256 : Nat) : Int)) : Int) = ((p3 4 (p2 4 (p1 4 b)) + p3 4 (p2 4 (p1 4 b)) / 256 : Nat) : Int) from (by omega)]
  refine eW_istore_n 41 rfl rfl [(0, vI (((p3 4 (p2 4 (p1 4 b)) + p3 4 (p2 4 (p1 4 b)) / 256 : Nat) : Int)))] rfl rfl ?_
  refine eW_iload_n 42 rfl rfl rfl ?_
  refine eW_iload_n 43 rfl rfl rfl ?_
  refine eW_bipush 45 rfl rfl 16 rfl ?_
  refine eW_iushr 46 rfl rfl ((((p3 4 (p2 4 (p1 4 b)) + p3 4 (p2 4 (p1 4 b)) / 256) / 65536 : Nat) : Int)) (eUshrD (a := p3 4 (p2 4 (p1 4 b)) + p3 4 (p2 4 (p1 4 b)) / 256) (n := 16) (by omega) (by decide) rfl) ?_
  refine eW_iadd 47 rfl rfl ?_
  rw [show ((((p3 4 (p2 4 (p1 4 b)) + p3 4 (p2 4 (p1 4 b)) / 256 : Nat) : Int)) + ((((p3 4 (p2 4 (p1 4 b)) + p3 4 (p2 4 (p1 4 b)) / 256) / 65536 : Nat) : Int)) : Int) = ((p3 4 (p2 4 (p1 4 b)) + p3 4 (p2 4 (p1 4 b)) / 256 + (p3 4 (p2 4 (p1 4 b)) + p3 4 (p2 4 (p1 4 b)) / 256) / 65536 : Nat) : Int) from (by omega)]
  refine eW_istore_n 48 rfl rfl [(0, vI (((p3 4 (p2 4 (p1 4 b)) + p3 4 (p2 4 (p1 4 b)) / 256 + (p3 4 (p2 4 (p1 4 b)) + p3 4 (p2 4 (p1 4 b)) / 256) / 65536 : Nat) : Int)))] rfl rfl ?_
  refine eW_iload_n 49 rfl rfl rfl ?_
  refine eW_bipush 51 rfl rfl 63 rfl ?_
  refine eW_iand 52 rfl rfl ((((p3 4 (p2 4 (p1 4 b)) + p3 4 (p2 4 (p1 4 b)) / 256 + (p3 4 (p2 4 (p1 4 b)) + p3 4 (p2 4 (p1 4 b)) / 256) / 65536) &&& 63 : Nat) : Int)) (eAndC (p3 4 (p2 4 (p1 4 b)) + p3 4 (p2 4 (p1 4 b)) / 256 + (p3 4 (p2 4 (p1 4 b)) + p3 4 (p2 4 (p1 4 b)) / 256) / 65536) (63)) ?_
  refine eW_ret_i rfl rfl (Or.inl rfl) ?_
  refine eRet_i ?_
  have hF := pF4 b (by omega)
  have g0 := (pPop (b % 256) (by omega)).2
  have g1 := (pPop (b / 256 % 256) (by omega)).2
  have g2 := (pPop (b / 65536 % 256) (by omega)).2
  have g3 := (pPop (b / 16777216) (by omega)).2
  have hE := pEnd g0 g1 g2 g3 hF rfl
  rw [gPop32, ← hE, show (63 : Nat) = 2 ^ 6 - 1 from rfl, Nat.and_two_pow_sub_one_eq_mod]
  rfl
