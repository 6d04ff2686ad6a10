theorem eLow {b k : Nat} (h1 : ∀ j, j < k → b.testBit j = true) (h2 : b.testBit k = false) : b % 2 ^ (k + 1) = 2 ^ k - 1 := by
  apply Nat.eq_of_testBit_eq
  intro i
  rw [Nat.testBit_mod_two_pow, Nat.testBit_two_pow_sub_one]
  by_cases h : i < k
  · rw [h1 i h, decide_eq_true h, decide_eq_true (by omega)]; rfl
  · rw [decide_eq_false h]
    by_cases h3 : i = k
    · rw [h3, h2, Bool.and_false]
    · rw [decide_eq_false (by omega), Bool.false_and]
theorem eLow2 {b k : Nat} (h1 : ∀ j, j < k → b.testBit j = true) (h2 : b.testBit k = false) (i : Nat) : (b.testBit i && !(b + 1).testBit i) = (2 ^ k - 1).testBit i := by
  have h3 := eLow h1 h2
  have hp : 0 < 2 ^ k := Nat.two_pow_pos k
  have hq : 2 ^ (k + 1) = 2 ^ k + 2 ^ k := by rw [Nat.pow_succ]; omega
  have h4 : b = 2 ^ (k + 1) * (b / 2 ^ (k + 1)) + (2 ^ k - 1) := by rw [← h3]; exact (Nat.div_add_mod b _).symm
  have h5 : b + 1 = 2 ^ (k + 1) * (b / 2 ^ (k + 1)) + 2 ^ k := by omega
  have e1 : b.testBit i = if i < k + 1 then (2 ^ k - 1).testBit i else (b / 2 ^ (k + 1)).testBit (i - (k + 1)) := by
    conv => lhs; rw [h4]
    exact Nat.testBit_two_pow_mul_add _ (by omega) i
  have e2 : (b + 1).testBit i = if i < k + 1 then (2 ^ k).testBit i else (b / 2 ^ (k + 1)).testBit (i - (k + 1)) := by
    rw [h5]
    exact Nat.testBit_two_pow_mul_add _ (by omega) i
  rw [e1, e2, Nat.testBit_two_pow_sub_one, Nat.testBit_two_pow]
  by_cases h : i < k
  · rw [if_pos (by omega), if_pos (by omega), decide_eq_true h, decide_eq_false (by omega)]; rfl
  · by_cases h6 : i = k
    · rw [if_pos (by omega), if_pos (by omega), decide_eq_false h]; rfl
    · rw [if_neg (by omega), if_neg (by omega), decide_eq_false h]
      cases (b / 2 ^ (k + 1)).testBit (i - (k + 1)) <;> rfl
theorem eNotI (x : Int) : BitVec.ofInt 32 (-1 - x) = ~~~ BitVec.ofInt 32 x := by
  apply BitVec.eq_of_toNat_eq
  rw [BitVec.toNat_not, BitVec.toNat_ofInt, BitVec.toNat_ofInt]
  omega
theorem eNtzA {b k : Nat} (hb : b < 2 ^ 31) (h1 : ∀ j, j < k → b.testBit j = true) (h2 : b.testBit k = false) : Int32.ofInt (b : Int) &&& Int32.ofInt (-1 - (b : Int) - 1) = Int32.ofInt ((2 ^ k - 1 : Nat) : Int) := by
  rw [← Int32.toBitVec_inj, Int32.toBitVec_and]
  simp only [Int32.toBitVec_ofInt]
  rw [show -1 - (b : Int) - 1 = -1 - ((b + 1 : Nat) : Int) by omega, eNotI]
  simp only [BitVec.ofInt_natCast]
  apply BitVec.eq_of_getLsbD_eq
  intro i hi
  rw [BitVec.getLsbD_and, BitVec.getLsbD_not, BitVec.getLsbD_ofNat, BitVec.getLsbD_ofNat, BitVec.getLsbD_ofNat, decide_eq_true hi, Bool.true_and, Bool.true_and, Bool.true_and, Bool.true_and]
  exact eLow2 h1 h2 i
theorem eXorM {b : Nat} : Int32.ofInt (-1 - (b : Int)) ^^^ Int32.ofInt (-1) = Int32.ofInt (b : Int) := by
  rw [← Int32.toBitVec_inj, Int32.toBitVec_xor]
  simp only [Int32.toBitVec_ofInt]
  rw [eNotI, show BitVec.ofInt 32 (-1) = BitVec.allOnes 32 by rfl, BitVec.xor_allOnes, BitVec.not_not]
theorem eXorM2 {b : Nat} : Int32.ofInt (b : Int) ^^^ Int32.ofInt (-1) = Int32.ofInt (-1 - (b : Int)) := by
  rw [← Int32.toBitVec_inj, Int32.toBitVec_xor]
  simp only [Int32.toBitVec_ofInt]
  rw [eNotI, show BitVec.ofInt 32 (-1) = BitVec.allOnes 32 by rfl, BitVec.xor_allOnes]
theorem j_ntz2 {d N : Nat} {h : eHp} {k : Nat} (hk : k ≤ 30) : eWp eOx (eEv d) eM_J6_numberOfTrailingZeros_0f7a4 (8, [(0, vI ((2 ^ k - 1 : Nat) : Int))], [], N, h, 0, 0) (eRet (some (vI (k : Int))) N h) := by
  have hc : k = 0 ∨ k = 1 ∨ k = 2 ∨ k = 3 ∨ k = 4 ∨ k = 5 ∨ k = 6 ∨ k = 7 ∨ k = 8 ∨ k = 9 ∨ k = 10 ∨ k = 11 ∨ k = 12 ∨ k = 13 ∨ k = 14 ∨ k = 15 ∨ k = 16 ∨ k = 17 ∨ k = 18 ∨ k = 19 ∨ k = 20 ∨ k = 21 ∨ k = 22 ∨ k = 23 ∨ k = 24 ∨ k = 25 ∨ k = 26 ∨ k = 27 ∨ k = 28 ∨ k = 29 ∨ k = 30 := by omega
  rcases hc with rfl | rfl | rfl | rfl | rfl | rfl | rfl | rfl | rfl | rfl | rfl | rfl | rfl | rfl | rfl | rfl | rfl | rfl | rfl | rfl | rfl | rfl | rfl | rfl | rfl | rfl | rfl | rfl | rfl | rfl | rfl
  · show eWp _ _ _ (8, [(0, vI 0)], [], N, h, 0, 0) _
    refine eW_iload_n 9 rfl rfl rfl ?_
    refine eW_if_gt 12 rfl rfl (by unfold i32; omega) (fun c1 => absurd c1 (by omega)) (fun c1 => ?_)
    refine eW_iload_n 13 rfl rfl rfl ?_
    refine eW_bipush 15 rfl rfl 32 rfl ?_
    refine eW_iand 16 rfl rfl 0 (by decide) ?_
    refine eW_ret_i rfl rfl (Or.inl rfl) ?_
    exact eRet_i (by omega)
  · show eWp _ _ _ (8, [(0, vI 1)], [], N, h, 0, 0) _
    refine eW_iload_n 9 rfl rfl rfl ?_
    refine eW_if_gt 12 rfl rfl (by unfold i32; omega) (fun c1 => ?_) (fun c1 => absurd c1 (by omega))
    refine eW_iconst 18 rfl rfl ?_
    refine eW_istore_n 19 rfl rfl [(1, vI 1), (0, vI 1)] rfl rfl ?_
    refine eW_iload_n 20 rfl rfl rfl ?_
    refine eW_ldc_w 23 rfl rfl 65536 rfl ?_
    refine eW_icmp_le 26 rfl rfl (by unfold i32; omega) (by unfold i32; omega) (fun c2 => ?_) (fun c2 => absurd c2 (by omega))
    refine eW_iload_n 35 rfl rfl rfl ?_
    refine eW_sipush 38 rfl rfl 256 rfl ?_
    refine eW_icmp_le 41 rfl rfl (by unfold i32; omega) (by unfold i32; omega) (fun c3 => ?_) (fun c3 => absurd c3 (by omega))
    refine eW_iload_n 50 rfl rfl rfl ?_
    refine eW_bipush 52 rfl rfl 16 rfl ?_
    refine eW_icmp_le 55 rfl rfl (by unfold i32; omega) (by unfold i32; omega) (fun c4 => ?_) (fun c4 => absurd c4 (by omega))
    refine eW_iload_n 63 rfl rfl rfl ?_
    refine eW_iconst 64 rfl rfl ?_
    refine eW_icmp_le 67 rfl rfl (by unfold i32; omega) (by unfold i32; omega) (fun c5 => ?_) (fun c5 => absurd c5 (by omega))
    refine eW_iload_n 75 rfl rfl rfl ?_
    refine eW_iload_n 76 rfl rfl rfl ?_
    refine eW_iconst 77 rfl rfl ?_
    refine eW_iushr 78 rfl rfl 0 (by decide +kernel) ?_
    refine eW_iadd 79 rfl rfl ?_
    refine eW_ret_i rfl rfl (Or.inl rfl) ?_
    exact eRet_i (by omega)
  · show eWp _ _ _ (8, [(0, vI 3)], [], N, h, 0, 0) _
    refine eW_iload_n 9 rfl rfl rfl ?_
    refine eW_if_gt 12 rfl rfl (by unfold i32; omega) (fun c1 => ?_) (fun c1 => absurd c1 (by omega))
    refine eW_iconst 18 rfl rfl ?_
    refine eW_istore_n 19 rfl rfl [(1, vI 1), (0, vI 3)] rfl rfl ?_
    refine eW_iload_n 20 rfl rfl rfl ?_
    refine eW_ldc_w 23 rfl rfl 65536 rfl ?_
    refine eW_icmp_le 26 rfl rfl (by unfold i32; omega) (by unfold i32; omega) (fun c2 => ?_) (fun c2 => absurd c2 (by omega))
    refine eW_iload_n 35 rfl rfl rfl ?_
    refine eW_sipush 38 rfl rfl 256 rfl ?_
    refine eW_icmp_le 41 rfl rfl (by unfold i32; omega) (by unfold i32; omega) (fun c3 => ?_) (fun c3 => absurd c3 (by omega))
    refine eW_iload_n 50 rfl rfl rfl ?_
    refine eW_bipush 52 rfl rfl 16 rfl ?_
    refine eW_icmp_le 55 rfl rfl (by unfold i32; omega) (by unfold i32; omega) (fun c4 => ?_) (fun c4 => absurd c4 (by omega))
    refine eW_iload_n 63 rfl rfl rfl ?_
    refine eW_iconst 64 rfl rfl ?_
    refine eW_icmp_le 67 rfl rfl (by unfold i32; omega) (by unfold i32; omega) (fun c5 => ?_) (fun c5 => absurd c5 (by omega))
    refine eW_iload_n 75 rfl rfl rfl ?_
    refine eW_iload_n 76 rfl rfl rfl ?_
    refine eW_iconst 77 rfl rfl ?_
    refine eW_iushr 78 rfl rfl 1 (by decide +kernel) ?_
    refine eW_iadd 79 rfl rfl ?_
    refine eW_ret_i rfl rfl (Or.inl rfl) ?_
    exact eRet_i (by omega)
  · show eWp _ _ _ (8, [(0, vI 7)], [], N, h, 0, 0) _
    refine eW_iload_n 9 rfl rfl rfl ?_
    refine eW_if_gt 12 rfl rfl (by unfold i32; omega) (fun c1 => ?_) (fun c1 => absurd c1 (by omega))
    refine eW_iconst 18 rfl rfl ?_
    refine eW_istore_n 19 rfl rfl [(1, vI 1), (0, vI 7)] rfl rfl ?_
    refine eW_iload_n 20 rfl rfl rfl ?_
    refine eW_ldc_w 23 rfl rfl 65536 rfl ?_
    refine eW_icmp_le 26 rfl rfl (by unfold i32; omega) (by unfold i32; omega) (fun c2 => ?_) (fun c2 => absurd c2 (by omega))
    refine eW_iload_n 35 rfl rfl rfl ?_
    refine eW_sipush 38 rfl rfl 256 rfl ?_
    refine eW_icmp_le 41 rfl rfl (by unfold i32; omega) (by unfold i32; omega) (fun c3 => ?_) (fun c3 => absurd c3 (by omega))
    refine eW_iload_n 50 rfl rfl rfl ?_
    refine eW_bipush 52 rfl rfl 16 rfl ?_
    refine eW_icmp_le 55 rfl rfl (by unfold i32; omega) (by unfold i32; omega) (fun c4 => ?_) (fun c4 => absurd c4 (by omega))
    refine eW_iload_n 63 rfl rfl rfl ?_
    refine eW_iconst 64 rfl rfl ?_
    refine eW_icmp_le 67 rfl rfl (by unfold i32; omega) (by unfold i32; omega) (fun c5 => absurd c5 (by omega)) (fun c5 => ?_)
    refine eW_iinc 70 rfl rfl [(1, vI (1 + 2)), (0, vI 7)] rfl rfl rfl ?_
    refine eW_iload_n 71 rfl rfl rfl ?_
    refine eW_iconst 72 rfl rfl ?_
    refine eW_iushr 73 rfl rfl 1 (by decide +kernel) ?_
    refine eW_istore_n 74 rfl rfl [(0, vI 1), (1, vI (1 + 2))] rfl rfl ?_
    refine eW_iload_n 75 rfl rfl rfl ?_
    refine eW_iload_n 76 rfl rfl rfl ?_
    refine eW_iconst 77 rfl rfl ?_
    refine eW_iushr 78 rfl rfl 0 (by decide +kernel) ?_
    refine eW_iadd 79 rfl rfl ?_
    refine eW_ret_i rfl rfl (Or.inl rfl) ?_
    exact eRet_i (by omega)
  · show eWp _ _ _ (8, [(0, vI 15)], [], N, h, 0, 0) _
    refine eW_iload_n 9 rfl rfl rfl ?_
    refine eW_if_gt 12 rfl rfl (by unfold i32; omega) (fun c1 => ?_) (fun c1 => absurd c1 (by omega))
    refine eW_iconst 18 rfl rfl ?_
    refine eW_istore_n 19 rfl rfl [(1, vI 1), (0, vI 15)] rfl rfl ?_
    refine eW_iload_n 20 rfl rfl rfl ?_
    refine eW_ldc_w 23 rfl rfl 65536 rfl ?_
    refine eW_icmp_le 26 rfl rfl (by unfold i32; omega) (by unfold i32; omega) (fun c2 => ?_) (fun c2 => absurd c2 (by omega))
    refine eW_iload_n 35 rfl rfl rfl ?_
    refine eW_sipush 38 rfl rfl 256 rfl ?_
    refine eW_icmp_le 41 rfl rfl (by unfold i32; omega) (by unfold i32; omega) (fun c3 => ?_) (fun c3 => absurd c3 (by omega))
    refine eW_iload_n 50 rfl rfl rfl ?_
    refine eW_bipush 52 rfl rfl 16 rfl ?_
    refine eW_icmp_le 55 rfl rfl (by unfold i32; omega) (by unfold i32; omega) (fun c4 => ?_) (fun c4 => absurd c4 (by omega))
    refine eW_iload_n 63 rfl rfl rfl ?_
    refine eW_iconst 64 rfl rfl ?_
    refine eW_icmp_le 67 rfl rfl (by unfold i32; omega) (by unfold i32; omega) (fun c5 => absurd c5 (by omega)) (fun c5 => ?_)
    refine eW_iinc 70 rfl rfl [(1, vI (1 + 2)), (0, vI 15)] rfl rfl rfl ?_
    refine eW_iload_n 71 rfl rfl rfl ?_
    refine eW_iconst 72 rfl rfl ?_
    refine eW_iushr 73 rfl rfl 3 (by decide +kernel) ?_
    refine eW_istore_n 74 rfl rfl [(0, vI 3), (1, vI (1 + 2))] rfl rfl ?_
    refine eW_iload_n 75 rfl rfl rfl ?_
    refine eW_iload_n 76 rfl rfl rfl ?_
    refine eW_iconst 77 rfl rfl ?_
    refine eW_iushr 78 rfl rfl 1 (by decide +kernel) ?_
    refine eW_iadd 79 rfl rfl ?_
    refine eW_ret_i rfl rfl (Or.inl rfl) ?_
    exact eRet_i (by omega)
  · show eWp _ _ _ (8, [(0, vI 31)], [], N, h, 0, 0) _
    refine eW_iload_n 9 rfl rfl rfl ?_
    refine eW_if_gt 12 rfl rfl (by unfold i32; omega) (fun c1 => ?_) (fun c1 => absurd c1 (by omega))
    refine eW_iconst 18 rfl rfl ?_
    refine eW_istore_n 19 rfl rfl [(1, vI 1), (0, vI 31)] rfl rfl ?_
    refine eW_iload_n 20 rfl rfl rfl ?_
    refine eW_ldc_w 23 rfl rfl 65536 rfl ?_
    refine eW_icmp_le 26 rfl rfl (by unfold i32; omega) (by unfold i32; omega) (fun c2 => ?_) (fun c2 => absurd c2 (by omega))
    refine eW_iload_n 35 rfl rfl rfl ?_
    refine eW_sipush 38 rfl rfl 256 rfl ?_
    refine eW_icmp_le 41 rfl rfl (by unfold i32; omega) (by unfold i32; omega) (fun c3 => ?_) (fun c3 => absurd c3 (by omega))
    refine eW_iload_n 50 rfl rfl rfl ?_
    refine eW_bipush 52 rfl rfl 16 rfl ?_
    refine eW_icmp_le 55 rfl rfl (by unfold i32; omega) (by unfold i32; omega) (fun c4 => absurd c4 (by omega)) (fun c4 => ?_)
    refine eW_iinc 58 rfl rfl [(1, vI (1 + 4)), (0, vI 31)] rfl rfl rfl ?_
    refine eW_iload_n 59 rfl rfl rfl ?_
    refine eW_iconst 60 rfl rfl ?_
    refine eW_iushr 61 rfl rfl 1 (by decide +kernel) ?_
    refine eW_istore_n 62 rfl rfl [(0, vI 1), (1, vI (1 + 4))] rfl rfl ?_
    refine eW_iload_n 63 rfl rfl rfl ?_
    refine eW_iconst 64 rfl rfl ?_
    refine eW_icmp_le 67 rfl rfl (by unfold i32; omega) (by unfold i32; omega) (fun c5 => ?_) (fun c5 => absurd c5 (by omega))
    refine eW_iload_n 75 rfl rfl rfl ?_
    refine eW_iload_n 76 rfl rfl rfl ?_
    refine eW_iconst 77 rfl rfl ?_
    refine eW_iushr 78 rfl rfl 0 (by decide +kernel) ?_
    refine eW_iadd 79 rfl rfl ?_
    refine eW_ret_i rfl rfl (Or.inl rfl) ?_
    exact eRet_i (by omega)
  · show eWp _ _ _ (8, [(0, vI 63)], [], N, h, 0, 0) _
    refine eW_iload_n 9 rfl rfl rfl ?_
    refine eW_if_gt 12 rfl rfl (by unfold i32; omega) (fun c1 => ?_) (fun c1 => absurd c1 (by omega))
    refine eW_iconst 18 rfl rfl ?_
    refine eW_istore_n 19 rfl rfl [(1, vI 1), (0, vI 63)] rfl rfl ?_
    refine eW_iload_n 20 rfl rfl rfl ?_
    refine eW_ldc_w 23 rfl rfl 65536 rfl ?_
    refine eW_icmp_le 26 rfl rfl (by unfold i32; omega) (by unfold i32; omega) (fun c2 => ?_) (fun c2 => absurd c2 (by omega))
    refine eW_iload_n 35 rfl rfl rfl ?_
    refine eW_sipush 38 rfl rfl 256 rfl ?_
    refine eW_icmp_le 41 rfl rfl (by unfold i32; omega) (by unfold i32; omega) (fun c3 => ?_) (fun c3 => absurd c3 (by omega))
    refine eW_iload_n 50 rfl rfl rfl ?_
    refine eW_bipush 52 rfl rfl 16 rfl ?_
    refine eW_icmp_le 55 rfl rfl (by unfold i32; omega) (by unfold i32; omega) (fun c4 => absurd c4 (by omega)) (fun c4 => ?_)
    refine eW_iinc 58 rfl rfl [(1, vI (1 + 4)), (0, vI 63)] rfl rfl rfl ?_
    refine eW_iload_n 59 rfl rfl rfl ?_
    refine eW_iconst 60 rfl rfl ?_
    refine eW_iushr 61 rfl rfl 3 (by decide +kernel) ?_
    refine eW_istore_n 62 rfl rfl [(0, vI 3), (1, vI (1 + 4))] rfl rfl ?_
    refine eW_iload_n 63 rfl rfl rfl ?_
    refine eW_iconst 64 rfl rfl ?_
    refine eW_icmp_le 67 rfl rfl (by unfold i32; omega) (by unfold i32; omega) (fun c5 => ?_) (fun c5 => absurd c5 (by omega))
    refine eW_iload_n 75 rfl rfl rfl ?_
    refine eW_iload_n 76 rfl rfl rfl ?_
    refine eW_iconst 77 rfl rfl ?_
    refine eW_iushr 78 rfl rfl 1 (by decide +kernel) ?_
    refine eW_iadd 79 rfl rfl ?_
    refine eW_ret_i rfl rfl (Or.inl rfl) ?_
    exact eRet_i (by omega)
  · show eWp _ _ _ (8, [(0, vI 127)], [], N, h, 0, 0) _
    refine eW_iload_n 9 rfl rfl rfl ?_
    refine eW_if_gt 12 rfl rfl (by unfold i32; omega) (fun c1 => ?_) (fun c1 => absurd c1 (by omega))
    refine eW_iconst 18 rfl rfl ?_
    refine eW_istore_n 19 rfl rfl [(1, vI 1), (0, vI 127)] rfl rfl ?_
    refine eW_iload_n 20 rfl rfl rfl ?_
    refine eW_ldc_w 23 rfl rfl 65536 rfl ?_
    refine eW_icmp_le 26 rfl rfl (by unfold i32; omega) (by unfold i32; omega) (fun c2 => ?_) (fun c2 => absurd c2 (by omega))
    refine eW_iload_n 35 rfl rfl rfl ?_
    refine eW_sipush 38 rfl rfl 256 rfl ?_
    refine eW_icmp_le 41 rfl rfl (by unfold i32; omega) (by unfold i32; omega) (fun c3 => ?_) (fun c3 => absurd c3 (by omega))
    refine eW_iload_n 50 rfl rfl rfl ?_
    refine eW_bipush 52 rfl rfl 16 rfl ?_
    refine eW_icmp_le 55 rfl rfl (by unfold i32; omega) (by unfold i32; omega) (fun c4 => absurd c4 (by omega)) (fun c4 => ?_)
    refine eW_iinc 58 rfl rfl [(1, vI (1 + 4)), (0, vI 127)] rfl rfl rfl ?_
    refine eW_iload_n 59 rfl rfl rfl ?_
    refine eW_iconst 60 rfl rfl ?_
    refine eW_iushr 61 rfl rfl 7 (by decide +kernel) ?_
    refine eW_istore_n 62 rfl rfl [(0, vI 7), (1, vI (1 + 4))] rfl rfl ?_
    refine eW_iload_n 63 rfl rfl rfl ?_
    refine eW_iconst 64 rfl rfl ?_
    refine eW_icmp_le 67 rfl rfl (by unfold i32; omega) (by unfold i32; omega) (fun c5 => absurd c5 (by omega)) (fun c5 => ?_)
    refine eW_iinc 70 rfl rfl [(1, vI ((1 + 4) + 2)), (0, vI 7)] rfl rfl rfl ?_
    refine eW_iload_n 71 rfl rfl rfl ?_
    refine eW_iconst 72 rfl rfl ?_
    refine eW_iushr 73 rfl rfl 1 (by decide +kernel) ?_
    refine eW_istore_n 74 rfl rfl [(0, vI 1), (1, vI ((1 + 4) + 2))] rfl rfl ?_
    refine eW_iload_n 75 rfl rfl rfl ?_
    refine eW_iload_n 76 rfl rfl rfl ?_
    refine eW_iconst 77 rfl rfl ?_
    refine eW_iushr 78 rfl rfl 0 (by decide +kernel) ?_
    refine eW_iadd 79 rfl rfl ?_
    refine eW_ret_i rfl rfl (Or.inl rfl) ?_
    exact eRet_i (by omega)
  · show eWp _ _ _ (8, [(0, vI 255)], [], N, h, 0, 0) _
    refine eW_iload_n 9 rfl rfl rfl ?_
    refine eW_if_gt 12 rfl rfl (by unfold i32; omega) (fun c1 => ?_) (fun c1 => absurd c1 (by omega))
    refine eW_iconst 18 rfl rfl ?_
    refine eW_istore_n 19 rfl rfl [(1, vI 1), (0, vI 255)] rfl rfl ?_
    refine eW_iload_n 20 rfl rfl rfl ?_
    refine eW_ldc_w 23 rfl rfl 65536 rfl ?_
    refine eW_icmp_le 26 rfl rfl (by unfold i32; omega) (by unfold i32; omega) (fun c2 => ?_) (fun c2 => absurd c2 (by omega))
    refine eW_iload_n 35 rfl rfl rfl ?_
    refine eW_sipush 38 rfl rfl 256 rfl ?_
    refine eW_icmp_le 41 rfl rfl (by unfold i32; omega) (by unfold i32; omega) (fun c3 => ?_) (fun c3 => absurd c3 (by omega))
    refine eW_iload_n 50 rfl rfl rfl ?_
    refine eW_bipush 52 rfl rfl 16 rfl ?_
    refine eW_icmp_le 55 rfl rfl (by unfold i32; omega) (by unfold i32; omega) (fun c4 => absurd c4 (by omega)) (fun c4 => ?_)
    refine eW_iinc 58 rfl rfl [(1, vI (1 + 4)), (0, vI 255)] rfl rfl rfl ?_
    refine eW_iload_n 59 rfl rfl rfl ?_
    refine eW_iconst 60 rfl rfl ?_
    refine eW_iushr 61 rfl rfl 15 (by decide +kernel) ?_
    refine eW_istore_n 62 rfl rfl [(0, vI 15), (1, vI (1 + 4))] rfl rfl ?_
    refine eW_iload_n 63 rfl rfl rfl ?_
    refine eW_iconst 64 rfl rfl ?_
    refine eW_icmp_le 67 rfl rfl (by unfold i32; omega) (by unfold i32; omega) (fun c5 => absurd c5 (by omega)) (fun c5 => ?_)
    refine eW_iinc 70 rfl rfl [(1, vI ((1 + 4) + 2)), (0, vI 15)] rfl rfl rfl ?_
    refine eW_iload_n 71 rfl rfl rfl ?_
    refine eW_iconst 72 rfl rfl ?_
    refine eW_iushr 73 rfl rfl 3 (by decide +kernel) ?_
    refine eW_istore_n 74 rfl rfl [(0, vI 3), (1, vI ((1 + 4) + 2))] rfl rfl ?_
    refine eW_iload_n 75 rfl rfl rfl ?_
    refine eW_iload_n 76 rfl rfl rfl ?_
    refine eW_iconst 77 rfl rfl ?_
    refine eW_iushr 78 rfl rfl 1 (by decide +kernel) ?_
    refine eW_iadd 79 rfl rfl ?_
    refine eW_ret_i rfl rfl (Or.inl rfl) ?_
    exact eRet_i (by omega)
  · show eWp _ _ _ (8, [(0, vI 511)], [], N, h, 0, 0) _
    refine eW_iload_n 9 rfl rfl rfl ?_
    refine eW_if_gt 12 rfl rfl (by unfold i32; omega) (fun c1 => ?_) (fun c1 => absurd c1 (by omega))
    refine eW_iconst 18 rfl rfl ?_
    refine eW_istore_n 19 rfl rfl [(1, vI 1), (0, vI 511)] rfl rfl ?_
    refine eW_iload_n 20 rfl rfl rfl ?_
    refine eW_ldc_w 23 rfl rfl 65536 rfl ?_
    refine eW_icmp_le 26 rfl rfl (by unfold i32; omega) (by unfold i32; omega) (fun c2 => ?_) (fun c2 => absurd c2 (by omega))
    refine eW_iload_n 35 rfl rfl rfl ?_
    refine eW_sipush 38 rfl rfl 256 rfl ?_
    refine eW_icmp_le 41 rfl rfl (by unfold i32; omega) (by unfold i32; omega) (fun c3 => absurd c3 (by omega)) (fun c3 => ?_)
    refine eW_iinc 44 rfl rfl [(1, vI (1 + 8)), (0, vI 511)] rfl rfl rfl ?_
    refine eW_iload_n 45 rfl rfl rfl ?_
    refine eW_bipush 47 rfl rfl 8 rfl ?_
    refine eW_iushr 48 rfl rfl 1 (by decide +kernel) ?_
    refine eW_istore_n 49 rfl rfl [(0, vI 1), (1, vI (1 + 8))] rfl rfl ?_
    refine eW_iload_n 50 rfl rfl rfl ?_
    refine eW_bipush 52 rfl rfl 16 rfl ?_
    refine eW_icmp_le 55 rfl rfl (by unfold i32; omega) (by unfold i32; omega) (fun c4 => ?_) (fun c4 => absurd c4 (by omega))
    refine eW_iload_n 63 rfl rfl rfl ?_
    refine eW_iconst 64 rfl rfl ?_
    refine eW_icmp_le 67 rfl rfl (by unfold i32; omega) (by unfold i32; omega) (fun c5 => ?_) (fun c5 => absurd c5 (by omega))
    refine eW_iload_n 75 rfl rfl rfl ?_
    refine eW_iload_n 76 rfl rfl rfl ?_
    refine eW_iconst 77 rfl rfl ?_
    refine eW_iushr 78 rfl rfl 0 (by decide +kernel) ?_
    refine eW_iadd 79 rfl rfl ?_
    refine eW_ret_i rfl rfl (Or.inl rfl) ?_
    exact eRet_i (by omega)
  · show eWp _ _ _ (8, [(0, vI 1023)], [], N, h, 0, 0) _
    refine eW_iload_n 9 rfl rfl rfl ?_
    refine eW_if_gt 12 rfl rfl (by unfold i32; omega) (fun c1 => ?_) (fun c1 => absurd c1 (by omega))
    refine eW_iconst 18 rfl rfl ?_
    refine eW_istore_n 19 rfl rfl [(1, vI 1), (0, vI 1023)] rfl rfl ?_
    refine eW_iload_n 20 rfl rfl rfl ?_
    refine eW_ldc_w 23 rfl rfl 65536 rfl ?_
    refine eW_icmp_le 26 rfl rfl (by unfold i32; omega) (by unfold i32; omega) (fun c2 => ?_) (fun c2 => absurd c2 (by omega))
    refine eW_iload_n 35 rfl rfl rfl ?_
    refine eW_sipush 38 rfl rfl 256 rfl ?_
    refine eW_icmp_le 41 rfl rfl (by unfold i32; omega) (by unfold i32; omega) (fun c3 => absurd c3 (by omega)) (fun c3 => ?_)
    refine eW_iinc 44 rfl rfl [(1, vI (1 + 8)), (0, vI 1023)] rfl rfl rfl ?_
    refine eW_iload_n 45 rfl rfl rfl ?_
    refine eW_bipush 47 rfl rfl 8 rfl ?_
    refine eW_iushr 48 rfl rfl 3 (by decide +kernel) ?_
    refine eW_istore_n 49 rfl rfl [(0, vI 3), (1, vI (1 + 8))] rfl rfl ?_
    refine eW_iload_n 50 rfl rfl rfl ?_
    refine eW_bipush 52 rfl rfl 16 rfl ?_
    refine eW_icmp_le 55 rfl rfl (by unfold i32; omega) (by unfold i32; omega) (fun c4 => ?_) (fun c4 => absurd c4 (by omega))
    refine eW_iload_n 63 rfl rfl rfl ?_
    refine eW_iconst 64 rfl rfl ?_
    refine eW_icmp_le 67 rfl rfl (by unfold i32; omega) (by unfold i32; omega) (fun c5 => ?_) (fun c5 => absurd c5 (by omega))
    refine eW_iload_n 75 rfl rfl rfl ?_
    refine eW_iload_n 76 rfl rfl rfl ?_
    refine eW_iconst 77 rfl rfl ?_
    refine eW_iushr 78 rfl rfl 1 (by decide +kernel) ?_
    refine eW_iadd 79 rfl rfl ?_
    refine eW_ret_i rfl rfl (Or.inl rfl) ?_
    exact eRet_i (by omega)
  · show eWp _ _ _ (8, [(0, vI 2047)], [], N, h, 0, 0) _
    refine eW_iload_n 9 rfl rfl rfl ?_
    refine eW_if_gt 12 rfl rfl (by unfold i32; omega) (fun c1 => ?_) (fun c1 => absurd c1 (by omega))
    refine eW_iconst 18 rfl rfl ?_
    refine eW_istore_n 19 rfl rfl [(1, vI 1), (0, vI 2047)] rfl rfl ?_
    refine eW_iload_n 20 rfl rfl rfl ?_
    refine eW_ldc_w 23 rfl rfl 65536 rfl ?_
    refine eW_icmp_le 26 rfl rfl (by unfold i32; omega) (by unfold i32; omega) (fun c2 => ?_) (fun c2 => absurd c2 (by omega))
    refine eW_iload_n 35 rfl rfl rfl ?_
    refine eW_sipush 38 rfl rfl 256 rfl ?_
    refine eW_icmp_le 41 rfl rfl (by unfold i32; omega) (by unfold i32; omega) (fun c3 => absurd c3 (by omega)) (fun c3 => ?_)
    refine eW_iinc 44 rfl rfl [(1, vI (1 + 8)), (0, vI 2047)] rfl rfl rfl ?_
    refine eW_iload_n 45 rfl rfl rfl ?_
    refine eW_bipush 47 rfl rfl 8 rfl ?_
    refine eW_iushr 48 rfl rfl 7 (by decide +kernel) ?_
    refine eW_istore_n 49 rfl rfl [(0, vI 7), (1, vI (1 + 8))] rfl rfl ?_
    refine eW_iload_n 50 rfl rfl rfl ?_
    refine eW_bipush 52 rfl rfl 16 rfl ?_
    refine eW_icmp_le 55 rfl rfl (by unfold i32; omega) (by unfold i32; omega) (fun c4 => ?_) (fun c4 => absurd c4 (by omega))
    refine eW_iload_n 63 rfl rfl rfl ?_
    refine eW_iconst 64 rfl rfl ?_
    refine eW_icmp_le 67 rfl rfl (by unfold i32; omega) (by unfold i32; omega) (fun c5 => absurd c5 (by omega)) (fun c5 => ?_)
    refine eW_iinc 70 rfl rfl [(1, vI ((1 + 8) + 2)), (0, vI 7)] rfl rfl rfl ?_
    refine eW_iload_n 71 rfl rfl rfl ?_
    refine eW_iconst 72 rfl rfl ?_
    refine eW_iushr 73 rfl rfl 1 (by decide +kernel) ?_
    refine eW_istore_n 74 rfl rfl [(0, vI 1), (1, vI ((1 + 8) + 2))] rfl rfl ?_
    refine eW_iload_n 75 rfl rfl rfl ?_
    refine eW_iload_n 76 rfl rfl rfl ?_
    refine eW_iconst 77 rfl rfl ?_
    refine eW_iushr 78 rfl rfl 0 (by decide +kernel) ?_
    refine eW_iadd 79 rfl rfl ?_
    refine eW_ret_i rfl rfl (Or.inl rfl) ?_
    exact eRet_i (by omega)
  · show eWp _ _ _ (8, [(0, vI 4095)], [], N, h, 0, 0) _
    refine eW_iload_n 9 rfl rfl rfl ?_
    refine eW_if_gt 12 rfl rfl (by unfold i32; omega) (fun c1 => ?_) (fun c1 => absurd c1 (by omega))
    refine eW_iconst 18 rfl rfl ?_
    refine eW_istore_n 19 rfl rfl [(1, vI 1), (0, vI 4095)] rfl rfl ?_
    refine eW_iload_n 20 rfl rfl rfl ?_
    refine eW_ldc_w 23 rfl rfl 65536 rfl ?_
    refine eW_icmp_le 26 rfl rfl (by unfold i32; omega) (by unfold i32; omega) (fun c2 => ?_) (fun c2 => absurd c2 (by omega))
    refine eW_iload_n 35 rfl rfl rfl ?_
    refine eW_sipush 38 rfl rfl 256 rfl ?_
    refine eW_icmp_le 41 rfl rfl (by unfold i32; omega) (by unfold i32; omega) (fun c3 => absurd c3 (by omega)) (fun c3 => ?_)
    refine eW_iinc 44 rfl rfl [(1, vI (1 + 8)), (0, vI 4095)] rfl rfl rfl ?_
    refine eW_iload_n 45 rfl rfl rfl ?_
    refine eW_bipush 47 rfl rfl 8 rfl ?_
    refine eW_iushr 48 rfl rfl 15 (by decide +kernel) ?_
    refine eW_istore_n 49 rfl rfl [(0, vI 15), (1, vI (1 + 8))] rfl rfl ?_
    refine eW_iload_n 50 rfl rfl rfl ?_
    refine eW_bipush 52 rfl rfl 16 rfl ?_
    refine eW_icmp_le 55 rfl rfl (by unfold i32; omega) (by unfold i32; omega) (fun c4 => ?_) (fun c4 => absurd c4 (by omega))
    refine eW_iload_n 63 rfl rfl rfl ?_
    refine eW_iconst 64 rfl rfl ?_
    refine eW_icmp_le 67 rfl rfl (by unfold i32; omega) (by unfold i32; omega) (fun c5 => absurd c5 (by omega)) (fun c5 => ?_)
    refine eW_iinc 70 rfl rfl [(1, vI ((1 + 8) + 2)), (0, vI 15)] rfl rfl rfl ?_
    refine eW_iload_n 71 rfl rfl rfl ?_
    refine eW_iconst 72 rfl rfl ?_
    refine eW_iushr 73 rfl rfl 3 (by decide +kernel) ?_
    refine eW_istore_n 74 rfl rfl [(0, vI 3), (1, vI ((1 + 8) + 2))] rfl rfl ?_
    refine eW_iload_n 75 rfl rfl rfl ?_
    refine eW_iload_n 76 rfl rfl rfl ?_
    refine eW_iconst 77 rfl rfl ?_
    refine eW_iushr 78 rfl rfl 1 (by decide +kernel) ?_
    refine eW_iadd 79 rfl rfl ?_
    refine eW_ret_i rfl rfl (Or.inl rfl) ?_
    exact eRet_i (by omega)
  · show eWp _ _ _ (8, [(0, vI 8191)], [], N, h, 0, 0) _
    refine eW_iload_n 9 rfl rfl rfl ?_
    refine eW_if_gt 12 rfl rfl (by unfold i32; omega) (fun c1 => ?_) (fun c1 => absurd c1 (by omega))
    refine eW_iconst 18 rfl rfl ?_
    refine eW_istore_n 19 rfl rfl [(1, vI 1), (0, vI 8191)] rfl rfl ?_
    refine eW_iload_n 20 rfl rfl rfl ?_
    refine eW_ldc_w 23 rfl rfl 65536 rfl ?_
    refine eW_icmp_le 26 rfl rfl (by unfold i32; omega) (by unfold i32; omega) (fun c2 => ?_) (fun c2 => absurd c2 (by omega))
    refine eW_iload_n 35 rfl rfl rfl ?_
    refine eW_sipush 38 rfl rfl 256 rfl ?_
    refine eW_icmp_le 41 rfl rfl (by unfold i32; omega) (by unfold i32; omega) (fun c3 => absurd c3 (by omega)) (fun c3 => ?_)
    refine eW_iinc 44 rfl rfl [(1, vI (1 + 8)), (0, vI 8191)] rfl rfl rfl ?_
    refine eW_iload_n 45 rfl rfl rfl ?_
    refine eW_bipush 47 rfl rfl 8 rfl ?_
    refine eW_iushr 48 rfl rfl 31 (by decide +kernel) ?_
    refine eW_istore_n 49 rfl rfl [(0, vI 31), (1, vI (1 + 8))] rfl rfl ?_
    refine eW_iload_n 50 rfl rfl rfl ?_
    refine eW_bipush 52 rfl rfl 16 rfl ?_
    refine eW_icmp_le 55 rfl rfl (by unfold i32; omega) (by unfold i32; omega) (fun c4 => absurd c4 (by omega)) (fun c4 => ?_)
    refine eW_iinc 58 rfl rfl [(1, vI ((1 + 8) + 4)), (0, vI 31)] rfl rfl rfl ?_
    refine eW_iload_n 59 rfl rfl rfl ?_
    refine eW_iconst 60 rfl rfl ?_
    refine eW_iushr 61 rfl rfl 1 (by decide +kernel) ?_
    refine eW_istore_n 62 rfl rfl [(0, vI 1), (1, vI ((1 + 8) + 4))] rfl rfl ?_
    refine eW_iload_n 63 rfl rfl rfl ?_
    refine eW_iconst 64 rfl rfl ?_
    refine eW_icmp_le 67 rfl rfl (by unfold i32; omega) (by unfold i32; omega) (fun c5 => ?_) (fun c5 => absurd c5 (by omega))
    refine eW_iload_n 75 rfl rfl rfl ?_
    refine eW_iload_n 76 rfl rfl rfl ?_
    refine eW_iconst 77 rfl rfl ?_
    refine eW_iushr 78 rfl rfl 0 (by decide +kernel) ?_
    refine eW_iadd 79 rfl rfl ?_
    refine eW_ret_i rfl rfl (Or.inl rfl) ?_
    exact eRet_i (by omega)
  · show eWp _ _ _ (8, [(0, vI 16383)], [], N, h, 0, 0) _
    refine eW_iload_n 9 rfl rfl rfl ?_
    refine eW_if_gt 12 rfl rfl (by unfold i32; omega) (fun c1 => ?_) (fun c1 => absurd c1 (by omega))
    refine eW_iconst 18 rfl rfl ?_
    refine eW_istore_n 19 rfl rfl [(1, vI 1), (0, vI 16383)] rfl rfl ?_
    refine eW_iload_n 20 rfl rfl rfl ?_
    refine eW_ldc_w 23 rfl rfl 65536 rfl ?_
    refine eW_icmp_le 26 rfl rfl (by unfold i32; omega) (by unfold i32; omega) (fun c2 => ?_) (fun c2 => absurd c2 (by omega))
    refine eW_iload_n 35 rfl rfl rfl ?_
    refine eW_sipush 38 rfl rfl 256 rfl ?_
    refine eW_icmp_le 41 rfl rfl (by unfold i32; omega) (by unfold i32; omega) (fun c3 => absurd c3 (by omega)) (fun c3 => ?_)
    refine eW_iinc 44 rfl rfl [(1, vI (1 + 8)), (0, vI 16383)] rfl rfl rfl ?_
    refine eW_iload_n 45 rfl rfl rfl ?_
    refine eW_bipush 47 rfl rfl 8 rfl ?_
    refine eW_iushr 48 rfl rfl 63 (by decide +kernel) ?_
    refine eW_istore_n 49 rfl rfl [(0, vI 63), (1, vI (1 + 8))] rfl rfl ?_
    refine eW_iload_n 50 rfl rfl rfl ?_
    refine eW_bipush 52 rfl rfl 16 rfl ?_
    refine eW_icmp_le 55 rfl rfl (by unfold i32; omega) (by unfold i32; omega) (fun c4 => absurd c4 (by omega)) (fun c4 => ?_)
    refine eW_iinc 58 rfl rfl [(1, vI ((1 + 8) + 4)), (0, vI 63)] rfl rfl rfl ?_
    refine eW_iload_n 59 rfl rfl rfl ?_
    refine eW_iconst 60 rfl rfl ?_
    refine eW_iushr 61 rfl rfl 3 (by decide +kernel) ?_
    refine eW_istore_n 62 rfl rfl [(0, vI 3), (1, vI ((1 + 8) + 4))] rfl rfl ?_
    refine eW_iload_n 63 rfl rfl rfl ?_
    refine eW_iconst 64 rfl rfl ?_
    refine eW_icmp_le 67 rfl rfl (by unfold i32; omega) (by unfold i32; omega) (fun c5 => ?_) (fun c5 => absurd c5 (by omega))
    refine eW_iload_n 75 rfl rfl rfl ?_
    refine eW_iload_n 76 rfl rfl rfl ?_
    refine eW_iconst 77 rfl rfl ?_
    refine eW_iushr 78 rfl rfl 1 (by decide +kernel) ?_
    refine eW_iadd 79 rfl rfl ?_
    refine eW_ret_i rfl rfl (Or.inl rfl) ?_
    exact eRet_i (by omega)
  · show eWp _ _ _ (8, [(0, vI 32767)], [], N, h, 0, 0) _
    refine eW_iload_n 9 rfl rfl rfl ?_
    refine eW_if_gt 12 rfl rfl (by unfold i32; omega) (fun c1 => ?_) (fun c1 => absurd c1 (by omega))
    refine eW_iconst 18 rfl rfl ?_
    refine eW_istore_n 19 rfl rfl [(1, vI 1), (0, vI 32767)] rfl rfl ?_
    refine eW_iload_n 20 rfl rfl rfl ?_
    refine eW_ldc_w 23 rfl rfl 65536 rfl ?_
    refine eW_icmp_le 26 rfl rfl (by unfold i32; omega) (by unfold i32; omega) (fun c2 => ?_) (fun c2 => absurd c2 (by omega))
    refine eW_iload_n 35 rfl rfl rfl ?_
    refine eW_sipush 38 rfl rfl 256 rfl ?_
    refine eW_icmp_le 41 rfl rfl (by unfold i32; omega) (by unfold i32; omega) (fun c3 => absurd c3 (by omega)) (fun c3 => ?_)
    refine eW_iinc 44 rfl rfl [(1, vI (1 + 8)), (0, vI 32767)] rfl rfl rfl ?_
    refine eW_iload_n 45 rfl rfl rfl ?_
    refine eW_bipush 47 rfl rfl 8 rfl ?_
    refine eW_iushr 48 rfl rfl 127 (by decide +kernel) ?_
    refine eW_istore_n 49 rfl rfl [(0, vI 127), (1, vI (1 + 8))] rfl rfl ?_
    refine eW_iload_n 50 rfl rfl rfl ?_
    refine eW_bipush 52 rfl rfl 16 rfl ?_
    refine eW_icmp_le 55 rfl rfl (by unfold i32; omega) (by unfold i32; omega) (fun c4 => absurd c4 (by omega)) (fun c4 => ?_)
    refine eW_iinc 58 rfl rfl [(1, vI ((1 + 8) + 4)), (0, vI 127)] rfl rfl rfl ?_
    refine eW_iload_n 59 rfl rfl rfl ?_
    refine eW_iconst 60 rfl rfl ?_
    refine eW_iushr 61 rfl rfl 7 (by decide +kernel) ?_
    refine eW_istore_n 62 rfl rfl [(0, vI 7), (1, vI ((1 + 8) + 4))] rfl rfl ?_
    refine eW_iload_n 63 rfl rfl rfl ?_
    refine eW_iconst 64 rfl rfl ?_
    refine eW_icmp_le 67 rfl rfl (by unfold i32; omega) (by unfold i32; omega) (fun c5 => absurd c5 (by omega)) (fun c5 => ?_)
    refine eW_iinc 70 rfl rfl [(1, vI (((1 + 8) + 4) + 2)), (0, vI 7)] rfl rfl rfl ?_
    refine eW_iload_n 71 rfl rfl rfl ?_
    refine eW_iconst 72 rfl rfl ?_
    refine eW_iushr 73 rfl rfl 1 (by decide +kernel) ?_
    refine eW_istore_n 74 rfl rfl [(0, vI 1), (1, vI (((1 + 8) + 4) + 2))] rfl rfl ?_
    refine eW_iload_n 75 rfl rfl rfl ?_
    refine eW_iload_n 76 rfl rfl rfl ?_
    refine eW_iconst 77 rfl rfl ?_
    refine eW_iushr 78 rfl rfl 0 (by decide +kernel) ?_
    refine eW_iadd 79 rfl rfl ?_
    refine eW_ret_i rfl rfl (Or.inl rfl) ?_
    exact eRet_i (by omega)
  · show eWp _ _ _ (8, [(0, vI 65535)], [], N, h, 0, 0) _
    refine eW_iload_n 9 rfl rfl rfl ?_
    refine eW_if_gt 12 rfl rfl (by unfold i32; omega) (fun c1 => ?_) (fun c1 => absurd c1 (by omega))
    refine eW_iconst 18 rfl rfl ?_
    refine eW_istore_n 19 rfl rfl [(1, vI 1), (0, vI 65535)] rfl rfl ?_
    refine eW_iload_n 20 rfl rfl rfl ?_
    refine eW_ldc_w 23 rfl rfl 65536 rfl ?_
    refine eW_icmp_le 26 rfl rfl (by unfold i32; omega) (by unfold i32; omega) (fun c2 => ?_) (fun c2 => absurd c2 (by omega))
    refine eW_iload_n 35 rfl rfl rfl ?_
    refine eW_sipush 38 rfl rfl 256 rfl ?_
    refine eW_icmp_le 41 rfl rfl (by unfold i32; omega) (by unfold i32; omega) (fun c3 => absurd c3 (by omega)) (fun c3 => ?_)
    refine eW_iinc 44 rfl rfl [(1, vI (1 + 8)), (0, vI 65535)] rfl rfl rfl ?_
    refine eW_iload_n 45 rfl rfl rfl ?_
    refine eW_bipush 47 rfl rfl 8 rfl ?_
    refine eW_iushr 48 rfl rfl 255 (by decide +kernel) ?_
    refine eW_istore_n 49 rfl rfl [(0, vI 255), (1, vI (1 + 8))] rfl rfl ?_
    refine eW_iload_n 50 rfl rfl rfl ?_
    refine eW_bipush 52 rfl rfl 16 rfl ?_
    refine eW_icmp_le 55 rfl rfl (by unfold i32; omega) (by unfold i32; omega) (fun c4 => absurd c4 (by omega)) (fun c4 => ?_)
    refine eW_iinc 58 rfl rfl [(1, vI ((1 + 8) + 4)), (0, vI 255)] rfl rfl rfl ?_
    refine eW_iload_n 59 rfl rfl rfl ?_
    refine eW_iconst 60 rfl rfl ?_
    refine eW_iushr 61 rfl rfl 15 (by decide +kernel) ?_
    refine eW_istore_n 62 rfl rfl [(0, vI 15), (1, vI ((1 + 8) + 4))] rfl rfl ?_
    refine eW_iload_n 63 rfl rfl rfl ?_
    refine eW_iconst 64 rfl rfl ?_
    refine eW_icmp_le 67 rfl rfl (by unfold i32; omega) (by unfold i32; omega) (fun c5 => absurd c5 (by omega)) (fun c5 => ?_)
    refine eW_iinc 70 rfl rfl [(1, vI (((1 + 8) + 4) + 2)), (0, vI 15)] rfl rfl rfl ?_
    refine eW_iload_n 71 rfl rfl rfl ?_
    refine eW_iconst 72 rfl rfl ?_
    refine eW_iushr 73 rfl rfl 3 (by decide +kernel) ?_
    refine eW_istore_n 74 rfl rfl [(0, vI 3), (1, vI (((1 + 8) + 4) + 2))] rfl rfl ?_
    refine eW_iload_n 75 rfl rfl rfl ?_
    refine eW_iload_n 76 rfl rfl rfl ?_
    refine eW_iconst 77 rfl rfl ?_
    refine eW_iushr 78 rfl rfl 1 (by decide +kernel) ?_
    refine eW_iadd 79 rfl rfl ?_
    refine eW_ret_i rfl rfl (Or.inl rfl) ?_
    exact eRet_i (by omega)
  · show eWp _ _ _ (8, [(0, vI 131071)], [], N, h, 0, 0) _
    refine eW_iload_n 9 rfl rfl rfl ?_
    refine eW_if_gt 12 rfl rfl (by unfold i32; omega) (fun c1 => ?_) (fun c1 => absurd c1 (by omega))
    refine eW_iconst 18 rfl rfl ?_
    refine eW_istore_n 19 rfl rfl [(1, vI 1), (0, vI 131071)] rfl rfl ?_
    refine eW_iload_n 20 rfl rfl rfl ?_
    refine eW_ldc_w 23 rfl rfl 65536 rfl ?_
    refine eW_icmp_le 26 rfl rfl (by unfold i32; omega) (by unfold i32; omega) (fun c2 => absurd c2 (by omega)) (fun c2 => ?_)
    refine eW_iinc 29 rfl rfl [(1, vI (1 + 16)), (0, vI 131071)] rfl rfl rfl ?_
    refine eW_iload_n 30 rfl rfl rfl ?_
    refine eW_bipush 32 rfl rfl 16 rfl ?_
    refine eW_iushr 33 rfl rfl 1 (by decide +kernel) ?_
    refine eW_istore_n 34 rfl rfl [(0, vI 1), (1, vI (1 + 16))] rfl rfl ?_
    refine eW_iload_n 35 rfl rfl rfl ?_
    refine eW_sipush 38 rfl rfl 256 rfl ?_
    refine eW_icmp_le 41 rfl rfl (by unfold i32; omega) (by unfold i32; omega) (fun c3 => ?_) (fun c3 => absurd c3 (by omega))
    refine eW_iload_n 50 rfl rfl rfl ?_
    refine eW_bipush 52 rfl rfl 16 rfl ?_
    refine eW_icmp_le 55 rfl rfl (by unfold i32; omega) (by unfold i32; omega) (fun c4 => ?_) (fun c4 => absurd c4 (by omega))
    refine eW_iload_n 63 rfl rfl rfl ?_
    refine eW_iconst 64 rfl rfl ?_
    refine eW_icmp_le 67 rfl rfl (by unfold i32; omega) (by unfold i32; omega) (fun c5 => ?_) (fun c5 => absurd c5 (by omega))
    refine eW_iload_n 75 rfl rfl rfl ?_
    refine eW_iload_n 76 rfl rfl rfl ?_
    refine eW_iconst 77 rfl rfl ?_
    refine eW_iushr 78 rfl rfl 0 (by decide +kernel) ?_
    refine eW_iadd 79 rfl rfl ?_
    refine eW_ret_i rfl rfl (Or.inl rfl) ?_
    exact eRet_i (by omega)
  · show eWp _ _ _ (8, [(0, vI 262143)], [], N, h, 0, 0) _
    refine eW_iload_n 9 rfl rfl rfl ?_
    refine eW_if_gt 12 rfl rfl (by unfold i32; omega) (fun c1 => ?_) (fun c1 => absurd c1 (by omega))
    refine eW_iconst 18 rfl rfl ?_
    refine eW_istore_n 19 rfl rfl [(1, vI 1), (0, vI 262143)] rfl rfl ?_
    refine eW_iload_n 20 rfl rfl rfl ?_
    refine eW_ldc_w 23 rfl rfl 65536 rfl ?_
    refine eW_icmp_le 26 rfl rfl (by unfold i32; omega) (by unfold i32; omega) (fun c2 => absurd c2 (by omega)) (fun c2 => ?_)
    refine eW_iinc 29 rfl rfl [(1, vI (1 + 16)), (0, vI 262143)] rfl rfl rfl ?_
    refine eW_iload_n 30 rfl rfl rfl ?_
    refine eW_bipush 32 rfl rfl 16 rfl ?_
    refine eW_iushr 33 rfl rfl 3 (by decide +kernel) ?_
    refine eW_istore_n 34 rfl rfl [(0, vI 3), (1, vI (1 + 16))] rfl rfl ?_
    refine eW_iload_n 35 rfl rfl rfl ?_
    refine eW_sipush 38 rfl rfl 256 rfl ?_
    refine eW_icmp_le 41 rfl rfl (by unfold i32; omega) (by unfold i32; omega) (fun c3 => ?_) (fun c3 => absurd c3 (by omega))
    refine eW_iload_n 50 rfl rfl rfl ?_
    refine eW_bipush 52 rfl rfl 16 rfl ?_
    refine eW_icmp_le 55 rfl rfl (by unfold i32; omega) (by unfold i32; omega) (fun c4 => ?_) (fun c4 => absurd c4 (by omega))
    refine eW_iload_n 63 rfl rfl rfl ?_
    refine eW_iconst 64 rfl rfl ?_
    refine eW_icmp_le 67 rfl rfl (by unfold i32; omega) (by unfold i32; omega) (fun c5 => ?_) (fun c5 => absurd c5 (by omega))
    refine eW_iload_n 75 rfl rfl rfl ?_
    refine eW_iload_n 76 rfl rfl rfl ?_
    refine eW_iconst 77 rfl rfl ?_
    refine eW_iushr 78 rfl rfl 1 (by decide +kernel) ?_
    refine eW_iadd 79 rfl rfl ?_
    refine eW_ret_i rfl rfl (Or.inl rfl) ?_
    exact eRet_i (by omega)
  · show eWp _ _ _ (8, [(0, vI 524287)], [], N, h, 0, 0) _
    refine eW_iload_n 9 rfl rfl rfl ?_
    refine eW_if_gt 12 rfl rfl (by unfold i32; omega) (fun c1 => ?_) (fun c1 => absurd c1 (by omega))
    refine eW_iconst 18 rfl rfl ?_
    refine eW_istore_n 19 rfl rfl [(1, vI 1), (0, vI 524287)] rfl rfl ?_
    refine eW_iload_n 20 rfl rfl rfl ?_
    refine eW_ldc_w 23 rfl rfl 65536 rfl ?_
    refine eW_icmp_le 26 rfl rfl (by unfold i32; omega) (by unfold i32; omega) (fun c2 => absurd c2 (by omega)) (fun c2 => ?_)
    refine eW_iinc 29 rfl rfl [(1, vI (1 + 16)), (0, vI 524287)] rfl rfl rfl ?_
    refine eW_iload_n 30 rfl rfl rfl ?_
    refine eW_bipush 32 rfl rfl 16 rfl ?_
    refine eW_iushr 33 rfl rfl 7 (by decide +kernel) ?_
    refine eW_istore_n 34 rfl rfl [(0, vI 7), (1, vI (1 + 16))] rfl rfl ?_
    refine eW_iload_n 35 rfl rfl rfl ?_
    refine eW_sipush 38 rfl rfl 256 rfl ?_
    refine eW_icmp_le 41 rfl rfl (by unfold i32; omega) (by unfold i32; omega) (fun c3 => ?_) (fun c3 => absurd c3 (by omega))
    refine eW_iload_n 50 rfl rfl rfl ?_
    refine eW_bipush 52 rfl rfl 16 rfl ?_
    refine eW_icmp_le 55 rfl rfl (by unfold i32; omega) (by unfold i32; omega) (fun c4 => ?_) (fun c4 => absurd c4 (by omega))
    refine eW_iload_n 63 rfl rfl rfl ?_
    refine eW_iconst 64 rfl rfl ?_
    refine eW_icmp_le 67 rfl rfl (by unfold i32; omega) (by unfold i32; omega) (fun c5 => absurd c5 (by omega)) (fun c5 => ?_)
    refine eW_iinc 70 rfl rfl [(1, vI ((1 + 16) + 2)), (0, vI 7)] rfl rfl rfl ?_
    refine eW_iload_n 71 rfl rfl rfl ?_
    refine eW_iconst 72 rfl rfl ?_
    refine eW_iushr 73 rfl rfl 1 (by decide +kernel) ?_
    refine eW_istore_n 74 rfl rfl [(0, vI 1), (1, vI ((1 + 16) + 2))] rfl rfl ?_
    refine eW_iload_n 75 rfl rfl rfl ?_
    refine eW_iload_n 76 rfl rfl rfl ?_
    refine eW_iconst 77 rfl rfl ?_
    refine eW_iushr 78 rfl rfl 0 (by decide +kernel) ?_
    refine eW_iadd 79 rfl rfl ?_
    refine eW_ret_i rfl rfl (Or.inl rfl) ?_
    exact eRet_i (by omega)
  · show eWp _ _ _ (8, [(0, vI 1048575)], [], N, h, 0, 0) _
    refine eW_iload_n 9 rfl rfl rfl ?_
    refine eW_if_gt 12 rfl rfl (by unfold i32; omega) (fun c1 => ?_) (fun c1 => absurd c1 (by omega))
    refine eW_iconst 18 rfl rfl ?_
    refine eW_istore_n 19 rfl rfl [(1, vI 1), (0, vI 1048575)] rfl rfl ?_
    refine eW_iload_n 20 rfl rfl rfl ?_
    refine eW_ldc_w 23 rfl rfl 65536 rfl ?_
    refine eW_icmp_le 26 rfl rfl (by unfold i32; omega) (by unfold i32; omega) (fun c2 => absurd c2 (by omega)) (fun c2 => ?_)
    refine eW_iinc 29 rfl rfl [(1, vI (1 + 16)), (0, vI 1048575)] rfl rfl rfl ?_
    refine eW_iload_n 30 rfl rfl rfl ?_
    refine eW_bipush 32 rfl rfl 16 rfl ?_
    refine eW_iushr 33 rfl rfl 15 (by decide +kernel) ?_
    refine eW_istore_n 34 rfl rfl [(0, vI 15), (1, vI (1 + 16))] rfl rfl ?_
    refine eW_iload_n 35 rfl rfl rfl ?_
    refine eW_sipush 38 rfl rfl 256 rfl ?_
    refine eW_icmp_le 41 rfl rfl (by unfold i32; omega) (by unfold i32; omega) (fun c3 => ?_) (fun c3 => absurd c3 (by omega))
    refine eW_iload_n 50 rfl rfl rfl ?_
    refine eW_bipush 52 rfl rfl 16 rfl ?_
    refine eW_icmp_le 55 rfl rfl (by unfold i32; omega) (by unfold i32; omega) (fun c4 => ?_) (fun c4 => absurd c4 (by omega))
    refine eW_iload_n 63 rfl rfl rfl ?_
    refine eW_iconst 64 rfl rfl ?_
    refine eW_icmp_le 67 rfl rfl (by unfold i32; omega) (by unfold i32; omega) (fun c5 => absurd c5 (by omega)) (fun c5 => ?_)
    refine eW_iinc 70 rfl rfl [(1, vI ((1 + 16) + 2)), (0, vI 15)] rfl rfl rfl ?_
    refine eW_iload_n 71 rfl rfl rfl ?_
    refine eW_iconst 72 rfl rfl ?_
    refine eW_iushr 73 rfl rfl 3 (by decide +kernel) ?_
    refine eW_istore_n 74 rfl rfl [(0, vI 3), (1, vI ((1 + 16) + 2))] rfl rfl ?_
    refine eW_iload_n 75 rfl rfl rfl ?_
    refine eW_iload_n 76 rfl rfl rfl ?_
    refine eW_iconst 77 rfl rfl ?_
    refine eW_iushr 78 rfl rfl 1 (by decide +kernel) ?_
    refine eW_iadd 79 rfl rfl ?_
    refine eW_ret_i rfl rfl (Or.inl rfl) ?_
    exact eRet_i (by omega)
  · show eWp _ _ _ (8, [(0, vI 2097151)], [], N, h, 0, 0) _
    refine eW_iload_n 9 rfl rfl rfl ?_
    refine eW_if_gt 12 rfl rfl (by unfold i32; omega) (fun c1 => ?_) (fun c1 => absurd c1 (by omega))
    refine eW_iconst 18 rfl rfl ?_
    refine eW_istore_n 19 rfl rfl [(1, vI 1), (0, vI 2097151)] rfl rfl ?_
    refine eW_iload_n 20 rfl rfl rfl ?_
    refine eW_ldc_w 23 rfl rfl 65536 rfl ?_
    refine eW_icmp_le 26 rfl rfl (by unfold i32; omega) (by unfold i32; omega) (fun c2 => absurd c2 (by omega)) (fun c2 => ?_)
    refine eW_iinc 29 rfl rfl [(1, vI (1 + 16)), (0, vI 2097151)] rfl rfl rfl ?_
    refine eW_iload_n 30 rfl rfl rfl ?_
    refine eW_bipush 32 rfl rfl 16 rfl ?_
    refine eW_iushr 33 rfl rfl 31 (by decide +kernel) ?_
    refine eW_istore_n 34 rfl rfl [(0, vI 31), (1, vI (1 + 16))] rfl rfl ?_
    refine eW_iload_n 35 rfl rfl rfl ?_
    refine eW_sipush 38 rfl rfl 256 rfl ?_
    refine eW_icmp_le 41 rfl rfl (by unfold i32; omega) (by unfold i32; omega) (fun c3 => ?_) (fun c3 => absurd c3 (by omega))
    refine eW_iload_n 50 rfl rfl rfl ?_
    refine eW_bipush 52 rfl rfl 16 rfl ?_
    refine eW_icmp_le 55 rfl rfl (by unfold i32; omega) (by unfold i32; omega) (fun c4 => absurd c4 (by omega)) (fun c4 => ?_)
    refine eW_iinc 58 rfl rfl [(1, vI ((1 + 16) + 4)), (0, vI 31)] rfl rfl rfl ?_
    refine eW_iload_n 59 rfl rfl rfl ?_
    refine eW_iconst 60 rfl rfl ?_
    refine eW_iushr 61 rfl rfl 1 (by decide +kernel) ?_
    refine eW_istore_n 62 rfl rfl [(0, vI 1), (1, vI ((1 + 16) + 4))] rfl rfl ?_
    refine eW_iload_n 63 rfl rfl rfl ?_
    refine eW_iconst 64 rfl rfl ?_
    refine eW_icmp_le 67 rfl rfl (by unfold i32; omega) (by unfold i32; omega) (fun c5 => ?_) (fun c5 => absurd c5 (by omega))
    refine eW_iload_n 75 rfl rfl rfl ?_
    refine eW_iload_n 76 rfl rfl rfl ?_
    refine eW_iconst 77 rfl rfl ?_
    refine eW_iushr 78 rfl rfl 0 (by decide +kernel) ?_
    refine eW_iadd 79 rfl rfl ?_
    refine eW_ret_i rfl rfl (Or.inl rfl) ?_
    exact eRet_i (by omega)
  · show eWp _ _ _ (8, [(0, vI 4194303)], [], N, h, 0, 0) _
    refine eW_iload_n 9 rfl rfl rfl ?_
    refine eW_if_gt 12 rfl rfl (by unfold i32; omega) (fun c1 => ?_) (fun c1 => absurd c1 (by omega))
    refine eW_iconst 18 rfl rfl ?_
    refine eW_istore_n 19 rfl rfl [(1, vI 1), (0, vI 4194303)] rfl rfl ?_
    refine eW_iload_n 20 rfl rfl rfl ?_
    refine eW_ldc_w 23 rfl rfl 65536 rfl ?_
    refine eW_icmp_le 26 rfl rfl (by unfold i32; omega) (by unfold i32; omega) (fun c2 => absurd c2 (by omega)) (fun c2 => ?_)
    refine eW_iinc 29 rfl rfl [(1, vI (1 + 16)), (0, vI 4194303)] rfl rfl rfl ?_
    refine eW_iload_n 30 rfl rfl rfl ?_
    refine eW_bipush 32 rfl rfl 16 rfl ?_
    refine eW_iushr 33 rfl rfl 63 (by decide +kernel) ?_
    refine eW_istore_n 34 rfl rfl [(0, vI 63), (1, vI (1 + 16))] rfl rfl ?_
    refine eW_iload_n 35 rfl rfl rfl ?_
    refine eW_sipush 38 rfl rfl 256 rfl ?_
    refine eW_icmp_le 41 rfl rfl (by unfold i32; omega) (by unfold i32; omega) (fun c3 => ?_) (fun c3 => absurd c3 (by omega))
    refine eW_iload_n 50 rfl rfl rfl ?_
    refine eW_bipush 52 rfl rfl 16 rfl ?_
    refine eW_icmp_le 55 rfl rfl (by unfold i32; omega) (by unfold i32; omega) (fun c4 => absurd c4 (by omega)) (fun c4 => ?_)
    refine eW_iinc 58 rfl rfl [(1, vI ((1 + 16) + 4)), (0, vI 63)] rfl rfl rfl ?_
    refine eW_iload_n 59 rfl rfl rfl ?_
    refine eW_iconst 60 rfl rfl ?_
    refine eW_iushr 61 rfl rfl 3 (by decide +kernel) ?_
    refine eW_istore_n 62 rfl rfl [(0, vI 3), (1, vI ((1 + 16) + 4))] rfl rfl ?_
    refine eW_iload_n 63 rfl rfl rfl ?_
    refine eW_iconst 64 rfl rfl ?_
    refine eW_icmp_le 67 rfl rfl (by unfold i32; omega) (by unfold i32; omega) (fun c5 => ?_) (fun c5 => absurd c5 (by omega))
    refine eW_iload_n 75 rfl rfl rfl ?_
    refine eW_iload_n 76 rfl rfl rfl ?_
    refine eW_iconst 77 rfl rfl ?_
    refine eW_iushr 78 rfl rfl 1 (by decide +kernel) ?_
    refine eW_iadd 79 rfl rfl ?_
    refine eW_ret_i rfl rfl (Or.inl rfl) ?_
    exact eRet_i (by omega)
  · show eWp _ _ _ (8, [(0, vI 8388607)], [], N, h, 0, 0) _
    refine eW_iload_n 9 rfl rfl rfl ?_
    refine eW_if_gt 12 rfl rfl (by unfold i32; omega) (fun c1 => ?_) (fun c1 => absurd c1 (by omega))
    refine eW_iconst 18 rfl rfl ?_
    refine eW_istore_n 19 rfl rfl [(1, vI 1), (0, vI 8388607)] rfl rfl ?_
    refine eW_iload_n 20 rfl rfl rfl ?_
    refine eW_ldc_w 23 rfl rfl 65536 rfl ?_
    refine eW_icmp_le 26 rfl rfl (by unfold i32; omega) (by unfold i32; omega) (fun c2 => absurd c2 (by omega)) (fun c2 => ?_)
    refine eW_iinc 29 rfl rfl [(1, vI (1 + 16)), (0, vI 8388607)] rfl rfl rfl ?_
    refine eW_iload_n 30 rfl rfl rfl ?_
    refine eW_bipush 32 rfl rfl 16 rfl ?_
    refine eW_iushr 33 rfl rfl 127 (by decide +kernel) ?_
    refine eW_istore_n 34 rfl rfl [(0, vI 127), (1, vI (1 + 16))] rfl rfl ?_
    refine eW_iload_n 35 rfl rfl rfl ?_
    refine eW_sipush 38 rfl rfl 256 rfl ?_
    refine eW_icmp_le 41 rfl rfl (by unfold i32; omega) (by unfold i32; omega) (fun c3 => ?_) (fun c3 => absurd c3 (by omega))
    refine eW_iload_n 50 rfl rfl rfl ?_
    refine eW_bipush 52 rfl rfl 16 rfl ?_
    refine eW_icmp_le 55 rfl rfl (by unfold i32; omega) (by unfold i32; omega) (fun c4 => absurd c4 (by omega)) (fun c4 => ?_)
    refine eW_iinc 58 rfl rfl [(1, vI ((1 + 16) + 4)), (0, vI 127)] rfl rfl rfl ?_
    refine eW_iload_n 59 rfl rfl rfl ?_
    refine eW_iconst 60 rfl rfl ?_
    refine eW_iushr 61 rfl rfl 7 (by decide +kernel) ?_
    refine eW_istore_n 62 rfl rfl [(0, vI 7), (1, vI ((1 + 16) + 4))] rfl rfl ?_
    refine eW_iload_n 63 rfl rfl rfl ?_
    refine eW_iconst 64 rfl rfl ?_
    refine eW_icmp_le 67 rfl rfl (by unfold i32; omega) (by unfold i32; omega) (fun c5 => absurd c5 (by omega)) (fun c5 => ?_)
    refine eW_iinc 70 rfl rfl [(1, vI (((1 + 16) + 4) + 2)), (0, vI 7)] rfl rfl rfl ?_
    refine eW_iload_n 71 rfl rfl rfl ?_
    refine eW_iconst 72 rfl rfl ?_
    refine eW_iushr 73 rfl rfl 1 (by decide +kernel) ?_
    refine eW_istore_n 74 rfl rfl [(0, vI 1), (1, vI (((1 + 16) + 4) + 2))] rfl rfl ?_
    refine eW_iload_n 75 rfl rfl rfl ?_
    refine eW_iload_n 76 rfl rfl rfl ?_
    refine eW_iconst 77 rfl rfl ?_
    refine eW_iushr 78 rfl rfl 0 (by decide +kernel) ?_
    refine eW_iadd 79 rfl rfl ?_
    refine eW_ret_i rfl rfl (Or.inl rfl) ?_
    exact eRet_i (by omega)
  · show eWp _ _ _ (8, [(0, vI 16777215)], [], N, h, 0, 0) _
    refine eW_iload_n 9 rfl rfl rfl ?_
    refine eW_if_gt 12 rfl rfl (by unfold i32; omega) (fun c1 => ?_) (fun c1 => absurd c1 (by omega))
    refine eW_iconst 18 rfl rfl ?_
    refine eW_istore_n 19 rfl rfl [(1, vI 1), (0, vI 16777215)] rfl rfl ?_
    refine eW_iload_n 20 rfl rfl rfl ?_
    refine eW_ldc_w 23 rfl rfl 65536 rfl ?_
    refine eW_icmp_le 26 rfl rfl (by unfold i32; omega) (by unfold i32; omega) (fun c2 => absurd c2 (by omega)) (fun c2 => ?_)
    refine eW_iinc 29 rfl rfl [(1, vI (1 + 16)), (0, vI 16777215)] rfl rfl rfl ?_
    refine eW_iload_n 30 rfl rfl rfl ?_
    refine eW_bipush 32 rfl rfl 16 rfl ?_
    refine eW_iushr 33 rfl rfl 255 (by decide +kernel) ?_
    refine eW_istore_n 34 rfl rfl [(0, vI 255), (1, vI (1 + 16))] rfl rfl ?_
    refine eW_iload_n 35 rfl rfl rfl ?_
    refine eW_sipush 38 rfl rfl 256 rfl ?_
    refine eW_icmp_le 41 rfl rfl (by unfold i32; omega) (by unfold i32; omega) (fun c3 => ?_) (fun c3 => absurd c3 (by omega))
    refine eW_iload_n 50 rfl rfl rfl ?_
    refine eW_bipush 52 rfl rfl 16 rfl ?_
    refine eW_icmp_le 55 rfl rfl (by unfold i32; omega) (by unfold i32; omega) (fun c4 => absurd c4 (by omega)) (fun c4 => ?_)
    refine eW_iinc 58 rfl rfl [(1, vI ((1 + 16) + 4)), (0, vI 255)] rfl rfl rfl ?_
    refine eW_iload_n 59 rfl rfl rfl ?_
    refine eW_iconst 60 rfl rfl ?_
    refine eW_iushr 61 rfl rfl 15 (by decide +kernel) ?_
    refine eW_istore_n 62 rfl rfl [(0, vI 15), (1, vI ((1 + 16) + 4))] rfl rfl ?_
    refine eW_iload_n 63 rfl rfl rfl ?_
    refine eW_iconst 64 rfl rfl ?_
    refine eW_icmp_le 67 rfl rfl (by unfold i32; omega) (by unfold i32; omega) (fun c5 => absurd c5 (by omega)) (fun c5 => ?_)
    refine eW_iinc 70 rfl rfl [(1, vI (((1 + 16) + 4) + 2)), (0, vI 15)] rfl rfl rfl ?_
    refine eW_iload_n 71 rfl rfl rfl ?_
    refine eW_iconst 72 rfl rfl ?_
    refine eW_iushr 73 rfl rfl 3 (by decide +kernel) ?_
    refine eW_istore_n 74 rfl rfl [(0, vI 3), (1, vI (((1 + 16) + 4) + 2))] rfl rfl ?_
    refine eW_iload_n 75 rfl rfl rfl ?_
    refine eW_iload_n 76 rfl rfl rfl ?_
    refine eW_iconst 77 rfl rfl ?_
    refine eW_iushr 78 rfl rfl 1 (by decide +kernel) ?_
    refine eW_iadd 79 rfl rfl ?_
    refine eW_ret_i rfl rfl (Or.inl rfl) ?_
    exact eRet_i (by omega)
  · show eWp _ _ _ (8, [(0, vI 33554431)], [], N, h, 0, 0) _
    refine eW_iload_n 9 rfl rfl rfl ?_
    refine eW_if_gt 12 rfl rfl (by unfold i32; omega) (fun c1 => ?_) (fun c1 => absurd c1 (by omega))
    refine eW_iconst 18 rfl rfl ?_
    refine eW_istore_n 19 rfl rfl [(1, vI 1), (0, vI 33554431)] rfl rfl ?_
    refine eW_iload_n 20 rfl rfl rfl ?_
    refine eW_ldc_w 23 rfl rfl 65536 rfl ?_
    refine eW_icmp_le 26 rfl rfl (by unfold i32; omega) (by unfold i32; omega) (fun c2 => absurd c2 (by omega)) (fun c2 => ?_)
    refine eW_iinc 29 rfl rfl [(1, vI (1 + 16)), (0, vI 33554431)] rfl rfl rfl ?_
    refine eW_iload_n 30 rfl rfl rfl ?_
    refine eW_bipush 32 rfl rfl 16 rfl ?_
    refine eW_iushr 33 rfl rfl 511 (by decide +kernel) ?_
    refine eW_istore_n 34 rfl rfl [(0, vI 511), (1, vI (1 + 16))] rfl rfl ?_
    refine eW_iload_n 35 rfl rfl rfl ?_
    refine eW_sipush 38 rfl rfl 256 rfl ?_
    refine eW_icmp_le 41 rfl rfl (by unfold i32; omega) (by unfold i32; omega) (fun c3 => absurd c3 (by omega)) (fun c3 => ?_)
    refine eW_iinc 44 rfl rfl [(1, vI ((1 + 16) + 8)), (0, vI 511)] rfl rfl rfl ?_
    refine eW_iload_n 45 rfl rfl rfl ?_
    refine eW_bipush 47 rfl rfl 8 rfl ?_
    refine eW_iushr 48 rfl rfl 1 (by decide +kernel) ?_
    refine eW_istore_n 49 rfl rfl [(0, vI 1), (1, vI ((1 + 16) + 8))] rfl rfl ?_
    refine eW_iload_n 50 rfl rfl rfl ?_
    refine eW_bipush 52 rfl rfl 16 rfl ?_
    refine eW_icmp_le 55 rfl rfl (by unfold i32; omega) (by unfold i32; omega) (fun c4 => ?_) (fun c4 => absurd c4 (by omega))
    refine eW_iload_n 63 rfl rfl rfl ?_
    refine eW_iconst 64 rfl rfl ?_
    refine eW_icmp_le 67 rfl rfl (by unfold i32; omega) (by unfold i32; omega) (fun c5 => ?_) (fun c5 => absurd c5 (by omega))
    refine eW_iload_n 75 rfl rfl rfl ?_
    refine eW_iload_n 76 rfl rfl rfl ?_
    refine eW_iconst 77 rfl rfl ?_
    refine eW_iushr 78 rfl rfl 0 (by decide +kernel) ?_
    refine eW_iadd 79 rfl rfl ?_
    refine eW_ret_i rfl rfl (Or.inl rfl) ?_
    exact eRet_i (by omega)
  · show eWp _ _ _ (8, [(0, vI 67108863)], [], N, h, 0, 0) _
    refine eW_iload_n 9 rfl rfl rfl ?_
    refine eW_if_gt 12 rfl rfl (by unfold i32; omega) (fun c1 => ?_) (fun c1 => absurd c1 (by omega))
    refine eW_iconst 18 rfl rfl ?_
    refine eW_istore_n 19 rfl rfl [(1, vI 1), (0, vI 67108863)] rfl rfl ?_
    refine eW_iload_n 20 rfl rfl rfl ?_
    refine eW_ldc_w 23 rfl rfl 65536 rfl ?_
    refine eW_icmp_le 26 rfl rfl (by unfold i32; omega) (by unfold i32; omega) (fun c2 => absurd c2 (by omega)) (fun c2 => ?_)
    refine eW_iinc 29 rfl rfl [(1, vI (1 + 16)), (0, vI 67108863)] rfl rfl rfl ?_
    refine eW_iload_n 30 rfl rfl rfl ?_
    refine eW_bipush 32 rfl rfl 16 rfl ?_
    refine eW_iushr 33 rfl rfl 1023 (by decide +kernel) ?_
    refine eW_istore_n 34 rfl rfl [(0, vI 1023), (1, vI (1 + 16))] rfl rfl ?_
    refine eW_iload_n 35 rfl rfl rfl ?_
    refine eW_sipush 38 rfl rfl 256 rfl ?_
    refine eW_icmp_le 41 rfl rfl (by unfold i32; omega) (by unfold i32; omega) (fun c3 => absurd c3 (by omega)) (fun c3 => ?_)
    refine eW_iinc 44 rfl rfl [(1, vI ((1 + 16) + 8)), (0, vI 1023)] rfl rfl rfl ?_
    refine eW_iload_n 45 rfl rfl rfl ?_
    refine eW_bipush 47 rfl rfl 8 rfl ?_
    refine eW_iushr 48 rfl rfl 3 (by decide +kernel) ?_
    refine eW_istore_n 49 rfl rfl [(0, vI 3), (1, vI ((1 + 16) + 8))] rfl rfl ?_
    refine eW_iload_n 50 rfl rfl rfl ?_
    refine eW_bipush 52 rfl rfl 16 rfl ?_
    refine eW_icmp_le 55 rfl rfl (by unfold i32; omega) (by unfold i32; omega) (fun c4 => ?_) (fun c4 => absurd c4 (by omega))
    refine eW_iload_n 63 rfl rfl rfl ?_
    refine eW_iconst 64 rfl rfl ?_
    refine eW_icmp_le 67 rfl rfl (by unfold i32; omega) (by unfold i32; omega) (fun c5 => ?_) (fun c5 => absurd c5 (by omega))
    refine eW_iload_n 75 rfl rfl rfl ?_
    refine eW_iload_n 76 rfl rfl rfl ?_
    refine eW_iconst 77 rfl rfl ?_
    refine eW_iushr 78 rfl rfl 1 (by decide +kernel) ?_
    refine eW_iadd 79 rfl rfl ?_
    refine eW_ret_i rfl rfl (Or.inl rfl) ?_
    exact eRet_i (by omega)
  · show eWp _ _ _ (8, [(0, vI 134217727)], [], N, h, 0, 0) _
    refine eW_iload_n 9 rfl rfl rfl ?_
    refine eW_if_gt 12 rfl rfl (by unfold i32; omega) (fun c1 => ?_) (fun c1 => absurd c1 (by omega))
    refine eW_iconst 18 rfl rfl ?_
    refine eW_istore_n 19 rfl rfl [(1, vI 1), (0, vI 134217727)] rfl rfl ?_
    refine eW_iload_n 20 rfl rfl rfl ?_
    refine eW_ldc_w 23 rfl rfl 65536 rfl ?_
    refine eW_icmp_le 26 rfl rfl (by unfold i32; omega) (by unfold i32; omega) (fun c2 => absurd c2 (by omega)) (fun c2 => ?_)
    refine eW_iinc 29 rfl rfl [(1, vI (1 + 16)), (0, vI 134217727)] rfl rfl rfl ?_
    refine eW_iload_n 30 rfl rfl rfl ?_
    refine eW_bipush 32 rfl rfl 16 rfl ?_
    refine eW_iushr 33 rfl rfl 2047 (by decide +kernel) ?_
    refine eW_istore_n 34 rfl rfl [(0, vI 2047), (1, vI (1 + 16))] rfl rfl ?_
    refine eW_iload_n 35 rfl rfl rfl ?_
    refine eW_sipush 38 rfl rfl 256 rfl ?_
    refine eW_icmp_le 41 rfl rfl (by unfold i32; omega) (by unfold i32; omega) (fun c3 => absurd c3 (by omega)) (fun c3 => ?_)
    refine eW_iinc 44 rfl rfl [(1, vI ((1 + 16) + 8)), (0, vI 2047)] rfl rfl rfl ?_
    refine eW_iload_n 45 rfl rfl rfl ?_
    refine eW_bipush 47 rfl rfl 8 rfl ?_
    refine eW_iushr 48 rfl rfl 7 (by decide +kernel) ?_
    refine eW_istore_n 49 rfl rfl [(0, vI 7), (1, vI ((1 + 16) + 8))] rfl rfl ?_
    refine eW_iload_n 50 rfl rfl rfl ?_
    refine eW_bipush 52 rfl rfl 16 rfl ?_
    refine eW_icmp_le 55 rfl rfl (by unfold i32; omega) (by unfold i32; omega) (fun c4 => ?_) (fun c4 => absurd c4 (by omega))
    refine eW_iload_n 63 rfl rfl rfl ?_
    refine eW_iconst 64 rfl rfl ?_
    refine eW_icmp_le 67 rfl rfl (by unfold i32; omega) (by unfold i32; omega) (fun c5 => absurd c5 (by omega)) (fun c5 => ?_)
    refine eW_iinc 70 rfl rfl [(1, vI (((1 + 16) + 8) + 2)), (0, vI 7)] rfl rfl rfl ?_
    refine eW_iload_n 71 rfl rfl rfl ?_
    refine eW_iconst 72 rfl rfl ?_
    refine eW_iushr 73 rfl rfl 1 (by decide +kernel) ?_
    refine eW_istore_n 74 rfl rfl [(0, vI 1), (1, vI (((1 + 16) + 8) + 2))] rfl rfl ?_
    refine eW_iload_n 75 rfl rfl rfl ?_
    refine eW_iload_n 76 rfl rfl rfl ?_
    refine eW_iconst 77 rfl rfl ?_
    refine eW_iushr 78 rfl rfl 0 (by decide +kernel) ?_
    refine eW_iadd 79 rfl rfl ?_
    refine eW_ret_i rfl rfl (Or.inl rfl) ?_
    exact eRet_i (by omega)
  · show eWp _ _ _ (8, [(0, vI 268435455)], [], N, h, 0, 0) _
    refine eW_iload_n 9 rfl rfl rfl ?_
    refine eW_if_gt 12 rfl rfl (by unfold i32; omega) (fun c1 => ?_) (fun c1 => absurd c1 (by omega))
    refine eW_iconst 18 rfl rfl ?_
    refine eW_istore_n 19 rfl rfl [(1, vI 1), (0, vI 268435455)] rfl rfl ?_
    refine eW_iload_n 20 rfl rfl rfl ?_
    refine eW_ldc_w 23 rfl rfl 65536 rfl ?_
    refine eW_icmp_le 26 rfl rfl (by unfold i32; omega) (by unfold i32; omega) (fun c2 => absurd c2 (by omega)) (fun c2 => ?_)
    refine eW_iinc 29 rfl rfl [(1, vI (1 + 16)), (0, vI 268435455)] rfl rfl rfl ?_
    refine eW_iload_n 30 rfl rfl rfl ?_
    refine eW_bipush 32 rfl rfl 16 rfl ?_
    refine eW_iushr 33 rfl rfl 4095 (by decide +kernel) ?_
    refine eW_istore_n 34 rfl rfl [(0, vI 4095), (1, vI (1 + 16))] rfl rfl ?_
    refine eW_iload_n 35 rfl rfl rfl ?_
    refine eW_sipush 38 rfl rfl 256 rfl ?_
    refine eW_icmp_le 41 rfl rfl (by unfold i32; omega) (by unfold i32; omega) (fun c3 => absurd c3 (by omega)) (fun c3 => ?_)
    refine eW_iinc 44 rfl rfl [(1, vI ((1 + 16) + 8)), (0, vI 4095)] rfl rfl rfl ?_
    refine eW_iload_n 45 rfl rfl rfl ?_
    refine eW_bipush 47 rfl rfl 8 rfl ?_
    refine eW_iushr 48 rfl rfl 15 (by decide +kernel) ?_
    refine eW_istore_n 49 rfl rfl [(0, vI 15), (1, vI ((1 + 16) + 8))] rfl rfl ?_
    refine eW_iload_n 50 rfl rfl rfl ?_
    refine eW_bipush 52 rfl rfl 16 rfl ?_
    refine eW_icmp_le 55 rfl rfl (by unfold i32; omega) (by unfold i32; omega) (fun c4 => ?_) (fun c4 => absurd c4 (by omega))
    refine eW_iload_n 63 rfl rfl rfl ?_
    refine eW_iconst 64 rfl rfl ?_
    refine eW_icmp_le 67 rfl rfl (by unfold i32; omega) (by unfold i32; omega) (fun c5 => absurd c5 (by omega)) (fun c5 => ?_)
    refine eW_iinc 70 rfl rfl [(1, vI (((1 + 16) + 8) + 2)), (0, vI 15)] rfl rfl rfl ?_
    refine eW_iload_n 71 rfl rfl rfl ?_
    refine eW_iconst 72 rfl rfl ?_
    refine eW_iushr 73 rfl rfl 3 (by decide +kernel) ?_
    refine eW_istore_n 74 rfl rfl [(0, vI 3), (1, vI (((1 + 16) + 8) + 2))] rfl rfl ?_
    refine eW_iload_n 75 rfl rfl rfl ?_
    refine eW_iload_n 76 rfl rfl rfl ?_
    refine eW_iconst 77 rfl rfl ?_
    refine eW_iushr 78 rfl rfl 1 (by decide +kernel) ?_
    refine eW_iadd 79 rfl rfl ?_
    refine eW_ret_i rfl rfl (Or.inl rfl) ?_
    exact eRet_i (by omega)
  · show eWp _ _ _ (8, [(0, vI 536870911)], [], N, h, 0, 0) _
    refine eW_iload_n 9 rfl rfl rfl ?_
    refine eW_if_gt 12 rfl rfl (by unfold i32; omega) (fun c1 => ?_) (fun c1 => absurd c1 (by omega))
    refine eW_iconst 18 rfl rfl ?_
    refine eW_istore_n 19 rfl rfl [(1, vI 1), (0, vI 536870911)] rfl rfl ?_
    refine eW_iload_n 20 rfl rfl rfl ?_
    refine eW_ldc_w 23 rfl rfl 65536 rfl ?_
    refine eW_icmp_le 26 rfl rfl (by unfold i32; omega) (by unfold i32; omega) (fun c2 => absurd c2 (by omega)) (fun c2 => ?_)
    refine eW_iinc 29 rfl rfl [(1, vI (1 + 16)), (0, vI 536870911)] rfl rfl rfl ?_
    refine eW_iload_n 30 rfl rfl rfl ?_
    refine eW_bipush 32 rfl rfl 16 rfl ?_
    refine eW_iushr 33 rfl rfl 8191 (by decide +kernel) ?_
    refine eW_istore_n 34 rfl rfl [(0, vI 8191), (1, vI (1 + 16))] rfl rfl ?_
    refine eW_iload_n 35 rfl rfl rfl ?_
    refine eW_sipush 38 rfl rfl 256 rfl ?_
    refine eW_icmp_le 41 rfl rfl (by unfold i32; omega) (by unfold i32; omega) (fun c3 => absurd c3 (by omega)) (fun c3 => ?_)
    refine eW_iinc 44 rfl rfl [(1, vI ((1 + 16) + 8)), (0, vI 8191)] rfl rfl rfl ?_
    refine eW_iload_n 45 rfl rfl rfl ?_
    refine eW_bipush 47 rfl rfl 8 rfl ?_
    refine eW_iushr 48 rfl rfl 31 (by decide +kernel) ?_
    refine eW_istore_n 49 rfl rfl [(0, vI 31), (1, vI ((1 + 16) + 8))] rfl rfl ?_
    refine eW_iload_n 50 rfl rfl rfl ?_
    refine eW_bipush 52 rfl rfl 16 rfl ?_
    refine eW_icmp_le 55 rfl rfl (by unfold i32; omega) (by unfold i32; omega) (fun c4 => absurd c4 (by omega)) (fun c4 => ?_)
    refine eW_iinc 58 rfl rfl [(1, vI (((1 + 16) + 8) + 4)), (0, vI 31)] rfl rfl rfl ?_
    refine eW_iload_n 59 rfl rfl rfl ?_
    refine eW_iconst 60 rfl rfl ?_
    refine eW_iushr 61 rfl rfl 1 (by decide +kernel) ?_
    refine eW_istore_n 62 rfl rfl [(0, vI 1), (1, vI (((1 + 16) + 8) + 4))] rfl rfl ?_
    refine eW_iload_n 63 rfl rfl rfl ?_
    refine eW_iconst 64 rfl rfl ?_
    refine eW_icmp_le 67 rfl rfl (by unfold i32; omega) (by unfold i32; omega) (fun c5 => ?_) (fun c5 => absurd c5 (by omega))
    refine eW_iload_n 75 rfl rfl rfl ?_
    refine eW_iload_n 76 rfl rfl rfl ?_
    refine eW_iconst 77 rfl rfl ?_
    refine eW_iushr 78 rfl rfl 0 (by decide +kernel) ?_
    refine eW_iadd 79 rfl rfl ?_
    refine eW_ret_i rfl rfl (Or.inl rfl) ?_
    exact eRet_i (by omega)
  · show eWp _ _ _ (8, [(0, vI 1073741823)], [], N, h, 0, 0) _
    refine eW_iload_n 9 rfl rfl rfl ?_
    refine eW_if_gt 12 rfl rfl (by unfold i32; omega) (fun c1 => ?_) (fun c1 => absurd c1 (by omega))
    refine eW_iconst 18 rfl rfl ?_
    refine eW_istore_n 19 rfl rfl [(1, vI 1), (0, vI 1073741823)] rfl rfl ?_
    refine eW_iload_n 20 rfl rfl rfl ?_
    refine eW_ldc_w 23 rfl rfl 65536 rfl ?_
    refine eW_icmp_le 26 rfl rfl (by unfold i32; omega) (by unfold i32; omega) (fun c2 => absurd c2 (by omega)) (fun c2 => ?_)
    refine eW_iinc 29 rfl rfl [(1, vI (1 + 16)), (0, vI 1073741823)] rfl rfl rfl ?_
    refine eW_iload_n 30 rfl rfl rfl ?_
    refine eW_bipush 32 rfl rfl 16 rfl ?_
    refine eW_iushr 33 rfl rfl 16383 (by decide +kernel) ?_
    refine eW_istore_n 34 rfl rfl [(0, vI 16383), (1, vI (1 + 16))] rfl rfl ?_
    refine eW_iload_n 35 rfl rfl rfl ?_
    refine eW_sipush 38 rfl rfl 256 rfl ?_
    refine eW_icmp_le 41 rfl rfl (by unfold i32; omega) (by unfold i32; omega) (fun c3 => absurd c3 (by omega)) (fun c3 => ?_)
    refine eW_iinc 44 rfl rfl [(1, vI ((1 + 16) + 8)), (0, vI 16383)] rfl rfl rfl ?_
    refine eW_iload_n 45 rfl rfl rfl ?_
    refine eW_bipush 47 rfl rfl 8 rfl ?_
    refine eW_iushr 48 rfl rfl 63 (by decide +kernel) ?_
    refine eW_istore_n 49 rfl rfl [(0, vI 63), (1, vI ((1 + 16) + 8))] rfl rfl ?_
    refine eW_iload_n 50 rfl rfl rfl ?_
    refine eW_bipush 52 rfl rfl 16 rfl ?_
    refine eW_icmp_le 55 rfl rfl (by unfold i32; omega) (by unfold i32; omega) (fun c4 => absurd c4 (by omega)) (fun c4 => ?_)
    refine eW_iinc 58 rfl rfl [(1, vI (((1 + 16) + 8) + 4)), (0, vI 63)] rfl rfl rfl ?_
    refine eW_iload_n 59 rfl rfl rfl ?_
    refine eW_iconst 60 rfl rfl ?_
    refine eW_iushr 61 rfl rfl 3 (by decide +kernel) ?_
    refine eW_istore_n 62 rfl rfl [(0, vI 3), (1, vI (((1 + 16) + 8) + 4))] rfl rfl ?_
    refine eW_iload_n 63 rfl rfl rfl ?_
    refine eW_iconst 64 rfl rfl ?_
    refine eW_icmp_le 67 rfl rfl (by unfold i32; omega) (by unfold i32; omega) (fun c5 => ?_) (fun c5 => absurd c5 (by omega))
    refine eW_iload_n 75 rfl rfl rfl ?_
    refine eW_iload_n 76 rfl rfl rfl ?_
    refine eW_iconst 77 rfl rfl ?_
    refine eW_iushr 78 rfl rfl 1 (by decide +kernel) ?_
    refine eW_iadd 79 rfl rfl ?_
    refine eW_ret_i rfl rfl (Or.inl rfl) ?_
    exact eRet_i (by omega)
theorem j_ntz {d N : Nat} {h : eHp} {b k : Nat} (hk : k ≤ 30) (hb : b < 2 ^ 31) (h1 : ∀ j, j < k → b.testBit j = true) (h2 : b.testBit k = false) : eSp (d + 1) eM_J6_numberOfTrailingZeros_0f7a4 [vI (-1 - (b : Int))] N h (eRet (some (vI (k : Int))) N h) := by
  refine eSp_of [(0, vI (-1 - (b : Int)))] rfl rfl ?_
  have hA := eNtzA hb h1 h2
  have hb' : b < 2147483648 := hb
  refine eW_iload_n 1 rfl rfl rfl ?_
  refine eW_iconst 2 rfl rfl ?_
  refine eW_ixor 3 rfl rfl ((b : Int)) eXorM ?_
  refine eW_iload_n 4 rfl rfl rfl ?_
  refine eW_iconst 5 rfl rfl ?_
  refine eW_isub 6 rfl rfl ?_
  refine eW_iand 7 rfl rfl (((2 ^ k - 1 : Nat) : Int)) hA ?_
  refine eW_istore_n 8 rfl rfl [(0, vI (((2 ^ k - 1 : Nat) : Int)))] rfl rfl ?_
  exact j_ntz2 hk
