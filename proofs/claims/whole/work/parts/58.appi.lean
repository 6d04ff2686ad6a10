/-! numbers are appended -/
theorem b_appc {d : Nat} {h : eHp} {g : Nat} {L : List Int} (hb : bW h g L) (hcl : eClH (75 + g) h = true) {c : Int} (hc : 0 ≤ c ∧ c ≤ 127) (hl : L.length ≤ 390) : eSp (d + 5) eM_J4_append_cf468 [.ref 61, vI c] (75 + g) h (bP g h (some (.ref 61)) (fun g' h' => bW h' g' (L ++ [c]))) := by
  have hb9 := hb
  obtain ⟨b, B, ml, h61, hbb, hbd, hml, hfit, hL, hlen, hg5, harr⟩ := hb9
  have hcp := bCap_le hg5
  refine eSp_of [(0, .ref 61), (1, vI c)] rfl rfl ?_
  refine eW_aload_n 1 rfl rfl rfl ?_
  refine eW_iload_n 2 rfl rfl rfl ?_
  refine eW_callM 5 [.ref 61, vI c] [] (eS_call6 rfl rfl rfl (Nat.ble_eq_true_of_le (by omega)) h61 rfl) rfl rfl rfl (by first | rfl | (simp only [eClL, eClV, List.all_cons, List.all_nil, Bool.and_true, Bool.and_eq_true, Bool.true_and, Nat.ble_eq]; first | done | omega)) (bP_M rfl (b_appc5 (d := d + 0) hb hcl hc hl)) ?_
  intro vh1 nh1 h1 ah1 bh1 fh1
  obtain ⟨rfl, g2, rfl, rfl, rfl, hgg, hfr, hcl2, hb2⟩ := fh1
  show eWp _ _ _ (5, [(0, .ref 61), (1, vI c)], [.ref 61], _, h1, _, _) _
  refine eW_pop 6 rfl rfl rfl ?_
  refine eW_aload_n 7 rfl rfl rfl ?_
  refine eW_ret_a rfl rfl ?_
  refine ⟨g2, h1, ?_, hgg, hfr, hcl2, hb2⟩
  show (_, _, _, 0 + (g2 - g), 0 + (bSum g2 - bSum g)) = _; rw [Nat.zero_add, Nat.zero_add]
theorem b_size {d : Nat} {h : eHp} {N : Nat} {n : Int} (hn : 0 ≤ n ∧ n ≤ 99) : eSp (d + 1) eM_J6_stringSize_0f7a4 [vI n] N h (eRet (some (vI ((dg n).length : Int))) N h) := by
  refine eSp_of [(0, vI n)] rfl rfl ?_
  refine eW_iconst 1 rfl rfl ?_
  refine eW_istore_n 2 rfl rfl [(1, vI 1), (0, vI n)] rfl rfl ?_
  refine eW_iload_n 3 rfl rfl rfl ?_
  refine eW_if_lt 6 rfl rfl (by unfold i32; omega) (fun c1 => absurd c1 (by omega)) (fun c1 => ?_)
  refine eW_iconst 7 rfl rfl ?_
  refine eW_istore_n 8 rfl rfl [(1, vI 0), (0, vI n)] rfl rfl ?_
  refine eW_iload_n 9 rfl rfl rfl ?_
  refine eW_ineg 10 rfl rfl ?_
  refine eW_istore_n 11 rfl rfl [(0, vI (-n)), (1, vI 0)] rfl rfl ?_
  refine eW_bipush 13 rfl rfl (-10) rfl ?_
  refine eW_istore_n 14 rfl rfl [(2, vI (-10)), (0, vI (-n)), (1, vI 0)] rfl rfl ?_
  refine eW_iconst 15 rfl rfl ?_
  refine eW_istore_n 16 rfl rfl [(3, vI 1), (2, vI (-10)), (0, vI (-n)), (1, vI 0)] rfl rfl ?_
  refine eW_iload_n 17 rfl rfl rfl ?_
  refine eW_bipush 19 rfl rfl 10 rfl ?_
  refine eW_icmp_ge 22 rfl rfl (by unfold i32; omega) (by unfold i32; omega) (fun c2 => absurd c2 (by omega)) (fun c2 => ?_)
  refine eW_iload_n 23 rfl rfl rfl ?_
  refine eW_iload_n 24 rfl rfl rfl ?_
  refine eW_icmp_le 27 rfl rfl (by unfold i32; omega) (by unfold i32; omega) (fun c3 => ?_) (fun c3 => ?_)
  · refine eW_bipush 33 rfl rfl 10 rfl ?_
    refine eW_iload_n 34 rfl rfl rfl ?_
    refine eW_imul 35 rfl rfl ?_
    refine eW_istore_n 36 rfl rfl [(2, vI (10 * (-10))), (3, vI 1), (0, vI (-n)), (1, vI 0)] rfl rfl ?_
    refine eW_iinc 39 rfl rfl [(3, vI (1 + 1)), (2, vI (10 * (-10))), (0, vI (-n)), (1, vI 0)] rfl rfl rfl ?_
    refine eW_goto rfl ?_
    refine eW_iload_n 17 rfl rfl rfl ?_
    refine eW_bipush 19 rfl rfl 10 rfl ?_
    refine eW_icmp_ge 22 rfl rfl (by unfold i32; omega) (by unfold i32; omega) (fun c4 => absurd c4 (by omega)) (fun c4 => ?_)
    refine eW_iload_n 23 rfl rfl rfl ?_
    refine eW_iload_n 24 rfl rfl rfl ?_
    refine eW_icmp_le 27 rfl rfl (by unfold i32; omega) (by unfold i32; omega) (fun c5 => absurd c5 (by omega)) (fun c5 => ?_)
    refine eW_iload_n 28 rfl rfl rfl ?_
    refine eW_iload_n 29 rfl rfl rfl ?_
    refine eW_iadd 30 rfl rfl ?_
    refine eW_ret_i rfl rfl (Or.inl rfl) ?_
    refine eRet_i ?_
    first | (rw [dg_one (by omega)]; rfl) | (rw [dg_two (by omega)]; rfl)
  · refine eW_iload_n 28 rfl rfl rfl ?_
    refine eW_iload_n 29 rfl rfl rfl ?_
    refine eW_iadd 30 rfl rfl ?_
    refine eW_ret_i rfl rfl (Or.inl rfl) ?_
    refine eRet_i ?_
    first | (rw [dg_one (by omega)]; rfl) | (rw [dg_two (by omega)]; rfl)
theorem b_chars {d : Nat} {h : eHp} {N : Nat} {n x : Int} {b m9 : Nat} {B : Nat → Int} (hn : 0 ≤ n ∧ n ≤ 99) (hx : ((dg n).length : Int) ≤ x ∧ x ≤ m9) (hm9 : m9 ≤ 600) (hbb : h b = .inl (3, m9, .inl (eIA B))) (hbN : b < N ∧ b ≠ 61) : eSp (d + 1) eM_J6_getChars_ba4f3 [vI n, vI x, .ref b] N h (fun q => ∃ v9 N9 h9 a9 b9, q = (.inl v9, N9, h9, a9, b9) ∧ v9.toList.all eN9 = true ∧ (fun (v9 : Option Value) (N9 : Nat) (h9 : eHp) (a9 b9 : Nat) => (∃ r : Int, some (vI r) = v9) ∧ N = N9 ∧ 0 = a9 ∧ 0 = b9 ∧ ((n ≤ 9 ∧ h9 b = .inl (3, m9, .inl (eIA (eUp B (x - 1).toNat (48 + n % 10))))) ∨ (9 < n ∧ h9 b = .inl (3, m9, .inl (eIA (eUp (eUp B (x - 1).toNat (48 + n % 10)) (x - 1 - 1).toNat (48 + n / 10)))))) ∧ ∀ i, i ≠ b → h9 i = h i) v9 N9 h9 a9 b9) := by
  have hl2 : (n ≤ 9 ∧ (dg n).length = 1) ∨ (9 < n ∧ (dg n).length = 2) := by by_cases e : 9 < n; exact Or.inr ⟨e, by rw [dg_two e]; rfl⟩; exact Or.inl ⟨by omega, by rw [dg_one e]; rfl⟩
  refine eSp_of [(0, vI n), (1, vI x), (2, .ref b)] rfl rfl ?_
  refine eW_iload_n 1 rfl rfl rfl ?_
  refine eW_istore 3 rfl rfl [(5, vI x), (0, vI n), (1, vI x), (2, .ref b)] rfl rfl ?_
  refine eW_iload_n 4 rfl rfl rfl ?_
  refine eW_if_ge 7 rfl rfl (by unfold i32; omega) (fun c1 => ?_) (fun c1 => absurd c1 (by omega))
  refine eW_iconst 12 rfl rfl ?_
  refine eW_istore 14 rfl rfl [(6, vI 0), (5, vI x), (0, vI n), (1, vI x), (2, .ref b)] rfl rfl ?_
  refine eW_iload 16 rfl rfl rfl ?_
  refine eW_if_ne 19 rfl rfl (by unfold i32; omega) (fun c2 => absurd c2 (by omega)) (fun c2 => ?_)
  refine eW_iload_n 20 rfl rfl rfl ?_
  refine eW_ineg 21 rfl rfl ?_
  refine eW_istore_n 22 rfl rfl [(0, vI (-n)), (6, vI 0), (5, vI x), (1, vI x), (2, .ref b)] rfl rfl ?_
  refine eW_iload_n 23 rfl rfl rfl ?_
  refine eW_bipush 25 rfl rfl (-100) rfl ?_
  refine eW_icmp_gt 28 rfl rfl (by unfold i32; omega) (by unfold i32; omega) (fun c3 => ?_) (fun c3 => absurd c3 (by omega))
  refine eW_aload_n 73 rfl rfl rfl ?_
  refine eW_iinc 76 rfl rfl [(5, vI (x + (-1))), (0, vI (-n)), (6, vI 0), (1, vI x), (2, .ref b)] rfl rfl rfl ?_
  refine eW_iload 78 rfl rfl rfl ?_
  refine eW_getstatic 81 (v := .retAddr 1) rfl rfl rfl ?_
  refine eW_iload_n 82 rfl rfl rfl ?_
  refine eW_ineg 83 rfl rfl ?_
  refine eW_baload_o 84 rfl rfl (48 + n % 10) rfl rfl (by omega) (by omega) (by unfold i32; omega) ((eNatI _).trans (congrArg Int32.ofInt (by omega))) ?_
  refine eW_bastoreB 85 rfl rfl (Nat.ble_eq_true_of_le (by omega)) hbb (by omega) (by omega) (by unfold i32; omega) (b_i2b (by omega)).2 ?_
  intro h4 eh4 oh4
  refine eW_iload_n 86 rfl rfl rfl ?_
  refine eW_bipush 88 rfl rfl (-9) rfl ?_
  refine eW_icmp_ge 91 rfl rfl (by unfold i32; omega) (by unfold i32; omega) (fun c5 => ?_) (fun c5 => ?_)
  · refine eW_iload 106 rfl rfl rfl ?_
    refine eW_if_eq 109 rfl rfl (by unfold i32; omega) (fun c6 => ?_) (fun c6 => absurd c6 (by omega))
    refine eW_iload 120 rfl rfl rfl ?_
    refine eW_ret_i rfl rfl (Or.inl rfl) ?_
    refine ⟨_, _, h4, _, _, rfl, rfl, ⟨_, rfl⟩, rfl, rfl, rfl, Or.inl ⟨by omega, eh4⟩, oh4⟩
  · refine eW_aload_n 92 rfl rfl rfl ?_
    refine eW_iinc 95 rfl rfl [(5, vI ((x + (-1)) + (-1))), (0, vI (-n)), (6, vI 0), (1, vI x), (2, .ref b)] rfl rfl rfl ?_
    refine eW_iload 97 rfl rfl rfl ?_
    refine eW_getstatic 100 (v := .retAddr 2) rfl rfl rfl ?_
    refine eW_iload_n 101 rfl rfl rfl ?_
    refine eW_ineg 102 rfl rfl ?_
    refine eW_baload_o 103 rfl rfl (48 + n / 10) rfl rfl (by omega) (by omega) (by unfold i32; omega) ((eNatI _).trans (congrArg Int32.ofInt (by omega))) ?_
    refine eW_bastoreB 104 rfl rfl (Nat.ble_eq_true_of_le (by omega)) eh4 (by omega) (by omega) (by unfold i32; omega) (b_i2b (by omega)).2 ?_
    intro h7 eh7 oh7
    refine eW_iload 106 rfl rfl rfl ?_
    refine eW_if_eq 109 rfl rfl (by unfold i32; omega) (fun c8 => ?_) (fun c8 => absurd c8 (by omega))
    refine eW_iload 120 rfl rfl rfl ?_
    refine eW_ret_i rfl rfl (Or.inl rfl) ?_
    refine ⟨_, _, h7, _, _, rfl, rfl, ⟨_, rfl⟩, rfl, rfl, rfl, Or.inr ⟨by omega, eh7⟩, fun i hi => (oh7 i hi).trans (oh4 i hi)⟩
