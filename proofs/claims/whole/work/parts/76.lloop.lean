/-! the law's loop -/
theorem and63 (a : Int) : ∃ m : Int, (0 ≤ m ∧ m ≤ 63) ∧ Int32.ofInt a &&& Int32.ofInt 63 = Int32.ofInt m := by
  have h : ((Int32.ofInt a).toBitVec &&& 63#32).toNat ≤ 63 := by
    rw [BitVec.toNat_and]
    exact Nat.and_le_right
  refine ⟨(((Int32.ofInt a).toBitVec &&& 63#32).toNat : Int), by omega, ?_⟩
  rw [← Int32.toBitVec_inj, Int32.toBitVec_and]
  simp only [Int32.toBitVec_ofInt, BitVec.ofInt_natCast, BitVec.ofNat_toNat, BitVec.setWidth_eq]
  rfl
set_option maxRecDepth 20000 in
theorem lloop {ox : Nat → Option (Nat × Nat × (Nat → Int32))} {d n : Nat} {xs : Nat → Int} (hox : ox 0 = some (0, n, eIA xs)) (hxs : ∀ j, i32 (xs j)) (hn : n ≤ 2048) : ∀ (m9 : Nat) (i c : Int) (g k z : Nat) (h : eHp), (n : Int) - i ≤ m9 → 0 ≤ i ∧ i ≤ (n : Int) → lI c g h → 0 ≤ c ∧ 2 * c ≤ 15 * i → (k : Int) ≤ 75 + 10 * i → (z : Int) ≤ 2841 + 2000 * i → eWp ox (eEv (d + 50)) eM_L_law (28, [(0, .retAddr 0), (1, .ref 0), (2, .ref 63), (3, .ref 73), (4, .ref 74), (5, vI i)], [], 75 + g, h, k, z) (fun q => ∃ N h k z, q = (.inl (some (vI 1)), N, h, k, z) ∧ k ≤ 603072 ∧ z ≤ 7211114) := by
  intro m9
  induction m9 with
  | zero =>
    intro i c g k z h hm9 hi hI hc hk hz
    refine eW_iload 30 rfl rfl rfl ?_
    refine eW_aload_n_out 31 rfl rfl rfl ?_
    refine eW_arraylength_o 32 rfl rfl hox ?_
    refine eW_iconst 33 rfl rfl ?_
    refine eW_isub 34 rfl rfl ?_
    refine eW_icmp_gt 37 rfl rfl (by unfold i32; omega) (by unfold i32; omega) (fun c1 => ?_) (fun c1 => ?_)
    · refine eW_iconst 1937 rfl rfl ?_
      refine eW_ret_i rfl rfl (Or.inr (Or.inl ⟨rfl, rfl⟩)) ?_
      exact ⟨_, _, _, _, rfl, by omega, by omega⟩
    · exact absurd hm9 (by omega)
  | succ m9 ih =>
    intro i c g k z h hm9 hi hI hc hk hz
    refine eW_iload 30 rfl rfl rfl ?_
    refine eW_aload_n_out 31 rfl rfl rfl ?_
    refine eW_arraylength_o 32 rfl rfl hox ?_
    refine eW_iconst 33 rfl rfl ?_
    refine eW_isub 34 rfl rfl ?_
    refine eW_icmp_gt 37 rfl rfl (by unfold i32; omega) (by unfold i32; omega) (fun c1 => ?_) (fun c1 => ?_)
    · refine eW_iconst 1937 rfl rfl ?_
      refine eW_ret_i rfl rfl (Or.inr (Or.inl ⟨rfl, rfl⟩)) ?_
      exact ⟨_, _, _, _, rfl, by omega, by omega⟩
    · obtain ⟨X9, G9, O9, Q9, ya9, yz9, Ks9, V9, S9, T9, L9, s9, A9, J⟩ := hI
      have back : ∀ g' k1 z1 h1, lI (c + 30) g' h1 → k1 ≤ 10 → z1 ≤ 2000 → eWp ox (eEv (d + 50)) eM_L_law (1930, [(0, .retAddr 0), (1, .ref 0), (2, .ref 63), (3, .ref 73), (4, .ref 74), (5, vI i)], [], 75 + g', h1, k + k1, z + z1) (fun q => ∃ N h k z, q = (.inl (some (vI 1)), N, h, k, z) ∧ k ≤ 603072 ∧ z ≤ 7211114) := by
        intro g' k1 z1 h1 hI1 hk1 hz1
        refine eW_iinc 1933 rfl rfl [(5, vI (i + 4)), (0, .retAddr 0), (1, .ref 0), (2, .ref 63), (3, .ref 73), (4, .ref 74)] rfl rfl rfl ?_
        refine eW_goto rfl ?_
        refine eW_reU [(0, .retAddr 0), (1, .ref 0), (2, .ref 63), (3, .ref 73), (4, .ref 74), (5, vI (i + 4))] rfl rfl (List.forall_mem_cons.mpr ⟨rfl, List.forall_mem_cons.mpr ⟨rfl, List.forall_mem_cons.mpr ⟨rfl, List.forall_mem_cons.mpr ⟨rfl, List.forall_mem_cons.mpr ⟨rfl, List.forall_mem_cons.mpr ⟨rfl, fun _ h => absurd h List.not_mem_nil⟩⟩⟩⟩⟩⟩) (List.forall_mem_cons.mpr ⟨Or.inl rfl, List.forall_mem_cons.mpr ⟨Or.inl rfl, List.forall_mem_cons.mpr ⟨Or.inl rfl, List.forall_mem_cons.mpr ⟨Or.inl rfl, List.forall_mem_cons.mpr ⟨Or.inl rfl, List.forall_mem_cons.mpr ⟨Or.inl rfl, fun _ h => absurd h List.not_mem_nil⟩⟩⟩⟩⟩⟩) ?_
        exact ih (i + 4) (c + 30) g' (k + k1) (z + z1) h1 (by omega) (by omega) hI1 (by omega) (by omega) (by omega)
      have hi4 : 0 ≤ i ∧ i + 4 ≤ (n : Int) := by omega
      have hc9 : 0 ≤ c ∧ c ≤ 15900 := by omega
      refine eW_aload_n_out 38 rfl rfl rfl ?_
      refine eW_iload 40 rfl rfl rfl ?_
      refine eW_iaload_o 41 rfl rfl (xs i.toNat) hox (by omega) (by omega) (by unfold i32; omega) rfl ?_
      refine eW_bipush 43 rfl rfl 63 rfl ?_
      obtain ⟨m, hm, em⟩ := and63 (xs i.toNat)
      refine eW_iand 44 rfl rfl m em ?_
      by_cases hm33 : m ≤ 33
      · rcases (show m = 0 ∨ m = 1 ∨ m = 2 ∨ m = 3 ∨ m = 4 ∨ m = 5 ∨ m = 6 ∨ m = 7 ∨ m = 8 ∨ m = 9 ∨ m = 10 ∨ m = 11 ∨ m = 12 ∨ m = 13 ∨ m = 14 ∨ m = 15 ∨ m = 16 ∨ m = 17 ∨ m = 18 ∨ m = 19 ∨ m = 20 ∨ m = 21 ∨ m = 22 ∨ m = 23 ∨ m = 24 ∨ m = 25 ∨ m = 26 ∨ m = 27 ∨ m = 28 ∨ m = 29 ∨ m = 30 ∨ m = 31 ∨ m = 32 ∨ m = 33 from by omega) with e9 | e9 | e9 | e9 | e9 | e9 | e9 | e9 | e9 | e9 | e9 | e9 | e9 | e9 | e9 | e9 | e9 | e9 | e9 | e9 | e9 | e9 | e9 | e9 | e9 | e9 | e9 | e9 | e9 | e9 | e9 | e9 | e9 | e9
        · subst e9
          refine eW_table 196 rfl (by unfold eSwT; rw [ofInt_toInt32 (by unfold i32; omega)]; rfl) ?_
          exact ls_0 hox hxs hi4 hn J hc9 back
        · subst e9
          refine eW_table 252 rfl (by unfold eSwT; rw [ofInt_toInt32 (by unfold i32; omega)]; rfl) ?_
          exact ls_1 hox hxs hi4 hn J hc9 back
        · subst e9
          refine eW_table 320 rfl (by unfold eSwT; rw [ofInt_toInt32 (by unfold i32; omega)]; rfl) ?_
          exact ls_2 hox hxs hi4 hn J hc9 back
        · subst e9
          refine eW_table 376 rfl (by unfold eSwT; rw [ofInt_toInt32 (by unfold i32; omega)]; rfl) ?_
          exact ls_3 hox hxs hi4 hn J hc9 back
        · subst e9
          refine eW_table 444 rfl (by unfold eSwT; rw [ofInt_toInt32 (by unfold i32; omega)]; rfl) ?_
          exact ls_4 hox hxs hi4 hn J hc9 back
        · subst e9
          refine eW_table 500 rfl (by unfold eSwT; rw [ofInt_toInt32 (by unfold i32; omega)]; rfl) ?_
          exact ls_5 hox hxs hi4 hn J hc9 back
        · subst e9
          refine eW_table 580 rfl (by unfold eSwT; rw [ofInt_toInt32 (by unfold i32; omega)]; rfl) ?_
          exact ls_6 hox hxs hi4 hn J hc9 back
        · subst e9
          refine eW_table 624 rfl (by unfold eSwT; rw [ofInt_toInt32 (by unfold i32; omega)]; rfl) ?_
          exact ls_7 hox hxs hi4 hn J hc9 back
        · subst e9
          refine eW_table 637 rfl (by unfold eSwT; rw [ofInt_toInt32 (by unfold i32; omega)]; rfl) ?_
          exact ls_8 hox hxs hi4 hn J hc9 back
        · subst e9
          refine eW_table 705 rfl (by unfold eSwT; rw [ofInt_toInt32 (by unfold i32; omega)]; rfl) ?_
          exact ls_9 hox hxs hi4 hn J hc9 back
        · subst e9
          refine eW_table 761 rfl (by unfold eSwT; rw [ofInt_toInt32 (by unfold i32; omega)]; rfl) ?_
          by_cases hz9 : xs (i + 1).toNat = 0
          · exact ls_10_0 hox hxs hi4 hn J hz9 hc9 back
          · exact ls_10_1 hox hxs hi4 hn J hz9 hc9 back
        · subst e9
          refine eW_table 840 rfl (by unfold eSwT; rw [ofInt_toInt32 (by unfold i32; omega)]; rfl) ?_
          exact ls_11 hox hxs hi4 hn J hc9 back
        · subst e9
          refine eW_table 884 rfl (by unfold eSwT; rw [ofInt_toInt32 (by unfold i32; omega)]; rfl) ?_
          exact ls_12 hox hxs hi4 hn J hc9 back
        · subst e9
          refine eW_table 897 rfl (by unfold eSwT; rw [ofInt_toInt32 (by unfold i32; omega)]; rfl) ?_
          exact ls_13 hox hxs hi4 hn J hc9 back
        · subst e9
          refine eW_table 965 rfl (by unfold eSwT; rw [ofInt_toInt32 (by unfold i32; omega)]; rfl) ?_
          by_cases hz9 : xs (i + 2).toNat = 0
          · exact ls_14_0 hox hxs hi4 hn J hz9 hc9 back
          · exact ls_14_1 hox hxs hi4 hn J hz9 hc9 back
        · subst e9
          refine eW_table 1049 rfl (by unfold eSwT; rw [ofInt_toInt32 (by unfold i32; omega)]; rfl) ?_
          exact ls_15 hox hxs hi4 hn J hc9 back
        · subst e9
          refine eW_table 1124 rfl (by unfold eSwT; rw [ofInt_toInt32 (by unfold i32; omega)]; rfl) ?_
          exact ls_16 hox hxs hi4 hn J hc9 back
        · subst e9
          refine eW_table 1180 rfl (by unfold eSwT; rw [ofInt_toInt32 (by unfold i32; omega)]; rfl) ?_
          exact ls_17 hox hxs hi4 hn J hc9 back
        · subst e9
          refine eW_table 1193 rfl (by unfold eSwT; rw [ofInt_toInt32 (by unfold i32; omega)]; rfl) ?_
          exact ls_18 hox hxs hi4 hn J hc9 back
        · subst e9
          refine eW_table 1249 rfl (by unfold eSwT; rw [ofInt_toInt32 (by unfold i32; omega)]; rfl) ?_
          exact ls_19 hox hxs hi4 hn J hc9 back
        · subst e9
          refine eW_table 1305 rfl (by unfold eSwT; rw [ofInt_toInt32 (by unfold i32; omega)]; rfl) ?_
          exact ls_20 hox hxs hi4 hn J hc9 back
        · subst e9
          refine eW_table 1318 rfl (by unfold eSwT; rw [ofInt_toInt32 (by unfold i32; omega)]; rfl) ?_
          exact ls_21 hox hxs hi4 hn J hc9 back
        · subst e9
          refine eW_table 1374 rfl (by unfold eSwT; rw [ofInt_toInt32 (by unfold i32; omega)]; rfl) ?_
          exact ls_22 hox hxs hi4 hn J hc9 back
        · subst e9
          refine eW_table 1430 rfl (by unfold eSwT; rw [ofInt_toInt32 (by unfold i32; omega)]; rfl) ?_
          exact ls_23 hox hxs hi4 hn J hc9 back
        · subst e9
          refine eW_table 1488 rfl (by unfold eSwT; rw [ofInt_toInt32 (by unfold i32; omega)]; rfl) ?_
          exact ls_24 hox hxs hi4 hn J hc9 back
        · subst e9
          refine eW_table 1532 rfl (by unfold eSwT; rw [ofInt_toInt32 (by unfold i32; omega)]; rfl) ?_
          exact ls_25 hox hxs hi4 hn J hc9 back
        · subst e9
          refine eW_table 1545 rfl (by unfold eSwT; rw [ofInt_toInt32 (by unfold i32; omega)]; rfl) ?_
          by_cases hz9 : xs (i + 1).toNat = 0
          · exact ls_26_0 hox hxs hi4 hn J hz9 hc9 back
          · exact ls_26_1 hox hxs hi4 hn J hz9 hc9 back
        · subst e9
          refine eW_table 1617 rfl (by unfold eSwT; rw [ofInt_toInt32 (by unfold i32; omega)]; rfl) ?_
          exact ls_27 hox hxs hi4 hn J hc9 back
        · subst e9
          refine eW_table 1673 rfl (by unfold eSwT; rw [ofInt_toInt32 (by unfold i32; omega)]; rfl) ?_
          exact ls_28 hox hxs hi4 hn J hc9 back
        · subst e9
          refine eW_table 1686 rfl (by unfold eSwT; rw [ofInt_toInt32 (by unfold i32; omega)]; rfl) ?_
          exact ls_29 hox hxs hi4 hn J hc9 back
        · subst e9
          refine eW_table 1751 rfl (by unfold eSwT; rw [ofInt_toInt32 (by unfold i32; omega)]; rfl) ?_
          exact ls_30 hox hxs hi4 hn J hc9 back
        · subst e9
          refine eW_table 1829 rfl (by unfold eSwT; rw [ofInt_toInt32 (by unfold i32; omega)]; rfl) ?_
          exact ls_31 hox hxs hi4 hn J hc9 back
        · subst e9
          refine eW_table 1873 rfl (by unfold eSwT; rw [ofInt_toInt32 (by unfold i32; omega)]; rfl) ?_
          exact ls_32 hox hxs hi4 hn J hc9 back
        · subst e9
          refine eW_table 1886 rfl (by unfold eSwT; rw [ofInt_toInt32 (by unfold i32; omega)]; rfl) ?_
          exact ls_33 hox hxs hi4 hn J hc9 back
      · refine eW_table 1930 rfl (by unfold eSwT; rw [ofInt_toInt32 (by unfold i32; omega), if_neg (by omega), if_pos (by omega)]; rfl) ?_
        exact back g 0 0 h ⟨_, _, _, _, _, _, _, _, _, _, _, _, _, J.1, J.2.1, J.2.2.1, J.2.2.2.1, J.2.2.2.2.1, lRel_mono (by omega) J.2.2.2.2.2⟩ (by omega) (by omega)
