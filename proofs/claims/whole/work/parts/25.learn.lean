/-! the values are reckoned anew -/
theorem v_rk_1 {d N k z : Nat} {h0 : eHp} {v : Nat} {V : eVs} {g : Nat} {G : eGd} {P : eR → Prop} (hV : gVO V) (hN : v + 6 ≤ N) (hg : gG h0 g G) (hG : gOk G) (hN2 : g + 4 ≤ N) (hd : g + 3 < v ∨ v + 5 < g)  : ∀ (m9 : Nat) (c : Int) (L F : Nat → Int) (h : eHp), 31 - c ≤ m9 → 0 ≤ c ∧ c ≤ 31 → gV h v (V.1, L, V.2.2.1, V.2.2.2.1, F) → (∀ i : Nat, (i : Int) < c → L i = gv (gDig G) i) → (∀ i, i < 31 → 0 ≤ L i ∧ L i ≤ 31) → (∀ j, j < 32 → F j = 0 ∨ F j = 1) → (∀ i, (i < v ∨ v + 5 < i) → h i = h0 i) → (∀ (L F : Nat → Int) (h : eHp), gV h v (V.1, L, V.2.2.1, V.2.2.2.1, F) → (∀ i, i < 31 → L i = gv (gDig G) i) → (∀ j, j < 32 → F j = 0 ∨ F j = 1) → (∀ i, (i < v ∨ v + 5 < i) → h i = h0 i) → eWp eOx (eEv (d + 4)) eM_X5_reckon (30, [(0, .ref v), (1, .ref g)], [], N, h, k, z) P) → eWp eOx (eEv (d + 4)) eM_X5_reckon (2, [(0, .ref v), (1, .ref g), (2, vI c)], [], N, h, k, z) P := by
  intro m9
  induction m9 with
  | zero =>
    intro c L F h hm q0 q1 q2 q3 q4 q5 kk
    have hV' : gVO (V.1, L, V.2.2.1, V.2.2.2.1, F) := ⟨q3, hV.2.1, hV.2.2.1, q4, hV.2.2.2.2⟩
    refine eW_iload_n 3 rfl rfl rfl ?_
    refine eW_bipush 5 rfl rfl 30 rfl ?_
    refine eW_icmp_gt 8 rfl rfl (by unfold i32; omega) (by unfold i32; omega) (fun c1 => ?_) (fun c1 => ?_)
    · refine eW_re [(0, .ref v), (1, .ref g)] rfl rfl (List.forall_mem_cons.mpr ⟨rfl, List.forall_mem_cons.mpr ⟨rfl, fun _ h => absurd h List.not_mem_nil⟩⟩) (List.forall_mem_cons.mpr ⟨Or.inl rfl, List.forall_mem_cons.mpr ⟨Or.inl rfl, List.forall_mem_cons.mpr ⟨Or.inr ⟨_, rfl⟩, fun _ h => absurd h List.not_mem_nil⟩⟩⟩) ?_
      exact kk L F h q1 (fun i hi => q2 i (by omega)) q4 q5
    · refine eW_aload_n 9 rfl rfl rfl ?_
      refine eW_aload_n 10 rfl rfl rfl ?_
      refine eW_iload_n 11 rfl rfl rfl ?_
      refine eW_callVH 14 [.ref v, .ref g, vI c] [] [] rfl rfl rfl rfl (Nat.ble_eq_true_of_le (by omega)) q1.1 rfl rfl rfl (v_make (d := d + 1) (V := (V.1, L, V.2.2.1, V.2.2.2.1, F)) q1 hV' hN (gG_k hg (fun i _ _ => q5 i (by omega))) hG hN2 hd (by omega)) rfl rfl ?_
      intro h3 fh3
      obtain ⟨F2, k1h3, k2h3, k3h3⟩ := fh3
      have hVn : gVO (V.1, L, V.2.2.1, V.2.2.2.1, F2) := ⟨hV'.1, hV'.2.1, hV'.2.2.1, (fun j hj => by show F2 j = 0 ∨ F2 j = 1; rw [k2h3 j hj]; exact (eB01_c _).elim (fun a => Or.inr a.2) (fun a => Or.inl a.2)), hV'.2.2.2.2⟩
      have hlk := gMex_gv (D := gDig G) (L := L) (F := F2) (c := c) (by omega) q2 k2h3
      have hle := gv_le (D := gDig G) (c.toNat + 1) c.toNat (by omega) (by omega)
      have hvh3 : gV h3 v (V.1, L, V.2.2.1, V.2.2.2.1, F2) := k1h3
      have uh3 : ∀ i, (i < v ∨ v + 5 < i) → h3 i = h0 i := fun i hi => (k3h3 i hi).trans (q5 i hi)
      refine eW_aload_n 15 rfl rfl rfl ?_
      refine eW_getfield 18 rfl rfl (Nat.ble_eq_true_of_le (by omega)) rfl hvh3.1 rfl ⟨rfl, fun _ h9 => nomatch h9⟩ ?_
      refine eW_iload_n 19 rfl rfl rfl ?_
      refine eW_aload_n 20 rfl rfl rfl ?_
      refine eW_callV 23 [.ref v] [vI c, .ref (v + 2)] [vI (gLook F2 32 0), vI c, .ref (v + 2)] rfl rfl rfl rfl (Nat.ble_eq_true_of_le (by omega)) hvh3.1 rfl rfl rfl (v_look (d := d + 3) (V := (V.1, L, V.2.2.1, V.2.2.2.1, F2)) hvh3 hVn hN) rfl rfl ?_
      refine eW_iastore 24 rfl rfl (Nat.ble_eq_true_of_le (by omega)) (show h3 (v + 2) = .inl (0, 31, .inl (eIA L)) from hvh3.2.2.1) (by omega) (by omega) (by unfold i32; omega) rfl ?_
      intro h4 eh4 oh4
      have hvh4 : gV h4 v (V.1, eUp L c.toNat (gLook F2 32 0), V.2.2.1, V.2.2.2.1, F2) := gV_1 (V := (V.1, L, V.2.2.1, V.2.2.2.1, F2)) hvh3 eh4 oh4
      have uh4 : ∀ i, (i < v ∨ v + 5 < i) → h4 i = h0 i := fun i hi => (oh4 i (by omega)).trans (uh3 i hi)
      refine eW_iinc 27 rfl rfl [(2, vI (c + 1)), (0, .ref v), (1, .ref g)] rfl rfl rfl ?_
      refine eW_goto rfl ?_
      refine eW_re [(0, .ref v), (1, .ref g), (2, vI (c + 1))] rfl rfl (List.forall_mem_cons.mpr ⟨rfl, List.forall_mem_cons.mpr ⟨rfl, List.forall_mem_cons.mpr ⟨rfl, fun _ h => absurd h List.not_mem_nil⟩⟩⟩) (List.forall_mem_cons.mpr ⟨Or.inl rfl, List.forall_mem_cons.mpr ⟨Or.inl rfl, List.forall_mem_cons.mpr ⟨Or.inl rfl, fun _ h => absurd h List.not_mem_nil⟩⟩⟩) ?_
      exact absurd hm (by omega)
  | succ m9 ih =>
    intro c L F h hm q0 q1 q2 q3 q4 q5 kk
    have hV' : gVO (V.1, L, V.2.2.1, V.2.2.2.1, F) := ⟨q3, hV.2.1, hV.2.2.1, q4, hV.2.2.2.2⟩
    refine eW_iload_n 3 rfl rfl rfl ?_
    refine eW_bipush 5 rfl rfl 30 rfl ?_
    refine eW_icmp_gt 8 rfl rfl (by unfold i32; omega) (by unfold i32; omega) (fun c1 => ?_) (fun c1 => ?_)
    · refine eW_re [(0, .ref v), (1, .ref g)] rfl rfl (List.forall_mem_cons.mpr ⟨rfl, List.forall_mem_cons.mpr ⟨rfl, fun _ h => absurd h List.not_mem_nil⟩⟩) (List.forall_mem_cons.mpr ⟨Or.inl rfl, List.forall_mem_cons.mpr ⟨Or.inl rfl, List.forall_mem_cons.mpr ⟨Or.inr ⟨_, rfl⟩, fun _ h => absurd h List.not_mem_nil⟩⟩⟩) ?_
      exact kk L F h q1 (fun i hi => q2 i (by omega)) q4 q5
    · refine eW_aload_n 9 rfl rfl rfl ?_
      refine eW_aload_n 10 rfl rfl rfl ?_
      refine eW_iload_n 11 rfl rfl rfl ?_
      refine eW_callVH 14 [.ref v, .ref g, vI c] [] [] rfl rfl rfl rfl (Nat.ble_eq_true_of_le (by omega)) q1.1 rfl rfl rfl (v_make (d := d + 1) (V := (V.1, L, V.2.2.1, V.2.2.2.1, F)) q1 hV' hN (gG_k hg (fun i _ _ => q5 i (by omega))) hG hN2 hd (by omega)) rfl rfl ?_
      intro h3 fh3
      obtain ⟨F2, k1h3, k2h3, k3h3⟩ := fh3
      have hVn : gVO (V.1, L, V.2.2.1, V.2.2.2.1, F2) := ⟨hV'.1, hV'.2.1, hV'.2.2.1, (fun j hj => by show F2 j = 0 ∨ F2 j = 1; rw [k2h3 j hj]; exact (eB01_c _).elim (fun a => Or.inr a.2) (fun a => Or.inl a.2)), hV'.2.2.2.2⟩
      have hlk := gMex_gv (D := gDig G) (L := L) (F := F2) (c := c) (by omega) q2 k2h3
      have hle := gv_le (D := gDig G) (c.toNat + 1) c.toNat (by omega) (by omega)
      have hvh3 : gV h3 v (V.1, L, V.2.2.1, V.2.2.2.1, F2) := k1h3
      have uh3 : ∀ i, (i < v ∨ v + 5 < i) → h3 i = h0 i := fun i hi => (k3h3 i hi).trans (q5 i hi)
      refine eW_aload_n 15 rfl rfl rfl ?_
      refine eW_getfield 18 rfl rfl (Nat.ble_eq_true_of_le (by omega)) rfl hvh3.1 rfl ⟨rfl, fun _ h9 => nomatch h9⟩ ?_
      refine eW_iload_n 19 rfl rfl rfl ?_
      refine eW_aload_n 20 rfl rfl rfl ?_
      refine eW_callV 23 [.ref v] [vI c, .ref (v + 2)] [vI (gLook F2 32 0), vI c, .ref (v + 2)] rfl rfl rfl rfl (Nat.ble_eq_true_of_le (by omega)) hvh3.1 rfl rfl rfl (v_look (d := d + 3) (V := (V.1, L, V.2.2.1, V.2.2.2.1, F2)) hvh3 hVn hN) rfl rfl ?_
      refine eW_iastore 24 rfl rfl (Nat.ble_eq_true_of_le (by omega)) (show h3 (v + 2) = .inl (0, 31, .inl (eIA L)) from hvh3.2.2.1) (by omega) (by omega) (by unfold i32; omega) rfl ?_
      intro h4 eh4 oh4
      have hvh4 : gV h4 v (V.1, eUp L c.toNat (gLook F2 32 0), V.2.2.1, V.2.2.2.1, F2) := gV_1 (V := (V.1, L, V.2.2.1, V.2.2.2.1, F2)) hvh3 eh4 oh4
      have uh4 : ∀ i, (i < v ∨ v + 5 < i) → h4 i = h0 i := fun i hi => (oh4 i (by omega)).trans (uh3 i hi)
      refine eW_iinc 27 rfl rfl [(2, vI (c + 1)), (0, .ref v), (1, .ref g)] rfl rfl rfl ?_
      refine eW_goto rfl ?_
      refine eW_re [(0, .ref v), (1, .ref g), (2, vI (c + 1))] rfl rfl (List.forall_mem_cons.mpr ⟨rfl, List.forall_mem_cons.mpr ⟨rfl, List.forall_mem_cons.mpr ⟨rfl, fun _ h => absurd h List.not_mem_nil⟩⟩⟩) (List.forall_mem_cons.mpr ⟨Or.inl rfl, List.forall_mem_cons.mpr ⟨Or.inl rfl, List.forall_mem_cons.mpr ⟨Or.inl rfl, fun _ h => absurd h List.not_mem_nil⟩⟩⟩) ?_
      refine ih (c + 1) _ _ h4 (by omega) (by omega) hvh4 (fun i hi => ?_) (fun i hi => ?_) hVn.2.2.2.1 uh4 kk
      · unfold eUp
        split
        · rename_i e9; rw [hlk, e9]
        · exact q2 i (by omega)
      · show 0 ≤ eUp _ _ _ _ ∧ eUp _ _ _ _ ≤ 31
        unfold eUp
        split
        · rw [hlk]; omega
        · exact q3 i hi
theorem v_rk_2 {d N k z : Nat} {h0 : eHp} {v : Nat} {V : eVs} {g : Nat} {G : eGd} {P : eR → Prop} (hV : gVO V) (hN : v + 6 ≤ N) (hg : gG h0 g G) (hG : gOk G) (hN2 : g + 4 ≤ N) (hd : g + 3 < v ∨ v + 5 < g)  : ∀ (m9 : Nat) (c : Int) (B2 BT : Nat → Int) (h : eHp), 31 - c ≤ m9 → 0 ≤ c ∧ c ≤ 31 → gV h v (V.1, V.2.1, B2, BT, V.2.2.2.2) → (∀ i : Nat, (i : Int) < c → B2 i = gv (gDig G) i ∧ gBitOk (gDig G) i (BT i)) → (∀ i, i < 31 → (0 ≤ B2 i ∧ B2 i ≤ 31) ∧ 0 ≤ BT i ∧ BT i ≤ 2147483647) → (∀ i, (i < v ∨ v + 5 < i) → h i = h0 i) → (∀ (B2 BT : Nat → Int) (h : eHp), gV h v (V.1, V.2.1, B2, BT, V.2.2.2.2) → (∀ i : Nat, i < 31 → B2 i = gv (gDig G) i ∧ gBitOk (gDig G) i (BT i)) → (∀ i, (i < v ∨ v + 5 < i) → h i = h0 i) → eWp eOx (eEv (d + 4)) eM_X5_reckon (73, [(0, .ref v), (1, .ref g)], [], N, h, k, z) P) → eWp eOx (eEv (d + 4)) eM_X5_reckon (32, [(0, .ref v), (1, .ref g), (2, vI c)], [], N, h, k, z) P := by
  intro m9
  induction m9 with
  | zero =>
    intro c B2 BT h hm q0 q1 q2 q3 q4 kk
    have hV' : gVO (V.1, V.2.1, B2, BT, V.2.2.2.2) := ⟨hV.1, (fun i hi => (q3 i hi).1), (fun i hi => (q3 i hi).2), hV.2.2.2.1, hV.2.2.2.2⟩
    refine eW_iload_n 33 rfl rfl rfl ?_
    refine eW_bipush 35 rfl rfl 30 rfl ?_
    refine eW_icmp_gt 38 rfl rfl (by unfold i32; omega) (by unfold i32; omega) (fun c1 => ?_) (fun c1 => ?_)
    · refine eW_re [(0, .ref v), (1, .ref g)] rfl rfl (List.forall_mem_cons.mpr ⟨rfl, List.forall_mem_cons.mpr ⟨rfl, fun _ h => absurd h List.not_mem_nil⟩⟩) (List.forall_mem_cons.mpr ⟨Or.inl rfl, List.forall_mem_cons.mpr ⟨Or.inl rfl, List.forall_mem_cons.mpr ⟨Or.inr ⟨_, rfl⟩, fun _ h => absurd h List.not_mem_nil⟩⟩⟩) ?_
      exact kk B2 BT h q1 (fun i hi => q2 i (by omega)) q4
    · refine eW_aload_n 39 rfl rfl rfl ?_
      refine eW_getfield 42 rfl rfl (Nat.ble_eq_true_of_le (by omega)) rfl q1.1 rfl ⟨rfl, fun _ h9 => nomatch h9⟩ ?_
      refine eW_iload_n 43 rfl rfl rfl ?_
      refine eW_aload_n 44 rfl rfl rfl ?_
      refine eW_aload_n 45 rfl rfl rfl ?_
      refine eW_iload_n 46 rfl rfl rfl ?_
      refine eW_callVX 49 (α := Nat) (fun b => b < 2 ^ 31 ∧ ∀ j : Nat, j < 31 → b.testBit j = gBts (gDig G) (gVal B2) c j 6) (fun b => vI (((b : Nat) : Int))) [.ref v, .ref g, vI c] [vI c, .ref (v + 4)] rfl rfl rfl rfl (Nat.ble_eq_true_of_le (by omega)) q1.1 rfl rfl rfl (v_bits (d := d) (V := (V.1, V.2.1, B2, BT, V.2.2.2.2)) q1 hV' hN (gG_k hg (fun i _ _ => q4 i (by omega))) hG hN2 (by omega) (fun i a b => by have e9 := (q2 i.toNat (by omega)).1; have e8 := gv_le (D := gDig G) (i.toNat + 1) i.toNat (by omega) (by omega); show gVal B2 i ≤ i; rw [gVal_t (by omega), e9]; omega)) (fun _ => rfl) (fun b hb => ?_)
      have hb2 : ∀ j : Nat, j < 31 → b.testBit j = gOpt (gDig G) (gvv (gDig G)) c j := fun j hj => by rw [hb.2 j hj, gBts_gv (by omega) (fun i hi => (q2 i hi).1) (fun i hi => (q3 i hi).1)]
      have hnz := gv_bits (by omega) hb2
      have hle := gv_le (D := gDig G) (c.toNat + 1) c.toNat (by omega) (by omega)
      refine eW_iastore 50 rfl rfl (Nat.ble_eq_true_of_le (by omega)) (show h (v + 4) = .inl (0, 31, .inl (eIA BT)) from q1.2.2.2.2.1) (by omega) (by omega) (by unfold i32; omega) rfl ?_
      intro h2 eh2 oh2
      have hvh2 : gV h2 v (V.1, V.2.1, B2, eUp BT c.toNat (((b : Nat) : Int)), V.2.2.2.2) := gV_3 (V := (V.1, V.2.1, B2, BT, V.2.2.2.2)) q1 eh2 oh2
      have uh2 : ∀ i, (i < v ∨ v + 5 < i) → h2 i = h0 i := fun i hi => (oh2 i (by omega)).trans (q4 i hi)
      refine eW_aload_n 51 rfl rfl rfl ?_
      refine eW_getfield 54 rfl rfl (Nat.ble_eq_true_of_le (by omega)) rfl hvh2.1 rfl ⟨rfl, fun _ h9 => nomatch h9⟩ ?_
      refine eW_iload_n 55 rfl rfl rfl ?_
      refine eW_aload_n 56 rfl rfl rfl ?_
      refine eW_getfield 59 rfl rfl (Nat.ble_eq_true_of_le (by omega)) rfl hvh2.1 rfl ⟨rfl, fun _ h9 => nomatch h9⟩ ?_
      refine eW_iload_n 60 rfl rfl rfl ?_
      refine eW_iaload 61 rfl rfl ((eUp BT c.toNat (((b : Nat) : Int))) c.toNat) (Nat.ble_eq_true_of_le (by omega)) (show h2 (v + 4) = .inl (0, 31, .inl (eIA (eUp BT c.toNat (((b : Nat) : Int))))) from hvh2.2.2.2.2.1) (by omega) (by omega) (by unfold i32; omega) rfl ?_
      refine eW_iconst 62 rfl rfl ?_
      refine eW_ixor 63 rfl rfl (-1 - (b : Int)) (by rw [show eUp BT c.toNat ((b : Nat) : Int) c.toNat = (b : Int) from by unfold eUp; rw [if_pos rfl]]; exact eXorM2) ?_
      refine eW_callS 66 [vI (-1 - (b : Int))] [vI c, .ref (v + 3)] [vI (((gv (gDig G) c.toNat).toNat : Int)), vI c, .ref (v + 3)] rfl rfl rfl (Or.inl rfl) rfl rfl rfl (j_ntz (d := d + 3) hnz.1 hb.1 hnz.2.1 hnz.2.2) rfl rfl ?_
      refine eW_iastore 67 rfl rfl (Nat.ble_eq_true_of_le (by omega)) (show h2 (v + 3) = .inl (0, 31, .inl (eIA B2)) from hvh2.2.2.2.1) (by omega) (by omega) (by unfold i32; omega) rfl ?_
      intro h3 eh3 oh3
      have hvh3 : gV h3 v (V.1, V.2.1, eUp B2 c.toNat (((gv (gDig G) c.toNat).toNat : Int)), eUp BT c.toNat (((b : Nat) : Int)), V.2.2.2.2) := gV_2 (V := (V.1, V.2.1, B2, eUp BT c.toNat (((b : Nat) : Int)), V.2.2.2.2)) hvh2 eh3 oh3
      have uh3 : ∀ i, (i < v ∨ v + 5 < i) → h3 i = h0 i := fun i hi => (oh3 i (by omega)).trans (uh2 i hi)
      refine eW_iinc 70 rfl rfl [(2, vI (c + 1)), (0, .ref v), (1, .ref g)] rfl rfl rfl ?_
      refine eW_goto rfl ?_
      refine eW_re [(0, .ref v), (1, .ref g), (2, vI (c + 1))] rfl rfl (List.forall_mem_cons.mpr ⟨rfl, List.forall_mem_cons.mpr ⟨rfl, List.forall_mem_cons.mpr ⟨rfl, fun _ h => absurd h List.not_mem_nil⟩⟩⟩) (List.forall_mem_cons.mpr ⟨Or.inl rfl, List.forall_mem_cons.mpr ⟨Or.inl rfl, List.forall_mem_cons.mpr ⟨Or.inl rfl, fun _ h => absurd h List.not_mem_nil⟩⟩⟩) ?_
      exact absurd hm (by omega)
  | succ m9 ih =>
    intro c B2 BT h hm q0 q1 q2 q3 q4 kk
    have hV' : gVO (V.1, V.2.1, B2, BT, V.2.2.2.2) := ⟨hV.1, (fun i hi => (q3 i hi).1), (fun i hi => (q3 i hi).2), hV.2.2.2.1, hV.2.2.2.2⟩
    refine eW_iload_n 33 rfl rfl rfl ?_
    refine eW_bipush 35 rfl rfl 30 rfl ?_
    refine eW_icmp_gt 38 rfl rfl (by unfold i32; omega) (by unfold i32; omega) (fun c1 => ?_) (fun c1 => ?_)
    · refine eW_re [(0, .ref v), (1, .ref g)] rfl rfl (List.forall_mem_cons.mpr ⟨rfl, List.forall_mem_cons.mpr ⟨rfl, fun _ h => absurd h List.not_mem_nil⟩⟩) (List.forall_mem_cons.mpr ⟨Or.inl rfl, List.forall_mem_cons.mpr ⟨Or.inl rfl, List.forall_mem_cons.mpr ⟨Or.inr ⟨_, rfl⟩, fun _ h => absurd h List.not_mem_nil⟩⟩⟩) ?_
      exact kk B2 BT h q1 (fun i hi => q2 i (by omega)) q4
    · refine eW_aload_n 39 rfl rfl rfl ?_
      refine eW_getfield 42 rfl rfl (Nat.ble_eq_true_of_le (by omega)) rfl q1.1 rfl ⟨rfl, fun _ h9 => nomatch h9⟩ ?_
      refine eW_iload_n 43 rfl rfl rfl ?_
      refine eW_aload_n 44 rfl rfl rfl ?_
      refine eW_aload_n 45 rfl rfl rfl ?_
      refine eW_iload_n 46 rfl rfl rfl ?_
      refine eW_callVX 49 (α := Nat) (fun b => b < 2 ^ 31 ∧ ∀ j : Nat, j < 31 → b.testBit j = gBts (gDig G) (gVal B2) c j 6) (fun b => vI (((b : Nat) : Int))) [.ref v, .ref g, vI c] [vI c, .ref (v + 4)] rfl rfl rfl rfl (Nat.ble_eq_true_of_le (by omega)) q1.1 rfl rfl rfl (v_bits (d := d) (V := (V.1, V.2.1, B2, BT, V.2.2.2.2)) q1 hV' hN (gG_k hg (fun i _ _ => q4 i (by omega))) hG hN2 (by omega) (fun i a b => by have e9 := (q2 i.toNat (by omega)).1; have e8 := gv_le (D := gDig G) (i.toNat + 1) i.toNat (by omega) (by omega); show gVal B2 i ≤ i; rw [gVal_t (by omega), e9]; omega)) (fun _ => rfl) (fun b hb => ?_)
      have hb2 : ∀ j : Nat, j < 31 → b.testBit j = gOpt (gDig G) (gvv (gDig G)) c j := fun j hj => by rw [hb.2 j hj, gBts_gv (by omega) (fun i hi => (q2 i hi).1) (fun i hi => (q3 i hi).1)]
      have hnz := gv_bits (by omega) hb2
      have hle := gv_le (D := gDig G) (c.toNat + 1) c.toNat (by omega) (by omega)
      refine eW_iastore 50 rfl rfl (Nat.ble_eq_true_of_le (by omega)) (show h (v + 4) = .inl (0, 31, .inl (eIA BT)) from q1.2.2.2.2.1) (by omega) (by omega) (by unfold i32; omega) rfl ?_
      intro h2 eh2 oh2
      have hvh2 : gV h2 v (V.1, V.2.1, B2, eUp BT c.toNat (((b : Nat) : Int)), V.2.2.2.2) := gV_3 (V := (V.1, V.2.1, B2, BT, V.2.2.2.2)) q1 eh2 oh2
      have uh2 : ∀ i, (i < v ∨ v + 5 < i) → h2 i = h0 i := fun i hi => (oh2 i (by omega)).trans (q4 i hi)
      refine eW_aload_n 51 rfl rfl rfl ?_
      refine eW_getfield 54 rfl rfl (Nat.ble_eq_true_of_le (by omega)) rfl hvh2.1 rfl ⟨rfl, fun _ h9 => nomatch h9⟩ ?_
      refine eW_iload_n 55 rfl rfl rfl ?_
      refine eW_aload_n 56 rfl rfl rfl ?_
      refine eW_getfield 59 rfl rfl (Nat.ble_eq_true_of_le (by omega)) rfl hvh2.1 rfl ⟨rfl, fun _ h9 => nomatch h9⟩ ?_
      refine eW_iload_n 60 rfl rfl rfl ?_
      refine eW_iaload 61 rfl rfl ((eUp BT c.toNat (((b : Nat) : Int))) c.toNat) (Nat.ble_eq_true_of_le (by omega)) (show h2 (v + 4) = .inl (0, 31, .inl (eIA (eUp BT c.toNat (((b : Nat) : Int))))) from hvh2.2.2.2.2.1) (by omega) (by omega) (by unfold i32; omega) rfl ?_
      refine eW_iconst 62 rfl rfl ?_
      refine eW_ixor 63 rfl rfl (-1 - (b : Int)) (by rw [show eUp BT c.toNat ((b : Nat) : Int) c.toNat = (b : Int) from by unfold eUp; rw [if_pos rfl]]; exact eXorM2) ?_
      refine eW_callS 66 [vI (-1 - (b : Int))] [vI c, .ref (v + 3)] [vI (((gv (gDig G) c.toNat).toNat : Int)), vI c, .ref (v + 3)] rfl rfl rfl (Or.inl rfl) rfl rfl rfl (j_ntz (d := d + 3) hnz.1 hb.1 hnz.2.1 hnz.2.2) rfl rfl ?_
      refine eW_iastore 67 rfl rfl (Nat.ble_eq_true_of_le (by omega)) (show h2 (v + 3) = .inl (0, 31, .inl (eIA B2)) from hvh2.2.2.2.1) (by omega) (by omega) (by unfold i32; omega) rfl ?_
      intro h3 eh3 oh3
      have hvh3 : gV h3 v (V.1, V.2.1, eUp B2 c.toNat (((gv (gDig G) c.toNat).toNat : Int)), eUp BT c.toNat (((b : Nat) : Int)), V.2.2.2.2) := gV_2 (V := (V.1, V.2.1, B2, eUp BT c.toNat (((b : Nat) : Int)), V.2.2.2.2)) hvh2 eh3 oh3
      have uh3 : ∀ i, (i < v ∨ v + 5 < i) → h3 i = h0 i := fun i hi => (oh3 i (by omega)).trans (uh2 i hi)
      refine eW_iinc 70 rfl rfl [(2, vI (c + 1)), (0, .ref v), (1, .ref g)] rfl rfl rfl ?_
      refine eW_goto rfl ?_
      refine eW_re [(0, .ref v), (1, .ref g), (2, vI (c + 1))] rfl rfl (List.forall_mem_cons.mpr ⟨rfl, List.forall_mem_cons.mpr ⟨rfl, List.forall_mem_cons.mpr ⟨rfl, fun _ h => absurd h List.not_mem_nil⟩⟩⟩) (List.forall_mem_cons.mpr ⟨Or.inl rfl, List.forall_mem_cons.mpr ⟨Or.inl rfl, List.forall_mem_cons.mpr ⟨Or.inl rfl, fun _ h => absurd h List.not_mem_nil⟩⟩⟩) ?_
      refine ih (c + 1) _ _ h3 (by omega) (by omega) hvh3 (fun i hi => ?_) (fun i hi => ?_) uh3 kk
      · unfold eUp
        split
        · rename_i e9; refine ⟨by rw [e9]; omega, b, rfl, hb.1, fun j hj => by rw [hb2 j hj, e9, Int.toNat_of_nonneg (by omega)]⟩
        · exact q2 i (by omega)
      · show (0 ≤ eUp _ _ _ _ ∧ eUp _ _ _ _ ≤ 31) ∧ 0 ≤ eUp _ _ _ _ ∧ eUp _ _ _ _ ≤ 2147483647
        have hb9 := hb.1
        unfold eUp
        split
        · omega
        · exact q3 i hi
theorem v_reckon {d N : Nat} {h : eHp} {v : Nat} {V : eVs} (hv : gV h v V) (hV : gVO V) (hN : v + 6 ≤ N) {g : Nat} {G : eGd} (hg : gG h g G) (hG : gOk G) (hN2 : g + 4 ≤ N) (hd : g + 3 < v ∨ v + 5 < g)  : eSp (d + 5) eM_X5_reckon [.ref v, .ref g] N h (eChg none N (fun h' => ∃ L B T F, gV h' v (V.1, L, B, T, F) ∧ gVD (V.1, L, B, T, F) (gDig G) ∧ ∀ i, (i < v ∨ v + 5 < i) → h' i = h i)) := by
  refine eSp_of [(0, .ref v), (1, .ref g)] rfl rfl ?_
  refine eW_iconst 1 rfl rfl ?_
  refine eW_istore_n 2 rfl rfl [(2, vI 0), (0, .ref v), (1, .ref g)] rfl rfl ?_
  refine eW_re [(0, .ref v), (1, .ref g), (2, vI 0)] rfl rfl (List.forall_mem_cons.mpr ⟨rfl, List.forall_mem_cons.mpr ⟨rfl, List.forall_mem_cons.mpr ⟨rfl, fun _ h => absurd h List.not_mem_nil⟩⟩⟩) (List.forall_mem_cons.mpr ⟨Or.inl rfl, List.forall_mem_cons.mpr ⟨Or.inl rfl, List.forall_mem_cons.mpr ⟨Or.inl rfl, fun _ h => absurd h List.not_mem_nil⟩⟩⟩) ?_
  refine v_rk_1 (h0 := h) hV hN hg hG hN2 hd _ 0 V.2.1 V.2.2.2.2 h (Int.self_le_toNat _) (by omega) hv (fun i hi => absurd hi (by omega)) hV.1 hV.2.2.2.1 (fun _ _ => rfl) (fun L1 F1 h1 r1 r2 r3 r4 => ?_)
  refine eW_iconst 31 rfl rfl ?_
  refine eW_istore_n 32 rfl rfl [(2, vI 0), (0, .ref v), (1, .ref g)] rfl rfl ?_
  refine eW_re [(0, .ref v), (1, .ref g), (2, vI 0)] rfl rfl (List.forall_mem_cons.mpr ⟨rfl, List.forall_mem_cons.mpr ⟨rfl, List.forall_mem_cons.mpr ⟨rfl, fun _ h => absurd h List.not_mem_nil⟩⟩⟩) (List.forall_mem_cons.mpr ⟨Or.inl rfl, List.forall_mem_cons.mpr ⟨Or.inl rfl, List.forall_mem_cons.mpr ⟨Or.inl rfl, fun _ h => absurd h List.not_mem_nil⟩⟩⟩) ?_
  have hV1 : gVO (V.1, L1, V.2.2.1, V.2.2.2.1, F1) := ⟨(fun i hi => by show 0 ≤ L1 i ∧ L1 i ≤ 31; rw [r2 i hi]; have := gv_le (D := gDig G) (i + 1) i (by omega) (by omega); omega), hV.2.1, hV.2.2.1, r3, hV.2.2.2.2⟩
  refine v_rk_2 (h0 := h1) (V := (V.1, L1, V.2.2.1, V.2.2.2.1, F1)) hV1 hN (gG_k hg (fun i _ _ => r4 i (by omega))) hG hN2 hd _ 0 V.2.2.1 V.2.2.2.1 h1 (Int.self_le_toNat _) (by omega) r1 (fun i hi => absurd hi (by omega)) (fun i hi => ⟨hV.2.1 i hi, hV.2.2.1 i hi⟩) (fun _ _ => rfl) (fun B1 T1 h2 s1 s2 s4 => ?_)
  refine eW_ret rfl rfl ?_
  refine ⟨_, rfl, L1, B1, T1, F1, s1, ⟨⟨hV1.1, (fun i hi => by show 0 ≤ B1 i ∧ B1 i ≤ 31; rw [(s2 i hi).1]; have := gv_le (D := gDig G) (i + 1) i (by omega) (by omega); omega), (fun i hi => by show 0 ≤ T1 i ∧ T1 i ≤ 2147483647; obtain ⟨b, e1, e2, -⟩ := (s2 i hi).2; omega), r3, hV.2.2.2.2⟩, fun i hi => ⟨r2 i hi, (s2 i hi).1, (s2 i hi).2⟩⟩, fun i hi => (s4 i hi).trans (r4 i hi)⟩
theorem gLets_congr {D D' : Int → Int} {n t l : Int} (h : D t = D' t) : gLets D n t l = gLets D' n t l := by unfold gLets; rw [h]
theorem gOpt_congrD {D D' T : Int → Int} (h : ∀ t, 1 ≤ t → t ≤ 6 → D t = D' t) (m x : Int) : gOpt D T m x = gOpt D' T m x := by
  rw [Bool.eq_iff_iff, gOpt_iff, gOpt_iff]
  constructor
  · rintro ⟨t, h1, h2, l, h3, h4⟩; exact ⟨t, h1, h2, l, by rw [← gLets_congr (h t h1 h2)]; exact h3, h4⟩
  · rintro ⟨t, h1, h2, l, h3, h4⟩; exact ⟨t, h1, h2, l, by rw [gLets_congr (h t h1 h2)]; exact h3, h4⟩
theorem gvT_congrD {D D' : Int → Int} (h : ∀ t, 1 ≤ t → t ≤ 6 → D t = D' t) : ∀ n, gvT D n = gvT D' n
  | 0 => rfl
  | n + 1 => by
    show eUp (gvT D n) n _ = eUp (gvT D' n) n _
    rw [gvT_congrD h n, show gMex (gOpt D (gVal (gvT D' n)) n) = gMex (gOpt D' (gVal (gvT D' n)) n) from gMex_congr (fun j _ => gOpt_congrD h _ _)]
theorem gv_congrD {D D' : Int → Int} (h : ∀ t, 1 ≤ t → t ≤ 6 → D t = D' t) : gv D = gv D' := by
  funext i
  unfold gv
  rw [gvT_congrD h]
theorem gVD_congr {V : eVs} {D D' : Int → Int} (h : ∀ t, 1 ≤ t → t ≤ 6 → D t = D' t) (hV : gVD V D) : gVD V D' := by
  refine ⟨hV.1, fun i hi => ?_⟩
  obtain ⟨a, b, x, c, e, f⟩ := hV.2 i hi
  refine ⟨by rw [a, gv_congrD h], by rw [b, gv_congrD h], x, c, e, fun j hj => ?_⟩
  rw [f j hj, gOpt_congrD h]
  unfold gvv
  rw [gv_congrD h]
/-- values that are right for a garden -/
def gVG (V : eVs) (G : eGd) : Prop := gVD V (gDig G) ∧ ∀ t : Int, 1 ≤ t → t ≤ 6 → V.1 t.toNat = gDig G t
theorem v_ln_l {d N k z : Nat} {h0 : eHp} {v : Nat} {V : eVs} {g : Nat} {G : eGd} {P : eR → Prop} (hV : gVO V) (hN : v + 6 ≤ N) (hg : gG h0 g G) (hG : gOk G) (hN2 : g + 4 ≤ N) (hd : g + 3 < v ∨ v + 5 < g) (hA : ∀ i, i < 7 → 0 ≤ V.1 i ∧ V.1 i ≤ 7) : ∀ (m9 : Nat) (c t : Int) (A : Nat → Int) (h : eHp), 7 - t ≤ m9 → 1 ≤ t ∧ t ≤ 7 → (c = 0 ∨ c = 1) → gV h v (A, V.2) → (∀ i : Int, 1 ≤ i → i < t → A i.toNat = gDig G i) → (∀ i : Nat, t ≤ (i : Int) → A i = V.1 i) → (c = 0 → ∀ i : Int, 1 ≤ i → i < t → V.1 i.toNat = gDig G i) → (∀ i, (i < v ∨ v + 5 < i) → h i = h0 i) → A 0 = V.1 0 → (∀ (c t : Int) (A : Nat → Int) (h : eHp), (c = 0 ∨ c = 1) → gV h v (A, V.2) → (∀ i : Int, 1 ≤ i → i ≤ 6 → A i.toNat = gDig G i) → A 0 = V.1 0 → (c = 0 → ∀ i : Int, 1 ≤ i → i ≤ 6 → V.1 i.toNat = gDig G i) → (∀ i, (i < v ∨ v + 5 < i) → h i = h0 i) → eWp eOx (eEv (d + 5)) eM_X5_learn (49, [(0, .ref v), (1, .ref g), (2, vI c), (3, vI t)], [], N, h, k, z) P) → eWp eOx (eEv (d + 5)) eM_X5_learn (4, [(0, .ref v), (1, .ref g), (2, vI c), (3, vI t)], [], N, h, k, z) P := by
  intro m9
  induction m9 with
  | zero =>
    intro c t A h hm q0 q1 q2 q3 q4 q5 q6 q7 kk
    have hd7 := gDig_le hG t
    have hA7 : t < 7 → 0 ≤ A t.toNat ∧ A t.toNat ≤ 7 := fun h9 => by rw [q4 t.toNat (by omega)]; exact hA _ (by omega)
    refine eW_iload_n 5 rfl rfl rfl ?_
    refine eW_bipush 7 rfl rfl 6 rfl ?_
    refine eW_icmp_gt 10 rfl rfl (by unfold i32; omega) (by unfold i32; omega) (fun c1 => ?_) (fun c1 => ?_)
    · exact kk c t A h q1 q2 (fun i h1 h2 => q3 i h1 (by omega)) q7 (fun e9 i h1 h2 => q5 e9 i h1 (by omega)) q6
    · refine eW_iload_n 11 rfl rfl rfl ?_
      refine eW_aload_n 12 rfl rfl rfl ?_
      refine eW_getfield 15 rfl rfl (Nat.ble_eq_true_of_le (by omega)) rfl q2.1 rfl ⟨rfl, fun _ h9 => nomatch h9⟩ ?_
      refine eW_iload_n 16 rfl rfl rfl ?_
      refine eW_iaload 17 rfl rfl (A t.toNat) (Nat.ble_eq_true_of_le (by omega)) (show h (v + 1) = .inl (0, 7, .inl (eIA A)) from q2.2.1) (by omega) (by omega) (by unfold i32; omega) rfl ?_
      refine eW_aload_n 18 rfl rfl rfl ?_
      refine eW_iload_n 19 rfl rfl rfl ?_
      refine eW_callV 22 [.ref g, vI t] [vI (A t.toNat), vI c] [vI (gDig G t), vI (A t.toNat), vI c] rfl rfl rfl rfl (Nat.ble_eq_true_of_le (by omega)) (show h g = _ from (q6 _ (by omega)).trans hg.1) rfl rfl rfl (g_digitFor (d := d + 4) (gG_k hg (fun i _ _ => q6 i (by omega))) hG hN2 (by unfold i32; omega)) rfl rfl ?_
      refine eW_icmp_eq 25 rfl rfl (by unfold i32; omega) (by unfold i32; omega) (fun c2 => ?_) (fun c2 => ?_)
      · refine eW_iconst 30 rfl rfl ?_
        refine eW_ior 31 rfl rfl c (by rcases q1 with e9 | e9 <;> rw [e9] <;> rfl) ?_
        refine eW_istore_n 32 rfl rfl [(2, vI c), (0, .ref v), (1, .ref g), (3, vI t)] rfl rfl ?_
        refine eW_aload_n 33 rfl rfl rfl ?_
        refine eW_getfield 36 rfl rfl (Nat.ble_eq_true_of_le (by omega)) rfl q2.1 rfl ⟨rfl, fun _ h9 => nomatch h9⟩ ?_
        refine eW_iload_n 37 rfl rfl rfl ?_
        refine eW_aload_n 38 rfl rfl rfl ?_
        refine eW_iload_n 39 rfl rfl rfl ?_
        refine eW_callV 42 [.ref g, vI t] [vI t, .ref (v + 1)] [vI (gDig G t), vI t, .ref (v + 1)] rfl rfl rfl rfl (Nat.ble_eq_true_of_le (by omega)) (show h g = _ from (q6 _ (by omega)).trans hg.1) rfl rfl rfl (g_digitFor (d := d + 4) (gG_k hg (fun i _ _ => q6 i (by omega))) hG hN2 (by unfold i32; omega)) rfl rfl ?_
        refine eW_iastore 43 rfl rfl (Nat.ble_eq_true_of_le (by omega)) (show h (v + 1) = .inl (0, 7, .inl (eIA A)) from q2.2.1) (by omega) (by omega) (by unfold i32; omega) rfl ?_
        intro h3 eh3 oh3
        have hvh3 : gV h3 v (eUp A t.toNat (gDig G t), V.2.1, V.2.2.1, V.2.2.2.1, V.2.2.2.2) := gV_0 (V := (A, V.2.1, V.2.2.1, V.2.2.2.1, V.2.2.2.2)) q2 eh3 oh3
        have uh3 : ∀ i, (i < v ∨ v + 5 < i) → h3 i = h0 i := fun i hi => (oh3 i (by omega)).trans (q6 i hi)
        refine eW_iinc 46 rfl rfl [(3, vI (t + 1)), (2, vI c), (0, .ref v), (1, .ref g)] rfl rfl rfl ?_
        refine eW_goto rfl ?_
        refine eW_re [(0, .ref v), (1, .ref g), (2, vI c), (3, vI (t + 1))] rfl rfl (List.forall_mem_cons.mpr ⟨rfl, List.forall_mem_cons.mpr ⟨rfl, List.forall_mem_cons.mpr ⟨rfl, List.forall_mem_cons.mpr ⟨rfl, fun _ h => absurd h List.not_mem_nil⟩⟩⟩⟩) (List.forall_mem_cons.mpr ⟨Or.inl rfl, List.forall_mem_cons.mpr ⟨Or.inl rfl, List.forall_mem_cons.mpr ⟨Or.inl rfl, List.forall_mem_cons.mpr ⟨Or.inl rfl, fun _ h => absurd h List.not_mem_nil⟩⟩⟩⟩) ?_
        exact absurd hm (by omega)
      · refine eW_iconst 26 rfl rfl ?_
        refine eW_goto rfl ?_
        refine eW_ior 31 rfl rfl 1 (by rcases q1 with e9 | e9 <;> rw [e9] <;> rfl) ?_
        refine eW_istore_n 32 rfl rfl [(2, vI 1), (0, .ref v), (1, .ref g), (3, vI t)] rfl rfl ?_
        refine eW_aload_n 33 rfl rfl rfl ?_
        refine eW_getfield 36 rfl rfl (Nat.ble_eq_true_of_le (by omega)) rfl q2.1 rfl ⟨rfl, fun _ h9 => nomatch h9⟩ ?_
        refine eW_iload_n 37 rfl rfl rfl ?_
        refine eW_aload_n 38 rfl rfl rfl ?_
        refine eW_iload_n 39 rfl rfl rfl ?_
        refine eW_callV 42 [.ref g, vI t] [vI t, .ref (v + 1)] [vI (gDig G t), vI t, .ref (v + 1)] rfl rfl rfl rfl (Nat.ble_eq_true_of_le (by omega)) (show h g = _ from (q6 _ (by omega)).trans hg.1) rfl rfl rfl (g_digitFor (d := d + 4) (gG_k hg (fun i _ _ => q6 i (by omega))) hG hN2 (by unfold i32; omega)) rfl rfl ?_
        refine eW_iastore 43 rfl rfl (Nat.ble_eq_true_of_le (by omega)) (show h (v + 1) = .inl (0, 7, .inl (eIA A)) from q2.2.1) (by omega) (by omega) (by unfold i32; omega) rfl ?_
        intro h4 eh4 oh4
        have hvh4 : gV h4 v (eUp A t.toNat (gDig G t), V.2.1, V.2.2.1, V.2.2.2.1, V.2.2.2.2) := gV_0 (V := (A, V.2.1, V.2.2.1, V.2.2.2.1, V.2.2.2.2)) q2 eh4 oh4
        have uh4 : ∀ i, (i < v ∨ v + 5 < i) → h4 i = h0 i := fun i hi => (oh4 i (by omega)).trans (q6 i hi)
        refine eW_iinc 46 rfl rfl [(3, vI (t + 1)), (2, vI 1), (0, .ref v), (1, .ref g)] rfl rfl rfl ?_
        refine eW_goto rfl ?_
        refine eW_re [(0, .ref v), (1, .ref g), (2, vI 1), (3, vI (t + 1))] rfl rfl (List.forall_mem_cons.mpr ⟨rfl, List.forall_mem_cons.mpr ⟨rfl, List.forall_mem_cons.mpr ⟨rfl, List.forall_mem_cons.mpr ⟨rfl, fun _ h => absurd h List.not_mem_nil⟩⟩⟩⟩) (List.forall_mem_cons.mpr ⟨Or.inl rfl, List.forall_mem_cons.mpr ⟨Or.inl rfl, List.forall_mem_cons.mpr ⟨Or.inl rfl, List.forall_mem_cons.mpr ⟨Or.inl rfl, fun _ h => absurd h List.not_mem_nil⟩⟩⟩⟩) ?_
        exact absurd hm (by omega)
  | succ m9 ih =>
    intro c t A h hm q0 q1 q2 q3 q4 q5 q6 q7 kk
    have hd7 := gDig_le hG t
    have hA7 : t < 7 → 0 ≤ A t.toNat ∧ A t.toNat ≤ 7 := fun h9 => by rw [q4 t.toNat (by omega)]; exact hA _ (by omega)
    refine eW_iload_n 5 rfl rfl rfl ?_
    refine eW_bipush 7 rfl rfl 6 rfl ?_
    refine eW_icmp_gt 10 rfl rfl (by unfold i32; omega) (by unfold i32; omega) (fun c1 => ?_) (fun c1 => ?_)
    · exact kk c t A h q1 q2 (fun i h1 h2 => q3 i h1 (by omega)) q7 (fun e9 i h1 h2 => q5 e9 i h1 (by omega)) q6
    · refine eW_iload_n 11 rfl rfl rfl ?_
      refine eW_aload_n 12 rfl rfl rfl ?_
      refine eW_getfield 15 rfl rfl (Nat.ble_eq_true_of_le (by omega)) rfl q2.1 rfl ⟨rfl, fun _ h9 => nomatch h9⟩ ?_
      refine eW_iload_n 16 rfl rfl rfl ?_
      refine eW_iaload 17 rfl rfl (A t.toNat) (Nat.ble_eq_true_of_le (by omega)) (show h (v + 1) = .inl (0, 7, .inl (eIA A)) from q2.2.1) (by omega) (by omega) (by unfold i32; omega) rfl ?_
      refine eW_aload_n 18 rfl rfl rfl ?_
      refine eW_iload_n 19 rfl rfl rfl ?_
      refine eW_callV 22 [.ref g, vI t] [vI (A t.toNat), vI c] [vI (gDig G t), vI (A t.toNat), vI c] rfl rfl rfl rfl (Nat.ble_eq_true_of_le (by omega)) (show h g = _ from (q6 _ (by omega)).trans hg.1) rfl rfl rfl (g_digitFor (d := d + 4) (gG_k hg (fun i _ _ => q6 i (by omega))) hG hN2 (by unfold i32; omega)) rfl rfl ?_
      refine eW_icmp_eq 25 rfl rfl (by unfold i32; omega) (by unfold i32; omega) (fun c2 => ?_) (fun c2 => ?_)
      · refine eW_iconst 30 rfl rfl ?_
        refine eW_ior 31 rfl rfl c (by rcases q1 with e9 | e9 <;> rw [e9] <;> rfl) ?_
        refine eW_istore_n 32 rfl rfl [(2, vI c), (0, .ref v), (1, .ref g), (3, vI t)] rfl rfl ?_
        refine eW_aload_n 33 rfl rfl rfl ?_
        refine eW_getfield 36 rfl rfl (Nat.ble_eq_true_of_le (by omega)) rfl q2.1 rfl ⟨rfl, fun _ h9 => nomatch h9⟩ ?_
        refine eW_iload_n 37 rfl rfl rfl ?_
        refine eW_aload_n 38 rfl rfl rfl ?_
        refine eW_iload_n 39 rfl rfl rfl ?_
        refine eW_callV 42 [.ref g, vI t] [vI t, .ref (v + 1)] [vI (gDig G t), vI t, .ref (v + 1)] rfl rfl rfl rfl (Nat.ble_eq_true_of_le (by omega)) (show h g = _ from (q6 _ (by omega)).trans hg.1) rfl rfl rfl (g_digitFor (d := d + 4) (gG_k hg (fun i _ _ => q6 i (by omega))) hG hN2 (by unfold i32; omega)) rfl rfl ?_
        refine eW_iastore 43 rfl rfl (Nat.ble_eq_true_of_le (by omega)) (show h (v + 1) = .inl (0, 7, .inl (eIA A)) from q2.2.1) (by omega) (by omega) (by unfold i32; omega) rfl ?_
        intro h3 eh3 oh3
        have hvh3 : gV h3 v (eUp A t.toNat (gDig G t), V.2.1, V.2.2.1, V.2.2.2.1, V.2.2.2.2) := gV_0 (V := (A, V.2.1, V.2.2.1, V.2.2.2.1, V.2.2.2.2)) q2 eh3 oh3
        have uh3 : ∀ i, (i < v ∨ v + 5 < i) → h3 i = h0 i := fun i hi => (oh3 i (by omega)).trans (q6 i hi)
        refine eW_iinc 46 rfl rfl [(3, vI (t + 1)), (2, vI c), (0, .ref v), (1, .ref g)] rfl rfl rfl ?_
        refine eW_goto rfl ?_
        refine eW_re [(0, .ref v), (1, .ref g), (2, vI c), (3, vI (t + 1))] rfl rfl (List.forall_mem_cons.mpr ⟨rfl, List.forall_mem_cons.mpr ⟨rfl, List.forall_mem_cons.mpr ⟨rfl, List.forall_mem_cons.mpr ⟨rfl, fun _ h => absurd h List.not_mem_nil⟩⟩⟩⟩) (List.forall_mem_cons.mpr ⟨Or.inl rfl, List.forall_mem_cons.mpr ⟨Or.inl rfl, List.forall_mem_cons.mpr ⟨Or.inl rfl, List.forall_mem_cons.mpr ⟨Or.inl rfl, fun _ h => absurd h List.not_mem_nil⟩⟩⟩⟩) ?_
        refine ih c (t + 1) _ h3 (by omega) (by omega) q1 hvh3 (fun i h1 h2 => ?_) (fun i h1 => ?_) (fun e9 i h1 h2 => ?_) uh3 (by unfold eUp; rw [if_neg (by omega)]; exact q7) kk
        · unfold eUp
          split
          · rename_i e9; rw [show i = t by omega]
          · exact q3 i h1 (by omega)
        · unfold eUp
          split
          · omega
          · exact q4 i (by omega)
        · by_cases e8 : i = t
          · rw [e8, ← q4 t.toNat (by omega)]; assumption
          · exact q5 e9 i h1 (by omega)
      · refine eW_iconst 26 rfl rfl ?_
        refine eW_goto rfl ?_
        refine eW_ior 31 rfl rfl 1 (by rcases q1 with e9 | e9 <;> rw [e9] <;> rfl) ?_
        refine eW_istore_n 32 rfl rfl [(2, vI 1), (0, .ref v), (1, .ref g), (3, vI t)] rfl rfl ?_
        refine eW_aload_n 33 rfl rfl rfl ?_
        refine eW_getfield 36 rfl rfl (Nat.ble_eq_true_of_le (by omega)) rfl q2.1 rfl ⟨rfl, fun _ h9 => nomatch h9⟩ ?_
        refine eW_iload_n 37 rfl rfl rfl ?_
        refine eW_aload_n 38 rfl rfl rfl ?_
        refine eW_iload_n 39 rfl rfl rfl ?_
        refine eW_callV 42 [.ref g, vI t] [vI t, .ref (v + 1)] [vI (gDig G t), vI t, .ref (v + 1)] rfl rfl rfl rfl (Nat.ble_eq_true_of_le (by omega)) (show h g = _ from (q6 _ (by omega)).trans hg.1) rfl rfl rfl (g_digitFor (d := d + 4) (gG_k hg (fun i _ _ => q6 i (by omega))) hG hN2 (by unfold i32; omega)) rfl rfl ?_
        refine eW_iastore 43 rfl rfl (Nat.ble_eq_true_of_le (by omega)) (show h (v + 1) = .inl (0, 7, .inl (eIA A)) from q2.2.1) (by omega) (by omega) (by unfold i32; omega) rfl ?_
        intro h4 eh4 oh4
        have hvh4 : gV h4 v (eUp A t.toNat (gDig G t), V.2.1, V.2.2.1, V.2.2.2.1, V.2.2.2.2) := gV_0 (V := (A, V.2.1, V.2.2.1, V.2.2.2.1, V.2.2.2.2)) q2 eh4 oh4
        have uh4 : ∀ i, (i < v ∨ v + 5 < i) → h4 i = h0 i := fun i hi => (oh4 i (by omega)).trans (q6 i hi)
        refine eW_iinc 46 rfl rfl [(3, vI (t + 1)), (2, vI 1), (0, .ref v), (1, .ref g)] rfl rfl rfl ?_
        refine eW_goto rfl ?_
        refine eW_re [(0, .ref v), (1, .ref g), (2, vI 1), (3, vI (t + 1))] rfl rfl (List.forall_mem_cons.mpr ⟨rfl, List.forall_mem_cons.mpr ⟨rfl, List.forall_mem_cons.mpr ⟨rfl, List.forall_mem_cons.mpr ⟨rfl, fun _ h => absurd h List.not_mem_nil⟩⟩⟩⟩) (List.forall_mem_cons.mpr ⟨Or.inl rfl, List.forall_mem_cons.mpr ⟨Or.inl rfl, List.forall_mem_cons.mpr ⟨Or.inl rfl, List.forall_mem_cons.mpr ⟨Or.inl rfl, fun _ h => absurd h List.not_mem_nil⟩⟩⟩⟩) ?_
        refine ih 1 (t + 1) _ h4 (by omega) (by omega) (Or.inr rfl) hvh4 (fun i h1 h2 => ?_) (fun i h1 => ?_) (fun e9 => absurd e9 (by decide)) uh4 (by unfold eUp; rw [if_neg (by omega)]; exact q7) kk
        · unfold eUp
          split
          · rename_i e9; rw [show i = t by omega]
          · exact q3 i h1 (by omega)
        · unfold eUp
          split
          · omega
          · exact q4 i (by omega)
theorem v_learn {d N : Nat} {h : eHp} {v : Nat} {V : eVs} (hv : gV h v V) {D0 : Int → Int} (hV : gVD V D0) (hN : v + 6 ≤ N) {g : Nat} {G : eGd} (hg : gG h g G) (hG : gOk G) (hN2 : g + 4 ≤ N) (hd : g + 3 < v ∨ v + 5 < g) (hD0 : ∀ t : Int, 1 ≤ t → t ≤ 6 → V.1 t.toNat = D0 t) : eSp (d + 6) eM_X5_learn [.ref v, .ref g] N h (eChg none N (fun h' => ∃ V', gV h' v V' ∧ gVG V' G ∧ ∀ i, (i < v ∨ v + 5 < i) → h' i = h i)) := by
  refine eSp_of [(0, .ref v), (1, .ref g)] rfl rfl ?_
  refine eW_iconst 1 rfl rfl ?_
  refine eW_istore_n 2 rfl rfl [(2, vI 0), (0, .ref v), (1, .ref g)] rfl rfl ?_
  refine eW_iconst 3 rfl rfl ?_
  refine eW_istore_n 4 rfl rfl [(3, vI 1), (2, vI 0), (0, .ref v), (1, .ref g)] rfl rfl ?_
  refine eW_re [(0, .ref v), (1, .ref g), (2, vI 0), (3, vI 1)] rfl rfl (List.forall_mem_cons.mpr ⟨rfl, List.forall_mem_cons.mpr ⟨rfl, List.forall_mem_cons.mpr ⟨rfl, List.forall_mem_cons.mpr ⟨rfl, fun _ h => absurd h List.not_mem_nil⟩⟩⟩⟩) (List.forall_mem_cons.mpr ⟨Or.inl rfl, List.forall_mem_cons.mpr ⟨Or.inl rfl, List.forall_mem_cons.mpr ⟨Or.inl rfl, List.forall_mem_cons.mpr ⟨Or.inl rfl, fun _ h => absurd h List.not_mem_nil⟩⟩⟩⟩) ?_
  refine v_ln_l (h0 := h) hV.1 hN hg hG hN2 hd hV.1.2.2.2.2 _ 0 1 V.1 h (Int.self_le_toNat _) (by omega) (Or.inl rfl) hv (fun i h1 h2 => absurd h1 (by omega)) (fun i _ => rfl) (fun _ i h1 h2 => absurd h1 (by omega)) (fun _ _ => rfl) rfl (fun c t A h1 r0 r1 r2 r3 r4 r5 => ?_)
  have hV2 : gVO (A, V.2) := ⟨hV.1.1, hV.1.2.1, hV.1.2.2.1, hV.1.2.2.2.1, (fun i hi => by
    show 0 ≤ A i ∧ A i ≤ 7
    by_cases h0 : i = 0
    · rw [h0, r3]; exact hV.1.2.2.2.2 0 (by omega)
    · have := r2 i (by omega) (by omega); rw [Int.toNat_natCast] at this; rw [this]; exact gDig_le hG i)⟩
  refine eW_iload_n 50 rfl rfl rfl ?_
  refine eW_if_eq 53 rfl rfl (by unfold i32; omega) (fun c2 => ?_) (fun c2 => ?_)
  · refine eW_ret rfl rfl ?_
    have e9 : c = 0 := by omega
    exact ⟨_, rfl, _, r1, ⟨gVD_congr (D := D0) (fun t a b => by rw [← hD0 t a b]; exact r4 e9 t a b) ⟨hV2, hV.2⟩, r2⟩, r5⟩
  · refine eW_aload_n 54 rfl rfl rfl ?_
    refine eW_aload_n 55 rfl rfl rfl ?_
    refine eW_callVH 58 [.ref v, .ref g] [] [] rfl rfl rfl rfl (Nat.ble_eq_true_of_le (by omega)) r1.1 rfl rfl rfl (v_reckon (d := d) (V := (A, V.2)) r1 hV2 hN (gG_k hg (fun i _ _ => r5 i (by omega))) hG hN2 hd) rfl rfl ?_
    intro h3 fh3
    obtain ⟨L1, B1, T1, F1, k1, k2, k3⟩ := fh3
    have hvh3 : gV h3 v (A, L1, B1, T1, F1) := k1
    have uh3 : ∀ i, (i < v ∨ v + 5 < i) → h3 i = h i := fun i hi => (k3 i hi).trans (r5 i hi)
    refine eW_ret rfl rfl ?_
    exact ⟨_, rfl, _, hvh3, ⟨k2, r2⟩, uh3⟩
def gHasL (D : Int → Int) (m x : Int) : Bool := (gNum m && decide (0 ≤ x)) && gOpt D (gvv D) m x
theorem gHasL_f {D : Int → Int} {m x : Int} (h : ¬ (0 ≤ m ∧ m ≤ 30) ∨ x < 0 ∨ 31 ≤ x) : gHasL D m x = false := by
  unfold gHasL
  by_cases hm : 0 ≤ m ∧ m ≤ 30
  · rcases h with h | h | h
    · exact absurd hm h
    · rw [decide_eq_false (by omega : ¬ 0 ≤ x), Bool.and_false]; rfl
    · rw [gv_no (by omega) (by omega), Bool.and_false]
  · rw [gNum_f hm]; rfl
theorem gHasL_t {D : Int → Int} {m x : Int} (hm : 0 ≤ m ∧ m ≤ 30) (hx : 0 ≤ x) : gHasL D m x = gOpt D (gvv D) m x := by
  unfold gHasL; rw [gNum_t hm, decide_eq_true hx]; rfl
theorem eShrI {b : Nat} {x y : Int} (hy : y = (b : Int)) (hb : b < 2 ^ 31) (hx : 0 ≤ x ∧ x < 32) : ((Int32.ofInt y).toUInt32 >>> ((Int32.ofInt x).toUInt32 &&& Int32.toUInt32 31)).toInt32 = Int32.ofInt ((b >>> x.toNat : Nat) : Int) := by
  have := eUshrN (a := b) (n := x.toNat) (by omega) (by omega)
  rw [Int.toNat_of_nonneg hx.1] at this
  rw [hy]; exact this
theorem gBit31 {D : Int → Int} {b : Nat} {m : Int} (hm : 0 ≤ m ∧ m ≤ 30) (hb : b < 2 ^ 31) (h : ∀ j : Nat, j < 31 → b.testBit j = gOpt D (gvv D) (m.toNat : Nat) j) {x : Int} (hx : 0 ≤ x) : b.testBit x.toNat = gHasL D m x := by
  rw [gHasL_t hm hx]
  by_cases h9 : x.toNat < 31
  · rw [h _ h9, Int.toNat_of_nonneg hx, Int.toNat_of_nonneg hm.1]
  · rw [gv_no (by omega) (by omega)]
    exact Nat.testBit_lt_two_pow (Nat.lt_of_lt_of_le hb (Nat.pow_le_pow_right (by decide) (by omega)))
theorem eBT1 (b n : Nat) : ((((b >>> n) &&& 1 : Nat) : Int) = 1 ∧ b.testBit n = true) ∨ ((((b >>> n) &&& 1 : Nat) : Int) = 0 ∧ b.testBit n = false) := by
  rw [eBitTest]
  cases b.testBit n
  · exact Or.inr ⟨rfl, rfl⟩
  · exact Or.inl ⟨rfl, rfl⟩
theorem v_has {d N : Nat} {h : eHp} {v : Nat} {V : eVs} (hv : gV h v V) {D : Int → Int} (hV : gVD V D) (hN : v + 6 ≤ N) {m x : Int} (hm : i32 m) (hx : i32 x) : eSp (d + 2) eM_X5_hasInList [.ref v, vI m, vI x] N h (eRet (some (vI (eB01 (gHasL D m x)))) N h) := by
  refine eSp_of [(0, .ref v), (1, vI m), (2, vI x)] rfl rfl ?_
  have hb := gNum_c m
  have hx9 := hx
  unfold i32 at hx9
  refine eW_iload_n 1 rfl rfl rfl ?_
  refine eW_callS 4 [vI m] [] [vI (eB01 (gNum m))] rfl rfl rfl (Or.inr rfl) rfl rfl rfl (x_isNumber (d := d + 0) (by assumption)) rfl rfl ?_
  refine eW_if_eq 7 rfl rfl (by unfold i32; omega) (fun c1 => ?_) (fun c1 => ?_)
  · refine eW_iconst 36 rfl rfl ?_
    refine eW_ret_i rfl rfl (Or.inr (Or.inl ⟨rfl, rfl⟩)) ?_
    refine eRet_i ?_
    first
      | (rw [gHasL_f (by omega)]; rfl)
      | (rcases eBT1 b x.toNat with ⟨f1, f2⟩ | ⟨f1, f2⟩ <;> first | (rw [← gBit31 (by omega) e2 e3 (by omega), f2]; rfl) | (exfalso; omega))
  · refine eW_iload_n 8 rfl rfl rfl ?_
    refine eW_if_lt 11 rfl rfl (by unfold i32; omega) (fun c2 => ?_) (fun c2 => ?_)
    · refine eW_iconst 36 rfl rfl ?_
      refine eW_ret_i rfl rfl (Or.inr (Or.inl ⟨rfl, rfl⟩)) ?_
      refine eRet_i ?_
      first
        | (rw [gHasL_f (by omega)]; rfl)
        | (rcases eBT1 b x.toNat with ⟨f1, f2⟩ | ⟨f1, f2⟩ <;> first | (rw [← gBit31 (by omega) e2 e3 (by omega), f2]; rfl) | (exfalso; omega))
    · refine eW_iload_n 12 rfl rfl rfl ?_
      refine eW_bipush 14 rfl rfl 32 rfl ?_
      refine eW_icmp_ge 17 rfl rfl (by unfold i32; omega) (by unfold i32; omega) (fun c3 => ?_) (fun c3 => ?_)
      · refine eW_iconst 36 rfl rfl ?_
        refine eW_ret_i rfl rfl (Or.inr (Or.inl ⟨rfl, rfl⟩)) ?_
        refine eRet_i ?_
        first
          | (rw [gHasL_f (by omega)]; rfl)
          | (rcases eBT1 b x.toNat with ⟨f1, f2⟩ | ⟨f1, f2⟩ <;> first | (rw [← gBit31 (by omega) e2 e3 (by omega), f2]; rfl) | (exfalso; omega))
      · obtain ⟨b, e1, e2, e3⟩ := (hV.2 m.toNat (by omega)).2.2
        have hbt := eBT1 b x.toNat
        refine eW_aload_n 18 rfl rfl rfl ?_
        refine eW_getfield 21 rfl rfl (Nat.ble_eq_true_of_le (by omega)) rfl hv.1 rfl ⟨rfl, fun _ h9 => nomatch h9⟩ ?_
        refine eW_iload_n 22 rfl rfl rfl ?_
        refine eW_iaload 23 rfl rfl (V.2.2.2.1 m.toNat) (Nat.ble_eq_true_of_le (by omega)) (show h (v + 4) = .inl (0, 31, .inl (eIA V.2.2.2.1)) from hv.2.2.2.2.1) (by omega) (by omega) (by unfold i32; omega) rfl ?_
        refine eW_iload_n 24 rfl rfl rfl ?_
        refine eW_iushr 25 rfl rfl (((b >>> x.toNat : Nat) : Int)) (eShrI e1 e2 (by omega)) ?_
        refine eW_iconst 26 rfl rfl ?_
        refine eW_iand 27 rfl rfl ((((b >>> x.toNat) &&& 1 : Nat) : Int)) (eAndC (b >>> x.toNat) 1) ?_
        refine eW_iconst 28 rfl rfl ?_
        refine eW_icmp_ne 31 rfl rfl (by unfold i32; omega) (by unfold i32; omega) (fun c4 => ?_) (fun c4 => ?_)
        · refine eW_iconst 36 rfl rfl ?_
          refine eW_ret_i rfl rfl (Or.inr (Or.inl ⟨rfl, rfl⟩)) ?_
          refine eRet_i ?_
          first
            | (rw [gHasL_f (by omega)]; rfl)
            | (rcases eBT1 b x.toNat with ⟨f1, f2⟩ | ⟨f1, f2⟩ <;> first | (rw [← gBit31 (by omega) e2 e3 (by omega), f2]; rfl) | (exfalso; omega))
        · refine eW_iconst 32 rfl rfl ?_
          refine eW_goto rfl ?_
          refine eW_ret_i rfl rfl (Or.inr (Or.inl ⟨rfl, rfl⟩)) ?_
          refine eRet_i ?_
          first
            | (rw [gHasL_f (by omega)]; rfl)
            | (rcases eBT1 b x.toNat with ⟨f1, f2⟩ | ⟨f1, f2⟩ <;> first | (rw [← gBit31 (by omega) e2 e3 (by omega), f2]; rfl) | (exfalso; omega))
/-- how many values a list has -/
def gCnt (p : Int → Bool) : Nat → Int
  | 0 => 0
  | n + 1 => gCnt p n + eB01 (p n)
theorem gPop_cnt {b : Nat} {p : Int → Bool} : ∀ {n : Nat}, (∀ j : Nat, j < n → b.testBit j = p j) → ((gPop b n : Nat) : Int) = gCnt p n
  | 0, _ => rfl
  | n + 1, h => by
    show ((gPop b n + _ : Nat) : Int) = gCnt p n + eB01 (p n)
    rw [← gPop_cnt (fun j hj => h j (by omega)), ← h n (by omega)]
    cases b.testBit n <;> rfl
theorem v_diff {d N : Nat} {h : eHp} {v : Nat} {V : eVs} (hv : gV h v V) {D : Int → Int} (hV : gVD V D) (hN : v + 6 ≤ N) {m : Int} (hm : i32 m) : eSp (d + 2) eM_X5_differentInList [.ref v, vI m] N h (eRet (some (vI (match gNum m with | true => gCnt (gHasL D m) 32 | false => 0))) N h) := by
  refine eSp_of [(0, .ref v), (1, vI m)] rfl rfl ?_
  have hb := gNum_c m
  refine eW_iload_n 1 rfl rfl rfl ?_
  refine eW_callS 4 [vI m] [] [vI (eB01 (gNum m))] rfl rfl rfl (Or.inr rfl) rfl rfl rfl (x_isNumber (d := d + 0) (by assumption)) rfl rfl ?_
  refine eW_if_eq 7 rfl rfl (by unfold i32; omega) (fun c1 => ?_) (fun c1 => ?_)
  · refine eW_iconst 20 rfl rfl ?_
    refine eW_ret_i rfl rfl (Or.inl rfl) ?_
    refine eRet_i ?_
    first
      | (rw [gNum_f (by omega)])
      | (rw [gNum_t (by omega), gPop_cnt (p := gHasL D m) (fun j hj => by have := gBit31 (by omega) e2 e3 (x := (j : Int)) (by omega); rw [Int.toNat_natCast] at this; exact this)])
  · refine eW_aload_n 8 rfl rfl rfl ?_
    refine eW_getfield 11 rfl rfl (Nat.ble_eq_true_of_le (by omega)) rfl hv.1 rfl ⟨rfl, fun _ h9 => nomatch h9⟩ ?_
    obtain ⟨b, e1, e2, e3⟩ := (hV.2 m.toNat (by omega)).2.2
    refine eW_iload_n 12 rfl rfl rfl ?_
    refine eW_iaload 13 rfl rfl (V.2.2.2.1 m.toNat) (Nat.ble_eq_true_of_le (by omega)) (show h (v + 4) = .inl (0, 31, .inl (eIA V.2.2.2.1)) from hv.2.2.2.2.1) (by omega) (by omega) (by unfold i32; omega) rfl ?_
    refine eW_callS 16 [vI (V.2.2.2.1 m.toNat)] [] [vI (((gPop b 32 : Nat) : Int))] rfl rfl rfl (Or.inl rfl) rfl rfl rfl (by rw [e1]; exact j_bitCount e2) rfl rfl ?_
    refine eW_goto rfl ?_
    refine eW_ret_i rfl rfl (Or.inl rfl) ?_
    refine eRet_i ?_
    first
      | (rw [gNum_f (by omega)])
      | (rw [gNum_t (by omega), gPop_cnt (p := gHasL D m) (fun j hj => by have := gBit31 (by omega) e2 e3 (x := (j : Int)) (by omega); rw [Int.toNat_natCast] at this; exact this)])
