/-! the class's line of values -/
theorem x_vline_l {d : Nat} {h0 : eHp} {X : eXs} {G O Q : eGd} {ya yz : Int} {Ks : Nat → eGd} {V : eVs} {S : Int × Int × Int} {T : eTx} {c : Int} (hI : gI c G) (hVG : gVG V G) (hTO : gTO T) {m : Int} (hm30 : 0 ≤ m ∧ m ≤ 30) {g0 : Nat} {P : eR → Prop} : ∀ (m9 : Nat) (i : Int) (g1 : Nat) (h : eHp), m + 1 - i ≤ m9 → 0 ≤ i ∧ i ≤ m + 1 → cW h X G O Q ya yz Ks V S T → bW h g1 (gVln (gDig G) i.toNat) → eClH (75 + g1) h = true → (g0 ≤ g1 ∧ bSum g0 ≤ bSum g1) → bFr h0 h → (∀ (g1 : Nat) (h : eHp), cW h X G O Q ya yz Ks V S T → bW h g1 (gVln (gDig G) (m + 1).toNat) → eClH (75 + g1) h = true → (g0 ≤ g1 ∧ bSum g0 ≤ bSum g1) → bFr h0 h → eWp eOx (eEv (d + 6)) eM_X6_valuesLine (68, [(0, .ref 0), (1, vI m)], [], 75 + g1, h, g1 - g0, bSum g1 - bSum g0) P) → eWp eOx (eEv (d + 6)) eM_X6_valuesLine (27, [(0, .ref 0), (1, vI m), (2, vI i)], [], 75 + g1, h, g1 - g0, bSum g1 - bSum g0) P := by
  intro m9
  induction m9 with
  | zero =>
    intro i g1 h hm9 q0 q1 q2 q3 q4 q5 kk
    have hG := hI.1
    have hV := hVG.1.1
    have hbh := q2
    have hb7h := hbh
    obtain ⟨bh, Bh, mlh, h61h, hbbh, hbdh, hmlh, hfith, hLh, hlenh, hg5h, harrh⟩ := hb7h
    have hll := gVln_len (D := gDig G) i.toNat
    have hx1 := gvv_30 (D := gDig G) i
    refine eW_iload_n 28 rfl rfl rfl ?_
    refine eW_iload_n 29 rfl rfl rfl ?_
    refine eW_icmp_gt 32 rfl rfl (by unfold i32; omega) (by unfold i32; omega) (fun c1 => ?_) (fun c1 => ?_)
    · refine eW_re [(0, .ref 0), (1, vI m)] rfl rfl (List.forall_mem_cons.mpr ⟨rfl, List.forall_mem_cons.mpr ⟨rfl, fun _ h => absurd h List.not_mem_nil⟩⟩) (List.forall_mem_cons.mpr ⟨Or.inl rfl, List.forall_mem_cons.mpr ⟨Or.inl rfl, List.forall_mem_cons.mpr ⟨Or.inr ⟨_, rfl⟩, fun _ h => absurd h List.not_mem_nil⟩⟩⟩) ?_
      refine kk g1 h q1 ?_ q3 q4 q5
      rw [show m + 1 = i by omega]; exact q2
    · refine eW_iload_n 33 rfl rfl rfl ?_
      refine eW_if_le 36 rfl rfl (by unfold i32; omega) (fun c2 => ?_) (fun c2 => ?_)
      · refine eW_aload_n 47 rfl rfl rfl ?_
        refine eW_getfield 50 rfl rfl (Nat.ble_eq_true_of_le (by omega)) rfl q1.1 rfl ⟨rfl, fun _ h9 => nomatch h9⟩ ?_
        refine eW_aload_n 51 rfl rfl rfl ?_
        refine eW_getfield 54 rfl rfl (Nat.ble_eq_true_of_le (by omega)) rfl q1.1 rfl ⟨rfl, fun _ h9 => nomatch h9⟩ ?_
        refine eW_iload_n 55 rfl rfl rfl ?_
        refine eW_callV 58 [.ref 47, vI i] [.ref 61] [vI (gVal V.2.1 i), .ref 61] rfl rfl rfl rfl (Nat.ble_eq_true_of_le (by omega)) q1.2.2.2.2.2.1.1 rfl rfl rfl (v_of (d := d + 4) q1.2.2.2.2.2.1 hV (by omega) (by unfold i32; omega)) rfl rfl ?_
        rw [show (gVal V.2.1 i : Int) = gvv (gDig G) i from (by rw [gV_fun hVG.1])]
        have hdlq3 := dg_len (gvv (gDig G) i)
        refine eW_callM 61 [.ref 61, vI (gvv (gDig G) i)] [] (eS_callV rfl rfl rfl (Nat.ble_eq_true_of_le (by omega)) h61h rfl) rfl rfl rfl (by first | rfl | (simp only [eClL, eClV, List.all_cons, List.all_nil, Bool.and_true, Bool.and_eq_true, Bool.true_and, Nat.ble_eq]; first | done | omega)) (bP_M rfl (b_appi (d := d + 1) q2 q3 (n := gvv (gDig G) i) (by omega) (by first | omega | (simp only [List.length_append, List.length_cons, List.length_nil]; omega)))) ?_
        intro vh4 nh4 h4 ah4 bh4 fh4
        obtain ⟨rfl, gh4, rfl, rfl, rfl, hggh4, hfrh4, hclh4, hbh4⟩ := fh4
        have hb7h4 := hbh4
        obtain ⟨bh4, Bh4, mlh4, h61h4, hbbh4, hbdh4, hmlh4, hfith4, hLh4, hlenh4, hg5h4, harrh4⟩ := hb7h4
        have hcph4 := bCap_le hg5h4
        have hwh4 : cW h4 X G O Q ya yz Ks V S T := cW_b q1 hfrh4
        have frlh4 : bFr h0 h4 := fun i a1 a2 a3 => (hfrh4 i a1 a2 a3).trans (q5 i a1 a2 a3)
        have hbsh4 := bSum_le hggh4
        show eWp _ _ _ (61, [(0, .ref 0), (1, vI m), (2, vI i)], [.ref 61], _, h4, _, _) _
        refine eW_pop 62 rfl rfl rfl ?_
        refine eW_iinc 65 rfl rfl [(2, vI (i + 1)), (0, .ref 0), (1, vI m)] rfl rfl rfl ?_
        refine eW_goto rfl ?_
        refine eW_re [(0, .ref 0), (1, vI m), (2, vI (i + 1))] rfl rfl (List.forall_mem_cons.mpr ⟨rfl, List.forall_mem_cons.mpr ⟨rfl, List.forall_mem_cons.mpr ⟨rfl, fun _ h => absurd h List.not_mem_nil⟩⟩⟩) (List.forall_mem_cons.mpr ⟨Or.inl rfl, List.forall_mem_cons.mpr ⟨Or.inl rfl, List.forall_mem_cons.mpr ⟨Or.inl rfl, fun _ h => absurd h List.not_mem_nil⟩⟩⟩) ?_
        exact absurd hm9 (by omega)
      · refine eW_aload_n 37 rfl rfl rfl ?_
        refine eW_getfield 40 rfl rfl (Nat.ble_eq_true_of_le (by omega)) rfl q1.1 rfl ⟨rfl, fun _ h9 => nomatch h9⟩ ?_
        refine eW_bipush 42 rfl rfl 44 rfl ?_
        refine eW_callM 45 [.ref 61, vI 44] [] (eS_callV rfl rfl rfl (Nat.ble_eq_true_of_le (by omega)) h61h rfl) rfl rfl rfl (by first | rfl | (simp only [eClL, eClV, List.all_cons, List.all_nil, Bool.and_true, Bool.and_eq_true, Bool.true_and, Nat.ble_eq]; first | done | omega)) (bP_M rfl (b_appc (d := d + 1) q2 q3 (c := 44) (by omega) (by first | omega | (simp only [List.length_append, List.length_cons, List.length_nil]; omega)))) ?_
        intro vh5 nh5 h5 ah5 bh5 fh5
        obtain ⟨rfl, gh5, rfl, rfl, rfl, hggh5, hfrh5, hclh5, hbh5⟩ := fh5
        have hb7h5 := hbh5
        obtain ⟨bh5, Bh5, mlh5, h61h5, hbbh5, hbdh5, hmlh5, hfith5, hLh5, hlenh5, hg5h5, harrh5⟩ := hb7h5
        have hcph5 := bCap_le hg5h5
        have hwh5 : cW h5 X G O Q ya yz Ks V S T := cW_b q1 hfrh5
        have frlh5 : bFr h0 h5 := fun i a1 a2 a3 => (hfrh5 i a1 a2 a3).trans (q5 i a1 a2 a3)
        have hbsh5 := bSum_le hggh5
        show eWp _ _ _ (45, [(0, .ref 0), (1, vI m), (2, vI i)], [.ref 61], _, h5, _, _) _
        refine eW_pop 46 rfl rfl rfl ?_
        refine eW_aload_n 47 rfl rfl rfl ?_
        refine eW_getfield 50 rfl rfl (Nat.ble_eq_true_of_le (by omega)) rfl hwh5.1 rfl ⟨rfl, fun _ h9 => nomatch h9⟩ ?_
        refine eW_aload_n 51 rfl rfl rfl ?_
        refine eW_getfield 54 rfl rfl (Nat.ble_eq_true_of_le (by omega)) rfl hwh5.1 rfl ⟨rfl, fun _ h9 => nomatch h9⟩ ?_
        refine eW_iload_n 55 rfl rfl rfl ?_
        refine eW_callV 58 [.ref 47, vI i] [.ref 61] [vI (gVal V.2.1 i), .ref 61] rfl rfl rfl rfl (Nat.ble_eq_true_of_le (by omega)) hwh5.2.2.2.2.2.1.1 rfl rfl rfl (v_of (d := d + 4) hwh5.2.2.2.2.2.1 hV (by omega) (by unfold i32; omega)) rfl rfl ?_
        rw [show (gVal V.2.1 i : Int) = gvv (gDig G) i from (by rw [gV_fun hVG.1])]
        have hdlq6 := dg_len (gvv (gDig G) i)
        refine eW_callM 61 [.ref 61, vI (gvv (gDig G) i)] [] (eS_callV rfl rfl rfl (Nat.ble_eq_true_of_le (by omega)) h61h5 rfl) rfl rfl rfl (by first | rfl | (simp only [eClL, eClV, List.all_cons, List.all_nil, Bool.and_true, Bool.and_eq_true, Bool.true_and, Nat.ble_eq]; first | done | omega)) (bP_M rfl (b_appi (d := d + 1) hbh5 hclh5 (n := gvv (gDig G) i) (by omega) (by first | omega | (simp only [List.length_append, List.length_cons, List.length_nil]; omega)))) ?_
        intro vh7 nh7 h7 ah7 bh7 fh7
        obtain ⟨rfl, gh7, rfl, rfl, rfl, hggh7, hfrh7, hclh7, hbh7⟩ := fh7
        have hb7h7 := hbh7
        obtain ⟨bh7, Bh7, mlh7, h61h7, hbbh7, hbdh7, hmlh7, hfith7, hLh7, hlenh7, hg5h7, harrh7⟩ := hb7h7
        have hcph7 := bCap_le hg5h7
        have hwh7 : cW h7 X G O Q ya yz Ks V S T := cW_b hwh5 hfrh7
        have frlh7 : bFr h0 h7 := fun i a1 a2 a3 => (hfrh7 i a1 a2 a3).trans (frlh5 i a1 a2 a3)
        have hbsh7 := bSum_le hggh7
        show eWp _ _ _ (61, [(0, .ref 0), (1, vI m), (2, vI i)], [.ref 61], _, h7, _, _) _
        refine eW_pop 62 rfl rfl rfl ?_
        refine eW_iinc 65 rfl rfl [(2, vI (i + 1)), (0, .ref 0), (1, vI m)] rfl rfl rfl ?_
        refine eW_goto rfl ?_
        refine eW_re [(0, .ref 0), (1, vI m), (2, vI (i + 1))] rfl rfl (List.forall_mem_cons.mpr ⟨rfl, List.forall_mem_cons.mpr ⟨rfl, List.forall_mem_cons.mpr ⟨rfl, fun _ h => absurd h List.not_mem_nil⟩⟩⟩) (List.forall_mem_cons.mpr ⟨Or.inl rfl, List.forall_mem_cons.mpr ⟨Or.inl rfl, List.forall_mem_cons.mpr ⟨Or.inl rfl, fun _ h => absurd h List.not_mem_nil⟩⟩⟩) ?_
        exact absurd hm9 (by omega)
  | succ m9 ih =>
    intro i g1 h hm9 q0 q1 q2 q3 q4 q5 kk
    have hG := hI.1
    have hV := hVG.1.1
    have hbh := q2
    have hb7h := hbh
    obtain ⟨bh, Bh, mlh, h61h, hbbh, hbdh, hmlh, hfith, hLh, hlenh, hg5h, harrh⟩ := hb7h
    have hll := gVln_len (D := gDig G) i.toNat
    have hx1 := gvv_30 (D := gDig G) i
    refine eW_iload_n 28 rfl rfl rfl ?_
    refine eW_iload_n 29 rfl rfl rfl ?_
    refine eW_icmp_gt 32 rfl rfl (by unfold i32; omega) (by unfold i32; omega) (fun c1 => ?_) (fun c1 => ?_)
    · refine eW_re [(0, .ref 0), (1, vI m)] rfl rfl (List.forall_mem_cons.mpr ⟨rfl, List.forall_mem_cons.mpr ⟨rfl, fun _ h => absurd h List.not_mem_nil⟩⟩) (List.forall_mem_cons.mpr ⟨Or.inl rfl, List.forall_mem_cons.mpr ⟨Or.inl rfl, List.forall_mem_cons.mpr ⟨Or.inr ⟨_, rfl⟩, fun _ h => absurd h List.not_mem_nil⟩⟩⟩) ?_
      refine kk g1 h q1 ?_ q3 q4 q5
      rw [show m + 1 = i by omega]; exact q2
    · refine eW_iload_n 33 rfl rfl rfl ?_
      refine eW_if_le 36 rfl rfl (by unfold i32; omega) (fun c2 => ?_) (fun c2 => ?_)
      · refine eW_aload_n 47 rfl rfl rfl ?_
        refine eW_getfield 50 rfl rfl (Nat.ble_eq_true_of_le (by omega)) rfl q1.1 rfl ⟨rfl, fun _ h9 => nomatch h9⟩ ?_
        refine eW_aload_n 51 rfl rfl rfl ?_
        refine eW_getfield 54 rfl rfl (Nat.ble_eq_true_of_le (by omega)) rfl q1.1 rfl ⟨rfl, fun _ h9 => nomatch h9⟩ ?_
        refine eW_iload_n 55 rfl rfl rfl ?_
        refine eW_callV 58 [.ref 47, vI i] [.ref 61] [vI (gVal V.2.1 i), .ref 61] rfl rfl rfl rfl (Nat.ble_eq_true_of_le (by omega)) q1.2.2.2.2.2.1.1 rfl rfl rfl (v_of (d := d + 4) q1.2.2.2.2.2.1 hV (by omega) (by unfold i32; omega)) rfl rfl ?_
        rw [show (gVal V.2.1 i : Int) = gvv (gDig G) i from (by rw [gV_fun hVG.1])]
        have hdlq3 := dg_len (gvv (gDig G) i)
        refine eW_callM 61 [.ref 61, vI (gvv (gDig G) i)] [] (eS_callV rfl rfl rfl (Nat.ble_eq_true_of_le (by omega)) h61h rfl) rfl rfl rfl (by first | rfl | (simp only [eClL, eClV, List.all_cons, List.all_nil, Bool.and_true, Bool.and_eq_true, Bool.true_and, Nat.ble_eq]; first | done | omega)) (bP_M rfl (b_appi (d := d + 1) q2 q3 (n := gvv (gDig G) i) (by omega) (by first | omega | (simp only [List.length_append, List.length_cons, List.length_nil]; omega)))) ?_
        intro vh4 nh4 h4 ah4 bh4 fh4
        obtain ⟨rfl, gh4, rfl, rfl, rfl, hggh4, hfrh4, hclh4, hbh4⟩ := fh4
        have hb7h4 := hbh4
        obtain ⟨bh4, Bh4, mlh4, h61h4, hbbh4, hbdh4, hmlh4, hfith4, hLh4, hlenh4, hg5h4, harrh4⟩ := hb7h4
        have hcph4 := bCap_le hg5h4
        have hwh4 : cW h4 X G O Q ya yz Ks V S T := cW_b q1 hfrh4
        have frlh4 : bFr h0 h4 := fun i a1 a2 a3 => (hfrh4 i a1 a2 a3).trans (q5 i a1 a2 a3)
        have hbsh4 := bSum_le hggh4
        show eWp _ _ _ (61, [(0, .ref 0), (1, vI m), (2, vI i)], [.ref 61], _, h4, _, _) _
        refine eW_pop 62 rfl rfl rfl ?_
        refine eW_iinc 65 rfl rfl [(2, vI (i + 1)), (0, .ref 0), (1, vI m)] rfl rfl rfl ?_
        refine eW_goto rfl ?_
        refine eW_re [(0, .ref 0), (1, vI m), (2, vI (i + 1))] rfl rfl (List.forall_mem_cons.mpr ⟨rfl, List.forall_mem_cons.mpr ⟨rfl, List.forall_mem_cons.mpr ⟨rfl, fun _ h => absurd h List.not_mem_nil⟩⟩⟩) (List.forall_mem_cons.mpr ⟨Or.inl rfl, List.forall_mem_cons.mpr ⟨Or.inl rfl, List.forall_mem_cons.mpr ⟨Or.inl rfl, fun _ h => absurd h List.not_mem_nil⟩⟩⟩) ?_
        refine eWp_kz (gh4 - g0) (bSum gh4 - bSum g0) (by omega) (by omega) ?_
        refine ih (i + 1) gh4 h4 (by omega) (by omega) hwh4 ?_ hclh4 (by omega) frlh4 kk
        have hv9 : gv (gDig G) i.toNat = gvv (gDig G) i := by unfold gvv; rw [gVal_t (by omega)]
        rw [show (i + 1).toNat = i.toNat + 1 by omega]
        unfold gVln
        rw [hv9]
        first
          | (rw [if_pos (by omega)]; exact hbh4)
          | (rw [if_neg (by omega), List.append_nil]; exact hbh4)
      · refine eW_aload_n 37 rfl rfl rfl ?_
        refine eW_getfield 40 rfl rfl (Nat.ble_eq_true_of_le (by omega)) rfl q1.1 rfl ⟨rfl, fun _ h9 => nomatch h9⟩ ?_
        refine eW_bipush 42 rfl rfl 44 rfl ?_
        refine eW_callM 45 [.ref 61, vI 44] [] (eS_callV rfl rfl rfl (Nat.ble_eq_true_of_le (by omega)) h61h rfl) rfl rfl rfl (by first | rfl | (simp only [eClL, eClV, List.all_cons, List.all_nil, Bool.and_true, Bool.and_eq_true, Bool.true_and, Nat.ble_eq]; first | done | omega)) (bP_M rfl (b_appc (d := d + 1) q2 q3 (c := 44) (by omega) (by first | omega | (simp only [List.length_append, List.length_cons, List.length_nil]; omega)))) ?_
        intro vh5 nh5 h5 ah5 bh5 fh5
        obtain ⟨rfl, gh5, rfl, rfl, rfl, hggh5, hfrh5, hclh5, hbh5⟩ := fh5
        have hb7h5 := hbh5
        obtain ⟨bh5, Bh5, mlh5, h61h5, hbbh5, hbdh5, hmlh5, hfith5, hLh5, hlenh5, hg5h5, harrh5⟩ := hb7h5
        have hcph5 := bCap_le hg5h5
        have hwh5 : cW h5 X G O Q ya yz Ks V S T := cW_b q1 hfrh5
        have frlh5 : bFr h0 h5 := fun i a1 a2 a3 => (hfrh5 i a1 a2 a3).trans (q5 i a1 a2 a3)
        have hbsh5 := bSum_le hggh5
        show eWp _ _ _ (45, [(0, .ref 0), (1, vI m), (2, vI i)], [.ref 61], _, h5, _, _) _
        refine eW_pop 46 rfl rfl rfl ?_
        refine eW_aload_n 47 rfl rfl rfl ?_
        refine eW_getfield 50 rfl rfl (Nat.ble_eq_true_of_le (by omega)) rfl hwh5.1 rfl ⟨rfl, fun _ h9 => nomatch h9⟩ ?_
        refine eW_aload_n 51 rfl rfl rfl ?_
        refine eW_getfield 54 rfl rfl (Nat.ble_eq_true_of_le (by omega)) rfl hwh5.1 rfl ⟨rfl, fun _ h9 => nomatch h9⟩ ?_
        refine eW_iload_n 55 rfl rfl rfl ?_
        refine eW_callV 58 [.ref 47, vI i] [.ref 61] [vI (gVal V.2.1 i), .ref 61] rfl rfl rfl rfl (Nat.ble_eq_true_of_le (by omega)) hwh5.2.2.2.2.2.1.1 rfl rfl rfl (v_of (d := d + 4) hwh5.2.2.2.2.2.1 hV (by omega) (by unfold i32; omega)) rfl rfl ?_
        rw [show (gVal V.2.1 i : Int) = gvv (gDig G) i from (by rw [gV_fun hVG.1])]
        have hdlq6 := dg_len (gvv (gDig G) i)
        refine eW_callM 61 [.ref 61, vI (gvv (gDig G) i)] [] (eS_callV rfl rfl rfl (Nat.ble_eq_true_of_le (by omega)) h61h5 rfl) rfl rfl rfl (by first | rfl | (simp only [eClL, eClV, List.all_cons, List.all_nil, Bool.and_true, Bool.and_eq_true, Bool.true_and, Nat.ble_eq]; first | done | omega)) (bP_M rfl (b_appi (d := d + 1) hbh5 hclh5 (n := gvv (gDig G) i) (by omega) (by first | omega | (simp only [List.length_append, List.length_cons, List.length_nil]; omega)))) ?_
        intro vh7 nh7 h7 ah7 bh7 fh7
        obtain ⟨rfl, gh7, rfl, rfl, rfl, hggh7, hfrh7, hclh7, hbh7⟩ := fh7
        have hb7h7 := hbh7
        obtain ⟨bh7, Bh7, mlh7, h61h7, hbbh7, hbdh7, hmlh7, hfith7, hLh7, hlenh7, hg5h7, harrh7⟩ := hb7h7
        have hcph7 := bCap_le hg5h7
        have hwh7 : cW h7 X G O Q ya yz Ks V S T := cW_b hwh5 hfrh7
        have frlh7 : bFr h0 h7 := fun i a1 a2 a3 => (hfrh7 i a1 a2 a3).trans (frlh5 i a1 a2 a3)
        have hbsh7 := bSum_le hggh7
        show eWp _ _ _ (61, [(0, .ref 0), (1, vI m), (2, vI i)], [.ref 61], _, h7, _, _) _
        refine eW_pop 62 rfl rfl rfl ?_
        refine eW_iinc 65 rfl rfl [(2, vI (i + 1)), (0, .ref 0), (1, vI m)] rfl rfl rfl ?_
        refine eW_goto rfl ?_
        refine eW_re [(0, .ref 0), (1, vI m), (2, vI (i + 1))] rfl rfl (List.forall_mem_cons.mpr ⟨rfl, List.forall_mem_cons.mpr ⟨rfl, List.forall_mem_cons.mpr ⟨rfl, fun _ h => absurd h List.not_mem_nil⟩⟩⟩) (List.forall_mem_cons.mpr ⟨Or.inl rfl, List.forall_mem_cons.mpr ⟨Or.inl rfl, List.forall_mem_cons.mpr ⟨Or.inl rfl, fun _ h => absurd h List.not_mem_nil⟩⟩⟩) ?_
        refine eWp_kz (gh7 - g0) (bSum gh7 - bSum g0) (by omega) (by omega) ?_
        refine ih (i + 1) gh7 h7 (by omega) (by omega) hwh7 ?_ hclh7 (by omega) frlh7 kk
        have hv9 : gv (gDig G) i.toNat = gvv (gDig G) i := by unfold gvv; rw [gVal_t (by omega)]
        rw [show (i + 1).toNat = i.toNat + 1 by omega]
        unfold gVln
        rw [hv9]
        first
          | (rw [if_pos (by omega)]; exact hbh7)
          | (rw [if_neg (by omega), List.append_nil]; exact hbh7)
theorem x_vline {d : Nat} {h : eHp} {X : eXs} {G O Q : eGd} {ya yz : Int} {Ks : Nat → eGd} {V : eVs} {S : Int × Int × Int} {T : eTx} (hw : cW h X G O Q ya yz Ks V S T) {c : Int} (hI : gI c G) (hVG : gVG V G) (hTO : gTO T) {g : Nat} {L : List Int} (hb : bW h g L) (hcl : eClH (75 + g) h = true) {m : Int} (hm : i32 m) : eSp (d + 7) eM_X6_valuesLine [.ref 0, vI m] (75 + g) h (match gNum m with | true => bP g h (some (vI ((gVln (gDig G) (m + 1).toNat).length : Int))) (fun g' h' => bW h' g' (gVln (gDig G) (m + 1).toNat) ∧ cW h' X G O Q ya yz Ks V S T) | false => fun q => q = (.inr nIAE, 75 + g, h, 1, 6)) := by
  have hG := hI.1
  have hV := hVG.1.1
  have hbh := hb
  have hb7h := hbh
  obtain ⟨bh, Bh, mlh, h61h, hbbh, hbdh, hmlh, hfith, hLh, hlenh, hg5h, harrh⟩ := hb7h
  have hm2 := hm
  unfold i32 at hm2
  refine eSp_of [(0, .ref 0), (1, vI m)] rfl rfl ?_
  refine eW_iload_n 1 rfl rfl rfl ?_
  have hnu := eB01_c (gNum m)
  refine eW_callS 4 [vI m] [] [vI (eB01 (gNum m))] rfl rfl rfl (Or.inl rfl) rfl rfl rfl (x_isNumber (d := d + 5) hm) rfl rfl ?_
  refine eW_if_ne 7 rfl rfl (by unfold i32; omega) (fun c1 => ?_) (fun c1 => ?_)
  · refine eW_aload_n 18 rfl rfl rfl ?_
    refine eW_getfield 21 rfl rfl (Nat.ble_eq_true_of_le (by omega)) rfl hw.1 rfl ⟨rfl, fun _ h9 => nomatch h9⟩ ?_
    refine eW_iconst 22 rfl rfl ?_
    refine eW_callM 25 [.ref 61, vI 0] [] (eS_callV rfl rfl rfl (Nat.ble_eq_true_of_le (by omega)) h61h rfl) rfl rfl rfl (by first | rfl | (simp only [eClL, eClV, List.all_cons, List.all_nil, Bool.and_true, Bool.and_eq_true, Bool.true_and, Nat.ble_eq]; first | done | omega)) (bP_M rfl (b_set (d := d + 1) hb hcl)) ?_
    intro vh2 nh2 h2 ah2 bh2 fh2
    obtain ⟨rfl, gh2, rfl, rfl, rfl, hggh2, hfrh2, hclh2, hbh2⟩ := fh2
    have hb7h2 := hbh2
    obtain ⟨bh2, Bh2, mlh2, h61h2, hbbh2, hbdh2, hmlh2, hfith2, hLh2, hlenh2, hg5h2, harrh2⟩ := hb7h2
    have hcph2 := bCap_le hg5h2
    have hwh2 : cW h2 X G O Q ya yz Ks V S T := cW_b hw hfrh2
    have frlh2 : bFr h h2 := fun i a1 a2 a3 => (hfrh2 i a1 a2 a3).trans ((fun _ _ _ _ => rfl) i a1 a2 a3)
    have hbsh2 := bSum_le hggh2
    show eWp _ _ _ (25, [(0, .ref 0), (1, vI m)], [], _, h2, _, _) _
    refine eW_iconst 26 rfl rfl ?_
    refine eW_istore_n 27 rfl rfl [(2, vI 0), (0, .ref 0), (1, vI m)] rfl rfl ?_
    refine eW_re [(0, .ref 0), (1, vI m), (2, vI 0)] rfl rfl (List.forall_mem_cons.mpr ⟨rfl, List.forall_mem_cons.mpr ⟨rfl, List.forall_mem_cons.mpr ⟨rfl, fun _ h => absurd h List.not_mem_nil⟩⟩⟩) (List.forall_mem_cons.mpr ⟨Or.inl rfl, List.forall_mem_cons.mpr ⟨Or.inl rfl, List.forall_mem_cons.mpr ⟨Or.inl rfl, fun _ h => absurd h List.not_mem_nil⟩⟩⟩) ?_
    have hm30 : 0 ≤ m ∧ m ≤ 30 := by rcases hnu with e | e; (by_cases h9 : 0 ≤ m ∧ m ≤ 30; exact h9; (have e1 := e.1; unfold gNum at e1; revert e1; simp only [decide_eq_true_eq, Bool.and_eq_true]; intro e1; omega)); exact absurd e.2 (by omega)
    refine eWp_kz (gh2 - g) (bSum gh2 - bSum g) (by omega) (by omega) ?_
    refine x_vline_l (d := d) hI hVG hTO hm30 _ 0 gh2 h2 (Int.self_le_toNat _) (by omega) hwh2 hbh2 hclh2 (by omega) frlh2 (fun g9 h3 r1 r2 r3 r4 r5 => ?_)
    have hb9 := r2
    have hb79 := hb9
    obtain ⟨b9, B9, ml9, h619, hbb9, hbd9, hml9, hfit9, hL9, hlen9, hg59, harr9⟩ := hb79
    refine eW_aload_n 69 rfl rfl rfl ?_
    refine eW_getfield 72 rfl rfl (Nat.ble_eq_true_of_le (by omega)) rfl r1.1 rfl ⟨rfl, fun _ h9 => nomatch h9⟩ ?_
    refine eW_callV 75 [.ref 61] [] [vI (((gVln (gDig G) (m + 1).toNat).length : Int))] rfl rfl rfl rfl (Nat.ble_eq_true_of_le (by omega)) h619 rfl rfl rfl (b_len (d := d + 4) r2) rfl rfl ?_
    refine eW_ret_i rfl rfl (Or.inl rfl) ?_
    have hnt : gNum m = true := by rcases hnu with e | e; exact e.1; exact absurd e.2 (by omega)
    rw [hnt]
    refine bP_e (g9) (by omega) (by omega) ⟨by omega, r5, r3, r2, r1⟩
  · refine eW_throw rfl rfl rfl rfl ?_
    have hnf : gNum m = false := by rcases hnu with e | e; exact absurd e.2 (by omega); exact e.1
    rw [hnf]
    exact rfl
