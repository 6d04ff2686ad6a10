/-! the class's line -/
theorem eWp_kz {ox : Nat → Option (Nat × Nat × (Nat → Int32))} {C : eM → List Value → Nat → eHp → eR → Prop} {M : eM} {P : eR → Prop} {pc : Nat} {lv : eLv} {st : List Value} {N : Nat} {h : eHp} {k z : Nat} (k' z' : Nat) (e1 : k = k') (e2 : z = z') (kk : eWp ox C M (pc, lv, st, N, h, k', z') P) : eWp ox C M (pc, lv, st, N, h, k, z) P := by subst e1; subst e2; exact kk
theorem x_line_l {d : Nat} {h0 : eHp} {X : eXs} {G O Q : eGd} {ya yz : Int} {Ks : Nat → eGd} {V : eVs} {S : Int × Int × Int} {T : eTx} {c : Int} (hI : gI c G) (hVG : gVG V G) (hTO : gTO T) {g0 : Nat} {P : eR → Prop} : ∀ (m9 : Nat) (i : Int) (g1 : Nat) (h : eHp), G.2.2.2.1 - i ≤ m9 → 0 ≤ i ∧ i ≤ G.2.2.2.1 → cW h X G O Q ya yz Ks V S T → bW h g1 (gLnP (gDig G) G.1 i.toNat) → eClH (75 + g1) h = true → (g0 ≤ g1 ∧ bSum g0 ≤ bSum g1) → bFr h0 h → (∀ (g1 : Nat) (h : eHp), cW h X G O Q ya yz Ks V S T → bW h g1 (gLnP (gDig G) G.1 G.2.2.2.1.toNat) → eClH (75 + g1) h = true → (g0 ≤ g1 ∧ bSum g0 ≤ bSum g1) → bFr h0 h → eWp eOx (eEv (d + 6)) eM_X6_line (61, [(0, .ref 0)], [], 75 + g1, h, g1 - g0, bSum g1 - bSum g0) P) → eWp eOx (eEv (d + 6)) eM_X6_line (10, [(0, .ref 0), (1, vI i)], [], 75 + g1, h, g1 - g0, bSum g1 - bSum g0) P := by
  intro m9
  induction m9 with
  | zero =>
    intro i g1 h hm9 q0 q1 q2 q3 q4 q5 kk
    have hG := hI.1
    obtain ⟨g1p, g2p, g3p, g4p⟩ := hI.1
    have hV := hVG.1.1
    have hbh := q2
    have hb7h := hbh
    obtain ⟨bh, Bh, mlh, h61h, hbbh, hbdh, hmlh, hfith, hLh, hlenh, hg5h, harrh⟩ := hb7h
    have hll := gLnP_len (D := gDig G) (F := G.1) i.toNat
    have hmi := hI.2.2.1 i.toNat
    have hx1 := gvv_30 (D := gDig G) (G.1 i.toNat)
    refine eW_iload_n 11 rfl rfl rfl ?_
    refine eW_aload_n 12 rfl rfl rfl ?_
    refine eW_getfield 15 rfl rfl (Nat.ble_eq_true_of_le (by omega)) rfl q1.1 rfl ⟨rfl, fun _ h9 => nomatch h9⟩ ?_
    refine eW_callV 18 [.ref 1] [vI i] [vI G.2.2.2.1, vI i] rfl rfl rfl rfl (Nat.ble_eq_true_of_le (by omega)) q1.2.1.1 rfl rfl rfl (g_pits (d := d + 5) q1.2.1 hG (by omega)) rfl rfl ?_
    refine eW_icmp_ge 21 rfl rfl (by unfold i32; omega) (by unfold i32; omega) (fun c1 => ?_) (fun c1 => ?_)
    · refine eW_re [(0, .ref 0)] rfl rfl (List.forall_mem_cons.mpr ⟨rfl, fun _ h => absurd h List.not_mem_nil⟩) (List.forall_mem_cons.mpr ⟨Or.inl rfl, List.forall_mem_cons.mpr ⟨Or.inr ⟨_, rfl⟩, fun _ h => absurd h List.not_mem_nil⟩⟩) ?_
      refine kk g1 h q1 ?_ q3 q4 q5
      rw [show G.2.2.2.1 = i by omega]; exact q2
    · refine eW_aload_n 22 rfl rfl rfl ?_
      refine eW_getfield 25 rfl rfl (Nat.ble_eq_true_of_le (by omega)) rfl q1.1 rfl ⟨rfl, fun _ h9 => nomatch h9⟩ ?_
      refine eW_aload_n 26 rfl rfl rfl ?_
      refine eW_getfield 29 rfl rfl (Nat.ble_eq_true_of_le (by omega)) rfl q1.1 rfl ⟨rfl, fun _ h9 => nomatch h9⟩ ?_
      refine eW_iload_n 30 rfl rfl rfl ?_
      refine eW_callV 33 [.ref 1, vI i] [.ref 61] [vI (gIn G i), .ref 61] rfl rfl rfl rfl (Nat.ble_eq_true_of_le (by omega)) q1.2.1.1 rfl rfl rfl (g_marblesIn (d := d + 4) q1.2.1 hG (by omega) (by unfold i32; omega)) rfl rfl ?_
      rw [show (gIn G i : Int) = G.1 i.toNat from (gIn_t (by omega) (by omega))]
      have hdlq2 := dg_len (G.1 i.toNat)
      refine eW_callM 36 [.ref 61, vI (G.1 i.toNat)] [] (eS_callV rfl rfl rfl (Nat.ble_eq_true_of_le (by omega)) h61h rfl) rfl rfl rfl (by first | rfl | (simp only [eClL, eClV, List.all_cons, List.all_nil, Bool.and_true, Bool.and_eq_true, Bool.true_and, Nat.ble_eq]; first | done | omega)) (bP_M rfl (b_appi (d := d + 1) q2 q3 (n := G.1 i.toNat) (by omega) (by first | omega | (simp only [List.length_append, List.length_cons, List.length_nil]; omega)))) ?_
      intro vh3 nh3 h3 ah3 bh3 fh3
      obtain ⟨rfl, gh3, rfl, rfl, rfl, hggh3, hfrh3, hclh3, hbh3⟩ := fh3
      have hb7h3 := hbh3
      obtain ⟨bh3, Bh3, mlh3, h61h3, hbbh3, hbdh3, hmlh3, hfith3, hLh3, hlenh3, hg5h3, harrh3⟩ := hb7h3
      have hcph3 := bCap_le hg5h3
      have hwh3 : cW h3 X G O Q ya yz Ks V S T := cW_b q1 hfrh3
      have frlh3 : bFr h0 h3 := fun i a1 a2 a3 => (hfrh3 i a1 a2 a3).trans (q5 i a1 a2 a3)
      have hbsh3 := bSum_le hggh3
      show eWp _ _ _ (36, [(0, .ref 0), (1, vI i)], [.ref 61], _, h3, _, _) _
      refine eW_bipush 38 rfl rfl 58 rfl ?_
      refine eW_callM 41 [.ref 61, vI 58] [] (eS_callV rfl rfl rfl (Nat.ble_eq_true_of_le (by omega)) h61h3 rfl) rfl rfl rfl (by first | rfl | (simp only [eClL, eClV, List.all_cons, List.all_nil, Bool.and_true, Bool.and_eq_true, Bool.true_and, Nat.ble_eq]; first | done | omega)) (bP_M rfl (b_appc (d := d + 1) hbh3 hclh3 (c := 58) (by omega) (by first | omega | (simp only [List.length_append, List.length_cons, List.length_nil]; omega)))) ?_
      intro vh4 nh4 h4 ah4 bh4 fh4
      obtain ⟨rfl, gh4, rfl, rfl, rfl, hggh4, hfrh4, hclh4, hbh4⟩ := fh4
      have hb7h4 := hbh4
      obtain ⟨bh4, Bh4, mlh4, h61h4, hbbh4, hbdh4, hmlh4, hfith4, hLh4, hlenh4, hg5h4, harrh4⟩ := hb7h4
      have hcph4 := bCap_le hg5h4
      have hwh4 : cW h4 X G O Q ya yz Ks V S T := cW_b hwh3 hfrh4
      have frlh4 : bFr h0 h4 := fun i a1 a2 a3 => (hfrh4 i a1 a2 a3).trans (frlh3 i a1 a2 a3)
      have hbsh4 := bSum_le hggh4
      show eWp _ _ _ (41, [(0, .ref 0), (1, vI i)], [.ref 61], _, h4, _, _) _
      refine eW_aload_n 42 rfl rfl rfl ?_
      refine eW_iload_n 43 rfl rfl rfl ?_
      refine eW_callV 46 [.ref 0, vI i] [.ref 61] [vI (gVal V.2.1 (gIn G i)), .ref 61] rfl rfl rfl rfl (Nat.ble_eq_true_of_le (by omega)) hwh4.1 rfl rfl rfl (x_valueOfPit (d := d + 3) hwh4.1 hwh4.2.2.2.2.2.1 hV (by omega) hwh4.2.1 hG (by unfold i32; omega)) rfl rfl ?_
      rw [show (gVal V.2.1 (gIn G i) : Int) = gvv (gDig G) (G.1 i.toNat) from (by rw [gIn_t (by omega) (by omega), gV_fun hVG.1])]
      have hdlq5 := dg_len (gvv (gDig G) (G.1 i.toNat))
      refine eW_callM 49 [.ref 61, vI (gvv (gDig G) (G.1 i.toNat))] [] (eS_callV rfl rfl rfl (Nat.ble_eq_true_of_le (by omega)) h61h4 rfl) rfl rfl rfl (by first | rfl | (simp only [eClL, eClV, List.all_cons, List.all_nil, Bool.and_true, Bool.and_eq_true, Bool.true_and, Nat.ble_eq]; first | done | omega)) (bP_M rfl (b_appi (d := d + 1) hbh4 hclh4 (n := gvv (gDig G) (G.1 i.toNat)) (by omega) (by first | omega | (simp only [List.length_append, List.length_cons, List.length_nil]; omega)))) ?_
      intro vh6 nh6 h6 ah6 bh6 fh6
      obtain ⟨rfl, gh6, rfl, rfl, rfl, hggh6, hfrh6, hclh6, hbh6⟩ := fh6
      have hb7h6 := hbh6
      obtain ⟨bh6, Bh6, mlh6, h61h6, hbbh6, hbdh6, hmlh6, hfith6, hLh6, hlenh6, hg5h6, harrh6⟩ := hb7h6
      have hcph6 := bCap_le hg5h6
      have hwh6 : cW h6 X G O Q ya yz Ks V S T := cW_b hwh4 hfrh6
      have frlh6 : bFr h0 h6 := fun i a1 a2 a3 => (hfrh6 i a1 a2 a3).trans (frlh4 i a1 a2 a3)
      have hbsh6 := bSum_le hggh6
      show eWp _ _ _ (49, [(0, .ref 0), (1, vI i)], [.ref 61], _, h6, _, _) _
      refine eW_bipush 51 rfl rfl 32 rfl ?_
      refine eW_callM 54 [.ref 61, vI 32] [] (eS_callV rfl rfl rfl (Nat.ble_eq_true_of_le (by omega)) h61h6 rfl) rfl rfl rfl (by first | rfl | (simp only [eClL, eClV, List.all_cons, List.all_nil, Bool.and_true, Bool.and_eq_true, Bool.true_and, Nat.ble_eq]; first | done | omega)) (bP_M rfl (b_appc (d := d + 1) hbh6 hclh6 (c := 32) (by omega) (by first | omega | (simp only [List.length_append, List.length_cons, List.length_nil]; omega)))) ?_
      intro vh7 nh7 h7 ah7 bh7 fh7
      obtain ⟨rfl, gh7, rfl, rfl, rfl, hggh7, hfrh7, hclh7, hbh7⟩ := fh7
      have hb7h7 := hbh7
      obtain ⟨bh7, Bh7, mlh7, h61h7, hbbh7, hbdh7, hmlh7, hfith7, hLh7, hlenh7, hg5h7, harrh7⟩ := hb7h7
      have hcph7 := bCap_le hg5h7
      have hwh7 : cW h7 X G O Q ya yz Ks V S T := cW_b hwh6 hfrh7
      have frlh7 : bFr h0 h7 := fun i a1 a2 a3 => (hfrh7 i a1 a2 a3).trans (frlh6 i a1 a2 a3)
      have hbsh7 := bSum_le hggh7
      show eWp _ _ _ (54, [(0, .ref 0), (1, vI i)], [.ref 61], _, h7, _, _) _
      refine eW_pop 55 rfl rfl rfl ?_
      refine eW_iinc 58 rfl rfl [(1, vI (i + 1)), (0, .ref 0)] rfl rfl rfl ?_
      refine eW_goto rfl ?_
      refine eW_re [(0, .ref 0), (1, vI (i + 1))] rfl rfl (List.forall_mem_cons.mpr ⟨rfl, List.forall_mem_cons.mpr ⟨rfl, fun _ h => absurd h List.not_mem_nil⟩⟩) (List.forall_mem_cons.mpr ⟨Or.inl rfl, List.forall_mem_cons.mpr ⟨Or.inl rfl, fun _ h => absurd h List.not_mem_nil⟩⟩) ?_
      exact absurd hm9 (by omega)
  | succ m9 ih =>
    intro i g1 h hm9 q0 q1 q2 q3 q4 q5 kk
    have hG := hI.1
    obtain ⟨g1p, g2p, g3p, g4p⟩ := hI.1
    have hV := hVG.1.1
    have hbh := q2
    have hb7h := hbh
    obtain ⟨bh, Bh, mlh, h61h, hbbh, hbdh, hmlh, hfith, hLh, hlenh, hg5h, harrh⟩ := hb7h
    have hll := gLnP_len (D := gDig G) (F := G.1) i.toNat
    have hmi := hI.2.2.1 i.toNat
    have hx1 := gvv_30 (D := gDig G) (G.1 i.toNat)
    refine eW_iload_n 11 rfl rfl rfl ?_
    refine eW_aload_n 12 rfl rfl rfl ?_
    refine eW_getfield 15 rfl rfl (Nat.ble_eq_true_of_le (by omega)) rfl q1.1 rfl ⟨rfl, fun _ h9 => nomatch h9⟩ ?_
    refine eW_callV 18 [.ref 1] [vI i] [vI G.2.2.2.1, vI i] rfl rfl rfl rfl (Nat.ble_eq_true_of_le (by omega)) q1.2.1.1 rfl rfl rfl (g_pits (d := d + 5) q1.2.1 hG (by omega)) rfl rfl ?_
    refine eW_icmp_ge 21 rfl rfl (by unfold i32; omega) (by unfold i32; omega) (fun c1 => ?_) (fun c1 => ?_)
    · refine eW_re [(0, .ref 0)] rfl rfl (List.forall_mem_cons.mpr ⟨rfl, fun _ h => absurd h List.not_mem_nil⟩) (List.forall_mem_cons.mpr ⟨Or.inl rfl, List.forall_mem_cons.mpr ⟨Or.inr ⟨_, rfl⟩, fun _ h => absurd h List.not_mem_nil⟩⟩) ?_
      refine kk g1 h q1 ?_ q3 q4 q5
      rw [show G.2.2.2.1 = i by omega]; exact q2
    · refine eW_aload_n 22 rfl rfl rfl ?_
      refine eW_getfield 25 rfl rfl (Nat.ble_eq_true_of_le (by omega)) rfl q1.1 rfl ⟨rfl, fun _ h9 => nomatch h9⟩ ?_
      refine eW_aload_n 26 rfl rfl rfl ?_
      refine eW_getfield 29 rfl rfl (Nat.ble_eq_true_of_le (by omega)) rfl q1.1 rfl ⟨rfl, fun _ h9 => nomatch h9⟩ ?_
      refine eW_iload_n 30 rfl rfl rfl ?_
      refine eW_callV 33 [.ref 1, vI i] [.ref 61] [vI (gIn G i), .ref 61] rfl rfl rfl rfl (Nat.ble_eq_true_of_le (by omega)) q1.2.1.1 rfl rfl rfl (g_marblesIn (d := d + 4) q1.2.1 hG (by omega) (by unfold i32; omega)) rfl rfl ?_
      rw [show (gIn G i : Int) = G.1 i.toNat from (gIn_t (by omega) (by omega))]
      have hdlq2 := dg_len (G.1 i.toNat)
      refine eW_callM 36 [.ref 61, vI (G.1 i.toNat)] [] (eS_callV rfl rfl rfl (Nat.ble_eq_true_of_le (by omega)) h61h rfl) rfl rfl rfl (by first | rfl | (simp only [eClL, eClV, List.all_cons, List.all_nil, Bool.and_true, Bool.and_eq_true, Bool.true_and, Nat.ble_eq]; first | done | omega)) (bP_M rfl (b_appi (d := d + 1) q2 q3 (n := G.1 i.toNat) (by omega) (by first | omega | (simp only [List.length_append, List.length_cons, List.length_nil]; omega)))) ?_
      intro vh3 nh3 h3 ah3 bh3 fh3
      obtain ⟨rfl, gh3, rfl, rfl, rfl, hggh3, hfrh3, hclh3, hbh3⟩ := fh3
      have hb7h3 := hbh3
      obtain ⟨bh3, Bh3, mlh3, h61h3, hbbh3, hbdh3, hmlh3, hfith3, hLh3, hlenh3, hg5h3, harrh3⟩ := hb7h3
      have hcph3 := bCap_le hg5h3
      have hwh3 : cW h3 X G O Q ya yz Ks V S T := cW_b q1 hfrh3
      have frlh3 : bFr h0 h3 := fun i a1 a2 a3 => (hfrh3 i a1 a2 a3).trans (q5 i a1 a2 a3)
      have hbsh3 := bSum_le hggh3
      show eWp _ _ _ (36, [(0, .ref 0), (1, vI i)], [.ref 61], _, h3, _, _) _
      refine eW_bipush 38 rfl rfl 58 rfl ?_
      refine eW_callM 41 [.ref 61, vI 58] [] (eS_callV rfl rfl rfl (Nat.ble_eq_true_of_le (by omega)) h61h3 rfl) rfl rfl rfl (by first | rfl | (simp only [eClL, eClV, List.all_cons, List.all_nil, Bool.and_true, Bool.and_eq_true, Bool.true_and, Nat.ble_eq]; first | done | omega)) (bP_M rfl (b_appc (d := d + 1) hbh3 hclh3 (c := 58) (by omega) (by first | omega | (simp only [List.length_append, List.length_cons, List.length_nil]; omega)))) ?_
      intro vh4 nh4 h4 ah4 bh4 fh4
      obtain ⟨rfl, gh4, rfl, rfl, rfl, hggh4, hfrh4, hclh4, hbh4⟩ := fh4
      have hb7h4 := hbh4
      obtain ⟨bh4, Bh4, mlh4, h61h4, hbbh4, hbdh4, hmlh4, hfith4, hLh4, hlenh4, hg5h4, harrh4⟩ := hb7h4
      have hcph4 := bCap_le hg5h4
      have hwh4 : cW h4 X G O Q ya yz Ks V S T := cW_b hwh3 hfrh4
      have frlh4 : bFr h0 h4 := fun i a1 a2 a3 => (hfrh4 i a1 a2 a3).trans (frlh3 i a1 a2 a3)
      have hbsh4 := bSum_le hggh4
      show eWp _ _ _ (41, [(0, .ref 0), (1, vI i)], [.ref 61], _, h4, _, _) _
      refine eW_aload_n 42 rfl rfl rfl ?_
      refine eW_iload_n 43 rfl rfl rfl ?_
      refine eW_callV 46 [.ref 0, vI i] [.ref 61] [vI (gVal V.2.1 (gIn G i)), .ref 61] rfl rfl rfl rfl (Nat.ble_eq_true_of_le (by omega)) hwh4.1 rfl rfl rfl (x_valueOfPit (d := d + 3) hwh4.1 hwh4.2.2.2.2.2.1 hV (by omega) hwh4.2.1 hG (by unfold i32; omega)) rfl rfl ?_
      rw [show (gVal V.2.1 (gIn G i) : Int) = gvv (gDig G) (G.1 i.toNat) from (by rw [gIn_t (by omega) (by omega), gV_fun hVG.1])]
      have hdlq5 := dg_len (gvv (gDig G) (G.1 i.toNat))
      refine eW_callM 49 [.ref 61, vI (gvv (gDig G) (G.1 i.toNat))] [] (eS_callV rfl rfl rfl (Nat.ble_eq_true_of_le (by omega)) h61h4 rfl) rfl rfl rfl (by first | rfl | (simp only [eClL, eClV, List.all_cons, List.all_nil, Bool.and_true, Bool.and_eq_true, Bool.true_and, Nat.ble_eq]; first | done | omega)) (bP_M rfl (b_appi (d := d + 1) hbh4 hclh4 (n := gvv (gDig G) (G.1 i.toNat)) (by omega) (by first | omega | (simp only [List.length_append, List.length_cons, List.length_nil]; omega)))) ?_
      intro vh6 nh6 h6 ah6 bh6 fh6
      obtain ⟨rfl, gh6, rfl, rfl, rfl, hggh6, hfrh6, hclh6, hbh6⟩ := fh6
      have hb7h6 := hbh6
      obtain ⟨bh6, Bh6, mlh6, h61h6, hbbh6, hbdh6, hmlh6, hfith6, hLh6, hlenh6, hg5h6, harrh6⟩ := hb7h6
      have hcph6 := bCap_le hg5h6
      have hwh6 : cW h6 X G O Q ya yz Ks V S T := cW_b hwh4 hfrh6
      have frlh6 : bFr h0 h6 := fun i a1 a2 a3 => (hfrh6 i a1 a2 a3).trans (frlh4 i a1 a2 a3)
      have hbsh6 := bSum_le hggh6
      show eWp _ _ _ (49, [(0, .ref 0), (1, vI i)], [.ref 61], _, h6, _, _) _
      refine eW_bipush 51 rfl rfl 32 rfl ?_
      refine eW_callM 54 [.ref 61, vI 32] [] (eS_callV rfl rfl rfl (Nat.ble_eq_true_of_le (by omega)) h61h6 rfl) rfl rfl rfl (by first | rfl | (simp only [eClL, eClV, List.all_cons, List.all_nil, Bool.and_true, Bool.and_eq_true, Bool.true_and, Nat.ble_eq]; first | done | omega)) (bP_M rfl (b_appc (d := d + 1) hbh6 hclh6 (c := 32) (by omega) (by first | omega | (simp only [List.length_append, List.length_cons, List.length_nil]; omega)))) ?_
      intro vh7 nh7 h7 ah7 bh7 fh7
      obtain ⟨rfl, gh7, rfl, rfl, rfl, hggh7, hfrh7, hclh7, hbh7⟩ := fh7
      have hb7h7 := hbh7
      obtain ⟨bh7, Bh7, mlh7, h61h7, hbbh7, hbdh7, hmlh7, hfith7, hLh7, hlenh7, hg5h7, harrh7⟩ := hb7h7
      have hcph7 := bCap_le hg5h7
      have hwh7 : cW h7 X G O Q ya yz Ks V S T := cW_b hwh6 hfrh7
      have frlh7 : bFr h0 h7 := fun i a1 a2 a3 => (hfrh7 i a1 a2 a3).trans (frlh6 i a1 a2 a3)
      have hbsh7 := bSum_le hggh7
      show eWp _ _ _ (54, [(0, .ref 0), (1, vI i)], [.ref 61], _, h7, _, _) _
      refine eW_pop 55 rfl rfl rfl ?_
      refine eW_iinc 58 rfl rfl [(1, vI (i + 1)), (0, .ref 0)] rfl rfl rfl ?_
      refine eW_goto rfl ?_
      refine eW_re [(0, .ref 0), (1, vI (i + 1))] rfl rfl (List.forall_mem_cons.mpr ⟨rfl, List.forall_mem_cons.mpr ⟨rfl, fun _ h => absurd h List.not_mem_nil⟩⟩) (List.forall_mem_cons.mpr ⟨Or.inl rfl, List.forall_mem_cons.mpr ⟨Or.inl rfl, fun _ h => absurd h List.not_mem_nil⟩⟩) ?_
      refine eWp_kz (gh7 - g0) (bSum gh7 - bSum g0) (by omega) (by omega) ?_
      refine ih (i + 1) gh7 h7 (by omega) (by omega) hwh7 ?_ hclh7 (by omega) frlh7 kk
      rw [show (i + 1).toNat = i.toNat + 1 by omega]
      exact hbh7
theorem bP_e {g k z : Nat} {h h' : eHp} {v : Option Value} {G : Nat → eHp → Prop} (g' : Nat) (e1 : k = g' - g) (e2 : z = bSum g' - bSum g) (hh : g ≤ g' ∧ bFr h h' ∧ eClH (75 + g') h' = true ∧ G g' h') : bP g h v G (.inl v, 75 + g', h', k, z) := by subst e1; subst e2; exact ⟨g', h', rfl, hh⟩
theorem x_line {d : Nat} {h : eHp} {X : eXs} {G O Q : eGd} {ya yz : Int} {Ks : Nat → eGd} {V : eVs} {S : Int × Int × Int} {T : eTx} (hw : cW h X G O Q ya yz Ks V S T) {c : Int} (hI : gI c G) (hVG : gVG V G) (hTO : gTO T) {g : Nat} {L : List Int} (hb : bW h g L) (hcl : eClH (75 + g) h = true) : eSp (d + 7) eM_X6_line [.ref 0] (75 + g) h (bP g h (some (vI ((gLine G).length : Int))) (fun g' h' => bW h' g' (gLine G) ∧ cW h' X G O Q ya yz Ks V S T)) := by
  have hG := hI.1
  obtain ⟨g1p, g2p, g3p, g4p⟩ := hI.1
  have hV := hVG.1.1
  have hbh := hb
  have hb7h := hbh
  obtain ⟨bh, Bh, mlh, h61h, hbbh, hbdh, hmlh, hfith, hLh, hlenh, hg5h, harrh⟩ := hb7h
  have hsm := gSm_le G
  refine eSp_of [(0, .ref 0)] rfl rfl ?_
  refine eW_aload_n 1 rfl rfl rfl ?_
  refine eW_getfield 4 rfl rfl (Nat.ble_eq_true_of_le (by omega)) rfl hw.1 rfl ⟨rfl, fun _ h9 => nomatch h9⟩ ?_
  refine eW_iconst 5 rfl rfl ?_
  refine eW_callM 8 [.ref 61, vI 0] [] (eS_callV rfl rfl rfl (Nat.ble_eq_true_of_le (by omega)) h61h rfl) rfl rfl rfl (by first | rfl | (simp only [eClL, eClV, List.all_cons, List.all_nil, Bool.and_true, Bool.and_eq_true, Bool.true_and, Nat.ble_eq]; first | done | omega)) (bP_M rfl (b_set (d := d + 1) hb hcl)) ?_
  intro vh1 nh1 h1 ah1 bh1 fh1
  obtain ⟨rfl, gh1, rfl, rfl, rfl, hggh1, hfrh1, hclh1, hbh1⟩ := fh1
  have hb7h1 := hbh1
  obtain ⟨bh1, Bh1, mlh1, h61h1, hbbh1, hbdh1, hmlh1, hfith1, hLh1, hlenh1, hg5h1, harrh1⟩ := hb7h1
  have hcph1 := bCap_le hg5h1
  have hwh1 : cW h1 X G O Q ya yz Ks V S T := cW_b hw hfrh1
  have frlh1 : bFr h h1 := fun i a1 a2 a3 => (hfrh1 i a1 a2 a3).trans ((fun _ _ _ _ => rfl) i a1 a2 a3)
  have hbsh1 := bSum_le hggh1
  show eWp _ _ _ (8, [(0, .ref 0)], [], _, h1, _, _) _
  refine eW_iconst 9 rfl rfl ?_
  refine eW_istore_n 10 rfl rfl [(1, vI 0), (0, .ref 0)] rfl rfl ?_
  refine eW_re [(0, .ref 0), (1, vI 0)] rfl rfl (List.forall_mem_cons.mpr ⟨rfl, List.forall_mem_cons.mpr ⟨rfl, fun _ h => absurd h List.not_mem_nil⟩⟩) (List.forall_mem_cons.mpr ⟨Or.inl rfl, List.forall_mem_cons.mpr ⟨Or.inl rfl, fun _ h => absurd h List.not_mem_nil⟩⟩) ?_
  refine eWp_kz (gh1 - g) (bSum gh1 - bSum g) (by omega) (by omega) ?_
  refine x_line_l (d := d) hI hVG hTO _ 0 gh1 h1 (Int.self_le_toNat _) (by omega) hwh1 hbh1 hclh1 (by omega) frlh1 (fun g9 h2 r1 r2 r3 r4 r5 => ?_)
  have hb9 := r2
  have hll := gLnP_len (D := gDig G) (F := G.1) G.2.2.2.1.toNat
  have hb79 := hb9
  obtain ⟨b9, B9, ml9, h619, hbb9, hbd9, hml9, hfit9, hL9, hlen9, hg59, harr9⟩ := hb79
  refine eW_aload_n 62 rfl rfl rfl ?_
  refine eW_getfield 65 rfl rfl (Nat.ble_eq_true_of_le (by omega)) rfl r1.1 rfl ⟨rfl, fun _ h9 => nomatch h9⟩ ?_
  refine eW_bipush 67 rfl rfl 61 rfl ?_
  refine eW_callM 70 [.ref 61, vI 61] [] (eS_callV rfl rfl rfl (Nat.ble_eq_true_of_le (by omega)) h619 rfl) rfl rfl rfl (by first | rfl | (simp only [eClL, eClV, List.all_cons, List.all_nil, Bool.and_true, Bool.and_eq_true, Bool.true_and, Nat.ble_eq]; first | done | omega)) (bP_M rfl (b_appc (d := d + 1) r2 r3 (c := 61) (by omega) (by first | omega | (simp only [List.length_append, List.length_cons, List.length_nil]; omega)))) ?_
  intro vh3 nh3 h3 ah3 bh3 fh3
  obtain ⟨rfl, gh3, rfl, rfl, rfl, hggh3, hfrh3, hclh3, hbh3⟩ := fh3
  have hb7h3 := hbh3
  obtain ⟨bh3, Bh3, mlh3, h61h3, hbbh3, hbdh3, hmlh3, hfith3, hLh3, hlenh3, hg5h3, harrh3⟩ := hb7h3
  have hcph3 := bCap_le hg5h3
  have hwh3 : cW h3 X G O Q ya yz Ks V S T := cW_b r1 hfrh3
  have frlh3 : bFr h h3 := fun i a1 a2 a3 => (hfrh3 i a1 a2 a3).trans (r5 i a1 a2 a3)
  have hbsh3 := bSum_le hggh3
  show eWp _ _ _ (70, [(0, .ref 0)], [.ref 61], _, h3, _, _) _
  refine eW_aload_n 71 rfl rfl rfl ?_
  refine eW_aload_n 72 rfl rfl rfl ?_
  refine eW_getfield 75 rfl rfl (Nat.ble_eq_true_of_le (by omega)) rfl hwh3.1 rfl ⟨rfl, fun _ h9 => nomatch h9⟩ ?_
  refine eW_callV 78 [.ref 0, .ref 1] [.ref 61] [vI (gSm G), .ref 61] rfl rfl rfl rfl (Nat.ble_eq_true_of_le (by omega)) hwh3.1 rfl rfl rfl (by have u := x_sumOf (d := d + 3) (N := 75 + gh3) hwh3.1 hwh3.2.2.2.2.2.1 hV (by omega) hwh3.2.1 hG (by omega); rw [gSumV_eq hVG.1] at u; exact u) rfl rfl ?_
  have hdlq4 := dg_len (gSm G)
  refine eW_callM 81 [.ref 61, vI (gSm G)] [] (eS_callV rfl rfl rfl (Nat.ble_eq_true_of_le (by omega)) h61h3 rfl) rfl rfl rfl (by first | rfl | (simp only [eClL, eClV, List.all_cons, List.all_nil, Bool.and_true, Bool.and_eq_true, Bool.true_and, Nat.ble_eq]; first | done | omega)) (bP_M rfl (b_appi (d := d + 1) hbh3 hclh3 (n := gSm G) (by omega) (by first | omega | (simp only [List.length_append, List.length_cons, List.length_nil]; omega)))) ?_
  intro vh5 nh5 h5 ah5 bh5 fh5
  obtain ⟨rfl, gh5, rfl, rfl, rfl, hggh5, hfrh5, hclh5, hbh5⟩ := fh5
  have hb7h5 := hbh5
  obtain ⟨bh5, Bh5, mlh5, h61h5, hbbh5, hbdh5, hmlh5, hfith5, hLh5, hlenh5, hg5h5, harrh5⟩ := hb7h5
  have hcph5 := bCap_le hg5h5
  have hwh5 : cW h5 X G O Q ya yz Ks V S T := cW_b hwh3 hfrh5
  have frlh5 : bFr h h5 := fun i a1 a2 a3 => (hfrh5 i a1 a2 a3).trans (frlh3 i a1 a2 a3)
  have hbsh5 := bSum_le hggh5
  show eWp _ _ _ (81, [(0, .ref 0)], [.ref 61], _, h5, _, _) _
  refine eW_pop 82 rfl rfl rfl ?_
  refine eW_aload_n 83 rfl rfl rfl ?_
  refine eW_getfield 86 rfl rfl (Nat.ble_eq_true_of_le (by omega)) rfl hwh5.1 rfl ⟨rfl, fun _ h9 => nomatch h9⟩ ?_
  refine eW_callV 89 [.ref 61] [] [vI (((((gLnP (gDig G) G.1 G.2.2.2.1.toNat) ++ [61]) ++ dg (gSm G)).length : Int))] rfl rfl rfl rfl (Nat.ble_eq_true_of_le (by omega)) h61h5 rfl rfl rfl (b_len (d := d + 4) hbh5) rfl rfl ?_
  refine eW_ret_i rfl rfl (Or.inl rfl) ?_
  refine bP_e (gh5) (by omega) (by omega) ⟨by omega, frlh5, hclh5, hbh5, hwh5⟩
