/-! the class's public changes -/
theorem oPit_0 {G : eGd} {n : Int} (h : (oPit G n).1 = 0) : oPit G n = (0, 0, 0, gPit G n) := by
  unfold oPit at h ⊢
  by_cases h1 : 1 ≤ n ∧ n ≤ 30
  · rw [if_pos h1] at h ⊢
    by_cases h2 : 40 < gSum G.1 G.2.2.2.1.toNat + n
    · rw [if_pos h2] at h; exact absurd (show (3 : Int) = 0 from h) (by decide)
    · rw [if_neg h2]
  · rw [if_neg h1] at h; exact absurd (show (2 : Int) = 0 from h) (by decide)
theorem oScp_0 {G : eGd} {p t l : Int} (h : (oScp G p t l).1 = 0) : (oScp G p t l).2.2.2 = gMake G (p, t, l) := by
  unfold oScp at h ⊢
  by_cases h1 : 0 ≤ p ∧ p < G.2.2.2.1
  · rw [if_pos h1] at h ⊢
    by_cases h2 : (1 ≤ t ∧ t ≤ 6) ∧ 0 ≤ l ∧ (l = 0 → G.1 p.toNat ≤ t)
    · rw [if_pos h2] at h ⊢
      by_cases h3 : G.1 p.toNat - t < l
      · rw [if_pos h3] at h; exact absurd (show (3 : Int) = 0 from h) (by decide)
      · rw [if_neg h3] at h ⊢
        by_cases h4 : gLets (gDig G) (G.1 p.toNat) t l = true
        · rw [if_pos h4]
        · rw [if_neg h4] at h; exact absurd (show (3 : Int) = 0 from h) (by decide)
    · rw [if_neg h2] at h; exact absurd (show (2 : Int) = 0 from h) (by decide)
  · rw [if_neg h1] at h; exact absurd (show (1 : Int) = 0 from h) (by decide)
theorem oPit_d (G : eGd) (n : Int) : gDig (oPit G n).2.2.2 = gDig G := by unfold oPit; split; split; rfl; rfl; rfl
theorem oScp_d (G : eGd) (p t l : Int) : gDig (oScp G p t l).2.2.2 = gDig G := by
  unfold oScp
  split
  · split
    · split
      · rfl
      · split <;> rfl
    · rfl
  · rfl
theorem oNxt_d (G : eGd) : gDig (oNxt G).2.2.2 = gDig G := by unfold oNxt; split <;> rfl
theorem oPly_d (G : eGd) : gDig (oPly G).2.2.2 = gDig G := by unfold oPly; cases gTd G <;> rfl
theorem oDig_n {G : eGd} {t x : Int} (h : (oDig G t x).1 ≠ 0) : (oDig G t x).2.2.2 = G := by
  unfold oDig at h ⊢
  split
  · rename_i h1
    split
    · rfl
    · rename_i h2; rw [if_pos h1, if_neg h2] at h; exact absurd rfl h
  · rfl
theorem x_pit {d N : Nat} {h : eHp} {X : eXs} {G O Q : eGd} {ya yz : Int} {Ks : Nat → eGd} {V : eVs} {S : Int × Int × Int} {T : eTx} (hw : cW h X G O Q ya yz Ks V S T) (hN : 75 ≤ N) {c : Int} (hI : gI c G) (hVG : gVG V G) (ha : 0 ≤ ya ∧ ya < 8) (hz : 0 ≤ yz ∧ yz ≤ 8) (hTO : gTO T) {n : Int} (hn : i32 n) : eSp (d + 5) eM_X6_pit [.ref 0, vI n] N h (cA (aPD (oPit G n).1 (G.2.2.2.1 + 1 - 1)) N h (fun h' => ∃ V' S', cW h' (oX X (oPit G n)) (oPit G n).2.2.2 (gBec G O) Q (kE (oPit G n).1 ya yz Ks (gBec G O)).1 (kE (oPit G n).1 ya yz Ks (gBec G O)).2.1 (kE (oPit G n).1 ya yz Ks (gBec G O)).2.2 V' S' T ∧ gVG V' (oPit G n).2.2.2)) := by
  refine eSp_of [(0, .ref 0), (1, vI n)] rfl rfl ?_
  have hG := hI.1
  have hG9 := hG
  obtain ⟨g1, g2, g3, g4⟩ := hG9
  have hV := hVG.1.1
  have hVD := hVG.1
  unfold i32 at hn
  have hGn := (gI_oPit hI n).1
  refine eW_aload_n 1 rfl rfl rfl ?_
  refine eW_getfield 4 rfl rfl (Nat.ble_eq_true_of_le (by omega)) rfl hw.1 rfl ⟨rfl, fun _ h9 => nomatch h9⟩ ?_
  refine eW_aload_n 5 rfl rfl rfl ?_
  refine eW_getfield 8 rfl rfl (Nat.ble_eq_true_of_le (by omega)) rfl hw.1 rfl ⟨rfl, fun _ h9 => nomatch h9⟩ ?_
  refine eW_callVH 11 [.ref 5, .ref 1] [] [] rfl rfl rfl rfl (Nat.ble_eq_true_of_le (by omega)) hw.2.2.1.1 rfl rfl rfl (g_become (d := d + 3) (g := 5) (o := 1) hw.2.2.1 (by omega) hw.2.1 (by omega) (by omega)) rfl rfl ?_
  intro h1 fh1
  have oh1 := fh1.2
  have hwh1 : cW h1 X G ((gBec G O)) Q ya yz Ks V S T := ⟨gX_k hw.1 (oh1 0 (by omega)), gG_k hw.2.1 (fun i _ _ => oh1 i (by omega)), fh1.1, gG_k hw.2.2.2.1 (fun i _ _ => oh1 i (by omega)), gH_k hw.2.2.2.2.1 (fun i _ _ => oh1 i (by omega)), gV_k hw.2.2.2.2.2.1 (fun i _ _ => oh1 i (by omega)), gS_k hw.2.2.2.2.2.2.1 (oh1 56 (by omega)), gT_k hw.2.2.2.2.2.2.2.1 (fun i _ _ => oh1 i (by omega)), gK_k hw.2.2.2.2.2.2.2.2 (fun i _ _ => oh1 i (by omega))⟩
  have frh1 : cFr h h1 := fun i hi => (oh1 i (by omega)).trans ((fun _ _ => rfl) i hi)
  refine eW_aload_n 12 rfl rfl rfl ?_
  refine eW_iload_n 13 rfl rfl rfl ?_
  have hend := oPit_e G n
  refine eW_callVH 16 [.ref 0, vI n] [] [vI ((oPit G n).1)] rfl rfl rfl rfl (Nat.ble_eq_true_of_le (by omega)) hwh1.1 rfl rfl rfl (x_tryPit (d := d + 0) hwh1 hN hI ha hz hTO (by unfold i32; omega)) rfl rfl ?_
  intro h2 fh2
  obtain ⟨S1, hwh2, gh2⟩ := fh2
  have hwh2 : cW h2 ((oX X (oPit G n))) ((oPit G n).2.2.2) ((gBec G O)) Q ya yz Ks V S1 T := hwh2
  have frh2 : cFr h h2 := fun i hi => (gh2 i hi).trans (frh1 i hi)
  refine eW_istore_n 17 rfl rfl [(2, vI ((oPit G n).1)), (0, .ref 0), (1, vI n)] rfl rfl ?_
  refine eW_iload_n 18 rfl rfl rfl ?_
  refine eW_iconst 19 rfl rfl ?_
  refine eW_icmp_ne 22 rfl rfl (by unfold i32; omega) (by unfold i32; omega) (fun c3 => ?_) (fun c3 => ?_)
  · refine eW_iload_n 33 rfl rfl rfl ?_
    refine eW_iconst 34 rfl rfl ?_
    refine eW_icmp_ne 37 rfl rfl (by unfold i32; omega) (by unfold i32; omega) (fun c4 => ?_) (fun c4 => ?_)
    · refine eW_aload_n 48 rfl rfl rfl ?_
      refine eW_getfield 51 rfl rfl (Nat.ble_eq_true_of_le (by omega)) rfl hwh2.1 rfl ⟨rfl, fun _ h9 => nomatch h9⟩ ?_
      refine eW_aload_n 52 rfl rfl rfl ?_
      refine eW_getfield 55 rfl rfl (Nat.ble_eq_true_of_le (by omega)) rfl hwh2.1 rfl ⟨rfl, fun _ h9 => nomatch h9⟩ ?_
      refine eW_callVH 58 [.ref 13, .ref 5] [] [] rfl rfl rfl rfl (Nat.ble_eq_true_of_le (by omega)) hwh2.2.2.2.2.1.1 rfl rfl rfl (h_keep (d := d + 2) hwh2.2.2.2.2.1 (by omega) ha hz (g := 5) hwh2.2.2.1 (by omega) (by omega)) rfl rfl ?_
      intro h5 fh5
      have oh5 := fh5.2
      have hwh5 : cW h5 ((oX X (oPit G n))) ((oPit G n).2.2.2) ((gBec G O)) Q ((gKeep ya yz Ks ((gBec G O))).1) ((gKeep ya yz Ks ((gBec G O))).2.1) ((gKeep ya yz Ks ((gBec G O))).2.2) V S1 T := ⟨gX_k hwh2.1 (oh5 0 (by omega)), gG_k hwh2.2.1 (fun i _ _ => oh5 i (by omega)), gG_k hwh2.2.2.1 (fun i _ _ => oh5 i (by omega)), gG_k hwh2.2.2.2.1 (fun i _ _ => oh5 i (by omega)), fh5.1, gV_k hwh2.2.2.2.2.2.1 (fun i _ _ => oh5 i (by omega)), gS_k hwh2.2.2.2.2.2.2.1 (oh5 56 (by omega)), gT_k hwh2.2.2.2.2.2.2.2.1 (fun i _ _ => oh5 i (by omega)), gK_k hwh2.2.2.2.2.2.2.2.2 (fun i _ _ => oh5 i (by omega))⟩
      have frh5 : cFr h h5 := fun i hi => (oh5 i (by omega)).trans (frh2 i hi)
      refine eW_aload_n 59 rfl rfl rfl ?_
      refine eW_getfield 62 rfl rfl (Nat.ble_eq_true_of_le (by omega)) rfl hwh5.1 rfl ⟨rfl, fun _ h9 => nomatch h9⟩ ?_
      refine eW_callV 65 [.ref 1] [] [vI (((oPit G n).2.2.2).2.2.2.1)] rfl rfl rfl rfl (Nat.ble_eq_true_of_le (by omega)) hwh5.2.1.1 rfl rfl rfl (g_pits (d := d + 3) hwh5.2.1 hGn (by omega)) rfl rfl ?_
      refine eW_iconst 66 rfl rfl ?_
      refine eW_isub 67 rfl rfl ?_
      refine eW_ret_i rfl rfl (Or.inl rfl) ?_
      refine cA_i ?_ frh5 ⟨V, S1, by rw [kE_0 (by omega)]; exact hwh5, gVG_d (oPit_d G n) hVG⟩
      unfold aPD
      repeat (first | rw [if_pos (by omega)] | rw [if_neg (by omega)])
      rw [oPit_0 (by omega)]; rfl
    · refine eW_throw rfl rfl rfl rfl ?_
      refine cA_x ?_ frh2 ⟨V, S1, by rw [kE_n (by omega)]; exact hwh2, gVG_d (oPit_d G n) hVG⟩
      unfold aPD
      repeat (first | rw [if_pos (by omega)] | rw [if_neg (by omega)])
      rfl
  · refine eW_throw rfl rfl rfl rfl ?_
    refine cA_x ?_ frh2 ⟨V, S1, by rw [kE_n (by omega)]; exact hwh2, gVG_d (oPit_d G n) hVG⟩
    unfold aPD
    repeat (first | rw [if_pos (by omega)] | rw [if_neg (by omega)])
    rfl
theorem x_scoop {d N : Nat} {h : eHp} {X : eXs} {G O Q : eGd} {ya yz : Int} {Ks : Nat → eGd} {V : eVs} {S : Int × Int × Int} {T : eTx} (hw : cW h X G O Q ya yz Ks V S T) (hN : 75 ≤ N) {c : Int} (hI : gI c G) (hVG : gVG V G) (ha : 0 ≤ ya ∧ ya < 8) (hz : 0 ≤ yz ∧ yz ≤ 8) (hTO : gTO T) {p t l : Int} (hp : i32 p) (ht : i32 t) (hl : i32 l) : eSp (d + 5) eM_X6_scoop [.ref 0, vI p, vI t, vI l] N h (cA (aSc (oScp G p t l).1 (gMake G (p, t, l)).2.2.2.1) N h (fun h' => ∃ V' S', cW h' (oX X (oScp G p t l)) (oScp G p t l).2.2.2 (gBec G O) Q (kE (oScp G p t l).1 ya yz Ks (gBec G O)).1 (kE (oScp G p t l).1 ya yz Ks (gBec G O)).2.1 (kE (oScp G p t l).1 ya yz Ks (gBec G O)).2.2 V' S' T ∧ gVG V' (oScp G p t l).2.2.2)) := by
  refine eSp_of [(0, .ref 0), (1, vI p), (2, vI t), (3, vI l)] rfl rfl ?_
  have hG := hI.1
  have hG9 := hG
  obtain ⟨g1, g2, g3, g4⟩ := hG9
  have hV := hVG.1.1
  have hVD := hVG.1
  unfold i32 at hp ht hl
  have hGn := (gI_oScp hI p t l).1
  refine eW_aload_n 1 rfl rfl rfl ?_
  refine eW_getfield 4 rfl rfl (Nat.ble_eq_true_of_le (by omega)) rfl hw.1 rfl ⟨rfl, fun _ h9 => nomatch h9⟩ ?_
  refine eW_aload_n 5 rfl rfl rfl ?_
  refine eW_getfield 8 rfl rfl (Nat.ble_eq_true_of_le (by omega)) rfl hw.1 rfl ⟨rfl, fun _ h9 => nomatch h9⟩ ?_
  refine eW_callVH 11 [.ref 5, .ref 1] [] [] rfl rfl rfl rfl (Nat.ble_eq_true_of_le (by omega)) hw.2.2.1.1 rfl rfl rfl (g_become (d := d + 3) (g := 5) (o := 1) hw.2.2.1 (by omega) hw.2.1 (by omega) (by omega)) rfl rfl ?_
  intro h1 fh1
  have oh1 := fh1.2
  have hwh1 : cW h1 X G ((gBec G O)) Q ya yz Ks V S T := ⟨gX_k hw.1 (oh1 0 (by omega)), gG_k hw.2.1 (fun i _ _ => oh1 i (by omega)), fh1.1, gG_k hw.2.2.2.1 (fun i _ _ => oh1 i (by omega)), gH_k hw.2.2.2.2.1 (fun i _ _ => oh1 i (by omega)), gV_k hw.2.2.2.2.2.1 (fun i _ _ => oh1 i (by omega)), gS_k hw.2.2.2.2.2.2.1 (oh1 56 (by omega)), gT_k hw.2.2.2.2.2.2.2.1 (fun i _ _ => oh1 i (by omega)), gK_k hw.2.2.2.2.2.2.2.2 (fun i _ _ => oh1 i (by omega))⟩
  have frh1 : cFr h h1 := fun i hi => (oh1 i (by omega)).trans ((fun _ _ => rfl) i hi)
  refine eW_aload_n 12 rfl rfl rfl ?_
  refine eW_iload_n 13 rfl rfl rfl ?_
  refine eW_iload_n 14 rfl rfl rfl ?_
  refine eW_iload_n 15 rfl rfl rfl ?_
  have hend := oScp_e G p t l
  refine eW_callVH 18 [.ref 0, vI p, vI t, vI l] [] [vI ((oScp G p t l).1)] rfl rfl rfl rfl (Nat.ble_eq_true_of_le (by omega)) hwh1.1 rfl rfl rfl (x_tryScoop (d := d + 0) hwh1 hN hI ha hz hTO (by unfold i32; omega) (by unfold i32; omega) (by unfold i32; omega)) rfl rfl ?_
  intro h2 fh2
  obtain ⟨S1, hwh2, gh2⟩ := fh2
  have hwh2 : cW h2 ((oX X (oScp G p t l))) ((oScp G p t l).2.2.2) ((gBec G O)) Q ya yz Ks V S1 T := hwh2
  have frh2 : cFr h h2 := fun i hi => (gh2 i hi).trans (frh1 i hi)
  refine eW_istore 20 rfl rfl [(4, vI ((oScp G p t l).1)), (0, .ref 0), (1, vI p), (2, vI t), (3, vI l)] rfl rfl ?_
  refine eW_iload 22 rfl rfl rfl ?_
  refine eW_iconst 23 rfl rfl ?_
  refine eW_icmp_ne 26 rfl rfl (by unfold i32; omega) (by unfold i32; omega) (fun c3 => ?_) (fun c3 => ?_)
  · refine eW_iload 38 rfl rfl rfl ?_
    refine eW_iconst 39 rfl rfl ?_
    refine eW_icmp_ne 42 rfl rfl (by unfold i32; omega) (by unfold i32; omega) (fun c4 => ?_) (fun c4 => ?_)
    · refine eW_iload 54 rfl rfl rfl ?_
      refine eW_iconst 55 rfl rfl ?_
      refine eW_icmp_ne 58 rfl rfl (by unfold i32; omega) (by unfold i32; omega) (fun c5 => ?_) (fun c5 => ?_)
      · refine eW_aload_n 69 rfl rfl rfl ?_
        refine eW_getfield 72 rfl rfl (Nat.ble_eq_true_of_le (by omega)) rfl hwh2.1 rfl ⟨rfl, fun _ h9 => nomatch h9⟩ ?_
        refine eW_aload_n 73 rfl rfl rfl ?_
        refine eW_getfield 76 rfl rfl (Nat.ble_eq_true_of_le (by omega)) rfl hwh2.1 rfl ⟨rfl, fun _ h9 => nomatch h9⟩ ?_
        refine eW_callVH 79 [.ref 13, .ref 5] [] [] rfl rfl rfl rfl (Nat.ble_eq_true_of_le (by omega)) hwh2.2.2.2.2.1.1 rfl rfl rfl (h_keep (d := d + 2) hwh2.2.2.2.2.1 (by omega) ha hz (g := 5) hwh2.2.2.1 (by omega) (by omega)) rfl rfl ?_
        intro h6 fh6
        have oh6 := fh6.2
        have hwh6 : cW h6 ((oX X (oScp G p t l))) ((oScp G p t l).2.2.2) ((gBec G O)) Q ((gKeep ya yz Ks ((gBec G O))).1) ((gKeep ya yz Ks ((gBec G O))).2.1) ((gKeep ya yz Ks ((gBec G O))).2.2) V S1 T := ⟨gX_k hwh2.1 (oh6 0 (by omega)), gG_k hwh2.2.1 (fun i _ _ => oh6 i (by omega)), gG_k hwh2.2.2.1 (fun i _ _ => oh6 i (by omega)), gG_k hwh2.2.2.2.1 (fun i _ _ => oh6 i (by omega)), fh6.1, gV_k hwh2.2.2.2.2.2.1 (fun i _ _ => oh6 i (by omega)), gS_k hwh2.2.2.2.2.2.2.1 (oh6 56 (by omega)), gT_k hwh2.2.2.2.2.2.2.2.1 (fun i _ _ => oh6 i (by omega)), gK_k hwh2.2.2.2.2.2.2.2.2 (fun i _ _ => oh6 i (by omega))⟩
        have frh6 : cFr h h6 := fun i hi => (oh6 i (by omega)).trans (frh2 i hi)
        refine eW_aload_n 80 rfl rfl rfl ?_
        refine eW_getfield 83 rfl rfl (Nat.ble_eq_true_of_le (by omega)) rfl hwh6.1 rfl ⟨rfl, fun _ h9 => nomatch h9⟩ ?_
        refine eW_callV 86 [.ref 1] [] [vI (((oScp G p t l).2.2.2).2.2.2.1)] rfl rfl rfl rfl (Nat.ble_eq_true_of_le (by omega)) hwh6.2.1.1 rfl rfl rfl (g_pits (d := d + 3) hwh6.2.1 hGn (by omega)) rfl rfl ?_
        refine eW_ret_i rfl rfl (Or.inl rfl) ?_
        refine cA_i ?_ frh6 ⟨V, S1, by rw [kE_0 (by omega)]; exact hwh6, gVG_d (oScp_d G p t l) hVG⟩
        unfold aSc
        repeat (first | rw [if_pos (by omega)] | rw [if_neg (by omega)])
        rw [oScp_0 (by omega)]
      · refine eW_throw rfl rfl rfl rfl ?_
        refine cA_x ?_ frh2 ⟨V, S1, by rw [kE_n (by omega)]; exact hwh2, gVG_d (oScp_d G p t l) hVG⟩
        unfold aSc
        repeat (first | rw [if_pos (by omega)] | rw [if_neg (by omega)])
        rfl
    · refine eW_throw rfl rfl rfl rfl ?_
      refine cA_x ?_ frh2 ⟨V, S1, by rw [kE_n (by omega)]; exact hwh2, gVG_d (oScp_d G p t l) hVG⟩
      unfold aSc
      repeat (first | rw [if_pos (by omega)] | rw [if_neg (by omega)])
      rfl
  · refine eW_throw rfl rfl rfl rfl ?_
    refine cA_x ?_ frh2 ⟨V, S1, by rw [kE_n (by omega)]; exact hwh2, gVG_d (oScp_d G p t l) hVG⟩
    unfold aSc
    repeat (first | rw [if_pos (by omega)] | rw [if_neg (by omega)])
    rfl
theorem x_next {d N : Nat} {h : eHp} {X : eXs} {G O Q : eGd} {ya yz : Int} {Ks : Nat → eGd} {V : eVs} {S : Int × Int × Int} {T : eTx} (hw : cW h X G O Q ya yz Ks V S T) (hN : 75 ≤ N) {c : Int} (hI : gI c G) (hVG : gVG V G) (ha : 0 ≤ ya ∧ ya < 8) (hz : 0 ≤ yz ∧ yz ≤ 8) (hTO : gTO T) (hc : c ≤ 16000) : eSp (d + 7) eM_X6_next [.ref 0] N h (cA (aNx (oNxt G).1 (gWin G)) N h (fun h' => ∃ V' S', cW h' (oX X (oNxt G)) (oNxt G).2.2.2 (gBec G O) Q (kE (oNxt G).1 ya yz Ks (gBec G O)).1 (kE (oNxt G).1 ya yz Ks (gBec G O)).2.1 (kE (oNxt G).1 ya yz Ks (gBec G O)).2.2 V' S' T ∧ gVG V' (oNxt G).2.2.2)) := by
  refine eSp_of [(0, .ref 0)] rfl rfl ?_
  have hG := hI.1
  have hG9 := hG
  obtain ⟨g1, g2, g3, g4⟩ := hG9
  have hV := hVG.1.1
  have hVD := hVG.1
  have ht3 := hI.2.2.2.2.1 3 (by decide)
  have ht7 := hI.2.2.2.2.1 7 (by decide)
  have hEb := gE_bec G O
  have hGO := (gI_E hEb hI).1
  have hT37 : i32 (gTal (gBec G O) 0 3 + gTal (gBec G O) 1 3) := by rw [show gTal (gBec G O) 0 3 = (gBec G O).2.2.1 3 from gTal_l 0 3 (by decide) (by decide), show gTal (gBec G O) 1 3 = (gBec G O).2.2.1 7 from gTal_l 1 3 (by decide) (by decide), hEb.2.2.1 3 (by decide), hEb.2.2.1 7 (by decide)]; unfold i32; omega
  refine eW_aload_n 1 rfl rfl rfl ?_
  refine eW_getfield 4 rfl rfl (Nat.ble_eq_true_of_le (by omega)) rfl hw.1 rfl ⟨rfl, fun _ h9 => nomatch h9⟩ ?_
  refine eW_aload_n 5 rfl rfl rfl ?_
  refine eW_getfield 8 rfl rfl (Nat.ble_eq_true_of_le (by omega)) rfl hw.1 rfl ⟨rfl, fun _ h9 => nomatch h9⟩ ?_
  refine eW_callVH 11 [.ref 5, .ref 1] [] [] rfl rfl rfl rfl (Nat.ble_eq_true_of_le (by omega)) hw.2.2.1.1 rfl rfl rfl (g_become (d := d + 5) (g := 5) (o := 1) hw.2.2.1 (by omega) hw.2.1 (by omega) (by omega)) rfl rfl ?_
  intro h1 fh1
  have oh1 := fh1.2
  have hwh1 : cW h1 X G ((gBec G O)) Q ya yz Ks V S T := ⟨gX_k hw.1 (oh1 0 (by omega)), gG_k hw.2.1 (fun i _ _ => oh1 i (by omega)), fh1.1, gG_k hw.2.2.2.1 (fun i _ _ => oh1 i (by omega)), gH_k hw.2.2.2.2.1 (fun i _ _ => oh1 i (by omega)), gV_k hw.2.2.2.2.2.1 (fun i _ _ => oh1 i (by omega)), gS_k hw.2.2.2.2.2.2.1 (oh1 56 (by omega)), gT_k hw.2.2.2.2.2.2.2.1 (fun i _ _ => oh1 i (by omega)), gK_k hw.2.2.2.2.2.2.2.2 (fun i _ _ => oh1 i (by omega))⟩
  have frh1 : cFr h h1 := fun i hi => (oh1 i (by omega)).trans ((fun _ _ => rfl) i hi)
  refine eW_aload_n 12 rfl rfl rfl ?_
  have hend := oNxt_e G
  refine eW_callVH 15 [.ref 0] [] [vI ((oNxt G).1)] rfl rfl rfl rfl (Nat.ble_eq_true_of_le (by omega)) hwh1.1 rfl rfl rfl (x_tryNext (d := d + 0) hwh1 hN hI ha hz hTO hc) rfl rfl ?_
  intro h2 fh2
  obtain ⟨S1, hwh2, gh2⟩ := fh2
  have hwh2 : cW h2 ((oX X (oNxt G))) ((oNxt G).2.2.2) ((gBec G O)) Q ya yz Ks V S1 T := hwh2
  have frh2 : cFr h h2 := fun i hi => (gh2 i hi).trans (frh1 i hi)
  refine eW_iconst 16 rfl rfl ?_
  refine eW_icmp_ne 19 rfl rfl (by unfold i32; omega) (by unfold i32; omega) (fun c3 => ?_) (fun c3 => ?_)
  · refine eW_aload_n 30 rfl rfl rfl ?_
    refine eW_getfield 33 rfl rfl (Nat.ble_eq_true_of_le (by omega)) rfl hwh2.1 rfl ⟨rfl, fun _ h9 => nomatch h9⟩ ?_
    refine eW_aload_n 34 rfl rfl rfl ?_
    refine eW_getfield 37 rfl rfl (Nat.ble_eq_true_of_le (by omega)) rfl hwh2.1 rfl ⟨rfl, fun _ h9 => nomatch h9⟩ ?_
    refine eW_callVH 40 [.ref 13, .ref 5] [] [] rfl rfl rfl rfl (Nat.ble_eq_true_of_le (by omega)) hwh2.2.2.2.2.1.1 rfl rfl rfl (h_keep (d := d + 4) hwh2.2.2.2.2.1 (by omega) ha hz (g := 5) hwh2.2.2.1 (by omega) (by omega)) rfl rfl ?_
    intro h4 fh4
    have oh4 := fh4.2
    have hwh4 : cW h4 ((oX X (oNxt G))) ((oNxt G).2.2.2) ((gBec G O)) Q ((gKeep ya yz Ks ((gBec G O))).1) ((gKeep ya yz Ks ((gBec G O))).2.1) ((gKeep ya yz Ks ((gBec G O))).2.2) V S1 T := ⟨gX_k hwh2.1 (oh4 0 (by omega)), gG_k hwh2.2.1 (fun i _ _ => oh4 i (by omega)), gG_k hwh2.2.2.1 (fun i _ _ => oh4 i (by omega)), gG_k hwh2.2.2.2.1 (fun i _ _ => oh4 i (by omega)), fh4.1, gV_k hwh2.2.2.2.2.2.1 (fun i _ _ => oh4 i (by omega)), gS_k hwh2.2.2.2.2.2.2.1 (oh4 56 (by omega)), gT_k hwh2.2.2.2.2.2.2.2.1 (fun i _ _ => oh4 i (by omega)), gK_k hwh2.2.2.2.2.2.2.2.2 (fun i _ _ => oh4 i (by omega))⟩
    have frh4 : cFr h h4 := fun i hi => (oh4 i (by omega)).trans (frh2 i hi)
    refine eW_aload_n 41 rfl rfl rfl ?_
    refine eW_getfield 44 rfl rfl (Nat.ble_eq_true_of_le (by omega)) rfl hwh4.1 rfl ⟨rfl, fun _ h9 => nomatch h9⟩ ?_
    refine eW_callV 47 [.ref 5] [] [vI (gWin ((gBec G O)))] rfl rfl rfl rfl (Nat.ble_eq_true_of_le (by omega)) hwh4.2.2.1.1 rfl rfl rfl (g_winner (d := d + 2) hwh4.2.2.1 hGO (by omega) hT37) rfl rfl ?_
    refine eW_ret_i rfl rfl (Or.inl rfl) ?_
    refine cA_i ?_ frh4 ⟨V, S1, by rw [kE_0 (by omega)]; exact hwh4, gVG_d (oNxt_d G) hVG⟩
    unfold aNx
    repeat (first | rw [if_pos (by omega)] | rw [if_neg (by omega)])
    rw [gWin_eq (G := G) (G' := gBec G O) (hEb.2.2.1 3 (by decide)) (hEb.2.2.1 7 (by decide)) rfl]
  · refine eW_throw rfl rfl rfl rfl ?_
    refine cA_x ?_ frh2 ⟨V, S1, by rw [kE_n (by omega)]; exact hwh2, gVG_d (oNxt_d G) hVG⟩
    unfold aNx
    repeat (first | rw [if_pos (by omega)] | rw [if_neg (by omega)])
    rfl
theorem x_digit {d N : Nat} {h : eHp} {X : eXs} {G O Q : eGd} {ya yz : Int} {Ks : Nat → eGd} {V : eVs} {S : Int × Int × Int} {T : eTx} (hw : cW h X G O Q ya yz Ks V S T) (hN : 75 ≤ N) {c : Int} (hI : gI c G) (hVG : gVG V G) (ha : 0 ≤ ya ∧ ya < 8) (hz : 0 ≤ yz ∧ yz ≤ 8) (hTO : gTO T) {t x : Int} (ht : i32 t) (hx : i32 x) : eSp (d + 7) eM_X6_digit [.ref 0, vI t, vI x] N h (cA (aPD (oDig G t x).1 (gDig G t)) N h (fun h' => ∃ V' S', cW h' (oX X (oDig G t x)) (oDig G t x).2.2.2 (gBec G O) Q (kE (oDig G t x).1 ya yz Ks (gBec G O)).1 (kE (oDig G t x).1 ya yz Ks (gBec G O)).2.1 (kE (oDig G t x).1 ya yz Ks (gBec G O)).2.2 V' S' T ∧ gVG V' (oDig G t x).2.2.2)) := by
  refine eSp_of [(0, .ref 0), (1, vI t), (2, vI x)] rfl rfl ?_
  have hG := hI.1
  have hG9 := hG
  obtain ⟨g1, g2, g3, g4⟩ := hG9
  have hV := hVG.1.1
  have hVD := hVG.1
  unfold i32 at ht hx
  have hGn := (gI_oDig hI t x).1
  have hEb := gE_bec G O
  have hGO := (gI_E hEb hI).1
  refine eW_aload_n 1 rfl rfl rfl ?_
  refine eW_getfield 4 rfl rfl (Nat.ble_eq_true_of_le (by omega)) rfl hw.1 rfl ⟨rfl, fun _ h9 => nomatch h9⟩ ?_
  refine eW_aload_n 5 rfl rfl rfl ?_
  refine eW_getfield 8 rfl rfl (Nat.ble_eq_true_of_le (by omega)) rfl hw.1 rfl ⟨rfl, fun _ h9 => nomatch h9⟩ ?_
  refine eW_callVH 11 [.ref 5, .ref 1] [] [] rfl rfl rfl rfl (Nat.ble_eq_true_of_le (by omega)) hw.2.2.1.1 rfl rfl rfl (g_become (d := d + 5) (g := 5) (o := 1) hw.2.2.1 (by omega) hw.2.1 (by omega) (by omega)) rfl rfl ?_
  intro h1 fh1
  have oh1 := fh1.2
  have hwh1 : cW h1 X G ((gBec G O)) Q ya yz Ks V S T := ⟨gX_k hw.1 (oh1 0 (by omega)), gG_k hw.2.1 (fun i _ _ => oh1 i (by omega)), fh1.1, gG_k hw.2.2.2.1 (fun i _ _ => oh1 i (by omega)), gH_k hw.2.2.2.2.1 (fun i _ _ => oh1 i (by omega)), gV_k hw.2.2.2.2.2.1 (fun i _ _ => oh1 i (by omega)), gS_k hw.2.2.2.2.2.2.1 (oh1 56 (by omega)), gT_k hw.2.2.2.2.2.2.2.1 (fun i _ _ => oh1 i (by omega)), gK_k hw.2.2.2.2.2.2.2.2 (fun i _ _ => oh1 i (by omega))⟩
  have frh1 : cFr h h1 := fun i hi => (oh1 i (by omega)).trans ((fun _ _ => rfl) i hi)
  refine eW_aload_n 12 rfl rfl rfl ?_
  refine eW_iload_n 13 rfl rfl rfl ?_
  refine eW_iload_n 14 rfl rfl rfl ?_
  have hend := oDig_e G t x
  refine eW_callVH 17 [.ref 0, vI t, vI x] [] [vI ((oDig G t x).1)] rfl rfl rfl rfl (Nat.ble_eq_true_of_le (by omega)) hwh1.1 rfl rfl rfl (x_tryDigit (d := d + 4) hwh1 hN hI ha hz hTO (by unfold i32; omega) (by unfold i32; omega)) rfl rfl ?_
  intro h2 fh2
  obtain ⟨S1, hwh2, gh2⟩ := fh2
  have hwh2 : cW h2 ((oX X (oDig G t x))) ((oDig G t x).2.2.2) ((gBec G O)) Q ya yz Ks V S1 T := hwh2
  have frh2 : cFr h h2 := fun i hi => (gh2 i hi).trans (frh1 i hi)
  refine eW_istore_n 18 rfl rfl [(3, vI ((oDig G t x).1)), (0, .ref 0), (1, vI t), (2, vI x)] rfl rfl ?_
  refine eW_iload_n 19 rfl rfl rfl ?_
  refine eW_iconst 20 rfl rfl ?_
  refine eW_icmp_ne 23 rfl rfl (by unfold i32; omega) (by unfold i32; omega) (fun c3 => ?_) (fun c3 => ?_)
  · refine eW_iload_n 34 rfl rfl rfl ?_
    refine eW_iconst 35 rfl rfl ?_
    refine eW_icmp_ne 38 rfl rfl (by unfold i32; omega) (by unfold i32; omega) (fun c4 => ?_) (fun c4 => ?_)
    · refine eW_aload_n 49 rfl rfl rfl ?_
      refine eW_getfield 52 rfl rfl (Nat.ble_eq_true_of_le (by omega)) rfl hwh2.1 rfl ⟨rfl, fun _ h9 => nomatch h9⟩ ?_
      refine eW_aload_n 53 rfl rfl rfl ?_
      refine eW_getfield 56 rfl rfl (Nat.ble_eq_true_of_le (by omega)) rfl hwh2.1 rfl ⟨rfl, fun _ h9 => nomatch h9⟩ ?_
      refine eW_callVH 59 [.ref 13, .ref 5] [] [] rfl rfl rfl rfl (Nat.ble_eq_true_of_le (by omega)) hwh2.2.2.2.2.1.1 rfl rfl rfl (h_keep (d := d + 4) hwh2.2.2.2.2.1 (by omega) ha hz (g := 5) hwh2.2.2.1 (by omega) (by omega)) rfl rfl ?_
      intro h5 fh5
      have oh5 := fh5.2
      have hwh5 : cW h5 ((oX X (oDig G t x))) ((oDig G t x).2.2.2) ((gBec G O)) Q ((gKeep ya yz Ks ((gBec G O))).1) ((gKeep ya yz Ks ((gBec G O))).2.1) ((gKeep ya yz Ks ((gBec G O))).2.2) V S1 T := ⟨gX_k hwh2.1 (oh5 0 (by omega)), gG_k hwh2.2.1 (fun i _ _ => oh5 i (by omega)), gG_k hwh2.2.2.1 (fun i _ _ => oh5 i (by omega)), gG_k hwh2.2.2.2.1 (fun i _ _ => oh5 i (by omega)), fh5.1, gV_k hwh2.2.2.2.2.2.1 (fun i _ _ => oh5 i (by omega)), gS_k hwh2.2.2.2.2.2.2.1 (oh5 56 (by omega)), gT_k hwh2.2.2.2.2.2.2.2.1 (fun i _ _ => oh5 i (by omega)), gK_k hwh2.2.2.2.2.2.2.2.2 (fun i _ _ => oh5 i (by omega))⟩
      have frh5 : cFr h h5 := fun i hi => (oh5 i (by omega)).trans (frh2 i hi)
      refine eW_aload_n 60 rfl rfl rfl ?_
      refine eW_getfield 63 rfl rfl (Nat.ble_eq_true_of_le (by omega)) rfl hwh5.1 rfl ⟨rfl, fun _ h9 => nomatch h9⟩ ?_
      refine eW_aload_n 64 rfl rfl rfl ?_
      refine eW_getfield 67 rfl rfl (Nat.ble_eq_true_of_le (by omega)) rfl hwh5.1 rfl ⟨rfl, fun _ h9 => nomatch h9⟩ ?_
      refine eW_callVH 70 [.ref 47, .ref 1] [] [] rfl rfl rfl rfl (Nat.ble_eq_true_of_le (by omega)) hwh5.2.2.2.2.2.1.1 rfl rfl rfl (v_learn (d := d + 0) hwh5.2.2.2.2.2.1 hVG.1 (by omega) hwh5.2.1 hGn (by omega) (by omega) (by intro t h1 h2; exact hVG.2 t h1 h2)) rfl rfl ?_
      intro h6 fh6
      obtain ⟨V1, f9h6⟩ := fh6
      have oh6 := f9h6.2.2
      have hVG1 := f9h6.2.1
      have hwh6 : cW h6 ((oX X (oDig G t x))) ((oDig G t x).2.2.2) ((gBec G O)) Q ((gKeep ya yz Ks ((gBec G O))).1) ((gKeep ya yz Ks ((gBec G O))).2.1) ((gKeep ya yz Ks ((gBec G O))).2.2) V1 S1 T := ⟨gX_k hwh5.1 (oh6 0 (by omega)), gG_k hwh5.2.1 (fun i _ _ => oh6 i (by omega)), gG_k hwh5.2.2.1 (fun i _ _ => oh6 i (by omega)), gG_k hwh5.2.2.2.1 (fun i _ _ => oh6 i (by omega)), gH_k hwh5.2.2.2.2.1 (fun i _ _ => oh6 i (by omega)), f9h6.1, gS_k hwh5.2.2.2.2.2.2.1 (oh6 56 (by omega)), gT_k hwh5.2.2.2.2.2.2.2.1 (fun i _ _ => oh6 i (by omega)), gK_k hwh5.2.2.2.2.2.2.2.2 (fun i _ _ => oh6 i (by omega))⟩
      have frh6 : cFr h h6 := fun i hi => (oh6 i (by omega)).trans (frh5 i hi)
      refine eW_aload_n 71 rfl rfl rfl ?_
      refine eW_getfield 74 rfl rfl (Nat.ble_eq_true_of_le (by omega)) rfl hwh6.1 rfl ⟨rfl, fun _ h9 => nomatch h9⟩ ?_
      refine eW_iload_n 75 rfl rfl rfl ?_
      refine eW_callV 78 [.ref 5, vI t] [] [vI (gDig ((gBec G O)) t)] rfl rfl rfl rfl (Nat.ble_eq_true_of_le (by omega)) hwh6.2.2.1.1 rfl rfl rfl (g_digitFor (d := d + 5) hwh6.2.2.1 hGO (by omega) (by unfold i32; omega)) rfl rfl ?_
      refine eW_ret_i rfl rfl (Or.inl rfl) ?_
      refine cA_i ?_ frh6 ⟨V1, S1, by rw [kE_0 (by omega)]; exact hwh6, hVG1⟩
      unfold aPD
      repeat (first | rw [if_pos (by omega)] | rw [if_neg (by omega)])
      rw [gDig_E hEb]
    · refine eW_throw rfl rfl rfl rfl ?_
      refine cA_x ?_ frh2 ⟨V, S1, by rw [kE_n (by omega)]; exact hwh2, by rw [oDig_n (by omega)]; exact hVG⟩
      unfold aPD
      repeat (first | rw [if_pos (by omega)] | rw [if_neg (by omega)])
      rfl
  · refine eW_throw rfl rfl rfl rfl ?_
    refine cA_x ?_ frh2 ⟨V, S1, by rw [kE_n (by omega)]; exact hwh2, by rw [oDig_n (by omega)]; exact hVG⟩
    unfold aPD
    repeat (first | rw [if_pos (by omega)] | rw [if_neg (by omega)])
    rfl
theorem x_play {d N : Nat} {h : eHp} {X : eXs} {G O Q : eGd} {ya yz : Int} {Ks : Nat → eGd} {V : eVs} {S : Int × Int × Int} {T : eTx} (hw : cW h X G O Q ya yz Ks V S T) (hN : 75 ≤ N) {c : Int} (hI : gI c G) (hVG : gVG V G) (ha : 0 ≤ ya ∧ ya < 8) (hz : 0 ≤ yz ∧ yz ≤ 8) (hTO : gTO T)  : eSp (d + 6) eM_X6_play [.ref 0] N h (cA (aPl (oPly G).1 (oPlyV G)) N h (fun h' => ∃ S', cW h' X (oPly G).2.2.2 O Q (kE (oPly G).1 ya yz Ks G).1 (kE (oPly G).1 ya yz Ks G).2.1 (kE (oPly G).1 ya yz Ks G).2.2 V S' T ∧ gVG V (oPly G).2.2.2)) := by
  refine eSp_of [(0, .ref 0)] rfl rfl ?_
  have hG := hI.1
  have hG9 := hG
  obtain ⟨g1, g2, g3, g4⟩ := hG9
  have hV := hVG.1.1
  have hVD := hVG.1
  refine eW_aload_n 1 rfl rfl rfl ?_
  have hgy := gYes_c (gTd G)
  refine eW_callVH 4 [.ref 0] [] [vI (gYes (gTd G))] rfl rfl rfl rfl (Nat.ble_eq_true_of_le (by omega)) hw.1 rfl rfl rfl (x_findTold (d := d + 0) hw hN hI hVG ha hz hTO) rfl rfl ?_
  intro h1 fh1
  refine eW_if_ne 7 rfl rfl (by unfold i32; omega) (fun c2 => ?_) (fun c2 => ?_)
  · obtain ⟨y9, hy9⟩ : ∃ u, gTd G = some u := by rcases hgy with ⟨e, _⟩ | ⟨_, e⟩; exact absurd e (by omega); exact e
    rw [hy9] at fh1
    have hf9 : gS h1 56 y9 := fh1.1
    have o9 : ∀ i, i ≠ 56 → h1 i = h i := fh1.2
    have hwh1 : cW h1 X G O Q ya yz Ks V y9 T := ⟨gX_k hw.1 (o9 0 (by omega)), gG_k hw.2.1 (fun i _ _ => o9 i (by omega)), gG_k hw.2.2.1 (fun i _ _ => o9 i (by omega)), gG_k hw.2.2.2.1 (fun i _ _ => o9 i (by omega)), gH_k hw.2.2.2.2.1 (fun i _ _ => o9 i (by omega)), gV_k hw.2.2.2.2.2.1 (fun i _ _ => o9 i (by omega)), hf9, gT_k hw.2.2.2.2.2.2.2.1 (fun i _ _ => o9 i (by omega)), gK_k hw.2.2.2.2.2.2.2.2 (fun i _ _ => o9 i (by omega))⟩
    have frh1 : cFr h h1 := fun i hi => (o9 i (by omega)).trans ((fun _ _ => rfl) i hi)
    have hM := gTd_mem g1 hy9
    have hM9 : gMay G y9 := ⟨⟨hM.1.1, hM.1.2.1⟩, ⟨hM.1.2.2.1, hM.1.2.2.2.1⟩, hM.1.2.2.2.2⟩
    have hml := gLets_iff.mp hM9.2.2
    have hmk := hI.2.2.1 y9.1.toNat (by have := hM9.1; omega)
    have hge := gSum_ge1 (F := G.1) (p := y9.1.toNat) (n := G.2.2.2.1.toNat) (by have := hM9.1; omega) (fun i hi => (hI.2.2.1 i (by omega)).1)
    have hs40 := hI.2.2.2.1
    have hM1 : 0 ≤ y9.2.2 ∧ y9.2.2 ≤ 40 := by have := hM9.2.1; omega
    have hM2 : 0 < G.1 y9.1.toNat - y9.2.1 - y9.2.2 → G.2.2.2.1 < 40 := by have := hM9.2.1; intro e; omega
    have ho : oPly G = (0, 0, 0, gMake G y9) := oPly_s hy9
    have hGn := (gI_make hI hM9).1
    refine eW_aload_n 18 rfl rfl rfl ?_
    refine eW_getfield 21 rfl rfl (Nat.ble_eq_true_of_le (by omega)) rfl hwh1.1 rfl ⟨rfl, fun _ h9 => nomatch h9⟩ ?_
    refine eW_aload_n 22 rfl rfl rfl ?_
    refine eW_getfield 25 rfl rfl (Nat.ble_eq_true_of_le (by omega)) rfl hwh1.1 rfl ⟨rfl, fun _ h9 => nomatch h9⟩ ?_
    refine eW_callVH 28 [.ref 13, .ref 1] [] [] rfl rfl rfl rfl (Nat.ble_eq_true_of_le (by omega)) hwh1.2.2.2.2.1.1 rfl rfl rfl (h_keep (d := d + 3) hwh1.2.2.2.2.1 (by omega) ha hz (g := 1) hwh1.2.1 (by omega) (by omega)) rfl rfl ?_
    intro h3 fh3
    have oh3 := fh3.2
    have hwh3 : cW h3 X G O Q ((gKeep ya yz Ks G).1) ((gKeep ya yz Ks G).2.1) ((gKeep ya yz Ks G).2.2) V y9 T := ⟨gX_k hwh1.1 (oh3 0 (by omega)), gG_k hwh1.2.1 (fun i _ _ => oh3 i (by omega)), gG_k hwh1.2.2.1 (fun i _ _ => oh3 i (by omega)), gG_k hwh1.2.2.2.1 (fun i _ _ => oh3 i (by omega)), fh3.1, gV_k hwh1.2.2.2.2.2.1 (fun i _ _ => oh3 i (by omega)), gS_k hwh1.2.2.2.2.2.2.1 (oh3 56 (by omega)), gT_k hwh1.2.2.2.2.2.2.2.1 (fun i _ _ => oh3 i (by omega)), gK_k hwh1.2.2.2.2.2.2.2.2 (fun i _ _ => oh3 i (by omega))⟩
    have frh3 : cFr h h3 := fun i hi => (oh3 i (by omega)).trans (frh1 i hi)
    refine eW_aload_n 29 rfl rfl rfl ?_
    refine eW_getfield 32 rfl rfl (Nat.ble_eq_true_of_le (by omega)) rfl hwh3.1 rfl ⟨rfl, fun _ h9 => nomatch h9⟩ ?_
    refine eW_aload_n 33 rfl rfl rfl ?_
    refine eW_getfield 36 rfl rfl (Nat.ble_eq_true_of_le (by omega)) rfl hwh3.1 rfl ⟨rfl, fun _ h9 => nomatch h9⟩ ?_
    refine eW_callVH 39 [.ref 1, .ref 56] [] [] rfl rfl rfl rfl (Nat.ble_eq_true_of_le (by omega)) hwh3.2.1.1 rfl rfl rfl (g_make (d := d + 2) (f := 56) hwh3.2.1 hG (by omega) hwh3.2.2.2.2.2.2.1 (by omega) (by omega) hM9.1 hM9.2.1 hM1 hM2 hI.2.1) rfl rfl ?_
    intro h4 fh4
    have oh4 := fh4.2
    have hwh4 : cW h4 X ((gMake G y9)) O Q ((gKeep ya yz Ks G).1) ((gKeep ya yz Ks G).2.1) ((gKeep ya yz Ks G).2.2) V y9 T := ⟨gX_k hwh3.1 (oh4 0 (by omega)), fh4.1, gG_k hwh3.2.2.1 (fun i _ _ => oh4 i (by omega)), gG_k hwh3.2.2.2.1 (fun i _ _ => oh4 i (by omega)), gH_k hwh3.2.2.2.2.1 (fun i _ _ => oh4 i (by omega)), gV_k hwh3.2.2.2.2.2.1 (fun i _ _ => oh4 i (by omega)), gS_k hwh3.2.2.2.2.2.2.1 (oh4 56 (by omega)), gT_k hwh3.2.2.2.2.2.2.2.1 (fun i _ _ => oh4 i (by omega)), gK_k hwh3.2.2.2.2.2.2.2.2 (fun i _ _ => oh4 i (by omega))⟩
    have frh4 : cFr h h4 := fun i hi => (oh4 i (by omega)).trans (frh3 i hi)
    refine eW_aload_n 40 rfl rfl rfl ?_
    refine eW_getfield 43 rfl rfl (Nat.ble_eq_true_of_le (by omega)) rfl hwh4.1 rfl ⟨rfl, fun _ h9 => nomatch h9⟩ ?_
    refine eW_callV 46 [.ref 1] [] [vI (((gMake G y9)).2.2.2.1)] rfl rfl rfl rfl (Nat.ble_eq_true_of_le (by omega)) hwh4.2.1.1 rfl rfl rfl (g_pits (d := d + 4) hwh4.2.1 hGn (by omega)) rfl rfl ?_
    refine eW_ret_i rfl rfl (Or.inl rfl) ?_
    refine cA_i (by rw [show oPlyV G = (gMake G y9).2.2.2.1 from (oPlyV_s hy9).symm, ho]; rfl) frh4 ⟨y9, by rw [ho, kE_0 rfl]; exact hwh4, by rw [ho]; exact hVG⟩
  · refine eW_throw rfl rfl rfl rfl ?_
    have hn9 : gTd G = none := by rcases hgy with ⟨_, e⟩ | ⟨e, _⟩; exact e; exact absurd e (by omega)
    have ho : oPly G = (1, 0, 0, G) := oPly_n hn9
    rw [hn9] at fh1
    have e9 : h1 = h := fh1
    rw [e9]
    refine cA_x (by rw [ho]; rfl) (fun _ _ => rfl) ⟨S, by rw [ho, kE_n (show (1 : Int) ≠ 0 by decide)]; exact hw, by rw [ho]; exact hVG⟩
theorem x_undo {d N : Nat} {h : eHp} {X : eXs} {G O Q : eGd} {ya yz : Int} {Ks : Nat → eGd} {V : eVs} {S : Int × Int × Int} {T : eTx} (hw : cW h X G O Q ya yz Ks V S T) (hN : 75 ≤ N) {c : Int} (hI : gI c G) (hVG : gVG V G) (ha : 0 ≤ ya ∧ ya < 8) (hz : 0 ≤ yz ∧ yz ≤ 8) (hTO : gTO T) (hKs : ∀ i : Int, 0 ≤ i → i < yz → gI c (Ks (gPl ya i).toNat)) : eSp (d + 7) eM_X6_undo [.ref 0] N h (cA (if yz = 0 then .inr nISE else .inl (yz - 1)) N h (fun h' => (yz = 0 → cW h' X G O Q ya yz Ks V S T ∧ gVG V G) ∧ (yz ≠ 0 → ∃ V', cW h' X (gBec (Ks (gPl ya (yz - 1)).toNat) G) O Q ya (yz - 1) Ks V' S T ∧ gVG V' (gBec (Ks (gPl ya (yz - 1)).toNat) G)))) := by
  refine eSp_of [(0, .ref 0)] rfl rfl ?_
  have hG := hI.1
  have hG9 := hG
  obtain ⟨g1, g2, g3, g4⟩ := hG9
  have hV := hVG.1.1
  have hVD := hVG.1
  refine eW_aload_n 1 rfl rfl rfl ?_
  refine eW_getfield 4 rfl rfl (Nat.ble_eq_true_of_le (by omega)) rfl hw.1 rfl ⟨rfl, fun _ h9 => nomatch h9⟩ ?_
  refine eW_callV 7 [.ref 13] [] [vI yz] rfl rfl rfl rfl (Nat.ble_eq_true_of_le (by omega)) hw.2.2.2.2.1.1 rfl rfl rfl (h_size (d := d + 5) hw.2.2.2.2.1 (by omega) ha hz) rfl rfl ?_
  refine eW_if_ne 10 rfl rfl (by unfold i32; omega) (fun c1 => ?_) (fun c1 => ?_)
  · refine eW_aload_n 22 rfl rfl rfl ?_
    refine eW_getfield 25 rfl rfl (Nat.ble_eq_true_of_le (by omega)) rfl hw.1 rfl ⟨rfl, fun _ h9 => nomatch h9⟩ ?_
    refine eW_aload_n 26 rfl rfl rfl ?_
    refine eW_getfield 29 rfl rfl (Nat.ble_eq_true_of_le (by omega)) rfl hw.1 rfl ⟨rfl, fun _ h9 => nomatch h9⟩ ?_
    refine eW_callVH 32 [.ref 13, .ref 1] [] [] rfl rfl rfl rfl (Nat.ble_eq_true_of_le (by omega)) hw.2.2.2.2.1.1 rfl rfl rfl (h_giveBack (d := d + 4) hw.2.2.2.2.1 (by omega) ha hz (g := 1) hw.2.1 (by omega) (by omega) (by omega)) rfl rfl ?_
    intro h2 fh2
    have oh2 := fh2.2.2
    have hwh2 : cW h2 X ((gBec (Ks (gPl ya (yz - 1)).toNat) G)) O Q ya ((yz - 1)) Ks V S T := ⟨gX_k hw.1 (oh2 0 (by omega)), fh2.1, gG_k hw.2.2.1 (fun i _ _ => oh2 i (by omega)), gG_k hw.2.2.2.1 (fun i _ _ => oh2 i (by omega)), fh2.2.1, gV_k hw.2.2.2.2.2.1 (fun i _ _ => oh2 i (by omega)), gS_k hw.2.2.2.2.2.2.1 (oh2 56 (by omega)), gT_k hw.2.2.2.2.2.2.2.1 (fun i _ _ => oh2 i (by omega)), gK_k hw.2.2.2.2.2.2.2.2 (fun i _ _ => oh2 i (by omega))⟩
    have frh2 : cFr h h2 := fun i hi => (oh2 i (by omega)).trans ((fun _ _ => rfl) i hi)
    have hGn : gOk (gBec (Ks (gPl ya (yz - 1)).toNat) G) := (gI_E (gE_bec _ _) (hKs (yz - 1) (by omega) (by omega))).1
    refine eW_aload_n 33 rfl rfl rfl ?_
    refine eW_getfield 36 rfl rfl (Nat.ble_eq_true_of_le (by omega)) rfl hwh2.1 rfl ⟨rfl, fun _ h9 => nomatch h9⟩ ?_
    refine eW_aload_n 37 rfl rfl rfl ?_
    refine eW_getfield 40 rfl rfl (Nat.ble_eq_true_of_le (by omega)) rfl hwh2.1 rfl ⟨rfl, fun _ h9 => nomatch h9⟩ ?_
    refine eW_callVH 43 [.ref 47, .ref 1] [] [] rfl rfl rfl rfl (Nat.ble_eq_true_of_le (by omega)) hwh2.2.2.2.2.2.1.1 rfl rfl rfl (v_learn (d := d + 0) hwh2.2.2.2.2.2.1 hVG.1 (by omega) hwh2.2.1 hGn (by omega) (by omega) (by intro t h1 h2; exact hVG.2 t h1 h2)) rfl rfl ?_
    intro h3 fh3
    obtain ⟨V1, f9h3⟩ := fh3
    have oh3 := f9h3.2.2
    have hVG1 := f9h3.2.1
    have hwh3 : cW h3 X ((gBec (Ks (gPl ya (yz - 1)).toNat) G)) O Q ya ((yz - 1)) Ks V1 S T := ⟨gX_k hwh2.1 (oh3 0 (by omega)), gG_k hwh2.2.1 (fun i _ _ => oh3 i (by omega)), gG_k hwh2.2.2.1 (fun i _ _ => oh3 i (by omega)), gG_k hwh2.2.2.2.1 (fun i _ _ => oh3 i (by omega)), gH_k hwh2.2.2.2.2.1 (fun i _ _ => oh3 i (by omega)), f9h3.1, gS_k hwh2.2.2.2.2.2.2.1 (oh3 56 (by omega)), gT_k hwh2.2.2.2.2.2.2.2.1 (fun i _ _ => oh3 i (by omega)), gK_k hwh2.2.2.2.2.2.2.2.2 (fun i _ _ => oh3 i (by omega))⟩
    have frh3 : cFr h h3 := fun i hi => (oh3 i (by omega)).trans (frh2 i hi)
    refine eW_aload_n 44 rfl rfl rfl ?_
    refine eW_getfield 47 rfl rfl (Nat.ble_eq_true_of_le (by omega)) rfl hwh3.1 rfl ⟨rfl, fun _ h9 => nomatch h9⟩ ?_
    refine eW_callV 50 [.ref 13] [] [vI ((yz - 1))] rfl rfl rfl rfl (Nat.ble_eq_true_of_le (by omega)) hwh3.2.2.2.2.1.1 rfl rfl rfl (h_size (d := d + 5) hwh3.2.2.2.2.1 (by omega) ha (by omega)) rfl rfl ?_
    refine eW_ret_i rfl rfl (Or.inl rfl) ?_
    exact cA_i (if_neg (by omega)) frh3 ⟨fun e => absurd e (by omega), fun _ => ⟨V1, hwh3, hVG1⟩⟩
  · refine eW_throw rfl rfl rfl rfl ?_
    exact cA_x (if_pos (by omega)) (fun _ _ => rfl) ⟨fun _ => ⟨hw, hVG⟩, fun e => absurd e (by omega)⟩
theorem x_save {d N : Nat} {h : eHp} {X : eXs} {G O Q : eGd} {ya yz : Int} {Ks : Nat → eGd} {V : eVs} {S : Int × Int × Int} {T : eTx} (hw : cW h X G O Q ya yz Ks V S T) (hN : 75 ≤ N) {c : Int} (hI : gI c G) (hVG : gVG V G) (ha : 0 ≤ ya ∧ ya < 8) (hz : 0 ≤ yz ∧ yz ≤ 8) (hTO : gTO T)  : eSp (d + 2) eM_X6_save [.ref 0] N h (cA (.inl G.2.2.2.1) N h (fun h' => cW h' (1, X.2.1, X.2.2.1, X.2.2.2) G O (gBec G Q) ya yz Ks V S T)) := by
  refine eSp_of [(0, .ref 0)] rfl rfl ?_
  have hG := hI.1
  have hG9 := hG
  obtain ⟨g1, g2, g3, g4⟩ := hG9
  have hV := hVG.1.1
  have hVD := hVG.1
  have hGn := hG
  refine eW_aload_n 1 rfl rfl rfl ?_
  refine eW_getfield 4 rfl rfl (Nat.ble_eq_true_of_le (by omega)) rfl hw.1 rfl ⟨rfl, fun _ h9 => nomatch h9⟩ ?_
  refine eW_aload_n 5 rfl rfl rfl ?_
  refine eW_getfield 8 rfl rfl (Nat.ble_eq_true_of_le (by omega)) rfl hw.1 rfl ⟨rfl, fun _ h9 => nomatch h9⟩ ?_
  refine eW_callVH 11 [.ref 9, .ref 1] [] [] rfl rfl rfl rfl (Nat.ble_eq_true_of_le (by omega)) hw.2.2.2.1.1 rfl rfl rfl (g_become (d := d + 0) (g := 9) (o := 1) hw.2.2.2.1 (by omega) hw.2.1 (by omega) (by omega)) rfl rfl ?_
  intro h1 fh1
  have oh1 := fh1.2
  have hwh1 : cW h1 X G O ((gBec G Q)) ya yz Ks V S T := ⟨gX_k hw.1 (oh1 0 (by omega)), gG_k hw.2.1 (fun i _ _ => oh1 i (by omega)), gG_k hw.2.2.1 (fun i _ _ => oh1 i (by omega)), fh1.1, gH_k hw.2.2.2.2.1 (fun i _ _ => oh1 i (by omega)), gV_k hw.2.2.2.2.2.1 (fun i _ _ => oh1 i (by omega)), gS_k hw.2.2.2.2.2.2.1 (oh1 56 (by omega)), gT_k hw.2.2.2.2.2.2.2.1 (fun i _ _ => oh1 i (by omega)), gK_k hw.2.2.2.2.2.2.2.2 (fun i _ _ => oh1 i (by omega))⟩
  have frh1 : cFr h h1 := fun i hi => (oh1 i (by omega)).trans ((fun _ _ => rfl) i hi)
  refine eW_aload_n 12 rfl rfl rfl ?_
  refine eW_iconst 13 rfl rfl ?_
  refine eW_putfield 16 [.ref 1, .ref 5, .ref 9, .ref 13, .ref 47, .ref 53, .ref 56, .ref 57, .ref 61, vI 1, vI X.2.1, vI X.2.2.1, vI X.2.2.2] rfl rfl (Nat.ble_eq_true_of_le (by omega)) rfl hwh1.1 rfl rfl ?_
  intro h2 eh2 oh2
  have hwh2 : cW h2 ((1, X.2.1, X.2.2.1, X.2.2.2)) G O ((gBec G Q)) ya yz Ks V S T := ⟨eh2, gG_k hwh1.2.1 (fun i _ _ => oh2 i (by omega)), gG_k hwh1.2.2.1 (fun i _ _ => oh2 i (by omega)), gG_k hwh1.2.2.2.1 (fun i _ _ => oh2 i (by omega)), gH_k hwh1.2.2.2.2.1 (fun i _ _ => oh2 i (by omega)), gV_k hwh1.2.2.2.2.2.1 (fun i _ _ => oh2 i (by omega)), gS_k hwh1.2.2.2.2.2.2.1 (oh2 56 (by omega)), gT_k hwh1.2.2.2.2.2.2.2.1 (fun i _ _ => oh2 i (by omega)), gK_k hwh1.2.2.2.2.2.2.2.2 (fun i _ _ => oh2 i (by omega))⟩
  have frh2 : cFr h h2 := fun i hi => (oh2 i (by omega)).trans (frh1 i hi)
  refine eW_aload_n 17 rfl rfl rfl ?_
  refine eW_getfield 20 rfl rfl (Nat.ble_eq_true_of_le (by omega)) rfl (show h2 0 = .inr (10, [.ref 1, .ref 5, .ref 9, .ref 13, .ref 47, .ref 53, .ref 56, .ref 57, .ref 61, vI 1, vI X.2.1, vI X.2.2.1, vI X.2.2.2]) from hwh2.1) rfl ⟨rfl, fun _ h9 => nomatch h9⟩ ?_
  refine eW_callV 23 [.ref 1] [] [vI G.2.2.2.1] rfl rfl rfl rfl (Nat.ble_eq_true_of_le (by omega)) hwh2.2.1.1 rfl rfl rfl (g_pits (d := d + 0) hwh2.2.1 hGn (by omega)) rfl rfl ?_
  refine eW_ret_i rfl rfl (Or.inl rfl) ?_
  exact cA_i rfl frh2 hwh2
theorem x_restore {d N : Nat} {h : eHp} {X : eXs} {G O Q : eGd} {ya yz : Int} {Ks : Nat → eGd} {V : eVs} {S : Int × Int × Int} {T : eTx} (hw : cW h X G O Q ya yz Ks V S T) (hN : 75 ≤ N) {c : Int} (hI : gI c G) (hVG : gVG V G) (ha : 0 ≤ ya ∧ ya < 8) (hz : 0 ≤ yz ∧ yz ≤ 8) (hTO : gTO T) (hX1 : X.1 = 0 ∨ X.1 = 1) (hQ : X.1 = 1 → gI c Q) : eSp (d + 7) eM_X6_restore [.ref 0] N h (cA (if X.1 = 0 then .inr nISE else .inl Q.2.2.2.1) N h (fun h' => (X.1 = 0 → cW h' X G O Q ya yz Ks V S T ∧ gVG V G) ∧ (X.1 ≠ 0 → ∃ V', cW h' X (gBec Q G) O Q ya 0 Ks V' S T ∧ gVG V' (gBec Q G)))) := by
  refine eSp_of [(0, .ref 0)] rfl rfl ?_
  have hG := hI.1
  have hG9 := hG
  obtain ⟨g1, g2, g3, g4⟩ := hG9
  have hV := hVG.1.1
  have hVD := hVG.1
  refine eW_aload_n 1 rfl rfl rfl ?_
  refine eW_getfield 4 rfl rfl (Nat.ble_eq_true_of_le (by omega)) rfl hw.1 rfl ⟨rfl, fun _ h9 => nomatch h9⟩ ?_
  refine eW_if_ne 7 rfl rfl (by unfold i32; omega) (fun c1 => ?_) (fun c1 => ?_)
  · have hGn : gOk (gBec Q G) := (gI_E (gE_bec _ _) (hQ (by omega))).1
    refine eW_aload_n 19 rfl rfl rfl ?_
    refine eW_getfield 22 rfl rfl (Nat.ble_eq_true_of_le (by omega)) rfl hw.1 rfl ⟨rfl, fun _ h9 => nomatch h9⟩ ?_
    refine eW_aload_n 23 rfl rfl rfl ?_
    refine eW_getfield 26 rfl rfl (Nat.ble_eq_true_of_le (by omega)) rfl hw.1 rfl ⟨rfl, fun _ h9 => nomatch h9⟩ ?_
    refine eW_callVH 29 [.ref 1, .ref 9] [] [] rfl rfl rfl rfl (Nat.ble_eq_true_of_le (by omega)) hw.2.1.1 rfl rfl rfl (g_become (d := d + 5) (g := 1) (o := 9) hw.2.1 (by omega) hw.2.2.2.1 (by omega) (by omega)) rfl rfl ?_
    intro h2 fh2
    have oh2 := fh2.2
    have hwh2 : cW h2 X ((gBec Q G)) O Q ya yz Ks V S T := ⟨gX_k hw.1 (oh2 0 (by omega)), fh2.1, gG_k hw.2.2.1 (fun i _ _ => oh2 i (by omega)), gG_k hw.2.2.2.1 (fun i _ _ => oh2 i (by omega)), gH_k hw.2.2.2.2.1 (fun i _ _ => oh2 i (by omega)), gV_k hw.2.2.2.2.2.1 (fun i _ _ => oh2 i (by omega)), gS_k hw.2.2.2.2.2.2.1 (oh2 56 (by omega)), gT_k hw.2.2.2.2.2.2.2.1 (fun i _ _ => oh2 i (by omega)), gK_k hw.2.2.2.2.2.2.2.2 (fun i _ _ => oh2 i (by omega))⟩
    have frh2 : cFr h h2 := fun i hi => (oh2 i (by omega)).trans ((fun _ _ => rfl) i hi)
    refine eW_aload_n 30 rfl rfl rfl ?_
    refine eW_getfield 33 rfl rfl (Nat.ble_eq_true_of_le (by omega)) rfl hwh2.1 rfl ⟨rfl, fun _ h9 => nomatch h9⟩ ?_
    refine eW_callVH 36 [.ref 13] [] [] rfl rfl rfl rfl (Nat.ble_eq_true_of_le (by omega)) hwh2.2.2.2.2.1.1 rfl rfl rfl (h_forget (d := d + 5) hwh2.2.2.2.2.1 (by omega) ha hz) rfl rfl ?_
    intro h3 fh3
    have oh3 := fh3.2
    have hwh3 : cW h3 X ((gBec Q G)) O Q ya 0 Ks V S T := ⟨gX_k hwh2.1 (oh3 0 (by omega)), gG_k hwh2.2.1 (fun i _ _ => oh3 i (by omega)), gG_k hwh2.2.2.1 (fun i _ _ => oh3 i (by omega)), gG_k hwh2.2.2.2.1 (fun i _ _ => oh3 i (by omega)), fh3.1, gV_k hwh2.2.2.2.2.2.1 (fun i _ _ => oh3 i (by omega)), gS_k hwh2.2.2.2.2.2.2.1 (oh3 56 (by omega)), gT_k hwh2.2.2.2.2.2.2.2.1 (fun i _ _ => oh3 i (by omega)), gK_k hwh2.2.2.2.2.2.2.2.2 (fun i _ _ => oh3 i (by omega))⟩
    have frh3 : cFr h h3 := fun i hi => (oh3 i (by omega)).trans (frh2 i hi)
    refine eW_aload_n 37 rfl rfl rfl ?_
    refine eW_getfield 40 rfl rfl (Nat.ble_eq_true_of_le (by omega)) rfl hwh3.1 rfl ⟨rfl, fun _ h9 => nomatch h9⟩ ?_
    refine eW_aload_n 41 rfl rfl rfl ?_
    refine eW_getfield 44 rfl rfl (Nat.ble_eq_true_of_le (by omega)) rfl hwh3.1 rfl ⟨rfl, fun _ h9 => nomatch h9⟩ ?_
    refine eW_callVH 47 [.ref 47, .ref 1] [] [] rfl rfl rfl rfl (Nat.ble_eq_true_of_le (by omega)) hwh3.2.2.2.2.2.1.1 rfl rfl rfl (v_learn (d := d + 0) hwh3.2.2.2.2.2.1 hVG.1 (by omega) hwh3.2.1 hGn (by omega) (by omega) (by intro t h1 h2; exact hVG.2 t h1 h2)) rfl rfl ?_
    intro h4 fh4
    obtain ⟨V1, f9h4⟩ := fh4
    have oh4 := f9h4.2.2
    have hVG1 := f9h4.2.1
    have hwh4 : cW h4 X ((gBec Q G)) O Q ya 0 Ks V1 S T := ⟨gX_k hwh3.1 (oh4 0 (by omega)), gG_k hwh3.2.1 (fun i _ _ => oh4 i (by omega)), gG_k hwh3.2.2.1 (fun i _ _ => oh4 i (by omega)), gG_k hwh3.2.2.2.1 (fun i _ _ => oh4 i (by omega)), gH_k hwh3.2.2.2.2.1 (fun i _ _ => oh4 i (by omega)), f9h4.1, gS_k hwh3.2.2.2.2.2.2.1 (oh4 56 (by omega)), gT_k hwh3.2.2.2.2.2.2.2.1 (fun i _ _ => oh4 i (by omega)), gK_k hwh3.2.2.2.2.2.2.2.2 (fun i _ _ => oh4 i (by omega))⟩
    have frh4 : cFr h h4 := fun i hi => (oh4 i (by omega)).trans (frh3 i hi)
    refine eW_aload_n 48 rfl rfl rfl ?_
    refine eW_getfield 51 rfl rfl (Nat.ble_eq_true_of_le (by omega)) rfl hwh4.1 rfl ⟨rfl, fun _ h9 => nomatch h9⟩ ?_
    refine eW_callV 54 [.ref 1] [] [vI (((gBec Q G)).2.2.2.1)] rfl rfl rfl rfl (Nat.ble_eq_true_of_le (by omega)) hwh4.2.1.1 rfl rfl rfl (g_pits (d := d + 5) hwh4.2.1 hGn (by omega)) rfl rfl ?_
    refine eW_ret_i rfl rfl (Or.inl rfl) ?_
    exact cA_i (if_neg (by omega)) frh4 ⟨fun e => absurd e (by omega), fun _ => ⟨V1, hwh4, hVG1⟩⟩
  · refine eW_throw rfl rfl rfl rfl ?_
    exact cA_x (if_pos (by omega)) (fun _ _ => rfl) ⟨fun _ => ⟨hw, hVG⟩, fun e => absurd e (by omega)⟩
theorem tAdd_ok {T : eTx} {x : Int} (hT : gTO T) (hx : 0 ≤ x ∧ x ≤ 65535) (hl : T.2.2.2.1 < 60) : gTO (eUp T.1 T.2.2.2.1.toNat x, T.2.1, T.2.2.1, T.2.2.2.1 + 1, T.2.2.2.2) := by
  refine ⟨by show 0 ≤ T.2.2.2.1 + 1 ∧ T.2.2.2.1 + 1 ≤ 60; have := hT.1; omega, hT.2.1, hT.2.2.1, fun i hi => ?_, hT.2.2.2.2⟩
  show 0 ≤ eUp T.1 T.2.2.2.1.toNat x i ∧ eUp T.1 T.2.2.2.1.toNat x i ≤ 65535
  by_cases h : i = T.2.2.2.1.toNat
  · rw [eUp_eq h]; exact hx
  · rw [eUp_ne h]; exact hT.2.2.2.1 i hi
theorem x_append {d N : Nat} {h : eHp} {X : eXs} {G O Q : eGd} {ya yz : Int} {Ks : Nat → eGd} {V : eVs} {S : Int × Int × Int} {T : eTx} (hw : cW h X G O Q ya yz Ks V S T) (hN : 75 ≤ N) {c : Int} (hI : gI c G) (hVG : gVG V G) (ha : 0 ≤ ya ∧ ya < 8) (hz : 0 ≤ yz ∧ yz ≤ 8) (hTO : gTO T) {x : Int} (hx : 0 ≤ x ∧ x ≤ 65535) : eSp (d + 2) eM_X6_append [.ref 0, vI x] N h (cA (if T.2.2.2.1 = 60 then .inr nISE else .inl (T.2.2.2.1 + 1)) N h (fun h' => cW h' X G O Q ya yz Ks V S (if T.2.2.2.1 = 60 then T else (eUp T.1 T.2.2.2.1.toNat x, T.2.1, T.2.2.1, T.2.2.2.1 + 1, T.2.2.2.2)))) := by
  refine eSp_of [(0, .ref 0), (1, vI x)] rfl rfl ?_
  have hG := hI.1
  have hG9 := hG
  obtain ⟨g1, g2, g3, g4⟩ := hG9
  have hV := hVG.1.1
  have hVD := hVG.1
  have hlt := hTO.1
  refine eW_aload_n 1 rfl rfl rfl ?_
  refine eW_getfield 4 rfl rfl (Nat.ble_eq_true_of_le (by omega)) rfl hw.1 rfl ⟨rfl, fun _ h9 => nomatch h9⟩ ?_
  have hfu := eD_c (T.2.2.2.1 = 60)
  refine eW_callV 7 [.ref 57] [] [vI (eB01 (decide (T.2.2.2.1 = 60)))] rfl rfl rfl rfl (Nat.ble_eq_true_of_le (by omega)) hw.2.2.2.2.2.2.2.1.1 rfl rfl rfl (t_isFull (d := d + 0) hw.2.2.2.2.2.2.2.1 hTO (by omega)) rfl rfl ?_
  refine eW_if_eq 10 rfl rfl (by unfold i32; omega) (fun c1 => ?_) (fun c1 => ?_)
  · refine eW_aload_n 22 rfl rfl rfl ?_
    refine eW_getfield 25 rfl rfl (Nat.ble_eq_true_of_le (by omega)) rfl hw.1 rfl ⟨rfl, fun _ h9 => nomatch h9⟩ ?_
    refine eW_iload_n 26 rfl rfl rfl ?_
    refine eW_callVH 29 [.ref 57, vI x] [] [] rfl rfl rfl rfl (Nat.ble_eq_true_of_le (by omega)) hw.2.2.2.2.2.2.2.1.1 rfl rfl rfl (t_add (d := d + 0) hw.2.2.2.2.2.2.2.1 hTO (by omega) hx (by omega)) rfl rfl ?_
    intro h2 fh2
    have oh2 := fh2.2
    have hwh2 : cW h2 X G O Q ya yz Ks V S ((eUp T.1 T.2.2.2.1.toNat x, T.2.1, T.2.2.1, T.2.2.2.1 + 1, T.2.2.2.2)) := ⟨gX_k hw.1 (oh2 0 (by omega)), gG_k hw.2.1 (fun i _ _ => oh2 i (by omega)), gG_k hw.2.2.1 (fun i _ _ => oh2 i (by omega)), gG_k hw.2.2.2.1 (fun i _ _ => oh2 i (by omega)), gH_k hw.2.2.2.2.1 (fun i _ _ => oh2 i (by omega)), gV_k hw.2.2.2.2.2.1 (fun i _ _ => oh2 i (by omega)), gS_k hw.2.2.2.2.2.2.1 (oh2 56 (by omega)), fh2.1, gK_k hw.2.2.2.2.2.2.2.2 (fun i _ _ => oh2 i (by omega))⟩
    have frh2 : cFr h h2 := fun i hi => (oh2 i (by omega)).trans ((fun _ _ => rfl) i hi)
    refine eW_aload_n 30 rfl rfl rfl ?_
    refine eW_getfield 33 rfl rfl (Nat.ble_eq_true_of_le (by omega)) rfl hwh2.1 rfl ⟨rfl, fun _ h9 => nomatch h9⟩ ?_
    refine eW_callV 36 [.ref 57] [] [vI (T.2.2.2.1 + 1)] rfl rfl rfl rfl (Nat.ble_eq_true_of_le (by omega)) hwh2.2.2.2.2.2.2.2.1.1 rfl rfl rfl (t_length (d := d + 0) hwh2.2.2.2.2.2.2.2.1 (tAdd_ok hTO hx (by omega)) (by omega)) rfl rfl ?_
    refine eW_ret_i rfl rfl (Or.inl rfl) ?_
    exact cA_i (if_neg (by omega)) frh2 (by rw [if_neg (by omega)]; exact hwh2)
  · refine eW_throw rfl rfl rfl rfl ?_
    exact cA_x (if_pos (by omega)) (fun _ _ => rfl) (by rw [if_pos (by omega)]; exact hw)
