/-! scoops that are asked for, accounts, means -/
theorem gTal_b {c : Int} {G : eGd} (hI : gI c G) (w : Nat) (h : w < 4) : gTal G 0 w = G.2.2.1 w ∧ gTal G 1 w = G.2.2.1 (4 + w) ∧ (0 ≤ G.2.2.1 w ∧ G.2.2.1 w ≤ 6 * c) ∧ (0 ≤ G.2.2.1 (4 + w) ∧ G.2.2.1 (4 + w) ≤ 6 * c) := by
  have e0 := gTal_l (G := G) 0 w (by decide) h
  have e1 := gTal_l (G := G) 1 w (by decide) h
  exact ⟨e0.trans (by rw [show 0 * 4 + w = w by omega]), e1, hI.2.2.2.2.1 _ (by omega), hI.2.2.2.2.1 _ (by omega)⟩
theorem x_told {d N : Nat} {h : eHp} {X : eXs} {G O Q : eGd} {ya yz : Int} {Ks : Nat → eGd} {V : eVs} {S : Int × Int × Int} {T : eTx} (hw : cW h X G O Q ya yz Ks V S T) (hN : 75 ≤ N) {c : Int} (hI : gI c G) (hVG : gVG V G) (ha : 0 ≤ ya ∧ ya < 8) (hz : 0 ≤ yz ∧ yz ≤ 8) (hTO : gTO T) {x : Int} (hx : i32 x) : eSp (d + 6) eM_X6_told [.ref 0, vI x] N h (cA (gAsk (gTd G) x) N h (fun h' => ∃ S', cW h' X G O Q ya yz Ks V S' T)) := by
  refine eSp_of [(0, .ref 0), (1, vI x)] rfl rfl ?_
  have hG := hI.1
  have hG9 := hG
  obtain ⟨g1, g2, g3, g4⟩ := hG9
  have hV := hVG.1.1
  have hVD := hVG.1
  unfold i32 at hx
  refine eW_aload_n 1 rfl rfl rfl ?_
  have hgy := gYes_c (gTd G)
  refine eW_callVH 4 [.ref 0] [] [vI (gYes (gTd G))] rfl rfl rfl rfl (Nat.ble_eq_true_of_le (by omega)) hw.1 rfl rfl rfl (x_findTold (d := d + 0) hw hN hI hVG ha hz hTO) rfl rfl ?_
  intro h1 fh1
  refine eW_if_ne 7 rfl rfl (by unfold i32; omega) (fun c2 => ?_) (fun c2 => ?_)
  · obtain ⟨y9, hy9⟩ : ∃ u, gTd G = some u := by rcases hgy with ⟨e, _⟩ | ⟨_, e⟩; exact absurd e (by omega); exact e
    rw [hy9] at fh1
    have hf9 : gS h1 56 y9 := fh1.1
    have o9 : ∀ i, i ≠ 56 → h1 i = h i := fh1.2
    have hwh1 : cW h1 X G O Q ya yz Ks V y9 T := ⟨gX_k hw.1 (o9 0 (by omega)), gG_k hw.2.1 (fun i _ _ => o9 i (by omega)), gG_k hw.2.2.1 (fun i _ _ => o9 i (by omega)), gG_k hw.2.2.2.1 (fun i _ _ => o9 i (by omega)), gH_k hw.2.2.2.2.1 (fun i _ _ => o9 i (by omega)), gV_k hw.2.2.2.2.2.1 (fun i _ _ => o9 i (by omega)), hf9, gT_k hw.2.2.2.2.2.2.2.1 (fun i _ _ => o9 i (by omega)), gK_k hw.2.2.2.2.2.2.2.2 (fun i _ _ => o9 i (by omega))⟩
    have frh1 : cFr h h1 := fun i hi => (o9 i (by omega)).trans ((fun _ _ => rfl) i hi)
    refine eW_iload_n 18 rfl rfl rfl ?_
    refine eW_if_lt 21 rfl rfl (by unfold i32; omega) (fun c3 => ?_) (fun c3 => ?_)
    · refine eW_throw rfl rfl rfl rfl ?_
      exact cA_x ((gAsk_s hy9).trans (eIfT_f (decide_eq_false (by omega)))) frh1 ⟨y9, hwh1⟩
    · refine eW_iload_n 22 rfl rfl rfl ?_
      refine eW_iconst 23 rfl rfl ?_
      refine eW_icmp_le 26 rfl rfl (by unfold i32; omega) (by unfold i32; omega) (fun c4 => ?_) (fun c4 => ?_)
      · refine eW_aload_n 37 rfl rfl rfl ?_
        refine eW_getfield 40 rfl rfl (Nat.ble_eq_true_of_le (by omega)) rfl hwh1.1 rfl ⟨rfl, fun _ h9 => nomatch h9⟩ ?_
        refine eW_iload_n 41 rfl rfl rfl ?_
        refine eW_callV 44 [.ref 56, vI x] [] [vI (gPart y9 x)] rfl rfl rfl rfl (Nat.ble_eq_true_of_le (by omega)) hwh1.2.2.2.2.2.2.1 rfl rfl rfl (s_part (d := d + 4) hwh1.2.2.2.2.2.2.1 (by omega) (by unfold i32; omega)) rfl rfl ?_
        refine eW_ret_i rfl rfl (Or.inl rfl) ?_
        exact cA_i ((gAsk_s hy9).trans (eIfT_t (decide_eq_true (by omega)))) frh1 ⟨y9, hwh1⟩
      · refine eW_throw rfl rfl rfl rfl ?_
        exact cA_x ((gAsk_s hy9).trans (eIfT_f (decide_eq_false (by omega)))) frh1 ⟨y9, hwh1⟩
  · refine eW_throw rfl rfl rfl rfl ?_
    have hn9 : gTd G = none := by rcases hgy with ⟨_, e⟩ | ⟨e, _⟩; exact e; exact absurd e (by omega)
    rw [hn9] at fh1
    have e9 : h1 = h := fh1
    rw [e9]
    exact cA_x (gAsk_n hn9) (fun _ _ => rfl) ⟨S, hw⟩
theorem x_scoopAt {d N : Nat} {h : eHp} {X : eXs} {G O Q : eGd} {ya yz : Int} {Ks : Nat → eGd} {V : eVs} {S : Int × Int × Int} {T : eTx} (hw : cW h X G O Q ya yz Ks V S T) (hN : 75 ≤ N) {c : Int} (hI : gI c G) (hVG : gVG V G) (ha : 0 ≤ ya ∧ ya < 8) (hz : 0 ≤ yz ∧ yz ≤ 8) (hTO : gTO T) {y x : Int} (hy : i32 y) (hx : i32 x) : eSp (d + 7) eM_X6_scoopAt [.ref 0, vI y, vI x] N h (cA (gAsk (gAt G y) x) N h (fun h' => ∃ S', cW h' X G O Q ya yz Ks V S' T)) := by
  refine eSp_of [(0, .ref 0), (1, vI y), (2, vI x)] rfl rfl ?_
  have hG := hI.1
  have hG9 := hG
  obtain ⟨g1, g2, g3, g4⟩ := hG9
  have hV := hVG.1.1
  have hVD := hVG.1
  unfold i32 at hy hx
  refine eW_aload_n 1 rfl rfl rfl ?_
  refine eW_iload_n 2 rfl rfl rfl ?_
  have hgy := gYes_c (gAt G y)
  refine eW_callVH 5 [.ref 0, vI y] [] [vI (gYes (gAt G y))] rfl rfl rfl rfl (Nat.ble_eq_true_of_le (by omega)) hw.1 rfl rfl rfl (x_findAt (d := d + 0) hw hN hI hVG ha hz hTO (by unfold i32; omega)) rfl rfl ?_
  intro h1 fh1
  refine eW_if_ne 8 rfl rfl (by unfold i32; omega) (fun c2 => ?_) (fun c2 => ?_)
  · obtain ⟨y9, hy9⟩ : ∃ u, gAt G y = some u := by rcases hgy with ⟨e, _⟩ | ⟨_, e⟩; exact absurd e (by omega); exact e
    rw [hy9] at fh1
    have hf9 : gS h1 56 y9 := fh1.1
    have o9 : ∀ i, i ≠ 56 → h1 i = h i := fh1.2
    have hwh1 : cW h1 X G O Q ya yz Ks V y9 T := ⟨gX_k hw.1 (o9 0 (by omega)), gG_k hw.2.1 (fun i _ _ => o9 i (by omega)), gG_k hw.2.2.1 (fun i _ _ => o9 i (by omega)), gG_k hw.2.2.2.1 (fun i _ _ => o9 i (by omega)), gH_k hw.2.2.2.2.1 (fun i _ _ => o9 i (by omega)), gV_k hw.2.2.2.2.2.1 (fun i _ _ => o9 i (by omega)), hf9, gT_k hw.2.2.2.2.2.2.2.1 (fun i _ _ => o9 i (by omega)), gK_k hw.2.2.2.2.2.2.2.2 (fun i _ _ => o9 i (by omega))⟩
    have frh1 : cFr h h1 := fun i hi => (o9 i (by omega)).trans ((fun _ _ => rfl) i hi)
    refine eW_iload_n 19 rfl rfl rfl ?_
    refine eW_if_lt 22 rfl rfl (by unfold i32; omega) (fun c3 => ?_) (fun c3 => ?_)
    · refine eW_throw rfl rfl rfl rfl ?_
      exact cA_x ((gAsk_s hy9).trans (eIfT_f (decide_eq_false (by omega)))) frh1 ⟨y9, hwh1⟩
    · refine eW_iload_n 23 rfl rfl rfl ?_
      refine eW_iconst 24 rfl rfl ?_
      refine eW_icmp_le 27 rfl rfl (by unfold i32; omega) (by unfold i32; omega) (fun c4 => ?_) (fun c4 => ?_)
      · refine eW_aload_n 38 rfl rfl rfl ?_
        refine eW_getfield 41 rfl rfl (Nat.ble_eq_true_of_le (by omega)) rfl hwh1.1 rfl ⟨rfl, fun _ h9 => nomatch h9⟩ ?_
        refine eW_iload_n 42 rfl rfl rfl ?_
        refine eW_callV 45 [.ref 56, vI x] [] [vI (gPart y9 x)] rfl rfl rfl rfl (Nat.ble_eq_true_of_le (by omega)) hwh1.2.2.2.2.2.2.1 rfl rfl rfl (s_part (d := d + 5) hwh1.2.2.2.2.2.2.1 (by omega) (by unfold i32; omega)) rfl rfl ?_
        refine eW_ret_i rfl rfl (Or.inl rfl) ?_
        exact cA_i ((gAsk_s hy9).trans (eIfT_t (decide_eq_true (by omega)))) frh1 ⟨y9, hwh1⟩
      · refine eW_throw rfl rfl rfl rfl ?_
        exact cA_x ((gAsk_s hy9).trans (eIfT_f (decide_eq_false (by omega)))) frh1 ⟨y9, hwh1⟩
  · refine eW_throw rfl rfl rfl rfl ?_
    have hn9 : gAt G y = none := by rcases hgy with ⟨_, e⟩ | ⟨e, _⟩; exact e; exact absurd e (by omega)
    rw [hn9] at fh1
    have e9 : h1 = h := fh1
    rw [e9]
    exact cA_x (gAsk_n hn9) (fun _ _ => rfl) ⟨S, hw⟩
theorem x_account {d N : Nat} {h : eHp} {X : eXs} {G O Q : eGd} {ya yz : Int} {Ks : Nat → eGd} {V : eVs} {S : Int × Int × Int} {T : eTx} (hw : cW h X G O Q ya yz Ks V S T) (hN : 75 ≤ N) {c : Int} (hI : gI c G) (hVG : gVG V G) (ha : 0 ≤ ya ∧ ya < 8) (hz : 0 ≤ yz ∧ yz ≤ 8) (hTO : gTO T) {x : Int} (hx : i32 x) : eSp (d + 4) eM_X6_account [.ref 0, vI x] N h (eAns (eIfT (decide (0 ≤ x ∧ x ≤ 9)) nIAE (.inl (gAcc G (gTop V.2.1 31) T.2.2.2.1 yz x))) N h) := by
  refine eSp_of [(0, .ref 0), (1, vI x)] rfl rfl ?_
  have hG := hI.1
  have hG9 := hG
  obtain ⟨g1, g2, g3, g4⟩ := hG9
  have hV := hVG.1.1
  have hVD := hVG.1
  have hGn := hG
  unfold i32 at hx
  have htb1 : gTal G 0 1 = G.2.2.1 1 ∧ gTal G 1 1 = G.2.2.1 5 ∧ _ := gTal_b hI 1 (by decide)
  have htb3 : gTal G 0 3 = G.2.2.1 3 ∧ gTal G 1 3 = G.2.2.1 7 ∧ _ := gTal_b hI 3 (by decide)
  refine eW_iload_n 1 rfl rfl rfl ?_
  by_cases c1 : (0 : Int) ≤ x ∧ x ≤ 9
  · rcases (show x = 0 ∨ x = 1 ∨ x = 2 ∨ x = 3 ∨ x = 4 ∨ x = 5 ∨ x = 6 ∨ x = 7 ∨ x = 8 ∨ x = 9 from by omega) with e2 | e3 | e4 | e5 | e6 | e7 | e8 | e9 | e10 | e11
    · refine eW_table 56 rfl (by unfold eSwT; rw [ofInt_toInt32 (by unfold i32; omega), e2]; rfl) ?_
      refine eW_aload_n 57 rfl rfl rfl ?_
      refine eW_getfield 60 rfl rfl (Nat.ble_eq_true_of_le (by omega)) rfl hw.1 rfl ⟨rfl, fun _ h9 => nomatch h9⟩ ?_
      refine eW_callV 63 [.ref 1] [] [vI G.2.2.2.1] rfl rfl rfl rfl (Nat.ble_eq_true_of_le (by omega)) hw.2.1.1 rfl rfl rfl (g_pits (d := d + 2) hw.2.1 hGn (by omega)) rfl rfl ?_
      refine eW_ret_i rfl rfl (Or.inl rfl) ?_
      refine eAns_i ((eIfT_t (decide_eq_true (by omega))).trans ?_)
      have ek := gAcc_k G (gTop V.2.1 31) T.2.2.2.1 yz
      subst_vars
      simp only [ek.1, ek.2.1, ek.2.2.1, ek.2.2.2.1, ek.2.2.2.2.1, ek.2.2.2.2.2.1, ek.2.2.2.2.2.2.1, ek.2.2.2.2.2.2.2.1, ek.2.2.2.2.2.2.2.2.1, ek.2.2.2.2.2.2.2.2.2]
      all_goals first | rfl | rw [htb1.1, htb1.2.1] | rw [htb3.1, htb3.2.1]
    · refine eW_table 64 rfl (by unfold eSwT; rw [ofInt_toInt32 (by unfold i32; omega), e3]; rfl) ?_
      refine eW_aload_n 65 rfl rfl rfl ?_
      refine eW_getfield 68 rfl rfl (Nat.ble_eq_true_of_le (by omega)) rfl hw.1 rfl ⟨rfl, fun _ h9 => nomatch h9⟩ ?_
      refine eW_callV 71 [.ref 1] [] [vI (gSum G.1 G.2.2.2.1.toNat)] rfl rfl rfl rfl (Nat.ble_eq_true_of_le (by omega)) hw.2.1.1 rfl rfl rfl (g_all (d := d + 0) hw.2.1 hG (by omega)) rfl rfl ?_
      refine eW_ret_i rfl rfl (Or.inl rfl) ?_
      refine eAns_i ((eIfT_t (decide_eq_true (by omega))).trans ?_)
      have ek := gAcc_k G (gTop V.2.1 31) T.2.2.2.1 yz
      subst_vars
      simp only [ek.1, ek.2.1, ek.2.2.1, ek.2.2.2.1, ek.2.2.2.2.1, ek.2.2.2.2.2.1, ek.2.2.2.2.2.2.1, ek.2.2.2.2.2.2.2.1, ek.2.2.2.2.2.2.2.2.1, ek.2.2.2.2.2.2.2.2.2]
      all_goals first | rfl | rw [htb1.1, htb1.2.1] | rw [htb3.1, htb3.2.1]
    · refine eW_table 72 rfl (by unfold eSwT; rw [ofInt_toInt32 (by unfold i32; omega), e4]; rfl) ?_
      refine eW_aload_n 73 rfl rfl rfl ?_
      refine eW_getfield 76 rfl rfl (Nat.ble_eq_true_of_le (by omega)) rfl hw.1 rfl ⟨rfl, fun _ h9 => nomatch h9⟩ ?_
      refine eW_callV 79 [.ref 1] [] [vI G.2.2.2.2.2.1] rfl rfl rfl rfl (Nat.ble_eq_true_of_le (by omega)) hw.2.1.1 rfl rfl rfl (g_marblesCame (d := d + 2) hw.2.1 hG (by omega)) rfl rfl ?_
      refine eW_ret_i rfl rfl (Or.inl rfl) ?_
      refine eAns_i ((eIfT_t (decide_eq_true (by omega))).trans ?_)
      have ek := gAcc_k G (gTop V.2.1 31) T.2.2.2.1 yz
      subst_vars
      simp only [ek.1, ek.2.1, ek.2.2.1, ek.2.2.2.1, ek.2.2.2.2.1, ek.2.2.2.2.2.1, ek.2.2.2.2.2.2.1, ek.2.2.2.2.2.2.2.1, ek.2.2.2.2.2.2.2.2.1, ek.2.2.2.2.2.2.2.2.2]
      all_goals first | rfl | rw [htb1.1, htb1.2.1] | rw [htb3.1, htb3.2.1]
    · refine eW_table 80 rfl (by unfold eSwT; rw [ofInt_toInt32 (by unfold i32; omega), e5]; rfl) ?_
      refine eW_aload_n 81 rfl rfl rfl ?_
      refine eW_getfield 84 rfl rfl (Nat.ble_eq_true_of_le (by omega)) rfl hw.1 rfl ⟨rfl, fun _ h9 => nomatch h9⟩ ?_
      refine eW_iconst 85 rfl rfl ?_
      refine eW_callV 88 [.ref 1, vI 1] [] [vI (gTal G 0 1 + gTal G 1 1)] rfl rfl rfl rfl (Nat.ble_eq_true_of_le (by omega)) hw.2.1.1 rfl rfl rfl (g_tallyOfBoth (d := d + 0) hw.2.1 hG (by omega) (by unfold i32; omega)) rfl rfl ?_
      refine eW_ret_i rfl rfl (Or.inl rfl) ?_
      refine eAns_i ((eIfT_t (decide_eq_true (by omega))).trans ?_)
      have ek := gAcc_k G (gTop V.2.1 31) T.2.2.2.1 yz
      subst_vars
      simp only [ek.1, ek.2.1, ek.2.2.1, ek.2.2.2.1, ek.2.2.2.2.1, ek.2.2.2.2.2.1, ek.2.2.2.2.2.2.1, ek.2.2.2.2.2.2.2.1, ek.2.2.2.2.2.2.2.2.1, ek.2.2.2.2.2.2.2.2.2]
      all_goals first | rfl | rw [htb1.1, htb1.2.1] | rw [htb3.1, htb3.2.1]
    · refine eW_table 89 rfl (by unfold eSwT; rw [ofInt_toInt32 (by unfold i32; omega), e6]; rfl) ?_
      refine eW_aload_n 90 rfl rfl rfl ?_
      refine eW_getfield 93 rfl rfl (Nat.ble_eq_true_of_le (by omega)) rfl hw.1 rfl ⟨rfl, fun _ h9 => nomatch h9⟩ ?_
      refine eW_callV 96 [.ref 1] [] [vI G.2.2.2.2.2.2.1] rfl rfl rfl rfl (Nat.ble_eq_true_of_le (by omega)) hw.2.1.1 rfl rfl rfl (g_marblesLeftLying (d := d + 2) hw.2.1 hG (by omega)) rfl rfl ?_
      refine eW_ret_i rfl rfl (Or.inl rfl) ?_
      refine eAns_i ((eIfT_t (decide_eq_true (by omega))).trans ?_)
      have ek := gAcc_k G (gTop V.2.1 31) T.2.2.2.1 yz
      subst_vars
      simp only [ek.1, ek.2.1, ek.2.2.1, ek.2.2.2.1, ek.2.2.2.2.1, ek.2.2.2.2.2.1, ek.2.2.2.2.2.2.1, ek.2.2.2.2.2.2.2.1, ek.2.2.2.2.2.2.2.2.1, ek.2.2.2.2.2.2.2.2.2]
      all_goals first | rfl | rw [htb1.1, htb1.2.1] | rw [htb3.1, htb3.2.1]
    · refine eW_table 97 rfl (by unfold eSwT; rw [ofInt_toInt32 (by unfold i32; omega), e7]; rfl) ?_
      refine eW_aload_n 98 rfl rfl rfl ?_
      refine eW_getfield 101 rfl rfl (Nat.ble_eq_true_of_le (by omega)) rfl hw.1 rfl ⟨rfl, fun _ h9 => nomatch h9⟩ ?_
      refine eW_callV 104 [.ref 1] [] [vI G.2.2.2.2.2.2.2] rfl rfl rfl rfl (Nat.ble_eq_true_of_le (by omega)) hw.2.1.1 rfl rfl rfl (g_gamesSoFar (d := d + 2) hw.2.1 hG (by omega)) rfl rfl ?_
      refine eW_ret_i rfl rfl (Or.inl rfl) ?_
      refine eAns_i ((eIfT_t (decide_eq_true (by omega))).trans ?_)
      have ek := gAcc_k G (gTop V.2.1 31) T.2.2.2.1 yz
      subst_vars
      simp only [ek.1, ek.2.1, ek.2.2.1, ek.2.2.2.1, ek.2.2.2.2.1, ek.2.2.2.2.2.1, ek.2.2.2.2.2.2.1, ek.2.2.2.2.2.2.2.1, ek.2.2.2.2.2.2.2.2.1, ek.2.2.2.2.2.2.2.2.2]
      all_goals first | rfl | rw [htb1.1, htb1.2.1] | rw [htb3.1, htb3.2.1]
    · refine eW_table 105 rfl (by unfold eSwT; rw [ofInt_toInt32 (by unfold i32; omega), e8]; rfl) ?_
      refine eW_aload_n 106 rfl rfl rfl ?_
      refine eW_getfield 109 rfl rfl (Nat.ble_eq_true_of_le (by omega)) rfl hw.1 rfl ⟨rfl, fun _ h9 => nomatch h9⟩ ?_
      refine eW_iconst 110 rfl rfl ?_
      refine eW_callV 113 [.ref 1, vI 3] [] [vI (gTal G 0 3 + gTal G 1 3)] rfl rfl rfl rfl (Nat.ble_eq_true_of_le (by omega)) hw.2.1.1 rfl rfl rfl (g_tallyOfBoth (d := d + 0) hw.2.1 hG (by omega) (by unfold i32; omega)) rfl rfl ?_
      refine eW_ret_i rfl rfl (Or.inl rfl) ?_
      refine eAns_i ((eIfT_t (decide_eq_true (by omega))).trans ?_)
      have ek := gAcc_k G (gTop V.2.1 31) T.2.2.2.1 yz
      subst_vars
      simp only [ek.1, ek.2.1, ek.2.2.1, ek.2.2.2.1, ek.2.2.2.2.1, ek.2.2.2.2.2.1, ek.2.2.2.2.2.2.1, ek.2.2.2.2.2.2.2.1, ek.2.2.2.2.2.2.2.2.1, ek.2.2.2.2.2.2.2.2.2]
      all_goals first | rfl | rw [htb1.1, htb1.2.1] | rw [htb3.1, htb3.2.1]
    · refine eW_table 114 rfl (by unfold eSwT; rw [ofInt_toInt32 (by unfold i32; omega), e9]; rfl) ?_
      refine eW_aload_n 115 rfl rfl rfl ?_
      refine eW_getfield 118 rfl rfl (Nat.ble_eq_true_of_le (by omega)) rfl hw.1 rfl ⟨rfl, fun _ h9 => nomatch h9⟩ ?_
      refine eW_callV 121 [.ref 47] [] [vI (gTop V.2.1 31)] rfl rfl rfl rfl (Nat.ble_eq_true_of_le (by omega)) hw.2.2.2.2.2.1.1 rfl rfl rfl (v_top (d := d + 2) hw.2.2.2.2.2.1 hV (by omega)) rfl rfl ?_
      refine eW_ret_i rfl rfl (Or.inl rfl) ?_
      refine eAns_i ((eIfT_t (decide_eq_true (by omega))).trans ?_)
      have ek := gAcc_k G (gTop V.2.1 31) T.2.2.2.1 yz
      subst_vars
      simp only [ek.1, ek.2.1, ek.2.2.1, ek.2.2.2.1, ek.2.2.2.2.1, ek.2.2.2.2.2.1, ek.2.2.2.2.2.2.1, ek.2.2.2.2.2.2.2.1, ek.2.2.2.2.2.2.2.2.1, ek.2.2.2.2.2.2.2.2.2]
      all_goals first | rfl | rw [htb1.1, htb1.2.1] | rw [htb3.1, htb3.2.1]
    · refine eW_table 122 rfl (by unfold eSwT; rw [ofInt_toInt32 (by unfold i32; omega), e10]; rfl) ?_
      refine eW_aload_n 123 rfl rfl rfl ?_
      refine eW_getfield 126 rfl rfl (Nat.ble_eq_true_of_le (by omega)) rfl hw.1 rfl ⟨rfl, fun _ h9 => nomatch h9⟩ ?_
      refine eW_callV 129 [.ref 57] [] [vI T.2.2.2.1] rfl rfl rfl rfl (Nat.ble_eq_true_of_le (by omega)) hw.2.2.2.2.2.2.2.1.1 rfl rfl rfl (t_length (d := d + 2) hw.2.2.2.2.2.2.2.1 hTO (by omega)) rfl rfl ?_
      refine eW_ret_i rfl rfl (Or.inl rfl) ?_
      refine eAns_i ((eIfT_t (decide_eq_true (by omega))).trans ?_)
      have ek := gAcc_k G (gTop V.2.1 31) T.2.2.2.1 yz
      subst_vars
      simp only [ek.1, ek.2.1, ek.2.2.1, ek.2.2.2.1, ek.2.2.2.2.1, ek.2.2.2.2.2.1, ek.2.2.2.2.2.2.1, ek.2.2.2.2.2.2.2.1, ek.2.2.2.2.2.2.2.2.1, ek.2.2.2.2.2.2.2.2.2]
      all_goals first | rfl | rw [htb1.1, htb1.2.1] | rw [htb3.1, htb3.2.1]
    · refine eW_table 130 rfl (by unfold eSwT; rw [ofInt_toInt32 (by unfold i32; omega), e11]; rfl) ?_
      refine eW_aload_n 131 rfl rfl rfl ?_
      refine eW_getfield 134 rfl rfl (Nat.ble_eq_true_of_le (by omega)) rfl hw.1 rfl ⟨rfl, fun _ h9 => nomatch h9⟩ ?_
      refine eW_callV 137 [.ref 13] [] [vI yz] rfl rfl rfl rfl (Nat.ble_eq_true_of_le (by omega)) hw.2.2.2.2.1.1 rfl rfl rfl (h_size (d := d + 2) hw.2.2.2.2.1 (by omega) ha hz) rfl rfl ?_
      refine eW_ret_i rfl rfl (Or.inl rfl) ?_
      refine eAns_i ((eIfT_t (decide_eq_true (by omega))).trans ?_)
      have ek := gAcc_k G (gTop V.2.1 31) T.2.2.2.1 yz
      subst_vars
      simp only [ek.1, ek.2.1, ek.2.2.1, ek.2.2.2.1, ek.2.2.2.2.1, ek.2.2.2.2.2.1, ek.2.2.2.2.2.2.1, ek.2.2.2.2.2.2.2.1, ek.2.2.2.2.2.2.2.2.1, ek.2.2.2.2.2.2.2.2.2]
      all_goals first | rfl | rw [htb1.1, htb1.2.1] | rw [htb3.1, htb3.2.1]
  · rcases (show x < 0 ∨ (¬ x < 0 ∧ 9 < x) from by omega) with z12 | ⟨z12, z12b⟩
    · refine eW_table 138 rfl (by unfold eSwT; rw [ofInt_toInt32 (by unfold i32; omega), if_pos z12]; rfl) ?_
      refine eW_throw rfl rfl rfl rfl ?_
      exact eAns_x (eIfT_f (decide_eq_false (by omega)))
    · refine eW_table 138 rfl (by unfold eSwT; rw [ofInt_toInt32 (by unfold i32; omega), if_neg z12, if_pos z12b]; rfl) ?_
      refine eW_throw rfl rfl rfl rfl ?_
      exact eAns_x (eIfT_f (decide_eq_false (by omega)))
def eAnD (r : UInt64 ⊕ String) (N : Nat) (h : eHp) : eR → Prop := fun q => q = (match r with | .inl a => (.inl (some (.double a)), N, h, 0, 0) | .inr E => (.inr E, N, h, 1, 6))
def eAnF (r : UInt32 ⊕ String) (N : Nat) (h : eHp) : eR → Prop := fun q => q = (match r with | .inl a => (.inl (some (.float a)), N, h, 0, 0) | .inr E => (.inr E, N, h, 1, 6))
theorem eAnD_i {r : UInt64 ⊕ String} {a : UInt64} {N : Nat} {h : eHp} (e : r = .inl a) : eAnD r N h (.inl (some (.double a)), N, h, 0, 0) := by rw [e]; rfl
theorem eAnD_x {r : UInt64 ⊕ String} {E : String} {N : Nat} {h : eHp} (e : r = .inr E) : eAnD r N h (.inr E, N, h, 1, 6) := by rw [e]; rfl
theorem eAnF_i {r : UInt32 ⊕ String} {a : UInt32} {N : Nat} {h : eHp} (e : r = .inl a) : eAnF r N h (.inl (some (.float a)), N, h, 0, 0) := by rw [e]; rfl
theorem eAnF_x {r : UInt32 ⊕ String} {E : String} {N : Nat} {h : eHp} (e : r = .inr E) : eAnF r N h (.inr E, N, h, 1, 6) := by rw [e]; rfl
theorem x_mean {d N : Nat} {h : eHp} {X : eXs} {G O Q : eGd} {ya yz : Int} {Ks : Nat → eGd} {V : eVs} {S : Int × Int × Int} {T : eTx} (hw : cW h X G O Q ya yz Ks V S T) (hN : 75 ≤ N) {c : Int} (hI : gI c G) (hVG : gVG V G) (ha : 0 ≤ ya ∧ ya < 8) (hz : 0 ≤ yz ∧ yz ≤ 8) (hTO : gTO T)  : eSp (d + 4) eM_X6_meanMarbles [.ref 0] N h (eAnD (if G.2.2.2.1 = 0 then .inr "java/lang/ArithmeticException" else .inl (gMean (gSum G.1 G.2.2.2.1.toNat) G.2.2.2.1)) N h) := by
  refine eSp_of [(0, .ref 0)] rfl rfl ?_
  have hG := hI.1
  have hG9 := hG
  obtain ⟨g1, g2, g3, g4⟩ := hG9
  have hV := hVG.1.1
  have hVD := hVG.1
  have hGn := hG
  have hs40 := hI.2.2.2.1
  have hsp := gI_pits hI
  refine eW_aload_n 1 rfl rfl rfl ?_
  refine eW_getfield 4 rfl rfl (Nat.ble_eq_true_of_le (by omega)) rfl hw.1 rfl ⟨rfl, fun _ h9 => nomatch h9⟩ ?_
  refine eW_callV 7 [.ref 1] [] [vI G.2.2.2.1] rfl rfl rfl rfl (Nat.ble_eq_true_of_le (by omega)) hw.2.1.1 rfl rfl rfl (g_pits (d := d + 2) hw.2.1 hGn (by omega)) rfl rfl ?_
  refine eW_istore_n 8 rfl rfl [(1, vI G.2.2.2.1), (0, .ref 0)] rfl rfl ?_
  refine eW_iload_n 9 rfl rfl rfl ?_
  refine eW_if_ne 12 rfl rfl (by unfold i32; omega) (fun c1 => ?_) (fun c1 => ?_)
  · refine eW_aload_n 24 rfl rfl rfl ?_
    refine eW_getfield 27 rfl rfl (Nat.ble_eq_true_of_le (by omega)) rfl hw.1 rfl ⟨rfl, fun _ h9 => nomatch h9⟩ ?_
    refine eW_callV 30 [.ref 1] [] [vI (gSum G.1 G.2.2.2.1.toNat)] rfl rfl rfl rfl (Nat.ble_eq_true_of_le (by omega)) hw.2.1.1 rfl rfl rfl (g_all (d := d + 0) hw.2.1 hG (by omega)) rfl rfl ?_
    refine eW_i2d 31 rfl rfl ?_
    refine eW_iload_n 32 rfl rfl rfl ?_
    refine eW_i2d 33 rfl rfl ?_
    refine eW_ddiv 34 rfl rfl (fl_and64 (gMean_ok (by omega) (by omega))) ?_
    refine eW_ret_d rfl rfl ?_
    exact eAnD_i (if_neg (by omega))
  · refine eW_throw rfl rfl rfl rfl ?_
    exact eAnD_x (if_pos (by omega))
theorem x_share {d N : Nat} {h : eHp} {X : eXs} {G O Q : eGd} {ya yz : Int} {Ks : Nat → eGd} {V : eVs} {S : Int × Int × Int} {T : eTx} (hw : cW h X G O Q ya yz Ks V S T) (hN : 75 ≤ N) {c : Int} (hI : gI c G) (hVG : gVG V G) (ha : 0 ≤ ya ∧ ya < 8) (hz : 0 ≤ yz ∧ yz ≤ 8) (hTO : gTO T) (hc : c ≤ 15990) {m : Int} (hm : i32 m) : eSp (d + 4) eM_X6_share [.ref 0, vI m] N h (eAnF (if gMonk m = false then .inr nIOB else if G.2.2.1 0 + G.2.2.1 4 = 0 then .inr "java/lang/ArithmeticException" else .inl (gShr (gTal G m 0) (G.2.2.1 0 + G.2.2.1 4))) N h) := by
  refine eSp_of [(0, .ref 0), (1, vI m)] rfl rfl ?_
  have hG := hI.1
  have hG9 := hG
  obtain ⟨g1, g2, g3, g4⟩ := hG9
  have hV := hVG.1.1
  have hVD := hVG.1
  unfold i32 at hm
  have htb0 : gTal G 0 0 = G.2.2.1 0 ∧ gTal G 1 0 = G.2.2.1 4 ∧ (0 ≤ G.2.2.1 0 ∧ G.2.2.1 0 ≤ 6 * c) ∧ (0 ≤ G.2.2.1 4 ∧ G.2.2.1 4 ≤ 6 * c) := gTal_b hI 0 (by decide)
  have hs04 := hI.2.2.2.2.2.1
  refine eW_iload_n 1 rfl rfl rfl ?_
  have hmk := eB01_c (gMonk m)
  refine eW_callS 4 [vI m] [] [vI (eB01 (gMonk m))] rfl rfl rfl (Or.inl rfl) rfl rfl rfl (x_isMonk (d := d + 2) (by unfold i32; omega)) rfl rfl ?_
  refine eW_if_ne 7 rfl rfl (by unfold i32; omega) (fun c1 => ?_) (fun c1 => ?_)
  · have hmk9 : ¬ gMonk m = false := by rcases hmk with e | e; rw [e.1]; decide; exact absurd e.2 (by omega)
    have hm9 : 0 ≤ m ∧ m < 2 := by rcases hmk with e | e; exact of_decide_eq_true e.1; exact absurd e.2 (by omega)
    refine eW_aload_n 18 rfl rfl rfl ?_
    refine eW_getfield 21 rfl rfl (Nat.ble_eq_true_of_le (by omega)) rfl hw.1 rfl ⟨rfl, fun _ h9 => nomatch h9⟩ ?_
    refine eW_iconst 22 rfl rfl ?_
    refine eW_callV 25 [.ref 1, vI 0] [] [vI (gTal G 0 0 + gTal G 1 0)] rfl rfl rfl rfl (Nat.ble_eq_true_of_le (by omega)) hw.2.1.1 rfl rfl rfl (g_tallyOfBoth (d := d + 0) hw.2.1 hG (by omega) (by unfold i32; omega)) rfl rfl ?_
    rw [show (gTal G 0 0 + gTal G 1 0 : Int) = G.2.2.1 0 + G.2.2.1 4 from (by rw [htb0.1, htb0.2.1])]
    refine eW_istore_n 26 rfl rfl [(2, vI (G.2.2.1 0 + G.2.2.1 4)), (0, .ref 0), (1, vI m)] rfl rfl ?_
    refine eW_iload_n 27 rfl rfl rfl ?_
    refine eW_if_ne 30 rfl rfl (by unfold i32; omega) (fun c2 => ?_) (fun c2 => ?_)
    · refine eW_aload_n 42 rfl rfl rfl ?_
      refine eW_getfield 45 rfl rfl (Nat.ble_eq_true_of_le (by omega)) rfl hw.1 rfl ⟨rfl, fun _ h9 => nomatch h9⟩ ?_
      refine eW_iload_n 46 rfl rfl rfl ?_
      refine eW_iconst 47 rfl rfl ?_
      refine eW_callV 50 [.ref 1, vI m, vI 0] [] [vI (gTal G m 0)] rfl rfl rfl rfl (Nat.ble_eq_true_of_le (by omega)) hw.2.1.1 rfl rfl rfl (g_tally (d := d + 1) hw.2.1 hG (by omega) (by unfold i32; omega) (by unfold i32; omega)) rfl rfl ?_
      refine eW_i2f 51 rfl rfl ?_
      refine eW_iload_n 52 rfl rfl rfl ?_
      refine eW_i2f 53 rfl rfl ?_
      refine eW_fdiv 54 rfl rfl (fl_and32 (gShr_ok (by have e9 := gTal0_le hI (m := m) (by omega); omega) (by omega))) ?_
      refine eW_ret_f rfl rfl ?_
      exact eAnF_i ((if_neg hmk9).trans (if_neg (by omega)))
    · refine eW_throw rfl rfl rfl rfl ?_
      exact eAnF_x ((if_neg hmk9).trans (if_pos (by omega)))
  · refine eW_throw rfl rfl rfl rfl ?_
    exact eAnF_x (if_pos (by rcases hmk with e | e; exact absurd e.2 (by omega); exact e.1))
