/-! the law's cases, closed -/
theorem ls_0 {ox : Nat → Option (Nat × Nat × (Nat → Int32))} {d n k z g : Nat} {h : eHp} {xs : Nat → Int} {i : Int} {P : eR → Prop} (hox : ox 0 = some (0, n, eIA xs)) (hxs : ∀ j, i32 (xs j)) (hi : 0 ≤ i ∧ i + 4 ≤ n) (hn : n ≤ 2048) {c : Int} {X : eXs} {G O Q : eGd} {ya yz : Int} {Ks : Nat → eGd} {V : eVs} {S : Int × Int × Int} {T : eTx} {L : List Int} {s : Nat → Int} {A : Nat → Nat → Int} (J : lJ c g h X G O Q ya yz Ks V S T L s A) (hc : 0 ≤ c ∧ c ≤ 15900) (kk : ∀ g' k1 z1 h1, lI (c + 30) g' h1 → k1 ≤ 10 → z1 ≤ 2000 → eWp ox (eEv (d + 50)) eM_L_law (1930, [(0, .retAddr 0), (1, .ref 0), (2, .ref 63), (3, .ref 73), (4, .ref 74), (5, vI i)], [], 75 + g', h1, k + k1, z + z1) P) : eWp ox (eEv (d + 50)) eM_L_law (196, [(0, .retAddr 0), (1, .ref 0), (2, .ref 63), (3, .ref 73), (4, .ref 74), (5, vI i)], [], 75 + g, h, k, z) P := by
  have J9 := J
  obtain ⟨hw, hb, hbc, hm0, hlo, hR⟩ := J9
  have hR9 := hR
  obtain ⟨⟨hI, hVG, hTO, hrr⟩, ⟨ha, hz, hw5, hKs⟩, ⟨hX4, hs4, hQ⟩, ⟨hX12, hX8, hX9, h8⟩, ⟨h11, hA4⟩, hw6, hln, h14⟩ := hR9
  obtain ⟨F73, f74, o73, o74⟩ := hlo
  have hN : 75 ≤ 75 + g := by omega
  have hx := hw.1
  have hV := hw.2.2.2.2.2.1
  have hg := hw.2.1
  have hG := hI.1
  have hVD := hVG.1
  have hVO := hVG.1.1
  have hS := lSame_F hw
  have kk' : ∀ N1 k1 z1 h1, lFI c N1 k1 z1 h1 → eWp ox (eEv (d + 50)) eM_L_law (1930, [(0, .retAddr 0), (1, .ref 0), (2, .ref 63), (3, .ref 73), (4, .ref 74), (5, vI i)], [], N1, h1, k + k1, z + z1) P := by
    rintro N1 k1 z1 h1 ⟨g', rfl, hI9, hk9, hz9⟩
    exact kk g' k1 z1 h1 hI9 hk9 hz9
  have hE9 : ∀ E, (aPD (oPit G (xs (i + 1).toNat)).1 (G.2.2.2.1 + 1 - 1)) = .inr E → E = nIAE ∨ E = nUOE := fun E h9 => aPD_E h9
  have hr9 : ∀ E, (aPD (oPit G (xs (i + 1).toNat)).1 (G.2.2.2.1 + 1 - 1)) = .inr E → 1 ≤ lCd [nIAE, nUOE] E ∧ lCd [nIAE, nUOE] E ≤ 3 := fun E h9 => by rcases hE9 E h9 with rfl | rfl <;> decide +kernel
  exact lc_0 (d := d + 49) hox hxs hi hn hN hr9 (l_pit (d := d + 49) hN hx ⟨F73, o73⟩ hE9 (lX_cA (Rel := lOp X Q ya yz Ks T (oPit G (xs (i + 1).toNat)) (gBec G O)) (fun h9 f9 => by obtain ⟨V9, S9, w9, v9⟩ := f9; exact ⟨_, _, _, _, _, _, _, _, _, _, w9, rfl, rfl, rfl, rfl, rfl, rfl, rfl, v9⟩) (x_pit (d := d + 44) hw hN hI hVG ha hz hTO (hxs _)))) (lGen J (fun h1 hm1 => mAs_P (K' := gBec G O) hR (gI_oPit hI _) (oPit_i _ _) (gE_bec G O) (fun s7 x e7 ex => by rcases oPit_e G (xs (i + 1).toNat) with e9 | e9 | e9 <;> (rw [e9] at e7 ⊢; first | exact ⟨e7, ex e9⟩ | exact e7.trans (by decide +kernel))) (m_pit (d := d + 46) hm1 hN hrr hI (Or.inl hw6) (by omega) (hxs _)))) kk'
theorem ls_1 {ox : Nat → Option (Nat × Nat × (Nat → Int32))} {d n k z g : Nat} {h : eHp} {xs : Nat → Int} {i : Int} {P : eR → Prop} (hox : ox 0 = some (0, n, eIA xs)) (hxs : ∀ j, i32 (xs j)) (hi : 0 ≤ i ∧ i + 4 ≤ n) (hn : n ≤ 2048) {c : Int} {X : eXs} {G O Q : eGd} {ya yz : Int} {Ks : Nat → eGd} {V : eVs} {S : Int × Int × Int} {T : eTx} {L : List Int} {s : Nat → Int} {A : Nat → Nat → Int} (J : lJ c g h X G O Q ya yz Ks V S T L s A) (hc : 0 ≤ c ∧ c ≤ 15900) (kk : ∀ g' k1 z1 h1, lI (c + 30) g' h1 → k1 ≤ 10 → z1 ≤ 2000 → eWp ox (eEv (d + 50)) eM_L_law (1930, [(0, .retAddr 0), (1, .ref 0), (2, .ref 63), (3, .ref 73), (4, .ref 74), (5, vI i)], [], 75 + g', h1, k + k1, z + z1) P) : eWp ox (eEv (d + 50)) eM_L_law (252, [(0, .retAddr 0), (1, .ref 0), (2, .ref 63), (3, .ref 73), (4, .ref 74), (5, vI i)], [], 75 + g, h, k, z) P := by
  have J9 := J
  obtain ⟨hw, hb, hbc, hm0, hlo, hR⟩ := J9
  have hR9 := hR
  obtain ⟨⟨hI, hVG, hTO, hrr⟩, ⟨ha, hz, hw5, hKs⟩, ⟨hX4, hs4, hQ⟩, ⟨hX12, hX8, hX9, h8⟩, ⟨h11, hA4⟩, hw6, hln, h14⟩ := hR9
  obtain ⟨F73, f74, o73, o74⟩ := hlo
  have hN : 75 ≤ 75 + g := by omega
  have hx := hw.1
  have hV := hw.2.2.2.2.2.1
  have hg := hw.2.1
  have hG := hI.1
  have hVD := hVG.1
  have hVO := hVG.1.1
  have hS := lSame_F hw
  have kk' : ∀ N1 k1 z1 h1, lFI c N1 k1 z1 h1 → eWp ox (eEv (d + 50)) eM_L_law (1930, [(0, .retAddr 0), (1, .ref 0), (2, .ref 63), (3, .ref 73), (4, .ref 74), (5, vI i)], [], N1, h1, k + k1, z + z1) P := by
    rintro N1 k1 z1 h1 ⟨g', rfl, hI9, hk9, hz9⟩
    exact kk g' k1 z1 h1 hI9 hk9 hz9
  have hE9 : ∀ E, (aPD (oDig G (xs (i + 1).toNat) (xs (i + 2).toNat)).1 (gDig G (xs (i + 1).toNat))) = .inr E → E = nIAE ∨ E = nUOE := fun E h9 => aPD_E h9
  have hr9 : ∀ E, (aPD (oDig G (xs (i + 1).toNat) (xs (i + 2).toNat)).1 (gDig G (xs (i + 1).toNat))) = .inr E → 1 ≤ lCd [nIAE, nUOE] E ∧ lCd [nIAE, nUOE] E ≤ 3 := fun E h9 => by rcases hE9 E h9 with rfl | rfl <;> decide +kernel
  exact lc_1 (d := d + 49) hox hxs hi hn hN hr9 (l_digit (d := d + 49) hN hx ⟨F73, o73⟩ hE9 (lX_cA (Rel := lOp X Q ya yz Ks T (oDig G (xs (i + 1).toNat) (xs (i + 2).toNat)) (gBec G O)) (fun h9 f9 => by obtain ⟨V9, S9, w9, v9⟩ := f9; exact ⟨_, _, _, _, _, _, _, _, _, _, w9, rfl, rfl, rfl, rfl, rfl, rfl, rfl, v9⟩) (x_digit (d := d + 42) hw hN hI hVG ha hz hTO (hxs _) (hxs _)))) (lGen J (fun h1 hm1 => mAs_P (K' := gBec G O) hR (gI_oDig hI _ _) (oDig_i _ _ _) (gE_bec G O) (fun s7 x e7 ex => by rcases oDig_e G (xs (i + 1).toNat) (xs (i + 2).toNat) with e9 | e9 | e9 <;> (rw [e9] at e7 ⊢; first | exact ⟨e7, ex e9⟩ | exact e7.trans (by decide +kernel))) (m_digit (d := d + 47) hm1 hN hrr hI (Or.inl hw6) (by omega) (hxs _) (hxs _)))) kk'
theorem ls_2 {ox : Nat → Option (Nat × Nat × (Nat → Int32))} {d n k z g : Nat} {h : eHp} {xs : Nat → Int} {i : Int} {P : eR → Prop} (hox : ox 0 = some (0, n, eIA xs)) (hxs : ∀ j, i32 (xs j)) (hi : 0 ≤ i ∧ i + 4 ≤ n) (hn : n ≤ 2048) {c : Int} {X : eXs} {G O Q : eGd} {ya yz : Int} {Ks : Nat → eGd} {V : eVs} {S : Int × Int × Int} {T : eTx} {L : List Int} {s : Nat → Int} {A : Nat → Nat → Int} (J : lJ c g h X G O Q ya yz Ks V S T L s A) (hc : 0 ≤ c ∧ c ≤ 15900) (kk : ∀ g' k1 z1 h1, lI (c + 30) g' h1 → k1 ≤ 10 → z1 ≤ 2000 → eWp ox (eEv (d + 50)) eM_L_law (1930, [(0, .retAddr 0), (1, .ref 0), (2, .ref 63), (3, .ref 73), (4, .ref 74), (5, vI i)], [], 75 + g', h1, k + k1, z + z1) P) : eWp ox (eEv (d + 50)) eM_L_law (320, [(0, .retAddr 0), (1, .ref 0), (2, .ref 63), (3, .ref 73), (4, .ref 74), (5, vI i)], [], 75 + g, h, k, z) P := by
  have J9 := J
  obtain ⟨hw, hb, hbc, hm0, hlo, hR⟩ := J9
  have hR9 := hR
  obtain ⟨⟨hI, hVG, hTO, hrr⟩, ⟨ha, hz, hw5, hKs⟩, ⟨hX4, hs4, hQ⟩, ⟨hX12, hX8, hX9, h8⟩, ⟨h11, hA4⟩, hw6, hln, h14⟩ := hR9
  obtain ⟨F73, f74, o73, o74⟩ := hlo
  have hN : 75 ≤ 75 + g := by omega
  have hx := hw.1
  have hV := hw.2.2.2.2.2.1
  have hg := hw.2.1
  have hG := hI.1
  have hVD := hVG.1
  have hVO := hVG.1.1
  have hS := lSame_F hw
  have kk' : ∀ N1 k1 z1 h1, lFI c N1 k1 z1 h1 → eWp ox (eEv (d + 50)) eM_L_law (1930, [(0, .retAddr 0), (1, .ref 0), (2, .ref 63), (3, .ref 73), (4, .ref 74), (5, vI i)], [], N1, h1, k + k1, z + z1) P := by
    rintro N1 k1 z1 h1 ⟨g', rfl, hI9, hk9, hz9⟩
    exact kk g' k1 z1 h1 hI9 hk9 hz9
  have hE9 : ∀ E, (eIfT (gTake (xs (i + 1).toNat)) nIAE (.inl (gDig G (xs (i + 1).toNat)))) = .inr E → E = nIAE := fun E h9 => eIfT_E h9
  have hr9 : ∀ E, (eIfT (gTake (xs (i + 1).toNat)) nIAE (.inl (gDig G (xs (i + 1).toNat)))) = .inr E → 1 ≤ lCd [nIAE] E ∧ lCd [nIAE] E ≤ 3 := fun E h9 => by rcases hE9 E h9 with rfl <;> decide +kernel
  exact lc_2 (d := d + 49) hox hxs hi hn hN hr9 (l_digitOf (d := d + 49) hN hx ⟨F73, o73⟩ hE9 (lX_eAns hS (x_digitOf (d := d + 47) hx hV hVO hN hg hG (hxs _)))) (lGen J (fun h1 hm1 => mAs_1 hR (fun _ => rfl) (by decide +kernel) (m_digitOf (d := d + 48) hm1 hN hrr hI (hxs _)))) kk'
theorem ls_3 {ox : Nat → Option (Nat × Nat × (Nat → Int32))} {d n k z g : Nat} {h : eHp} {xs : Nat → Int} {i : Int} {P : eR → Prop} (hox : ox 0 = some (0, n, eIA xs)) (hxs : ∀ j, i32 (xs j)) (hi : 0 ≤ i ∧ i + 4 ≤ n) (hn : n ≤ 2048) {c : Int} {X : eXs} {G O Q : eGd} {ya yz : Int} {Ks : Nat → eGd} {V : eVs} {S : Int × Int × Int} {T : eTx} {L : List Int} {s : Nat → Int} {A : Nat → Nat → Int} (J : lJ c g h X G O Q ya yz Ks V S T L s A) (hc : 0 ≤ c ∧ c ≤ 15900) (kk : ∀ g' k1 z1 h1, lI (c + 30) g' h1 → k1 ≤ 10 → z1 ≤ 2000 → eWp ox (eEv (d + 50)) eM_L_law (1930, [(0, .retAddr 0), (1, .ref 0), (2, .ref 63), (3, .ref 73), (4, .ref 74), (5, vI i)], [], 75 + g', h1, k + k1, z + z1) P) : eWp ox (eEv (d + 50)) eM_L_law (376, [(0, .retAddr 0), (1, .ref 0), (2, .ref 63), (3, .ref 73), (4, .ref 74), (5, vI i)], [], 75 + g, h, k, z) P := by
  have J9 := J
  obtain ⟨hw, hb, hbc, hm0, hlo, hR⟩ := J9
  have hR9 := hR
  obtain ⟨⟨hI, hVG, hTO, hrr⟩, ⟨ha, hz, hw5, hKs⟩, ⟨hX4, hs4, hQ⟩, ⟨hX12, hX8, hX9, h8⟩, ⟨h11, hA4⟩, hw6, hln, h14⟩ := hR9
  obtain ⟨F73, f74, o73, o74⟩ := hlo
  have hN : 75 ≤ 75 + g := by omega
  have hx := hw.1
  have hV := hw.2.2.2.2.2.1
  have hg := hw.2.1
  have hG := hI.1
  have hVD := hVG.1
  have hVO := hVG.1.1
  have hS := lSame_F hw
  have kk' : ∀ N1 k1 z1 h1, lFI c N1 k1 z1 h1 → eWp ox (eEv (d + 50)) eM_L_law (1930, [(0, .retAddr 0), (1, .ref 0), (2, .ref 63), (3, .ref 73), (4, .ref 74), (5, vI i)], [], N1, h1, k + k1, z + z1) P := by
    rintro N1 k1 z1 h1 ⟨g', rfl, hI9, hk9, hz9⟩
    exact kk g' k1 z1 h1 hI9 hk9 hz9
  have hE9 : ∀ E, (eIfT (gHas G (xs (i + 1).toNat)) nIOB (eIfT (decide (0 ≤ xs (i + 2).toNat ∧ xs (i + 2).toNat ≤ 3)) nIAE (.inl (gPitOf V G (xs (i + 1).toNat) (xs (i + 2).toNat))))) = .inr E → E = nIOB ∨ E = nIAE := fun E h9 => eIfT_E2 h9
  have hr9 : ∀ E, (eIfT (gHas G (xs (i + 1).toNat)) nIOB (eIfT (decide (0 ≤ xs (i + 2).toNat ∧ xs (i + 2).toNat ≤ 3)) nIAE (.inl (gPitOf V G (xs (i + 1).toNat) (xs (i + 2).toNat))))) = .inr E → 1 ≤ lCd [nIOB, nIAE] E ∧ lCd [nIOB, nIAE] E ≤ 3 := fun E h9 => by rcases hE9 E h9 with rfl | rfl <;> decide +kernel
  exact lc_3 (d := d + 49) hox hxs hi hn hN hr9 (l_pitOf (d := d + 49) hN hx ⟨F73, o73⟩ hE9 (lX_eAns hS (x_pitOf (d := d + 45) hx hV hVO hN hg hG (hxs _) (hxs _)))) (lGen J (fun h1 hm1 => mAs_2 hR (fun _ _ => rfl) (by decide +kernel) (by decide +kernel) (m_pitOf (d := d + 46) hm1 hN hrr hI hVD (hxs _) (hxs _)))) kk'
theorem ls_4 {ox : Nat → Option (Nat × Nat × (Nat → Int32))} {d n k z g : Nat} {h : eHp} {xs : Nat → Int} {i : Int} {P : eR → Prop} (hox : ox 0 = some (0, n, eIA xs)) (hxs : ∀ j, i32 (xs j)) (hi : 0 ≤ i ∧ i + 4 ≤ n) (hn : n ≤ 2048) {c : Int} {X : eXs} {G O Q : eGd} {ya yz : Int} {Ks : Nat → eGd} {V : eVs} {S : Int × Int × Int} {T : eTx} {L : List Int} {s : Nat → Int} {A : Nat → Nat → Int} (J : lJ c g h X G O Q ya yz Ks V S T L s A) (hc : 0 ≤ c ∧ c ≤ 15900) (kk : ∀ g' k1 z1 h1, lI (c + 30) g' h1 → k1 ≤ 10 → z1 ≤ 2000 → eWp ox (eEv (d + 50)) eM_L_law (1930, [(0, .retAddr 0), (1, .ref 0), (2, .ref 63), (3, .ref 73), (4, .ref 74), (5, vI i)], [], 75 + g', h1, k + k1, z + z1) P) : eWp ox (eEv (d + 50)) eM_L_law (444, [(0, .retAddr 0), (1, .ref 0), (2, .ref 63), (3, .ref 73), (4, .ref 74), (5, vI i)], [], 75 + g, h, k, z) P := by
  have J9 := J
  obtain ⟨hw, hb, hbc, hm0, hlo, hR⟩ := J9
  have hR9 := hR
  obtain ⟨⟨hI, hVG, hTO, hrr⟩, ⟨ha, hz, hw5, hKs⟩, ⟨hX4, hs4, hQ⟩, ⟨hX12, hX8, hX9, h8⟩, ⟨h11, hA4⟩, hw6, hln, h14⟩ := hR9
  obtain ⟨F73, f74, o73, o74⟩ := hlo
  have hN : 75 ≤ 75 + g := by omega
  have hx := hw.1
  have hV := hw.2.2.2.2.2.1
  have hg := hw.2.1
  have hG := hI.1
  have hVD := hVG.1
  have hVO := hVG.1.1
  have hS := lSame_F hw
  have kk' : ∀ N1 k1 z1 h1, lFI c N1 k1 z1 h1 → eWp ox (eEv (d + 50)) eM_L_law (1930, [(0, .retAddr 0), (1, .ref 0), (2, .ref 63), (3, .ref 73), (4, .ref 74), (5, vI i)], [], N1, h1, k + k1, z + z1) P := by
    rintro N1 k1 z1 h1 ⟨g', rfl, hI9, hk9, hz9⟩
    exact kk g' k1 z1 h1 hI9 hk9 hz9
  have hE9 : ∀ E, (eOpt (gSrch (gRankIs V G (xs (i + 1).toNat)) 0 G.2.2.2.1.toNat) nNSE) = .inr E → E = nNSE := fun E h9 => eOpt_E h9
  have hr9 : ∀ E, (eOpt (gSrch (gRankIs V G (xs (i + 1).toNat)) 0 G.2.2.2.1.toNat) nNSE) = .inr E → 1 ≤ lCd [nNSE] E ∧ lCd [nNSE] E ≤ 3 := fun E h9 => by rcases hE9 E h9 with rfl <;> decide +kernel
  exact lc_4 (d := d + 49) hox hxs hi hn hN hr9 (l_ranked (d := d + 49) hN hx ⟨F73, o73⟩ hE9 (lX_eOr hS (x_ranked (d := d + 43) hx hV hVO hN hg hG (hxs _)))) (lGen J (fun h1 hm1 => mAs_O hR (by decide +kernel) (m_ranked (d := d + 47) hm1 hN hrr hI hVD (hxs _)))) kk'
theorem ls_5 {ox : Nat → Option (Nat × Nat × (Nat → Int32))} {d n k z g : Nat} {h : eHp} {xs : Nat → Int} {i : Int} {P : eR → Prop} (hox : ox 0 = some (0, n, eIA xs)) (hxs : ∀ j, i32 (xs j)) (hi : 0 ≤ i ∧ i + 4 ≤ n) (hn : n ≤ 2048) {c : Int} {X : eXs} {G O Q : eGd} {ya yz : Int} {Ks : Nat → eGd} {V : eVs} {S : Int × Int × Int} {T : eTx} {L : List Int} {s : Nat → Int} {A : Nat → Nat → Int} (J : lJ c g h X G O Q ya yz Ks V S T L s A) (hc : 0 ≤ c ∧ c ≤ 15900) (kk : ∀ g' k1 z1 h1, lI (c + 30) g' h1 → k1 ≤ 10 → z1 ≤ 2000 → eWp ox (eEv (d + 50)) eM_L_law (1930, [(0, .retAddr 0), (1, .ref 0), (2, .ref 63), (3, .ref 73), (4, .ref 74), (5, vI i)], [], 75 + g', h1, k + k1, z + z1) P) : eWp ox (eEv (d + 50)) eM_L_law (500, [(0, .retAddr 0), (1, .ref 0), (2, .ref 63), (3, .ref 73), (4, .ref 74), (5, vI i)], [], 75 + g, h, k, z) P := by
  have J9 := J
  obtain ⟨hw, hb, hbc, hm0, hlo, hR⟩ := J9
  have hR9 := hR
  obtain ⟨⟨hI, hVG, hTO, hrr⟩, ⟨ha, hz, hw5, hKs⟩, ⟨hX4, hs4, hQ⟩, ⟨hX12, hX8, hX9, h8⟩, ⟨h11, hA4⟩, hw6, hln, h14⟩ := hR9
  obtain ⟨F73, f74, o73, o74⟩ := hlo
  have hN : 75 ≤ 75 + g := by omega
  have hx := hw.1
  have hV := hw.2.2.2.2.2.1
  have hg := hw.2.1
  have hG := hI.1
  have hVD := hVG.1
  have hVO := hVG.1.1
  have hS := lSame_F hw
  have kk' : ∀ N1 k1 z1 h1, lFI c N1 k1 z1 h1 → eWp ox (eEv (d + 50)) eM_L_law (1930, [(0, .retAddr 0), (1, .ref 0), (2, .ref 63), (3, .ref 73), (4, .ref 74), (5, vI i)], [], N1, h1, k + k1, z + z1) P := by
    rintro N1 k1 z1 h1 ⟨g', rfl, hI9, hk9, hz9⟩
    exact kk g' k1 z1 h1 hI9 hk9 hz9
  have hE9 : ∀ E, (aSc (oScp G (xs (i + 1).toNat) (xs (i + 2).toNat) (xs (i + 3).toNat)).1 ((gMake G (xs (i + 1).toNat, xs (i + 2).toNat, xs (i + 3).toNat)).2.2.2.1)) = .inr E → E = nIOB ∨ E = nIAE ∨ E = nUOE := fun E h9 => aSc_E h9
  have hr9 : ∀ E, (aSc (oScp G (xs (i + 1).toNat) (xs (i + 2).toNat) (xs (i + 3).toNat)).1 ((gMake G (xs (i + 1).toNat, xs (i + 2).toNat, xs (i + 3).toNat)).2.2.2.1)) = .inr E → 1 ≤ lCd [nIOB, nIAE, nUOE] E ∧ lCd [nIOB, nIAE, nUOE] E ≤ 3 := fun E h9 => by rcases hE9 E h9 with rfl | rfl | rfl <;> decide +kernel
  exact lc_5 (d := d + 49) hox hxs hi hn hN hr9 (l_scoop (d := d + 49) hN hx ⟨F73, o73⟩ hE9 (lX_cA (Rel := lOp X Q ya yz Ks T (oScp G (xs (i + 1).toNat) (xs (i + 2).toNat) (xs (i + 3).toNat)) (gBec G O)) (fun h9 f9 => by obtain ⟨V9, S9, w9, v9⟩ := f9; exact ⟨_, _, _, _, _, _, _, _, _, _, w9, rfl, rfl, rfl, rfl, rfl, rfl, rfl, v9⟩) (x_scoop (d := d + 44) hw hN hI hVG ha hz hTO (hxs _) (hxs _) (hxs _)))) (lGen J (fun h1 hm1 => mAs_P (K' := gBec G O) hR (gI_oScp hI _ _ _) (oScp_i _ _ _ _) (gE_bec G O) (fun s7 x e7 ex => by rcases oScp_e G (xs (i + 1).toNat) (xs (i + 2).toNat) (xs (i + 3).toNat) with e9 | e9 | e9 | e9 <;> (rw [e9] at e7 ⊢; first | exact ⟨e7, ex e9⟩ | exact e7.trans (by decide +kernel))) (m_scoop (d := d + 46) hm1 hN hrr hI (Or.inl hw6) (by omega) (hxs _) (hxs _) (hxs _)))) kk'
theorem ls_6 {ox : Nat → Option (Nat × Nat × (Nat → Int32))} {d n k z g : Nat} {h : eHp} {xs : Nat → Int} {i : Int} {P : eR → Prop} (hox : ox 0 = some (0, n, eIA xs)) (hxs : ∀ j, i32 (xs j)) (hi : 0 ≤ i ∧ i + 4 ≤ n) (hn : n ≤ 2048) {c : Int} {X : eXs} {G O Q : eGd} {ya yz : Int} {Ks : Nat → eGd} {V : eVs} {S : Int × Int × Int} {T : eTx} {L : List Int} {s : Nat → Int} {A : Nat → Nat → Int} (J : lJ c g h X G O Q ya yz Ks V S T L s A) (hc : 0 ≤ c ∧ c ≤ 15900) (kk : ∀ g' k1 z1 h1, lI (c + 30) g' h1 → k1 ≤ 10 → z1 ≤ 2000 → eWp ox (eEv (d + 50)) eM_L_law (1930, [(0, .retAddr 0), (1, .ref 0), (2, .ref 63), (3, .ref 73), (4, .ref 74), (5, vI i)], [], 75 + g', h1, k + k1, z + z1) P) : eWp ox (eEv (d + 50)) eM_L_law (580, [(0, .retAddr 0), (1, .ref 0), (2, .ref 63), (3, .ref 73), (4, .ref 74), (5, vI i)], [], 75 + g, h, k, z) P := by
  have J9 := J
  obtain ⟨hw, hb, hbc, hm0, hlo, hR⟩ := J9
  have hR9 := hR
  obtain ⟨⟨hI, hVG, hTO, hrr⟩, ⟨ha, hz, hw5, hKs⟩, ⟨hX4, hs4, hQ⟩, ⟨hX12, hX8, hX9, h8⟩, ⟨h11, hA4⟩, hw6, hln, h14⟩ := hR9
  obtain ⟨F73, f74, o73, o74⟩ := hlo
  have hN : 75 ≤ 75 + g := by omega
  have hx := hw.1
  have hV := hw.2.2.2.2.2.1
  have hg := hw.2.1
  have hG := hI.1
  have hVD := hVG.1
  have hVO := hVG.1.1
  have hS := lSame_F hw
  have kk' : ∀ N1 k1 z1 h1, lFI c N1 k1 z1 h1 → eWp ox (eEv (d + 50)) eM_L_law (1930, [(0, .retAddr 0), (1, .ref 0), (2, .ref 63), (3, .ref 73), (4, .ref 74), (5, vI i)], [], N1, h1, k + k1, z + z1) P := by
    rintro N1 k1 z1 h1 ⟨g', rfl, hI9, hk9, hz9⟩
    exact kk g' k1 z1 h1 hI9 hk9 hz9
  have hE9 : ∀ E, (aPl (oPly G).1 (oPlyV G)) = .inr E → E = nNSE := fun E h9 => aPl_E h9
  have hr9 : ∀ E, (aPl (oPly G).1 (oPlyV G)) = .inr E → 1 ≤ lCd [nNSE] E ∧ lCd [nNSE] E ≤ 3 := fun E h9 => by rcases hE9 E h9 with rfl <;> decide +kernel
  exact lc_6 (d := d + 49) hox hxs hi hn hN hr9 (l_play (d := d + 49) hN hx ⟨F73, o73⟩ hE9 (lX_cA (Rel := lOp X Q ya yz Ks T (oPly G) G) (fun h9 f9 => by obtain ⟨S9, w9, v9⟩ := f9; exact ⟨_, _, _, _, _, _, _, _, _, _, w9, (oPly_X X G).symm, rfl, rfl, rfl, rfl, rfl, rfl, v9⟩) (x_play (d := d + 43) hw hN hI hVG ha hz hTO))) (lGen J (fun h1 hm1 => mAs_P (K' := G) hR (gI_oPly hI) (oPly_i G) (gE_r G) (fun s7 x e7 ex => by rcases oPly_e G with e9 | e9 <;> (rw [e9] at e7 ⊢; first | exact ⟨e7, ex e9⟩ | exact e7.trans (by decide +kernel))) (m_play (d := d + 45) hm1 hN hrr hI (Or.inl hw6) (by omega)))) kk'
theorem ls_7 {ox : Nat → Option (Nat × Nat × (Nat → Int32))} {d n k z g : Nat} {h : eHp} {xs : Nat → Int} {i : Int} {P : eR → Prop} (hox : ox 0 = some (0, n, eIA xs)) (hxs : ∀ j, i32 (xs j)) (hi : 0 ≤ i ∧ i + 4 ≤ n) (hn : n ≤ 2048) {c : Int} {X : eXs} {G O Q : eGd} {ya yz : Int} {Ks : Nat → eGd} {V : eVs} {S : Int × Int × Int} {T : eTx} {L : List Int} {s : Nat → Int} {A : Nat → Nat → Int} (J : lJ c g h X G O Q ya yz Ks V S T L s A) (hc : 0 ≤ c ∧ c ≤ 15900) (kk : ∀ g' k1 z1 h1, lI (c + 30) g' h1 → k1 ≤ 10 → z1 ≤ 2000 → eWp ox (eEv (d + 50)) eM_L_law (1930, [(0, .retAddr 0), (1, .ref 0), (2, .ref 63), (3, .ref 73), (4, .ref 74), (5, vI i)], [], 75 + g', h1, k + k1, z + z1) P) : eWp ox (eEv (d + 50)) eM_L_law (624, [(0, .retAddr 0), (1, .ref 0), (2, .ref 63), (3, .ref 73), (4, .ref 74), (5, vI i)], [], 75 + g, h, k, z) P := by
  have J9 := J
  obtain ⟨hw, hb, hbc, hm0, hlo, hR⟩ := J9
  have hR9 := hR
  obtain ⟨⟨hI, hVG, hTO, hrr⟩, ⟨ha, hz, hw5, hKs⟩, ⟨hX4, hs4, hQ⟩, ⟨hX12, hX8, hX9, h8⟩, ⟨h11, hA4⟩, hw6, hln, h14⟩ := hR9
  obtain ⟨F73, f74, o73, o74⟩ := hlo
  have hN : 75 ≤ 75 + g := by omega
  have hx := hw.1
  have hV := hw.2.2.2.2.2.1
  have hg := hw.2.1
  have hG := hI.1
  have hVD := hVG.1
  have hVO := hVG.1.1
  have hS := lSame_F hw
  have kk' : ∀ N1 k1 z1 h1, lFI c N1 k1 z1 h1 → eWp ox (eEv (d + 50)) eM_L_law (1930, [(0, .retAddr 0), (1, .ref 0), (2, .ref 63), (3, .ref 73), (4, .ref 74), (5, vI i)], [], N1, h1, k + k1, z + z1) P := by
    rintro N1 k1 z1 h1 ⟨g', rfl, hI9, hk9, hz9⟩
    exact kk g' k1 z1 h1 hI9 hk9 hz9
  exact lc_7 (d := d + 49) hox hxs hi hn hN hx (lB_eRet hS (x_scoops (d := d + 45) hx hV hVO hN hg hG)) (lGenB J (fun h1 hm1 => mAs_0 hR rfl (m_scoops (d := d + 46) hm1 hN hrr hI))) kk'
theorem ls_8 {ox : Nat → Option (Nat × Nat × (Nat → Int32))} {d n k z g : Nat} {h : eHp} {xs : Nat → Int} {i : Int} {P : eR → Prop} (hox : ox 0 = some (0, n, eIA xs)) (hxs : ∀ j, i32 (xs j)) (hi : 0 ≤ i ∧ i + 4 ≤ n) (hn : n ≤ 2048) {c : Int} {X : eXs} {G O Q : eGd} {ya yz : Int} {Ks : Nat → eGd} {V : eVs} {S : Int × Int × Int} {T : eTx} {L : List Int} {s : Nat → Int} {A : Nat → Nat → Int} (J : lJ c g h X G O Q ya yz Ks V S T L s A) (hc : 0 ≤ c ∧ c ≤ 15900) (kk : ∀ g' k1 z1 h1, lI (c + 30) g' h1 → k1 ≤ 10 → z1 ≤ 2000 → eWp ox (eEv (d + 50)) eM_L_law (1930, [(0, .retAddr 0), (1, .ref 0), (2, .ref 63), (3, .ref 73), (4, .ref 74), (5, vI i)], [], 75 + g', h1, k + k1, z + z1) P) : eWp ox (eEv (d + 50)) eM_L_law (637, [(0, .retAddr 0), (1, .ref 0), (2, .ref 63), (3, .ref 73), (4, .ref 74), (5, vI i)], [], 75 + g, h, k, z) P := by
  have J9 := J
  obtain ⟨hw, hb, hbc, hm0, hlo, hR⟩ := J9
  have hR9 := hR
  obtain ⟨⟨hI, hVG, hTO, hrr⟩, ⟨ha, hz, hw5, hKs⟩, ⟨hX4, hs4, hQ⟩, ⟨hX12, hX8, hX9, h8⟩, ⟨h11, hA4⟩, hw6, hln, h14⟩ := hR9
  obtain ⟨F73, f74, o73, o74⟩ := hlo
  have hN : 75 ≤ 75 + g := by omega
  have hx := hw.1
  have hV := hw.2.2.2.2.2.1
  have hg := hw.2.1
  have hG := hI.1
  have hVD := hVG.1
  have hVO := hVG.1.1
  have hS := lSame_F hw
  have kk' : ∀ N1 k1 z1 h1, lFI c N1 k1 z1 h1 → eWp ox (eEv (d + 50)) eM_L_law (1930, [(0, .retAddr 0), (1, .ref 0), (2, .ref 63), (3, .ref 73), (4, .ref 74), (5, vI i)], [], N1, h1, k + k1, z + z1) P := by
    rintro N1 k1 z1 h1 ⟨g', rfl, hI9, hk9, hz9⟩
    exact kk g' k1 z1 h1 hI9 hk9 hz9
  have hE9 : ∀ E, (gAsk (gAt G (xs (i + 1).toNat)) (xs (i + 2).toNat)) = .inr E → E = nNSE ∨ E = nIAE := fun E h9 => gAsk_E h9
  have hr9 : ∀ E, (gAsk (gAt G (xs (i + 1).toNat)) (xs (i + 2).toNat)) = .inr E → 1 ≤ lCd [nNSE, nIAE] E ∧ lCd [nNSE, nIAE] E ≤ 3 := fun E h9 => by rcases hE9 E h9 with rfl | rfl <;> decide +kernel
  exact lc_8 (d := d + 49) hox hxs hi hn hN hr9 (l_scoopAt (d := d + 49) hN hx ⟨F73, o73⟩ hE9 (lX_cA (Rel := lSame X G Q ya yz Ks V T) (fun h9 f9 => by obtain ⟨S9, w9⟩ := f9; exact lSame_F w9) (x_scoopAt (d := d + 42) hw hN hI hVG ha hz hTO (hxs _) (hxs _)))) (lGen J (fun h1 hm1 => mAs_Z hR (m_scoopAt (d := d + 46) hm1 hN hrr hI (hxs _) (hxs _) (by decide +kernel) (by decide +kernel)))) kk'
theorem ls_9 {ox : Nat → Option (Nat × Nat × (Nat → Int32))} {d n k z g : Nat} {h : eHp} {xs : Nat → Int} {i : Int} {P : eR → Prop} (hox : ox 0 = some (0, n, eIA xs)) (hxs : ∀ j, i32 (xs j)) (hi : 0 ≤ i ∧ i + 4 ≤ n) (hn : n ≤ 2048) {c : Int} {X : eXs} {G O Q : eGd} {ya yz : Int} {Ks : Nat → eGd} {V : eVs} {S : Int × Int × Int} {T : eTx} {L : List Int} {s : Nat → Int} {A : Nat → Nat → Int} (J : lJ c g h X G O Q ya yz Ks V S T L s A) (hc : 0 ≤ c ∧ c ≤ 15900) (kk : ∀ g' k1 z1 h1, lI (c + 30) g' h1 → k1 ≤ 10 → z1 ≤ 2000 → eWp ox (eEv (d + 50)) eM_L_law (1930, [(0, .retAddr 0), (1, .ref 0), (2, .ref 63), (3, .ref 73), (4, .ref 74), (5, vI i)], [], 75 + g', h1, k + k1, z + z1) P) : eWp ox (eEv (d + 50)) eM_L_law (705, [(0, .retAddr 0), (1, .ref 0), (2, .ref 63), (3, .ref 73), (4, .ref 74), (5, vI i)], [], 75 + g, h, k, z) P := by
  have J9 := J
  obtain ⟨hw, hb, hbc, hm0, hlo, hR⟩ := J9
  have hR9 := hR
  obtain ⟨⟨hI, hVG, hTO, hrr⟩, ⟨ha, hz, hw5, hKs⟩, ⟨hX4, hs4, hQ⟩, ⟨hX12, hX8, hX9, h8⟩, ⟨h11, hA4⟩, hw6, hln, h14⟩ := hR9
  obtain ⟨F73, f74, o73, o74⟩ := hlo
  have hN : 75 ≤ 75 + g := by omega
  have hx := hw.1
  have hV := hw.2.2.2.2.2.1
  have hg := hw.2.1
  have hG := hI.1
  have hVD := hVG.1
  have hVO := hVG.1.1
  have hS := lSame_F hw
  have kk' : ∀ N1 k1 z1 h1, lFI c N1 k1 z1 h1 → eWp ox (eEv (d + 50)) eM_L_law (1930, [(0, .retAddr 0), (1, .ref 0), (2, .ref 63), (3, .ref 73), (4, .ref 74), (5, vI i)], [], N1, h1, k + k1, z + z1) P := by
    rintro N1 k1 z1 h1 ⟨g', rfl, hI9, hk9, hz9⟩
    exact kk g' k1 z1 h1 hI9 hk9 hz9
  have hE9 : ∀ E, (gAsk (gTd G) (xs (i + 1).toNat)) = .inr E → E = nNSE ∨ E = nIAE := fun E h9 => gAsk_E h9
  have hr9 : ∀ E, (gAsk (gTd G) (xs (i + 1).toNat)) = .inr E → 1 ≤ lCd [nNSE, nIAE] E ∧ lCd [nNSE, nIAE] E ≤ 3 := fun E h9 => by rcases hE9 E h9 with rfl | rfl <;> decide +kernel
  exact lc_9 (d := d + 49) hox hxs hi hn hN hr9 (l_told (d := d + 49) hN hx ⟨F73, o73⟩ hE9 (lX_cA (Rel := lSame X G Q ya yz Ks V T) (fun h9 f9 => by obtain ⟨S9, w9⟩ := f9; exact lSame_F w9) (x_told (d := d + 43) hw hN hI hVG ha hz hTO (hxs _)))) (lGen J (fun h1 hm1 => mAs_Z hR (m_told (d := d + 45) hm1 hN hrr hI (hxs _) (by decide +kernel) (by decide +kernel)))) kk'
theorem ls_10_0 {ox : Nat → Option (Nat × Nat × (Nat → Int32))} {d n k z g : Nat} {h : eHp} {xs : Nat → Int} {i : Int} {P : eR → Prop} (hox : ox 0 = some (0, n, eIA xs)) (hxs : ∀ j, i32 (xs j)) (hi : 0 ≤ i ∧ i + 4 ≤ n) (hn : n ≤ 2048) {c : Int} {X : eXs} {G O Q : eGd} {ya yz : Int} {Ks : Nat → eGd} {V : eVs} {S : Int × Int × Int} {T : eTx} {L : List Int} {s : Nat → Int} {A : Nat → Nat → Int} (J : lJ c g h X G O Q ya yz Ks V S T L s A) (hz9 : xs (i + 1).toNat = 0) (hc : 0 ≤ c ∧ c ≤ 15900) (kk : ∀ g' k1 z1 h1, lI (c + 30) g' h1 → k1 ≤ 10 → z1 ≤ 2000 → eWp ox (eEv (d + 50)) eM_L_law (1930, [(0, .retAddr 0), (1, .ref 0), (2, .ref 63), (3, .ref 73), (4, .ref 74), (5, vI i)], [], 75 + g', h1, k + k1, z + z1) P) : eWp ox (eEv (d + 50)) eM_L_law (761, [(0, .retAddr 0), (1, .ref 0), (2, .ref 63), (3, .ref 73), (4, .ref 74), (5, vI i)], [], 75 + g, h, k, z) P := by
  have J9 := J
  obtain ⟨hw, hb, hbc, hm0, hlo, hR⟩ := J9
  have hR9 := hR
  obtain ⟨⟨hI, hVG, hTO, hrr⟩, ⟨ha, hz, hw5, hKs⟩, ⟨hX4, hs4, hQ⟩, ⟨hX12, hX8, hX9, h8⟩, ⟨h11, hA4⟩, hw6, hln, h14⟩ := hR9
  obtain ⟨F73, f74, o73, o74⟩ := hlo
  have hN : 75 ≤ 75 + g := by omega
  have hx := hw.1
  have hV := hw.2.2.2.2.2.1
  have hg := hw.2.1
  have hG := hI.1
  have hVD := hVG.1
  have hVO := hVG.1.1
  have hS := lSame_F hw
  have kk' : ∀ N1 k1 z1 h1, lFI c N1 k1 z1 h1 → eWp ox (eEv (d + 50)) eM_L_law (1930, [(0, .retAddr 0), (1, .ref 0), (2, .ref 63), (3, .ref 73), (4, .ref 74), (5, vI i)], [], N1, h1, k + k1, z + z1) P := by
    rintro N1 k1 z1 h1 ⟨g', rfl, hI9, hk9, hz9⟩
    exact kk g' k1 z1 h1 hI9 hk9 hz9
  have hb9 : ∀ a, (if (0 : Int) = 0 ∨ gSum G.1 G.2.2.2.1.toNat ≤ 10 then .inl (eB01 (decide (gSm G ≠ 0))) else .inr nISE : Int ⊕ String) = .inl a → a = 0 ∨ a = 1 := fun a h9 => by split at h9 <;> cases h9; exact eB01_b rfl
  have hE9 : ∀ E, (if (0 : Int) = 0 ∨ gSum G.1 G.2.2.2.1.toNat ≤ 10 then .inl (eB01 (decide (gSm G ≠ 0))) else .inr nISE : Int ⊕ String) = .inr E → E = nISE := fun E h9 => ite_E h9
  have hr9 : ∀ E, (if (0 : Int) = 0 ∨ gSum G.1 G.2.2.2.1.toNat ≤ 10 then .inl (eB01 (decide (gSm G ≠ 0))) else .inr nISE : Int ⊕ String) = .inr E → 1 ≤ lCd [nISE] E ∧ lCd [nISE] E ≤ 3 := fun E h9 => by rcases hE9 E h9 with rfl <;> decide +kernel
  exact lc_10_0 (d := d + 49) hox hxs hi hn hN hr9 hb9 hz9 (l_wins (d := d + 49) hN hx ⟨F73, o73⟩ hE9 hb9 (lX_cA (Rel := lSame X G Q ya yz Ks V T) (fun h9 f9 => lSame_F f9) (x_winsB (d := d + 10) hw hN hI hVG ha hz hTO (b := 0) (Or.inl rfl)))) (lGen J (fun h1 hm1 => (mAs_1 (E := nISE) (l := [nISE]) (b := decide ((0 : Int) = 0 ∨ gSum G.1 G.2.2.2.1.toNat ≤ 10)) hR (fun _ => rfl) (by decide +kernel) (m_wins (d := d + 46) hm1 hN hrr hI (Or.inl rfl))).imp (fun q hq => by rw [ite_eIfT]; exact hq))) kk'
theorem ls_10_1 {ox : Nat → Option (Nat × Nat × (Nat → Int32))} {d n k z g : Nat} {h : eHp} {xs : Nat → Int} {i : Int} {P : eR → Prop} (hox : ox 0 = some (0, n, eIA xs)) (hxs : ∀ j, i32 (xs j)) (hi : 0 ≤ i ∧ i + 4 ≤ n) (hn : n ≤ 2048) {c : Int} {X : eXs} {G O Q : eGd} {ya yz : Int} {Ks : Nat → eGd} {V : eVs} {S : Int × Int × Int} {T : eTx} {L : List Int} {s : Nat → Int} {A : Nat → Nat → Int} (J : lJ c g h X G O Q ya yz Ks V S T L s A) (hz9 : xs (i + 1).toNat ≠ 0) (hc : 0 ≤ c ∧ c ≤ 15900) (kk : ∀ g' k1 z1 h1, lI (c + 30) g' h1 → k1 ≤ 10 → z1 ≤ 2000 → eWp ox (eEv (d + 50)) eM_L_law (1930, [(0, .retAddr 0), (1, .ref 0), (2, .ref 63), (3, .ref 73), (4, .ref 74), (5, vI i)], [], 75 + g', h1, k + k1, z + z1) P) : eWp ox (eEv (d + 50)) eM_L_law (761, [(0, .retAddr 0), (1, .ref 0), (2, .ref 63), (3, .ref 73), (4, .ref 74), (5, vI i)], [], 75 + g, h, k, z) P := by
  have J9 := J
  obtain ⟨hw, hb, hbc, hm0, hlo, hR⟩ := J9
  have hR9 := hR
  obtain ⟨⟨hI, hVG, hTO, hrr⟩, ⟨ha, hz, hw5, hKs⟩, ⟨hX4, hs4, hQ⟩, ⟨hX12, hX8, hX9, h8⟩, ⟨h11, hA4⟩, hw6, hln, h14⟩ := hR9
  obtain ⟨F73, f74, o73, o74⟩ := hlo
  have hN : 75 ≤ 75 + g := by omega
  have hx := hw.1
  have hV := hw.2.2.2.2.2.1
  have hg := hw.2.1
  have hG := hI.1
  have hVD := hVG.1
  have hVO := hVG.1.1
  have hS := lSame_F hw
  have kk' : ∀ N1 k1 z1 h1, lFI c N1 k1 z1 h1 → eWp ox (eEv (d + 50)) eM_L_law (1930, [(0, .retAddr 0), (1, .ref 0), (2, .ref 63), (3, .ref 73), (4, .ref 74), (5, vI i)], [], N1, h1, k + k1, z + z1) P := by
    rintro N1 k1 z1 h1 ⟨g', rfl, hI9, hk9, hz9⟩
    exact kk g' k1 z1 h1 hI9 hk9 hz9
  have hb9 : ∀ a, (if (1 : Int) = 0 ∨ gSum G.1 G.2.2.2.1.toNat ≤ 10 then .inl (eB01 (decide (gSm G ≠ 0))) else .inr nISE : Int ⊕ String) = .inl a → a = 0 ∨ a = 1 := fun a h9 => by split at h9 <;> cases h9; exact eB01_b rfl
  have hE9 : ∀ E, (if (1 : Int) = 0 ∨ gSum G.1 G.2.2.2.1.toNat ≤ 10 then .inl (eB01 (decide (gSm G ≠ 0))) else .inr nISE : Int ⊕ String) = .inr E → E = nISE := fun E h9 => ite_E h9
  have hr9 : ∀ E, (if (1 : Int) = 0 ∨ gSum G.1 G.2.2.2.1.toNat ≤ 10 then .inl (eB01 (decide (gSm G ≠ 0))) else .inr nISE : Int ⊕ String) = .inr E → 1 ≤ lCd [nISE] E ∧ lCd [nISE] E ≤ 3 := fun E h9 => by rcases hE9 E h9 with rfl <;> decide +kernel
  exact lc_10_1 (d := d + 49) hox hxs hi hn hN hr9 hb9 hz9 (l_wins (d := d + 49) hN hx ⟨F73, o73⟩ hE9 hb9 (lX_cA (Rel := lSame X G Q ya yz Ks V T) (fun h9 f9 => lSame_F f9) (x_winsB (d := d + 10) hw hN hI hVG ha hz hTO (b := 1) (Or.inr rfl)))) (lGen J (fun h1 hm1 => (mAs_1 (E := nISE) (l := [nISE]) (b := decide ((1 : Int) = 0 ∨ gSum G.1 G.2.2.2.1.toNat ≤ 10)) hR (fun _ => rfl) (by decide +kernel) (m_wins (d := d + 46) hm1 hN hrr hI (Or.inr rfl))).imp (fun q hq => by rw [ite_eIfT]; exact hq))) kk'
theorem ls_11 {ox : Nat → Option (Nat × Nat × (Nat → Int32))} {d n k z g : Nat} {h : eHp} {xs : Nat → Int} {i : Int} {P : eR → Prop} (hox : ox 0 = some (0, n, eIA xs)) (hxs : ∀ j, i32 (xs j)) (hi : 0 ≤ i ∧ i + 4 ≤ n) (hn : n ≤ 2048) {c : Int} {X : eXs} {G O Q : eGd} {ya yz : Int} {Ks : Nat → eGd} {V : eVs} {S : Int × Int × Int} {T : eTx} {L : List Int} {s : Nat → Int} {A : Nat → Nat → Int} (J : lJ c g h X G O Q ya yz Ks V S T L s A) (hc : 0 ≤ c ∧ c ≤ 15900) (kk : ∀ g' k1 z1 h1, lI (c + 30) g' h1 → k1 ≤ 10 → z1 ≤ 2000 → eWp ox (eEv (d + 50)) eM_L_law (1930, [(0, .retAddr 0), (1, .ref 0), (2, .ref 63), (3, .ref 73), (4, .ref 74), (5, vI i)], [], 75 + g', h1, k + k1, z + z1) P) : eWp ox (eEv (d + 50)) eM_L_law (840, [(0, .retAddr 0), (1, .ref 0), (2, .ref 63), (3, .ref 73), (4, .ref 74), (5, vI i)], [], 75 + g, h, k, z) P := by
  have J9 := J
  obtain ⟨hw, hb, hbc, hm0, hlo, hR⟩ := J9
  have hR9 := hR
  obtain ⟨⟨hI, hVG, hTO, hrr⟩, ⟨ha, hz, hw5, hKs⟩, ⟨hX4, hs4, hQ⟩, ⟨hX12, hX8, hX9, h8⟩, ⟨h11, hA4⟩, hw6, hln, h14⟩ := hR9
  obtain ⟨F73, f74, o73, o74⟩ := hlo
  have hN : 75 ≤ 75 + g := by omega
  have hx := hw.1
  have hV := hw.2.2.2.2.2.1
  have hg := hw.2.1
  have hG := hI.1
  have hVD := hVG.1
  have hVO := hVG.1.1
  have hS := lSame_F hw
  have kk' : ∀ N1 k1 z1 h1, lFI c N1 k1 z1 h1 → eWp ox (eEv (d + 50)) eM_L_law (1930, [(0, .retAddr 0), (1, .ref 0), (2, .ref 63), (3, .ref 73), (4, .ref 74), (5, vI i)], [], N1, h1, k + k1, z + z1) P := by
    rintro N1 k1 z1 h1 ⟨g', rfl, hI9, hk9, hz9⟩
    exact kk g' k1 z1 h1 hI9 hk9 hz9
  have hE9 : ∀ E, (aNx (oNxt G).1 (gWin G)) = .inr E → E = nUOE := fun E h9 => aNx_E h9
  have hr9 : ∀ E, (aNx (oNxt G).1 (gWin G)) = .inr E → 1 ≤ lCd [nUOE] E ∧ lCd [nUOE] E ≤ 3 := fun E h9 => by rcases hE9 E h9 with rfl <;> decide +kernel
  exact lc_11 (d := d + 49) hox hxs hi hn hN hr9 (l_next (d := d + 49) hN hx ⟨F73, o73⟩ hE9 (lX_cA (Rel := lOp X Q ya yz Ks T (oNxt G) (gBec G O)) (fun h9 f9 => by obtain ⟨V9, S9, w9, v9⟩ := f9; exact ⟨_, _, _, _, _, _, _, _, _, _, w9, rfl, rfl, rfl, rfl, rfl, rfl, rfl, v9⟩) (x_next (d := d + 42) hw hN hI hVG ha hz hTO (by omega)))) (lGen J (fun h1 hm1 => mAs_P (K' := gBec G O) hR (gI_oNxt hI) (oNxt_i G) (gE_bec G O) (fun s7 x e7 ex => by rcases oNxt_e G with e9 | e9 <;> (rw [e9] at e7 ⊢; first | exact ⟨e7, ex e9⟩ | exact e7.trans (by decide +kernel))) (m_next (d := d + 46) hm1 hN hrr hI (Or.inl hw6) (by omega)))) kk'
theorem ls_12 {ox : Nat → Option (Nat × Nat × (Nat → Int32))} {d n k z g : Nat} {h : eHp} {xs : Nat → Int} {i : Int} {P : eR → Prop} (hox : ox 0 = some (0, n, eIA xs)) (hxs : ∀ j, i32 (xs j)) (hi : 0 ≤ i ∧ i + 4 ≤ n) (hn : n ≤ 2048) {c : Int} {X : eXs} {G O Q : eGd} {ya yz : Int} {Ks : Nat → eGd} {V : eVs} {S : Int × Int × Int} {T : eTx} {L : List Int} {s : Nat → Int} {A : Nat → Nat → Int} (J : lJ c g h X G O Q ya yz Ks V S T L s A) (hc : 0 ≤ c ∧ c ≤ 15900) (kk : ∀ g' k1 z1 h1, lI (c + 30) g' h1 → k1 ≤ 10 → z1 ≤ 2000 → eWp ox (eEv (d + 50)) eM_L_law (1930, [(0, .retAddr 0), (1, .ref 0), (2, .ref 63), (3, .ref 73), (4, .ref 74), (5, vI i)], [], 75 + g', h1, k + k1, z + z1) P) : eWp ox (eEv (d + 50)) eM_L_law (884, [(0, .retAddr 0), (1, .ref 0), (2, .ref 63), (3, .ref 73), (4, .ref 74), (5, vI i)], [], 75 + g, h, k, z) P := by
  have J9 := J
  obtain ⟨hw, hb, hbc, hm0, hlo, hR⟩ := J9
  have hR9 := hR
  obtain ⟨⟨hI, hVG, hTO, hrr⟩, ⟨ha, hz, hw5, hKs⟩, ⟨hX4, hs4, hQ⟩, ⟨hX12, hX8, hX9, h8⟩, ⟨h11, hA4⟩, hw6, hln, h14⟩ := hR9
  obtain ⟨F73, f74, o73, o74⟩ := hlo
  have hN : 75 ≤ 75 + g := by omega
  have hx := hw.1
  have hV := hw.2.2.2.2.2.1
  have hg := hw.2.1
  have hG := hI.1
  have hVD := hVG.1
  have hVO := hVG.1.1
  have hS := lSame_F hw
  have kk' : ∀ N1 k1 z1 h1, lFI c N1 k1 z1 h1 → eWp ox (eEv (d + 50)) eM_L_law (1930, [(0, .retAddr 0), (1, .ref 0), (2, .ref 63), (3, .ref 73), (4, .ref 74), (5, vI i)], [], N1, h1, k + k1, z + z1) P := by
    rintro N1 k1 z1 h1 ⟨g', rfl, hI9, hk9, hz9⟩
    exact kk g' k1 z1 h1 hI9 hk9 hz9
  exact lc_12 (d := d + 49) hox hxs hi hn hN hx (lB_eRet hS (x_turn (d := d + 48) hx hV hVO hN hg hG)) (lGenB J (fun h1 hm1 => mAs_0 hR rfl (m_turn (d := d + 49) hm1 hN hrr hI))) kk'
theorem ls_13 {ox : Nat → Option (Nat × Nat × (Nat → Int32))} {d n k z g : Nat} {h : eHp} {xs : Nat → Int} {i : Int} {P : eR → Prop} (hox : ox 0 = some (0, n, eIA xs)) (hxs : ∀ j, i32 (xs j)) (hi : 0 ≤ i ∧ i + 4 ≤ n) (hn : n ≤ 2048) {c : Int} {X : eXs} {G O Q : eGd} {ya yz : Int} {Ks : Nat → eGd} {V : eVs} {S : Int × Int × Int} {T : eTx} {L : List Int} {s : Nat → Int} {A : Nat → Nat → Int} (J : lJ c g h X G O Q ya yz Ks V S T L s A) (hc : 0 ≤ c ∧ c ≤ 15900) (kk : ∀ g' k1 z1 h1, lI (c + 30) g' h1 → k1 ≤ 10 → z1 ≤ 2000 → eWp ox (eEv (d + 50)) eM_L_law (1930, [(0, .retAddr 0), (1, .ref 0), (2, .ref 63), (3, .ref 73), (4, .ref 74), (5, vI i)], [], 75 + g', h1, k + k1, z + z1) P) : eWp ox (eEv (d + 50)) eM_L_law (897, [(0, .retAddr 0), (1, .ref 0), (2, .ref 63), (3, .ref 73), (4, .ref 74), (5, vI i)], [], 75 + g, h, k, z) P := by
  have J9 := J
  obtain ⟨hw, hb, hbc, hm0, hlo, hR⟩ := J9
  have hR9 := hR
  obtain ⟨⟨hI, hVG, hTO, hrr⟩, ⟨ha, hz, hw5, hKs⟩, ⟨hX4, hs4, hQ⟩, ⟨hX12, hX8, hX9, h8⟩, ⟨h11, hA4⟩, hw6, hln, h14⟩ := hR9
  obtain ⟨F73, f74, o73, o74⟩ := hlo
  have hN : 75 ≤ 75 + g := by omega
  have hx := hw.1
  have hV := hw.2.2.2.2.2.1
  have hg := hw.2.1
  have hG := hI.1
  have hVD := hVG.1
  have hVO := hVG.1.1
  have hS := lSame_F hw
  have kk' : ∀ N1 k1 z1 h1, lFI c N1 k1 z1 h1 → eWp ox (eEv (d + 50)) eM_L_law (1930, [(0, .retAddr 0), (1, .ref 0), (2, .ref 63), (3, .ref 73), (4, .ref 74), (5, vI i)], [], N1, h1, k + k1, z + z1) P := by
    rintro N1 k1 z1 h1 ⟨g', rfl, hI9, hk9, hz9⟩
    exact kk g' k1 z1 h1 hI9 hk9 hz9
  have hE9 : ∀ E, (eIfT (gMonk (xs (i + 1).toNat)) nIOB (eIfT (decide (0 ≤ xs (i + 2).toNat ∧ xs (i + 2).toNat < 4)) nIAE (.inl (gTal G (xs (i + 1).toNat) (xs (i + 2).toNat))))) = .inr E → E = nIOB ∨ E = nIAE := fun E h9 => eIfT_E2 h9
  have hr9 : ∀ E, (eIfT (gMonk (xs (i + 1).toNat)) nIOB (eIfT (decide (0 ≤ xs (i + 2).toNat ∧ xs (i + 2).toNat < 4)) nIAE (.inl (gTal G (xs (i + 1).toNat) (xs (i + 2).toNat))))) = .inr E → 1 ≤ lCd [nIOB, nIAE] E ∧ lCd [nIOB, nIAE] E ≤ 3 := fun E h9 => by rcases hE9 E h9 with rfl | rfl <;> decide +kernel
  exact lc_13 (d := d + 49) hox hxs hi hn hN hr9 (l_monkOf (d := d + 49) hN hx ⟨F73, o73⟩ hE9 (lX_eAns hS (x_monkOf (d := d + 46) hx hV hVO hN hg hG (hxs _) (hxs _)))) (lGen J (fun h1 hm1 => mAs_2 hR (fun _ _ => rfl) (by decide +kernel) (by decide +kernel) (m_monkOf (d := d + 47) hm1 hN hrr hI (hxs _) (hxs _)))) kk'
theorem ls_14_0 {ox : Nat → Option (Nat × Nat × (Nat → Int32))} {d n k z g : Nat} {h : eHp} {xs : Nat → Int} {i : Int} {P : eR → Prop} (hox : ox 0 = some (0, n, eIA xs)) (hxs : ∀ j, i32 (xs j)) (hi : 0 ≤ i ∧ i + 4 ≤ n) (hn : n ≤ 2048) {c : Int} {X : eXs} {G O Q : eGd} {ya yz : Int} {Ks : Nat → eGd} {V : eVs} {S : Int × Int × Int} {T : eTx} {L : List Int} {s : Nat → Int} {A : Nat → Nat → Int} (J : lJ c g h X G O Q ya yz Ks V S T L s A) (hz9 : xs (i + 2).toNat = 0) (hc : 0 ≤ c ∧ c ≤ 15900) (kk : ∀ g' k1 z1 h1, lI (c + 30) g' h1 → k1 ≤ 10 → z1 ≤ 2000 → eWp ox (eEv (d + 50)) eM_L_law (1930, [(0, .retAddr 0), (1, .ref 0), (2, .ref 63), (3, .ref 73), (4, .ref 74), (5, vI i)], [], 75 + g', h1, k + k1, z + z1) P) : eWp ox (eEv (d + 50)) eM_L_law (965, [(0, .retAddr 0), (1, .ref 0), (2, .ref 63), (3, .ref 73), (4, .ref 74), (5, vI i)], [], 75 + g, h, k, z) P := by
  have J9 := J
  obtain ⟨hw, hb, hbc, hm0, hlo, hR⟩ := J9
  have hR9 := hR
  obtain ⟨⟨hI, hVG, hTO, hrr⟩, ⟨ha, hz, hw5, hKs⟩, ⟨hX4, hs4, hQ⟩, ⟨hX12, hX8, hX9, h8⟩, ⟨h11, hA4⟩, hw6, hln, h14⟩ := hR9
  obtain ⟨F73, f74, o73, o74⟩ := hlo
  have hN : 75 ≤ 75 + g := by omega
  have hx := hw.1
  have hV := hw.2.2.2.2.2.1
  have hg := hw.2.1
  have hG := hI.1
  have hVD := hVG.1
  have hVO := hVG.1.1
  have hS := lSame_F hw
  have kk' : ∀ N1 k1 z1 h1, lFI c N1 k1 z1 h1 → eWp ox (eEv (d + 50)) eM_L_law (1930, [(0, .retAddr 0), (1, .ref 0), (2, .ref 63), (3, .ref 73), (4, .ref 74), (5, vI i)], [], N1, h1, k + k1, z + z1) P := by
    rintro N1 k1 z1 h1 ⟨g', rfl, hI9, hk9, hz9⟩
    exact kk g' k1 z1 h1 hI9 hk9 hz9
  have hE9 : ∀ E, (eIfT (gNum (xs (i + 1).toNat)) nIAE (.inl (match decide ((0 : Int) = 1) with | true => gVal V.2.2.1 (xs (i + 1).toNat) | false => gVal V.2.1 (xs (i + 1).toNat)))) = .inr E → E = nIAE := fun E h9 => eIfT_E h9
  have hr9 : ∀ E, (eIfT (gNum (xs (i + 1).toNat)) nIAE (.inl (match decide ((0 : Int) = 1) with | true => gVal V.2.2.1 (xs (i + 1).toNat) | false => gVal V.2.1 (xs (i + 1).toNat)))) = .inr E → 1 ≤ lCd [nIAE] E ∧ lCd [nIAE] E ≤ 3 := fun E h9 => by rcases hE9 E h9 with rfl <;> decide +kernel
  exact lc_14_0 (d := d + 49) hox hxs hi hn hN hr9 hz9 (l_value (d := d + 49) hN hx ⟨F73, o73⟩ hE9 (lX_eAns hS (x_value (d := d + 46) hx hV hVO hN (b := 0) (hxs _) (Or.inl rfl)))) (lGen J (fun h1 hm1 => mAs_1 hR (fun h9 => gVal_1 hVD h9) (by decide +kernel) (m_value (d := d + 47) hm1 hN hrr hI (b := 0) (hxs _)))) kk'
theorem ls_14_1 {ox : Nat → Option (Nat × Nat × (Nat → Int32))} {d n k z g : Nat} {h : eHp} {xs : Nat → Int} {i : Int} {P : eR → Prop} (hox : ox 0 = some (0, n, eIA xs)) (hxs : ∀ j, i32 (xs j)) (hi : 0 ≤ i ∧ i + 4 ≤ n) (hn : n ≤ 2048) {c : Int} {X : eXs} {G O Q : eGd} {ya yz : Int} {Ks : Nat → eGd} {V : eVs} {S : Int × Int × Int} {T : eTx} {L : List Int} {s : Nat → Int} {A : Nat → Nat → Int} (J : lJ c g h X G O Q ya yz Ks V S T L s A) (hz9 : xs (i + 2).toNat ≠ 0) (hc : 0 ≤ c ∧ c ≤ 15900) (kk : ∀ g' k1 z1 h1, lI (c + 30) g' h1 → k1 ≤ 10 → z1 ≤ 2000 → eWp ox (eEv (d + 50)) eM_L_law (1930, [(0, .retAddr 0), (1, .ref 0), (2, .ref 63), (3, .ref 73), (4, .ref 74), (5, vI i)], [], 75 + g', h1, k + k1, z + z1) P) : eWp ox (eEv (d + 50)) eM_L_law (965, [(0, .retAddr 0), (1, .ref 0), (2, .ref 63), (3, .ref 73), (4, .ref 74), (5, vI i)], [], 75 + g, h, k, z) P := by
  have J9 := J
  obtain ⟨hw, hb, hbc, hm0, hlo, hR⟩ := J9
  have hR9 := hR
  obtain ⟨⟨hI, hVG, hTO, hrr⟩, ⟨ha, hz, hw5, hKs⟩, ⟨hX4, hs4, hQ⟩, ⟨hX12, hX8, hX9, h8⟩, ⟨h11, hA4⟩, hw6, hln, h14⟩ := hR9
  obtain ⟨F73, f74, o73, o74⟩ := hlo
  have hN : 75 ≤ 75 + g := by omega
  have hx := hw.1
  have hV := hw.2.2.2.2.2.1
  have hg := hw.2.1
  have hG := hI.1
  have hVD := hVG.1
  have hVO := hVG.1.1
  have hS := lSame_F hw
  have kk' : ∀ N1 k1 z1 h1, lFI c N1 k1 z1 h1 → eWp ox (eEv (d + 50)) eM_L_law (1930, [(0, .retAddr 0), (1, .ref 0), (2, .ref 63), (3, .ref 73), (4, .ref 74), (5, vI i)], [], N1, h1, k + k1, z + z1) P := by
    rintro N1 k1 z1 h1 ⟨g', rfl, hI9, hk9, hz9⟩
    exact kk g' k1 z1 h1 hI9 hk9 hz9
  have hE9 : ∀ E, (eIfT (gNum (xs (i + 1).toNat)) nIAE (.inl (match decide ((1 : Int) = 1) with | true => gVal V.2.2.1 (xs (i + 1).toNat) | false => gVal V.2.1 (xs (i + 1).toNat)))) = .inr E → E = nIAE := fun E h9 => eIfT_E h9
  have hr9 : ∀ E, (eIfT (gNum (xs (i + 1).toNat)) nIAE (.inl (match decide ((1 : Int) = 1) with | true => gVal V.2.2.1 (xs (i + 1).toNat) | false => gVal V.2.1 (xs (i + 1).toNat)))) = .inr E → 1 ≤ lCd [nIAE] E ∧ lCd [nIAE] E ≤ 3 := fun E h9 => by rcases hE9 E h9 with rfl <;> decide +kernel
  exact lc_14_1 (d := d + 49) hox hxs hi hn hN hr9 hz9 (l_value (d := d + 49) hN hx ⟨F73, o73⟩ hE9 (lX_eAns hS (x_value (d := d + 46) hx hV hVO hN (b := 1) (hxs _) (Or.inr rfl)))) (lGen J (fun h1 hm1 => mAs_1 hR (fun h9 => gVal_2 hVD h9) (by decide +kernel) (m_value (d := d + 47) hm1 hN hrr hI (b := 1) (hxs _)))) kk'
theorem ls_15 {ox : Nat → Option (Nat × Nat × (Nat → Int32))} {d n k z g : Nat} {h : eHp} {xs : Nat → Int} {i : Int} {P : eR → Prop} (hox : ox 0 = some (0, n, eIA xs)) (hxs : ∀ j, i32 (xs j)) (hi : 0 ≤ i ∧ i + 4 ≤ n) (hn : n ≤ 2048) {c : Int} {X : eXs} {G O Q : eGd} {ya yz : Int} {Ks : Nat → eGd} {V : eVs} {S : Int × Int × Int} {T : eTx} {L : List Int} {s : Nat → Int} {A : Nat → Nat → Int} (J : lJ c g h X G O Q ya yz Ks V S T L s A) (hc : 0 ≤ c ∧ c ≤ 15900) (kk : ∀ g' k1 z1 h1, lI (c + 30) g' h1 → k1 ≤ 10 → z1 ≤ 2000 → eWp ox (eEv (d + 50)) eM_L_law (1930, [(0, .retAddr 0), (1, .ref 0), (2, .ref 63), (3, .ref 73), (4, .ref 74), (5, vI i)], [], 75 + g', h1, k + k1, z + z1) P) : eWp ox (eEv (d + 50)) eM_L_law (1049, [(0, .retAddr 0), (1, .ref 0), (2, .ref 63), (3, .ref 73), (4, .ref 74), (5, vI i)], [], 75 + g, h, k, z) P := by
  have J9 := J
  obtain ⟨hw, hb, hbc, hm0, hlo, hR⟩ := J9
  have hR9 := hR
  obtain ⟨⟨hI, hVG, hTO, hrr⟩, ⟨ha, hz, hw5, hKs⟩, ⟨hX4, hs4, hQ⟩, ⟨hX12, hX8, hX9, h8⟩, ⟨h11, hA4⟩, hw6, hln, h14⟩ := hR9
  obtain ⟨F73, f74, o73, o74⟩ := hlo
  have hN : 75 ≤ 75 + g := by omega
  have hx := hw.1
  have hV := hw.2.2.2.2.2.1
  have hg := hw.2.1
  have hG := hI.1
  have hVD := hVG.1
  have hVO := hVG.1.1
  have hS := lSame_F hw
  have kk' : ∀ N1 k1 z1 h1, lFI c N1 k1 z1 h1 → eWp ox (eEv (d + 50)) eM_L_law (1930, [(0, .retAddr 0), (1, .ref 0), (2, .ref 63), (3, .ref 73), (4, .ref 74), (5, vI i)], [], N1, h1, k + k1, z + z1) P := by
    rintro N1 k1 z1 h1 ⟨g', rfl, hI9, hk9, hz9⟩
    exact kk g' k1 z1 h1 hI9 hk9 hz9
  have hb9 : ∀ a, (eIfT (gNum (xs (i + 1).toNat)) nIAE (.inl (eB01 (gHasL (gDig G) (xs (i + 1).toNat) (xs (i + 2).toNat)))) : Int ⊕ String) = .inl a → a = 0 ∨ a = 1 := fun a h9 => by cases e9 : gNum (xs (i + 1).toNat) <;> rw [e9] at h9 <;> cases h9; exact eB01_b rfl
  have hE9 : ∀ E, (eIfT (gNum (xs (i + 1).toNat)) nIAE (.inl (eB01 (gHasL (gDig G) (xs (i + 1).toNat) (xs (i + 2).toNat))))) = .inr E → E = nIAE := fun E h9 => eIfT_E h9
  have hr9 : ∀ E, (eIfT (gNum (xs (i + 1).toNat)) nIAE (.inl (eB01 (gHasL (gDig G) (xs (i + 1).toNat) (xs (i + 2).toNat))))) = .inr E → 1 ≤ lCd [nIAE] E ∧ lCd [nIAE] E ≤ 3 := fun E h9 => by rcases hE9 E h9 with rfl <;> decide +kernel
  exact lc_15 (d := d + 49) hox hxs hi hn hN hr9 hb9 (l_lists (d := d + 49) hN hx ⟨F73, o73⟩ hE9 hb9 (lX_eAns hS (x_lists (d := d + 46) hx hV hVO hN hVD (hxs _) (hxs _)))) (lGen J (fun h1 hm1 => mAs_1 hR (fun _ => rfl) (by decide +kernel) (m_lists (d := d + 47) hm1 hN hrr hI (hxs _) (hxs _)))) kk'
theorem ls_16 {ox : Nat → Option (Nat × Nat × (Nat → Int32))} {d n k z g : Nat} {h : eHp} {xs : Nat → Int} {i : Int} {P : eR → Prop} (hox : ox 0 = some (0, n, eIA xs)) (hxs : ∀ j, i32 (xs j)) (hi : 0 ≤ i ∧ i + 4 ≤ n) (hn : n ≤ 2048) {c : Int} {X : eXs} {G O Q : eGd} {ya yz : Int} {Ks : Nat → eGd} {V : eVs} {S : Int × Int × Int} {T : eTx} {L : List Int} {s : Nat → Int} {A : Nat → Nat → Int} (J : lJ c g h X G O Q ya yz Ks V S T L s A) (hc : 0 ≤ c ∧ c ≤ 15900) (kk : ∀ g' k1 z1 h1, lI (c + 30) g' h1 → k1 ≤ 10 → z1 ≤ 2000 → eWp ox (eEv (d + 50)) eM_L_law (1930, [(0, .retAddr 0), (1, .ref 0), (2, .ref 63), (3, .ref 73), (4, .ref 74), (5, vI i)], [], 75 + g', h1, k + k1, z + z1) P) : eWp ox (eEv (d + 50)) eM_L_law (1124, [(0, .retAddr 0), (1, .ref 0), (2, .ref 63), (3, .ref 73), (4, .ref 74), (5, vI i)], [], 75 + g, h, k, z) P := by
  have J9 := J
  obtain ⟨hw, hb, hbc, hm0, hlo, hR⟩ := J9
  have hR9 := hR
  obtain ⟨⟨hI, hVG, hTO, hrr⟩, ⟨ha, hz, hw5, hKs⟩, ⟨hX4, hs4, hQ⟩, ⟨hX12, hX8, hX9, h8⟩, ⟨h11, hA4⟩, hw6, hln, h14⟩ := hR9
  obtain ⟨F73, f74, o73, o74⟩ := hlo
  have hN : 75 ≤ 75 + g := by omega
  have hx := hw.1
  have hV := hw.2.2.2.2.2.1
  have hg := hw.2.1
  have hG := hI.1
  have hVD := hVG.1
  have hVO := hVG.1.1
  have hS := lSame_F hw
  have kk' : ∀ N1 k1 z1 h1, lFI c N1 k1 z1 h1 → eWp ox (eEv (d + 50)) eM_L_law (1930, [(0, .retAddr 0), (1, .ref 0), (2, .ref 63), (3, .ref 73), (4, .ref 74), (5, vI i)], [], N1, h1, k + k1, z + z1) P := by
    rintro N1 k1 z1 h1 ⟨g', rfl, hI9, hk9, hz9⟩
    exact kk g' k1 z1 h1 hI9 hk9 hz9
  have hE9 : ∀ E, (eIfT (gNum (xs (i + 1).toNat)) nIAE (.inl (match gNum (xs (i + 1).toNat) with | true => gCnt (gHasL (gDig G) (xs (i + 1).toNat)) 32 | false => 0))) = .inr E → E = nIAE := fun E h9 => eIfT_E h9
  have hr9 : ∀ E, (eIfT (gNum (xs (i + 1).toNat)) nIAE (.inl (match gNum (xs (i + 1).toNat) with | true => gCnt (gHasL (gDig G) (xs (i + 1).toNat)) 32 | false => 0))) = .inr E → 1 ≤ lCd [nIAE] E ∧ lCd [nIAE] E ≤ 3 := fun E h9 => by rcases hE9 E h9 with rfl <;> decide +kernel
  exact lc_16 (d := d + 49) hox hxs hi hn hN hr9 (l_listed (d := d + 49) hN hx ⟨F73, o73⟩ hE9 (lX_eAns hS (x_listed (d := d + 46) hx hV hVO hN hVD (hxs _)))) (lGen J (fun h1 hm1 => mAs_1 hR (fun h9 => by rw [h9]) (by decide +kernel) (m_listed (d := d + 47) hm1 hN hrr hI (hxs _)))) kk'
theorem ls_17 {ox : Nat → Option (Nat × Nat × (Nat → Int32))} {d n k z g : Nat} {h : eHp} {xs : Nat → Int} {i : Int} {P : eR → Prop} (hox : ox 0 = some (0, n, eIA xs)) (hxs : ∀ j, i32 (xs j)) (hi : 0 ≤ i ∧ i + 4 ≤ n) (hn : n ≤ 2048) {c : Int} {X : eXs} {G O Q : eGd} {ya yz : Int} {Ks : Nat → eGd} {V : eVs} {S : Int × Int × Int} {T : eTx} {L : List Int} {s : Nat → Int} {A : Nat → Nat → Int} (J : lJ c g h X G O Q ya yz Ks V S T L s A) (hc : 0 ≤ c ∧ c ≤ 15900) (kk : ∀ g' k1 z1 h1, lI (c + 30) g' h1 → k1 ≤ 10 → z1 ≤ 2000 → eWp ox (eEv (d + 50)) eM_L_law (1930, [(0, .retAddr 0), (1, .ref 0), (2, .ref 63), (3, .ref 73), (4, .ref 74), (5, vI i)], [], 75 + g', h1, k + k1, z + z1) P) : eWp ox (eEv (d + 50)) eM_L_law (1180, [(0, .retAddr 0), (1, .ref 0), (2, .ref 63), (3, .ref 73), (4, .ref 74), (5, vI i)], [], 75 + g, h, k, z) P := by
  have J9 := J
  obtain ⟨hw, hb, hbc, hm0, hlo, hR⟩ := J9
  have hR9 := hR
  obtain ⟨⟨hI, hVG, hTO, hrr⟩, ⟨ha, hz, hw5, hKs⟩, ⟨hX4, hs4, hQ⟩, ⟨hX12, hX8, hX9, h8⟩, ⟨h11, hA4⟩, hw6, hln, h14⟩ := hR9
  obtain ⟨F73, f74, o73, o74⟩ := hlo
  have hN : 75 ≤ 75 + g := by omega
  have hx := hw.1
  have hV := hw.2.2.2.2.2.1
  have hg := hw.2.1
  have hG := hI.1
  have hVD := hVG.1
  have hVO := hVG.1.1
  have hS := lSame_F hw
  have kk' : ∀ N1 k1 z1 h1, lFI c N1 k1 z1 h1 → eWp ox (eEv (d + 50)) eM_L_law (1930, [(0, .retAddr 0), (1, .ref 0), (2, .ref 63), (3, .ref 73), (4, .ref 74), (5, vI i)], [], N1, h1, k + k1, z + z1) P := by
    rintro N1 k1 z1 h1 ⟨g', rfl, hI9, hk9, hz9⟩
    exact kk g' k1 z1 h1 hI9 hk9 hz9
  exact lc_17 (d := d + 49) hox hxs hi hn hN hx (lB_eRet hS (x_sum (d := d + 46) hx hV hVO hN hg hG)) (lGenB J (fun h1 hm1 => mAs_0 hR (gSumV_eq hVD) (m_sum (d := d + 46) hm1 hN hrr hI))) kk'
theorem ls_18 {ox : Nat → Option (Nat × Nat × (Nat → Int32))} {d n k z g : Nat} {h : eHp} {xs : Nat → Int} {i : Int} {P : eR → Prop} (hox : ox 0 = some (0, n, eIA xs)) (hxs : ∀ j, i32 (xs j)) (hi : 0 ≤ i ∧ i + 4 ≤ n) (hn : n ≤ 2048) {c : Int} {X : eXs} {G O Q : eGd} {ya yz : Int} {Ks : Nat → eGd} {V : eVs} {S : Int × Int × Int} {T : eTx} {L : List Int} {s : Nat → Int} {A : Nat → Nat → Int} (J : lJ c g h X G O Q ya yz Ks V S T L s A) (hc : 0 ≤ c ∧ c ≤ 15900) (kk : ∀ g' k1 z1 h1, lI (c + 30) g' h1 → k1 ≤ 10 → z1 ≤ 2000 → eWp ox (eEv (d + 50)) eM_L_law (1930, [(0, .retAddr 0), (1, .ref 0), (2, .ref 63), (3, .ref 73), (4, .ref 74), (5, vI i)], [], 75 + g', h1, k + k1, z + z1) P) : eWp ox (eEv (d + 50)) eM_L_law (1193, [(0, .retAddr 0), (1, .ref 0), (2, .ref 63), (3, .ref 73), (4, .ref 74), (5, vI i)], [], 75 + g, h, k, z) P := by
  have J9 := J
  obtain ⟨hw, hb, hbc, hm0, hlo, hR⟩ := J9
  have hR9 := hR
  obtain ⟨⟨hI, hVG, hTO, hrr⟩, ⟨ha, hz, hw5, hKs⟩, ⟨hX4, hs4, hQ⟩, ⟨hX12, hX8, hX9, h8⟩, ⟨h11, hA4⟩, hw6, hln, h14⟩ := hR9
  obtain ⟨F73, f74, o73, o74⟩ := hlo
  have hN : 75 ≤ 75 + g := by omega
  have hx := hw.1
  have hV := hw.2.2.2.2.2.1
  have hg := hw.2.1
  have hG := hI.1
  have hVD := hVG.1
  have hVO := hVG.1.1
  have hS := lSame_F hw
  have kk' : ∀ N1 k1 z1 h1, lFI c N1 k1 z1 h1 → eWp ox (eEv (d + 50)) eM_L_law (1930, [(0, .retAddr 0), (1, .ref 0), (2, .ref 63), (3, .ref 73), (4, .ref 74), (5, vI i)], [], N1, h1, k + k1, z + z1) P := by
    rintro N1 k1 z1 h1 ⟨g', rfl, hI9, hk9, hz9⟩
    exact kk g' k1 z1 h1 hI9 hk9 hz9
  have hE9 : ∀ E, (eIfT (decide (0 ≤ xs (i + 1).toNat ∧ xs (i + 1).toNat ≤ 29)) nIAE (eOpt (gSrch (gPerIs V (xs (i + 1).toNat)) 1 (30 - xs (i + 1).toNat).toNat) nNSE)) = .inr E → E = nIAE ∨ E = nNSE := fun E h9 => eIfT_EO h9
  have hr9 : ∀ E, (eIfT (decide (0 ≤ xs (i + 1).toNat ∧ xs (i + 1).toNat ≤ 29)) nIAE (eOpt (gSrch (gPerIs V (xs (i + 1).toNat)) 1 (30 - xs (i + 1).toNat).toNat) nNSE)) = .inr E → 1 ≤ lCd [nIAE, nNSE] E ∧ lCd [nIAE, nNSE] E ≤ 3 := fun E h9 => by rcases hE9 E h9 with rfl | rfl <;> decide +kernel
  exact lc_18 (d := d + 49) hox hxs hi hn hN hr9 (l_period (d := d + 49) hN hx ⟨F73, o73⟩ hE9 (lX_eAns hS (x_period (d := d + 45) hx hV hVO hN (hxs _)))) (lGen J (fun h1 hm1 => mAs_Z hR (m_period (d := d + 47) hm1 hN hrr hI hVD (hxs _) (by decide +kernel) (by decide +kernel)))) kk'
theorem ls_19 {ox : Nat → Option (Nat × Nat × (Nat → Int32))} {d n k z g : Nat} {h : eHp} {xs : Nat → Int} {i : Int} {P : eR → Prop} (hox : ox 0 = some (0, n, eIA xs)) (hxs : ∀ j, i32 (xs j)) (hi : 0 ≤ i ∧ i + 4 ≤ n) (hn : n ≤ 2048) {c : Int} {X : eXs} {G O Q : eGd} {ya yz : Int} {Ks : Nat → eGd} {V : eVs} {S : Int × Int × Int} {T : eTx} {L : List Int} {s : Nat → Int} {A : Nat → Nat → Int} (J : lJ c g h X G O Q ya yz Ks V S T L s A) (hc : 0 ≤ c ∧ c ≤ 15900) (kk : ∀ g' k1 z1 h1, lI (c + 30) g' h1 → k1 ≤ 10 → z1 ≤ 2000 → eWp ox (eEv (d + 50)) eM_L_law (1930, [(0, .retAddr 0), (1, .ref 0), (2, .ref 63), (3, .ref 73), (4, .ref 74), (5, vI i)], [], 75 + g', h1, k + k1, z + z1) P) : eWp ox (eEv (d + 50)) eM_L_law (1249, [(0, .retAddr 0), (1, .ref 0), (2, .ref 63), (3, .ref 73), (4, .ref 74), (5, vI i)], [], 75 + g, h, k, z) P := by
  have J9 := J
  obtain ⟨hw, hb, hbc, hm0, hlo, hR⟩ := J9
  have hR9 := hR
  obtain ⟨⟨hI, hVG, hTO, hrr⟩, ⟨ha, hz, hw5, hKs⟩, ⟨hX4, hs4, hQ⟩, ⟨hX12, hX8, hX9, h8⟩, ⟨h11, hA4⟩, hw6, hln, h14⟩ := hR9
  obtain ⟨F73, f74, o73, o74⟩ := hlo
  have hN : 75 ≤ 75 + g := by omega
  have hx := hw.1
  have hV := hw.2.2.2.2.2.1
  have hg := hw.2.1
  have hG := hI.1
  have hVD := hVG.1
  have hVO := hVG.1.1
  have hS := lSame_F hw
  have kk' : ∀ N1 k1 z1 h1, lFI c N1 k1 z1 h1 → eWp ox (eEv (d + 50)) eM_L_law (1930, [(0, .retAddr 0), (1, .ref 0), (2, .ref 63), (3, .ref 73), (4, .ref 74), (5, vI i)], [], N1, h1, k + k1, z + z1) P := by
    rintro N1 k1 z1 h1 ⟨g', rfl, hI9, hk9, hz9⟩
    exact kk g' k1 z1 h1 hI9 hk9 hz9
  have hE9 : ∀ E, (eOpt (gSrch (gLeastIs V (xs (i + 1).toNat)) 0 31) nNSE) = .inr E → E = nNSE := fun E h9 => eOpt_E h9
  have hr9 : ∀ E, (eOpt (gSrch (gLeastIs V (xs (i + 1).toNat)) 0 31) nNSE) = .inr E → 1 ≤ lCd [nNSE] E ∧ lCd [nNSE] E ≤ 3 := fun E h9 => by rcases hE9 E h9 with rfl <;> decide +kernel
  exact lc_19 (d := d + 49) hox hxs hi hn hN hr9 (l_least (d := d + 49) hN hx ⟨F73, o73⟩ hE9 (lX_eAns hS (x_least (d := d + 46) hx hV hVO hN (hxs _)))) (lGen J (fun h1 hm1 => mAs_O hR (by decide +kernel) (m_least (d := d + 47) hm1 hN hrr hI hVD (hxs _)))) kk'
theorem ls_22 {ox : Nat → Option (Nat × Nat × (Nat → Int32))} {d n k z g : Nat} {h : eHp} {xs : Nat → Int} {i : Int} {P : eR → Prop} (hox : ox 0 = some (0, n, eIA xs)) (hxs : ∀ j, i32 (xs j)) (hi : 0 ≤ i ∧ i + 4 ≤ n) (hn : n ≤ 2048) {c : Int} {X : eXs} {G O Q : eGd} {ya yz : Int} {Ks : Nat → eGd} {V : eVs} {S : Int × Int × Int} {T : eTx} {L : List Int} {s : Nat → Int} {A : Nat → Nat → Int} (J : lJ c g h X G O Q ya yz Ks V S T L s A) (hc : 0 ≤ c ∧ c ≤ 15900) (kk : ∀ g' k1 z1 h1, lI (c + 30) g' h1 → k1 ≤ 10 → z1 ≤ 2000 → eWp ox (eEv (d + 50)) eM_L_law (1930, [(0, .retAddr 0), (1, .ref 0), (2, .ref 63), (3, .ref 73), (4, .ref 74), (5, vI i)], [], 75 + g', h1, k + k1, z + z1) P) : eWp ox (eEv (d + 50)) eM_L_law (1374, [(0, .retAddr 0), (1, .ref 0), (2, .ref 63), (3, .ref 73), (4, .ref 74), (5, vI i)], [], 75 + g, h, k, z) P := by
  have J9 := J
  obtain ⟨hw, hb, hbc, hm0, hlo, hR⟩ := J9
  have hR9 := hR
  obtain ⟨⟨hI, hVG, hTO, hrr⟩, ⟨ha, hz, hw5, hKs⟩, ⟨hX4, hs4, hQ⟩, ⟨hX12, hX8, hX9, h8⟩, ⟨h11, hA4⟩, hw6, hln, h14⟩ := hR9
  obtain ⟨F73, f74, o73, o74⟩ := hlo
  have hN : 75 ≤ 75 + g := by omega
  have hx := hw.1
  have hV := hw.2.2.2.2.2.1
  have hg := hw.2.1
  have hG := hI.1
  have hVD := hVG.1
  have hVO := hVG.1.1
  have hS := lSame_F hw
  have kk' : ∀ N1 k1 z1 h1, lFI c N1 k1 z1 h1 → eWp ox (eEv (d + 50)) eM_L_law (1930, [(0, .retAddr 0), (1, .ref 0), (2, .ref 63), (3, .ref 73), (4, .ref 74), (5, vI i)], [], N1, h1, k + k1, z + z1) P := by
    rintro N1 k1 z1 h1 ⟨g', rfl, hI9, hk9, hz9⟩
    exact kk g' k1 z1 h1 hI9 hk9 hz9
  have hE9 : ∀ E, (gChr L (xs (i + 1).toNat)) = .inr E → E = nIOB := fun E h9 => gChr_E h9
  have hr9 : ∀ E, (gChr L (xs (i + 1).toNat)) = .inr E → 1 ≤ lCd [nIOB] E ∧ lCd [nIOB] E ≤ 3 := fun E h9 => by rcases hE9 E h9 with rfl <;> decide +kernel
  exact lc_22 (d := d + 49) hox hxs hi hn hN hr9 (l_character (d := d + 49) hN hx ⟨F73, o73⟩ hE9 (lX_eAns hS (x_character (d := d + 44) hw hb (hxs _)))) (lGen J (fun h1 hm1 => (mAs_1 (E := nIOB) (l := [nIOB]) (v := L.getD (xs (i + 1).toNat).toNat 0) (b := decide (0 ≤ xs (i + 1).toNat ∧ xs (i + 1).toNat < s 14)) hR (fun h9 => lnR_get hln (of_decide_eq_true h9)) (by decide +kernel) (m_character (d := d + 48) hm1 hN (lnR_n hln h14) (lnR_ch hb hln) (hxs _))).imp (fun q hq => by rw [gChr_eIfT hln]; exact hq))) kk'
theorem ls_25 {ox : Nat → Option (Nat × Nat × (Nat → Int32))} {d n k z g : Nat} {h : eHp} {xs : Nat → Int} {i : Int} {P : eR → Prop} (hox : ox 0 = some (0, n, eIA xs)) (hxs : ∀ j, i32 (xs j)) (hi : 0 ≤ i ∧ i + 4 ≤ n) (hn : n ≤ 2048) {c : Int} {X : eXs} {G O Q : eGd} {ya yz : Int} {Ks : Nat → eGd} {V : eVs} {S : Int × Int × Int} {T : eTx} {L : List Int} {s : Nat → Int} {A : Nat → Nat → Int} (J : lJ c g h X G O Q ya yz Ks V S T L s A) (hc : 0 ≤ c ∧ c ≤ 15900) (kk : ∀ g' k1 z1 h1, lI (c + 30) g' h1 → k1 ≤ 10 → z1 ≤ 2000 → eWp ox (eEv (d + 50)) eM_L_law (1930, [(0, .retAddr 0), (1, .ref 0), (2, .ref 63), (3, .ref 73), (4, .ref 74), (5, vI i)], [], 75 + g', h1, k + k1, z + z1) P) : eWp ox (eEv (d + 50)) eM_L_law (1532, [(0, .retAddr 0), (1, .ref 0), (2, .ref 63), (3, .ref 73), (4, .ref 74), (5, vI i)], [], 75 + g, h, k, z) P := by
  have J9 := J
  obtain ⟨hw, hb, hbc, hm0, hlo, hR⟩ := J9
  have hR9 := hR
  obtain ⟨⟨hI, hVG, hTO, hrr⟩, ⟨ha, hz, hw5, hKs⟩, ⟨hX4, hs4, hQ⟩, ⟨hX12, hX8, hX9, h8⟩, ⟨h11, hA4⟩, hw6, hln, h14⟩ := hR9
  obtain ⟨F73, f74, o73, o74⟩ := hlo
  have hN : 75 ≤ 75 + g := by omega
  have hx := hw.1
  have hV := hw.2.2.2.2.2.1
  have hg := hw.2.1
  have hG := hI.1
  have hVD := hVG.1
  have hVO := hVG.1.1
  have hS := lSame_F hw
  have kk' : ∀ N1 k1 z1 h1, lFI c N1 k1 z1 h1 → eWp ox (eEv (d + 50)) eM_L_law (1930, [(0, .retAddr 0), (1, .ref 0), (2, .ref 63), (3, .ref 73), (4, .ref 74), (5, vI i)], [], N1, h1, k + k1, z + z1) P := by
    rintro N1 k1 z1 h1 ⟨g', rfl, hI9, hk9, hz9⟩
    exact kk g' k1 z1 h1 hI9 hk9 hz9
  exact lc_25 (d := d + 49) hox hxs hi hn hN hx (lB_eRet hS (x_error (d := d + 49) hx hV hVO hN)) (lGenB J (fun h1 hm1 => mAs_0 hR hX12 (m_errorPosition (d := d + 49) hm1 hN))) kk'
theorem ls_26_0 {ox : Nat → Option (Nat × Nat × (Nat → Int32))} {d n k z g : Nat} {h : eHp} {xs : Nat → Int} {i : Int} {P : eR → Prop} (hox : ox 0 = some (0, n, eIA xs)) (hxs : ∀ j, i32 (xs j)) (hi : 0 ≤ i ∧ i + 4 ≤ n) (hn : n ≤ 2048) {c : Int} {X : eXs} {G O Q : eGd} {ya yz : Int} {Ks : Nat → eGd} {V : eVs} {S : Int × Int × Int} {T : eTx} {L : List Int} {s : Nat → Int} {A : Nat → Nat → Int} (J : lJ c g h X G O Q ya yz Ks V S T L s A) (hz9 : xs (i + 1).toNat = 0) (hc : 0 ≤ c ∧ c ≤ 15900) (kk : ∀ g' k1 z1 h1, lI (c + 30) g' h1 → k1 ≤ 10 → z1 ≤ 2000 → eWp ox (eEv (d + 50)) eM_L_law (1930, [(0, .retAddr 0), (1, .ref 0), (2, .ref 63), (3, .ref 73), (4, .ref 74), (5, vI i)], [], 75 + g', h1, k + k1, z + z1) P) : eWp ox (eEv (d + 50)) eM_L_law (1545, [(0, .retAddr 0), (1, .ref 0), (2, .ref 63), (3, .ref 73), (4, .ref 74), (5, vI i)], [], 75 + g, h, k, z) P := by
  have J9 := J
  obtain ⟨hw, hb, hbc, hm0, hlo, hR⟩ := J9
  have hR9 := hR
  obtain ⟨⟨hI, hVG, hTO, hrr⟩, ⟨ha, hz, hw5, hKs⟩, ⟨hX4, hs4, hQ⟩, ⟨hX12, hX8, hX9, h8⟩, ⟨h11, hA4⟩, hw6, hln, h14⟩ := hR9
  obtain ⟨F73, f74, o73, o74⟩ := hlo
  have hN : 75 ≤ 75 + g := by omega
  have hx := hw.1
  have hV := hw.2.2.2.2.2.1
  have hg := hw.2.1
  have hG := hI.1
  have hVD := hVG.1
  have hVO := hVG.1.1
  have hS := lSame_F hw
  have kk' : ∀ N1 k1 z1 h1, lFI c N1 k1 z1 h1 → eWp ox (eEv (d + 50)) eM_L_law (1930, [(0, .retAddr 0), (1, .ref 0), (2, .ref 63), (3, .ref 73), (4, .ref 74), (5, vI i)], [], N1, h1, k + k1, z + z1) P := by
    rintro N1 k1 z1 h1 ⟨g', rfl, hI9, hk9, hz9⟩
    exact kk g' k1 z1 h1 hI9 hk9 hz9
  have hE9 : ∀ E, (eIfT (decide (X.2.2.1 ≠ 0)) nNSE (.inl (match decide ((0 : Int) = 1) with | true => X.2.2.2 | false => X.2.2.1))) = .inr E → E = nNSE := fun E h9 => eIfT_E h9
  have hr9 : ∀ E, (eIfT (decide (X.2.2.1 ≠ 0)) nNSE (.inl (match decide ((0 : Int) = 1) with | true => X.2.2.2 | false => X.2.2.1))) = .inr E → 1 ≤ lCd [nNSE] E ∧ lCd [nNSE] E ≤ 3 := fun E h9 => by rcases hE9 E h9 with rfl <;> decide +kernel
  exact lc_26_0 (d := d + 49) hox hxs hi hn hN hr9 hz9 (l_refusal (d := d + 49) hN hx ⟨F73, o73⟩ hE9 (lX_eAns hS (x_refusal (d := d + 48) hx hV hVO hN (b := 0) (Or.inl rfl) (by rw [hX8]; exact h8)))) (lGen J (fun h1 hm1 => mAs_1 (b := decide (X.2.2.1 ≠ 0)) hR (fun _ => rfl) (by decide +kernel) (by rw [hX8, hX9]; exact m_refusal (d := d + 48) hm1 hN (b := 0) (Or.inl rfl) h8))) kk'
theorem ls_26_1 {ox : Nat → Option (Nat × Nat × (Nat → Int32))} {d n k z g : Nat} {h : eHp} {xs : Nat → Int} {i : Int} {P : eR → Prop} (hox : ox 0 = some (0, n, eIA xs)) (hxs : ∀ j, i32 (xs j)) (hi : 0 ≤ i ∧ i + 4 ≤ n) (hn : n ≤ 2048) {c : Int} {X : eXs} {G O Q : eGd} {ya yz : Int} {Ks : Nat → eGd} {V : eVs} {S : Int × Int × Int} {T : eTx} {L : List Int} {s : Nat → Int} {A : Nat → Nat → Int} (J : lJ c g h X G O Q ya yz Ks V S T L s A) (hz9 : xs (i + 1).toNat ≠ 0) (hc : 0 ≤ c ∧ c ≤ 15900) (kk : ∀ g' k1 z1 h1, lI (c + 30) g' h1 → k1 ≤ 10 → z1 ≤ 2000 → eWp ox (eEv (d + 50)) eM_L_law (1930, [(0, .retAddr 0), (1, .ref 0), (2, .ref 63), (3, .ref 73), (4, .ref 74), (5, vI i)], [], 75 + g', h1, k + k1, z + z1) P) : eWp ox (eEv (d + 50)) eM_L_law (1545, [(0, .retAddr 0), (1, .ref 0), (2, .ref 63), (3, .ref 73), (4, .ref 74), (5, vI i)], [], 75 + g, h, k, z) P := by
  have J9 := J
  obtain ⟨hw, hb, hbc, hm0, hlo, hR⟩ := J9
  have hR9 := hR
  obtain ⟨⟨hI, hVG, hTO, hrr⟩, ⟨ha, hz, hw5, hKs⟩, ⟨hX4, hs4, hQ⟩, ⟨hX12, hX8, hX9, h8⟩, ⟨h11, hA4⟩, hw6, hln, h14⟩ := hR9
  obtain ⟨F73, f74, o73, o74⟩ := hlo
  have hN : 75 ≤ 75 + g := by omega
  have hx := hw.1
  have hV := hw.2.2.2.2.2.1
  have hg := hw.2.1
  have hG := hI.1
  have hVD := hVG.1
  have hVO := hVG.1.1
  have hS := lSame_F hw
  have kk' : ∀ N1 k1 z1 h1, lFI c N1 k1 z1 h1 → eWp ox (eEv (d + 50)) eM_L_law (1930, [(0, .retAddr 0), (1, .ref 0), (2, .ref 63), (3, .ref 73), (4, .ref 74), (5, vI i)], [], N1, h1, k + k1, z + z1) P := by
    rintro N1 k1 z1 h1 ⟨g', rfl, hI9, hk9, hz9⟩
    exact kk g' k1 z1 h1 hI9 hk9 hz9
  have hE9 : ∀ E, (eIfT (decide (X.2.2.1 ≠ 0)) nNSE (.inl (match decide ((1 : Int) = 1) with | true => X.2.2.2 | false => X.2.2.1))) = .inr E → E = nNSE := fun E h9 => eIfT_E h9
  have hr9 : ∀ E, (eIfT (decide (X.2.2.1 ≠ 0)) nNSE (.inl (match decide ((1 : Int) = 1) with | true => X.2.2.2 | false => X.2.2.1))) = .inr E → 1 ≤ lCd [nNSE] E ∧ lCd [nNSE] E ≤ 3 := fun E h9 => by rcases hE9 E h9 with rfl <;> decide +kernel
  exact lc_26_1 (d := d + 49) hox hxs hi hn hN hr9 hz9 (l_refusal (d := d + 49) hN hx ⟨F73, o73⟩ hE9 (lX_eAns hS (x_refusal (d := d + 48) hx hV hVO hN (b := 1) (Or.inr rfl) (by rw [hX8]; exact h8)))) (lGen J (fun h1 hm1 => mAs_1 (b := decide (X.2.2.1 ≠ 0)) hR (fun _ => rfl) (by decide +kernel) (by rw [hX8, hX9]; exact m_refusal (d := d + 48) hm1 hN (b := 1) (Or.inr rfl) h8))) kk'
theorem ls_27 {ox : Nat → Option (Nat × Nat × (Nat → Int32))} {d n k z g : Nat} {h : eHp} {xs : Nat → Int} {i : Int} {P : eR → Prop} (hox : ox 0 = some (0, n, eIA xs)) (hxs : ∀ j, i32 (xs j)) (hi : 0 ≤ i ∧ i + 4 ≤ n) (hn : n ≤ 2048) {c : Int} {X : eXs} {G O Q : eGd} {ya yz : Int} {Ks : Nat → eGd} {V : eVs} {S : Int × Int × Int} {T : eTx} {L : List Int} {s : Nat → Int} {A : Nat → Nat → Int} (J : lJ c g h X G O Q ya yz Ks V S T L s A) (hc : 0 ≤ c ∧ c ≤ 15900) (kk : ∀ g' k1 z1 h1, lI (c + 30) g' h1 → k1 ≤ 10 → z1 ≤ 2000 → eWp ox (eEv (d + 50)) eM_L_law (1930, [(0, .retAddr 0), (1, .ref 0), (2, .ref 63), (3, .ref 73), (4, .ref 74), (5, vI i)], [], 75 + g', h1, k + k1, z + z1) P) : eWp ox (eEv (d + 50)) eM_L_law (1617, [(0, .retAddr 0), (1, .ref 0), (2, .ref 63), (3, .ref 73), (4, .ref 74), (5, vI i)], [], 75 + g, h, k, z) P := by
  have J9 := J
  obtain ⟨hw, hb, hbc, hm0, hlo, hR⟩ := J9
  have hR9 := hR
  obtain ⟨⟨hI, hVG, hTO, hrr⟩, ⟨ha, hz, hw5, hKs⟩, ⟨hX4, hs4, hQ⟩, ⟨hX12, hX8, hX9, h8⟩, ⟨h11, hA4⟩, hw6, hln, h14⟩ := hR9
  obtain ⟨F73, f74, o73, o74⟩ := hlo
  have hN : 75 ≤ 75 + g := by omega
  have hx := hw.1
  have hV := hw.2.2.2.2.2.1
  have hg := hw.2.1
  have hG := hI.1
  have hVD := hVG.1
  have hVO := hVG.1.1
  have hS := lSame_F hw
  have kk' : ∀ N1 k1 z1 h1, lFI c N1 k1 z1 h1 → eWp ox (eEv (d + 50)) eM_L_law (1930, [(0, .retAddr 0), (1, .ref 0), (2, .ref 63), (3, .ref 73), (4, .ref 74), (5, vI i)], [], N1, h1, k + k1, z + z1) P := by
    rintro N1 k1 z1 h1 ⟨g', rfl, hI9, hk9, hz9⟩
    exact kk g' k1 z1 h1 hI9 hk9 hz9
  have hE9 : ∀ E, (eIfT (decide (0 ≤ xs (i + 1).toNat ∧ xs (i + 1).toNat ≤ 9)) nIAE (.inl (gAcc G (gTop V.2.1 31) T.2.2.2.1 yz (xs (i + 1).toNat)))) = .inr E → E = nIAE := fun E h9 => eIfT_E h9
  have hr9 : ∀ E, (eIfT (decide (0 ≤ xs (i + 1).toNat ∧ xs (i + 1).toNat ≤ 9)) nIAE (.inl (gAcc G (gTop V.2.1 31) T.2.2.2.1 yz (xs (i + 1).toNat)))) = .inr E → 1 ≤ lCd [nIAE] E ∧ lCd [nIAE] E ≤ 3 := fun E h9 => by rcases hE9 E h9 with rfl <;> decide +kernel
  exact lc_27 (d := d + 49) hox hxs hi hn hN hr9 (l_account (d := d + 49) hN hx ⟨F73, o73⟩ hE9 (lX_eAns hS (x_account (d := d + 45) hw hN hI hVG ha hz hTO (hxs _)))) (lGen J (fun h1 hm1 => mAs_1 hR (fun _ => by rw [gTop_congr 31 (fun i9 h9 => (hVD.2 i9 h9).1), h11, hw5]) (by decide +kernel) (m_account (d := d + 46) hm1 hN hrr hI (hxs _)))) kk'
theorem ls_28 {ox : Nat → Option (Nat × Nat × (Nat → Int32))} {d n k z g : Nat} {h : eHp} {xs : Nat → Int} {i : Int} {P : eR → Prop} (hox : ox 0 = some (0, n, eIA xs)) (hxs : ∀ j, i32 (xs j)) (hi : 0 ≤ i ∧ i + 4 ≤ n) (hn : n ≤ 2048) {c : Int} {X : eXs} {G O Q : eGd} {ya yz : Int} {Ks : Nat → eGd} {V : eVs} {S : Int × Int × Int} {T : eTx} {L : List Int} {s : Nat → Int} {A : Nat → Nat → Int} (J : lJ c g h X G O Q ya yz Ks V S T L s A) (hc : 0 ≤ c ∧ c ≤ 15900) (kk : ∀ g' k1 z1 h1, lI (c + 30) g' h1 → k1 ≤ 10 → z1 ≤ 2000 → eWp ox (eEv (d + 50)) eM_L_law (1930, [(0, .retAddr 0), (1, .ref 0), (2, .ref 63), (3, .ref 73), (4, .ref 74), (5, vI i)], [], 75 + g', h1, k + k1, z + z1) P) : eWp ox (eEv (d + 50)) eM_L_law (1673, [(0, .retAddr 0), (1, .ref 0), (2, .ref 63), (3, .ref 73), (4, .ref 74), (5, vI i)], [], 75 + g, h, k, z) P := by
  have J9 := J
  obtain ⟨hw, hb, hbc, hm0, hlo, hR⟩ := J9
  have hR9 := hR
  obtain ⟨⟨hI, hVG, hTO, hrr⟩, ⟨ha, hz, hw5, hKs⟩, ⟨hX4, hs4, hQ⟩, ⟨hX12, hX8, hX9, h8⟩, ⟨h11, hA4⟩, hw6, hln, h14⟩ := hR9
  obtain ⟨F73, f74, o73, o74⟩ := hlo
  have hN : 75 ≤ 75 + g := by omega
  have hx := hw.1
  have hV := hw.2.2.2.2.2.1
  have hg := hw.2.1
  have hG := hI.1
  have hVD := hVG.1
  have hVO := hVG.1.1
  have hS := lSame_F hw
  have kk' : ∀ N1 k1 z1 h1, lFI c N1 k1 z1 h1 → eWp ox (eEv (d + 50)) eM_L_law (1930, [(0, .retAddr 0), (1, .ref 0), (2, .ref 63), (3, .ref 73), (4, .ref 74), (5, vI i)], [], N1, h1, k + k1, z + z1) P := by
    rintro N1 k1 z1 h1 ⟨g', rfl, hI9, hk9, hz9⟩
    exact kk g' k1 z1 h1 hI9 hk9 hz9
  exact lc_28 (d := d + 49) hox hxs hi hn hN hx (lB_cA (Rel := lSame X G Q ya yz Ks V T) (fun h9 f9 => by obtain ⟨O9, S9, w9⟩ := f9; exact lSame_F w9) (x_well (d := d + 10) hw hN hI hVG ha hz hTO (by omega))) (lGenB J (fun h1 hm1 => mAs_0 hR rfl (m_isWell (d := d + 47) hm1 hN hrr hI (by omega)))) kk'
