/-! the law's other cases, closed -/
theorem ls_29 {ox : Nat → Option (Nat × Nat × (Nat → Int32))} {d n k z g : Nat} {h : eHp} {xs : Nat → Int} {i : Int} {P : eR → Prop} (hox : ox 0 = some (0, n, eIA xs)) (hxs : ∀ j, i32 (xs j)) (hi : 0 ≤ i ∧ i + 4 ≤ n) (hn : n ≤ 2048) {c : Int} {X : eXs} {G O Q : eGd} {ya yz : Int} {Ks : Nat → eGd} {V : eVs} {S : Int × Int × Int} {T : eTx} {L : List Int} {s : Nat → Int} {A : Nat → Nat → Int} (J : lJ c g h X G O Q ya yz Ks V S T L s A) (hc : 0 ≤ c ∧ c ≤ 15900) (kk : ∀ g' k1 z1 h1, lI (c + 30) g' h1 → k1 ≤ 10 → z1 ≤ 2000 → eWp ox (eEv (d + 50)) eM_L_law (1930, [(0, .retAddr 0), (1, .ref 0), (2, .ref 63), (3, .ref 73), (4, .ref 74), (5, vI i)], [], 75 + g', h1, k + k1, z + z1) P) : eWp ox (eEv (d + 50)) eM_L_law (1686, [(0, .retAddr 0), (1, .ref 0), (2, .ref 63), (3, .ref 73), (4, .ref 74), (5, vI i)], [], 75 + g, h, k, z) P := by
  have J9 := J
  obtain ⟨hw, hb, hbc, hm0, hlo, hR⟩ := J9
  have hR9 := hR
  obtain ⟨⟨hI, hVG, hTO, hrr⟩, ⟨ha, hz, hw5, hKs⟩, ⟨hX4, hs4, hQ⟩, ⟨hX12, hX8, hX9, h8⟩, ⟨h11, hA4⟩, hw6, hln, h14⟩ := hR9
  obtain ⟨F73, f74, o73, o74⟩ := hlo
  have hN : 75 ≤ 75 + g := by omega
  have hx := hw.1
  have hV := hw.2.2.2.2.2.1
  have hg := hw.2.1
  have hG := hI.1
  have hVD := hVG.1
  have hVO := hVG.1.1
  have hS := lSame_F hw
  have kk' : ∀ N1 k1 z1 h1, lFI c N1 k1 z1 h1 → eWp ox (eEv (d + 50)) eM_L_law (1930, [(0, .retAddr 0), (1, .ref 0), (2, .ref 63), (3, .ref 73), (4, .ref 74), (5, vI i)], [], N1, h1, k + k1, z + z1) P := by
    rintro N1 k1 z1 h1 ⟨g', rfl, hI9, hk9, hz9⟩
    exact kk g' k1 z1 h1 hI9 hk9 hz9
  have hs40 := hI.2.2.2.1
  have hsp := gI_pits hI
  have hb9 : ∀ a, (if G.2.2.2.1 = 0 then .inr nAE else .inl (gMean (gSum G.1 G.2.2.2.1.toNat) G.2.2.2.1) : UInt64 ⊕ String) = .inl a → a.toNat % 9223372036854775808 ≤ 9218868437227405312 := by
    intro a h9
    by_cases e0 : G.2.2.2.1 = 0
    · rw [if_pos e0] at h9; cases h9
    · rw [if_neg e0] at h9; cases h9; exact gMean_ok (by omega) (by omega)
  have hE9 : ∀ E, (if G.2.2.2.1 = 0 then .inr nAE else .inl (gMean (gSum G.1 G.2.2.2.1.toNat) G.2.2.2.1) : UInt64 ⊕ String) = .inr E → E = nAE := fun E h9 => ite_EU h9
  have hr9 : ∀ E, (if G.2.2.2.1 = 0 then .inr nAE else .inl (gMean (gSum G.1 G.2.2.2.1.toNat) G.2.2.2.1) : UInt64 ⊕ String) = .inr E → 1 ≤ lCd [nAE] E ∧ lCd [nAE] E ≤ 3 := fun E h9 => by rcases hE9 E h9 with rfl <;> decide +kernel
  exact lc_29 (d := d + 49) hox hxs hi hn hN hr9 hb9 (l_meanMarbles (d := d + 49) hN hx ⟨f74, o74⟩ hE9 (lX_eAnD hS (x_mean (d := d + 45) hw hN hI hVG ha hz hTO))) (lGenD J (fun h1 hm1 => mAsD_1 hR (by decide +kernel) (m_mean (d := d + 47) hm1 hN hrr hI))) kk'
theorem ls_30 {ox : Nat → Option (Nat × Nat × (Nat → Int32))} {d n k z g : Nat} {h : eHp} {xs : Nat → Int} {i : Int} {P : eR → Prop} (hox : ox 0 = some (0, n, eIA xs)) (hxs : ∀ j, i32 (xs j)) (hi : 0 ≤ i ∧ i + 4 ≤ n) (hn : n ≤ 2048) {c : Int} {X : eXs} {G O Q : eGd} {ya yz : Int} {Ks : Nat → eGd} {V : eVs} {S : Int × Int × Int} {T : eTx} {L : List Int} {s : Nat → Int} {A : Nat → Nat → Int} (J : lJ c g h X G O Q ya yz Ks V S T L s A) (hc : 0 ≤ c ∧ c ≤ 15900) (kk : ∀ g' k1 z1 h1, lI (c + 30) g' h1 → k1 ≤ 10 → z1 ≤ 2000 → eWp ox (eEv (d + 50)) eM_L_law (1930, [(0, .retAddr 0), (1, .ref 0), (2, .ref 63), (3, .ref 73), (4, .ref 74), (5, vI i)], [], 75 + g', h1, k + k1, z + z1) P) : eWp ox (eEv (d + 50)) eM_L_law (1751, [(0, .retAddr 0), (1, .ref 0), (2, .ref 63), (3, .ref 73), (4, .ref 74), (5, vI i)], [], 75 + g, h, k, z) P := by
  have J9 := J
  obtain ⟨hw, hb, hbc, hm0, hlo, hR⟩ := J9
  have hR9 := hR
  obtain ⟨⟨hI, hVG, hTO, hrr⟩, ⟨ha, hz, hw5, hKs⟩, ⟨hX4, hs4, hQ⟩, ⟨hX12, hX8, hX9, h8⟩, ⟨h11, hA4⟩, hw6, hln, h14⟩ := hR9
  obtain ⟨F73, f74, o73, o74⟩ := hlo
  have hN : 75 ≤ 75 + g := by omega
  have hx := hw.1
  have hV := hw.2.2.2.2.2.1
  have hg := hw.2.1
  have hG := hI.1
  have hVD := hVG.1
  have hVO := hVG.1.1
  have hS := lSame_F hw
  have kk' : ∀ N1 k1 z1 h1, lFI c N1 k1 z1 h1 → eWp ox (eEv (d + 50)) eM_L_law (1930, [(0, .retAddr 0), (1, .ref 0), (2, .ref 63), (3, .ref 73), (4, .ref 74), (5, vI i)], [], N1, h1, k + k1, z + z1) P := by
    rintro N1 k1 z1 h1 ⟨g', rfl, hI9, hk9, hz9⟩
    exact kk g' k1 z1 h1 hI9 hk9 hz9
  have hb9 : ∀ a, (if gMonk (xs (i + 1).toNat) = false then .inr nIOB else if G.2.2.1 0 + G.2.2.1 4 = 0 then .inr nAE else .inl (gShr (gTal G (xs (i + 1).toNat) 0) (G.2.2.1 0 + G.2.2.1 4)) : UInt32 ⊕ String) = .inl a → a.toNat % 2147483648 ≤ 2139095040 := by
    intro a h9
    by_cases e0 : gMonk (xs (i + 1).toNat) = false
    · rw [if_pos e0] at h9; cases h9
    · rw [if_neg e0] at h9
      by_cases e1 : G.2.2.1 0 + G.2.2.1 4 = 0
      · rw [if_pos e1] at h9; cases h9
      · rw [if_neg e1] at h9; cases h9; exact gShr_ok2 hI (by omega) (of_decide_eq_true (by unfold gMonk at e0; simpa using e0)) e1
  have hE9 : ∀ E, (if gMonk (xs (i + 1).toNat) = false then .inr nIOB else if G.2.2.1 0 + G.2.2.1 4 = 0 then .inr nAE else .inl (gShr (gTal G (xs (i + 1).toNat) 0) (G.2.2.1 0 + G.2.2.1 4)) : UInt32 ⊕ String) = .inr E → E = nIOB ∨ E = nAE := fun E h9 => ite_EU2 h9
  have hr9 : ∀ E, (if gMonk (xs (i + 1).toNat) = false then .inr nIOB else if G.2.2.1 0 + G.2.2.1 4 = 0 then .inr nAE else .inl (gShr (gTal G (xs (i + 1).toNat) 0) (G.2.2.1 0 + G.2.2.1 4)) : UInt32 ⊕ String) = .inr E → 1 ≤ lCd [nIOB, nAE] E ∧ lCd [nIOB, nAE] E ≤ 3 := fun E h9 => by rcases hE9 E h9 with rfl | rfl <;> decide +kernel
  exact lc_30 (d := d + 49) hox hxs hi hn hN hr9 hb9 (l_share (d := d + 49) hN hx ⟨f74, o74⟩ hE9 hb9 (lX_eAnF hS (x_share (d := d + 45) hw hN hI hVG ha hz hTO (by omega) (hxs _)))) (lGenF J (fun h1 hm1 => mAsF_2 hR (by decide +kernel) (by decide +kernel) (m_share (d := d + 47) hm1 hN hrr hI (by omega) (hxs _)))) kk'
theorem ls_23 {ox : Nat → Option (Nat × Nat × (Nat → Int32))} {d n k z g : Nat} {h : eHp} {xs : Nat → Int} {i : Int} {P : eR → Prop} (hox : ox 0 = some (0, n, eIA xs)) (hxs : ∀ j, i32 (xs j)) (hi : 0 ≤ i ∧ i + 4 ≤ n) (hn : n ≤ 2048) {c : Int} {X : eXs} {G O Q : eGd} {ya yz : Int} {Ks : Nat → eGd} {V : eVs} {S : Int × Int × Int} {T : eTx} {L : List Int} {s : Nat → Int} {A : Nat → Nat → Int} (J : lJ c g h X G O Q ya yz Ks V S T L s A) (hc : 0 ≤ c ∧ c ≤ 15900) (kk : ∀ g' k1 z1 h1, lI (c + 30) g' h1 → k1 ≤ 10 → z1 ≤ 2000 → eWp ox (eEv (d + 50)) eM_L_law (1930, [(0, .retAddr 0), (1, .ref 0), (2, .ref 63), (3, .ref 73), (4, .ref 74), (5, vI i)], [], 75 + g', h1, k + k1, z + z1) P) : eWp ox (eEv (d + 50)) eM_L_law (1430, [(0, .retAddr 0), (1, .ref 0), (2, .ref 63), (3, .ref 73), (4, .ref 74), (5, vI i)], [], 75 + g, h, k, z) P := by
  have J9 := J
  obtain ⟨hw, hb, hbc, hm0, hlo, hR⟩ := J9
  have hR9 := hR
  obtain ⟨⟨hI, hVG, hTO, hrr⟩, ⟨ha, hz, hw5, hKs⟩, ⟨hX4, hs4, hQ⟩, ⟨hX12, hX8, hX9, h8⟩, ⟨h11, hA4⟩, hw6, hln, h14⟩ := hR9
  obtain ⟨F73, f74, o73, o74⟩ := hlo
  have hN : 75 ≤ 75 + g := by omega
  have hx := hw.1
  have hV := hw.2.2.2.2.2.1
  have hg := hw.2.1
  have hG := hI.1
  have hVD := hVG.1
  have hVO := hVG.1.1
  have hS := lSame_F hw
  have kk' : ∀ N1 k1 z1 h1, lFI c N1 k1 z1 h1 → eWp ox (eEv (d + 50)) eM_L_law (1930, [(0, .retAddr 0), (1, .ref 0), (2, .ref 63), (3, .ref 73), (4, .ref 74), (5, vI i)], [], N1, h1, k + k1, z + z1) P := by
    rintro N1 k1 z1 h1 ⟨g', rfl, hI9, hk9, hz9⟩
    exact kk g' k1 z1 h1 hI9 hk9 hz9
  obtain ⟨ch, hch0, hch⟩ := ch_16 (xs (i + 1).toNat)
  have hE9 : ∀ E, (if T.2.2.2.1 = 60 then .inr nISE else .inl (T.2.2.2.1 + 1) : Int ⊕ String) = .inr E → E = nISE := fun E h9 => ite_EU h9
  have hr9 : ∀ E, (if T.2.2.2.1 = 60 then .inr nISE else .inl (T.2.2.2.1 + 1) : Int ⊕ String) = .inr E → 1 ≤ lCd [nISE] E ∧ lCd [nISE] E ≤ 3 := fun E h9 => by rcases hE9 E h9 with rfl <;> decide +kernel
  exact lc_23 (d := d + 49) hox hxs hi hn hN hr9 hch (l_append (d := d + 49) hN hx ⟨F73, o73⟩ hE9 (lX_cA (Rel := lApp X G Q ya yz Ks V (if T.2.2.2.1 = 60 then T else (eUp T.1 T.2.2.2.1.toNat ch, T.2.1, T.2.2.1, T.2.2.2.1 + 1, T.2.2.2.2))) (fun h9 f9 => lSame_F f9) (x_append (d := d + 47) hw hN hI hVG ha hz hTO hch0))) (lGen J (fun h1 hm1 => mAs_app (d := d + 48) hR hch0 hm1 hN)) kk'
theorem ls_31 {ox : Nat → Option (Nat × Nat × (Nat → Int32))} {d n k z g : Nat} {h : eHp} {xs : Nat → Int} {i : Int} {P : eR → Prop} (hox : ox 0 = some (0, n, eIA xs)) (hxs : ∀ j, i32 (xs j)) (hi : 0 ≤ i ∧ i + 4 ≤ n) (hn : n ≤ 2048) {c : Int} {X : eXs} {G O Q : eGd} {ya yz : Int} {Ks : Nat → eGd} {V : eVs} {S : Int × Int × Int} {T : eTx} {L : List Int} {s : Nat → Int} {A : Nat → Nat → Int} (J : lJ c g h X G O Q ya yz Ks V S T L s A) (hc : 0 ≤ c ∧ c ≤ 15900) (kk : ∀ g' k1 z1 h1, lI (c + 30) g' h1 → k1 ≤ 10 → z1 ≤ 2000 → eWp ox (eEv (d + 50)) eM_L_law (1930, [(0, .retAddr 0), (1, .ref 0), (2, .ref 63), (3, .ref 73), (4, .ref 74), (5, vI i)], [], 75 + g', h1, k + k1, z + z1) P) : eWp ox (eEv (d + 50)) eM_L_law (1829, [(0, .retAddr 0), (1, .ref 0), (2, .ref 63), (3, .ref 73), (4, .ref 74), (5, vI i)], [], 75 + g, h, k, z) P := by
  have J9 := J
  obtain ⟨hw, hb, hbc, hm0, hlo, hR⟩ := J9
  have hR9 := hR
  obtain ⟨⟨hI, hVG, hTO, hrr⟩, ⟨ha, hz, hw5, hKs⟩, ⟨hX4, hs4, hQ⟩, ⟨hX12, hX8, hX9, h8⟩, ⟨h11, hA4⟩, hw6, hln, h14⟩ := hR9
  obtain ⟨F73, f74, o73, o74⟩ := hlo
  have hN : 75 ≤ 75 + g := by omega
  have hx := hw.1
  have hV := hw.2.2.2.2.2.1
  have hg := hw.2.1
  have hG := hI.1
  have hVD := hVG.1
  have hVO := hVG.1.1
  have hS := lSame_F hw
  have kk' : ∀ N1 k1 z1 h1, lFI c N1 k1 z1 h1 → eWp ox (eEv (d + 50)) eM_L_law (1930, [(0, .retAddr 0), (1, .ref 0), (2, .ref 63), (3, .ref 73), (4, .ref 74), (5, vI i)], [], N1, h1, k + k1, z + z1) P := by
    rintro N1 k1 z1 h1 ⟨g', rfl, hI9, hk9, hz9⟩
    exact kk g' k1 z1 h1 hI9 hk9 hz9
  have hE9 : ∀ E, (if yz = 0 then .inr nISE else .inl (yz - 1) : Int ⊕ String) = .inr E → E = nISE := fun E h9 => ite_EU h9
  have hr9 : ∀ E, (if yz = 0 then .inr nISE else .inl (yz - 1) : Int ⊕ String) = .inr E → 1 ≤ lCd [nISE] E ∧ lCd [nISE] E ≤ 3 := fun E h9 => by rcases hE9 E h9 with rfl <;> decide +kernel
  exact lc_31 (d := d + 49) hox hxs hi hn hN hr9 (l_undo (d := d + 49) hN hx ⟨F73, o73⟩ hE9 (lX_cA (Rel := lUnd X G Q ya yz Ks V T) (fun h9 f9 => by
    by_cases e0 : yz = 0
    · exact ⟨_, _, _, _, _, _, _, _, _, _, (f9.1 e0).1, fun _ => ⟨rfl, rfl, rfl, rfl, rfl, rfl, rfl, rfl⟩, fun h => absurd e0 h⟩
    · obtain ⟨V9, w9, v9⟩ := f9.2 e0
      exact ⟨_, _, _, _, _, _, _, _, _, _, w9, fun h => absurd h e0, fun _ => ⟨rfl, rfl, rfl, rfl, rfl, rfl, rfl, v9⟩⟩) (x_undo (d := d + 42) hw hN hI hVG ha hz hTO (fun i h0 h1 => (hKs i h0 h1).1)))) (lGen J (fun h1 hm1 => mAs_und (d := d + 48) hR hm1 hN)) kk'
theorem ls_32 {ox : Nat → Option (Nat × Nat × (Nat → Int32))} {d n k z g : Nat} {h : eHp} {xs : Nat → Int} {i : Int} {P : eR → Prop} (hox : ox 0 = some (0, n, eIA xs)) (hxs : ∀ j, i32 (xs j)) (hi : 0 ≤ i ∧ i + 4 ≤ n) (hn : n ≤ 2048) {c : Int} {X : eXs} {G O Q : eGd} {ya yz : Int} {Ks : Nat → eGd} {V : eVs} {S : Int × Int × Int} {T : eTx} {L : List Int} {s : Nat → Int} {A : Nat → Nat → Int} (J : lJ c g h X G O Q ya yz Ks V S T L s A) (hc : 0 ≤ c ∧ c ≤ 15900) (kk : ∀ g' k1 z1 h1, lI (c + 30) g' h1 → k1 ≤ 10 → z1 ≤ 2000 → eWp ox (eEv (d + 50)) eM_L_law (1930, [(0, .retAddr 0), (1, .ref 0), (2, .ref 63), (3, .ref 73), (4, .ref 74), (5, vI i)], [], 75 + g', h1, k + k1, z + z1) P) : eWp ox (eEv (d + 50)) eM_L_law (1873, [(0, .retAddr 0), (1, .ref 0), (2, .ref 63), (3, .ref 73), (4, .ref 74), (5, vI i)], [], 75 + g, h, k, z) P := by
  have J9 := J
  obtain ⟨hw, hb, hbc, hm0, hlo, hR⟩ := J9
  have hR9 := hR
  obtain ⟨⟨hI, hVG, hTO, hrr⟩, ⟨ha, hz, hw5, hKs⟩, ⟨hX4, hs4, hQ⟩, ⟨hX12, hX8, hX9, h8⟩, ⟨h11, hA4⟩, hw6, hln, h14⟩ := hR9
  obtain ⟨F73, f74, o73, o74⟩ := hlo
  have hN : 75 ≤ 75 + g := by omega
  have hx := hw.1
  have hV := hw.2.2.2.2.2.1
  have hg := hw.2.1
  have hG := hI.1
  have hVD := hVG.1
  have hVO := hVG.1.1
  have hS := lSame_F hw
  have kk' : ∀ N1 k1 z1 h1, lFI c N1 k1 z1 h1 → eWp ox (eEv (d + 50)) eM_L_law (1930, [(0, .retAddr 0), (1, .ref 0), (2, .ref 63), (3, .ref 73), (4, .ref 74), (5, vI i)], [], N1, h1, k + k1, z + z1) P := by
    rintro N1 k1 z1 h1 ⟨g', rfl, hI9, hk9, hz9⟩
    exact kk g' k1 z1 h1 hI9 hk9 hz9
  exact lc_32 (d := d + 49) hox hxs hi hn hN hx (lB_cA (Rel := lSav X G Q ya yz Ks V T) (fun h9 f9 => lSame_F f9) (x_save (d := d + 48) hw hN hI hVG ha hz hTO)) (lGenB J (fun h1 hm1 => mAs_sav (d := d + 48) hR hm1 hN)) kk'
theorem ls_33 {ox : Nat → Option (Nat × Nat × (Nat → Int32))} {d n k z g : Nat} {h : eHp} {xs : Nat → Int} {i : Int} {P : eR → Prop} (hox : ox 0 = some (0, n, eIA xs)) (hxs : ∀ j, i32 (xs j)) (hi : 0 ≤ i ∧ i + 4 ≤ n) (hn : n ≤ 2048) {c : Int} {X : eXs} {G O Q : eGd} {ya yz : Int} {Ks : Nat → eGd} {V : eVs} {S : Int × Int × Int} {T : eTx} {L : List Int} {s : Nat → Int} {A : Nat → Nat → Int} (J : lJ c g h X G O Q ya yz Ks V S T L s A) (hc : 0 ≤ c ∧ c ≤ 15900) (kk : ∀ g' k1 z1 h1, lI (c + 30) g' h1 → k1 ≤ 10 → z1 ≤ 2000 → eWp ox (eEv (d + 50)) eM_L_law (1930, [(0, .retAddr 0), (1, .ref 0), (2, .ref 63), (3, .ref 73), (4, .ref 74), (5, vI i)], [], 75 + g', h1, k + k1, z + z1) P) : eWp ox (eEv (d + 50)) eM_L_law (1886, [(0, .retAddr 0), (1, .ref 0), (2, .ref 63), (3, .ref 73), (4, .ref 74), (5, vI i)], [], 75 + g, h, k, z) P := by
  have J9 := J
  obtain ⟨hw, hb, hbc, hm0, hlo, hR⟩ := J9
  have hR9 := hR
  obtain ⟨⟨hI, hVG, hTO, hrr⟩, ⟨ha, hz, hw5, hKs⟩, ⟨hX4, hs4, hQ⟩, ⟨hX12, hX8, hX9, h8⟩, ⟨h11, hA4⟩, hw6, hln, h14⟩ := hR9
  obtain ⟨F73, f74, o73, o74⟩ := hlo
  have hN : 75 ≤ 75 + g := by omega
  have hx := hw.1
  have hV := hw.2.2.2.2.2.1
  have hg := hw.2.1
  have hG := hI.1
  have hVD := hVG.1
  have hVO := hVG.1.1
  have hS := lSame_F hw
  have kk' : ∀ N1 k1 z1 h1, lFI c N1 k1 z1 h1 → eWp ox (eEv (d + 50)) eM_L_law (1930, [(0, .retAddr 0), (1, .ref 0), (2, .ref 63), (3, .ref 73), (4, .ref 74), (5, vI i)], [], N1, h1, k + k1, z + z1) P := by
    rintro N1 k1 z1 h1 ⟨g', rfl, hI9, hk9, hz9⟩
    exact kk g' k1 z1 h1 hI9 hk9 hz9
  have hE9 : ∀ E, (if X.1 = 0 then .inr nISE else .inl Q.2.2.2.1 : Int ⊕ String) = .inr E → E = nISE := fun E h9 => ite_EU h9
  have hr9 : ∀ E, (if X.1 = 0 then .inr nISE else .inl Q.2.2.2.1 : Int ⊕ String) = .inr E → 1 ≤ lCd [nISE] E ∧ lCd [nISE] E ≤ 3 := fun E h9 => by rcases hE9 E h9 with rfl <;> decide +kernel
  exact lc_33 (d := d + 49) hox hxs hi hn hN hr9 (l_restore (d := d + 49) hN hx ⟨F73, o73⟩ hE9 (lX_cA (Rel := lRes X G Q ya yz Ks V T) (fun h9 f9 => by
    by_cases e0 : X.1 = 0
    · exact ⟨_, _, _, _, _, _, _, _, _, _, (f9.1 e0).1, fun _ => ⟨rfl, rfl, rfl, rfl, rfl, rfl, rfl, rfl⟩, fun h => absurd e0 h⟩
    · obtain ⟨V9, w9, v9⟩ := f9.2 e0
      exact ⟨_, _, _, _, _, _, _, _, _, _, w9, fun h => absurd h e0, fun _ => ⟨rfl, rfl, rfl, rfl, rfl, rfl, rfl, v9⟩⟩) (x_restore (d := d + 42) hw hN hI hVG ha hz hTO (by rw [hX4]; exact hs4) (fun e9 => (hQ (by omega)).1)))) (lGen J (fun h1 hm1 => mAs_res (d := d + 48) hR hm1 hN)) kk'
theorem ls_24 {ox : Nat → Option (Nat × Nat × (Nat → Int32))} {d n k z g : Nat} {h : eHp} {xs : Nat → Int} {i : Int} {P : eR → Prop} (hox : ox 0 = some (0, n, eIA xs)) (hxs : ∀ j, i32 (xs j)) (hi : 0 ≤ i ∧ i + 4 ≤ n) (hn : n ≤ 2048) {c : Int} {X : eXs} {G O Q : eGd} {ya yz : Int} {Ks : Nat → eGd} {V : eVs} {S : Int × Int × Int} {T : eTx} {L : List Int} {s : Nat → Int} {A : Nat → Nat → Int} (J : lJ c g h X G O Q ya yz Ks V S T L s A) (hc : 0 ≤ c ∧ c ≤ 15900) (kk : ∀ g' k1 z1 h1, lI (c + 30) g' h1 → k1 ≤ 10 → z1 ≤ 2000 → eWp ox (eEv (d + 50)) eM_L_law (1930, [(0, .retAddr 0), (1, .ref 0), (2, .ref 63), (3, .ref 73), (4, .ref 74), (5, vI i)], [], 75 + g', h1, k + k1, z + z1) P) : eWp ox (eEv (d + 50)) eM_L_law (1488, [(0, .retAddr 0), (1, .ref 0), (2, .ref 63), (3, .ref 73), (4, .ref 74), (5, vI i)], [], 75 + g, h, k, z) P := by
  have J9 := J
  obtain ⟨hw, hb, hbc, hm0, hlo, hR⟩ := J9
  have hR9 := hR
  obtain ⟨⟨hI, hVG, hTO, hrr⟩, ⟨ha, hz, hw5, hKs⟩, ⟨hX4, hs4, hQ⟩, ⟨hX12, hX8, hX9, h8⟩, ⟨h11, hA4⟩, hw6, hln, h14⟩ := hR9
  obtain ⟨F73, f74, o73, o74⟩ := hlo
  have hN : 75 ≤ 75 + g := by omega
  have hx := hw.1
  have hV := hw.2.2.2.2.2.1
  have hg := hw.2.1
  have hG := hI.1
  have hVD := hVG.1
  have hVO := hVG.1.1
  have hS := lSame_F hw
  have kk' : ∀ N1 k1 z1 h1, lFI c N1 k1 z1 h1 → eWp ox (eEv (d + 50)) eM_L_law (1930, [(0, .retAddr 0), (1, .ref 0), (2, .ref 63), (3, .ref 73), (4, .ref 74), (5, vI i)], [], N1, h1, k + k1, z + z1) P := by
    rintro N1 k1 z1 h1 ⟨g', rfl, hI9, hk9, hz9⟩
    exact kk g' k1 z1 h1 hI9 hk9 hz9
  have hRO : gTO (tRead T).2 := by
    obtain ⟨q9, -, h9, -, f9⟩ := t_read (d := 0) hw.2.2.2.2.2.2.2.1 hTO (N := 75 + g) (by omega)
    exact f9.2.1
  have hE9 : ∀ E, (aRn (oRun G T).1 (tRead T).2.2.2.2.2.2) = .inr E → E = nIAE ∨ E = nUOE := fun E h9 => aRn_E h9
  have hr9 : ∀ E, (aRn (oRun G T).1 (tRead T).2.2.2.2.2.2) = .inr E → 1 ≤ lCd [nIAE, nUOE] E ∧ lCd [nIAE, nUOE] E ≤ 3 := fun E h9 => by rcases hE9 E h9 with rfl | rfl <;> decide +kernel
  exact lc_24 (d := d + 49) hox hxs hi hn hN hr9 (l_run (d := d + 49) hN hx ⟨F73, o73⟩ hE9 (lX_cA (Rel := lRun X G O Q ya yz Ks T) (fun h9 f9 => by
    obtain ⟨G9, O9, S9, V9, w9, v9, t9, e8, e9⟩ := f9
    exact ⟨_, _, _, _, _, _, _, _, _, _, w9, rfl, rfl, rfl, rfl, rfl, rfl, v9, t9, e8, e9⟩) (x_run (d := d + 40) hw hN hI hVG ha hz hTO (by omega)))) (lGen J (fun h1 hm1 => mAs_run (d := d + 44) O hR hRO hm1 hN)) kk'
theorem ls_20 {ox : Nat → Option (Nat × Nat × (Nat → Int32))} {d n k z g : Nat} {h : eHp} {xs : Nat → Int} {i : Int} {P : eR → Prop} (hox : ox 0 = some (0, n, eIA xs)) (hxs : ∀ j, i32 (xs j)) (hi : 0 ≤ i ∧ i + 4 ≤ n) (hn : n ≤ 2048) {c : Int} {X : eXs} {G O Q : eGd} {ya yz : Int} {Ks : Nat → eGd} {V : eVs} {S : Int × Int × Int} {T : eTx} {L : List Int} {s : Nat → Int} {A : Nat → Nat → Int} (J : lJ c g h X G O Q ya yz Ks V S T L s A) (hc : 0 ≤ c ∧ c ≤ 15900) (kk : ∀ g' k1 z1 h1, lI (c + 30) g' h1 → k1 ≤ 10 → z1 ≤ 2000 → eWp ox (eEv (d + 50)) eM_L_law (1930, [(0, .retAddr 0), (1, .ref 0), (2, .ref 63), (3, .ref 73), (4, .ref 74), (5, vI i)], [], 75 + g', h1, k + k1, z + z1) P) : eWp ox (eEv (d + 50)) eM_L_law (1305, [(0, .retAddr 0), (1, .ref 0), (2, .ref 63), (3, .ref 73), (4, .ref 74), (5, vI i)], [], 75 + g, h, k, z) P := by
  have J9 := J
  obtain ⟨hw, hb, hbc, hm0, hlo, hR⟩ := J9
  have hR9 := hR
  obtain ⟨⟨hI, hVG, hTO, hrr⟩, ⟨ha, hz, hw5, hKs⟩, ⟨hX4, hs4, hQ⟩, ⟨hX12, hX8, hX9, h8⟩, ⟨h11, hA4⟩, hw6, hln, h14⟩ := hR9
  obtain ⟨F73, f74, o73, o74⟩ := hlo
  have hN : 75 ≤ 75 + g := by omega
  have hx := hw.1
  have hV := hw.2.2.2.2.2.1
  have hg := hw.2.1
  have hG := hI.1
  have hVD := hVG.1
  have hVO := hVG.1.1
  have hS := lSame_F hw
  have kk' : ∀ N1 k1 z1 h1, lFI c N1 k1 z1 h1 → eWp ox (eEv (d + 50)) eM_L_law (1930, [(0, .retAddr 0), (1, .ref 0), (2, .ref 63), (3, .ref 73), (4, .ref 74), (5, vI i)], [], N1, h1, k + k1, z + z1) P := by
    rintro N1 k1 z1 h1 ⟨g', rfl, hI9, hk9, hz9⟩
    exact kk g' k1 z1 h1 hI9 hk9 hz9
  have hlO : lO h := ⟨F73, f74, o73, o74⟩
  have hcl := clos hw hm0 hlO hbc
  have hlen := gLine_len hG.2.1
  refine lc_20 (d := d + 49) hox hxs hi hn hN hx (v := ((gLine G).length : Int)) (FF := fun N1 h1 k1 z1 => ∃ g1, N1 = 75 + g1 ∧ k1 ≤ 10 ∧ z1 ≤ 2000 ∧ bFr h h1 ∧ bC g1 h1 ∧ bW h1 g1 (gLine G) ∧ cW h1 X G O Q ya yz Ks V S T) ((x_line (d := d + 43) hw hI hVG hTO hb hcl).imp (fun q hq => ?_)) (FI := lFI c) ?_ kk'
  · obtain ⟨g', h', e, hg1, hf, hc1, hb1, hw1⟩ := hq
    have hg5 := bW_g hb1
    exact ⟨75 + g', h', g' - g, bSum g' - bSum g, e, by omega, g', rfl, by omega, bSum_z hg5, hf, bC_of hc1, hb1, hw1⟩
  · rintro N1 h1 k1 z1 ⟨g1, rfl, hk1, hz1, hf, hbc1, hb1, hw1⟩
    have hm1 : mM h1 s A := mM_k hm0 (fun i h1 h2 => hf i (by omega) (by omega) (by omega))
    refine ⟨by omega, ⟨_, hm1.1⟩, (m_line (d := d + 46) hm1 (by omega) hrr hI).imp (fun q hq => ?_)⟩
    obtain ⟨h2, s', A', x, e, hm2, hf2, s7, ex, hl2, hsl⟩ := hq
    subst ex
    exact ⟨h2, e, g1, rfl, lI_fin hw1 ⟨hb1, hbc1, hm1, lO_k hlO (hf 73 (by omega) (by omega) (by omega)) (hf 74 (by omega) (by omega) (by omega))⟩ hf2 hm2 (lRel_sl hR hsl hl2 hlen), hk1, hz1⟩
theorem ls_21 {ox : Nat → Option (Nat × Nat × (Nat → Int32))} {d n k z g : Nat} {h : eHp} {xs : Nat → Int} {i : Int} {P : eR → Prop} (hox : ox 0 = some (0, n, eIA xs)) (hxs : ∀ j, i32 (xs j)) (hi : 0 ≤ i ∧ i + 4 ≤ n) (hn : n ≤ 2048) {c : Int} {X : eXs} {G O Q : eGd} {ya yz : Int} {Ks : Nat → eGd} {V : eVs} {S : Int × Int × Int} {T : eTx} {L : List Int} {s : Nat → Int} {A : Nat → Nat → Int} (J : lJ c g h X G O Q ya yz Ks V S T L s A) (hc : 0 ≤ c ∧ c ≤ 15900) (kk : ∀ g' k1 z1 h1, lI (c + 30) g' h1 → k1 ≤ 10 → z1 ≤ 2000 → eWp ox (eEv (d + 50)) eM_L_law (1930, [(0, .retAddr 0), (1, .ref 0), (2, .ref 63), (3, .ref 73), (4, .ref 74), (5, vI i)], [], 75 + g', h1, k + k1, z + z1) P) : eWp ox (eEv (d + 50)) eM_L_law (1318, [(0, .retAddr 0), (1, .ref 0), (2, .ref 63), (3, .ref 73), (4, .ref 74), (5, vI i)], [], 75 + g, h, k, z) P := by
  have J9 := J
  obtain ⟨hw, hb, hbc, hm0, hlo, hR⟩ := J9
  have hR9 := hR
  obtain ⟨⟨hI, hVG, hTO, hrr⟩, ⟨ha, hz, hw5, hKs⟩, ⟨hX4, hs4, hQ⟩, ⟨hX12, hX8, hX9, h8⟩, ⟨h11, hA4⟩, hw6, hln, h14⟩ := hR9
  obtain ⟨F73, f74, o73, o74⟩ := hlo
  have hN : 75 ≤ 75 + g := by omega
  have hx := hw.1
  have hV := hw.2.2.2.2.2.1
  have hg := hw.2.1
  have hG := hI.1
  have hVD := hVG.1
  have hVO := hVG.1.1
  have hS := lSame_F hw
  have kk' : ∀ N1 k1 z1 h1, lFI c N1 k1 z1 h1 → eWp ox (eEv (d + 50)) eM_L_law (1930, [(0, .retAddr 0), (1, .ref 0), (2, .ref 63), (3, .ref 73), (4, .ref 74), (5, vI i)], [], N1, h1, k + k1, z + z1) P := by
    rintro N1 k1 z1 h1 ⟨g', rfl, hI9, hk9, hz9⟩
    exact kk g' k1 z1 h1 hI9 hk9 hz9
  have hlO : lO h := ⟨F73, f74, o73, o74⟩
  have hcl := clos hw hm0 hlO hbc
  have hxv := x_vline (d := d + 42) hw hI hVG hTO hb hcl (hxs (i + 1).toNat)
  have hmv : ∀ {N1 : Nat} {h1 : eHp}, 75 ≤ N1 → mM h1 s A → _ := fun {N1 h1} hN1 hm1 => m_valuesLine (d := d + 46) (N := N1) (h := h1) hm1 hN1 hrr hI (hxs (i + 1).toNat)
  cases e9 : gNum (xs (i + 1).toNat) with
  | true =>
    rw [e9] at hxv hmv
    have hm30 : 0 ≤ xs (i + 1).toNat ∧ xs (i + 1).toNat ≤ 30 := by unfold gNum at e9; simpa using e9
    have hlen : (gVln (gDig G) (xs (i + 1).toNat + 1).toNat).length ≤ 330 := by have := gVln_len (D := gDig G) (xs (i + 1).toNat + 1).toNat; omega
    refine lc_21 (d := d + 49) hox hxs hi hn hN (r := .inl ((gVln (gDig G) (xs (i + 1).toNat + 1).toNat).length : Int)) (l := [nIAE]) (fun E h9 => by cases h9) (FF := fun N1 h1 k1 z1 => ∃ g1, N1 = 75 + g1 ∧ k1 ≤ 10 ∧ z1 ≤ 2000 ∧ bFr h h1 ∧ bC g1 h1 ∧ bW h1 g1 (gVln (gDig G) (xs (i + 1).toNat + 1).toNat) ∧ cW h1 X G O Q ya yz Ks V S T) (l_valuesLine (d := d + 49) hN hx ⟨F73, o73⟩ (fun E h9 => by cases h9) (hxv.imp (fun q hq => ?_))) (FI := lFI c) ?_ kk'
    · obtain ⟨g', h', e, hg1, hf, hc1, hb1, hw1⟩ := hq
      have hg5 := bW_g hb1
      exact ⟨75 + g', h', g' - g, bSum g' - bSum g, e, by omega, hf 73 (by omega) (by omega) (by omega), g', rfl, by omega, bSum_z hg5, hf, bC_of hc1, hb1, hw1⟩
    · rintro N1 h0 h1 k1 z1 ⟨g1, rfl, hk1, hz1, hf, hbc1, hb1, hw1⟩ ho hrow
      have hf1 : ∀ i, i ≠ 61 → i ≠ 62 → i ≠ 73 → i < 75 → h1 i = h i := fun i a b c d => (ho i c).trans (hf i a b d)
      have hm1 : mM h1 s A := mM_k hm0 (fun i h1 h2 => hf1 i (by omega) (by omega) (by omega) (by omega))
      obtain ⟨F9, e73⟩ := hrow
      have hO1 : lO h1 := ⟨F9, f74, e73, (hf1 74 (by omega) (by omega) (by omega) (by omega)).trans o74⟩
      refine ⟨by omega, ⟨_, hm1.1⟩, (hmv (by omega) hm1).imp (fun q hq => ?_)⟩
      obtain ⟨h2, s', A', x, e, hm2, hf2, s7, ex, -, hsl⟩ := hq
      obtain ⟨ex, hl2⟩ := ex rfl
      exact ⟨h2, s', A', x, e, hm2, hf2 73 (by omega), ⟨s7, ex⟩, g1, rfl, lI_fin (cW_k hw1 (fun i hi => ho i (by omega))) ⟨bW_k hb1 (fun i hi => ho i (by omega)), bC_k hbc1 (fun i hi => ho i (by omega)), hm1, hO1⟩ hf2 hm2 (lRel_sl hR hsl hl2 hlen), hk1, hz1⟩
  | false =>
    rw [e9] at hxv hmv
    refine lc_21 (d := d + 49) hox hxs hi hn hN (r := .inr nIAE) (l := [nIAE]) (fun E h9 => by cases h9; decide +kernel) (l_valuesLine (d := d + 49) hN hx ⟨F73, o73⟩ (fun E h9 => by cases h9; rfl) (lX_eAns hS hxv)) (lGen J (fun h1 hm1 => (hmv (by omega) hm1).imp (fun q hq => ?_))) kk'
    obtain ⟨h2, s', A', x, e, hm2, hf2, s7, -, hl, hsl⟩ := hq
    obtain ⟨a5, s14⟩ := hl rfl
    refine ⟨h2, s', A', x, e, hm2, hf2, s7.trans (by decide +kernel), ?_⟩
    obtain ⟨a0, a1, a2, a4, s4, s5, s6, s8, s9, s11, s12⟩ := hsl
    exact lSame_R hR ⟨a0, a1, a2, a4, a5, s4, s5, s6, s8, s9, s11, s12, s14⟩
