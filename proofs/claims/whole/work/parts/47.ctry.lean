/-! the class's changes -/
/-- gardens that are alike -/
def gE (G G' : eGd) : Prop := (∀ i, i < 40 → G'.1 i = G.1 i) ∧ (∀ i, i < 6 → G'.2.1 i = G.2.1 i) ∧ (∀ i, i < 8 → G'.2.2.1 i = G.2.2.1 i) ∧ G'.2.2.2 = G.2.2.2
theorem gE_bec (O G : eGd) : gE O (gBec O G) := ⟨fun i hi => (eCp_in (by omega)).trans (by rw [show 0 + (i - 0) = i by omega]), fun i hi => (eCp_in (by omega)).trans (by rw [show 0 + (i - 0) = i by omega]), fun i hi => (eCp_in (by omega)).trans (by rw [show 0 + (i - 0) = i by omega]), rfl⟩
theorem gE_t {A B C : eGd} (a : gE A B) (b : gE B C) : gE A C := ⟨fun i hi => (b.1 i hi).trans (a.1 i hi), fun i hi => (b.2.1 i hi).trans (a.2.1 i hi), fun i hi => (b.2.2.1 i hi).trans (a.2.2.1 i hi), b.2.2.2.trans a.2.2.2⟩
theorem gI_E {c : Int} {G G' : eGd} (h : gE G G') (hI : gI c G) : gI c G' := by
  obtain ⟨e1, e2, e3, e4⟩ := h
  obtain ⟨⟨b1, b2, b3, b4⟩, a2, a3, a4, a5, a6, a7, a8, a9, a10⟩ := hI
  have hs : gSum G'.1 G'.2.2.2.1.toNat = gSum G.1 G.2.2.2.1.toNat := by rw [e4]; exact gSum_congr (fun i hi => e1 i (by omega))
  refine ⟨⟨by rw [e4]; exact b1, by rw [e4]; exact b2, fun i hi => by rw [e1 i hi]; exact b3 i hi, fun i hi => by rw [e2 i hi]; exact b4 i hi⟩, by rw [e4]; exact a2, fun i hi => ?_, by rw [hs]; exact a4, fun i hi => by rw [e3 i hi]; exact a5 i hi, by rw [e3 0 (by decide), e3 4 (by decide)]; exact a6, by rw [e4]; exact a7, by rw [e4]; exact a8, by rw [e4]; exact a9, by rw [hs, e4, e3 1 (by decide), e3 5 (by decide)]; exact a10⟩
  rw [e4] at hi
  rw [e1 i (by omega)]; exact a3 i hi
theorem rR_E {c : Int} {G G' : eGd} {g : Nat → Int} (hI : gI c G) (h : gE G G') (hr : rR G g) : rR G' g := by
  obtain ⟨e1, e2, e3, e4⟩ := h
  obtain ⟨r0, r1, r2, r3, r4, r5, r6, r7, r8, r9, r10⟩ := hr
  have hb := hI.1.2.1
  refine ⟨by rw [e4]; exact r0, by rw [e4]; exact r1, by rw [e4]; exact r2, by rw [e3 1 (by decide), e3 5 (by decide)]; exact r3, by rw [e4]; exact r4, by rw [e4]; exact r5, by rw [e3 3 (by decide), e3 7 (by decide)]; exact r6, r7.trans (gWin_eq (e3 3 (by decide)).symm (e3 7 (by decide)).symm (by rw [e4])), fun i hi => by rw [e2 i hi]; exact r8 i hi, fun i hi => by rw [e3 i hi]; exact r9 i hi, fun i hi => ?_⟩
  rw [e4] at hi
  rw [e1 i (by omega)]; exact r10 i hi
theorem gDig_E {G G' : eGd} (h : gE G G') : gDig G' = gDig G := by
  funext t
  unfold gDig
  cases hd : decide (1 ≤ t) && decide (t ≤ 6) with
  | false => rfl
  | true =>
    rw [Bool.and_eq_true] at hd
    have h1 := of_decide_eq_true hd.1
    have h2 := of_decide_eq_true hd.2
    exact h.2.1 _ (by omega)
theorem gVG_d {V : eVs} {G G' : eGd} (h : gDig G' = gDig G) (hV : gVG V G) : gVG V G' := by unfold gVG; rw [h]; exact hV
/-- the reason behind an order -/
def oX (X : eXs) (r : gO) : eXs := if r.1 = 3 then (X.1, X.2.1, r.2.1, r.2.2.1) else X
theorem oX_n {X : eXs} {r : gO} (h : r.1 ≠ 3) : oX X r = X := if_neg h
/-- the history behind an order -/
def kE (e : Int) (a z : Int) (Ks : Nat → eGd) (G : eGd) : Int × Int × (Nat → eGd) := if e = 0 then gKeep a z Ks G else (a, z, Ks)
theorem kE_0 {a z : Int} {Ks : Nat → eGd} {G : eGd} {e : Int} (h : e = 0) : kE e a z Ks G = gKeep a z Ks G := if_pos h
theorem kE_n {a z : Int} {Ks : Nat → eGd} {G : eGd} {e : Int} (h : e ≠ 0) : kE e a z Ks G = (a, z, Ks) := if_neg h
def aPD (e v : Int) : Int ⊕ String := if e = 2 then .inr nIAE else if e = 3 then .inr nUOE else .inl v
def aSc (e v : Int) : Int ⊕ String := if e = 1 then .inr nIOB else if e = 2 then .inr nIAE else if e = 3 then .inr nUOE else .inl v
def aNx (e v : Int) : Int ⊕ String := if e = 3 then .inr nUOE else .inl v
def aPl (e v : Int) : Int ⊕ String := if e = 1 then .inr nNSE else .inl v
theorem x_refuse {d N : Nat} {h : eHp} {X : eXs} (hx : gX h X) (hN : 75 ≤ N) {a b : Int} : eSp (d + 1) eM_X6_refuse [.ref 0, vI a, vI b] N h (eChg (some (vI 3)) N (fun h' => gX h' (X.1, X.2.1, a, b) ∧ ∀ i, i ≠ 0 → h' i = h i)) := by
  refine eSp_of [(0, .ref 0), (1, vI a), (2, vI b)] rfl rfl ?_
  refine eW_aload_n 1 rfl rfl rfl ?_
  refine eW_iload_n 2 rfl rfl rfl ?_
  refine eW_putfield 5 [.ref 1, .ref 5, .ref 9, .ref 13, .ref 47, .ref 53, .ref 56, .ref 57, .ref 61, vI X.1, vI X.2.1, vI a, vI X.2.2.2] rfl rfl (Nat.ble_eq_true_of_le (by omega)) rfl hx rfl rfl ?_
  intro h1 eh1 oh1
  refine eW_aload_n 6 rfl rfl rfl ?_
  refine eW_iload_n 7 rfl rfl rfl ?_
  refine eW_putfield 10 [.ref 1, .ref 5, .ref 9, .ref 13, .ref 47, .ref 53, .ref 56, .ref 57, .ref 61, vI X.1, vI X.2.1, vI a, vI b] rfl rfl (Nat.ble_eq_true_of_le (by omega)) rfl eh1 rfl rfl ?_
  intro h2 eh2 oh2
  refine eW_iconst 11 rfl rfl ?_
  refine eW_ret_i rfl rfl (Or.inl rfl) ?_
  exact ⟨_, rfl, eh2, fun i hi => (oh2 i hi).trans (oh1 i hi)⟩
theorem x_tryPit {d N : Nat} {h : eHp} {X : eXs} {G O Q : eGd} {ya yz : Int} {Ks : Nat → eGd} {V : eVs} {S : Int × Int × Int} {T : eTx} (hw : cW h X G O Q ya yz Ks V S T) (hN : 75 ≤ N) {c : Int} (hI : gI c G) (ha : 0 ≤ ya ∧ ya < 8) (hz : 0 ≤ yz ∧ yz ≤ 8) (hTO : gTO T) {n : Int} (hn : i32 n) : eSp (d + 4) eM_X6_tryPit [.ref 0, vI n] N h (eChg (some (vI (oPit G n).1)) N (fun h' => ∃ S', cW h' (oX X (oPit G n)) (oPit G n).2.2.2 O Q ya yz Ks V S' T ∧ cFr h h')) := by
  refine eSp_of [(0, .ref 0), (1, vI n)] rfl rfl ?_
  have hG := hI.1
  have hG9 := hG
  obtain ⟨g1, g2, g3, g4⟩ := hG9
  unfold i32 at hn
  have hgp := gI_pits hI
  have hs40 := hI.2.2.2.1
  refine eW_iload_n 1 rfl rfl rfl ?_
  refine eW_iconst 2 rfl rfl ?_
  refine eW_icmp_lt 5 rfl rfl (by unfold i32; omega) (by unfold i32; omega) (fun c1 => ?_) (fun c1 => ?_)
  · refine eW_iconst 12 rfl rfl ?_
    refine eW_ret_i rfl rfl (Or.inl rfl) ?_
    have ho : oPit G n = (2, 0, 0, G) := oPit_b (by omega)
    rw [ho]
    exact ⟨_, rfl, S, hw, (fun _ _ => rfl)⟩
  · refine eW_iload_n 6 rfl rfl rfl ?_
    refine eW_bipush 8 rfl rfl 30 rfl ?_
    refine eW_icmp_le 11 rfl rfl (by unfold i32; omega) (by unfold i32; omega) (fun c2 => ?_) (fun c2 => ?_)
    · refine eW_aload_n 14 rfl rfl rfl ?_
      refine eW_getfield 17 rfl rfl (Nat.ble_eq_true_of_le (by omega)) rfl hw.1 rfl ⟨rfl, fun _ h9 => nomatch h9⟩ ?_
      refine eW_callV 20 [.ref 1] [] [vI (gSum G.1 G.2.2.2.1.toNat)] rfl rfl rfl rfl (Nat.ble_eq_true_of_le (by omega)) hw.2.1.1 rfl rfl rfl (g_all (d := d + 0) hw.2.1 hG (by omega)) rfl rfl ?_
      refine eW_iload_n 21 rfl rfl rfl ?_
      refine eW_iadd 22 rfl rfl ?_
      refine eW_istore_n 23 rfl rfl [(2, vI ((gSum G.1 G.2.2.2.1.toNat) + n)), (0, .ref 0), (1, vI n)] rfl rfl ?_
      refine eW_iload_n 24 rfl rfl rfl ?_
      refine eW_bipush 26 rfl rfl 40 rfl ?_
      refine eW_icmp_le 29 rfl rfl (by unfold i32; omega) (by unfold i32; omega) (fun c3 => ?_) (fun c3 => ?_)
      · refine eW_aload_n 37 rfl rfl rfl ?_
        refine eW_getfield 40 rfl rfl (Nat.ble_eq_true_of_le (by omega)) rfl hw.1 rfl ⟨rfl, fun _ h9 => nomatch h9⟩ ?_
        refine eW_iload_n 41 rfl rfl rfl ?_
        refine eW_callVH 44 [.ref 1, vI n] [] [] rfl rfl rfl rfl (Nat.ble_eq_true_of_le (by omega)) hw.2.1.1 rfl rfl rfl (g_bringPit (d := d + 1) hw.2.1 (by omega) ⟨g1, by omega⟩) rfl rfl ?_
        intro h4 fh4
        have oh4 := fh4.2
        have hwh4 : cW h4 X ((gPit G n)) O Q ya yz Ks V S T := ⟨gX_k hw.1 (oh4 0 (by omega)), fh4.1, gG_k hw.2.2.1 (fun i _ _ => oh4 i (by omega)), gG_k hw.2.2.2.1 (fun i _ _ => oh4 i (by omega)), gH_k hw.2.2.2.2.1 (fun i _ _ => oh4 i (by omega)), gV_k hw.2.2.2.2.2.1 (fun i _ _ => oh4 i (by omega)), gS_k hw.2.2.2.2.2.2.1 (oh4 56 (by omega)), gT_k hw.2.2.2.2.2.2.2.1 (fun i _ _ => oh4 i (by omega)), gK_k hw.2.2.2.2.2.2.2.2 (fun i _ _ => oh4 i (by omega))⟩
        have frh4 : cFr h h4 := fun i hi => (oh4 i (by omega)).trans ((fun _ _ => rfl) i hi)
        refine eW_iconst 45 rfl rfl ?_
        refine eW_ret_i rfl rfl (Or.inl rfl) ?_
        have ho : oPit G n = (0, 0, 0, gPit G n) := oPit_f (by omega) (by omega)
        rw [ho]
        exact ⟨_, rfl, S, hwh4, frh4⟩
      · refine eW_aload_n 30 rfl rfl rfl ?_
        refine eW_iconst 31 rfl rfl ?_
        refine eW_iload_n 32 rfl rfl rfl ?_
        refine eW_callVH 35 [.ref 0, vI 1, vI ((gSum G.1 G.2.2.2.1.toNat) + n)] [] [vI 3] rfl rfl rfl rfl (Nat.ble_eq_true_of_le (by omega)) hw.1 rfl rfl rfl (x_refuse (d := d + 2) hw.1 (by omega) (a := 1) (b := (gSum G.1 G.2.2.2.1.toNat) + n)) rfl rfl ?_
        intro h5 fh5
        have oh5 := fh5.2
        have hwh5 : cW h5 ((X.1, X.2.1, 1, (gSum G.1 G.2.2.2.1.toNat) + n)) G O Q ya yz Ks V S T := ⟨fh5.1, gG_k hw.2.1 (fun i _ _ => oh5 i (by omega)), gG_k hw.2.2.1 (fun i _ _ => oh5 i (by omega)), gG_k hw.2.2.2.1 (fun i _ _ => oh5 i (by omega)), gH_k hw.2.2.2.2.1 (fun i _ _ => oh5 i (by omega)), gV_k hw.2.2.2.2.2.1 (fun i _ _ => oh5 i (by omega)), gS_k hw.2.2.2.2.2.2.1 (oh5 56 (by omega)), gT_k hw.2.2.2.2.2.2.2.1 (fun i _ _ => oh5 i (by omega)), gK_k hw.2.2.2.2.2.2.2.2 (fun i _ _ => oh5 i (by omega))⟩
        have frh5 : cFr h h5 := fun i hi => (oh5 i (by omega)).trans ((fun _ _ => rfl) i hi)
        refine eW_ret_i rfl rfl (Or.inl rfl) ?_
        have ho : oPit G n = (3, 1, gSum G.1 G.2.2.2.1.toNat + n, G) := oPit_r (by omega) (by omega)
        rw [ho]
        exact ⟨_, rfl, S, hwh5, frh5⟩
    · refine eW_iconst 12 rfl rfl ?_
      refine eW_ret_i rfl rfl (Or.inl rfl) ?_
      have ho : oPit G n = (2, 0, 0, G) := oPit_b (by omega)
      rw [ho]
      exact ⟨_, rfl, S, hw, (fun _ _ => rfl)⟩
theorem x_tryDigit {d N : Nat} {h : eHp} {X : eXs} {G O Q : eGd} {ya yz : Int} {Ks : Nat → eGd} {V : eVs} {S : Int × Int × Int} {T : eTx} (hw : cW h X G O Q ya yz Ks V S T) (hN : 75 ≤ N) {c : Int} (hI : gI c G) (ha : 0 ≤ ya ∧ ya < 8) (hz : 0 ≤ yz ∧ yz ≤ 8) (hTO : gTO T) {t x : Int} (ht : i32 t) (hx : i32 x) : eSp (d + 2) eM_X6_tryDigit [.ref 0, vI t, vI x] N h (eChg (some (vI (oDig G t x).1)) N (fun h' => ∃ S', cW h' (oX X (oDig G t x)) (oDig G t x).2.2.2 O Q ya yz Ks V S' T ∧ cFr h h')) := by
  refine eSp_of [(0, .ref 0), (1, vI t), (2, vI x)] rfl rfl ?_
  have hG := hI.1
  have hG9 := hG
  obtain ⟨g1, g2, g3, g4⟩ := hG9
  unfold i32 at ht hx
  have hd := gDig_le hG t
  refine eW_iload_n 1 rfl rfl rfl ?_
  have htk : ((1 ≤ t ∧ t ≤ 6) ∧ eB01 (gTake t) = 1) ∨ (¬ (1 ≤ t ∧ t ≤ 6) ∧ eB01 (gTake t) = 0) := eD_c (1 ≤ t ∧ t ≤ 6)
  refine eW_callS 4 [vI t] [] [vI (eB01 (gTake t))] rfl rfl rfl (Or.inl rfl) rfl rfl rfl (x_isTake (d := d + 0) (by unfold i32; omega)) rfl rfl ?_
  refine eW_if_eq 7 rfl rfl (by unfold i32; omega) (fun c1 => ?_) (fun c1 => ?_)
  · refine eW_iconst 18 rfl rfl ?_
    refine eW_ret_i rfl rfl (Or.inl rfl) ?_
    have ho : oDig G t x = (2, 0, 0, G) := oDig_b (by omega)
    rw [ho]
    exact ⟨_, rfl, S, hw, (fun _ _ => rfl)⟩
  · refine eW_iload_n 8 rfl rfl rfl ?_
    refine eW_if_lt 11 rfl rfl (by unfold i32; omega) (fun c2 => ?_) (fun c2 => ?_)
    · refine eW_iconst 18 rfl rfl ?_
      refine eW_ret_i rfl rfl (Or.inl rfl) ?_
      have ho : oDig G t x = (2, 0, 0, G) := oDig_b (by omega)
      rw [ho]
      exact ⟨_, rfl, S, hw, (fun _ _ => rfl)⟩
    · refine eW_iload_n 12 rfl rfl rfl ?_
      refine eW_bipush 14 rfl rfl 7 rfl ?_
      refine eW_icmp_le 17 rfl rfl (by unfold i32; omega) (by unfold i32; omega) (fun c3 => ?_) (fun c3 => ?_)
      · refine eW_aload_n 20 rfl rfl rfl ?_
        refine eW_getfield 23 rfl rfl (Nat.ble_eq_true_of_le (by omega)) rfl hw.1 rfl ⟨rfl, fun _ h9 => nomatch h9⟩ ?_
        refine eW_iload_n 24 rfl rfl rfl ?_
        refine eW_callV 27 [.ref 1, vI t] [] [vI (gDig G t)] rfl rfl rfl rfl (Nat.ble_eq_true_of_le (by omega)) hw.2.1.1 rfl rfl rfl (g_digitFor (d := d + 0) hw.2.1 hG (by omega) (by unfold i32; omega)) rfl rfl ?_
        refine eW_iload_n 28 rfl rfl rfl ?_
        refine eW_icmp_ne 31 rfl rfl (by unfold i32; omega) (by unfold i32; omega) (fun c4 => ?_) (fun c4 => ?_)
        · refine eW_aload_n 39 rfl rfl rfl ?_
          refine eW_getfield 42 rfl rfl (Nat.ble_eq_true_of_le (by omega)) rfl hw.1 rfl ⟨rfl, fun _ h9 => nomatch h9⟩ ?_
          refine eW_iload_n 43 rfl rfl rfl ?_
          refine eW_iload_n 44 rfl rfl rfl ?_
          refine eW_callVH 47 [.ref 1, vI t, vI x] [] [] rfl rfl rfl rfl (Nat.ble_eq_true_of_le (by omega)) hw.2.1.1 rfl rfl rfl (g_setDigit (d := d + 0) hw.2.1 (by omega) (by omega)) rfl rfl ?_
          intro h5 fh5
          have oh5 := fh5.2
          have hwh5 : cW h5 X ((gSetD G t x)) O Q ya yz Ks V S T := ⟨gX_k hw.1 (oh5 0 (by omega)), fh5.1, gG_k hw.2.2.1 (fun i _ _ => oh5 i (by omega)), gG_k hw.2.2.2.1 (fun i _ _ => oh5 i (by omega)), gH_k hw.2.2.2.2.1 (fun i _ _ => oh5 i (by omega)), gV_k hw.2.2.2.2.2.1 (fun i _ _ => oh5 i (by omega)), gS_k hw.2.2.2.2.2.2.1 (oh5 56 (by omega)), gT_k hw.2.2.2.2.2.2.2.1 (fun i _ _ => oh5 i (by omega)), gK_k hw.2.2.2.2.2.2.2.2 (fun i _ _ => oh5 i (by omega))⟩
          have frh5 : cFr h h5 := fun i hi => (oh5 i (by omega)).trans ((fun _ _ => rfl) i hi)
          refine eW_iconst 48 rfl rfl ?_
          refine eW_ret_i rfl rfl (Or.inl rfl) ?_
          have ho : oDig G t x = (0, 0, 0, gSetD G t x) := oDig_f (by omega) (by omega)
          rw [ho]
          exact ⟨_, rfl, S, hwh5, frh5⟩
        · refine eW_aload_n 32 rfl rfl rfl ?_
          refine eW_iconst 33 rfl rfl ?_
          refine eW_iload_n 34 rfl rfl rfl ?_
          refine eW_callVH 37 [.ref 0, vI 4, vI x] [] [vI 3] rfl rfl rfl rfl (Nat.ble_eq_true_of_le (by omega)) hw.1 rfl rfl rfl (x_refuse (d := d + 0) hw.1 (by omega) (a := 4) (b := x)) rfl rfl ?_
          intro h6 fh6
          have oh6 := fh6.2
          have hwh6 : cW h6 ((X.1, X.2.1, 4, x)) G O Q ya yz Ks V S T := ⟨fh6.1, gG_k hw.2.1 (fun i _ _ => oh6 i (by omega)), gG_k hw.2.2.1 (fun i _ _ => oh6 i (by omega)), gG_k hw.2.2.2.1 (fun i _ _ => oh6 i (by omega)), gH_k hw.2.2.2.2.1 (fun i _ _ => oh6 i (by omega)), gV_k hw.2.2.2.2.2.1 (fun i _ _ => oh6 i (by omega)), gS_k hw.2.2.2.2.2.2.1 (oh6 56 (by omega)), gT_k hw.2.2.2.2.2.2.2.1 (fun i _ _ => oh6 i (by omega)), gK_k hw.2.2.2.2.2.2.2.2 (fun i _ _ => oh6 i (by omega))⟩
          have frh6 : cFr h h6 := fun i hi => (oh6 i (by omega)).trans ((fun _ _ => rfl) i hi)
          refine eW_ret_i rfl rfl (Or.inl rfl) ?_
          have ho : oDig G t x = (3, 4, x, G) := oDig_r (by omega) (by omega)
          rw [ho]
          exact ⟨_, rfl, S, hwh6, frh6⟩
      · refine eW_iconst 18 rfl rfl ?_
        refine eW_ret_i rfl rfl (Or.inl rfl) ?_
        have ho : oDig G t x = (2, 0, 0, G) := oDig_b (by omega)
        rw [ho]
        exact ⟨_, rfl, S, hw, (fun _ _ => rfl)⟩
theorem x_tryScoop {d N : Nat} {h : eHp} {X : eXs} {G O Q : eGd} {ya yz : Int} {Ks : Nat → eGd} {V : eVs} {S : Int × Int × Int} {T : eTx} (hw : cW h X G O Q ya yz Ks V S T) (hN : 75 ≤ N) {c : Int} (hI : gI c G) (ha : 0 ≤ ya ∧ ya < 8) (hz : 0 ≤ yz ∧ yz ≤ 8) (hTO : gTO T) {p t l : Int} (hp : i32 p) (ht : i32 t) (hl : i32 l) : eSp (d + 4) eM_X6_tryScoop [.ref 0, vI p, vI t, vI l] N h (eChg (some (vI (oScp G p t l).1)) N (fun h' => ∃ S', cW h' (oX X (oScp G p t l)) (oScp G p t l).2.2.2 O Q ya yz Ks V S' T ∧ cFr h h')) := by
  refine eSp_of [(0, .ref 0), (1, vI p), (2, vI t), (3, vI l)] rfl rfl ?_
  have hG := hI.1
  have hG9 := hG
  obtain ⟨g1, g2, g3, g4⟩ := hG9
  unfold i32 at hp ht hl
  have hd := gDig_le hG t
  refine eW_aload_n 1 rfl rfl rfl ?_
  refine eW_getfield 4 rfl rfl (Nat.ble_eq_true_of_le (by omega)) rfl hw.1 rfl ⟨rfl, fun _ h9 => nomatch h9⟩ ?_
  refine eW_iload_n 5 rfl rfl rfl ?_
  have hhp := gHas_c G p
  refine eW_callV 8 [.ref 1, vI p] [] [vI (eB01 (gHas G p))] rfl rfl rfl rfl (Nat.ble_eq_true_of_le (by omega)) hw.2.1.1 rfl rfl rfl (g_hasPit (d := d + 2) hw.2.1 hG (by omega) (by unfold i32; omega)) rfl rfl ?_
  refine eW_if_ne 11 rfl rfl (by unfold i32; omega) (fun c1 => ?_) (fun c1 => ?_)
  · have hin9 : gIn G p = G.1 p.toNat := gIn_t (by omega) (by omega)
    refine eW_aload_n 14 rfl rfl rfl ?_
    refine eW_getfield 17 rfl rfl (Nat.ble_eq_true_of_le (by omega)) rfl hw.1 rfl ⟨rfl, fun _ h9 => nomatch h9⟩ ?_
    refine eW_iload_n 18 rfl rfl rfl ?_
    have hinq2 := gIn_le hG p
    refine eW_callV 21 [.ref 1, vI p] [] [vI (gIn G p)] rfl rfl rfl rfl (Nat.ble_eq_true_of_le (by omega)) hw.2.1.1 rfl rfl rfl (g_marblesIn (d := d + 1) hw.2.1 hG (by omega) (by unfold i32; omega)) rfl rfl ?_
    refine eW_istore 23 rfl rfl [(4, vI (gIn G p)), (0, .ref 0), (1, vI p), (2, vI t), (3, vI l)] rfl rfl ?_
    refine eW_iload_n 24 rfl rfl rfl ?_
    have htk : ((1 ≤ t ∧ t ≤ 6) ∧ eB01 (gTake t) = 1) ∨ (¬ (1 ≤ t ∧ t ≤ 6) ∧ eB01 (gTake t) = 0) := eD_c (1 ≤ t ∧ t ≤ 6)
    refine eW_callS 27 [vI t] [] [vI (eB01 (gTake t))] rfl rfl rfl (Or.inl rfl) rfl rfl rfl (x_isTake (d := d + 2) (by unfold i32; omega)) rfl rfl ?_
    refine eW_if_eq 30 rfl rfl (by unfold i32; omega) (fun c3 => ?_) (fun c3 => ?_)
    · refine eW_iconst 45 rfl rfl ?_
      refine eW_ret_i rfl rfl (Or.inl rfl) ?_
      have ho : oScp G p t l = (2, 0, 0, G) := oScp_b (by omega) (by rw [← hin9]; omega)
      rw [ho]
      exact ⟨_, rfl, S, hw, (fun _ _ => rfl)⟩
    · refine eW_iload_n 31 rfl rfl rfl ?_
      refine eW_if_lt 34 rfl rfl (by unfold i32; omega) (fun c4 => ?_) (fun c4 => ?_)
      · refine eW_iconst 45 rfl rfl ?_
        refine eW_ret_i rfl rfl (Or.inl rfl) ?_
        have ho : oScp G p t l = (2, 0, 0, G) := oScp_b (by omega) (by rw [← hin9]; omega)
        rw [ho]
        exact ⟨_, rfl, S, hw, (fun _ _ => rfl)⟩
      · refine eW_iload_n 35 rfl rfl rfl ?_
        refine eW_if_ne 38 rfl rfl (by unfold i32; omega) (fun c5 => ?_) (fun c5 => ?_)
        · refine eW_iload_n 47 rfl rfl rfl ?_
          refine eW_iload 49 rfl rfl rfl ?_
          refine eW_iload_n 50 rfl rfl rfl ?_
          refine eW_isub 51 rfl rfl ?_
          refine eW_icmp_le 54 rfl rfl (by unfold i32; omega) (by unfold i32; omega) (fun c6 => ?_) (fun c6 => ?_)
          · refine eW_aload_n 63 rfl rfl rfl ?_
            refine eW_getfield 66 rfl rfl (Nat.ble_eq_true_of_le (by omega)) rfl hw.1 rfl ⟨rfl, fun _ h9 => nomatch h9⟩ ?_
            refine eW_iload 68 rfl rfl rfl ?_
            refine eW_iload_n 69 rfl rfl rfl ?_
            refine eW_iload_n 70 rfl rfl rfl ?_
            have hlt := eB01_c (gLets (gDig G) (gIn G p) t l)
            refine eW_callV 73 [.ref 1, vI (gIn G p), vI t, vI l] [] [vI (eB01 (gLets (gDig G) (gIn G p) t l))] rfl rfl rfl rfl (Nat.ble_eq_true_of_le (by omega)) hw.2.1.1 rfl rfl rfl (g_lets (d := d + 1) hw.2.1 hG (by omega) (by omega) (by unfold i32; omega) (by unfold i32; omega) (by unfold i32; omega) (by unfold i32; omega)) rfl rfl ?_
            refine eW_if_ne 76 rfl rfl (by unfold i32; omega) (fun c7 => ?_) (fun c7 => ?_)
            · have hl9 : gLets (gDig G) (G.1 p.toNat) t l = true := by rw [← hin9]; rcases hlt with e | e <;> first | exact e.1 | exact absurd e.2 (by omega)
              have hM9 : gMay G (p, t, l) := ⟨⟨by show 0 ≤ p; omega, by show p < _; omega⟩, ⟨by show 1 ≤ t; omega, by show t ≤ 6; omega⟩, hl9⟩
              have hge := gSum_ge1 (F := G.1) (p := p.toNat) (n := G.2.2.2.1.toNat) (by omega) (fun i hi => (hI.2.2.1 i (by omega)).1)
              have hs40 := hI.2.2.2.1
              have hM1 : 0 ≤ (p, t, l).2.2 ∧ (p, t, l).2.2 ≤ 40 := by show 0 ≤ l ∧ l ≤ 40; omega
              have hM2 : 0 < G.1 (p, t, l).1.toNat - (p, t, l).2.1 - (p, t, l).2.2 → G.2.2.2.1 < 40 := by intro e; have e : 0 < G.1 p.toNat - t - l := e; omega
              refine eW_aload_n 91 rfl rfl rfl ?_
              refine eW_getfield 94 rfl rfl (Nat.ble_eq_true_of_le (by omega)) rfl hw.1 rfl ⟨rfl, fun _ h9 => nomatch h9⟩ ?_
              refine eW_iload_n 95 rfl rfl rfl ?_
              refine eW_iload_n 96 rfl rfl rfl ?_
              refine eW_iload_n 97 rfl rfl rfl ?_
              refine eW_callVH 100 [.ref 56, vI p, vI t, vI l] [] [] rfl rfl rfl rfl (Nat.ble_eq_true_of_le (by omega)) hw.2.2.2.2.2.2.1 rfl rfl rfl (s_set (d := d + 2) hw.2.2.2.2.2.2.1 (by omega)) rfl rfl ?_
              intro h8 fh8
              have oh8 := fh8.2
              have hwh8 : cW h8 X G O Q ya yz Ks V ((p, t, l)) T := ⟨gX_k hw.1 (oh8 0 (by omega)), gG_k hw.2.1 (fun i _ _ => oh8 i (by omega)), gG_k hw.2.2.1 (fun i _ _ => oh8 i (by omega)), gG_k hw.2.2.2.1 (fun i _ _ => oh8 i (by omega)), gH_k hw.2.2.2.2.1 (fun i _ _ => oh8 i (by omega)), gV_k hw.2.2.2.2.2.1 (fun i _ _ => oh8 i (by omega)), fh8.1, gT_k hw.2.2.2.2.2.2.2.1 (fun i _ _ => oh8 i (by omega)), gK_k hw.2.2.2.2.2.2.2.2 (fun i _ _ => oh8 i (by omega))⟩
              have frh8 : cFr h h8 := fun i hi => (oh8 i (by omega)).trans ((fun _ _ => rfl) i hi)
              refine eW_aload_n 101 rfl rfl rfl ?_
              refine eW_getfield 104 rfl rfl (Nat.ble_eq_true_of_le (by omega)) rfl hwh8.1 rfl ⟨rfl, fun _ h9 => nomatch h9⟩ ?_
              refine eW_aload_n 105 rfl rfl rfl ?_
              refine eW_getfield 108 rfl rfl (Nat.ble_eq_true_of_le (by omega)) rfl hwh8.1 rfl ⟨rfl, fun _ h9 => nomatch h9⟩ ?_
              refine eW_callVH 111 [.ref 1, .ref 56] [] [] rfl rfl rfl rfl (Nat.ble_eq_true_of_le (by omega)) hwh8.2.1.1 rfl rfl rfl (g_make (d := d + 0) (f := 56) hwh8.2.1 hG (by omega) hwh8.2.2.2.2.2.2.1 (by omega) (by omega) hM9.1 hM9.2.1 hM1 hM2 hI.2.1) rfl rfl ?_
              intro h9 fh9
              have oh9 := fh9.2
              have hwh9 : cW h9 X ((gMake G ((p, t, l)))) O Q ya yz Ks V ((p, t, l)) T := ⟨gX_k hwh8.1 (oh9 0 (by omega)), fh9.1, gG_k hwh8.2.2.1 (fun i _ _ => oh9 i (by omega)), gG_k hwh8.2.2.2.1 (fun i _ _ => oh9 i (by omega)), gH_k hwh8.2.2.2.2.1 (fun i _ _ => oh9 i (by omega)), gV_k hwh8.2.2.2.2.2.1 (fun i _ _ => oh9 i (by omega)), gS_k hwh8.2.2.2.2.2.2.1 (oh9 56 (by omega)), gT_k hwh8.2.2.2.2.2.2.2.1 (fun i _ _ => oh9 i (by omega)), gK_k hwh8.2.2.2.2.2.2.2.2 (fun i _ _ => oh9 i (by omega))⟩
              have frh9 : cFr h h9 := fun i hi => (oh9 i (by omega)).trans (frh8 i hi)
              refine eW_iconst 112 rfl rfl ?_
              refine eW_ret_i rfl rfl (Or.inl rfl) ?_
              have ho : oScp G p t l = (0, 0, 0, gMake G (p, t, l)) := oScp_f (by omega) (by rw [← hin9]; omega) (by rw [← hin9]; omega) hl9
              rw [ho]
              exact ⟨_, rfl, (p, t, l), hwh9, frh9⟩
            · refine eW_aload_n 77 rfl rfl rfl ?_
              refine eW_iconst 78 rfl rfl ?_
              refine eW_aload_n 79 rfl rfl rfl ?_
              refine eW_getfield 82 rfl rfl (Nat.ble_eq_true_of_le (by omega)) rfl hw.1 rfl ⟨rfl, fun _ h9 => nomatch h9⟩ ?_
              refine eW_iload_n 83 rfl rfl rfl ?_
              refine eW_callV 86 [.ref 1, vI t] [vI 3, .ref 0] [vI (gDig G t), vI 3, .ref 0] rfl rfl rfl rfl (Nat.ble_eq_true_of_le (by omega)) hw.2.1.1 rfl rfl rfl (g_digitFor (d := d + 2) hw.2.1 hG (by omega) (by unfold i32; omega)) rfl rfl ?_
              refine eW_callVH 89 [.ref 0, vI 3, vI (gDig G t)] [] [vI 3] rfl rfl rfl rfl (Nat.ble_eq_true_of_le (by omega)) hw.1 rfl rfl rfl (x_refuse (d := d + 2) hw.1 (by omega) (a := 3) (b := gDig G t)) rfl rfl ?_
              intro h10 fh10
              have oh10 := fh10.2
              have hwh10 : cW h10 ((X.1, X.2.1, 3, gDig G t)) G O Q ya yz Ks V S T := ⟨fh10.1, gG_k hw.2.1 (fun i _ _ => oh10 i (by omega)), gG_k hw.2.2.1 (fun i _ _ => oh10 i (by omega)), gG_k hw.2.2.2.1 (fun i _ _ => oh10 i (by omega)), gH_k hw.2.2.2.2.1 (fun i _ _ => oh10 i (by omega)), gV_k hw.2.2.2.2.2.1 (fun i _ _ => oh10 i (by omega)), gS_k hw.2.2.2.2.2.2.1 (oh10 56 (by omega)), gT_k hw.2.2.2.2.2.2.2.1 (fun i _ _ => oh10 i (by omega)), gK_k hw.2.2.2.2.2.2.2.2 (fun i _ _ => oh10 i (by omega))⟩
              have frh10 : cFr h h10 := fun i hi => (oh10 i (by omega)).trans ((fun _ _ => rfl) i hi)
              refine eW_ret_i rfl rfl (Or.inl rfl) ?_
              have ho : oScp G p t l = (3, 3, gDig G t, G) := oScp_3 (by omega) (by rw [← hin9]; omega) (by rw [← hin9]; omega) (by rw [← hin9]; rcases hlt with e | e <;> first | exact e.1 | exact absurd e.2 (by omega))
              rw [ho]
              exact ⟨_, rfl, S, hwh10, frh10⟩
          · refine eW_aload_n 55 rfl rfl rfl ?_
            refine eW_iconst 56 rfl rfl ?_
            refine eW_iload 58 rfl rfl rfl ?_
            refine eW_callVH 61 [.ref 0, vI 2, vI (gIn G p)] [] [vI 3] rfl rfl rfl rfl (Nat.ble_eq_true_of_le (by omega)) hw.1 rfl rfl rfl (x_refuse (d := d + 2) hw.1 (by omega) (a := 2) (b := gIn G p)) rfl rfl ?_
            intro h11 fh11
            have oh11 := fh11.2
            have hwh11 : cW h11 ((X.1, X.2.1, 2, gIn G p)) G O Q ya yz Ks V S T := ⟨fh11.1, gG_k hw.2.1 (fun i _ _ => oh11 i (by omega)), gG_k hw.2.2.1 (fun i _ _ => oh11 i (by omega)), gG_k hw.2.2.2.1 (fun i _ _ => oh11 i (by omega)), gH_k hw.2.2.2.2.1 (fun i _ _ => oh11 i (by omega)), gV_k hw.2.2.2.2.2.1 (fun i _ _ => oh11 i (by omega)), gS_k hw.2.2.2.2.2.2.1 (oh11 56 (by omega)), gT_k hw.2.2.2.2.2.2.2.1 (fun i _ _ => oh11 i (by omega)), gK_k hw.2.2.2.2.2.2.2.2 (fun i _ _ => oh11 i (by omega))⟩
            have frh11 : cFr h h11 := fun i hi => (oh11 i (by omega)).trans ((fun _ _ => rfl) i hi)
            refine eW_ret_i rfl rfl (Or.inl rfl) ?_
            have ho : oScp G p t l = (3, 2, G.1 p.toNat, G) := oScp_2 (by omega) (by rw [← hin9]; omega) (by rw [← hin9]; omega)
            rw [ho, ← hin9]
            exact ⟨_, rfl, S, hwh11, frh11⟩
        · refine eW_iload_n 39 rfl rfl rfl ?_
          refine eW_iload 41 rfl rfl rfl ?_
          refine eW_icmp_ge 44 rfl rfl (by unfold i32; omega) (by unfold i32; omega) (fun c12 => ?_) (fun c12 => ?_)
          · refine eW_iload_n 47 rfl rfl rfl ?_
            refine eW_iload 49 rfl rfl rfl ?_
            refine eW_iload_n 50 rfl rfl rfl ?_
            refine eW_isub 51 rfl rfl ?_
            refine eW_icmp_le 54 rfl rfl (by unfold i32; omega) (by unfold i32; omega) (fun c13 => ?_) (fun c13 => ?_)
            · refine eW_aload_n 63 rfl rfl rfl ?_
              refine eW_getfield 66 rfl rfl (Nat.ble_eq_true_of_le (by omega)) rfl hw.1 rfl ⟨rfl, fun _ h9 => nomatch h9⟩ ?_
              refine eW_iload 68 rfl rfl rfl ?_
              refine eW_iload_n 69 rfl rfl rfl ?_
              refine eW_iload_n 70 rfl rfl rfl ?_
              have hlt := eB01_c (gLets (gDig G) (gIn G p) t l)
              refine eW_callV 73 [.ref 1, vI (gIn G p), vI t, vI l] [] [vI (eB01 (gLets (gDig G) (gIn G p) t l))] rfl rfl rfl rfl (Nat.ble_eq_true_of_le (by omega)) hw.2.1.1 rfl rfl rfl (g_lets (d := d + 1) hw.2.1 hG (by omega) (by omega) (by unfold i32; omega) (by unfold i32; omega) (by unfold i32; omega) (by unfold i32; omega)) rfl rfl ?_
              refine eW_if_ne 76 rfl rfl (by unfold i32; omega) (fun c14 => ?_) (fun c14 => ?_)
              · have hl9 : gLets (gDig G) (G.1 p.toNat) t l = true := by rw [← hin9]; rcases hlt with e | e <;> first | exact e.1 | exact absurd e.2 (by omega)
                have hM9 : gMay G (p, t, l) := ⟨⟨by show 0 ≤ p; omega, by show p < _; omega⟩, ⟨by show 1 ≤ t; omega, by show t ≤ 6; omega⟩, hl9⟩
                have hge := gSum_ge1 (F := G.1) (p := p.toNat) (n := G.2.2.2.1.toNat) (by omega) (fun i hi => (hI.2.2.1 i (by omega)).1)
                have hs40 := hI.2.2.2.1
                have hM1 : 0 ≤ (p, t, l).2.2 ∧ (p, t, l).2.2 ≤ 40 := by show 0 ≤ l ∧ l ≤ 40; omega
                have hM2 : 0 < G.1 (p, t, l).1.toNat - (p, t, l).2.1 - (p, t, l).2.2 → G.2.2.2.1 < 40 := by intro e; have e : 0 < G.1 p.toNat - t - l := e; omega
                refine eW_aload_n 91 rfl rfl rfl ?_
                refine eW_getfield 94 rfl rfl (Nat.ble_eq_true_of_le (by omega)) rfl hw.1 rfl ⟨rfl, fun _ h9 => nomatch h9⟩ ?_
                refine eW_iload_n 95 rfl rfl rfl ?_
                refine eW_iload_n 96 rfl rfl rfl ?_
                refine eW_iload_n 97 rfl rfl rfl ?_
                refine eW_callVH 100 [.ref 56, vI p, vI t, vI l] [] [] rfl rfl rfl rfl (Nat.ble_eq_true_of_le (by omega)) hw.2.2.2.2.2.2.1 rfl rfl rfl (s_set (d := d + 2) hw.2.2.2.2.2.2.1 (by omega)) rfl rfl ?_
                intro h15 fh15
                have oh15 := fh15.2
                have hwh15 : cW h15 X G O Q ya yz Ks V ((p, t, l)) T := ⟨gX_k hw.1 (oh15 0 (by omega)), gG_k hw.2.1 (fun i _ _ => oh15 i (by omega)), gG_k hw.2.2.1 (fun i _ _ => oh15 i (by omega)), gG_k hw.2.2.2.1 (fun i _ _ => oh15 i (by omega)), gH_k hw.2.2.2.2.1 (fun i _ _ => oh15 i (by omega)), gV_k hw.2.2.2.2.2.1 (fun i _ _ => oh15 i (by omega)), fh15.1, gT_k hw.2.2.2.2.2.2.2.1 (fun i _ _ => oh15 i (by omega)), gK_k hw.2.2.2.2.2.2.2.2 (fun i _ _ => oh15 i (by omega))⟩
                have frh15 : cFr h h15 := fun i hi => (oh15 i (by omega)).trans ((fun _ _ => rfl) i hi)
                refine eW_aload_n 101 rfl rfl rfl ?_
                refine eW_getfield 104 rfl rfl (Nat.ble_eq_true_of_le (by omega)) rfl hwh15.1 rfl ⟨rfl, fun _ h9 => nomatch h9⟩ ?_
                refine eW_aload_n 105 rfl rfl rfl ?_
                refine eW_getfield 108 rfl rfl (Nat.ble_eq_true_of_le (by omega)) rfl hwh15.1 rfl ⟨rfl, fun _ h9 => nomatch h9⟩ ?_
                refine eW_callVH 111 [.ref 1, .ref 56] [] [] rfl rfl rfl rfl (Nat.ble_eq_true_of_le (by omega)) hwh15.2.1.1 rfl rfl rfl (g_make (d := d + 0) (f := 56) hwh15.2.1 hG (by omega) hwh15.2.2.2.2.2.2.1 (by omega) (by omega) hM9.1 hM9.2.1 hM1 hM2 hI.2.1) rfl rfl ?_
                intro h16 fh16
                have oh16 := fh16.2
                have hwh16 : cW h16 X ((gMake G ((p, t, l)))) O Q ya yz Ks V ((p, t, l)) T := ⟨gX_k hwh15.1 (oh16 0 (by omega)), fh16.1, gG_k hwh15.2.2.1 (fun i _ _ => oh16 i (by omega)), gG_k hwh15.2.2.2.1 (fun i _ _ => oh16 i (by omega)), gH_k hwh15.2.2.2.2.1 (fun i _ _ => oh16 i (by omega)), gV_k hwh15.2.2.2.2.2.1 (fun i _ _ => oh16 i (by omega)), gS_k hwh15.2.2.2.2.2.2.1 (oh16 56 (by omega)), gT_k hwh15.2.2.2.2.2.2.2.1 (fun i _ _ => oh16 i (by omega)), gK_k hwh15.2.2.2.2.2.2.2.2 (fun i _ _ => oh16 i (by omega))⟩
                have frh16 : cFr h h16 := fun i hi => (oh16 i (by omega)).trans (frh15 i hi)
                refine eW_iconst 112 rfl rfl ?_
                refine eW_ret_i rfl rfl (Or.inl rfl) ?_
                have ho : oScp G p t l = (0, 0, 0, gMake G (p, t, l)) := oScp_f (by omega) (by rw [← hin9]; omega) (by rw [← hin9]; omega) hl9
                rw [ho]
                exact ⟨_, rfl, (p, t, l), hwh16, frh16⟩
              · refine eW_aload_n 77 rfl rfl rfl ?_
                refine eW_iconst 78 rfl rfl ?_
                refine eW_aload_n 79 rfl rfl rfl ?_
                refine eW_getfield 82 rfl rfl (Nat.ble_eq_true_of_le (by omega)) rfl hw.1 rfl ⟨rfl, fun _ h9 => nomatch h9⟩ ?_
                refine eW_iload_n 83 rfl rfl rfl ?_
                refine eW_callV 86 [.ref 1, vI t] [vI 3, .ref 0] [vI (gDig G t), vI 3, .ref 0] rfl rfl rfl rfl (Nat.ble_eq_true_of_le (by omega)) hw.2.1.1 rfl rfl rfl (g_digitFor (d := d + 2) hw.2.1 hG (by omega) (by unfold i32; omega)) rfl rfl ?_
                refine eW_callVH 89 [.ref 0, vI 3, vI (gDig G t)] [] [vI 3] rfl rfl rfl rfl (Nat.ble_eq_true_of_le (by omega)) hw.1 rfl rfl rfl (x_refuse (d := d + 2) hw.1 (by omega) (a := 3) (b := gDig G t)) rfl rfl ?_
                intro h17 fh17
                have oh17 := fh17.2
                have hwh17 : cW h17 ((X.1, X.2.1, 3, gDig G t)) G O Q ya yz Ks V S T := ⟨fh17.1, gG_k hw.2.1 (fun i _ _ => oh17 i (by omega)), gG_k hw.2.2.1 (fun i _ _ => oh17 i (by omega)), gG_k hw.2.2.2.1 (fun i _ _ => oh17 i (by omega)), gH_k hw.2.2.2.2.1 (fun i _ _ => oh17 i (by omega)), gV_k hw.2.2.2.2.2.1 (fun i _ _ => oh17 i (by omega)), gS_k hw.2.2.2.2.2.2.1 (oh17 56 (by omega)), gT_k hw.2.2.2.2.2.2.2.1 (fun i _ _ => oh17 i (by omega)), gK_k hw.2.2.2.2.2.2.2.2 (fun i _ _ => oh17 i (by omega))⟩
                have frh17 : cFr h h17 := fun i hi => (oh17 i (by omega)).trans ((fun _ _ => rfl) i hi)
                refine eW_ret_i rfl rfl (Or.inl rfl) ?_
                have ho : oScp G p t l = (3, 3, gDig G t, G) := oScp_3 (by omega) (by rw [← hin9]; omega) (by rw [← hin9]; omega) (by rw [← hin9]; rcases hlt with e | e <;> first | exact e.1 | exact absurd e.2 (by omega))
                rw [ho]
                exact ⟨_, rfl, S, hwh17, frh17⟩
            · refine eW_aload_n 55 rfl rfl rfl ?_
              refine eW_iconst 56 rfl rfl ?_
              refine eW_iload 58 rfl rfl rfl ?_
              refine eW_callVH 61 [.ref 0, vI 2, vI (gIn G p)] [] [vI 3] rfl rfl rfl rfl (Nat.ble_eq_true_of_le (by omega)) hw.1 rfl rfl rfl (x_refuse (d := d + 2) hw.1 (by omega) (a := 2) (b := gIn G p)) rfl rfl ?_
              intro h18 fh18
              have oh18 := fh18.2
              have hwh18 : cW h18 ((X.1, X.2.1, 2, gIn G p)) G O Q ya yz Ks V S T := ⟨fh18.1, gG_k hw.2.1 (fun i _ _ => oh18 i (by omega)), gG_k hw.2.2.1 (fun i _ _ => oh18 i (by omega)), gG_k hw.2.2.2.1 (fun i _ _ => oh18 i (by omega)), gH_k hw.2.2.2.2.1 (fun i _ _ => oh18 i (by omega)), gV_k hw.2.2.2.2.2.1 (fun i _ _ => oh18 i (by omega)), gS_k hw.2.2.2.2.2.2.1 (oh18 56 (by omega)), gT_k hw.2.2.2.2.2.2.2.1 (fun i _ _ => oh18 i (by omega)), gK_k hw.2.2.2.2.2.2.2.2 (fun i _ _ => oh18 i (by omega))⟩
              have frh18 : cFr h h18 := fun i hi => (oh18 i (by omega)).trans ((fun _ _ => rfl) i hi)
              refine eW_ret_i rfl rfl (Or.inl rfl) ?_
              have ho : oScp G p t l = (3, 2, G.1 p.toNat, G) := oScp_2 (by omega) (by rw [← hin9]; omega) (by rw [← hin9]; omega)
              rw [ho, ← hin9]
              exact ⟨_, rfl, S, hwh18, frh18⟩
          · refine eW_iconst 45 rfl rfl ?_
            refine eW_ret_i rfl rfl (Or.inl rfl) ?_
            have ho : oScp G p t l = (2, 0, 0, G) := oScp_b (by omega) (by rw [← hin9]; omega)
            rw [ho]
            exact ⟨_, rfl, S, hw, (fun _ _ => rfl)⟩
  · refine eW_iconst 12 rfl rfl ?_
    refine eW_ret_i rfl rfl (Or.inl rfl) ?_
    have ho : oScp G p t l = (1, 0, 0, G) := oScp_p (by omega)
    rw [ho]
    exact ⟨_, rfl, S, hw, (fun _ _ => rfl)⟩
theorem x_tryNext {d N : Nat} {h : eHp} {X : eXs} {G O Q : eGd} {ya yz : Int} {Ks : Nat → eGd} {V : eVs} {S : Int × Int × Int} {T : eTx} (hw : cW h X G O Q ya yz Ks V S T) (hN : 75 ≤ N) {c : Int} (hI : gI c G) (ha : 0 ≤ ya ∧ ya < 8) (hz : 0 ≤ yz ∧ yz ≤ 8) (hTO : gTO T) (hc : c ≤ 16000) : eSp (d + 6) eM_X6_tryNext [.ref 0] N h (eChg (some (vI (oNxt G).1)) N (fun h' => ∃ S', cW h' (oX X (oNxt G)) (oNxt G).2.2.2 O Q ya yz Ks V S' T ∧ cFr h h')) := by
  refine eSp_of [(0, .ref 0)] rfl rfl ?_
  have hG := hI.1
  have hG9 := hG
  obtain ⟨g1, g2, g3, g4⟩ := hG9
  have hsc : 0 ≤ gSum (fun j => gWays (gDig G) (G.1 j)) G.2.2.2.1.toNat ∧ gSum (fun j => gWays (gDig G) (G.1 j)) G.2.2.2.1.toNat ≤ 240 * G.2.2.2.1.toNat := gSum_le (fun i hi => by have := gCntT_le (D := gDig G) (n := G.1 i) (g3 i (by omega)).2 6; exact ⟨this.1, by have e : gWays (gDig G) (G.1 i) = gCntT (gDig G) (G.1 i) 6 := rfl; omega⟩)
  have ht3 := hI.2.2.2.2.1 3 (by decide)
  have ht7 := hI.2.2.2.2.1 7 (by decide)
  have hT37 : i32 (gTal G 0 3 + gTal G 1 3) := by rw [show gTal G 0 3 = G.2.2.1 3 from gTal_l 0 3 (by decide) (by decide), show gTal G 1 3 = G.2.2.1 7 from gTal_l 1 3 (by decide) (by decide)]; unfold i32; omega
  refine eW_aload_n 1 rfl rfl rfl ?_
  refine eW_getfield 4 rfl rfl (Nat.ble_eq_true_of_le (by omega)) rfl hw.1 rfl ⟨rfl, fun _ h9 => nomatch h9⟩ ?_
  refine eW_callV 7 [.ref 1] [] [vI (gSum (fun j => gWays (gDig G) (G.1 j)) G.2.2.2.1.toNat)] rfl rfl rfl rfl (Nat.ble_eq_true_of_le (by omega)) hw.2.1.1 rfl rfl rfl (g_scoops (d := d + 1) hw.2.1 hG (by omega)) rfl rfl ?_
  refine eW_istore_n 8 rfl rfl [(1, vI (gSum (fun j => gWays (gDig G) (G.1 j)) G.2.2.2.1.toNat)), (0, .ref 0)] rfl rfl ?_
  refine eW_iload_n 9 rfl rfl rfl ?_
  refine eW_if_le 12 rfl rfl (by unfold i32; omega) (fun c1 => ?_) (fun c1 => ?_)
  · refine eW_aload_n 20 rfl rfl rfl ?_
    refine eW_getfield 23 rfl rfl (Nat.ble_eq_true_of_le (by omega)) rfl hw.1 rfl ⟨rfl, fun _ h9 => nomatch h9⟩ ?_
    refine eW_callVH 26 [.ref 1] [] [] rfl rfl rfl rfl (Nat.ble_eq_true_of_le (by omega)) hw.2.1.1 rfl rfl rfl (g_beginNext (d := d + 0) hw.2.1 hG (by omega) hT37 hI.2.1) rfl rfl ?_
    intro h2 fh2
    have oh2 := fh2.2
    have hwh2 : cW h2 X ((gNext G)) O Q ya yz Ks V S T := ⟨gX_k hw.1 (oh2 0 (by omega)), fh2.1, gG_k hw.2.2.1 (fun i _ _ => oh2 i (by omega)), gG_k hw.2.2.2.1 (fun i _ _ => oh2 i (by omega)), gH_k hw.2.2.2.2.1 (fun i _ _ => oh2 i (by omega)), gV_k hw.2.2.2.2.2.1 (fun i _ _ => oh2 i (by omega)), gS_k hw.2.2.2.2.2.2.1 (oh2 56 (by omega)), gT_k hw.2.2.2.2.2.2.2.1 (fun i _ _ => oh2 i (by omega)), gK_k hw.2.2.2.2.2.2.2.2 (fun i _ _ => oh2 i (by omega))⟩
    have frh2 : cFr h h2 := fun i hi => (oh2 i (by omega)).trans ((fun _ _ => rfl) i hi)
    refine eW_iconst 27 rfl rfl ?_
    refine eW_ret_i rfl rfl (Or.inl rfl) ?_
    have ho : oNxt G = (0, 0, 0, gNext G) := oNxt_f (by omega)
    rw [ho]
    exact ⟨_, rfl, S, hwh2, frh2⟩
  · refine eW_aload_n 13 rfl rfl rfl ?_
    refine eW_iconst 14 rfl rfl ?_
    refine eW_iload_n 15 rfl rfl rfl ?_
    refine eW_callVH 18 [.ref 0, vI 5, vI (gSum (fun j => gWays (gDig G) (G.1 j)) G.2.2.2.1.toNat)] [] [vI 3] rfl rfl rfl rfl (Nat.ble_eq_true_of_le (by omega)) hw.1 rfl rfl rfl (x_refuse (d := d + 4) hw.1 (by omega) (a := 5) (b := gSum (fun j => gWays (gDig G) (G.1 j)) G.2.2.2.1.toNat)) rfl rfl ?_
    intro h3 fh3
    have oh3 := fh3.2
    have hwh3 : cW h3 ((X.1, X.2.1, 5, gSum (fun j => gWays (gDig G) (G.1 j)) G.2.2.2.1.toNat)) G O Q ya yz Ks V S T := ⟨fh3.1, gG_k hw.2.1 (fun i _ _ => oh3 i (by omega)), gG_k hw.2.2.1 (fun i _ _ => oh3 i (by omega)), gG_k hw.2.2.2.1 (fun i _ _ => oh3 i (by omega)), gH_k hw.2.2.2.2.1 (fun i _ _ => oh3 i (by omega)), gV_k hw.2.2.2.2.2.1 (fun i _ _ => oh3 i (by omega)), gS_k hw.2.2.2.2.2.2.1 (oh3 56 (by omega)), gT_k hw.2.2.2.2.2.2.2.1 (fun i _ _ => oh3 i (by omega)), gK_k hw.2.2.2.2.2.2.2.2 (fun i _ _ => oh3 i (by omega))⟩
    have frh3 : cFr h h3 := fun i hi => (oh3 i (by omega)).trans ((fun _ _ => rfl) i hi)
    refine eW_ret_i rfl rfl (Or.inl rfl) ?_
    have ho : oNxt G = (3, 5, gSum (fun j => gWays (gDig G) (G.1 j)) G.2.2.2.1.toNat, G) := oNxt_r (by omega)
    rw [ho]
    exact ⟨_, rfl, S, hwh3, frh3⟩
