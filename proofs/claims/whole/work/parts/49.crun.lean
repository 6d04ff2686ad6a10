/-! the class carries out a text -/
theorem tKind_le {T : eTx} (hT : gTO T) (i : Int) : 0 ≤ tKind T i ∧ tKind T i ≤ 65535 := by
  unfold tKind
  cases h : decide (0 ≤ i ∧ i < 30) with
  | true => have := of_decide_eq_true h; exact hT.2.2.2.2.1 i.toNat (by omega)
  | false => exact ⟨(by decide : (0 : Int) ≤ 110), (by decide : (110 : Int) ≤ 65535)⟩
theorem oOth_32 {c : Int} {G : eGd} (hI : gI c G) {p t : Int} (ht : -1 ≤ t ∧ t ≤ 99) : 0 ≤ oOth G p t ∧ oOth G p t ≤ 41 := by
  have := gIn_le hI.1 p
  unfold oOth
  split <;> omega
theorem oLft_le {c : Int} {G : eGd} {T : eTx} (hI : gI c G) (hT : gTO T) (i : Int) : 0 ≤ oLft G T i ∧ oLft G T i ≤ 99 := by
  have h1 := oOth_32 hI (p := tNo T i 0) (tNo_le hT i 1)
  have h2 := tNo_le hT i 2
  unfold oLft
  split <;> omega
theorem gRn_clr {T : eTx} {z : Int} : ∀ (n : Nat) (i : Int) (G : eGd), gRn (T.1, T.2.1, T.2.2.1, z, T.2.2.2.2) n i G = gRn T n i G
  | 0, _, _ => rfl
  | n + 1, i, G => by
    show (match decide ((oOrd G T i).1 = 0) with | true => gRn (T.1, T.2.1, T.2.2.1, z, T.2.2.2.2) n (i + 1) (oOrd G T i).2.2.2 | false => oOrd G T i) = (match decide ((oOrd G T i).1 = 0) with | true => gRn T n (i + 1) (oOrd G T i).2.2.2 | false => oOrd G T i)
    rw [gRn_clr n (i + 1) (oOrd G T i).2.2.2]
theorem gTO_clr {T : eTx} (h : gTO T) : gTO (T.1, T.2.1, T.2.2.1, 0, T.2.2.2.2) := ⟨by show (0 : Int) ≤ 0 ∧ (0 : Int) ≤ 60; omega, h.2⟩
theorem oOrd_e (G : eGd) (T : eTx) (i : Int) : (oOrd G T i).1 = 0 ∨ (oOrd G T i).1 = 1 ∨ (oOrd G T i).1 = 2 ∨ (oOrd G T i).1 = 3 := by
  unfold oOrd
  split
  · have := oPit_e G (tNo T i 0); omega
  · split
    · have := oDig_e G (tNo T i 0) (tNo T i 1); omega
    · split
      · exact oScp_e _ _ _ _
      · have := oNxt_e G; omega
theorem gRn_e (T : eTx) : ∀ (n : Nat) (i : Int) (G : eGd), (gRn T n i G).1 = 0 ∨ (gRn T n i G).1 = 1 ∨ (gRn T n i G).1 = 2 ∨ (gRn T n i G).1 = 3
  | 0, _, _ => Or.inl rfl
  | n + 1, i, G => by
    by_cases he : (oOrd G T i).1 = 0
    · have e : gRn T (n + 1) i G = gRn T n (i + 1) (oOrd G T i).2.2.2 := by
        show (match decide ((oOrd G T i).1 = 0) with | true => gRn T n (i + 1) (oOrd G T i).2.2.2 | false => oOrd G T i) = _
        rw [decide_eq_true he]
      rw [e]; exact gRn_e T n (i + 1) (oOrd G T i).2.2.2
    · have e : gRn T (n + 1) i G = oOrd G T i := by
        show (match decide ((oOrd G T i).1 = 0) with | true => gRn T n (i + 1) (oOrd G T i).2.2.2 | false => oOrd G T i) = _
        rw [decide_eq_false he]
      rw [e]; exact oOrd_e G T i
theorem x_left {d N : Nat} {h : eHp} {X : eXs} {G O Q : eGd} {ya yz : Int} {Ks : Nat → eGd} {V : eVs} {S : Int × Int × Int} {T : eTx} (hw : cW h X G O Q ya yz Ks V S T) (hN : 75 ≤ N) {c : Int} (hI : gI c G) (ha : 0 ≤ ya ∧ ya < 8) (hz : 0 ≤ yz ∧ yz ≤ 8) (hTO : gTO T) {i : Int} (hi : i32 i) : eSp (d + 3) eM_X6_leftByOrder [.ref 0, vI i] N h (eRet (some (vI (oLft G T i))) N h) := by
  refine eSp_of [(0, .ref 0), (1, vI i)] rfl rfl ?_
  have hG := hI.1
  have hG9 := hG
  obtain ⟨g1, g2, g3, g4⟩ := hG9
  unfold i32 at hi
  refine eW_aload_n 1 rfl rfl rfl ?_
  refine eW_getfield 4 rfl rfl (Nat.ble_eq_true_of_le (by omega)) rfl hw.1 rfl ⟨rfl, fun _ h9 => nomatch h9⟩ ?_
  refine eW_iload_n 5 rfl rfl rfl ?_
  refine eW_iconst 6 rfl rfl ?_
  have hnoq1 := tNo_le hTO i 2
  refine eW_callV 9 [.ref 57, vI i, vI 2] [] [vI (tNo T i 2)] rfl rfl rfl rfl (Nat.ble_eq_true_of_le (by omega)) hw.2.2.2.2.2.2.2.1.1 rfl rfl rfl (t_number (d := d + 1) hw.2.2.2.2.2.2.2.1 hTO (by omega) (by unfold i32; omega) (by unfold i32; omega)) rfl rfl ?_
  refine eW_istore_n 10 rfl rfl [(2, vI (tNo T i 2)), (0, .ref 0), (1, vI i)] rfl rfl ?_
  refine eW_iload_n 11 rfl rfl rfl ?_
  refine eW_iconst 12 rfl rfl ?_
  refine eW_icmp_eq 15 rfl rfl (by unfold i32; omega) (by unfold i32; omega) (fun c2 => ?_) (fun c2 => ?_)
  · refine eW_aload_n 18 rfl rfl rfl ?_
    refine eW_getfield 21 rfl rfl (Nat.ble_eq_true_of_le (by omega)) rfl hw.1 rfl ⟨rfl, fun _ h9 => nomatch h9⟩ ?_
    refine eW_aload_n 22 rfl rfl rfl ?_
    refine eW_getfield 25 rfl rfl (Nat.ble_eq_true_of_le (by omega)) rfl hw.1 rfl ⟨rfl, fun _ h9 => nomatch h9⟩ ?_
    refine eW_iload_n 26 rfl rfl rfl ?_
    refine eW_iconst 27 rfl rfl ?_
    have hnoq3 := tNo_le hTO i 0
    refine eW_callV 30 [.ref 57, vI i, vI 0] [.ref 1] [vI (tNo T i 0), .ref 1] rfl rfl rfl rfl (Nat.ble_eq_true_of_le (by omega)) hw.2.2.2.2.2.2.2.1.1 rfl rfl rfl (t_number (d := d + 1) hw.2.2.2.2.2.2.2.1 hTO (by omega) (by unfold i32; omega) (by unfold i32; omega)) rfl rfl ?_
    have hinq4 := gIn_le hG (tNo T i 0)
    refine eW_callV 33 [.ref 1, vI (tNo T i 0)] [] [vI (gIn G (tNo T i 0))] rfl rfl rfl rfl (Nat.ble_eq_true_of_le (by omega)) hw.2.1.1 rfl rfl rfl (g_marblesIn (d := d + 0) hw.2.1 hG (by omega) (by unfold i32; omega)) rfl rfl ?_
    refine eW_aload_n 34 rfl rfl rfl ?_
    refine eW_getfield 37 rfl rfl (Nat.ble_eq_true_of_le (by omega)) rfl hw.1 rfl ⟨rfl, fun _ h9 => nomatch h9⟩ ?_
    refine eW_iload_n 38 rfl rfl rfl ?_
    refine eW_iconst 39 rfl rfl ?_
    have hnoq5 := tNo_le hTO i 1
    refine eW_callV 42 [.ref 57, vI i, vI 1] [vI (gIn G (tNo T i 0))] [vI (tNo T i 1), vI (gIn G (tNo T i 0))] rfl rfl rfl rfl (Nat.ble_eq_true_of_le (by omega)) hw.2.2.2.2.2.2.2.1.1 rfl rfl rfl (t_number (d := d + 1) hw.2.2.2.2.2.2.2.1 hTO (by omega) (by unfold i32; omega) (by unfold i32; omega)) rfl rfl ?_
    refine eW_isub 43 rfl rfl ?_
    refine eW_istore_n 44 rfl rfl [(3, vI ((gIn G (tNo T i 0)) - (tNo T i 1))), (2, vI (tNo T i 2)), (0, .ref 0), (1, vI i)] rfl rfl ?_
    refine eW_iload_n 45 rfl rfl rfl ?_
    refine eW_if_le 48 rfl rfl (by unfold i32; omega) (fun c6 => ?_) (fun c6 => ?_)
    · refine eW_iconst 53 rfl rfl ?_
      refine eW_ret_i rfl rfl (Or.inl rfl) ?_
      refine eRet_i ?_
      unfold oLft oOth
      first | (rw [if_neg (by omega)]; done) | (rw [if_neg (by omega)]) | (rw [if_pos (by omega), if_pos (by omega)]) | (rw [if_pos (by omega), if_neg (by omega)])
    · refine eW_iload_n 49 rfl rfl rfl ?_
      refine eW_goto rfl ?_
      refine eW_ret_i rfl rfl (Or.inl rfl) ?_
      refine eRet_i ?_
      unfold oLft oOth
      first | (rw [if_neg (by omega)]; done) | (rw [if_neg (by omega)]) | (rw [if_pos (by omega), if_pos (by omega)]) | (rw [if_pos (by omega), if_neg (by omega)])
  · refine eW_iload_n 16 rfl rfl rfl ?_
    refine eW_ret_i rfl rfl (Or.inl rfl) ?_
    refine eRet_i ?_
    unfold oLft oOth
    first | (rw [if_neg (by omega)]; done) | (rw [if_neg (by omega)]) | (rw [if_pos (by omega), if_pos (by omega)]) | (rw [if_pos (by omega), if_neg (by omega)])
theorem x_order {d N : Nat} {h : eHp} {X : eXs} {G O Q : eGd} {ya yz : Int} {Ks : Nat → eGd} {V : eVs} {S : Int × Int × Int} {T : eTx} (hw : cW h X G O Q ya yz Ks V S T) (hN : 75 ≤ N) {c : Int} (hI : gI c G) (ha : 0 ≤ ya ∧ ya < 8) (hz : 0 ≤ yz ∧ yz ≤ 8) (hTO : gTO T) (hc : c ≤ 16000) {i : Int} (hi : i32 i) : eSp (d + 7) eM_X6_tryOrder [.ref 0, vI i] N h (eChg (some (vI (oOrd G T i).1)) N (fun h' => ∃ S', cW h' (oX X (oOrd G T i)) (oOrd G T i).2.2.2 O Q ya yz Ks V S' T ∧ cFr h h')) := by
  refine eSp_of [(0, .ref 0), (1, vI i)] rfl rfl ?_
  have hG := hI.1
  have hG9 := hG
  obtain ⟨g1, g2, g3, g4⟩ := hG9
  unfold i32 at hi
  refine eW_aload_n 1 rfl rfl rfl ?_
  refine eW_getfield 4 rfl rfl (Nat.ble_eq_true_of_le (by omega)) rfl hw.1 rfl ⟨rfl, fun _ h9 => nomatch h9⟩ ?_
  refine eW_iload_n 5 rfl rfl rfl ?_
  refine eW_iconst 6 rfl rfl ?_
  have hnoq1 := tNo_le hTO i 0
  refine eW_callV 9 [.ref 57, vI i, vI 0] [] [vI (tNo T i 0)] rfl rfl rfl rfl (Nat.ble_eq_true_of_le (by omega)) hw.2.2.2.2.2.2.2.1.1 rfl rfl rfl (t_number (d := d + 5) hw.2.2.2.2.2.2.2.1 hTO (by omega) (by unfold i32; omega) (by unfold i32; omega)) rfl rfl ?_
  refine eW_istore_n 10 rfl rfl [(2, vI (tNo T i 0)), (0, .ref 0), (1, vI i)] rfl rfl ?_
  refine eW_aload_n 11 rfl rfl rfl ?_
  refine eW_getfield 14 rfl rfl (Nat.ble_eq_true_of_le (by omega)) rfl hw.1 rfl ⟨rfl, fun _ h9 => nomatch h9⟩ ?_
  refine eW_iload_n 15 rfl rfl rfl ?_
  refine eW_iconst 16 rfl rfl ?_
  have hnoq2 := tNo_le hTO i 1
  refine eW_callV 19 [.ref 57, vI i, vI 1] [] [vI (tNo T i 1)] rfl rfl rfl rfl (Nat.ble_eq_true_of_le (by omega)) hw.2.2.2.2.2.2.2.1.1 rfl rfl rfl (t_number (d := d + 5) hw.2.2.2.2.2.2.2.1 hTO (by omega) (by unfold i32; omega) (by unfold i32; omega)) rfl rfl ?_
  refine eW_istore_n 20 rfl rfl [(3, vI (tNo T i 1)), (2, vI (tNo T i 0)), (0, .ref 0), (1, vI i)] rfl rfl ?_
  refine eW_aload_n 21 rfl rfl rfl ?_
  refine eW_getfield 24 rfl rfl (Nat.ble_eq_true_of_le (by omega)) rfl hw.1 rfl ⟨rfl, fun _ h9 => nomatch h9⟩ ?_
  refine eW_iload_n 25 rfl rfl rfl ?_
  have hkl := tKind_le hTO i
  refine eW_callV 28 [.ref 57, vI i] [] [vI (tKind T i)] rfl rfl rfl rfl (Nat.ble_eq_true_of_le (by omega)) hw.2.2.2.2.2.2.2.1.1 rfl rfl rfl (t_kind (d := d + 5) hw.2.2.2.2.2.2.2.1 hTO (by omega) (by unfold i32; omega)) rfl rfl ?_
  by_cases c3 : (tKind T i) = 99
  · refine eW_lookup 70 rfl (by unfold eSwL; rw [ofInt_toInt32 (by unfold i32; omega)]; show ((28 : Nat) : Int) + Op.lookupswitch.offset [(99, 42), (112, 36), (115, 49)] 61 (tKind T i) = _; rw [Op.lookupswitch.offset_cons, if_pos (by omega)]; rfl) ?_
    refine eW_aload_n 71 rfl rfl rfl ?_
    refine eW_iload_n 72 rfl rfl rfl ?_
    refine eW_iload_n 73 rfl rfl rfl ?_
    have hend := oDig_e G (tNo T i 0) (tNo T i 1)
    refine eW_callVH 76 [.ref 0, vI (tNo T i 0), vI (tNo T i 1)] [] [vI ((oDig G (tNo T i 0) (tNo T i 1)).1)] rfl rfl rfl rfl (Nat.ble_eq_true_of_le (by omega)) hw.1 rfl rfl rfl (x_tryDigit (d := d + 4) hw hN hI ha hz hTO (by unfold i32; omega) (by unfold i32; omega)) rfl rfl ?_
    intro h4 fh4
    obtain ⟨S1, hwh4, gh4⟩ := fh4
    have hwh4 : cW h4 ((oX X (oDig G (tNo T i 0) (tNo T i 1)))) ((oDig G (tNo T i 0) (tNo T i 1)).2.2.2) O Q ya yz Ks V S1 T := hwh4
    have frh4 : cFr h h4 := fun i hi => (gh4 i hi).trans ((fun _ _ => rfl) i hi)
    refine eW_ret_i rfl rfl (Or.inl rfl) ?_
    have ho : oOrd G T i = oDig G (tNo T i 0) (tNo T i 1) := by unfold oOrd; repeat (first | rw [if_pos (by omega)] | rw [if_neg (by omega)])
    rw [ho]
    exact ⟨_, rfl, S1, hwh4, frh4⟩
  · by_cases c5 : (tKind T i) = 112
    · refine eW_lookup 64 rfl (by unfold eSwL; rw [ofInt_toInt32 (by unfold i32; omega)]; show ((28 : Nat) : Int) + Op.lookupswitch.offset [(99, 42), (112, 36), (115, 49)] 61 (tKind T i) = _; rw [Op.lookupswitch.offset_cons, if_neg (by omega), Op.lookupswitch.offset_cons, if_pos (by omega)]; rfl) ?_
      refine eW_aload_n 65 rfl rfl rfl ?_
      refine eW_iload_n 66 rfl rfl rfl ?_
      have hend := oPit_e G (tNo T i 0)
      refine eW_callVH 69 [.ref 0, vI (tNo T i 0)] [] [vI ((oPit G (tNo T i 0)).1)] rfl rfl rfl rfl (Nat.ble_eq_true_of_le (by omega)) hw.1 rfl rfl rfl (x_tryPit (d := d + 2) hw hN hI ha hz hTO (by unfold i32; omega)) rfl rfl ?_
      intro h6 fh6
      obtain ⟨S1, hwh6, gh6⟩ := fh6
      have hwh6 : cW h6 ((oX X (oPit G (tNo T i 0)))) ((oPit G (tNo T i 0)).2.2.2) O Q ya yz Ks V S1 T := hwh6
      have frh6 : cFr h h6 := fun i hi => (gh6 i hi).trans ((fun _ _ => rfl) i hi)
      refine eW_ret_i rfl rfl (Or.inl rfl) ?_
      have ho : oOrd G T i = oPit G (tNo T i 0) := by unfold oOrd; repeat (first | rw [if_pos (by omega)] | rw [if_neg (by omega)])
      rw [ho]
      exact ⟨_, rfl, S1, hwh6, frh6⟩
    · by_cases c7 : (tKind T i) = 115
      · refine eW_lookup 77 rfl (by unfold eSwL; rw [ofInt_toInt32 (by unfold i32; omega)]; show ((28 : Nat) : Int) + Op.lookupswitch.offset [(99, 42), (112, 36), (115, 49)] 61 (tKind T i) = _; rw [Op.lookupswitch.offset_cons, if_neg (by omega), Op.lookupswitch.offset_cons, if_neg (by omega), Op.lookupswitch.offset_cons, if_pos (by omega)]; rfl) ?_
        refine eW_aload_n 78 rfl rfl rfl ?_
        refine eW_iload_n 79 rfl rfl rfl ?_
        refine eW_iload_n 80 rfl rfl rfl ?_
        refine eW_aload_n 81 rfl rfl rfl ?_
        refine eW_iload_n 82 rfl rfl rfl ?_
        have hlf := oLft_le hI hTO i
        refine eW_callV 85 [.ref 0, vI i] [vI (tNo T i 1), vI (tNo T i 0), .ref 0] [vI (oLft G T i), vI (tNo T i 1), vI (tNo T i 0), .ref 0] rfl rfl rfl rfl (Nat.ble_eq_true_of_le (by omega)) hw.1 rfl rfl rfl (x_left (d := d + 3) hw hN hI ha hz hTO (by unfold i32; omega)) rfl rfl ?_
        have hend := oScp_e G (tNo T i 0) (tNo T i 1) (oLft G T i)
        refine eW_callVH 88 [.ref 0, vI (tNo T i 0), vI (tNo T i 1), vI (oLft G T i)] [] [vI ((oScp G (tNo T i 0) (tNo T i 1) (oLft G T i)).1)] rfl rfl rfl rfl (Nat.ble_eq_true_of_le (by omega)) hw.1 rfl rfl rfl (x_tryScoop (d := d + 2) hw hN hI ha hz hTO (by unfold i32; omega) (by unfold i32; omega) (by unfold i32; omega)) rfl rfl ?_
        intro h8 fh8
        obtain ⟨S1, hwh8, gh8⟩ := fh8
        have hwh8 : cW h8 ((oX X (oScp G (tNo T i 0) (tNo T i 1) (oLft G T i)))) ((oScp G (tNo T i 0) (tNo T i 1) (oLft G T i)).2.2.2) O Q ya yz Ks V S1 T := hwh8
        have frh8 : cFr h h8 := fun i hi => (gh8 i hi).trans ((fun _ _ => rfl) i hi)
        refine eW_ret_i rfl rfl (Or.inl rfl) ?_
        have ho : oOrd G T i = oScp G (tNo T i 0) (tNo T i 1) (oLft G T i) := by unfold oOrd; repeat (first | rw [if_pos (by omega)] | rw [if_neg (by omega)])
        rw [ho]
        exact ⟨_, rfl, S1, hwh8, frh8⟩
      · refine eW_lookup 89 rfl (by unfold eSwL; rw [ofInt_toInt32 (by unfold i32; omega)]; show ((28 : Nat) : Int) + Op.lookupswitch.offset [(99, 42), (112, 36), (115, 49)] 61 (tKind T i) = _; rw [Op.lookupswitch.offset_cons, if_neg (by omega), Op.lookupswitch.offset_cons, if_neg (by omega), Op.lookupswitch.offset_cons, if_neg (by omega), Op.lookupswitch.offset_nil]; rfl) ?_
        refine eW_aload_n 90 rfl rfl rfl ?_
        have hend := oNxt_e G
        refine eW_callVH 93 [.ref 0] [] [vI ((oNxt G).1)] rfl rfl rfl rfl (Nat.ble_eq_true_of_le (by omega)) hw.1 rfl rfl rfl (x_tryNext (d := d + 0) hw hN hI ha hz hTO hc) rfl rfl ?_
        intro h10 fh10
        obtain ⟨S1, hwh10, gh10⟩ := fh10
        have hwh10 : cW h10 ((oX X (oNxt G))) ((oNxt G).2.2.2) O Q ya yz Ks V S1 T := hwh10
        have frh10 : cFr h h10 := fun i hi => (gh10 i hi).trans ((fun _ _ => rfl) i hi)
        refine eW_ret_i rfl rfl (Or.inl rfl) ?_
        have ho : oOrd G T i = oNxt G := by unfold oOrd; repeat (first | rw [if_pos (by omega)] | rw [if_neg (by omega)])
        rw [ho]
        exact ⟨_, rfl, S1, hwh10, frh10⟩
theorem x_orders_l {d N : Nat} {h0 : eHp} {X : eXs} {O Q : eGd} {ya yz : Int} {Ks : Nat → eGd} {V : eVs} {T : eTx} (hN : 75 ≤ N) {c : Int} (ha : 0 ≤ ya ∧ ya < 8) (hz : 0 ≤ yz ∧ yz ≤ 8) (hTO : gTO T) (hc : c + 30 ≤ 16000) {RR : gO} : ∀ (m9 : Nat) (i : Int) (G1 : eGd) (S1 : Int × Int × Int) (h : eHp), T.2.2.2.2.2 - i ≤ m9 → 0 ≤ i ∧ i ≤ T.2.2.2.2.2 → cW h X G1 O Q ya yz Ks V S1 T → cFr h0 h → gI (c + i) G1 → gRn T (T.2.2.2.2.2 - i).toNat i G1 = RR → eWp eOx (eEv (d + 7)) eM_X6_tryOrders (2, [(0, .ref 0), (1, vI i)], [], N, h, 0, 0) (eChg (some (vI RR.1)) N (fun h' => ∃ S' G', cW h' (oX X RR) G' O Q ya yz Ks V S' T ∧ cFr h0 h' ∧ (RR.1 = 0 → G' = RR.2.2.2) ∧ (RR.1 ≠ 0 → ∃ G2, G' = gBec O G2))) := by
  intro m9
  induction m9 with
  | zero =>
    intro i G1 S1 h hm9 q0 q1 q2 q3 q4
    have hn30 := hTO.2.2.1
    refine eW_iload_n 3 rfl rfl rfl ?_
    refine eW_aload_n 4 rfl rfl rfl ?_
    refine eW_getfield 7 rfl rfl (Nat.ble_eq_true_of_le (by omega)) rfl q1.1 rfl ⟨rfl, fun _ h9 => nomatch h9⟩ ?_
    refine eW_callV 10 [.ref 57] [vI i] [vI T.2.2.2.2.2, vI i] rfl rfl rfl rfl (Nat.ble_eq_true_of_le (by omega)) q1.2.2.2.2.2.2.2.1.1 rfl rfl rfl (t_orders (d := d + 6) q1.2.2.2.2.2.2.2.1 hTO (by omega)) rfl rfl ?_
    refine eW_icmp_ge 13 rfl rfl (by unfold i32; omega) (by unfold i32; omega) (fun c1 => ?_) (fun c1 => ?_)
    · refine eW_iconst 43 rfl rfl ?_
      refine eW_ret_i rfl rfl (Or.inl rfl) ?_
      have hR : RR = (0, 0, 0, G1) := by rw [← q4, gRn_0 (by omega)]
      rw [hR]
      exact ⟨_, rfl, S1, G1, by rw [oX_n (show (0 : Int) ≠ 3 by decide)]; exact q1, q2, fun _ => rfl, fun e => absurd rfl e⟩
    · refine eW_aload_n 14 rfl rfl rfl ?_
      refine eW_iload_n 15 rfl rfl rfl ?_
      have hoe := oOrd_e G1 T i
      refine eW_callVH 18 [.ref 0, vI i] [] [vI ((oOrd G1 T i).1)] rfl rfl rfl rfl (Nat.ble_eq_true_of_le (by omega)) q1.1 rfl rfl rfl (x_order (d := d + 0) q1 hN q3 ha hz hTO (by omega) (by unfold i32; omega)) rfl rfl ?_
      intro h2 fh2
      obtain ⟨S2, hwh2, gh2⟩ := fh2
      have hwh2 : cW h2 ((oX X (oOrd G1 T i))) ((oOrd G1 T i).2.2.2) O Q ya yz Ks V S2 T := hwh2
      have frh2 : cFr h0 h2 := fun i hi => (gh2 i hi).trans (q2 i hi)
      refine eW_istore_n 19 rfl rfl [(2, vI ((oOrd G1 T i).1)), (0, .ref 0), (1, vI i)] rfl rfl ?_
      refine eW_iload_n 20 rfl rfl rfl ?_
      refine eW_if_eq 23 rfl rfl (by unfold i32; omega) (fun c3 => ?_) (fun c3 => ?_)
      · refine eW_iinc 39 rfl rfl [(1, vI (i + 1)), (2, vI ((oOrd G1 T i).1)), (0, .ref 0)] rfl rfl rfl ?_
        refine eW_goto rfl ?_
        refine eW_re [(0, .ref 0), (1, vI (i + 1))] rfl rfl (List.forall_mem_cons.mpr ⟨rfl, List.forall_mem_cons.mpr ⟨rfl, fun _ h => absurd h List.not_mem_nil⟩⟩) (List.forall_mem_cons.mpr ⟨Or.inl rfl, List.forall_mem_cons.mpr ⟨Or.inr ⟨_, rfl⟩, List.forall_mem_cons.mpr ⟨Or.inl rfl, fun _ h => absurd h List.not_mem_nil⟩⟩⟩) ?_
        exact absurd hm9 (by omega)
      · refine eW_aload_n 24 rfl rfl rfl ?_
        refine eW_getfield 27 rfl rfl (Nat.ble_eq_true_of_le (by omega)) rfl hwh2.1 rfl ⟨rfl, fun _ h9 => nomatch h9⟩ ?_
        refine eW_aload_n 28 rfl rfl rfl ?_
        refine eW_getfield 31 rfl rfl (Nat.ble_eq_true_of_le (by omega)) rfl hwh2.1 rfl ⟨rfl, fun _ h9 => nomatch h9⟩ ?_
        refine eW_callVH 34 [.ref 1, .ref 5] [] [] rfl rfl rfl rfl (Nat.ble_eq_true_of_le (by omega)) hwh2.2.1.1 rfl rfl rfl (g_become (d := d + 6) (g := 1) (o := 5) hwh2.2.1 (by omega) hwh2.2.2.1 (by omega) (by omega)) rfl rfl ?_
        intro h4 fh4
        have oh4 := fh4.2
        have hwh4 : cW h4 ((oX X (oOrd G1 T i))) ((gBec O ((oOrd G1 T i).2.2.2))) O Q ya yz Ks V S2 T := ⟨gX_k hwh2.1 (oh4 0 (by omega)), fh4.1, gG_k hwh2.2.2.1 (fun i _ _ => oh4 i (by omega)), gG_k hwh2.2.2.2.1 (fun i _ _ => oh4 i (by omega)), gH_k hwh2.2.2.2.2.1 (fun i _ _ => oh4 i (by omega)), gV_k hwh2.2.2.2.2.2.1 (fun i _ _ => oh4 i (by omega)), gS_k hwh2.2.2.2.2.2.2.1 (oh4 56 (by omega)), gT_k hwh2.2.2.2.2.2.2.2.1 (fun i _ _ => oh4 i (by omega)), gK_k hwh2.2.2.2.2.2.2.2.2 (fun i _ _ => oh4 i (by omega))⟩
        have frh4 : cFr h0 h4 := fun i hi => (oh4 i (by omega)).trans (frh2 i hi)
        refine eW_iload_n 35 rfl rfl rfl ?_
        refine eW_ret_i rfl rfl (Or.inl rfl) ?_
        have he : (oOrd G1 T i).1 ≠ 0 := by omega
        have hR : RR = oOrd G1 T i := by rw [← q4, gRn_f (by omega) he]
        rw [hR]
        exact ⟨_, rfl, S2, _, hwh4, frh4, fun e => absurd e he, fun _ => ⟨_, rfl⟩⟩
  | succ m9 ih =>
    intro i G1 S1 h hm9 q0 q1 q2 q3 q4
    have hn30 := hTO.2.2.1
    refine eW_iload_n 3 rfl rfl rfl ?_
    refine eW_aload_n 4 rfl rfl rfl ?_
    refine eW_getfield 7 rfl rfl (Nat.ble_eq_true_of_le (by omega)) rfl q1.1 rfl ⟨rfl, fun _ h9 => nomatch h9⟩ ?_
    refine eW_callV 10 [.ref 57] [vI i] [vI T.2.2.2.2.2, vI i] rfl rfl rfl rfl (Nat.ble_eq_true_of_le (by omega)) q1.2.2.2.2.2.2.2.1.1 rfl rfl rfl (t_orders (d := d + 6) q1.2.2.2.2.2.2.2.1 hTO (by omega)) rfl rfl ?_
    refine eW_icmp_ge 13 rfl rfl (by unfold i32; omega) (by unfold i32; omega) (fun c1 => ?_) (fun c1 => ?_)
    · refine eW_iconst 43 rfl rfl ?_
      refine eW_ret_i rfl rfl (Or.inl rfl) ?_
      have hR : RR = (0, 0, 0, G1) := by rw [← q4, gRn_0 (by omega)]
      rw [hR]
      exact ⟨_, rfl, S1, G1, by rw [oX_n (show (0 : Int) ≠ 3 by decide)]; exact q1, q2, fun _ => rfl, fun e => absurd rfl e⟩
    · refine eW_aload_n 14 rfl rfl rfl ?_
      refine eW_iload_n 15 rfl rfl rfl ?_
      have hoe := oOrd_e G1 T i
      refine eW_callVH 18 [.ref 0, vI i] [] [vI ((oOrd G1 T i).1)] rfl rfl rfl rfl (Nat.ble_eq_true_of_le (by omega)) q1.1 rfl rfl rfl (x_order (d := d + 0) q1 hN q3 ha hz hTO (by omega) (by unfold i32; omega)) rfl rfl ?_
      intro h2 fh2
      obtain ⟨S2, hwh2, gh2⟩ := fh2
      have hwh2 : cW h2 ((oX X (oOrd G1 T i))) ((oOrd G1 T i).2.2.2) O Q ya yz Ks V S2 T := hwh2
      have frh2 : cFr h0 h2 := fun i hi => (gh2 i hi).trans (q2 i hi)
      refine eW_istore_n 19 rfl rfl [(2, vI ((oOrd G1 T i).1)), (0, .ref 0), (1, vI i)] rfl rfl ?_
      refine eW_iload_n 20 rfl rfl rfl ?_
      refine eW_if_eq 23 rfl rfl (by unfold i32; omega) (fun c3 => ?_) (fun c3 => ?_)
      · refine eW_iinc 39 rfl rfl [(1, vI (i + 1)), (2, vI ((oOrd G1 T i).1)), (0, .ref 0)] rfl rfl rfl ?_
        refine eW_goto rfl ?_
        refine eW_re [(0, .ref 0), (1, vI (i + 1))] rfl rfl (List.forall_mem_cons.mpr ⟨rfl, List.forall_mem_cons.mpr ⟨rfl, fun _ h => absurd h List.not_mem_nil⟩⟩) (List.forall_mem_cons.mpr ⟨Or.inl rfl, List.forall_mem_cons.mpr ⟨Or.inr ⟨_, rfl⟩, List.forall_mem_cons.mpr ⟨Or.inl rfl, fun _ h => absurd h List.not_mem_nil⟩⟩⟩) ?_
        have he : (oOrd G1 T i).1 = 0 := by omega
        have hw9 := hwh2
        rw [oX_n (show (oOrd G1 T i).1 ≠ 3 by omega)] at hw9
        refine ih (i + 1) (oOrd G1 T i).2.2.2 S2 h2 (by omega) (by omega) hw9 frh2 (by rw [← Int.add_assoc]; exact gI_oOrd q3 T i) ?_
        rw [← q4, gRn_t (by omega) he, show T.2.2.2.2.2 - i - 1 = T.2.2.2.2.2 - (i + 1) by omega]
      · refine eW_aload_n 24 rfl rfl rfl ?_
        refine eW_getfield 27 rfl rfl (Nat.ble_eq_true_of_le (by omega)) rfl hwh2.1 rfl ⟨rfl, fun _ h9 => nomatch h9⟩ ?_
        refine eW_aload_n 28 rfl rfl rfl ?_
        refine eW_getfield 31 rfl rfl (Nat.ble_eq_true_of_le (by omega)) rfl hwh2.1 rfl ⟨rfl, fun _ h9 => nomatch h9⟩ ?_
        refine eW_callVH 34 [.ref 1, .ref 5] [] [] rfl rfl rfl rfl (Nat.ble_eq_true_of_le (by omega)) hwh2.2.1.1 rfl rfl rfl (g_become (d := d + 6) (g := 1) (o := 5) hwh2.2.1 (by omega) hwh2.2.2.1 (by omega) (by omega)) rfl rfl ?_
        intro h4 fh4
        have oh4 := fh4.2
        have hwh4 : cW h4 ((oX X (oOrd G1 T i))) ((gBec O ((oOrd G1 T i).2.2.2))) O Q ya yz Ks V S2 T := ⟨gX_k hwh2.1 (oh4 0 (by omega)), fh4.1, gG_k hwh2.2.2.1 (fun i _ _ => oh4 i (by omega)), gG_k hwh2.2.2.2.1 (fun i _ _ => oh4 i (by omega)), gH_k hwh2.2.2.2.2.1 (fun i _ _ => oh4 i (by omega)), gV_k hwh2.2.2.2.2.2.1 (fun i _ _ => oh4 i (by omega)), gS_k hwh2.2.2.2.2.2.2.1 (oh4 56 (by omega)), gT_k hwh2.2.2.2.2.2.2.2.1 (fun i _ _ => oh4 i (by omega)), gK_k hwh2.2.2.2.2.2.2.2.2 (fun i _ _ => oh4 i (by omega))⟩
        have frh4 : cFr h0 h4 := fun i hi => (oh4 i (by omega)).trans (frh2 i hi)
        refine eW_iload_n 35 rfl rfl rfl ?_
        refine eW_ret_i rfl rfl (Or.inl rfl) ?_
        have he : (oOrd G1 T i).1 ≠ 0 := by omega
        have hR : RR = oOrd G1 T i := by rw [← q4, gRn_f (by omega) he]
        rw [hR]
        exact ⟨_, rfl, S2, _, hwh4, frh4, fun e => absurd e he, fun _ => ⟨_, rfl⟩⟩
theorem x_orders {d N : Nat} {h : eHp} {X : eXs} {G O Q : eGd} {ya yz : Int} {Ks : Nat → eGd} {V : eVs} {S : Int × Int × Int} {T : eTx} (hw : cW h X G O Q ya yz Ks V S T) (hN : 75 ≤ N) {c : Int} (hI : gI c G) (ha : 0 ≤ ya ∧ ya < 8) (hz : 0 ≤ yz ∧ yz ≤ 8) (hTO : gTO T) (hc : c + 30 ≤ 16000) : eSp (d + 8) eM_X6_tryOrders [.ref 0] N h (eChg (some (vI (gRn T T.2.2.2.2.2.toNat 0 G).1)) N (fun h' => ∃ S' G', cW h' (oX X (gRn T T.2.2.2.2.2.toNat 0 G)) G' O Q ya yz Ks V S' T ∧ cFr h h' ∧ ((gRn T T.2.2.2.2.2.toNat 0 G).1 = 0 → G' = (gRn T T.2.2.2.2.2.toNat 0 G).2.2.2) ∧ ((gRn T T.2.2.2.2.2.toNat 0 G).1 ≠ 0 → ∃ G2, G' = gBec O G2))) := by
  refine eSp_of [(0, .ref 0)] rfl rfl ?_
  have hG := hI.1
  have hG9 := hG
  obtain ⟨g1, g2, g3, g4⟩ := hG9
  refine eW_iconst 1 rfl rfl ?_
  refine eW_istore_n 2 rfl rfl [(1, vI 0), (0, .ref 0)] rfl rfl ?_
  refine eW_re [(0, .ref 0), (1, vI 0)] rfl rfl (List.forall_mem_cons.mpr ⟨rfl, List.forall_mem_cons.mpr ⟨rfl, fun _ h => absurd h List.not_mem_nil⟩⟩) (List.forall_mem_cons.mpr ⟨Or.inl rfl, List.forall_mem_cons.mpr ⟨Or.inl rfl, fun _ h => absurd h List.not_mem_nil⟩⟩) ?_
  exact x_orders_l (h0 := h) hN ha hz hTO hc _ 0 G S h (Int.self_le_toNat _) (by have := hTO.2.2.1; omega) hw (fun _ _ => rfl) (by rw [Int.add_zero]; exact hI) (by rw [Int.sub_zero])
/-- how a text ends -/
def oRun (G : eGd) (T : eTx) : gO := match (tRead T).1 with | true => gRn (tRead T).2 (tRead T).2.2.2.2.2.2.toNat 0 G | false => (2, 0, 0, G)
theorem oRun_t {G : eGd} {T : eTx} (h : (tRead T).1 = true) : oRun G T = gRn (tRead T).2 (tRead T).2.2.2.2.2.2.toNat 0 G := by unfold oRun; rw [h]
theorem oRun_f {G : eGd} {T : eTx} (h : (tRead T).1 = false) : oRun G T = (2, 0, 0, G) := by unfold oRun; rw [h]
theorem oRun_e (G : eGd) (T : eTx) : (oRun G T).1 = 0 ∨ (oRun G T).1 = 1 ∨ (oRun G T).1 = 2 ∨ (oRun G T).1 = 3 := by
  unfold oRun
  split
  · exact gRn_e _ _ _ _
  · exact Or.inr (Or.inr (Or.inl rfl))
def aRn (e v : Int) : Int ⊕ String := if e = 0 then .inl v else if e = 3 then .inr nUOE else .inr nIAE
theorem tPos_c {r : Bool × eTx} (h : gTO r.2) : (r.1 = true ∧ tPos r = -1) ∨ (r.1 = false ∧ 0 ≤ tPos r ∧ tPos r ≤ 60) := by
  unfold tPos
  cases r.1 with
  | true => exact Or.inl ⟨rfl, rfl⟩
  | false => exact Or.inr ⟨rfl, h.2.1⟩
theorem x_run {d N : Nat} {h : eHp} {X : eXs} {G O Q : eGd} {ya yz : Int} {Ks : Nat → eGd} {V : eVs} {S : Int × Int × Int} {T : eTx} (hw : cW h X G O Q ya yz Ks V S T) (hN : 75 ≤ N) {c : Int} (hI : gI c G) (hVG : gVG V G) (ha : 0 ≤ ya ∧ ya < 8) (hz : 0 ≤ yz ∧ yz ≤ 8) (hTO : gTO T) (hc : c + 30 ≤ 16000) : eSp (d + 9) eM_X6_run [.ref 0] N h (cA (aRn (oRun G T).1 (tRead T).2.2.2.2.2.2) N h (fun h' => ∃ G' O' S' V', cW h' (oX (X.1, tPos (tRead T), X.2.2.1, X.2.2.2) (oRun G T)) G' O' Q (kE (oRun G T).1 ya yz Ks (gBec G O)).1 (kE (oRun G T).1 ya yz Ks (gBec G O)).2.1 (kE (oRun G T).1 ya yz Ks (gBec G O)).2.2 V' S' ((tRead T).2.1, (tRead T).2.2.1, (tRead T).2.2.2.1, 0, (tRead T).2.2.2.2.2) ∧ gVG V' G' ∧ gTO ((tRead T).2.1, (tRead T).2.2.1, (tRead T).2.2.2.1, 0, (tRead T).2.2.2.2.2) ∧ ((oRun G T).1 = 0 → G' = (oRun G T).2.2.2) ∧ ((oRun G T).1 ≠ 0 → gE G G'))) := by
  refine eSp_of [(0, .ref 0)] rfl rfl ?_
  have hG := hI.1
  have hG9 := hG
  obtain ⟨g1, g2, g3, g4⟩ := hG9
  have hV := hVG.1.1
  have hVD := hVG.1
  refine eW_aload_n 1 rfl rfl rfl ?_
  refine eW_aload_n 2 rfl rfl rfl ?_
  refine eW_getfield 5 rfl rfl (Nat.ble_eq_true_of_le (by omega)) rfl hw.1 rfl ⟨rfl, fun _ h9 => nomatch h9⟩ ?_
  refine eW_callVH 8 [.ref 57] [.ref 0] [vI (tPos (tRead T)), .ref 0] rfl rfl rfl rfl (Nat.ble_eq_true_of_le (by omega)) hw.2.2.2.2.2.2.2.1.1 rfl rfl rfl (t_read (d := d + 2) hw.2.2.2.2.2.2.2.1 hTO (by omega)) rfl rfl ?_
  intro h1 fh1
  have oh1 := fh1.2.2
  have hTR := fh1.2.1
  have hpc := tPos_c hTR
  have hTC := gTO_clr hTR
  have hwh1 : cW h1 X G O Q ya yz Ks V S ((tRead T).2) := ⟨gX_k hw.1 (oh1 0 (by omega)), gG_k hw.2.1 (fun i _ _ => oh1 i (by omega)), gG_k hw.2.2.1 (fun i _ _ => oh1 i (by omega)), gG_k hw.2.2.2.1 (fun i _ _ => oh1 i (by omega)), gH_k hw.2.2.2.2.1 (fun i _ _ => oh1 i (by omega)), gV_k hw.2.2.2.2.2.1 (fun i _ _ => oh1 i (by omega)), gS_k hw.2.2.2.2.2.2.1 (oh1 56 (by omega)), fh1.1, gK_k hw.2.2.2.2.2.2.2.2 (fun i _ _ => oh1 i (by omega))⟩
  have frh1 : cFr h h1 := fun i hi => (oh1 i (by omega)).trans ((fun _ _ => rfl) i hi)
  refine eW_putfield 11 [.ref 1, .ref 5, .ref 9, .ref 13, .ref 47, .ref 53, .ref 56, .ref 57, .ref 61, vI X.1, vI (tPos (tRead T)), vI X.2.2.1, vI X.2.2.2] rfl rfl (Nat.ble_eq_true_of_le (by omega)) rfl hwh1.1 rfl rfl ?_
  intro h2 eh2 oh2
  have hwh2 : cW h2 ((X.1, tPos (tRead T), X.2.2.1, X.2.2.2)) G O Q ya yz Ks V S ((tRead T).2) := ⟨eh2, gG_k hwh1.2.1 (fun i _ _ => oh2 i (by omega)), gG_k hwh1.2.2.1 (fun i _ _ => oh2 i (by omega)), gG_k hwh1.2.2.2.1 (fun i _ _ => oh2 i (by omega)), gH_k hwh1.2.2.2.2.1 (fun i _ _ => oh2 i (by omega)), gV_k hwh1.2.2.2.2.2.1 (fun i _ _ => oh2 i (by omega)), gS_k hwh1.2.2.2.2.2.2.1 (oh2 56 (by omega)), gT_k hwh1.2.2.2.2.2.2.2.1 (fun i _ _ => oh2 i (by omega)), gK_k hwh1.2.2.2.2.2.2.2.2 (fun i _ _ => oh2 i (by omega))⟩
  have frh2 : cFr h h2 := fun i hi => (oh2 i (by omega)).trans (frh1 i hi)
  refine eW_aload_n 12 rfl rfl rfl ?_
  refine eW_getfield 15 rfl rfl (Nat.ble_eq_true_of_le (by omega)) rfl (show h2 0 = .inr (10, [.ref 1, .ref 5, .ref 9, .ref 13, .ref 47, .ref 53, .ref 56, .ref 57, .ref 61, vI X.1, vI (tPos (tRead T)), vI X.2.2.1, vI X.2.2.2]) from hwh2.1) rfl ⟨rfl, fun _ h9 => nomatch h9⟩ ?_
  refine eW_callVH 18 [.ref 57] [] [] rfl rfl rfl rfl (Nat.ble_eq_true_of_le (by omega)) hwh2.2.2.2.2.2.2.2.1.1 rfl rfl rfl (t_clear (d := d + 7) hwh2.2.2.2.2.2.2.2.1 hTR (by omega)) rfl rfl ?_
  intro h3 fh3
  have oh3 := fh3.2
  have hwh3 : cW h3 ((X.1, tPos (tRead T), X.2.2.1, X.2.2.2)) G O Q ya yz Ks V S (((tRead T).2.1, (tRead T).2.2.1, (tRead T).2.2.2.1, 0, (tRead T).2.2.2.2.2)) := ⟨gX_k hwh2.1 (oh3 0 (by omega)), gG_k hwh2.2.1 (fun i _ _ => oh3 i (by omega)), gG_k hwh2.2.2.1 (fun i _ _ => oh3 i (by omega)), gG_k hwh2.2.2.2.1 (fun i _ _ => oh3 i (by omega)), gH_k hwh2.2.2.2.2.1 (fun i _ _ => oh3 i (by omega)), gV_k hwh2.2.2.2.2.2.1 (fun i _ _ => oh3 i (by omega)), gS_k hwh2.2.2.2.2.2.2.1 (oh3 56 (by omega)), fh3.1, gK_k hwh2.2.2.2.2.2.2.2.2 (fun i _ _ => oh3 i (by omega))⟩
  have frh3 : cFr h h3 := fun i hi => (oh3 i (by omega)).trans (frh2 i hi)
  refine eW_aload_n 19 rfl rfl rfl ?_
  refine eW_getfield 22 rfl rfl (Nat.ble_eq_true_of_le (by omega)) rfl (show h3 0 = .inr (10, [.ref 1, .ref 5, .ref 9, .ref 13, .ref 47, .ref 53, .ref 56, .ref 57, .ref 61, vI X.1, vI (tPos (tRead T)), vI X.2.2.1, vI X.2.2.2]) from hwh3.1) rfl ⟨rfl, fun _ h9 => nomatch h9⟩ ?_
  refine eW_iconst 23 rfl rfl ?_
  refine eW_icmp_eq 26 rfl rfl (by unfold i32; omega) (by unfold i32; omega) (fun c4 => ?_) (fun c4 => ?_)
  · refine eW_aload_n 38 rfl rfl rfl ?_
    refine eW_getfield 41 rfl rfl (Nat.ble_eq_true_of_le (by omega)) rfl (show h3 0 = .inr (10, [.ref 1, .ref 5, .ref 9, .ref 13, .ref 47, .ref 53, .ref 56, .ref 57, .ref 61, vI X.1, vI (tPos (tRead T)), vI X.2.2.1, vI X.2.2.2]) from hwh3.1) rfl ⟨rfl, fun _ h9 => nomatch h9⟩ ?_
    refine eW_aload_n 42 rfl rfl rfl ?_
    refine eW_getfield 45 rfl rfl (Nat.ble_eq_true_of_le (by omega)) rfl (show h3 0 = .inr (10, [.ref 1, .ref 5, .ref 9, .ref 13, .ref 47, .ref 53, .ref 56, .ref 57, .ref 61, vI X.1, vI (tPos (tRead T)), vI X.2.2.1, vI X.2.2.2]) from hwh3.1) rfl ⟨rfl, fun _ h9 => nomatch h9⟩ ?_
    refine eW_callVH 48 [.ref 5, .ref 1] [] [] rfl rfl rfl rfl (Nat.ble_eq_true_of_le (by omega)) hwh3.2.2.1.1 rfl rfl rfl (g_become (d := d + 7) (g := 5) (o := 1) hwh3.2.2.1 (by omega) hwh3.2.1 (by omega) (by omega)) rfl rfl ?_
    intro h5 fh5
    have oh5 := fh5.2
    have hwh5 : cW h5 ((X.1, tPos (tRead T), X.2.2.1, X.2.2.2)) G ((gBec G O)) Q ya yz Ks V S (((tRead T).2.1, (tRead T).2.2.1, (tRead T).2.2.2.1, 0, (tRead T).2.2.2.2.2)) := ⟨gX_k hwh3.1 (oh5 0 (by omega)), gG_k hwh3.2.1 (fun i _ _ => oh5 i (by omega)), fh5.1, gG_k hwh3.2.2.2.1 (fun i _ _ => oh5 i (by omega)), gH_k hwh3.2.2.2.2.1 (fun i _ _ => oh5 i (by omega)), gV_k hwh3.2.2.2.2.2.1 (fun i _ _ => oh5 i (by omega)), gS_k hwh3.2.2.2.2.2.2.1 (oh5 56 (by omega)), gT_k hwh3.2.2.2.2.2.2.2.1 (fun i _ _ => oh5 i (by omega)), gK_k hwh3.2.2.2.2.2.2.2.2 (fun i _ _ => oh5 i (by omega))⟩
    have frh5 : cFr h h5 := fun i hi => (oh5 i (by omega)).trans (frh3 i hi)
    refine eW_aload_n 49 rfl rfl rfl ?_
    have hrt : (tRead T).1 = true := by rcases hpc with e | e; exact e.1; exact absurd e.2.1 (by omega)
    refine eW_callVH 52 [.ref 0] [] [vI ((oRun G T).1)] rfl rfl rfl rfl (Nat.ble_eq_true_of_le (by omega)) (show h5 0 = .inr (10, [.ref 1, .ref 5, .ref 9, .ref 13, .ref 47, .ref 53, .ref 56, .ref 57, .ref 61, vI X.1, vI (tPos (tRead T)), vI X.2.2.1, vI X.2.2.2]) from hwh5.1) rfl rfl rfl (by have u := x_orders (d := d + 0) hwh5 hN hI ha hz hTC hc; rw [show gRn ((tRead T).2.1, (tRead T).2.2.1, (tRead T).2.2.2.1, 0, (tRead T).2.2.2.2.2) ((tRead T).2.1, (tRead T).2.2.1, (tRead T).2.2.2.1, 0, (tRead T).2.2.2.2.2).2.2.2.2.2.toNat 0 G = oRun G T from (gRn_clr _ _ _).trans (oRun_t hrt).symm] at u; exact u) rfl rfl ?_
    intro h6 fh6
    obtain ⟨S2, G2, hwh6, gh6, hGs, hGf⟩ := fh6
    have hwh6 : cW h6 ((oX (X.1, tPos (tRead T), X.2.2.1, X.2.2.2) (oRun G T))) G2 ((gBec G O)) Q ya yz Ks V S2 (((tRead T).2.1, (tRead T).2.2.1, (tRead T).2.2.2.1, 0, (tRead T).2.2.2.2.2)) := hwh6
    have frh6 : cFr h h6 := fun i hi => (gh6 i hi).trans (frh5 i hi)
    have hre := oRun_e G T
    refine eW_istore_n 53 rfl rfl [(1, vI ((oRun G T).1)), (0, .ref 0)] rfl rfl ?_
    refine eW_iload_n 54 rfl rfl rfl ?_
    refine eW_iconst 55 rfl rfl ?_
    refine eW_icmp_ne 58 rfl rfl (by unfold i32; omega) (by unfold i32; omega) (fun c7 => ?_) (fun c7 => ?_)
    · refine eW_iload_n 70 rfl rfl rfl ?_
      refine eW_if_eq 73 rfl rfl (by unfold i32; omega) (fun c8 => ?_) (fun c8 => ?_)
      · have hGn : gOk G2 := by rw [hGs (by omega), oRun_t hrt]; exact (gI_gRn _ hI).1
        refine eW_aload_n 85 rfl rfl rfl ?_
        refine eW_getfield 88 rfl rfl (Nat.ble_eq_true_of_le (by omega)) rfl hwh6.1 rfl ⟨rfl, fun _ h9 => nomatch h9⟩ ?_
        refine eW_aload_n 89 rfl rfl rfl ?_
        refine eW_getfield 92 rfl rfl (Nat.ble_eq_true_of_le (by omega)) rfl hwh6.1 rfl ⟨rfl, fun _ h9 => nomatch h9⟩ ?_
        refine eW_callVH 95 [.ref 13, .ref 5] [] [] rfl rfl rfl rfl (Nat.ble_eq_true_of_le (by omega)) hwh6.2.2.2.2.1.1 rfl rfl rfl (h_keep (d := d + 6) hwh6.2.2.2.2.1 (by omega) ha hz (g := 5) hwh6.2.2.1 (by omega) (by omega)) rfl rfl ?_
        intro h9 fh9
        have oh9 := fh9.2
        have hwh9 : cW h9 ((oX (X.1, tPos (tRead T), X.2.2.1, X.2.2.2) (oRun G T))) G2 ((gBec G O)) Q ((gKeep ya yz Ks ((gBec G O))).1) ((gKeep ya yz Ks ((gBec G O))).2.1) ((gKeep ya yz Ks ((gBec G O))).2.2) V S2 (((tRead T).2.1, (tRead T).2.2.1, (tRead T).2.2.2.1, 0, (tRead T).2.2.2.2.2)) := ⟨gX_k hwh6.1 (oh9 0 (by omega)), gG_k hwh6.2.1 (fun i _ _ => oh9 i (by omega)), gG_k hwh6.2.2.1 (fun i _ _ => oh9 i (by omega)), gG_k hwh6.2.2.2.1 (fun i _ _ => oh9 i (by omega)), fh9.1, gV_k hwh6.2.2.2.2.2.1 (fun i _ _ => oh9 i (by omega)), gS_k hwh6.2.2.2.2.2.2.1 (oh9 56 (by omega)), gT_k hwh6.2.2.2.2.2.2.2.1 (fun i _ _ => oh9 i (by omega)), gK_k hwh6.2.2.2.2.2.2.2.2 (fun i _ _ => oh9 i (by omega))⟩
        have frh9 : cFr h h9 := fun i hi => (oh9 i (by omega)).trans (frh6 i hi)
        refine eW_aload_n 96 rfl rfl rfl ?_
        refine eW_getfield 99 rfl rfl (Nat.ble_eq_true_of_le (by omega)) rfl hwh9.1 rfl ⟨rfl, fun _ h9 => nomatch h9⟩ ?_
        refine eW_aload_n 100 rfl rfl rfl ?_
        refine eW_getfield 103 rfl rfl (Nat.ble_eq_true_of_le (by omega)) rfl hwh9.1 rfl ⟨rfl, fun _ h9 => nomatch h9⟩ ?_
        refine eW_callVH 106 [.ref 47, .ref 1] [] [] rfl rfl rfl rfl (Nat.ble_eq_true_of_le (by omega)) hwh9.2.2.2.2.2.1.1 rfl rfl rfl (v_learn (d := d + 2) hwh9.2.2.2.2.2.1 hVG.1 (by omega) hwh9.2.1 hGn (by omega) (by omega) (by intro t h1 h2; exact hVG.2 t h1 h2)) rfl rfl ?_
        intro h10 fh10
        obtain ⟨V1, f9h10⟩ := fh10
        have oh10 := f9h10.2.2
        have hVG1 := f9h10.2.1
        have hwh10 : cW h10 ((oX (X.1, tPos (tRead T), X.2.2.1, X.2.2.2) (oRun G T))) G2 ((gBec G O)) Q ((gKeep ya yz Ks ((gBec G O))).1) ((gKeep ya yz Ks ((gBec G O))).2.1) ((gKeep ya yz Ks ((gBec G O))).2.2) V1 S2 (((tRead T).2.1, (tRead T).2.2.1, (tRead T).2.2.2.1, 0, (tRead T).2.2.2.2.2)) := ⟨gX_k hwh9.1 (oh10 0 (by omega)), gG_k hwh9.2.1 (fun i _ _ => oh10 i (by omega)), gG_k hwh9.2.2.1 (fun i _ _ => oh10 i (by omega)), gG_k hwh9.2.2.2.1 (fun i _ _ => oh10 i (by omega)), gH_k hwh9.2.2.2.2.1 (fun i _ _ => oh10 i (by omega)), f9h10.1, gS_k hwh9.2.2.2.2.2.2.1 (oh10 56 (by omega)), gT_k hwh9.2.2.2.2.2.2.2.1 (fun i _ _ => oh10 i (by omega)), gK_k hwh9.2.2.2.2.2.2.2.2 (fun i _ _ => oh10 i (by omega))⟩
        have frh10 : cFr h h10 := fun i hi => (oh10 i (by omega)).trans (frh9 i hi)
        refine eW_aload_n 107 rfl rfl rfl ?_
        refine eW_getfield 110 rfl rfl (Nat.ble_eq_true_of_le (by omega)) rfl hwh10.1 rfl ⟨rfl, fun _ h9 => nomatch h9⟩ ?_
        refine eW_callV 113 [.ref 57] [] [vI ((tRead T).2.2.2.2.2.2)] rfl rfl rfl rfl (Nat.ble_eq_true_of_le (by omega)) hwh10.2.2.2.2.2.2.2.1.1 rfl rfl rfl (t_orders (d := d + 7) hwh10.2.2.2.2.2.2.2.1 hTC (by omega)) rfl rfl ?_
        refine eW_ret_i rfl rfl (Or.inl rfl) ?_
        refine cA_i (by unfold aRn; rw [if_pos (by omega)]) frh10 ⟨G2, gBec G O, S2, V1, ?_, hVG1, hTC, hGs, fun e => absurd (by omega) e⟩
        rw [kE_0 (by omega)]
        exact hwh10
      · refine eW_throw rfl rfl rfl rfl ?_
        obtain ⟨G3, hG3⟩ := hGf (by omega)
        have hE9 : gE G G2 := by rw [hG3]; exact gE_t (gE_bec G O) (gE_bec _ _)
        refine cA_x (by unfold aRn; (repeat (first | rw [if_pos (by omega)] | rw [if_neg (by omega)])); rfl) frh6 ⟨G2, gBec G O, S2, V, ?_, gVG_d (gDig_E hE9) hVG, hTC, fun e => absurd e (by omega), fun _ => hE9⟩
        rw [kE_n (by omega)]
        exact hwh6
    · refine eW_throw rfl rfl rfl rfl ?_
      obtain ⟨G3, hG3⟩ := hGf (by omega)
      have hE9 : gE G G2 := by rw [hG3]; exact gE_t (gE_bec G O) (gE_bec _ _)
      refine cA_x (by unfold aRn; (repeat (first | rw [if_pos (by omega)] | rw [if_neg (by omega)])); rfl) frh6 ⟨G2, gBec G O, S2, V, ?_, gVG_d (gDig_E hE9) hVG, hTC, fun e => absurd e (by omega), fun _ => hE9⟩
      rw [kE_n (by omega)]
      exact hwh6
  · refine eW_throw rfl rfl rfl rfl ?_
    have hrf : (tRead T).1 = false := by rcases hpc with e | e; exact absurd e.2 (by omega); exact e.1
    refine cA_x (by rw [oRun_f hrf]; rfl) frh3 ⟨G, O, S, V, ?_, hVG, hTC, fun e => absurd e (by rw [oRun_f hrf]; exact (by decide : (2 : Int) ≠ 0)), fun _ => ⟨fun _ _ => rfl, fun _ _ => rfl, fun _ _ => rfl, rfl⟩⟩
    rw [oRun_f hrf, kE_n (show (2 : Int) ≠ 0 by decide), oX_n (show (2 : Int) ≠ 3 by decide)]
    exact hwh3
