/-! a sign of the line -/
theorem cW_b {h h' : eHp} {X : eXs} {G O Q : eGd} {a z : Int} {Ks : Nat → eGd} {V : eVs} {S : Int × Int × Int} {T : eTx} (hw : cW h X G O Q a z Ks V S T) (o : bFr h h') : cW h' X G O Q a z Ks V S T := cW_k hw (fun i hi => o i (by omega) (by omega) (by omega))
def gChr (L : List Int) (i : Int) : Int ⊕ String := if 0 ≤ i ∧ i < L.length then .inl (L.getD i.toNat 0) else .inr nIOB
theorem x_character {d : Nat} {h : eHp} {X : eXs} {G O Q : eGd} {ya yz : Int} {Ks : Nat → eGd} {V : eVs} {S : Int × Int × Int} {T : eTx} (hw : cW h X G O Q ya yz Ks V S T) {g : Nat} {L : List Int} (hb : bW h g L) {i : Int} (hi : i32 i) : eSp (d + 5) eM_X6_character [.ref 0, vI i] (75 + g) h (eAns (gChr L i) (75 + g) h) := by
  unfold i32 at hi
  have hb9 := hb
  obtain ⟨b, B, ml, h61, hbb, hbd, hml, hfit, hL, hlen, hg5, harr⟩ := hb9
  have hcp := bCap_le hg5
  have hnar : 0 ≤ i ∧ i < L.length → vp_nar .char (Int32.ofInt (L.getD i.toNat 0)) = Int32.ofInt (L.getD i.toNat 0) := fun h9 => by
    have e := hL.2 i.toNat (by omega)
    rw [List.getD_eq_getElem?_getD, e]
    exact (b_and (hfit _)).2.2
  refine eSp_of [(0, .ref 0), (1, vI i)] rfl rfl ?_
  refine eW_iload_n 1 rfl rfl rfl ?_
  refine eW_if_lt 4 rfl rfl (by unfold i32; omega) (fun c1 => ?_) (fun c1 => ?_)
  · refine eW_throw rfl rfl rfl rfl ?_
    exact eAns_x (if_neg (by omega))
  · refine eW_iload_n 5 rfl rfl rfl ?_
    refine eW_aload_n 6 rfl rfl rfl ?_
    refine eW_getfield 9 rfl rfl (Nat.ble_eq_true_of_le (by omega)) rfl hw.1 rfl ⟨rfl, fun _ h9 => nomatch h9⟩ ?_
    refine eW_callV 12 [.ref 61] [vI i] [vI ((L.length : Int)), vI i] rfl rfl rfl rfl (Nat.ble_eq_true_of_le (by omega)) h61 rfl rfl rfl (b_len (d := d + 2) hb) rfl rfl ?_
    refine eW_icmp_lt 15 rfl rfl (by unfold i32; omega) (by unfold i32; omega) (fun c2 => ?_) (fun c2 => ?_)
    · refine eW_aload_n 27 rfl rfl rfl ?_
      refine eW_getfield 30 rfl rfl (Nat.ble_eq_true_of_le (by omega)) rfl hw.1 rfl ⟨rfl, fun _ h9 => nomatch h9⟩ ?_
      refine eW_iload_n 31 rfl rfl rfl ?_
      refine eW_callV 34 [.ref 61, vI i] [] [vI (L.getD i.toNat 0)] rfl rfl rfl rfl (Nat.ble_eq_true_of_le (by omega)) h61 rfl rfl rfl (b_char (d := d + 0) hb (i := i) (x := L.getD i.toNat 0) (by omega) (by rw [List.getD_eq_getElem?_getD, List.getElem?_eq_getElem (show i.toNat < L.length by omega)]; rfl)) rfl rfl ?_
      refine eW_ret_i rfl rfl (Or.inr (Or.inr ⟨rfl, hnar (by omega)⟩)) ?_
      exact eAns_i (if_pos (by omega))
    · refine eW_throw rfl rfl rfl rfl ?_
      exact eAns_x (if_neg (by omega))
