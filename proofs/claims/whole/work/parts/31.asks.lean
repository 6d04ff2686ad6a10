/-! questions to the model -/
/-- what is known of the model stays -/
def mSm (s : Nat → Int) (A : Nat → Nat → Int) (s' : Nat → Int) (A' : Nat → Nat → Int) : Prop := A' 0 = A 0 ∧ A' 1 = A 1 ∧ A' 2 = A 2 ∧ A' 4 = A 4 ∧ A' 5 = A 5 ∧ s' 4 = s 4 ∧ s' 5 = s 5 ∧ s' 6 = s 6 ∧ s' 8 = s 8 ∧ s' 9 = s 9 ∧ s' 11 = s 11 ∧ s' 12 = s 12 ∧ s' 14 = s 14
/-- an answer v, with the code c -/
def mQ (v c : Int) (s : Nat → Int) (A : Nat → Nat → Int) (h : eHp) (N : Nat) : eR → Prop := fun q => ∃ h' s' A' x, q = (.inl (some (vI x)), N, h', 0, 0) ∧ mM h' s' A' ∧ mFr h h' ∧ s' 7 = c ∧ (c = 0 → x = v) ∧ mSm s A s' A'
def mIf (b : Bool) (k c : Int) : Int := match b with | true => c | false => k
theorem mIf_c (b : Bool) (k c : Int) : (eB01 b = 1 ∧ mIf b k c = c) ∨ (eB01 b = 0 ∧ mIf b k c = k) := by cases b; exact Or.inr ⟨rfl, rfl⟩; exact Or.inl ⟨rfl, rfl⟩
theorem gV_fun {V : eVs} {D : Int → Int} (h : gVD V D) : gVal V.2.1 = gvv D := by
  funext i
  unfold gvv gVal
  cases hi : gNum i with
  | false => rfl
  | true =>
    have h9 : 0 ≤ i ∧ i ≤ 30 := by rcases gNum_c i with e | e; exact e.1; rw [e.2.1] at hi; cases hi
    exact (h.2 i.toNat (by omega)).1
theorem gSumV_eq {V : eVs} {G : eGd} (h : gVD V (gDig G)) : gSumV V G = gSm G := by unfold gSumV gSm; rw [gV_fun h]
theorem m_turn {d N : Nat} {h : eHp} {s : Nat → Int} {A : Nat → Nat → Int} (hm : mM h s A) (hN : 75 ≤ N) {c : Int} {G : eGd} (hr : rR G (A 0)) (hI : gI c G) : eSp (d + 1) eM_X7_turn [.ref 63] N h (mQ G.2.2.2.2.1 0 s A h N) := by
  refine eSp_of [(0, .ref 63)] rfl rfl ?_
  have hG := hI.1
  have hG9 := hG
  obtain ⟨g1, g2, g3, g4⟩ := hG9
  refine eW_aload_n 1 rfl rfl rfl ?_
  refine eW_iconst 2 rfl rfl ?_
  refine eW_putfield 5 [.ref 64, .ref 65, .ref 66, .ref 67, vI (s 4), vI (s 5), vI (s 6), vI 0, vI (s 8), vI (s 9), .ref 68, vI (s 11), vI (s 12), .ref 69, vI (s 14), .ref 70, .ref 71, vI (s 17), vI (s 18), vI (s 19), vI (s 20), .ref 72, vI (s 22)] rfl rfl (Nat.ble_eq_true_of_le (by omega)) rfl hm.1 rfl rfl ?_
  intro h1 eh1 oh1
  have hmh1 : mM h1 (sUp s 7 0) A := mM_s (s := s) hm eh1 oh1
  have frh1 : mFr h h1 := mFr_s (fun _ _ => rfl) oh1
  refine eW_aload_n 6 rfl rfl rfl ?_
  refine eW_getfield 9 rfl rfl (Nat.ble_eq_true_of_le (by omega)) rfl (show h1 63 = .inr (11, [.ref 64, .ref 65, .ref 66, .ref 67, vI (s 4), vI (s 5), vI (s 6), vI 0, vI (s 8), vI (s 9), .ref 68, vI (s 11), vI (s 12), .ref 69, vI (s 14), .ref 70, .ref 71, vI (s 17), vI (s 18), vI (s 19), vI (s 20), .ref 72, vI (s 22)]) from hmh1.1) rfl ⟨rfl, fun _ h9 => nomatch h9⟩ ?_
  refine eW_iconst 10 rfl rfl ?_
  refine eW_iaload 11 rfl rfl G.2.2.2.2.1 (Nat.ble_eq_true_of_le (by omega)) (show h1 64 = .inl (0, 62, .inl (eIA (A 0))) from hmh1.2.1) (by omega) (by omega) (by unfold i32; omega) (congrArg Int32.ofInt hr.2.1) ?_
  refine eW_ret_i rfl rfl (Or.inl rfl) ?_
  refine ⟨_, _, _, _, rfl, hmh1, frh1, ?_, ?_, ⟨rfl, rfl, rfl, rfl, rfl, rfl, rfl, rfl, rfl, rfl, rfl, rfl, rfl⟩⟩
  · show (0 : Int) = _
    omega
  · intro e9
    show (G.2.2.2.2.1 : Int) = _
    first
      | (exfalso; omega)
      | (rfl)
theorem m_scoops {d N : Nat} {h : eHp} {s : Nat → Int} {A : Nat → Nat → Int} (hm : mM h s A) (hN : 75 ≤ N) {c : Int} {G : eGd} (hr : rR G (A 0)) (hI : gI c G) : eSp (d + 4) eM_X7_scoops [.ref 63] N h (mQ (gSum (fun j => gWays (gDig G) (G.1 j)) G.2.2.2.1.toNat) 0 s A h N) := by
  refine eSp_of [(0, .ref 63)] rfl rfl ?_
  have hG := hI.1
  have hG9 := hG
  obtain ⟨g1, g2, g3, g4⟩ := hG9
  refine eW_aload_n 1 rfl rfl rfl ?_
  refine eW_iconst 2 rfl rfl ?_
  refine eW_putfield 5 [.ref 64, .ref 65, .ref 66, .ref 67, vI (s 4), vI (s 5), vI (s 6), vI 0, vI (s 8), vI (s 9), .ref 68, vI (s 11), vI (s 12), .ref 69, vI (s 14), .ref 70, .ref 71, vI (s 17), vI (s 18), vI (s 19), vI (s 20), .ref 72, vI (s 22)] rfl rfl (Nat.ble_eq_true_of_le (by omega)) rfl hm.1 rfl rfl ?_
  intro h1 eh1 oh1
  have hmh1 : mM h1 (sUp s 7 0) A := mM_s (s := s) hm eh1 oh1
  have frh1 : mFr h h1 := mFr_s (fun _ _ => rfl) oh1
  refine eW_aload_n 6 rfl rfl rfl ?_
  refine eW_callV 9 [.ref 63] [] [vI (gSum (fun j => gWays (gDig G) (G.1 j)) G.2.2.2.1.toNat)] rfl rfl rfl rfl (Nat.ble_eq_true_of_le (by omega)) (show h1 63 = .inr (11, [.ref 64, .ref 65, .ref 66, .ref 67, vI (s 4), vI (s 5), vI (s 6), vI 0, vI (s 8), vI (s 9), .ref 68, vI (s 11), vI (s 12), .ref 69, vI (s 14), .ref 70, .ref 71, vI (s 17), vI (s 18), vI (s 19), vI (s 20), .ref 72, vI (s 22)]) from hmh1.1) rfl rfl rfl (m_scoopsNow (d := d + 0) hmh1 hN hr hG) rfl rfl ?_
  refine eW_ret_i rfl rfl (Or.inl rfl) ?_
  refine ⟨_, _, _, _, rfl, hmh1, frh1, ?_, ?_, ⟨rfl, rfl, rfl, rfl, rfl, rfl, rfl, rfl, rfl, rfl, rfl, rfl, rfl⟩⟩
  · show (0 : Int) = _
    omega
  · intro e9
    show (gSum (fun j => gWays (gDig G) (G.1 j)) G.2.2.2.1.toNat : Int) = _
    first
      | (exfalso; omega)
      | (rfl)
theorem m_errorPosition {d N : Nat} {h : eHp} {s : Nat → Int} {A : Nat → Nat → Int} (hm : mM h s A) (hN : 75 ≤ N)  : eSp (d + 1) eM_X7_errorPosition [.ref 63] N h (mQ (s 12) 0 s A h N) := by
  refine eSp_of [(0, .ref 63)] rfl rfl ?_
  refine eW_aload_n 1 rfl rfl rfl ?_
  refine eW_iconst 2 rfl rfl ?_
  refine eW_putfield 5 [.ref 64, .ref 65, .ref 66, .ref 67, vI (s 4), vI (s 5), vI (s 6), vI 0, vI (s 8), vI (s 9), .ref 68, vI (s 11), vI (s 12), .ref 69, vI (s 14), .ref 70, .ref 71, vI (s 17), vI (s 18), vI (s 19), vI (s 20), .ref 72, vI (s 22)] rfl rfl (Nat.ble_eq_true_of_le (by omega)) rfl hm.1 rfl rfl ?_
  intro h1 eh1 oh1
  have hmh1 : mM h1 (sUp s 7 0) A := mM_s (s := s) hm eh1 oh1
  have frh1 : mFr h h1 := mFr_s (fun _ _ => rfl) oh1
  refine eW_aload_n 6 rfl rfl rfl ?_
  refine eW_getfield 9 rfl rfl (Nat.ble_eq_true_of_le (by omega)) rfl (show h1 63 = .inr (11, [.ref 64, .ref 65, .ref 66, .ref 67, vI (s 4), vI (s 5), vI (s 6), vI 0, vI (s 8), vI (s 9), .ref 68, vI (s 11), vI (s 12), .ref 69, vI (s 14), .ref 70, .ref 71, vI (s 17), vI (s 18), vI (s 19), vI (s 20), .ref 72, vI (s 22)]) from hmh1.1) rfl ⟨rfl, fun _ h9 => nomatch h9⟩ ?_
  refine eW_ret_i rfl rfl (Or.inl rfl) ?_
  refine ⟨_, _, _, _, rfl, hmh1, frh1, ?_, ?_, ⟨rfl, rfl, rfl, rfl, rfl, rfl, rfl, rfl, rfl, rfl, rfl, rfl, rfl⟩⟩
  · show (0 : Int) = _
    omega
  · intro e9
    show (s 12 : Int) = _
    first
      | (exfalso; omega)
      | (rfl)
theorem m_refusal {d N : Nat} {h : eHp} {s : Nat → Int} {A : Nat → Nat → Int} (hm : mM h s A) (hN : 75 ≤ N) {b : Int} (hb : b = 0 ∨ b = 1) (h8 : i32 (s 8)) : eSp (d + 2) eM_X7_refusal [.ref 63, vI b] N h (mQ (match decide (b = 1) with | true => s 9 | false => s 8) (mIf (decide (s 8 ≠ 0)) 1 0) s A h N) := by
  refine eSp_of [(0, .ref 63), (1, vI b)] rfl rfl ?_
  have hc1 := eD_c (s 8 ≠ 0)
  have hc2 := mIf_c (decide (s 8 ≠ 0)) 1 0
  unfold i32 at h8
  refine eW_aload_n 1 rfl rfl rfl ?_
  refine eW_aload_n 2 rfl rfl rfl ?_
  refine eW_getfield 5 rfl rfl (Nat.ble_eq_true_of_le (by omega)) rfl hm.1 rfl ⟨rfl, fun _ h9 => nomatch h9⟩ ?_
  refine eW_if_ne 8 rfl rfl (by unfold i32; omega) (fun c1 => ?_) (fun c1 => ?_)
  · refine eW_iconst 13 rfl rfl ?_
    have hflq2 := eD_c ((0 : Int) < 0)
    refine eW_callVH 16 [.ref 63, vI 0] [] [vI (eB01 (decide ((0 : Int) < 0)))] rfl rfl rfl rfl (Nat.ble_eq_true_of_le (by omega)) hm.1 rfl rfl rfl (m_fails (d := d + 0) hm hN (by unfold i32; omega)) rfl rfl ?_
    intro h3 fh3
    have hmh3 : mM h3 (sUp s 7 0) A := fh3.1
    have frh3 : mFr h h3 := mFr_t (fun _ _ => rfl) fh3.2
    refine eW_if_eq 19 rfl rfl (by unfold i32; omega) (fun c4 => ?_) (fun c4 => ?_)
    · refine eW_iload_n 24 rfl rfl rfl ?_
      refine eW_if_eq 27 rfl rfl (by unfold i32; omega) (fun c5 => ?_) (fun c5 => ?_)
      · refine eW_aload_n 35 rfl rfl rfl ?_
        refine eW_getfield 38 rfl rfl (Nat.ble_eq_true_of_le (by omega)) rfl (show h3 63 = .inr (11, [.ref 64, .ref 65, .ref 66, .ref 67, vI (s 4), vI (s 5), vI (s 6), vI 0, vI (s 8), vI (s 9), .ref 68, vI (s 11), vI (s 12), .ref 69, vI (s 14), .ref 70, .ref 71, vI (s 17), vI (s 18), vI (s 19), vI (s 20), .ref 72, vI (s 22)]) from hmh3.1) rfl ⟨rfl, fun _ h9 => nomatch h9⟩ ?_
        refine eW_ret_i rfl rfl (Or.inl rfl) ?_
        refine ⟨_, _, _, _, rfl, hmh3, frh3, ?_, ?_, ⟨rfl, rfl, rfl, rfl, rfl, rfl, rfl, rfl, rfl, rfl, rfl, rfl, rfl⟩⟩
        · show (0 : Int) = _
          omega
        · intro e9
          show (s 8 : Int) = _
          first
            | (exfalso; omega)
            | (rw [decide_eq_true (by omega : b = 1)])
            | (rw [decide_eq_false (by omega : ¬ b = 1)])
      · refine eW_aload_n 28 rfl rfl rfl ?_
        refine eW_getfield 31 rfl rfl (Nat.ble_eq_true_of_le (by omega)) rfl (show h3 63 = .inr (11, [.ref 64, .ref 65, .ref 66, .ref 67, vI (s 4), vI (s 5), vI (s 6), vI 0, vI (s 8), vI (s 9), .ref 68, vI (s 11), vI (s 12), .ref 69, vI (s 14), .ref 70, .ref 71, vI (s 17), vI (s 18), vI (s 19), vI (s 20), .ref 72, vI (s 22)]) from hmh3.1) rfl ⟨rfl, fun _ h9 => nomatch h9⟩ ?_
        refine eW_goto rfl ?_
        refine eW_ret_i rfl rfl (Or.inl rfl) ?_
        refine ⟨_, _, _, _, rfl, hmh3, frh3, ?_, ?_, ⟨rfl, rfl, rfl, rfl, rfl, rfl, rfl, rfl, rfl, rfl, rfl, rfl, rfl⟩⟩
        · show (0 : Int) = _
          omega
        · intro e9
          show (s 9 : Int) = _
          first
            | (exfalso; omega)
            | (rw [decide_eq_true (by omega : b = 1)])
            | (rw [decide_eq_false (by omega : ¬ b = 1)])
    · refine eW_iconst 20 rfl rfl ?_
      refine eW_goto rfl ?_
      refine eW_ret_i rfl rfl (Or.inl rfl) ?_
      refine ⟨_, _, _, _, rfl, hmh3, frh3, ?_, ?_, ⟨rfl, rfl, rfl, rfl, rfl, rfl, rfl, rfl, rfl, rfl, rfl, rfl, rfl⟩⟩
      · show (0 : Int) = _
        omega
      · intro e9
        show (0 : Int) = _
        first
          | (exfalso; omega)
          | (rw [decide_eq_true (by omega : b = 1)])
          | (rw [decide_eq_false (by omega : ¬ b = 1)])
  · refine eW_iconst 9 rfl rfl ?_
    refine eW_goto rfl ?_
    have hflq6 := eD_c ((0 : Int) < 1)
    refine eW_callVH 16 [.ref 63, vI 1] [] [vI (eB01 (decide ((0 : Int) < 1)))] rfl rfl rfl rfl (Nat.ble_eq_true_of_le (by omega)) hm.1 rfl rfl rfl (m_fails (d := d + 0) hm hN (by unfold i32; omega)) rfl rfl ?_
    intro h7 fh7
    have hmh7 : mM h7 (sUp s 7 1) A := fh7.1
    have frh7 : mFr h h7 := mFr_t (fun _ _ => rfl) fh7.2
    refine eW_if_eq 19 rfl rfl (by unfold i32; omega) (fun c8 => ?_) (fun c8 => ?_)
    · refine eW_iload_n 24 rfl rfl rfl ?_
      refine eW_if_eq 27 rfl rfl (by unfold i32; omega) (fun c9 => ?_) (fun c9 => ?_)
      · refine eW_aload_n 35 rfl rfl rfl ?_
        refine eW_getfield 38 rfl rfl (Nat.ble_eq_true_of_le (by omega)) rfl (show h7 63 = .inr (11, [.ref 64, .ref 65, .ref 66, .ref 67, vI (s 4), vI (s 5), vI (s 6), vI 1, vI (s 8), vI (s 9), .ref 68, vI (s 11), vI (s 12), .ref 69, vI (s 14), .ref 70, .ref 71, vI (s 17), vI (s 18), vI (s 19), vI (s 20), .ref 72, vI (s 22)]) from hmh7.1) rfl ⟨rfl, fun _ h9 => nomatch h9⟩ ?_
        refine eW_ret_i rfl rfl (Or.inl rfl) ?_
        refine ⟨_, _, _, _, rfl, hmh7, frh7, ?_, ?_, ⟨rfl, rfl, rfl, rfl, rfl, rfl, rfl, rfl, rfl, rfl, rfl, rfl, rfl⟩⟩
        · show (1 : Int) = _
          omega
        · intro e9
          show (s 8 : Int) = _
          first
            | (exfalso; omega)
            | (rw [decide_eq_true (by omega : b = 1)])
            | (rw [decide_eq_false (by omega : ¬ b = 1)])
      · refine eW_aload_n 28 rfl rfl rfl ?_
        refine eW_getfield 31 rfl rfl (Nat.ble_eq_true_of_le (by omega)) rfl (show h7 63 = .inr (11, [.ref 64, .ref 65, .ref 66, .ref 67, vI (s 4), vI (s 5), vI (s 6), vI 1, vI (s 8), vI (s 9), .ref 68, vI (s 11), vI (s 12), .ref 69, vI (s 14), .ref 70, .ref 71, vI (s 17), vI (s 18), vI (s 19), vI (s 20), .ref 72, vI (s 22)]) from hmh7.1) rfl ⟨rfl, fun _ h9 => nomatch h9⟩ ?_
        refine eW_goto rfl ?_
        refine eW_ret_i rfl rfl (Or.inl rfl) ?_
        refine ⟨_, _, _, _, rfl, hmh7, frh7, ?_, ?_, ⟨rfl, rfl, rfl, rfl, rfl, rfl, rfl, rfl, rfl, rfl, rfl, rfl, rfl⟩⟩
        · show (1 : Int) = _
          omega
        · intro e9
          show (s 9 : Int) = _
          first
            | (exfalso; omega)
            | (rw [decide_eq_true (by omega : b = 1)])
            | (rw [decide_eq_false (by omega : ¬ b = 1)])
    · refine eW_iconst 20 rfl rfl ?_
      refine eW_goto rfl ?_
      refine eW_ret_i rfl rfl (Or.inl rfl) ?_
      refine ⟨_, _, _, _, rfl, hmh7, frh7, ?_, ?_, ⟨rfl, rfl, rfl, rfl, rfl, rfl, rfl, rfl, rfl, rfl, rfl, rfl, rfl⟩⟩
      · show (1 : Int) = _
        omega
      · intro e9
        show (0 : Int) = _
        first
          | (exfalso; omega)
          | (rw [decide_eq_true (by omega : b = 1)])
          | (rw [decide_eq_false (by omega : ¬ b = 1)])
theorem m_digitOf {d N : Nat} {h : eHp} {s : Nat → Int} {A : Nat → Nat → Int} (hm : mM h s A) (hN : 75 ≤ N) {c : Int} {G : eGd} (hr : rR G (A 0)) (hI : gI c G) {t : Int} (ht : i32 t) : eSp (d + 2) eM_X7_digitOf [.ref 63, vI t] N h (mQ (gDig G t) (mIf (gTake t) 1 0) s A h N) := by
  refine eSp_of [(0, .ref 63), (1, vI t)] rfl rfl ?_
  have hG := hI.1
  have hG9 := hG
  obtain ⟨g1, g2, g3, g4⟩ := hG9
  have hc1 := eD_c (1 ≤ t ∧ t ≤ 6)
  have hc2 : (eB01 (decide (1 ≤ t ∧ t ≤ 6)) = 1 ∧ mIf (gTake t) 1 0 = 0) ∨ (eB01 (decide (1 ≤ t ∧ t ≤ 6)) = 0 ∧ mIf (gTake t) 1 0 = 1) := mIf_c (gTake t) 1 0
  unfold i32 at ht
  refine eW_aload_n 1 rfl rfl rfl ?_
  refine eW_iload_n 2 rfl rfl rfl ?_
  refine eW_iconst 3 rfl rfl ?_
  refine eW_bipush 5 rfl rfl 6 rfl ?_
  have hinq1 := eD_c ((1 : Int) ≤ t ∧ t ≤ 6)
  refine eW_callS 8 [vI t, vI 1, vI 6] [.ref 63] [vI (eB01 (decide ((1 : Int) ≤ t ∧ t ≤ 6))), .ref 63] rfl rfl rfl (Or.inl rfl) rfl rfl rfl (m_in (d := d + 0) (by unfold i32; omega) (by unfold i32; omega) (by unfold i32; omega)) rfl rfl ?_
  refine eW_if_eq 11 rfl rfl (by unfold i32; omega) (fun c2 => ?_) (fun c2 => ?_)
  · refine eW_iconst 16 rfl rfl ?_
    have hflq3 := eD_c ((0 : Int) < 1)
    refine eW_callVH 19 [.ref 63, vI 1] [] [vI (eB01 (decide ((0 : Int) < 1)))] rfl rfl rfl rfl (Nat.ble_eq_true_of_le (by omega)) hm.1 rfl rfl rfl (m_fails (d := d + 0) hm hN (by unfold i32; omega)) rfl rfl ?_
    intro h4 fh4
    have hmh4 : mM h4 (sUp s 7 1) A := fh4.1
    have frh4 : mFr h h4 := mFr_t (fun _ _ => rfl) fh4.2
    refine eW_if_eq 22 rfl rfl (by unfold i32; omega) (fun c5 => ?_) (fun c5 => ?_)
    · refine eW_aload_n 27 rfl rfl rfl ?_
      refine eW_getfield 30 rfl rfl (Nat.ble_eq_true_of_le (by omega)) rfl (show h4 63 = .inr (11, [.ref 64, .ref 65, .ref 66, .ref 67, vI (s 4), vI (s 5), vI (s 6), vI 1, vI (s 8), vI (s 9), .ref 68, vI (s 11), vI (s 12), .ref 69, vI (s 14), .ref 70, .ref 71, vI (s 17), vI (s 18), vI (s 19), vI (s 20), .ref 72, vI (s 22)]) from hmh4.1) rfl ⟨rfl, fun _ h9 => nomatch h9⟩ ?_
      refine eW_bipush 32 rfl rfl 7 rfl ?_
      refine eW_iload_n 33 rfl rfl rfl ?_
      refine eW_iadd 34 rfl rfl ?_
      refine eW_iaload 35 rfl rfl (gDig G t) (Nat.ble_eq_true_of_le (by omega)) (show h4 64 = .inl (0, 62, .inl (eIA (A 0))) from hmh4.2.1) (by omega) (by omega) (by unfold i32; omega) (rR_d hr (by omega) (by omega)) ?_
      refine eW_ret_i rfl rfl (Or.inl rfl) ?_
      refine ⟨_, _, _, _, rfl, hmh4, frh4, ?_, ?_, ⟨rfl, rfl, rfl, rfl, rfl, rfl, rfl, rfl, rfl, rfl, rfl, rfl, rfl⟩⟩
      · show (1 : Int) = _
        omega
      · intro e9
        show (gDig G t : Int) = _
        first
          | (exfalso; omega)
          | (rfl)
    · refine eW_iconst 23 rfl rfl ?_
      refine eW_goto rfl ?_
      refine eW_ret_i rfl rfl (Or.inl rfl) ?_
      refine ⟨_, _, _, _, rfl, hmh4, frh4, ?_, ?_, ⟨rfl, rfl, rfl, rfl, rfl, rfl, rfl, rfl, rfl, rfl, rfl, rfl, rfl⟩⟩
      · show (1 : Int) = _
        omega
      · intro e9
        show (0 : Int) = _
        first
          | (exfalso; omega)
          | (rfl)
  · refine eW_iconst 12 rfl rfl ?_
    refine eW_goto rfl ?_
    have hflq6 := eD_c ((0 : Int) < 0)
    refine eW_callVH 19 [.ref 63, vI 0] [] [vI (eB01 (decide ((0 : Int) < 0)))] rfl rfl rfl rfl (Nat.ble_eq_true_of_le (by omega)) hm.1 rfl rfl rfl (m_fails (d := d + 0) hm hN (by unfold i32; omega)) rfl rfl ?_
    intro h7 fh7
    have hmh7 : mM h7 (sUp s 7 0) A := fh7.1
    have frh7 : mFr h h7 := mFr_t (fun _ _ => rfl) fh7.2
    refine eW_if_eq 22 rfl rfl (by unfold i32; omega) (fun c8 => ?_) (fun c8 => ?_)
    · refine eW_aload_n 27 rfl rfl rfl ?_
      refine eW_getfield 30 rfl rfl (Nat.ble_eq_true_of_le (by omega)) rfl (show h7 63 = .inr (11, [.ref 64, .ref 65, .ref 66, .ref 67, vI (s 4), vI (s 5), vI (s 6), vI 0, vI (s 8), vI (s 9), .ref 68, vI (s 11), vI (s 12), .ref 69, vI (s 14), .ref 70, .ref 71, vI (s 17), vI (s 18), vI (s 19), vI (s 20), .ref 72, vI (s 22)]) from hmh7.1) rfl ⟨rfl, fun _ h9 => nomatch h9⟩ ?_
      refine eW_bipush 32 rfl rfl 7 rfl ?_
      refine eW_iload_n 33 rfl rfl rfl ?_
      refine eW_iadd 34 rfl rfl ?_
      refine eW_iaload 35 rfl rfl (gDig G t) (Nat.ble_eq_true_of_le (by omega)) (show h7 64 = .inl (0, 62, .inl (eIA (A 0))) from hmh7.2.1) (by omega) (by omega) (by unfold i32; omega) (rR_d hr (by omega) (by omega)) ?_
      refine eW_ret_i rfl rfl (Or.inl rfl) ?_
      refine ⟨_, _, _, _, rfl, hmh7, frh7, ?_, ?_, ⟨rfl, rfl, rfl, rfl, rfl, rfl, rfl, rfl, rfl, rfl, rfl, rfl, rfl⟩⟩
      · show (0 : Int) = _
        omega
      · intro e9
        show (gDig G t : Int) = _
        first
          | (exfalso; omega)
          | (rfl)
    · refine eW_iconst 23 rfl rfl ?_
      refine eW_goto rfl ?_
      refine eW_ret_i rfl rfl (Or.inl rfl) ?_
      refine ⟨_, _, _, _, rfl, hmh7, frh7, ?_, ?_, ⟨rfl, rfl, rfl, rfl, rfl, rfl, rfl, rfl, rfl, rfl, rfl, rfl, rfl⟩⟩
      · show (0 : Int) = _
        omega
      · intro e9
        show (0 : Int) = _
        first
          | (exfalso; omega)
          | (rfl)
theorem m_monkOf {d N : Nat} {h : eHp} {s : Nat → Int} {A : Nat → Nat → Int} (hm : mM h s A) (hN : 75 ≤ N) {c : Int} {G : eGd} (hr : rR G (A 0)) (hI : gI c G) {m x : Int} (hm0 : i32 m) (hx0 : i32 x) : eSp (d + 3) eM_X7_monkOf [.ref 63, vI m, vI x] N h (mQ (gTal G m x) (mIf (gMonk m) 1 (mIf (decide (0 ≤ x ∧ x < 4)) 2 0)) s A h N) := by
  refine eSp_of [(0, .ref 63), (1, vI m), (2, vI x)] rfl rfl ?_
  have hG := hI.1
  have hG9 := hG
  obtain ⟨g1, g2, g3, g4⟩ := hG9
  have hc1 : (_ ∧ eB01 (gMonk m) = 1) ∨ (_ ∧ eB01 (gMonk m) = 0) := eD_c (0 ≤ m ∧ m < 2)
  have hc2 := mIf_c (gMonk m) 1 (mIf (decide (0 ≤ x ∧ x < 4)) 2 0)
  have hc3 := eD_c (0 ≤ x ∧ x < 4)
  have hc4 := mIf_c (decide (0 ≤ x ∧ x < 4)) 2 0
  unfold i32 at hm0 hx0
  refine eW_aload_n 1 rfl rfl rfl ?_
  refine eW_iload_n 2 rfl rfl rfl ?_
  have himq1 := eB01_c (gMonk m)
  refine eW_callS 5 [vI m] [.ref 63] [vI (eB01 (gMonk m)), .ref 63] rfl rfl rfl (Or.inl rfl) rfl rfl rfl (m_isMonk (d := d + 0) (by unfold i32; omega)) rfl rfl ?_
  refine eW_if_ne 8 rfl rfl (by unfold i32; omega) (fun c2 => ?_) (fun c2 => ?_)
  · refine eW_iload_n 13 rfl rfl rfl ?_
    refine eW_iconst 14 rfl rfl ?_
    refine eW_iconst 15 rfl rfl ?_
    have hinq3 := eD_c ((0 : Int) ≤ x ∧ x ≤ 3)
    refine eW_callS 18 [vI x, vI 0, vI 3] [.ref 63] [vI (eB01 (decide ((0 : Int) ≤ x ∧ x ≤ 3))), .ref 63] rfl rfl rfl (Or.inl rfl) rfl rfl rfl (m_in (d := d + 1) (by unfold i32; omega) (by unfold i32; omega) (by unfold i32; omega)) rfl rfl ?_
    refine eW_if_eq 21 rfl rfl (by unfold i32; omega) (fun c4 => ?_) (fun c4 => ?_)
    · refine eW_iconst 26 rfl rfl ?_
      have hflq5 := eD_c ((0 : Int) < 2)
      refine eW_callVH 29 [.ref 63, vI 2] [] [vI (eB01 (decide ((0 : Int) < 2)))] rfl rfl rfl rfl (Nat.ble_eq_true_of_le (by omega)) hm.1 rfl rfl rfl (m_fails (d := d + 1) hm hN (by unfold i32; omega)) rfl rfl ?_
      intro h6 fh6
      have hmh6 : mM h6 (sUp s 7 2) A := fh6.1
      have frh6 : mFr h h6 := mFr_t (fun _ _ => rfl) fh6.2
      refine eW_if_eq 32 rfl rfl (by unfold i32; omega) (fun c7 => ?_) (fun c7 => ?_)
      · refine eW_aload_n 37 rfl rfl rfl ?_
        refine eW_getfield 40 rfl rfl (Nat.ble_eq_true_of_le (by omega)) rfl (show h6 63 = .inr (11, [.ref 64, .ref 65, .ref 66, .ref 67, vI (s 4), vI (s 5), vI (s 6), vI 2, vI (s 8), vI (s 9), .ref 68, vI (s 11), vI (s 12), .ref 69, vI (s 14), .ref 70, .ref 71, vI (s 17), vI (s 18), vI (s 19), vI (s 20), .ref 72, vI (s 22)]) from hmh6.1) rfl ⟨rfl, fun _ h9 => nomatch h9⟩ ?_
        refine eW_bipush 42 rfl rfl 14 rfl ?_
        refine eW_iconst 43 rfl rfl ?_
        refine eW_iload_n 44 rfl rfl rfl ?_
        refine eW_imul 45 rfl rfl ?_
        refine eW_iadd 46 rfl rfl ?_
        refine eW_iload_n 47 rfl rfl rfl ?_
        refine eW_iadd 48 rfl rfl ?_
        refine eW_iaload 49 rfl rfl ((A 0) ((14 + (4 * m)) + x).toNat) (Nat.ble_eq_true_of_le (by omega)) (show h6 64 = .inl (0, 62, .inl (eIA (A 0))) from hmh6.2.1) (by omega) (by omega) (by unfold i32; omega) rfl ?_
        refine eW_ret_i rfl rfl (Or.inl rfl) ?_
        refine ⟨_, _, _, _, rfl, hmh6, frh6, ?_, ?_, ⟨rfl, rfl, rfl, rfl, rfl, rfl, rfl, rfl, rfl, rfl, rfl, rfl, rfl⟩⟩
        · show (2 : Int) = _
          omega
        · intro e9
          show ((A 0) ((14 + (4 * m)) + x).toNat : Int) = _
          first
            | (exfalso; omega)
            | (rw [gTal_t (by omega), show (14 + 4 * m + x).toNat = 14 + (m * 4 + x).toNat by omega]; exact hr.2.2.2.2.2.2.2.2.2.1 _ (by omega))
      · refine eW_iconst 33 rfl rfl ?_
        refine eW_goto rfl ?_
        refine eW_ret_i rfl rfl (Or.inl rfl) ?_
        refine ⟨_, _, _, _, rfl, hmh6, frh6, ?_, ?_, ⟨rfl, rfl, rfl, rfl, rfl, rfl, rfl, rfl, rfl, rfl, rfl, rfl, rfl⟩⟩
        · show (2 : Int) = _
          omega
        · intro e9
          show (0 : Int) = _
          first
            | (exfalso; omega)
            | (rw [gTal_t (by omega), show (14 + 4 * m + x).toNat = 14 + (m * 4 + x).toNat by omega]; exact hr.2.2.2.2.2.2.2.2.2.1 _ (by omega))
    · refine eW_iconst 22 rfl rfl ?_
      refine eW_goto rfl ?_
      have hflq8 := eD_c ((0 : Int) < 0)
      refine eW_callVH 29 [.ref 63, vI 0] [] [vI (eB01 (decide ((0 : Int) < 0)))] rfl rfl rfl rfl (Nat.ble_eq_true_of_le (by omega)) hm.1 rfl rfl rfl (m_fails (d := d + 1) hm hN (by unfold i32; omega)) rfl rfl ?_
      intro h9 fh9
      have hmh9 : mM h9 (sUp s 7 0) A := fh9.1
      have frh9 : mFr h h9 := mFr_t (fun _ _ => rfl) fh9.2
      refine eW_if_eq 32 rfl rfl (by unfold i32; omega) (fun c10 => ?_) (fun c10 => ?_)
      · refine eW_aload_n 37 rfl rfl rfl ?_
        refine eW_getfield 40 rfl rfl (Nat.ble_eq_true_of_le (by omega)) rfl (show h9 63 = .inr (11, [.ref 64, .ref 65, .ref 66, .ref 67, vI (s 4), vI (s 5), vI (s 6), vI 0, vI (s 8), vI (s 9), .ref 68, vI (s 11), vI (s 12), .ref 69, vI (s 14), .ref 70, .ref 71, vI (s 17), vI (s 18), vI (s 19), vI (s 20), .ref 72, vI (s 22)]) from hmh9.1) rfl ⟨rfl, fun _ h9 => nomatch h9⟩ ?_
        refine eW_bipush 42 rfl rfl 14 rfl ?_
        refine eW_iconst 43 rfl rfl ?_
        refine eW_iload_n 44 rfl rfl rfl ?_
        refine eW_imul 45 rfl rfl ?_
        refine eW_iadd 46 rfl rfl ?_
        refine eW_iload_n 47 rfl rfl rfl ?_
        refine eW_iadd 48 rfl rfl ?_
        refine eW_iaload 49 rfl rfl ((A 0) ((14 + (4 * m)) + x).toNat) (Nat.ble_eq_true_of_le (by omega)) (show h9 64 = .inl (0, 62, .inl (eIA (A 0))) from hmh9.2.1) (by omega) (by omega) (by unfold i32; omega) rfl ?_
        refine eW_ret_i rfl rfl (Or.inl rfl) ?_
        refine ⟨_, _, _, _, rfl, hmh9, frh9, ?_, ?_, ⟨rfl, rfl, rfl, rfl, rfl, rfl, rfl, rfl, rfl, rfl, rfl, rfl, rfl⟩⟩
        · show (0 : Int) = _
          omega
        · intro e9
          show ((A 0) ((14 + (4 * m)) + x).toNat : Int) = _
          first
            | (exfalso; omega)
            | (rw [gTal_t (by omega), show (14 + 4 * m + x).toNat = 14 + (m * 4 + x).toNat by omega]; exact hr.2.2.2.2.2.2.2.2.2.1 _ (by omega))
      · refine eW_iconst 33 rfl rfl ?_
        refine eW_goto rfl ?_
        refine eW_ret_i rfl rfl (Or.inl rfl) ?_
        refine ⟨_, _, _, _, rfl, hmh9, frh9, ?_, ?_, ⟨rfl, rfl, rfl, rfl, rfl, rfl, rfl, rfl, rfl, rfl, rfl, rfl, rfl⟩⟩
        · show (0 : Int) = _
          omega
        · intro e9
          show (0 : Int) = _
          first
            | (exfalso; omega)
            | (rw [gTal_t (by omega), show (14 + 4 * m + x).toNat = 14 + (m * 4 + x).toNat by omega]; exact hr.2.2.2.2.2.2.2.2.2.1 _ (by omega))
  · refine eW_iconst 9 rfl rfl ?_
    refine eW_goto rfl ?_
    have hflq11 := eD_c ((0 : Int) < 1)
    refine eW_callVH 29 [.ref 63, vI 1] [] [vI (eB01 (decide ((0 : Int) < 1)))] rfl rfl rfl rfl (Nat.ble_eq_true_of_le (by omega)) hm.1 rfl rfl rfl (m_fails (d := d + 1) hm hN (by unfold i32; omega)) rfl rfl ?_
    intro h12 fh12
    have hmh12 : mM h12 (sUp s 7 1) A := fh12.1
    have frh12 : mFr h h12 := mFr_t (fun _ _ => rfl) fh12.2
    refine eW_if_eq 32 rfl rfl (by unfold i32; omega) (fun c13 => ?_) (fun c13 => ?_)
    · refine eW_aload_n 37 rfl rfl rfl ?_
      refine eW_getfield 40 rfl rfl (Nat.ble_eq_true_of_le (by omega)) rfl (show h12 63 = .inr (11, [.ref 64, .ref 65, .ref 66, .ref 67, vI (s 4), vI (s 5), vI (s 6), vI 1, vI (s 8), vI (s 9), .ref 68, vI (s 11), vI (s 12), .ref 69, vI (s 14), .ref 70, .ref 71, vI (s 17), vI (s 18), vI (s 19), vI (s 20), .ref 72, vI (s 22)]) from hmh12.1) rfl ⟨rfl, fun _ h9 => nomatch h9⟩ ?_
      refine eW_bipush 42 rfl rfl 14 rfl ?_
      refine eW_iconst 43 rfl rfl ?_
      refine eW_iload_n 44 rfl rfl rfl ?_
      refine eW_imul 45 rfl rfl ?_
      refine eW_iadd 46 rfl rfl ?_
      refine eW_iload_n 47 rfl rfl rfl ?_
      refine eW_iadd 48 rfl rfl ?_
      refine eW_iaload 49 rfl rfl ((A 0) ((14 + (4 * m)) + x).toNat) (Nat.ble_eq_true_of_le (by omega)) (show h12 64 = .inl (0, 62, .inl (eIA (A 0))) from hmh12.2.1) (by omega) (by omega) (by unfold i32; omega) rfl ?_
      refine eW_ret_i rfl rfl (Or.inl rfl) ?_
      refine ⟨_, _, _, _, rfl, hmh12, frh12, ?_, ?_, ⟨rfl, rfl, rfl, rfl, rfl, rfl, rfl, rfl, rfl, rfl, rfl, rfl, rfl⟩⟩
      · show (1 : Int) = _
        omega
      · intro e9
        show ((A 0) ((14 + (4 * m)) + x).toNat : Int) = _
        first
          | (exfalso; omega)
          | (rw [gTal_t (by omega), show (14 + 4 * m + x).toNat = 14 + (m * 4 + x).toNat by omega]; exact hr.2.2.2.2.2.2.2.2.2.1 _ (by omega))
    · refine eW_iconst 33 rfl rfl ?_
      refine eW_goto rfl ?_
      refine eW_ret_i rfl rfl (Or.inl rfl) ?_
      refine ⟨_, _, _, _, rfl, hmh12, frh12, ?_, ?_, ⟨rfl, rfl, rfl, rfl, rfl, rfl, rfl, rfl, rfl, rfl, rfl, rfl, rfl⟩⟩
      · show (1 : Int) = _
        omega
      · intro e9
        show (0 : Int) = _
        first
          | (exfalso; omega)
          | (rw [gTal_t (by omega), show (14 + 4 * m + x).toNat = 14 + (m * 4 + x).toNat by omega]; exact hr.2.2.2.2.2.2.2.2.2.1 _ (by omega))
theorem m_sum {d N : Nat} {h : eHp} {s : Nat → Int} {A : Nat → Nat → Int} (hm : mM h s A) (hN : 75 ≤ N) {c : Int} {G : eGd} (hr : rR G (A 0)) (hI : gI c G) : eSp (d + 4) eM_X7_sum [.ref 63] N h (mQ (gSm G) 0 s A h N) := by
  refine eSp_of [(0, .ref 63)] rfl rfl ?_
  have hG := hI.1
  have hG9 := hG
  obtain ⟨g1, g2, g3, g4⟩ := hG9
  refine eW_aload_n 1 rfl rfl rfl ?_
  refine eW_iconst 2 rfl rfl ?_
  refine eW_putfield 5 [.ref 64, .ref 65, .ref 66, .ref 67, vI (s 4), vI (s 5), vI (s 6), vI 0, vI (s 8), vI (s 9), .ref 68, vI (s 11), vI (s 12), .ref 69, vI (s 14), .ref 70, .ref 71, vI (s 17), vI (s 18), vI (s 19), vI (s 20), .ref 72, vI (s 22)] rfl rfl (Nat.ble_eq_true_of_le (by omega)) rfl hm.1 rfl rfl ?_
  intro h1 eh1 oh1
  have hmh1 : mM h1 (sUp s 7 0) A := mM_s (s := s) hm eh1 oh1
  have frh1 : mFr h h1 := mFr_s (fun _ _ => rfl) oh1
  refine eW_aload_n 6 rfl rfl rfl ?_
  have hsm := gSm_le G
  refine eW_callVH 9 [.ref 63] [] [vI (gSm G)] rfl rfl rfl rfl (Nat.ble_eq_true_of_le (by omega)) (show h1 63 = .inr (11, [.ref 64, .ref 65, .ref 66, .ref 67, vI (s 4), vI (s 5), vI (s 6), vI 0, vI (s 8), vI (s 9), .ref 68, vI (s 11), vI (s 12), .ref 69, vI (s 14), .ref 70, .ref 71, vI (s 17), vI (s 18), vI (s 19), vI (s 20), .ref 72, vI (s 22)]) from hmh1.1) rfl rfl rfl (m_sumNow (d := d + 0) hmh1 hN hr hI) rfl rfl ?_
  intro h2 fh2
  obtain ⟨V1, F1, f9h2⟩ := fh2
  obtain ⟨f8h2, hV1⟩ := f9h2
  have hmh2 : mM h2 (sUp s 7 0) (mUp (mUp A 6 V1) 7 F1) := f8h2.1
  have frh2 : mFr h h2 := mFr_t frh1 f8h2.2
  refine eW_ret_i rfl rfl (Or.inl rfl) ?_
  refine ⟨_, _, _, _, rfl, hmh2, frh2, ?_, ?_, ⟨rfl, rfl, rfl, rfl, rfl, rfl, rfl, rfl, rfl, rfl, rfl, rfl, rfl⟩⟩
  · show (0 : Int) = _
    omega
  · intro e9
    show (gSm G : Int) = _
    first
      | (exfalso; omega)
      | (rfl)
theorem m_value {d N : Nat} {h : eHp} {s : Nat → Int} {A : Nat → Nat → Int} (hm : mM h s A) (hN : 75 ≤ N) {c : Int} {G : eGd} (hr : rR G (A 0)) (hI : gI c G) {m b : Int} (hm0 : i32 m) : eSp (d + 3) eM_X7_value [.ref 63, vI m, vI b] N h (mQ (gvv (gDig G) m) (mIf (gNum m) 1 0) s A h N) := by
  refine eSp_of [(0, .ref 63), (1, vI m), (2, vI b)] rfl rfl ?_
  have hG := hI.1
  have hG9 := hG
  obtain ⟨g1, g2, g3, g4⟩ := hG9
  have hc2 := mIf_c (gNum m) 1 0
  unfold i32 at hm0
  refine eW_aload_n 1 rfl rfl rfl ?_
  refine eW_iload_n 2 rfl rfl rfl ?_
  have hnnq1 := gNum_c m
  refine eW_callVH 5 [.ref 63, vI m] [] [vI (1 - eB01 (gNum m))] rfl rfl rfl rfl (Nat.ble_eq_true_of_le (by omega)) hm.1 rfl rfl rfl (m_isNoNumber (d := d + 0) hm hN (by unfold i32; omega)) rfl rfl ?_
  intro h2 fh2
  have hmh2 : mM h2 (sUp s 7 (1 - eB01 (gNum m))) A := fh2.1
  have frh2 : mFr h h2 := mFr_t (fun _ _ => rfl) fh2.2
  refine eW_if_eq 8 rfl rfl (by unfold i32; omega) (fun c3 => ?_) (fun c3 => ?_)
  · refine eW_aload_n 11 rfl rfl rfl ?_
    refine eW_iconst 12 rfl rfl ?_
    refine eW_callVH 15 [.ref 63, vI 0] [] [] rfl rfl rfl rfl (Nat.ble_eq_true_of_le (by omega)) (show h2 63 = .inr (11, [.ref 64, .ref 65, .ref 66, .ref 67, vI (s 4), vI (s 5), vI (s 6), vI (1 - eB01 (gNum m)), vI (s 8), vI (s 9), .ref 68, vI (s 11), vI (s 12), .ref 69, vI (s 14), .ref 70, .ref 71, vI (s 17), vI (s 18), vI (s 19), vI (s 20), .ref 72, vI (s 22)]) from hmh2.1) rfl rfl rfl (m_finds (d := d + 0) hmh2 hN hr hG (by omega)) rfl rfl ?_
    intro h4 fh4
    obtain ⟨V1, F1, f9h4⟩ := fh4
    obtain ⟨f8h4, hV1, hF1⟩ := f9h4
    have hmh4 : mM h4 (sUp s 7 (1 - eB01 (gNum m))) (mUp (mUp A 6 V1) 7 F1) := f8h4.1
    have frh4 : mFr h h4 := mFr_t frh2 f8h4.2
    refine eW_aload_n 16 rfl rfl rfl ?_
    refine eW_getfield 19 rfl rfl (Nat.ble_eq_true_of_le (by omega)) rfl (show h4 63 = .inr (11, [.ref 64, .ref 65, .ref 66, .ref 67, vI (s 4), vI (s 5), vI (s 6), vI (1 - eB01 (gNum m)), vI (s 8), vI (s 9), .ref 68, vI (s 11), vI (s 12), .ref 69, vI (s 14), .ref 70, .ref 71, vI (s 17), vI (s 18), vI (s 19), vI (s 20), .ref 72, vI (s 22)]) from hmh4.1) rfl ⟨rfl, fun _ h9 => nomatch h9⟩ ?_
    refine eW_iload_n 20 rfl rfl rfl ?_
    refine eW_iaload 21 rfl rfl (gvv (gDig G) m) (Nat.ble_eq_true_of_le (by omega)) (show h4 70 = .inl (0, 31, .inl (eIA V1)) from hmh4.2.2.2.2.2.2.2.1) (by omega) (by omega) (by unfold i32; omega) (mV_r hV1 (by omega) (by omega) (by omega)) ?_
    refine eW_ret_i rfl rfl (Or.inl rfl) ?_
    refine ⟨_, _, _, _, rfl, hmh4, frh4, ?_, ?_, ⟨rfl, rfl, rfl, rfl, rfl, rfl, rfl, rfl, rfl, rfl, rfl, rfl, rfl⟩⟩
    · show (1 - eB01 (gNum m) : Int) = _
      omega
    · intro e9
      show (gvv (gDig G) m : Int) = _
      first
        | (exfalso; omega)
        | (rfl)
  · refine eW_iconst 9 rfl rfl ?_
    refine eW_ret_i rfl rfl (Or.inl rfl) ?_
    refine ⟨_, _, _, _, rfl, hmh2, frh2, ?_, ?_, ⟨rfl, rfl, rfl, rfl, rfl, rfl, rfl, rfl, rfl, rfl, rfl, rfl, rfl⟩⟩
    · show (1 - eB01 (gNum m) : Int) = _
      omega
    · intro e9
      show (0 : Int) = _
      first
        | (exfalso; omega)
        | (rfl)
theorem mH_r {F : Nat → Int} {p : Int → Bool} {i : Int} (hF : ∀ k : Nat, k < 256 → F k = eB01 (p k)) (h0 : 0 ≤ i) (h1 : i < 256) : eIA F i.toNat = Int32.ofInt (eB01 (p i)) :=
  congrArg Int32.ofInt (by rw [hF _ (by omega), Int.toNat_of_nonneg h0])
theorem m_lists {d N : Nat} {h : eHp} {s : Nat → Int} {A : Nat → Nat → Int} (hm : mM h s A) (hN : 75 ≤ N) {c : Int} {G : eGd} (hr : rR G (A 0)) (hI : gI c G) {m x : Int} (hm0 : i32 m) (hx0 : i32 x) : eSp (d + 3) eM_X7_lists [.ref 63, vI m, vI x] N h (mQ (eB01 (gHasL (gDig G) m x)) (mIf (gNum m) 1 0) s A h N) := by
  refine eSp_of [(0, .ref 63), (1, vI m), (2, vI x)] rfl rfl ?_
  have hG := hI.1
  have hG9 := hG
  obtain ⟨g1, g2, g3, g4⟩ := hG9
  have hc2 := mIf_c (gNum m) 1 0
  unfold i32 at hm0 hx0
  have hgo := eB01_c (gOpt (gDig G) (gvv (gDig G)) m x)
  refine eW_aload_n 1 rfl rfl rfl ?_
  refine eW_iload_n 2 rfl rfl rfl ?_
  have hnnq1 := gNum_c m
  refine eW_callVH 5 [.ref 63, vI m] [] [vI (1 - eB01 (gNum m))] rfl rfl rfl rfl (Nat.ble_eq_true_of_le (by omega)) hm.1 rfl rfl rfl (m_isNoNumber (d := d + 0) hm hN (by unfold i32; omega)) rfl rfl ?_
  intro h2 fh2
  have hmh2 : mM h2 (sUp s 7 (1 - eB01 (gNum m))) A := fh2.1
  have frh2 : mFr h h2 := mFr_t (fun _ _ => rfl) fh2.2
  refine eW_if_eq 8 rfl rfl (by unfold i32; omega) (fun c3 => ?_) (fun c3 => ?_)
  · refine eW_aload_n 11 rfl rfl rfl ?_
    refine eW_iload_n 12 rfl rfl rfl ?_
    refine eW_callVH 15 [.ref 63, vI m] [] [] rfl rfl rfl rfl (Nat.ble_eq_true_of_le (by omega)) (show h2 63 = .inr (11, [.ref 64, .ref 65, .ref 66, .ref 67, vI (s 4), vI (s 5), vI (s 6), vI (1 - eB01 (gNum m)), vI (s 8), vI (s 9), .ref 68, vI (s 11), vI (s 12), .ref 69, vI (s 14), .ref 70, .ref 71, vI (s 17), vI (s 18), vI (s 19), vI (s 20), .ref 72, vI (s 22)]) from hmh2.1) rfl rfl rfl (m_finds (d := d + 0) hmh2 hN hr hG (by omega)) rfl rfl ?_
    intro h4 fh4
    obtain ⟨V1, F1, f9h4⟩ := fh4
    obtain ⟨f8h4, hV1, hF1⟩ := f9h4
    have hmh4 : mM h4 (sUp s 7 (1 - eB01 (gNum m))) (mUp (mUp A 6 V1) 7 F1) := f8h4.1
    have frh4 : mFr h h4 := mFr_t frh2 f8h4.2
    refine eW_iload_n 16 rfl rfl rfl ?_
    refine eW_iconst 17 rfl rfl ?_
    refine eW_sipush 20 rfl rfl 255 rfl ?_
    have hinq5 := eD_c ((0 : Int) ≤ x ∧ x ≤ 255)
    refine eW_callS 23 [vI x, vI 0, vI 255] [] [vI (eB01 (decide ((0 : Int) ≤ x ∧ x ≤ 255)))] rfl rfl rfl (Or.inl rfl) rfl rfl rfl (m_in (d := d + 1) (by unfold i32; omega) (by unfold i32; omega) (by unfold i32; omega)) rfl rfl ?_
    refine eW_if_eq 26 rfl rfl (by unfold i32; omega) (fun c6 => ?_) (fun c6 => ?_)
    · refine eW_iconst 40 rfl rfl ?_
      refine eW_ret_i rfl rfl (Or.inr (Or.inl ⟨rfl, rfl⟩)) ?_
      refine ⟨_, _, _, _, rfl, hmh4, frh4, ?_, ?_, ⟨rfl, rfl, rfl, rfl, rfl, rfl, rfl, rfl, rfl, rfl, rfl, rfl, rfl⟩⟩
      · show (1 - eB01 (gNum m) : Int) = _
        omega
      · intro e9
        show (0 : Int) = _
        first
          | (exfalso; omega)
          | (rw [gHasL_t (by omega) (by omega)]; omega)
          | (rw [gHasL_f (by omega)]; rfl)
    · refine eW_aload_n 27 rfl rfl rfl ?_
      refine eW_getfield 30 rfl rfl (Nat.ble_eq_true_of_le (by omega)) rfl (show h4 63 = .inr (11, [.ref 64, .ref 65, .ref 66, .ref 67, vI (s 4), vI (s 5), vI (s 6), vI (1 - eB01 (gNum m)), vI (s 8), vI (s 9), .ref 68, vI (s 11), vI (s 12), .ref 69, vI (s 14), .ref 70, .ref 71, vI (s 17), vI (s 18), vI (s 19), vI (s 20), .ref 72, vI (s 22)]) from hmh4.1) rfl ⟨rfl, fun _ h9 => nomatch h9⟩ ?_
      refine eW_iload_n 31 rfl rfl rfl ?_
      refine eW_baload 32 rfl rfl (eB01 (gOpt (gDig G) (gvv (gDig G)) m x)) (Nat.ble_eq_true_of_le (by omega)) rfl (show h4 71 = .inl (2, 256, .inl (eIA F1)) from hmh4.2.2.2.2.2.2.2.2.1) (by omega) (by omega) (by unfold i32; omega) (mH_r hF1 (by omega) (by omega)) ?_
      refine eW_if_eq 35 rfl rfl (by unfold i32; omega) (fun c7 => ?_) (fun c7 => ?_)
      · refine eW_iconst 40 rfl rfl ?_
        refine eW_ret_i rfl rfl (Or.inr (Or.inl ⟨rfl, rfl⟩)) ?_
        refine ⟨_, _, _, _, rfl, hmh4, frh4, ?_, ?_, ⟨rfl, rfl, rfl, rfl, rfl, rfl, rfl, rfl, rfl, rfl, rfl, rfl, rfl⟩⟩
        · show (1 - eB01 (gNum m) : Int) = _
          omega
        · intro e9
          show (0 : Int) = _
          first
            | (exfalso; omega)
            | (rw [gHasL_t (by omega) (by omega)]; omega)
            | (rw [gHasL_f (by omega)]; rfl)
      · refine eW_iconst 36 rfl rfl ?_
        refine eW_goto rfl ?_
        refine eW_ret_i rfl rfl (Or.inr (Or.inl ⟨rfl, rfl⟩)) ?_
        refine ⟨_, _, _, _, rfl, hmh4, frh4, ?_, ?_, ⟨rfl, rfl, rfl, rfl, rfl, rfl, rfl, rfl, rfl, rfl, rfl, rfl, rfl⟩⟩
        · show (1 - eB01 (gNum m) : Int) = _
          omega
        · intro e9
          show (1 : Int) = _
          first
            | (exfalso; omega)
            | (rw [gHasL_t (by omega) (by omega)]; omega)
            | (rw [gHasL_f (by omega)]; rfl)
  · refine eW_iconst 9 rfl rfl ?_
    refine eW_ret_i rfl rfl (Or.inr (Or.inl ⟨rfl, rfl⟩)) ?_
    refine ⟨_, _, _, _, rfl, hmh2, frh2, ?_, ?_, ⟨rfl, rfl, rfl, rfl, rfl, rfl, rfl, rfl, rfl, rfl, rfl, rfl, rfl⟩⟩
    · show (1 - eB01 (gNum m) : Int) = _
      omega
    · intro e9
      show (0 : Int) = _
      first
        | (exfalso; omega)
        | (rw [gHasL_t (by omega) (by omega)]; omega)
        | (rw [gHasL_f (by omega)]; rfl)
theorem gCnt_succ {p : Int → Bool} {i : Int} (h : 0 ≤ i) : gCnt p (i + 1).toNat = gCnt p i.toNat + eB01 (p i) := by
  obtain ⟨k, rfl⟩ : ∃ k : Nat, i = k := ⟨i.toNat, by omega⟩
  rw [show ((k : Int) + 1).toNat = k + 1 by omega, show (k : Int).toNat = k by omega]; rfl
theorem gCnt_le {p : Int → Bool} : ∀ n : Nat, 0 ≤ gCnt p n ∧ gCnt p n ≤ n
  | 0 => ⟨Int.le_refl _, Int.le_refl _⟩
  | n + 1 => by
    have h1 := gCnt_le (p := p) n
    have h2 := eB01_le (p n)
    simp only [gCnt]
    omega
theorem gCnt_congr {p q : Int → Bool} : ∀ n : Nat, (∀ j : Nat, j < n → p j = q j) → gCnt p n = gCnt q n
  | 0, _ => rfl
  | n + 1, h => by simp only [gCnt]; rw [gCnt_congr n (fun j hj => h j (by omega)), h n (by omega)]
theorem gCnt_past {p : Int → Bool} {n : Nat} (h : ∀ j : Nat, n ≤ j → p j = false) : ∀ k, gCnt p (n + k) = gCnt p n
  | 0 => rfl
  | k + 1 => by show gCnt p (n + k) + eB01 (p ((n + k : Nat) : Int)) = _; rw [gCnt_past h k, h _ (by omega)]; exact Int.add_zero _
theorem gCnt_256 {D : Int → Int} {m : Int} (hm : 0 ≤ m ∧ m ≤ 30) : gCnt (gOpt D (gvv D) m) 256 = gCnt (gHasL D m) 32 := by
  rw [show 256 = 32 + 224 from rfl, gCnt_past (fun j hj => gv_no (by omega) (by omega))]
  exact gCnt_congr 32 (fun j _ => (gHasL_t hm (by omega)).symm)
theorem m_listed_l {d N k z : Nat} {h : eHp} {s : Nat → Int} {A : Nat → Nat → Int} {F1 : Nat → Int} (hm : mM h s A) (hA7 : A 7 = F1) (hN : 75 ≤ N) {P : eR → Prop} {G : eGd} {m : Int} (hF1 : ∀ k : Nat, k < 256 → F1 k = eB01 (gOpt (gDig G) (gvv (gDig G)) m k)) : ∀ (m9 : Nat) (a i : Int), 256 - i ≤ m9 → 0 ≤ i ∧ i ≤ 256 → a = gCnt (gOpt (gDig G) (gvv (gDig G)) m) i.toNat → (∀ (a : Int), a = gCnt (gOpt (gDig G) (gvv (gDig G)) m) 256 → eWp eOx (eEv (d + 2)) eM_X7_listed (49, [(0, .ref 63), (1, vI m), (2, vI a)], [], N, h, k, z) P) → eWp eOx (eEv (d + 2)) eM_X7_listed (19, [(0, .ref 63), (1, vI m), (2, vI a), (3, vI i)], [], N, h, k, z) P := by
  intro m9
  induction m9 with
  | zero =>
    intro a i hm9 q0 q1 kk
    have hgo := eB01_c (gOpt (gDig G) (gvv (gDig G)) m i)
    refine eW_iload_n 20 rfl rfl rfl ?_
    refine eW_sipush 23 rfl rfl 256 rfl ?_
    refine eW_icmp_ge 26 rfl rfl (by unfold i32; omega) (by unfold i32; omega) (fun c1 => ?_) (fun c1 => ?_)
    · refine eW_re [(0, .ref 63), (1, vI m), (2, vI a)] rfl rfl (List.forall_mem_cons.mpr ⟨rfl, List.forall_mem_cons.mpr ⟨rfl, List.forall_mem_cons.mpr ⟨rfl, fun _ h => absurd h List.not_mem_nil⟩⟩⟩) (List.forall_mem_cons.mpr ⟨Or.inl rfl, List.forall_mem_cons.mpr ⟨Or.inl rfl, List.forall_mem_cons.mpr ⟨Or.inl rfl, List.forall_mem_cons.mpr ⟨Or.inr ⟨_, rfl⟩, fun _ h => absurd h List.not_mem_nil⟩⟩⟩⟩) ?_
      refine kk _ ?_
      rw [q1, show i = 256 by omega]; rfl
    · refine eW_iload_n 27 rfl rfl rfl ?_
      refine eW_aload_n 28 rfl rfl rfl ?_
      refine eW_getfield 31 rfl rfl (Nat.ble_eq_true_of_le (by omega)) rfl hm.1 rfl ⟨rfl, fun _ h9 => nomatch h9⟩ ?_
      refine eW_iload_n 32 rfl rfl rfl ?_
      refine eW_baload 33 rfl rfl (eB01 (gOpt (gDig G) (gvv (gDig G)) m i)) (Nat.ble_eq_true_of_le (by omega)) rfl (show h 71 = .inl (2, 256, .inl (eIA (A 7))) from hm.2.2.2.2.2.2.2.2.1) (by omega) (by omega) (by unfold i32; omega) (by rw [hA7]; exact mH_r hF1 (by omega) (by omega)) ?_
      refine eW_if_eq 36 rfl rfl (by unfold i32; omega) (fun c2 => ?_) (fun c2 => ?_)
      · refine eW_iconst 41 rfl rfl ?_
        refine eW_iadd 42 rfl rfl ?_
        refine eW_istore_n 43 rfl rfl [(2, vI (a + 0)), (0, .ref 63), (1, vI m), (3, vI i)] rfl rfl ?_
        refine eW_iinc 46 rfl rfl [(3, vI (i + 1)), (2, vI (a + 0)), (0, .ref 63), (1, vI m)] rfl rfl rfl ?_
        refine eW_goto rfl ?_
        refine eW_re [(0, .ref 63), (1, vI m), (2, vI (a + 0)), (3, vI (i + 1))] rfl rfl (List.forall_mem_cons.mpr ⟨rfl, List.forall_mem_cons.mpr ⟨rfl, List.forall_mem_cons.mpr ⟨rfl, List.forall_mem_cons.mpr ⟨rfl, fun _ h => absurd h List.not_mem_nil⟩⟩⟩⟩) (List.forall_mem_cons.mpr ⟨Or.inl rfl, List.forall_mem_cons.mpr ⟨Or.inl rfl, List.forall_mem_cons.mpr ⟨Or.inl rfl, List.forall_mem_cons.mpr ⟨Or.inl rfl, fun _ h => absurd h List.not_mem_nil⟩⟩⟩⟩) ?_
        exact absurd hm9 (by omega)
      · refine eW_iconst 37 rfl rfl ?_
        refine eW_goto rfl ?_
        refine eW_iadd 42 rfl rfl ?_
        refine eW_istore_n 43 rfl rfl [(2, vI (a + 1)), (0, .ref 63), (1, vI m), (3, vI i)] rfl rfl ?_
        refine eW_iinc 46 rfl rfl [(3, vI (i + 1)), (2, vI (a + 1)), (0, .ref 63), (1, vI m)] rfl rfl rfl ?_
        refine eW_goto rfl ?_
        refine eW_re [(0, .ref 63), (1, vI m), (2, vI (a + 1)), (3, vI (i + 1))] rfl rfl (List.forall_mem_cons.mpr ⟨rfl, List.forall_mem_cons.mpr ⟨rfl, List.forall_mem_cons.mpr ⟨rfl, List.forall_mem_cons.mpr ⟨rfl, fun _ h => absurd h List.not_mem_nil⟩⟩⟩⟩) (List.forall_mem_cons.mpr ⟨Or.inl rfl, List.forall_mem_cons.mpr ⟨Or.inl rfl, List.forall_mem_cons.mpr ⟨Or.inl rfl, List.forall_mem_cons.mpr ⟨Or.inl rfl, fun _ h => absurd h List.not_mem_nil⟩⟩⟩⟩) ?_
        exact absurd hm9 (by omega)
  | succ m9 ih =>
    intro a i hm9 q0 q1 kk
    have hgo := eB01_c (gOpt (gDig G) (gvv (gDig G)) m i)
    refine eW_iload_n 20 rfl rfl rfl ?_
    refine eW_sipush 23 rfl rfl 256 rfl ?_
    refine eW_icmp_ge 26 rfl rfl (by unfold i32; omega) (by unfold i32; omega) (fun c1 => ?_) (fun c1 => ?_)
    · refine eW_re [(0, .ref 63), (1, vI m), (2, vI a)] rfl rfl (List.forall_mem_cons.mpr ⟨rfl, List.forall_mem_cons.mpr ⟨rfl, List.forall_mem_cons.mpr ⟨rfl, fun _ h => absurd h List.not_mem_nil⟩⟩⟩) (List.forall_mem_cons.mpr ⟨Or.inl rfl, List.forall_mem_cons.mpr ⟨Or.inl rfl, List.forall_mem_cons.mpr ⟨Or.inl rfl, List.forall_mem_cons.mpr ⟨Or.inr ⟨_, rfl⟩, fun _ h => absurd h List.not_mem_nil⟩⟩⟩⟩) ?_
      refine kk _ ?_
      rw [q1, show i = 256 by omega]; rfl
    · refine eW_iload_n 27 rfl rfl rfl ?_
      refine eW_aload_n 28 rfl rfl rfl ?_
      refine eW_getfield 31 rfl rfl (Nat.ble_eq_true_of_le (by omega)) rfl hm.1 rfl ⟨rfl, fun _ h9 => nomatch h9⟩ ?_
      refine eW_iload_n 32 rfl rfl rfl ?_
      refine eW_baload 33 rfl rfl (eB01 (gOpt (gDig G) (gvv (gDig G)) m i)) (Nat.ble_eq_true_of_le (by omega)) rfl (show h 71 = .inl (2, 256, .inl (eIA (A 7))) from hm.2.2.2.2.2.2.2.2.1) (by omega) (by omega) (by unfold i32; omega) (by rw [hA7]; exact mH_r hF1 (by omega) (by omega)) ?_
      refine eW_if_eq 36 rfl rfl (by unfold i32; omega) (fun c2 => ?_) (fun c2 => ?_)
      · refine eW_iconst 41 rfl rfl ?_
        refine eW_iadd 42 rfl rfl ?_
        refine eW_istore_n 43 rfl rfl [(2, vI (a + 0)), (0, .ref 63), (1, vI m), (3, vI i)] rfl rfl ?_
        refine eW_iinc 46 rfl rfl [(3, vI (i + 1)), (2, vI (a + 0)), (0, .ref 63), (1, vI m)] rfl rfl rfl ?_
        refine eW_goto rfl ?_
        refine eW_re [(0, .ref 63), (1, vI m), (2, vI (a + 0)), (3, vI (i + 1))] rfl rfl (List.forall_mem_cons.mpr ⟨rfl, List.forall_mem_cons.mpr ⟨rfl, List.forall_mem_cons.mpr ⟨rfl, List.forall_mem_cons.mpr ⟨rfl, fun _ h => absurd h List.not_mem_nil⟩⟩⟩⟩) (List.forall_mem_cons.mpr ⟨Or.inl rfl, List.forall_mem_cons.mpr ⟨Or.inl rfl, List.forall_mem_cons.mpr ⟨Or.inl rfl, List.forall_mem_cons.mpr ⟨Or.inl rfl, fun _ h => absurd h List.not_mem_nil⟩⟩⟩⟩) ?_
        refine ih _ (i + 1) (by omega) (by omega) ?_ kk
        rw [gCnt_succ q0.1]; omega
      · refine eW_iconst 37 rfl rfl ?_
        refine eW_goto rfl ?_
        refine eW_iadd 42 rfl rfl ?_
        refine eW_istore_n 43 rfl rfl [(2, vI (a + 1)), (0, .ref 63), (1, vI m), (3, vI i)] rfl rfl ?_
        refine eW_iinc 46 rfl rfl [(3, vI (i + 1)), (2, vI (a + 1)), (0, .ref 63), (1, vI m)] rfl rfl rfl ?_
        refine eW_goto rfl ?_
        refine eW_re [(0, .ref 63), (1, vI m), (2, vI (a + 1)), (3, vI (i + 1))] rfl rfl (List.forall_mem_cons.mpr ⟨rfl, List.forall_mem_cons.mpr ⟨rfl, List.forall_mem_cons.mpr ⟨rfl, List.forall_mem_cons.mpr ⟨rfl, fun _ h => absurd h List.not_mem_nil⟩⟩⟩⟩) (List.forall_mem_cons.mpr ⟨Or.inl rfl, List.forall_mem_cons.mpr ⟨Or.inl rfl, List.forall_mem_cons.mpr ⟨Or.inl rfl, List.forall_mem_cons.mpr ⟨Or.inl rfl, fun _ h => absurd h List.not_mem_nil⟩⟩⟩⟩) ?_
        refine ih _ (i + 1) (by omega) (by omega) ?_ kk
        rw [gCnt_succ q0.1]; omega
theorem m_listed {d N : Nat} {h : eHp} {s : Nat → Int} {A : Nat → Nat → Int} (hm : mM h s A) (hN : 75 ≤ N) {c : Int} {G : eGd} (hr : rR G (A 0)) (hI : gI c G) {m : Int} (hm0 : i32 m) : eSp (d + 3) eM_X7_listed [.ref 63, vI m] N h (mQ (gCnt (gHasL (gDig G) m) 32) (mIf (gNum m) 1 0) s A h N) := by
  refine eSp_of [(0, .ref 63), (1, vI m)] rfl rfl ?_
  have hG := hI.1
  have hG9 := hG
  obtain ⟨g1, g2, g3, g4⟩ := hG9
  have hc2 := mIf_c (gNum m) 1 0
  unfold i32 at hm0
  refine eW_aload_n 1 rfl rfl rfl ?_
  refine eW_iload_n 2 rfl rfl rfl ?_
  have hnnq1 := gNum_c m
  refine eW_callVH 5 [.ref 63, vI m] [] [vI (1 - eB01 (gNum m))] rfl rfl rfl rfl (Nat.ble_eq_true_of_le (by omega)) hm.1 rfl rfl rfl (m_isNoNumber (d := d + 0) hm hN (by unfold i32; omega)) rfl rfl ?_
  intro h2 fh2
  have hmh2 : mM h2 (sUp s 7 (1 - eB01 (gNum m))) A := fh2.1
  have frh2 : mFr h h2 := mFr_t (fun _ _ => rfl) fh2.2
  refine eW_if_eq 8 rfl rfl (by unfold i32; omega) (fun c3 => ?_) (fun c3 => ?_)
  · refine eW_aload_n 11 rfl rfl rfl ?_
    refine eW_iload_n 12 rfl rfl rfl ?_
    refine eW_callVH 15 [.ref 63, vI m] [] [] rfl rfl rfl rfl (Nat.ble_eq_true_of_le (by omega)) (show h2 63 = .inr (11, [.ref 64, .ref 65, .ref 66, .ref 67, vI (s 4), vI (s 5), vI (s 6), vI (1 - eB01 (gNum m)), vI (s 8), vI (s 9), .ref 68, vI (s 11), vI (s 12), .ref 69, vI (s 14), .ref 70, .ref 71, vI (s 17), vI (s 18), vI (s 19), vI (s 20), .ref 72, vI (s 22)]) from hmh2.1) rfl rfl rfl (m_finds (d := d + 0) hmh2 hN hr hG (by omega)) rfl rfl ?_
    intro h4 fh4
    obtain ⟨V1, F1, f9h4⟩ := fh4
    obtain ⟨f8h4, hV1, hF1⟩ := f9h4
    have hmh4 : mM h4 (sUp s 7 (1 - eB01 (gNum m))) (mUp (mUp A 6 V1) 7 F1) := f8h4.1
    have frh4 : mFr h h4 := mFr_t frh2 f8h4.2
    refine eW_iconst 16 rfl rfl ?_
    refine eW_istore_n 17 rfl rfl [(2, vI 0), (0, .ref 63), (1, vI m)] rfl rfl ?_
    refine eW_iconst 18 rfl rfl ?_
    refine eW_istore_n 19 rfl rfl [(3, vI 0), (2, vI 0), (0, .ref 63), (1, vI m)] rfl rfl ?_
    refine eW_re [(0, .ref 63), (1, vI m), (2, vI 0), (3, vI 0)] rfl rfl (List.forall_mem_cons.mpr ⟨rfl, List.forall_mem_cons.mpr ⟨rfl, List.forall_mem_cons.mpr ⟨rfl, List.forall_mem_cons.mpr ⟨rfl, fun _ h => absurd h List.not_mem_nil⟩⟩⟩⟩) (List.forall_mem_cons.mpr ⟨Or.inl rfl, List.forall_mem_cons.mpr ⟨Or.inl rfl, List.forall_mem_cons.mpr ⟨Or.inl rfl, List.forall_mem_cons.mpr ⟨Or.inl rfl, fun _ h => absurd h List.not_mem_nil⟩⟩⟩⟩) ?_
    refine m_listed_l hmh4 rfl hN hF1 _ 0 0 (Int.self_le_toNat _) (by omega) rfl (fun a q => ?_)
    refine eW_iload_n 50 rfl rfl rfl ?_
    refine eW_ret_i rfl rfl (Or.inl rfl) ?_
    refine ⟨_, _, _, _, rfl, hmh4, frh4, ?_, ?_, ⟨rfl, rfl, rfl, rfl, rfl, rfl, rfl, rfl, rfl, rfl, rfl, rfl, rfl⟩⟩
    · show (1 - eB01 (gNum m) : Int) = _
      omega
    · intro e9
      show (a : Int) = _
      first
        | (exfalso; omega)
        | (rw [q, gCnt_256 (by omega)])
  · refine eW_iconst 9 rfl rfl ?_
    refine eW_ret_i rfl rfl (Or.inl rfl) ?_
    refine ⟨_, _, _, _, rfl, hmh2, frh2, ?_, ?_, ⟨rfl, rfl, rfl, rfl, rfl, rfl, rfl, rfl, rfl, rfl, rfl, rfl, rfl⟩⟩
    · show (1 - eB01 (gNum m) : Int) = _
      omega
    · intro e9
      show (0 : Int) = _
      first
        | (exfalso; omega)
        | (rw [q, gCnt_256 (by omega)])
theorem m_isPeriod_l {d N : Nat} {h : eHp} {s : Nat → Int} {A : Nat → Nat → Int} (hm : mM h s A) (hN : 75 ≤ N) {G : eGd} {V : eVs} (hVD : gVD V (gDig G)) {V1 : Nat → Int} (hA6 : A 6 = V1) (hV1 : ∀ i : Nat, (i : Int) < 31 → V1 i = gv (gDig G) i) {a n : Int} (ha : 0 ≤ a) (hn : 1 ≤ n ∧ n ≤ 30) : ∀ (m9 : Nat) (i : Int), 31 - n - i ≤ m9 → 0 ≤ i ∧ i ≤ 31 → eWp eOx (eEv (d + 0)) eM_X7_isPeriod (2, [(0, .ref 63), (1, vI a), (2, vI n), (3, vI i)], [], N, h, 0, 0) (eRet (some (vI (eB01 (gAllF (gPer V n) i (31 - n - i).toNat)))) N h) := by
  intro m9
  induction m9 with
  | zero =>
    intro i hm9 q0
    have hx1 := gvv_30 (D := gDig G) i
    have hx2 := gvv_30 (D := gDig G) (i + n)
    refine eW_iload_n 3 rfl rfl rfl ?_
    refine eW_iload_n 4 rfl rfl rfl ?_
    refine eW_iadd 5 rfl rfl ?_
    refine eW_bipush 7 rfl rfl 30 rfl ?_
    refine eW_icmp_gt 10 rfl rfl (by unfold i32; omega) (by unfold i32; omega) (fun c1 => ?_) (fun c1 => ?_)
    · refine eW_iconst 36 rfl rfl ?_
      refine eW_ret_i rfl rfl (Or.inr (Or.inl ⟨rfl, rfl⟩)) ?_
      refine eRet_i ?_
      first | (rw [gAllF_f (by omega) (by unfold gPer; rw [gV_fun hVD]; exact decide_eq_false (by omega))]; rfl) | (rw [gAllF_0 (by omega)]; rfl)
    · refine eW_aload_n 11 rfl rfl rfl ?_
      refine eW_getfield 14 rfl rfl (Nat.ble_eq_true_of_le (by omega)) rfl hm.1 rfl ⟨rfl, fun _ h9 => nomatch h9⟩ ?_
      refine eW_iload_n 15 rfl rfl rfl ?_
      refine eW_iaload 16 rfl rfl (gvv (gDig G) i) (Nat.ble_eq_true_of_le (by omega)) (show h 70 = .inl (0, 31, .inl (eIA (A 6))) from hm.2.2.2.2.2.2.2.1) (by omega) (by omega) (by unfold i32; omega) (by rw [hA6]; exact mV_r hV1 (by omega) (by omega) (by omega)) ?_
      refine eW_aload_n 17 rfl rfl rfl ?_
      refine eW_getfield 20 rfl rfl (Nat.ble_eq_true_of_le (by omega)) rfl hm.1 rfl ⟨rfl, fun _ h9 => nomatch h9⟩ ?_
      refine eW_iload_n 21 rfl rfl rfl ?_
      refine eW_iload_n 22 rfl rfl rfl ?_
      refine eW_iadd 23 rfl rfl ?_
      refine eW_iaload 24 rfl rfl (gvv (gDig G) (i + n)) (Nat.ble_eq_true_of_le (by omega)) (show h 70 = .inl (0, 31, .inl (eIA (A 6))) from hm.2.2.2.2.2.2.2.1) (by omega) (by omega) (by unfold i32; omega) (by rw [hA6]; exact mV_r hV1 (by omega) (by omega) (by omega)) ?_
      refine eW_icmp_eq 27 rfl rfl (by unfold i32; omega) (by unfold i32; omega) (fun c2 => ?_) (fun c2 => ?_)
      · refine eW_iinc 32 rfl rfl [(3, vI (i + 1)), (0, .ref 63), (1, vI a), (2, vI n)] rfl rfl rfl ?_
        refine eW_goto rfl ?_
        refine eW_re [(0, .ref 63), (1, vI a), (2, vI n), (3, vI (i + 1))] rfl rfl (List.forall_mem_cons.mpr ⟨rfl, List.forall_mem_cons.mpr ⟨rfl, List.forall_mem_cons.mpr ⟨rfl, List.forall_mem_cons.mpr ⟨rfl, fun _ h => absurd h List.not_mem_nil⟩⟩⟩⟩) (List.forall_mem_cons.mpr ⟨Or.inl rfl, List.forall_mem_cons.mpr ⟨Or.inl rfl, List.forall_mem_cons.mpr ⟨Or.inl rfl, List.forall_mem_cons.mpr ⟨Or.inl rfl, fun _ h => absurd h List.not_mem_nil⟩⟩⟩⟩) ?_
        exact absurd hm9 (by omega)
      · refine eW_iconst 28 rfl rfl ?_
        refine eW_ret_i rfl rfl (Or.inr (Or.inl ⟨rfl, rfl⟩)) ?_
        refine eRet_i ?_
        first | (rw [gAllF_f (by omega) (by unfold gPer; rw [gV_fun hVD]; exact decide_eq_false (by omega))]; rfl) | (rw [gAllF_0 (by omega)]; rfl)
  | succ m9 ih =>
    intro i hm9 q0
    have hx1 := gvv_30 (D := gDig G) i
    have hx2 := gvv_30 (D := gDig G) (i + n)
    refine eW_iload_n 3 rfl rfl rfl ?_
    refine eW_iload_n 4 rfl rfl rfl ?_
    refine eW_iadd 5 rfl rfl ?_
    refine eW_bipush 7 rfl rfl 30 rfl ?_
    refine eW_icmp_gt 10 rfl rfl (by unfold i32; omega) (by unfold i32; omega) (fun c1 => ?_) (fun c1 => ?_)
    · refine eW_iconst 36 rfl rfl ?_
      refine eW_ret_i rfl rfl (Or.inr (Or.inl ⟨rfl, rfl⟩)) ?_
      refine eRet_i ?_
      first | (rw [gAllF_f (by omega) (by unfold gPer; rw [gV_fun hVD]; exact decide_eq_false (by omega))]; rfl) | (rw [gAllF_0 (by omega)]; rfl)
    · refine eW_aload_n 11 rfl rfl rfl ?_
      refine eW_getfield 14 rfl rfl (Nat.ble_eq_true_of_le (by omega)) rfl hm.1 rfl ⟨rfl, fun _ h9 => nomatch h9⟩ ?_
      refine eW_iload_n 15 rfl rfl rfl ?_
      refine eW_iaload 16 rfl rfl (gvv (gDig G) i) (Nat.ble_eq_true_of_le (by omega)) (show h 70 = .inl (0, 31, .inl (eIA (A 6))) from hm.2.2.2.2.2.2.2.1) (by omega) (by omega) (by unfold i32; omega) (by rw [hA6]; exact mV_r hV1 (by omega) (by omega) (by omega)) ?_
      refine eW_aload_n 17 rfl rfl rfl ?_
      refine eW_getfield 20 rfl rfl (Nat.ble_eq_true_of_le (by omega)) rfl hm.1 rfl ⟨rfl, fun _ h9 => nomatch h9⟩ ?_
      refine eW_iload_n 21 rfl rfl rfl ?_
      refine eW_iload_n 22 rfl rfl rfl ?_
      refine eW_iadd 23 rfl rfl ?_
      refine eW_iaload 24 rfl rfl (gvv (gDig G) (i + n)) (Nat.ble_eq_true_of_le (by omega)) (show h 70 = .inl (0, 31, .inl (eIA (A 6))) from hm.2.2.2.2.2.2.2.1) (by omega) (by omega) (by unfold i32; omega) (by rw [hA6]; exact mV_r hV1 (by omega) (by omega) (by omega)) ?_
      refine eW_icmp_eq 27 rfl rfl (by unfold i32; omega) (by unfold i32; omega) (fun c2 => ?_) (fun c2 => ?_)
      · refine eW_iinc 32 rfl rfl [(3, vI (i + 1)), (0, .ref 63), (1, vI a), (2, vI n)] rfl rfl rfl ?_
        refine eW_goto rfl ?_
        refine eW_re [(0, .ref 63), (1, vI a), (2, vI n), (3, vI (i + 1))] rfl rfl (List.forall_mem_cons.mpr ⟨rfl, List.forall_mem_cons.mpr ⟨rfl, List.forall_mem_cons.mpr ⟨rfl, List.forall_mem_cons.mpr ⟨rfl, fun _ h => absurd h List.not_mem_nil⟩⟩⟩⟩) (List.forall_mem_cons.mpr ⟨Or.inl rfl, List.forall_mem_cons.mpr ⟨Or.inl rfl, List.forall_mem_cons.mpr ⟨Or.inl rfl, List.forall_mem_cons.mpr ⟨Or.inl rfl, fun _ h => absurd h List.not_mem_nil⟩⟩⟩⟩) ?_
        rw [gAllF_t (by omega) (by unfold gPer; rw [gV_fun hVD]; exact decide_eq_true (by omega)), show 31 - n - i - 1 = 31 - n - (i + 1) by omega]
        exact ih (i + 1) (by omega) (by omega)
      · refine eW_iconst 28 rfl rfl ?_
        refine eW_ret_i rfl rfl (Or.inr (Or.inl ⟨rfl, rfl⟩)) ?_
        refine eRet_i ?_
        first | (rw [gAllF_f (by omega) (by unfold gPer; rw [gV_fun hVD]; exact decide_eq_false (by omega))]; rfl) | (rw [gAllF_0 (by omega)]; rfl)
theorem m_isPeriod {d N : Nat} {h : eHp} {s : Nat → Int} {A : Nat → Nat → Int} (hm : mM h s A) (hN : 75 ≤ N) {G : eGd} {V : eVs} (hVD : gVD V (gDig G)) {V1 : Nat → Int} (hA6 : A 6 = V1) (hV1 : ∀ i : Nat, (i : Int) < 31 → V1 i = gv (gDig G) i) {a n : Int} (hn : 1 ≤ n ∧ n ≤ 30) (ha : 0 ≤ a ∧ a ≤ 30) : eSp (d + 1) eM_X7_isPeriod [.ref 63, vI a, vI n] N h (eRet (some (vI (eB01 (gPerIs V a n)))) N h) := by
  refine eSp_of [(0, .ref 63), (1, vI a), (2, vI n)] rfl rfl ?_
  refine eW_iload_n 1 rfl rfl rfl ?_
  refine eW_istore_n 2 rfl rfl [(3, vI a), (0, .ref 63), (1, vI a), (2, vI n)] rfl rfl ?_
  refine eW_re [(0, .ref 63), (1, vI a), (2, vI n), (3, vI a)] rfl rfl (List.forall_mem_cons.mpr ⟨rfl, List.forall_mem_cons.mpr ⟨rfl, List.forall_mem_cons.mpr ⟨rfl, List.forall_mem_cons.mpr ⟨rfl, fun _ h => absurd h List.not_mem_nil⟩⟩⟩⟩) (List.forall_mem_cons.mpr ⟨Or.inl rfl, List.forall_mem_cons.mpr ⟨Or.inl rfl, List.forall_mem_cons.mpr ⟨Or.inl rfl, List.forall_mem_cons.mpr ⟨Or.inl rfl, fun _ h => absurd h List.not_mem_nil⟩⟩⟩⟩) ?_
  exact m_isPeriod_l hm hN hVD hA6 hV1 ha.1 hn _ a (Int.self_le_toNat _) (by omega)
theorem m_least_l {d N : Nat} {h0 h : eHp} (fr : mFr h0 h) {s : Nat → Int} {A : Nat → Nat → Int} (hm : mM h s A) (hN : 75 ≤ N) {G : eGd} {V : eVs} (hVD : gVD V (gDig G)) {V1 : Nat → Int} (hA6 : A 6 = V1) (hV1 : ∀ i : Nat, (i : Int) < 31 → V1 i = gv (gDig G) i) {c : Int} (hc : i32 c) : ∀ (m9 : Nat) (i : Int), 31 - i ≤ m9 → 0 ≤ i ∧ i ≤ 31 → eWp eOx (eEv (d + 2)) eM_X7_least (7, [(0, .ref 63), (1, vI c), (2, vI i)], [], N, h, 0, 0) (fun q => ∃ h' s' A' x, q = (.inl (some (vI x)), N, h', 0, 0) ∧ mM h' s' A' ∧ mFr h0 h' ∧ (match gSrch (gLeastIs V c) i (31 - i).toNat with | some b => s' 7 = 0 ∧ x = b | none => s' 7 = 1) ∧ mSm s A s' A') := by
  intro m9
  induction m9 with
  | zero =>
    intro i hm9 q0
    have hx1 := gvv_30 (D := gDig G) i
    have hc9 := hc
    unfold i32 at hc9
    refine eW_iload_n 8 rfl rfl rfl ?_
    refine eW_bipush 10 rfl rfl 30 rfl ?_
    refine eW_icmp_gt 13 rfl rfl (by unfold i32; omega) (by unfold i32; omega) (fun c1 => ?_) (fun c1 => ?_)
    · refine eW_aload_n 40 rfl rfl rfl ?_
      refine eW_iconst 41 rfl rfl ?_
      refine eW_putfield 44 [.ref 64, .ref 65, .ref 66, .ref 67, vI (s 4), vI (s 5), vI (s 6), vI 1, vI (s 8), vI (s 9), .ref 68, vI (s 11), vI (s 12), .ref 69, vI (s 14), .ref 70, .ref 71, vI (s 17), vI (s 18), vI (s 19), vI (s 20), .ref 72, vI (s 22)] rfl rfl (Nat.ble_eq_true_of_le (by omega)) rfl hm.1 rfl rfl ?_
      intro h2 eh2 oh2
      have hmh2 : mM h2 (sUp s 7 1) A := mM_s (s := s) hm eh2 oh2
      have frh2 : mFr h0 h2 := mFr_s fr oh2
      refine eW_iconst 45 rfl rfl ?_
      refine eW_ret_i rfl rfl (Or.inl rfl) ?_
      refine ⟨_, _, _, _, rfl, hmh2, frh2, ?_, ⟨rfl, rfl, rfl, rfl, rfl, rfl, rfl, rfl, rfl, rfl, rfl, rfl, rfl⟩⟩
      rw [gSrch_0 (by omega)]; rfl
    · refine eW_aload_n 14 rfl rfl rfl ?_
      refine eW_getfield 17 rfl rfl (Nat.ble_eq_true_of_le (by omega)) rfl hm.1 rfl ⟨rfl, fun _ h9 => nomatch h9⟩ ?_
      refine eW_iload_n 18 rfl rfl rfl ?_
      refine eW_iaload 19 rfl rfl (gvv (gDig G) i) (Nat.ble_eq_true_of_le (by omega)) (show h 70 = .inl (0, 31, .inl (eIA (A 6))) from hm.2.2.2.2.2.2.2.1) (by omega) (by omega) (by unfold i32; omega) (by rw [hA6]; exact mV_r hV1 (by omega) (by omega) (by omega)) ?_
      refine eW_iload_n 20 rfl rfl rfl ?_
      refine eW_icmp_eq 23 rfl rfl (by unfold i32; omega) (by unfold i32; omega) (fun c3 => ?_) (fun c3 => ?_)
      · refine eW_aload_n 27 rfl rfl rfl ?_
        refine eW_iconst 28 rfl rfl ?_
        refine eW_putfield 31 [.ref 64, .ref 65, .ref 66, .ref 67, vI (s 4), vI (s 5), vI (s 6), vI 0, vI (s 8), vI (s 9), .ref 68, vI (s 11), vI (s 12), .ref 69, vI (s 14), .ref 70, .ref 71, vI (s 17), vI (s 18), vI (s 19), vI (s 20), .ref 72, vI (s 22)] rfl rfl (Nat.ble_eq_true_of_le (by omega)) rfl hm.1 rfl rfl ?_
        intro h4 eh4 oh4
        have hmh4 : mM h4 (sUp s 7 0) A := mM_s (s := s) hm eh4 oh4
        have frh4 : mFr h0 h4 := mFr_s fr oh4
        refine eW_iload_n 32 rfl rfl rfl ?_
        refine eW_ret_i rfl rfl (Or.inl rfl) ?_
        refine ⟨_, _, _, _, rfl, hmh4, frh4, ?_, ⟨rfl, rfl, rfl, rfl, rfl, rfl, rfl, rfl, rfl, rfl, rfl, rfl, rfl⟩⟩
        rw [gSrch_t (f := gLeastIs V c) (by omega) (by unfold gLeastIs; rw [gV_fun hVD]; exact decide_eq_true (by omega))]
        exact ⟨rfl, rfl⟩
      · refine eW_goto rfl ?_
        refine eW_iinc 36 rfl rfl [(2, vI (i + 1)), (0, .ref 63), (1, vI c)] rfl rfl rfl ?_
        refine eW_goto rfl ?_
        refine eW_re [(0, .ref 63), (1, vI c), (2, vI (i + 1))] rfl rfl (List.forall_mem_cons.mpr ⟨rfl, List.forall_mem_cons.mpr ⟨rfl, List.forall_mem_cons.mpr ⟨rfl, fun _ h => absurd h List.not_mem_nil⟩⟩⟩) (List.forall_mem_cons.mpr ⟨Or.inl rfl, List.forall_mem_cons.mpr ⟨Or.inl rfl, List.forall_mem_cons.mpr ⟨Or.inl rfl, fun _ h => absurd h List.not_mem_nil⟩⟩⟩) ?_
        exact absurd hm9 (by omega)
  | succ m9 ih =>
    intro i hm9 q0
    have hx1 := gvv_30 (D := gDig G) i
    have hc9 := hc
    unfold i32 at hc9
    refine eW_iload_n 8 rfl rfl rfl ?_
    refine eW_bipush 10 rfl rfl 30 rfl ?_
    refine eW_icmp_gt 13 rfl rfl (by unfold i32; omega) (by unfold i32; omega) (fun c1 => ?_) (fun c1 => ?_)
    · refine eW_aload_n 40 rfl rfl rfl ?_
      refine eW_iconst 41 rfl rfl ?_
      refine eW_putfield 44 [.ref 64, .ref 65, .ref 66, .ref 67, vI (s 4), vI (s 5), vI (s 6), vI 1, vI (s 8), vI (s 9), .ref 68, vI (s 11), vI (s 12), .ref 69, vI (s 14), .ref 70, .ref 71, vI (s 17), vI (s 18), vI (s 19), vI (s 20), .ref 72, vI (s 22)] rfl rfl (Nat.ble_eq_true_of_le (by omega)) rfl hm.1 rfl rfl ?_
      intro h2 eh2 oh2
      have hmh2 : mM h2 (sUp s 7 1) A := mM_s (s := s) hm eh2 oh2
      have frh2 : mFr h0 h2 := mFr_s fr oh2
      refine eW_iconst 45 rfl rfl ?_
      refine eW_ret_i rfl rfl (Or.inl rfl) ?_
      refine ⟨_, _, _, _, rfl, hmh2, frh2, ?_, ⟨rfl, rfl, rfl, rfl, rfl, rfl, rfl, rfl, rfl, rfl, rfl, rfl, rfl⟩⟩
      rw [gSrch_0 (by omega)]; rfl
    · refine eW_aload_n 14 rfl rfl rfl ?_
      refine eW_getfield 17 rfl rfl (Nat.ble_eq_true_of_le (by omega)) rfl hm.1 rfl ⟨rfl, fun _ h9 => nomatch h9⟩ ?_
      refine eW_iload_n 18 rfl rfl rfl ?_
      refine eW_iaload 19 rfl rfl (gvv (gDig G) i) (Nat.ble_eq_true_of_le (by omega)) (show h 70 = .inl (0, 31, .inl (eIA (A 6))) from hm.2.2.2.2.2.2.2.1) (by omega) (by omega) (by unfold i32; omega) (by rw [hA6]; exact mV_r hV1 (by omega) (by omega) (by omega)) ?_
      refine eW_iload_n 20 rfl rfl rfl ?_
      refine eW_icmp_eq 23 rfl rfl (by unfold i32; omega) (by unfold i32; omega) (fun c3 => ?_) (fun c3 => ?_)
      · refine eW_aload_n 27 rfl rfl rfl ?_
        refine eW_iconst 28 rfl rfl ?_
        refine eW_putfield 31 [.ref 64, .ref 65, .ref 66, .ref 67, vI (s 4), vI (s 5), vI (s 6), vI 0, vI (s 8), vI (s 9), .ref 68, vI (s 11), vI (s 12), .ref 69, vI (s 14), .ref 70, .ref 71, vI (s 17), vI (s 18), vI (s 19), vI (s 20), .ref 72, vI (s 22)] rfl rfl (Nat.ble_eq_true_of_le (by omega)) rfl hm.1 rfl rfl ?_
        intro h4 eh4 oh4
        have hmh4 : mM h4 (sUp s 7 0) A := mM_s (s := s) hm eh4 oh4
        have frh4 : mFr h0 h4 := mFr_s fr oh4
        refine eW_iload_n 32 rfl rfl rfl ?_
        refine eW_ret_i rfl rfl (Or.inl rfl) ?_
        refine ⟨_, _, _, _, rfl, hmh4, frh4, ?_, ⟨rfl, rfl, rfl, rfl, rfl, rfl, rfl, rfl, rfl, rfl, rfl, rfl, rfl⟩⟩
        rw [gSrch_t (f := gLeastIs V c) (by omega) (by unfold gLeastIs; rw [gV_fun hVD]; exact decide_eq_true (by omega))]
        exact ⟨rfl, rfl⟩
      · refine eW_goto rfl ?_
        refine eW_iinc 36 rfl rfl [(2, vI (i + 1)), (0, .ref 63), (1, vI c)] rfl rfl rfl ?_
        refine eW_goto rfl ?_
        refine eW_re [(0, .ref 63), (1, vI c), (2, vI (i + 1))] rfl rfl (List.forall_mem_cons.mpr ⟨rfl, List.forall_mem_cons.mpr ⟨rfl, List.forall_mem_cons.mpr ⟨rfl, fun _ h => absurd h List.not_mem_nil⟩⟩⟩) (List.forall_mem_cons.mpr ⟨Or.inl rfl, List.forall_mem_cons.mpr ⟨Or.inl rfl, List.forall_mem_cons.mpr ⟨Or.inl rfl, fun _ h => absurd h List.not_mem_nil⟩⟩⟩) ?_
        rw [gSrch_f (f := gLeastIs V c) (by omega) (by unfold gLeastIs; rw [gV_fun hVD]; exact decide_eq_false (by omega)), show 31 - i - 1 = 31 - (i + 1) by omega]
        exact ih (i + 1) (by omega) (by omega)
/-- an answer that is looked for, or the code k -/
def mO (r : Option Int) (k : Int) (s : Nat → Int) (A : Nat → Nat → Int) (h : eHp) (N : Nat) : eR → Prop := fun q => ∃ h' s' A' x, q = (.inl (some (vI x)), N, h', 0, 0) ∧ mM h' s' A' ∧ mFr h h' ∧ (match r with | some b => s' 7 = 0 ∧ x = b | none => s' 7 = k) ∧ mSm s A s' A'
theorem mSm_t {s s1 s2 : Nat → Int} {A A1 A2 : Nat → Nat → Int} (a : mSm s A s1 A1) (b : mSm s1 A1 s2 A2) : mSm s A s2 A2 := by
  obtain ⟨a1, a2, a3, a4, a5, a6, a7, a8, a9, a10, a11, a12, a13⟩ := a
  obtain ⟨b1, b2, b3, b4, b5, b6, b7, b8, b9, b10, b11, b12, b13⟩ := b
  exact ⟨b1.trans a1, b2.trans a2, b3.trans a3, b4.trans a4, b5.trans a5, b6.trans a6, b7.trans a7, b8.trans a8, b9.trans a9, b10.trans a10, b11.trans a11, b12.trans a12, b13.trans a13⟩
theorem m_least {d N : Nat} {h : eHp} {s : Nat → Int} {A : Nat → Nat → Int} (hm : mM h s A) (hN : 75 ≤ N) {c : Int} {G : eGd} (hr : rR G (A 0)) (hI : gI c G) {V : eVs} (hVD : gVD V (gDig G)) {x : Int} (hx0 : i32 x) : eSp (d + 3) eM_X7_least [.ref 63, vI x] N h (mO (gSrch (gLeastIs V x) 0 31) 1 s A h N) := by
  refine eSp_of [(0, .ref 63), (1, vI x)] rfl rfl ?_
  have hG := hI.1
  have hG9 := hG
  obtain ⟨g1, g2, g3, g4⟩ := hG9
  refine eW_aload_n 1 rfl rfl rfl ?_
  refine eW_iconst 2 rfl rfl ?_
  refine eW_callVH 5 [.ref 63, vI 0] [] [] rfl rfl rfl rfl (Nat.ble_eq_true_of_le (by omega)) hm.1 rfl rfl rfl (m_finds (d := d + 0) hm hN hr hG (by omega)) rfl rfl ?_
  intro h1 fh1
  obtain ⟨V1, F1, f9h1⟩ := fh1
  obtain ⟨f8h1, hV1, hF1⟩ := f9h1
  have hmh1 : mM h1 s (mUp (mUp A 6 V1) 7 F1) := f8h1.1
  have frh1 : mFr h h1 := mFr_t (fun _ _ => rfl) f8h1.2
  refine eW_iconst 6 rfl rfl ?_
  refine eW_istore_n 7 rfl rfl [(2, vI 0), (0, .ref 63), (1, vI x)] rfl rfl ?_
  refine eW_re [(0, .ref 63), (1, vI x), (2, vI 0)] rfl rfl (List.forall_mem_cons.mpr ⟨rfl, List.forall_mem_cons.mpr ⟨rfl, List.forall_mem_cons.mpr ⟨rfl, fun _ h => absurd h List.not_mem_nil⟩⟩⟩) (List.forall_mem_cons.mpr ⟨Or.inl rfl, List.forall_mem_cons.mpr ⟨Or.inl rfl, List.forall_mem_cons.mpr ⟨Or.inl rfl, fun _ h => absurd h List.not_mem_nil⟩⟩⟩) ?_
  refine eWp.imp (m_least_l frh1 hmh1 hN hVD rfl hV1 hx0 _ 0 (Int.self_le_toNat _) (by omega)) ?_
  rintro q ⟨h', s', A', x9, e1, e2, e3, e4, e5⟩
  exact ⟨h', s', A', x9, e1, e2, e3, e4, mSm_t (s1 := s) ⟨rfl, rfl, rfl, rfl, rfl, rfl, rfl, rfl, rfl, rfl, rfl, rfl, rfl⟩ e5⟩
theorem m_period_l {d N : Nat} {h0 h : eHp} (fr : mFr h0 h) {s : Nat → Int} {A : Nat → Nat → Int} (hm : mM h s A) (hN : 75 ≤ N) {G : eGd} {V : eVs} (hVD : gVD V (gDig G)) {V1 : Nat → Int} (hA6 : A 6 = V1) (hV1 : ∀ i : Nat, (i : Int) < 31 → V1 i = gv (gDig G) i) {c : Int} (hc : 0 ≤ c ∧ c ≤ 29) (hs7 : s 7 = 0) : ∀ (m9 : Nat) (i : Int), 31 - c - i ≤ m9 → 1 ≤ i ∧ i ≤ 31 - c → eWp eOx (eEv (d + 2)) eM_X7_period (31, [(0, .ref 63), (1, vI c), (2, vI i)], [], N, h, 0, 0) (fun q => ∃ h' s' A' x, q = (.inl (some (vI x)), N, h', 0, 0) ∧ mM h' s' A' ∧ mFr h0 h' ∧ (match gSrch (gPerIs V c) i (31 - c - i).toNat with | some b => s' 7 = 0 ∧ x = b | none => s' 7 = 2) ∧ mSm s A s' A') := by
  intro m9
  induction m9 with
  | zero =>
    intro i hm9 q0
    refine eW_iload_n 32 rfl rfl rfl ?_
    refine eW_bipush 34 rfl rfl 30 rfl ?_
    refine eW_iload_n 35 rfl rfl rfl ?_
    refine eW_isub 36 rfl rfl ?_
    refine eW_icmp_gt 39 rfl rfl (by unfold i32; omega) (by unfold i32; omega) (fun c1 => ?_) (fun c1 => ?_)
    · refine eW_aload_n 57 rfl rfl rfl ?_
      refine eW_iconst 58 rfl rfl ?_
      refine eW_putfield 61 [.ref 64, .ref 65, .ref 66, .ref 67, vI (s 4), vI (s 5), vI (s 6), vI 2, vI (s 8), vI (s 9), .ref 68, vI (s 11), vI (s 12), .ref 69, vI (s 14), .ref 70, .ref 71, vI (s 17), vI (s 18), vI (s 19), vI (s 20), .ref 72, vI (s 22)] rfl rfl (Nat.ble_eq_true_of_le (by omega)) rfl hm.1 rfl rfl ?_
      intro h2 eh2 oh2
      have hmh2 : mM h2 (sUp s 7 2) A := mM_s (s := s) hm eh2 oh2
      have frh2 : mFr h0 h2 := mFr_s fr oh2
      refine eW_iconst 62 rfl rfl ?_
      refine eW_ret_i rfl rfl (Or.inl rfl) ?_
      refine ⟨_, _, _, _, rfl, hmh2, frh2, ?_, ⟨rfl, rfl, rfl, rfl, rfl, rfl, rfl, rfl, rfl, rfl, rfl, rfl, rfl⟩⟩
      rw [gSrch_0 (by omega)]; rfl
    · refine eW_aload_n 40 rfl rfl rfl ?_
      refine eW_iload_n 41 rfl rfl rfl ?_
      refine eW_iload_n 42 rfl rfl rfl ?_
      have hpb := eB01_c (gPerIs V c i)
      refine eW_callV 45 [.ref 63, vI c, vI i] [] [vI (eB01 (gPerIs V c i))] rfl rfl rfl rfl (Nat.ble_eq_true_of_le (by omega)) hm.1 rfl rfl rfl (m_isPeriod (d := d + 1) hm hN hVD hA6 hV1 (by omega) (by omega)) rfl rfl ?_
      refine eW_if_eq 48 rfl rfl (by unfold i32; omega) (fun c3 => ?_) (fun c3 => ?_)
      · refine eW_iinc 53 rfl rfl [(2, vI (i + 1)), (0, .ref 63), (1, vI c)] rfl rfl rfl ?_
        refine eW_goto rfl ?_
        refine eW_re [(0, .ref 63), (1, vI c), (2, vI (i + 1))] rfl rfl (List.forall_mem_cons.mpr ⟨rfl, List.forall_mem_cons.mpr ⟨rfl, List.forall_mem_cons.mpr ⟨rfl, fun _ h => absurd h List.not_mem_nil⟩⟩⟩) (List.forall_mem_cons.mpr ⟨Or.inl rfl, List.forall_mem_cons.mpr ⟨Or.inl rfl, List.forall_mem_cons.mpr ⟨Or.inl rfl, fun _ h => absurd h List.not_mem_nil⟩⟩⟩) ?_
        exact absurd hm9 (by omega)
      · refine eW_iload_n 49 rfl rfl rfl ?_
        refine eW_ret_i rfl rfl (Or.inl rfl) ?_
        refine ⟨_, _, _, _, rfl, hm, fr, ?_, ⟨rfl, rfl, rfl, rfl, rfl, rfl, rfl, rfl, rfl, rfl, rfl, rfl, rfl⟩⟩
        have kt : gPerIs V c i = true := by rcases hpb with e9 | e9; exact e9.1; exact absurd e9.2 (by omega)
        rw [gSrch_t (f := gPerIs V c) (by omega) kt]
        exact ⟨hs7, rfl⟩
  | succ m9 ih =>
    intro i hm9 q0
    refine eW_iload_n 32 rfl rfl rfl ?_
    refine eW_bipush 34 rfl rfl 30 rfl ?_
    refine eW_iload_n 35 rfl rfl rfl ?_
    refine eW_isub 36 rfl rfl ?_
    refine eW_icmp_gt 39 rfl rfl (by unfold i32; omega) (by unfold i32; omega) (fun c1 => ?_) (fun c1 => ?_)
    · refine eW_aload_n 57 rfl rfl rfl ?_
      refine eW_iconst 58 rfl rfl ?_
      refine eW_putfield 61 [.ref 64, .ref 65, .ref 66, .ref 67, vI (s 4), vI (s 5), vI (s 6), vI 2, vI (s 8), vI (s 9), .ref 68, vI (s 11), vI (s 12), .ref 69, vI (s 14), .ref 70, .ref 71, vI (s 17), vI (s 18), vI (s 19), vI (s 20), .ref 72, vI (s 22)] rfl rfl (Nat.ble_eq_true_of_le (by omega)) rfl hm.1 rfl rfl ?_
      intro h2 eh2 oh2
      have hmh2 : mM h2 (sUp s 7 2) A := mM_s (s := s) hm eh2 oh2
      have frh2 : mFr h0 h2 := mFr_s fr oh2
      refine eW_iconst 62 rfl rfl ?_
      refine eW_ret_i rfl rfl (Or.inl rfl) ?_
      refine ⟨_, _, _, _, rfl, hmh2, frh2, ?_, ⟨rfl, rfl, rfl, rfl, rfl, rfl, rfl, rfl, rfl, rfl, rfl, rfl, rfl⟩⟩
      rw [gSrch_0 (by omega)]; rfl
    · refine eW_aload_n 40 rfl rfl rfl ?_
      refine eW_iload_n 41 rfl rfl rfl ?_
      refine eW_iload_n 42 rfl rfl rfl ?_
      have hpb := eB01_c (gPerIs V c i)
      refine eW_callV 45 [.ref 63, vI c, vI i] [] [vI (eB01 (gPerIs V c i))] rfl rfl rfl rfl (Nat.ble_eq_true_of_le (by omega)) hm.1 rfl rfl rfl (m_isPeriod (d := d + 1) hm hN hVD hA6 hV1 (by omega) (by omega)) rfl rfl ?_
      refine eW_if_eq 48 rfl rfl (by unfold i32; omega) (fun c3 => ?_) (fun c3 => ?_)
      · refine eW_iinc 53 rfl rfl [(2, vI (i + 1)), (0, .ref 63), (1, vI c)] rfl rfl rfl ?_
        refine eW_goto rfl ?_
        refine eW_re [(0, .ref 63), (1, vI c), (2, vI (i + 1))] rfl rfl (List.forall_mem_cons.mpr ⟨rfl, List.forall_mem_cons.mpr ⟨rfl, List.forall_mem_cons.mpr ⟨rfl, fun _ h => absurd h List.not_mem_nil⟩⟩⟩) (List.forall_mem_cons.mpr ⟨Or.inl rfl, List.forall_mem_cons.mpr ⟨Or.inl rfl, List.forall_mem_cons.mpr ⟨Or.inl rfl, fun _ h => absurd h List.not_mem_nil⟩⟩⟩) ?_
        have kf : gPerIs V c i = false := by rcases hpb with e9 | e9; exact absurd e9.2 (by omega); exact e9.1
        rw [gSrch_f (f := gPerIs V c) (by omega) kf, show 31 - c - i - 1 = 31 - c - (i + 1) by omega]
        exact ih (i + 1) (by omega) (by omega)
      · refine eW_iload_n 49 rfl rfl rfl ?_
        refine eW_ret_i rfl rfl (Or.inl rfl) ?_
        refine ⟨_, _, _, _, rfl, hm, fr, ?_, ⟨rfl, rfl, rfl, rfl, rfl, rfl, rfl, rfl, rfl, rfl, rfl, rfl, rfl⟩⟩
        have kt : gPerIs V c i = true := by rcases hpb with e9 | e9; exact e9.1; exact absurd e9.2 (by omega)
        rw [gSrch_t (f := gPerIs V c) (by omega) kt]
        exact ⟨hs7, rfl⟩
/-- an answer, or the code of an exception -/
def mZ (f : String → Int) (r : Int ⊕ String) (s : Nat → Int) (A : Nat → Nat → Int) (h : eHp) (N : Nat) : eR → Prop := fun q => ∃ h' s' A' x, q = (.inl (some (vI x)), N, h', 0, 0) ∧ mM h' s' A' ∧ mFr h h' ∧ (match r with | .inl a => s' 7 = 0 ∧ x = a | .inr E => s' 7 = f E) ∧ mSm s A s' A'
theorem mZ_0 {f : String → Int} {v : Int} {s : Nat → Int} {A : Nat → Nat → Int} {h : eHp} {N : Nat} {q : eR} (k : mQ v 0 s A h N q) : mZ f (.inl v) s A h N q := by
  obtain ⟨h', s', A', x, e1, e2, e3, e4, e5, e6⟩ := k
  exact ⟨h', s', A', x, e1, e2, e3, ⟨e4, e5 rfl⟩, e6⟩
theorem mZ_1 {f : String → Int} {b : Bool} {E : String} {v : Int} {s : Nat → Int} {A : Nat → Nat → Int} {h : eHp} {N : Nat} {q : eR} (k : mQ v (mIf b 1 0) s A h N q) (hf : f E = 1) : mZ f (eIfT b E (.inl v)) s A h N q := by
  obtain ⟨h', s', A', x, e1, e2, e3, e4, e5, e6⟩ := k
  refine ⟨h', s', A', x, e1, e2, e3, ?_, e6⟩
  cases b with
  | false => show s' 7 = f E; rw [hf]; exact e4
  | true => exact ⟨e4, e5 rfl⟩
theorem mZ_2 {f : String → Int} {b b2 : Bool} {E E2 : String} {v : Int} {s : Nat → Int} {A : Nat → Nat → Int} {h : eHp} {N : Nat} {q : eR} (k : mQ v (mIf b 1 (mIf b2 2 0)) s A h N q) (hf : f E = 1) (hf2 : f E2 = 2) : mZ f (eIfT b E (eIfT b2 E2 (.inl v))) s A h N q := by
  obtain ⟨h', s', A', x, e1, e2, e3, e4, e5, e6⟩ := k
  refine ⟨h', s', A', x, e1, e2, e3, ?_, e6⟩
  cases b with
  | false => show s' 7 = f E; rw [hf]; exact e4
  | true =>
    cases b2 with
    | false => show s' 7 = f E2; rw [hf2]; exact e4
    | true => exact ⟨e4, e5 rfl⟩
theorem mZ_o {f : String → Int} {r : Option Int} {k : Int} {E : String} {s : Nat → Int} {A : Nat → Nat → Int} {h : eHp} {N : Nat} {q : eR} (a : mO r k s A h N q) (hf : f E = k) : mZ f (eOpt r E) s A h N q := by
  obtain ⟨h', s', A', x, e1, e2, e3, e4, e6⟩ := a
  refine ⟨h', s', A', x, e1, e2, e3, ?_, e6⟩
  cases r with
  | none => show s' 7 = f E; rw [hf]; exact e4
  | some b => exact e4
theorem m_period {d N : Nat} {h : eHp} {s : Nat → Int} {A : Nat → Nat → Int} (hm : mM h s A) (hN : 75 ≤ N) {c : Int} {G : eGd} (hr : rR G (A 0)) (hI : gI c G) {V : eVs} (hVD : gVD V (gDig G)) {x : Int} (hx0 : i32 x) {f : String → Int} (hf1 : f nIAE = 1) (hf2 : f nNSE = 2) : eSp (d + 3) eM_X7_period [.ref 63, vI x] N h (mZ f (eIfT (decide (0 ≤ x ∧ x ≤ 29)) nIAE (eOpt (gSrch (gPerIs V x) 1 (30 - x).toNat) nNSE)) s A h N) := by
  refine eSp_of [(0, .ref 63), (1, vI x)] rfl rfl ?_
  have hG := hI.1
  have hG9 := hG
  obtain ⟨g1, g2, g3, g4⟩ := hG9
  unfold i32 at hx0
  refine eW_aload_n 1 rfl rfl rfl ?_
  refine eW_iload_n 2 rfl rfl rfl ?_
  refine eW_iconst 3 rfl rfl ?_
  refine eW_bipush 5 rfl rfl 29 rfl ?_
  have hinq1 := eD_c ((0 : Int) ≤ x ∧ x ≤ 29)
  refine eW_callS 8 [vI x, vI 0, vI 29] [.ref 63] [vI (eB01 (decide ((0 : Int) ≤ x ∧ x ≤ 29))), .ref 63] rfl rfl rfl (Or.inl rfl) rfl rfl rfl (m_in (d := d + 1) (by unfold i32; omega) (by unfold i32; omega) (by unfold i32; omega)) rfl rfl ?_
  refine eW_if_eq 11 rfl rfl (by unfold i32; omega) (fun c2 => ?_) (fun c2 => ?_)
  · refine eW_iconst 16 rfl rfl ?_
    have hflq3 := eD_c ((0 : Int) < 1)
    refine eW_callVH 19 [.ref 63, vI 1] [] [vI (eB01 (decide ((0 : Int) < 1)))] rfl rfl rfl rfl (Nat.ble_eq_true_of_le (by omega)) hm.1 rfl rfl rfl (m_fails (d := d + 1) hm hN (by unfold i32; omega)) rfl rfl ?_
    intro h4 fh4
    have hmh4 : mM h4 (sUp s 7 1) A := fh4.1
    have frh4 : mFr h h4 := mFr_t (fun _ _ => rfl) fh4.2
    refine eW_if_eq 22 rfl rfl (by unfold i32; omega) (fun c5 => ?_) (fun c5 => ?_)
    · refine eW_aload_n 25 rfl rfl rfl ?_
      refine eW_iconst 26 rfl rfl ?_
      refine eW_callVH 29 [.ref 63, vI 0] [] [] rfl rfl rfl rfl (Nat.ble_eq_true_of_le (by omega)) (show h4 63 = .inr (11, [.ref 64, .ref 65, .ref 66, .ref 67, vI (s 4), vI (s 5), vI (s 6), vI 1, vI (s 8), vI (s 9), .ref 68, vI (s 11), vI (s 12), .ref 69, vI (s 14), .ref 70, .ref 71, vI (s 17), vI (s 18), vI (s 19), vI (s 20), .ref 72, vI (s 22)]) from hmh4.1) rfl rfl rfl (m_finds (d := d + 0) hmh4 hN hr hG (by omega)) rfl rfl ?_
      intro h6 fh6
      obtain ⟨V1, F1, f9h6⟩ := fh6
      obtain ⟨f8h6, hV1, hF1⟩ := f9h6
      have hmh6 : mM h6 (sUp s 7 1) (mUp (mUp A 6 V1) 7 F1) := f8h6.1
      have frh6 : mFr h h6 := mFr_t frh4 f8h6.2
      refine eW_iconst 30 rfl rfl ?_
      refine eW_istore_n 31 rfl rfl [(2, vI 1), (0, .ref 63), (1, vI x)] rfl rfl ?_
      refine eW_re [(0, .ref 63), (1, vI x), (2, vI 1)] rfl rfl (List.forall_mem_cons.mpr ⟨rfl, List.forall_mem_cons.mpr ⟨rfl, List.forall_mem_cons.mpr ⟨rfl, fun _ h => absurd h List.not_mem_nil⟩⟩⟩) (List.forall_mem_cons.mpr ⟨Or.inl rfl, List.forall_mem_cons.mpr ⟨Or.inl rfl, List.forall_mem_cons.mpr ⟨Or.inl rfl, fun _ h => absurd h List.not_mem_nil⟩⟩⟩) ?_
      exfalso; omega
    · refine eW_iconst 23 rfl rfl ?_
      refine eW_ret_i rfl rfl (Or.inl rfl) ?_
      refine ⟨_, _, _, _, rfl, hmh4, frh4, ?_, ⟨rfl, rfl, rfl, rfl, rfl, rfl, rfl, rfl, rfl, rfl, rfl, rfl, rfl⟩⟩
      rw [eIfT_f (decide_eq_false (by omega))]
      exact hf1.symm
  · refine eW_iconst 12 rfl rfl ?_
    refine eW_goto rfl ?_
    have hflq7 := eD_c ((0 : Int) < 0)
    refine eW_callVH 19 [.ref 63, vI 0] [] [vI (eB01 (decide ((0 : Int) < 0)))] rfl rfl rfl rfl (Nat.ble_eq_true_of_le (by omega)) hm.1 rfl rfl rfl (m_fails (d := d + 1) hm hN (by unfold i32; omega)) rfl rfl ?_
    intro h8 fh8
    have hmh8 : mM h8 (sUp s 7 0) A := fh8.1
    have frh8 : mFr h h8 := mFr_t (fun _ _ => rfl) fh8.2
    refine eW_if_eq 22 rfl rfl (by unfold i32; omega) (fun c9 => ?_) (fun c9 => ?_)
    · refine eW_aload_n 25 rfl rfl rfl ?_
      refine eW_iconst 26 rfl rfl ?_
      refine eW_callVH 29 [.ref 63, vI 0] [] [] rfl rfl rfl rfl (Nat.ble_eq_true_of_le (by omega)) (show h8 63 = .inr (11, [.ref 64, .ref 65, .ref 66, .ref 67, vI (s 4), vI (s 5), vI (s 6), vI 0, vI (s 8), vI (s 9), .ref 68, vI (s 11), vI (s 12), .ref 69, vI (s 14), .ref 70, .ref 71, vI (s 17), vI (s 18), vI (s 19), vI (s 20), .ref 72, vI (s 22)]) from hmh8.1) rfl rfl rfl (m_finds (d := d + 0) hmh8 hN hr hG (by omega)) rfl rfl ?_
      intro h10 fh10
      obtain ⟨V1, F1, f9h10⟩ := fh10
      obtain ⟨f8h10, hV1, hF1⟩ := f9h10
      have hmh10 : mM h10 (sUp s 7 0) (mUp (mUp A 6 V1) 7 F1) := f8h10.1
      have frh10 : mFr h h10 := mFr_t frh8 f8h10.2
      refine eW_iconst 30 rfl rfl ?_
      refine eW_istore_n 31 rfl rfl [(2, vI 1), (0, .ref 63), (1, vI x)] rfl rfl ?_
      refine eW_re [(0, .ref 63), (1, vI x), (2, vI 1)] rfl rfl (List.forall_mem_cons.mpr ⟨rfl, List.forall_mem_cons.mpr ⟨rfl, List.forall_mem_cons.mpr ⟨rfl, fun _ h => absurd h List.not_mem_nil⟩⟩⟩) (List.forall_mem_cons.mpr ⟨Or.inl rfl, List.forall_mem_cons.mpr ⟨Or.inl rfl, List.forall_mem_cons.mpr ⟨Or.inl rfl, fun _ h => absurd h List.not_mem_nil⟩⟩⟩) ?_
      rw [eIfT_t (decide_eq_true (by omega)), show 30 - x = 31 - x - 1 by omega]
      refine eWp.imp (m_period_l frh10 hmh10 hN hVD rfl hV1 (by omega) rfl _ 1 (Int.self_le_toNat _) (by omega)) ?_
      rintro q ⟨h', s', A', x9, e1, e2, e3, e4, e5⟩
      exact mZ_o ⟨h', s', A', x9, e1, e2, e3, e4, mSm_t (s1 := s) ⟨rfl, rfl, rfl, rfl, rfl, rfl, rfl, rfl, rfl, rfl, rfl, rfl, rfl⟩ e5⟩ hf2
    · refine eW_iconst 23 rfl rfl ?_
      refine eW_ret_i rfl rfl (Or.inl rfl) ?_
      exfalso; omega
theorem m_isAhead {d N : Nat} {h : eHp} {s : Nat → Int} {A : Nat → Nat → Int} (hm : mM h s A) (hN : 75 ≤ N) {c : Int} {G : eGd} (hr : rR G (A 0)) (hI : gI c G) {V : eVs} (hVD : gVD V (gDig G)) {V1 : Nat → Int} (hA6 : A 6 = V1) (hV1 : ∀ i : Nat, (i : Int) < 31 → V1 i = gv (gDig G) i) {a b : Int} (ha : 0 ≤ a ∧ a < G.2.2.2.1) (hb : 0 ≤ b ∧ b < G.2.2.2.1) : eSp (d + 2) eM_X7_isAhead [.ref 63, vI a, vI b] N h (eRet (some (vI (eB01 (gBefore V G a b)))) N h) := by
  refine eSp_of [(0, .ref 63), (1, vI a), (2, vI b)] rfl rfl ?_
  have hG := hI.1
  have hG9 := hG
  obtain ⟨g1, g2, g3, g4⟩ := hG9
  have hma := hI.2.2.1 a.toNat (by omega)
  have hmb := hI.2.2.1 b.toNat (by omega)
  have hx1 := gvv_30 (D := gDig G) (G.1 a.toNat)
  have hx2 := gvv_30 (D := gDig G) (G.1 b.toNat)
  refine eW_aload_n 1 rfl rfl rfl ?_
  refine eW_getfield 4 rfl rfl (Nat.ble_eq_true_of_le (by omega)) rfl hm.1 rfl ⟨rfl, fun _ h9 => nomatch h9⟩ ?_
  refine eW_aload_n 5 rfl rfl rfl ?_
  refine eW_iload_n 6 rfl rfl rfl ?_
  have hmbq1 := g3 a.toNat (by omega)
  refine eW_callV 9 [.ref 63, vI a] [.ref 70] [vI (G.1 a.toNat), .ref 70] rfl rfl rfl rfl (Nat.ble_eq_true_of_le (by omega)) hm.1 rfl rfl rfl (m_marbles (d := d + 0) hm hN hr hG (by omega)) rfl rfl ?_
  refine eW_iaload 10 rfl rfl (gvv (gDig G) (G.1 a.toNat)) (Nat.ble_eq_true_of_le (by omega)) (show h 70 = .inl (0, 31, .inl (eIA (A 6))) from hm.2.2.2.2.2.2.2.1) (by omega) (by omega) (by unfold i32; omega) (by rw [hA6]; exact mV_r hV1 (by omega) (by omega) (by omega)) ?_
  refine eW_aload_n 11 rfl rfl rfl ?_
  refine eW_getfield 14 rfl rfl (Nat.ble_eq_true_of_le (by omega)) rfl hm.1 rfl ⟨rfl, fun _ h9 => nomatch h9⟩ ?_
  refine eW_aload_n 15 rfl rfl rfl ?_
  refine eW_iload_n 16 rfl rfl rfl ?_
  have hmbq2 := g3 b.toNat (by omega)
  refine eW_callV 19 [.ref 63, vI b] [.ref 70, vI (gvv (gDig G) (G.1 a.toNat))] [vI (G.1 b.toNat), .ref 70, vI (gvv (gDig G) (G.1 a.toNat))] rfl rfl rfl rfl (Nat.ble_eq_true_of_le (by omega)) hm.1 rfl rfl rfl (m_marbles (d := d + 0) hm hN hr hG (by omega)) rfl rfl ?_
  refine eW_iaload 20 rfl rfl (gvv (gDig G) (G.1 b.toNat)) (Nat.ble_eq_true_of_le (by omega)) (show h 70 = .inl (0, 31, .inl (eIA (A 6))) from hm.2.2.2.2.2.2.2.1) (by omega) (by omega) (by unfold i32; omega) (by rw [hA6]; exact mV_r hV1 (by omega) (by omega) (by omega)) ?_
  refine eW_isub 21 rfl rfl ?_
  refine eW_istore_n 22 rfl rfl [(3, vI ((gvv (gDig G) (G.1 a.toNat)) - (gvv (gDig G) (G.1 b.toNat)))), (0, .ref 63), (1, vI a), (2, vI b)] rfl rfl ?_
  refine eW_iload_n 23 rfl rfl rfl ?_
  refine eW_if_eq 26 rfl rfl (by unfold i32; omega) (fun c3 => ?_) (fun c3 => ?_)
  · refine eW_aload_n 37 rfl rfl rfl ?_
    refine eW_iload_n 38 rfl rfl rfl ?_
    have hmbq4 := g3 a.toNat (by omega)
    refine eW_callV 41 [.ref 63, vI a] [] [vI (G.1 a.toNat)] rfl rfl rfl rfl (Nat.ble_eq_true_of_le (by omega)) hm.1 rfl rfl rfl (m_marbles (d := d + 0) hm hN hr hG (by omega)) rfl rfl ?_
    refine eW_aload_n 42 rfl rfl rfl ?_
    refine eW_iload_n 43 rfl rfl rfl ?_
    have hmbq5 := g3 b.toNat (by omega)
    refine eW_callV 46 [.ref 63, vI b] [vI (G.1 a.toNat)] [vI (G.1 b.toNat), vI (G.1 a.toNat)] rfl rfl rfl rfl (Nat.ble_eq_true_of_le (by omega)) hm.1 rfl rfl rfl (m_marbles (d := d + 0) hm hN hr hG (by omega)) rfl rfl ?_
    refine eW_icmp_lt 49 rfl rfl (by unfold i32; omega) (by unfold i32; omega) (fun c6 => ?_) (fun c6 => ?_)
    · refine eW_iconst 68 rfl rfl ?_
      refine eW_goto rfl ?_
      refine eW_ret_i rfl rfl (Or.inr (Or.inl ⟨rfl, rfl⟩)) ?_
      unfold gBefore
      rw [gV_fun hVD, gIn_t ha.1 ha.2, gIn_t hb.1 hb.2]
      first | (rw [decide_eq_true (by omega)]; rfl) | (rw [decide_eq_false (by omega)]; rfl)
    · refine eW_aload_n 50 rfl rfl rfl ?_
      refine eW_iload_n 51 rfl rfl rfl ?_
      have hmbq7 := g3 a.toNat (by omega)
      refine eW_callV 54 [.ref 63, vI a] [] [vI (G.1 a.toNat)] rfl rfl rfl rfl (Nat.ble_eq_true_of_le (by omega)) hm.1 rfl rfl rfl (m_marbles (d := d + 0) hm hN hr hG (by omega)) rfl rfl ?_
      refine eW_aload_n 55 rfl rfl rfl ?_
      refine eW_iload_n 56 rfl rfl rfl ?_
      have hmbq8 := g3 b.toNat (by omega)
      refine eW_callV 59 [.ref 63, vI b] [vI (G.1 a.toNat)] [vI (G.1 b.toNat), vI (G.1 a.toNat)] rfl rfl rfl rfl (Nat.ble_eq_true_of_le (by omega)) hm.1 rfl rfl rfl (m_marbles (d := d + 0) hm hN hr hG (by omega)) rfl rfl ?_
      refine eW_icmp_ne 62 rfl rfl (by unfold i32; omega) (by unfold i32; omega) (fun c9 => ?_) (fun c9 => ?_)
      · refine eW_iconst 72 rfl rfl ?_
        refine eW_ret_i rfl rfl (Or.inr (Or.inl ⟨rfl, rfl⟩)) ?_
        unfold gBefore
        rw [gV_fun hVD, gIn_t ha.1 ha.2, gIn_t hb.1 hb.2]
        first | (rw [decide_eq_true (by omega)]; rfl) | (rw [decide_eq_false (by omega)]; rfl)
      · refine eW_iload_n 63 rfl rfl rfl ?_
        refine eW_iload_n 64 rfl rfl rfl ?_
        refine eW_icmp_ge 67 rfl rfl (by unfold i32; omega) (by unfold i32; omega) (fun c10 => ?_) (fun c10 => ?_)
        · refine eW_iconst 72 rfl rfl ?_
          refine eW_ret_i rfl rfl (Or.inr (Or.inl ⟨rfl, rfl⟩)) ?_
          unfold gBefore
          rw [gV_fun hVD, gIn_t ha.1 ha.2, gIn_t hb.1 hb.2]
          first | (rw [decide_eq_true (by omega)]; rfl) | (rw [decide_eq_false (by omega)]; rfl)
        · refine eW_iconst 68 rfl rfl ?_
          refine eW_goto rfl ?_
          refine eW_ret_i rfl rfl (Or.inr (Or.inl ⟨rfl, rfl⟩)) ?_
          unfold gBefore
          rw [gV_fun hVD, gIn_t ha.1 ha.2, gIn_t hb.1 hb.2]
          first | (rw [decide_eq_true (by omega)]; rfl) | (rw [decide_eq_false (by omega)]; rfl)
  · refine eW_iload_n 27 rfl rfl rfl ?_
    refine eW_if_le 30 rfl rfl (by unfold i32; omega) (fun c11 => ?_) (fun c11 => ?_)
    · refine eW_iconst 35 rfl rfl ?_
      refine eW_ret_i rfl rfl (Or.inr (Or.inl ⟨rfl, rfl⟩)) ?_
      unfold gBefore
      rw [gV_fun hVD, gIn_t ha.1 ha.2, gIn_t hb.1 hb.2]
      first | (rw [decide_eq_true (by omega)]; rfl) | (rw [decide_eq_false (by omega)]; rfl)
    · refine eW_iconst 31 rfl rfl ?_
      refine eW_goto rfl ?_
      refine eW_ret_i rfl rfl (Or.inr (Or.inl ⟨rfl, rfl⟩)) ?_
      unfold gBefore
      rw [gV_fun hVD, gIn_t ha.1 ha.2, gIn_t hb.1 hb.2]
      first | (rw [decide_eq_true (by omega)]; rfl) | (rw [decide_eq_false (by omega)]; rfl)
theorem m_rank_l {d N k z : Nat} {h : eHp} {s : Nat → Int} {A : Nat → Nat → Int} (hm : mM h s A) {P : eR → Prop} (hN : 75 ≤ N) {c : Int} {G : eGd} (hr : rR G (A 0)) (hI : gI c G) {V : eVs} (hVD : gVD V (gDig G)) {V1 : Nat → Int} (hA6 : A 6 = V1) (hV1 : ∀ i : Nat, (i : Int) < 31 → V1 i = gv (gDig G) i) {c9 k9 : Int} (hk9 : 0 ≤ k9 ∧ k9 < G.2.2.2.1) : ∀ (m9 : Nat) (a i : Int), G.2.2.2.1 - i ≤ m9 → 0 ≤ i ∧ i ≤ G.2.2.2.1 → a = gRank V G k9 i.toNat → (∀ (a : Int), a = gRank V G k9 G.2.2.2.1.toNat → eWp eOx (eEv (d + 2)) eM_X7_ranked (57, [(0, .ref 63), (1, vI c9), (2, vI k9), (3, vI a)], [], N, h, k, z) P) → eWp eOx (eEv (d + 2)) eM_X7_ranked (22, [(0, .ref 63), (1, vI c9), (2, vI k9), (3, vI a), (4, vI i)], [], N, h, k, z) P := by
  intro m9
  induction m9 with
  | zero =>
    intro a i hm9 q0 q1 kk
    have hG := hI.1
    have hG9 := hG
    obtain ⟨g1, g2, g3, g4⟩ := hG9
    refine eW_iload 24 rfl rfl rfl ?_
    refine eW_aload_n 25 rfl rfl rfl ?_
    refine eW_getfield 28 rfl rfl (Nat.ble_eq_true_of_le (by omega)) rfl hm.1 rfl ⟨rfl, fun _ h9 => nomatch h9⟩ ?_
    refine eW_iconst 29 rfl rfl ?_
    refine eW_iaload 30 rfl rfl G.2.2.2.1 (Nat.ble_eq_true_of_le (by omega)) (show h 64 = .inl (0, 62, .inl (eIA (A 0))) from hm.2.1) (by omega) (by omega) (by unfold i32; omega) (congrArg Int32.ofInt hr.1) ?_
    refine eW_icmp_ge 33 rfl rfl (by unfold i32; omega) (by unfold i32; omega) (fun c1 => ?_) (fun c1 => ?_)
    · refine eW_re [(0, .ref 63), (1, vI c9), (2, vI k9), (3, vI a)] rfl rfl (List.forall_mem_cons.mpr ⟨rfl, List.forall_mem_cons.mpr ⟨rfl, List.forall_mem_cons.mpr ⟨rfl, List.forall_mem_cons.mpr ⟨rfl, fun _ h => absurd h List.not_mem_nil⟩⟩⟩⟩) (List.forall_mem_cons.mpr ⟨Or.inl rfl, List.forall_mem_cons.mpr ⟨Or.inl rfl, List.forall_mem_cons.mpr ⟨Or.inl rfl, List.forall_mem_cons.mpr ⟨Or.inl rfl, List.forall_mem_cons.mpr ⟨Or.inr ⟨_, rfl⟩, fun _ h => absurd h List.not_mem_nil⟩⟩⟩⟩⟩) ?_
      refine kk _ ?_
      rw [q1, show i = G.2.2.2.1 by omega]
    · refine eW_iload_n 34 rfl rfl rfl ?_
      refine eW_aload_n 35 rfl rfl rfl ?_
      refine eW_iload 37 rfl rfl rfl ?_
      refine eW_iload_n 38 rfl rfl rfl ?_
      have hbf := eB01_c (gBefore V G i k9)
      refine eW_callV 41 [.ref 63, vI i, vI k9] [vI a] [vI (eB01 (gBefore V G i k9)), vI a] rfl rfl rfl rfl (Nat.ble_eq_true_of_le (by omega)) hm.1 rfl rfl rfl (m_isAhead (d := d + 0) hm hN hr hI hVD hA6 hV1 (by omega) (by omega)) rfl rfl ?_
      refine eW_if_eq 44 rfl rfl (by unfold i32; omega) (fun c2 => ?_) (fun c2 => ?_)
      · refine eW_iconst 49 rfl rfl ?_
        refine eW_iadd 50 rfl rfl ?_
        refine eW_istore_n 51 rfl rfl [(3, vI (a + 0)), (0, .ref 63), (1, vI c9), (2, vI k9), (4, vI i)] rfl rfl ?_
        refine eW_iinc 54 rfl rfl [(4, vI (i + 1)), (3, vI (a + 0)), (0, .ref 63), (1, vI c9), (2, vI k9)] rfl rfl rfl ?_
        refine eW_goto rfl ?_
        refine eW_re [(0, .ref 63), (1, vI c9), (2, vI k9), (3, vI (a + 0)), (4, vI (i + 1))] rfl rfl (List.forall_mem_cons.mpr ⟨rfl, List.forall_mem_cons.mpr ⟨rfl, List.forall_mem_cons.mpr ⟨rfl, List.forall_mem_cons.mpr ⟨rfl, List.forall_mem_cons.mpr ⟨rfl, fun _ h => absurd h List.not_mem_nil⟩⟩⟩⟩⟩) (List.forall_mem_cons.mpr ⟨Or.inl rfl, List.forall_mem_cons.mpr ⟨Or.inl rfl, List.forall_mem_cons.mpr ⟨Or.inl rfl, List.forall_mem_cons.mpr ⟨Or.inl rfl, List.forall_mem_cons.mpr ⟨Or.inl rfl, fun _ h => absurd h List.not_mem_nil⟩⟩⟩⟩⟩) ?_
        exact absurd hm9 (by omega)
      · refine eW_iconst 45 rfl rfl ?_
        refine eW_goto rfl ?_
        refine eW_iadd 50 rfl rfl ?_
        refine eW_istore_n 51 rfl rfl [(3, vI (a + 1)), (0, .ref 63), (1, vI c9), (2, vI k9), (4, vI i)] rfl rfl ?_
        refine eW_iinc 54 rfl rfl [(4, vI (i + 1)), (3, vI (a + 1)), (0, .ref 63), (1, vI c9), (2, vI k9)] rfl rfl rfl ?_
        refine eW_goto rfl ?_
        refine eW_re [(0, .ref 63), (1, vI c9), (2, vI k9), (3, vI (a + 1)), (4, vI (i + 1))] rfl rfl (List.forall_mem_cons.mpr ⟨rfl, List.forall_mem_cons.mpr ⟨rfl, List.forall_mem_cons.mpr ⟨rfl, List.forall_mem_cons.mpr ⟨rfl, List.forall_mem_cons.mpr ⟨rfl, fun _ h => absurd h List.not_mem_nil⟩⟩⟩⟩⟩) (List.forall_mem_cons.mpr ⟨Or.inl rfl, List.forall_mem_cons.mpr ⟨Or.inl rfl, List.forall_mem_cons.mpr ⟨Or.inl rfl, List.forall_mem_cons.mpr ⟨Or.inl rfl, List.forall_mem_cons.mpr ⟨Or.inl rfl, fun _ h => absurd h List.not_mem_nil⟩⟩⟩⟩⟩) ?_
        exact absurd hm9 (by omega)
  | succ m9 ih =>
    intro a i hm9 q0 q1 kk
    have hG := hI.1
    have hG9 := hG
    obtain ⟨g1, g2, g3, g4⟩ := hG9
    refine eW_iload 24 rfl rfl rfl ?_
    refine eW_aload_n 25 rfl rfl rfl ?_
    refine eW_getfield 28 rfl rfl (Nat.ble_eq_true_of_le (by omega)) rfl hm.1 rfl ⟨rfl, fun _ h9 => nomatch h9⟩ ?_
    refine eW_iconst 29 rfl rfl ?_
    refine eW_iaload 30 rfl rfl G.2.2.2.1 (Nat.ble_eq_true_of_le (by omega)) (show h 64 = .inl (0, 62, .inl (eIA (A 0))) from hm.2.1) (by omega) (by omega) (by unfold i32; omega) (congrArg Int32.ofInt hr.1) ?_
    refine eW_icmp_ge 33 rfl rfl (by unfold i32; omega) (by unfold i32; omega) (fun c1 => ?_) (fun c1 => ?_)
    · refine eW_re [(0, .ref 63), (1, vI c9), (2, vI k9), (3, vI a)] rfl rfl (List.forall_mem_cons.mpr ⟨rfl, List.forall_mem_cons.mpr ⟨rfl, List.forall_mem_cons.mpr ⟨rfl, List.forall_mem_cons.mpr ⟨rfl, fun _ h => absurd h List.not_mem_nil⟩⟩⟩⟩) (List.forall_mem_cons.mpr ⟨Or.inl rfl, List.forall_mem_cons.mpr ⟨Or.inl rfl, List.forall_mem_cons.mpr ⟨Or.inl rfl, List.forall_mem_cons.mpr ⟨Or.inl rfl, List.forall_mem_cons.mpr ⟨Or.inr ⟨_, rfl⟩, fun _ h => absurd h List.not_mem_nil⟩⟩⟩⟩⟩) ?_
      refine kk _ ?_
      rw [q1, show i = G.2.2.2.1 by omega]
    · refine eW_iload_n 34 rfl rfl rfl ?_
      refine eW_aload_n 35 rfl rfl rfl ?_
      refine eW_iload 37 rfl rfl rfl ?_
      refine eW_iload_n 38 rfl rfl rfl ?_
      have hbf := eB01_c (gBefore V G i k9)
      refine eW_callV 41 [.ref 63, vI i, vI k9] [vI a] [vI (eB01 (gBefore V G i k9)), vI a] rfl rfl rfl rfl (Nat.ble_eq_true_of_le (by omega)) hm.1 rfl rfl rfl (m_isAhead (d := d + 0) hm hN hr hI hVD hA6 hV1 (by omega) (by omega)) rfl rfl ?_
      refine eW_if_eq 44 rfl rfl (by unfold i32; omega) (fun c2 => ?_) (fun c2 => ?_)
      · refine eW_iconst 49 rfl rfl ?_
        refine eW_iadd 50 rfl rfl ?_
        refine eW_istore_n 51 rfl rfl [(3, vI (a + 0)), (0, .ref 63), (1, vI c9), (2, vI k9), (4, vI i)] rfl rfl ?_
        refine eW_iinc 54 rfl rfl [(4, vI (i + 1)), (3, vI (a + 0)), (0, .ref 63), (1, vI c9), (2, vI k9)] rfl rfl rfl ?_
        refine eW_goto rfl ?_
        refine eW_re [(0, .ref 63), (1, vI c9), (2, vI k9), (3, vI (a + 0)), (4, vI (i + 1))] rfl rfl (List.forall_mem_cons.mpr ⟨rfl, List.forall_mem_cons.mpr ⟨rfl, List.forall_mem_cons.mpr ⟨rfl, List.forall_mem_cons.mpr ⟨rfl, List.forall_mem_cons.mpr ⟨rfl, fun _ h => absurd h List.not_mem_nil⟩⟩⟩⟩⟩) (List.forall_mem_cons.mpr ⟨Or.inl rfl, List.forall_mem_cons.mpr ⟨Or.inl rfl, List.forall_mem_cons.mpr ⟨Or.inl rfl, List.forall_mem_cons.mpr ⟨Or.inl rfl, List.forall_mem_cons.mpr ⟨Or.inl rfl, fun _ h => absurd h List.not_mem_nil⟩⟩⟩⟩⟩) ?_
        refine ih _ (i + 1) (by omega) (by omega) ?_ kk
        rw [gRank_succ q0.1]; omega
      · refine eW_iconst 45 rfl rfl ?_
        refine eW_goto rfl ?_
        refine eW_iadd 50 rfl rfl ?_
        refine eW_istore_n 51 rfl rfl [(3, vI (a + 1)), (0, .ref 63), (1, vI c9), (2, vI k9), (4, vI i)] rfl rfl ?_
        refine eW_iinc 54 rfl rfl [(4, vI (i + 1)), (3, vI (a + 1)), (0, .ref 63), (1, vI c9), (2, vI k9)] rfl rfl rfl ?_
        refine eW_goto rfl ?_
        refine eW_re [(0, .ref 63), (1, vI c9), (2, vI k9), (3, vI (a + 1)), (4, vI (i + 1))] rfl rfl (List.forall_mem_cons.mpr ⟨rfl, List.forall_mem_cons.mpr ⟨rfl, List.forall_mem_cons.mpr ⟨rfl, List.forall_mem_cons.mpr ⟨rfl, List.forall_mem_cons.mpr ⟨rfl, fun _ h => absurd h List.not_mem_nil⟩⟩⟩⟩⟩) (List.forall_mem_cons.mpr ⟨Or.inl rfl, List.forall_mem_cons.mpr ⟨Or.inl rfl, List.forall_mem_cons.mpr ⟨Or.inl rfl, List.forall_mem_cons.mpr ⟨Or.inl rfl, List.forall_mem_cons.mpr ⟨Or.inl rfl, fun _ h => absurd h List.not_mem_nil⟩⟩⟩⟩⟩) ?_
        refine ih _ (i + 1) (by omega) (by omega) ?_ kk
        rw [gRank_succ q0.1]; omega
theorem m_ranked_l {d N : Nat} {h0 h : eHp} (fr : mFr h0 h) {s : Nat → Int} {A : Nat → Nat → Int} (hm : mM h s A) (hN : 75 ≤ N) {c : Int} {G : eGd} (hr : rR G (A 0)) (hI : gI c G) {V : eVs} (hVD : gVD V (gDig G)) {V1 : Nat → Int} (hA6 : A 6 = V1) (hV1 : ∀ i : Nat, (i : Int) < 31 → V1 i = gv (gDig G) i) {c9 : Int} (hc : i32 c9) : ∀ (m9 : Nat) (i : Int), G.2.2.2.1 - i ≤ m9 → 0 ≤ i ∧ i ≤ G.2.2.2.1 → eWp eOx (eEv (d + 2)) eM_X7_ranked (7, [(0, .ref 63), (1, vI c9), (2, vI i)], [], N, h, 0, 0) (fun q => ∃ h' s' A' x, q = (.inl (some (vI x)), N, h', 0, 0) ∧ mM h' s' A' ∧ mFr h0 h' ∧ (match gSrch (gRankIs V G c9) i (G.2.2.2.1 - i).toNat with | some b => s' 7 = 0 ∧ x = b | none => s' 7 = 1) ∧ mSm s A s' A') := by
  intro m9
  induction m9 with
  | zero =>
    intro i hm9 q0
    have hG := hI.1
    have hG9 := hG
    obtain ⟨g1, g2, g3, g4⟩ := hG9
    have hc9 := hc
    unfold i32 at hc9
    refine eW_iload_n 8 rfl rfl rfl ?_
    refine eW_aload_n 9 rfl rfl rfl ?_
    refine eW_getfield 12 rfl rfl (Nat.ble_eq_true_of_le (by omega)) rfl hm.1 rfl ⟨rfl, fun _ h9 => nomatch h9⟩ ?_
    refine eW_iconst 13 rfl rfl ?_
    refine eW_iaload 14 rfl rfl G.2.2.2.1 (Nat.ble_eq_true_of_le (by omega)) (show h 64 = .inl (0, 62, .inl (eIA (A 0))) from hm.2.1) (by omega) (by omega) (by unfold i32; omega) (congrArg Int32.ofInt hr.1) ?_
    refine eW_icmp_ge 17 rfl rfl (by unfold i32; omega) (by unfold i32; omega) (fun c1 => ?_) (fun c1 => ?_)
    · refine eW_aload_n 79 rfl rfl rfl ?_
      refine eW_iconst 80 rfl rfl ?_
      refine eW_putfield 83 [.ref 64, .ref 65, .ref 66, .ref 67, vI (s 4), vI (s 5), vI (s 6), vI 1, vI (s 8), vI (s 9), .ref 68, vI (s 11), vI (s 12), .ref 69, vI (s 14), .ref 70, .ref 71, vI (s 17), vI (s 18), vI (s 19), vI (s 20), .ref 72, vI (s 22)] rfl rfl (Nat.ble_eq_true_of_le (by omega)) rfl hm.1 rfl rfl ?_
      intro h2 eh2 oh2
      have hmh2 : mM h2 (sUp s 7 1) A := mM_s (s := s) hm eh2 oh2
      have frh2 : mFr h0 h2 := mFr_s fr oh2
      refine eW_iconst 84 rfl rfl ?_
      refine eW_ret_i rfl rfl (Or.inl rfl) ?_
      refine ⟨_, _, _, _, rfl, hmh2, frh2, ?_, ⟨rfl, rfl, rfl, rfl, rfl, rfl, rfl, rfl, rfl, rfl, rfl, rfl, rfl⟩⟩
      rw [gSrch_0 (by omega)]; rfl
    · refine eW_iconst 18 rfl rfl ?_
      refine eW_istore_n 19 rfl rfl [(3, vI 0), (0, .ref 63), (1, vI c9), (2, vI i)] rfl rfl ?_
      refine eW_iconst 20 rfl rfl ?_
      refine eW_istore 22 rfl rfl [(4, vI 0), (3, vI 0), (0, .ref 63), (1, vI c9), (2, vI i)] rfl rfl ?_
      refine eW_re [(0, .ref 63), (1, vI c9), (2, vI i), (3, vI 0), (4, vI 0)] rfl rfl (List.forall_mem_cons.mpr ⟨rfl, List.forall_mem_cons.mpr ⟨rfl, List.forall_mem_cons.mpr ⟨rfl, List.forall_mem_cons.mpr ⟨rfl, List.forall_mem_cons.mpr ⟨rfl, fun _ h => absurd h List.not_mem_nil⟩⟩⟩⟩⟩) (List.forall_mem_cons.mpr ⟨Or.inl rfl, List.forall_mem_cons.mpr ⟨Or.inl rfl, List.forall_mem_cons.mpr ⟨Or.inl rfl, List.forall_mem_cons.mpr ⟨Or.inl rfl, List.forall_mem_cons.mpr ⟨Or.inl rfl, fun _ h => absurd h List.not_mem_nil⟩⟩⟩⟩⟩) ?_
      refine m_rank_l hm hN hr hI hVD hA6 hV1 (by omega) _ 0 0 (Int.self_le_toNat _) (by omega) rfl (fun a q => ?_)
      have hrk := gRank_le (V := V) (G := G) (p := i) G.2.2.2.1.toNat
      refine eW_iload_n 58 rfl rfl rfl ?_
      refine eW_iload_n 59 rfl rfl rfl ?_
      refine eW_icmp_eq 62 rfl rfl (by unfold i32; omega) (by unfold i32; omega) (fun c3 => ?_) (fun c3 => ?_)
      · refine eW_aload_n 66 rfl rfl rfl ?_
        refine eW_iconst 67 rfl rfl ?_
        refine eW_putfield 70 [.ref 64, .ref 65, .ref 66, .ref 67, vI (s 4), vI (s 5), vI (s 6), vI 0, vI (s 8), vI (s 9), .ref 68, vI (s 11), vI (s 12), .ref 69, vI (s 14), .ref 70, .ref 71, vI (s 17), vI (s 18), vI (s 19), vI (s 20), .ref 72, vI (s 22)] rfl rfl (Nat.ble_eq_true_of_le (by omega)) rfl hm.1 rfl rfl ?_
        intro h4 eh4 oh4
        have hmh4 : mM h4 (sUp s 7 0) A := mM_s (s := s) hm eh4 oh4
        have frh4 : mFr h0 h4 := mFr_s fr oh4
        refine eW_iload_n 71 rfl rfl rfl ?_
        refine eW_ret_i rfl rfl (Or.inl rfl) ?_
        refine ⟨_, _, _, _, rfl, hmh4, frh4, ?_, ⟨rfl, rfl, rfl, rfl, rfl, rfl, rfl, rfl, rfl, rfl, rfl, rfl, rfl⟩⟩
        rw [gSrch_t (f := gRankIs V G c9) (by omega) (decide_eq_true (by omega))]
        exact ⟨rfl, rfl⟩
      · refine eW_goto rfl ?_
        refine eW_iinc 75 rfl rfl [(2, vI (i + 1)), (0, .ref 63), (1, vI c9), (3, vI a)] rfl rfl rfl ?_
        refine eW_goto rfl ?_
        refine eW_re [(0, .ref 63), (1, vI c9), (2, vI (i + 1))] rfl rfl (List.forall_mem_cons.mpr ⟨rfl, List.forall_mem_cons.mpr ⟨rfl, List.forall_mem_cons.mpr ⟨rfl, fun _ h => absurd h List.not_mem_nil⟩⟩⟩) (List.forall_mem_cons.mpr ⟨Or.inl rfl, List.forall_mem_cons.mpr ⟨Or.inl rfl, List.forall_mem_cons.mpr ⟨Or.inl rfl, List.forall_mem_cons.mpr ⟨Or.inr ⟨_, rfl⟩, fun _ h => absurd h List.not_mem_nil⟩⟩⟩⟩) ?_
        exact absurd hm9 (by omega)
  | succ m9 ih =>
    intro i hm9 q0
    have hG := hI.1
    have hG9 := hG
    obtain ⟨g1, g2, g3, g4⟩ := hG9
    have hc9 := hc
    unfold i32 at hc9
    refine eW_iload_n 8 rfl rfl rfl ?_
    refine eW_aload_n 9 rfl rfl rfl ?_
    refine eW_getfield 12 rfl rfl (Nat.ble_eq_true_of_le (by omega)) rfl hm.1 rfl ⟨rfl, fun _ h9 => nomatch h9⟩ ?_
    refine eW_iconst 13 rfl rfl ?_
    refine eW_iaload 14 rfl rfl G.2.2.2.1 (Nat.ble_eq_true_of_le (by omega)) (show h 64 = .inl (0, 62, .inl (eIA (A 0))) from hm.2.1) (by omega) (by omega) (by unfold i32; omega) (congrArg Int32.ofInt hr.1) ?_
    refine eW_icmp_ge 17 rfl rfl (by unfold i32; omega) (by unfold i32; omega) (fun c1 => ?_) (fun c1 => ?_)
    · refine eW_aload_n 79 rfl rfl rfl ?_
      refine eW_iconst 80 rfl rfl ?_
      refine eW_putfield 83 [.ref 64, .ref 65, .ref 66, .ref 67, vI (s 4), vI (s 5), vI (s 6), vI 1, vI (s 8), vI (s 9), .ref 68, vI (s 11), vI (s 12), .ref 69, vI (s 14), .ref 70, .ref 71, vI (s 17), vI (s 18), vI (s 19), vI (s 20), .ref 72, vI (s 22)] rfl rfl (Nat.ble_eq_true_of_le (by omega)) rfl hm.1 rfl rfl ?_
      intro h2 eh2 oh2
      have hmh2 : mM h2 (sUp s 7 1) A := mM_s (s := s) hm eh2 oh2
      have frh2 : mFr h0 h2 := mFr_s fr oh2
      refine eW_iconst 84 rfl rfl ?_
      refine eW_ret_i rfl rfl (Or.inl rfl) ?_
      refine ⟨_, _, _, _, rfl, hmh2, frh2, ?_, ⟨rfl, rfl, rfl, rfl, rfl, rfl, rfl, rfl, rfl, rfl, rfl, rfl, rfl⟩⟩
      rw [gSrch_0 (by omega)]; rfl
    · refine eW_iconst 18 rfl rfl ?_
      refine eW_istore_n 19 rfl rfl [(3, vI 0), (0, .ref 63), (1, vI c9), (2, vI i)] rfl rfl ?_
      refine eW_iconst 20 rfl rfl ?_
      refine eW_istore 22 rfl rfl [(4, vI 0), (3, vI 0), (0, .ref 63), (1, vI c9), (2, vI i)] rfl rfl ?_
      refine eW_re [(0, .ref 63), (1, vI c9), (2, vI i), (3, vI 0), (4, vI 0)] rfl rfl (List.forall_mem_cons.mpr ⟨rfl, List.forall_mem_cons.mpr ⟨rfl, List.forall_mem_cons.mpr ⟨rfl, List.forall_mem_cons.mpr ⟨rfl, List.forall_mem_cons.mpr ⟨rfl, fun _ h => absurd h List.not_mem_nil⟩⟩⟩⟩⟩) (List.forall_mem_cons.mpr ⟨Or.inl rfl, List.forall_mem_cons.mpr ⟨Or.inl rfl, List.forall_mem_cons.mpr ⟨Or.inl rfl, List.forall_mem_cons.mpr ⟨Or.inl rfl, List.forall_mem_cons.mpr ⟨Or.inl rfl, fun _ h => absurd h List.not_mem_nil⟩⟩⟩⟩⟩) ?_
      refine m_rank_l hm hN hr hI hVD hA6 hV1 (by omega) _ 0 0 (Int.self_le_toNat _) (by omega) rfl (fun a q => ?_)
      have hrk := gRank_le (V := V) (G := G) (p := i) G.2.2.2.1.toNat
      refine eW_iload_n 58 rfl rfl rfl ?_
      refine eW_iload_n 59 rfl rfl rfl ?_
      refine eW_icmp_eq 62 rfl rfl (by unfold i32; omega) (by unfold i32; omega) (fun c3 => ?_) (fun c3 => ?_)
      · refine eW_aload_n 66 rfl rfl rfl ?_
        refine eW_iconst 67 rfl rfl ?_
        refine eW_putfield 70 [.ref 64, .ref 65, .ref 66, .ref 67, vI (s 4), vI (s 5), vI (s 6), vI 0, vI (s 8), vI (s 9), .ref 68, vI (s 11), vI (s 12), .ref 69, vI (s 14), .ref 70, .ref 71, vI (s 17), vI (s 18), vI (s 19), vI (s 20), .ref 72, vI (s 22)] rfl rfl (Nat.ble_eq_true_of_le (by omega)) rfl hm.1 rfl rfl ?_
        intro h4 eh4 oh4
        have hmh4 : mM h4 (sUp s 7 0) A := mM_s (s := s) hm eh4 oh4
        have frh4 : mFr h0 h4 := mFr_s fr oh4
        refine eW_iload_n 71 rfl rfl rfl ?_
        refine eW_ret_i rfl rfl (Or.inl rfl) ?_
        refine ⟨_, _, _, _, rfl, hmh4, frh4, ?_, ⟨rfl, rfl, rfl, rfl, rfl, rfl, rfl, rfl, rfl, rfl, rfl, rfl, rfl⟩⟩
        rw [gSrch_t (f := gRankIs V G c9) (by omega) (decide_eq_true (by omega))]
        exact ⟨rfl, rfl⟩
      · refine eW_goto rfl ?_
        refine eW_iinc 75 rfl rfl [(2, vI (i + 1)), (0, .ref 63), (1, vI c9), (3, vI a)] rfl rfl rfl ?_
        refine eW_goto rfl ?_
        refine eW_re [(0, .ref 63), (1, vI c9), (2, vI (i + 1))] rfl rfl (List.forall_mem_cons.mpr ⟨rfl, List.forall_mem_cons.mpr ⟨rfl, List.forall_mem_cons.mpr ⟨rfl, fun _ h => absurd h List.not_mem_nil⟩⟩⟩) (List.forall_mem_cons.mpr ⟨Or.inl rfl, List.forall_mem_cons.mpr ⟨Or.inl rfl, List.forall_mem_cons.mpr ⟨Or.inl rfl, List.forall_mem_cons.mpr ⟨Or.inr ⟨_, rfl⟩, fun _ h => absurd h List.not_mem_nil⟩⟩⟩⟩) ?_
        rw [gSrch_f (f := gRankIs V G c9) (by omega) (decide_eq_false (by omega)), show G.2.2.2.1 - i - 1 = G.2.2.2.1 - (i + 1) by omega]
        exact ih (i + 1) (by omega) (by omega)
theorem m_ranked {d N : Nat} {h : eHp} {s : Nat → Int} {A : Nat → Nat → Int} (hm : mM h s A) (hN : 75 ≤ N) {c : Int} {G : eGd} (hr : rR G (A 0)) (hI : gI c G) {V : eVs} (hVD : gVD V (gDig G)) {x : Int} (hx0 : i32 x) : eSp (d + 3) eM_X7_ranked [.ref 63, vI x] N h (mO (gSrch (gRankIs V G x) 0 G.2.2.2.1.toNat) 1 s A h N) := by
  refine eSp_of [(0, .ref 63), (1, vI x)] rfl rfl ?_
  have hG := hI.1
  have hG9 := hG
  obtain ⟨g1, g2, g3, g4⟩ := hG9
  refine eW_aload_n 1 rfl rfl rfl ?_
  refine eW_iconst 2 rfl rfl ?_
  refine eW_callVH 5 [.ref 63, vI 0] [] [] rfl rfl rfl rfl (Nat.ble_eq_true_of_le (by omega)) hm.1 rfl rfl rfl (m_finds (d := d + 0) hm hN hr hG (by omega)) rfl rfl ?_
  intro h1 fh1
  obtain ⟨V1, F1, f9h1⟩ := fh1
  obtain ⟨f8h1, hV1, hF1⟩ := f9h1
  have hmh1 : mM h1 s (mUp (mUp A 6 V1) 7 F1) := f8h1.1
  have frh1 : mFr h h1 := mFr_t (fun _ _ => rfl) f8h1.2
  refine eW_iconst 6 rfl rfl ?_
  refine eW_istore_n 7 rfl rfl [(2, vI 0), (0, .ref 63), (1, vI x)] rfl rfl ?_
  refine eW_re [(0, .ref 63), (1, vI x), (2, vI 0)] rfl rfl (List.forall_mem_cons.mpr ⟨rfl, List.forall_mem_cons.mpr ⟨rfl, List.forall_mem_cons.mpr ⟨rfl, fun _ h => absurd h List.not_mem_nil⟩⟩⟩) (List.forall_mem_cons.mpr ⟨Or.inl rfl, List.forall_mem_cons.mpr ⟨Or.inl rfl, List.forall_mem_cons.mpr ⟨Or.inl rfl, fun _ h => absurd h List.not_mem_nil⟩⟩⟩) ?_
  have h9 := m_ranked_l (d := d) frh1 hmh1 hN hr hI hVD rfl hV1 hx0 _ 0 (Int.self_le_toNat _) (by omega)
  rw [show G.2.2.2.1 - 0 = G.2.2.2.1 by omega] at h9
  refine eWp.imp h9 ?_
  rintro q ⟨h', s', A', x9, e1, e2, e3, e4, e5⟩
  exact ⟨h', s', A', x9, e1, e2, e3, e4, mSm_t (s1 := s) ⟨rfl, rfl, rfl, rfl, rfl, rfl, rfl, rfl, rfl, rfl, rfl, rfl, rfl⟩ e5⟩
theorem m_pitOf {d N : Nat} {h : eHp} {s : Nat → Int} {A : Nat → Nat → Int} (hm : mM h s A) (hN : 75 ≤ N) {c : Int} {G : eGd} (hr : rR G (A 0)) (hI : gI c G) {V : eVs} (hVD : gVD V (gDig G)) {p x : Int} (hp0 : i32 p) (hx0 : i32 x) : eSp (d + 4) eM_X7_pitOf [.ref 63, vI p, vI x] N h (mQ (gPitOf V G p x) (mIf (gHas G p) 1 (mIf (decide (0 ≤ x ∧ x ≤ 3)) 2 0)) s A h N) := by
  refine eSp_of [(0, .ref 63), (1, vI p), (2, vI x)] rfl rfl ?_
  have hG := hI.1
  have hG9 := hG
  obtain ⟨g1, g2, g3, g4⟩ := hG9
  have hh := gHas_c G p
  have hc2 := mIf_c (gHas G p) 1 (mIf (decide (0 ≤ x ∧ x ≤ 3)) 2 0)
  have hc3 := eD_c (0 ≤ x ∧ x ≤ 3)
  have hc4 := mIf_c (decide (0 ≤ x ∧ x ≤ 3)) 2 0
  have hmi := hI.2.2.1 p.toNat
  unfold i32 at hp0 hx0
  refine eW_aload_n 1 rfl rfl rfl ?_
  refine eW_aload_n 2 rfl rfl rfl ?_
  refine eW_iload_n 3 rfl rfl rfl ?_
  have hipq1 := gHas_c G p
  refine eW_callV 6 [.ref 63, vI p] [.ref 63] [vI (eB01 (gHas G p)), .ref 63] rfl rfl rfl rfl (Nat.ble_eq_true_of_le (by omega)) hm.1 rfl rfl rfl (m_isPit (d := d + 1) hm hN hr hG (by unfold i32; omega)) rfl rfl ?_
  refine eW_if_ne 9 rfl rfl (by unfold i32; omega) (fun c2 => ?_) (fun c2 => ?_)
  · refine eW_iload_n 14 rfl rfl rfl ?_
    refine eW_iconst 15 rfl rfl ?_
    refine eW_iconst 16 rfl rfl ?_
    have hinq3 := eD_c ((0 : Int) ≤ x ∧ x ≤ 3)
    refine eW_callS 19 [vI x, vI 0, vI 3] [.ref 63] [vI (eB01 (decide ((0 : Int) ≤ x ∧ x ≤ 3))), .ref 63] rfl rfl rfl (Or.inl rfl) rfl rfl rfl (m_in (d := d + 2) (by unfold i32; omega) (by unfold i32; omega) (by unfold i32; omega)) rfl rfl ?_
    refine eW_if_eq 22 rfl rfl (by unfold i32; omega) (fun c4 => ?_) (fun c4 => ?_)
    · refine eW_iconst 27 rfl rfl ?_
      have hflq5 := eD_c ((0 : Int) < 2)
      refine eW_callVH 30 [.ref 63, vI 2] [] [vI (eB01 (decide ((0 : Int) < 2)))] rfl rfl rfl rfl (Nat.ble_eq_true_of_le (by omega)) hm.1 rfl rfl rfl (m_fails (d := d + 2) hm hN (by unfold i32; omega)) rfl rfl ?_
      intro h6 fh6
      have hmh6 : mM h6 (sUp s 7 2) A := fh6.1
      have frh6 : mFr h h6 := mFr_t (fun _ _ => rfl) fh6.2
      refine eW_if_eq 33 rfl rfl (by unfold i32; omega) (fun c7 => ?_) (fun c7 => ?_)
      · refine eW_aload_n 36 rfl rfl rfl ?_
        have hsm := gSm_le G
        refine eW_callVH 39 [.ref 63] [] [vI (gSm G)] rfl rfl rfl rfl (Nat.ble_eq_true_of_le (by omega)) (show h6 63 = .inr (11, [.ref 64, .ref 65, .ref 66, .ref 67, vI (s 4), vI (s 5), vI (s 6), vI 2, vI (s 8), vI (s 9), .ref 68, vI (s 11), vI (s 12), .ref 69, vI (s 14), .ref 70, .ref 71, vI (s 17), vI (s 18), vI (s 19), vI (s 20), .ref 72, vI (s 22)]) from hmh6.1) rfl rfl rfl (m_sumNow (d := d + 0) hmh6 hN hr hI) rfl rfl ?_
        intro h8 fh8
        obtain ⟨V1, F1, f9h8⟩ := fh8
        obtain ⟨f8h8, hV1⟩ := f9h8
        have hmh8 : mM h8 (sUp s 7 2) (mUp (mUp A 6 V1) 7 F1) := f8h8.1
        have frh8 : mFr h h8 := mFr_t frh6 f8h8.2
        refine eW_istore_n 40 rfl rfl [(3, vI (gSm G)), (0, .ref 63), (1, vI p), (2, vI x)] rfl rfl ?_
        refine eW_aload_n 41 rfl rfl rfl ?_
        refine eW_iload_n 42 rfl rfl rfl ?_
        have hmbq9 := g3 p.toNat (by omega)
        refine eW_callV 45 [.ref 63, vI p] [] [vI (G.1 p.toNat)] rfl rfl rfl rfl (Nat.ble_eq_true_of_le (by omega)) (show h8 63 = .inr (11, [.ref 64, .ref 65, .ref 66, .ref 67, vI (s 4), vI (s 5), vI (s 6), vI 2, vI (s 8), vI (s 9), .ref 68, vI (s 11), vI (s 12), .ref 69, vI (s 14), .ref 70, .ref 71, vI (s 17), vI (s 18), vI (s 19), vI (s 20), .ref 72, vI (s 22)]) from hmh8.1) rfl rfl rfl (m_marbles (d := d + 2) hmh8 hN hr hG (by omega)) rfl rfl ?_
        refine eW_istore 47 rfl rfl [(4, vI (G.1 p.toNat)), (3, vI (gSm G)), (0, .ref 63), (1, vI p), (2, vI x)] rfl rfl ?_
        refine eW_iload_n 48 rfl rfl rfl ?_
        refine eW_if_ne 51 rfl rfl (by unfold i32; omega) (fun c10 => ?_) (fun c10 => ?_)
        · refine eW_iload_n 57 rfl rfl rfl ?_
          refine eW_iconst 58 rfl rfl ?_
          refine eW_icmp_ne 61 rfl rfl (by unfold i32; omega) (by unfold i32; omega) (fun c11 => ?_) (fun c11 => ?_)
          · refine eW_iload_n 72 rfl rfl rfl ?_
            refine eW_iconst 73 rfl rfl ?_
            refine eW_icmp_ne 76 rfl rfl (by unfold i32; omega) (by unfold i32; omega) (fun c12 => ?_) (fun c12 => ?_)
            · refine eW_iload_n 86 rfl rfl rfl ?_
              refine eW_aload_n 87 rfl rfl rfl ?_
              refine eW_getfield 90 rfl rfl (Nat.ble_eq_true_of_le (by omega)) rfl (show h8 63 = .inr (11, [.ref 64, .ref 65, .ref 66, .ref 67, vI (s 4), vI (s 5), vI (s 6), vI 2, vI (s 8), vI (s 9), .ref 68, vI (s 11), vI (s 12), .ref 69, vI (s 14), .ref 70, .ref 71, vI (s 17), vI (s 18), vI (s 19), vI (s 20), .ref 72, vI (s 22)]) from hmh8.1) rfl ⟨rfl, fun _ h9 => nomatch h9⟩ ?_
              refine eW_iload 92 rfl rfl rfl ?_
              refine eW_iaload 93 rfl rfl (gvv (gDig G) (G.1 p.toNat)) (Nat.ble_eq_true_of_le (by omega)) (show h8 70 = .inl (0, 31, .inl (eIA V1)) from hmh8.2.2.2.2.2.2.2.1) (by omega) (by omega) (by unfold i32; omega) (mV_r hV1 (by omega) (by omega) (by omega)) ?_
              refine eW_ixor 94 rfl rfl (gXr (gSm G) (gvv (gDig G) (G.1 p.toNat))) (gXr_ok (by omega) (gvv_nn _)) ?_
              refine eW_ret_i rfl rfl (Or.inl rfl) ?_
              refine ⟨_, _, _, _, rfl, hmh8, frh8, ?_, ?_, ⟨rfl, rfl, rfl, rfl, rfl, rfl, rfl, rfl, rfl, rfl, rfl, rfl, rfl⟩⟩
              · show (2 : Int) = _
                omega
              · intro e9
                show (gXr (gSm G) (gvv (gDig G) (G.1 p.toNat)) : Int) = _
                first
                  | (exfalso; omega)
                  | (unfold gPitOf; rw [decide_eq_true (by omega : x = 0), gIn_t (by omega) (by omega)])
                  | (unfold gPitOf; rw [decide_eq_false (by omega : ¬ x = 0), decide_eq_true (by omega : x = 1), gIn_t (by omega) (by omega), gV_fun hVD])
                  | (unfold gPitOf; rw [decide_eq_false (by omega : ¬ x = 0), decide_eq_false (by omega : ¬ x = 1), decide_eq_true (by omega : x = 2), gIn_t (by omega) (by omega)])
                  | (unfold gPitOf; rw [decide_eq_false (by omega : ¬ x = 0), decide_eq_false (by omega : ¬ x = 1), decide_eq_false (by omega : ¬ x = 2), gIn_t (by omega) (by omega), gV_fun hVD, gSumV_eq hVD])
            · refine eW_aload_n 77 rfl rfl rfl ?_
              refine eW_iload 79 rfl rfl rfl ?_
              refine eW_callV 82 [.ref 63, vI (G.1 p.toNat)] [] [vI (gWays (gDig G) (G.1 p.toNat))] rfl rfl rfl rfl (Nat.ble_eq_true_of_le (by omega)) (show h8 63 = .inr (11, [.ref 64, .ref 65, .ref 66, .ref 67, vI (s 4), vI (s 5), vI (s 6), vI 2, vI (s 8), vI (s 9), .ref 68, vI (s 11), vI (s 12), .ref 69, vI (s 14), .ref 70, .ref 71, vI (s 17), vI (s 18), vI (s 19), vI (s 20), .ref 72, vI (s 22)]) from hmh8.1) rfl rfl rfl (m_waysOf (d := d + 1) hmh8 hN hr hG (by omega)) rfl rfl ?_
              refine eW_goto rfl ?_
              refine eW_ret_i rfl rfl (Or.inl rfl) ?_
              refine ⟨_, _, _, _, rfl, hmh8, frh8, ?_, ?_, ⟨rfl, rfl, rfl, rfl, rfl, rfl, rfl, rfl, rfl, rfl, rfl, rfl, rfl⟩⟩
              · show (2 : Int) = _
                omega
              · intro e9
                show (gWays (gDig G) (G.1 p.toNat) : Int) = _
                first
                  | (exfalso; omega)
                  | (unfold gPitOf; rw [decide_eq_true (by omega : x = 0), gIn_t (by omega) (by omega)])
                  | (unfold gPitOf; rw [decide_eq_false (by omega : ¬ x = 0), decide_eq_true (by omega : x = 1), gIn_t (by omega) (by omega), gV_fun hVD])
                  | (unfold gPitOf; rw [decide_eq_false (by omega : ¬ x = 0), decide_eq_false (by omega : ¬ x = 1), decide_eq_true (by omega : x = 2), gIn_t (by omega) (by omega)])
                  | (unfold gPitOf; rw [decide_eq_false (by omega : ¬ x = 0), decide_eq_false (by omega : ¬ x = 1), decide_eq_false (by omega : ¬ x = 2), gIn_t (by omega) (by omega), gV_fun hVD, gSumV_eq hVD])
          · refine eW_aload_n 62 rfl rfl rfl ?_
            refine eW_getfield 65 rfl rfl (Nat.ble_eq_true_of_le (by omega)) rfl (show h8 63 = .inr (11, [.ref 64, .ref 65, .ref 66, .ref 67, vI (s 4), vI (s 5), vI (s 6), vI 2, vI (s 8), vI (s 9), .ref 68, vI (s 11), vI (s 12), .ref 69, vI (s 14), .ref 70, .ref 71, vI (s 17), vI (s 18), vI (s 19), vI (s 20), .ref 72, vI (s 22)]) from hmh8.1) rfl ⟨rfl, fun _ h9 => nomatch h9⟩ ?_
            refine eW_iload 67 rfl rfl rfl ?_
            refine eW_iaload 68 rfl rfl (gvv (gDig G) (G.1 p.toNat)) (Nat.ble_eq_true_of_le (by omega)) (show h8 70 = .inl (0, 31, .inl (eIA V1)) from hmh8.2.2.2.2.2.2.2.1) (by omega) (by omega) (by unfold i32; omega) (mV_r hV1 (by omega) (by omega) (by omega)) ?_
            refine eW_goto rfl ?_
            refine eW_ret_i rfl rfl (Or.inl rfl) ?_
            refine ⟨_, _, _, _, rfl, hmh8, frh8, ?_, ?_, ⟨rfl, rfl, rfl, rfl, rfl, rfl, rfl, rfl, rfl, rfl, rfl, rfl, rfl⟩⟩
            · show (2 : Int) = _
              omega
            · intro e9
              show (gvv (gDig G) (G.1 p.toNat) : Int) = _
              first
                | (exfalso; omega)
                | (unfold gPitOf; rw [decide_eq_true (by omega : x = 0), gIn_t (by omega) (by omega)])
                | (unfold gPitOf; rw [decide_eq_false (by omega : ¬ x = 0), decide_eq_true (by omega : x = 1), gIn_t (by omega) (by omega), gV_fun hVD])
                | (unfold gPitOf; rw [decide_eq_false (by omega : ¬ x = 0), decide_eq_false (by omega : ¬ x = 1), decide_eq_true (by omega : x = 2), gIn_t (by omega) (by omega)])
                | (unfold gPitOf; rw [decide_eq_false (by omega : ¬ x = 0), decide_eq_false (by omega : ¬ x = 1), decide_eq_false (by omega : ¬ x = 2), gIn_t (by omega) (by omega), gV_fun hVD, gSumV_eq hVD])
        · refine eW_iload 53 rfl rfl rfl ?_
          refine eW_goto rfl ?_
          refine eW_ret_i rfl rfl (Or.inl rfl) ?_
          refine ⟨_, _, _, _, rfl, hmh8, frh8, ?_, ?_, ⟨rfl, rfl, rfl, rfl, rfl, rfl, rfl, rfl, rfl, rfl, rfl, rfl, rfl⟩⟩
          · show (2 : Int) = _
            omega
          · intro e9
            show (G.1 p.toNat : Int) = _
            first
              | (exfalso; omega)
              | (unfold gPitOf; rw [decide_eq_true (by omega : x = 0), gIn_t (by omega) (by omega)])
              | (unfold gPitOf; rw [decide_eq_false (by omega : ¬ x = 0), decide_eq_true (by omega : x = 1), gIn_t (by omega) (by omega), gV_fun hVD])
              | (unfold gPitOf; rw [decide_eq_false (by omega : ¬ x = 0), decide_eq_false (by omega : ¬ x = 1), decide_eq_true (by omega : x = 2), gIn_t (by omega) (by omega)])
              | (unfold gPitOf; rw [decide_eq_false (by omega : ¬ x = 0), decide_eq_false (by omega : ¬ x = 1), decide_eq_false (by omega : ¬ x = 2), gIn_t (by omega) (by omega), gV_fun hVD, gSumV_eq hVD])
      · refine eW_iconst 34 rfl rfl ?_
        refine eW_ret_i rfl rfl (Or.inl rfl) ?_
        refine ⟨_, _, _, _, rfl, hmh6, frh6, ?_, ?_, ⟨rfl, rfl, rfl, rfl, rfl, rfl, rfl, rfl, rfl, rfl, rfl, rfl, rfl⟩⟩
        · show (2 : Int) = _
          omega
        · intro e9
          show (0 : Int) = _
          first
            | (exfalso; omega)
            | (unfold gPitOf; rw [decide_eq_true (by omega : x = 0), gIn_t (by omega) (by omega)])
            | (unfold gPitOf; rw [decide_eq_false (by omega : ¬ x = 0), decide_eq_true (by omega : x = 1), gIn_t (by omega) (by omega), gV_fun hVD])
            | (unfold gPitOf; rw [decide_eq_false (by omega : ¬ x = 0), decide_eq_false (by omega : ¬ x = 1), decide_eq_true (by omega : x = 2), gIn_t (by omega) (by omega)])
            | (unfold gPitOf; rw [decide_eq_false (by omega : ¬ x = 0), decide_eq_false (by omega : ¬ x = 1), decide_eq_false (by omega : ¬ x = 2), gIn_t (by omega) (by omega), gV_fun hVD, gSumV_eq hVD])
    · refine eW_iconst 23 rfl rfl ?_
      refine eW_goto rfl ?_
      have hflq13 := eD_c ((0 : Int) < 0)
      refine eW_callVH 30 [.ref 63, vI 0] [] [vI (eB01 (decide ((0 : Int) < 0)))] rfl rfl rfl rfl (Nat.ble_eq_true_of_le (by omega)) hm.1 rfl rfl rfl (m_fails (d := d + 2) hm hN (by unfold i32; omega)) rfl rfl ?_
      intro h14 fh14
      have hmh14 : mM h14 (sUp s 7 0) A := fh14.1
      have frh14 : mFr h h14 := mFr_t (fun _ _ => rfl) fh14.2
      refine eW_if_eq 33 rfl rfl (by unfold i32; omega) (fun c15 => ?_) (fun c15 => ?_)
      · refine eW_aload_n 36 rfl rfl rfl ?_
        have hsm := gSm_le G
        refine eW_callVH 39 [.ref 63] [] [vI (gSm G)] rfl rfl rfl rfl (Nat.ble_eq_true_of_le (by omega)) (show h14 63 = .inr (11, [.ref 64, .ref 65, .ref 66, .ref 67, vI (s 4), vI (s 5), vI (s 6), vI 0, vI (s 8), vI (s 9), .ref 68, vI (s 11), vI (s 12), .ref 69, vI (s 14), .ref 70, .ref 71, vI (s 17), vI (s 18), vI (s 19), vI (s 20), .ref 72, vI (s 22)]) from hmh14.1) rfl rfl rfl (m_sumNow (d := d + 0) hmh14 hN hr hI) rfl rfl ?_
        intro h16 fh16
        obtain ⟨V1, F1, f9h16⟩ := fh16
        obtain ⟨f8h16, hV1⟩ := f9h16
        have hmh16 : mM h16 (sUp s 7 0) (mUp (mUp A 6 V1) 7 F1) := f8h16.1
        have frh16 : mFr h h16 := mFr_t frh14 f8h16.2
        refine eW_istore_n 40 rfl rfl [(3, vI (gSm G)), (0, .ref 63), (1, vI p), (2, vI x)] rfl rfl ?_
        refine eW_aload_n 41 rfl rfl rfl ?_
        refine eW_iload_n 42 rfl rfl rfl ?_
        have hmbq17 := g3 p.toNat (by omega)
        refine eW_callV 45 [.ref 63, vI p] [] [vI (G.1 p.toNat)] rfl rfl rfl rfl (Nat.ble_eq_true_of_le (by omega)) (show h16 63 = .inr (11, [.ref 64, .ref 65, .ref 66, .ref 67, vI (s 4), vI (s 5), vI (s 6), vI 0, vI (s 8), vI (s 9), .ref 68, vI (s 11), vI (s 12), .ref 69, vI (s 14), .ref 70, .ref 71, vI (s 17), vI (s 18), vI (s 19), vI (s 20), .ref 72, vI (s 22)]) from hmh16.1) rfl rfl rfl (m_marbles (d := d + 2) hmh16 hN hr hG (by omega)) rfl rfl ?_
        refine eW_istore 47 rfl rfl [(4, vI (G.1 p.toNat)), (3, vI (gSm G)), (0, .ref 63), (1, vI p), (2, vI x)] rfl rfl ?_
        refine eW_iload_n 48 rfl rfl rfl ?_
        refine eW_if_ne 51 rfl rfl (by unfold i32; omega) (fun c18 => ?_) (fun c18 => ?_)
        · refine eW_iload_n 57 rfl rfl rfl ?_
          refine eW_iconst 58 rfl rfl ?_
          refine eW_icmp_ne 61 rfl rfl (by unfold i32; omega) (by unfold i32; omega) (fun c19 => ?_) (fun c19 => ?_)
          · refine eW_iload_n 72 rfl rfl rfl ?_
            refine eW_iconst 73 rfl rfl ?_
            refine eW_icmp_ne 76 rfl rfl (by unfold i32; omega) (by unfold i32; omega) (fun c20 => ?_) (fun c20 => ?_)
            · refine eW_iload_n 86 rfl rfl rfl ?_
              refine eW_aload_n 87 rfl rfl rfl ?_
              refine eW_getfield 90 rfl rfl (Nat.ble_eq_true_of_le (by omega)) rfl (show h16 63 = .inr (11, [.ref 64, .ref 65, .ref 66, .ref 67, vI (s 4), vI (s 5), vI (s 6), vI 0, vI (s 8), vI (s 9), .ref 68, vI (s 11), vI (s 12), .ref 69, vI (s 14), .ref 70, .ref 71, vI (s 17), vI (s 18), vI (s 19), vI (s 20), .ref 72, vI (s 22)]) from hmh16.1) rfl ⟨rfl, fun _ h9 => nomatch h9⟩ ?_
              refine eW_iload 92 rfl rfl rfl ?_
              refine eW_iaload 93 rfl rfl (gvv (gDig G) (G.1 p.toNat)) (Nat.ble_eq_true_of_le (by omega)) (show h16 70 = .inl (0, 31, .inl (eIA V1)) from hmh16.2.2.2.2.2.2.2.1) (by omega) (by omega) (by unfold i32; omega) (mV_r hV1 (by omega) (by omega) (by omega)) ?_
              refine eW_ixor 94 rfl rfl (gXr (gSm G) (gvv (gDig G) (G.1 p.toNat))) (gXr_ok (by omega) (gvv_nn _)) ?_
              refine eW_ret_i rfl rfl (Or.inl rfl) ?_
              refine ⟨_, _, _, _, rfl, hmh16, frh16, ?_, ?_, ⟨rfl, rfl, rfl, rfl, rfl, rfl, rfl, rfl, rfl, rfl, rfl, rfl, rfl⟩⟩
              · show (0 : Int) = _
                omega
              · intro e9
                show (gXr (gSm G) (gvv (gDig G) (G.1 p.toNat)) : Int) = _
                first
                  | (exfalso; omega)
                  | (unfold gPitOf; rw [decide_eq_true (by omega : x = 0), gIn_t (by omega) (by omega)])
                  | (unfold gPitOf; rw [decide_eq_false (by omega : ¬ x = 0), decide_eq_true (by omega : x = 1), gIn_t (by omega) (by omega), gV_fun hVD])
                  | (unfold gPitOf; rw [decide_eq_false (by omega : ¬ x = 0), decide_eq_false (by omega : ¬ x = 1), decide_eq_true (by omega : x = 2), gIn_t (by omega) (by omega)])
                  | (unfold gPitOf; rw [decide_eq_false (by omega : ¬ x = 0), decide_eq_false (by omega : ¬ x = 1), decide_eq_false (by omega : ¬ x = 2), gIn_t (by omega) (by omega), gV_fun hVD, gSumV_eq hVD])
            · refine eW_aload_n 77 rfl rfl rfl ?_
              refine eW_iload 79 rfl rfl rfl ?_
              refine eW_callV 82 [.ref 63, vI (G.1 p.toNat)] [] [vI (gWays (gDig G) (G.1 p.toNat))] rfl rfl rfl rfl (Nat.ble_eq_true_of_le (by omega)) (show h16 63 = .inr (11, [.ref 64, .ref 65, .ref 66, .ref 67, vI (s 4), vI (s 5), vI (s 6), vI 0, vI (s 8), vI (s 9), .ref 68, vI (s 11), vI (s 12), .ref 69, vI (s 14), .ref 70, .ref 71, vI (s 17), vI (s 18), vI (s 19), vI (s 20), .ref 72, vI (s 22)]) from hmh16.1) rfl rfl rfl (m_waysOf (d := d + 1) hmh16 hN hr hG (by omega)) rfl rfl ?_
              refine eW_goto rfl ?_
              refine eW_ret_i rfl rfl (Or.inl rfl) ?_
              refine ⟨_, _, _, _, rfl, hmh16, frh16, ?_, ?_, ⟨rfl, rfl, rfl, rfl, rfl, rfl, rfl, rfl, rfl, rfl, rfl, rfl, rfl⟩⟩
              · show (0 : Int) = _
                omega
              · intro e9
                show (gWays (gDig G) (G.1 p.toNat) : Int) = _
                first
                  | (exfalso; omega)
                  | (unfold gPitOf; rw [decide_eq_true (by omega : x = 0), gIn_t (by omega) (by omega)])
                  | (unfold gPitOf; rw [decide_eq_false (by omega : ¬ x = 0), decide_eq_true (by omega : x = 1), gIn_t (by omega) (by omega), gV_fun hVD])
                  | (unfold gPitOf; rw [decide_eq_false (by omega : ¬ x = 0), decide_eq_false (by omega : ¬ x = 1), decide_eq_true (by omega : x = 2), gIn_t (by omega) (by omega)])
                  | (unfold gPitOf; rw [decide_eq_false (by omega : ¬ x = 0), decide_eq_false (by omega : ¬ x = 1), decide_eq_false (by omega : ¬ x = 2), gIn_t (by omega) (by omega), gV_fun hVD, gSumV_eq hVD])
          · refine eW_aload_n 62 rfl rfl rfl ?_
            refine eW_getfield 65 rfl rfl (Nat.ble_eq_true_of_le (by omega)) rfl (show h16 63 = .inr (11, [.ref 64, .ref 65, .ref 66, .ref 67, vI (s 4), vI (s 5), vI (s 6), vI 0, vI (s 8), vI (s 9), .ref 68, vI (s 11), vI (s 12), .ref 69, vI (s 14), .ref 70, .ref 71, vI (s 17), vI (s 18), vI (s 19), vI (s 20), .ref 72, vI (s 22)]) from hmh16.1) rfl ⟨rfl, fun _ h9 => nomatch h9⟩ ?_
            refine eW_iload 67 rfl rfl rfl ?_
            refine eW_iaload 68 rfl rfl (gvv (gDig G) (G.1 p.toNat)) (Nat.ble_eq_true_of_le (by omega)) (show h16 70 = .inl (0, 31, .inl (eIA V1)) from hmh16.2.2.2.2.2.2.2.1) (by omega) (by omega) (by unfold i32; omega) (mV_r hV1 (by omega) (by omega) (by omega)) ?_
            refine eW_goto rfl ?_
            refine eW_ret_i rfl rfl (Or.inl rfl) ?_
            refine ⟨_, _, _, _, rfl, hmh16, frh16, ?_, ?_, ⟨rfl, rfl, rfl, rfl, rfl, rfl, rfl, rfl, rfl, rfl, rfl, rfl, rfl⟩⟩
            · show (0 : Int) = _
              omega
            · intro e9
              show (gvv (gDig G) (G.1 p.toNat) : Int) = _
              first
                | (exfalso; omega)
                | (unfold gPitOf; rw [decide_eq_true (by omega : x = 0), gIn_t (by omega) (by omega)])
                | (unfold gPitOf; rw [decide_eq_false (by omega : ¬ x = 0), decide_eq_true (by omega : x = 1), gIn_t (by omega) (by omega), gV_fun hVD])
                | (unfold gPitOf; rw [decide_eq_false (by omega : ¬ x = 0), decide_eq_false (by omega : ¬ x = 1), decide_eq_true (by omega : x = 2), gIn_t (by omega) (by omega)])
                | (unfold gPitOf; rw [decide_eq_false (by omega : ¬ x = 0), decide_eq_false (by omega : ¬ x = 1), decide_eq_false (by omega : ¬ x = 2), gIn_t (by omega) (by omega), gV_fun hVD, gSumV_eq hVD])
        · refine eW_iload 53 rfl rfl rfl ?_
          refine eW_goto rfl ?_
          refine eW_ret_i rfl rfl (Or.inl rfl) ?_
          refine ⟨_, _, _, _, rfl, hmh16, frh16, ?_, ?_, ⟨rfl, rfl, rfl, rfl, rfl, rfl, rfl, rfl, rfl, rfl, rfl, rfl, rfl⟩⟩
          · show (0 : Int) = _
            omega
          · intro e9
            show (G.1 p.toNat : Int) = _
            first
              | (exfalso; omega)
              | (unfold gPitOf; rw [decide_eq_true (by omega : x = 0), gIn_t (by omega) (by omega)])
              | (unfold gPitOf; rw [decide_eq_false (by omega : ¬ x = 0), decide_eq_true (by omega : x = 1), gIn_t (by omega) (by omega), gV_fun hVD])
              | (unfold gPitOf; rw [decide_eq_false (by omega : ¬ x = 0), decide_eq_false (by omega : ¬ x = 1), decide_eq_true (by omega : x = 2), gIn_t (by omega) (by omega)])
              | (unfold gPitOf; rw [decide_eq_false (by omega : ¬ x = 0), decide_eq_false (by omega : ¬ x = 1), decide_eq_false (by omega : ¬ x = 2), gIn_t (by omega) (by omega), gV_fun hVD, gSumV_eq hVD])
      · refine eW_iconst 34 rfl rfl ?_
        refine eW_ret_i rfl rfl (Or.inl rfl) ?_
        refine ⟨_, _, _, _, rfl, hmh14, frh14, ?_, ?_, ⟨rfl, rfl, rfl, rfl, rfl, rfl, rfl, rfl, rfl, rfl, rfl, rfl, rfl⟩⟩
        · show (0 : Int) = _
          omega
        · intro e9
          show (0 : Int) = _
          first
            | (exfalso; omega)
            | (unfold gPitOf; rw [decide_eq_true (by omega : x = 0), gIn_t (by omega) (by omega)])
            | (unfold gPitOf; rw [decide_eq_false (by omega : ¬ x = 0), decide_eq_true (by omega : x = 1), gIn_t (by omega) (by omega), gV_fun hVD])
            | (unfold gPitOf; rw [decide_eq_false (by omega : ¬ x = 0), decide_eq_false (by omega : ¬ x = 1), decide_eq_true (by omega : x = 2), gIn_t (by omega) (by omega)])
            | (unfold gPitOf; rw [decide_eq_false (by omega : ¬ x = 0), decide_eq_false (by omega : ¬ x = 1), decide_eq_false (by omega : ¬ x = 2), gIn_t (by omega) (by omega), gV_fun hVD, gSumV_eq hVD])
  · refine eW_iconst 10 rfl rfl ?_
    refine eW_goto rfl ?_
    have hflq21 := eD_c ((0 : Int) < 1)
    refine eW_callVH 30 [.ref 63, vI 1] [] [vI (eB01 (decide ((0 : Int) < 1)))] rfl rfl rfl rfl (Nat.ble_eq_true_of_le (by omega)) hm.1 rfl rfl rfl (m_fails (d := d + 2) hm hN (by unfold i32; omega)) rfl rfl ?_
    intro h22 fh22
    have hmh22 : mM h22 (sUp s 7 1) A := fh22.1
    have frh22 : mFr h h22 := mFr_t (fun _ _ => rfl) fh22.2
    refine eW_if_eq 33 rfl rfl (by unfold i32; omega) (fun c23 => ?_) (fun c23 => ?_)
    · refine eW_aload_n 36 rfl rfl rfl ?_
      have hsm := gSm_le G
      refine eW_callVH 39 [.ref 63] [] [vI (gSm G)] rfl rfl rfl rfl (Nat.ble_eq_true_of_le (by omega)) (show h22 63 = .inr (11, [.ref 64, .ref 65, .ref 66, .ref 67, vI (s 4), vI (s 5), vI (s 6), vI 1, vI (s 8), vI (s 9), .ref 68, vI (s 11), vI (s 12), .ref 69, vI (s 14), .ref 70, .ref 71, vI (s 17), vI (s 18), vI (s 19), vI (s 20), .ref 72, vI (s 22)]) from hmh22.1) rfl rfl rfl (m_sumNow (d := d + 0) hmh22 hN hr hI) rfl rfl ?_
      intro h24 fh24
      obtain ⟨V1, F1, f9h24⟩ := fh24
      obtain ⟨f8h24, hV1⟩ := f9h24
      have hmh24 : mM h24 (sUp s 7 1) (mUp (mUp A 6 V1) 7 F1) := f8h24.1
      have frh24 : mFr h h24 := mFr_t frh22 f8h24.2
      refine eW_istore_n 40 rfl rfl [(3, vI (gSm G)), (0, .ref 63), (1, vI p), (2, vI x)] rfl rfl ?_
      refine eW_aload_n 41 rfl rfl rfl ?_
      refine eW_iload_n 42 rfl rfl rfl ?_
      have hmbq25 := g3 p.toNat (by omega)
      refine eW_callV 45 [.ref 63, vI p] [] [vI (G.1 p.toNat)] rfl rfl rfl rfl (Nat.ble_eq_true_of_le (by omega)) (show h24 63 = .inr (11, [.ref 64, .ref 65, .ref 66, .ref 67, vI (s 4), vI (s 5), vI (s 6), vI 1, vI (s 8), vI (s 9), .ref 68, vI (s 11), vI (s 12), .ref 69, vI (s 14), .ref 70, .ref 71, vI (s 17), vI (s 18), vI (s 19), vI (s 20), .ref 72, vI (s 22)]) from hmh24.1) rfl rfl rfl (m_marbles (d := d + 2) hmh24 hN hr hG (by omega)) rfl rfl ?_
      refine eW_istore 47 rfl rfl [(4, vI (G.1 p.toNat)), (3, vI (gSm G)), (0, .ref 63), (1, vI p), (2, vI x)] rfl rfl ?_
      refine eW_iload_n 48 rfl rfl rfl ?_
      refine eW_if_ne 51 rfl rfl (by unfold i32; omega) (fun c26 => ?_) (fun c26 => ?_)
      · refine eW_iload_n 57 rfl rfl rfl ?_
        refine eW_iconst 58 rfl rfl ?_
        refine eW_icmp_ne 61 rfl rfl (by unfold i32; omega) (by unfold i32; omega) (fun c27 => ?_) (fun c27 => ?_)
        · refine eW_iload_n 72 rfl rfl rfl ?_
          refine eW_iconst 73 rfl rfl ?_
          refine eW_icmp_ne 76 rfl rfl (by unfold i32; omega) (by unfold i32; omega) (fun c28 => ?_) (fun c28 => ?_)
          · refine eW_iload_n 86 rfl rfl rfl ?_
            refine eW_aload_n 87 rfl rfl rfl ?_
            refine eW_getfield 90 rfl rfl (Nat.ble_eq_true_of_le (by omega)) rfl (show h24 63 = .inr (11, [.ref 64, .ref 65, .ref 66, .ref 67, vI (s 4), vI (s 5), vI (s 6), vI 1, vI (s 8), vI (s 9), .ref 68, vI (s 11), vI (s 12), .ref 69, vI (s 14), .ref 70, .ref 71, vI (s 17), vI (s 18), vI (s 19), vI (s 20), .ref 72, vI (s 22)]) from hmh24.1) rfl ⟨rfl, fun _ h9 => nomatch h9⟩ ?_
            refine eW_iload 92 rfl rfl rfl ?_
            refine eW_iaload 93 rfl rfl (gvv (gDig G) (G.1 p.toNat)) (Nat.ble_eq_true_of_le (by omega)) (show h24 70 = .inl (0, 31, .inl (eIA V1)) from hmh24.2.2.2.2.2.2.2.1) (by omega) (by omega) (by unfold i32; omega) (mV_r hV1 (by omega) (by omega) (by omega)) ?_
            refine eW_ixor 94 rfl rfl (gXr (gSm G) (gvv (gDig G) (G.1 p.toNat))) (gXr_ok (by omega) (gvv_nn _)) ?_
            refine eW_ret_i rfl rfl (Or.inl rfl) ?_
            refine ⟨_, _, _, _, rfl, hmh24, frh24, ?_, ?_, ⟨rfl, rfl, rfl, rfl, rfl, rfl, rfl, rfl, rfl, rfl, rfl, rfl, rfl⟩⟩
            · show (1 : Int) = _
              omega
            · intro e9
              show (gXr (gSm G) (gvv (gDig G) (G.1 p.toNat)) : Int) = _
              first
                | (exfalso; omega)
                | (unfold gPitOf; rw [decide_eq_true (by omega : x = 0), gIn_t (by omega) (by omega)])
                | (unfold gPitOf; rw [decide_eq_false (by omega : ¬ x = 0), decide_eq_true (by omega : x = 1), gIn_t (by omega) (by omega), gV_fun hVD])
                | (unfold gPitOf; rw [decide_eq_false (by omega : ¬ x = 0), decide_eq_false (by omega : ¬ x = 1), decide_eq_true (by omega : x = 2), gIn_t (by omega) (by omega)])
                | (unfold gPitOf; rw [decide_eq_false (by omega : ¬ x = 0), decide_eq_false (by omega : ¬ x = 1), decide_eq_false (by omega : ¬ x = 2), gIn_t (by omega) (by omega), gV_fun hVD, gSumV_eq hVD])
          · refine eW_aload_n 77 rfl rfl rfl ?_
            refine eW_iload 79 rfl rfl rfl ?_
            refine eW_callV 82 [.ref 63, vI (G.1 p.toNat)] [] [vI (gWays (gDig G) (G.1 p.toNat))] rfl rfl rfl rfl (Nat.ble_eq_true_of_le (by omega)) (show h24 63 = .inr (11, [.ref 64, .ref 65, .ref 66, .ref 67, vI (s 4), vI (s 5), vI (s 6), vI 1, vI (s 8), vI (s 9), .ref 68, vI (s 11), vI (s 12), .ref 69, vI (s 14), .ref 70, .ref 71, vI (s 17), vI (s 18), vI (s 19), vI (s 20), .ref 72, vI (s 22)]) from hmh24.1) rfl rfl rfl (m_waysOf (d := d + 1) hmh24 hN hr hG (by omega)) rfl rfl ?_
            refine eW_goto rfl ?_
            refine eW_ret_i rfl rfl (Or.inl rfl) ?_
            refine ⟨_, _, _, _, rfl, hmh24, frh24, ?_, ?_, ⟨rfl, rfl, rfl, rfl, rfl, rfl, rfl, rfl, rfl, rfl, rfl, rfl, rfl⟩⟩
            · show (1 : Int) = _
              omega
            · intro e9
              show (gWays (gDig G) (G.1 p.toNat) : Int) = _
              first
                | (exfalso; omega)
                | (unfold gPitOf; rw [decide_eq_true (by omega : x = 0), gIn_t (by omega) (by omega)])
                | (unfold gPitOf; rw [decide_eq_false (by omega : ¬ x = 0), decide_eq_true (by omega : x = 1), gIn_t (by omega) (by omega), gV_fun hVD])
                | (unfold gPitOf; rw [decide_eq_false (by omega : ¬ x = 0), decide_eq_false (by omega : ¬ x = 1), decide_eq_true (by omega : x = 2), gIn_t (by omega) (by omega)])
                | (unfold gPitOf; rw [decide_eq_false (by omega : ¬ x = 0), decide_eq_false (by omega : ¬ x = 1), decide_eq_false (by omega : ¬ x = 2), gIn_t (by omega) (by omega), gV_fun hVD, gSumV_eq hVD])
        · refine eW_aload_n 62 rfl rfl rfl ?_
          refine eW_getfield 65 rfl rfl (Nat.ble_eq_true_of_le (by omega)) rfl (show h24 63 = .inr (11, [.ref 64, .ref 65, .ref 66, .ref 67, vI (s 4), vI (s 5), vI (s 6), vI 1, vI (s 8), vI (s 9), .ref 68, vI (s 11), vI (s 12), .ref 69, vI (s 14), .ref 70, .ref 71, vI (s 17), vI (s 18), vI (s 19), vI (s 20), .ref 72, vI (s 22)]) from hmh24.1) rfl ⟨rfl, fun _ h9 => nomatch h9⟩ ?_
          refine eW_iload 67 rfl rfl rfl ?_
          refine eW_iaload 68 rfl rfl (gvv (gDig G) (G.1 p.toNat)) (Nat.ble_eq_true_of_le (by omega)) (show h24 70 = .inl (0, 31, .inl (eIA V1)) from hmh24.2.2.2.2.2.2.2.1) (by omega) (by omega) (by unfold i32; omega) (mV_r hV1 (by omega) (by omega) (by omega)) ?_
          refine eW_goto rfl ?_
          refine eW_ret_i rfl rfl (Or.inl rfl) ?_
          refine ⟨_, _, _, _, rfl, hmh24, frh24, ?_, ?_, ⟨rfl, rfl, rfl, rfl, rfl, rfl, rfl, rfl, rfl, rfl, rfl, rfl, rfl⟩⟩
          · show (1 : Int) = _
            omega
          · intro e9
            show (gvv (gDig G) (G.1 p.toNat) : Int) = _
            first
              | (exfalso; omega)
              | (unfold gPitOf; rw [decide_eq_true (by omega : x = 0), gIn_t (by omega) (by omega)])
              | (unfold gPitOf; rw [decide_eq_false (by omega : ¬ x = 0), decide_eq_true (by omega : x = 1), gIn_t (by omega) (by omega), gV_fun hVD])
              | (unfold gPitOf; rw [decide_eq_false (by omega : ¬ x = 0), decide_eq_false (by omega : ¬ x = 1), decide_eq_true (by omega : x = 2), gIn_t (by omega) (by omega)])
              | (unfold gPitOf; rw [decide_eq_false (by omega : ¬ x = 0), decide_eq_false (by omega : ¬ x = 1), decide_eq_false (by omega : ¬ x = 2), gIn_t (by omega) (by omega), gV_fun hVD, gSumV_eq hVD])
      · refine eW_iload 53 rfl rfl rfl ?_
        refine eW_goto rfl ?_
        refine eW_ret_i rfl rfl (Or.inl rfl) ?_
        refine ⟨_, _, _, _, rfl, hmh24, frh24, ?_, ?_, ⟨rfl, rfl, rfl, rfl, rfl, rfl, rfl, rfl, rfl, rfl, rfl, rfl, rfl⟩⟩
        · show (1 : Int) = _
          omega
        · intro e9
          show (G.1 p.toNat : Int) = _
          first
            | (exfalso; omega)
            | (unfold gPitOf; rw [decide_eq_true (by omega : x = 0), gIn_t (by omega) (by omega)])
            | (unfold gPitOf; rw [decide_eq_false (by omega : ¬ x = 0), decide_eq_true (by omega : x = 1), gIn_t (by omega) (by omega), gV_fun hVD])
            | (unfold gPitOf; rw [decide_eq_false (by omega : ¬ x = 0), decide_eq_false (by omega : ¬ x = 1), decide_eq_true (by omega : x = 2), gIn_t (by omega) (by omega)])
            | (unfold gPitOf; rw [decide_eq_false (by omega : ¬ x = 0), decide_eq_false (by omega : ¬ x = 1), decide_eq_false (by omega : ¬ x = 2), gIn_t (by omega) (by omega), gV_fun hVD, gSumV_eq hVD])
    · refine eW_iconst 34 rfl rfl ?_
      refine eW_ret_i rfl rfl (Or.inl rfl) ?_
      refine ⟨_, _, _, _, rfl, hmh22, frh22, ?_, ?_, ⟨rfl, rfl, rfl, rfl, rfl, rfl, rfl, rfl, rfl, rfl, rfl, rfl, rfl⟩⟩
      · show (1 : Int) = _
        omega
      · intro e9
        show (0 : Int) = _
        first
          | (exfalso; omega)
          | (unfold gPitOf; rw [decide_eq_true (by omega : x = 0), gIn_t (by omega) (by omega)])
          | (unfold gPitOf; rw [decide_eq_false (by omega : ¬ x = 0), decide_eq_true (by omega : x = 1), gIn_t (by omega) (by omega), gV_fun hVD])
          | (unfold gPitOf; rw [decide_eq_false (by omega : ¬ x = 0), decide_eq_false (by omega : ¬ x = 1), decide_eq_true (by omega : x = 2), gIn_t (by omega) (by omega)])
          | (unfold gPitOf; rw [decide_eq_false (by omega : ¬ x = 0), decide_eq_false (by omega : ¬ x = 1), decide_eq_false (by omega : ¬ x = 2), gIn_t (by omega) (by omega), gV_fun hVD, gSumV_eq hVD])
