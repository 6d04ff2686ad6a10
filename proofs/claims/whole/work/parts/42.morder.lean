/-! an order, and a whole text -/
def oOk (T' : eTx) (O : Nat → Int) (i : Int) : Prop := O (4 * i).toNat = tKind T' i ∧ tIs (tKind T' i) = true ∧ (tKind T' i = 112 → O (4 * i + 1).toNat = tNo T' i 0) ∧ (tKind T' i = 99 → O (4 * i + 1).toNat = tNo T' i 0 ∧ O (4 * i + 2).toNat = tNo T' i 1) ∧ (tKind T' i = 115 → O (4 * i + 1).toNat = tNo T' i 0 ∧ O (4 * i + 2).toNat = tNo T' i 1 ∧ O (4 * i + 3).toNat = tNo T' i 2 ∧ 0 ≤ tNo T' i 1)
/-- the kinds and the count of orders while an order is read -/
def uC (T X : eTx) : Prop := X.2.1 = eUp T.2.1 T.2.2.2.2.2.toNat (tSg T) ∧ X.2.2.2.2.2 = T.2.2.2.2.2
theorem uC_0 (T : eTx) : uC T (tIni T) := ⟨rfl, rfl⟩
theorem uC_skip {T X : eTx} {c : Int} (h : uC T X) : uC T (tSkip c X).2 := by unfold tSkip; cases decide (X.2.2.2.2.1 < X.2.2.2.1 ∧ tSg X = c) <;> exact h
theorem uC_dig {T X : eTx} {w : Int} (h : uC T X) : uC T (tDig w X).2 := by unfold tDig; cases decide (48 ≤ tSg X ∧ tSg X ≤ 57) <;> exact h
theorem uC_num {T X : eTx} {w : Int} (h : uC T X) : uC T (tNum w X).2 := by
  unfold tNum
  have h1 : uC T (tDig w X).2 := uC_dig h
  have h2 : uC T (tDig w (tDig w X).2).2 := uC_dig h1
  cases (tDig w X).1 with
  | false => exact h1
  | true =>
    dsimp only
    cases (tDig w (tDig w X).2).1 with
    | false => exact h2
    | true => exact h2
theorem uC_kind {T X : eTx} (hT : gTO T) (ho : T.2.2.2.2.2 < 30) (h : uC T X) : tKind X T.2.2.2.2.2 = tSg T := by
  have h0 := hT.2.2.1.1
  unfold tKind
  rw [decide_eq_true ⟨h0, ho⟩, h.1]
  exact eUp_eq rfl
theorem tSkip_no {c : Int} {T : eTx} (h : (tSkip c T).1 = false) : tSkip c T = (false, T) := by
  unfold tSkip at h ⊢
  cases hd : decide (T.2.2.2.2.1 < T.2.2.2.1 ∧ tSg T = c) with
  | true => rw [hd] at h; cases h
  | false => rfl
theorem tSkip_yes {c : Int} {T : eTx} (h : (tSkip c T).1 = true) : T.2.2.2.2.1 < T.2.2.2.1 ∧ tSg T = c := by
  unfold tSkip at h
  cases hd : decide (T.2.2.2.2.1 < T.2.2.2.1 ∧ tSg T = c) with
  | true => exact of_decide_eq_true hd
  | false => rw [hd] at h; cases h
theorem tSkip_sg {c : Int} {T : eTx} (hc : c ≠ 0) (h : (tSkip c T).1 = false) : tSg T ≠ c := by
  intro e
  have h2 := tSg_pos (T := T) (by rw [e]; exact hc)
  rw [tSkip_t ⟨h2.1, e⟩] at h; cases h
theorem tDig_yes {w : Int} {T : eTx} (h : (tDig w T).1 = true) : 48 ≤ tSg T ∧ tSg T ≤ 57 := by
  unfold tDig at h
  cases hd : decide (48 ≤ tSg T ∧ tSg T ≤ 57) with
  | true => exact of_decide_eq_true hd
  | false => rw [hd] at h; cases h
theorem tNo_skip {T : eTx} {c i w : Int} : tNo (tSkip c T).2 i w = tNo T i w := by unfold tSkip; cases decide (T.2.2.2.2.1 < T.2.2.2.1 ∧ tSg T = c) <;> rfl
theorem tNo_dne {T : eTx} {w w2 : Int} (hT : gTO T) (ho : T.2.2.2.2.2 < 30) (h : (0 ≤ w ∧ w < 3) ∧ (0 ≤ w2 ∧ w2 < 3) ∧ w ≠ w2) : tNo (tDig w2 T).2 T.2.2.2.2.2 w = tNo T T.2.2.2.2.2 w := by
  have h0 := hT.2.2.1.1
  rw [tNo_t ⟨h0, ho⟩ h.1, tNo_t ⟨h0, ho⟩ h.1]
  unfold tDig
  cases decide (48 ≤ tSg T ∧ tSg T ≤ 57) with
  | false => rfl
  | true => exact eUp_ne (by omega)
theorem tNo_nne {T : eTx} {w w2 : Int} (hT : gTO T) (ho : T.2.2.2.2.2 < 30) (h : (0 ≤ w ∧ w < 3) ∧ (0 ≤ w2 ∧ w2 < 3) ∧ w ≠ w2) : tNo (tNum w2 T).2 T.2.2.2.2.2 w = tNo T T.2.2.2.2.2 w := by
  have h1 := tNo_dne hT ho h
  have hk := tDig_ok hT h.2.1 ho
  have h2 := tNo_dne hk.1 (by rw [hk.2.1]; exact ho) h
  rw [hk.2.1] at h2
  have hk2 := tDig_ok hk.1 h.2.1 (by rw [hk.2.1]; exact ho)
  unfold tNum
  cases (tDig w2 T).1 with
  | false => exact h1
  | true =>
    dsimp only
    cases (tDig w2 (tDig w2 T).2).1 with
    | false => exact h2.trans h1
    | true =>
      have h0 := hT.2.2.1.1
      refine Eq.trans ?_ (h2.trans h1)
      rw [tNo_t ⟨h0, ho⟩ h.1, tNo_t ⟨h0, ho⟩ h.1]
      show eUp _ ((tDig w2 (tDig w2 T).2).2.2.2.2.2.2 * 3 + w2).toNat _ _ = _
      rw [hk2.2.1, hk.2.1]
      exact eUp_ne (by omega)
theorem tmR_ini {T : eTx} {s : Nat → Int} {A : Nat → Nat → Int} (h : tmR T s A) (ho : T.2.2.2.2.2 < 30) : tmR (tIni T) s A := ⟨tIni_ok h.1 ho, h.2⟩
theorem m_orderHere {d N : Nat} {h : eHp} {s : Nat → Int} {A : Nat → Nat → Int} (hm : mM h s A) (hN : 75 ≤ N) {T : eTx} (hT : tmR T s A) (hs22 : s 22 = T.2.2.2.2.2) (ho30 : T.2.2.2.2.2 < 30) : eSp (d + 3) eM_X7_orderHere [.ref 63] N h (eChg (some (vI (eB01 (tOrd T).1))) N (fun h' => ∃ O, mD h (sUp s 20 (tOrd T).2.2.2.2.2.1) (mUp A 8 O) h' ∧ (∀ j : Nat, (j : Int) < 4 * T.2.2.2.2.2 → O j = A 8 j) ∧ ((tOrd T).1 = true → oOk (tOrd T).2 O T.2.2.2.2.2))) := by
  refine eSp_of [(0, .ref 63)] rfl rfl ?_
  have hU := tmR_ini hT ho30
  have h0 := hT.1.2.2.1.1
  refine eW_iconst 1 rfl rfl ?_
  refine eW_aload_n 2 rfl rfl rfl ?_
  refine eW_getfield 5 rfl rfl (Nat.ble_eq_true_of_le (by omega)) rfl hm.1 rfl ⟨rfl, fun _ h9 => nomatch h9⟩ ?_
  refine eW_imul 6 rfl rfl ?_
  refine eW_istore_n 7 rfl rfl [(1, vI (4 * (s 22))), (0, .ref 63)] rfl rfl ?_
  refine eW_aload_n 8 rfl rfl rfl ?_
  refine eW_getfield 11 rfl rfl (Nat.ble_eq_true_of_le (by omega)) rfl hm.1 rfl ⟨rfl, fun _ h9 => nomatch h9⟩ ?_
  refine eW_iload_n 12 rfl rfl rfl ?_
  refine eW_aload_n 13 rfl rfl rfl ?_
  have hrq1 := tHr_c (show tmR T s A from hT).1
  refine eW_callV 16 [.ref 63] [vI (4 * (s 22)), .ref 72] [vI (tHr T), vI (4 * (s 22)), .ref 72] rfl rfl rfl rfl (Nat.ble_eq_true_of_le (by omega)) hm.1 rfl rfl rfl (m_here (d := d + 1) hm hN (show tmR T s A from hT)) rfl rfl ?_
  refine eW_iastore 17 rfl rfl (Nat.ble_eq_true_of_le (by omega)) (show h 72 = .inl (0, 124, .inl (eIA (A 8))) from hm.2.2.2.2.2.2.2.2.2) (by omega) (by omega) (by unfold i32; omega) rfl ?_
  intro h2 eh2 oh2
  have hmh2 : mM h2 s (mUp A 8 (eUp (A 8) (4 * (s 22)).toNat (tHr T))) := mM_8 hm eh2 oh2 ⟨rfl, rfl, rfl, rfl, rfl, rfl, rfl, rfl⟩
  have frh2 : mFr h h2 := mFr_a (fun _ _ => rfl) (by decide) oh2
  refine eW_aload_n 18 rfl rfl rfl ?_
  refine eW_bipush 20 rfl rfl 110 rfl ?_
  have hkq3 := eB01_c (tSkip 110 (tIni T)).1
  refine eW_callVH 23 [.ref 63, vI 110] [] [vI (eB01 (tSkip 110 (tIni T)).1)] rfl rfl rfl rfl (Nat.ble_eq_true_of_le (by omega)) hmh2.1 rfl rfl rfl (m_skips (d := d + 0) hmh2 hN (show tmR (tIni T) s (mUp A 8 (eUp (A 8) (4 * (s 22)).toNat (tHr T))) from hU) (c := 110) (by decide)) rfl rfl ?_
  intro h4 fh4
  have hmh4 : mM h4 (sUp s 20 ((tSkip 110 (tIni T)).2.2.2.2.2.1)) (mUp A 8 (eUp (A 8) (4 * (s 22)).toNat (tHr T))) := fh4.1
  have frh4 : mFr h h4 := mFr_t frh2 fh4.2
  have hTh4 : tmR (tSkip 110 (tIni T)).2 (sUp s 20 ((tSkip 110 (tIni T)).2.2.2.2.2.1)) (mUp A 8 (eUp (A 8) (4 * (s 22)).toNat (tHr T))) := by have e8 := tmR_skip (c := 110) (show tmR (tIni T) s (mUp A 8 (eUp (A 8) (4 * (s 22)).toNat (tHr T))) from hU); exact e8
  have uch4 : uC T (tSkip 110 (tIni T)).2 := uC_skip (uC_0 T)
  have orh4 : (tSkip 110 (tIni T)).2.2.2.2.2.2 = T.2.2.2.2.2 := uch4.2
  refine eW_if_eq 26 rfl rfl (by unfold i32; omega) (fun c5 => ?_) (fun c5 => ?_)
  · have fzh4110 : (tSkip 110 (tIni T)).1 = false := by rcases hkq3 with e | e <;> first | exact e.1 | exact absurd e.2 (by omega)
    have nzh4110 := tSkip_no fzh4110
    have hmzh4110 := hmh4
    rw [nzh4110] at hmzh4110
    have hszh4110 := tSkip_sg (c := 110) (by decide) fzh4110
    refine eW_aload_n 29 rfl rfl rfl ?_
    refine eW_bipush 31 rfl rfl 112 rfl ?_
    have hkq6 := eB01_c (tSkip 112 (tIni T)).1
    refine eW_callVH 34 [.ref 63, vI 112] [] [vI (eB01 (tSkip 112 (tIni T)).1)] rfl rfl rfl rfl (Nat.ble_eq_true_of_le (by omega)) (show h4 63 = .inr (11, [.ref 64, .ref 65, .ref 66, .ref 67, vI (s 4), vI (s 5), vI (s 6), vI (s 7), vI (s 8), vI (s 9), .ref 68, vI (s 11), vI (s 12), .ref 69, vI (s 14), .ref 70, .ref 71, vI (s 17), vI (s 18), vI (s 19), vI ((tIni T).2.2.2.2.1), .ref 72, vI (s 22)]) from hmzh4110.1) rfl rfl rfl (m_skips (d := d + 0) hmzh4110 hN (show tmR (tIni T) (sUp s 20 ((tIni T).2.2.2.2.1)) (mUp A 8 (eUp (A 8) (4 * (s 22)).toNat (tHr T))) from (show tmR (tIni T) (sUp s 20 ((tIni T).2.2.2.2.1)) (mUp A 8 (eUp (A 8) (4 * (s 22)).toNat (tHr T))) from ⟨hU.1, hU.2.1, rfl, hU.2.2.2⟩)) (c := 112) (by decide)) rfl rfl ?_
    intro h7 fh7
    have hmh7 : mM h7 (sUp s 20 ((tSkip 112 (tIni T)).2.2.2.2.2.1)) (mUp A 8 (eUp (A 8) (4 * (s 22)).toNat (tHr T))) := fh7.1
    have frh7 : mFr h h7 := mFr_t frh4 fh7.2
    have hTh7 : tmR (tSkip 112 (tIni T)).2 (sUp s 20 ((tSkip 112 (tIni T)).2.2.2.2.2.1)) (mUp A 8 (eUp (A 8) (4 * (s 22)).toNat (tHr T))) := by have e8 := tmR_skip (c := 112) (show tmR (tIni T) (sUp s 20 ((tIni T).2.2.2.2.1)) (mUp A 8 (eUp (A 8) (4 * (s 22)).toNat (tHr T))) from (show tmR (tIni T) (sUp s 20 ((tIni T).2.2.2.2.1)) (mUp A 8 (eUp (A 8) (4 * (s 22)).toNat (tHr T))) from ⟨hU.1, hU.2.1, rfl, hU.2.2.2⟩)); exact e8
    have uch7 : uC T (tSkip 112 (tIni T)).2 := uC_skip (uC_0 T)
    have orh7 : (tSkip 112 (tIni T)).2.2.2.2.2.2 = T.2.2.2.2.2 := uch7.2
    refine eW_if_eq 37 rfl rfl (by unfold i32; omega) (fun c8 => ?_) (fun c8 => ?_)
    · have fzh7112 : (tSkip 112 (tIni T)).1 = false := by rcases hkq6 with e | e <;> first | exact e.1 | exact absurd e.2 (by omega)
      have nzh7112 := tSkip_no fzh7112
      have hmzh7112 := hmh7
      rw [nzh7112] at hmzh7112
      have hszh7112 := tSkip_sg (c := 112) (by decide) fzh7112
      refine eW_aload_n 47 rfl rfl rfl ?_
      refine eW_bipush 49 rfl rfl 99 rfl ?_
      have hkq9 := eB01_c (tSkip 99 (tIni T)).1
      refine eW_callVH 52 [.ref 63, vI 99] [] [vI (eB01 (tSkip 99 (tIni T)).1)] rfl rfl rfl rfl (Nat.ble_eq_true_of_le (by omega)) (show h7 63 = .inr (11, [.ref 64, .ref 65, .ref 66, .ref 67, vI (s 4), vI (s 5), vI (s 6), vI (s 7), vI (s 8), vI (s 9), .ref 68, vI (s 11), vI (s 12), .ref 69, vI (s 14), .ref 70, .ref 71, vI (s 17), vI (s 18), vI (s 19), vI ((tIni T).2.2.2.2.1), .ref 72, vI (s 22)]) from hmzh7112.1) rfl rfl rfl (m_skips (d := d + 0) hmzh7112 hN (show tmR (tIni T) (sUp s 20 ((tIni T).2.2.2.2.1)) (mUp A 8 (eUp (A 8) (4 * (s 22)).toNat (tHr T))) from (show tmR (tIni T) (sUp s 20 ((tIni T).2.2.2.2.1)) (mUp A 8 (eUp (A 8) (4 * (s 22)).toNat (tHr T))) from ⟨hU.1, hU.2.1, rfl, hU.2.2.2⟩)) (c := 99) (by decide)) rfl rfl ?_
      intro h10 fh10
      have hmh10 : mM h10 (sUp s 20 ((tSkip 99 (tIni T)).2.2.2.2.2.1)) (mUp A 8 (eUp (A 8) (4 * (s 22)).toNat (tHr T))) := fh10.1
      have frh10 : mFr h h10 := mFr_t frh7 fh10.2
      have hTh10 : tmR (tSkip 99 (tIni T)).2 (sUp s 20 ((tSkip 99 (tIni T)).2.2.2.2.2.1)) (mUp A 8 (eUp (A 8) (4 * (s 22)).toNat (tHr T))) := by have e8 := tmR_skip (c := 99) (show tmR (tIni T) (sUp s 20 ((tIni T).2.2.2.2.1)) (mUp A 8 (eUp (A 8) (4 * (s 22)).toNat (tHr T))) from (show tmR (tIni T) (sUp s 20 ((tIni T).2.2.2.2.1)) (mUp A 8 (eUp (A 8) (4 * (s 22)).toNat (tHr T))) from ⟨hU.1, hU.2.1, rfl, hU.2.2.2⟩)); exact e8
      have uch10 : uC T (tSkip 99 (tIni T)).2 := uC_skip (uC_0 T)
      have orh10 : (tSkip 99 (tIni T)).2.2.2.2.2.2 = T.2.2.2.2.2 := uch10.2
      refine eW_if_eq 55 rfl rfl (by unfold i32; omega) (fun c11 => ?_) (fun c11 => ?_)
      · have fzh1099 : (tSkip 99 (tIni T)).1 = false := by rcases hkq9 with e | e <;> first | exact e.1 | exact absurd e.2 (by omega)
        have nzh1099 := tSkip_no fzh1099
        have hmzh1099 := hmh10
        rw [nzh1099] at hmzh1099
        have hszh1099 := tSkip_sg (c := 99) (by decide) fzh1099
        refine eW_aload_n 93 rfl rfl rfl ?_
        refine eW_bipush 95 rfl rfl 115 rfl ?_
        have hkq12 := eB01_c (tSkip 115 (tIni T)).1
        refine eW_callVH 98 [.ref 63, vI 115] [] [vI (eB01 (tSkip 115 (tIni T)).1)] rfl rfl rfl rfl (Nat.ble_eq_true_of_le (by omega)) (show h10 63 = .inr (11, [.ref 64, .ref 65, .ref 66, .ref 67, vI (s 4), vI (s 5), vI (s 6), vI (s 7), vI (s 8), vI (s 9), .ref 68, vI (s 11), vI (s 12), .ref 69, vI (s 14), .ref 70, .ref 71, vI (s 17), vI (s 18), vI (s 19), vI ((tIni T).2.2.2.2.1), .ref 72, vI (s 22)]) from hmzh1099.1) rfl rfl rfl (m_skips (d := d + 0) hmzh1099 hN (show tmR (tIni T) (sUp s 20 ((tIni T).2.2.2.2.1)) (mUp A 8 (eUp (A 8) (4 * (s 22)).toNat (tHr T))) from (show tmR (tIni T) (sUp s 20 ((tIni T).2.2.2.2.1)) (mUp A 8 (eUp (A 8) (4 * (s 22)).toNat (tHr T))) from ⟨hU.1, hU.2.1, rfl, hU.2.2.2⟩)) (c := 115) (by decide)) rfl rfl ?_
        intro h13 fh13
        have hmh13 : mM h13 (sUp s 20 ((tSkip 115 (tIni T)).2.2.2.2.2.1)) (mUp A 8 (eUp (A 8) (4 * (s 22)).toNat (tHr T))) := fh13.1
        have frh13 : mFr h h13 := mFr_t frh10 fh13.2
        have hTh13 : tmR (tSkip 115 (tIni T)).2 (sUp s 20 ((tSkip 115 (tIni T)).2.2.2.2.2.1)) (mUp A 8 (eUp (A 8) (4 * (s 22)).toNat (tHr T))) := by have e8 := tmR_skip (c := 115) (show tmR (tIni T) (sUp s 20 ((tIni T).2.2.2.2.1)) (mUp A 8 (eUp (A 8) (4 * (s 22)).toNat (tHr T))) from (show tmR (tIni T) (sUp s 20 ((tIni T).2.2.2.2.1)) (mUp A 8 (eUp (A 8) (4 * (s 22)).toNat (tHr T))) from ⟨hU.1, hU.2.1, rfl, hU.2.2.2⟩)); exact e8
        have uch13 : uC T (tSkip 115 (tIni T)).2 := uC_skip (uC_0 T)
        have orh13 : (tSkip 115 (tIni T)).2.2.2.2.2.2 = T.2.2.2.2.2 := uch13.2
        refine eW_if_eq 101 rfl rfl (by unfold i32; omega) (fun c14 => ?_) (fun c14 => ?_)
        · refine eW_iconst 133 rfl rfl ?_
          refine eW_ret_i rfl rfl (Or.inr (Or.inl ⟨rfl, rfl⟩)) ?_
          have f9 : (tSkip 115 (tIni T)).1 = false := by rcases hkq12 with e | e <;> first | exact e.1 | exact absurd e.2 (by omega)
          have n9 := tSkip_no f9
          have hs9 := tSkip_sg (c := 115) (by decide) f9
          have hm9 := hmh13
          rw [n9] at hm9
          have e9 : tOrd T = (false, tInc (tIni T)) := by rw [tOrd_t ho30, tMid_f (by intro e; rcases e with e | e | e | e <;> first | exact hszh7112 e | exact hszh1099 e | exact hs9 e | exact hszh4110 e)]
          rw [e9]
          exact ⟨_, rfl, _, ⟨hm9, frh13⟩, fun j hj => eUp_ne (by omega), fun e => nomatch e⟩
        · refine eW_aload_n 102 rfl rfl rfl ?_
          refine eW_iload_n 103 rfl rfl rfl ?_
          refine eW_iconst 104 rfl rfl ?_
          refine eW_iadd 105 rfl rfl ?_
          refine eW_iconst 106 rfl rfl ?_
          have hkq15 := eB01_c (tNum 0 (tSkip 115 (tIni T)).2).1
          refine eW_callVH 109 [.ref 63, vI ((4 * (s 22)) + 1), vI 2] [] [vI (eB01 (tNum 0 (tSkip 115 (tIni T)).2).1)] rfl rfl rfl rfl (Nat.ble_eq_true_of_le (by omega)) (show h13 63 = .inr (11, [.ref 64, .ref 65, .ref 66, .ref 67, vI (s 4), vI (s 5), vI (s 6), vI (s 7), vI (s 8), vI (s 9), .ref 68, vI (s 11), vI (s 12), .ref 69, vI (s 14), .ref 70, .ref 71, vI (s 17), vI (s 18), vI (s 19), vI ((tSkip 115 (tIni T)).2.2.2.2.2.1), .ref 72, vI (s 22)]) from hmh13.1) rfl rfl rfl (m_fig2 (d := d + 0) hmh13 hN (show tmR (tSkip 115 (tIni T)).2 (sUp s 20 ((tSkip 115 (tIni T)).2.2.2.2.2.1)) (mUp A 8 (eUp (A 8) (4 * (s 22)).toNat (tHr T))) from hTh13) (w := 0) (q := (4 * (s 22)) + 1) (by decide) (show (tSkip 115 (tIni T)).2.2.2.2.2.2 < 30 by omega) (by omega)) rfl rfl ?_
          intro h16 fh16
          obtain ⟨Oq15, f9h16⟩ := fh16
          obtain ⟨f8h16, hoq15, hqq15⟩ := f9h16
          have hmh16 : mM h16 (sUp s 20 ((tNum 0 (tSkip 115 (tIni T)).2).2.2.2.2.2.1)) (mUp A 8 Oq15) := f8h16.1
          have frh16 : mFr h h16 := mFr_t frh13 f8h16.2
          have hTh16 : tmR (tNum 0 (tSkip 115 (tIni T)).2).2 (sUp s 20 ((tNum 0 (tSkip 115 (tIni T)).2).2.2.2.2.2.1)) (mUp A 8 Oq15) := by have e8 := tmR_num (w := 0) (show tmR (tSkip 115 (tIni T)).2 (sUp s 20 ((tSkip 115 (tIni T)).2.2.2.2.2.1)) (mUp A 8 (eUp (A 8) (4 * (s 22)).toNat (tHr T))) from hTh13) (by decide) (show (tSkip 115 (tIni T)).2.2.2.2.2.2 < 30 by omega); exact e8
          have uch16 : uC T (tNum 0 (tSkip 115 (tIni T)).2).2 := uC_num uch13
          have orh16 : (tNum 0 (tSkip 115 (tIni T)).2).2.2.2.2.2.2 = T.2.2.2.2.2 := uch16.2
          refine eW_if_eq 112 rfl rfl (by unfold i32; omega) (fun c17 => ?_) (fun c17 => ?_)
          · refine eW_iconst 133 rfl rfl ?_
            refine eW_ret_i rfl rfl (Or.inr (Or.inl ⟨rfl, rfl⟩)) ?_
            have g0 : (tSkip 115 (tIni T)).1 = true := by rcases hkq12 with e | e <;> first | exact e.1 | exact absurd e.2 (by omega)
            have hsg : tSg T = 115 := (tSkip_yes g0).2
            have hpl : T.2.2.2.2.1 < T.2.2.2.1 := (tSkip_yes g0).1
            have htr : tHr T = 115 := by omega
            have g1 : (tNum 0 (tSkip 115 (tIni T)).2).1 = false := by rcases hkq15 with e | e <;> first | exact e.1 | exact absurd e.2 (by omega)
            have e9 : tOrd T = (false, tInc (tNum 0 (tSkip 115 (tIni T)).2).2) := by rw [tOrd_t ho30, tMid_t (Or.inr (Or.inr (Or.inl hsg))), hsg, tThen_t g0, tNums_s, tThen_f g1, tThen_f g1, tTail_f (Or.inl g1), g1]
            rw [e9]
            refine ⟨_, rfl, _, ⟨hmh16, frh16⟩, fun j hj => (Eq.trans (hoq15 _ (by omega)) (eUp_ne (by omega))), ?_⟩
            exact fun e => nomatch e
          · refine eW_aload_n 113 rfl rfl rfl ?_
            refine eW_bipush 115 rfl rfl 45 rfl ?_
            have hkq18 := eB01_c (tSkip 45 (tNum 0 (tSkip 115 (tIni T)).2).2).1
            refine eW_callVH 118 [.ref 63, vI 45] [] [vI (eB01 (tSkip 45 (tNum 0 (tSkip 115 (tIni T)).2).2).1)] rfl rfl rfl rfl (Nat.ble_eq_true_of_le (by omega)) (show h16 63 = .inr (11, [.ref 64, .ref 65, .ref 66, .ref 67, vI (s 4), vI (s 5), vI (s 6), vI (s 7), vI (s 8), vI (s 9), .ref 68, vI (s 11), vI (s 12), .ref 69, vI (s 14), .ref 70, .ref 71, vI (s 17), vI (s 18), vI (s 19), vI ((tNum 0 (tSkip 115 (tIni T)).2).2.2.2.2.2.1), .ref 72, vI (s 22)]) from hmh16.1) rfl rfl rfl (m_skips (d := d + 0) hmh16 hN (show tmR (tNum 0 (tSkip 115 (tIni T)).2).2 (sUp s 20 ((tNum 0 (tSkip 115 (tIni T)).2).2.2.2.2.2.1)) (mUp A 8 Oq15) from hTh16) (c := 45) (by decide)) rfl rfl ?_
            intro h19 fh19
            have hmh19 : mM h19 (sUp s 20 ((tSkip 45 (tNum 0 (tSkip 115 (tIni T)).2).2).2.2.2.2.2.1)) (mUp A 8 Oq15) := fh19.1
            have frh19 : mFr h h19 := mFr_t frh16 fh19.2
            have hTh19 : tmR (tSkip 45 (tNum 0 (tSkip 115 (tIni T)).2).2).2 (sUp s 20 ((tSkip 45 (tNum 0 (tSkip 115 (tIni T)).2).2).2.2.2.2.2.1)) (mUp A 8 Oq15) := by have e8 := tmR_skip (c := 45) (show tmR (tNum 0 (tSkip 115 (tIni T)).2).2 (sUp s 20 ((tNum 0 (tSkip 115 (tIni T)).2).2.2.2.2.2.1)) (mUp A 8 Oq15) from hTh16); exact e8
            have uch19 : uC T (tSkip 45 (tNum 0 (tSkip 115 (tIni T)).2).2).2 := uC_skip uch16
            have orh19 : (tSkip 45 (tNum 0 (tSkip 115 (tIni T)).2).2).2.2.2.2.2.2 = T.2.2.2.2.2 := uch19.2
            refine eW_if_eq 121 rfl rfl (by unfold i32; omega) (fun c20 => ?_) (fun c20 => ?_)
            · refine eW_iconst 133 rfl rfl ?_
              refine eW_ret_i rfl rfl (Or.inr (Or.inl ⟨rfl, rfl⟩)) ?_
              have g0 : (tSkip 115 (tIni T)).1 = true := by rcases hkq12 with e | e <;> first | exact e.1 | exact absurd e.2 (by omega)
              have hsg : tSg T = 115 := (tSkip_yes g0).2
              have hpl : T.2.2.2.2.1 < T.2.2.2.1 := (tSkip_yes g0).1
              have htr : tHr T = 115 := by omega
              have g1 : (tNum 0 (tSkip 115 (tIni T)).2).1 = true := by rcases hkq15 with e | e <;> first | exact e.1 | exact absurd e.2 (by omega)
              have g2 : (tSkip 45 (tNum 0 (tSkip 115 (tIni T)).2).2).1 = false := by rcases hkq18 with e | e <;> first | exact e.1 | exact absurd e.2 (by omega)
              have e9 : tOrd T = (false, tInc (tSkip 45 (tNum 0 (tSkip 115 (tIni T)).2).2).2) := by rw [tOrd_t ho30, tMid_t (Or.inr (Or.inr (Or.inl hsg))), hsg, tThen_t g0, tNums_s, tThen_t g1, tThen_f g2, tTail_f (Or.inl g2), g2]
              rw [e9]
              refine ⟨_, rfl, _, ⟨hmh19, frh19⟩, fun j hj => (Eq.trans (hoq15 _ (by omega)) (eUp_ne (by omega))), ?_⟩
              exact fun e => nomatch e
            · refine eW_aload_n 122 rfl rfl rfl ?_
              refine eW_iload_n 123 rfl rfl rfl ?_
              refine eW_iconst 124 rfl rfl ?_
              refine eW_iadd 125 rfl rfl ?_
              refine eW_iconst 126 rfl rfl ?_
              have hkq21 := eB01_c (tDig 1 (tSkip 45 (tNum 0 (tSkip 115 (tIni T)).2).2).2).1
              refine eW_callVH 129 [.ref 63, vI ((4 * (s 22)) + 2), vI 1] [] [vI (eB01 (tDig 1 (tSkip 45 (tNum 0 (tSkip 115 (tIni T)).2).2).2).1)] rfl rfl rfl rfl (Nat.ble_eq_true_of_le (by omega)) (show h19 63 = .inr (11, [.ref 64, .ref 65, .ref 66, .ref 67, vI (s 4), vI (s 5), vI (s 6), vI (s 7), vI (s 8), vI (s 9), .ref 68, vI (s 11), vI (s 12), .ref 69, vI (s 14), .ref 70, .ref 71, vI (s 17), vI (s 18), vI (s 19), vI ((tSkip 45 (tNum 0 (tSkip 115 (tIni T)).2).2).2.2.2.2.2.1), .ref 72, vI (s 22)]) from hmh19.1) rfl rfl rfl (m_fig1 (d := d + 0) hmh19 hN (show tmR (tSkip 45 (tNum 0 (tSkip 115 (tIni T)).2).2).2 (sUp s 20 ((tSkip 45 (tNum 0 (tSkip 115 (tIni T)).2).2).2.2.2.2.2.1)) (mUp A 8 Oq15) from hTh19) (w := 1) (q := (4 * (s 22)) + 2) (by decide) (show (tSkip 45 (tNum 0 (tSkip 115 (tIni T)).2).2).2.2.2.2.2.2 < 30 by omega) (by omega)) rfl rfl ?_
              intro h22 fh22
              obtain ⟨Oq21, f9h22⟩ := fh22
              obtain ⟨f8h22, hoq21, hqq21⟩ := f9h22
              have hmh22 : mM h22 (sUp s 20 ((tDig 1 (tSkip 45 (tNum 0 (tSkip 115 (tIni T)).2).2).2).2.2.2.2.2.1)) (mUp A 8 Oq21) := f8h22.1
              have frh22 : mFr h h22 := mFr_t frh19 f8h22.2
              have hTh22 : tmR (tDig 1 (tSkip 45 (tNum 0 (tSkip 115 (tIni T)).2).2).2).2 (sUp s 20 ((tDig 1 (tSkip 45 (tNum 0 (tSkip 115 (tIni T)).2).2).2).2.2.2.2.2.1)) (mUp A 8 Oq21) := by have e8 := tmR_dig (w := 1) (show tmR (tSkip 45 (tNum 0 (tSkip 115 (tIni T)).2).2).2 (sUp s 20 ((tSkip 45 (tNum 0 (tSkip 115 (tIni T)).2).2).2.2.2.2.2.1)) (mUp A 8 Oq15) from hTh19) (by decide) (show (tSkip 45 (tNum 0 (tSkip 115 (tIni T)).2).2).2.2.2.2.2.2 < 30 by omega); exact e8
              have uch22 : uC T (tDig 1 (tSkip 45 (tNum 0 (tSkip 115 (tIni T)).2).2).2).2 := uC_dig uch19
              have orh22 : (tDig 1 (tSkip 45 (tNum 0 (tSkip 115 (tIni T)).2).2).2).2.2.2.2.2.2 = T.2.2.2.2.2 := uch22.2
              refine eW_if_ne 132 rfl rfl (by unfold i32; omega) (fun c23 => ?_) (fun c23 => ?_)
              · refine eW_aload_n 135 rfl rfl rfl ?_
                refine eW_getfield 138 rfl rfl (Nat.ble_eq_true_of_le (by omega)) rfl (show h22 63 = .inr (11, [.ref 64, .ref 65, .ref 66, .ref 67, vI (s 4), vI (s 5), vI (s 6), vI (s 7), vI (s 8), vI (s 9), .ref 68, vI (s 11), vI (s 12), .ref 69, vI (s 14), .ref 70, .ref 71, vI (s 17), vI (s 18), vI (s 19), vI ((tDig 1 (tSkip 45 (tNum 0 (tSkip 115 (tIni T)).2).2).2).2.2.2.2.2.1), .ref 72, vI (s 22)]) from hmh22.1) rfl ⟨rfl, fun _ h9 => nomatch h9⟩ ?_
                refine eW_iload_n 139 rfl rfl rfl ?_
                refine eW_iconst 140 rfl rfl ?_
                refine eW_iadd 141 rfl rfl ?_
                refine eW_iconst 142 rfl rfl ?_
                refine eW_iastore 143 rfl rfl (Nat.ble_eq_true_of_le (by omega)) (show h22 72 = .inl (0, 124, .inl (eIA Oq21)) from hmh22.2.2.2.2.2.2.2.2.2) (by omega) (by omega) (by unfold i32; omega) rfl ?_
                intro h24 eh24 oh24
                have hmh24 : mM h24 (sUp s 20 ((tDig 1 (tSkip 45 (tNum 0 (tSkip 115 (tIni T)).2).2).2).2.2.2.2.2.1)) (mUp A 8 (eUp Oq21 ((4 * (s 22)) + 3).toNat (-1))) := mM_8 hmh22 eh24 oh24 ⟨rfl, rfl, rfl, rfl, rfl, rfl, rfl, rfl⟩
                have frh24 : mFr h h24 := mFr_a frh22 (by decide) oh24
                refine eW_aload_n 144 rfl rfl rfl ?_
                refine eW_bipush 146 rfl rfl 47 rfl ?_
                have hkq25 := eB01_c (tSkip 47 (tDig 1 (tSkip 45 (tNum 0 (tSkip 115 (tIni T)).2).2).2).2).1
                refine eW_callVH 149 [.ref 63, vI 47] [] [vI (eB01 (tSkip 47 (tDig 1 (tSkip 45 (tNum 0 (tSkip 115 (tIni T)).2).2).2).2).1)] rfl rfl rfl rfl (Nat.ble_eq_true_of_le (by omega)) (show h24 63 = .inr (11, [.ref 64, .ref 65, .ref 66, .ref 67, vI (s 4), vI (s 5), vI (s 6), vI (s 7), vI (s 8), vI (s 9), .ref 68, vI (s 11), vI (s 12), .ref 69, vI (s 14), .ref 70, .ref 71, vI (s 17), vI (s 18), vI (s 19), vI ((tDig 1 (tSkip 45 (tNum 0 (tSkip 115 (tIni T)).2).2).2).2.2.2.2.2.1), .ref 72, vI (s 22)]) from hmh24.1) rfl rfl rfl (m_skips (d := d + 0) hmh24 hN (show tmR (tDig 1 (tSkip 45 (tNum 0 (tSkip 115 (tIni T)).2).2).2).2 (sUp s 20 ((tDig 1 (tSkip 45 (tNum 0 (tSkip 115 (tIni T)).2).2).2).2.2.2.2.2.1)) (mUp A 8 (eUp Oq21 ((4 * (s 22)) + 3).toNat (-1))) from hTh22) (c := 47) (by decide)) rfl rfl ?_
                intro h26 fh26
                have hmh26 : mM h26 (sUp s 20 ((tSkip 47 (tDig 1 (tSkip 45 (tNum 0 (tSkip 115 (tIni T)).2).2).2).2).2.2.2.2.2.1)) (mUp A 8 (eUp Oq21 ((4 * (s 22)) + 3).toNat (-1))) := fh26.1
                have frh26 : mFr h h26 := mFr_t frh24 fh26.2
                have hTh26 : tmR (tSkip 47 (tDig 1 (tSkip 45 (tNum 0 (tSkip 115 (tIni T)).2).2).2).2).2 (sUp s 20 ((tSkip 47 (tDig 1 (tSkip 45 (tNum 0 (tSkip 115 (tIni T)).2).2).2).2).2.2.2.2.2.1)) (mUp A 8 (eUp Oq21 ((4 * (s 22)) + 3).toNat (-1))) := by have e8 := tmR_skip (c := 47) (show tmR (tDig 1 (tSkip 45 (tNum 0 (tSkip 115 (tIni T)).2).2).2).2 (sUp s 20 ((tDig 1 (tSkip 45 (tNum 0 (tSkip 115 (tIni T)).2).2).2).2.2.2.2.2.1)) (mUp A 8 (eUp Oq21 ((4 * (s 22)) + 3).toNat (-1))) from hTh22); exact e8
                have uch26 : uC T (tSkip 47 (tDig 1 (tSkip 45 (tNum 0 (tSkip 115 (tIni T)).2).2).2).2).2 := uC_skip uch22
                have orh26 : (tSkip 47 (tDig 1 (tSkip 45 (tNum 0 (tSkip 115 (tIni T)).2).2).2).2).2.2.2.2.2.2 = T.2.2.2.2.2 := uch26.2
                refine eW_if_eq 152 rfl rfl (by unfold i32; omega) (fun c27 => ?_) (fun c27 => ?_)
                · refine eW_iconst 164 rfl rfl ?_
                  refine eW_goto rfl ?_
                  refine eW_ret_i rfl rfl (Or.inr (Or.inl ⟨rfl, rfl⟩)) ?_
                  have g0 : (tSkip 115 (tIni T)).1 = true := by rcases hkq12 with e | e <;> first | exact e.1 | exact absurd e.2 (by omega)
                  have hsg : tSg T = 115 := (tSkip_yes g0).2
                  have hpl : T.2.2.2.2.1 < T.2.2.2.1 := (tSkip_yes g0).1
                  have htr : tHr T = 115 := by omega
                  have g1 : (tNum 0 (tSkip 115 (tIni T)).2).1 = true := by rcases hkq15 with e | e <;> first | exact e.1 | exact absurd e.2 (by omega)
                  have g2 : (tSkip 45 (tNum 0 (tSkip 115 (tIni T)).2).2).1 = true := by rcases hkq18 with e | e <;> first | exact e.1 | exact absurd e.2 (by omega)
                  have g3 : (tDig 1 (tSkip 45 (tNum 0 (tSkip 115 (tIni T)).2).2).2).1 = true := by rcases hkq21 with e | e <;> first | exact e.1 | exact absurd e.2 (by omega)
                  have g4 : (tSkip 47 (tDig 1 (tSkip 45 (tNum 0 (tSkip 115 (tIni T)).2).2).2).2).1 = false := by rcases hkq25 with e | e <;> first | exact e.1 | exact absurd e.2 (by omega)
                  have n4 := tSkip_no g4
                  have hm9 := hmh26
                  rw [n4] at hm9
                  have e9 : tOrd T = (true, tInc (tDig 1 (tSkip 45 (tNum 0 (tSkip 115 (tIni T)).2).2).2).2) := by rw [tOrd_t ho30, tMid_t (Or.inr (Or.inr (Or.inl hsg))), hsg, tThen_t g0, tNums_s, tThen_t g1, tThen_t g2, tTail_f (Or.inr (tSkip_sg (by decide) g4)), g3]
                  rw [e9]
                  refine ⟨_, rfl, _, ⟨hm9, frh26⟩, fun j hj => (Eq.trans (eUp_ne (by omega)) (Eq.trans (hoq21 _ (by omega)) (Eq.trans (hoq15 _ (by omega)) (eUp_ne (by omega))))), ?_⟩
                  intro e8
                  have hkd : tKind (tDig 1 (tSkip 45 (tNum 0 (tSkip 115 (tIni T)).2).2).2).2 T.2.2.2.2.2 = tSg T := uC_kind hT.1 ho30 uch22
                  have hkd2 : tKind (tInc (tDig 1 (tSkip 45 (tNum 0 (tSkip 115 (tIni T)).2).2).2).2) T.2.2.2.2.2 = 115 := hkd.trans hsg
                  have hk0 : (eUp Oq21 ((4 * (s 22)) + 3).toNat (-1)) (4 * T.2.2.2.2.2).toNat = 115 := (show _ = tHr T from (Eq.trans (show (eUp Oq21 ((4 * (s 22)) + 3).toNat (-1)) (4 * T.2.2.2.2.2).toNat = (eUp Oq21 ((4 * (s 22)) + 3).toNat (-1)) (4 * s 22).toNat by rw [hs22]) (Eq.trans (eUp_ne (by omega)) (Eq.trans (hoq21 _ (by omega)) (Eq.trans (hoq15 _ (by omega)) (eUp_eq rfl)))))).trans htr
                  have q0 : gTO (tSkip 115 (tIni T)).2 := (tSkip_ok (c := 115) hU.1).1
                  have o0 : (tSkip 115 (tIni T)).2.2.2.2.2.2 = T.2.2.2.2.2 := (tSkip_ok (c := 115) hU.1).2
                  have q1 := tNum_ok (w := 0) q0 (by decide) (by omega)
                  have q2 := tSkip_ok (c := 45) q1.1
                  have o2 : (tSkip 45 (tNum 0 (tSkip 115 (tIni T)).2).2).2.2.2.2.2.2 = T.2.2.2.2.2 := q2.2.trans (q1.2.trans o0)
                  have q3 := tDig_ok (w := 1) q2.1 (by decide) (by omega)
                  have o3 : (tDig 1 (tSkip 45 (tNum 0 (tSkip 115 (tIni T)).2).2).2).2.2.2.2.2.2 = T.2.2.2.2.2 := q3.2.1.trans o2
                  have w1 := tNo_dig (w := 1) q2.1 (by decide) (by omega) (tDig_yes g3)
                  rw [o2] at w1
                  have w2 := tNo_dne (w := 0) (w2 := 1) q2.1 (by omega) (by decide)
                  rw [o2, tNo_skip] at w2
                  have w4 : tNo (tDig 1 (tSkip 45 (tNum 0 (tSkip 115 (tIni T)).2).2).2).2 T.2.2.2.2.2 2 = -1 := by
                    have y1 := tNo_dne (w := 2) (w2 := 1) q2.1 (by omega) (by decide)
                    rw [o2, tNo_skip] at y1
                    have y2 := tNo_nne (w := 2) (w2 := 0) q0 (by omega) (by decide)
                    rw [o0, tNo_skip] at y2
                    rw [y1, y2, tNo_t ⟨hT.1.2.2.1.1, ho30⟩ (by decide)]
                    exact eUp_eq rfl
                  have ha : (eUp Oq21 ((4 * (s 22)) + 3).toNat (-1)) (4 * T.2.2.2.2.2 + 1).toNat = tNo (tInc (tDig 1 (tSkip 45 (tNum 0 (tSkip 115 (tIni T)).2).2).2).2) T.2.2.2.2.2 0 := ((Eq.trans (show (eUp Oq21 ((4 * (s 22)) + 3).toNat (-1)) (4 * T.2.2.2.2.2 + 1).toNat = (eUp Oq21 ((4 * (s 22)) + 3).toNat (-1)) (4 * s 22 + 1).toNat by rw [hs22]) (Eq.trans (eUp_ne (by omega)) (Eq.trans (hoq21 _ (by omega)) (hqq15 g1))))).trans ((show tNo (tNum 0 (tSkip 115 (tIni T)).2).2 (tSkip 115 (tIni T)).2.2.2.2.2.2 0 = tNo (tNum 0 (tSkip 115 (tIni T)).2).2 T.2.2.2.2.2 0 by rw [o0]).trans w2.symm)
                  have hb : (eUp Oq21 ((4 * (s 22)) + 3).toNat (-1)) (4 * T.2.2.2.2.2 + 2).toNat = tNo (tInc (tDig 1 (tSkip 45 (tNum 0 (tSkip 115 (tIni T)).2).2).2).2) T.2.2.2.2.2 1 := ((Eq.trans (show (eUp Oq21 ((4 * (s 22)) + 3).toNat (-1)) (4 * T.2.2.2.2.2 + 2).toNat = (eUp Oq21 ((4 * (s 22)) + 3).toNat (-1)) (4 * s 22 + 2).toNat by rw [hs22]) (Eq.trans (eUp_ne (by omega)) (hqq21 g3)))).trans w1.symm
                  have hc : (eUp Oq21 ((4 * (s 22)) + 3).toNat (-1)) (4 * T.2.2.2.2.2 + 3).toNat = tNo (tInc (tDig 1 (tSkip 45 (tNum 0 (tSkip 115 (tIni T)).2).2).2).2) T.2.2.2.2.2 2 := ((Eq.trans (show (eUp Oq21 ((4 * (s 22)) + 3).toNat (-1)) (4 * T.2.2.2.2.2 + 3).toNat = (eUp Oq21 ((4 * (s 22)) + 3).toNat (-1)) (4 * s 22 + 3).toNat by rw [hs22]) (eUp_eq rfl))).trans w4.symm
                  have hpz : 0 ≤ tNo (tInc (tDig 1 (tSkip 45 (tNum 0 (tSkip 115 (tIni T)).2).2).2).2) T.2.2.2.2.2 1 := (show 0 ≤ tNo (tDig 1 (tSkip 45 (tNum 0 (tSkip 115 (tIni T)).2).2).2).2 T.2.2.2.2.2 1 by rw [w1]; have := tDig_yes g3; omega)
                  exact ⟨hk0.trans hkd2.symm, by rw [hkd2]; rfl, fun e => absurd (hkd2.symm.trans e) (by decide), fun e => absurd (hkd2.symm.trans e) (by decide), fun _ => ⟨ha, hb, hc, hpz⟩⟩
                · refine eW_aload_n 153 rfl rfl rfl ?_
                  refine eW_iload_n 154 rfl rfl rfl ?_
                  refine eW_iconst 155 rfl rfl ?_
                  refine eW_iadd 156 rfl rfl ?_
                  refine eW_iconst 157 rfl rfl ?_
                  have hkq28 := eB01_c (tNum 2 (tSkip 47 (tDig 1 (tSkip 45 (tNum 0 (tSkip 115 (tIni T)).2).2).2).2).2).1
                  refine eW_callVH 160 [.ref 63, vI ((4 * (s 22)) + 3), vI 2] [] [vI (eB01 (tNum 2 (tSkip 47 (tDig 1 (tSkip 45 (tNum 0 (tSkip 115 (tIni T)).2).2).2).2).2).1)] rfl rfl rfl rfl (Nat.ble_eq_true_of_le (by omega)) (show h26 63 = .inr (11, [.ref 64, .ref 65, .ref 66, .ref 67, vI (s 4), vI (s 5), vI (s 6), vI (s 7), vI (s 8), vI (s 9), .ref 68, vI (s 11), vI (s 12), .ref 69, vI (s 14), .ref 70, .ref 71, vI (s 17), vI (s 18), vI (s 19), vI ((tSkip 47 (tDig 1 (tSkip 45 (tNum 0 (tSkip 115 (tIni T)).2).2).2).2).2.2.2.2.2.1), .ref 72, vI (s 22)]) from hmh26.1) rfl rfl rfl (m_fig2 (d := d + 0) hmh26 hN (show tmR (tSkip 47 (tDig 1 (tSkip 45 (tNum 0 (tSkip 115 (tIni T)).2).2).2).2).2 (sUp s 20 ((tSkip 47 (tDig 1 (tSkip 45 (tNum 0 (tSkip 115 (tIni T)).2).2).2).2).2.2.2.2.2.1)) (mUp A 8 (eUp Oq21 ((4 * (s 22)) + 3).toNat (-1))) from hTh26) (w := 2) (q := (4 * (s 22)) + 3) (by decide) (show (tSkip 47 (tDig 1 (tSkip 45 (tNum 0 (tSkip 115 (tIni T)).2).2).2).2).2.2.2.2.2.2 < 30 by omega) (by omega)) rfl rfl ?_
                  intro h29 fh29
                  obtain ⟨Oq28, f9h29⟩ := fh29
                  obtain ⟨f8h29, hoq28, hqq28⟩ := f9h29
                  have hmh29 : mM h29 (sUp s 20 ((tNum 2 (tSkip 47 (tDig 1 (tSkip 45 (tNum 0 (tSkip 115 (tIni T)).2).2).2).2).2).2.2.2.2.2.1)) (mUp A 8 Oq28) := f8h29.1
                  have frh29 : mFr h h29 := mFr_t frh26 f8h29.2
                  have hTh29 : tmR (tNum 2 (tSkip 47 (tDig 1 (tSkip 45 (tNum 0 (tSkip 115 (tIni T)).2).2).2).2).2).2 (sUp s 20 ((tNum 2 (tSkip 47 (tDig 1 (tSkip 45 (tNum 0 (tSkip 115 (tIni T)).2).2).2).2).2).2.2.2.2.2.1)) (mUp A 8 Oq28) := by have e8 := tmR_num (w := 2) (show tmR (tSkip 47 (tDig 1 (tSkip 45 (tNum 0 (tSkip 115 (tIni T)).2).2).2).2).2 (sUp s 20 ((tSkip 47 (tDig 1 (tSkip 45 (tNum 0 (tSkip 115 (tIni T)).2).2).2).2).2.2.2.2.2.1)) (mUp A 8 (eUp Oq21 ((4 * (s 22)) + 3).toNat (-1))) from hTh26) (by decide) (show (tSkip 47 (tDig 1 (tSkip 45 (tNum 0 (tSkip 115 (tIni T)).2).2).2).2).2.2.2.2.2.2 < 30 by omega); exact e8
                  have uch29 : uC T (tNum 2 (tSkip 47 (tDig 1 (tSkip 45 (tNum 0 (tSkip 115 (tIni T)).2).2).2).2).2).2 := uC_num uch26
                  have orh29 : (tNum 2 (tSkip 47 (tDig 1 (tSkip 45 (tNum 0 (tSkip 115 (tIni T)).2).2).2).2).2).2.2.2.2.2.2 = T.2.2.2.2.2 := uch29.2
                  refine eW_if_eq 163 rfl rfl (by unfold i32; omega) (fun c30 => ?_) (fun c30 => ?_)
                  · refine eW_iconst 168 rfl rfl ?_
                    refine eW_ret_i rfl rfl (Or.inr (Or.inl ⟨rfl, rfl⟩)) ?_
                    have g0 : (tSkip 115 (tIni T)).1 = true := by rcases hkq12 with e | e <;> first | exact e.1 | exact absurd e.2 (by omega)
                    have hsg : tSg T = 115 := (tSkip_yes g0).2
                    have hpl : T.2.2.2.2.1 < T.2.2.2.1 := (tSkip_yes g0).1
                    have htr : tHr T = 115 := by omega
                    have g1 : (tNum 0 (tSkip 115 (tIni T)).2).1 = true := by rcases hkq15 with e | e <;> first | exact e.1 | exact absurd e.2 (by omega)
                    have g2 : (tSkip 45 (tNum 0 (tSkip 115 (tIni T)).2).2).1 = true := by rcases hkq18 with e | e <;> first | exact e.1 | exact absurd e.2 (by omega)
                    have g3 : (tDig 1 (tSkip 45 (tNum 0 (tSkip 115 (tIni T)).2).2).2).1 = true := by rcases hkq21 with e | e <;> first | exact e.1 | exact absurd e.2 (by omega)
                    have g4 : (tSkip 47 (tDig 1 (tSkip 45 (tNum 0 (tSkip 115 (tIni T)).2).2).2).2).1 = true := by rcases hkq25 with e | e <;> first | exact e.1 | exact absurd e.2 (by omega)
                    have g5 : (tNum 2 (tSkip 47 (tDig 1 (tSkip 45 (tNum 0 (tSkip 115 (tIni T)).2).2).2).2).2).1 = false := by rcases hkq28 with e | e <;> first | exact e.1 | exact absurd e.2 (by omega)
                    have e9 : tOrd T = (false, tInc (tNum 2 (tSkip 47 (tDig 1 (tSkip 45 (tNum 0 (tSkip 115 (tIni T)).2).2).2).2).2).2) := by rw [tOrd_t ho30, tMid_t (Or.inr (Or.inr (Or.inl hsg))), hsg, tThen_t g0, tNums_s, tThen_t g1, tThen_t g2, tTail_t g3 (tSkip_yes g4).2, tThen_t g4, g5]
                    rw [e9]
                    refine ⟨_, rfl, _, ⟨hmh29, frh29⟩, fun j hj => (Eq.trans (hoq28 _ (by omega)) (Eq.trans (eUp_ne (by omega)) (Eq.trans (hoq21 _ (by omega)) (Eq.trans (hoq15 _ (by omega)) (eUp_ne (by omega)))))), ?_⟩
                    exact fun e => nomatch e
                  · refine eW_iconst 164 rfl rfl ?_
                    refine eW_goto rfl ?_
                    refine eW_ret_i rfl rfl (Or.inr (Or.inl ⟨rfl, rfl⟩)) ?_
                    have g0 : (tSkip 115 (tIni T)).1 = true := by rcases hkq12 with e | e <;> first | exact e.1 | exact absurd e.2 (by omega)
                    have hsg : tSg T = 115 := (tSkip_yes g0).2
                    have hpl : T.2.2.2.2.1 < T.2.2.2.1 := (tSkip_yes g0).1
                    have htr : tHr T = 115 := by omega
                    have g1 : (tNum 0 (tSkip 115 (tIni T)).2).1 = true := by rcases hkq15 with e | e <;> first | exact e.1 | exact absurd e.2 (by omega)
                    have g2 : (tSkip 45 (tNum 0 (tSkip 115 (tIni T)).2).2).1 = true := by rcases hkq18 with e | e <;> first | exact e.1 | exact absurd e.2 (by omega)
                    have g3 : (tDig 1 (tSkip 45 (tNum 0 (tSkip 115 (tIni T)).2).2).2).1 = true := by rcases hkq21 with e | e <;> first | exact e.1 | exact absurd e.2 (by omega)
                    have g4 : (tSkip 47 (tDig 1 (tSkip 45 (tNum 0 (tSkip 115 (tIni T)).2).2).2).2).1 = true := by rcases hkq25 with e | e <;> first | exact e.1 | exact absurd e.2 (by omega)
                    have g5 : (tNum 2 (tSkip 47 (tDig 1 (tSkip 45 (tNum 0 (tSkip 115 (tIni T)).2).2).2).2).2).1 = true := by rcases hkq28 with e | e <;> first | exact e.1 | exact absurd e.2 (by omega)
                    have e9 : tOrd T = (true, tInc (tNum 2 (tSkip 47 (tDig 1 (tSkip 45 (tNum 0 (tSkip 115 (tIni T)).2).2).2).2).2).2) := by rw [tOrd_t ho30, tMid_t (Or.inr (Or.inr (Or.inl hsg))), hsg, tThen_t g0, tNums_s, tThen_t g1, tThen_t g2, tTail_t g3 (tSkip_yes g4).2, tThen_t g4, g5]
                    rw [e9]
                    refine ⟨_, rfl, _, ⟨hmh29, frh29⟩, fun j hj => (Eq.trans (hoq28 _ (by omega)) (Eq.trans (eUp_ne (by omega)) (Eq.trans (hoq21 _ (by omega)) (Eq.trans (hoq15 _ (by omega)) (eUp_ne (by omega)))))), ?_⟩
                    intro e8
                    have hkd : tKind (tNum 2 (tSkip 47 (tDig 1 (tSkip 45 (tNum 0 (tSkip 115 (tIni T)).2).2).2).2).2).2 T.2.2.2.2.2 = tSg T := uC_kind hT.1 ho30 uch29
                    have hkd2 : tKind (tInc (tNum 2 (tSkip 47 (tDig 1 (tSkip 45 (tNum 0 (tSkip 115 (tIni T)).2).2).2).2).2).2) T.2.2.2.2.2 = 115 := hkd.trans hsg
                    have hk0 : (Oq28) (4 * T.2.2.2.2.2).toNat = 115 := (show _ = tHr T from (Eq.trans (show (Oq28) (4 * T.2.2.2.2.2).toNat = (Oq28) (4 * s 22).toNat by rw [hs22]) (Eq.trans (hoq28 _ (by omega)) (Eq.trans (eUp_ne (by omega)) (Eq.trans (hoq21 _ (by omega)) (Eq.trans (hoq15 _ (by omega)) (eUp_eq rfl))))))).trans htr
                    have q0 : gTO (tSkip 115 (tIni T)).2 := (tSkip_ok (c := 115) hU.1).1
                    have o0 : (tSkip 115 (tIni T)).2.2.2.2.2.2 = T.2.2.2.2.2 := (tSkip_ok (c := 115) hU.1).2
                    have q1 := tNum_ok (w := 0) q0 (by decide) (by omega)
                    have q2 := tSkip_ok (c := 45) q1.1
                    have o2 : (tSkip 45 (tNum 0 (tSkip 115 (tIni T)).2).2).2.2.2.2.2.2 = T.2.2.2.2.2 := q2.2.trans (q1.2.trans o0)
                    have q3 := tDig_ok (w := 1) q2.1 (by decide) (by omega)
                    have o3 : (tDig 1 (tSkip 45 (tNum 0 (tSkip 115 (tIni T)).2).2).2).2.2.2.2.2.2 = T.2.2.2.2.2 := q3.2.1.trans o2
                    have w1 := tNo_dig (w := 1) q2.1 (by decide) (by omega) (tDig_yes g3)
                    rw [o2] at w1
                    have w2 := tNo_dne (w := 0) (w2 := 1) q2.1 (by omega) (by decide)
                    rw [o2, tNo_skip] at w2
                    have q4 := tSkip_ok (c := 47) q3.1
                    have o4 : (tSkip 47 (tDig 1 (tSkip 45 (tNum 0 (tSkip 115 (tIni T)).2).2).2).2).2.2.2.2.2.2 = T.2.2.2.2.2 := q4.2.trans o3
                    have y0 := tNo_nne (w := 0) (w2 := 2) q4.1 (by omega) (by decide)
                    have y1 := tNo_nne (w := 1) (w2 := 2) q4.1 (by omega) (by decide)
                    rw [o4, tNo_skip] at y0 y1
                    have ha : (Oq28) (4 * T.2.2.2.2.2 + 1).toNat = tNo (tInc (tNum 2 (tSkip 47 (tDig 1 (tSkip 45 (tNum 0 (tSkip 115 (tIni T)).2).2).2).2).2).2) T.2.2.2.2.2 0 := ((Eq.trans (show (Oq28) (4 * T.2.2.2.2.2 + 1).toNat = (Oq28) (4 * s 22 + 1).toNat by rw [hs22]) (Eq.trans (hoq28 _ (by omega)) (Eq.trans (eUp_ne (by omega)) (Eq.trans (hoq21 _ (by omega)) (hqq15 g1)))))).trans ((show tNo (tNum 0 (tSkip 115 (tIni T)).2).2 (tSkip 115 (tIni T)).2.2.2.2.2.2 0 = tNo (tNum 0 (tSkip 115 (tIni T)).2).2 T.2.2.2.2.2 0 by rw [o0]).trans (w2.symm.trans y0.symm))
                    have hb : (Oq28) (4 * T.2.2.2.2.2 + 2).toNat = tNo (tInc (tNum 2 (tSkip 47 (tDig 1 (tSkip 45 (tNum 0 (tSkip 115 (tIni T)).2).2).2).2).2).2) T.2.2.2.2.2 1 := ((Eq.trans (show (Oq28) (4 * T.2.2.2.2.2 + 2).toNat = (Oq28) (4 * s 22 + 2).toNat by rw [hs22]) (Eq.trans (hoq28 _ (by omega)) (Eq.trans (eUp_ne (by omega)) (hqq21 g3))))).trans (w1.symm.trans y1.symm)
                    have hc : (Oq28) (4 * T.2.2.2.2.2 + 3).toNat = tNo (tInc (tNum 2 (tSkip 47 (tDig 1 (tSkip 45 (tNum 0 (tSkip 115 (tIni T)).2).2).2).2).2).2) T.2.2.2.2.2 2 := ((Eq.trans (show (Oq28) (4 * T.2.2.2.2.2 + 3).toNat = (Oq28) (4 * s 22 + 3).toNat by rw [hs22]) (hqq28 g5))).trans (show tNo (tNum 2 (tSkip 47 (tDig 1 (tSkip 45 (tNum 0 (tSkip 115 (tIni T)).2).2).2).2).2).2 (tSkip 47 (tDig 1 (tSkip 45 (tNum 0 (tSkip 115 (tIni T)).2).2).2).2).2.2.2.2.2.2 2 = tNo (tNum 2 (tSkip 47 (tDig 1 (tSkip 45 (tNum 0 (tSkip 115 (tIni T)).2).2).2).2).2).2 T.2.2.2.2.2 2 by rw [o4])
                    have hpz : 0 ≤ tNo (tInc (tNum 2 (tSkip 47 (tDig 1 (tSkip 45 (tNum 0 (tSkip 115 (tIni T)).2).2).2).2).2).2) T.2.2.2.2.2 1 := (show 0 ≤ tNo (tNum 2 (tSkip 47 (tDig 1 (tSkip 45 (tNum 0 (tSkip 115 (tIni T)).2).2).2).2).2).2 T.2.2.2.2.2 1 by rw [y1, w1]; have := tDig_yes g3; omega)
                    exact ⟨hk0.trans hkd2.symm, by rw [hkd2]; rfl, fun e => absurd (hkd2.symm.trans e) (by decide), fun e => absurd (hkd2.symm.trans e) (by decide), fun _ => ⟨ha, hb, hc, hpz⟩⟩
              · refine eW_iconst 133 rfl rfl ?_
                refine eW_ret_i rfl rfl (Or.inr (Or.inl ⟨rfl, rfl⟩)) ?_
                have g0 : (tSkip 115 (tIni T)).1 = true := by rcases hkq12 with e | e <;> first | exact e.1 | exact absurd e.2 (by omega)
                have hsg : tSg T = 115 := (tSkip_yes g0).2
                have hpl : T.2.2.2.2.1 < T.2.2.2.1 := (tSkip_yes g0).1
                have htr : tHr T = 115 := by omega
                have g1 : (tNum 0 (tSkip 115 (tIni T)).2).1 = true := by rcases hkq15 with e | e <;> first | exact e.1 | exact absurd e.2 (by omega)
                have g2 : (tSkip 45 (tNum 0 (tSkip 115 (tIni T)).2).2).1 = true := by rcases hkq18 with e | e <;> first | exact e.1 | exact absurd e.2 (by omega)
                have g3 : (tDig 1 (tSkip 45 (tNum 0 (tSkip 115 (tIni T)).2).2).2).1 = false := by rcases hkq21 with e | e <;> first | exact e.1 | exact absurd e.2 (by omega)
                have e9 : tOrd T = (false, tInc (tDig 1 (tSkip 45 (tNum 0 (tSkip 115 (tIni T)).2).2).2).2) := by rw [tOrd_t ho30, tMid_t (Or.inr (Or.inr (Or.inl hsg))), hsg, tThen_t g0, tNums_s, tThen_t g1, tThen_t g2, tTail_f (Or.inl g3), g3]
                rw [e9]
                refine ⟨_, rfl, _, ⟨hmh22, frh22⟩, fun j hj => (Eq.trans (hoq21 _ (by omega)) (Eq.trans (hoq15 _ (by omega)) (eUp_ne (by omega)))), ?_⟩
                exact fun e => nomatch e
      · refine eW_aload_n 56 rfl rfl rfl ?_
        refine eW_iload_n 57 rfl rfl rfl ?_
        refine eW_iconst 58 rfl rfl ?_
        refine eW_iadd 59 rfl rfl ?_
        refine eW_iconst 60 rfl rfl ?_
        have hkq31 := eB01_c (tDig 0 (tSkip 99 (tIni T)).2).1
        refine eW_callVH 63 [.ref 63, vI ((4 * (s 22)) + 1), vI 1] [] [vI (eB01 (tDig 0 (tSkip 99 (tIni T)).2).1)] rfl rfl rfl rfl (Nat.ble_eq_true_of_le (by omega)) (show h10 63 = .inr (11, [.ref 64, .ref 65, .ref 66, .ref 67, vI (s 4), vI (s 5), vI (s 6), vI (s 7), vI (s 8), vI (s 9), .ref 68, vI (s 11), vI (s 12), .ref 69, vI (s 14), .ref 70, .ref 71, vI (s 17), vI (s 18), vI (s 19), vI ((tSkip 99 (tIni T)).2.2.2.2.2.1), .ref 72, vI (s 22)]) from hmh10.1) rfl rfl rfl (m_fig1 (d := d + 0) hmh10 hN (show tmR (tSkip 99 (tIni T)).2 (sUp s 20 ((tSkip 99 (tIni T)).2.2.2.2.2.1)) (mUp A 8 (eUp (A 8) (4 * (s 22)).toNat (tHr T))) from hTh10) (w := 0) (q := (4 * (s 22)) + 1) (by decide) (show (tSkip 99 (tIni T)).2.2.2.2.2.2 < 30 by omega) (by omega)) rfl rfl ?_
        intro h32 fh32
        obtain ⟨Oq31, f9h32⟩ := fh32
        obtain ⟨f8h32, hoq31, hqq31⟩ := f9h32
        have hmh32 : mM h32 (sUp s 20 ((tDig 0 (tSkip 99 (tIni T)).2).2.2.2.2.2.1)) (mUp A 8 Oq31) := f8h32.1
        have frh32 : mFr h h32 := mFr_t frh10 f8h32.2
        have hTh32 : tmR (tDig 0 (tSkip 99 (tIni T)).2).2 (sUp s 20 ((tDig 0 (tSkip 99 (tIni T)).2).2.2.2.2.2.1)) (mUp A 8 Oq31) := by have e8 := tmR_dig (w := 0) (show tmR (tSkip 99 (tIni T)).2 (sUp s 20 ((tSkip 99 (tIni T)).2.2.2.2.2.1)) (mUp A 8 (eUp (A 8) (4 * (s 22)).toNat (tHr T))) from hTh10) (by decide) (show (tSkip 99 (tIni T)).2.2.2.2.2.2 < 30 by omega); exact e8
        have uch32 : uC T (tDig 0 (tSkip 99 (tIni T)).2).2 := uC_dig uch10
        have orh32 : (tDig 0 (tSkip 99 (tIni T)).2).2.2.2.2.2.2 = T.2.2.2.2.2 := uch32.2
        refine eW_if_eq 66 rfl rfl (by unfold i32; omega) (fun c33 => ?_) (fun c33 => ?_)
        · refine eW_iconst 91 rfl rfl ?_
          refine eW_ret_i rfl rfl (Or.inr (Or.inl ⟨rfl, rfl⟩)) ?_
          have g0 : (tSkip 99 (tIni T)).1 = true := by rcases hkq9 with e | e <;> first | exact e.1 | exact absurd e.2 (by omega)
          have hsg : tSg T = 99 := (tSkip_yes g0).2
          have hpl : T.2.2.2.2.1 < T.2.2.2.1 := (tSkip_yes g0).1
          have htr : tHr T = 99 := by omega
          have g1 : (tDig 0 (tSkip 99 (tIni T)).2).1 = false := by rcases hkq31 with e | e <;> first | exact e.1 | exact absurd e.2 (by omega)
          have e9 : tOrd T = (false, tInc (tDig 0 (tSkip 99 (tIni T)).2).2) := by rw [tOrd_t ho30, tMid_t (Or.inr (Or.inl hsg)), hsg, tThen_t g0, tNums_c, tThen_f g1, tThen_f g1, g1]
          rw [e9]
          refine ⟨_, rfl, _, ⟨hmh32, frh32⟩, fun j hj => (Eq.trans (hoq31 _ (by omega)) (eUp_ne (by omega))), ?_⟩
          exact fun e => nomatch e
        · refine eW_aload_n 67 rfl rfl rfl ?_
          refine eW_bipush 69 rfl rfl 61 rfl ?_
          have hkq34 := eB01_c (tSkip 61 (tDig 0 (tSkip 99 (tIni T)).2).2).1
          refine eW_callVH 72 [.ref 63, vI 61] [] [vI (eB01 (tSkip 61 (tDig 0 (tSkip 99 (tIni T)).2).2).1)] rfl rfl rfl rfl (Nat.ble_eq_true_of_le (by omega)) (show h32 63 = .inr (11, [.ref 64, .ref 65, .ref 66, .ref 67, vI (s 4), vI (s 5), vI (s 6), vI (s 7), vI (s 8), vI (s 9), .ref 68, vI (s 11), vI (s 12), .ref 69, vI (s 14), .ref 70, .ref 71, vI (s 17), vI (s 18), vI (s 19), vI ((tDig 0 (tSkip 99 (tIni T)).2).2.2.2.2.2.1), .ref 72, vI (s 22)]) from hmh32.1) rfl rfl rfl (m_skips (d := d + 0) hmh32 hN (show tmR (tDig 0 (tSkip 99 (tIni T)).2).2 (sUp s 20 ((tDig 0 (tSkip 99 (tIni T)).2).2.2.2.2.2.1)) (mUp A 8 Oq31) from hTh32) (c := 61) (by decide)) rfl rfl ?_
          intro h35 fh35
          have hmh35 : mM h35 (sUp s 20 ((tSkip 61 (tDig 0 (tSkip 99 (tIni T)).2).2).2.2.2.2.2.1)) (mUp A 8 Oq31) := fh35.1
          have frh35 : mFr h h35 := mFr_t frh32 fh35.2
          have hTh35 : tmR (tSkip 61 (tDig 0 (tSkip 99 (tIni T)).2).2).2 (sUp s 20 ((tSkip 61 (tDig 0 (tSkip 99 (tIni T)).2).2).2.2.2.2.2.1)) (mUp A 8 Oq31) := by have e8 := tmR_skip (c := 61) (show tmR (tDig 0 (tSkip 99 (tIni T)).2).2 (sUp s 20 ((tDig 0 (tSkip 99 (tIni T)).2).2.2.2.2.2.1)) (mUp A 8 Oq31) from hTh32); exact e8
          have uch35 : uC T (tSkip 61 (tDig 0 (tSkip 99 (tIni T)).2).2).2 := uC_skip uch32
          have orh35 : (tSkip 61 (tDig 0 (tSkip 99 (tIni T)).2).2).2.2.2.2.2.2 = T.2.2.2.2.2 := uch35.2
          refine eW_if_eq 75 rfl rfl (by unfold i32; omega) (fun c36 => ?_) (fun c36 => ?_)
          · refine eW_iconst 91 rfl rfl ?_
            refine eW_ret_i rfl rfl (Or.inr (Or.inl ⟨rfl, rfl⟩)) ?_
            have g0 : (tSkip 99 (tIni T)).1 = true := by rcases hkq9 with e | e <;> first | exact e.1 | exact absurd e.2 (by omega)
            have hsg : tSg T = 99 := (tSkip_yes g0).2
            have hpl : T.2.2.2.2.1 < T.2.2.2.1 := (tSkip_yes g0).1
            have htr : tHr T = 99 := by omega
            have g1 : (tDig 0 (tSkip 99 (tIni T)).2).1 = true := by rcases hkq31 with e | e <;> first | exact e.1 | exact absurd e.2 (by omega)
            have g2 : (tSkip 61 (tDig 0 (tSkip 99 (tIni T)).2).2).1 = false := by rcases hkq34 with e | e <;> first | exact e.1 | exact absurd e.2 (by omega)
            have e9 : tOrd T = (false, tInc (tSkip 61 (tDig 0 (tSkip 99 (tIni T)).2).2).2) := by rw [tOrd_t ho30, tMid_t (Or.inr (Or.inl hsg)), hsg, tThen_t g0, tNums_c, tThen_t g1, tThen_f g2, g2]
            rw [e9]
            refine ⟨_, rfl, _, ⟨hmh35, frh35⟩, fun j hj => (Eq.trans (hoq31 _ (by omega)) (eUp_ne (by omega))), ?_⟩
            exact fun e => nomatch e
          · refine eW_aload_n 76 rfl rfl rfl ?_
            refine eW_iload_n 77 rfl rfl rfl ?_
            refine eW_iconst 78 rfl rfl ?_
            refine eW_iadd 79 rfl rfl ?_
            refine eW_iconst 80 rfl rfl ?_
            have hkq37 := eB01_c (tDig 1 (tSkip 61 (tDig 0 (tSkip 99 (tIni T)).2).2).2).1
            refine eW_callVH 83 [.ref 63, vI ((4 * (s 22)) + 2), vI 1] [] [vI (eB01 (tDig 1 (tSkip 61 (tDig 0 (tSkip 99 (tIni T)).2).2).2).1)] rfl rfl rfl rfl (Nat.ble_eq_true_of_le (by omega)) (show h35 63 = .inr (11, [.ref 64, .ref 65, .ref 66, .ref 67, vI (s 4), vI (s 5), vI (s 6), vI (s 7), vI (s 8), vI (s 9), .ref 68, vI (s 11), vI (s 12), .ref 69, vI (s 14), .ref 70, .ref 71, vI (s 17), vI (s 18), vI (s 19), vI ((tSkip 61 (tDig 0 (tSkip 99 (tIni T)).2).2).2.2.2.2.2.1), .ref 72, vI (s 22)]) from hmh35.1) rfl rfl rfl (m_fig1 (d := d + 0) hmh35 hN (show tmR (tSkip 61 (tDig 0 (tSkip 99 (tIni T)).2).2).2 (sUp s 20 ((tSkip 61 (tDig 0 (tSkip 99 (tIni T)).2).2).2.2.2.2.2.1)) (mUp A 8 Oq31) from hTh35) (w := 1) (q := (4 * (s 22)) + 2) (by decide) (show (tSkip 61 (tDig 0 (tSkip 99 (tIni T)).2).2).2.2.2.2.2.2 < 30 by omega) (by omega)) rfl rfl ?_
            intro h38 fh38
            obtain ⟨Oq37, f9h38⟩ := fh38
            obtain ⟨f8h38, hoq37, hqq37⟩ := f9h38
            have hmh38 : mM h38 (sUp s 20 ((tDig 1 (tSkip 61 (tDig 0 (tSkip 99 (tIni T)).2).2).2).2.2.2.2.2.1)) (mUp A 8 Oq37) := f8h38.1
            have frh38 : mFr h h38 := mFr_t frh35 f8h38.2
            have hTh38 : tmR (tDig 1 (tSkip 61 (tDig 0 (tSkip 99 (tIni T)).2).2).2).2 (sUp s 20 ((tDig 1 (tSkip 61 (tDig 0 (tSkip 99 (tIni T)).2).2).2).2.2.2.2.2.1)) (mUp A 8 Oq37) := by have e8 := tmR_dig (w := 1) (show tmR (tSkip 61 (tDig 0 (tSkip 99 (tIni T)).2).2).2 (sUp s 20 ((tSkip 61 (tDig 0 (tSkip 99 (tIni T)).2).2).2.2.2.2.2.1)) (mUp A 8 Oq31) from hTh35) (by decide) (show (tSkip 61 (tDig 0 (tSkip 99 (tIni T)).2).2).2.2.2.2.2.2 < 30 by omega); exact e8
            have uch38 : uC T (tDig 1 (tSkip 61 (tDig 0 (tSkip 99 (tIni T)).2).2).2).2 := uC_dig uch35
            have orh38 : (tDig 1 (tSkip 61 (tDig 0 (tSkip 99 (tIni T)).2).2).2).2.2.2.2.2.2 = T.2.2.2.2.2 := uch38.2
            refine eW_if_eq 86 rfl rfl (by unfold i32; omega) (fun c39 => ?_) (fun c39 => ?_)
            · refine eW_iconst 91 rfl rfl ?_
              refine eW_ret_i rfl rfl (Or.inr (Or.inl ⟨rfl, rfl⟩)) ?_
              have g0 : (tSkip 99 (tIni T)).1 = true := by rcases hkq9 with e | e <;> first | exact e.1 | exact absurd e.2 (by omega)
              have hsg : tSg T = 99 := (tSkip_yes g0).2
              have hpl : T.2.2.2.2.1 < T.2.2.2.1 := (tSkip_yes g0).1
              have htr : tHr T = 99 := by omega
              have g1 : (tDig 0 (tSkip 99 (tIni T)).2).1 = true := by rcases hkq31 with e | e <;> first | exact e.1 | exact absurd e.2 (by omega)
              have g2 : (tSkip 61 (tDig 0 (tSkip 99 (tIni T)).2).2).1 = true := by rcases hkq34 with e | e <;> first | exact e.1 | exact absurd e.2 (by omega)
              have g3 : (tDig 1 (tSkip 61 (tDig 0 (tSkip 99 (tIni T)).2).2).2).1 = false := by rcases hkq37 with e | e <;> first | exact e.1 | exact absurd e.2 (by omega)
              have e9 : tOrd T = (false, tInc (tDig 1 (tSkip 61 (tDig 0 (tSkip 99 (tIni T)).2).2).2).2) := by rw [tOrd_t ho30, tMid_t (Or.inr (Or.inl hsg)), hsg, tThen_t g0, tNums_c, tThen_t g1, tThen_t g2, g3]
              rw [e9]
              refine ⟨_, rfl, _, ⟨hmh38, frh38⟩, fun j hj => (Eq.trans (hoq37 _ (by omega)) (Eq.trans (hoq31 _ (by omega)) (eUp_ne (by omega)))), ?_⟩
              exact fun e => nomatch e
            · refine eW_iconst 87 rfl rfl ?_
              refine eW_goto rfl ?_
              refine eW_ret_i rfl rfl (Or.inr (Or.inl ⟨rfl, rfl⟩)) ?_
              have g0 : (tSkip 99 (tIni T)).1 = true := by rcases hkq9 with e | e <;> first | exact e.1 | exact absurd e.2 (by omega)
              have hsg : tSg T = 99 := (tSkip_yes g0).2
              have hpl : T.2.2.2.2.1 < T.2.2.2.1 := (tSkip_yes g0).1
              have htr : tHr T = 99 := by omega
              have g1 : (tDig 0 (tSkip 99 (tIni T)).2).1 = true := by rcases hkq31 with e | e <;> first | exact e.1 | exact absurd e.2 (by omega)
              have g2 : (tSkip 61 (tDig 0 (tSkip 99 (tIni T)).2).2).1 = true := by rcases hkq34 with e | e <;> first | exact e.1 | exact absurd e.2 (by omega)
              have g3 : (tDig 1 (tSkip 61 (tDig 0 (tSkip 99 (tIni T)).2).2).2).1 = true := by rcases hkq37 with e | e <;> first | exact e.1 | exact absurd e.2 (by omega)
              have e9 : tOrd T = (true, tInc (tDig 1 (tSkip 61 (tDig 0 (tSkip 99 (tIni T)).2).2).2).2) := by rw [tOrd_t ho30, tMid_t (Or.inr (Or.inl hsg)), hsg, tThen_t g0, tNums_c, tThen_t g1, tThen_t g2, g3]
              rw [e9]
              refine ⟨_, rfl, _, ⟨hmh38, frh38⟩, fun j hj => (Eq.trans (hoq37 _ (by omega)) (Eq.trans (hoq31 _ (by omega)) (eUp_ne (by omega)))), ?_⟩
              intro e8
              have hkd : tKind (tDig 1 (tSkip 61 (tDig 0 (tSkip 99 (tIni T)).2).2).2).2 T.2.2.2.2.2 = tSg T := uC_kind hT.1 ho30 uch38
              have hkd2 : tKind (tInc (tDig 1 (tSkip 61 (tDig 0 (tSkip 99 (tIni T)).2).2).2).2) T.2.2.2.2.2 = 99 := hkd.trans hsg
              have hk0 : (Oq37) (4 * T.2.2.2.2.2).toNat = 99 := (show _ = tHr T from (Eq.trans (show (Oq37) (4 * T.2.2.2.2.2).toNat = (Oq37) (4 * s 22).toNat by rw [hs22]) (Eq.trans (hoq37 _ (by omega)) (Eq.trans (hoq31 _ (by omega)) (eUp_eq rfl))))).trans htr
              have q0 : gTO (tSkip 99 (tIni T)).2 := (tSkip_ok (c := 99) hU.1).1
              have o0 : (tSkip 99 (tIni T)).2.2.2.2.2.2 = T.2.2.2.2.2 := (tSkip_ok (c := 99) hU.1).2
              have q1 := tDig_ok (w := 0) q0 (by decide) (by omega)
              have q2 := tSkip_ok (c := 61) q1.1
              have o2 : (tSkip 61 (tDig 0 (tSkip 99 (tIni T)).2).2).2.2.2.2.2.2 = T.2.2.2.2.2 := q2.2.trans (q1.2.1.trans o0)
              have w0 := tNo_dig (w := 0) q0 (by decide) (by omega) (tDig_yes g1)
              rw [o0] at w0
              have w1 := tNo_dig (w := 1) q2.1 (by decide) (by omega) (tDig_yes g3)
              rw [o2] at w1
              have w2 := tNo_dne (w := 0) (w2 := 1) q2.1 (by omega) (by decide)
              rw [o2, tNo_skip, w0] at w2
              have ha : (Oq37) (4 * T.2.2.2.2.2 + 1).toNat = tNo (tInc (tDig 1 (tSkip 61 (tDig 0 (tSkip 99 (tIni T)).2).2).2).2) T.2.2.2.2.2 0 := ((Eq.trans (show (Oq37) (4 * T.2.2.2.2.2 + 1).toNat = (Oq37) (4 * s 22 + 1).toNat by rw [hs22]) (Eq.trans (hoq37 _ (by omega)) (hqq31 g1)))).trans w2.symm
              have hb : (Oq37) (4 * T.2.2.2.2.2 + 2).toNat = tNo (tInc (tDig 1 (tSkip 61 (tDig 0 (tSkip 99 (tIni T)).2).2).2).2) T.2.2.2.2.2 1 := ((Eq.trans (show (Oq37) (4 * T.2.2.2.2.2 + 2).toNat = (Oq37) (4 * s 22 + 2).toNat by rw [hs22]) (hqq37 g3))).trans w1.symm
              exact ⟨hk0.trans hkd2.symm, by rw [hkd2]; rfl, fun e => absurd (hkd2.symm.trans e) (by decide), fun _ => ⟨ha, hb⟩, fun e => absurd (hkd2.symm.trans e) (by decide)⟩
    · refine eW_aload_n 38 rfl rfl rfl ?_
      refine eW_iload_n 39 rfl rfl rfl ?_
      refine eW_iconst 40 rfl rfl ?_
      refine eW_iadd 41 rfl rfl ?_
      refine eW_iconst 42 rfl rfl ?_
      have hkq40 := eB01_c (tNum 0 (tSkip 112 (tIni T)).2).1
      refine eW_callVH 45 [.ref 63, vI ((4 * (s 22)) + 1), vI 2] [] [vI (eB01 (tNum 0 (tSkip 112 (tIni T)).2).1)] rfl rfl rfl rfl (Nat.ble_eq_true_of_le (by omega)) (show h7 63 = .inr (11, [.ref 64, .ref 65, .ref 66, .ref 67, vI (s 4), vI (s 5), vI (s 6), vI (s 7), vI (s 8), vI (s 9), .ref 68, vI (s 11), vI (s 12), .ref 69, vI (s 14), .ref 70, .ref 71, vI (s 17), vI (s 18), vI (s 19), vI ((tSkip 112 (tIni T)).2.2.2.2.2.1), .ref 72, vI (s 22)]) from hmh7.1) rfl rfl rfl (m_fig2 (d := d + 0) hmh7 hN (show tmR (tSkip 112 (tIni T)).2 (sUp s 20 ((tSkip 112 (tIni T)).2.2.2.2.2.1)) (mUp A 8 (eUp (A 8) (4 * (s 22)).toNat (tHr T))) from hTh7) (w := 0) (q := (4 * (s 22)) + 1) (by decide) (show (tSkip 112 (tIni T)).2.2.2.2.2.2 < 30 by omega) (by omega)) rfl rfl ?_
      intro h41 fh41
      obtain ⟨Oq40, f9h41⟩ := fh41
      obtain ⟨f8h41, hoq40, hqq40⟩ := f9h41
      have hmh41 : mM h41 (sUp s 20 ((tNum 0 (tSkip 112 (tIni T)).2).2.2.2.2.2.1)) (mUp A 8 Oq40) := f8h41.1
      have frh41 : mFr h h41 := mFr_t frh7 f8h41.2
      have hTh41 : tmR (tNum 0 (tSkip 112 (tIni T)).2).2 (sUp s 20 ((tNum 0 (tSkip 112 (tIni T)).2).2.2.2.2.2.1)) (mUp A 8 Oq40) := by have e8 := tmR_num (w := 0) (show tmR (tSkip 112 (tIni T)).2 (sUp s 20 ((tSkip 112 (tIni T)).2.2.2.2.2.1)) (mUp A 8 (eUp (A 8) (4 * (s 22)).toNat (tHr T))) from hTh7) (by decide) (show (tSkip 112 (tIni T)).2.2.2.2.2.2 < 30 by omega); exact e8
      have uch41 : uC T (tNum 0 (tSkip 112 (tIni T)).2).2 := uC_num uch7
      have orh41 : (tNum 0 (tSkip 112 (tIni T)).2).2.2.2.2.2.2 = T.2.2.2.2.2 := uch41.2
      refine eW_ret_i rfl rfl (Or.inr (Or.inl ⟨rfl, (eB01_nar _)⟩)) ?_
      have g0 : (tSkip 112 (tIni T)).1 = true := by rcases hkq6 with e | e <;> first | exact e.1 | exact absurd e.2 (by omega)
      have hsg : tSg T = 112 := (tSkip_yes g0).2
      have hpl : T.2.2.2.2.1 < T.2.2.2.1 := (tSkip_yes g0).1
      have htr : tHr T = 112 := by omega
      have e9 : tOrd T = ((tNum 0 (tSkip 112 (tIni T)).2).1, tInc (tNum 0 (tSkip 112 (tIni T)).2).2) := by rw [tOrd_t ho30, tMid_t (Or.inl hsg), hsg, tThen_t g0, tNums_p]
      rw [e9]
      refine ⟨_, rfl, _, ⟨hmh41, frh41⟩, fun j hj => (Eq.trans (hoq40 _ (by omega)) (eUp_ne (by omega))), ?_⟩
      intro e8
      have hkd : tKind (tNum 0 (tSkip 112 (tIni T)).2).2 T.2.2.2.2.2 = tSg T := uC_kind hT.1 ho30 uch41
      have hkd2 : tKind (tInc (tNum 0 (tSkip 112 (tIni T)).2).2) T.2.2.2.2.2 = 112 := hkd.trans hsg
      have hk0 : (Oq40) (4 * T.2.2.2.2.2).toNat = 112 := (show _ = tHr T from (Eq.trans (show (Oq40) (4 * T.2.2.2.2.2).toNat = (Oq40) (4 * s 22).toNat by rw [hs22]) (Eq.trans (hoq40 _ (by omega)) (eUp_eq rfl)))).trans htr
      have ha : (Oq40) (4 * T.2.2.2.2.2 + 1).toNat = tNo (tInc (tNum 0 (tSkip 112 (tIni T)).2).2) T.2.2.2.2.2 0 := ((Eq.trans (show (Oq40) (4 * T.2.2.2.2.2 + 1).toNat = (Oq40) (4 * s 22 + 1).toNat by rw [hs22]) (hqq40 e8))).trans (show tNo (tNum 0 (tSkip 112 (tIni T)).2).2 (tSkip 112 (tIni T)).2.2.2.2.2.2 0 = tNo (tNum 0 (tSkip 112 (tIni T)).2).2 T.2.2.2.2.2 0 by rw [show (tSkip 112 (tIni T)).2.2.2.2.2.2 = T.2.2.2.2.2 from (uC_skip (uC_0 T)).2])
      exact ⟨hk0.trans hkd2.symm, by rw [hkd2]; rfl, fun _ => ha, fun e => absurd (hkd2.symm.trans e) (by decide), fun e => absurd (hkd2.symm.trans e) (by decide)⟩
  · refine eW_iconst 27 rfl rfl ?_
    refine eW_ret_i rfl rfl (Or.inr (Or.inl ⟨rfl, rfl⟩)) ?_
    have g0 : (tSkip 110 (tIni T)).1 = true := by rcases hkq3 with e | e <;> first | exact e.1 | exact absurd e.2 (by omega)
    have hsg : tSg T = 110 := (tSkip_yes g0).2
    have hpl : T.2.2.2.2.1 < T.2.2.2.1 := (tSkip_yes g0).1
    have htr : tHr T = 110 := by omega
    have e9 : tOrd T = (true, tInc (tSkip 110 (tIni T)).2) := by rw [tOrd_t ho30, tMid_t (Or.inr (Or.inr (Or.inr hsg))), hsg, tThen_t g0, tNums_o (by decide) (by decide) (by decide)]
    rw [e9]
    refine ⟨_, rfl, _, ⟨hmh4, frh4⟩, fun j hj => (eUp_ne (by omega)), ?_⟩
    intro e8
    have hkd : tKind (tSkip 110 (tIni T)).2 T.2.2.2.2.2 = tSg T := uC_kind hT.1 ho30 (uC_skip (uC_0 T))
    have hkd2 : tKind (tInc (tSkip 110 (tIni T)).2) T.2.2.2.2.2 = 110 := hkd.trans hsg
    have hk0 : (eUp (A 8) (4 * (s 22)).toNat (tHr T)) (4 * T.2.2.2.2.2).toNat = 110 := (show _ = tHr T from (Eq.trans (show (eUp (A 8) (4 * (s 22)).toNat (tHr T)) (4 * T.2.2.2.2.2).toNat = (eUp (A 8) (4 * (s 22)).toNat (tHr T)) (4 * s 22).toNat by rw [hs22]) (eUp_eq rfl))).trans htr
    exact ⟨hk0.trans hkd2.symm, by rw [hkd2]; rfl, fun e => absurd (hkd2.symm.trans e) (by decide), fun e => absurd (hkd2.symm.trans e) (by decide), fun e => absurd (hkd2.symm.trans e) (by decide)⟩
