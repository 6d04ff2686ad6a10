/-! the model reads its input as the class does -/
def tmR (T : eTx) (s : Nat → Int) (A : Nat → Nat → Int) : Prop := gTO T ∧ s 11 = T.2.2.2.1 ∧ s 20 = T.2.2.2.2.1 ∧ ∀ i : Nat, (i : Int) < T.2.2.2.1 → A 4 i = T.1 i
def tHr (T : eTx) : Int := if T.2.2.2.2.1 < T.2.2.2.1 then tSg T else -1
theorem tSg_t {T : eTx} (hT : gTO T) (h : T.2.2.2.2.1 < T.2.2.2.1) : tSg T = T.1 T.2.2.2.2.1.toNat := by
  unfold tSg; rw [decide_eq_true ⟨h, by have := hT.1; omega⟩]
theorem tHr_c {T : eTx} (hT : gTO T) : (T.2.2.2.2.1 < T.2.2.2.1 ∧ tHr T = tSg T ∧ 0 ≤ tSg T ∧ tSg T ≤ 65535) ∨ (T.2.2.2.1 ≤ T.2.2.2.2.1 ∧ tHr T = -1 ∧ tSg T = 0) := by
  by_cases h : T.2.2.2.2.1 < T.2.2.2.1
  · have := tSg_le hT
    exact Or.inl ⟨h, if_pos h, this.1, this.2⟩
  · refine Or.inr ⟨by omega, if_neg h, ?_⟩
    unfold tSg; rw [decide_eq_false (by omega)]
theorem tmR_skip {T : eTx} {s : Nat → Int} {A : Nat → Nat → Int} {c : Int} (h : tmR T s A) : tmR (tSkip c T).2 (sUp s 20 (tSkip c T).2.2.2.2.2.1) A := by
  refine ⟨(tSkip_ok h.1).1, ?_, rfl, ?_⟩
  · show s 11 = _; rw [h.2.1]; unfold tSkip; cases decide (T.2.2.2.2.1 < T.2.2.2.1 ∧ tSg T = c) <;> rfl
  · unfold tSkip; cases decide (T.2.2.2.2.1 < T.2.2.2.1 ∧ tSg T = c) <;> exact h.2.2.2
theorem tmR_dig {T : eTx} {s : Nat → Int} {A : Nat → Nat → Int} {w : Int} (h : tmR T s A) (hw : 0 ≤ w ∧ w < 3) (ho : T.2.2.2.2.2 < 30) : tmR (tDig w T).2 (sUp s 20 (tDig w T).2.2.2.2.2.1) A := by
  refine ⟨(tDig_ok h.1 hw ho).1, ?_, rfl, ?_⟩
  · show s 11 = _; rw [h.2.1]; unfold tDig; cases decide (48 ≤ tSg T ∧ tSg T ≤ 57) <;> rfl
  · unfold tDig; cases decide (48 ≤ tSg T ∧ tSg T ≤ 57) <;> exact h.2.2.2
theorem tNum_il {T : eTx} {w : Int} : (tNum w T).2.1 = T.1 ∧ (tNum w T).2.2.2.2.1 = T.2.2.2.1 := by
  unfold tNum
  have e : ∀ X : eTx, (tDig w X).2.1 = X.1 ∧ (tDig w X).2.2.2.2.1 = X.2.2.2.1 := fun X => by unfold tDig; cases decide (48 ≤ tSg X ∧ tSg X ≤ 57) <;> exact ⟨rfl, rfl⟩
  cases (tDig w T).1 with
  | false => exact e T
  | true =>
    dsimp only
    have h1 := e T
    have h2 := e (tDig w T).2
    cases (tDig w (tDig w T).2).1 with
    | false => exact ⟨h2.1.trans h1.1, h2.2.trans h1.2⟩
    | true => exact ⟨h2.1.trans h1.1, h2.2.trans h1.2⟩
theorem tmR_num {T : eTx} {s : Nat → Int} {A : Nat → Nat → Int} {w : Int} (h : tmR T s A) (hw : 0 ≤ w ∧ w < 3) (ho : T.2.2.2.2.2 < 30) : tmR (tNum w T).2 (sUp s 20 (tNum w T).2.2.2.2.2.1) A := by
  have e := tNum_il (T := T) (w := w)
  exact ⟨(tNum_ok h.1 hw ho).1, by show s 11 = _; rw [h.2.1]; exact e.2.symm, rfl, fun i hi => by rw [e.1]; exact h.2.2.2 i (by rw [← e.2]; exact hi)⟩
theorem mM_20 {h : eHp} {s : Nat → Int} {A : Nat → Nat → Int} {x : Int} (hm : mM h s A) (hx : s 20 = x) : mM h (sUp s 20 x) A := by subst hx; exact hm
theorem m_here {d N : Nat} {h : eHp} {s : Nat → Int} {A : Nat → Nat → Int} (hm : mM h s A) (hN : 75 ≤ N) {T : eTx} (hT : tmR T s A) : eSp (d + 1) eM_X7_here [.ref 63] N h (eRet (some (vI (tHr T))) N h) := by
  refine eSp_of [(0, .ref 63)] rfl rfl ?_
  have hc := tHr_c hT.1
  have h11 := hT.2.1
  have h20 := hT.2.2.1
  have ho1 := hT.1.1
  have ho2 := hT.1.2.1
  refine eW_aload_n 1 rfl rfl rfl ?_
  refine eW_getfield 4 rfl rfl (Nat.ble_eq_true_of_le (by omega)) rfl hm.1 rfl ⟨rfl, fun _ h9 => nomatch h9⟩ ?_
  refine eW_aload_n 5 rfl rfl rfl ?_
  refine eW_getfield 8 rfl rfl (Nat.ble_eq_true_of_le (by omega)) rfl hm.1 rfl ⟨rfl, fun _ h9 => nomatch h9⟩ ?_
  refine eW_icmp_ge 11 rfl rfl (by unfold i32; omega) (by unfold i32; omega) (fun c1 => ?_) (fun c1 => ?_)
  · refine eW_iconst 24 rfl rfl ?_
    refine eW_ret_i rfl rfl (Or.inl rfl) ?_
    exact eRet_i (by omega)
  · refine eW_aload_n 12 rfl rfl rfl ?_
    refine eW_getfield 15 rfl rfl (Nat.ble_eq_true_of_le (by omega)) rfl hm.1 rfl ⟨rfl, fun _ h9 => nomatch h9⟩ ?_
    refine eW_aload_n 16 rfl rfl rfl ?_
    refine eW_getfield 19 rfl rfl (Nat.ble_eq_true_of_le (by omega)) rfl hm.1 rfl ⟨rfl, fun _ h9 => nomatch h9⟩ ?_
    refine eW_iaload 20 rfl rfl (tSg T) (Nat.ble_eq_true_of_le (by omega)) (show h 68 = .inl (0, 60, .inl (eIA (A 4))) from hm.2.2.2.2.2.1) (by omega) (by omega) (by unfold i32; omega) (congrArg Int32.ofInt (by rw [hT.2.2.1, hT.2.2.2 _ (by omega), tSg_t hT.1 (by omega)])) ?_
    refine eW_goto rfl ?_
    refine eW_ret_i rfl rfl (Or.inl rfl) ?_
    exact eRet_i (by omega)
theorem m_skips {d N : Nat} {h : eHp} {s : Nat → Int} {A : Nat → Nat → Int} (hm : mM h s A) (hN : 75 ≤ N) {T : eTx} (hT : tmR T s A) {c : Int} (hc : 0 ≤ c ∧ c ≤ 65535) : eSp (d + 2) eM_X7_skips [.ref 63, vI c] N h (eChg (some (vI (eB01 (tSkip c T).1))) N (mD h (sUp s 20 (tSkip c T).2.2.2.2.2.1) A)) := by
  refine eSp_of [(0, .ref 63), (1, vI c)] rfl rfl ?_
  refine eW_aload_n 1 rfl rfl rfl ?_
  have hrq1 := tHr_c (show tmR T s A from hT).1
  refine eW_callV 4 [.ref 63] [] [vI (tHr T)] rfl rfl rfl rfl (Nat.ble_eq_true_of_le (by omega)) hm.1 rfl rfl rfl (m_here (d := d + 0) hm hN (show tmR T s A from hT)) rfl rfl ?_
  refine eW_iload_n 5 rfl rfl rfl ?_
  refine eW_icmp_eq 8 rfl rfl (by unfold i32; omega) (by unfold i32; omega) (fun c2 => ?_) (fun c2 => ?_)
  · refine eW_aload_n 11 rfl rfl rfl ?_
    refine eW_dup 12 rfl rfl rfl ?_
    refine eW_getfield 15 rfl rfl (Nat.ble_eq_true_of_le (by omega)) rfl hm.1 rfl ⟨rfl, fun _ h9 => nomatch h9⟩ ?_
    refine eW_iconst 16 rfl rfl ?_
    refine eW_iadd 17 rfl rfl ?_
    refine eW_putfield 20 [.ref 64, .ref 65, .ref 66, .ref 67, vI (s 4), vI (s 5), vI (s 6), vI (s 7), vI (s 8), vI (s 9), .ref 68, vI (s 11), vI (s 12), .ref 69, vI (s 14), .ref 70, .ref 71, vI (s 17), vI (s 18), vI (s 19), vI ((s 20) + 1), .ref 72, vI (s 22)] rfl rfl (Nat.ble_eq_true_of_le (by omega)) rfl hm.1 rfl rfl ?_
    intro h3 eh3 oh3
    have hmh3 : mM h3 (sUp s 20 ((s 20) + 1)) A := mM_s (s := s) hm eh3 oh3
    have frh3 : mFr h h3 := mFr_s (fun _ _ => rfl) oh3
    refine eW_iconst 21 rfl rfl ?_
    refine eW_ret_i rfl rfl (Or.inr (Or.inl ⟨rfl, rfl⟩)) ?_
    have e9 : tSkip c T = _ := tSkip_t (by omega)
    rw [e9]
    exact ⟨_, rfl, (by have e8 := hmh3; rw [hT.2.2.1] at e8; exact e8), frh3⟩
  · refine eW_iconst 9 rfl rfl ?_
    refine eW_ret_i rfl rfl (Or.inr (Or.inl ⟨rfl, rfl⟩)) ?_
    have e9 : tSkip c T = _ := tSkip_f (by omega)
    rw [e9]
    exact ⟨_, rfl, mM_20 hm hT.2.2.1, fun _ _ => rfl⟩
def tAdv (T : eTx) : eTx := (T.1, T.2.1, T.2.2.1, T.2.2.2.1, T.2.2.2.2.1 + 1, T.2.2.2.2.2)
theorem tmR_adv {T : eTx} {s : Nat → Int} {A : Nat → Nat → Int} (h : tmR T s A) (hp : T.2.2.2.2.1 < T.2.2.2.1) : tmR (tAdv T) (sUp s 20 (s 20 + 1)) A := by
  obtain ⟨⟨a1, a2, a3⟩, b, c, d⟩ := h
  exact ⟨⟨a1, by show 0 ≤ T.2.2.2.2.1 + 1 ∧ T.2.2.2.2.1 + 1 ≤ 60; omega, a3⟩, b, by show s 20 + 1 = T.2.2.2.2.1 + 1; rw [c], d⟩
theorem tSg_adv {T : eTx} {w : Int} (h : 48 ≤ tSg T ∧ tSg T ≤ 57) : tSg (tDig w T).2 = tSg (tAdv T) := by rw [tDig_t h]; rfl
theorem m_fig1 {d N : Nat} {h : eHp} {s : Nat → Int} {A : Nat → Nat → Int} (hm : mM h s A) (hN : 75 ≤ N) {T : eTx} (hT : tmR T s A) {w q : Int} (hw : 0 ≤ w ∧ w < 3) (ho : T.2.2.2.2.2 < 30) (hq : 0 ≤ q ∧ q < 124) : eSp (d + 2) eM_X7_figures [.ref 63, vI q, vI 1] N h (eChg (some (vI (eB01 (tDig w T).1))) N (fun h' => ∃ O, mD h (sUp s 20 (tDig w T).2.2.2.2.2.1) (mUp A 8 O) h' ∧ (∀ j : Nat, j ≠ q.toNat → O j = A 8 j) ∧ ((tDig w T).1 = true → O q.toNat = tSg T - 48))) := by
  refine eSp_of [(0, .ref 63), (1, vI q), (2, vI 1)] rfl rfl ?_
  refine eW_aload_n 1 rfl rfl rfl ?_
  have hrq1 := tHr_c (show tmR T s A from hT).1
  refine eW_callV 4 [.ref 63] [] [vI (tHr T)] rfl rfl rfl rfl (Nat.ble_eq_true_of_le (by omega)) hm.1 rfl rfl rfl (m_here (d := d + 0) hm hN (show tmR T s A from hT)) rfl rfl ?_
  refine eW_bipush 6 rfl rfl 48 rfl ?_
  refine eW_bipush 8 rfl rfl 57 rfl ?_
  have hinq2 := eD_c ((48 : Int) ≤ (tHr T) ∧ (tHr T) ≤ 57)
  refine eW_callS 11 [vI (tHr T), vI 48, vI 57] [] [vI (eB01 (decide ((48 : Int) ≤ (tHr T) ∧ (tHr T) ≤ 57)))] rfl rfl rfl (Or.inl rfl) rfl rfl rfl (m_in (d := d + 0) (by unfold i32; omega) (by unfold i32; omega) (by unfold i32; omega)) rfl rfl ?_
  refine eW_if_ne 14 rfl rfl (by unfold i32; omega) (fun c3 => ?_) (fun c3 => ?_)
  · refine eW_aload_n 17 rfl rfl rfl ?_
    refine eW_getfield 20 rfl rfl (Nat.ble_eq_true_of_le (by omega)) rfl hm.1 rfl ⟨rfl, fun _ h9 => nomatch h9⟩ ?_
    refine eW_iload_n 21 rfl rfl rfl ?_
    refine eW_iconst 22 rfl rfl ?_
    refine eW_iastore 23 rfl rfl (Nat.ble_eq_true_of_le (by omega)) (show h 72 = .inl (0, 124, .inl (eIA (A 8))) from hm.2.2.2.2.2.2.2.2.2) (by omega) (by omega) (by unfold i32; omega) rfl ?_
    intro h4 eh4 oh4
    have hmh4 : mM h4 s (mUp A 8 (eUp (A 8) q.toNat 0)) := mM_8 hm eh4 oh4 ⟨rfl, rfl, rfl, rfl, rfl, rfl, rfl, rfl⟩
    have frh4 : mFr h h4 := mFr_a (fun _ _ => rfl) (by decide) oh4
    refine eW_iconst 24 rfl rfl ?_
    refine eW_istore_n 25 rfl rfl [(3, vI 0), (0, .ref 63), (1, vI q), (2, vI 1)] rfl rfl ?_
    refine eW_iload_n 26 rfl rfl rfl ?_
    refine eW_iload_n 27 rfl rfl rfl ?_
    refine eW_icmp_ge 30 rfl rfl (by unfold i32; omega) (by unfold i32; omega) (fun c5 => absurd c5 (by omega)) (fun c5 => ?_)
    refine eW_aload_n 31 rfl rfl rfl ?_
    have hrq6 := tHr_c (show tmR T s (mUp A 8 (eUp (A 8) q.toNat 0)) from hT).1
    refine eW_callV 34 [.ref 63] [] [vI (tHr T)] rfl rfl rfl rfl (Nat.ble_eq_true_of_le (by omega)) hmh4.1 rfl rfl rfl (m_here (d := d + 0) hmh4 hN (show tmR T s (mUp A 8 (eUp (A 8) q.toNat 0)) from hT)) rfl rfl ?_
    refine eW_bipush 36 rfl rfl 48 rfl ?_
    refine eW_bipush 38 rfl rfl 57 rfl ?_
    have hinq7 := eD_c ((48 : Int) ≤ (tHr T) ∧ (tHr T) ≤ 57)
    refine eW_callS 41 [vI (tHr T), vI 48, vI 57] [] [vI (eB01 (decide ((48 : Int) ≤ (tHr T) ∧ (tHr T) ≤ 57)))] rfl rfl rfl (Or.inl rfl) rfl rfl rfl (m_in (d := d + 0) (by unfold i32; omega) (by unfold i32; omega) (by unfold i32; omega)) rfl rfl ?_
    refine eW_if_eq 44 rfl rfl (by unfold i32; omega) (fun c8 => ?_) (fun c8 => ?_)
    · refine eW_iconst 84 rfl rfl ?_
      refine eW_ret_i rfl rfl (Or.inr (Or.inl ⟨rfl, rfl⟩)) ?_
      exfalso; omega
    · refine eW_aload_n 45 rfl rfl rfl ?_
      refine eW_getfield 48 rfl rfl (Nat.ble_eq_true_of_le (by omega)) rfl hmh4.1 rfl ⟨rfl, fun _ h9 => nomatch h9⟩ ?_
      refine eW_iload_n 49 rfl rfl rfl ?_
      refine eW_bipush 51 rfl rfl 10 rfl ?_
      refine eW_aload_n 52 rfl rfl rfl ?_
      refine eW_getfield 55 rfl rfl (Nat.ble_eq_true_of_le (by omega)) rfl hmh4.1 rfl ⟨rfl, fun _ h9 => nomatch h9⟩ ?_
      refine eW_iload_n 56 rfl rfl rfl ?_
      refine eW_iaload 57 rfl rfl 0 (Nat.ble_eq_true_of_le (by omega)) (show h4 72 = .inl (0, 124, .inl (eIA (eUp (A 8) q.toNat 0))) from hmh4.2.2.2.2.2.2.2.2.2) (by omega) (by omega) (by unfold i32; omega) (congrArg Int32.ofInt (eUp_eq rfl)) ?_
      refine eW_imul 58 rfl rfl ?_
      refine eW_aload_n 59 rfl rfl rfl ?_
      have hrq9 := tHr_c (show tmR T s (mUp A 8 (eUp (A 8) q.toNat 0)) from hT).1
      refine eW_callV 62 [.ref 63] [vI (10 * 0), vI q, .ref 72] [vI (tHr T), vI (10 * 0), vI q, .ref 72] rfl rfl rfl rfl (Nat.ble_eq_true_of_le (by omega)) hmh4.1 rfl rfl rfl (m_here (d := d + 0) hmh4 hN (show tmR T s (mUp A 8 (eUp (A 8) q.toNat 0)) from hT)) rfl rfl ?_
      refine eW_iadd 63 rfl rfl ?_
      refine eW_bipush 65 rfl rfl 48 rfl ?_
      refine eW_isub 66 rfl rfl ?_
      refine eW_iastore 67 rfl rfl (Nat.ble_eq_true_of_le (by omega)) (show h4 72 = .inl (0, 124, .inl (eIA (eUp (A 8) q.toNat 0))) from hmh4.2.2.2.2.2.2.2.2.2) (by omega) (by omega) (by unfold i32; omega) rfl ?_
      intro h10 eh10 oh10
      have hmh10 : mM h10 s (mUp A 8 (eUp (eUp (A 8) q.toNat 0) q.toNat (((10 * 0) + (tHr T)) - 48))) := mM_8 hmh4 eh10 oh10 ⟨rfl, rfl, rfl, rfl, rfl, rfl, rfl, rfl⟩
      have frh10 : mFr h h10 := mFr_a frh4 (by decide) oh10
      refine eW_aload_n 68 rfl rfl rfl ?_
      refine eW_dup 69 rfl rfl rfl ?_
      refine eW_getfield 72 rfl rfl (Nat.ble_eq_true_of_le (by omega)) rfl hmh10.1 rfl ⟨rfl, fun _ h9 => nomatch h9⟩ ?_
      refine eW_iconst 73 rfl rfl ?_
      refine eW_iadd 74 rfl rfl ?_
      refine eW_putfield 77 [.ref 64, .ref 65, .ref 66, .ref 67, vI (s 4), vI (s 5), vI (s 6), vI (s 7), vI (s 8), vI (s 9), .ref 68, vI (s 11), vI (s 12), .ref 69, vI (s 14), .ref 70, .ref 71, vI (s 17), vI (s 18), vI (s 19), vI ((s 20) + 1), .ref 72, vI (s 22)] rfl rfl (Nat.ble_eq_true_of_le (by omega)) rfl hmh10.1 rfl rfl ?_
      intro h11 eh11 oh11
      have hmh11 : mM h11 (sUp s 20 ((s 20) + 1)) (mUp A 8 (eUp (eUp (A 8) q.toNat 0) q.toNat (((10 * 0) + (tHr T)) - 48))) := mM_s (s := s) hmh10 eh11 oh11
      have frh11 : mFr h h11 := mFr_s frh10 oh11
      have hTh11 : tmR (tAdv T) (sUp s 20 ((s 20) + 1)) (mUp A 8 (eUp (eUp (A 8) q.toNat 0) q.toNat (((10 * 0) + (tHr T)) - 48))) := tmR_adv (show tmR T s (mUp A 8 (eUp (eUp (A 8) q.toNat 0) q.toNat (((10 * 0) + (tHr T)) - 48))) from hT) (by omega)
      refine eW_iinc 80 rfl rfl [(3, vI (0 + 1)), (0, .ref 63), (1, vI q), (2, vI 1)] rfl rfl rfl ?_
      refine eW_goto rfl ?_
      refine eW_iload_n 26 rfl rfl rfl ?_
      refine eW_iload_n 27 rfl rfl rfl ?_
      refine eW_icmp_ge 30 rfl rfl (by unfold i32; omega) (by unfold i32; omega) (fun c12 => ?_) (fun c12 => absurd c12 (by omega))
      refine eW_iconst 84 rfl rfl ?_
      refine eW_ret_i rfl rfl (Or.inr (Or.inl ⟨rfl, rfl⟩)) ?_
      have hd9 : 48 ≤ tSg T ∧ tSg T ≤ 57 := by omega
      have e9 : tDig w T = _ := tDig_t hd9
      rw [e9]
      refine ⟨_, rfl, _, ⟨(by have e8 := hmh11; rw [hT.2.2.1] at e8; exact e8), frh11⟩, fun j hj => (eUp_ne hj).trans (eUp_ne hj), fun _ => ?_⟩
      rw [eUp_eq rfl]; omega
  · refine eW_iconst 15 rfl rfl ?_
    refine eW_ret_i rfl rfl (Or.inr (Or.inl ⟨rfl, rfl⟩)) ?_
    have e9 : tDig w T = _ := tDig_f (by omega)
    have e8 := e9
    rw [e8]
    exact ⟨_, rfl, A 8, ⟨mM_20 hm hT.2.2.1, fun _ _ => rfl⟩, fun _ _ => rfl, fun e => nomatch e⟩
theorem tNo_t {T : eTx} {i w : Int} (hi : 0 ≤ i ∧ i < 30) (hw : 0 ≤ w ∧ w < 3) : tNo T i w = T.2.2.1 (i * 3 + w).toNat := by unfold tNo; rw [decide_eq_true ⟨hi.1, hi.2, hw.1, hw.2⟩]
theorem tNo_dig {T : eTx} {w : Int} (hT : gTO T) (hw : 0 ≤ w ∧ w < 3) (ho : T.2.2.2.2.2 < 30) (hd : 48 ≤ tSg T ∧ tSg T ≤ 57) : tNo (tDig w T).2 T.2.2.2.2.2 w = tSg T - 48 := by
  rw [tDig_t hd, tNo_t ⟨hT.2.2.1.1, ho⟩ hw]; exact eUp_eq rfl
theorem tNo_set {T X : eTx} {w x : Int} (hT : gTO T) (hw : 0 ≤ w ∧ w < 3) (ho : T.2.2.2.2.2 < 30) (hX : X.2.2.2.2.2 = T.2.2.2.2.2) : tNo (tSet w x X) T.2.2.2.2.2 w = x := by
  rw [tNo_t ⟨hT.2.2.1.1, ho⟩ hw]
  show eUp X.2.2.1 (X.2.2.2.2.2 * 3 + w).toNat x (T.2.2.2.2.2 * 3 + w).toNat = x
  rw [hX]; exact eUp_eq rfl
theorem m_fig2 {d N : Nat} {h : eHp} {s : Nat → Int} {A : Nat → Nat → Int} (hm : mM h s A) (hN : 75 ≤ N) {T : eTx} (hT : tmR T s A) {w q : Int} (hw : 0 ≤ w ∧ w < 3) (ho : T.2.2.2.2.2 < 30) (hq : 0 ≤ q ∧ q < 124) : eSp (d + 2) eM_X7_figures [.ref 63, vI q, vI 2] N h (eChg (some (vI (eB01 (tNum w T).1))) N (fun h' => ∃ O, mD h (sUp s 20 (tNum w T).2.2.2.2.2.1) (mUp A 8 O) h' ∧ (∀ j : Nat, j ≠ q.toNat → O j = A 8 j) ∧ ((tNum w T).1 = true → O q.toNat = tNo (tNum w T).2 T.2.2.2.2.2 w))) := by
  refine eSp_of [(0, .ref 63), (1, vI q), (2, vI 2)] rfl rfl ?_
  refine eW_aload_n 1 rfl rfl rfl ?_
  have hrq1 := tHr_c (show tmR T s A from hT).1
  refine eW_callV 4 [.ref 63] [] [vI (tHr T)] rfl rfl rfl rfl (Nat.ble_eq_true_of_le (by omega)) hm.1 rfl rfl rfl (m_here (d := d + 0) hm hN (show tmR T s A from hT)) rfl rfl ?_
  refine eW_bipush 6 rfl rfl 48 rfl ?_
  refine eW_bipush 8 rfl rfl 57 rfl ?_
  have hinq2 := eD_c ((48 : Int) ≤ (tHr T) ∧ (tHr T) ≤ 57)
  refine eW_callS 11 [vI (tHr T), vI 48, vI 57] [] [vI (eB01 (decide ((48 : Int) ≤ (tHr T) ∧ (tHr T) ≤ 57)))] rfl rfl rfl (Or.inl rfl) rfl rfl rfl (m_in (d := d + 0) (by unfold i32; omega) (by unfold i32; omega) (by unfold i32; omega)) rfl rfl ?_
  refine eW_if_ne 14 rfl rfl (by unfold i32; omega) (fun c3 => ?_) (fun c3 => ?_)
  · refine eW_aload_n 17 rfl rfl rfl ?_
    refine eW_getfield 20 rfl rfl (Nat.ble_eq_true_of_le (by omega)) rfl hm.1 rfl ⟨rfl, fun _ h9 => nomatch h9⟩ ?_
    refine eW_iload_n 21 rfl rfl rfl ?_
    refine eW_iconst 22 rfl rfl ?_
    refine eW_iastore 23 rfl rfl (Nat.ble_eq_true_of_le (by omega)) (show h 72 = .inl (0, 124, .inl (eIA (A 8))) from hm.2.2.2.2.2.2.2.2.2) (by omega) (by omega) (by unfold i32; omega) rfl ?_
    intro h4 eh4 oh4
    have hmh4 : mM h4 s (mUp A 8 (eUp (A 8) q.toNat 0)) := mM_8 hm eh4 oh4 ⟨rfl, rfl, rfl, rfl, rfl, rfl, rfl, rfl⟩
    have frh4 : mFr h h4 := mFr_a (fun _ _ => rfl) (by decide) oh4
    refine eW_iconst 24 rfl rfl ?_
    refine eW_istore_n 25 rfl rfl [(3, vI 0), (0, .ref 63), (1, vI q), (2, vI 2)] rfl rfl ?_
    refine eW_iload_n 26 rfl rfl rfl ?_
    refine eW_iload_n 27 rfl rfl rfl ?_
    refine eW_icmp_ge 30 rfl rfl (by unfold i32; omega) (by unfold i32; omega) (fun c5 => absurd c5 (by omega)) (fun c5 => ?_)
    refine eW_aload_n 31 rfl rfl rfl ?_
    have hrq6 := tHr_c (show tmR T s (mUp A 8 (eUp (A 8) q.toNat 0)) from hT).1
    refine eW_callV 34 [.ref 63] [] [vI (tHr T)] rfl rfl rfl rfl (Nat.ble_eq_true_of_le (by omega)) hmh4.1 rfl rfl rfl (m_here (d := d + 0) hmh4 hN (show tmR T s (mUp A 8 (eUp (A 8) q.toNat 0)) from hT)) rfl rfl ?_
    refine eW_bipush 36 rfl rfl 48 rfl ?_
    refine eW_bipush 38 rfl rfl 57 rfl ?_
    have hinq7 := eD_c ((48 : Int) ≤ (tHr T) ∧ (tHr T) ≤ 57)
    refine eW_callS 41 [vI (tHr T), vI 48, vI 57] [] [vI (eB01 (decide ((48 : Int) ≤ (tHr T) ∧ (tHr T) ≤ 57)))] rfl rfl rfl (Or.inl rfl) rfl rfl rfl (m_in (d := d + 0) (by unfold i32; omega) (by unfold i32; omega) (by unfold i32; omega)) rfl rfl ?_
    refine eW_if_eq 44 rfl rfl (by unfold i32; omega) (fun c8 => ?_) (fun c8 => ?_)
    · refine eW_iconst 84 rfl rfl ?_
      refine eW_ret_i rfl rfl (Or.inr (Or.inl ⟨rfl, rfl⟩)) ?_
      exfalso; omega
    · refine eW_aload_n 45 rfl rfl rfl ?_
      refine eW_getfield 48 rfl rfl (Nat.ble_eq_true_of_le (by omega)) rfl hmh4.1 rfl ⟨rfl, fun _ h9 => nomatch h9⟩ ?_
      refine eW_iload_n 49 rfl rfl rfl ?_
      refine eW_bipush 51 rfl rfl 10 rfl ?_
      refine eW_aload_n 52 rfl rfl rfl ?_
      refine eW_getfield 55 rfl rfl (Nat.ble_eq_true_of_le (by omega)) rfl hmh4.1 rfl ⟨rfl, fun _ h9 => nomatch h9⟩ ?_
      refine eW_iload_n 56 rfl rfl rfl ?_
      refine eW_iaload 57 rfl rfl 0 (Nat.ble_eq_true_of_le (by omega)) (show h4 72 = .inl (0, 124, .inl (eIA (eUp (A 8) q.toNat 0))) from hmh4.2.2.2.2.2.2.2.2.2) (by omega) (by omega) (by unfold i32; omega) (congrArg Int32.ofInt (eUp_eq rfl)) ?_
      refine eW_imul 58 rfl rfl ?_
      refine eW_aload_n 59 rfl rfl rfl ?_
      have hrq9 := tHr_c (show tmR T s (mUp A 8 (eUp (A 8) q.toNat 0)) from hT).1
      refine eW_callV 62 [.ref 63] [vI (10 * 0), vI q, .ref 72] [vI (tHr T), vI (10 * 0), vI q, .ref 72] rfl rfl rfl rfl (Nat.ble_eq_true_of_le (by omega)) hmh4.1 rfl rfl rfl (m_here (d := d + 0) hmh4 hN (show tmR T s (mUp A 8 (eUp (A 8) q.toNat 0)) from hT)) rfl rfl ?_
      refine eW_iadd 63 rfl rfl ?_
      refine eW_bipush 65 rfl rfl 48 rfl ?_
      refine eW_isub 66 rfl rfl ?_
      refine eW_iastore 67 rfl rfl (Nat.ble_eq_true_of_le (by omega)) (show h4 72 = .inl (0, 124, .inl (eIA (eUp (A 8) q.toNat 0))) from hmh4.2.2.2.2.2.2.2.2.2) (by omega) (by omega) (by unfold i32; omega) rfl ?_
      intro h10 eh10 oh10
      have hmh10 : mM h10 s (mUp A 8 (eUp (eUp (A 8) q.toNat 0) q.toNat (((10 * 0) + (tHr T)) - 48))) := mM_8 hmh4 eh10 oh10 ⟨rfl, rfl, rfl, rfl, rfl, rfl, rfl, rfl⟩
      have frh10 : mFr h h10 := mFr_a frh4 (by decide) oh10
      refine eW_aload_n 68 rfl rfl rfl ?_
      refine eW_dup 69 rfl rfl rfl ?_
      refine eW_getfield 72 rfl rfl (Nat.ble_eq_true_of_le (by omega)) rfl hmh10.1 rfl ⟨rfl, fun _ h9 => nomatch h9⟩ ?_
      refine eW_iconst 73 rfl rfl ?_
      refine eW_iadd 74 rfl rfl ?_
      refine eW_putfield 77 [.ref 64, .ref 65, .ref 66, .ref 67, vI (s 4), vI (s 5), vI (s 6), vI (s 7), vI (s 8), vI (s 9), .ref 68, vI (s 11), vI (s 12), .ref 69, vI (s 14), .ref 70, .ref 71, vI (s 17), vI (s 18), vI (s 19), vI ((s 20) + 1), .ref 72, vI (s 22)] rfl rfl (Nat.ble_eq_true_of_le (by omega)) rfl hmh10.1 rfl rfl ?_
      intro h11 eh11 oh11
      have hmh11 : mM h11 (sUp s 20 ((s 20) + 1)) (mUp A 8 (eUp (eUp (A 8) q.toNat 0) q.toNat (((10 * 0) + (tHr T)) - 48))) := mM_s (s := s) hmh10 eh11 oh11
      have frh11 : mFr h h11 := mFr_s frh10 oh11
      have hTh11 : tmR (tAdv T) (sUp s 20 ((s 20) + 1)) (mUp A 8 (eUp (eUp (A 8) q.toNat 0) q.toNat (((10 * 0) + (tHr T)) - 48))) := tmR_adv (show tmR T s (mUp A 8 (eUp (eUp (A 8) q.toNat 0) q.toNat (((10 * 0) + (tHr T)) - 48))) from hT) (by omega)
      refine eW_iinc 80 rfl rfl [(3, vI (0 + 1)), (0, .ref 63), (1, vI q), (2, vI 2)] rfl rfl rfl ?_
      refine eW_goto rfl ?_
      refine eW_iload_n 26 rfl rfl rfl ?_
      refine eW_iload_n 27 rfl rfl rfl ?_
      refine eW_icmp_ge 30 rfl rfl (by unfold i32; omega) (by unfold i32; omega) (fun c12 => absurd c12 (by omega)) (fun c12 => ?_)
      refine eW_aload_n 31 rfl rfl rfl ?_
      have hrq13 := tHr_c (show tmR (tAdv T) (sUp s 20 ((s 20) + 1)) (mUp A 8 (eUp (eUp (A 8) q.toNat 0) q.toNat (((10 * 0) + (tHr T)) - 48))) from hTh11).1
      refine eW_callV 34 [.ref 63] [] [vI (tHr (tAdv T))] rfl rfl rfl rfl (Nat.ble_eq_true_of_le (by omega)) (show h11 63 = .inr (11, [.ref 64, .ref 65, .ref 66, .ref 67, vI (s 4), vI (s 5), vI (s 6), vI (s 7), vI (s 8), vI (s 9), .ref 68, vI (s 11), vI (s 12), .ref 69, vI (s 14), .ref 70, .ref 71, vI (s 17), vI (s 18), vI (s 19), vI ((s 20) + 1), .ref 72, vI (s 22)]) from hmh11.1) rfl rfl rfl (m_here (d := d + 0) hmh11 hN (show tmR (tAdv T) (sUp s 20 ((s 20) + 1)) (mUp A 8 (eUp (eUp (A 8) q.toNat 0) q.toNat (((10 * 0) + (tHr T)) - 48))) from hTh11)) rfl rfl ?_
      refine eW_bipush 36 rfl rfl 48 rfl ?_
      refine eW_bipush 38 rfl rfl 57 rfl ?_
      have hinq14 := eD_c ((48 : Int) ≤ (tHr (tAdv T)) ∧ (tHr (tAdv T)) ≤ 57)
      refine eW_callS 41 [vI (tHr (tAdv T)), vI 48, vI 57] [] [vI (eB01 (decide ((48 : Int) ≤ (tHr (tAdv T)) ∧ (tHr (tAdv T)) ≤ 57)))] rfl rfl rfl (Or.inl rfl) rfl rfl rfl (m_in (d := d + 0) (by unfold i32; omega) (by unfold i32; omega) (by unfold i32; omega)) rfl rfl ?_
      refine eW_if_eq 44 rfl rfl (by unfold i32; omega) (fun c15 => ?_) (fun c15 => ?_)
      · refine eW_iconst 84 rfl rfl ?_
        refine eW_ret_i rfl rfl (Or.inr (Or.inl ⟨rfl, rfl⟩)) ?_
        have hd9 : 48 ≤ tSg T ∧ tSg T ≤ 57 := by omega
        have e9 : tDig w T = _ := tDig_t hd9
        have hg9 := tSg_adv (w := w) hd9
        have e7 : tDig w (tDig w T).2 = _ := tDig_f (by omega)
        have e8 : tNum w T = (true, (tDig w T).2) := by unfold tNum; rw [show (tDig w T).1 = true by rw [e9]]; dsimp only; rw [e7]
        rw [e8]
        refine ⟨_, rfl, _, ⟨(by have e6 := hmh11; rw [hT.2.2.1] at e6; rw [e9]; exact e6), frh11⟩, fun j hj => (eUp_ne hj).trans (eUp_ne hj), fun _ => ?_⟩
        rw [eUp_eq rfl, tNo_dig hT.1 hw ho hd9]; omega
      · refine eW_aload_n 45 rfl rfl rfl ?_
        refine eW_getfield 48 rfl rfl (Nat.ble_eq_true_of_le (by omega)) rfl (show h11 63 = .inr (11, [.ref 64, .ref 65, .ref 66, .ref 67, vI (s 4), vI (s 5), vI (s 6), vI (s 7), vI (s 8), vI (s 9), .ref 68, vI (s 11), vI (s 12), .ref 69, vI (s 14), .ref 70, .ref 71, vI (s 17), vI (s 18), vI (s 19), vI ((s 20) + 1), .ref 72, vI (s 22)]) from hmh11.1) rfl ⟨rfl, fun _ h9 => nomatch h9⟩ ?_
        refine eW_iload_n 49 rfl rfl rfl ?_
        refine eW_bipush 51 rfl rfl 10 rfl ?_
        refine eW_aload_n 52 rfl rfl rfl ?_
        refine eW_getfield 55 rfl rfl (Nat.ble_eq_true_of_le (by omega)) rfl (show h11 63 = .inr (11, [.ref 64, .ref 65, .ref 66, .ref 67, vI (s 4), vI (s 5), vI (s 6), vI (s 7), vI (s 8), vI (s 9), .ref 68, vI (s 11), vI (s 12), .ref 69, vI (s 14), .ref 70, .ref 71, vI (s 17), vI (s 18), vI (s 19), vI ((s 20) + 1), .ref 72, vI (s 22)]) from hmh11.1) rfl ⟨rfl, fun _ h9 => nomatch h9⟩ ?_
        refine eW_iload_n 56 rfl rfl rfl ?_
        refine eW_iaload 57 rfl rfl (((10 * 0) + (tHr T)) - 48) (Nat.ble_eq_true_of_le (by omega)) (show h11 72 = .inl (0, 124, .inl (eIA (eUp (eUp (A 8) q.toNat 0) q.toNat (((10 * 0) + (tHr T)) - 48)))) from hmh11.2.2.2.2.2.2.2.2.2) (by omega) (by omega) (by unfold i32; omega) (congrArg Int32.ofInt (eUp_eq rfl)) ?_
        refine eW_imul 58 rfl rfl ?_
        refine eW_aload_n 59 rfl rfl rfl ?_
        have hrq16 := tHr_c (show tmR (tAdv T) (sUp s 20 ((s 20) + 1)) (mUp A 8 (eUp (eUp (A 8) q.toNat 0) q.toNat (((10 * 0) + (tHr T)) - 48))) from hTh11).1
        refine eW_callV 62 [.ref 63] [vI (10 * (((10 * 0) + (tHr T)) - 48)), vI q, .ref 72] [vI (tHr (tAdv T)), vI (10 * (((10 * 0) + (tHr T)) - 48)), vI q, .ref 72] rfl rfl rfl rfl (Nat.ble_eq_true_of_le (by omega)) (show h11 63 = .inr (11, [.ref 64, .ref 65, .ref 66, .ref 67, vI (s 4), vI (s 5), vI (s 6), vI (s 7), vI (s 8), vI (s 9), .ref 68, vI (s 11), vI (s 12), .ref 69, vI (s 14), .ref 70, .ref 71, vI (s 17), vI (s 18), vI (s 19), vI ((s 20) + 1), .ref 72, vI (s 22)]) from hmh11.1) rfl rfl rfl (m_here (d := d + 0) hmh11 hN (show tmR (tAdv T) (sUp s 20 ((s 20) + 1)) (mUp A 8 (eUp (eUp (A 8) q.toNat 0) q.toNat (((10 * 0) + (tHr T)) - 48))) from hTh11)) rfl rfl ?_
        refine eW_iadd 63 rfl rfl ?_
        refine eW_bipush 65 rfl rfl 48 rfl ?_
        refine eW_isub 66 rfl rfl ?_
        refine eW_iastore 67 rfl rfl (Nat.ble_eq_true_of_le (by omega)) (show h11 72 = .inl (0, 124, .inl (eIA (eUp (eUp (A 8) q.toNat 0) q.toNat (((10 * 0) + (tHr T)) - 48)))) from hmh11.2.2.2.2.2.2.2.2.2) (by omega) (by omega) (by unfold i32; omega) rfl ?_
        intro h17 eh17 oh17
        have hmh17 : mM h17 (sUp s 20 ((s 20) + 1)) (mUp A 8 (eUp (eUp (eUp (A 8) q.toNat 0) q.toNat (((10 * 0) + (tHr T)) - 48)) q.toNat (((10 * (((10 * 0) + (tHr T)) - 48)) + (tHr (tAdv T))) - 48))) := mM_8 hmh11 eh17 oh17 ⟨rfl, rfl, rfl, rfl, rfl, rfl, rfl, rfl⟩
        have frh17 : mFr h h17 := mFr_a frh11 (by decide) oh17
        refine eW_aload_n 68 rfl rfl rfl ?_
        refine eW_dup 69 rfl rfl rfl ?_
        refine eW_getfield 72 rfl rfl (Nat.ble_eq_true_of_le (by omega)) rfl (show h17 63 = .inr (11, [.ref 64, .ref 65, .ref 66, .ref 67, vI (s 4), vI (s 5), vI (s 6), vI (s 7), vI (s 8), vI (s 9), .ref 68, vI (s 11), vI (s 12), .ref 69, vI (s 14), .ref 70, .ref 71, vI (s 17), vI (s 18), vI (s 19), vI ((s 20) + 1), .ref 72, vI (s 22)]) from hmh17.1) rfl ⟨rfl, fun _ h9 => nomatch h9⟩ ?_
        refine eW_iconst 73 rfl rfl ?_
        refine eW_iadd 74 rfl rfl ?_
        refine eW_putfield 77 [.ref 64, .ref 65, .ref 66, .ref 67, vI (s 4), vI (s 5), vI (s 6), vI (s 7), vI (s 8), vI (s 9), .ref 68, vI (s 11), vI (s 12), .ref 69, vI (s 14), .ref 70, .ref 71, vI (s 17), vI (s 18), vI (s 19), vI (((s 20) + 1) + 1), .ref 72, vI (s 22)] rfl rfl (Nat.ble_eq_true_of_le (by omega)) rfl (show h17 63 = .inr (11, [.ref 64, .ref 65, .ref 66, .ref 67, vI (s 4), vI (s 5), vI (s 6), vI (s 7), vI (s 8), vI (s 9), .ref 68, vI (s 11), vI (s 12), .ref 69, vI (s 14), .ref 70, .ref 71, vI (s 17), vI (s 18), vI (s 19), vI ((s 20) + 1), .ref 72, vI (s 22)]) from hmh17.1) rfl rfl ?_
        intro h18 eh18 oh18
        have hmh18 : mM h18 (sUp s 20 (((s 20) + 1) + 1)) (mUp A 8 (eUp (eUp (eUp (A 8) q.toNat 0) q.toNat (((10 * 0) + (tHr T)) - 48)) q.toNat (((10 * (((10 * 0) + (tHr T)) - 48)) + (tHr (tAdv T))) - 48))) := mM_s (s := (sUp s 20 ((s 20) + 1))) hmh17 eh18 oh18
        have frh18 : mFr h h18 := mFr_s frh17 oh18
        have hTh18 : tmR (tAdv (tAdv T)) (sUp s 20 (((s 20) + 1) + 1)) (mUp A 8 (eUp (eUp (eUp (A 8) q.toNat 0) q.toNat (((10 * 0) + (tHr T)) - 48)) q.toNat (((10 * (((10 * 0) + (tHr T)) - 48)) + (tHr (tAdv T))) - 48))) := tmR_adv (show tmR (tAdv T) (sUp s 20 ((s 20) + 1)) (mUp A 8 (eUp (eUp (eUp (A 8) q.toNat 0) q.toNat (((10 * 0) + (tHr T)) - 48)) q.toNat (((10 * (((10 * 0) + (tHr T)) - 48)) + (tHr (tAdv T))) - 48))) from hTh11) (by omega)
        refine eW_iinc 80 rfl rfl [(3, vI ((0 + 1) + 1)), (0, .ref 63), (1, vI q), (2, vI 2)] rfl rfl rfl ?_
        refine eW_goto rfl ?_
        refine eW_iload_n 26 rfl rfl rfl ?_
        refine eW_iload_n 27 rfl rfl rfl ?_
        refine eW_icmp_ge 30 rfl rfl (by unfold i32; omega) (by unfold i32; omega) (fun c19 => ?_) (fun c19 => absurd c19 (by omega))
        refine eW_iconst 84 rfl rfl ?_
        refine eW_ret_i rfl rfl (Or.inr (Or.inl ⟨rfl, rfl⟩)) ?_
        have hd9 : 48 ≤ tSg T ∧ tSg T ≤ 57 := by omega
        have e9 : tDig w T = _ := tDig_t hd9
        have hg9 := tSg_adv (w := w) hd9
        have e7 : tDig w (tDig w T).2 = _ := tDig_t (by omega)
        have e8 : tNum w T = (true, tSet w (tNo (tDig w T).2 T.2.2.2.2.2 w * 10 + tNo (tDig w (tDig w T).2).2 T.2.2.2.2.2 w) (tDig w (tDig w T).2).2) := by unfold tNum; rw [show (tDig w T).1 = true by rw [e9]]; dsimp only; rw [show (tDig w (tDig w T).2).1 = true by rw [e7]]
        have v1 : tNo (tDig w T).2 T.2.2.2.2.2 w = tSg T - 48 := tNo_dig hT.1 hw ho hd9
        have v2 : tNo (tDig w (tDig w T).2).2 T.2.2.2.2.2 w = tSg (tDig w T).2 - 48 := by have := tNo_dig (tDig_ok hT.1 hw ho).1 hw (by rw [(tDig_ok hT.1 hw ho).2.1]; exact ho) (show 48 ≤ tSg (tDig w T).2 ∧ tSg (tDig w T).2 ≤ 57 by omega); rw [(tDig_ok hT.1 hw ho).2.1] at this; exact this
        rw [e8]
        have e6 : (tSet w (tNo (tDig w T).2 T.2.2.2.2.2 w * 10 + tNo (tDig w (tDig w T).2).2 T.2.2.2.2.2 w) (tDig w (tDig w T).2).2).2.2.2.2.1 = s 20 + 1 + 1 := by rw [e7, e9, hT.2.2.1]; rfl
        refine ⟨_, rfl, _, ⟨(by rw [e6]; exact hmh18), frh18⟩, fun j hj => (eUp_ne hj).trans ((eUp_ne hj).trans (eUp_ne hj)), fun _ => ?_⟩
        rw [eUp_eq rfl, tNo_set hT.1 hw ho (show (tDig w (tDig w T).2).2.2.2.2.2.2 = T.2.2.2.2.2 by rw [e7, e9]), v1, v2]; omega
  · refine eW_iconst 15 rfl rfl ?_
    refine eW_ret_i rfl rfl (Or.inr (Or.inl ⟨rfl, rfl⟩)) ?_
    have e9 : tDig w T = _ := tDig_f (by omega)
    have e8 : tNum w T = (false, T) := by unfold tNum; rw [e9]
    rw [e8]
    exact ⟨_, rfl, A 8, ⟨mM_20 hm hT.2.2.1, fun _ _ => rfl⟩, fun _ _ => rfl, fun e => nomatch e⟩
