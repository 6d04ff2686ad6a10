/-! the law's helpers -/
theorem l_pit {d N : Nat} {h : eHp} {r : Int ⊕ String} {fs : List Value} {FF : Nat → eHp → Nat → Nat → Prop} (hN : 75 ≤ N) (h0 : h 0 = .inr (10, fs)) (hrow : lRow73 (h 73)) {p1 : Int} (hr : ∀ E, r = .inr E → E = nIAE ∨ E = nUOE) (hc : eSp d eM_X6_pit [.ref 0, vI p1] N h (lX 73 (fun a => vI a) r N h FF)) : eSp (d + 1) eM_L_pit [.ref 0, vI p1, .ref 73] N h (lR 73 lRow73 lH73 r [nIAE, nUOE] FF) := by
  refine eSp_of [(0, .ref 0), (1, vI p1), (2, .ref 73)] rfl rfl ?_
  refine eW_aload_n 1 rfl rfl rfl ?_
  refine eW_iconst 2 rfl rfl ?_
  refine eW_aload_n 3 rfl rfl rfl ?_
  refine eW_iload_n 4 rfl rfl rfl ?_
  have hs := eS_callV (ox := eOx) (M := eM_L_pit) (pc := 4) (lv := [(0, .ref 0), (1, vI p1), (2, .ref 73)]) (st := [vI p1, .ref 0, vI 0, .ref 73]) (N := N) (h := h) (k := 0) (z := 0) (a := 0) rfl rfl rfl (Nat.ble_eq_true_of_le (by omega)) h0 rfl
  refine eW_callN 7 (lv1 := [(0, .ref 0), (1, vI p1), (2, .ref 73)]) (r := [vI 0, .ref 73]) (PC := lX 73 (fun a => vI a) r N h FF) hs rfl hc (by simp only [vI, eClL, eClV, List.all_cons, List.all_nil, Bool.and_true, Bool.and_eq_true, Bool.true_and, Nat.ble_eq]; omega) (fun q hq => ?_)
  obtain ⟨N', h', k', z', e, hn, ew, hF⟩ := hq
  cases r with
  | inl a =>
    refine Or.inl ⟨some (vI a), N', h', k', z', e, rfl, ?_⟩
    show eWp _ _ _ (7, [(0, .ref 0), (1, vI p1), (2, .ref 73)], [vI a, vI 0, .ref 73], N', h', 0 + k', 0 + z') _
    refine eW_i2lx 8 rfl rfl ?_
    obtain ⟨F, hF7⟩ := hrow
    refine eW_lastorex 9 rfl rfl (Nat.ble_eq_true_of_le (by omega)) (ew.trans hF7) (by omega) (by omega) (by unfold i32; omega) ?_
    intro h2 eh2 oh2
    refine eW_goto rfl ?_
    refine eW_iconst 19 rfl rfl ?_
    refine eW_ret_i rfl rfl (Or.inl rfl) ?_
    exact lR_i hF oh2 ⟨_, eh2⟩ ⟨_, eh2, by simp [vp_updL]⟩
  | inr E =>
    rcases hr E rfl with e9 | e9
    · subst e9
      refine Or.inr ⟨_, N', h', k', z', 12, e, by decide +kernel, rfl, ?_⟩
      show eWp _ _ _ (12, [(0, .ref 0), (1, vI p1), (2, .ref 73)], [.retAddr 9], N', h', 0 + k', 0 + z') _
      refine eW_astore_n_out 13 rfl rfl [(3, .retAddr 9), (0, .ref 0), (1, vI p1), (2, .ref 73)] rfl rfl ?_
      refine eW_iconst 14 rfl rfl ?_
      refine eW_ret_i rfl rfl (Or.inl rfl) ?_
      exact lR_x hF (by rw [ew]; exact hrow) (by decide +kernel)
    · subst e9
      refine Or.inr ⟨_, N', h', k', z', 15, e, by decide +kernel, rfl, ?_⟩
      show eWp _ _ _ (15, [(0, .ref 0), (1, vI p1), (2, .ref 73)], [.retAddr 9], N', h', 0 + k', 0 + z') _
      refine eW_astore_n_out 16 rfl rfl [(3, .retAddr 9), (0, .ref 0), (1, vI p1), (2, .ref 73)] rfl rfl ?_
      refine eW_iconst 17 rfl rfl ?_
      refine eW_ret_i rfl rfl (Or.inl rfl) ?_
      exact lR_x hF (by rw [ew]; exact hrow) (by decide +kernel)
theorem l_digit {d N : Nat} {h : eHp} {r : Int ⊕ String} {fs : List Value} {FF : Nat → eHp → Nat → Nat → Prop} (hN : 75 ≤ N) (h0 : h 0 = .inr (10, fs)) (hrow : lRow73 (h 73)) {p1 : Int} {p2 : Int} (hr : ∀ E, r = .inr E → E = nIAE ∨ E = nUOE) (hc : eSp d eM_X6_digit [.ref 0, vI p1, vI p2] N h (lX 73 (fun a => vI a) r N h FF)) : eSp (d + 1) eM_L_digit [.ref 0, vI p1, vI p2, .ref 73] N h (lR 73 lRow73 lH73 r [nIAE, nUOE] FF) := by
  refine eSp_of [(0, .ref 0), (1, vI p1), (2, vI p2), (3, .ref 73)] rfl rfl ?_
  refine eW_aload_n 1 rfl rfl rfl ?_
  refine eW_iconst 2 rfl rfl ?_
  refine eW_aload_n 3 rfl rfl rfl ?_
  refine eW_iload_n 4 rfl rfl rfl ?_
  refine eW_iload_n 5 rfl rfl rfl ?_
  have hs := eS_callV (ox := eOx) (M := eM_L_digit) (pc := 5) (lv := [(0, .ref 0), (1, vI p1), (2, vI p2), (3, .ref 73)]) (st := [vI p2, vI p1, .ref 0, vI 0, .ref 73]) (N := N) (h := h) (k := 0) (z := 0) (a := 0) rfl rfl rfl (Nat.ble_eq_true_of_le (by omega)) h0 rfl
  refine eW_callN 8 (lv1 := [(0, .ref 0), (1, vI p1), (2, vI p2), (3, .ref 73)]) (r := [vI 0, .ref 73]) (PC := lX 73 (fun a => vI a) r N h FF) hs rfl hc (by simp only [vI, eClL, eClV, List.all_cons, List.all_nil, Bool.and_true, Bool.and_eq_true, Bool.true_and, Nat.ble_eq]; omega) (fun q hq => ?_)
  obtain ⟨N', h', k', z', e, hn, ew, hF⟩ := hq
  cases r with
  | inl a =>
    refine Or.inl ⟨some (vI a), N', h', k', z', e, rfl, ?_⟩
    show eWp _ _ _ (8, [(0, .ref 0), (1, vI p1), (2, vI p2), (3, .ref 73)], [vI a, vI 0, .ref 73], N', h', 0 + k', 0 + z') _
    refine eW_i2lx 9 rfl rfl ?_
    obtain ⟨F, hF7⟩ := hrow
    refine eW_lastorex 10 rfl rfl (Nat.ble_eq_true_of_le (by omega)) (ew.trans hF7) (by omega) (by omega) (by unfold i32; omega) ?_
    intro h2 eh2 oh2
    refine eW_goto rfl ?_
    refine eW_iconst 22 rfl rfl ?_
    refine eW_ret_i rfl rfl (Or.inl rfl) ?_
    exact lR_i hF oh2 ⟨_, eh2⟩ ⟨_, eh2, by simp [vp_updL]⟩
  | inr E =>
    rcases hr E rfl with e9 | e9
    · subst e9
      refine Or.inr ⟨_, N', h', k', z', 13, e, by decide +kernel, rfl, ?_⟩
      show eWp _ _ _ (13, [(0, .ref 0), (1, vI p1), (2, vI p2), (3, .ref 73)], [.retAddr 9], N', h', 0 + k', 0 + z') _
      refine eW_astore_out 15 rfl rfl [(4, .retAddr 9), (0, .ref 0), (1, vI p1), (2, vI p2), (3, .ref 73)] rfl rfl ?_
      refine eW_iconst 16 rfl rfl ?_
      refine eW_ret_i rfl rfl (Or.inl rfl) ?_
      exact lR_x hF (by rw [ew]; exact hrow) (by decide +kernel)
    · subst e9
      refine Or.inr ⟨_, N', h', k', z', 17, e, by decide +kernel, rfl, ?_⟩
      show eWp _ _ _ (17, [(0, .ref 0), (1, vI p1), (2, vI p2), (3, .ref 73)], [.retAddr 9], N', h', 0 + k', 0 + z') _
      refine eW_astore_out 19 rfl rfl [(4, .retAddr 9), (0, .ref 0), (1, vI p1), (2, vI p2), (3, .ref 73)] rfl rfl ?_
      refine eW_iconst 20 rfl rfl ?_
      refine eW_ret_i rfl rfl (Or.inl rfl) ?_
      exact lR_x hF (by rw [ew]; exact hrow) (by decide +kernel)
theorem l_digitOf {d N : Nat} {h : eHp} {r : Int ⊕ String} {fs : List Value} {FF : Nat → eHp → Nat → Nat → Prop} (hN : 75 ≤ N) (h0 : h 0 = .inr (10, fs)) (hrow : lRow73 (h 73)) {p1 : Int} (hr : ∀ E, r = .inr E → E = nIAE) (hc : eSp d eM_X6_digitOf [.ref 0, vI p1] N h (lX 73 (fun a => vI a) r N h FF)) : eSp (d + 1) eM_L_digitOf [.ref 0, vI p1, .ref 73] N h (lR 73 lRow73 lH73 r [nIAE] FF) := by
  refine eSp_of [(0, .ref 0), (1, vI p1), (2, .ref 73)] rfl rfl ?_
  refine eW_aload_n 1 rfl rfl rfl ?_
  refine eW_iconst 2 rfl rfl ?_
  refine eW_aload_n 3 rfl rfl rfl ?_
  refine eW_iload_n 4 rfl rfl rfl ?_
  have hs := eS_callV (ox := eOx) (M := eM_L_digitOf) (pc := 4) (lv := [(0, .ref 0), (1, vI p1), (2, .ref 73)]) (st := [vI p1, .ref 0, vI 0, .ref 73]) (N := N) (h := h) (k := 0) (z := 0) (a := 0) rfl rfl rfl (Nat.ble_eq_true_of_le (by omega)) h0 rfl
  refine eW_callN 7 (lv1 := [(0, .ref 0), (1, vI p1), (2, .ref 73)]) (r := [vI 0, .ref 73]) (PC := lX 73 (fun a => vI a) r N h FF) hs rfl hc (by simp only [vI, eClL, eClV, List.all_cons, List.all_nil, Bool.and_true, Bool.and_eq_true, Bool.true_and, Nat.ble_eq]; omega) (fun q hq => ?_)
  obtain ⟨N', h', k', z', e, hn, ew, hF⟩ := hq
  cases r with
  | inl a =>
    refine Or.inl ⟨some (vI a), N', h', k', z', e, rfl, ?_⟩
    show eWp _ _ _ (7, [(0, .ref 0), (1, vI p1), (2, .ref 73)], [vI a, vI 0, .ref 73], N', h', 0 + k', 0 + z') _
    refine eW_i2lx 8 rfl rfl ?_
    obtain ⟨F, hF7⟩ := hrow
    refine eW_lastorex 9 rfl rfl (Nat.ble_eq_true_of_le (by omega)) (ew.trans hF7) (by omega) (by omega) (by unfold i32; omega) ?_
    intro h2 eh2 oh2
    refine eW_goto rfl ?_
    refine eW_iconst 16 rfl rfl ?_
    refine eW_ret_i rfl rfl (Or.inl rfl) ?_
    exact lR_i hF oh2 ⟨_, eh2⟩ ⟨_, eh2, by simp [vp_updL]⟩
  | inr E =>
    have e9 := hr E rfl
    subst e9
    refine Or.inr ⟨_, N', h', k', z', 12, e, by decide +kernel, rfl, ?_⟩
    show eWp _ _ _ (12, [(0, .ref 0), (1, vI p1), (2, .ref 73)], [.retAddr 9], N', h', 0 + k', 0 + z') _
    refine eW_astore_n_out 13 rfl rfl [(3, .retAddr 9), (0, .ref 0), (1, vI p1), (2, .ref 73)] rfl rfl ?_
    refine eW_iconst 14 rfl rfl ?_
    refine eW_ret_i rfl rfl (Or.inl rfl) ?_
    exact lR_x hF (by rw [ew]; exact hrow) (by decide +kernel)
theorem l_pitOf {d N : Nat} {h : eHp} {r : Int ⊕ String} {fs : List Value} {FF : Nat → eHp → Nat → Nat → Prop} (hN : 75 ≤ N) (h0 : h 0 = .inr (10, fs)) (hrow : lRow73 (h 73)) {p1 : Int} {p2 : Int} (hr : ∀ E, r = .inr E → E = nIOB ∨ E = nIAE) (hc : eSp d eM_X6_pitOf [.ref 0, vI p1, vI p2] N h (lX 73 (fun a => vI a) r N h FF)) : eSp (d + 1) eM_L_pitOf [.ref 0, vI p1, vI p2, .ref 73] N h (lR 73 lRow73 lH73 r [nIOB, nIAE] FF) := by
  refine eSp_of [(0, .ref 0), (1, vI p1), (2, vI p2), (3, .ref 73)] rfl rfl ?_
  refine eW_aload_n 1 rfl rfl rfl ?_
  refine eW_iconst 2 rfl rfl ?_
  refine eW_aload_n 3 rfl rfl rfl ?_
  refine eW_iload_n 4 rfl rfl rfl ?_
  refine eW_iload_n 5 rfl rfl rfl ?_
  have hs := eS_callV (ox := eOx) (M := eM_L_pitOf) (pc := 5) (lv := [(0, .ref 0), (1, vI p1), (2, vI p2), (3, .ref 73)]) (st := [vI p2, vI p1, .ref 0, vI 0, .ref 73]) (N := N) (h := h) (k := 0) (z := 0) (a := 0) rfl rfl rfl (Nat.ble_eq_true_of_le (by omega)) h0 rfl
  refine eW_callN 8 (lv1 := [(0, .ref 0), (1, vI p1), (2, vI p2), (3, .ref 73)]) (r := [vI 0, .ref 73]) (PC := lX 73 (fun a => vI a) r N h FF) hs rfl hc (by simp only [vI, eClL, eClV, List.all_cons, List.all_nil, Bool.and_true, Bool.and_eq_true, Bool.true_and, Nat.ble_eq]; omega) (fun q hq => ?_)
  obtain ⟨N', h', k', z', e, hn, ew, hF⟩ := hq
  cases r with
  | inl a =>
    refine Or.inl ⟨some (vI a), N', h', k', z', e, rfl, ?_⟩
    show eWp _ _ _ (8, [(0, .ref 0), (1, vI p1), (2, vI p2), (3, .ref 73)], [vI a, vI 0, .ref 73], N', h', 0 + k', 0 + z') _
    refine eW_i2lx 9 rfl rfl ?_
    obtain ⟨F, hF7⟩ := hrow
    refine eW_lastorex 10 rfl rfl (Nat.ble_eq_true_of_le (by omega)) (ew.trans hF7) (by omega) (by omega) (by unfold i32; omega) ?_
    intro h2 eh2 oh2
    refine eW_goto rfl ?_
    refine eW_iconst 22 rfl rfl ?_
    refine eW_ret_i rfl rfl (Or.inl rfl) ?_
    exact lR_i hF oh2 ⟨_, eh2⟩ ⟨_, eh2, by simp [vp_updL]⟩
  | inr E =>
    rcases hr E rfl with e9 | e9
    · subst e9
      refine Or.inr ⟨_, N', h', k', z', 13, e, by decide +kernel, rfl, ?_⟩
      show eWp _ _ _ (13, [(0, .ref 0), (1, vI p1), (2, vI p2), (3, .ref 73)], [.retAddr 9], N', h', 0 + k', 0 + z') _
      refine eW_astore_out 15 rfl rfl [(4, .retAddr 9), (0, .ref 0), (1, vI p1), (2, vI p2), (3, .ref 73)] rfl rfl ?_
      refine eW_iconst 16 rfl rfl ?_
      refine eW_ret_i rfl rfl (Or.inl rfl) ?_
      exact lR_x hF (by rw [ew]; exact hrow) (by decide +kernel)
    · subst e9
      refine Or.inr ⟨_, N', h', k', z', 17, e, by decide +kernel, rfl, ?_⟩
      show eWp _ _ _ (17, [(0, .ref 0), (1, vI p1), (2, vI p2), (3, .ref 73)], [.retAddr 9], N', h', 0 + k', 0 + z') _
      refine eW_astore_out 19 rfl rfl [(4, .retAddr 9), (0, .ref 0), (1, vI p1), (2, vI p2), (3, .ref 73)] rfl rfl ?_
      refine eW_iconst 20 rfl rfl ?_
      refine eW_ret_i rfl rfl (Or.inl rfl) ?_
      exact lR_x hF (by rw [ew]; exact hrow) (by decide +kernel)
theorem l_ranked {d N : Nat} {h : eHp} {r : Int ⊕ String} {fs : List Value} {FF : Nat → eHp → Nat → Nat → Prop} (hN : 75 ≤ N) (h0 : h 0 = .inr (10, fs)) (hrow : lRow73 (h 73)) {p1 : Int} (hr : ∀ E, r = .inr E → E = nNSE) (hc : eSp d eM_X6_ranked [.ref 0, vI p1] N h (lX 73 (fun a => vI a) r N h FF)) : eSp (d + 1) eM_L_ranked [.ref 0, vI p1, .ref 73] N h (lR 73 lRow73 lH73 r [nNSE] FF) := by
  refine eSp_of [(0, .ref 0), (1, vI p1), (2, .ref 73)] rfl rfl ?_
  refine eW_aload_n 1 rfl rfl rfl ?_
  refine eW_iconst 2 rfl rfl ?_
  refine eW_aload_n 3 rfl rfl rfl ?_
  refine eW_iload_n 4 rfl rfl rfl ?_
  have hs := eS_callV (ox := eOx) (M := eM_L_ranked) (pc := 4) (lv := [(0, .ref 0), (1, vI p1), (2, .ref 73)]) (st := [vI p1, .ref 0, vI 0, .ref 73]) (N := N) (h := h) (k := 0) (z := 0) (a := 0) rfl rfl rfl (Nat.ble_eq_true_of_le (by omega)) h0 rfl
  refine eW_callN 7 (lv1 := [(0, .ref 0), (1, vI p1), (2, .ref 73)]) (r := [vI 0, .ref 73]) (PC := lX 73 (fun a => vI a) r N h FF) hs rfl hc (by simp only [vI, eClL, eClV, List.all_cons, List.all_nil, Bool.and_true, Bool.and_eq_true, Bool.true_and, Nat.ble_eq]; omega) (fun q hq => ?_)
  obtain ⟨N', h', k', z', e, hn, ew, hF⟩ := hq
  cases r with
  | inl a =>
    refine Or.inl ⟨some (vI a), N', h', k', z', e, rfl, ?_⟩
    show eWp _ _ _ (7, [(0, .ref 0), (1, vI p1), (2, .ref 73)], [vI a, vI 0, .ref 73], N', h', 0 + k', 0 + z') _
    refine eW_i2lx 8 rfl rfl ?_
    obtain ⟨F, hF7⟩ := hrow
    refine eW_lastorex 9 rfl rfl (Nat.ble_eq_true_of_le (by omega)) (ew.trans hF7) (by omega) (by omega) (by unfold i32; omega) ?_
    intro h2 eh2 oh2
    refine eW_goto rfl ?_
    refine eW_iconst 16 rfl rfl ?_
    refine eW_ret_i rfl rfl (Or.inl rfl) ?_
    exact lR_i hF oh2 ⟨_, eh2⟩ ⟨_, eh2, by simp [vp_updL]⟩
  | inr E =>
    have e9 := hr E rfl
    subst e9
    refine Or.inr ⟨_, N', h', k', z', 12, e, by decide +kernel, rfl, ?_⟩
    show eWp _ _ _ (12, [(0, .ref 0), (1, vI p1), (2, .ref 73)], [.retAddr 9], N', h', 0 + k', 0 + z') _
    refine eW_astore_n_out 13 rfl rfl [(3, .retAddr 9), (0, .ref 0), (1, vI p1), (2, .ref 73)] rfl rfl ?_
    refine eW_iconst 14 rfl rfl ?_
    refine eW_ret_i rfl rfl (Or.inl rfl) ?_
    exact lR_x hF (by rw [ew]; exact hrow) (by decide +kernel)
theorem l_scoop {d N : Nat} {h : eHp} {r : Int ⊕ String} {fs : List Value} {FF : Nat → eHp → Nat → Nat → Prop} (hN : 75 ≤ N) (h0 : h 0 = .inr (10, fs)) (hrow : lRow73 (h 73)) {p1 : Int} {p2 : Int} {p3 : Int} (hr : ∀ E, r = .inr E → E = nIOB ∨ E = nIAE ∨ E = nUOE) (hc : eSp d eM_X6_scoop [.ref 0, vI p1, vI p2, vI p3] N h (lX 73 (fun a => vI a) r N h FF)) : eSp (d + 1) eM_L_scoop [.ref 0, vI p1, vI p2, vI p3, .ref 73] N h (lR 73 lRow73 lH73 r [nIOB, nIAE, nUOE] FF) := by
  refine eSp_of [(0, .ref 0), (1, vI p1), (2, vI p2), (3, vI p3), (4, .ref 73)] rfl rfl ?_
  refine eW_aload 2 rfl rfl rfl ?_
  refine eW_iconst 3 rfl rfl ?_
  refine eW_aload_n 4 rfl rfl rfl ?_
  refine eW_iload_n 5 rfl rfl rfl ?_
  refine eW_iload_n 6 rfl rfl rfl ?_
  refine eW_iload_n 7 rfl rfl rfl ?_
  have hs := eS_callV (ox := eOx) (M := eM_L_scoop) (pc := 7) (lv := [(0, .ref 0), (1, vI p1), (2, vI p2), (3, vI p3), (4, .ref 73)]) (st := [vI p3, vI p2, vI p1, .ref 0, vI 0, .ref 73]) (N := N) (h := h) (k := 0) (z := 0) (a := 0) rfl rfl rfl (Nat.ble_eq_true_of_le (by omega)) h0 rfl
  refine eW_callN 10 (lv1 := [(0, .ref 0), (1, vI p1), (2, vI p2), (3, vI p3), (4, .ref 73)]) (r := [vI 0, .ref 73]) (PC := lX 73 (fun a => vI a) r N h FF) hs rfl hc (by simp only [vI, eClL, eClV, List.all_cons, List.all_nil, Bool.and_true, Bool.and_eq_true, Bool.true_and, Nat.ble_eq]; omega) (fun q hq => ?_)
  obtain ⟨N', h', k', z', e, hn, ew, hF⟩ := hq
  cases r with
  | inl a =>
    refine Or.inl ⟨some (vI a), N', h', k', z', e, rfl, ?_⟩
    show eWp _ _ _ (10, [(0, .ref 0), (1, vI p1), (2, vI p2), (3, vI p3), (4, .ref 73)], [vI a, vI 0, .ref 73], N', h', 0 + k', 0 + z') _
    refine eW_i2lx 11 rfl rfl ?_
    obtain ⟨F, hF7⟩ := hrow
    refine eW_lastorex 12 rfl rfl (Nat.ble_eq_true_of_le (by omega)) (ew.trans hF7) (by omega) (by omega) (by unfold i32; omega) ?_
    intro h2 eh2 oh2
    refine eW_goto rfl ?_
    refine eW_iconst 28 rfl rfl ?_
    refine eW_ret_i rfl rfl (Or.inl rfl) ?_
    exact lR_i hF oh2 ⟨_, eh2⟩ ⟨_, eh2, by simp [vp_updL]⟩
  | inr E =>
    rcases hr E rfl with e9 | e9 | e9
    · subst e9
      refine Or.inr ⟨_, N', h', k', z', 15, e, by decide +kernel, rfl, ?_⟩
      show eWp _ _ _ (15, [(0, .ref 0), (1, vI p1), (2, vI p2), (3, vI p3), (4, .ref 73)], [.retAddr 9], N', h', 0 + k', 0 + z') _
      refine eW_astore_out 17 rfl rfl [(5, .retAddr 9), (0, .ref 0), (1, vI p1), (2, vI p2), (3, vI p3), (4, .ref 73)] rfl rfl ?_
      refine eW_iconst 18 rfl rfl ?_
      refine eW_ret_i rfl rfl (Or.inl rfl) ?_
      exact lR_x hF (by rw [ew]; exact hrow) (by decide +kernel)
    · subst e9
      refine Or.inr ⟨_, N', h', k', z', 19, e, by decide +kernel, rfl, ?_⟩
      show eWp _ _ _ (19, [(0, .ref 0), (1, vI p1), (2, vI p2), (3, vI p3), (4, .ref 73)], [.retAddr 9], N', h', 0 + k', 0 + z') _
      refine eW_astore_out 21 rfl rfl [(5, .retAddr 9), (0, .ref 0), (1, vI p1), (2, vI p2), (3, vI p3), (4, .ref 73)] rfl rfl ?_
      refine eW_iconst 22 rfl rfl ?_
      refine eW_ret_i rfl rfl (Or.inl rfl) ?_
      exact lR_x hF (by rw [ew]; exact hrow) (by decide +kernel)
    · subst e9
      refine Or.inr ⟨_, N', h', k', z', 23, e, by decide +kernel, rfl, ?_⟩
      show eWp _ _ _ (23, [(0, .ref 0), (1, vI p1), (2, vI p2), (3, vI p3), (4, .ref 73)], [.retAddr 9], N', h', 0 + k', 0 + z') _
      refine eW_astore_out 25 rfl rfl [(5, .retAddr 9), (0, .ref 0), (1, vI p1), (2, vI p2), (3, vI p3), (4, .ref 73)] rfl rfl ?_
      refine eW_iconst 26 rfl rfl ?_
      refine eW_ret_i rfl rfl (Or.inl rfl) ?_
      exact lR_x hF (by rw [ew]; exact hrow) (by decide +kernel)
theorem l_play {d N : Nat} {h : eHp} {r : Int ⊕ String} {fs : List Value} {FF : Nat → eHp → Nat → Nat → Prop} (hN : 75 ≤ N) (h0 : h 0 = .inr (10, fs)) (hrow : lRow73 (h 73)) (hr : ∀ E, r = .inr E → E = nNSE) (hc : eSp d eM_X6_play [.ref 0] N h (lX 73 (fun a => vI a) r N h FF)) : eSp (d + 1) eM_L_play [.ref 0, .ref 73] N h (lR 73 lRow73 lH73 r [nNSE] FF) := by
  refine eSp_of [(0, .ref 0), (1, .ref 73)] rfl rfl ?_
  refine eW_aload_n 1 rfl rfl rfl ?_
  refine eW_iconst 2 rfl rfl ?_
  refine eW_aload_n 3 rfl rfl rfl ?_
  have hs := eS_callV (ox := eOx) (M := eM_L_play) (pc := 3) (lv := [(0, .ref 0), (1, .ref 73)]) (st := [.ref 0, vI 0, .ref 73]) (N := N) (h := h) (k := 0) (z := 0) (a := 0) rfl rfl rfl (Nat.ble_eq_true_of_le (by omega)) h0 rfl
  refine eW_callN 6 (lv1 := [(0, .ref 0), (1, .ref 73)]) (r := [vI 0, .ref 73]) (PC := lX 73 (fun a => vI a) r N h FF) hs rfl hc (by simp only [vI, eClL, eClV, List.all_cons, List.all_nil, Bool.and_true, Bool.and_eq_true, Bool.true_and, Nat.ble_eq]; omega) (fun q hq => ?_)
  obtain ⟨N', h', k', z', e, hn, ew, hF⟩ := hq
  cases r with
  | inl a =>
    refine Or.inl ⟨some (vI a), N', h', k', z', e, rfl, ?_⟩
    show eWp _ _ _ (6, [(0, .ref 0), (1, .ref 73)], [vI a, vI 0, .ref 73], N', h', 0 + k', 0 + z') _
    refine eW_i2lx 7 rfl rfl ?_
    obtain ⟨F, hF7⟩ := hrow
    refine eW_lastorex 8 rfl rfl (Nat.ble_eq_true_of_le (by omega)) (ew.trans hF7) (by omega) (by omega) (by unfold i32; omega) ?_
    intro h2 eh2 oh2
    refine eW_goto rfl ?_
    refine eW_iconst 15 rfl rfl ?_
    refine eW_ret_i rfl rfl (Or.inl rfl) ?_
    exact lR_i hF oh2 ⟨_, eh2⟩ ⟨_, eh2, by simp [vp_updL]⟩
  | inr E =>
    have e9 := hr E rfl
    subst e9
    refine Or.inr ⟨_, N', h', k', z', 11, e, by decide +kernel, rfl, ?_⟩
    show eWp _ _ _ (11, [(0, .ref 0), (1, .ref 73)], [.retAddr 9], N', h', 0 + k', 0 + z') _
    refine eW_astore_n_out 12 rfl rfl [(2, .retAddr 9), (0, .ref 0), (1, .ref 73)] rfl rfl ?_
    refine eW_iconst 13 rfl rfl ?_
    refine eW_ret_i rfl rfl (Or.inl rfl) ?_
    exact lR_x hF (by rw [ew]; exact hrow) (by decide +kernel)
theorem l_scoopAt {d N : Nat} {h : eHp} {r : Int ⊕ String} {fs : List Value} {FF : Nat → eHp → Nat → Nat → Prop} (hN : 75 ≤ N) (h0 : h 0 = .inr (10, fs)) (hrow : lRow73 (h 73)) {p1 : Int} {p2 : Int} (hr : ∀ E, r = .inr E → E = nNSE ∨ E = nIAE) (hc : eSp d eM_X6_scoopAt [.ref 0, vI p1, vI p2] N h (lX 73 (fun a => vI a) r N h FF)) : eSp (d + 1) eM_L_scoopAt [.ref 0, vI p1, vI p2, .ref 73] N h (lR 73 lRow73 lH73 r [nNSE, nIAE] FF) := by
  refine eSp_of [(0, .ref 0), (1, vI p1), (2, vI p2), (3, .ref 73)] rfl rfl ?_
  refine eW_aload_n 1 rfl rfl rfl ?_
  refine eW_iconst 2 rfl rfl ?_
  refine eW_aload_n 3 rfl rfl rfl ?_
  refine eW_iload_n 4 rfl rfl rfl ?_
  refine eW_iload_n 5 rfl rfl rfl ?_
  have hs := eS_callV (ox := eOx) (M := eM_L_scoopAt) (pc := 5) (lv := [(0, .ref 0), (1, vI p1), (2, vI p2), (3, .ref 73)]) (st := [vI p2, vI p1, .ref 0, vI 0, .ref 73]) (N := N) (h := h) (k := 0) (z := 0) (a := 0) rfl rfl rfl (Nat.ble_eq_true_of_le (by omega)) h0 rfl
  refine eW_callN 8 (lv1 := [(0, .ref 0), (1, vI p1), (2, vI p2), (3, .ref 73)]) (r := [vI 0, .ref 73]) (PC := lX 73 (fun a => vI a) r N h FF) hs rfl hc (by simp only [vI, eClL, eClV, List.all_cons, List.all_nil, Bool.and_true, Bool.and_eq_true, Bool.true_and, Nat.ble_eq]; omega) (fun q hq => ?_)
  obtain ⟨N', h', k', z', e, hn, ew, hF⟩ := hq
  cases r with
  | inl a =>
    refine Or.inl ⟨some (vI a), N', h', k', z', e, rfl, ?_⟩
    show eWp _ _ _ (8, [(0, .ref 0), (1, vI p1), (2, vI p2), (3, .ref 73)], [vI a, vI 0, .ref 73], N', h', 0 + k', 0 + z') _
    refine eW_i2lx 9 rfl rfl ?_
    obtain ⟨F, hF7⟩ := hrow
    refine eW_lastorex 10 rfl rfl (Nat.ble_eq_true_of_le (by omega)) (ew.trans hF7) (by omega) (by omega) (by unfold i32; omega) ?_
    intro h2 eh2 oh2
    refine eW_goto rfl ?_
    refine eW_iconst 22 rfl rfl ?_
    refine eW_ret_i rfl rfl (Or.inl rfl) ?_
    exact lR_i hF oh2 ⟨_, eh2⟩ ⟨_, eh2, by simp [vp_updL]⟩
  | inr E =>
    rcases hr E rfl with e9 | e9
    · subst e9
      refine Or.inr ⟨_, N', h', k', z', 13, e, by decide +kernel, rfl, ?_⟩
      show eWp _ _ _ (13, [(0, .ref 0), (1, vI p1), (2, vI p2), (3, .ref 73)], [.retAddr 9], N', h', 0 + k', 0 + z') _
      refine eW_astore_out 15 rfl rfl [(4, .retAddr 9), (0, .ref 0), (1, vI p1), (2, vI p2), (3, .ref 73)] rfl rfl ?_
      refine eW_iconst 16 rfl rfl ?_
      refine eW_ret_i rfl rfl (Or.inl rfl) ?_
      exact lR_x hF (by rw [ew]; exact hrow) (by decide +kernel)
    · subst e9
      refine Or.inr ⟨_, N', h', k', z', 17, e, by decide +kernel, rfl, ?_⟩
      show eWp _ _ _ (17, [(0, .ref 0), (1, vI p1), (2, vI p2), (3, .ref 73)], [.retAddr 9], N', h', 0 + k', 0 + z') _
      refine eW_astore_out 19 rfl rfl [(4, .retAddr 9), (0, .ref 0), (1, vI p1), (2, vI p2), (3, .ref 73)] rfl rfl ?_
      refine eW_iconst 20 rfl rfl ?_
      refine eW_ret_i rfl rfl (Or.inl rfl) ?_
      exact lR_x hF (by rw [ew]; exact hrow) (by decide +kernel)
theorem l_told {d N : Nat} {h : eHp} {r : Int ⊕ String} {fs : List Value} {FF : Nat → eHp → Nat → Nat → Prop} (hN : 75 ≤ N) (h0 : h 0 = .inr (10, fs)) (hrow : lRow73 (h 73)) {p1 : Int} (hr : ∀ E, r = .inr E → E = nNSE ∨ E = nIAE) (hc : eSp d eM_X6_told [.ref 0, vI p1] N h (lX 73 (fun a => vI a) r N h FF)) : eSp (d + 1) eM_L_told [.ref 0, vI p1, .ref 73] N h (lR 73 lRow73 lH73 r [nNSE, nIAE] FF) := by
  refine eSp_of [(0, .ref 0), (1, vI p1), (2, .ref 73)] rfl rfl ?_
  refine eW_aload_n 1 rfl rfl rfl ?_
  refine eW_iconst 2 rfl rfl ?_
  refine eW_aload_n 3 rfl rfl rfl ?_
  refine eW_iload_n 4 rfl rfl rfl ?_
  have hs := eS_callV (ox := eOx) (M := eM_L_told) (pc := 4) (lv := [(0, .ref 0), (1, vI p1), (2, .ref 73)]) (st := [vI p1, .ref 0, vI 0, .ref 73]) (N := N) (h := h) (k := 0) (z := 0) (a := 0) rfl rfl rfl (Nat.ble_eq_true_of_le (by omega)) h0 rfl
  refine eW_callN 7 (lv1 := [(0, .ref 0), (1, vI p1), (2, .ref 73)]) (r := [vI 0, .ref 73]) (PC := lX 73 (fun a => vI a) r N h FF) hs rfl hc (by simp only [vI, eClL, eClV, List.all_cons, List.all_nil, Bool.and_true, Bool.and_eq_true, Bool.true_and, Nat.ble_eq]; omega) (fun q hq => ?_)
  obtain ⟨N', h', k', z', e, hn, ew, hF⟩ := hq
  cases r with
  | inl a =>
    refine Or.inl ⟨some (vI a), N', h', k', z', e, rfl, ?_⟩
    show eWp _ _ _ (7, [(0, .ref 0), (1, vI p1), (2, .ref 73)], [vI a, vI 0, .ref 73], N', h', 0 + k', 0 + z') _
    refine eW_i2lx 8 rfl rfl ?_
    obtain ⟨F, hF7⟩ := hrow
    refine eW_lastorex 9 rfl rfl (Nat.ble_eq_true_of_le (by omega)) (ew.trans hF7) (by omega) (by omega) (by unfold i32; omega) ?_
    intro h2 eh2 oh2
    refine eW_goto rfl ?_
    refine eW_iconst 19 rfl rfl ?_
    refine eW_ret_i rfl rfl (Or.inl rfl) ?_
    exact lR_i hF oh2 ⟨_, eh2⟩ ⟨_, eh2, by simp [vp_updL]⟩
  | inr E =>
    rcases hr E rfl with e9 | e9
    · subst e9
      refine Or.inr ⟨_, N', h', k', z', 12, e, by decide +kernel, rfl, ?_⟩
      show eWp _ _ _ (12, [(0, .ref 0), (1, vI p1), (2, .ref 73)], [.retAddr 9], N', h', 0 + k', 0 + z') _
      refine eW_astore_n_out 13 rfl rfl [(3, .retAddr 9), (0, .ref 0), (1, vI p1), (2, .ref 73)] rfl rfl ?_
      refine eW_iconst 14 rfl rfl ?_
      refine eW_ret_i rfl rfl (Or.inl rfl) ?_
      exact lR_x hF (by rw [ew]; exact hrow) (by decide +kernel)
    · subst e9
      refine Or.inr ⟨_, N', h', k', z', 15, e, by decide +kernel, rfl, ?_⟩
      show eWp _ _ _ (15, [(0, .ref 0), (1, vI p1), (2, .ref 73)], [.retAddr 9], N', h', 0 + k', 0 + z') _
      refine eW_astore_n_out 16 rfl rfl [(3, .retAddr 9), (0, .ref 0), (1, vI p1), (2, .ref 73)] rfl rfl ?_
      refine eW_iconst 17 rfl rfl ?_
      refine eW_ret_i rfl rfl (Or.inl rfl) ?_
      exact lR_x hF (by rw [ew]; exact hrow) (by decide +kernel)
theorem l_wins {d N : Nat} {h : eHp} {r : Int ⊕ String} {fs : List Value} {FF : Nat → eHp → Nat → Nat → Prop} (hN : 75 ≤ N) (h0 : h 0 = .inr (10, fs)) (hrow : lRow73 (h 73)) {p1 : Int} (hr : ∀ E, r = .inr E → E = nISE) (hb : ∀ a, r = .inl a → a = 0 ∨ a = 1) (hc : eSp d eM_X6_wins [.ref 0, vI p1] N h (lX 73 (fun a => vI a) r N h FF)) : eSp (d + 1) eM_L_wins [.ref 0, vI p1, .ref 73] N h (lR 73 lRow73 lH73 r [nISE] FF) := by
  refine eSp_of [(0, .ref 0), (1, vI p1), (2, .ref 73)] rfl rfl ?_
  refine eW_aload_n 1 rfl rfl rfl ?_
  refine eW_iconst 2 rfl rfl ?_
  refine eW_aload_n 3 rfl rfl rfl ?_
  refine eW_iload_n 4 rfl rfl rfl ?_
  have hs := eS_callV (ox := eOx) (M := eM_L_wins) (pc := 4) (lv := [(0, .ref 0), (1, vI p1), (2, .ref 73)]) (st := [vI p1, .ref 0, vI 0, .ref 73]) (N := N) (h := h) (k := 0) (z := 0) (a := 0) rfl rfl rfl (Nat.ble_eq_true_of_le (by omega)) h0 rfl
  refine eW_callN 7 (lv1 := [(0, .ref 0), (1, vI p1), (2, .ref 73)]) (r := [vI 0, .ref 73]) (PC := lX 73 (fun a => vI a) r N h FF) hs rfl hc (by simp only [vI, eClL, eClV, List.all_cons, List.all_nil, Bool.and_true, Bool.and_eq_true, Bool.true_and, Nat.ble_eq]; omega) (fun q hq => ?_)
  obtain ⟨N', h', k', z', e, hn, ew, hF⟩ := hq
  cases r with
  | inl a =>
    refine Or.inl ⟨some (vI a), N', h', k', z', e, rfl, ?_⟩
    show eWp _ _ _ (7, [(0, .ref 0), (1, vI p1), (2, .ref 73)], [vI a, vI 0, .ref 73], N', h', 0 + k', 0 + z') _
    rcases hb a rfl with e01 | e01 <;> subst e01
    · refine eW_if_eq 10 rfl rfl (by unfold i32; omega) (fun c1 => ?_) (fun c1 => absurd c1 (by omega))
      refine eW_lconst 15 rfl rfl 0 rfl ?_
      obtain ⟨F, hF7⟩ := hrow
      refine eW_lastorex 16 rfl rfl (Nat.ble_eq_true_of_le (by omega)) (ew.trans hF7) (by omega) (by omega) (by unfold i32; omega) ?_
      intro h2 eh2 oh2
      refine eW_goto rfl ?_
      refine eW_iconst 23 rfl rfl ?_
      refine eW_ret_i rfl rfl (Or.inl rfl) ?_
      exact lR_i hF oh2 ⟨_, eh2⟩ ⟨_, eh2, (show vp_updL F (0 : Int).toNat (Int64.ofInt 0) 0 = _ from by simp [vp_updL])⟩
    · refine eW_if_eq 10 rfl rfl (by unfold i32; omega) (fun c1 => absurd c1 (by omega)) (fun c1 => ?_)
      refine eW_lconst 11 rfl rfl 1 rfl ?_
      refine eW_goto rfl ?_
      obtain ⟨F, hF7⟩ := hrow
      refine eW_lastorex 16 rfl rfl (Nat.ble_eq_true_of_le (by omega)) (ew.trans hF7) (by omega) (by omega) (by unfold i32; omega) ?_
      intro h2 eh2 oh2
      refine eW_goto rfl ?_
      refine eW_iconst 23 rfl rfl ?_
      refine eW_ret_i rfl rfl (Or.inl rfl) ?_
      exact lR_i hF oh2 ⟨_, eh2⟩ ⟨_, eh2, (show vp_updL F (0 : Int).toNat (Int64.ofInt 1) 0 = _ from by simp [vp_updL])⟩
  | inr E =>
    have e9 := hr E rfl
    subst e9
    refine Or.inr ⟨_, N', h', k', z', 19, e, by decide +kernel, rfl, ?_⟩
    show eWp _ _ _ (19, [(0, .ref 0), (1, vI p1), (2, .ref 73)], [.retAddr 9], N', h', 0 + k', 0 + z') _
    refine eW_astore_n_out 20 rfl rfl [(3, .retAddr 9), (0, .ref 0), (1, vI p1), (2, .ref 73)] rfl rfl ?_
    refine eW_iconst 21 rfl rfl ?_
    refine eW_ret_i rfl rfl (Or.inl rfl) ?_
    exact lR_x hF (by rw [ew]; exact hrow) (by decide +kernel)
theorem l_next {d N : Nat} {h : eHp} {r : Int ⊕ String} {fs : List Value} {FF : Nat → eHp → Nat → Nat → Prop} (hN : 75 ≤ N) (h0 : h 0 = .inr (10, fs)) (hrow : lRow73 (h 73)) (hr : ∀ E, r = .inr E → E = nUOE) (hc : eSp d eM_X6_next [.ref 0] N h (lX 73 (fun a => vI a) r N h FF)) : eSp (d + 1) eM_L_next [.ref 0, .ref 73] N h (lR 73 lRow73 lH73 r [nUOE] FF) := by
  refine eSp_of [(0, .ref 0), (1, .ref 73)] rfl rfl ?_
  refine eW_aload_n 1 rfl rfl rfl ?_
  refine eW_iconst 2 rfl rfl ?_
  refine eW_aload_n 3 rfl rfl rfl ?_
  have hs := eS_callV (ox := eOx) (M := eM_L_next) (pc := 3) (lv := [(0, .ref 0), (1, .ref 73)]) (st := [.ref 0, vI 0, .ref 73]) (N := N) (h := h) (k := 0) (z := 0) (a := 0) rfl rfl rfl (Nat.ble_eq_true_of_le (by omega)) h0 rfl
  refine eW_callN 6 (lv1 := [(0, .ref 0), (1, .ref 73)]) (r := [vI 0, .ref 73]) (PC := lX 73 (fun a => vI a) r N h FF) hs rfl hc (by simp only [vI, eClL, eClV, List.all_cons, List.all_nil, Bool.and_true, Bool.and_eq_true, Bool.true_and, Nat.ble_eq]; omega) (fun q hq => ?_)
  obtain ⟨N', h', k', z', e, hn, ew, hF⟩ := hq
  cases r with
  | inl a =>
    refine Or.inl ⟨some (vI a), N', h', k', z', e, rfl, ?_⟩
    show eWp _ _ _ (6, [(0, .ref 0), (1, .ref 73)], [vI a, vI 0, .ref 73], N', h', 0 + k', 0 + z') _
    refine eW_i2lx 7 rfl rfl ?_
    obtain ⟨F, hF7⟩ := hrow
    refine eW_lastorex 8 rfl rfl (Nat.ble_eq_true_of_le (by omega)) (ew.trans hF7) (by omega) (by omega) (by unfold i32; omega) ?_
    intro h2 eh2 oh2
    refine eW_goto rfl ?_
    refine eW_iconst 15 rfl rfl ?_
    refine eW_ret_i rfl rfl (Or.inl rfl) ?_
    exact lR_i hF oh2 ⟨_, eh2⟩ ⟨_, eh2, by simp [vp_updL]⟩
  | inr E =>
    have e9 := hr E rfl
    subst e9
    refine Or.inr ⟨_, N', h', k', z', 11, e, by decide +kernel, rfl, ?_⟩
    show eWp _ _ _ (11, [(0, .ref 0), (1, .ref 73)], [.retAddr 9], N', h', 0 + k', 0 + z') _
    refine eW_astore_n_out 12 rfl rfl [(2, .retAddr 9), (0, .ref 0), (1, .ref 73)] rfl rfl ?_
    refine eW_iconst 13 rfl rfl ?_
    refine eW_ret_i rfl rfl (Or.inl rfl) ?_
    exact lR_x hF (by rw [ew]; exact hrow) (by decide +kernel)
theorem l_monkOf {d N : Nat} {h : eHp} {r : Int ⊕ String} {fs : List Value} {FF : Nat → eHp → Nat → Nat → Prop} (hN : 75 ≤ N) (h0 : h 0 = .inr (10, fs)) (hrow : lRow73 (h 73)) {p1 : Int} {p2 : Int} (hr : ∀ E, r = .inr E → E = nIOB ∨ E = nIAE) (hc : eSp d eM_X6_monkOf [.ref 0, vI p1, vI p2] N h (lX 73 (fun a => vI a) r N h FF)) : eSp (d + 1) eM_L_monkOf [.ref 0, vI p1, vI p2, .ref 73] N h (lR 73 lRow73 lH73 r [nIOB, nIAE] FF) := by
  refine eSp_of [(0, .ref 0), (1, vI p1), (2, vI p2), (3, .ref 73)] rfl rfl ?_
  refine eW_aload_n 1 rfl rfl rfl ?_
  refine eW_iconst 2 rfl rfl ?_
  refine eW_aload_n 3 rfl rfl rfl ?_
  refine eW_iload_n 4 rfl rfl rfl ?_
  refine eW_iload_n 5 rfl rfl rfl ?_
  have hs := eS_callV (ox := eOx) (M := eM_L_monkOf) (pc := 5) (lv := [(0, .ref 0), (1, vI p1), (2, vI p2), (3, .ref 73)]) (st := [vI p2, vI p1, .ref 0, vI 0, .ref 73]) (N := N) (h := h) (k := 0) (z := 0) (a := 0) rfl rfl rfl (Nat.ble_eq_true_of_le (by omega)) h0 rfl
  refine eW_callN 8 (lv1 := [(0, .ref 0), (1, vI p1), (2, vI p2), (3, .ref 73)]) (r := [vI 0, .ref 73]) (PC := lX 73 (fun a => vI a) r N h FF) hs rfl hc (by simp only [vI, eClL, eClV, List.all_cons, List.all_nil, Bool.and_true, Bool.and_eq_true, Bool.true_and, Nat.ble_eq]; omega) (fun q hq => ?_)
  obtain ⟨N', h', k', z', e, hn, ew, hF⟩ := hq
  cases r with
  | inl a =>
    refine Or.inl ⟨some (vI a), N', h', k', z', e, rfl, ?_⟩
    show eWp _ _ _ (8, [(0, .ref 0), (1, vI p1), (2, vI p2), (3, .ref 73)], [vI a, vI 0, .ref 73], N', h', 0 + k', 0 + z') _
    refine eW_i2lx 9 rfl rfl ?_
    obtain ⟨F, hF7⟩ := hrow
    refine eW_lastorex 10 rfl rfl (Nat.ble_eq_true_of_le (by omega)) (ew.trans hF7) (by omega) (by omega) (by unfold i32; omega) ?_
    intro h2 eh2 oh2
    refine eW_goto rfl ?_
    refine eW_iconst 22 rfl rfl ?_
    refine eW_ret_i rfl rfl (Or.inl rfl) ?_
    exact lR_i hF oh2 ⟨_, eh2⟩ ⟨_, eh2, by simp [vp_updL]⟩
  | inr E =>
    rcases hr E rfl with e9 | e9
    · subst e9
      refine Or.inr ⟨_, N', h', k', z', 13, e, by decide +kernel, rfl, ?_⟩
      show eWp _ _ _ (13, [(0, .ref 0), (1, vI p1), (2, vI p2), (3, .ref 73)], [.retAddr 9], N', h', 0 + k', 0 + z') _
      refine eW_astore_out 15 rfl rfl [(4, .retAddr 9), (0, .ref 0), (1, vI p1), (2, vI p2), (3, .ref 73)] rfl rfl ?_
      refine eW_iconst 16 rfl rfl ?_
      refine eW_ret_i rfl rfl (Or.inl rfl) ?_
      exact lR_x hF (by rw [ew]; exact hrow) (by decide +kernel)
    · subst e9
      refine Or.inr ⟨_, N', h', k', z', 17, e, by decide +kernel, rfl, ?_⟩
      show eWp _ _ _ (17, [(0, .ref 0), (1, vI p1), (2, vI p2), (3, .ref 73)], [.retAddr 9], N', h', 0 + k', 0 + z') _
      refine eW_astore_out 19 rfl rfl [(4, .retAddr 9), (0, .ref 0), (1, vI p1), (2, vI p2), (3, .ref 73)] rfl rfl ?_
      refine eW_iconst 20 rfl rfl ?_
      refine eW_ret_i rfl rfl (Or.inl rfl) ?_
      exact lR_x hF (by rw [ew]; exact hrow) (by decide +kernel)
theorem l_value {d N : Nat} {h : eHp} {r : Int ⊕ String} {fs : List Value} {FF : Nat → eHp → Nat → Nat → Prop} (hN : 75 ≤ N) (h0 : h 0 = .inr (10, fs)) (hrow : lRow73 (h 73)) {p1 : Int} {p2 : Int} (hr : ∀ E, r = .inr E → E = nIAE) (hc : eSp d eM_X6_value [.ref 0, vI p1, vI p2] N h (lX 73 (fun a => vI a) r N h FF)) : eSp (d + 1) eM_L_value [.ref 0, vI p1, vI p2, .ref 73] N h (lR 73 lRow73 lH73 r [nIAE] FF) := by
  refine eSp_of [(0, .ref 0), (1, vI p1), (2, vI p2), (3, .ref 73)] rfl rfl ?_
  refine eW_aload_n 1 rfl rfl rfl ?_
  refine eW_iconst 2 rfl rfl ?_
  refine eW_aload_n 3 rfl rfl rfl ?_
  refine eW_iload_n 4 rfl rfl rfl ?_
  refine eW_iload_n 5 rfl rfl rfl ?_
  have hs := eS_callV (ox := eOx) (M := eM_L_value) (pc := 5) (lv := [(0, .ref 0), (1, vI p1), (2, vI p2), (3, .ref 73)]) (st := [vI p2, vI p1, .ref 0, vI 0, .ref 73]) (N := N) (h := h) (k := 0) (z := 0) (a := 0) rfl rfl rfl (Nat.ble_eq_true_of_le (by omega)) h0 rfl
  refine eW_callN 8 (lv1 := [(0, .ref 0), (1, vI p1), (2, vI p2), (3, .ref 73)]) (r := [vI 0, .ref 73]) (PC := lX 73 (fun a => vI a) r N h FF) hs rfl hc (by simp only [vI, eClL, eClV, List.all_cons, List.all_nil, Bool.and_true, Bool.and_eq_true, Bool.true_and, Nat.ble_eq]; omega) (fun q hq => ?_)
  obtain ⟨N', h', k', z', e, hn, ew, hF⟩ := hq
  cases r with
  | inl a =>
    refine Or.inl ⟨some (vI a), N', h', k', z', e, rfl, ?_⟩
    show eWp _ _ _ (8, [(0, .ref 0), (1, vI p1), (2, vI p2), (3, .ref 73)], [vI a, vI 0, .ref 73], N', h', 0 + k', 0 + z') _
    refine eW_i2lx 9 rfl rfl ?_
    obtain ⟨F, hF7⟩ := hrow
    refine eW_lastorex 10 rfl rfl (Nat.ble_eq_true_of_le (by omega)) (ew.trans hF7) (by omega) (by omega) (by unfold i32; omega) ?_
    intro h2 eh2 oh2
    refine eW_goto rfl ?_
    refine eW_iconst 18 rfl rfl ?_
    refine eW_ret_i rfl rfl (Or.inl rfl) ?_
    exact lR_i hF oh2 ⟨_, eh2⟩ ⟨_, eh2, by simp [vp_updL]⟩
  | inr E =>
    have e9 := hr E rfl
    subst e9
    refine Or.inr ⟨_, N', h', k', z', 13, e, by decide +kernel, rfl, ?_⟩
    show eWp _ _ _ (13, [(0, .ref 0), (1, vI p1), (2, vI p2), (3, .ref 73)], [.retAddr 9], N', h', 0 + k', 0 + z') _
    refine eW_astore_out 15 rfl rfl [(4, .retAddr 9), (0, .ref 0), (1, vI p1), (2, vI p2), (3, .ref 73)] rfl rfl ?_
    refine eW_iconst 16 rfl rfl ?_
    refine eW_ret_i rfl rfl (Or.inl rfl) ?_
    exact lR_x hF (by rw [ew]; exact hrow) (by decide +kernel)
theorem l_lists {d N : Nat} {h : eHp} {r : Int ⊕ String} {fs : List Value} {FF : Nat → eHp → Nat → Nat → Prop} (hN : 75 ≤ N) (h0 : h 0 = .inr (10, fs)) (hrow : lRow73 (h 73)) {p1 : Int} {p2 : Int} (hr : ∀ E, r = .inr E → E = nIAE) (hb : ∀ a, r = .inl a → a = 0 ∨ a = 1) (hc : eSp d eM_X6_lists [.ref 0, vI p1, vI p2] N h (lX 73 (fun a => vI a) r N h FF)) : eSp (d + 1) eM_L_lists [.ref 0, vI p1, vI p2, .ref 73] N h (lR 73 lRow73 lH73 r [nIAE] FF) := by
  refine eSp_of [(0, .ref 0), (1, vI p1), (2, vI p2), (3, .ref 73)] rfl rfl ?_
  refine eW_aload_n 1 rfl rfl rfl ?_
  refine eW_iconst 2 rfl rfl ?_
  refine eW_aload_n 3 rfl rfl rfl ?_
  refine eW_iload_n 4 rfl rfl rfl ?_
  refine eW_iload_n 5 rfl rfl rfl ?_
  have hs := eS_callV (ox := eOx) (M := eM_L_lists) (pc := 5) (lv := [(0, .ref 0), (1, vI p1), (2, vI p2), (3, .ref 73)]) (st := [vI p2, vI p1, .ref 0, vI 0, .ref 73]) (N := N) (h := h) (k := 0) (z := 0) (a := 0) rfl rfl rfl (Nat.ble_eq_true_of_le (by omega)) h0 rfl
  refine eW_callN 8 (lv1 := [(0, .ref 0), (1, vI p1), (2, vI p2), (3, .ref 73)]) (r := [vI 0, .ref 73]) (PC := lX 73 (fun a => vI a) r N h FF) hs rfl hc (by simp only [vI, eClL, eClV, List.all_cons, List.all_nil, Bool.and_true, Bool.and_eq_true, Bool.true_and, Nat.ble_eq]; omega) (fun q hq => ?_)
  obtain ⟨N', h', k', z', e, hn, ew, hF⟩ := hq
  cases r with
  | inl a =>
    refine Or.inl ⟨some (vI a), N', h', k', z', e, rfl, ?_⟩
    show eWp _ _ _ (8, [(0, .ref 0), (1, vI p1), (2, vI p2), (3, .ref 73)], [vI a, vI 0, .ref 73], N', h', 0 + k', 0 + z') _
    rcases hb a rfl with e01 | e01 <;> subst e01
    · refine eW_if_eq 11 rfl rfl (by unfold i32; omega) (fun c1 => ?_) (fun c1 => absurd c1 (by omega))
      refine eW_lconst 16 rfl rfl 0 rfl ?_
      obtain ⟨F, hF7⟩ := hrow
      refine eW_lastorex 17 rfl rfl (Nat.ble_eq_true_of_le (by omega)) (ew.trans hF7) (by omega) (by omega) (by unfold i32; omega) ?_
      intro h2 eh2 oh2
      refine eW_goto rfl ?_
      refine eW_iconst 25 rfl rfl ?_
      refine eW_ret_i rfl rfl (Or.inl rfl) ?_
      exact lR_i hF oh2 ⟨_, eh2⟩ ⟨_, eh2, (show vp_updL F (0 : Int).toNat (Int64.ofInt 0) 0 = _ from by simp [vp_updL])⟩
    · refine eW_if_eq 11 rfl rfl (by unfold i32; omega) (fun c1 => absurd c1 (by omega)) (fun c1 => ?_)
      refine eW_lconst 12 rfl rfl 1 rfl ?_
      refine eW_goto rfl ?_
      obtain ⟨F, hF7⟩ := hrow
      refine eW_lastorex 17 rfl rfl (Nat.ble_eq_true_of_le (by omega)) (ew.trans hF7) (by omega) (by omega) (by unfold i32; omega) ?_
      intro h2 eh2 oh2
      refine eW_goto rfl ?_
      refine eW_iconst 25 rfl rfl ?_
      refine eW_ret_i rfl rfl (Or.inl rfl) ?_
      exact lR_i hF oh2 ⟨_, eh2⟩ ⟨_, eh2, (show vp_updL F (0 : Int).toNat (Int64.ofInt 1) 0 = _ from by simp [vp_updL])⟩
  | inr E =>
    have e9 := hr E rfl
    subst e9
    refine Or.inr ⟨_, N', h', k', z', 20, e, by decide +kernel, rfl, ?_⟩
    show eWp _ _ _ (20, [(0, .ref 0), (1, vI p1), (2, vI p2), (3, .ref 73)], [.retAddr 9], N', h', 0 + k', 0 + z') _
    refine eW_astore_out 22 rfl rfl [(4, .retAddr 9), (0, .ref 0), (1, vI p1), (2, vI p2), (3, .ref 73)] rfl rfl ?_
    refine eW_iconst 23 rfl rfl ?_
    refine eW_ret_i rfl rfl (Or.inl rfl) ?_
    exact lR_x hF (by rw [ew]; exact hrow) (by decide +kernel)
theorem l_listed {d N : Nat} {h : eHp} {r : Int ⊕ String} {fs : List Value} {FF : Nat → eHp → Nat → Nat → Prop} (hN : 75 ≤ N) (h0 : h 0 = .inr (10, fs)) (hrow : lRow73 (h 73)) {p1 : Int} (hr : ∀ E, r = .inr E → E = nIAE) (hc : eSp d eM_X6_listed [.ref 0, vI p1] N h (lX 73 (fun a => vI a) r N h FF)) : eSp (d + 1) eM_L_listed [.ref 0, vI p1, .ref 73] N h (lR 73 lRow73 lH73 r [nIAE] FF) := by
  refine eSp_of [(0, .ref 0), (1, vI p1), (2, .ref 73)] rfl rfl ?_
  refine eW_aload_n 1 rfl rfl rfl ?_
  refine eW_iconst 2 rfl rfl ?_
  refine eW_aload_n 3 rfl rfl rfl ?_
  refine eW_iload_n 4 rfl rfl rfl ?_
  have hs := eS_callV (ox := eOx) (M := eM_L_listed) (pc := 4) (lv := [(0, .ref 0), (1, vI p1), (2, .ref 73)]) (st := [vI p1, .ref 0, vI 0, .ref 73]) (N := N) (h := h) (k := 0) (z := 0) (a := 0) rfl rfl rfl (Nat.ble_eq_true_of_le (by omega)) h0 rfl
  refine eW_callN 7 (lv1 := [(0, .ref 0), (1, vI p1), (2, .ref 73)]) (r := [vI 0, .ref 73]) (PC := lX 73 (fun a => vI a) r N h FF) hs rfl hc (by simp only [vI, eClL, eClV, List.all_cons, List.all_nil, Bool.and_true, Bool.and_eq_true, Bool.true_and, Nat.ble_eq]; omega) (fun q hq => ?_)
  obtain ⟨N', h', k', z', e, hn, ew, hF⟩ := hq
  cases r with
  | inl a =>
    refine Or.inl ⟨some (vI a), N', h', k', z', e, rfl, ?_⟩
    show eWp _ _ _ (7, [(0, .ref 0), (1, vI p1), (2, .ref 73)], [vI a, vI 0, .ref 73], N', h', 0 + k', 0 + z') _
    refine eW_i2lx 8 rfl rfl ?_
    obtain ⟨F, hF7⟩ := hrow
    refine eW_lastorex 9 rfl rfl (Nat.ble_eq_true_of_le (by omega)) (ew.trans hF7) (by omega) (by omega) (by unfold i32; omega) ?_
    intro h2 eh2 oh2
    refine eW_goto rfl ?_
    refine eW_iconst 16 rfl rfl ?_
    refine eW_ret_i rfl rfl (Or.inl rfl) ?_
    exact lR_i hF oh2 ⟨_, eh2⟩ ⟨_, eh2, by simp [vp_updL]⟩
  | inr E =>
    have e9 := hr E rfl
    subst e9
    refine Or.inr ⟨_, N', h', k', z', 12, e, by decide +kernel, rfl, ?_⟩
    show eWp _ _ _ (12, [(0, .ref 0), (1, vI p1), (2, .ref 73)], [.retAddr 9], N', h', 0 + k', 0 + z') _
    refine eW_astore_n_out 13 rfl rfl [(3, .retAddr 9), (0, .ref 0), (1, vI p1), (2, .ref 73)] rfl rfl ?_
    refine eW_iconst 14 rfl rfl ?_
    refine eW_ret_i rfl rfl (Or.inl rfl) ?_
    exact lR_x hF (by rw [ew]; exact hrow) (by decide +kernel)
theorem l_period {d N : Nat} {h : eHp} {r : Int ⊕ String} {fs : List Value} {FF : Nat → eHp → Nat → Nat → Prop} (hN : 75 ≤ N) (h0 : h 0 = .inr (10, fs)) (hrow : lRow73 (h 73)) {p1 : Int} (hr : ∀ E, r = .inr E → E = nIAE ∨ E = nNSE) (hc : eSp d eM_X6_period [.ref 0, vI p1] N h (lX 73 (fun a => vI a) r N h FF)) : eSp (d + 1) eM_L_period [.ref 0, vI p1, .ref 73] N h (lR 73 lRow73 lH73 r [nIAE, nNSE] FF) := by
  refine eSp_of [(0, .ref 0), (1, vI p1), (2, .ref 73)] rfl rfl ?_
  refine eW_aload_n 1 rfl rfl rfl ?_
  refine eW_iconst 2 rfl rfl ?_
  refine eW_aload_n 3 rfl rfl rfl ?_
  refine eW_iload_n 4 rfl rfl rfl ?_
  have hs := eS_callV (ox := eOx) (M := eM_L_period) (pc := 4) (lv := [(0, .ref 0), (1, vI p1), (2, .ref 73)]) (st := [vI p1, .ref 0, vI 0, .ref 73]) (N := N) (h := h) (k := 0) (z := 0) (a := 0) rfl rfl rfl (Nat.ble_eq_true_of_le (by omega)) h0 rfl
  refine eW_callN 7 (lv1 := [(0, .ref 0), (1, vI p1), (2, .ref 73)]) (r := [vI 0, .ref 73]) (PC := lX 73 (fun a => vI a) r N h FF) hs rfl hc (by simp only [vI, eClL, eClV, List.all_cons, List.all_nil, Bool.and_true, Bool.and_eq_true, Bool.true_and, Nat.ble_eq]; omega) (fun q hq => ?_)
  obtain ⟨N', h', k', z', e, hn, ew, hF⟩ := hq
  cases r with
  | inl a =>
    refine Or.inl ⟨some (vI a), N', h', k', z', e, rfl, ?_⟩
    show eWp _ _ _ (7, [(0, .ref 0), (1, vI p1), (2, .ref 73)], [vI a, vI 0, .ref 73], N', h', 0 + k', 0 + z') _
    refine eW_i2lx 8 rfl rfl ?_
    obtain ⟨F, hF7⟩ := hrow
    refine eW_lastorex 9 rfl rfl (Nat.ble_eq_true_of_le (by omega)) (ew.trans hF7) (by omega) (by omega) (by unfold i32; omega) ?_
    intro h2 eh2 oh2
    refine eW_goto rfl ?_
    refine eW_iconst 19 rfl rfl ?_
    refine eW_ret_i rfl rfl (Or.inl rfl) ?_
    exact lR_i hF oh2 ⟨_, eh2⟩ ⟨_, eh2, by simp [vp_updL]⟩
  | inr E =>
    rcases hr E rfl with e9 | e9
    · subst e9
      refine Or.inr ⟨_, N', h', k', z', 12, e, by decide +kernel, rfl, ?_⟩
      show eWp _ _ _ (12, [(0, .ref 0), (1, vI p1), (2, .ref 73)], [.retAddr 9], N', h', 0 + k', 0 + z') _
      refine eW_astore_n_out 13 rfl rfl [(3, .retAddr 9), (0, .ref 0), (1, vI p1), (2, .ref 73)] rfl rfl ?_
      refine eW_iconst 14 rfl rfl ?_
      refine eW_ret_i rfl rfl (Or.inl rfl) ?_
      exact lR_x hF (by rw [ew]; exact hrow) (by decide +kernel)
    · subst e9
      refine Or.inr ⟨_, N', h', k', z', 15, e, by decide +kernel, rfl, ?_⟩
      show eWp _ _ _ (15, [(0, .ref 0), (1, vI p1), (2, .ref 73)], [.retAddr 9], N', h', 0 + k', 0 + z') _
      refine eW_astore_n_out 16 rfl rfl [(3, .retAddr 9), (0, .ref 0), (1, vI p1), (2, .ref 73)] rfl rfl ?_
      refine eW_iconst 17 rfl rfl ?_
      refine eW_ret_i rfl rfl (Or.inl rfl) ?_
      exact lR_x hF (by rw [ew]; exact hrow) (by decide +kernel)
theorem l_least {d N : Nat} {h : eHp} {r : Int ⊕ String} {fs : List Value} {FF : Nat → eHp → Nat → Nat → Prop} (hN : 75 ≤ N) (h0 : h 0 = .inr (10, fs)) (hrow : lRow73 (h 73)) {p1 : Int} (hr : ∀ E, r = .inr E → E = nNSE) (hc : eSp d eM_X6_least [.ref 0, vI p1] N h (lX 73 (fun a => vI a) r N h FF)) : eSp (d + 1) eM_L_least [.ref 0, vI p1, .ref 73] N h (lR 73 lRow73 lH73 r [nNSE] FF) := by
  refine eSp_of [(0, .ref 0), (1, vI p1), (2, .ref 73)] rfl rfl ?_
  refine eW_aload_n 1 rfl rfl rfl ?_
  refine eW_iconst 2 rfl rfl ?_
  refine eW_aload_n 3 rfl rfl rfl ?_
  refine eW_iload_n 4 rfl rfl rfl ?_
  have hs := eS_callV (ox := eOx) (M := eM_L_least) (pc := 4) (lv := [(0, .ref 0), (1, vI p1), (2, .ref 73)]) (st := [vI p1, .ref 0, vI 0, .ref 73]) (N := N) (h := h) (k := 0) (z := 0) (a := 0) rfl rfl rfl (Nat.ble_eq_true_of_le (by omega)) h0 rfl
  refine eW_callN 7 (lv1 := [(0, .ref 0), (1, vI p1), (2, .ref 73)]) (r := [vI 0, .ref 73]) (PC := lX 73 (fun a => vI a) r N h FF) hs rfl hc (by simp only [vI, eClL, eClV, List.all_cons, List.all_nil, Bool.and_true, Bool.and_eq_true, Bool.true_and, Nat.ble_eq]; omega) (fun q hq => ?_)
  obtain ⟨N', h', k', z', e, hn, ew, hF⟩ := hq
  cases r with
  | inl a =>
    refine Or.inl ⟨some (vI a), N', h', k', z', e, rfl, ?_⟩
    show eWp _ _ _ (7, [(0, .ref 0), (1, vI p1), (2, .ref 73)], [vI a, vI 0, .ref 73], N', h', 0 + k', 0 + z') _
    refine eW_i2lx 8 rfl rfl ?_
    obtain ⟨F, hF7⟩ := hrow
    refine eW_lastorex 9 rfl rfl (Nat.ble_eq_true_of_le (by omega)) (ew.trans hF7) (by omega) (by omega) (by unfold i32; omega) ?_
    intro h2 eh2 oh2
    refine eW_goto rfl ?_
    refine eW_iconst 16 rfl rfl ?_
    refine eW_ret_i rfl rfl (Or.inl rfl) ?_
    exact lR_i hF oh2 ⟨_, eh2⟩ ⟨_, eh2, by simp [vp_updL]⟩
  | inr E =>
    have e9 := hr E rfl
    subst e9
    refine Or.inr ⟨_, N', h', k', z', 12, e, by decide +kernel, rfl, ?_⟩
    show eWp _ _ _ (12, [(0, .ref 0), (1, vI p1), (2, .ref 73)], [.retAddr 9], N', h', 0 + k', 0 + z') _
    refine eW_astore_n_out 13 rfl rfl [(3, .retAddr 9), (0, .ref 0), (1, vI p1), (2, .ref 73)] rfl rfl ?_
    refine eW_iconst 14 rfl rfl ?_
    refine eW_ret_i rfl rfl (Or.inl rfl) ?_
    exact lR_x hF (by rw [ew]; exact hrow) (by decide +kernel)
theorem l_valuesLine {d N : Nat} {h : eHp} {r : Int ⊕ String} {fs : List Value} {FF : Nat → eHp → Nat → Nat → Prop} (hN : 75 ≤ N) (h0 : h 0 = .inr (10, fs)) (hrow : lRow73 (h 73)) {p1 : Int} (hr : ∀ E, r = .inr E → E = nIAE) (hc : eSp d eM_X6_valuesLine [.ref 0, vI p1] N h (lX 73 (fun a => vI a) r N h FF)) : eSp (d + 1) eM_L_valuesLine [.ref 0, vI p1, .ref 73] N h (lR 73 lRow73 lH73 r [nIAE] FF) := by
  refine eSp_of [(0, .ref 0), (1, vI p1), (2, .ref 73)] rfl rfl ?_
  refine eW_aload_n 1 rfl rfl rfl ?_
  refine eW_iconst 2 rfl rfl ?_
  refine eW_aload_n 3 rfl rfl rfl ?_
  refine eW_iload_n 4 rfl rfl rfl ?_
  have hs := eS_callV (ox := eOx) (M := eM_L_valuesLine) (pc := 4) (lv := [(0, .ref 0), (1, vI p1), (2, .ref 73)]) (st := [vI p1, .ref 0, vI 0, .ref 73]) (N := N) (h := h) (k := 0) (z := 0) (a := 0) rfl rfl rfl (Nat.ble_eq_true_of_le (by omega)) h0 rfl
  refine eW_callN 7 (lv1 := [(0, .ref 0), (1, vI p1), (2, .ref 73)]) (r := [vI 0, .ref 73]) (PC := lX 73 (fun a => vI a) r N h FF) hs rfl hc (by simp only [vI, eClL, eClV, List.all_cons, List.all_nil, Bool.and_true, Bool.and_eq_true, Bool.true_and, Nat.ble_eq]; omega) (fun q hq => ?_)
  obtain ⟨N', h', k', z', e, hn, ew, hF⟩ := hq
  cases r with
  | inl a =>
    refine Or.inl ⟨some (vI a), N', h', k', z', e, rfl, ?_⟩
    show eWp _ _ _ (7, [(0, .ref 0), (1, vI p1), (2, .ref 73)], [vI a, vI 0, .ref 73], N', h', 0 + k', 0 + z') _
    refine eW_i2lx 8 rfl rfl ?_
    obtain ⟨F, hF7⟩ := hrow
    refine eW_lastorex 9 rfl rfl (Nat.ble_eq_true_of_le (by omega)) (ew.trans hF7) (by omega) (by omega) (by unfold i32; omega) ?_
    intro h2 eh2 oh2
    refine eW_goto rfl ?_
    refine eW_iconst 16 rfl rfl ?_
    refine eW_ret_i rfl rfl (Or.inl rfl) ?_
    exact lR_i hF oh2 ⟨_, eh2⟩ ⟨_, eh2, by simp [vp_updL]⟩
  | inr E =>
    have e9 := hr E rfl
    subst e9
    refine Or.inr ⟨_, N', h', k', z', 12, e, by decide +kernel, rfl, ?_⟩
    show eWp _ _ _ (12, [(0, .ref 0), (1, vI p1), (2, .ref 73)], [.retAddr 9], N', h', 0 + k', 0 + z') _
    refine eW_astore_n_out 13 rfl rfl [(3, .retAddr 9), (0, .ref 0), (1, vI p1), (2, .ref 73)] rfl rfl ?_
    refine eW_iconst 14 rfl rfl ?_
    refine eW_ret_i rfl rfl (Or.inl rfl) ?_
    exact lR_x hF (by rw [ew]; exact hrow) (by decide +kernel)
theorem l_character {d N : Nat} {h : eHp} {r : Int ⊕ String} {fs : List Value} {FF : Nat → eHp → Nat → Nat → Prop} (hN : 75 ≤ N) (h0 : h 0 = .inr (10, fs)) (hrow : lRow73 (h 73)) {p1 : Int} (hr : ∀ E, r = .inr E → E = nIOB) (hc : eSp d eM_X6_character [.ref 0, vI p1] N h (lX 73 (fun a => vI a) r N h FF)) : eSp (d + 1) eM_L_character [.ref 0, vI p1, .ref 73] N h (lR 73 lRow73 lH73 r [nIOB] FF) := by
  refine eSp_of [(0, .ref 0), (1, vI p1), (2, .ref 73)] rfl rfl ?_
  refine eW_aload_n 1 rfl rfl rfl ?_
  refine eW_iconst 2 rfl rfl ?_
  refine eW_aload_n 3 rfl rfl rfl ?_
  refine eW_iload_n 4 rfl rfl rfl ?_
  have hs := eS_callV (ox := eOx) (M := eM_L_character) (pc := 4) (lv := [(0, .ref 0), (1, vI p1), (2, .ref 73)]) (st := [vI p1, .ref 0, vI 0, .ref 73]) (N := N) (h := h) (k := 0) (z := 0) (a := 0) rfl rfl rfl (Nat.ble_eq_true_of_le (by omega)) h0 rfl
  refine eW_callN 7 (lv1 := [(0, .ref 0), (1, vI p1), (2, .ref 73)]) (r := [vI 0, .ref 73]) (PC := lX 73 (fun a => vI a) r N h FF) hs rfl hc (by simp only [vI, eClL, eClV, List.all_cons, List.all_nil, Bool.and_true, Bool.and_eq_true, Bool.true_and, Nat.ble_eq]; omega) (fun q hq => ?_)
  obtain ⟨N', h', k', z', e, hn, ew, hF⟩ := hq
  cases r with
  | inl a =>
    refine Or.inl ⟨some (vI a), N', h', k', z', e, rfl, ?_⟩
    show eWp _ _ _ (7, [(0, .ref 0), (1, vI p1), (2, .ref 73)], [vI a, vI 0, .ref 73], N', h', 0 + k', 0 + z') _
    refine eW_i2lx 8 rfl rfl ?_
    obtain ⟨F, hF7⟩ := hrow
    refine eW_lastorex 9 rfl rfl (Nat.ble_eq_true_of_le (by omega)) (ew.trans hF7) (by omega) (by omega) (by unfold i32; omega) ?_
    intro h2 eh2 oh2
    refine eW_goto rfl ?_
    refine eW_iconst 16 rfl rfl ?_
    refine eW_ret_i rfl rfl (Or.inl rfl) ?_
    exact lR_i hF oh2 ⟨_, eh2⟩ ⟨_, eh2, by simp [vp_updL]⟩
  | inr E =>
    have e9 := hr E rfl
    subst e9
    refine Or.inr ⟨_, N', h', k', z', 12, e, by decide +kernel, rfl, ?_⟩
    show eWp _ _ _ (12, [(0, .ref 0), (1, vI p1), (2, .ref 73)], [.retAddr 9], N', h', 0 + k', 0 + z') _
    refine eW_astore_n_out 13 rfl rfl [(3, .retAddr 9), (0, .ref 0), (1, vI p1), (2, .ref 73)] rfl rfl ?_
    refine eW_iconst 14 rfl rfl ?_
    refine eW_ret_i rfl rfl (Or.inl rfl) ?_
    exact lR_x hF (by rw [ew]; exact hrow) (by decide +kernel)
theorem l_append {d N : Nat} {h : eHp} {r : Int ⊕ String} {fs : List Value} {FF : Nat → eHp → Nat → Nat → Prop} (hN : 75 ≤ N) (h0 : h 0 = .inr (10, fs)) (hrow : lRow73 (h 73)) {p1 : Int} (hr : ∀ E, r = .inr E → E = nISE) (hc : eSp d eM_X6_append [.ref 0, vI p1] N h (lX 73 (fun a => vI a) r N h FF)) : eSp (d + 1) eM_L_append [.ref 0, vI p1, .ref 73] N h (lR 73 lRow73 lH73 r [nISE] FF) := by
  refine eSp_of [(0, .ref 0), (1, vI p1), (2, .ref 73)] rfl rfl ?_
  refine eW_aload_n 1 rfl rfl rfl ?_
  refine eW_iconst 2 rfl rfl ?_
  refine eW_aload_n 3 rfl rfl rfl ?_
  refine eW_iload_n 4 rfl rfl rfl ?_
  have hs := eS_callV (ox := eOx) (M := eM_L_append) (pc := 4) (lv := [(0, .ref 0), (1, vI p1), (2, .ref 73)]) (st := [vI p1, .ref 0, vI 0, .ref 73]) (N := N) (h := h) (k := 0) (z := 0) (a := 0) rfl rfl rfl (Nat.ble_eq_true_of_le (by omega)) h0 rfl
  refine eW_callN 7 (lv1 := [(0, .ref 0), (1, vI p1), (2, .ref 73)]) (r := [vI 0, .ref 73]) (PC := lX 73 (fun a => vI a) r N h FF) hs rfl hc (by simp only [vI, eClL, eClV, List.all_cons, List.all_nil, Bool.and_true, Bool.and_eq_true, Bool.true_and, Nat.ble_eq]; omega) (fun q hq => ?_)
  obtain ⟨N', h', k', z', e, hn, ew, hF⟩ := hq
  cases r with
  | inl a =>
    refine Or.inl ⟨some (vI a), N', h', k', z', e, rfl, ?_⟩
    show eWp _ _ _ (7, [(0, .ref 0), (1, vI p1), (2, .ref 73)], [vI a, vI 0, .ref 73], N', h', 0 + k', 0 + z') _
    refine eW_i2lx 8 rfl rfl ?_
    obtain ⟨F, hF7⟩ := hrow
    refine eW_lastorex 9 rfl rfl (Nat.ble_eq_true_of_le (by omega)) (ew.trans hF7) (by omega) (by omega) (by unfold i32; omega) ?_
    intro h2 eh2 oh2
    refine eW_goto rfl ?_
    refine eW_iconst 16 rfl rfl ?_
    refine eW_ret_i rfl rfl (Or.inl rfl) ?_
    exact lR_i hF oh2 ⟨_, eh2⟩ ⟨_, eh2, by simp [vp_updL]⟩
  | inr E =>
    have e9 := hr E rfl
    subst e9
    refine Or.inr ⟨_, N', h', k', z', 12, e, by decide +kernel, rfl, ?_⟩
    show eWp _ _ _ (12, [(0, .ref 0), (1, vI p1), (2, .ref 73)], [.retAddr 9], N', h', 0 + k', 0 + z') _
    refine eW_astore_n_out 13 rfl rfl [(3, .retAddr 9), (0, .ref 0), (1, vI p1), (2, .ref 73)] rfl rfl ?_
    refine eW_iconst 14 rfl rfl ?_
    refine eW_ret_i rfl rfl (Or.inl rfl) ?_
    exact lR_x hF (by rw [ew]; exact hrow) (by decide +kernel)
theorem l_run {d N : Nat} {h : eHp} {r : Int ⊕ String} {fs : List Value} {FF : Nat → eHp → Nat → Nat → Prop} (hN : 75 ≤ N) (h0 : h 0 = .inr (10, fs)) (hrow : lRow73 (h 73)) (hr : ∀ E, r = .inr E → E = nIAE ∨ E = nUOE) (hc : eSp d eM_X6_run [.ref 0] N h (lX 73 (fun a => vI a) r N h FF)) : eSp (d + 1) eM_L_run [.ref 0, .ref 73] N h (lR 73 lRow73 lH73 r [nIAE, nUOE] FF) := by
  refine eSp_of [(0, .ref 0), (1, .ref 73)] rfl rfl ?_
  refine eW_aload_n 1 rfl rfl rfl ?_
  refine eW_iconst 2 rfl rfl ?_
  refine eW_aload_n 3 rfl rfl rfl ?_
  have hs := eS_callV (ox := eOx) (M := eM_L_run) (pc := 3) (lv := [(0, .ref 0), (1, .ref 73)]) (st := [.ref 0, vI 0, .ref 73]) (N := N) (h := h) (k := 0) (z := 0) (a := 0) rfl rfl rfl (Nat.ble_eq_true_of_le (by omega)) h0 rfl
  refine eW_callN 6 (lv1 := [(0, .ref 0), (1, .ref 73)]) (r := [vI 0, .ref 73]) (PC := lX 73 (fun a => vI a) r N h FF) hs rfl hc (by simp only [vI, eClL, eClV, List.all_cons, List.all_nil, Bool.and_true, Bool.and_eq_true, Bool.true_and, Nat.ble_eq]; omega) (fun q hq => ?_)
  obtain ⟨N', h', k', z', e, hn, ew, hF⟩ := hq
  cases r with
  | inl a =>
    refine Or.inl ⟨some (vI a), N', h', k', z', e, rfl, ?_⟩
    show eWp _ _ _ (6, [(0, .ref 0), (1, .ref 73)], [vI a, vI 0, .ref 73], N', h', 0 + k', 0 + z') _
    refine eW_i2lx 7 rfl rfl ?_
    obtain ⟨F, hF7⟩ := hrow
    refine eW_lastorex 8 rfl rfl (Nat.ble_eq_true_of_le (by omega)) (ew.trans hF7) (by omega) (by omega) (by unfold i32; omega) ?_
    intro h2 eh2 oh2
    refine eW_goto rfl ?_
    refine eW_iconst 18 rfl rfl ?_
    refine eW_ret_i rfl rfl (Or.inl rfl) ?_
    exact lR_i hF oh2 ⟨_, eh2⟩ ⟨_, eh2, by simp [vp_updL]⟩
  | inr E =>
    rcases hr E rfl with e9 | e9
    · subst e9
      refine Or.inr ⟨_, N', h', k', z', 11, e, by decide +kernel, rfl, ?_⟩
      show eWp _ _ _ (11, [(0, .ref 0), (1, .ref 73)], [.retAddr 9], N', h', 0 + k', 0 + z') _
      refine eW_astore_n_out 12 rfl rfl [(2, .retAddr 9), (0, .ref 0), (1, .ref 73)] rfl rfl ?_
      refine eW_iconst 13 rfl rfl ?_
      refine eW_ret_i rfl rfl (Or.inl rfl) ?_
      exact lR_x hF (by rw [ew]; exact hrow) (by decide +kernel)
    · subst e9
      refine Or.inr ⟨_, N', h', k', z', 14, e, by decide +kernel, rfl, ?_⟩
      show eWp _ _ _ (14, [(0, .ref 0), (1, .ref 73)], [.retAddr 9], N', h', 0 + k', 0 + z') _
      refine eW_astore_n_out 15 rfl rfl [(2, .retAddr 9), (0, .ref 0), (1, .ref 73)] rfl rfl ?_
      refine eW_iconst 16 rfl rfl ?_
      refine eW_ret_i rfl rfl (Or.inl rfl) ?_
      exact lR_x hF (by rw [ew]; exact hrow) (by decide +kernel)
theorem l_refusal {d N : Nat} {h : eHp} {r : Int ⊕ String} {fs : List Value} {FF : Nat → eHp → Nat → Nat → Prop} (hN : 75 ≤ N) (h0 : h 0 = .inr (10, fs)) (hrow : lRow73 (h 73)) {p1 : Int} (hr : ∀ E, r = .inr E → E = nNSE) (hc : eSp d eM_X6_refusal [.ref 0, vI p1] N h (lX 73 (fun a => vI a) r N h FF)) : eSp (d + 1) eM_L_refusal [.ref 0, vI p1, .ref 73] N h (lR 73 lRow73 lH73 r [nNSE] FF) := by
  refine eSp_of [(0, .ref 0), (1, vI p1), (2, .ref 73)] rfl rfl ?_
  refine eW_aload_n 1 rfl rfl rfl ?_
  refine eW_iconst 2 rfl rfl ?_
  refine eW_aload_n 3 rfl rfl rfl ?_
  refine eW_iload_n 4 rfl rfl rfl ?_
  have hs := eS_callV (ox := eOx) (M := eM_L_refusal) (pc := 4) (lv := [(0, .ref 0), (1, vI p1), (2, .ref 73)]) (st := [vI p1, .ref 0, vI 0, .ref 73]) (N := N) (h := h) (k := 0) (z := 0) (a := 0) rfl rfl rfl (Nat.ble_eq_true_of_le (by omega)) h0 rfl
  refine eW_callN 7 (lv1 := [(0, .ref 0), (1, vI p1), (2, .ref 73)]) (r := [vI 0, .ref 73]) (PC := lX 73 (fun a => vI a) r N h FF) hs rfl hc (by simp only [vI, eClL, eClV, List.all_cons, List.all_nil, Bool.and_true, Bool.and_eq_true, Bool.true_and, Nat.ble_eq]; omega) (fun q hq => ?_)
  obtain ⟨N', h', k', z', e, hn, ew, hF⟩ := hq
  cases r with
  | inl a =>
    refine Or.inl ⟨some (vI a), N', h', k', z', e, rfl, ?_⟩
    show eWp _ _ _ (7, [(0, .ref 0), (1, vI p1), (2, .ref 73)], [vI a, vI 0, .ref 73], N', h', 0 + k', 0 + z') _
    refine eW_i2lx 8 rfl rfl ?_
    obtain ⟨F, hF7⟩ := hrow
    refine eW_lastorex 9 rfl rfl (Nat.ble_eq_true_of_le (by omega)) (ew.trans hF7) (by omega) (by omega) (by unfold i32; omega) ?_
    intro h2 eh2 oh2
    refine eW_goto rfl ?_
    refine eW_iconst 16 rfl rfl ?_
    refine eW_ret_i rfl rfl (Or.inl rfl) ?_
    exact lR_i hF oh2 ⟨_, eh2⟩ ⟨_, eh2, by simp [vp_updL]⟩
  | inr E =>
    have e9 := hr E rfl
    subst e9
    refine Or.inr ⟨_, N', h', k', z', 12, e, by decide +kernel, rfl, ?_⟩
    show eWp _ _ _ (12, [(0, .ref 0), (1, vI p1), (2, .ref 73)], [.retAddr 9], N', h', 0 + k', 0 + z') _
    refine eW_astore_n_out 13 rfl rfl [(3, .retAddr 9), (0, .ref 0), (1, vI p1), (2, .ref 73)] rfl rfl ?_
    refine eW_iconst 14 rfl rfl ?_
    refine eW_ret_i rfl rfl (Or.inl rfl) ?_
    exact lR_x hF (by rw [ew]; exact hrow) (by decide +kernel)
theorem l_account {d N : Nat} {h : eHp} {r : Int ⊕ String} {fs : List Value} {FF : Nat → eHp → Nat → Nat → Prop} (hN : 75 ≤ N) (h0 : h 0 = .inr (10, fs)) (hrow : lRow73 (h 73)) {p1 : Int} (hr : ∀ E, r = .inr E → E = nIAE) (hc : eSp d eM_X6_account [.ref 0, vI p1] N h (lX 73 (fun a => vI a) r N h FF)) : eSp (d + 1) eM_L_account [.ref 0, vI p1, .ref 73] N h (lR 73 lRow73 lH73 r [nIAE] FF) := by
  refine eSp_of [(0, .ref 0), (1, vI p1), (2, .ref 73)] rfl rfl ?_
  refine eW_aload_n 1 rfl rfl rfl ?_
  refine eW_iconst 2 rfl rfl ?_
  refine eW_aload_n 3 rfl rfl rfl ?_
  refine eW_iload_n 4 rfl rfl rfl ?_
  have hs := eS_callV (ox := eOx) (M := eM_L_account) (pc := 4) (lv := [(0, .ref 0), (1, vI p1), (2, .ref 73)]) (st := [vI p1, .ref 0, vI 0, .ref 73]) (N := N) (h := h) (k := 0) (z := 0) (a := 0) rfl rfl rfl (Nat.ble_eq_true_of_le (by omega)) h0 rfl
  refine eW_callN 7 (lv1 := [(0, .ref 0), (1, vI p1), (2, .ref 73)]) (r := [vI 0, .ref 73]) (PC := lX 73 (fun a => vI a) r N h FF) hs rfl hc (by simp only [vI, eClL, eClV, List.all_cons, List.all_nil, Bool.and_true, Bool.and_eq_true, Bool.true_and, Nat.ble_eq]; omega) (fun q hq => ?_)
  obtain ⟨N', h', k', z', e, hn, ew, hF⟩ := hq
  cases r with
  | inl a =>
    refine Or.inl ⟨some (vI a), N', h', k', z', e, rfl, ?_⟩
    show eWp _ _ _ (7, [(0, .ref 0), (1, vI p1), (2, .ref 73)], [vI a, vI 0, .ref 73], N', h', 0 + k', 0 + z') _
    refine eW_i2lx 8 rfl rfl ?_
    obtain ⟨F, hF7⟩ := hrow
    refine eW_lastorex 9 rfl rfl (Nat.ble_eq_true_of_le (by omega)) (ew.trans hF7) (by omega) (by omega) (by unfold i32; omega) ?_
    intro h2 eh2 oh2
    refine eW_goto rfl ?_
    refine eW_iconst 16 rfl rfl ?_
    refine eW_ret_i rfl rfl (Or.inl rfl) ?_
    exact lR_i hF oh2 ⟨_, eh2⟩ ⟨_, eh2, by simp [vp_updL]⟩
  | inr E =>
    have e9 := hr E rfl
    subst e9
    refine Or.inr ⟨_, N', h', k', z', 12, e, by decide +kernel, rfl, ?_⟩
    show eWp _ _ _ (12, [(0, .ref 0), (1, vI p1), (2, .ref 73)], [.retAddr 9], N', h', 0 + k', 0 + z') _
    refine eW_astore_n_out 13 rfl rfl [(3, .retAddr 9), (0, .ref 0), (1, vI p1), (2, .ref 73)] rfl rfl ?_
    refine eW_iconst 14 rfl rfl ?_
    refine eW_ret_i rfl rfl (Or.inl rfl) ?_
    exact lR_x hF (by rw [ew]; exact hrow) (by decide +kernel)
theorem l_meanMarbles {d N : Nat} {h : eHp} {r : UInt64 ⊕ String} {fs : List Value} {FF : Nat → eHp → Nat → Nat → Prop} (hN : 75 ≤ N) (h0 : h 0 = .inr (10, fs)) (hrow : lRow74 (h 74)) (hr : ∀ E, r = .inr E → E = nAE) (hc : eSp d eM_X6_meanMarbles [.ref 0] N h (lX 74 Value.double r N h FF)) : eSp (d + 1) eM_L_meanMarbles [.ref 0, .ref 74] N h (lR 74 lRow74 lH74 r [nAE] FF) := by
  refine eSp_of [(0, .ref 0), (1, .ref 74)] rfl rfl ?_
  refine eW_aload_n 1 rfl rfl rfl ?_
  refine eW_iconst 2 rfl rfl ?_
  refine eW_aload_n 3 rfl rfl rfl ?_
  have hs := eS_callV (ox := eOx) (M := eM_L_meanMarbles) (pc := 3) (lv := [(0, .ref 0), (1, .ref 74)]) (st := [.ref 0, vI 0, .ref 74]) (N := N) (h := h) (k := 0) (z := 0) (a := 0) rfl rfl rfl (Nat.ble_eq_true_of_le (by omega)) h0 rfl
  refine eW_callN 6 (lv1 := [(0, .ref 0), (1, .ref 74)]) (r := [vI 0, .ref 74]) (PC := lX 74 Value.double r N h FF) hs rfl hc (by simp only [vI, eClL, eClV, List.all_cons, List.all_nil, Bool.and_true, Bool.and_eq_true, Bool.true_and, Nat.ble_eq]; omega) (fun q hq => ?_)
  obtain ⟨N', h', k', z', e, hn, ew, hF⟩ := hq
  cases r with
  | inl a =>
    refine Or.inl ⟨some (.double a), N', h', k', z', e, rfl, ?_⟩
    show eWp _ _ _ (6, [(0, .ref 0), (1, .ref 74)], [.double a, vI 0, .ref 74], N', h', 0 + k', 0 + z') _
    obtain ⟨F, hF7⟩ := hrow
    refine eW_dastore 7 rfl rfl (Nat.ble_eq_true_of_le (by omega)) (ew.trans hF7) (by omega) (by omega) (by unfold i32; omega) ?_
    intro h2 eh2 oh2
    refine eW_goto rfl ?_
    refine eW_iconst 14 rfl rfl ?_
    refine eW_ret_i rfl rfl (Or.inl rfl) ?_
    exact lR_i hF oh2 ⟨_, eh2⟩ ⟨_, eh2, by simp [vf_upd]⟩
  | inr E =>
    have e9 := hr E rfl
    subst e9
    refine Or.inr ⟨_, N', h', k', z', 10, e, by decide +kernel, rfl, ?_⟩
    show eWp _ _ _ (10, [(0, .ref 0), (1, .ref 74)], [.retAddr 9], N', h', 0 + k', 0 + z') _
    refine eW_astore_n_out 11 rfl rfl [(2, .retAddr 9), (0, .ref 0), (1, .ref 74)] rfl rfl ?_
    refine eW_iconst 12 rfl rfl ?_
    refine eW_ret_i rfl rfl (Or.inl rfl) ?_
    exact lR_x hF (by rw [ew]; exact hrow) (by decide +kernel)
theorem l_share {d N : Nat} {h : eHp} {r : UInt32 ⊕ String} {fs : List Value} {FF : Nat → eHp → Nat → Nat → Prop} (hN : 75 ≤ N) (h0 : h 0 = .inr (10, fs)) (hrow : lRow74 (h 74)) {p1 : Int} (hr : ∀ E, r = .inr E → E = nIOB ∨ E = nAE) (hb : ∀ a, r = .inl a → a.toNat % 2147483648 ≤ 2139095040) (hc : eSp d eM_X6_share [.ref 0, vI p1] N h (lX 74 Value.float r N h FF)) : eSp (d + 1) eM_L_share [.ref 0, vI p1, .ref 74] N h (lR 74 lRow74 lH75 r [nIOB, nAE] FF) := by
  refine eSp_of [(0, .ref 0), (1, vI p1), (2, .ref 74)] rfl rfl ?_
  refine eW_aload_n 1 rfl rfl rfl ?_
  refine eW_iconst 2 rfl rfl ?_
  refine eW_aload_n 3 rfl rfl rfl ?_
  refine eW_iload_n 4 rfl rfl rfl ?_
  have hs := eS_callV (ox := eOx) (M := eM_L_share) (pc := 4) (lv := [(0, .ref 0), (1, vI p1), (2, .ref 74)]) (st := [vI p1, .ref 0, vI 0, .ref 74]) (N := N) (h := h) (k := 0) (z := 0) (a := 0) rfl rfl rfl (Nat.ble_eq_true_of_le (by omega)) h0 rfl
  refine eW_callN 7 (lv1 := [(0, .ref 0), (1, vI p1), (2, .ref 74)]) (r := [vI 0, .ref 74]) (PC := lX 74 Value.float r N h FF) hs rfl hc (by simp only [vI, eClL, eClV, List.all_cons, List.all_nil, Bool.and_true, Bool.and_eq_true, Bool.true_and, Nat.ble_eq]; omega) (fun q hq => ?_)
  obtain ⟨N', h', k', z', e, hn, ew, hF⟩ := hq
  cases r with
  | inl a =>
    refine Or.inl ⟨some (.float a), N', h', k', z', e, rfl, ?_⟩
    show eWp _ _ _ (7, [(0, .ref 0), (1, vI p1), (2, .ref 74)], [.float a, vI 0, .ref 74], N', h', 0 + k', 0 + z') _
    refine eW_f2d 8 rfl rfl (fl_and64 (fl_f2d (hb a rfl))) ?_
    obtain ⟨F, hF7⟩ := hrow
    refine eW_dastore 9 rfl rfl (Nat.ble_eq_true_of_le (by omega)) (ew.trans hF7) (by omega) (by omega) (by unfold i32; omega) ?_
    intro h2 eh2 oh2
    refine eW_goto rfl ?_
    refine eW_iconst 19 rfl rfl ?_
    refine eW_ret_i rfl rfl (Or.inl rfl) ?_
    exact lR_i hF oh2 ⟨_, eh2⟩ ⟨_, eh2, by simp [vf_upd]⟩
  | inr E =>
    rcases hr E rfl with e9 | e9
    · subst e9
      refine Or.inr ⟨_, N', h', k', z', 12, e, by decide +kernel, rfl, ?_⟩
      show eWp _ _ _ (12, [(0, .ref 0), (1, vI p1), (2, .ref 74)], [.retAddr 9], N', h', 0 + k', 0 + z') _
      refine eW_astore_n_out 13 rfl rfl [(3, .retAddr 9), (0, .ref 0), (1, vI p1), (2, .ref 74)] rfl rfl ?_
      refine eW_iconst 14 rfl rfl ?_
      refine eW_ret_i rfl rfl (Or.inl rfl) ?_
      exact lR_x hF (by rw [ew]; exact hrow) (by decide +kernel)
    · subst e9
      refine Or.inr ⟨_, N', h', k', z', 15, e, by decide +kernel, rfl, ?_⟩
      show eWp _ _ _ (15, [(0, .ref 0), (1, vI p1), (2, .ref 74)], [.retAddr 9], N', h', 0 + k', 0 + z') _
      refine eW_astore_n_out 16 rfl rfl [(3, .retAddr 9), (0, .ref 0), (1, vI p1), (2, .ref 74)] rfl rfl ?_
      refine eW_iconst 17 rfl rfl ?_
      refine eW_ret_i rfl rfl (Or.inl rfl) ?_
      exact lR_x hF (by rw [ew]; exact hrow) (by decide +kernel)
theorem l_undo {d N : Nat} {h : eHp} {r : Int ⊕ String} {fs : List Value} {FF : Nat → eHp → Nat → Nat → Prop} (hN : 75 ≤ N) (h0 : h 0 = .inr (10, fs)) (hrow : lRow73 (h 73)) (hr : ∀ E, r = .inr E → E = nISE) (hc : eSp d eM_X6_undo [.ref 0] N h (lX 73 (fun a => vI a) r N h FF)) : eSp (d + 1) eM_L_undo [.ref 0, .ref 73] N h (lR 73 lRow73 lH73 r [nISE] FF) := by
  refine eSp_of [(0, .ref 0), (1, .ref 73)] rfl rfl ?_
  refine eW_aload_n 1 rfl rfl rfl ?_
  refine eW_iconst 2 rfl rfl ?_
  refine eW_aload_n 3 rfl rfl rfl ?_
  have hs := eS_callV (ox := eOx) (M := eM_L_undo) (pc := 3) (lv := [(0, .ref 0), (1, .ref 73)]) (st := [.ref 0, vI 0, .ref 73]) (N := N) (h := h) (k := 0) (z := 0) (a := 0) rfl rfl rfl (Nat.ble_eq_true_of_le (by omega)) h0 rfl
  refine eW_callN 6 (lv1 := [(0, .ref 0), (1, .ref 73)]) (r := [vI 0, .ref 73]) (PC := lX 73 (fun a => vI a) r N h FF) hs rfl hc (by simp only [vI, eClL, eClV, List.all_cons, List.all_nil, Bool.and_true, Bool.and_eq_true, Bool.true_and, Nat.ble_eq]; omega) (fun q hq => ?_)
  obtain ⟨N', h', k', z', e, hn, ew, hF⟩ := hq
  cases r with
  | inl a =>
    refine Or.inl ⟨some (vI a), N', h', k', z', e, rfl, ?_⟩
    show eWp _ _ _ (6, [(0, .ref 0), (1, .ref 73)], [vI a, vI 0, .ref 73], N', h', 0 + k', 0 + z') _
    refine eW_i2lx 7 rfl rfl ?_
    obtain ⟨F, hF7⟩ := hrow
    refine eW_lastorex 8 rfl rfl (Nat.ble_eq_true_of_le (by omega)) (ew.trans hF7) (by omega) (by omega) (by unfold i32; omega) ?_
    intro h2 eh2 oh2
    refine eW_goto rfl ?_
    refine eW_iconst 15 rfl rfl ?_
    refine eW_ret_i rfl rfl (Or.inl rfl) ?_
    exact lR_i hF oh2 ⟨_, eh2⟩ ⟨_, eh2, by simp [vp_updL]⟩
  | inr E =>
    have e9 := hr E rfl
    subst e9
    refine Or.inr ⟨_, N', h', k', z', 11, e, by decide +kernel, rfl, ?_⟩
    show eWp _ _ _ (11, [(0, .ref 0), (1, .ref 73)], [.retAddr 9], N', h', 0 + k', 0 + z') _
    refine eW_astore_n_out 12 rfl rfl [(2, .retAddr 9), (0, .ref 0), (1, .ref 73)] rfl rfl ?_
    refine eW_iconst 13 rfl rfl ?_
    refine eW_ret_i rfl rfl (Or.inl rfl) ?_
    exact lR_x hF (by rw [ew]; exact hrow) (by decide +kernel)
theorem l_restore {d N : Nat} {h : eHp} {r : Int ⊕ String} {fs : List Value} {FF : Nat → eHp → Nat → Nat → Prop} (hN : 75 ≤ N) (h0 : h 0 = .inr (10, fs)) (hrow : lRow73 (h 73)) (hr : ∀ E, r = .inr E → E = nISE) (hc : eSp d eM_X6_restore [.ref 0] N h (lX 73 (fun a => vI a) r N h FF)) : eSp (d + 1) eM_L_restore [.ref 0, .ref 73] N h (lR 73 lRow73 lH73 r [nISE] FF) := by
  refine eSp_of [(0, .ref 0), (1, .ref 73)] rfl rfl ?_
  refine eW_aload_n 1 rfl rfl rfl ?_
  refine eW_iconst 2 rfl rfl ?_
  refine eW_aload_n 3 rfl rfl rfl ?_
  have hs := eS_callV (ox := eOx) (M := eM_L_restore) (pc := 3) (lv := [(0, .ref 0), (1, .ref 73)]) (st := [.ref 0, vI 0, .ref 73]) (N := N) (h := h) (k := 0) (z := 0) (a := 0) rfl rfl rfl (Nat.ble_eq_true_of_le (by omega)) h0 rfl
  refine eW_callN 6 (lv1 := [(0, .ref 0), (1, .ref 73)]) (r := [vI 0, .ref 73]) (PC := lX 73 (fun a => vI a) r N h FF) hs rfl hc (by simp only [vI, eClL, eClV, List.all_cons, List.all_nil, Bool.and_true, Bool.and_eq_true, Bool.true_and, Nat.ble_eq]; omega) (fun q hq => ?_)
  obtain ⟨N', h', k', z', e, hn, ew, hF⟩ := hq
  cases r with
  | inl a =>
    refine Or.inl ⟨some (vI a), N', h', k', z', e, rfl, ?_⟩
    show eWp _ _ _ (6, [(0, .ref 0), (1, .ref 73)], [vI a, vI 0, .ref 73], N', h', 0 + k', 0 + z') _
    refine eW_i2lx 7 rfl rfl ?_
    obtain ⟨F, hF7⟩ := hrow
    refine eW_lastorex 8 rfl rfl (Nat.ble_eq_true_of_le (by omega)) (ew.trans hF7) (by omega) (by omega) (by unfold i32; omega) ?_
    intro h2 eh2 oh2
    refine eW_goto rfl ?_
    refine eW_iconst 15 rfl rfl ?_
    refine eW_ret_i rfl rfl (Or.inl rfl) ?_
    exact lR_i hF oh2 ⟨_, eh2⟩ ⟨_, eh2, by simp [vp_updL]⟩
  | inr E =>
    have e9 := hr E rfl
    subst e9
    refine Or.inr ⟨_, N', h', k', z', 11, e, by decide +kernel, rfl, ?_⟩
    show eWp _ _ _ (11, [(0, .ref 0), (1, .ref 73)], [.retAddr 9], N', h', 0 + k', 0 + z') _
    refine eW_astore_n_out 12 rfl rfl [(2, .retAddr 9), (0, .ref 0), (1, .ref 73)] rfl rfl ?_
    refine eW_iconst 13 rfl rfl ?_
    refine eW_ret_i rfl rfl (Or.inl rfl) ?_
    exact lR_x hF (by rw [ew]; exact hrow) (by decide +kernel)
