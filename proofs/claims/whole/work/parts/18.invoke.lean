/-! calls -/
theorem lw_gi {L : List Cond} (h : ∀ w ∈ L, w ∈ lw_good) : GoodIn lw_good L := fun w hw => lw_goodIn w (h w hw)
theorem mem_c {w : Cond} {L G : List Cond} (h1 : w ∈ G) (h2 : ∀ x ∈ L, x ∈ G) : ∀ x ∈ w :: L, x ∈ G := fun x hx => (List.mem_cons.mp hx).elim (fun e => by rw [e]; exact h1) (h2 x)
theorem mem_a {L1 L2 G : List Cond} (h1 : ∀ x ∈ L1, x ∈ G) (h2 : ∀ x ∈ L2, x ∈ G) : ∀ x ∈ L1 ++ L2, x ∈ G := fun x hx => (List.mem_append.mp hx).elim (h1 x) (h2 x)
theorem mem_n {G : List Cond} : ∀ x ∈ ([] : List Cond), x ∈ G := fun x hx => absurd hx List.not_mem_nil
theorem st_at {st : List Value} {na : Nat} {v : Value} (h : st[na]? = some v) : st = st.take na ++ v :: st.drop (na + 1) ∧ (st.take (na + 1)).reverse = v :: (st.take na).reverse ∧ (st.take na).length = na := by
  obtain ⟨hl, hv⟩ := List.getElem?_eq_some_iff.mp h
  refine ⟨?_, ?_, by simp; omega⟩
  · conv => lhs; rw [← List.take_append_drop na st]
    rw [List.drop_eq_getElem_cons hl, hv]
  · rw [List.take_succ, h]; simp
theorem eRcv_ok {cc N : Nat} {h : eHp} {v : Option Value} (hr : eRcv cc N h v = true) : ∃ a fs, v = some (.ref a) ∧ Nat.ble (a + 1) N = true ∧ h a = .inr (cc, fs) := by
  unfold eRcv at hr
  split at hr
  · rename_i a
    rw [Bool.and_eq_true] at hr
    obtain ⟨h1, h2⟩ := hr
    split at h2
    · rename_i q fs hh
      have := Nat.eq_of_beq_eq_true h2
      subst this
      exact ⟨a, fs, rfl, h1, hh⟩
    · cases h2
  · cases hr
theorem eRcvA_ok {N : Nat} {v : Option Value} (hr : eRcvA N v = true) : ∃ a, v = some (.ref a) ∧ Nat.ble (a + 1) N = true := by
  unfold eRcvA at hr
  split at hr
  · exact ⟨_, rfl, hr⟩
  · cases hr
section EI
variable {S : List (String × Nat × String)} {p : Program} {l : Launch} {e : Env} {R : Room} {s : State} {m : MethodId} {args : Array Value} {below : List Frame} {meth : Method} {c : Code} {Q : State → Prop} {ox : Nat → Option (Nat × Nat × (Nat → Int32))} {M : eM} {D : va_G} {cA : Nat → ClassId} {A : Nat → Prop} {bv0 : Nat → Value} {N0 : Nat} {ad0 : Nat → Nat}
variable {pc : Nat} {lv : eLv} {st : List Value} {N : Nat} {h : eHp} {k z : Nat} {d x na cc : Nat} {M' : eM} {q : eR} {c' : eC}
/-- the callee's start -/
theorem ePc_of (F : eFr S p l s m args meth c ox M D cA A bv0) (hox : ∀ j q n f, eOx j = some (q, n, f) → ox j = some (q, n, f)) {ad : Nat → Nat} {H : Heap} {locs : List Loc} (hP : va_P D vwCl (eW ad bv0 cA N h) H) (hD : va_D A (eW ad bv0 cA N h)) (hS : va_S A s.heap H locs) {U : State} (hU : U.heap = H) (hW : s.WarmedH U.vm) : ePc S D cA bv0 ad N h H.size U := by
  have hA9 := eA_sub F.2.2.2.2.2.2.1 hD hS
  have hF : eFx A bv0 s H := eFx.kept F.2.2.2.2.2.2.2.2.2.2.1 hS.2.1
  have hO : eOut ox A bv0 s H := eOut.kept F.2.2.2.2.2.2.2.2.2.2.2.1 hS.2.1
  refine ⟨by rw [hU], by rw [hU]; exact hP, va_K.moved hW.alike F.2.2.2.2.2.1, hD.weaken (fun _ _ _ _ => trivial), ?_, ?_, eWd.warm hW F.2.2.2.2.2.2.2.2.2.2.2.2.1⟩
  · rw [hU]; exact eFx.moved hW.alike (hF.narrow hA9)
  · rw [hU]; exact eOut.moved hW.alike (fun j q n f hj => (hO.narrow hA9) j q n f (hox j q n f hj))
theorem eCall_code {M' : eM} (h : M'.2.2.2.2.2.1 = []) : eCode M' = Cond.code M'.2.1 M'.2.2.1 M'.2.2.2.1 M'.2.2.2.2.1 := by unfold eCode; rw [h]
set_option maxRecDepth 100000 in
theorem eg_callV (F : eFr S p l s m args meth c ox M D cA A bv0) (hT9 : c.exceptionTable.toList = tableOf M.2.2.2.2.2.1) (hox : ∀ j q n f, eOx j = some (q, n, f) → ox j = some (q, n, f)) (hRf : d + 11 ≤ R.frames) (hRl : 40 * d + 340 ≤ R.locals) (hN : N0 ≤ N) (hq1 : N ≤ q.2.1) (hkR : k + q.2.2.2.1 ≤ R.cells) (hzR : z + q.2.2.2.2 ≤ R.slots) (hMet : eMet S l d M' (st.take (na + 1)).reverse N h q) (hd : decode M.2.2.1 pc = .ok (.invokevirtual x, 3)) (hv : eMth M.1 x = some (0, cc, na, M')) (hc : (eRcv cc N h (st[na]?) && eRm (st.drop (na + 1)) && (st.take (na + 1)).all eN9) = true) (hback : eBack M (pc, lv, st, N, h, k, z) lv (st.drop (na + 1)) q = some c') (kk : eKW p l e R s m args below meth c Q M D cA A bv0 N0 ad0 c') : eKW p l e R s m args below meth c Q M D cA A bv0 N0 ad0 (pc, lv, st, N, h, k, z) := by
  intro ad bv H locs ls hb hbv hag hag2 hP hD hS hl
  simp only [Bool.and_eq_true] at hc
  obtain ⟨a, fs, e1, ha, hha⟩ := eRcv_ok hc.1.1
  obtain ⟨s1, s2, s3⟩ := st_at e1
  have hw := eMth_ok hv
  simp only [eMthOk] at hw
  obtain ⟨hmo, hh, ⟨r0, hr1, hr2⟩, w1, w2, w3, w4, hp⟩ := hw
  obtain ⟨mo1, mo2, mo3, mo4⟩ := hmo
  have hM9 := hMet D cA bv0 ad H.size F.2.2.2.2.2.2.2.2.2.2.2.2.2.1
  rw [s2] at hM9
  rw [eCall_code hh] at hM9 mo1
  have h9 : (st.take na).map (eV ad bv) = (st.take na).map (eV ad bv0) := eN9s_eq hb (by
    have := hc.2
    rw [List.take_succ, List.all_append, Bool.and_eq_true] at this
    exact this.1)
  have hst : st.map (eV ad bv) = ((st.take na).reverse.map (eV ad bv0)).reverse ++ Value.ref (ad a) :: (st.drop (na + 1)).map (eV ad bv) := by
    conv => lhs; rw [s1]
    rw [List.map_append, List.map_cons, h9, ← List.map_reverse, List.reverse_reverse]; rfl
  show W p l e R s m args below meth c H locs k z Q (F0 m pc ls (st.map (eV ad bv)))
  rw [hst]
  refine eg_behind F hT9 hN hq1 hback kk hb hbv hag hag2 hP hD hS hl (vx_runV (As := (st.take na).reverse.map (eV ad bv0)) ⟨F.1, F.2.1, F.2.2.1, F.2.2.2.1, F.2.2.2.2.1⟩ hM9 (cwV na F.2.2.2.2.1 (lw_gi (mem_a (mem_c w1 (mem_c w2 (mem_c w3 (mem_c w4 mem_n)))) (mem_c mo1 (fun _ hx => hx)))) rfl rfl rfl ⟨rfl, hp⟩ ⟨by show d + 10 + 1 ≤ _; omega, by show 8 + (M'.2.2.2.1 + 11) + (40 * d + 300) ≤ _; omega⟩) ⟨ePc_blind, by obtain ⟨cell, g1, g2, g3⟩ := va_recv F.2.2.2.2.2.1 hP hr1 (eW_ble ha hha); exact ⟨cell, g1, g2, by rw [hr2] at g3; exact g3⟩, fun U hU hW => ⟨rfl, ePc_of F hox hP hD hS hU hW⟩⟩ rfl (by rw [List.length_map, List.length_reverse, s3]) hl.1 rfl (lv_room (by rw [eV_cats hbv]; exact Nat.le_of_ble_eq_true hc.1.2)) hd ⟨hkR, hzR⟩)
set_option maxRecDepth 100000 in
theorem eg_callU (F : eFr S p l s m args meth c ox M D cA A bv0) (hT9 : c.exceptionTable.toList = tableOf M.2.2.2.2.2.1) (hox : ∀ j q n f, eOx j = some (q, n, f) → ox j = some (q, n, f)) (hRf : d + 11 ≤ R.frames) (hRl : 40 * d + 340 ≤ R.locals) (hN : N0 ≤ N) (hq1 : N ≤ q.2.1) (hkR : k + q.2.2.2.1 ≤ R.cells) (hzR : z + q.2.2.2.2 ≤ R.slots) (hMet : eMet S l d M' (st.take (na + 1)).reverse N h q) (hd : decode M.2.2.1 pc = .ok (.invokevirtual x, 3)) (hv : eMth M.1 x = some (5, cc, na, M')) (hc : (eRcv cc N h (st[na]?) && eRm (st.drop (na + 1)) && (st.take (na + 1)).all eN9) = true) (hback : eBack M (pc, lv, st, N, h, k, z) lv (st.drop (na + 1)) q = some c') (kk : eKW p l e R s m args below meth c Q M D cA A bv0 N0 ad0 c') : eKW p l e R s m args below meth c Q M D cA A bv0 N0 ad0 (pc, lv, st, N, h, k, z) := by
  intro ad bv H locs ls hb hbv hag hag2 hP hD hS hl
  simp only [Bool.and_eq_true] at hc
  obtain ⟨a, fs, e1, ha, hha⟩ := eRcv_ok hc.1.1
  obtain ⟨s1, s2, s3⟩ := st_at e1
  have hw := eMth_ok hv
  simp only [eMthOk] at hw
  obtain ⟨hmo, hh, ⟨r0, hr1, hr2⟩, w1, w2, w3, w4, w5, hp⟩ := hw
  obtain ⟨mo1, mo2, mo3, mo4⟩ := hmo
  have hM9 := hMet D cA bv0 ad H.size F.2.2.2.2.2.2.2.2.2.2.2.2.2.1
  rw [s2] at hM9
  rw [eCall_code hh] at hM9 mo1
  have h9 : (st.take na).map (eV ad bv) = (st.take na).map (eV ad bv0) := eN9s_eq hb (by
    have := hc.2
    rw [List.take_succ, List.all_append, Bool.and_eq_true] at this
    exact this.1)
  have hst : st.map (eV ad bv) = ((st.take na).reverse.map (eV ad bv0)).reverse ++ Value.ref (ad a) :: (st.drop (na + 1)).map (eV ad bv) := by
    conv => lhs; rw [s1]
    rw [List.map_append, List.map_cons, h9, ← List.map_reverse, List.reverse_reverse]; rfl
  show W p l e R s m args below meth c H locs k z Q (F0 m pc ls (st.map (eV ad bv)))
  rw [hst]
  refine eg_behind F hT9 hN hq1 hback kk hb hbv hag hag2 hP hD hS hl (vx_runU (As := (st.take na).reverse.map (eV ad bv0)) (C := "java/lang/StringBuilder") (owner := M'.2.1.cls) ⟨F.1, F.2.1, F.2.2.1, F.2.2.2.1, F.2.2.2.2.1⟩ hM9 (va_cwU na F.2.2.2.2.1 (lw_gi (mem_a (mem_c w1 (mem_c w2 (mem_c w3 (mem_c w4 (mem_c w5 mem_n))))) (mem_c mo1 (fun _ hx => hx)))) rfl rfl rfl rfl hp ⟨by show d + 10 + 1 ≤ _; omega, by show 8 + (M'.2.2.2.1 + 11) + (40 * d + 300) ≤ _; omega⟩) ⟨ePc_blind, by obtain ⟨cell, g1, g2, g3⟩ := va_recv F.2.2.2.2.2.1 hP hr1 (eW_ble ha hha); exact ⟨cell, g1, g2, by rw [hr2] at g3; exact g3⟩, fun U hU hW => ⟨rfl, ePc_of F hox hP hD hS hU hW⟩⟩ rfl (by rw [List.length_map, List.length_reverse, s3]) hl.1 rfl (lv_room (by rw [eV_cats hbv]; exact Nat.le_of_ble_eq_true hc.1.2)) hd ⟨hkR, hzR⟩)
set_option maxRecDepth 100000 in
theorem eg_callSU (F : eFr S p l s m args meth c ox M D cA A bv0) (hT9 : c.exceptionTable.toList = tableOf M.2.2.2.2.2.1) (hox : ∀ j q n f, eOx j = some (q, n, f) → ox j = some (q, n, f)) (hRf : d + 11 ≤ R.frames) (hRl : 40 * d + 340 ≤ R.locals) (hN : N0 ≤ N) (hq1 : N ≤ q.2.1) (hkR : k + q.2.2.2.1 ≤ R.cells) (hzR : z + q.2.2.2.2 ≤ R.slots) (hMet : eMet S l d M' (st.take (na + 1)).reverse N h q) (hd : decode M.2.2.1 pc = .ok (.invokespecial x, 3)) (hv : eMth M.1 x = some (6, cc, na, M')) (hc : (eRcv cc N h (st[na]?) && eRm (st.drop (na + 1)) && (st.take (na + 1)).all eN9) = true) (hback : eBack M (pc, lv, st, N, h, k, z) lv (st.drop (na + 1)) q = some c') (kk : eKW p l e R s m args below meth c Q M D cA A bv0 N0 ad0 c') : eKW p l e R s m args below meth c Q M D cA A bv0 N0 ad0 (pc, lv, st, N, h, k, z) := by
  intro ad bv H locs ls hb hbv hag hag2 hP hD hS hl
  simp only [Bool.and_eq_true] at hc
  obtain ⟨a, fs, e1, ha, hha⟩ := eRcv_ok hc.1.1
  obtain ⟨s1, s2, s3⟩ := st_at e1
  have hw := eMth_ok hv
  simp only [eMthOk] at hw
  obtain ⟨hmo, hh, ⟨r0, hr1, hr2⟩, w1, w2, w3, w4, w5, hp1, hp2⟩ := hw
  obtain ⟨mo1, mo2, mo3, mo4⟩ := hmo
  have hM9 := hMet D cA bv0 ad H.size F.2.2.2.2.2.2.2.2.2.2.2.2.2.1
  rw [s2] at hM9
  rw [eCall_code hh] at hM9 mo1
  have hat : ClassAt s "java/lang/StringBuilder" (D.1 cc) := by rw [← hr2]; exact (F.2.2.2.2.2.1.1 cc r0 hr1).2
  have h9 : (st.take na).map (eV ad bv) = (st.take na).map (eV ad bv0) := eN9s_eq hb (by
    have := hc.2
    rw [List.take_succ, List.all_append, Bool.and_eq_true] at this
    exact this.1)
  have hst : st.map (eV ad bv) = ((st.take na).reverse.map (eV ad bv0)).reverse ++ Value.ref (ad a) :: (st.drop (na + 1)).map (eV ad bv) := by
    conv => lhs; rw [s1]
    rw [List.map_append, List.map_cons, h9, ← List.map_reverse, List.reverse_reverse]; rfl
  show W p l e R s m args below meth c H locs k z Q (F0 m pc ls (st.map (eV ad bv)))
  rw [hst]
  refine eg_behind F hT9 hN hq1 hback kk hb hbv hag hag2 hP hD hS hl (vx_runSU (As := (st.take na).reverse.map (eV ad bv0)) (C := "java/lang/StringBuilder") hat ⟨F.1, F.2.1, F.2.2.1, F.2.2.2.1, F.2.2.2.2.1⟩ hM9 (va_cwSU na F.2.2.2.2.1 (lw_gi (mem_a (mem_c w1 (mem_c w2 (mem_c w3 (mem_c w4 (mem_c w5 mem_n))))) (mem_c mo1 (fun _ hx => hx)))) rfl rfl rfl ⟨hp1, hp2⟩ ⟨by show d + 10 + 1 ≤ _; omega, by show 8 + (M'.2.2.2.1 + 11) + (40 * d + 300) ≤ _; omega⟩) ⟨ePc_blind, by obtain ⟨cell, g1, g2, g3⟩ := va_recv F.2.2.2.2.2.1 hP hr1 (eW_ble ha hha); exact ⟨cell, g1, g2, by rw [hr2] at g3; exact g3⟩, fun U hU hW => ⟨rfl, ePc_of F hox hP hD hS hU hW⟩⟩ rfl (by rw [List.length_map, List.length_reverse, s3]) hl.1 rfl (lv_room (by rw [eV_cats hbv]; exact Nat.le_of_ble_eq_true hc.1.2)) hd ⟨hkR, hzR⟩)
set_option maxRecDepth 100000 in
theorem eg_callI (F : eFr S p l s m args meth c ox M D cA A bv0) (hT9 : c.exceptionTable.toList = tableOf M.2.2.2.2.2.1) (hox : ∀ j q n f, eOx j = some (q, n, f) → ox j = some (q, n, f)) (hRf : d + 11 ≤ R.frames) (hRl : 40 * d + 340 ≤ R.locals) (hN : N0 ≤ N) (hq1 : N ≤ q.2.1) (hkR : k + q.2.2.2.1 ≤ R.cells) (hzR : z + q.2.2.2.2 ≤ R.slots) (hMet : eMet S l d M' (st.take (na + 1)).reverse N h q) (hd : decode M.2.2.1 pc = .ok (.invokespecial x, 3)) (hv : eMth M.1 x = some (2, cc, na, M')) (hc : (eRcvA N (st[na]?) && eRm (st.drop (na + 1)) && (st.take (na + 1)).all eN9) = true) (hback : eBack M (pc, lv, st, N, h, k, z) lv (st.drop (na + 1)) q = some c') (kk : eKW p l e R s m args below meth c Q M D cA A bv0 N0 ad0 c') : eKW p l e R s m args below meth c Q M D cA A bv0 N0 ad0 (pc, lv, st, N, h, k, z) := by
  intro ad bv H locs ls hb hbv hag hag2 hP hD hS hl
  simp only [Bool.and_eq_true] at hc
  obtain ⟨a, e1, ha⟩ := eRcvA_ok hc.1.1
  obtain ⟨s1, s2, s3⟩ := st_at e1
  have hw := eMth_ok hv
  simp only [eMthOk] at hw
  obtain ⟨hmo, hh, hret, hy1, w1, w2, w3, hp⟩ := hw
  obtain ⟨mo1, mo2, mo3, mo4⟩ := hmo
  have hM9 := hMet D cA bv0 ad H.size F.2.2.2.2.2.2.2.2.2.2.2.2.2.1
  rw [s2] at hM9
  rw [eCall_code hh] at hM9 mo1
  rw [hret] at hM9 mo1
  have h9 : (st.take na).map (eV ad bv) = (st.take na).map (eV ad bv0) := eN9s_eq hb (by
    have := hc.2
    rw [List.take_succ, List.all_append, Bool.and_eq_true] at this
    exact this.1)
  have hst : st.map (eV ad bv) = ((st.take na).reverse.map (eV ad bv0)).reverse ++ Value.ref (ad a) :: (st.drop (na + 1)).map (eV ad bv) := by
    conv => lhs; rw [s1]
    rw [List.map_append, List.map_cons, h9, ← List.map_reverse, List.reverse_reverse]; rfl
  show W p l e R s m args below meth c H locs k z Q (F0 m pc ls (st.map (eV ad bv)))
  rw [hst]
  refine eg_behind F hT9 hN hq1 hback kk hb hbv hag hag2 hP hD hS hl (vx_runI (As := (st.take na).reverse.map (eV ad bv0)) ⟨F.1, F.2.1, F.2.2.1, F.2.2.2.1, F.2.2.2.2.1⟩ hM9 (cwI na F.2.2.2.2.1 (lw_gi (mem_c mo1 (fun _ hx => hx))) rfl rfl rfl (F.2.2.2.2.1 _ w3) (F.2.2.2.2.1 _ w1) (F.2.2.2.2.1 _ w2) hy1 hp ⟨by show d + 10 + 1 ≤ _; omega, by show 8 + (M'.2.2.2.1 + 11) + (40 * d + 300) ≤ _; omega⟩) ⟨ePc_blind, fun U hU hW => ⟨rfl, ePc_of F hox hP hD hS hU hW⟩⟩ rfl (by rw [List.length_map, List.length_reverse, s3]) hl.1 rfl (lv_room (by rw [eV_cats hbv]; exact Nat.le_of_ble_eq_true hc.1.2)) hd ⟨hkR, hzR⟩)
set_option maxRecDepth 100000 in
theorem eg_callIN (F : eFr S p l s m args meth c ox M D cA A bv0) (hT9 : c.exceptionTable.toList = tableOf M.2.2.2.2.2.1) (hox : ∀ j q n f, eOx j = some (q, n, f) → ox j = some (q, n, f)) (hRf : d + 11 ≤ R.frames) (hRl : 40 * d + 340 ≤ R.locals) (hN : N0 ≤ N) (hq1 : N ≤ q.2.1) (hkR : k + q.2.2.2.1 ≤ R.cells) (hzR : z + q.2.2.2.2 ≤ R.slots) (hMet : eMet S l d M' (st.take (na + 1)).reverse N h q) (hd : decode M.2.2.1 pc = .ok (.invokespecial x, 3)) (hv : eMth M.1 x = some (3, cc, na, M')) (hc : (eRcvA N (st[na]?) && eRm (st.drop (na + 1)) && (st.take (na + 1)).all eN9) = true) (hback : eBack M (pc, lv, st, N, h, k, z) lv (st.drop (na + 1)) q = some c') (kk : eKW p l e R s m args below meth c Q M D cA A bv0 N0 ad0 c') : eKW p l e R s m args below meth c Q M D cA A bv0 N0 ad0 (pc, lv, st, N, h, k, z) := by
  intro ad bv H locs ls hb hbv hag hag2 hP hD hS hl
  simp only [Bool.and_eq_true] at hc
  obtain ⟨a, e1, ha⟩ := eRcvA_ok hc.1.1
  obtain ⟨s1, s2, s3⟩ := st_at e1
  have hw := eMth_ok hv
  simp only [eMthOk] at hw
  obtain ⟨hmo, hh, hret, hy1, w1, w2, w3, hp⟩ := hw
  obtain ⟨mo1, mo2, mo3, mo4⟩ := hmo
  have hM9 := hMet D cA bv0 ad H.size F.2.2.2.2.2.2.2.2.2.2.2.2.2.1
  rw [s2] at hM9
  rw [eCall_code hh] at hM9 mo1
  rw [hret] at hM9 mo1
  have h9 : (st.take na).map (eV ad bv) = (st.take na).map (eV ad bv0) := eN9s_eq hb (by
    have := hc.2
    rw [List.take_succ, List.all_append, Bool.and_eq_true] at this
    exact this.1)
  have hst : st.map (eV ad bv) = ((st.take na).reverse.map (eV ad bv0)).reverse ++ Value.ref (ad a) :: (st.drop (na + 1)).map (eV ad bv) := by
    conv => lhs; rw [s1]
    rw [List.map_append, List.map_cons, h9, ← List.map_reverse, List.reverse_reverse]; rfl
  show W p l e R s m args below meth c H locs k z Q (F0 m pc ls (st.map (eV ad bv)))
  rw [hst]
  refine eg_behind F hT9 hN hq1 hback kk hb hbv hag hag2 hP hD hS hl (vx_runIN (As := (st.take na).reverse.map (eV ad bv0)) (host := "MonkMarbles") ⟨F.1, F.2.1, F.2.2.1, F.2.2.2.1, F.2.2.2.2.1⟩ hM9 ⟨va_cnB na F.2.2.2.2.1 (lw_gi (mem_c mo1 (fun _ hx => hx))) rfl rfl rfl (F.2.2.2.2.2.2.2.2.2.2.2.2.1.1 _ w1) (F.2.2.2.2.1 _ w3) hp ⟨by show d + 10 + 1 ≤ _; omega, by show 8 + (M'.2.2.2.1 + 11) + (40 * d + 300) ≤ _; omega⟩, hy1, F.2.2.2.2.1 _ w2⟩ ⟨ePc_blind, fun U hU hW => ⟨rfl, ePc_of F hox hP hD hS hU hW⟩⟩ rfl (by rw [List.length_map, List.length_reverse, s3]) hl.1 rfl (lv_room (by rw [eV_cats hbv]; exact Nat.le_of_ble_eq_true hc.1.2)) hd ⟨hkR, hzR⟩)
set_option maxRecDepth 100000 in
theorem eg_callS (F : eFr S p l s m args meth c ox M D cA A bv0) (hT9 : c.exceptionTable.toList = tableOf M.2.2.2.2.2.1) (hox : ∀ j q n f, eOx j = some (q, n, f) → ox j = some (q, n, f)) (hRf : d + 11 ≤ R.frames) (hRl : 40 * d + 340 ≤ R.locals) (hN : N0 ≤ N) (hq1 : N ≤ q.2.1) (hkR : k + q.2.2.2.1 ≤ R.cells) (hzR : z + q.2.2.2.2 ≤ R.slots) (hMet : eMet S l d M' (st.take na).reverse N h q) (hd : decode M.2.2.1 pc = .ok (.invokestatic x, 3)) (hv : eMth M.1 x = some (1, cc, na, M')) (hc : (Nat.ble na st.length && eRm (st.drop na) && (st.take na).all eN9) = true) (hback : eBack M (pc, lv, st, N, h, k, z) lv (st.drop na) q = some c') (kk : eKW p l e R s m args below meth c Q M D cA A bv0 N0 ad0 c') : eKW p l e R s m args below meth c Q M D cA A bv0 N0 ad0 (pc, lv, st, N, h, k, z) := by
  intro ad bv H locs ls hb hbv hag hag2 hP hD hS hl
  simp only [Bool.and_eq_true] at hc
  have s3 : (st.take na).length = na := by rw [List.length_take]; exact Nat.min_eq_left (Nat.le_of_ble_eq_true hc.1.1)
  have hw := eMth_ok hv
  simp only [eMthOk] at hw
  obtain ⟨hmo, w1, w2, w3, hp⟩ := hw
  obtain ⟨mo1, mo2, mo3, mo4⟩ := hmo
  have hM9 := hMet D cA bv0 ad H.size F.2.2.2.2.2.2.2.2.2.2.2.2.2.1
  have h9 : (st.take na).map (eV ad bv) = (st.take na).map (eV ad bv0) := eN9s_eq hb hc.2
  have hst : st.map (eV ad bv) = ((st.take na).reverse.map (eV ad bv0)).reverse ++ (st.drop na).map (eV ad bv) := by
    conv => lhs; rw [← List.take_append_drop na st]
    rw [List.map_append, h9, ← List.map_reverse, List.reverse_reverse]
  show W p l e R s m args below meth c H locs k z Q (F0 m pc ls (st.map (eV ad bv)))
  rw [hst]
  cases hh : M'.2.2.2.2.2.1 with
  | nil =>
    rw [eCall_code hh] at hM9 mo1
    refine eg_behind F hT9 hN hq1 hback kk hb hbv hag hag2 hP hD hS hl (vx_runS (As := (st.take na).reverse.map (eV ad bv0)) ⟨F.1, F.2.1, F.2.2.1, F.2.2.2.1, F.2.2.2.2.1⟩ hM9 (va_cwS na F.2.2.2.2.1 (lw_gi (mem_a (mem_c w1 (mem_c w2 (mem_c w3 mem_n))) (mem_c mo1 (fun _ hx => hx)))) rfl rfl rfl hp ⟨by show d + 10 + 1 ≤ _; omega, by show 8 + (M'.2.2.2.1 + 11) + (40 * d + 300) ≤ _; omega⟩) ⟨ePc_blind, fun U hU hW => ⟨rfl, ePc_of F hox hP hD hS hU hW⟩⟩ rfl (by rw [List.length_map, List.length_reverse, s3]) hl.1 rfl (lv_room (by rw [eV_cats hbv]; exact Nat.le_of_ble_eq_true hc.1.2)) hd ⟨hkR, hzR⟩)
  | cons h0 ht =>
    have e8 : eCode M' = Cond.codeWith M'.2.1 M'.2.2.1 M'.2.2.2.1 M'.2.2.2.2.1 (h0 :: ht) := by unfold eCode; rw [hh]
    rw [e8] at hM9 mo1
    refine eg_behind F hT9 hN hq1 hback kk hb hbv hag hag2 hP hD hS hl (vx_runSX (As := (st.take na).reverse.map (eV ad bv0)) ⟨F.1, F.2.1, F.2.2.1, F.2.2.2.1, F.2.2.2.2.1⟩ hM9 (vx_cwSW na F.2.2.2.2.1 (lw_gi (mem_a (mem_c w1 (mem_c w2 (mem_c w3 mem_n))) (mem_c mo1 (fun _ hx => hx)))) rfl rfl rfl hp ⟨by show d + 10 + 1 ≤ _; omega, by show 8 + (M'.2.2.2.1 + 11) + (40 * d + 300) ≤ _; omega⟩) ⟨ePc_blind, fun U hU hW => ⟨rfl, ePc_of F hox hP hD hS hU hW⟩⟩ rfl (by rw [List.length_map, List.length_reverse, s3]) hl.1 rfl (lv_room (by rw [eV_cats hbv]; exact Nat.le_of_ble_eq_true hc.1.2)) hd ⟨hkR, hzR⟩)
set_option maxRecDepth 100000 in
theorem eg_callSN (F : eFr S p l s m args meth c ox M D cA A bv0) (hT9 : c.exceptionTable.toList = tableOf M.2.2.2.2.2.1) (hox : ∀ j q n f, eOx j = some (q, n, f) → ox j = some (q, n, f)) (hRf : d + 11 ≤ R.frames) (hRl : 40 * d + 340 ≤ R.locals) (hN : N0 ≤ N) (hq1 : N ≤ q.2.1) (hkR : k + q.2.2.2.1 ≤ R.cells) (hzR : z + q.2.2.2.2 ≤ R.slots) (hMet : eMet S l d M' (st.take na).reverse N h q) (hd : decode M.2.2.1 pc = .ok (.invokestatic x, 3)) (hv : eMth M.1 x = some (4, cc, na, M')) (hc : (Nat.ble na st.length && eRm (st.drop na) && (st.take na).all eN9) = true) (hback : eBack M (pc, lv, st, N, h, k, z) lv (st.drop na) q = some c') (kk : eKW p l e R s m args below meth c Q M D cA A bv0 N0 ad0 c') : eKW p l e R s m args below meth c Q M D cA A bv0 N0 ad0 (pc, lv, st, N, h, k, z) := by
  intro ad bv H locs ls hb hbv hag hag2 hP hD hS hl
  simp only [Bool.and_eq_true] at hc
  have s3 : (st.take na).length = na := by rw [List.length_take]; exact Nat.min_eq_left (Nat.le_of_ble_eq_true hc.1.1)
  have hw := eMth_ok hv
  simp only [eMthOk] at hw
  obtain ⟨hmo, hh, w1, w2, w3, hp⟩ := hw
  obtain ⟨mo1, mo2, mo3, mo4⟩ := hmo
  have hM9 := hMet D cA bv0 ad H.size F.2.2.2.2.2.2.2.2.2.2.2.2.2.1
  have h9 : (st.take na).map (eV ad bv) = (st.take na).map (eV ad bv0) := eN9s_eq hb hc.2
  have hst : st.map (eV ad bv) = ((st.take na).reverse.map (eV ad bv0)).reverse ++ (st.drop na).map (eV ad bv) := by
    conv => lhs; rw [← List.take_append_drop na st]
    rw [List.map_append, h9, ← List.map_reverse, List.reverse_reverse]
  show W p l e R s m args below meth c H locs k z Q (F0 m pc ls (st.map (eV ad bv)))
  rw [hst]
  rw [eCall_code hh] at hM9 mo1
  refine eg_behind F hT9 hN hq1 hback kk hb hbv hag hag2 hP hD hS hl (vx_runSN (As := (st.take na).reverse.map (eV ad bv0)) (host := "MonkMarbles") ⟨F.1, F.2.1, F.2.2.1, F.2.2.2.1, F.2.2.2.2.1⟩ hM9 ⟨va_cnB na F.2.2.2.2.1 (lw_gi (mem_c mo1 (fun _ hx => hx))) rfl rfl rfl (F.2.2.2.2.2.2.2.2.2.2.2.2.1.1 _ w1) (F.2.2.2.2.1 _ w3) hp ⟨by show d + 10 + 1 ≤ _; omega, by show 8 + (M'.2.2.2.1 + 11) + (40 * d + 300) ≤ _; omega⟩, F.2.2.2.2.1 _ w2, trivial⟩ ⟨ePc_blind, fun U hU hW => ⟨rfl, ePc_of F hox hP hD hS hU hW⟩⟩ rfl (by rw [List.length_map, List.length_reverse, s3]) hl.1 rfl (lv_room (by rw [eV_cats hbv]; exact Nat.le_of_ble_eq_true hc.1.2)) hd ⟨hkR, hzR⟩)
theorem eStep_call (F : eFr S p l s m args meth c ox M D cA A bv0) (hT9 : c.exceptionTable.toList = tableOf M.2.2.2.2.2.1) (hox : ∀ j q n f, eOx j = some (q, n, f) → ox j = some (q, n, f)) (hRf : d + 11 ≤ R.frames) (hRl : 40 * d + 340 ≤ R.locals) (hN : N0 ≤ N) (hq1 : N ≤ q.2.1) (hkR : k + q.2.2.2.1 ≤ R.cells) (hzR : z + q.2.2.2.2 ≤ R.slots) {cf : eC} {kd idx : Nat} {as : List Value} {lv1 : eLv} {r : List Value} (hcf : cf = (pc, lv, st, N, h, k, z)) (hs : eStep ox M cf = some (.inr (.inr (kd, idx, M', as, lv1, r)))) (hMet : eMOk M' → eThrB M' = true → eMet S l d M' as N h q) (hback : eBack M cf lv1 r q = some c') (kk : eKW p l e R s m args below meth c Q M D cA A bv0 N0 ad0 c') : eKW p l e R s m args below meth c Q M D cA A bv0 N0 ad0 cf := by
  subst hcf
  unfold eStep at hs
  split at hs
  case h_2 => cases hs
  rename_i i tg hi
  obtain ⟨hd, -⟩ := F.2.2.2.2.2.2.2.2.2.2.2.2.2.2 _ (eLk_mem hi)
  have hgo : ∀ {a1 : Nat} {a2 : eLv} {a3 : List Value} {a4 : Nat} {a5 : eHp} {a6 a7 : Nat} {q : eKc}, eGo a1 a2 a3 a4 a5 a6 a7 = some (.inr (.inr q)) → False := fun h => by cases h
  have key : ∀ (form : Nat), eInv form (eMth M.1 idx) idx pc lv st N h k z = some (.inr (.inr (kd, idx, M', as, lv1, r))) → True := fun _ _ => trivial
  cases i with
  | invokevirtual x =>
    simp only [eDo, eInv] at hs
    cases hv : eMth M.1 x with
    | none => rw [hv] at hs; cases hs
    | some v =>
      obtain ⟨kd0, cc0, na0, M0⟩ := v
      rw [hv] at hs
      simp only at hs
      split at hs <;> first | contradiction | skip
      · split at hs
        · rename_i hc
          cases hs
          exact eg_callV F hT9 hox hRf hRl hN hq1 hkR hzR (hMet (by have := eMth_ok hv; exact this.1) (eThr_of hv)) hd hv hc hback kk
        · cases hs
      · split at hs
        · rename_i hc
          cases hs
          exact eg_callU F hT9 hox hRf hRl hN hq1 hkR hzR (hMet (by have := eMth_ok hv; exact this.1) (eThr_of hv)) hd hv hc hback kk
        · cases hs
      all_goals first | cases hs | skip
  | invokestatic x =>
    simp only [eDo, eInv] at hs
    cases hv : eMth M.1 x with
    | none => rw [hv] at hs; cases hs
    | some v =>
      obtain ⟨kd0, cc0, na0, M0⟩ := v
      rw [hv] at hs
      simp only at hs
      split at hs <;> first | contradiction | skip
      · split at hs
        · rename_i hc
          cases hs
          exact eg_callS F hT9 hox hRf hRl hN hq1 hkR hzR (hMet (by have := eMth_ok hv; exact this.1) (eThr_of hv)) hd hv hc hback kk
        · cases hs
      · split at hs
        · rename_i hc
          cases hs
          exact eg_callSN F hT9 hox hRf hRl hN hq1 hkR hzR (hMet (by have := eMth_ok hv; exact this.1) (eThr_of hv)) hd hv hc hback kk
        · cases hs
      · exfalso
        unfold eCopy at hs
        repeat' (split at hs)
        all_goals first | cases hs | exact hgo hs
      · exfalso
        repeat' (split at hs)
        all_goals first | cases hs | exact hgo hs
      · exfalso
        repeat' (split at hs)
        all_goals first | cases hs | exact hgo hs
      all_goals first | cases hs | skip
  | invokespecial x =>
    simp only [eDo, eInv] at hs
    cases hv : eMth M.1 x with
    | none => rw [hv] at hs; cases hs
    | some v =>
      obtain ⟨kd0, cc0, na0, M0⟩ := v
      rw [hv] at hs
      simp only at hs
      split at hs <;> first | contradiction | skip
      · split at hs
        · rename_i hc
          cases hs
          exact eg_callI F hT9 hox hRf hRl hN hq1 hkR hzR (hMet (by have := eMth_ok hv; exact this.1) (eThr_of hv)) hd hv hc hback kk
        · cases hs
      · split at hs
        · rename_i hc
          cases hs
          exact eg_callIN F hT9 hox hRf hRl hN hq1 hkR hzR (hMet (by have := eMth_ok hv; exact this.1) (eThr_of hv)) hd hv hc hback kk
        · cases hs
      · split at hs
        · rename_i hc
          cases hs
          exact eg_callSU F hT9 hox hRf hRl hN hq1 hkR hzR (hMet (by have := eMth_ok hv; exact this.1) (eThr_of hv)) hd hv hc hback kk
        · cases hs
      · exfalso
        repeat' (split at hs)
        all_goals first | cases hs | exact hgo hs
      all_goals first | cases hs | skip
  | _ =>
    exfalso
    simp only [eDo] at hs
    (try simp only [eLi, eLl, eLa, eSi, eSl, eSa, eB, eBl, eIf, eAl, eAlL, eAlD, eAlA, eAs, eAsL, eAsD, eAsA, eLen, eMk, eGet, ePut, eNwa] at hs)
    repeat' (split at hs)
    all_goals first | cases hs | exact hgo hs
end EI
