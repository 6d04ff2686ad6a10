/-! rows that touch the heap -/
theorem eIn_ok {i : Int32} {n : Nat} (h : eIn i n = true) : vp_in i n := by
  intro hc
  simp only [eIn, Bool.not_eq_true', Bool.or_eq_false_iff, decide_eq_false_iff_not] at h
  rcases hc with hc | hc
  · exact h.1 hc
  · have := Nat.ble_eq.mpr hc
    rw [this] at h
    exact absurd h.2 (by decide)
theorem eFit_01 {x : Int32} (h : x &&& 1 = x) : x = 0 ∨ x = 1 := by
  obtain ⟨j, hj, e⟩ := pk_andE x (m := 1) 1 (by decide)
  rw [h] at e
  have : j = 0 ∨ j = 1 := by omega
  rcases this with rfl | rfl
  · left; exact e
  · right; exact e
theorem eFit_ok {ty : FieldType} {v : Value} {ad : Nat → Nat} {bv : Nat → Value} (h : eFit ty v = true) : narrow ty (eV ad bv v) = eV ad bv v ∧ fits ty (eV ad bv v) = true := by
  unfold eFit at h
  split at h
  · exact ⟨rfl, rfl⟩
  · rename_i x
    have h1 : vp_nar .boolean x = x := by simpa using h
    have h2 : x &&& 1 = x := h1
    refine ⟨by show Value.int (x &&& 1) = Value.int x; rw [h2], ?_⟩
    rcases eFit_01 h2 with rfl | rfl <;> rfl
  · rename_i x
    have h1 : vp_nar .byte x = x := by simpa using h
    have h2 : x.toInt8.toInt32 = x := h1
    exact ⟨by show Value.int x.toInt8.toInt32 = Value.int x; rw [h2], by show fits .byte (.int x) = true; rw [← h2]; exact pk_fb x⟩
  · exact ⟨rfl, rfl⟩
  · exact ⟨rfl, rfl⟩
  · cases h
theorem eFit_bv {ty : FieldType} {v : Value} {ad : Nat → Nat} {bv bv' : Nat → Value} (h : eFit ty v = true) : eV ad bv v = eV ad bv' v := by
  cases v <;> first | rfl | (simp [eFit] at h)
theorem eFld_ex {o idx c j : Nat} (h : eFld o idx = some (c, j)) : ∃ r : vw_C, vwCl[c]? = some r ∧ j < r.2.2 ∧ eClOk c r ∧ Cond.fieldLink (eOwn o) idx (r.2.1 j).1 (r.2.1 j).2.1 (r.2.1 j).2.2.1 ∈ lw_good := by
  obtain ⟨r, h1, h2, h3, h4, h5⟩ := eFld_ok h
  exact ⟨r, h1, h2, eCl_ok h1 h4, h5⟩
section EH
variable {S : List (String × Nat × String)} {p : Program} {l : Launch} {e : Env} {R : Room} {s : State} {m : MethodId} {args : Array Value} {below : List Frame} {meth : Method} {c : Code} {Q : State → Prop} {ox : Nat → Option (Nat × Nat × (Nat → Int32))} {M : eM} {D : va_G} {cA : Nat → ClassId} {A : Nat → Prop} {bv0 : Nat → Value} {N0 : Nat} {ad0 : Nat → Nat}
variable {pc : Nat} {lv : eLv} {r : List Value} {N : Nat} {h : eHp} {k z : Nat}
theorem eg_getfield (F : eFr S p l s m args meth c ox M D cA A bv0) {x a cn j : Nat} {fs : List Value} {v : Value} (hd : decode M.2.2.1 pc = .ok (.getfield x, 3)) (ha : Nat.ble (a + 1) N = true) (hf : eFld M.1 x = some (cn, j)) (hh : h a = .inr (cn, fs)) (hv : fs[j]? = some v) (hv9 : ∀ i, v ≠ .retAddr i)
    (kk : eKW p l e R s m args below meth c Q M D cA A bv0 N0 ad0 (pc + 3, lv, v :: r, N, h, k, z)) : eKW p l e R s m args below meth c Q M D cA A bv0 N0 ad0 (pc, lv, .ref a :: r, N, h, k, z) := by
  intro ad bv H locs ls hb hbv hag hag2 hP hD hS hl
  obtain ⟨q, hq, hj, ⟨hin, -, -⟩, hw⟩ := eFld_ex hf
  have e1 : (v :: r).map (eV ad bv) = eV ad bv0 v :: r.map (eV ad bv) := by
    have : eV ad bv v = eV ad bv0 v := by cases v <;> first | rfl | exact absurd rfl (hv9 _)
    rw [List.map_cons, this]
  have h2 := kk ad bv H locs ls hb hbv hag hag2 hP hD hS hl
  have h2' : W p l e R s m args below meth c H locs k z Q (F0 m (pc + 3) ls (eV ad bv0 v :: r.map (eV ad bv))) := by rw [← e1]; exact h2
  exact va_get (D := D) (C := q.1) (T := q.2.1) (N := q.2.2) F.1 F.2.1 F.2.2.2.2.1 hin F.2.2.2.1 F.2.2.2.2.2.1 hP a (eW_ble ha hh) hq j hj (F.2.2.2.2.1 _ hw) (fun _ h9 => h9) (by rw [List.getElem?_map, hv]; rfl) hd h2'
theorem eg_putfield (F : eFr S p l s m args meth c ox M D cA A bv0) {x a cn j : Nat} {fs : List Value} {v : Value} (hd : decode M.2.2.1 pc = .ok (.putfield x, 3)) (ha : Nat.ble (a + 1) N = true) (hf : eFld M.1 x = some (cn, j)) (hh : h a = .inr (cn, fs)) (hlen : Nat.ble (j + 1) fs.length = true) (hfit : eFit (eTyp cn j) v = true) (hmay : eMay M cn j = true)
    (kk : eKW p l e R s m args below meth c Q M D cA A bv0 N0 ad0 (pc + 3, lv, r, N, va_up h a (.inr (cn, fs.set j v)), k, z)) : eKW p l e R s m args below meth c Q M D cA A bv0 N0 ad0 (pc, lv, v :: .ref a :: r, N, h, k, z) := by
  intro ad bv H locs ls hb hbv hag hag2 hP hD hS hl
  obtain ⟨q, hq, hj, ⟨hin, hty, hnm⟩, hw⟩ := eFld_ex hf
  have e1 : (v :: .ref a :: r).map (eV ad bv) = eV ad bv0 v :: .ref (ad a) :: r.map (eV ad bv) := by
    rw [List.map_cons, List.map_cons, eFit_bv (bv := bv) (bv' := bv0) hfit]; rfl
  have e2 : ∀ ad : Nat → Nat, (eW ad bv0 cA N h).set a (ad a, .inr (cn, (fs.map (eV ad bv0)).set j (eV ad bv0 v))) = eW ad bv0 cA N (va_up h a (.inr (cn, fs.set j v))) := by
    intro ad
    rw [← eW_set]
    show _ = (eW ad bv0 cA N h).set a (ad a, .inr (cn, (fs.set j v).map (eV ad bv0)))
    rw [List.map_set]
  obtain ⟨f1, f2⟩ := eFit_ok (ad := ad) (bv := bv0) hfit
  show W p l e R s m args below meth c H locs k z Q (F0 m pc ls ((v :: .ref a :: r).map (eV ad bv)))
  rw [e1]
  have hk9 : ∀ (H1 : Heap) (locs1 : List Loc), va_P D vwCl ((eW ad bv0 cA N h).set a (ad a, .inr (cn, (fs.map (eV ad bv0)).set j (eV ad bv0 v)))) H1 → va_D A ((eW ad bv0 cA N h).set a (ad a, .inr (cn, (fs.map (eV ad bv0)).set j (eV ad bv0 v)))) → va_S A s.heap H1 locs1 → W p l e R s m args below meth c H1 locs1 k z Q (F0 m (pc + 3) ls (r.map (eV ad bv))) := by
    intro H1 locs1 hP1 hD1 hS1
    rw [e2] at hP1 hD1
    exact kk ad bv H1 locs1 ls hb hbv hag hag2 hP1 hD1 hS1 hl
  unfold eMay at hmay
  rw [hq] at hmay
  cases hfin : (q.2.1 j).2.2.2 with
  | false =>
    exact va_put (D := D) (C := q.1) (T := q.2.1) (N := q.2.2) F.1 F.2.1 F.2.2.2.2.1 hin (eTyp cn) hty hnm F.2.2.2.1 F.2.2.2.2.2.1 hP hD hS a (eW_ble ha hh) hq j hj (F.2.2.2.2.1 _ hw) (fun _ h9 => h9) hfin (hty j hj) f1 f2 (by rw [List.length_map]; exact Nat.le_of_ble_eq_true hlen) hd hk9
  | true =>
    simp only [hfin, Bool.and_eq_true, decide_eq_true_eq] at hmay
    exact va_putF (D := D) (C := q.1) (T := q.2.1) (N := q.2.2) F.1 F.2.1 F.2.2.2.2.1 hin (eTyp cn) hty hnm F.2.2.2.1 F.2.2.2.2.2.1 hP hD hS a (eW_ble ha hh) hq j hj (F.2.2.2.2.1 _ hw) (fun _ h9 => h9) hfin (F.2.2.2.2.2.2.2.2.2.1 hmay.1) hmay.2 (hty j hj) f1 f2 (by rw [List.length_map]; exact Nat.le_of_ble_eq_true hlen) hd hk9
theorem eW_ldcw {p : Program} {l : Launch} {e : Env} {R : Room} {s : State} {m : MethodId} {args : Array Value} {below : List Frame} {meth : Method} {c : Code} {H : Heap} {locs : List Loc} {cells slots : Nat} {Q : State → Prop} {cc : ByteArray} {pc : Nat} {ls : Array Slot} {rest : List Value} (hexec : p.tables.exec = Jvm.exec) (hb : c.code = cc) {own : String} {index : Nat} {v : Int32} (hown : s.vm.findClass own = some m.cls) (hconst : (Jvm.Cond.constant own index v).before args s = true) (hdg : decode cc pc = .ok (.ldc_w index, 3))
    (k : W p l e R s m args below meth c H locs cells slots Q (F0 m (pc + 3) ls (.int v :: rest))) : W p l e R s m args below meth c H locs cells slots Q (F0 m pc ls rest) := by
  intro T hT X
  obtain ⟨t, a, b⟩ := k T hT X
  refine ⟨t, ?_, b⟩
  obtain ⟨k9, cf, bytes, hk, hcf, hcp, hv⟩ := Cond.constant_spec hown hconst
  obtain ⟨k', hk', he⟩ := X.warmed.alike.2.2 _ _ hk
  have hdg' : decode c.code (F0 m pc ls rest).pc = .ok (.ldc_w index, 3) := by rw [hb]; exact hdg
  jvm_step X.here [hexec, hdg', ldc_w.wp_int (s := T) (f := F0 m pc ls rest) X.here.top hk' (by rw [he]; exact hcf) hcp, hv]
  exact a
theorem eg_ldcw (F : eFr S p l s m args meth c ox M D cA A bv0) {x : Nat} {v : Int32} (hd : decode M.2.2.1 pc = .ok (.ldc_w x, 3)) (hv : eLk x (eCstL M.1) = some v) (kk : eKW p l e R s m args below meth c Q M D cA A bv0 N0 ad0 (pc + 3, lv, .int v :: r, N, h, k, z)) : eKW p l e R s m args below meth c Q M D cA A bv0 N0 ad0 (pc, lv, r, N, h, k, z) := by
  intro ad bv H locs ls hb hbv hag hag2 hP hD hS hl
  exact eW_ldcw F.1 F.2.1 F.2.2.2.1 (F.2.2.2.2.1 _ (eCst_ok hv)) hd (kk ad bv H locs ls hb hbv hag hag2 hP hD hS hl)
theorem eg_ldc (F : eFr S p l s m args meth c ox M D cA A bv0) {x : Nat} {v : Int32} (hd : decode M.2.2.1 pc = .ok (.ldc x, 2)) (hv : eLk x (eCstL M.1) = some v) (kk : eKW p l e R s m args below meth c Q M D cA A bv0 N0 ad0 (pc + 2, lv, .int v :: r, N, h, k, z)) : eKW p l e R s m args below meth c Q M D cA A bv0 N0 ad0 (pc, lv, r, N, h, k, z) := by
  intro ad bv H locs ls hb hbv hag hag2 hP hD hS hl
  exact lv_ldc F.1 F.2.1 F.2.2.2.1 (F.2.2.2.2.1 _ (eCst_ok hv)) hd (kk ad bv H locs ls hb hbv hag hag2 hP hD hS hl)
theorem eg_ldc2 (F : eFr S p l s m args meth c ox M D cA A bv0) {x : Nat} {v : Int64} (hd : decode M.2.2.1 pc = .ok (.ldc2_w x, 3)) (hv : eLk x (eCsLL M.1) = some v) (kk : eKW p l e R s m args below meth c Q M D cA A bv0 N0 ad0 (pc + 3, lv, .long v :: r, N, h, k, z)) : eKW p l e R s m args below meth c Q M D cA A bv0 N0 ad0 (pc, lv, r, N, h, k, z) := by
  intro ad bv H locs ls hb hbv hag hag2 hP hD hS hl
  exact lv_ldc2 F.1 F.2.1 F.2.2.2.1 (F.2.2.2.2.1 _ (eCsL_ok hv)) hd (kk ad bv H locs ls hb hbv hag hag2 hP hD hS hl)
theorem eg_objInit (F : eFr S p l s m args meth c ox M D cA A bv0) (hRf : 1 ≤ R.frames) (hRl : 100 ≤ R.locals) {x a cc na : Nat} {M' : eM} (hd : decode M.2.2.1 pc = .ok (.invokespecial x, 3)) (hv : eMth M.1 x = some (7, cc, na, M')) (hr : eRm r = true) (kk : eKW p l e R s m args below meth c Q M D cA A bv0 N0 ad0 (pc + 3, lv, r, N, h, k, z)) : eKW p l e R s m args below meth c Q M D cA A bv0 N0 ad0 (pc, lv, .ref a :: r, N, h, k, z) := by
  intro ad bv H locs ls hb hbv hag hag2 hP hD hS hl
  have h1 : Cond.methodLink (eOwn M.1) x Lib.objectInit ∈ lw_good := eMth_ok hv
  have h8 := Nat.le_of_ble_eq_true hr
  refine W.objInit F.1 F.2.1 F.2.2.2.1 (F.2.2.2.2.1 _ h1) (F.2.2.2.2.1 _ gObj1) (F.2.2.2.2.1 _ gObj2) rfl (by rw [F.2.2.1]; exact hl.1) rfl hd hRf (by show 2 * 0 + _ + 12 ≤ _; rw [eV_cats hbv]; omega) ?_
  exact W.eq rfl (kk ad bv H locs ls hb hbv hag hag2 hP hD hS hl)
theorem eg_max (F : eFr S p l s m args meth c ox M D cA A bv0) (hRf : 1 ≤ R.frames) (hRl : 100 ≤ R.locals) (hk : k ≤ R.cells) (hz : z ≤ R.slots) {x cc na : Nat} {M' : eM} {u w : Int32} (hd : decode M.2.2.1 pc = .ok (.invokestatic x, 3)) (hv : eMth M.1 x = some (9, cc, na, M')) (hr : eRm r = true) (kk : eKW p l e R s m args below meth c Q M D cA A bv0 N0 ad0 (pc + 3, lv, .int (if u < w then w else u) :: r, N, h, k, z)) : eKW p l e R s m args below meth c Q M D cA A bv0 N0 ad0 (pc, lv, .int w :: .int u :: r, N, h, k, z) := by
  intro ad bv H locs ls hb hbv hag hag2 hP hD hS hl
  have h1 : Cond.methodLink (eOwn M.1) x Lib.Math.max.name ∈ lw_good := eMth_ok hv
  have h8 := Nat.le_of_ble_eq_true hr
  exact va_mmax F.1 F.2.1 (F.2.2.1.trans hl.1.symm) F.2.2.2.1 (F.2.2.2.2.1 _ h1) (F.2.2.2.2.1 _ gMax1) (F.2.2.2.2.1 _ gMath) (F.2.2.2.2.1 _ gMax2) hRf (by rw [eV_cats hbv]; omega) hk hz hd (kk ad bv H locs ls hb hbv hag hag2 hP hD hS hl)
theorem eg_min (F : eFr S p l s m args meth c ox M D cA A bv0) (hRf : 1 ≤ R.frames) (hRl : 100 ≤ R.locals) (hk : k ≤ R.cells) (hz : z ≤ R.slots) {x cc na : Nat} {M' : eM} {u w : Int32} (hd : decode M.2.2.1 pc = .ok (.invokestatic x, 3)) (hv : eMth M.1 x = some (10, cc, na, M')) (hr : eRm r = true) (kk : eKW p l e R s m args below meth c Q M D cA A bv0 N0 ad0 (pc + 3, lv, .int (if w < u then w else u) :: r, N, h, k, z)) : eKW p l e R s m args below meth c Q M D cA A bv0 N0 ad0 (pc, lv, .int w :: .int u :: r, N, h, k, z) := by
  intro ad bv H locs ls hb hbv hag hag2 hP hD hS hl
  have h1 : Cond.methodLink (eOwn M.1) x Lib.Math.min.name ∈ lw_good := eMth_ok hv
  have h8 := Nat.le_of_ble_eq_true hr
  exact va_mmin F.1 F.2.1 (F.2.2.1.trans hl.1.symm) F.2.2.2.1 (F.2.2.2.2.1 _ h1) (F.2.2.2.2.1 _ gMin1) (F.2.2.2.2.1 _ gMath) (F.2.2.2.2.1 _ gMin2) hRf (by rw [eV_cats hbv]; omega) hk hz hd (kk ad bv H locs ls hb hbv hag hag2 hP hD hS hl)
theorem eg_iald (F : eFr S p l s m args meth c ox M D cA A bv0) {a n : Nat} {i : Int32} {f : Nat → Int32} (hd : decode M.2.2.1 pc = .ok (.iaload, 1)) (ha : Nat.ble (a + 1) N = true) (hh : h a = .inl (0, n, .inl f)) (hi : eIn i n = true) (kk : eKW p l e R s m args below meth c Q M D cA A bv0 N0 ad0 (pc + 1, lv, .int (f i.toNatClampNeg) :: r, N, h, k, z)) : eKW p l e R s m args below meth c Q M D cA A bv0 N0 ad0 (pc, lv, .int i :: .ref a :: r, N, h, k, z) := by
  intro ad bv H locs ls hb hbv hag hag2 hP hD hS hl
  exact va_iald F.1 F.2.1 F.2.2.2.2.2.1 hP a 0 (eW_ble ha hh) rfl (eIn_ok hi) hd (kk ad bv H locs ls hb hbv hag hag2 hP hD hS hl)
theorem eg_zald (F : eFr S p l s m args meth c ox M D cA A bv0) {a n : Nat} {i : Int32} {f : Nat → Int32} (hd : decode M.2.2.1 pc = .ok (.baload, 1)) (ha : Nat.ble (a + 1) N = true) (hh : h a = .inl (2, n, .inl f)) (hi : eIn i n = true) (kk : eKW p l e R s m args below meth c Q M D cA A bv0 N0 ad0 (pc + 1, lv, .int (f i.toNatClampNeg) :: r, N, h, k, z)) : eKW p l e R s m args below meth c Q M D cA A bv0 N0 ad0 (pc, lv, .int i :: .ref a :: r, N, h, k, z) := by
  intro ad bv H locs ls hb hbv hag hag2 hP hD hS hl
  exact va_zald F.1 F.2.1 F.2.2.2.2.2.1 hP a 2 (eW_ble ha hh) rfl (eIn_ok hi) hd (kk ad bv H locs ls hb hbv hag hag2 hP hD hS hl)
theorem eg_bald (F : eFr S p l s m args meth c ox M D cA A bv0) {a n : Nat} {i : Int32} {f : Nat → Int32} (hd : decode M.2.2.1 pc = .ok (.baload, 1)) (ha : Nat.ble (a + 1) N = true) (hh : h a = .inl (3, n, .inl f)) (hi : eIn i n = true) (kk : eKW p l e R s m args below meth c Q M D cA A bv0 N0 ad0 (pc + 1, lv, .int (f i.toNatClampNeg) :: r, N, h, k, z)) : eKW p l e R s m args below meth c Q M D cA A bv0 N0 ad0 (pc, lv, .int i :: .ref a :: r, N, h, k, z) := by
  intro ad bv H locs ls hb hbv hag hag2 hP hD hS hl
  exact va_bald F.1 F.2.1 F.2.2.2.2.2.1 hP a 3 (eW_ble ha hh) rfl (eIn_ok hi) hd (kk ad bv H locs ls hb hbv hag hag2 hP hD hS hl)
theorem eg_cald (F : eFr S p l s m args meth c ox M D cA A bv0) {a n : Nat} {i : Int32} {f : Nat → Int32} (hd : decode M.2.2.1 pc = .ok (.caload, 1)) (ha : Nat.ble (a + 1) N = true) (hh : h a = .inl (1, n, .inl f)) (hi : eIn i n = true) (kk : eKW p l e R s m args below meth c Q M D cA A bv0 N0 ad0 (pc + 1, lv, .int (f i.toNatClampNeg) :: r, N, h, k, z)) : eKW p l e R s m args below meth c Q M D cA A bv0 N0 ad0 (pc, lv, .int i :: .ref a :: r, N, h, k, z) := by
  intro ad bv H locs ls hb hbv hag hag2 hP hD hS hl
  exact va_cald F.1 F.2.1 F.2.2.2.2.2.1 hP a 1 (eW_ble ha hh) rfl (eIn_ok hi) hd (kk ad bv H locs ls hb hbv hag hag2 hP hD hS hl)
theorem eg_lald (F : eFr S p l s m args meth c ox M D cA A bv0) {a n : Nat} {i : Int32} {f : Nat → Int64} (hd : decode M.2.2.1 pc = .ok (.laload, 1)) (ha : Nat.ble (a + 1) N = true) (hh : h a = .inl (4, n, .inr (.inl f))) (hi : eIn i n = true) (kk : eKW p l e R s m args below meth c Q M D cA A bv0 N0 ad0 (pc + 1, lv, .long (f i.toNatClampNeg) :: r, N, h, k, z)) : eKW p l e R s m args below meth c Q M D cA A bv0 N0 ad0 (pc, lv, .int i :: .ref a :: r, N, h, k, z) := by
  intro ad bv H locs ls hb hbv hag hag2 hP hD hS hl
  exact va_lald F.1 F.2.1 F.2.2.2.2.2.1 hP a 4 (eW_ble ha hh) rfl (eIn_ok hi) hd (kk ad bv H locs ls hb hbv hag hag2 hP hD hS hl)
theorem eg_dald (F : eFr S p l s m args meth c ox M D cA A bv0) {a n : Nat} {i : Int32} {f : Nat → UInt64} (hd : decode M.2.2.1 pc = .ok (.daload, 1)) (ha : Nat.ble (a + 1) N = true) (hh : h a = .inl (6, n, .inr (.inr (.inr (.inl f))))) (hi : eIn i n = true) (kk : eKW p l e R s m args below meth c Q M D cA A bv0 N0 ad0 (pc + 1, lv, .double (f i.toNatClampNeg) :: r, N, h, k, z)) : eKW p l e R s m args below meth c Q M D cA A bv0 N0 ad0 (pc, lv, .int i :: .ref a :: r, N, h, k, z) := by
  intro ad bv H locs ls hb hbv hag hag2 hP hD hS hl
  exact va_dald F.1 F.2.1 F.2.2.2.2.2.1 hP a 6 (eW_ble ha hh) rfl (eIn_ok hi) hd (kk ad bv H locs ls hb hbv hag hag2 hP hD hS hl)
theorem eg_aald (F : eFr S p l s m args meth c ox M D cA A bv0) {a n b : Nat} {i : Int32} {f : Nat → Option Nat} (hd : decode M.2.2.1 pc = .ok (.aaload, 1)) (ha : Nat.ble (a + 1) N = true) (hh : h a = .inl (5, n, .inr (.inr (.inr (.inr f))))) (hi : eIn i n = true) (hf : f i.toNatClampNeg = some b) (kk : eKW p l e R s m args below meth c Q M D cA A bv0 N0 ad0 (pc + 1, lv, .ref b :: r, N, h, k, z)) : eKW p l e R s m args below meth c Q M D cA A bv0 N0 ad0 (pc, lv, .int i :: .ref a :: r, N, h, k, z) := by
  intro ad bv H locs ls hb hbv hag hag2 hP hD hS hl
  have h2 := (kk ad bv H locs ls hb hbv hag hag2 hP hD hS hl)
  refine va_aldq (C := "MonkMarbles$Garden") F.1 F.2.1 F.2.2.2.2.2.1 hP a 5 (eW_ble ha hh) rfl (eIn_ok hi) hd ?_
  have e1 : va_rf ((f i.toNatClampNeg).map ad) = .ref (ad b) := by rw [hf]; rfl
  show W p l e R s m args below meth c H locs k z Q (F0 m (pc + 1) ls (va_rf ((f i.toNatClampNeg).map ad) :: r.map (eV ad bv)))
  rw [e1]
  exact h2
theorem eg_tI (F : eFr S p l s m args meth c ox M D cA A bv0) {j n : Nat} {i : Int32} {f : Nat → Int32} (hd : decode M.2.2.1 pc = .ok (.iaload, 1)) (hj : ox j = some (0, n, f)) (hi : eIn i n = true) (kk : eKW p l e R s m args below meth c Q M D cA A bv0 N0 ad0 (pc + 1, lv, .int (f i.toNatClampNeg) :: r, N, h, k, z)) : eKW p l e R s m args below meth c Q M D cA A bv0 N0 ad0 (pc, lv, .int i :: .retAddr j :: r, N, h, k, z) := by
  intro ad bv H locs ls hb hbv hag hag2 hP hD hS hl
  obtain ⟨h9, t, ht, hT, -⟩ := F.2.2.2.2.2.2.2.2.2.2.2.1 j _ _ _ hj
  have h2 := (kk ad bv H locs ls hb hbv hag hag2 hP hD hS hl)
  have e1 : (.int i :: .retAddr j :: r).map (eV ad bv) = .int i :: .ref t :: r.map (eV ad bv) := by
    rw [List.map_cons, List.map_cons, show eV ad bv (.retAddr j) = .ref t from (hb j h9).trans ht]; rfl
  show W p l e R s m args below meth c H locs k z Q (F0 m pc ls ((.int i :: .retAddr j :: r).map (eV ad bv)))
  rw [e1]
  exact va_ti F.1 F.2.1 hT hS (eIn_ok hi) rfl hd h2
theorem eg_tB (F : eFr S p l s m args meth c ox M D cA A bv0) {j n : Nat} {i : Int32} {f : Nat → Int32} (hd : decode M.2.2.1 pc = .ok (.baload, 1)) (hj : ox j = some (3, n, f)) (hi : eIn i n = true) (kk : eKW p l e R s m args below meth c Q M D cA A bv0 N0 ad0 (pc + 1, lv, .int (f i.toNatClampNeg) :: r, N, h, k, z)) : eKW p l e R s m args below meth c Q M D cA A bv0 N0 ad0 (pc, lv, .int i :: .retAddr j :: r, N, h, k, z) := by
  intro ad bv H locs ls hb hbv hag hag2 hP hD hS hl
  obtain ⟨h9, t, ht, hT, -⟩ := F.2.2.2.2.2.2.2.2.2.2.2.1 j _ _ _ hj
  have h2 := (kk ad bv H locs ls hb hbv hag hag2 hP hD hS hl)
  have e1 : (.int i :: .retAddr j :: r).map (eV ad bv) = .int i :: .ref t :: r.map (eV ad bv) := by
    rw [List.map_cons, List.map_cons, show eV ad bv (.retAddr j) = .ref t from (hb j h9).trans ht]; rfl
  show W p l e R s m args below meth c H locs k z Q (F0 m pc ls ((.int i :: .retAddr j :: r).map (eV ad bv)))
  rw [e1]
  exact va_tb F.1 F.2.1 hT hS (eIn_ok hi) rfl hd h2
theorem eg_tlen (F : eFr S p l s m args meth c ox M D cA A bv0) {j q n : Nat} {f : Nat → Int32} (hd : decode M.2.2.1 pc = .ok (.arraylength, 1)) (hj : ox j = some (q, n, f)) (kk : eKW p l e R s m args below meth c Q M D cA A bv0 N0 ad0 (pc + 1, lv, .int (Int32.ofNat n) :: r, N, h, k, z)) : eKW p l e R s m args below meth c Q M D cA A bv0 N0 ad0 (pc, lv, .retAddr j :: r, N, h, k, z) := by
  intro ad bv H locs ls hb hbv hag hag2 hP hD hS hl
  obtain ⟨h9, t, ht, hT, -⟩ := F.2.2.2.2.2.2.2.2.2.2.2.1 j _ _ _ hj
  have h2 := (kk ad bv H locs ls hb hbv hag hag2 hP hD hS hl)
  have e1 : (.retAddr j :: r).map (eV ad bv) = .ref t :: r.map (eV ad bv) := by
    rw [List.map_cons, show eV ad bv (.retAddr j) = .ref t from (hb j h9).trans ht]
  show W p l e R s m args below meth c H locs k z Q (F0 m pc ls ((.retAddr j :: r).map (eV ad bv)))
  rw [e1]
  exact va_tlen F.1 F.2.1 hT hS rfl hd h2
theorem eTys_lt {cA : Nat → ClassId} {q : Nat} (h : q < 4) : (eTys cA)[q]? = some (cA q, eRow q) := by
  have : q = 0 ∨ q = 1 ∨ q = 2 ∨ q = 3 := by omega
  rcases this with rfl | rfl | rfl | rfl <;> rfl
theorem eg_alen (F : eFr S p l s m args meth c ox M D cA A bv0) {a q n : Nat} {f : Nat → Int32} (hd : decode M.2.2.1 pc = .ok (.arraylength, 1)) (ha : Nat.ble (a + 1) N = true) (hh : h a = .inl (q, n, .inl f)) (hq : Nat.ble (q + 1) 4 = true) (kk : eKW p l e R s m args below meth c Q M D cA A bv0 N0 ad0 (pc + 1, lv, .int (Int32.ofNat n) :: r, N, h, k, z)) : eKW p l e R s m args below meth c Q M D cA A bv0 N0 ad0 (pc, lv, .ref a :: r, N, h, k, z) := by
  intro ad bv H locs ls hb hbv hag hag2 hP hD hS hl
  exact va_alen F.1 F.2.1 F.2.2.2.2.2.1 hP a q (eW_ble ha hh) (eTys_lt (Nat.le_of_ble_eq_true hq)) rfl hd (kk ad bv H locs ls hb hbv hag hag2 hP hD hS hl)
theorem eg_iast (F : eFr S p l s m args meth c ox M D cA A bv0) {a n : Nat} {i : Int32} {x : Int32} {f : Nat → Int32} (hd : decode M.2.2.1 pc = .ok (.iastore, 1)) (ha : Nat.ble (a + 1) N = true) (hh : h a = .inl (0, n, .inl f)) (hi : eIn i n = true) (kk : eKW p l e R s m args below meth c Q M D cA A bv0 N0 ad0 (pc + 1, lv, r, N, va_up h a (.inl (0, n, .inl (upd f i.toNatClampNeg (vp_nar .int x)))), k, z)) : eKW p l e R s m args below meth c Q M D cA A bv0 N0 ad0 (pc, lv, .int x :: .int i :: .ref a :: r, N, h, k, z) := by
  intro ad bv H locs ls hb hbv hag hag2 hP hD hS hl
  refine va_iast F.1 F.2.1 F.2.2.2.2.2.1 hP hD hS a 0 (eW_ble ha hh) rfl (eIn_ok hi) hd (fun H1 locs1 hP1 hD1 hS1 => ?_)
  have e2 := eW_set (ad := ad) (bv := bv0) (cA := cA) (N := N) (h := h) (i := a) (.inl (0, n, .inl (upd f i.toNatClampNeg (vp_nar .int x))))
  exact kk ad bv H1 locs1 ls hb hbv hag hag2 (by rw [← e2]; exact hP1) (by rw [← e2]; exact hD1) hS1 hl
theorem eg_zast (F : eFr S p l s m args meth c ox M D cA A bv0) {a n : Nat} {i : Int32} {x : Int32} {f : Nat → Int32} (hd : decode M.2.2.1 pc = .ok (.bastore, 1)) (ha : Nat.ble (a + 1) N = true) (hh : h a = .inl (2, n, .inl f)) (hi : eIn i n = true) (kk : eKW p l e R s m args below meth c Q M D cA A bv0 N0 ad0 (pc + 1, lv, r, N, va_up h a (.inl (2, n, .inl (upd f i.toNatClampNeg (vp_nar .boolean x)))), k, z)) : eKW p l e R s m args below meth c Q M D cA A bv0 N0 ad0 (pc, lv, .int x :: .int i :: .ref a :: r, N, h, k, z) := by
  intro ad bv H locs ls hb hbv hag hag2 hP hD hS hl
  refine va_zast F.1 F.2.1 F.2.2.2.2.2.1 hP hD hS a 2 (eW_ble ha hh) rfl (eIn_ok hi) hd (fun H1 locs1 hP1 hD1 hS1 => ?_)
  have e2 := eW_set (ad := ad) (bv := bv0) (cA := cA) (N := N) (h := h) (i := a) (.inl (2, n, .inl (upd f i.toNatClampNeg (vp_nar .boolean x))))
  exact kk ad bv H1 locs1 ls hb hbv hag hag2 (by rw [← e2]; exact hP1) (by rw [← e2]; exact hD1) hS1 hl
theorem eg_bast (F : eFr S p l s m args meth c ox M D cA A bv0) {a n : Nat} {i : Int32} {x : Int32} {f : Nat → Int32} (hd : decode M.2.2.1 pc = .ok (.bastore, 1)) (ha : Nat.ble (a + 1) N = true) (hh : h a = .inl (3, n, .inl f)) (hi : eIn i n = true) (kk : eKW p l e R s m args below meth c Q M D cA A bv0 N0 ad0 (pc + 1, lv, r, N, va_up h a (.inl (3, n, .inl (upd f i.toNatClampNeg (vp_nar .byte x)))), k, z)) : eKW p l e R s m args below meth c Q M D cA A bv0 N0 ad0 (pc, lv, .int x :: .int i :: .ref a :: r, N, h, k, z) := by
  intro ad bv H locs ls hb hbv hag hag2 hP hD hS hl
  refine va_bast F.1 F.2.1 F.2.2.2.2.2.1 hP hD hS a 3 (eW_ble ha hh) rfl (eIn_ok hi) hd (fun H1 locs1 hP1 hD1 hS1 => ?_)
  have e2 := eW_set (ad := ad) (bv := bv0) (cA := cA) (N := N) (h := h) (i := a) (.inl (3, n, .inl (upd f i.toNatClampNeg (vp_nar .byte x))))
  exact kk ad bv H1 locs1 ls hb hbv hag hag2 (by rw [← e2]; exact hP1) (by rw [← e2]; exact hD1) hS1 hl
theorem eg_cast (F : eFr S p l s m args meth c ox M D cA A bv0) {a n : Nat} {i : Int32} {x : Int32} {f : Nat → Int32} (hd : decode M.2.2.1 pc = .ok (.castore, 1)) (ha : Nat.ble (a + 1) N = true) (hh : h a = .inl (1, n, .inl f)) (hi : eIn i n = true) (kk : eKW p l e R s m args below meth c Q M D cA A bv0 N0 ad0 (pc + 1, lv, r, N, va_up h a (.inl (1, n, .inl (upd f i.toNatClampNeg (vp_nar .char x)))), k, z)) : eKW p l e R s m args below meth c Q M D cA A bv0 N0 ad0 (pc, lv, .int x :: .int i :: .ref a :: r, N, h, k, z) := by
  intro ad bv H locs ls hb hbv hag hag2 hP hD hS hl
  refine va_cast F.1 F.2.1 F.2.2.2.2.2.1 hP hD hS a 1 (eW_ble ha hh) rfl (eIn_ok hi) hd (fun H1 locs1 hP1 hD1 hS1 => ?_)
  have e2 := eW_set (ad := ad) (bv := bv0) (cA := cA) (N := N) (h := h) (i := a) (.inl (1, n, .inl (upd f i.toNatClampNeg (vp_nar .char x))))
  exact kk ad bv H1 locs1 ls hb hbv hag hag2 (by rw [← e2]; exact hP1) (by rw [← e2]; exact hD1) hS1 hl
theorem eg_last (F : eFr S p l s m args meth c ox M D cA A bv0) {a n : Nat} {i : Int32} {x : Int64} {f : Nat → Int64} (hd : decode M.2.2.1 pc = .ok (.lastore, 1)) (ha : Nat.ble (a + 1) N = true) (hh : h a = .inl (4, n, .inr (.inl f))) (hi : eIn i n = true) (kk : eKW p l e R s m args below meth c Q M D cA A bv0 N0 ad0 (pc + 1, lv, r, N, va_up h a (.inl (4, n, .inr (.inl (vp_updL f i.toNatClampNeg x)))), k, z)) : eKW p l e R s m args below meth c Q M D cA A bv0 N0 ad0 (pc, lv, .long x :: .int i :: .ref a :: r, N, h, k, z) := by
  intro ad bv H locs ls hb hbv hag hag2 hP hD hS hl
  refine va_last F.1 F.2.1 F.2.2.2.2.2.1 hP hD hS a 4 (eW_ble ha hh) rfl (eIn_ok hi) hd (fun H1 locs1 hP1 hD1 hS1 => ?_)
  have e2 := eW_set (ad := ad) (bv := bv0) (cA := cA) (N := N) (h := h) (i := a) (.inl (4, n, .inr (.inl (vp_updL f i.toNatClampNeg x))))
  exact kk ad bv H1 locs1 ls hb hbv hag hag2 (by rw [← e2]; exact hP1) (by rw [← e2]; exact hD1) hS1 hl
theorem eg_dast (F : eFr S p l s m args meth c ox M D cA A bv0) {a n : Nat} {i : Int32} {x : UInt64} {f : Nat → UInt64} (hd : decode M.2.2.1 pc = .ok (.dastore, 1)) (ha : Nat.ble (a + 1) N = true) (hh : h a = .inl (6, n, .inr (.inr (.inr (.inl f))))) (hi : eIn i n = true) (kk : eKW p l e R s m args below meth c Q M D cA A bv0 N0 ad0 (pc + 1, lv, r, N, va_up h a (.inl (6, n, .inr (.inr (.inr (.inl (vf_upd f i.toNatClampNeg x)))))), k, z)) : eKW p l e R s m args below meth c Q M D cA A bv0 N0 ad0 (pc, lv, .double x :: .int i :: .ref a :: r, N, h, k, z) := by
  intro ad bv H locs ls hb hbv hag hag2 hP hD hS hl
  refine va_dast F.1 F.2.1 F.2.2.2.2.2.1 hP hD hS a 6 (eW_ble ha hh) rfl (eIn_ok hi) hd (fun H1 locs1 hP1 hD1 hS1 => ?_)
  have e2 := eW_set (ad := ad) (bv := bv0) (cA := cA) (N := N) (h := h) (i := a) (.inl (6, n, .inr (.inr (.inr (.inl (vf_upd f i.toNatClampNeg x))))))
  exact kk ad bv H1 locs1 ls hb hbv hag hag2 (by rw [← e2]; exact hP1) (by rw [← e2]; exact hD1) hS1 hl
theorem eg_aast (F : eFr S p l s m args meth c ox M D cA A bv0) {a b n : Nat} {i : Int32} {vs : List Value} {f : Nat → Option Nat} (hd : decode M.2.2.1 pc = .ok (.aastore, 1)) (ha : Nat.ble (a + 1) N = true) (hb2 : Nat.ble (b + 1) N = true) (hv : h b = .inr (4, vs)) (hh : h a = .inl (5, n, .inr (.inr (.inr (.inr f))))) (hi : eIn i n = true) (kk : eKW p l e R s m args below meth c Q M D cA A bv0 N0 ad0 (pc + 1, lv, r, N, va_up h a (.inl (5, n, .inr (.inr (.inr (.inr (va_up f i.toNatClampNeg (some b))))))), k, z)) : eKW p l e R s m args below meth c Q M D cA A bv0 N0 ad0 (pc, lv, .ref b :: .int i :: .ref a :: r, N, h, k, z) := by
  intro ad bv H locs ls hb hbv hag hag2 hP hD hS hl
  refine va_astq (r := (RX0, TX0, 8)) F.1 F.2.1 F.2.2.2.2.2.1 hP hD hS a 5 b 4 (eW_ble ha hh) rfl (eW_ble hb2 hv) rfl (eIn_ok hi) hd (fun H1 locs1 hP1 hD1 hS1 => ?_)
  have e2 := eW_set (ad := ad) (bv := bv0) (cA := cA) (N := N) (h := h) (i := a) (.inl (5, n, .inr (.inr (.inr (.inr (va_up f i.toNatClampNeg (some b)))))))
  have e3 : (fun q => (va_up f i.toNatClampNeg (some b) q).map ad) = va_up (fun q => (f q).map ad) i.toNatClampNeg (some (ad b)) := by
    funext q
    by_cases hq : q = i.toNatClampNeg <;> simp [va_up, hq]
  have e4 : eE ad bv0 cA (.inl (5, n, .inr (.inr (.inr (.inr (va_up f i.toNatClampNeg (some b))))))) = .inl (cA 5, n, .inr (.inr (.inr (.inr (va_up (fun q => (f q).map ad) i.toNatClampNeg (some (ad b))))))) := by
    rw [← e3]; rfl
  rw [e4] at e2
  exact kk ad bv H1 locs1 ls hb hbv hag hag2 (by rw [← e2]; exact hP1) (by rw [← e2]; exact hD1) hS1 hl
theorem eg_tsw (F : eFr S p l s m args meth c ox M D cA A bv0) {d lo hi : Int} {offs : Array Int} {len tg : Nat} {x : Int32} (hd : decode M.2.2.1 pc = .ok (.tableswitch d lo hi offs, len)) (hsz : offs.size = (hi - lo + 1).toNat) (ht : eSwT pc d lo hi offs x = (tg : Int)) (kk : eKW p l e R s m args below meth c Q M D cA A bv0 N0 ad0 (tg, lv, r, N, h, k, z)) : eKW p l e R s m args below meth c Q M D cA A bv0 N0 ad0 (pc, lv, .int x :: r, N, h, k, z) := by
  intro ad bv H locs ls hb hbv hag hag2 hP hD hS hl
  have h2 := (kk ad bv H locs ls hb hbv hag hag2 hP hD hS hl)
  unfold eSwT at ht
  by_cases h1 : x.toInt < lo
  · rw [if_pos h1] at ht
    exact lv_tableOut F.1 F.2.1 hd (Or.inl h1) ht h2
  · rw [if_neg h1] at ht
    by_cases h3 : hi < x.toInt
    · rw [if_pos h3] at ht
      exact lv_tableOut F.1 F.2.1 hd (Or.inr h3) ht h2
    · rw [if_neg h3] at ht
      have hlt : (x.toInt - lo).toNat < offs.size := by omega
      refine lv_tableIn F.1 F.2.1 hd h1 h3 (off := offs.getD (x.toInt - lo).toNat d) ?_ ht h2
      rw [Array.getElem?_eq_getElem hlt]
      simp [Array.getD, hlt]
theorem eg_lsw (F : eFr S p l s m args meth c ox M D cA A bv0) {d : Int} {ps : Array (Int × Int)} {len tg : Nat} {x : Int32} (hd : decode M.2.2.1 pc = .ok (.lookupswitch d ps, len)) (hp : (ps.toList.zip (ps.toList.drop 1)).all (fun (a, next) => decide (a.1 < next.1)) = true) (ht : eSwL pc d ps x = (tg : Int)) (kk : eKW p l e R s m args below meth c Q M D cA A bv0 N0 ad0 (tg, lv, r, N, h, k, z)) : eKW p l e R s m args below meth c Q M D cA A bv0 N0 ad0 (pc, lv, .int x :: r, N, h, k, z) := by
  intro ad bv H locs ls hb hbv hag hag2 hP hD hS hl
  exact lv_lookup F.1 F.2.1 hd hp rfl ht (kk ad bv H locs ls hb hbv hag hag2 hP hD hS hl)
end EH
