/-! new cells, copies, statics -/
theorem va_P_app {D : va_G} {cl : List vw_C} {w1 w2 : va_W} {H : Heap} (h : va_P D cl (w1 ++ w2) H) : va_P D cl w1 H ∧ va_P D cl w2 H := by
  refine ⟨fun k q hk => ?_, fun k q hk => ?_⟩
  · have hl := (List.getElem?_eq_some_iff.mp hk).1
    exact h k q (by rw [List.getElem?_append_left hl]; exact hk)
  · exact h (w1.length + k) q (by rw [List.getElem?_append_right (by omega), Nat.add_sub_cancel_left]; exact hk)
theorem va_D_addr {A : Nat → Prop} {ws ws' : va_W} (e : ws.map Prod.fst = ws'.map Prod.fst) (h : va_D A ws) : va_D A ws' := by
  have key : ∀ (k : Nat) (q : Nat × va_E), ws'[k]? = some q → ∃ q0, ws[k]? = some q0 ∧ q0.1 = q.1 := by
    intro k q hk
    have h1 : (ws'.map Prod.fst)[k]? = some q.1 := by rw [List.getElem?_map, hk]; rfl
    rw [← e, List.getElem?_map] at h1
    cases h2 : ws[k]? with
    | none => rw [h2] at h1; cases h1
    | some q0 => rw [h2] at h1; exact ⟨q0, rfl, Option.some.inj h1⟩
  refine ⟨fun i j x y hi hj hxy => ?_, fun k q hk => ?_⟩
  · obtain ⟨x0, h1, h2⟩ := key i x hi
    obtain ⟨y0, h3, h4⟩ := key j y hj
    exact h.1 i j x0 y0 h1 h3 (h2.trans (hxy.trans h4.symm))
  · obtain ⟨q0, h1, h2⟩ := key k q hk
    rw [← h2]
    exact h.2 k q0 h1
theorem eW_addr {ad ad' : Nat → Nat} {bv : Nat → Value} {cA : Nat → ClassId} {N : Nat} {h : eHp} (hh : ∀ i, i < N → ad' i = ad i) : (eW ad bv cA N h).map Prod.fst = (eW ad' bv cA N h).map Prod.fst := by
  simp only [eW, List.map_map]
  exact List.map_congr_left (fun i hi => (hh i (List.mem_range.mp hi)).symm)
theorem eDfl_map {f : Value → Value} (hf : ∀ t : FieldType, f (defaultValue t) = defaultValue t) (cn : Nat) : (eDfl cn).map f = eDfl cn := by
  simp only [eDfl, List.map_map]
  exact List.map_congr_left (fun k _ => hf _)
theorem eV_dfl {ad : Nat → Nat} {bv : Nat → Value} (t : FieldType) : eV ad bv (defaultValue t) = defaultValue t := by
  cases t <;> rfl
def eStaOk (o : Nat) (q : Nat × Value) : Prop := ∃ C n d, Cond.fieldLink (eOwn o) q.1 C n d ∈ lw_good ∧ (∀ i, q.2 = .retAddr i → i ≠ 9) ∧ (∀ ad A bv U H, eFx A bv U H → va_Z C n d (eV ad bv q.2) A U H)
theorem s_500 : Cond.fieldLink "java/lang/String" 1053 "jdk/internal/util/Preconditions" "SIOOBE_FORMATTER" "Ljava/util/function/BiFunction;" ∈ lw_good := lw_gm 500 (by decide +kernel) (by decide +kernel)
theorem s_522 : Cond.fieldLink "java/lang/String" 38 "java/lang/String" "COMPACT_STRINGS" "Z" ∈ lw_good := lw_gm 522 (by decide +kernel) (by decide +kernel)
theorem eSta_9 : ∀ q ∈ eStaL 9, eStaOk 9 q := List.forall_mem_cons.mpr ⟨⟨_, _, _, s_522, fun i e => (by cases e), fun _ _ _ _ _ h => h.2.2.1⟩, List.forall_mem_cons.mpr ⟨⟨_, _, _, s_500, fun i e => (by cases e; decide), fun _ _ _ _ _ h => h.2.2.2.2.2⟩, fun _ h => absurd h List.not_mem_nil⟩⟩
theorem s_255 : Cond.fieldLink "java/lang/AbstractStringBuilder" 18 "java/lang/String" "COMPACT_STRINGS" "Z" ∈ lw_good := lw_gm 255 (by decide +kernel) (by decide +kernel)
theorem eSta_13 : ∀ q ∈ eStaL 13, eStaOk 13 q := List.forall_mem_cons.mpr ⟨⟨_, _, _, s_255, fun i e => (by cases e), fun _ _ _ _ _ h => h.2.2.1⟩, fun _ h => absurd h List.not_mem_nil⟩
theorem s_572 : Cond.fieldLink "java/lang/Integer" 87 "java/lang/Integer" "DigitTens" "[B" ∈ lw_good := lw_gm 572 (by decide +kernel) (by decide +kernel)
theorem s_570 : Cond.fieldLink "java/lang/Integer" 83 "java/lang/Integer" "DigitOnes" "[B" ∈ lw_good := lw_gm 570 (by decide +kernel) (by decide +kernel)
theorem eSta_14 : ∀ q ∈ eStaL 14, eStaOk 14 q := List.forall_mem_cons.mpr ⟨⟨_, _, _, s_570, fun i e => (by cases e; decide), fun _ _ _ _ _ h => h.2.2.2.1⟩, List.forall_mem_cons.mpr ⟨⟨_, _, _, s_572, fun i e => (by cases e; decide), fun _ _ _ _ _ h => h.2.2.2.2.1⟩, fun _ h => absurd h List.not_mem_nil⟩⟩
theorem eSta_ok {o x : Nat} {v : Value} (h : eLk x (eStaL o) = some v) : eStaOk o (x, v) := by
  have hm := eLk_mem h
  match o, hm with
  | 0, hm => exact absurd hm List.not_mem_nil
  | 1, hm => exact absurd hm List.not_mem_nil
  | 2, hm => exact absurd hm List.not_mem_nil
  | 3, hm => exact absurd hm List.not_mem_nil
  | 4, hm => exact absurd hm List.not_mem_nil
  | 5, hm => exact absurd hm List.not_mem_nil
  | 6, hm => exact absurd hm List.not_mem_nil
  | 7, hm => exact absurd hm List.not_mem_nil
  | 8, hm => exact absurd hm List.not_mem_nil
  | 9, hm => exact eSta_9 _ hm
  | 10, hm => exact absurd hm List.not_mem_nil
  | 11, hm => exact absurd hm List.not_mem_nil
  | 12, hm => exact absurd hm List.not_mem_nil
  | 13, hm => exact eSta_13 _ hm
  | 14, hm => exact eSta_14 _ hm
  | 15, hm => exact absurd hm List.not_mem_nil
  | 16, hm => exact absurd hm List.not_mem_nil
  | 17, hm => exact absurd hm List.not_mem_nil
  | _ + 18, hm => exact absurd hm List.not_mem_nil
section EN
variable {S : List (String × Nat × String)} {p : Program} {l : Launch} {e : Env} {R : Room} {s : State} {m : MethodId} {args : Array Value} {below : List Frame} {meth : Method} {c : Code} {Q : State → Prop} {ox : Nat → Option (Nat × Nat × (Nat → Int32))} {M : eM} {D : va_G} {cA : Nat → ClassId} {A : Nat → Prop} {bv0 : Nat → Value} {N0 : Nat} {ad0 : Nat → Nat}
variable {pc : Nat} {lv : eLv} {r : List Value} {N : Nat} {h : eHp} {k z : Nat}
/-- behind a new cell -/
theorem eg_made {pc1 k1 z1 : Nat} {x x' : va_E} (hcl : eClA N lv r h = true) (hN : N0 ≤ N) (kk : eKW p l e R s m args below meth c Q M D cA A bv0 N0 ad0 (pc1, lv, .ref N :: r, N + 1, va_up h N x, k1, z1))
    {ad : Nat → Nat} {bv : Nat → Value} {H1 : Heap} {locs : List Loc} {ls : Array Slot} {q : Nat} (hx : eE (va_up ad N q) bv0 cA x = x') (hb : ∀ j, j ≠ 9 → bv j = bv0 j) (hbv : eBv bv) (hag : ∀ i, i < N0 → ad i = ad0 i)
    (hP1 : va_P D vwCl (eW ad bv0 cA N h ++ [(q, x')]) H1) (hD1 : va_D A (eW ad bv0 cA N h ++ [(q, x')])) (hS1 : va_S A s.heap H1 locs) (hl : lv_has ls M.2.2.2.1 (eL ad bv lv)) :
    W p l e R s m args below meth c H1 locs k1 z1 Q (F0 m pc1 ls (.ref q :: r.map (eV ad bv))) := by
  simp only [eClA, Bool.and_eq_true] at hcl
  obtain ⟨⟨c1, c2⟩, c3⟩ := hcl
  have hu : ∀ i, i < N → va_up ad N q i = ad i := eUp_lt
  have h2 := kk (va_up ad N q) bv H1 locs ls hb hbv (fun i hi => by rw [hu i (by omega)]; exact hag i hi) (fun he => by exfalso; exact absurd (show N + 1 = N0 from he) (by omega))
    (by
      show va_P D vwCl (eW (va_up ad N q) bv0 cA (N + 1) (va_up h N x)) H1
      rw [← eW_pushL hx]
      exact (eW_clP hu c3 (va_P_app hP1).1).app (va_P_app hP1).2)
    (by
      show va_D A (eW (va_up ad N q) bv0 cA (N + 1) (va_up h N x))
      rw [← eW_pushL hx]
      exact va_D_addr (by rw [List.map_append, List.map_append, eW_addr hu]) hD1) hS1 (by show lv_has ls M.2.2.2.1 (eL (va_up ad N q) bv lv); rw [eL_cl hu c1]; exact hl)
  have e1 : (Value.ref N :: r).map (eV (va_up ad N q) bv) = .ref q :: r.map (eV ad bv) := by
    rw [List.map_cons, eVs_cl hu c2]
    show Value.ref (va_up ad N q N) :: _ = _
    simp [va_up]
  rw [← e1]
  exact h2
theorem eg_new (F : eFr S p l s m args meth c ox M D cA A bv0) {x cn : Nat} (hd : decode M.2.2.1 pc = .ok (.new x, 3)) (hx : eLk x (eNewL M.1) = some cn) (hcl : eClA N lv r h = true) (hN : N0 ≤ N) (hk : k + 1 ≤ R.cells) (hz : z + eNum cn ≤ R.slots)
    (kk : eKW p l e R s m args below meth c Q M D cA A bv0 N0 ad0 (pc + 3, lv, .ref N :: r, N + 1, va_up h N (.inr (cn, eDfl cn)), k + 1, z + eNum cn)) : eKW p l e R s m args below meth c Q M D cA A bv0 N0 ad0 (pc, lv, r, N, h, k, z) := by
  intro ad bv H locs ls hb hbv hag hag2 hP hD hS hl
  obtain ⟨q0, hq, hnum, h4, w1, w2, w3⟩ := eNew_ok hx
  obtain ⟨hin, hty, -⟩ := eCl_ok hq h4
  refine va_new (ci := cn) (fs := eDfl cn) (C := q0.1) (T := q0.2.1) (N := q0.2.2) F.1 F.2.1 F.2.2.2.2.1 hin (eTyp cn) hty F.2.2.2.1 (F.2.2.2.2.1 _ w1) (F.2.2.2.2.1 _ w2) (F.2.2.2.2.1 _ w3) F.2.2.2.2.2.1 hP hD hS F.2.2.2.2.2.2.1 hq (fun j hj => by rw [hnum] at hj; simp [vp_V, eDfl, hj]) hk (by rw [hnum]; exact hz) hd (fun q H1 hP1 hD1 hS1 => ?_)
  rw [hnum]
  exact eg_made hcl hN kk (by show (.inr (cn, (eDfl cn).map _) : va_E) = _; rw [eDfl_map eV_dfl]) hb hbv hag hP1 hD1 hS1 hl
theorem eRA_eq {s : State} {D : va_G} {cl : List vw_C} {tys : List (ClassId × FieldType)} {cA c1 : ClassId} {ty : FieldType} {q : Nat} (hK : va_K D cl (tys ++ [(c1, ty)]) s) (hq : tys[q]? = some (cA, ty)) : c1 = cA := by
  have hl := (List.getElem?_eq_some_iff.mp hq).1
  have h1 := (hK.2 q _ (by rw [List.getElem?_append_left hl]; exact hq)).2
  have h2 := (hK.2 tys.length _ (by rw [List.getElem?_append_right (Nat.le_refl _), Nat.sub_self]; rfl)).2
  cases ty with
  | object C =>
    obtain ⟨-, -, -, -, -, a1⟩ := h1
    obtain ⟨-, -, -, -, -, a2⟩ := h2
    exact Option.some.inj (a2.symm.trans a1)
  | _ => exact Option.some.inj ((show s.vm.findClass _ = some c1 from h2).symm.trans (show s.vm.findClass _ = some cA from h1))
theorem eg_newa_int (F : eFr S p l s m args meth c ox M D cA A bv0) {n : Int32} (hd : decode M.2.2.1 pc = .ok (.newarray .int, 2)) (hn0 : ¬ n < 0) (hn : Nat.ble n.toNatClampNeg 65536 = true) (hcl : eClA N lv r h = true) (hN : N0 ≤ N) (hk : k + 1 ≤ R.cells) (hz : z + n.toNatClampNeg ≤ R.slots)
    (kk : eKW p l e R s m args below meth c Q M D cA A bv0 N0 ad0 (pc + 2, lv, .ref N :: r, N + 1, va_up h N (.inl (0, n.toNatClampNeg, .inl (fun _ => 0))), k + 1, z + n.toNatClampNeg)) : eKW p l e R s m args below meth c Q M D cA A bv0 N0 ad0 (pc, lv, .int n :: r, N, h, k, z) := by
  intro ad bv H locs ls hb hbv hag hag2 hP hD hS hl
  have hn9 := Nat.le_of_ble_eq_true hn
  refine va_newa (atype := .int) (ty := .int) (a0 := (n.toNatClampNeg, .inl (fun _ => 0))) F.1 F.2.1 (F.2.2.2.2.1 _ gArr_int) rfl F.2.2.2.2.2.1 hP hD hS F.2.2.2.2.2.2.1 (fun _ => rfl) hn0 rfl (by show _ * 4 ≤ _; omega) hk hz hd (fun q c1 H1 hK1 hP1 hD1 hS1 => ?_)
  have e9 : c1 = cA 0 := eRA_eq (q := 0) hK1 rfl
  subst e9
  exact eg_made hcl hN kk rfl hb hbv hag hP1 hD1 hS1 hl
theorem eg_newa_char (F : eFr S p l s m args meth c ox M D cA A bv0) {n : Int32} (hd : decode M.2.2.1 pc = .ok (.newarray .char, 2)) (hn0 : ¬ n < 0) (hn : Nat.ble n.toNatClampNeg 65536 = true) (hcl : eClA N lv r h = true) (hN : N0 ≤ N) (hk : k + 1 ≤ R.cells) (hz : z + n.toNatClampNeg ≤ R.slots)
    (kk : eKW p l e R s m args below meth c Q M D cA A bv0 N0 ad0 (pc + 2, lv, .ref N :: r, N + 1, va_up h N (.inl (1, n.toNatClampNeg, .inl (fun _ => 0))), k + 1, z + n.toNatClampNeg)) : eKW p l e R s m args below meth c Q M D cA A bv0 N0 ad0 (pc, lv, .int n :: r, N, h, k, z) := by
  intro ad bv H locs ls hb hbv hag hag2 hP hD hS hl
  have hn9 := Nat.le_of_ble_eq_true hn
  refine va_newa (atype := .char) (ty := .char) (a0 := (n.toNatClampNeg, .inl (fun _ => 0))) F.1 F.2.1 (F.2.2.2.2.1 _ gArr_char) rfl F.2.2.2.2.2.1 hP hD hS F.2.2.2.2.2.2.1 (fun _ => rfl) hn0 rfl (by show _ * 2 ≤ _; omega) hk hz hd (fun q c1 H1 hK1 hP1 hD1 hS1 => ?_)
  have e9 : c1 = cA 1 := eRA_eq (q := 1) hK1 rfl
  subst e9
  exact eg_made hcl hN kk rfl hb hbv hag hP1 hD1 hS1 hl
theorem eg_newa_boolean (F : eFr S p l s m args meth c ox M D cA A bv0) {n : Int32} (hd : decode M.2.2.1 pc = .ok (.newarray .boolean, 2)) (hn0 : ¬ n < 0) (hn : Nat.ble n.toNatClampNeg 65536 = true) (hcl : eClA N lv r h = true) (hN : N0 ≤ N) (hk : k + 1 ≤ R.cells) (hz : z + n.toNatClampNeg ≤ R.slots)
    (kk : eKW p l e R s m args below meth c Q M D cA A bv0 N0 ad0 (pc + 2, lv, .ref N :: r, N + 1, va_up h N (.inl (2, n.toNatClampNeg, .inl (fun _ => 0))), k + 1, z + n.toNatClampNeg)) : eKW p l e R s m args below meth c Q M D cA A bv0 N0 ad0 (pc, lv, .int n :: r, N, h, k, z) := by
  intro ad bv H locs ls hb hbv hag hag2 hP hD hS hl
  have hn9 := Nat.le_of_ble_eq_true hn
  refine va_newa (atype := .boolean) (ty := .boolean) (a0 := (n.toNatClampNeg, .inl (fun _ => 0))) F.1 F.2.1 (F.2.2.2.2.1 _ gArr_boolean) rfl F.2.2.2.2.2.1 hP hD hS F.2.2.2.2.2.2.1 (fun _ => rfl) hn0 rfl (by show _ * 1 ≤ _; omega) hk hz hd (fun q c1 H1 hK1 hP1 hD1 hS1 => ?_)
  have e9 : c1 = cA 2 := eRA_eq (q := 2) hK1 rfl
  subst e9
  exact eg_made hcl hN kk rfl hb hbv hag hP1 hD1 hS1 hl
theorem eg_newa_byte (F : eFr S p l s m args meth c ox M D cA A bv0) {n : Int32} (hd : decode M.2.2.1 pc = .ok (.newarray .byte, 2)) (hn0 : ¬ n < 0) (hn : Nat.ble n.toNatClampNeg 65536 = true) (hcl : eClA N lv r h = true) (hN : N0 ≤ N) (hk : k + 1 ≤ R.cells) (hz : z + n.toNatClampNeg ≤ R.slots)
    (kk : eKW p l e R s m args below meth c Q M D cA A bv0 N0 ad0 (pc + 2, lv, .ref N :: r, N + 1, va_up h N (.inl (3, n.toNatClampNeg, .inl (fun _ => 0))), k + 1, z + n.toNatClampNeg)) : eKW p l e R s m args below meth c Q M D cA A bv0 N0 ad0 (pc, lv, .int n :: r, N, h, k, z) := by
  intro ad bv H locs ls hb hbv hag hag2 hP hD hS hl
  have hn9 := Nat.le_of_ble_eq_true hn
  refine va_newa (atype := .byte) (ty := .byte) (a0 := (n.toNatClampNeg, .inl (fun _ => 0))) F.1 F.2.1 (F.2.2.2.2.1 _ gArr_byte) rfl F.2.2.2.2.2.1 hP hD hS F.2.2.2.2.2.2.1 (fun _ => rfl) hn0 rfl (by show _ * 1 ≤ _; omega) hk hz hd (fun q c1 H1 hK1 hP1 hD1 hS1 => ?_)
  have e9 : c1 = cA 3 := eRA_eq (q := 3) hK1 rfl
  subst e9
  exact eg_made hcl hN kk rfl hb hbv hag hP1 hD1 hS1 hl
theorem eg_newa_long (F : eFr S p l s m args meth c ox M D cA A bv0) {n : Int32} (hd : decode M.2.2.1 pc = .ok (.newarray .long, 2)) (hn0 : ¬ n < 0) (hn : Nat.ble n.toNatClampNeg 65536 = true) (hcl : eClA N lv r h = true) (hN : N0 ≤ N) (hk : k + 1 ≤ R.cells) (hz : z + n.toNatClampNeg ≤ R.slots)
    (kk : eKW p l e R s m args below meth c Q M D cA A bv0 N0 ad0 (pc + 2, lv, .ref N :: r, N + 1, va_up h N (.inl (4, n.toNatClampNeg, .inr (.inl (fun _ => 0)))), k + 1, z + n.toNatClampNeg)) : eKW p l e R s m args below meth c Q M D cA A bv0 N0 ad0 (pc, lv, .int n :: r, N, h, k, z) := by
  intro ad bv H locs ls hb hbv hag hag2 hP hD hS hl
  have hn9 := Nat.le_of_ble_eq_true hn
  refine va_newa (atype := .long) (ty := .long) (a0 := (n.toNatClampNeg, .inr (.inl (fun _ => 0)))) F.1 F.2.1 (F.2.2.2.2.1 _ gArr_long) rfl F.2.2.2.2.2.1 hP hD hS F.2.2.2.2.2.2.1 (fun _ => rfl) hn0 rfl (by show _ * 8 ≤ _; omega) hk hz hd (fun q c1 H1 hK1 hP1 hD1 hS1 => ?_)
  have e9 : c1 = cA 4 := eRA_eq (q := 4) hK1 rfl
  subst e9
  exact eg_made hcl hN kk rfl hb hbv hag hP1 hD1 hS1 hl
theorem eg_newa_double (F : eFr S p l s m args meth c ox M D cA A bv0) {n : Int32} (hd : decode M.2.2.1 pc = .ok (.newarray .double, 2)) (hn0 : ¬ n < 0) (hn : Nat.ble n.toNatClampNeg 65536 = true) (hcl : eClA N lv r h = true) (hN : N0 ≤ N) (hk : k + 1 ≤ R.cells) (hz : z + n.toNatClampNeg ≤ R.slots)
    (kk : eKW p l e R s m args below meth c Q M D cA A bv0 N0 ad0 (pc + 2, lv, .ref N :: r, N + 1, va_up h N (.inl (6, n.toNatClampNeg, .inr (.inr (.inr (.inl (fun _ => 0)))))), k + 1, z + n.toNatClampNeg)) : eKW p l e R s m args below meth c Q M D cA A bv0 N0 ad0 (pc, lv, .int n :: r, N, h, k, z) := by
  intro ad bv H locs ls hb hbv hag hag2 hP hD hS hl
  have hn9 := Nat.le_of_ble_eq_true hn
  refine va_newa (atype := .double) (ty := .double) (a0 := (n.toNatClampNeg, .inr (.inr (.inr (.inl (fun _ => 0)))))) F.1 F.2.1 (F.2.2.2.2.1 _ gArr_double) rfl F.2.2.2.2.2.1 hP hD hS F.2.2.2.2.2.2.1 (fun _ => rfl) hn0 rfl (by show _ * 8 ≤ _; omega) hk hz hd (fun q c1 H1 hK1 hP1 hD1 hS1 => ?_)
  have e9 : c1 = cA 6 := eRA_eq (q := 6) hK1 rfl
  subst e9
  exact eg_made hcl hN kk rfl hb hbv hag hP1 hD1 hS1 hl
theorem eg_newq (F : eFr S p l s m args meth c ox M D cA A bv0) {x : Nat} {n : Int32} {C : String} (hd : decode M.2.2.1 pc = .ok (.anewarray x, 3)) (hx : eLk x (eAnwL M.1) = some C) (hn0 : ¬ n < 0) (hn : Nat.ble n.toNatClampNeg 65536 = true) (hcl : eClA N lv r h = true) (hN : N0 ≤ N) (hk : k + 1 ≤ R.cells) (hz : z + n.toNatClampNeg ≤ R.slots)
    (kk : eKW p l e R s m args below meth c Q M D cA A bv0 N0 ad0 (pc + 3, lv, .ref N :: r, N + 1, va_up h N (.inl (5, n.toNatClampNeg, .inr (.inr (.inr (.inr (fun _ => none)))))), k + 1, z + n.toNatClampNeg)) : eKW p l e R s m args below meth c Q M D cA A bv0 N0 ad0 (pc, lv, .int n :: r, N, h, k, z) := by
  intro ad bv H locs ls hb hbv hag hag2 hP hD hS hl
  have hn9 := Nat.le_of_ble_eq_true hn
  have hw : C = "MonkMarbles$Garden" ∧ Cond.classLink (eOwn M.1) x C ∈ lw_good := by
    have hm := eLk_mem hx
    generalize hM1 : M.1 = o1 at hm ⊢
    match o1, hm with
    | 1, hm =>
      rcases List.mem_cons.mp hm with e1 | e1
      · cases e1; exact ⟨rfl, k_151⟩
      · exact absurd e1 List.not_mem_nil
  obtain ⟨rfl, hw⟩ := hw
  refine va_newq (C := "MonkMarbles$Garden") F.1 F.2.1 F.2.2.2.1 (F.2.2.2.2.1 _ hw) F.2.2.2.2.2.2.2.2.2.2.2.2.1.2.2.2 F.2.2.2.2.2.1 hP hD hS F.2.2.2.2.2.2.1 hn0 rfl (by omega) hk hz hd (fun q c1 H1 hK1 hP1 hD1 hS1 => ?_)
  have e9 : c1 = cA 5 := eRA_eq (q := 5) hK1 rfl
  subst e9
  exact eg_made hcl hN kk rfl hb hbv hag hP1 hD1 hS1 hl
theorem eg_copy (F : eFr S p l s m args meth c ox M D cA A bv0) (hRf : 1 ≤ R.frames) (hRl : 150 ≤ R.locals) {x cc na : Nat} {M' : eM} (hd : decode M.2.2.1 pc = .ok (.invokestatic x, 3)) (hv : eMth M.1 x = some (8, cc, na, M')) (hr : eRm r = true) {a b q n0 n1 : Nat} {sp dp n : Int32} {f g : Nat → Int32} (ha : Nat.ble (a + 1) N = true) (hb2 : Nat.ble (b + 1) N = true) (hha : h a = .inl (q, n1, .inl g)) (hhb : h b = .inl (q, n0, .inl f))
    (h1 : ¬ sp < 0) (h2 : ¬ dp < 0) (h3 : ¬ n < 0) (h4 : Nat.ble (sp.toNatClampNeg + n.toNatClampNeg) n0 = true) (h5 : Nat.ble (dp.toNatClampNeg + n.toNatClampNeg) n1 = true) (hfit : eFitR q f sp.toNatClampNeg n.toNatClampNeg = true)
    (kk : eKW p l e R s m args below meth c Q M D cA A bv0 N0 ad0 (pc + 3, lv, r, N, va_up h a (.inl (q, n1, .inl (va_cpy f g sp.toNatClampNeg dp.toNatClampNeg n.toNatClampNeg))), k, z)) : eKW p l e R s m args below meth c Q M D cA A bv0 N0 ad0 (pc, lv, .int n :: .int dp :: .ref a :: .int sp :: .ref b :: r, N, h, k, z) := by
  intro ad bv H locs ls hb hbv hag hag2 hP hD hS hl
  have hw : Cond.methodLink (eOwn M.1) x arraycopyName ∈ lw_good := eMth_ok hv
  have h8 := Nat.le_of_ble_eq_true hr
  have hfw : nativeFrameWords "java/lang/System" "arraycopy" 5 ≤ 80 := by decide +kernel
  have hq : (q = 0 ∨ q = 3) ∧ ∀ i, i < n.toNatClampNeg → fits (eRow q) (.int (f (sp.toNatClampNeg + i))) = true := by
    unfold eFitR at hfit
    split at hfit
    · exact ⟨Or.inl rfl, fun i _ => rfl⟩
    · exact ⟨Or.inr rfl, fun i hi => List.all_eq_true.mp hfit i (List.mem_range.mpr hi)⟩
    · cases hfit
  obtain ⟨hq, hf9⟩ := hq
  have hq4 : q < 4 := by rcases hq with rfl | rfl <;> decide
  refine va_copyi (ty := eRow q) F.1 F.2.1 (F.2.2.1.trans hl.1.symm) F.2.2.2.1 (F.2.2.2.2.1 _ hw) (F.2.2.2.2.1 _ gCopy1) (F.2.2.2.2.1 _ gCopy2) (F.2.2.2.2.1 _ gSys) F.2.2.2.2.2.1 hP hD hS b a q q (eW_ble hb2 hhb) (eW_ble ha hha) (eTys_lt hq4) (eTys_lt hq4) (by rcases hq with rfl | rfl <;> rfl) h1 h2 h3 (Nat.le_of_ble_eq_true h4) (Nat.le_of_ble_eq_true h5) hf9 hRf (by rw [eV_cats hbv]; omega) hd (fun H1 locs1 hP1 hD1 hS1 => ?_)
  have e2 := eW_set (ad := ad) (bv := bv0) (cA := cA) (N := N) (h := h) (i := a) (.inl (q, n1, .inl (va_cpy f g sp.toNatClampNeg dp.toNatClampNeg n.toNatClampNeg)))
  exact kk ad bv H1 locs1 ls hb hbv hag hag2 (by rw [← e2]; exact hP1) (by rw [← e2]; exact hD1) hS1 hl
theorem eg_getstatic (F : eFr S p l s m args meth c ox M D cA A bv0) {x : Nat} {v : Value} (hd : decode M.2.2.1 pc = .ok (.getstatic x, 3)) (hv : eLk x (eStaL M.1) = some v) (kk : eKW p l e R s m args below meth c Q M D cA A bv0 N0 ad0 (pc + 3, lv, v :: r, N, h, k, z)) : eKW p l e R s m args below meth c Q M D cA A bv0 N0 ad0 (pc, lv, r, N, h, k, z) := by
  intro ad bv H locs ls hb hbv hag hag2 hP hD hS hl
  obtain ⟨C, n, d, hw, h9, hZ⟩ := eSta_ok hv
  have h2 := (kk ad bv H locs ls hb hbv hag hag2 hP hD hS hl)
  have e1 : eV ad bv v = eV ad bv0 v := by
    cases v <;> first | rfl | exact hb _ (h9 _ rfl)
  have e2 : (v :: r).map (eV ad bv) = eV ad bv0 v :: r.map (eV ad bv) := by rw [List.map_cons, e1]
  have h3 : W p l e R s m args below meth c H locs k z Q (F0 m (pc + 3) ls (eV ad bv0 v :: r.map (eV ad bv))) := by rw [← e2]; exact h2
  exact va_gets F.1 F.2.1 (hZ ad A bv0 s s.heap F.2.2.2.2.2.2.2.2.2.2.1) hS F.2.2.2.1 (F.2.2.2.2.1 _ hw) (fun _ q => q) hd h3
end EN
