/-! contracts out of runs, and what stands behind a call -/
def eRoom (d mc ms : Nat) : Room := { frames := d + 10, cells := mc, slots := ms, locals := 40 * d + 300 }
theorem eFx.moved {A : Nat → Prop} {bv : Nat → Value} {u U : State} {H : Heap} (hvm : u.vm.Alike U.vm) (h : eFx A bv u H) : eFx A bv U H := ⟨vx_Zq.moved hvm h.1, vx_Zq.moved hvm h.2.1, va_Z.moved hvm h.2.2.1, va_Z.moved hvm h.2.2.2.1, va_Z.moved hvm h.2.2.2.2.1, va_Z.moved hvm h.2.2.2.2.2⟩
theorem eFx.kept {A : Nat → Prop} {bv : Nat → Value} {U : State} {H H1 : Heap} (h : eFx A bv U H) (hq : ∀ a : Nat, a < H.size → ¬ A a → H1[a]? = H[a]?) : eFx A bv U H1 := ⟨h.1.kept hq, h.2.1.kept hq, h.2.2.1.kept hq, h.2.2.2.1.kept hq, h.2.2.2.2.1.kept hq, h.2.2.2.2.2.kept hq⟩
theorem eFx.narrow {A B : Nat → Prop} {bv : Nat → Value} {U : State} {H : Heap} (h : eFx A bv U H) (hAB : ∀ q, B q → A q) : eFx B bv U H := ⟨h.1.narrow hAB, h.2.1.narrow hAB, h.2.2.1.narrow hAB, h.2.2.2.1.narrow hAB, h.2.2.2.2.1.narrow hAB, h.2.2.2.2.2.narrow hAB⟩
theorem eOut.moved {ox : Nat → Option (Nat × Nat × (Nat → Int32))} {A : Nat → Prop} {bv : Nat → Value} {u U : State} {H : Heap} (hvm : u.vm.Alike U.vm) (h : eOut ox A bv u H) : eOut ox A bv U H := fun j q n f hj => by
  obtain ⟨h9, t, ht, hT, hq⟩ := h j q n f hj
  exact ⟨h9, t, ht, va_T.moved hvm hT, hq⟩
theorem eOut.kept {ox : Nat → Option (Nat × Nat × (Nat → Int32))} {A : Nat → Prop} {bv : Nat → Value} {U : State} {H H1 : Heap} (h : eOut ox A bv U H) (hk : ∀ a : Nat, a < H.size → ¬ A a → H1[a]? = H[a]?) : eOut ox A bv U H1 := fun j q n f hj => by
  obtain ⟨h9, t, ht, hT, hq⟩ := h j q n f hj
  exact ⟨h9, t, ht, hT.kept hk, hq⟩
theorem eOut.narrow {ox : Nat → Option (Nat × Nat × (Nat → Int32))} {A B : Nat → Prop} {bv : Nat → Value} {U : State} {H : Heap} (h : eOut ox A bv U H) (hAB : ∀ q, B q → A q) : eOut ox B bv U H := fun j q n f hj => by
  obtain ⟨h9, t, ht, hT, hq⟩ := h j q n f hj
  exact ⟨h9, t, ht, hT.narrow hAB, hq⟩
theorem eWd.same {S : List (String × Nat × String)} {u U : State} (hv : u.vm = U.vm) (h : eWd S u) : eWd S U := by
  obtain ⟨h1, h2, h3, h4⟩ := h
  have ha : u.vm.Alike U.vm := by rw [hv]; exact Vm.Alike.refl _
  refine ⟨fun q hq => va_Nw.same rfl hv (h1 q hq), fun q hq => ?_, fun E hE X hX hne => va_Nc.moved ha (h3 E hE X hX hne), va_AO.moved ha h4⟩
  obtain ⟨a, h⟩ := h2 q hq
  exact ⟨a, vk_R.same hv.symm h⟩
theorem eWd.warm {S : List (String × Nat × String)} {s U : State} (hW : s.WarmedH U.vm) (h : eWd S s) : eWd S U := by
  obtain ⟨h1, h2, h3, h4⟩ := h
  refine ⟨fun q hq => va_Nw.warmM hW (h1 q hq), fun q hq => ?_, fun E hE X hX hne => va_Nc.moved hW.alike (h3 E hE X hX hne), va_AO.moved hW.alike h4⟩
  obtain ⟨a, h⟩ := h2 q hq
  exact ⟨a, vk_R.warm hW h⟩
/-- a contract's start -/
def ePc (S : List (String × Nat × String)) (D : va_G) (cA : Nat → ClassId) (bv : Nat → Value) (ad : Nat → Nat) (N : Nat) (h : eHp) (sz : Nat) (U : State) : Prop :=
  U.heap.size = sz ∧ va_P D vwCl (eW ad bv cA N h) U.heap ∧ va_K D vwCl (eTys cA) U ∧ va_D (fun _ => True) (eW ad bv cA N h) ∧ eFx (va_A (eW ad bv cA N h) sz) bv U U.heap ∧ eOut eOx (va_A (eW ad bv cA N h) sz) bv U U.heap ∧ eWd S U
theorem ePc_blind {S : List (String × Nat × String)} {D : va_G} {cA : Nat → ClassId} {bv : Nat → Value} {ad : Nat → Nat} {N : Nat} {h : eHp} {sz : Nat} {av : List Value} : FrameBlind (va_Pc av (ePc S D cA bv ad N h sz)) := fun a U g mk q => by
  obtain ⟨q0, q1, qP, qK, qD, qF, qO, qW⟩ := q
  exact ⟨q0, q1, qP, va_K.moved (u := U) (U := U.calling g mk a) (Vm.Alike.refl U.vm) qK, qD, eFx.moved (u := U) (U := U.calling g mk a) (Vm.Alike.refl U.vm) qF, eOut.moved (u := U) (U := U.calling g mk a) (Vm.Alike.refl U.vm) qO, eWd.same (u := U) (U := U.calling g mk a) rfl qW⟩
/-- .. and its ends -/
def eQc (D : va_G) (cA : Nat → ClassId) (bv : Nat → Value) (ad : Nat → Nat) (N : Nat) (h : eHp) (sz : Nat) (q : eR) : Array Value → State → Outcome → State → Prop := fun _ st o t =>
  (∃ (v : Option Value) (ad' : Nat → Nat), q.1 = .inl v ∧ (∀ i, i < N → ad' i = ad i) ∧ (q.2.1 = N → ad' = ad) ∧ o = .returned (v.map (eV ad' bv)) ∧ va_P D vwCl (eW ad' bv cA q.2.1 q.2.2.1) t.heap ∧ va_D (va_A (eW ad bv cA N h) sz) (eW ad' bv cA q.2.1 q.2.2.1)) ∧ va_F (va_A (eW ad bv cA N h) sz) st t
def eXc (D : va_G) (cA : Nat → ClassId) (bv : Nat → Value) (ad : Nat → Nat) (N : Nat) (h : eHp) (sz : Nat) (q : eR) : String → State → State → Prop := fun E st t =>
  (∃ ad' : Nat → Nat, q.1 = .inr E ∧ E ∈ eExs ∧ (∀ i, i < N → ad' i = ad i) ∧ (q.2.1 = N → ad' = ad) ∧ va_P D vwCl (eW ad' bv cA q.2.1 q.2.2.1) t.heap ∧ va_D (va_A (eW ad bv cA N h) sz) (eW ad' bv cA q.2.1 q.2.2.1)) ∧ va_F (va_A (eW ad bv cA N h) sz) st t
def eMet (S : List (String × Nat × String)) (l : Launch) (d : Nat) (M : eM) (args : List Value) (N : Nat) (h : eHp) (q : eR) : Prop :=
  ∀ (D : va_G) (cA : Nat → ClassId) (bv : Nat → Value) (ad : Nat → Nat) (sz : Nat), eBv bv →
    vx_Met l M.2.1 (eCode M :: lw_good) (eRoom d q.2.2.2.1 q.2.2.2.2) (va_Pc (args.map (eV ad bv)) (ePc S D cA bv ad N h sz)) (eQc D cA bv ad N h sz q) (eXc D cA bv ad N h sz q) q.2.2.2.1 q.2.2.2.2 (va_A (eW ad bv cA N h) sz)
theorem eHan_ok {o pc : Nat} {E : String} : ∀ {hh : List (Nat × Nat × Nat × Nat)} {t : Nat}, eHan o pc E hh = some t → ∃ (pre : List (Nat × Nat × Nat × Nat)) (x : Nat × Nat × Nat × Nat) (suf : List (Nat × Nat × Nat × Nat)), hh = pre ++ x :: suf ∧ (∀ z ∈ pre, (Nat.ble z.1 pc && Nat.ble (pc + 1) z.2.1) = false ∨ ∃ C, eLk z.2.2.2 (eHanL o) = some C ∧ C ≠ E) ∧ (Nat.ble x.1 pc && Nat.ble (pc + 1) x.2.1) = true ∧ eLk x.2.2.2 (eHanL o) = some E ∧ x.2.2.1 = t
  | [], t, h => by simp [eHan] at h
  | q :: l, t, h => by
    simp only [eHan] at h
    split at h
    · rename_i hc
      obtain ⟨pre, x, suf, e1, e2, e3, e4, e5⟩ := eHan_ok h
      exact ⟨q :: pre, x, suf, by rw [e1]; rfl, fun z hz => (List.mem_cons.mp hz).elim (fun e => by rw [e]; exact Or.inl hc) (e2 z), e3, e4, e5⟩
    · rename_i hc
      split at h
      · cases h
      · rename_i C hC
        split at h
        · rename_i hE
          have hE := of_decide_eq_true hE
          subst hE
          cases h
          exact ⟨[], q, l, rfl, fun z hz => absurd hz List.not_mem_nil, hc, hC, rfl⟩
        · rename_i hE
          obtain ⟨pre, x, suf, e1, e2, e3, e4, e5⟩ := eHan_ok h
          exact ⟨q :: pre, x, suf, by rw [e1]; rfl, fun z hz => (List.mem_cons.mp hz).elim (fun e => by rw [e]; exact Or.inr ⟨C, hC, of_decide_eq_false hE⟩) (e2 z), e3, e4, e5⟩
theorem eN9_eq {bv bv' : Nat → Value} {ad : Nat → Nat} (hb : ∀ j, j ≠ 9 → bv j = bv' j) {v : Value} (h : eN9 v = true) : eV ad bv v = eV ad bv' v := by
  cases v <;> try rfl
  rename_i j
  refine hb j (fun e => ?_)
  subst e
  exact absurd h (by decide)
theorem eN9s_eq {bv bv' : Nat → Value} {ad : Nat → Nat} (hb : ∀ j, j ≠ 9 → bv j = bv' j) {r : List Value} (h : r.all eN9 = true) : r.map (eV ad bv) = r.map (eV ad bv') :=
  List.map_congr_left (fun v hv => eN9_eq hb (List.all_eq_true.mp h v hv))
theorem eN9l_eq {bv bv' : Nat → Value} {ad : Nat → Nat} (hb : ∀ j, j ≠ 9 → bv j = bv' j) {lv : eLv} (h : lv.all (fun q => eN9 q.2) = true) : eL ad bv lv = eL ad bv' lv :=
  List.map_congr_left (fun q hq => by rw [eN9_eq hb (List.all_eq_true.mp h q hq)])
/-- the words of handlers -/
def eHanOk (o : Nat) (q : Nat × String) : Prop := q.1 ≠ 0 ∧ q.2 ∈ eExs ∧ Cond.classLink (eOwn o) q.1 q.2 ∈ lw_good
theorem e_cast_self {args : Array Value} {s : State} {E : String} {c : ClassId} (h : s.vm.findClass E = some c) : (Cond.castable E E).before args s = true := by
  have hs : s.vm.assignable c c = true := by
    show s.vm.assignableAux (255 + 1) c c = true
    rw [Vm.assignableAux]
    simp
  simp [Cond.before, Cond.holds, Cond.value, h, hs]
theorem eHan_8 : ∀ q ∈ eHanL 8, eHanOk 8 q := List.forall_mem_cons.mpr ⟨⟨by decide, List.mem_of_getElem? (i := 1) rfl, lw_gm 931 (by decide +kernel) (by decide +kernel)⟩, List.forall_mem_cons.mpr ⟨⟨by decide, List.mem_of_getElem? (i := 4) rfl, lw_gm 932 (by decide +kernel) (by decide +kernel)⟩, List.forall_mem_cons.mpr ⟨⟨by decide, List.mem_of_getElem? (i := 3) rfl, lw_gm 1005 (by decide +kernel) (by decide +kernel)⟩, List.forall_mem_cons.mpr ⟨⟨by decide, List.mem_of_getElem? (i := 5) rfl, lw_gm 1031 (by decide +kernel) (by decide +kernel)⟩, List.forall_mem_cons.mpr ⟨⟨by decide, List.mem_of_getElem? (i := 2) rfl, lw_gm 1111 (by decide +kernel) (by decide +kernel)⟩, List.forall_mem_cons.mpr ⟨⟨by decide, List.mem_of_getElem? (i := 0) rfl, lw_gm 1375 (by decide +kernel) (by decide +kernel)⟩, fun _ h => absurd h List.not_mem_nil⟩⟩⟩⟩⟩⟩
theorem eHanL_ok {o x : Nat} {C : String} (h : eLk x (eHanL o) = some C) : eHanOk o (x, C) := by
  have hm := eLk_mem h
  match o, hm with
  | 0, hm => exact absurd hm List.not_mem_nil
  | 1, hm => exact absurd hm List.not_mem_nil
  | 2, hm => exact absurd hm List.not_mem_nil
  | 3, hm => exact absurd hm List.not_mem_nil
  | 4, hm => exact absurd hm List.not_mem_nil
  | 5, hm => exact absurd hm List.not_mem_nil
  | 6, hm => exact absurd hm List.not_mem_nil
  | 7, hm => exact absurd hm List.not_mem_nil
  | 8, hm => exact eHan_8 _ hm
  | 9, hm => exact absurd hm List.not_mem_nil
  | 10, hm => exact absurd hm List.not_mem_nil
  | 11, hm => exact absurd hm List.not_mem_nil
  | 12, hm => exact absurd hm List.not_mem_nil
  | 13, hm => exact absurd hm List.not_mem_nil
  | 14, hm => exact absurd hm List.not_mem_nil
  | 15, hm => exact absurd hm List.not_mem_nil
  | 16, hm => exact absurd hm List.not_mem_nil
  | 17, hm => exact absurd hm List.not_mem_nil
  | _ + 18, hm => exact absurd hm List.not_mem_nil
section EB
variable {S : List (String × Nat × String)} {p : Program} {l : Launch} {e : Env} {R : Room} {s : State} {m : MethodId} {args : Array Value} {below : List Frame} {meth : Method} {c : Code} {Q : State → Prop} {ox : Nat → Option (Nat × Nat × (Nat → Int32))} {M : eM} {D : va_G} {cA : Nat → ClassId} {A : Nat → Prop} {bv0 : Nat → Value} {N0 : Nat} {ad0 : Nat → Nat}
variable {pc : Nat} {lv : eLv} {r : List Value} {N : Nat} {h : eHp} {k z : Nat}
theorem eA_sub {ad : Nat → Nat} {H : Heap} {locs : List Loc} (hA : ∀ q : Nat, s.heap.size ≤ q → A q) (hD : va_D A (eW ad bv0 cA N h)) (hS : va_S A s.heap H locs) : ∀ q, va_A (eW ad bv0 cA N h) H.size q → A q := by
  intro q hq
  rcases hq with ⟨i, x, hi⟩ | hq
  · exact hD.2 i _ hi
  · exact hA q (Nat.le_trans hS.1 hq)
theorem eg_behind (F : eFr S p l s m args meth c ox M D cA A bv0) (hT9 : c.exceptionTable.toList = tableOf M.2.2.2.2.2.1) {q : eR} {c' : eC} {st0 st1 : List Value} {arr : Array Value} (hN : N0 ≤ N) (hq1 : N ≤ q.2.1) (hback : eBack M (pc, lv, st1, N, h, k, z) lv r q = some c') (kk : eKW p l e R s m args below meth c Q M D cA A bv0 N0 ad0 c')
    {ad : Nat → Nat} {bv : Nat → Value} {H : Heap} {locs : List Loc} {ls : Array Slot} (hb : ∀ j, j ≠ 9 → bv j = bv0 j) (hbv : eBv bv) (hag : ∀ i, i < N0 → ad i = ad0 i) (hag2 : N = N0 → ad = ad0) (hP : va_P D vwCl (eW ad bv0 cA N h) H) (hD : va_D A (eW ad bv0 cA N h)) (hS : va_S A s.heap H locs) (hl : lv_has ls M.2.2.2.1 (eL ad bv lv))
    (hr : vx_Run p l e R s m args below meth c H locs k z q.2.2.2.1 q.2.2.2.2 (F0 m pc ls st0) (r.map (eV ad bv)) (eQc D cA bv0 ad N h H.size q arr) (eXc D cA bv0 ad N h H.size q) (va_A (eW ad bv0 cA N h) H.size)) :
    W p l e R s m args below meth c H locs k z Q (F0 m pc ls st0) := by
  have hA9 := eA_sub F.2.2.2.2.2.2.1 hD hS
  have hAW : ∀ i, H.size ≤ i → A i := fun i hi => F.2.2.2.2.2.2.1 i (Nat.le_trans hS.1 hi)
  simp only [eBack] at hback
  split at hback
  case h_2 => cases hback
  rename_i hcl
  -- locals and stack under the new addresses
  have hmove : ∀ ad' : Nat → Nat, (∀ i, i < N → ad' i = ad i) → (q.2.1 = N → ad' = ad) → eL ad' bv lv = eL ad bv lv ∧ r.map (eV ad' bv) = r.map (eV ad bv) := by
    intro ad' g1 g2
    rcases Bool.or_eq_true _ _ ▸ hcl with hc | hc
    · rw [g2 (Nat.eq_of_beq_eq_true hc)]; exact ⟨rfl, rfl⟩
    · rw [Bool.and_eq_true] at hc
      exact ⟨eL_cl g1 hc.1, eVs_cl g1 hc.2⟩
  have hagr : ∀ ad' : Nat → Nat, (∀ i, i < N → ad' i = ad i) → (q.2.1 = N → ad' = ad) → (∀ i, i < N0 → ad' i = ad0 i) ∧ (q.2.1 = N0 → ad' = ad0) := by
    intro ad' g1 g2
    refine ⟨fun i hi => by rw [g1 i (by omega)]; exact hag i hi, fun he => ?_⟩
    have e1 : N = N0 := by omega
    rw [g2 (by omega)]; exact hag2 e1
  intro T hT X
  rcases hr T hT X with ⟨v, st₀, t, T', L, h0, X', hL, e1, e2, hq, st⟩ | ⟨qa, st₀, t, T', L, E, ce, h0, X', hL, e1, e2, hx, hce, hcv, hclE, st⟩
  · obtain ⟨⟨v0, ad', hv0, g1, g2, hret, hP', hD'⟩, hF⟩ := hq
    obtain ⟨k1, k2, k3⟩ := vx_keep h0 e1 hS (fun i _ hi => hA9 i hi) hA9 hL hF
    rw [hv0] at hback
    simp only at hback
    split at hback
    case h_2 => cases hback
    rename_i h9
    cases hback
    obtain ⟨m1, m2⟩ := hmove ad' g1 g2
    obtain ⟨a1, a2⟩ := hagr ad' g1 g2
    have hv : v = v0.map (eV ad' bv0) := by cases hret; rfl
    obtain ⟨t2, b1, b2⟩ := kk ad' bv T'.heap (locs ++ L) ls hb hbv a1 a2 (by rw [e1]; exact hP') (hD'.weaken (fun i x _ hx => hA9 x.1 hx)) k3 (by show lv_has ls M.2.2.2.1 (eL ad' bv lv); rw [m1]; exact hl) T' rfl X'
    refine ⟨t2, st t2 ?_, b2⟩
    have e5 : (v0.toList ++ r).map (eV ad' bv) = v.toList ++ r.map (eV ad bv) := by
      rw [List.map_append, m2, hv, eN9s_eq hb h9]
      cases v0 <;> rfl
    rw [← e5]
    exact b1
  · obtain ⟨⟨ad', hv0, hE, g1, g2, hP', hD'⟩, hF⟩ := hx
    obtain ⟨k1, k2, k3⟩ := vx_keep h0 e1 hS (fun i _ hi => hA9 i hi) hA9 hL hF
    rw [hv0] at hback
    simp only at hback
    split at hback
    case h_2 => cases hback
    rename_i t9 hhan
    split at hback
    case h_1 => cases hback
    rename_i h9
    cases hback
    obtain ⟨m1, m2⟩ := hmove ad' g1 g2
    obtain ⟨a1, a2⟩ := hagr ad' g1 g2
    obtain ⟨pre, x, suf, f1, f2, f3, f4, f5⟩ := eHan_ok hhan
    have hb' : ∀ j, j ≠ 9 → va_up bv 9 (.ref qa) j = bv0 j := fun j hj => by simp [va_up, hj]; exact hb j hj
    have hbv' : eBv (va_up bv 9 (.ref qa)) := fun j => by
      by_cases hj : j = 9
      · exact Or.inr ⟨qa, by simp [va_up, hj]⟩
      · rw [show va_up bv 9 (.ref qa) j = bv j by simp [va_up, hj]]; exact hbv j
    have hlv : eL ad' (va_up bv 9 (.ref qa)) lv = eL ad bv lv := by
      rw [← m1]
      exact eN9l_eq (fun j hj => by simp [va_up, hj]) h9
    have hcov : ∀ z : Nat × Nat × Nat × Nat, covers ⟨z.1, z.2.1, z.2.2.1, z.2.2.2⟩ pc = (Nat.ble z.1 pc && Nat.ble (pc + 1) z.2.1) := by
      intro z
      simp only [covers]
      have e1 : ∀ a b : Nat, Nat.ble a b = decide (a ≤ b) := fun a b => by
        by_cases h : a ≤ b
        · rw [decide_eq_true h]; exact Nat.ble_eq.mpr h
        · rw [decide_eq_false h]; cases hb : Nat.ble a b with
          | false => rfl
          | true => exact absurd (Nat.le_of_ble_eq_true hb) h
      rw [e1, e1]
      simp [Nat.lt_iff_add_one_le]
    obtain ⟨w1, w2, w3⟩ := eHanL_ok f4
    have hW9 : vx_W p l e R s m args below meth c T'.heap (locs ++ L) (k + q.2.2.2.1) (z + q.2.2.2.2) Q (F0 m pc ls (r.map (eV ad bv))) qa := by
      refine vx_catch F.2.2.2.1 (tableOf pre) ⟨x.1, x.2.1, x.2.2.1, x.2.2.2⟩ (tableOf suf) (by rw [hT9, f1]; simp [tableOf]) ?_ (by rw [hcov]; exact f3) w1 (F.2.2.2.2.1 _ w3) (e_cast_self hclE) (by rw [e1]; exact hce) hcv hclE ?_
      · intro y hy
        obtain ⟨y0, hy0, rfl⟩ := List.mem_map.mp hy
        rcases f2 y0 hy0 with hc | ⟨C, hC, hne⟩
        · exact Or.inl (by rw [hcov]; exact hc)
        · obtain ⟨u1, u2, u3⟩ := eHanL_ok hC
          exact Or.inr ⟨u1, C, F.2.2.2.2.1 _ u3, F.2.2.2.2.2.2.2.2.2.2.2.2.1.2.2.1 E hE C u2 (Ne.symm hne)⟩
      · have h5 := kk ad' (va_up bv 9 (.ref qa)) T'.heap (locs ++ L) ls hb' hbv' a1 a2 (by rw [e1]; exact hP') (hD'.weaken (fun i x _ hx => hA9 x.1 hx)) k3 (by show lv_has ls M.2.2.2.1 (eL ad' (va_up bv 9 (.ref qa)) lv); rw [hlv]; exact hl)
        have e6 : ([Value.retAddr 9]).map (eV ad' (va_up bv 9 (.ref qa))) = [.ref qa] := by simp [eV, va_up]
        rw [e6] at h5
        rw [show x.2.2.1 = t9 from f5]
        exact h5
    obtain ⟨t2, b1, b2⟩ := hW9 T' rfl X'
    exact ⟨t2, st.trans b1, b2⟩
end EB

