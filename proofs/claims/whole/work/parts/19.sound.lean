/-! the ends of a method, and the machine is sound -/
section ES
variable {p : Program} {l : Launch} {e : Env} {R : Room} {s : State} {m : MethodId} {args : Array Value} {below : List Frame} {meth : Method} {c : Code} {Q : State → Prop} {ox : Nat → Option (Nat × Nat × (Nat → Int32))} {M : eM} {D : va_G} {cA : Nat → ClassId} {A : Nat → Prop} {bv0 : Nat → Value} {N0 : Nat} {ad0 : Nat → Nat}
variable {pc : Nat} {lv : eLv} {st : List Value} {N : Nat} {h : eHp} {k z : Nat} {q : eR}
/-- a method returns -/
theorem eEnd_ret (F : eFr eStrs p l s m args meth c ox M D cA A bv0) (hret : meth.sig.returnType = M.2.2.2.2.1) {h0 : eHp} (hA : A = va_A (eW ad0 bv0 cA N0 h0) s.heap.size) {v : Option Value} (hs : eStep ox M (pc, lv, st, N, h, k, z) = some (.inr (.inl (.inl v)))) :
    eKW p l e R s m args below meth c (vx_MQ below (eQc D cA bv0 ad0 N0 h0 s.heap.size (.inl v, N, h, k, z)) (eXc D cA bv0 ad0 N0 h0 s.heap.size (.inl v, N, h, k, z)) args s k z A) M D cA A bv0 N0 ad0 (pc, lv, st, N, h, k, z) := by
  intro ad bv H locs ls hb hbv hag hag2 hP hD hS hl
  have hlocks := F.2.2.2.2.2.2.2.1
  unfold eStep at hs
  split at hs
  case h_2 => cases hs
  rename_i i tg hi
  obtain ⟨hd, -⟩ := F.2.2.2.2.2.2.2.2.2.2.2.2.2.2 _ (eLk_mem hi)
  have hqc : ∀ (v' : Option Value), v' = v.map (eV ad bv0) → ∀ t : State, t.heap = H → s.WarmedH t.vm → eQc D cA bv0 ad0 N0 h0 s.heap.size (.inl v, N, h, k, z) args s (.returned v') t := by
    intro v' hv' t ht hW
    refine ⟨⟨v, ad, rfl, hag, hag2, by rw [hv'], by rw [ht]; exact hP, by rw [← hA]; exact hD⟩, ?_⟩
    rw [← hA]; exact hS.F ht
  have hgo : ∀ {a1 : Nat} {a2 : eLv} {a3 : List Value} {a4 : Nat} {a5 : eHp} {a6 a7 : Nat} {q : eO}, eGo a1 a2 a3 a4 a5 a6 a7 = some (.inr (.inl q)) → False := fun h => by cases h
  cases i with
  | ireturn =>
    simp only [eDo] at hs
    split at hs
    · rename_i x hr
      cases hs
      exact vx_ret (W.iret F.1 F.2.1 (hret.trans hr) (hqc _ rfl) hS.2.2 hd hlocks)
    · rename_i x hr
      split at hs
      · rename_i hx
        cases hs
        have hx := of_decide_eq_true hx
        exact vx_ret (W.zret (ty := .boolean) F.1 F.2.1 (hret.trans hr) (by show Value.int (vp_nar .boolean x) = _; rw [hx]) (hqc _ rfl) hS.2.2 hd hlocks)
      · cases hs
    · rename_i x hr
      split at hs
      · rename_i hx
        cases hs
        have hx := of_decide_eq_true hx
        exact vx_ret (W.zret (ty := .char) F.1 F.2.1 (hret.trans hr) (by show Value.int (vp_nar .char x) = _; rw [hx]) (hqc _ rfl) hS.2.2 hd hlocks)
      · cases hs
    · cases hs
  | lreturn =>
    simp only [eDo] at hs
    split at hs
    · rename_i x hr
      cases hs
      exact vx_ret (W.lret F.1 F.2.1 (hret.trans hr) (hqc _ rfl) hS.2.2 hd hlocks)
    · cases hs
  | dreturn =>
    simp only [eDo] at hs
    split at hs
    · rename_i x hr
      cases hs
      exact vx_ret (W.dret F.1 F.2.1 (hret.trans hr) (hqc _ rfl) hS.2.2 hd hlocks)
    · cases hs
  | freturn =>
    simp only [eDo] at hs
    split at hs
    · rename_i x hr
      cases hs
      exact vx_ret (W.fret F.1 F.2.1 (hret.trans hr) (hqc _ rfl) hS.2.2 hd hlocks)
    · cases hs
  | areturn =>
    simp only [eDo] at hs
    split at hs
    · rename_i x nm hr
      cases hs
      exact vx_ret (W.aret (v := .ref (ad x)) F.1 F.2.1 (hret.trans hr) (Or.inl ⟨_, rfl⟩) (Or.inr ⟨_, rfl⟩) (hqc _ rfl) hS.2.2 hd hlocks)
    · rename_i x ty hr
      cases hs
      exact vx_ret (W.aret (v := .ref (ad x)) F.1 F.2.1 (hret.trans hr) (Or.inr ⟨_, rfl⟩) (Or.inr ⟨_, rfl⟩) (hqc _ rfl) hS.2.2 hd hlocks)
    · cases hs
  | return_ =>
    simp only [eDo] at hs
    split at hs
    · rename_i hr
      cases hs
      exact vx_ret (W.vret F.1 F.2.1 (hret.trans hr) (hqc _ rfl) hS.2.2 hd hlocks)
    · cases hs
  | _ =>
    exfalso
    simp only [eDo] at hs
    (try simp only [eLi, eLl, eLa, eSi, eSl, eSa, eB, eBl, eIf, eAl, eAlL, eAlD, eAlA, eAs, eAsL, eAsD, eAsA, eLen, eMk, eCopy, eGet, ePut, eNwa, eInv] at hs)
    repeat' (split at hs)
    all_goals first | cases hs | exact hgo hs | contradiction
/-- a method throws -/
theorem eEnd_thr (F : eFr eStrs p l s m args meth c ox M D cA A bv0) (hT9 : c.exceptionTable.toList = tableOf M.2.2.2.2.2.1) (hthr : eThrB M = true) {h0 : eHp} (hA : A = va_A (eW ad0 bv0 cA N0 h0) s.heap.size) (hRf : 8 ≤ R.frames) (hRl : 200 ≤ R.locals) (hk : k + 1 ≤ R.cells) (hz : z + 6 ≤ R.slots) {E : String} (hs : eStep ox M (pc, lv, st, N, h, k, z) = some (.inr (.inl (.inr E)))) :
    eKW p l e R s m args below meth c (vx_MQ below (eQc D cA bv0 ad0 N0 h0 s.heap.size (.inr E, N, h, k + 1, z + 6)) (eXc D cA bv0 ad0 N0 h0 s.heap.size (.inr E, N, h, k + 1, z + 6)) args s (k + 1) (z + 6) A) M D cA A bv0 N0 ad0 (pc, lv, st, N, h, k, z) := by
  intro ad bv H locs ls hb hbv hag hag2 hP hD hS hl
  have hlocks := F.2.2.2.2.2.2.2.1
  unfold eStep at hs
  split at hs
  case h_2 => cases hs
  rename_i i tg hi
  have hgo : ∀ {a1 : Nat} {a2 : eLv} {a3 : List Value} {a4 : Nat} {a5 : eHp} {a6 a7 : Nat} {q : eO}, eGo a1 a2 a3 a4 a5 a6 a7 = some (.inr (.inl q)) → False := fun h => by cases h
  have hnew : ∃ ik, i = .new ik ∧ eLk ik (eExcL M.1) = some E ∧ eRm st = true := by
    cases i with
    | new ik =>
      simp only [eDo] at hs
      split at hs
      · unfold eMk at hs
        split at hs
        · exact (hgo hs).elim
        · cases hs
      · split at hs
        · rename_i E' hE
          split at hs
          · rename_i hr
            cases hs
            exact ⟨ik, rfl, hE, hr⟩
          · cases hs
        · cases hs
    | _ =>
      exfalso
      simp only [eDo] at hs
      (try simp only [eLi, eLl, eLa, eSi, eSl, eSa, eB, eBl, eIf, eAl, eAlL, eAlD, eAlA, eAs, eAsL, eAsD, eAsA, eLen, eMk, eCopy, eGet, ePut, eNwa, eInv] at hs)
      repeat' (split at hs)
      all_goals first | cases hs | exact hgo hs | contradiction
  obtain ⟨ik, rfl, hE, hr⟩ := hnew
  have hr8 := Nat.le_of_ble_eq_true hr
  obtain ⟨hd0, -⟩ := F.2.2.2.2.2.2.2.2.2.2.2.2.2.2 _ (eLk_mem hi)
  have hc := List.all_eq_true.mp (Bool.and_eq_true _ _ ▸ hthr).2 _ (eLk_mem hi)
  simp only [hE, eThrC, Bool.and_eq_true] at hc
  obtain ⟨⟨⟨hc0, hc1⟩, hc3⟩, hc4⟩ := hc
  have hM6 := Nat.eq_of_beq_eq_true hc1
  have hown : s.vm.findClass "MonkMarbles" = some m.cls := by have := F.2.2.2.1; rw [hM6] at this; exact this
  have hhh : M.2.2.2.2.2.1 = [] := by
    split at hc0
    · rename_i hq; exact hq
    · cases hc0
  have hout : ∀ (w : Nat), ∀ x ∈ c.exceptionTable.toList, covers x w = false := by
    intro w x hx
    rw [hT9, hhh] at hx
    exact absurd hx List.not_mem_nil
  have hxx : ∀ t : State, s.vm.Alike t.vm → H.size ≤ t.heap.size → (∀ i : Nat, i < H.size → t.heap[i]? = H[i]?) → E ∈ eExs → eXc D cA bv0 ad0 N0 h0 s.heap.size (.inr E, N, h, k + 1, z + 6) E s t := by
    intro t hv hsz hsame hEx
    refine ⟨⟨ad, rfl, hEx, hag, hag2, hP.kept (fun i y hy => hsame y.1 (hP i y hy).lt), by rw [← hA]; exact hD⟩, ?_⟩
    rw [← hA]
    refine ⟨Nat.le_trans hS.1 hsz, fun i h1 h2 => ?_⟩
    rw [hsame i (Nat.lt_of_lt_of_le h1 hS.1)]
    exact hS.2.1 i h1 h2
  split at hc3
  case h_2 => cases hc3
  rename_i t3 hi3
  obtain ⟨hd3, -⟩ := F.2.2.2.2.2.2.2.2.2.2.2.2.2.2 _ (eLk_mem hi3)
  have hsum : ((st.map (eV ad bv)).map fun v => v.category).sum + 82 ≤ R.locals := by rw [eV_cats hbv]; omega
  have hgd : ∀ w ∈ lw_good, vx_ot w = true := fun w hw => by unfold vx_ot; rw [(List.mem_filter.mp hw).2, Bool.or_true]
  split at hc4
  · rename_i is t4 hi4
    simp only [Bool.and_eq_true] at hc4
    obtain ⟨⟨hs1, hs2⟩, hs3⟩ := hc4
    obtain ⟨hd4, -⟩ := F.2.2.2.2.2.2.2.2.2.2.2.2.2.2 _ (eLk_mem hi4)
    split at hs2
    case h_2 => cases hs2
    rename_i t9 hi9
    obtain ⟨hd9, -⟩ := F.2.2.2.2.2.2.2.2.2.2.2.2.2.2 _ (eLk_mem hi9)
    split at hs3
    case h_2 => cases hs3
    rename_i ic t6 hi6
    obtain ⟨hd6, -⟩ := F.2.2.2.2.2.2.2.2.2.2.2.2.2.2 _ (eLk_mem hi6)
    split at hs3
    case h_2 => cases hs3
    rename_i k9 C hic
    simp only [Bool.and_eq_true] at hs3
    have e1 := Nat.eq_of_beq_eq_true hs3.1
    have e2 := of_decide_eq_true hs3.2
    subst e1; subst e2
    obtain ⟨w1, w2, w3, w4, w5, w6⟩ := eIni_ok _ (eLk_mem hic)
    obtain ⟨c9, -, hc9, -⟩ := Cond.instantiable_spec (F.2.2.2.2.1 _ w6)
    obtain ⟨sq, hsq, hsi⟩ := List.any_eq_true.mp hs1
    have hsi := Nat.eq_of_beq_eq_true hsi
    obtain ⟨sa, hsa⟩ := F.2.2.2.2.2.2.2.2.2.2.2.2.1.2.1 sq hsq
    have hs0 : sq.1 = "MonkMarbles" := by
      have h0 : ∀ y ∈ eStrs, y.1 = "MonkMarbles" := by decide +kernel
      exact h0 sq hsq
    rw [hs0, hsi] at hsa
    by_cases h152 : ic = 152
    · rw [if_pos h152] at w5
      exact eXThrow (ln := 2) (names := ["java/lang/Exception"]) F.1 F.2.1 F.2.2.2.2.2.2.2.2.1 hown w2 (by decide +kernel) (by decide +kernel) (ix := 13) (bytes := prog_37_method_4_code) (by decide +kernel) (by decide +kernel) (by decide +kernel) (by decide +kernel) (F.2.2.2.2.1 _ w3) (F.2.2.2.2.1 _ w4) hsa (fun w hw => by
        rcases (w5 w hw).1 with h1 | h1 | ⟨y, hy, h1⟩
        · exact F.2.2.2.2.1 _ h1
        · rw [h1]; exact e_cast_self hc9
        · rw [h1]
          obtain ⟨g1, b9, m9, r9, g2⟩ := eDcs_ok y hy
          exact e_declares (F.2.2.2.2.1 _ g1) (F.2.2.2.2.1 _ g2)) (fun w hw => (List.mem_cons.mp hw).elim (fun h1 => by rw [h1]; exact hgd _ w3) (fun h1 => (List.mem_cons.mp h1).elim (fun h2 => by rw [h2]; exact hgd _ w4) (fun h2 => (w5 w h2).2))) F.2.2.2.2.2.2.2.2.2.2.1.1 F.2.2.2.2.2.2.2.2.2.2.1.2.1 hS (by rw [F.2.2.1]; exact hl.1) hd0 hd3 (Or.inl ⟨hd4, rfl⟩) hd6 hd9 hout (by show 5 < _; omega) hsum hk hz hlocks (fun t a b c => hxx t a b c w1) hS.2.2 (Nat.le_refl _) (Nat.le_refl _)
    · rw [if_neg h152] at w5
      exact vx_throwS (names := eNms) F.1 F.2.1 F.2.2.2.2.2.2.2.2.1 hown w2 (by decide +kernel) (F.2.2.2.2.1 _ w3) (F.2.2.2.2.1 _ w4) hsa (fun w hw => by
        rcases (w5 w hw).1 with h1 | h1 | ⟨y, hy, h1⟩
        · exact F.2.2.2.2.1 _ h1
        · rw [h1]; exact e_cast_self hc9
        · rw [h1]
          obtain ⟨g1, b9, m9, r9, g2⟩ := eDcs_ok y hy
          exact e_declares (F.2.2.2.2.1 _ g1) (F.2.2.2.2.1 _ g2)) (fun w hw => (List.mem_cons.mp hw).elim (fun h1 => by rw [h1]; exact hgd _ w3) (fun h1 => (List.mem_cons.mp h1).elim (fun h2 => by rw [h2]; exact hgd _ w4) (fun h2 => (w5 w h2).2))) F.2.2.2.2.2.2.2.2.2.2.1.1 F.2.2.2.2.2.2.2.2.2.2.1.2.1 hS (by rw [F.2.2.1]; exact hl.1) hd0 hd3 hd4 hd6 hd9 (hout _) (by show 5 < _; omega) hsum hk hz hlocks (fun t a b c => hxx t a b c w1) hS.2.2 (Nat.le_refl _) (Nat.le_refl _)
  · rename_i is t4 hi4
    simp only [Bool.and_eq_true] at hc4
    obtain ⟨⟨hs1, hs2⟩, hs3⟩ := hc4
    obtain ⟨hd4, -⟩ := F.2.2.2.2.2.2.2.2.2.2.2.2.2.2 _ (eLk_mem hi4)
    split at hs2
    case h_2 => cases hs2
    rename_i t9 hi9
    obtain ⟨hd9, -⟩ := F.2.2.2.2.2.2.2.2.2.2.2.2.2.2 _ (eLk_mem hi9)
    split at hs3
    case h_2 => cases hs3
    rename_i ic t6 hi6
    obtain ⟨hd6, -⟩ := F.2.2.2.2.2.2.2.2.2.2.2.2.2.2 _ (eLk_mem hi6)
    split at hs3
    case h_2 => cases hs3
    rename_i k9 C hic
    simp only [Bool.and_eq_true] at hs3
    have e1 := Nat.eq_of_beq_eq_true hs3.1
    have e2 := of_decide_eq_true hs3.2
    subst e1; subst e2
    obtain ⟨w1, w2, w3, w4, w5, w6⟩ := eIni_ok _ (eLk_mem hic)
    obtain ⟨c9, -, hc9, -⟩ := Cond.instantiable_spec (F.2.2.2.2.1 _ w6)
    obtain ⟨sq, hsq, hsi⟩ := List.any_eq_true.mp hs1
    have hsi := Nat.eq_of_beq_eq_true hsi
    obtain ⟨sa, hsa⟩ := F.2.2.2.2.2.2.2.2.2.2.2.2.1.2.1 sq hsq
    have hs0 : sq.1 = "MonkMarbles" := by
      have h0 : ∀ y ∈ eStrs, y.1 = "MonkMarbles" := by decide +kernel
      exact h0 sq hsq
    rw [hs0, hsi] at hsa
    by_cases h152 : ic = 152
    · rw [if_pos h152] at w5
      exact eXThrow (ln := 3) (names := ["java/lang/Exception"]) F.1 F.2.1 F.2.2.2.2.2.2.2.2.1 hown w2 (by decide +kernel) (by decide +kernel) (ix := 13) (bytes := prog_37_method_4_code) (by decide +kernel) (by decide +kernel) (by decide +kernel) (by decide +kernel) (F.2.2.2.2.1 _ w3) (F.2.2.2.2.1 _ w4) hsa (fun w hw => by
        rcases (w5 w hw).1 with h1 | h1 | ⟨y, hy, h1⟩
        · exact F.2.2.2.2.1 _ h1
        · rw [h1]; exact e_cast_self hc9
        · rw [h1]
          obtain ⟨g1, b9, m9, r9, g2⟩ := eDcs_ok y hy
          exact e_declares (F.2.2.2.2.1 _ g1) (F.2.2.2.2.1 _ g2)) (fun w hw => (List.mem_cons.mp hw).elim (fun h1 => by rw [h1]; exact hgd _ w3) (fun h1 => (List.mem_cons.mp h1).elim (fun h2 => by rw [h2]; exact hgd _ w4) (fun h2 => (w5 w h2).2))) F.2.2.2.2.2.2.2.2.2.2.1.1 F.2.2.2.2.2.2.2.2.2.2.1.2.1 hS (by rw [F.2.2.1]; exact hl.1) hd0 hd3 (Or.inr ⟨hd4, rfl⟩) hd6 hd9 hout (by show 5 < _; omega) hsum hk hz hlocks (fun t a b c => hxx t a b c w1) hS.2.2 (Nat.le_refl _) (Nat.le_refl _)
    · rw [if_neg h152] at w5
      exact vx_throwSW (names := eNms) F.1 F.2.1 F.2.2.2.2.2.2.2.2.1 hown w2 (by decide +kernel) (F.2.2.2.2.1 _ w3) (F.2.2.2.2.1 _ w4) hsa (fun w hw => by
        rcases (w5 w hw).1 with h1 | h1 | ⟨y, hy, h1⟩
        · exact F.2.2.2.2.1 _ h1
        · rw [h1]; exact e_cast_self hc9
        · rw [h1]
          obtain ⟨g1, b9, m9, r9, g2⟩ := eDcs_ok y hy
          exact e_declares (F.2.2.2.2.1 _ g1) (F.2.2.2.2.1 _ g2)) (fun w hw => (List.mem_cons.mp hw).elim (fun h1 => by rw [h1]; exact hgd _ w3) (fun h1 => (List.mem_cons.mp h1).elim (fun h2 => by rw [h2]; exact hgd _ w4) (fun h2 => (w5 w h2).2))) F.2.2.2.2.2.2.2.2.2.2.1.1 F.2.2.2.2.2.2.2.2.2.2.1.2.1 hS (by rw [F.2.2.1]; exact hl.1) hd0 hd3 hd4 hd6 hd9 (hout _) (by show 5 < _; omega) hsum hk hz hlocks (fun t a b c => hxx t a b c w1) hS.2.2 (Nat.le_refl _) (Nat.le_refl _)
  · cases hc4
/-- a stretch of a method, calls by contracts -/
theorem eTo_mono {C : eM → List Value → Nat → eHp → eR → Prop} (hC : ∀ M' a N h q, C M' a N h q → N ≤ q.2.1) : ∀ {n : Nat} {cf c' : eC}, eTo ox C M n cf c' → cf.2.2.2.1 ≤ c'.2.2.2.1 ∧ cf.2.2.2.2.2.1 ≤ c'.2.2.2.2.2.1 ∧ cf.2.2.2.2.2.2 ≤ c'.2.2.2.2.2.2
  | 0, cf, c', h => by cases h; exact ⟨Nat.le_refl _, Nat.le_refl _, Nat.le_refl _⟩
  | n + 1, cf, c', h => by
    simp only [eTo] at h
    split at h
    · rename_i c1 h1
      obtain ⟨a1, a2, a3⟩ := eTo_mono hC h
      have h2 : cf.2.2.2.1 ≤ c1.2.2.2.1 ∧ cf.2.2.2.2.2.1 ≤ c1.2.2.2.2.2.1 ∧ cf.2.2.2.2.2.2 ≤ c1.2.2.2.2.2.2 := by
        unfold eStep at h1
        split at h1
        · exact eDo_mono h1
        · cases h1
      omega
    · rename_i h1
      obtain ⟨q1, c1, hc, hb, h2⟩ := h
      obtain ⟨a1, a2, a3⟩ := eTo_mono hC h2
      have hq := hC _ _ _ _ _ hc
      unfold eBack at hb
      split at hb
      · split at hb
        · split at hb
          · cases hb; simp only at a1 a2 a3; omega
          · cases hb
        · split at hb
          · split at hb
            · cases hb
            · cases hb; simp only at a1 a2 a3; omega
          · cases hb
      · cases hb
    · exact h.elim
theorem eTo_snd {C : eM → List Value → Nat → eHp → eR → Prop} {d : Nat} (F : eFr eStrs p l s m args meth c ox M D cA A bv0) (hT9 : c.exceptionTable.toList = tableOf M.2.2.2.2.2.1) (hox : ∀ j q n f, eOx j = some (q, n, f) → ox j = some (q, n, f)) (hRf : d + 11 ≤ R.frames) (hRl : 40 * d + 340 ≤ R.locals)
    (hC : ∀ M' a N h q, C M' a N h q → N ≤ q.2.1) (hCM : ∀ M' a N h q, C M' a N h q → eMOk M' → eThrB M' = true → eMet eStrs l d M' a N h q) : ∀ {n : Nat} {cf c' : eC}, eTo ox C M n cf c' → N0 ≤ cf.2.2.2.1 → c'.2.2.2.2.2.1 ≤ R.cells → c'.2.2.2.2.2.2 ≤ R.slots → eKW p l e R s m args below meth c Q M D cA A bv0 N0 ad0 c' → eKW p l e R s m args below meth c Q M D cA A bv0 N0 ad0 cf
  | 0, cf, c', h, _, _, _, kk => by cases h; exact kk
  | n + 1, cf, c', h, hN, hk, hz, kk => by
    simp only [eTo] at h
    split at h
    · rename_i c1 h1
      obtain ⟨a1, a2, a3⟩ := eTo_mono hC h
      have h2 : cf.2.2.2.1 ≤ c1.2.2.2.1 := by
        unfold eStep at h1
        split at h1
        · exact (eDo_mono h1).1
        · cases h1
      exact eStep_go F (by omega) (by omega) hN h1 (by omega) (by omega) (eTo_snd F hT9 hox hRf hRl hC hCM h (by omega) hk hz kk)
    · rename_i kd idx M' as lv1 r1 h1
      obtain ⟨q1, c1, hc, hb, h2⟩ := h
      obtain ⟨a1, a2, a3⟩ := eTo_mono hC h2
      have hq := hC _ _ _ _ _ hc
      have hc1 : c1.2.2.2.1 = q1.2.1 ∧ c1.2.2.2.2.2.1 = cf.2.2.2.2.2.1 + q1.2.2.2.1 ∧ c1.2.2.2.2.2.2 = cf.2.2.2.2.2.2 + q1.2.2.2.2 := by
        unfold eBack at hb
        split at hb
        · split at hb
          · split at hb
            · cases hb; exact ⟨rfl, rfl, rfl⟩
            · cases hb
          · split at hb
            · split at hb
              · cases hb
              · cases hb; exact ⟨rfl, rfl, rfl⟩
            · cases hb
        · cases hb
      obtain ⟨pc2, lv2, st2, N2, hh2, k2, z2⟩ := cf
      dsimp only at hc1 hq hN
      exact eStep_call F hT9 hox hRf hRl hN hq (by omega) (by omega) rfl h1 (hCM _ _ _ _ _ hc) hb (eTo_snd F hT9 hox hRf hRl hC hCM h2 (by omega) hk hz kk)
    · exact h.elim
end ES
theorem eEv_mono : ∀ {d : Nat} {M : eM} {a : List Value} {N : Nat} {h : eHp} {q : eR}, eEv d M a N h q → N ≤ q.2.1
  | 0, _, _, _, _, _, h => h.elim
  | d + 1, M, a, N, h, q, hh => by
    obtain ⟨-, n, cf, h1, h2⟩ := hh
    have h3 := (eTo_mono (fun M' a N h q hq => eEv_mono hq) h1).1
    unfold eEnd at h2
    split at h2
    · cases h2; exact h3
    · cases h2; exact h3
    · cases h2
theorem lg_sl_len {f : Value → Value} (hf : ∀ v, (f v).category = v.category) : ∀ vs : List Value, (lg_sl (vs.map f)).length = (lg_sl vs).length
  | [] => rfl
  | v :: vs => by
    have h := lg_sl_len hf vs
    simp only [lg_sl, List.map_cons, List.flatMap_cons, List.length_append] at h ⊢
    rw [h, hf v]
    split <;> rfl
theorem lv_args_map {f : Value → Value} (hf : ∀ v, (f v).category = v.category) : ∀ (vs : List Value) (i : Nat), lv_args i (vs.map f) = (lv_args i vs).map (fun q => (q.1, f q.2))
  | [], i => rfl
  | v :: vs, i => by
    simp only [List.map_cons, lv_args, hf v]
    rw [lv_args_map hf vs]
set_option maxHeartbeats 1000000 in
/-- THE MACHINE IS SOUND: a run is a contract -/
theorem eSound {l : Launch} (htr : l.stackTraces = false) : ∀ (d : Nat) (M : eM) (a : List Value) (N : Nat) (h : eHp) (q : eR), eEv d M a N h q → eMOk M → eThrB M = true → eMet eStrs l d M a N h q
  | 0, _, _, _, _, _, hh, _, _ => hh.elim
  | d + 1, M, a, N, h, q, hh, hM, hB => by
    obtain ⟨hlen, n, cf, h1, h2⟩ := hh
    obtain ⟨mo1, mo2, mo3, mo4⟩ := hM
    intro D cA bv ad sz hbv
    have hlen' : (lg_sl (a.map (eV ad bv))).length ≤ M.2.2.2.1 := by rw [lg_sl_len (eV_cat hbv)]; exact Nat.le_of_ble_eq_true hlen
    have key : ∀ (p : Program) (e : Env) (s : State) (m : MethodId) (args : Array Value) (below : List Frame) (meth : Method) (c : Code) (s₁ : State), BodyLoose p l M.2.1 (headSpec (eCode M :: lw_good) (eRoom (d + 1) q.2.2.2.1 q.2.2.2.2)) M.2.2.1 M.2.2.2.1 M.2.2.2.2.1 e s m args below meth c s₁ → c.maxLocals = M.2.2.2.1 → c.exceptionTable.toList = tableOf M.2.2.2.2.2.1 → va_Pc (a.map (eV ad bv)) (ePc eStrs D cA bv ad N h sz) args s →
        W p l e (eRoom (d + 1) q.2.2.2.1 q.2.2.2.2) s m args below meth c s.heap [] 0 0 (vx_MQ below (eQc D cA bv ad N h sz q) (eXc D cA bv ad N h sz q) args s q.2.2.2.1 q.2.2.2.2 (va_A (eW ad bv cA N h) sz)) (entryFrame m args M.2.2.2.1) := by
      intro p e s m args below meth c s₁ B hml hT9 hv
      obtain ⟨rfl, hsz, hP, hK, hD0, hFx, hOut, hWd⟩ := hv
      subst hsz
      have hts := atoms_spec (ws := eCode M :: lw_good) B.pre
      have hplain : M.2.1.cls = eOwn M.1 := of_decide_eq_true (Bool.and_eq_true _ _ ▸ hB).1
      have hown : s.vm.findClass (eOwn M.1) = some m.cls := by rw [← hplain]; exact findClass_of_methodNamed B.named
      have F : eFr eStrs p l s m (a.map (eV ad bv)).toArray meth c eOx M D cA (va_A (eW ad bv cA N h) s.heap.size) bv :=
        ⟨B.exec, B.bytes, hml, hown, fun w hw => hts w (List.mem_cons_of_mem _ hw), hK, fun i hi => Or.inr hi, B.notSynchronized, htr, fun hi => (name_of_methodNamed B.named B.method).1.trans hi, hFx, hOut, hWd, hbv, mo3⟩
      have hl := lv_entry (a.map (eV ad bv)) (n := M.2.2.2.1) hlen'
      rw [lg_entry_eq]
      generalize (lg_sl (a.map (eV ad bv)) ++ List.replicate (M.2.2.2.1 - (lg_sl (a.map (eV ad bv))).length) Slot.unset).toArray = ls at hl ⊢
      rw [lv_args_map (eV_cat hbv)] at hl
      have hfin : cf.2.2.2.2.2.1 ≤ q.2.2.2.1 ∧ cf.2.2.2.2.2.2 ≤ q.2.2.2.2 ∧ eKW p l e (eRoom (d + 1) q.2.2.2.1 q.2.2.2.2) s m (a.map (eV ad bv)).toArray below meth c (vx_MQ below (eQc D cA bv ad N h s.heap.size q) (eXc D cA bv ad N h s.heap.size q) (a.map (eV ad bv)).toArray s q.2.2.2.1 q.2.2.2.2 (va_A (eW ad bv cA N h) s.heap.size)) M D cA (va_A (eW ad bv cA N h) s.heap.size) bv N ad cf := by
        obtain ⟨pc, lv, st, N1, h1', k, z⟩ := cf
        unfold eEnd at h2
        split at h2
        · rename_i v hs
          cases h2
          exact ⟨Nat.le_refl _, Nat.le_refl _, eEnd_ret F B.returns rfl hs⟩
        · rename_i E hs
          cases h2
          exact ⟨Nat.le_succ _, Nat.le_add_right _ _, eEnd_thr F hT9 hB rfl (by show 8 ≤ d + 1 + 10; omega) (by show 200 ≤ 40 * (d + 1) + 300; omega) (Nat.le_refl _) (Nat.le_refl _) hs⟩
        · cases h2
      obtain ⟨f1, f2, f3⟩ := hfin
      have hK0 := eTo_snd (d := d) (N0 := N) (ad0 := ad) (R := eRoom (d + 1) q.2.2.2.1 q.2.2.2.2) F hT9 (fun _ _ _ _ hj => hj) (by show d + 11 ≤ d + 1 + 10; omega) (by show 40 * d + 340 ≤ 40 * (d + 1) + 300; omega) (fun M' a N h q hq => eEv_mono hq) (fun M' a N h q hq => eSound htr d M' a N h q hq) h1 (Nat.le_refl _) f1 f2 f3
      exact hK0 ad bv s.heap [] ls (fun _ _ => rfl) hbv (fun _ _ => rfl) (fun _ => rfl) hP hD0.self va_S.rf hl
    cases hh : M.2.2.2.2.2.1 with
    | nil =>
      rw [eCall_code hh]
      refine vx_ofW mo2 rfl ?_
      intro p e s m args below meth c s₁ B hml hex hv
      rw [← eCall_code hh] at B
      exact key p e s m args below meth c s₁ B hml (by rw [hh]; exact List.eq_nil_iff_forall_not_mem.mpr hex) hv
    | cons h0 ht =>
      have e8 : eCode M = Cond.codeWith M.2.1 M.2.2.1 M.2.2.2.1 M.2.2.2.2.1 (h0 :: ht) := by unfold eCode; rw [hh]
      rw [e8]
      refine vx_ofWH mo2 rfl ?_
      intro p e s m args below meth c s₁ B hml hv
      have hts := atoms_spec (ws := Cond.codeWith M.2.1 M.2.2.1 M.2.2.2.1 M.2.2.2.2.1 (h0 :: ht) :: lw_good) B.pre
      have hT9 := vx_table (x := M.2.1) B (hts _ List.mem_cons_self)
      rw [← e8] at B
      exact key p e s m args below meth c s₁ B hml (by rw [hh]; exact hT9) hv
