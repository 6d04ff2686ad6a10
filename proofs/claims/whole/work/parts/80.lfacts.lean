/-! what the Statement gives of the law's start -/
def lwF : List Cond := flatC (Jvm.Cond.and given_1 narrow_1)
section LF
variable {s : State} {b : Nat}
theorem lwF_of {w : Cond} (hgv : (Jvm.Cond.and given_1 narrow_1).before #[Value.ref b] s = true) (i : Nat) (h : lwF[i]? = some w) : w.before #[Value.ref b] s = true := flat_of_before _ hgv w (List.mem_of_getElem? h)
theorem lwT_of {w : Cond} (hts : ∀ w ∈ lw_tbl, w.before #[Value.ref b] s = true) (i : Nat) (h : lw_tbl[i]? = some w) : w.before #[Value.ref b] s = true := hts w (List.mem_of_getElem? h)
/-- a private method of a superclass is what a call of it on the subclass selects -/
theorem sel_priv {C : String} {y y2 : MethodName} {args : Array Value} (hc2 : y2.cls = y.cls) (hy : y.cls ≠ "java/lang/invoke/MethodHandle" ∧ y.cls ≠ "java/lang/invoke/VarHandle")
    (hsib : (Cond.selects C y2 y2).before args s = true) (hpriv : (Cond.privateMethod y).before args s = true) (hinst : (Cond.instanceMethod y).before args s = true) : (Cond.selects C y y).before args s = true := by
  obtain ⟨mk, methM, hnamed, hmethM, -, -⟩ := Cond.instanceMethod_spec hinst
  have hfound : s.methodFound? y.cls y.name y.desc = some mk := State.methodFound?_of_named hnamed hy
  have hcls := findClass_of_methodNamed hnamed
  cases hc : s.vm.findClass C with
  | none =>
    simp only [Cond.before, Cond.holds, Cond.value, hc] at hsib
    simp at hsib
  | some c =>
    cases hn2 : s.methodNamed? y2 with
    | none =>
      simp only [Cond.before, Cond.holds, Cond.value, hc, hn2] at hsib
      cases hf2 : s.methodFound? y2.cls y2.name y2.desc <;> simp [hf2] at hsib
    | some m2 =>
      have hcls2 := findClass_of_methodNamed hn2
      rw [hc2, hcls] at hcls2
      have e2 : mk.cls = m2.cls := Option.some.inj hcls2
      have hk : (s.vm.classes[mk.cls]?).any (fun k => !k.isInterface) = true := by
        rw [e2]
        simp only [Cond.before, Cond.holds, Cond.value, hc, hn2] at hsib
        cases hf2 : s.methodFound? y2.cls y2.name y2.desc with
        | none => simp [hf2] at hsib
        | some r2 =>
          simp only [hf2] at hsib
          cases hsel2 : selectMethod {} s.vm c r2 <;> simp [hsel2] at hsib
          simpa using hsib.2
      have hsel : selectMethod {} s.vm c mk = .method mk := selectMethod_private hmethM (Cond.privateMethod_at hpriv mk methM hnamed hmethM)
      simp only [Cond.before, Cond.holds, Cond.value, hc, hfound, hnamed, hsel]
      simpa using hk
theorem lw_good_of (hts : ∀ w ∈ lw_tbl, w.before #[Value.ref b] s = true) : ∀ w ∈ lw_good, w.before #[Value.ref b] s = true := by
  intro w hw
  have hm := (List.mem_filter.mp hw).1
  rcases List.mem_append.mp hm with h | h
  · exact hts w h
  · have hsib := lwT_of hts (w := .selects "java/lang/StringBuilder" yJ5_isLatin1_aae02 yJ5_isLatin1_aae02) 486 (by decide +kernel)
    rcases List.mem_cons.mp h with e | h
    · subst e
      exact sel_priv (y := yJ5_ensureCapacityInternal_d00df) (by decide +kernel) (by decide +kernel) hsib (lwT_of hts 449 (by decide +kernel)) (lwT_of hts 450 (by decide +kernel))
    · rcases List.mem_cons.mp h with e | h
      · subst e
        exact sel_priv (y := yJ5_newCapacity_0f7a4) (by decide +kernel) (by decide +kernel) hsib (lwT_of hts 453 (by decide +kernel)) (lwT_of hts 454 (by decide +kernel))
      · exact absurd h List.not_mem_nil
/-- the rows of numbers -/
theorem arr_of {ty : FieldType} {args : Array Value} (hp : ∀ n, ty ≠ .object n) (h : (Cond.arrayClass ty).before args s = true) : ∃ cA : ClassId, ArrOfT s cA ty ∧ va_RA s cA ty := by
  obtain ⟨cA, kA, comp, h1, h2, h3⟩ := Cond.arrayClass_spec h
  refine ⟨cA, fun n z => ⟨fun k h => (by cases h), kA, h2, comp, h3⟩, ?_⟩
  cases ty with
  | object n => exact absurd rfl (hp n)
  | _ => exact h1
theorem arr_ofO {C : String} {args : Array Value} (h : (Cond.arrayOver (.object C)).before args s = true) : ∃ cA : ClassId, ArrOfT s cA (.object C) ∧ va_RA s cA (.object C) := by
  obtain ⟨comp, cA, kA, f1, f4, f2, f3, f5⟩ := Cond.arrayOver_spec h
  exact ⟨cA, fun n z => ⟨fun k h => (by cases h), kA, f2, comp, f3⟩, kA, comp, f2, f3, f1, f5⟩
theorem lw_tys (hts : ∀ w ∈ lw_tbl, w.before #[Value.ref b] s = true) : ∃ cA : Nat → ClassId, ∀ (k : Nat) (q : ClassId × FieldType), (eTys cA)[k]? = some q → ArrOfT s q.1 q.2 ∧ va_RA s q.1 q.2 := by
  obtain ⟨a0, h0⟩ := arr_of (ty := .int) (fun _ h => by cases h) (lwT_of hts 144 (by decide +kernel))
  obtain ⟨a1, h1⟩ := arr_of (ty := .char) (fun _ h => by cases h) (lwT_of hts 245 (by decide +kernel))
  obtain ⟨a2, h2⟩ := arr_of (ty := .boolean) (fun _ h => by cases h) (lwT_of hts 186 (by decide +kernel))
  obtain ⟨a3, h3⟩ := arr_of (ty := .byte) (fun _ h => by cases h) (lwT_of hts 278 (by decide +kernel))
  obtain ⟨a4, h4⟩ := arr_of (ty := .long) (fun _ h => by cases h) (lwT_of hts 203 (by decide +kernel))
  obtain ⟨a5, h5⟩ := arr_ofO (C := "MonkMarbles$Garden") (lwT_of hts 152 (by decide +kernel))
  obtain ⟨a6, h6⟩ := arr_of (ty := .double) (fun _ h => by cases h) (lwT_of hts 1781 (by decide +kernel))
  refine ⟨fun k => if k = 0 then a0 else if k = 1 then a1 else if k = 2 then a2 else if k = 3 then a3 else if k = 4 then a4 else if k = 5 then a5 else a6, ?_⟩
  intro k q hq
  match k, hq with
  | 0, hq => cases hq; exact h0
  | 1, hq => cases hq; exact h1
  | 2, hq => cases hq; exact h2
  | 3, hq => cases hq; exact h3
  | 4, hq => cases hq; exact h4
  | 5, hq => cases hq; exact h5
  | 6, hq => cases hq; exact h6
  | k + 7, hq => simp [eTys] at hq
theorem lwC_0 : ∀ w ∈ u_ws RJ0 TJ0 4, w ∈ lw_tbl := by
  have h : (u_ws RJ0 TJ0 4).all (fun w => decide (w ∈ lw_tbl)) = true := by decide +kernel
  exact fun w hw => of_decide_eq_true (List.all_eq_true.mp h w hw)
theorem lwC_1 : ∀ w ∈ u_ws RJ4 TJ4 4, w ∈ lw_tbl := by
  have h : (u_ws RJ4 TJ4 4).all (fun w => decide (w ∈ lw_tbl)) = true := by decide +kernel
  exact fun w hw => of_decide_eq_true (List.all_eq_true.mp h w hw)
theorem lwC_2 : ∀ w ∈ u_ws RJx00060 TJx00060 6, w ∈ lw_tbl := by
  have h : (u_ws RJx00060 TJx00060 6).all (fun w => decide (w ∈ lw_tbl)) = true := by decide +kernel
  exact fun w hw => of_decide_eq_true (List.all_eq_true.mp h w hw)
theorem lwC_3 : ∀ w ∈ u_ws RJx7c733 TJx7c733 6, w ∈ lw_tbl := by
  have h : (u_ws RJx7c733 TJx7c733 6).all (fun w => decide (w ∈ lw_tbl)) = true := by decide +kernel
  exact fun w hw => of_decide_eq_true (List.all_eq_true.mp h w hw)
theorem lwC_4 : ∀ w ∈ u_ws RX0 TX0 8, w ∈ lw_tbl := by
  have h : (u_ws RX0 TX0 8).all (fun w => decide (w ∈ lw_tbl)) = true := by decide +kernel
  exact fun w hw => of_decide_eq_true (List.all_eq_true.mp h w hw)
theorem lwC_5 : ∀ w ∈ u_ws RX1 TX1 3, w ∈ lw_tbl := by
  have h : (u_ws RX1 TX1 3).all (fun w => decide (w ∈ lw_tbl)) = true := by decide +kernel
  exact fun w hw => of_decide_eq_true (List.all_eq_true.mp h w hw)
theorem lwC_6 : ∀ w ∈ u_ws RX2 TX2 3, w ∈ lw_tbl := by
  have h : (u_ws RX2 TX2 3).all (fun w => decide (w ∈ lw_tbl)) = true := by decide +kernel
  exact fun w hw => of_decide_eq_true (List.all_eq_true.mp h w hw)
theorem lwC_7 : ∀ w ∈ u_ws RX3 TX3 6, w ∈ lw_tbl := by
  have h : (u_ws RX3 TX3 6).all (fun w => decide (w ∈ lw_tbl)) = true := by decide +kernel
  exact fun w hw => of_decide_eq_true (List.all_eq_true.mp h w hw)
theorem lwC_8 : ∀ w ∈ u_ws RX4 TX4 3, w ∈ lw_tbl := by
  have h : (u_ws RX4 TX4 3).all (fun w => decide (w ∈ lw_tbl)) = true := by decide +kernel
  exact fun w hw => of_decide_eq_true (List.all_eq_true.mp h w hw)
theorem lwC_9 : ∀ w ∈ u_ws RX5 TX5 5, w ∈ lw_tbl := by
  have h : (u_ws RX5 TX5 5).all (fun w => decide (w ∈ lw_tbl)) = true := by decide +kernel
  exact fun w hw => of_decide_eq_true (List.all_eq_true.mp h w hw)
theorem lwC_10 : ∀ w ∈ u_ws RX6 TX6 13, w ∈ lw_tbl := by
  have h : (u_ws RX6 TX6 13).all (fun w => decide (w ∈ lw_tbl)) = true := by decide +kernel
  exact fun w hw => of_decide_eq_true (List.all_eq_true.mp h w hw)
theorem lwC_11 : ∀ w ∈ u_ws RX7 TX7 23, w ∈ lw_tbl := by
  have h : (u_ws RX7 TX7 23).all (fun w => decide (w ∈ lw_tbl)) = true := by decide +kernel
  exact fun w hw => of_decide_eq_true (List.all_eq_true.mp h w hw)
theorem lw_cls (hts : ∀ w ∈ lw_tbl, w.before #[Value.ref b] s = true) : ∃ (dC : Nat → ClassId) (dI : Nat → Nat → Nat), ∀ (k : Nat) (q : vw_C), vwCl[k]? = some q → u_Kn s q.1 q.2.1 q.2.2 (dC k) (dI k) := by
  obtain ⟨k0, i0, n0⟩ := u_known (C := RJ0) (T := TJ0) (N := 4) (n := 4) hts lwC_0 (lwT_of hts 587 (by decide +kernel))
  obtain ⟨k1, i1, n1⟩ := u_known (C := RJ4) (T := TJ4) (N := 4) (n := 4) hts lwC_1 (lwT_of hts 247 (by decide +kernel))
  obtain ⟨k2, i2, n2⟩ := u_known (C := RJx00060) (T := TJx00060) (N := 6) (n := 6) hts lwC_2 (lwT_of hts 743 (by decide +kernel))
  obtain ⟨k3, i3, n3⟩ := u_known (C := RJx7c733) (T := TJx7c733) (N := 6) (n := 6) hts lwC_3 (lwT_of hts 430 (by decide +kernel))
  obtain ⟨k4, i4, n4⟩ := u_known (C := RX0) (T := TX0) (N := 8) (n := 8) hts lwC_4 (lwT_of hts 114 (by decide +kernel))
  obtain ⟨k5, i5, n5⟩ := u_known (C := RX1) (T := TX1) (N := 3) (n := 3) hts lwC_5 (lwT_of hts 146 (by decide +kernel))
  obtain ⟨k6, i6, n6⟩ := u_known (C := RX2) (T := TX2) (N := 3) (n := 3) hts lwC_6 (lwT_of hts 205 (by decide +kernel))
  obtain ⟨k7, i7, n7⟩ := u_known (C := RX3) (T := TX3) (N := 6) (n := 6) hts lwC_7 (lwT_of hts 221 (by decide +kernel))
  obtain ⟨k8, i8, n8⟩ := u_known (C := RX4) (T := TX4) (N := 3) (n := 3) hts lwC_8 (lwT_of hts 188 (by decide +kernel))
  obtain ⟨k9, i9, n9⟩ := u_known (C := RX5) (T := TX5) (N := 5) (n := 5) hts lwC_9 (lwT_of hts 165 (by decide +kernel))
  obtain ⟨k10, i10, n10⟩ := u_known (C := RX6) (T := TX6) (N := 13) (n := 13) hts lwC_10 (lwT_of hts 106 (by decide +kernel))
  obtain ⟨k11, i11, n11⟩ := u_known (C := RX7) (T := TX7) (N := 23) (n := 23) hts lwC_11 (lwT_of hts 1429 (by decide +kernel))
  refine ⟨fun k => if k = 0 then k0 else if k = 1 then k1 else if k = 2 then k2 else if k = 3 then k3 else if k = 4 then k4 else if k = 5 then k5 else if k = 6 then k6 else if k = 7 then k7 else if k = 8 then k8 else if k = 9 then k9 else if k = 10 then k10 else k11, fun k => if k = 0 then i0 else if k = 1 then i1 else if k = 2 then i2 else if k = 3 then i3 else if k = 4 then i4 else if k = 5 then i5 else if k = 6 then i6 else if k = 7 then i7 else if k = 8 then i8 else if k = 9 then i9 else if k = 10 then i10 else i11, ?_⟩
  intro k q hq
  match k, hq with
  | 0, hq => cases hq; exact n0
  | 1, hq => cases hq; exact n1
  | 2, hq => cases hq; exact n2
  | 3, hq => cases hq; exact n3
  | 4, hq => cases hq; exact n4
  | 5, hq => cases hq; exact n5
  | 6, hq => cases hq; exact n6
  | 7, hq => cases hq; exact n7
  | 8, hq => cases hq; exact n8
  | 9, hq => cases hq; exact n9
  | 10, hq => cases hq; exact n10
  | 11, hq => cases hq; exact n11
  | k + 12, hq => simp [vwCl] at hq
end LF
