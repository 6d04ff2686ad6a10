/-! the law's frame -/
def lOx (L : Nat) (xs : Nat → Int32) : Nat → Option (Nat × Nat × (Nat → Int32)) := fun j => match j with
  | 0 => some (0, L, xs)
  | j + 1 => eOx (j + 1)
theorem lOx_e {L : Nat} {xs : Nat → Int32} (j q n : Nat) (f : Nat → Int32) (h : eOx j = some (q, n, f)) : lOx L xs j = some (q, n, f) := by
  cases j with
  | zero => cases h
  | succ j => exact h
theorem lw_ones : (lwF.drop 12).take 100 = (List.range 100).map (fun j => Cond.eq (.elem (.static "java/lang/Integer" "DigitOnes" "[B") (.int (Int32.ofNat j))) (.int (Int32.ofNat (48 + j % 10)))) := by decide +kernel
theorem lw_tens : (lwF.drop 115).take 100 = (List.range 100).map (fun j => Cond.eq (.elem (.static "java/lang/Integer" "DigitTens" "[B") (.int (Int32.ofNat j))) (.int (Int32.ofNat (48 + j / 10)))) := by decide +kernel
theorem lw_mem {f : Nat → Cond} {a n : Nat} (h : (lwF.drop a).take n = (List.range n).map f) {j : Nat} (hj : j < n) : f j ∈ lwF := by
  have h1 : f j ∈ (lwF.drop a).take n := by
    rw [h]
    exact List.mem_map.mpr ⟨j, List.mem_range.mpr hj, rfl⟩
  exact List.mem_of_mem_drop (List.mem_of_mem_take h1)
theorem lw_nests : ∀ q ∈ eNests, Cond.methodLinkNest q.1 q.2.1 q.2.2.1 q.2.2.2 ∈ lw_tbl := by decide +kernel
theorem lw_casts : ∀ x ∈ eExs, ∀ y ∈ eExs, x ≠ y → Cond.not (.castable x y) ∈ lwF := by decide +kernel
theorem lw_strs : ∀ q ∈ eStrs, Cond.stringRef q.1 q.2.1 q.2.2 ∈ lw_tbl ∧ Cond.exactly (.string q.1 q.2.1) "java/lang/String" ∈ lwF := by decide +kernel
section LW
variable {s : State} {b : Nat}
theorem lw_wd (hts : ∀ w ∈ lw_tbl, w.before #[Value.ref b] s = true) (hgv : (Jvm.Cond.and given_1 narrow_1).before #[Value.ref b] s = true) : eWd eStrs s := by
  refine ⟨fun q hq => va_Nw.of rfl (hts _ (lw_nests q hq)), fun q hq => ?_, fun x hx y hy hne => va_Nc.of (flat_of_before _ hgv _ (lw_casts x hx y hy hne)), va_AO.of (lwT_of hts 152 (by decide +kernel))⟩
  obtain ⟨h1, h2⟩ := lw_strs q hq
  obtain ⟨a, c, cell, k, h3, -⟩ := Cond.exactly_spec (flat_of_before _ hgv _ h2)
  exact ⟨a, vk_R.of (hts _ h1) h3⟩
theorem lw_eFr {p : Program} {l : Launch} (hfl : l.flags = flags0) {m : MethodId} {meth : Method} {c : Code} {L : Nat} {xs : Nat → Int32} (hx : p.tables.exec = Jvm.exec) (hb : c.code = code) (hml : c.maxLocals = 9) (hown : s.vm.findClass "MonkMarblesLaw" = some m.cls) (hts : ∀ w ∈ lw_tbl, w.before #[Value.ref b] s = true) (hX : va_X b L xs s s.heap) (hbl : b < s.heap.size) (hlocks : meth.locks = false) (hgv : (Jvm.Cond.and given_1 narrow_1).before #[Value.ref b] s = true) :
    ∃ (D : va_G) (cA : Nat → ClassId) (bv : Nat → Value), bv 0 = .ref b ∧ eFr eStrs p l s m #[Value.ref b] meth c (lOx L xs) eM_L_law D cA (fun q => s.heap.size ≤ q) bv := by
  have hA : ∀ a : Nat, a < s.heap.size → ¬ (fun q : Nat => s.heap.size ≤ q) a := fun a h h2 => absurd h (Nat.not_lt.mpr h2)
  obtain ⟨dC, dI, hC⟩ := lw_cls hts
  obtain ⟨cA, hT⟩ := lw_tys hts
  obtain ⟨t1, e1, w1⟩ := va_Tof (args := #[Value.ref b]) (s := s) (tm := .static "java/lang/Integer" "DigitOnes" "[B") (ty := .byte) (N := 100) (f := fun i => .int (Int32.ofNat (48 + i % 10))) (A := fun q => s.heap.size ≤ q) (by decide) (lwF_of hgv 10 (by decide +kernel)) (Cond.eq_int (n := 100) (b := .int 100) (lwF_of hgv 11 (by decide +kernel)) rfl) (fun j hj => Cond.eq_int (b := .int (Int32.ofNat (48 + j % 10))) (flat_of_before _ hgv _ (lw_mem lw_ones hj)) rfl) hA
  obtain ⟨t2, e2, w2⟩ := va_Tof (args := #[Value.ref b]) (s := s) (tm := .static "java/lang/Integer" "DigitTens" "[B") (ty := .byte) (N := 100) (f := fun i => .int (Int32.ofNat (48 + i / 10))) (A := fun q => s.heap.size ≤ q) (by decide) (lwF_of hgv 113 (by decide +kernel)) (Cond.eq_int (n := 100) (b := .int 100) (lwF_of hgv 114 (by decide +kernel)) rfl) (fun j hj => Cond.eq_int (b := .int (Int32.ofNat (48 + j / 10))) (flat_of_before _ hgv _ (lw_mem lw_tens hj)) rfl) hA
  obtain ⟨v3, e3, r3⟩ := Cond.isRef_spec (lwF_of hgv (w := .isRef (.static "jdk/internal/util/Preconditions" "SIOOBE_FORMATTER" "Ljava/util/function/BiFunction;")) 5 (by decide +kernel))
  have hv3 : v3 = .null ∨ ∃ a, v3 = .ref a := by
    revert r3
    cases v3 <;> intro r3 <;> first | exact Or.inl rfl | exact Or.inr ⟨_, rfl⟩ | cases r3
  have hini := lwT_of hts (w := .initialized "java/lang/Integer") 86 (by decide +kernel)
  have hthr := lwT_of hts (w := .initialized "java/lang/Throwable") 89 (by decide +kernel)
  refine ⟨(dC, dI), cA, fun j => if j = 0 then .ref b else if j = 1 then .ref t1 else if j = 2 then .ref t2 else if j = 3 then v3 else .null, rfl, hx, hb, hml, hown, lw_good_of hts, ⟨hC, hT⟩, fun _ h => h, hlocks, ?_, fun h => absurd h (by decide), ?_, ?_, lw_wd hts hgv, ?_, eRows_L_law⟩
  · unfold Launch.stackTraces
    rw [hfl]
    decide +kernel
  · refine ⟨vx_Zqof (lwT_of hts 645 (by decide +kernel)) hthr (lwF_of hgv 215 (by decide +kernel)) hA, vx_Zqof (lwT_of hts 647 (by decide +kernel)) hthr (lwF_of hgv 216 (by decide +kernel)) hA, va_Zof (lwT_of hts 256 (by decide +kernel)) (lwT_of hts 83 (by decide +kernel)) (va_eqi (lwF_of hgv 4 (by decide +kernel))) hA, va_Zof (lwT_of hts 571 (by decide +kernel)) hini e1 hA, va_Zof (lwT_of hts 573 (by decide +kernel)) hini e2 hA, va_Zof (lwT_of hts 501 (by decide +kernel)) (lwT_of hts 102 (by decide +kernel)) e3 hA⟩
  · intro j q n f hj
    match j, hj with
    | 0, hj =>
      cases hj
      obtain ⟨scr, h1, h2, h3, h4, h5⟩ := hX
      exact ⟨by decide, b, rfl, ⟨scr, h1, h2, h3, by rw [h4]; exact Nat.le_refl _, by rw [h4], h5, hA b hbl⟩, Or.inl rfl⟩
    | 1, hj => cases hj; exact ⟨by decide, t1, rfl, w1, Or.inr rfl⟩
    | 2, hj => cases hj; exact ⟨by decide, t2, rfl, w2, Or.inr rfl⟩
    | j + 3, hj => cases hj
  · intro j
    show (if j = 0 then Value.ref b else if j = 1 then .ref t1 else if j = 2 then .ref t2 else if j = 3 then v3 else .null) = .null ∨ ∃ a, (if j = 0 then Value.ref b else if j = 1 then .ref t1 else if j = 2 then .ref t2 else if j = 3 then v3 else .null) = .ref a
    by_cases h0 : j = 0
    · rw [if_pos h0]; exact Or.inr ⟨_, rfl⟩
    · rw [if_neg h0]
      by_cases h1 : j = 1
      · rw [if_pos h1]; exact Or.inr ⟨_, rfl⟩
      · rw [if_neg h1]
        by_cases h2 : j = 2
        · rw [if_pos h2]; exact Or.inr ⟨_, rfl⟩
        · rw [if_neg h2]
          by_cases h3 : j = 3
          · rw [if_pos h3]; exact hv3
          · rw [if_neg h3]; exact Or.inl rfl
end LW
