/-! THROWS (by wip/whole/gen_thr.py) -/
/-- the texts of the exceptions -/
def eStrs : List (String × Nat × String) := [("MonkMarbles", 88, "a pit has 1 to 30 marbles"), ("MonkMarbles", 95, "the pits would have too many marbles"), ("MonkMarbles", 109, "no such number to take, or no such digit"), ("MonkMarbles", 111, "the digit is so already"), ("MonkMarbles", 120, "no such number to take"), ("MonkMarbles", 127, "no such pit"), ("MonkMarbles", 143, "no such number of a pit"), ("MonkMarbles", 150, "no such place"), ("MonkMarbles", 157, "no such scoop"), ("MonkMarbles", 159, "the scoop may not be made"), ("MonkMarbles", 165, "no scoop is told"), ("MonkMarbles", 177, "no such part of a scoop"), ("MonkMarbles", 190, "too many marbles for trying"), ("MonkMarbles", 200, "the game is not over"), ("MonkMarbles", 211, "no such monk"), ("MonkMarbles", 213, "no such number of a monk"), ("MonkMarbles", 221, "the marbles are not from 0 to 30"), ("MonkMarbles", 236, "the beginning is not from 0 to 29"), ("MonkMarbles", 241, "no period"), ("MonkMarbles", 243, "no number of marbles has the value"), ("MonkMarbles", 259, "no such index in the line"), ("MonkMarbles", 268, "the input is full"), ("MonkMarbles", 281, "the text has an error"), ("MonkMarbles", 286, "an order is refused"), ("MonkMarbles", 288, "an order cannot be carried out"), ("MonkMarbles", 293, "nothing was refused"), ("MonkMarbles", 316, "no such account"), ("MonkMarbles", 332, "there are no pits"), ("MonkMarbles", 335, "there were no scoops"), ("MonkMarbles", 337, "no change can be undone"), ("MonkMarbles", 346, "there is no snapshot")]
/-- the constructors of the exceptions -/
def eIniL : List (Nat × Nat × String) := [(90, 86, "java/lang/IllegalArgumentException"), (97, 93, "java/lang/UnsupportedOperationException"), (129, 125, "java/lang/IndexOutOfBoundsException"), (152, 148, "java/util/NoSuchElementException"), (192, 188, "java/lang/IllegalStateException"), (334, 330, "java/lang/ArithmeticException")]
/-- a throw is written as javac writes it -/
def eThrC (M : eM) (pc ik : Nat) (E : String) : Bool :=
  (match M.2.2.2.2.2.1 with | [] => true | _ => false) && Nat.beq M.1 6 &&
  (match eLk (pc + 3) M.2.2.2.2.2.2 with | some (.dup, _) => true | _ => false) &&
  (match eLk (pc + 4) M.2.2.2.2.2.2 with
    | some (.ldc is, _) => eStrs.any (fun q => Nat.beq q.2.1 is) && (match eLk (pc + 9) M.2.2.2.2.2.2 with | some (.athrow, _) => true | _ => false) && (match eLk (pc + 6) M.2.2.2.2.2.2 with | some (.invokespecial ic, _) => (match eLk ic eIniL with | some (k, C) => Nat.beq k ik && decide (C = E) | none => false) | _ => false)
    | some (.ldc_w is, _) => eStrs.any (fun q => Nat.beq q.2.1 is) && (match eLk (pc + 10) M.2.2.2.2.2.2 with | some (.athrow, _) => true | _ => false) && (match eLk (pc + 7) M.2.2.2.2.2.2 with | some (.invokespecial ic, _) => (match eLk ic eIniL with | some (k, C) => Nat.beq k ik && decide (C = E) | none => false) | _ => false)
    | _ => false)
def eThrB (M : eM) : Bool := decide (M.2.1.cls = eOwn M.1) && M.2.2.2.2.2.2.all (fun q => match q.2.1 with | .new ik => (match eLk ik (eExcL M.1) with | some E => eThrC M q.1 ik E | none => true) | _ => true)
set_option maxRecDepth 100000 in
theorem eThrT : (List.range 18).all (fun o => (eMthL o).all (fun q => eThrB q.2.2.2.2)) = true := by decide +kernel
theorem eThr_of {o idx kd cc na : Nat} {M : eM} (h : eMth o idx = some (kd, cc, na, M)) : eThrB M = true := by
  have hm := eLk_mem h
  by_cases ho : o < 18
  · exact List.all_eq_true.mp (List.all_eq_true.mp eThrT o (List.mem_range.mpr ho)) _ hm
  · obtain ⟨o', rfl⟩ : ∃ o', o = o' + 18 := ⟨o - 18, by omega⟩
    exact absurd hm List.not_mem_nil
def eNms : List String := ["java/lang/RuntimeException", "java/lang/Exception"]
def eDcs : List MethodName := [⟨"java/lang/RuntimeException", "<init>", "(Ljava/lang/String;)V"⟩, ⟨"java/lang/Exception", "<init>", "(Ljava/lang/String;)V"⟩, ⟨"java/lang/Throwable", "<init>", "(Ljava/lang/String;)V"⟩]
theorem e_declares {args : Array Value} {s : State} {x : MethodName} {bytes : ByteArray} {maxL : Nat} {ret : Option FieldType} (h1 : (Cond.instanceMethod x).before args s = true) (h2 : (Cond.code x bytes maxL ret).before args s = true) : (Cond.declares x).before args s = true := by
  obtain ⟨mk, meth, hn, hm, hst, -⟩ := Cond.instanceMethod_spec h1
  obtain ⟨meth2, c2, hm2, -, -, -, -, -, -, hsig⟩ := Cond.code_spec hn h2
  cases hm.symm.trans hm2
  simp [Cond.before, Cond.holds, Cond.value, hn, hm, hst, hsig]
theorem eAt_90 : ∀ w ∈ vx_atS "MonkMarbles" 90 "java/lang/IllegalArgumentException" eNms, (w ∈ lw_good ∨ w = Cond.castable "java/lang/IllegalArgumentException" "java/lang/IllegalArgumentException" ∨ ∃ x ∈ eDcs, w = Cond.declares x) ∧ vx_ot w = true := by
  have h : (vx_atS "MonkMarbles" 90 "java/lang/IllegalArgumentException" eNms).all (fun w => (decide (w ∈ lw_tbl) && goodWord w || decide (w = Cond.castable "java/lang/IllegalArgumentException" "java/lang/IllegalArgumentException") || eDcs.any (fun x => decide (w = Cond.declares x))) && vx_ot w) = true := by decide +kernel
  intro w hw
  have h1 := List.all_eq_true.mp h w hw
  simp only [Bool.and_eq_true, Bool.or_eq_true, decide_eq_true_eq] at h1
  refine ⟨?_, h1.2⟩
  rcases h1.1 with (h2 | h2) | h2
  · exact Or.inl (List.mem_filter.mpr ⟨List.mem_append_left _ h2.1, h2.2⟩)
  · exact Or.inr (Or.inl h2)
  · obtain ⟨x, hx, h3⟩ := List.any_eq_true.mp h2
    exact Or.inr (Or.inr ⟨x, hx, of_decide_eq_true h3⟩)
theorem eAt_97 : ∀ w ∈ vx_atS "MonkMarbles" 97 "java/lang/UnsupportedOperationException" eNms, (w ∈ lw_good ∨ w = Cond.castable "java/lang/UnsupportedOperationException" "java/lang/UnsupportedOperationException" ∨ ∃ x ∈ eDcs, w = Cond.declares x) ∧ vx_ot w = true := by
  have h : (vx_atS "MonkMarbles" 97 "java/lang/UnsupportedOperationException" eNms).all (fun w => (decide (w ∈ lw_tbl) && goodWord w || decide (w = Cond.castable "java/lang/UnsupportedOperationException" "java/lang/UnsupportedOperationException") || eDcs.any (fun x => decide (w = Cond.declares x))) && vx_ot w) = true := by decide +kernel
  intro w hw
  have h1 := List.all_eq_true.mp h w hw
  simp only [Bool.and_eq_true, Bool.or_eq_true, decide_eq_true_eq] at h1
  refine ⟨?_, h1.2⟩
  rcases h1.1 with (h2 | h2) | h2
  · exact Or.inl (List.mem_filter.mpr ⟨List.mem_append_left _ h2.1, h2.2⟩)
  · exact Or.inr (Or.inl h2)
  · obtain ⟨x, hx, h3⟩ := List.any_eq_true.mp h2
    exact Or.inr (Or.inr ⟨x, hx, of_decide_eq_true h3⟩)
theorem eAt_129 : ∀ w ∈ vx_atS "MonkMarbles" 129 "java/lang/IndexOutOfBoundsException" eNms, (w ∈ lw_good ∨ w = Cond.castable "java/lang/IndexOutOfBoundsException" "java/lang/IndexOutOfBoundsException" ∨ ∃ x ∈ eDcs, w = Cond.declares x) ∧ vx_ot w = true := by
  have h : (vx_atS "MonkMarbles" 129 "java/lang/IndexOutOfBoundsException" eNms).all (fun w => (decide (w ∈ lw_tbl) && goodWord w || decide (w = Cond.castable "java/lang/IndexOutOfBoundsException" "java/lang/IndexOutOfBoundsException") || eDcs.any (fun x => decide (w = Cond.declares x))) && vx_ot w) = true := by decide +kernel
  intro w hw
  have h1 := List.all_eq_true.mp h w hw
  simp only [Bool.and_eq_true, Bool.or_eq_true, decide_eq_true_eq] at h1
  refine ⟨?_, h1.2⟩
  rcases h1.1 with (h2 | h2) | h2
  · exact Or.inl (List.mem_filter.mpr ⟨List.mem_append_left _ h2.1, h2.2⟩)
  · exact Or.inr (Or.inl h2)
  · obtain ⟨x, hx, h3⟩ := List.any_eq_true.mp h2
    exact Or.inr (Or.inr ⟨x, hx, of_decide_eq_true h3⟩)
theorem eAt_152 : ∀ w ∈ (eXW "MonkMarbles" 152 "java/util/NoSuchElementException" ++ (Bundle.passSAtoms "java/util/NoSuchElementException" "java/lang/RuntimeException" 13 prog_37_method_4_code ++ Bundle.chainSAtoms "java/lang/RuntimeException" ["java/lang/Exception"])).filter vx_no, (w ∈ lw_good ∨ w = Cond.castable "java/util/NoSuchElementException" "java/util/NoSuchElementException" ∨ ∃ x ∈ eDcs, w = Cond.declares x) ∧ vx_ot w = true := by
  have h : ((eXW "MonkMarbles" 152 "java/util/NoSuchElementException" ++ (Bundle.passSAtoms "java/util/NoSuchElementException" "java/lang/RuntimeException" 13 prog_37_method_4_code ++ Bundle.chainSAtoms "java/lang/RuntimeException" ["java/lang/Exception"])).filter vx_no).all (fun w => (decide (w ∈ lw_tbl) && goodWord w || decide (w = Cond.castable "java/util/NoSuchElementException" "java/util/NoSuchElementException") || eDcs.any (fun x => decide (w = Cond.declares x))) && vx_ot w) = true := by decide +kernel
  intro w hw
  have h1 := List.all_eq_true.mp h w hw
  simp only [Bool.and_eq_true, Bool.or_eq_true, decide_eq_true_eq] at h1
  refine ⟨?_, h1.2⟩
  rcases h1.1 with (h2 | h2) | h2
  · exact Or.inl (List.mem_filter.mpr ⟨List.mem_append_left _ h2.1, h2.2⟩)
  · exact Or.inr (Or.inl h2)
  · obtain ⟨x, hx, h3⟩ := List.any_eq_true.mp h2
    exact Or.inr (Or.inr ⟨x, hx, of_decide_eq_true h3⟩)
theorem eAt_192 : ∀ w ∈ vx_atS "MonkMarbles" 192 "java/lang/IllegalStateException" eNms, (w ∈ lw_good ∨ w = Cond.castable "java/lang/IllegalStateException" "java/lang/IllegalStateException" ∨ ∃ x ∈ eDcs, w = Cond.declares x) ∧ vx_ot w = true := by
  have h : (vx_atS "MonkMarbles" 192 "java/lang/IllegalStateException" eNms).all (fun w => (decide (w ∈ lw_tbl) && goodWord w || decide (w = Cond.castable "java/lang/IllegalStateException" "java/lang/IllegalStateException") || eDcs.any (fun x => decide (w = Cond.declares x))) && vx_ot w) = true := by decide +kernel
  intro w hw
  have h1 := List.all_eq_true.mp h w hw
  simp only [Bool.and_eq_true, Bool.or_eq_true, decide_eq_true_eq] at h1
  refine ⟨?_, h1.2⟩
  rcases h1.1 with (h2 | h2) | h2
  · exact Or.inl (List.mem_filter.mpr ⟨List.mem_append_left _ h2.1, h2.2⟩)
  · exact Or.inr (Or.inl h2)
  · obtain ⟨x, hx, h3⟩ := List.any_eq_true.mp h2
    exact Or.inr (Or.inr ⟨x, hx, of_decide_eq_true h3⟩)
theorem eAt_334 : ∀ w ∈ vx_atS "MonkMarbles" 334 "java/lang/ArithmeticException" eNms, (w ∈ lw_good ∨ w = Cond.castable "java/lang/ArithmeticException" "java/lang/ArithmeticException" ∨ ∃ x ∈ eDcs, w = Cond.declares x) ∧ vx_ot w = true := by
  have h : (vx_atS "MonkMarbles" 334 "java/lang/ArithmeticException" eNms).all (fun w => (decide (w ∈ lw_tbl) && goodWord w || decide (w = Cond.castable "java/lang/ArithmeticException" "java/lang/ArithmeticException") || eDcs.any (fun x => decide (w = Cond.declares x))) && vx_ot w) = true := by decide +kernel
  intro w hw
  have h1 := List.all_eq_true.mp h w hw
  simp only [Bool.and_eq_true, Bool.or_eq_true, decide_eq_true_eq] at h1
  refine ⟨?_, h1.2⟩
  rcases h1.1 with (h2 | h2) | h2
  · exact Or.inl (List.mem_filter.mpr ⟨List.mem_append_left _ h2.1, h2.2⟩)
  · exact Or.inr (Or.inl h2)
  · obtain ⟨x, hx, h3⟩ := List.any_eq_true.mp h2
    exact Or.inr (Or.inr ⟨x, hx, of_decide_eq_true h3⟩)
def eIniOk (q : Nat × Nat × String) : Prop := q.2.2 ∈ eExs ∧ Bundle.fit q.2.2 = true ∧ Cond.classLink "MonkMarbles" q.2.1 q.2.2 ∈ lw_good ∧ Cond.initialized q.2.2 ∈ lw_good ∧ (∀ w ∈ (if q.1 = 152 then (eXW "MonkMarbles" q.1 q.2.2 ++ (Bundle.passSAtoms q.2.2 "java/lang/RuntimeException" 13 prog_37_method_4_code ++ Bundle.chainSAtoms "java/lang/RuntimeException" ["java/lang/Exception"])).filter vx_no else vx_atS "MonkMarbles" q.1 q.2.2 eNms), (w ∈ lw_good ∨ w = Cond.castable q.2.2 q.2.2 ∨ ∃ x ∈ eDcs, w = Cond.declares x) ∧ vx_ot w = true) ∧ Cond.instantiable q.2.2 6 ∈ lw_good
theorem eDcs_ok : ∀ x ∈ eDcs, Cond.instanceMethod x ∈ lw_good ∧ ∃ b m r, Cond.code x b m r ∈ lw_good := List.forall_mem_cons.mpr ⟨⟨lw_gm 674 (by decide +kernel) (by decide +kernel), _, _, _, (lw_gm 675 (by decide +kernel) (by decide +kernel) : Cond.code _ prog_25_method_2_code 2 none ∈ lw_good)⟩, List.forall_mem_cons.mpr ⟨⟨lw_gm 677 (by decide +kernel) (by decide +kernel), _, _, _, (lw_gm 678 (by decide +kernel) (by decide +kernel) : Cond.code _ prog_18_method_2_code 2 none ∈ lw_good)⟩, List.forall_mem_cons.mpr ⟨⟨lw_gm 680 (by decide +kernel) (by decide +kernel), _, _, _, (lw_gm 681 (by decide +kernel) (by decide +kernel) : Cond.code _ prog_32_method_2_code 2 none ∈ lw_good)⟩, fun _ h => absurd h List.not_mem_nil⟩⟩⟩
theorem eIni_ok : ∀ q ∈ eIniL, eIniOk q := List.forall_mem_cons.mpr ⟨⟨List.mem_of_getElem? (i := 1) rfl, by decide +kernel, lw_gm 949 (by decide +kernel) (by decide +kernel), lw_gm 92 (by decide +kernel) (by decide +kernel), eAt_90, lw_gm 619 (by decide +kernel) (by decide +kernel)⟩, List.forall_mem_cons.mpr ⟨⟨List.mem_of_getElem? (i := 4) rfl, by decide +kernel, lw_gm 952 (by decide +kernel) (by decide +kernel), lw_gm 93 (by decide +kernel) (by decide +kernel), eAt_97, lw_gm 953 (by decide +kernel) (by decide +kernel)⟩, List.forall_mem_cons.mpr ⟨⟨List.mem_of_getElem? (i := 3) rfl, by decide +kernel, lw_gm 1013 (by decide +kernel) (by decide +kernel), lw_gm 94 (by decide +kernel) (by decide +kernel), eAt_129, lw_gm 1014 (by decide +kernel) (by decide +kernel)⟩, List.forall_mem_cons.mpr ⟨⟨List.mem_of_getElem? (i := 5) rfl, by decide +kernel, lw_gm 1044 (by decide +kernel) (by decide +kernel), lw_gm 96 (by decide +kernel) (by decide +kernel), eAt_152, lw_gm 1045 (by decide +kernel) (by decide +kernel)⟩, List.forall_mem_cons.mpr ⟨⟨List.mem_of_getElem? (i := 2) rfl, by decide +kernel, lw_gm 1116 (by decide +kernel) (by decide +kernel), lw_gm 97 (by decide +kernel) (by decide +kernel), eAt_192, lw_gm 1117 (by decide +kernel) (by decide +kernel)⟩, List.forall_mem_cons.mpr ⟨⟨List.mem_of_getElem? (i := 0) rfl, by decide +kernel, lw_gm 1393 (by decide +kernel) (by decide +kernel), lw_gm 104 (by decide +kernel) (by decide +kernel), eAt_334, lw_gm 1376 (by decide +kernel) (by decide +kernel)⟩, fun _ h => absurd h List.not_mem_nil⟩⟩⟩⟩⟩⟩
