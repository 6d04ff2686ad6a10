/-! which exceptions an answer may be -/
theorem aPD_E {e v : Int} {E : String} (h : aPD e v = .inr E) : E = nIAE ∨ E = nUOE := by
  unfold aPD at h
  split at h
  · cases h; exact Or.inl rfl
  · split at h
    · cases h; exact Or.inr rfl
    · cases h
theorem aSc_E {e v : Int} {E : String} (h : aSc e v = .inr E) : E = nIOB ∨ E = nIAE ∨ E = nUOE := by
  unfold aSc at h
  split at h
  · cases h; exact Or.inl rfl
  · split at h
    · cases h; exact Or.inr (Or.inl rfl)
    · split at h
      · cases h; exact Or.inr (Or.inr rfl)
      · cases h
theorem aPl_E {e v : Int} {E : String} (h : aPl e v = .inr E) : E = nNSE := by
  unfold aPl at h
  split at h
  · cases h; rfl
  · cases h
theorem aNx_E {e v : Int} {E : String} (h : aNx e v = .inr E) : E = nUOE := by
  unfold aNx at h
  split at h
  · cases h; rfl
  · cases h
theorem aRn_E {e v : Int} {E : String} (h : aRn e v = .inr E) : E = nIAE ∨ E = nUOE := by
  unfold aRn at h
  split at h
  · cases h
  · split at h
    · cases h; exact Or.inr rfl
    · cases h; exact Or.inl rfl
theorem eIfT_E {b : Bool} {v : Int} {E E1 : String} (h : eIfT b E1 (.inl v) = .inr E) : E = E1 := by
  cases b <;> cases h; rfl
theorem eIfT_E2 {b b2 : Bool} {v : Int} {E E1 E2 : String} (h : eIfT b E1 (eIfT b2 E2 (.inl v)) = .inr E) : E = E1 ∨ E = E2 := by
  cases b
  · cases h; exact Or.inl rfl
  · exact Or.inr (eIfT_E h)
theorem eOpt_E {v : Option Int} {E E1 : String} (h : eOpt v E1 = .inr E) : E = E1 := by
  cases v <;> cases h; rfl
theorem eIfT_EO {b : Bool} {v : Option Int} {E E1 E2 : String} (h : eIfT b E1 (eOpt v E2) = .inr E) : E = E1 ∨ E = E2 := by
  cases b
  · cases h; exact Or.inl rfl
  · exact Or.inr (eOpt_E h)
theorem gAsk_E {y : Option (Int × Int × Int)} {x : Int} {E : String} (h : gAsk y x = .inr E) : E = nNSE ∨ E = nIAE := by
  cases y
  · cases h; exact Or.inl rfl
  · exact Or.inr (eIfT_E h)
theorem ite_E {p : Prop} [Decidable p] {v : Int} {E E1 : String} (h : (if p then .inl v else .inr E1 : Int ⊕ String) = .inr E) : E = E1 := by
  split at h
  · cases h
  · cases h; rfl
theorem ite_E2 {p : Prop} [Decidable p] {v : Int} {E E1 : String} (h : (if p then .inr E1 else .inl v : Int ⊕ String) = .inr E) : E = E1 := by
  split at h
  · cases h; rfl
  · cases h
theorem oPit_i (G : eGd) (n : Int) : i32 (oPit G n).2.1 := by unfold oPit; split; split; (unfold i32; dsimp only; omega); (unfold i32; dsimp only; omega); (unfold i32; dsimp only; omega)
theorem oDig_i (G : eGd) (t x : Int) : i32 (oDig G t x).2.1 := by unfold oDig; split; split; (unfold i32; dsimp only; omega); (unfold i32; dsimp only; omega); (unfold i32; dsimp only; omega)
theorem oScp_i (G : eGd) (p t l : Int) : i32 (oScp G p t l).2.1 := by
  unfold oScp
  repeat' split
  all_goals (unfold i32; dsimp only; omega)
theorem oNxt_i (G : eGd) : i32 (oNxt G).2.1 := by unfold oNxt; split; (unfold i32; dsimp only; omega); (unfold i32; dsimp only; omega)
theorem oPly_i (G : eGd) : i32 (oPly G).2.1 := by unfold oPly; cases gTd G; (unfold i32; dsimp only; omega); (unfold i32; dsimp only; omega)
theorem oPly_e (G : eGd) : (oPly G).1 = 0 ∨ (oPly G).1 = 1 := by unfold oPly; cases gTd G; exact Or.inr rfl; exact Or.inl rfl
theorem oPly_X (X : eXs) (G : eGd) : oX X (oPly G) = X := by
  unfold oX
  rcases oPly_e G with e | e
  · rw [if_neg (by omega)]
  · rw [if_neg (by omega)]
theorem gE_r (G : eGd) : gE G G := ⟨fun _ _ => rfl, fun _ _ => rfl, fun _ _ => rfl, rfl⟩
theorem ite_eIfT {p : Prop} [Decidable p] {v : Int} {E : String} : (if p then .inl v else .inr E : Int ⊕ String) = eIfT (decide p) E (.inl v) := by
  by_cases h : p
  · rw [if_pos h, decide_eq_true h]; rfl
  · rw [if_neg h, decide_eq_false h]; rfl
theorem gVal_1 {V : eVs} {D : Int → Int} {m : Int} (h : gVD V D) (hm : gNum m = true) : gVal V.2.1 m = gvv D m := by rw [gV_fun h]
theorem gVal_2 {V : eVs} {D : Int → Int} {m : Int} (h : gVD V D) (hm : gNum m = true) : gVal V.2.2.1 m = gvv D m := by
  unfold gvv gVal
  rw [hm]
  unfold gNum at hm
  simp only [Bool.and_eq_true, decide_eq_true_eq] at hm
  exact (h.2 m.toNat (by omega)).2.1
theorem gChr_E {L : List Int} {i : Int} {E : String} (h : gChr L i = .inr E) : E = nIOB := ite_E h
theorem lnR_n {F : Nat → Int} {m : Int} {L : List Int} (h : lnR F m L) (hm : m ≤ 330) : 0 ≤ m ∧ m ≤ 330 := by have := h.1; omega
theorem lnR_get {F : Nat → Int} {m i : Int} {L : List Int} (h : lnR F m L) (hi : 0 ≤ i ∧ i < m) : L.getD i.toNat 0 = F i.toNat := by
  rw [List.getD_eq_getElem?_getD, h.2 i.toNat (by have := h.1; omega)]; rfl
theorem gChr_eIfT {F : Nat → Int} {m i : Int} {L : List Int} (h : lnR F m L) : gChr L i = eIfT (decide (0 ≤ i ∧ i < m)) nIOB (.inl (L.getD i.toNat 0)) := by
  unfold gChr
  rw [ite_eIfT, h.1]
theorem bW_ch {h : eHp} {g : Nat} {L : List Int} (hb : bW h g L) (i : Nat) (hi : i < L.length) : ∃ x, L[i]? = some x ∧ 0 ≤ x ∧ x ≤ 127 := by
  obtain ⟨b, B, ml, b1, b2, b3, b4, b5, b6, b7, b8, b9⟩ := hb
  exact ⟨B i, b6.2 i hi, b5 i⟩
theorem lnR_ch {h : eHp} {g : Nat} {F : Nat → Int} {m : Int} {L : List Int} (hb : bW h g L) (hl : lnR F m L) : ∀ i : Nat, (i : Int) < m → 0 ≤ F i ∧ F i ≤ 65535 := by
  intro i hi
  have hi2 : i < L.length := by have := hl.1; omega
  obtain ⟨x, e, h0, h1⟩ := bW_ch hb i hi2
  rw [hl.2 i hi2] at e
  cases e
  omega
