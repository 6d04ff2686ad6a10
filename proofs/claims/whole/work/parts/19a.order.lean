/-! the order of the locals is of no matter -/
def eNd : eLv → Bool
  | [] => true
  | q :: l => (match eLk q.1 l with | none => true | some _ => false) && eNd l
/-- a has what b has, but for numbers that a lacks -/
def eLR (a b : eLv) : Prop := eNd a = true ∧ eNd b = true ∧ (∀ j v, eLk j a = some v → eLk j b = some v) ∧ ∀ j v, eLk j b = some v → eLk j a = some v ∨ ∃ x, v = .int x
theorem eLk_none_mem {j : Nat} {l : eLv} (h : eLk j l = none) : ∀ q ∈ l, q.1 ≠ j := by
  induction l with
  | nil => intro q hq; cases hq
  | cons p l ih =>
    intro q hq
    unfold eLk at h
    split at h
    · cases h
    · rename_i hb
      rcases List.mem_cons.mp hq with rfl | hq
      · intro he; rw [he, Nat.beq_refl] at hb; cases hb
      · exact ih h q hq
theorem eLk_of_mem {l : eLv} (hd : eNd l = true) {j : Nat} {v : Value} (h : (j, v) ∈ l) : eLk j l = some v := by
  induction l with
  | nil => cases h
  | cons p l ih =>
    unfold eNd at hd
    simp only [Bool.and_eq_true] at hd
    unfold eLk
    rcases List.mem_cons.mp h with rfl | h
    · simp only [Nat.beq_refl]
    · have h1 := ih hd.2 h
      split
      · rename_i hb
        have hb := Nat.eq_of_beq_eq_true hb
        rw [hb, h1] at hd
        exact absurd hd.1 Bool.false_ne_true
      · exact h1
theorem eLk_all {l : eLv} (hd : eNd l = true) (p : Value → Bool) : l.all (fun q => p q.2) = true ↔ ∀ j v, eLk j l = some v → p v = true := by
  constructor
  · intro h j v hj
    exact List.all_eq_true.mp h _ (eLk_mem hj)
  · intro h
    refine List.all_eq_true.mpr (fun q hq => h q.1 q.2 (eLk_of_mem hd hq))
theorem eLR.all {a b : eLv} (h : eLR a b) (p : Value → Bool) (hp : ∀ x, p (.int x) = true) : a.all (fun q => p q.2) = b.all (fun q => p q.2) := by
  rw [Bool.eq_iff_iff, eLk_all h.1, eLk_all h.2.1]
  constructor
  · intro h1 j v hj
    rcases h.2.2.2 j v hj with h2 | ⟨x, rfl⟩
    · exact h1 j v h2
    · exact hp x
  · intro h1 j v hj
    exact h1 j v (h.2.2.1 j v hj)
theorem eLk_filter {l : eLv} (f : Nat × Value → Bool) (hd : eNd l = true) (j : Nat) : eLk j (l.filter f) = (match eLk j l with | some v => (match f (j, v) with | true => some v | false => none) | none => none) ∧ eNd (l.filter f) = true := by
  induction l with
  | nil => exact ⟨rfl, rfl⟩
  | cons p l ih =>
    unfold eNd at hd
    simp only [Bool.and_eq_true] at hd
    obtain ⟨h1, h2⟩ := ih hd.2
    have hnone : eLk p.1 l = none := by
      have := hd.1
      split at this
      · assumption
      · cases this
    have hnf : eLk p.1 (l.filter f) = none := by
      cases hq : eLk p.1 (l.filter f) with
      | none => rfl
      | some v => exact absurd rfl (eLk_none_mem hnone (p.1, v) (List.mem_filter.mp (eLk_mem hq)).1)
    by_cases hf : f p = true
    · rw [List.filter_cons_of_pos hf]
      constructor
      · show eLk j (p :: _) = _
        unfold eLk
        split
        · rename_i hb
          have hb := Nat.eq_of_beq_eq_true hb
          subst hb
          simp only [show (p.1, p.2) = p from rfl, hf]
        · exact h1
      · unfold eNd
        rw [hnf, h2]; rfl
    · rw [List.filter_cons_of_neg hf]
      refine ⟨?_, h2⟩
      rw [h1]
      conv => rhs; unfold eLk
      by_cases hb : p.1 = j
      · subst hb
        rw [Nat.beq_refl, hnone]
        simp only [show (p.1, p.2) = p from rfl, Bool.eq_false_iff.mpr hf]
      · rw [Bool.eq_false_iff.mpr (fun h => hb (Nat.eq_of_beq_eq_true h))]
theorem eLk_cons {j i : Nat} {v : Value} {l : eLv} : eLk i ((j, v) :: l) = (match Nat.beq j i with | true => some v | false => eLk i l) := rfl
theorem eNd_cons_filter {l : eLv} {j : Nat} {v : Value} (f : Nat × Value → Bool) (hd : eNd l = true) (hf : ∀ w, f (j, w) = false) : eNd ((j, v) :: l.filter f) = true := by
  unfold eNd
  rw [(eLk_filter f hd j).1, (eLk_filter f hd j).2]
  cases eLk j l with
  | none => rfl
  | some w => simp only [hf]; rfl
theorem eLR.cf {a b : eLv} (h : eLR a b) (j : Nat) (v : Value) (f : Nat × Value → Bool) (hf : ∀ w, f (j, w) = false) : eLR ((j, v) :: a.filter f) ((j, v) :: b.filter f) := by
  have key : ∀ {l : eLv} (hd : eNd l = true) {i : Nat} {w : Value}, eLk i ((j, v) :: l.filter f) = some w ↔ (Nat.beq j i = true ∧ w = v) ∨ (Nat.beq j i = false ∧ eLk i l = some w ∧ f (i, w) = true) := by
    intro l hd i w
    rw [eLk_cons, (eLk_filter f hd i).1]
    cases Nat.beq j i with
    | true =>
      constructor
      · intro e; exact Or.inl ⟨rfl, (Option.some.inj e).symm⟩
      · rintro (⟨-, e⟩ | ⟨e, -⟩)
        · rw [e]
        · cases e
    | false =>
      cases eLk i l with
      | none => simp
      | some u =>
        simp only [Bool.false_eq_true, false_and, true_and, false_or, Option.some.injEq]
        cases hu : f (i, u) with
        | true => simp only [Option.some.injEq]; exact ⟨fun e => ⟨e, by rw [← e]; exact hu⟩, fun e => e.1⟩
        | false => simp only [reduceCtorEq, false_iff, not_and]; intro e; rw [← e, hu]; exact Bool.false_ne_true
  refine ⟨eNd_cons_filter f h.1 hf, eNd_cons_filter f h.2.1 hf, fun i w hw => ?_, fun i w hw => ?_⟩
  · rw [key h.2.1]
    rcases (key h.1).mp hw with h1 | ⟨h1, h2, h3⟩
    · exact Or.inl h1
    · exact Or.inr ⟨h1, h.2.2.1 _ _ h2, h3⟩
  · rcases (key h.2.1).mp hw with h1 | ⟨h1, h2, h3⟩
    · exact Or.inl ((key h.1).mpr (Or.inl h1))
    · rcases h.2.2.2 _ _ h2 with h4 | h4
      · exact Or.inl ((key h.1).mpr (Or.inr ⟨h1, h4, h3⟩))
      · exact Or.inr h4
theorem eLR.p1 {a b : eLv} (h : eLR a b) (j : Nat) (v : Value) : eLR (eP1 j v a) (eP1 j v b) := h.cf j v _ (fun w => by simp)
theorem eLR.p2 {a b : eLv} (h : eLR a b) (j : Nat) (v : Value) : eLR (eP2 j v a) (eP2 j v b) := h.cf j v _ (fun w => by simp)
def eNR : Option eNx → Option eNx → Prop
  | none, _ => True
  | some (.inl c), some (.inl c') => c.1 = c'.1 ∧ eLR c.2.1 c'.2.1 ∧ c.2.2 = c'.2.2
  | some (.inr (.inl o)), some (.inr (.inl o')) => o = o'
  | some (.inr (.inr q)), some (.inr (.inr q')) => q.1 = q'.1 ∧ q.2.1 = q'.2.1 ∧ q.2.2.1 = q'.2.2.1 ∧ q.2.2.2.1 = q'.2.2.2.1 ∧ eLR q.2.2.2.2.1 q'.2.2.2.2.1 ∧ q.2.2.2.2.2 = q'.2.2.2.2.2
  | _, _ => False
theorem eNR_go {a b : eLv} (h : eLR a b) {pc : Nat} {st : List Value} {N : Nat} {hp : eHp} {k z : Nat} : eNR (eGo pc a st N hp k z) (eGo pc b st N hp k z) := ⟨rfl, h, rfl⟩
theorem eLR.clL {a b : eLv} (h : eLR a b) (N : Nat) : eClL N a = eClL N b := h.all (eClV N) (fun _ => rfl)
theorem eLR.clA {a b : eLv} (h : eLR a b) (N : Nat) (st : List Value) (hp : eHp) : eClA N a st hp = eClA N b st hp := by unfold eClA; rw [h.clL]
theorem eDo_lr {ox : Nat → Option (Nat × Nat × (Nat → Int32))} {M : eM} {i : Instr} {tg pc : Nat} {a b : eLv} {st : List Value} {N : Nat} {h : eHp} {k z : Nat} (hR : eLR a b) : eNR (eDo ox M i tg pc a st N h k z) (eDo ox M i tg pc b st N h k z) := by
  have hj := hR.2.2.1
  unfold eDo
  split <;> (try simp only [eLi, eLl, eLa, eSi, eSl, eSa, eB, eBl, eIf, eAl, eAlL, eAlD, eAlA, eAs, eAsL, eAsD, eAsA, eLen, eMk, eCopy, eGet, ePut, eNwa, eInv, hR.clA]) <;> (repeat' split) <;> first | exact eNR_go hR | exact eNR_go (hR.p1 _ _) | exact eNR_go (hR.p2 _ _) | trivial | exact rfl | exact ⟨rfl, rfl, rfl, rfl, hR, rfl⟩ | (simp_all; done) | (simp_all [eNR, eGo]; done) | skip
  · rename_i h1 _ _ _ _ h2
    have e9 := (hj _ _ h1).symm.trans h2
    cases e9
    exact eNR_go (hR.p1 _ _)
def eCR (c c' : eC) : Prop := c.1 = c'.1 ∧ eLR c.2.1 c'.2.1 ∧ c.2.2 = c'.2.2
theorem eStep_lr {ox : Nat → Option (Nat × Nat × (Nat → Int32))} {M : eM} {c c' : eC} (h : eCR c c') : eNR (eStep ox M c) (eStep ox M c') := by
  obtain ⟨pc, a, r⟩ := c
  obtain ⟨pc', b, r'⟩ := c'
  obtain ⟨h1, h2, h3⟩ := h
  dsimp only at h1 h2 h3
  subst h1; subst h3
  unfold eStep
  try dsimp only
  split
  · exact eDo_lr h2
  · trivial
theorem eEnd_lr {ox : Nat → Option (Nat × Nat × (Nat → Int32))} {M : eM} {c c' : eC} {q : eR} (h : eCR c c') (he : eEnd ox M c = some q) : eEnd ox M c' = some q := by
  have h1 := eStep_lr (ox := ox) (M := M) h
  unfold eEnd at he ⊢
  rw [← h.2.2]
  revert h1 he
  cases eStep ox M c with
  | none => intro he _; cases he
  | some x => cases eStep ox M c' with
    | none => intro _ h9; rcases x with x | x | x <;> exact absurd h9 id
    | some y =>
      intro he h9
      rcases x with x | x | x <;> rcases y with y | y | y <;> first | exact absurd h9 id | (cases he; done) | (have h8 : x = y := h9; rw [← h8]; exact he)
theorem eBack_lr {M : eM} {c c' : eC} {a b : eLv} {r : List Value} {q : eR} {d : eC} (h : eCR c c') (hl : eLR a b) (hb : eBack M c a r q = some d) : ∃ d', eBack M c' b r q = some d' ∧ eCR d d' := by
  obtain ⟨pc, a0, rr⟩ := c
  obtain ⟨pc', b0, rr'⟩ := c'
  obtain ⟨h1, h2, h3⟩ := h
  dsimp only at h1 h2 h3
  subst h1; subst h3
  unfold eBack at hb ⊢
  dsimp only at hb ⊢
  rw [← hl.clL]
  split at hb
  · rename_i e1
    first | rw [e1] | skip
    split at hb
    · rename_i v e2
      split at hb
      · rename_i e3
        cases hb
        first | rw [e2] | skip
        try dsimp only
        first | rw [e3] | skip
        exact ⟨_, rfl, rfl, hl, rfl⟩
      · cases hb
    · rename_i E e2
      split at hb
      · rename_i t e3
        have e5 := hl.all eN9 (fun _ => rfl)
        split at hb
        · cases hb
        · rename_i e4
          cases hb
          first | rw [e2] | skip
          try dsimp only
          first | rw [e3] | skip
          try dsimp only
          rw [← e5, e4]
          exact ⟨_, rfl, rfl, hl, rfl⟩
      · cases hb
  · cases hb
theorem eTo_lr {ox : Nat → Option (Nat × Nat × (Nat → Int32))} {C : eM → List Value → Nat → eHp → eR → Prop} {M : eM} : ∀ {n : Nat} {c c' d : eC}, eCR c c' → eTo ox C M n c d → ∃ d', eTo ox C M n c' d' ∧ eCR d d'
  | 0, c, c', d, h, ht => by cases ht; exact ⟨c', rfl, h⟩
  | n + 1, c, c', d, h, ht => by
    have h1 := eStep_lr (ox := ox) (M := M) h
    simp only [eTo] at ht ⊢
    revert h1 ht
    cases hc : eStep ox M c with
    | none => intro ht _; exact ht.elim
    | some x => cases hc' : eStep ox M c' with
      | none => intro _ h9; rcases x with x | x | x <;> exact absurd h9 id
      | some y =>
        intro ht h9
        rcases x with x | x | x
        · rcases y with y | y | y
          · exact eTo_lr h9 ht
          · exact absurd h9 id
          · exact absurd h9 id
        · exact ht.elim
        · rcases y with y | y | y
          · exact absurd h9 id
          · exact absurd h9 id
          · obtain ⟨k1, i1, M1, as1, lv1, r1⟩ := x
            obtain ⟨k2, i2, M2, as2, lv2, r2⟩ := y
            obtain ⟨e1, e2, e3, e4, e5, e6⟩ := h9
            dsimp only at e1 e2 e3 e4 e5 e6 ht ⊢
            subst e1; subst e2; subst e3; subst e4; subst e6
            obtain ⟨q, c1, hq, hb, h2⟩ := ht
            obtain ⟨c2, hb2, h3⟩ := eBack_lr h e5 hb
            obtain ⟨d', h4, h5⟩ := eTo_lr h3 h2
            rw [h.2.2] at hq
            exact ⟨d', ⟨q, c2, hq, hb2, h4⟩, h5⟩
theorem eRn_lr {ox : Nat → Option (Nat × Nat × (Nat → Int32))} {C : eM → List Value → Nat → eHp → eR → Prop} {M : eM} {c c' : eC} {q : eR} (h : eCR c c') (hr : eRn ox C M c q) : eRn ox C M c' q := by
  obtain ⟨n, d, h1, h2⟩ := hr
  obtain ⟨d', h3, h4⟩ := eTo_lr h h1
  exact ⟨n, d', h3, eEnd_lr h4 h2⟩
