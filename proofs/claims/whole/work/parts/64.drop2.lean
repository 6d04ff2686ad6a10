/-! doubles and floats can be dropped, too -/
def eNumV (v : Value) : Prop := (∃ x, v = .int x) ∨ (∃ x, v = .long x) ∨ (∃ x, v = .double x) ∨ ∃ x, v = .float x
def eLU (a b : eLv) : Prop := eNd a = true ∧ eNd b = true ∧ (∀ j v, eLk j a = some v → eLk j b = some v) ∧ ∀ j v, eLk j b = some v → eLk j a = some v ∨ eNumV v
theorem eLU.all {a b : eLv} (h : eLU a b) (p : Value → Bool) (hp : ∀ v, eNumV v → p v = true) : a.all (fun q => p q.2) = b.all (fun q => p q.2) := by
  rw [Bool.eq_iff_iff, eLk_all h.1, eLk_all h.2.1]
  constructor
  · intro h1 j v hj
    rcases h.2.2.2 j v hj with h2 | h2
    · exact h1 j v h2
    · exact hp v h2
  · intro h1 j v hj
    exact h1 j v (h.2.2.1 j v hj)
theorem eLU.cf {a b : eLv} (h : eLU a b) (j : Nat) (v : Value) (f : Nat × Value → Bool) (hf : ∀ w, f (j, w) = false) : eLU ((j, v) :: a.filter f) ((j, v) :: b.filter f) := by
  have key : ∀ {l : eLv} (hd : eNd l = true) {i : Nat} {w : Value}, eLk i ((j, v) :: l.filter f) = some w ↔ (Nat.beq j i = true ∧ w = v) ∨ (Nat.beq j i = false ∧ eLk i l = some w ∧ f (i, w) = true) := by
    intro l hd i w
    rw [eLk_cons, (eLk_filter f hd i).1]
    cases Nat.beq j i with
    | true =>
      constructor
      · intro e; exact Or.inl ⟨rfl, (Option.some.inj e).symm⟩
      · rintro (⟨-, e⟩ | ⟨e, -⟩)
        · rw [e]
        · cases e
    | false =>
      cases eLk i l with
      | none => simp
      | some u =>
        simp only [Bool.false_eq_true, false_and, true_and, false_or, Option.some.injEq]
        cases hu : f (i, u) with
        | true => simp only [Option.some.injEq]; exact ⟨fun e => ⟨e, by rw [← e]; exact hu⟩, fun e => e.1⟩
        | false => simp only [reduceCtorEq, false_iff, not_and]; intro e; rw [← e, hu]; exact Bool.false_ne_true
  refine ⟨eNd_cons_filter f h.1 hf, eNd_cons_filter f h.2.1 hf, fun i w hw => ?_, fun i w hw => ?_⟩
  · rw [key h.2.1]
    rcases (key h.1).mp hw with h1 | ⟨h1, h2, h3⟩
    · exact Or.inl h1
    · exact Or.inr ⟨h1, h.2.2.1 _ _ h2, h3⟩
  · rcases (key h.2.1).mp hw with h1 | ⟨h1, h2, h3⟩
    · exact Or.inl ((key h.1).mpr (Or.inl h1))
    · rcases h.2.2.2 _ _ h2 with h4 | h4
      · exact Or.inl ((key h.1).mpr (Or.inr ⟨h1, h4, h3⟩))
      · exact Or.inr h4
theorem eLU.p1 {a b : eLv} (h : eLU a b) (j : Nat) (v : Value) : eLU (eP1 j v a) (eP1 j v b) := h.cf j v _ (fun w => by simp)
theorem eLU.p2 {a b : eLv} (h : eLU a b) (j : Nat) (v : Value) : eLU (eP2 j v a) (eP2 j v b) := h.cf j v _ (fun w => by simp)
def eNU : Option eNx → Option eNx → Prop
  | none, _ => True
  | some (.inl c), some (.inl c') => c.1 = c'.1 ∧ eLU c.2.1 c'.2.1 ∧ c.2.2 = c'.2.2
  | some (.inr (.inl o)), some (.inr (.inl o')) => o = o'
  | some (.inr (.inr q)), some (.inr (.inr q')) => q.1 = q'.1 ∧ q.2.1 = q'.2.1 ∧ q.2.2.1 = q'.2.2.1 ∧ q.2.2.2.1 = q'.2.2.2.1 ∧ eLU q.2.2.2.2.1 q'.2.2.2.2.1 ∧ q.2.2.2.2.2 = q'.2.2.2.2.2
  | _, _ => False
theorem eNU_go {a b : eLv} (h : eLU a b) {pc : Nat} {st : List Value} {N : Nat} {hp : eHp} {k z : Nat} : eNU (eGo pc a st N hp k z) (eGo pc b st N hp k z) := ⟨rfl, h, rfl⟩
theorem eLU.clL {a b : eLv} (h : eLU a b) (N : Nat) : eClL N a = eClL N b := h.all (eClV N) (fun v hv => by rcases hv with ⟨x, rfl⟩ | ⟨x, rfl⟩ | ⟨x, rfl⟩ | ⟨x, rfl⟩ <;> rfl)
theorem eLU.clA {a b : eLv} (h : eLU a b) (N : Nat) (st : List Value) (hp : eHp) : eClA N a st hp = eClA N b st hp := by unfold eClA; rw [h.clL]
theorem eDo_lu {ox : Nat → Option (Nat × Nat × (Nat → Int32))} {M : eM} {i : Instr} {tg pc : Nat} {a b : eLv} {st : List Value} {N : Nat} {h : eHp} {k z : Nat} (hR : eLU a b) : eNU (eDo ox M i tg pc a st N h k z) (eDo ox M i tg pc b st N h k z) := by
  have hj := hR.2.2.1
  unfold eDo
  split <;> (try simp only [eLi, eLl, eLa, eSi, eSl, eSa, eB, eBl, eIf, eAl, eAlL, eAlD, eAlA, eAs, eAsL, eAsD, eAsA, eLen, eMk, eCopy, eGet, ePut, eNwa, eInv, hR.clA]) <;> (repeat' split) <;> first | exact eNU_go hR | exact eNU_go (hR.p1 _ _) | exact eNU_go (hR.p2 _ _) | trivial | exact rfl | exact ⟨rfl, rfl, rfl, rfl, hR, rfl⟩ | (simp_all; done) | (simp_all [eNU, eGo]; done) | skip
  · rename_i h1 _ _ _ _ h2
    have e9 := (hj _ _ h1).symm.trans h2
    cases e9
    exact eNU_go (hR.p1 _ _)
def eCU (c c' : eC) : Prop := c.1 = c'.1 ∧ eLU c.2.1 c'.2.1 ∧ c.2.2 = c'.2.2
theorem eStep_lu {ox : Nat → Option (Nat × Nat × (Nat → Int32))} {M : eM} {c c' : eC} (h : eCU c c') : eNU (eStep ox M c) (eStep ox M c') := by
  obtain ⟨pc, a, r⟩ := c
  obtain ⟨pc', b, r'⟩ := c'
  obtain ⟨h1, h2, h3⟩ := h
  dsimp only at h1 h2 h3
  subst h1; subst h3
  unfold eStep
  try dsimp only
  split
  · exact eDo_lu h2
  · trivial
theorem eEnd_lu {ox : Nat → Option (Nat × Nat × (Nat → Int32))} {M : eM} {c c' : eC} {q : eR} (h : eCU c c') (he : eEnd ox M c = some q) : eEnd ox M c' = some q := by
  have h1 := eStep_lu (ox := ox) (M := M) h
  unfold eEnd at he ⊢
  rw [← h.2.2]
  revert h1 he
  cases eStep ox M c with
  | none => intro he _; cases he
  | some x => cases eStep ox M c' with
    | none => intro _ h9; rcases x with x | x | x <;> exact absurd h9 id
    | some y =>
      intro he h9
      rcases x with x | x | x <;> rcases y with y | y | y <;> first | exact absurd h9 id | (cases he; done) | (have h8 : x = y := h9; rw [← h8]; exact he)
theorem eBack_lu {M : eM} {c c' : eC} {a b : eLv} {r : List Value} {q : eR} {d : eC} (h : eCU c c') (hl : eLU a b) (hb : eBack M c a r q = some d) : ∃ d', eBack M c' b r q = some d' ∧ eCU d d' := by
  obtain ⟨pc, a0, rr⟩ := c
  obtain ⟨pc', b0, rr'⟩ := c'
  obtain ⟨h1, h2, h3⟩ := h
  dsimp only at h1 h2 h3
  subst h1; subst h3
  unfold eBack at hb ⊢
  dsimp only at hb ⊢
  rw [← hl.clL]
  split at hb
  · rename_i e1
    first | rw [e1] | skip
    split at hb
    · rename_i v e2
      split at hb
      · rename_i e3
        cases hb
        first | rw [e2] | skip
        try dsimp only
        first | rw [e3] | skip
        exact ⟨_, rfl, rfl, hl, rfl⟩
      · cases hb
    · rename_i E e2
      split at hb
      · rename_i t e3
        have e5 := hl.all eN9 (fun v hv => by rcases hv with ⟨x, rfl⟩ | ⟨x, rfl⟩ | ⟨x, rfl⟩ | ⟨x, rfl⟩ <;> rfl)
        split at hb
        · cases hb
        · rename_i e4
          cases hb
          first | rw [e2] | skip
          try dsimp only
          first | rw [e3] | skip
          try dsimp only
          rw [← e5, e4]
          exact ⟨_, rfl, rfl, hl, rfl⟩
      · cases hb
  · cases hb
theorem eTo_lu {ox : Nat → Option (Nat × Nat × (Nat → Int32))} {C : eM → List Value → Nat → eHp → eR → Prop} {M : eM} : ∀ {n : Nat} {c c' d : eC}, eCU c c' → eTo ox C M n c d → ∃ d', eTo ox C M n c' d' ∧ eCU d d'
  | 0, c, c', d, h, ht => by cases ht; exact ⟨c', rfl, h⟩
  | n + 1, c, c', d, h, ht => by
    have h1 := eStep_lu (ox := ox) (M := M) h
    simp only [eTo] at ht ⊢
    revert h1 ht
    cases hc : eStep ox M c with
    | none => intro ht _; exact ht.elim
    | some x => cases hc' : eStep ox M c' with
      | none => intro _ h9; rcases x with x | x | x <;> exact absurd h9 id
      | some y =>
        intro ht h9
        rcases x with x | x | x
        · rcases y with y | y | y
          · exact eTo_lu h9 ht
          · exact absurd h9 id
          · exact absurd h9 id
        · exact ht.elim
        · rcases y with y | y | y
          · exact absurd h9 id
          · exact absurd h9 id
          · obtain ⟨k1, i1, M1, as1, lv1, r1⟩ := x
            obtain ⟨k2, i2, M2, as2, lv2, r2⟩ := y
            obtain ⟨e1, e2, e3, e4, e5, e6⟩ := h9
            dsimp only at e1 e2 e3 e4 e5 e6 ht ⊢
            subst e1; subst e2; subst e3; subst e4; subst e6
            obtain ⟨q, c1, hq, hb, h2⟩ := ht
            obtain ⟨c2, hb2, h3⟩ := eBack_lu h e5 hb
            obtain ⟨d', h4, h5⟩ := eTo_lu h3 h2
            rw [h.2.2] at hq
            exact ⟨d', ⟨q, c2, hq, hb2, h4⟩, h5⟩
theorem eRn_lu {ox : Nat → Option (Nat × Nat × (Nat → Int32))} {C : eM → List Value → Nat → eHp → eR → Prop} {M : eM} {c c' : eC} {q : eR} (h : eCU c c') (hr : eRn ox C M c q) : eRn ox C M c' q := by
  obtain ⟨n, d, h1, h2⟩ := hr
  obtain ⟨d', h3, h4⟩ := eTo_lu h h1
  exact ⟨n, d', h3, eEnd_lu h4 h2⟩

theorem eW_reU {ox : Nat → Option (Nat × Nat × (Nat → Int32))} {C : eM → List Value → Nat → eHp → eR → Prop} {M : eM} {P : eR → Prop} {pc : Nat} {lv : eLv} {st : List Value} {N : Nat} {h : eHp} {k z : Nat} (lv' : eLv) (h1 : eNd lv' = true) (h2 : eNd lv = true) (h4 : ∀ q ∈ lv', eLk q.1 lv = some q.2) (h5 : ∀ q ∈ lv, eLk q.1 lv' = some q.2 ∨ eNumV q.2) (kk : eWp ox C M (pc, lv', st, N, h, k, z) P) : eWp ox C M (pc, lv, st, N, h, k, z) P := by
  obtain ⟨q, a, b⟩ := kk
  exact ⟨q, eRn_lu (c := (pc, lv', st, N, h, k, z)) ⟨rfl, ⟨h1, h2, fun j v hj => h4 _ (eLk_mem hj), fun j v hj => h5 _ (eLk_mem hj)⟩, rfl⟩ a, b⟩
