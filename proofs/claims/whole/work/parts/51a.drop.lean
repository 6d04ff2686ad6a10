/-! longs can be dropped, too -/
def eLS (a b : eLv) : Prop := eNd a = true ∧ eNd b = true ∧ (∀ j v, eLk j a = some v → eLk j b = some v) ∧ ∀ j v, eLk j b = some v → eLk j a = some v ∨ (∃ x, v = .int x) ∨ ∃ y, v = .long y
theorem eLS.all {a b : eLv} (h : eLS a b) (p : Value → Bool) (hp : ∀ x, p (.int x) = true) (hp2 : ∀ x, p (.long x) = true) : a.all (fun q => p q.2) = b.all (fun q => p q.2) := by
  rw [Bool.eq_iff_iff, eLk_all h.1, eLk_all h.2.1]
  constructor
  · intro h1 j v hj
    rcases h.2.2.2 j v hj with h2 | ⟨x, rfl⟩ | ⟨x, rfl⟩
    · exact h1 j v h2
    · exact hp x
    · exact hp2 x
  · intro h1 j v hj
    exact h1 j v (h.2.2.1 j v hj)
theorem eLS.cf {a b : eLv} (h : eLS a b) (j : Nat) (v : Value) (f : Nat × Value → Bool) (hf : ∀ w, f (j, w) = false) : eLS ((j, v) :: a.filter f) ((j, v) :: b.filter f) := by
  have key : ∀ {l : eLv} (hd : eNd l = true) {i : Nat} {w : Value}, eLk i ((j, v) :: l.filter f) = some w ↔ (Nat.beq j i = true ∧ w = v) ∨ (Nat.beq j i = false ∧ eLk i l = some w ∧ f (i, w) = true) := by
    intro l hd i w
    rw [eLk_cons, (eLk_filter f hd i).1]
    cases Nat.beq j i with
    | true =>
      constructor
      · intro e; exact Or.inl ⟨rfl, (Option.some.inj e).symm⟩
      · rintro (⟨-, e⟩ | ⟨e, -⟩)
        · rw [e]
        · cases e
    | false =>
      cases eLk i l with
      | none => simp
      | some u =>
        simp only [Bool.false_eq_true, false_and, true_and, false_or, Option.some.injEq]
        cases hu : f (i, u) with
        | true => simp only [Option.some.injEq]; exact ⟨fun e => ⟨e, by rw [← e]; exact hu⟩, fun e => e.1⟩
        | false => simp only [reduceCtorEq, false_iff, not_and]; intro e; rw [← e, hu]; exact Bool.false_ne_true
  refine ⟨eNd_cons_filter f h.1 hf, eNd_cons_filter f h.2.1 hf, fun i w hw => ?_, fun i w hw => ?_⟩
  · rw [key h.2.1]
    rcases (key h.1).mp hw with h1 | ⟨h1, h2, h3⟩
    · exact Or.inl h1
    · exact Or.inr ⟨h1, h.2.2.1 _ _ h2, h3⟩
  · rcases (key h.2.1).mp hw with h1 | ⟨h1, h2, h3⟩
    · exact Or.inl ((key h.1).mpr (Or.inl h1))
    · rcases h.2.2.2 _ _ h2 with h4 | h4
      · exact Or.inl ((key h.1).mpr (Or.inr ⟨h1, h4, h3⟩))
      · exact Or.inr h4
theorem eLS.p1 {a b : eLv} (h : eLS a b) (j : Nat) (v : Value) : eLS (eP1 j v a) (eP1 j v b) := h.cf j v _ (fun w => by simp)
theorem eLS.p2 {a b : eLv} (h : eLS a b) (j : Nat) (v : Value) : eLS (eP2 j v a) (eP2 j v b) := h.cf j v _ (fun w => by simp)
def eNS : Option eNx → Option eNx → Prop
  | none, _ => True
  | some (.inl c), some (.inl c') => c.1 = c'.1 ∧ eLS c.2.1 c'.2.1 ∧ c.2.2 = c'.2.2
  | some (.inr (.inl o)), some (.inr (.inl o')) => o = o'
  | some (.inr (.inr q)), some (.inr (.inr q')) => q.1 = q'.1 ∧ q.2.1 = q'.2.1 ∧ q.2.2.1 = q'.2.2.1 ∧ q.2.2.2.1 = q'.2.2.2.1 ∧ eLS q.2.2.2.2.1 q'.2.2.2.2.1 ∧ q.2.2.2.2.2 = q'.2.2.2.2.2
  | _, _ => False
theorem eNS_go {a b : eLv} (h : eLS a b) {pc : Nat} {st : List Value} {N : Nat} {hp : eHp} {k z : Nat} : eNS (eGo pc a st N hp k z) (eGo pc b st N hp k z) := ⟨rfl, h, rfl⟩
theorem eLS.clL {a b : eLv} (h : eLS a b) (N : Nat) : eClL N a = eClL N b := h.all (eClV N) (fun _ => rfl) (fun _ => rfl)
theorem eLS.clA {a b : eLv} (h : eLS a b) (N : Nat) (st : List Value) (hp : eHp) : eClA N a st hp = eClA N b st hp := by unfold eClA; rw [h.clL]
theorem eDo_ls {ox : Nat → Option (Nat × Nat × (Nat → Int32))} {M : eM} {i : Instr} {tg pc : Nat} {a b : eLv} {st : List Value} {N : Nat} {h : eHp} {k z : Nat} (hR : eLS a b) : eNS (eDo ox M i tg pc a st N h k z) (eDo ox M i tg pc b st N h k z) := by
  have hj := hR.2.2.1
  unfold eDo
  split <;> (try simp only [eLi, eLl, eLa, eSi, eSl, eSa, eB, eBl, eIf, eAl, eAlL, eAlD, eAlA, eAs, eAsL, eAsD, eAsA, eLen, eMk, eCopy, eGet, ePut, eNwa, eInv, hR.clA]) <;> (repeat' split) <;> first | exact eNS_go hR | exact eNS_go (hR.p1 _ _) | exact eNS_go (hR.p2 _ _) | trivial | exact rfl | exact ⟨rfl, rfl, rfl, rfl, hR, rfl⟩ | (simp_all; done) | (simp_all [eNS, eGo]; done) | skip
  · rename_i h1 _ _ _ _ h2
    have e9 := (hj _ _ h1).symm.trans h2
    cases e9
    exact eNS_go (hR.p1 _ _)
def eCS (c c' : eC) : Prop := c.1 = c'.1 ∧ eLS c.2.1 c'.2.1 ∧ c.2.2 = c'.2.2
theorem eStep_ls {ox : Nat → Option (Nat × Nat × (Nat → Int32))} {M : eM} {c c' : eC} (h : eCS c c') : eNS (eStep ox M c) (eStep ox M c') := by
  obtain ⟨pc, a, r⟩ := c
  obtain ⟨pc', b, r'⟩ := c'
  obtain ⟨h1, h2, h3⟩ := h
  dsimp only at h1 h2 h3
  subst h1; subst h3
  unfold eStep
  try dsimp only
  split
  · exact eDo_ls h2
  · trivial
theorem eEnd_ls {ox : Nat → Option (Nat × Nat × (Nat → Int32))} {M : eM} {c c' : eC} {q : eR} (h : eCS c c') (he : eEnd ox M c = some q) : eEnd ox M c' = some q := by
  have h1 := eStep_ls (ox := ox) (M := M) h
  unfold eEnd at he ⊢
  rw [← h.2.2]
  revert h1 he
  cases eStep ox M c with
  | none => intro he _; cases he
  | some x => cases eStep ox M c' with
    | none => intro _ h9; rcases x with x | x | x <;> exact absurd h9 id
    | some y =>
      intro he h9
      rcases x with x | x | x <;> rcases y with y | y | y <;> first | exact absurd h9 id | (cases he; done) | (have h8 : x = y := h9; rw [← h8]; exact he)
theorem eBack_ls {M : eM} {c c' : eC} {a b : eLv} {r : List Value} {q : eR} {d : eC} (h : eCS c c') (hl : eLS a b) (hb : eBack M c a r q = some d) : ∃ d', eBack M c' b r q = some d' ∧ eCS d d' := by
  obtain ⟨pc, a0, rr⟩ := c
  obtain ⟨pc', b0, rr'⟩ := c'
  obtain ⟨h1, h2, h3⟩ := h
  dsimp only at h1 h2 h3
  subst h1; subst h3
  unfold eBack at hb ⊢
  dsimp only at hb ⊢
  rw [← hl.clL]
  split at hb
  · rename_i e1
    first | rw [e1] | skip
    split at hb
    · rename_i v e2
      split at hb
      · rename_i e3
        cases hb
        first | rw [e2] | skip
        try dsimp only
        first | rw [e3] | skip
        exact ⟨_, rfl, rfl, hl, rfl⟩
      · cases hb
    · rename_i E e2
      split at hb
      · rename_i t e3
        have e5 := hl.all eN9 (fun _ => rfl) (fun _ => rfl)
        split at hb
        · cases hb
        · rename_i e4
          cases hb
          first | rw [e2] | skip
          try dsimp only
          first | rw [e3] | skip
          try dsimp only
          rw [← e5, e4]
          exact ⟨_, rfl, rfl, hl, rfl⟩
      · cases hb
  · cases hb
theorem eTo_ls {ox : Nat → Option (Nat × Nat × (Nat → Int32))} {C : eM → List Value → Nat → eHp → eR → Prop} {M : eM} : ∀ {n : Nat} {c c' d : eC}, eCS c c' → eTo ox C M n c d → ∃ d', eTo ox C M n c' d' ∧ eCS d d'
  | 0, c, c', d, h, ht => by cases ht; exact ⟨c', rfl, h⟩
  | n + 1, c, c', d, h, ht => by
    have h1 := eStep_ls (ox := ox) (M := M) h
    simp only [eTo] at ht ⊢
    revert h1 ht
    cases hc : eStep ox M c with
    | none => intro ht _; exact ht.elim
    | some x => cases hc' : eStep ox M c' with
      | none => intro _ h9; rcases x with x | x | x <;> exact absurd h9 id
      | some y =>
        intro ht h9
        rcases x with x | x | x
        · rcases y with y | y | y
          · exact eTo_ls h9 ht
          · exact absurd h9 id
          · exact absurd h9 id
        · exact ht.elim
        · rcases y with y | y | y
          · exact absurd h9 id
          · exact absurd h9 id
          · obtain ⟨k1, i1, M1, as1, lv1, r1⟩ := x
            obtain ⟨k2, i2, M2, as2, lv2, r2⟩ := y
            obtain ⟨e1, e2, e3, e4, e5, e6⟩ := h9
            dsimp only at e1 e2 e3 e4 e5 e6 ht ⊢
            subst e1; subst e2; subst e3; subst e4; subst e6
            obtain ⟨q, c1, hq, hb, h2⟩ := ht
            obtain ⟨c2, hb2, h3⟩ := eBack_ls h e5 hb
            obtain ⟨d', h4, h5⟩ := eTo_ls h3 h2
            rw [h.2.2] at hq
            exact ⟨d', ⟨q, c2, hq, hb2, h4⟩, h5⟩
theorem eRn_ls {ox : Nat → Option (Nat × Nat × (Nat → Int32))} {C : eM → List Value → Nat → eHp → eR → Prop} {M : eM} {c c' : eC} {q : eR} (h : eCS c c') (hr : eRn ox C M c q) : eRn ox C M c' q := by
  obtain ⟨n, d, h1, h2⟩ := hr
  obtain ⟨d', h3, h4⟩ := eTo_ls h h1
  exact ⟨n, d', h3, eEnd_ls h4 h2⟩

theorem eW_reL {ox : Nat → Option (Nat × Nat × (Nat → Int32))} {C : eM → List Value → Nat → eHp → eR → Prop} {M : eM} {P : eR → Prop} {pc : Nat} {lv : eLv} {st : List Value} {N : Nat} {h : eHp} {k z : Nat} (lv' : eLv) (h1 : eNd lv' = true) (h2 : eNd lv = true) (h4 : ∀ q ∈ lv', eLk q.1 lv = some q.2) (h5 : ∀ q ∈ lv, eLk q.1 lv' = some q.2 ∨ (∃ x, q.2 = .int x) ∨ ∃ y, q.2 = .long y) (kk : eWp ox C M (pc, lv', st, N, h, k, z) P) : eWp ox C M (pc, lv, st, N, h, k, z) P := by
  obtain ⟨q, a, b⟩ := kk
  exact ⟨q, eRn_ls (c := (pc, lv', st, N, h, k, z)) ⟨rfl, ⟨h1, h2, fun j v hj => h4 _ (eLk_mem hj), fun j v hj => h5 _ (eLk_mem hj)⟩, rfl⟩ a, b⟩
