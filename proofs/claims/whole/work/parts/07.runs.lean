/-! runs of a method's body, backward -/
def eRn (ox : Nat → Option (Nat × Nat × (Nat → Int32))) (C : eM → List Value → Nat → eHp → eR → Prop) (M : eM) (c : eC) (q : eR) : Prop := ∃ n d, eTo ox C M n c d ∧ eEnd ox M d = some q
theorem eRn.go {ox C M} {c c' : eC} {q : eR} (h : eStep ox M c = some (.inl c')) (k : eRn ox C M c' q) : eRn ox C M c q := by
  obtain ⟨n, d, h1, h2⟩ := k
  exact ⟨n + 1, d, by simp only [eTo, h]; exact h1, h2⟩
theorem eRn.call {ox C M} {c c' : eC} {q q1 : eR} {a b : Nat} {M' : eM} {args : List Value} {lv : eLv} {r : List Value} (h : eStep ox M c = some (.inr (.inr (a, b, M', args, lv, r)))) (hc : C M' args c.2.2.2.1 c.2.2.2.2.1 q1) (hb : eBack M c lv r q1 = some c') (k : eRn ox C M c' q) : eRn ox C M c q := by
  obtain ⟨n, d, h1, h2⟩ := k
  exact ⟨n + 1, d, by simp only [eTo, h]; exact ⟨q1, c', hc, hb, h1⟩, h2⟩
theorem eRn.done {ox C M} {c : eC} {q : eR} (h : eEnd ox M c = some q) : eRn ox C M c q := ⟨0, c, rfl, h⟩
theorem eRn.to {ox C M n} {c c' : eC} {q : eR} (h : eTo ox C M n c c') (k : eRn ox C M c' q) : eRn ox C M c q := by
  induction n generalizing c with
  | zero => cases h; exact k
  | succ n ih =>
    simp only [eTo] at h
    split at h
    · rename_i c1 h1
      exact eRn.go h1 (ih h)
    · rename_i h1
      obtain ⟨q1, c1, hc, hb, h2⟩ := h
      exact eRn.call h1 hc hb (ih h2)
    · exact h.elim
theorem eEv_of {d : Nat} {M : eM} {args : List Value} {N : Nat} {h : eHp} {q : eR} (hl : Nat.ble (lg_sl args).length M.2.2.2.1 = true) (k : eRn eOx (eEv d) M (0, lv_args 0 args, [], N, h, 0, 0) q) : eEv (d + 1) M args N h q := ⟨hl, k⟩
