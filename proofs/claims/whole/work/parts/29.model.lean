/-! the model at the names 63 .. 72: its numbers s (by the places of the fields), its rows A: 0 g, 1 kept, 2 saved, 3 before, 4 input, 5 signs, 6 values, 7 has, 8 order -/
def sUp (s : Nat → Int) (j : Nat) (x : Int) : Nat → Int := fun i => match Nat.beq i j with | true => x | false => s i
def mUp (A : Nat → Nat → Int) (k : Nat) (F : Nat → Int) : Nat → Nat → Int := fun i => match Nat.beq i k with | true => F | false => A i
def mCell (s : Nat → Int) : va_E := .inr (11, [.ref 64, .ref 65, .ref 66, .ref 67, vI (s 4), vI (s 5), vI (s 6), vI (s 7), vI (s 8), vI (s 9), .ref 68, vI (s 11), vI (s 12), .ref 69, vI (s 14), .ref 70, .ref 71, vI (s 17), vI (s 18), vI (s 19), vI (s 20), .ref 72, vI (s 22)])
def mM (h : eHp) (s : Nat → Int) (A : Nat → Nat → Int) : Prop := h 63 = mCell s ∧ h 64 = .inl (0, 62, .inl (eIA (A 0))) ∧ h 65 = .inl (0, 496, .inl (eIA (A 1))) ∧ h 66 = .inl (0, 62, .inl (eIA (A 2))) ∧ h 67 = .inl (0, 62, .inl (eIA (A 3))) ∧ h 68 = .inl (0, 60, .inl (eIA (A 4))) ∧ h 69 = .inl (1, 330, .inl (eIA (A 5))) ∧ h 70 = .inl (0, 31, .inl (eIA (A 6))) ∧ h 71 = .inl (2, 256, .inl (eIA (A 7))) ∧ h 72 = .inl (0, 124, .inl (eIA (A 8)))
def mFr (h h' : eHp) : Prop := ∀ i, (i < 63 ∨ 72 < i) → h' i = h i
def mD (h : eHp) (s : Nat → Int) (A : Nat → Nat → Int) : eHp → Prop := fun h' => mM h' s A ∧ mFr h h'
theorem mFr_t {h h1 h2 : eHp} (a : mFr h h1) (b : mFr h1 h2) : mFr h h2 := fun i hi => (b i hi).trans (a i hi)
theorem mFr_s {h h1 h2 : eHp} (a : mFr h h1) (o : ∀ i, i ≠ 63 → h2 i = h1 i) : mFr h h2 := fun i hi => (o i (by omega)).trans (a i hi)
theorem mFr_a {h h1 h2 : eHp} {k : Nat} (a : mFr h h1) (hk : 63 ≤ k ∧ k ≤ 72) (o : ∀ i, i ≠ k → h2 i = h1 i) : mFr h h2 := fun i hi => (o i (by omega)).trans (a i hi)
theorem mM_s {h h' : eHp} {s s' : Nat → Int} {A : Nat → Nat → Int} (hm : mM h s A) (e : h' 63 = mCell s') (o : ∀ i, i ≠ 63 → h' i = h i) : mM h' s' A :=
  ⟨e, by rw [o _ (by decide)]; exact hm.2.1, by rw [o _ (by decide)]; exact hm.2.2.1, by rw [o _ (by decide)]; exact hm.2.2.2.1, by rw [o _ (by decide)]; exact hm.2.2.2.2.1, by rw [o _ (by decide)]; exact hm.2.2.2.2.2.1, by rw [o _ (by decide)]; exact hm.2.2.2.2.2.2.1, by rw [o _ (by decide)]; exact hm.2.2.2.2.2.2.2.1, by rw [o _ (by decide)]; exact hm.2.2.2.2.2.2.2.2.1, by rw [o _ (by decide)]; exact hm.2.2.2.2.2.2.2.2.2⟩
theorem mM_0 {h h' : eHp} {s : Nat → Int} {A A' : Nat → Nat → Int} (hm : mM h s A) (e : h' 64 = .inl (0, 62, .inl (eIA (A' 0)))) (o : ∀ i, i ≠ 64 → h' i = h i) (a9 : A' 1 = A 1 ∧ A' 2 = A 2 ∧ A' 3 = A 3 ∧ A' 4 = A 4 ∧ A' 5 = A 5 ∧ A' 6 = A 6 ∧ A' 7 = A 7 ∧ A' 8 = A 8) : mM h' s A' :=
  ⟨by rw [o _ (by decide)]; exact hm.1, e, by rw [o _ (by decide), a9.1]; exact hm.2.2.1, by rw [o _ (by decide), a9.2.1]; exact hm.2.2.2.1, by rw [o _ (by decide), a9.2.2.1]; exact hm.2.2.2.2.1, by rw [o _ (by decide), a9.2.2.2.1]; exact hm.2.2.2.2.2.1, by rw [o _ (by decide), a9.2.2.2.2.1]; exact hm.2.2.2.2.2.2.1, by rw [o _ (by decide), a9.2.2.2.2.2.1]; exact hm.2.2.2.2.2.2.2.1, by rw [o _ (by decide), a9.2.2.2.2.2.2.1]; exact hm.2.2.2.2.2.2.2.2.1, by rw [o _ (by decide), a9.2.2.2.2.2.2.2]; exact hm.2.2.2.2.2.2.2.2.2⟩
theorem mM_1 {h h' : eHp} {s : Nat → Int} {A A' : Nat → Nat → Int} (hm : mM h s A) (e : h' 65 = .inl (0, 496, .inl (eIA (A' 1)))) (o : ∀ i, i ≠ 65 → h' i = h i) (a9 : A' 0 = A 0 ∧ A' 2 = A 2 ∧ A' 3 = A 3 ∧ A' 4 = A 4 ∧ A' 5 = A 5 ∧ A' 6 = A 6 ∧ A' 7 = A 7 ∧ A' 8 = A 8) : mM h' s A' :=
  ⟨by rw [o _ (by decide)]; exact hm.1, by rw [o _ (by decide), a9.1]; exact hm.2.1, e, by rw [o _ (by decide), a9.2.1]; exact hm.2.2.2.1, by rw [o _ (by decide), a9.2.2.1]; exact hm.2.2.2.2.1, by rw [o _ (by decide), a9.2.2.2.1]; exact hm.2.2.2.2.2.1, by rw [o _ (by decide), a9.2.2.2.2.1]; exact hm.2.2.2.2.2.2.1, by rw [o _ (by decide), a9.2.2.2.2.2.1]; exact hm.2.2.2.2.2.2.2.1, by rw [o _ (by decide), a9.2.2.2.2.2.2.1]; exact hm.2.2.2.2.2.2.2.2.1, by rw [o _ (by decide), a9.2.2.2.2.2.2.2]; exact hm.2.2.2.2.2.2.2.2.2⟩
theorem mM_2 {h h' : eHp} {s : Nat → Int} {A A' : Nat → Nat → Int} (hm : mM h s A) (e : h' 66 = .inl (0, 62, .inl (eIA (A' 2)))) (o : ∀ i, i ≠ 66 → h' i = h i) (a9 : A' 0 = A 0 ∧ A' 1 = A 1 ∧ A' 3 = A 3 ∧ A' 4 = A 4 ∧ A' 5 = A 5 ∧ A' 6 = A 6 ∧ A' 7 = A 7 ∧ A' 8 = A 8) : mM h' s A' :=
  ⟨by rw [o _ (by decide)]; exact hm.1, by rw [o _ (by decide), a9.1]; exact hm.2.1, by rw [o _ (by decide), a9.2.1]; exact hm.2.2.1, e, by rw [o _ (by decide), a9.2.2.1]; exact hm.2.2.2.2.1, by rw [o _ (by decide), a9.2.2.2.1]; exact hm.2.2.2.2.2.1, by rw [o _ (by decide), a9.2.2.2.2.1]; exact hm.2.2.2.2.2.2.1, by rw [o _ (by decide), a9.2.2.2.2.2.1]; exact hm.2.2.2.2.2.2.2.1, by rw [o _ (by decide), a9.2.2.2.2.2.2.1]; exact hm.2.2.2.2.2.2.2.2.1, by rw [o _ (by decide), a9.2.2.2.2.2.2.2]; exact hm.2.2.2.2.2.2.2.2.2⟩
theorem mM_3 {h h' : eHp} {s : Nat → Int} {A A' : Nat → Nat → Int} (hm : mM h s A) (e : h' 67 = .inl (0, 62, .inl (eIA (A' 3)))) (o : ∀ i, i ≠ 67 → h' i = h i) (a9 : A' 0 = A 0 ∧ A' 1 = A 1 ∧ A' 2 = A 2 ∧ A' 4 = A 4 ∧ A' 5 = A 5 ∧ A' 6 = A 6 ∧ A' 7 = A 7 ∧ A' 8 = A 8) : mM h' s A' :=
  ⟨by rw [o _ (by decide)]; exact hm.1, by rw [o _ (by decide), a9.1]; exact hm.2.1, by rw [o _ (by decide), a9.2.1]; exact hm.2.2.1, by rw [o _ (by decide), a9.2.2.1]; exact hm.2.2.2.1, e, by rw [o _ (by decide), a9.2.2.2.1]; exact hm.2.2.2.2.2.1, by rw [o _ (by decide), a9.2.2.2.2.1]; exact hm.2.2.2.2.2.2.1, by rw [o _ (by decide), a9.2.2.2.2.2.1]; exact hm.2.2.2.2.2.2.2.1, by rw [o _ (by decide), a9.2.2.2.2.2.2.1]; exact hm.2.2.2.2.2.2.2.2.1, by rw [o _ (by decide), a9.2.2.2.2.2.2.2]; exact hm.2.2.2.2.2.2.2.2.2⟩
theorem mM_4 {h h' : eHp} {s : Nat → Int} {A A' : Nat → Nat → Int} (hm : mM h s A) (e : h' 68 = .inl (0, 60, .inl (eIA (A' 4)))) (o : ∀ i, i ≠ 68 → h' i = h i) (a9 : A' 0 = A 0 ∧ A' 1 = A 1 ∧ A' 2 = A 2 ∧ A' 3 = A 3 ∧ A' 5 = A 5 ∧ A' 6 = A 6 ∧ A' 7 = A 7 ∧ A' 8 = A 8) : mM h' s A' :=
  ⟨by rw [o _ (by decide)]; exact hm.1, by rw [o _ (by decide), a9.1]; exact hm.2.1, by rw [o _ (by decide), a9.2.1]; exact hm.2.2.1, by rw [o _ (by decide), a9.2.2.1]; exact hm.2.2.2.1, by rw [o _ (by decide), a9.2.2.2.1]; exact hm.2.2.2.2.1, e, by rw [o _ (by decide), a9.2.2.2.2.1]; exact hm.2.2.2.2.2.2.1, by rw [o _ (by decide), a9.2.2.2.2.2.1]; exact hm.2.2.2.2.2.2.2.1, by rw [o _ (by decide), a9.2.2.2.2.2.2.1]; exact hm.2.2.2.2.2.2.2.2.1, by rw [o _ (by decide), a9.2.2.2.2.2.2.2]; exact hm.2.2.2.2.2.2.2.2.2⟩
theorem mM_5 {h h' : eHp} {s : Nat → Int} {A A' : Nat → Nat → Int} (hm : mM h s A) (e : h' 69 = .inl (1, 330, .inl (eIA (A' 5)))) (o : ∀ i, i ≠ 69 → h' i = h i) (a9 : A' 0 = A 0 ∧ A' 1 = A 1 ∧ A' 2 = A 2 ∧ A' 3 = A 3 ∧ A' 4 = A 4 ∧ A' 6 = A 6 ∧ A' 7 = A 7 ∧ A' 8 = A 8) : mM h' s A' :=
  ⟨by rw [o _ (by decide)]; exact hm.1, by rw [o _ (by decide), a9.1]; exact hm.2.1, by rw [o _ (by decide), a9.2.1]; exact hm.2.2.1, by rw [o _ (by decide), a9.2.2.1]; exact hm.2.2.2.1, by rw [o _ (by decide), a9.2.2.2.1]; exact hm.2.2.2.2.1, by rw [o _ (by decide), a9.2.2.2.2.1]; exact hm.2.2.2.2.2.1, e, by rw [o _ (by decide), a9.2.2.2.2.2.1]; exact hm.2.2.2.2.2.2.2.1, by rw [o _ (by decide), a9.2.2.2.2.2.2.1]; exact hm.2.2.2.2.2.2.2.2.1, by rw [o _ (by decide), a9.2.2.2.2.2.2.2]; exact hm.2.2.2.2.2.2.2.2.2⟩
theorem mM_6 {h h' : eHp} {s : Nat → Int} {A A' : Nat → Nat → Int} (hm : mM h s A) (e : h' 70 = .inl (0, 31, .inl (eIA (A' 6)))) (o : ∀ i, i ≠ 70 → h' i = h i) (a9 : A' 0 = A 0 ∧ A' 1 = A 1 ∧ A' 2 = A 2 ∧ A' 3 = A 3 ∧ A' 4 = A 4 ∧ A' 5 = A 5 ∧ A' 7 = A 7 ∧ A' 8 = A 8) : mM h' s A' :=
  ⟨by rw [o _ (by decide)]; exact hm.1, by rw [o _ (by decide), a9.1]; exact hm.2.1, by rw [o _ (by decide), a9.2.1]; exact hm.2.2.1, by rw [o _ (by decide), a9.2.2.1]; exact hm.2.2.2.1, by rw [o _ (by decide), a9.2.2.2.1]; exact hm.2.2.2.2.1, by rw [o _ (by decide), a9.2.2.2.2.1]; exact hm.2.2.2.2.2.1, by rw [o _ (by decide), a9.2.2.2.2.2.1]; exact hm.2.2.2.2.2.2.1, e, by rw [o _ (by decide), a9.2.2.2.2.2.2.1]; exact hm.2.2.2.2.2.2.2.2.1, by rw [o _ (by decide), a9.2.2.2.2.2.2.2]; exact hm.2.2.2.2.2.2.2.2.2⟩
theorem mM_7 {h h' : eHp} {s : Nat → Int} {A A' : Nat → Nat → Int} (hm : mM h s A) (e : h' 71 = .inl (2, 256, .inl (eIA (A' 7)))) (o : ∀ i, i ≠ 71 → h' i = h i) (a9 : A' 0 = A 0 ∧ A' 1 = A 1 ∧ A' 2 = A 2 ∧ A' 3 = A 3 ∧ A' 4 = A 4 ∧ A' 5 = A 5 ∧ A' 6 = A 6 ∧ A' 8 = A 8) : mM h' s A' :=
  ⟨by rw [o _ (by decide)]; exact hm.1, by rw [o _ (by decide), a9.1]; exact hm.2.1, by rw [o _ (by decide), a9.2.1]; exact hm.2.2.1, by rw [o _ (by decide), a9.2.2.1]; exact hm.2.2.2.1, by rw [o _ (by decide), a9.2.2.2.1]; exact hm.2.2.2.2.1, by rw [o _ (by decide), a9.2.2.2.2.1]; exact hm.2.2.2.2.2.1, by rw [o _ (by decide), a9.2.2.2.2.2.1]; exact hm.2.2.2.2.2.2.1, by rw [o _ (by decide), a9.2.2.2.2.2.2.1]; exact hm.2.2.2.2.2.2.2.1, e, by rw [o _ (by decide), a9.2.2.2.2.2.2.2]; exact hm.2.2.2.2.2.2.2.2.2⟩
theorem mM_8 {h h' : eHp} {s : Nat → Int} {A A' : Nat → Nat → Int} (hm : mM h s A) (e : h' 72 = .inl (0, 124, .inl (eIA (A' 8)))) (o : ∀ i, i ≠ 72 → h' i = h i) (a9 : A' 0 = A 0 ∧ A' 1 = A 1 ∧ A' 2 = A 2 ∧ A' 3 = A 3 ∧ A' 4 = A 4 ∧ A' 5 = A 5 ∧ A' 6 = A 6 ∧ A' 7 = A 7) : mM h' s A' :=
  ⟨by rw [o _ (by decide)]; exact hm.1, by rw [o _ (by decide), a9.1]; exact hm.2.1, by rw [o _ (by decide), a9.2.1]; exact hm.2.2.1, by rw [o _ (by decide), a9.2.2.1]; exact hm.2.2.2.1, by rw [o _ (by decide), a9.2.2.2.1]; exact hm.2.2.2.2.1, by rw [o _ (by decide), a9.2.2.2.2.1]; exact hm.2.2.2.2.2.1, by rw [o _ (by decide), a9.2.2.2.2.2.1]; exact hm.2.2.2.2.2.2.1, by rw [o _ (by decide), a9.2.2.2.2.2.2.1]; exact hm.2.2.2.2.2.2.2.1, by rw [o _ (by decide), a9.2.2.2.2.2.2.2]; exact hm.2.2.2.2.2.2.2.2.1, e⟩
theorem mM_k {h h' : eHp} {s : Nat → Int} {A : Nat → Nat → Int} (hm : mM h s A) (o : ∀ i, 63 ≤ i → i ≤ 72 → h' i = h i) : mM h' s A :=
  ⟨by rw [o _ (by decide) (by decide)]; exact hm.1, by rw [o _ (by decide) (by decide)]; exact hm.2.1, by rw [o _ (by decide) (by decide)]; exact hm.2.2.1, by rw [o _ (by decide) (by decide)]; exact hm.2.2.2.1, by rw [o _ (by decide) (by decide)]; exact hm.2.2.2.2.1, by rw [o _ (by decide) (by decide)]; exact hm.2.2.2.2.2.1, by rw [o _ (by decide) (by decide)]; exact hm.2.2.2.2.2.2.1, by rw [o _ (by decide) (by decide)]; exact hm.2.2.2.2.2.2.2.1, by rw [o _ (by decide) (by decide)]; exact hm.2.2.2.2.2.2.2.2.1, by rw [o _ (by decide) (by decide)]; exact hm.2.2.2.2.2.2.2.2.2⟩
theorem eUp_eq {F : Nat → Int} {i j : Nat} {x : Int} (h : j = i) : eUp F i x j = x := by unfold eUp; rw [if_pos h]
theorem eUp_ne {F : Nat → Int} {i j : Nat} {x : Int} (h : j ≠ i) : eUp F i x j = F j := by unfold eUp; rw [if_neg h]
/-- the model's row and a garden -/
def rR (G : eGd) (g : Nat → Int) : Prop := g 0 = G.2.2.2.1 ∧ g 1 = G.2.2.2.2.1 ∧ g 2 = G.2.2.2.2.2.1 ∧ g 3 = G.2.2.1 1 + G.2.2.1 5 ∧ g 4 = G.2.2.2.2.2.2.1 ∧ g 5 = G.2.2.2.2.2.2.2 ∧ g 6 = G.2.2.1 3 + G.2.2.1 7 ∧ g 7 = gWin G ∧ (∀ i : Nat, i < 6 → g (8 + i) = G.2.1 i) ∧ (∀ i : Nat, i < 8 → g (14 + i) = G.2.2.1 i) ∧ (∀ i : Nat, (i : Int) < G.2.2.2.1 → g (22 + i) = G.1 i)
/-- a garden's rules; c bounds what is counted -/
def gI (c : Int) (G : eGd) : Prop := gOk G ∧ (G.2.2.2.2.1 = 0 ∨ G.2.2.2.2.1 = 1) ∧ (∀ i : Nat, (i : Int) < G.2.2.2.1 → 1 ≤ G.1 i ∧ G.1 i ≤ 30) ∧ gSum G.1 G.2.2.2.1.toNat ≤ 40 ∧ (∀ i : Nat, i < 8 → 0 ≤ G.2.2.1 i ∧ G.2.2.1 i ≤ 6 * c) ∧ G.2.2.1 0 + G.2.2.1 4 ≤ c ∧ (0 ≤ G.2.2.2.2.2.1 ∧ G.2.2.2.2.2.1 ≤ 30 * c) ∧ (0 ≤ G.2.2.2.2.2.2.1 ∧ G.2.2.2.2.2.2.1 ≤ 40 * c) ∧ (0 ≤ G.2.2.2.2.2.2.2 ∧ G.2.2.2.2.2.2.2 ≤ c) ∧ G.2.2.2.2.2.1 = gSum G.1 G.2.2.2.1.toNat + (G.2.2.1 1 + G.2.2.1 5) + G.2.2.2.2.2.2.1
theorem rR_m {G : eGd} {g : Nat → Int} {p : Int} (hr : rR G g) (h0 : 0 ≤ p) (h1 : p < G.2.2.2.1) : eIA g (22 + p).toNat = Int32.ofInt (G.1 p.toNat) :=
  congrArg Int32.ofInt (by rw [show (22 + p).toNat = 22 + p.toNat by omega]; exact hr.2.2.2.2.2.2.2.2.2.2 _ (by omega))
theorem rR_d {G : eGd} {g : Nat → Int} {t : Int} (hr : rR G g) (h0 : 1 ≤ t) (h1 : t ≤ 6) : eIA g (7 + t).toNat = Int32.ofInt (gDig G t) :=
  congrArg Int32.ofInt (by rw [show (7 + t).toNat = 8 + (t - 1).toNat by omega, hr.2.2.2.2.2.2.2.2.1 _ (by omega), gDig_t h0 h1])
theorem rR_t {G : eGd} {g : Nat → Int} {m w : Int} (hr : rR G g) (h : 0 ≤ m ∧ m < 2 ∧ 0 ≤ w ∧ w < 4) : eIA g (14 + 4 * m + w).toNat = Int32.ofInt (gTal G m w) :=
  congrArg Int32.ofInt (by rw [show (14 + 4 * m + w).toNat = 14 + (m * 4 + w).toNat by omega, hr.2.2.2.2.2.2.2.2.2.1 _ (by omega), gTal_t h])
theorem eB01_nar (b : Bool) : vp_nar .boolean (Int32.ofInt (eB01 b)) = Int32.ofInt (eB01 b) := by cases b <;> rfl
theorem eD_c (P : Prop) [Decidable P] : (P ∧ eB01 (decide P) = 1) ∨ (¬ P ∧ eB01 (decide P) = 0) := by
  by_cases h : P
  · exact Or.inl ⟨h, by rw [decide_eq_true h]; rfl⟩
  · exact Or.inr ⟨h, by rw [decide_eq_false h]; rfl⟩
theorem m_thrown {d N : Nat} {h : eHp} {s : Nat → Int} {A : Nat → Nat → Int} (hm : mM h s A) (hN : 75 ≤ N)  : eSp (d + 1) eM_X7_thrown [.ref 63] N h (eRet (some (vI (s 7))) N h) := by
  refine eSp_of [(0, .ref 63)] rfl rfl ?_
  refine eW_aload_n 1 rfl rfl rfl ?_
  refine eW_getfield 4 rfl rfl (Nat.ble_eq_true_of_le (by omega)) rfl hm.1 rfl ⟨rfl, fun _ h9 => nomatch h9⟩ ?_
  refine eW_ret_i rfl rfl (Or.inl rfl) ?_
  rfl
theorem m_fails {d N : Nat} {h : eHp} {s : Nat → Int} {A : Nat → Nat → Int} (hm : mM h s A) (hN : 75 ≤ N) {k : Int} (hk : i32 k) : eSp (d + 1) eM_X7_fails [.ref 63, vI k] N h (eChg (some (vI (eB01 (decide (0 < k))))) N (mD h (sUp s 7 k) A)) := by
  refine eSp_of [(0, .ref 63), (1, vI k)] rfl rfl ?_
  have hb := eD_c (0 < k)
  unfold i32 at hk
  refine eW_aload_n 1 rfl rfl rfl ?_
  refine eW_iload_n 2 rfl rfl rfl ?_
  refine eW_putfield 5 [.ref 64, .ref 65, .ref 66, .ref 67, vI (s 4), vI (s 5), vI (s 6), vI k, vI (s 8), vI (s 9), .ref 68, vI (s 11), vI (s 12), .ref 69, vI (s 14), .ref 70, .ref 71, vI (s 17), vI (s 18), vI (s 19), vI (s 20), .ref 72, vI (s 22)] rfl rfl (Nat.ble_eq_true_of_le (by omega)) rfl hm.1 rfl rfl ?_
  intro h1 eh1 oh1
  have hmh1 : mM h1 (sUp s 7 k) A := mM_s (s := s) hm eh1 oh1
  have frh1 : mFr h h1 := mFr_s (fun _ _ => rfl) oh1
  refine eW_iload_n 6 rfl rfl rfl ?_
  refine eW_if_le 9 rfl rfl (by unfold i32; omega) (fun c2 => ?_) (fun c2 => ?_)
  · refine eW_iconst 14 rfl rfl ?_
    refine eW_ret_i rfl rfl (Or.inr (Or.inl ⟨rfl, rfl⟩)) ?_
    rw [show eB01 (decide (0 < k)) = 0 by omega]
    exact ⟨_, rfl, hmh1, frh1⟩
  · refine eW_iconst 10 rfl rfl ?_
    refine eW_goto rfl ?_
    refine eW_ret_i rfl rfl (Or.inr (Or.inl ⟨rfl, rfl⟩)) ?_
    rw [show eB01 (decide (0 < k)) = 1 by omega]
    exact ⟨_, rfl, hmh1, frh1⟩
theorem m_refuses {d N : Nat} {h : eHp} {s : Nat → Int} {A : Nat → Nat → Int} (hm : mM h s A) (hN : 75 ≤ N) {a b c : Int} : eSp (d + 1) eM_X7_refuses [.ref 63, vI a, vI b, vI c] N h (eChg (some (vI 0)) N (mD h (sUp (sUp (sUp s 7 a) 8 b) 9 c) A)) := by
  refine eSp_of [(0, .ref 63), (1, vI a), (2, vI b), (3, vI c)] rfl rfl ?_
  refine eW_aload_n 1 rfl rfl rfl ?_
  refine eW_iload_n 2 rfl rfl rfl ?_
  refine eW_putfield 5 [.ref 64, .ref 65, .ref 66, .ref 67, vI (s 4), vI (s 5), vI (s 6), vI a, vI (s 8), vI (s 9), .ref 68, vI (s 11), vI (s 12), .ref 69, vI (s 14), .ref 70, .ref 71, vI (s 17), vI (s 18), vI (s 19), vI (s 20), .ref 72, vI (s 22)] rfl rfl (Nat.ble_eq_true_of_le (by omega)) rfl hm.1 rfl rfl ?_
  intro h1 eh1 oh1
  have hmh1 : mM h1 (sUp s 7 a) A := mM_s (s := s) hm eh1 oh1
  have frh1 : mFr h h1 := mFr_s (fun _ _ => rfl) oh1
  refine eW_aload_n 6 rfl rfl rfl ?_
  refine eW_iload_n 7 rfl rfl rfl ?_
  refine eW_putfield 10 [.ref 64, .ref 65, .ref 66, .ref 67, vI (s 4), vI (s 5), vI (s 6), vI a, vI b, vI (s 9), .ref 68, vI (s 11), vI (s 12), .ref 69, vI (s 14), .ref 70, .ref 71, vI (s 17), vI (s 18), vI (s 19), vI (s 20), .ref 72, vI (s 22)] rfl rfl (Nat.ble_eq_true_of_le (by omega)) rfl (show h1 63 = .inr (11, [.ref 64, .ref 65, .ref 66, .ref 67, vI (s 4), vI (s 5), vI (s 6), vI a, vI (s 8), vI (s 9), .ref 68, vI (s 11), vI (s 12), .ref 69, vI (s 14), .ref 70, .ref 71, vI (s 17), vI (s 18), vI (s 19), vI (s 20), .ref 72, vI (s 22)]) from hmh1.1) rfl rfl ?_
  intro h2 eh2 oh2
  have hmh2 : mM h2 (sUp (sUp s 7 a) 8 b) A := mM_s (s := (sUp s 7 a)) hmh1 eh2 oh2
  have frh2 : mFr h h2 := mFr_s frh1 oh2
  refine eW_aload_n 11 rfl rfl rfl ?_
  refine eW_iload_n 12 rfl rfl rfl ?_
  refine eW_putfield 15 [.ref 64, .ref 65, .ref 66, .ref 67, vI (s 4), vI (s 5), vI (s 6), vI a, vI b, vI c, .ref 68, vI (s 11), vI (s 12), .ref 69, vI (s 14), .ref 70, .ref 71, vI (s 17), vI (s 18), vI (s 19), vI (s 20), .ref 72, vI (s 22)] rfl rfl (Nat.ble_eq_true_of_le (by omega)) rfl (show h2 63 = .inr (11, [.ref 64, .ref 65, .ref 66, .ref 67, vI (s 4), vI (s 5), vI (s 6), vI a, vI b, vI (s 9), .ref 68, vI (s 11), vI (s 12), .ref 69, vI (s 14), .ref 70, .ref 71, vI (s 17), vI (s 18), vI (s 19), vI (s 20), .ref 72, vI (s 22)]) from hmh2.1) rfl rfl ?_
  intro h3 eh3 oh3
  have hmh3 : mM h3 (sUp (sUp (sUp s 7 a) 8 b) 9 c) A := mM_s (s := (sUp (sUp s 7 a) 8 b)) hmh2 eh3 oh3
  have frh3 : mFr h h3 := mFr_s frh2 oh3
  refine eW_iconst 16 rfl rfl ?_
  refine eW_ret_i rfl rfl (Or.inl rfl) ?_
  exact ⟨_, rfl, hmh3, frh3⟩
theorem m_in {d N : Nat} {h : eHp} {v a b : Int} (hv : i32 v) (ha : i32 a) (hb : i32 b) : eSp (d + 1) eM_X7_in [vI v, vI a, vI b] N h (eRet (some (vI (eB01 (decide (a ≤ v ∧ v ≤ b))))) N h) := by
  refine eSp_of [(0, vI v), (1, vI a), (2, vI b)] rfl rfl ?_
  have hd := eD_c (a ≤ v ∧ v ≤ b)
  unfold i32 at hv ha hb
  refine eW_iload_n 1 rfl rfl rfl ?_
  refine eW_iload_n 2 rfl rfl rfl ?_
  refine eW_icmp_lt 5 rfl rfl (by unfold i32; omega) (by unfold i32; omega) (fun c1 => ?_) (fun c1 => ?_)
  · refine eW_iconst 15 rfl rfl ?_
    refine eW_ret_i rfl rfl (Or.inr (Or.inl ⟨rfl, rfl⟩)) ?_
    exact eRet_i (by omega)
  · refine eW_iload_n 6 rfl rfl rfl ?_
    refine eW_iload_n 7 rfl rfl rfl ?_
    refine eW_icmp_gt 10 rfl rfl (by unfold i32; omega) (by unfold i32; omega) (fun c2 => ?_) (fun c2 => ?_)
    · refine eW_iconst 15 rfl rfl ?_
      refine eW_ret_i rfl rfl (Or.inr (Or.inl ⟨rfl, rfl⟩)) ?_
      exact eRet_i (by omega)
    · refine eW_iconst 11 rfl rfl ?_
      refine eW_goto rfl ?_
      refine eW_ret_i rfl rfl (Or.inr (Or.inl ⟨rfl, rfl⟩)) ?_
      exact eRet_i (by omega)
theorem m_isPit {d N : Nat} {h : eHp} {s : Nat → Int} {A : Nat → Nat → Int} (hm : mM h s A) (hN : 75 ≤ N) {G : eGd} (hr : rR G (A 0)) (hG : gOk G) {p : Int} (hp : i32 p) : eSp (d + 2) eM_X7_isPit [.ref 63, vI p] N h (eRet (some (vI (eB01 (gHas G p)))) N h) := by
  refine eSp_of [(0, .ref 63), (1, vI p)] rfl rfl ?_
  have hG9 := hG
  obtain ⟨g1, g2, g3, g4⟩ := hG9
  unfold i32 at hp
  have hh := gHas_c G p
  refine eW_iload_n 1 rfl rfl rfl ?_
  refine eW_iconst 2 rfl rfl ?_
  refine eW_aload_n 3 rfl rfl rfl ?_
  refine eW_getfield 6 rfl rfl (Nat.ble_eq_true_of_le (by omega)) rfl hm.1 rfl ⟨rfl, fun _ h9 => nomatch h9⟩ ?_
  refine eW_iconst 7 rfl rfl ?_
  refine eW_iaload 8 rfl rfl G.2.2.2.1 (Nat.ble_eq_true_of_le (by omega)) (show h 64 = .inl (0, 62, .inl (eIA (A 0))) from hm.2.1) (by omega) (by omega) (by unfold i32; omega) (congrArg Int32.ofInt hr.1) ?_
  refine eW_iconst 9 rfl rfl ?_
  refine eW_isub 10 rfl rfl ?_
  have hinq1 := eD_c ((0 : Int) ≤ p ∧ p ≤ (G.2.2.2.1 - 1))
  refine eW_callS 13 [vI p, vI 0, vI (G.2.2.2.1 - 1)] [] [vI (eB01 (decide ((0 : Int) ≤ p ∧ p ≤ (G.2.2.2.1 - 1))))] rfl rfl rfl (Or.inl rfl) rfl rfl rfl (m_in (d := d + 0) (by unfold i32; omega) (by unfold i32; omega) (by unfold i32; omega)) rfl rfl ?_
  refine eW_ret_i rfl rfl (Or.inr (Or.inl ⟨rfl, (eB01_nar _)⟩)) ?_
  exact eRet_i (by omega)
theorem m_marbles {d N : Nat} {h : eHp} {s : Nat → Int} {A : Nat → Nat → Int} (hm : mM h s A) (hN : 75 ≤ N) {G : eGd} (hr : rR G (A 0)) (hG : gOk G) {p : Int} (hp : 0 ≤ p ∧ p < G.2.2.2.1) : eSp (d + 1) eM_X7_marbles [.ref 63, vI p] N h (eRet (some (vI (G.1 p.toNat))) N h) := by
  refine eSp_of [(0, .ref 63), (1, vI p)] rfl rfl ?_
  have hG9 := hG
  obtain ⟨g1, g2, g3, g4⟩ := hG9
  refine eW_aload_n 1 rfl rfl rfl ?_
  refine eW_getfield 4 rfl rfl (Nat.ble_eq_true_of_le (by omega)) rfl hm.1 rfl ⟨rfl, fun _ h9 => nomatch h9⟩ ?_
  refine eW_bipush 6 rfl rfl 22 rfl ?_
  refine eW_iload_n 7 rfl rfl rfl ?_
  refine eW_iadd 8 rfl rfl ?_
  refine eW_iaload 9 rfl rfl (G.1 p.toNat) (Nat.ble_eq_true_of_le (by omega)) (show h 64 = .inl (0, 62, .inl (eIA (A 0))) from hm.2.1) (by omega) (by omega) (by unfold i32; omega) (rR_m hr (by omega) (by omega)) ?_
  refine eW_ret_i rfl rfl (Or.inl rfl) ?_
  rfl
theorem m_all_l {d N k z : Nat} {h : eHp} {s : Nat → Int} {A : Nat → Nat → Int} (hm : mM h s A) (hN : 75 ≤ N) {P : eR → Prop} {G : eGd} (hr : rR G (A 0)) (hG : gOk G) : ∀ (m9 : Nat) (a i : Int), G.2.2.2.1 - i ≤ m9 → 0 ≤ i → i ≤ G.2.2.2.1 → a = gSum G.1 i.toNat → (∀ (a i : Int), a = gSum G.1 G.2.2.2.1.toNat → eWp eOx (eEv (d + 1)) eM_X7_marblesNow (28, [(0, .ref 63), (1, vI a), (2, vI i)], [], N, h, k, z) P) → eWp eOx (eEv (d + 1)) eM_X7_marblesNow (4, [(0, .ref 63), (1, vI a), (2, vI i)], [], N, h, k, z) P := by
  intro m9
  induction m9 with
  | zero =>
    intro a i hm9 q0 q1 q2 kk
    have hG9 := hG
    obtain ⟨g1, g2, g3, g4⟩ := hG9
    refine eW_iload_n 5 rfl rfl rfl ?_
    refine eW_aload_n 6 rfl rfl rfl ?_
    refine eW_getfield 9 rfl rfl (Nat.ble_eq_true_of_le (by omega)) rfl hm.1 rfl ⟨rfl, fun _ h9 => nomatch h9⟩ ?_
    refine eW_iconst 10 rfl rfl ?_
    refine eW_iaload 11 rfl rfl G.2.2.2.1 (Nat.ble_eq_true_of_le (by omega)) (show h 64 = .inl (0, 62, .inl (eIA (A 0))) from hm.2.1) (by omega) (by omega) (by unfold i32; omega) (congrArg Int32.ofInt hr.1) ?_
    refine eW_icmp_ge 14 rfl rfl (by unfold i32; omega) (by unfold i32; omega) (fun c1 => ?_) (fun c1 => ?_)
    · refine kk _ _ ?_
      rw [q2, show i = G.2.2.2.1 by omega]
    · refine eW_iload_n 15 rfl rfl rfl ?_
      refine eW_aload_n 16 rfl rfl rfl ?_
      refine eW_iload_n 17 rfl rfl rfl ?_
      have hmbq2 := g3 i.toNat (by omega)
      refine eW_callV 20 [.ref 63, vI i] [vI a] [vI (G.1 i.toNat), vI a] rfl rfl rfl rfl (Nat.ble_eq_true_of_le (by omega)) hm.1 rfl rfl rfl (m_marbles (d := d + 0) hm hN hr hG (by omega)) rfl rfl ?_
      refine eW_iadd 21 rfl rfl ?_
      refine eW_istore_n 22 rfl rfl [(1, vI (a + (G.1 i.toNat))), (0, .ref 63), (2, vI i)] rfl rfl ?_
      refine eW_iinc 25 rfl rfl [(2, vI (i + 1)), (1, vI (a + (G.1 i.toNat))), (0, .ref 63)] rfl rfl rfl ?_
      refine eW_goto rfl ?_
      refine eW_re [(0, .ref 63), (1, vI (a + (G.1 i.toNat))), (2, vI (i + 1))] rfl rfl (List.forall_mem_cons.mpr ⟨rfl, List.forall_mem_cons.mpr ⟨rfl, List.forall_mem_cons.mpr ⟨rfl, fun _ h => absurd h List.not_mem_nil⟩⟩⟩) (List.forall_mem_cons.mpr ⟨Or.inl rfl, List.forall_mem_cons.mpr ⟨Or.inl rfl, List.forall_mem_cons.mpr ⟨Or.inl rfl, fun _ h => absurd h List.not_mem_nil⟩⟩⟩) ?_
      exact absurd hm9 (by omega)
  | succ m9 ih =>
    intro a i hm9 q0 q1 q2 kk
    have hG9 := hG
    obtain ⟨g1, g2, g3, g4⟩ := hG9
    refine eW_iload_n 5 rfl rfl rfl ?_
    refine eW_aload_n 6 rfl rfl rfl ?_
    refine eW_getfield 9 rfl rfl (Nat.ble_eq_true_of_le (by omega)) rfl hm.1 rfl ⟨rfl, fun _ h9 => nomatch h9⟩ ?_
    refine eW_iconst 10 rfl rfl ?_
    refine eW_iaload 11 rfl rfl G.2.2.2.1 (Nat.ble_eq_true_of_le (by omega)) (show h 64 = .inl (0, 62, .inl (eIA (A 0))) from hm.2.1) (by omega) (by omega) (by unfold i32; omega) (congrArg Int32.ofInt hr.1) ?_
    refine eW_icmp_ge 14 rfl rfl (by unfold i32; omega) (by unfold i32; omega) (fun c1 => ?_) (fun c1 => ?_)
    · refine kk _ _ ?_
      rw [q2, show i = G.2.2.2.1 by omega]
    · refine eW_iload_n 15 rfl rfl rfl ?_
      refine eW_aload_n 16 rfl rfl rfl ?_
      refine eW_iload_n 17 rfl rfl rfl ?_
      have hmbq2 := g3 i.toNat (by omega)
      refine eW_callV 20 [.ref 63, vI i] [vI a] [vI (G.1 i.toNat), vI a] rfl rfl rfl rfl (Nat.ble_eq_true_of_le (by omega)) hm.1 rfl rfl rfl (m_marbles (d := d + 0) hm hN hr hG (by omega)) rfl rfl ?_
      refine eW_iadd 21 rfl rfl ?_
      refine eW_istore_n 22 rfl rfl [(1, vI (a + (G.1 i.toNat))), (0, .ref 63), (2, vI i)] rfl rfl ?_
      refine eW_iinc 25 rfl rfl [(2, vI (i + 1)), (1, vI (a + (G.1 i.toNat))), (0, .ref 63)] rfl rfl rfl ?_
      refine eW_goto rfl ?_
      refine eW_re [(0, .ref 63), (1, vI (a + (G.1 i.toNat))), (2, vI (i + 1))] rfl rfl (List.forall_mem_cons.mpr ⟨rfl, List.forall_mem_cons.mpr ⟨rfl, List.forall_mem_cons.mpr ⟨rfl, fun _ h => absurd h List.not_mem_nil⟩⟩⟩) (List.forall_mem_cons.mpr ⟨Or.inl rfl, List.forall_mem_cons.mpr ⟨Or.inl rfl, List.forall_mem_cons.mpr ⟨Or.inl rfl, fun _ h => absurd h List.not_mem_nil⟩⟩⟩) ?_
      refine ih _ (i + 1) (by omega) (by omega) (by omega) ?_ kk
      rw [q2, gSum_succ q0]
theorem m_all {d N : Nat} {h : eHp} {s : Nat → Int} {A : Nat → Nat → Int} (hm : mM h s A) (hN : 75 ≤ N) {G : eGd} (hr : rR G (A 0)) (hG : gOk G) : eSp (d + 2) eM_X7_marblesNow [.ref 63] N h (eRet (some (vI (gSum G.1 G.2.2.2.1.toNat))) N h) := by
  refine eSp_of [(0, .ref 63)] rfl rfl ?_
  have hG9 := hG
  obtain ⟨g1, g2, g3, g4⟩ := hG9
  refine eW_iconst 1 rfl rfl ?_
  refine eW_istore_n 2 rfl rfl [(1, vI 0), (0, .ref 63)] rfl rfl ?_
  refine eW_iconst 3 rfl rfl ?_
  refine eW_istore_n 4 rfl rfl [(2, vI 0), (1, vI 0), (0, .ref 63)] rfl rfl ?_
  refine eW_re [(0, .ref 63), (1, vI 0), (2, vI 0)] rfl rfl (List.forall_mem_cons.mpr ⟨rfl, List.forall_mem_cons.mpr ⟨rfl, List.forall_mem_cons.mpr ⟨rfl, fun _ h => absurd h List.not_mem_nil⟩⟩⟩) (List.forall_mem_cons.mpr ⟨Or.inl rfl, List.forall_mem_cons.mpr ⟨Or.inl rfl, List.forall_mem_cons.mpr ⟨Or.inl rfl, fun _ h => absurd h List.not_mem_nil⟩⟩⟩) ?_
  refine m_all_l hm hN hr hG _ 0 0 (Int.self_le_toNat _) (by omega) (by omega) rfl (fun a i q => ?_)
  refine eW_iload_n 29 rfl rfl rfl ?_
  refine eW_ret_i rfl rfl (Or.inl rfl) ?_
  exact eRet_i q
/-- how many scoops take t -/
theorem gCntL_mid {D : Int → Int} {n t : Int} (ht : 1 ≤ t) : ∀ k : Nat, (k : Int) + 1 ≤ n - t → gCntL D n t (k + 1) = (match decide (D t / 4 % 2 = 1) with | true => (k : Int) | false => 0)
  | 0, h => by
    show gCntL D n t 0 + eB01 (gLets D n t 0) = _
    rw [gLets_f (by intro e; have := e.2.2.1 rfl; omega)]
    cases decide (D t / 4 % 2 = 1) <;> rfl
  | k + 1, h => by
    show gCntL D n t (k + 1) + eB01 (gLets D n t ((k + 1 : Nat) : Int)) = _
    rw [gCntL_mid ht k (by omega)]
    by_cases h4 : D t / 4 % 2 = 1
    · rw [gLets_t (by omega), decide_eq_true h4]; rfl
    · rw [gLets_f (by omega), decide_eq_false h4]; rfl
theorem gCntL_ways {D : Int → Int} {n t : Int} (ht : 1 ≤ t) : gCntL D n t (n - t + 1).toNat = if n < t then 0 else if n = t then (if D t % 2 = 1 then 1 else 0) else (if D t / 2 % 2 = 1 then 1 else 0) + (if D t / 4 % 2 = 1 then n - t - 1 else 0) := by
  by_cases h1 : n < t
  · rw [if_pos h1, show (n - t + 1).toNat = 0 by omega]; rfl
  · rw [if_neg h1]
    by_cases h2 : n = t
    · rw [if_pos h2, show (n - t + 1).toNat = 0 + 1 by omega]
      show gCntL D n t 0 + eB01 (gLets D n t 0) = _
      by_cases h3 : D t % 2 = 1
      · rw [gLets_t (by omega), if_pos h3]; rfl
      · rw [gLets_f (by omega), if_neg h3]; rfl
    · rw [if_neg h2, show (n - t + 1).toNat = (n - t - 1).toNat + 1 + 1 by omega]
      show gCntL D n t ((n - t - 1).toNat + 1) + eB01 (gLets D n t (((n - t - 1).toNat + 1 : Nat) : Int)) = _
      rw [gCntL_mid ht _ (by omega)]
      by_cases h3 : D t / 2 % 2 = 1
      · rw [gLets_t (by omega), if_pos h3]
        by_cases h4 : D t / 4 % 2 = 1
        · rw [decide_eq_true h4, if_pos h4]; show ((n - t - 1).toNat : Int) + 1 = _; omega
        · rw [decide_eq_false h4, if_neg h4]; rfl
      · rw [gLets_f (by omega), if_neg h3]
        by_cases h4 : D t / 4 % 2 = 1
        · rw [decide_eq_true h4, if_pos h4]; show ((n - t - 1).toNat : Int) + 0 = _; omega
        · rw [decide_eq_false h4, if_neg h4]; rfl
def gWy (D : Int → Int) (n t : Int) : Int := gCntL D n t (n - t + 1).toNat
theorem gWy_eq {D : Int → Int} {n t x : Int} (ht : 1 ≤ t) (h : (n < t ∧ x = 0) ∨ (n = t ∧ x = D t % 2) ∨ (t < n ∧ ((D t / 2 % 2 = 1 ∧ D t / 4 % 2 = 1 ∧ x = n - t) ∨ (D t / 2 % 2 = 1 ∧ D t / 4 % 2 = 0 ∧ x = 1) ∨ (D t / 2 % 2 = 0 ∧ D t / 4 % 2 = 1 ∧ x = n - t - 1) ∨ (D t / 2 % 2 = 0 ∧ D t / 4 % 2 = 0 ∧ x = 0)))) : x = gWy D n t := by
  unfold gWy
  rw [gCntL_ways ht]
  split
  · omega
  · split
    · split <;> omega
    · split <;> split <;> omega
theorem gWy_le {D : Int → Int} {n t : Int} (hn : 0 ≤ n ∧ n ≤ 40) (ht : 1 ≤ t) : 0 ≤ gWy D n t ∧ gWy D n t ≤ 40 := by
  unfold gWy
  have := gCntL_le (D := D) (n := n) (t := t) (n - t + 1).toNat
  omega
theorem m_ways {d N : Nat} {h : eHp} {s : Nat → Int} {A : Nat → Nat → Int} (hm : mM h s A) (hN : 75 ≤ N) {G : eGd} (hr : rR G (A 0)) (hG : gOk G) {m t : Int} (hm0 : 0 ≤ m ∧ m ≤ 40) (ht : 1 ≤ t ∧ t ≤ 6) : eSp (d + 1) eM_X7_ways [.ref 63, vI m, vI t] N h (eRet (some (vI (gWy (gDig G) m t))) N h) := by
  refine eSp_of [(0, .ref 63), (1, vI m), (2, vI t)] rfl rfl ?_
  have hd := gDig_le hG t
  refine eW_aload_n 1 rfl rfl rfl ?_
  refine eW_getfield 4 rfl rfl (Nat.ble_eq_true_of_le (by omega)) rfl hm.1 rfl ⟨rfl, fun _ h9 => nomatch h9⟩ ?_
  refine eW_bipush 6 rfl rfl 7 rfl ?_
  refine eW_iload_n 7 rfl rfl rfl ?_
  refine eW_iadd 8 rfl rfl ?_
  refine eW_iaload 9 rfl rfl (gDig G t) (Nat.ble_eq_true_of_le (by omega)) (show h 64 = .inl (0, 62, .inl (eIA (A 0))) from hm.2.1) (by omega) (by omega) (by unfold i32; omega) (rR_d hr (by omega) (by omega)) ?_
  refine eW_istore_n 10 rfl rfl [(3, vI (gDig G t)), (0, .ref 63), (1, vI m), (2, vI t)] rfl rfl ?_
  refine eW_iload_n 11 rfl rfl rfl ?_
  refine eW_iload_n 12 rfl rfl rfl ?_
  refine eW_icmp_ge 15 rfl rfl (by unfold i32; omega) (by unfold i32; omega) (fun c1 => ?_) (fun c1 => ?_)
  · refine eW_iload_n 18 rfl rfl rfl ?_
    refine eW_iload_n 19 rfl rfl rfl ?_
    refine eW_icmp_ne 22 rfl rfl (by unfold i32; omega) (by unfold i32; omega) (fun c2 => ?_) (fun c2 => ?_)
    · refine eW_iload_n 27 rfl rfl rfl ?_
      refine eW_iconst 28 rfl rfl ?_
      refine eW_iand 29 rfl rfl ((gDig G t) / 2 % 2 * 2) (eAnd2 hd.1 hd.2) ?_
      refine eW_if_le 32 rfl rfl (by unfold i32; omega) (fun c3 => ?_) (fun c3 => ?_)
      · refine eW_iconst 37 rfl rfl ?_
        refine eW_iload_n 38 rfl rfl rfl ?_
        refine eW_iconst 39 rfl rfl ?_
        refine eW_iand 40 rfl rfl ((gDig G t) / 4 % 2 * 4) (eAnd4 hd.1 hd.2) ?_
        refine eW_if_le 43 rfl rfl (by unfold i32; omega) (fun c4 => ?_) (fun c4 => ?_)
        · refine eW_iconst 52 rfl rfl ?_
          refine eW_iadd 53 rfl rfl ?_
          refine eW_ret_i rfl rfl (Or.inl rfl) ?_
          refine eRet_i (gWy_eq ht.1 (by omega))
        · refine eW_iload_n 44 rfl rfl rfl ?_
          refine eW_iload_n 45 rfl rfl rfl ?_
          refine eW_isub 46 rfl rfl ?_
          refine eW_iconst 47 rfl rfl ?_
          refine eW_isub 48 rfl rfl ?_
          refine eW_goto rfl ?_
          refine eW_iadd 53 rfl rfl ?_
          refine eW_ret_i rfl rfl (Or.inl rfl) ?_
          refine eRet_i (gWy_eq ht.1 (by omega))
      · refine eW_iconst 33 rfl rfl ?_
        refine eW_goto rfl ?_
        refine eW_iload_n 38 rfl rfl rfl ?_
        refine eW_iconst 39 rfl rfl ?_
        refine eW_iand 40 rfl rfl ((gDig G t) / 4 % 2 * 4) (eAnd4 hd.1 hd.2) ?_
        refine eW_if_le 43 rfl rfl (by unfold i32; omega) (fun c5 => ?_) (fun c5 => ?_)
        · refine eW_iconst 52 rfl rfl ?_
          refine eW_iadd 53 rfl rfl ?_
          refine eW_ret_i rfl rfl (Or.inl rfl) ?_
          refine eRet_i (gWy_eq ht.1 (by omega))
        · refine eW_iload_n 44 rfl rfl rfl ?_
          refine eW_iload_n 45 rfl rfl rfl ?_
          refine eW_isub 46 rfl rfl ?_
          refine eW_iconst 47 rfl rfl ?_
          refine eW_isub 48 rfl rfl ?_
          refine eW_goto rfl ?_
          refine eW_iadd 53 rfl rfl ?_
          refine eW_ret_i rfl rfl (Or.inl rfl) ?_
          refine eRet_i (gWy_eq ht.1 (by omega))
    · refine eW_iload_n 23 rfl rfl rfl ?_
      refine eW_iconst 24 rfl rfl ?_
      refine eW_iand 25 rfl rfl ((gDig G t) % 2) (eAnd1 hd.1 hd.2) ?_
      refine eW_ret_i rfl rfl (Or.inl rfl) ?_
      refine eRet_i (gWy_eq ht.1 (by omega))
  · refine eW_iconst 16 rfl rfl ?_
    refine eW_ret_i rfl rfl (Or.inl rfl) ?_
    refine eRet_i (gWy_eq ht.1 (by omega))
theorem m_waysOf_l {d N k z : Nat} {h : eHp} {s : Nat → Int} {A : Nat → Nat → Int} (hm : mM h s A) (hN : 75 ≤ N) {P : eR → Prop} {G : eGd} (hr : rR G (A 0)) (hG : gOk G) {m : Int} (hm0 : 0 ≤ m ∧ m ≤ 40) : ∀ (m9 : Nat) (a t : Int), 7 - t ≤ m9 → 1 ≤ t ∧ t ≤ 7 → a = gCntT (gDig G) m (t - 1).toNat → (∀ (a : Int), a = gWays (gDig G) m → eWp eOx (eEv (d + 1)) eM_X7_waysOf (25, [(0, .ref 63), (1, vI m), (2, vI a)], [], N, h, k, z) P) → eWp eOx (eEv (d + 1)) eM_X7_waysOf (4, [(0, .ref 63), (1, vI m), (2, vI a), (3, vI t)], [], N, h, k, z) P := by
  intro m9
  induction m9 with
  | zero =>
    intro a t hm9 q0 q1 kk
    refine eW_iload_n 5 rfl rfl rfl ?_
    refine eW_bipush 7 rfl rfl 6 rfl ?_
    refine eW_icmp_gt 10 rfl rfl (by unfold i32; omega) (by unfold i32; omega) (fun c1 => ?_) (fun c1 => ?_)
    · refine eW_re [(0, .ref 63), (1, vI m), (2, vI a)] rfl rfl (List.forall_mem_cons.mpr ⟨rfl, List.forall_mem_cons.mpr ⟨rfl, List.forall_mem_cons.mpr ⟨rfl, fun _ h => absurd h List.not_mem_nil⟩⟩⟩) (List.forall_mem_cons.mpr ⟨Or.inl rfl, List.forall_mem_cons.mpr ⟨Or.inl rfl, List.forall_mem_cons.mpr ⟨Or.inl rfl, List.forall_mem_cons.mpr ⟨Or.inr ⟨_, rfl⟩, fun _ h => absurd h List.not_mem_nil⟩⟩⟩⟩) ?_
      refine kk _ ?_
      rw [q1, show t = 7 by omega]; rfl
    · refine eW_iload_n 11 rfl rfl rfl ?_
      refine eW_aload_n 12 rfl rfl rfl ?_
      refine eW_iload_n 13 rfl rfl rfl ?_
      refine eW_iload_n 14 rfl rfl rfl ?_
      have hwyq2 := gWy_le (D := gDig G) (n := m) (t := t) (by omega) (by omega)
      refine eW_callV 17 [.ref 63, vI m, vI t] [vI a] [vI (gWy (gDig G) m t), vI a] rfl rfl rfl rfl (Nat.ble_eq_true_of_le (by omega)) hm.1 rfl rfl rfl (m_ways (d := d + 0) hm hN hr hG (by omega) (by omega)) rfl rfl ?_
      refine eW_iadd 18 rfl rfl ?_
      refine eW_istore_n 19 rfl rfl [(2, vI (a + (gWy (gDig G) m t))), (0, .ref 63), (1, vI m), (3, vI t)] rfl rfl ?_
      refine eW_iinc 22 rfl rfl [(3, vI (t + 1)), (2, vI (a + (gWy (gDig G) m t))), (0, .ref 63), (1, vI m)] rfl rfl rfl ?_
      refine eW_goto rfl ?_
      refine eW_re [(0, .ref 63), (1, vI m), (2, vI (a + (gWy (gDig G) m t))), (3, vI (t + 1))] rfl rfl (List.forall_mem_cons.mpr ⟨rfl, List.forall_mem_cons.mpr ⟨rfl, List.forall_mem_cons.mpr ⟨rfl, List.forall_mem_cons.mpr ⟨rfl, fun _ h => absurd h List.not_mem_nil⟩⟩⟩⟩) (List.forall_mem_cons.mpr ⟨Or.inl rfl, List.forall_mem_cons.mpr ⟨Or.inl rfl, List.forall_mem_cons.mpr ⟨Or.inl rfl, List.forall_mem_cons.mpr ⟨Or.inl rfl, fun _ h => absurd h List.not_mem_nil⟩⟩⟩⟩) ?_
      exact absurd hm9 (by omega)
  | succ m9 ih =>
    intro a t hm9 q0 q1 kk
    refine eW_iload_n 5 rfl rfl rfl ?_
    refine eW_bipush 7 rfl rfl 6 rfl ?_
    refine eW_icmp_gt 10 rfl rfl (by unfold i32; omega) (by unfold i32; omega) (fun c1 => ?_) (fun c1 => ?_)
    · refine eW_re [(0, .ref 63), (1, vI m), (2, vI a)] rfl rfl (List.forall_mem_cons.mpr ⟨rfl, List.forall_mem_cons.mpr ⟨rfl, List.forall_mem_cons.mpr ⟨rfl, fun _ h => absurd h List.not_mem_nil⟩⟩⟩) (List.forall_mem_cons.mpr ⟨Or.inl rfl, List.forall_mem_cons.mpr ⟨Or.inl rfl, List.forall_mem_cons.mpr ⟨Or.inl rfl, List.forall_mem_cons.mpr ⟨Or.inr ⟨_, rfl⟩, fun _ h => absurd h List.not_mem_nil⟩⟩⟩⟩) ?_
      refine kk _ ?_
      rw [q1, show t = 7 by omega]; rfl
    · refine eW_iload_n 11 rfl rfl rfl ?_
      refine eW_aload_n 12 rfl rfl rfl ?_
      refine eW_iload_n 13 rfl rfl rfl ?_
      refine eW_iload_n 14 rfl rfl rfl ?_
      have hwyq2 := gWy_le (D := gDig G) (n := m) (t := t) (by omega) (by omega)
      refine eW_callV 17 [.ref 63, vI m, vI t] [vI a] [vI (gWy (gDig G) m t), vI a] rfl rfl rfl rfl (Nat.ble_eq_true_of_le (by omega)) hm.1 rfl rfl rfl (m_ways (d := d + 0) hm hN hr hG (by omega) (by omega)) rfl rfl ?_
      refine eW_iadd 18 rfl rfl ?_
      refine eW_istore_n 19 rfl rfl [(2, vI (a + (gWy (gDig G) m t))), (0, .ref 63), (1, vI m), (3, vI t)] rfl rfl ?_
      refine eW_iinc 22 rfl rfl [(3, vI (t + 1)), (2, vI (a + (gWy (gDig G) m t))), (0, .ref 63), (1, vI m)] rfl rfl rfl ?_
      refine eW_goto rfl ?_
      refine eW_re [(0, .ref 63), (1, vI m), (2, vI (a + (gWy (gDig G) m t))), (3, vI (t + 1))] rfl rfl (List.forall_mem_cons.mpr ⟨rfl, List.forall_mem_cons.mpr ⟨rfl, List.forall_mem_cons.mpr ⟨rfl, List.forall_mem_cons.mpr ⟨rfl, fun _ h => absurd h List.not_mem_nil⟩⟩⟩⟩) (List.forall_mem_cons.mpr ⟨Or.inl rfl, List.forall_mem_cons.mpr ⟨Or.inl rfl, List.forall_mem_cons.mpr ⟨Or.inl rfl, List.forall_mem_cons.mpr ⟨Or.inl rfl, fun _ h => absurd h List.not_mem_nil⟩⟩⟩⟩) ?_
      refine ih _ (t + 1) (by omega) (by omega) ?_ kk
      rw [q1, show t + 1 - 1 = t by omega, gCntT_succ q0.1]; rfl
theorem m_waysOf {d N : Nat} {h : eHp} {s : Nat → Int} {A : Nat → Nat → Int} (hm : mM h s A) (hN : 75 ≤ N) {G : eGd} (hr : rR G (A 0)) (hG : gOk G) {m : Int} (hm0 : 0 ≤ m ∧ m ≤ 40) : eSp (d + 2) eM_X7_waysOf [.ref 63, vI m] N h (eRet (some (vI (gWays (gDig G) m))) N h) := by
  refine eSp_of [(0, .ref 63), (1, vI m)] rfl rfl ?_
  refine eW_iconst 1 rfl rfl ?_
  refine eW_istore_n 2 rfl rfl [(2, vI 0), (0, .ref 63), (1, vI m)] rfl rfl ?_
  refine eW_iconst 3 rfl rfl ?_
  refine eW_istore_n 4 rfl rfl [(3, vI 1), (2, vI 0), (0, .ref 63), (1, vI m)] rfl rfl ?_
  refine eW_re [(0, .ref 63), (1, vI m), (2, vI 0), (3, vI 1)] rfl rfl (List.forall_mem_cons.mpr ⟨rfl, List.forall_mem_cons.mpr ⟨rfl, List.forall_mem_cons.mpr ⟨rfl, List.forall_mem_cons.mpr ⟨rfl, fun _ h => absurd h List.not_mem_nil⟩⟩⟩⟩) (List.forall_mem_cons.mpr ⟨Or.inl rfl, List.forall_mem_cons.mpr ⟨Or.inl rfl, List.forall_mem_cons.mpr ⟨Or.inl rfl, List.forall_mem_cons.mpr ⟨Or.inl rfl, fun _ h => absurd h List.not_mem_nil⟩⟩⟩⟩) ?_
  refine m_waysOf_l hm hN hr hG hm0 _ 0 1 (Int.self_le_toNat _) (by omega) rfl (fun a q => ?_)
  refine eW_iload_n 26 rfl rfl rfl ?_
  refine eW_ret_i rfl rfl (Or.inl rfl) ?_
  exact eRet_i q
theorem m_scoopsNow_l {d N k z : Nat} {h : eHp} {s : Nat → Int} {A : Nat → Nat → Int} (hm : mM h s A) (hN : 75 ≤ N) {P : eR → Prop} {G : eGd} (hr : rR G (A 0)) (hG : gOk G) : ∀ (m9 : Nat) (a i : Int), G.2.2.2.1 - i ≤ m9 → 0 ≤ i → i ≤ G.2.2.2.1 → a = gSum (fun j => gWays (gDig G) (G.1 j)) i.toNat → (∀ (a i : Int), a = gSum (fun j => gWays (gDig G) (G.1 j)) G.2.2.2.1.toNat → eWp eOx (eEv (d + 2)) eM_X7_scoopsNow (32, [(0, .ref 63), (1, vI a), (2, vI i)], [], N, h, k, z) P) → eWp eOx (eEv (d + 2)) eM_X7_scoopsNow (4, [(0, .ref 63), (1, vI a), (2, vI i)], [], N, h, k, z) P := by
  intro m9
  induction m9 with
  | zero =>
    intro a i hm9 q0 q1 q2 kk
    have hG9 := hG
    obtain ⟨g1, g2, g3, g4⟩ := hG9
    refine eW_iload_n 5 rfl rfl rfl ?_
    refine eW_aload_n 6 rfl rfl rfl ?_
    refine eW_getfield 9 rfl rfl (Nat.ble_eq_true_of_le (by omega)) rfl hm.1 rfl ⟨rfl, fun _ h9 => nomatch h9⟩ ?_
    refine eW_iconst 10 rfl rfl ?_
    refine eW_iaload 11 rfl rfl G.2.2.2.1 (Nat.ble_eq_true_of_le (by omega)) (show h 64 = .inl (0, 62, .inl (eIA (A 0))) from hm.2.1) (by omega) (by omega) (by unfold i32; omega) (congrArg Int32.ofInt hr.1) ?_
    refine eW_icmp_ge 14 rfl rfl (by unfold i32; omega) (by unfold i32; omega) (fun c1 => ?_) (fun c1 => ?_)
    · refine kk _ _ ?_
      rw [q2, show i = G.2.2.2.1 by omega]
    · refine eW_iload_n 15 rfl rfl rfl ?_
      refine eW_aload_n 16 rfl rfl rfl ?_
      refine eW_aload_n 17 rfl rfl rfl ?_
      refine eW_iload_n 18 rfl rfl rfl ?_
      have hmbq2 := g3 i.toNat (by omega)
      refine eW_callV 21 [.ref 63, vI i] [.ref 63, vI a] [vI (G.1 i.toNat), .ref 63, vI a] rfl rfl rfl rfl (Nat.ble_eq_true_of_le (by omega)) hm.1 rfl rfl rfl (m_marbles (d := d + 1) hm hN hr hG (by omega)) rfl rfl ?_
      refine eW_callV 24 [.ref 63, vI (G.1 i.toNat)] [vI a] [vI (gWays (gDig G) (G.1 i.toNat)), vI a] rfl rfl rfl rfl (Nat.ble_eq_true_of_le (by omega)) hm.1 rfl rfl rfl (m_waysOf (d := d + 0) hm hN hr hG (by omega)) rfl rfl ?_
      refine eW_iadd 25 rfl rfl ?_
      refine eW_istore_n 26 rfl rfl [(1, vI (a + (gWays (gDig G) (G.1 i.toNat)))), (0, .ref 63), (2, vI i)] rfl rfl ?_
      refine eW_iinc 29 rfl rfl [(2, vI (i + 1)), (1, vI (a + (gWays (gDig G) (G.1 i.toNat)))), (0, .ref 63)] rfl rfl rfl ?_
      refine eW_goto rfl ?_
      refine eW_re [(0, .ref 63), (1, vI (a + (gWays (gDig G) (G.1 i.toNat)))), (2, vI (i + 1))] rfl rfl (List.forall_mem_cons.mpr ⟨rfl, List.forall_mem_cons.mpr ⟨rfl, List.forall_mem_cons.mpr ⟨rfl, fun _ h => absurd h List.not_mem_nil⟩⟩⟩) (List.forall_mem_cons.mpr ⟨Or.inl rfl, List.forall_mem_cons.mpr ⟨Or.inl rfl, List.forall_mem_cons.mpr ⟨Or.inl rfl, fun _ h => absurd h List.not_mem_nil⟩⟩⟩) ?_
      exact absurd hm9 (by omega)
  | succ m9 ih =>
    intro a i hm9 q0 q1 q2 kk
    have hG9 := hG
    obtain ⟨g1, g2, g3, g4⟩ := hG9
    refine eW_iload_n 5 rfl rfl rfl ?_
    refine eW_aload_n 6 rfl rfl rfl ?_
    refine eW_getfield 9 rfl rfl (Nat.ble_eq_true_of_le (by omega)) rfl hm.1 rfl ⟨rfl, fun _ h9 => nomatch h9⟩ ?_
    refine eW_iconst 10 rfl rfl ?_
    refine eW_iaload 11 rfl rfl G.2.2.2.1 (Nat.ble_eq_true_of_le (by omega)) (show h 64 = .inl (0, 62, .inl (eIA (A 0))) from hm.2.1) (by omega) (by omega) (by unfold i32; omega) (congrArg Int32.ofInt hr.1) ?_
    refine eW_icmp_ge 14 rfl rfl (by unfold i32; omega) (by unfold i32; omega) (fun c1 => ?_) (fun c1 => ?_)
    · refine kk _ _ ?_
      rw [q2, show i = G.2.2.2.1 by omega]
    · refine eW_iload_n 15 rfl rfl rfl ?_
      refine eW_aload_n 16 rfl rfl rfl ?_
      refine eW_aload_n 17 rfl rfl rfl ?_
      refine eW_iload_n 18 rfl rfl rfl ?_
      have hmbq2 := g3 i.toNat (by omega)
      refine eW_callV 21 [.ref 63, vI i] [.ref 63, vI a] [vI (G.1 i.toNat), .ref 63, vI a] rfl rfl rfl rfl (Nat.ble_eq_true_of_le (by omega)) hm.1 rfl rfl rfl (m_marbles (d := d + 1) hm hN hr hG (by omega)) rfl rfl ?_
      refine eW_callV 24 [.ref 63, vI (G.1 i.toNat)] [vI a] [vI (gWays (gDig G) (G.1 i.toNat)), vI a] rfl rfl rfl rfl (Nat.ble_eq_true_of_le (by omega)) hm.1 rfl rfl rfl (m_waysOf (d := d + 0) hm hN hr hG (by omega)) rfl rfl ?_
      refine eW_iadd 25 rfl rfl ?_
      refine eW_istore_n 26 rfl rfl [(1, vI (a + (gWays (gDig G) (G.1 i.toNat)))), (0, .ref 63), (2, vI i)] rfl rfl ?_
      refine eW_iinc 29 rfl rfl [(2, vI (i + 1)), (1, vI (a + (gWays (gDig G) (G.1 i.toNat)))), (0, .ref 63)] rfl rfl rfl ?_
      refine eW_goto rfl ?_
      refine eW_re [(0, .ref 63), (1, vI (a + (gWays (gDig G) (G.1 i.toNat)))), (2, vI (i + 1))] rfl rfl (List.forall_mem_cons.mpr ⟨rfl, List.forall_mem_cons.mpr ⟨rfl, List.forall_mem_cons.mpr ⟨rfl, fun _ h => absurd h List.not_mem_nil⟩⟩⟩) (List.forall_mem_cons.mpr ⟨Or.inl rfl, List.forall_mem_cons.mpr ⟨Or.inl rfl, List.forall_mem_cons.mpr ⟨Or.inl rfl, fun _ h => absurd h List.not_mem_nil⟩⟩⟩) ?_
      refine ih _ (i + 1) (by omega) (by omega) (by omega) ?_ kk
      rw [q2, gSum_succ q0]
theorem m_scoopsNow {d N : Nat} {h : eHp} {s : Nat → Int} {A : Nat → Nat → Int} (hm : mM h s A) (hN : 75 ≤ N) {G : eGd} (hr : rR G (A 0)) (hG : gOk G) : eSp (d + 3) eM_X7_scoopsNow [.ref 63] N h (eRet (some (vI (gSum (fun j => gWays (gDig G) (G.1 j)) G.2.2.2.1.toNat))) N h) := by
  refine eSp_of [(0, .ref 63)] rfl rfl ?_
  have hG9 := hG
  obtain ⟨g1, g2, g3, g4⟩ := hG9
  refine eW_iconst 1 rfl rfl ?_
  refine eW_istore_n 2 rfl rfl [(1, vI 0), (0, .ref 63)] rfl rfl ?_
  refine eW_iconst 3 rfl rfl ?_
  refine eW_istore_n 4 rfl rfl [(2, vI 0), (1, vI 0), (0, .ref 63)] rfl rfl ?_
  refine eW_re [(0, .ref 63), (1, vI 0), (2, vI 0)] rfl rfl (List.forall_mem_cons.mpr ⟨rfl, List.forall_mem_cons.mpr ⟨rfl, List.forall_mem_cons.mpr ⟨rfl, fun _ h => absurd h List.not_mem_nil⟩⟩⟩) (List.forall_mem_cons.mpr ⟨Or.inl rfl, List.forall_mem_cons.mpr ⟨Or.inl rfl, List.forall_mem_cons.mpr ⟨Or.inl rfl, fun _ h => absurd h List.not_mem_nil⟩⟩⟩) ?_
  refine m_scoopsNow_l hm hN hr hG _ 0 0 (Int.self_le_toNat _) (by omega) (by omega) rfl (fun a i q => ?_)
  refine eW_iload_n 33 rfl rfl rfl ?_
  refine eW_ret_i rfl rfl (Or.inl rfl) ?_
  exact eRet_i q
theorem m_isMonk {d N : Nat} {h : eHp} {m : Int} (hm0 : i32 m) : eSp (d + 2) eM_X7_isMonk [vI m] N h (eRet (some (vI (eB01 (gMonk m)))) N h) := by
  refine eSp_of [(0, vI m)] rfl rfl ?_
  unfold i32 at hm0
  refine eW_iload_n 1 rfl rfl rfl ?_
  refine eW_iconst 2 rfl rfl ?_
  refine eW_iconst 3 rfl rfl ?_
  have hinq1 := eD_c ((0 : Int) ≤ m ∧ m ≤ 1)
  refine eW_callS 6 [vI m, vI 0, vI 1] [] [vI (eB01 (decide ((0 : Int) ≤ m ∧ m ≤ 1)))] rfl rfl rfl (Or.inl rfl) rfl rfl rfl (m_in (d := d + 0) (by unfold i32; omega) (by unfold i32; omega) (by unfold i32; omega)) rfl rfl ?_
  refine eW_ret_i rfl rfl (Or.inr (Or.inl ⟨rfl, (eB01_nar _)⟩)) ?_
  refine eRet_i ?_
  unfold gMonk
  have := eD_c (0 ≤ m ∧ m < 2)
  omega
theorem m_isNoNumber {d N : Nat} {h : eHp} {s : Nat → Int} {A : Nat → Nat → Int} (hm : mM h s A) (hN : 75 ≤ N) {m : Int} (hm0 : i32 m) : eSp (d + 2) eM_X7_isNoNumber [.ref 63, vI m] N h (eChg (some (vI (1 - eB01 (gNum m)))) N (mD h (sUp s 7 (1 - eB01 (gNum m))) A)) := by
  refine eSp_of [(0, .ref 63), (1, vI m)] rfl rfl ?_
  have hb := gNum_c m
  unfold i32 at hm0
  refine eW_aload_n 1 rfl rfl rfl ?_
  refine eW_iload_n 2 rfl rfl rfl ?_
  refine eW_iconst 3 rfl rfl ?_
  refine eW_bipush 5 rfl rfl 30 rfl ?_
  have hinq1 := eD_c ((0 : Int) ≤ m ∧ m ≤ 30)
  refine eW_callS 8 [vI m, vI 0, vI 30] [.ref 63] [vI (eB01 (decide ((0 : Int) ≤ m ∧ m ≤ 30))), .ref 63] rfl rfl rfl (Or.inl rfl) rfl rfl rfl (m_in (d := d + 0) (by unfold i32; omega) (by unfold i32; omega) (by unfold i32; omega)) rfl rfl ?_
  refine eW_if_eq 11 rfl rfl (by unfold i32; omega) (fun c2 => ?_) (fun c2 => ?_)
  · refine eW_iconst 16 rfl rfl ?_
    have hflq3 := eD_c ((0 : Int) < 1)
    refine eW_callVH 19 [.ref 63, vI 1] [] [vI (eB01 (decide ((0 : Int) < 1)))] rfl rfl rfl rfl (Nat.ble_eq_true_of_le (by omega)) hm.1 rfl rfl rfl (m_fails (d := d + 0) hm hN (by unfold i32; omega)) rfl rfl ?_
    intro h4 fh4
    have hmh4 : mM h4 (sUp s 7 1) A := fh4.1
    have frh4 : mFr h h4 := mFr_t (fun _ _ => rfl) fh4.2
    refine eW_ret_i rfl rfl (Or.inr (Or.inl ⟨rfl, (eB01_nar _)⟩)) ?_
    have e1 : eB01 (decide ((0 : Int) < 1)) = 1 - eB01 (gNum m) := by omega
    rw [e1]
    refine ⟨_, rfl, ?_, frh4⟩
    rw [show (1 - eB01 (gNum m)) = 1 by omega]
    exact hmh4
  · refine eW_iconst 12 rfl rfl ?_
    refine eW_goto rfl ?_
    have hflq5 := eD_c ((0 : Int) < 0)
    refine eW_callVH 19 [.ref 63, vI 0] [] [vI (eB01 (decide ((0 : Int) < 0)))] rfl rfl rfl rfl (Nat.ble_eq_true_of_le (by omega)) hm.1 rfl rfl rfl (m_fails (d := d + 0) hm hN (by unfold i32; omega)) rfl rfl ?_
    intro h6 fh6
    have hmh6 : mM h6 (sUp s 7 0) A := fh6.1
    have frh6 : mFr h h6 := mFr_t (fun _ _ => rfl) fh6.2
    refine eW_ret_i rfl rfl (Or.inr (Or.inl ⟨rfl, (eB01_nar _)⟩)) ?_
    have e1 : eB01 (decide ((0 : Int) < 0)) = 1 - eB01 (gNum m) := by omega
    rw [e1]
    refine ⟨_, rfl, ?_, frh6⟩
    rw [show (1 - eB01 (gNum m)) = 0 by omega]
    exact hmh6
