/-! what a change does to a garden's rules, and to the model's row -/
theorem gSum_congr {F F' : Nat → Int} : ∀ {n : Nat}, (∀ i, i < n → F i = F' i) → gSum F n = gSum F' n
  | 0, _ => rfl
  | n + 1, h => by simp only [gSum]; rw [gSum_congr (fun i hi => h i (by omega)), h n (by omega)]
theorem gSum_upn {F : Nat → Int} {p : Nat} {x : Int} : ∀ {n : Nat}, n ≤ p → gSum (eUp F p x) n = gSum F n := fun h => gSum_congr (fun i hi => eUp_ne (by omega))
theorem gSum_up {F : Nat → Int} {p : Nat} {x : Int} : ∀ {n : Nat}, p < n → gSum (eUp F p x) n = gSum F n - F p + x
  | 0, h => absurd h (by omega)
  | n + 1, h => by
    simp only [gSum]
    by_cases hp : p = n
    · subst hp; rw [gSum_upn (Nat.le_refl _), eUp_eq rfl]; omega
    · rw [gSum_up (by omega), eUp_ne (by omega)]; omega
theorem gDel_lt {F : Nat → Int} {p b j : Nat} (h : p ≤ j ∧ j + 1 < b) : gDel F p b j = F (j + 1) := by unfold gDel; rw [decide_eq_true h]
theorem gDel_ge {F : Nat → Int} {p b j : Nat} (h : ¬ (p ≤ j ∧ j + 1 < b)) : gDel F p b j = F j := by unfold gDel; rw [decide_eq_false h]
theorem gSum_del {F : Nat → Int} {p : Nat} : ∀ {n : Nat}, p ≤ n → gSum (gDel F p (n + 1)) n = gSum F (n + 1) - F p
  | 0, h => by rw [show p = 0 by omega]; simp only [gSum]; omega
  | n + 1, h => by
    show gSum (gDel F p (n + 2)) n + gDel F p (n + 2) n = gSum F (n + 1) + F (n + 1) - F p
    by_cases hp : p = n + 1
    · rw [gDel_ge (by omega), gSum_congr (F' := F) (fun i hi => gDel_ge (by omega)), hp]
      show gSum F n + F n = gSum F n + F n + F (n + 1) - F (n + 1)
      omega
    · have e := gSum_congr (F := gDel F p (n + 2)) (F' := gDel F p (n + 1)) (n := n) (fun i hi => by
        by_cases h2 : p ≤ i
        · rw [gDel_lt (by omega), gDel_lt (by omega)]
        · rw [gDel_ge (by omega), gDel_ge (by omega)])
      rw [e, gSum_del (by omega), gDel_lt (by omega)]
      show gSum F n + F n - F p + F (n + 1) = _
      simp only [gSum]
      omega
theorem gSum_ge {F : Nat → Int} : ∀ {n : Nat}, (∀ i, i < n → 1 ≤ F i) → (n : Int) ≤ gSum F n
  | 0, _ => Int.le_refl _
  | n + 1, h => by
    have h1 := gSum_ge (n := n) (fun i hi => h i (by omega))
    have h2 := h n (by omega)
    simp only [gSum]
    omega
theorem gSum_ge1 {F : Nat → Int} {p : Nat} : ∀ {n : Nat}, p < n → (∀ i, i < n → 1 ≤ F i) → (n : Int) - 1 + F p ≤ gSum F n
  | 0, h, _ => absurd h (by omega)
  | n + 1, h, h0 => by
    simp only [gSum]
    by_cases hp : p = n
    · subst hp; have := gSum_ge (F := F) (n := p) (fun i hi => h0 i (by omega)); omega
    · have := gSum_ge1 (F := F) (p := p) (n := n) (by omega) (fun i hi => h0 i (by omega)); have := h0 n (by omega); omega
theorem gI_mono {c c' : Int} {G : eGd} (h : c ≤ c') (hI : gI c G) : gI c' G := by
  obtain ⟨a1, a2, a3, a4, a5, a6, a7, a8, a9, a10⟩ := hI
  exact ⟨a1, a2, a3, a4, fun i hi => by have := a5 i hi; omega, by omega, by omega, by omega, by omega, a10⟩
theorem gI_pits {c : Int} {G : eGd} (hI : gI c G) : 0 ≤ G.2.2.2.1 ∧ G.2.2.2.1 ≤ gSum G.1 G.2.2.2.1.toNat := by
  have h0 := hI.1.1
  have := gSum_ge (F := G.1) (n := G.2.2.2.1.toNat) (fun i hi => (hI.2.2.1 i (by omega)).1)
  exact ⟨h0, by omega⟩
/-- a pit more -/
def gPit (G : eGd) (n : Int) : eGd := (eUp G.1 G.2.2.2.1.toNat n, G.2.1, G.2.2.1, G.2.2.2.1 + 1, G.2.2.2.2.1, G.2.2.2.2.2.1 + n, G.2.2.2.2.2.2)
theorem gI_pit {c n : Int} {G : eGd} (hI : gI c G) (hn : 1 ≤ n ∧ n ≤ 30) (hs : gSum G.1 G.2.2.2.1.toNat + n ≤ 40) : gI (c + 1) (gPit G n) := by
  obtain ⟨⟨b1, b2, b3, b4⟩, a2, a3, a4, a5, a6, a7, a8, a9, a10⟩ := hI
  have hp := gI_pits (c := c) ⟨⟨b1, b2, b3, b4⟩, a2, a3, a4, a5, a6, a7, a8, a9, a10⟩
  have e1 : (G.2.2.2.1 + 1).toNat = G.2.2.2.1.toNat + 1 := by omega
  have e2 : gSum (eUp G.1 G.2.2.2.1.toNat n) (G.2.2.2.1 + 1).toNat = gSum G.1 G.2.2.2.1.toNat + n := by
    rw [e1]; simp only [gSum]; rw [gSum_upn (Nat.le_refl _), eUp_eq rfl]
  refine ⟨⟨by show 0 ≤ G.2.2.2.1 + 1; omega, by show G.2.2.2.1 + 1 ≤ 40; omega, fun i hi => ?_, b4⟩, a2, fun i hi => ?_, by show gSum (eUp G.1 G.2.2.2.1.toNat n) (G.2.2.2.1 + 1).toNat ≤ 40; omega, fun i hi => by have := a5 i hi; show 0 ≤ G.2.2.1 i ∧ G.2.2.1 i ≤ 6 * (c + 1); omega, by show G.2.2.1 0 + G.2.2.1 4 ≤ c + 1; omega, by show 0 ≤ G.2.2.2.2.2.1 + n ∧ G.2.2.2.2.2.1 + n ≤ 30 * (c + 1); omega, by show 0 ≤ G.2.2.2.2.2.2.1 ∧ G.2.2.2.2.2.2.1 ≤ 40 * (c + 1); omega, by show 0 ≤ G.2.2.2.2.2.2.2 ∧ G.2.2.2.2.2.2.2 ≤ c + 1; omega, ?_⟩
  · show 0 ≤ eUp G.1 G.2.2.2.1.toNat n i ∧ eUp G.1 G.2.2.2.1.toNat n i ≤ 40
    by_cases h : i = G.2.2.2.1.toNat
    · rw [eUp_eq h]; omega
    · rw [eUp_ne h]; exact b3 i hi
  · show 1 ≤ eUp G.1 G.2.2.2.1.toNat n i ∧ eUp G.1 G.2.2.2.1.toNat n i ≤ 30
    by_cases h : i = G.2.2.2.1.toNat
    · rw [eUp_eq h]; exact hn
    · rw [eUp_ne h]; exact a3 i (by have : (i : Int) < G.2.2.2.1 + 1 := hi; omega)
  · show G.2.2.2.2.2.1 + n = gSum (eUp G.1 G.2.2.2.1.toNat n) (G.2.2.2.1 + 1).toNat + (G.2.2.1 1 + G.2.2.1 5) + G.2.2.2.2.2.2.1
    rw [e2]; omega
/-- a digit set -/
def gSetD (G : eGd) (t x : Int) : eGd := (G.1, eUp G.2.1 (t - 1).toNat x, G.2.2)
theorem gI_dig {c t x : Int} {G : eGd} (hI : gI c G) (hx : 0 ≤ x ∧ x ≤ 7) : gI c (gSetD G t x) := by
  obtain ⟨⟨b1, b2, b3, b4⟩, a⟩ := hI
  refine ⟨⟨b1, b2, b3, fun i hi => ?_⟩, a⟩
  show 0 ≤ eUp G.2.1 (t - 1).toNat x i ∧ eUp G.2.1 (t - 1).toNat x i ≤ 7
  by_cases h : i = (t - 1).toNat
  · rw [eUp_eq h]; exact hx
  · rw [eUp_ne h]; exact b4 i hi
/-- pits behind a scoop -/
theorem gCut_ok {F : Nat → Int} {n p t l : Int} (hp : 0 ≤ p ∧ p < n) (hF : ∀ i : Nat, (i : Int) < n → 1 ≤ F i ∧ F i ≤ 30) (hF4 : ∀ i, i < 40 → 0 ≤ F i ∧ F i ≤ 40) (hs : gSum F n.toNat ≤ 40) (ht : 1 ≤ t) (hl : 0 ≤ l) (h1 : t + l ≤ F p.toNat) (h2 : l = 0 → t = F p.toNat) :
    (0 ≤ (gCut F n p t l).2 ∧ (gCut F n p t l).2 ≤ 40) ∧ (∀ i : Nat, (i : Int) < (gCut F n p t l).2 → 1 ≤ (gCut F n p t l).1 i ∧ (gCut F n p t l).1 i ≤ 30) ∧ gSum (gCut F n p t l).1 (gCut F n p t l).2.toNat = gSum F n.toNat - t ∧ (∀ i, i < 40 → 0 ≤ (gCut F n p t l).1 i ∧ (gCut F n p t l).1 i ≤ 40) := by
  have hpm := hF p.toNat (by omega)
  have hge := gSum_ge1 (F := F) (p := p.toNat) (n := n.toNat) (by omega) (fun i hi => (hF i (by omega)).1)
  by_cases hl0 : l = 0
  · have e1 : gCut F n p t l = (gDel (eUp F p.toNat l) p.toNat n.toNat, n - 1) := by
      unfold gCut; rw [decide_eq_false (by omega : ¬ 0 < F p.toNat - t - l), decide_eq_true hl0]
    rw [e1]
    refine ⟨⟨by show 0 ≤ n - 1; omega, by show n - 1 ≤ 40; omega⟩, fun i hi => ?_, ?_, fun i hi => ?_⟩
    · have hi : (i : Int) < n - 1 := hi
      show 1 ≤ gDel (eUp F p.toNat l) p.toNat n.toNat i ∧ gDel (eUp F p.toNat l) p.toNat n.toNat i ≤ 30
      by_cases h : p.toNat ≤ i
      · rw [gDel_lt (by omega), eUp_ne (by omega)]; exact hF _ (by omega)
      · rw [gDel_ge (by omega), eUp_ne (by omega)]; exact hF _ (by omega)
    · show gSum (gDel (eUp F p.toNat l) p.toNat n.toNat) (n - 1).toNat = _
      rw [show n.toNat = (n - 1).toNat + 1 by omega, gSum_del (by omega), gSum_up (by omega), eUp_eq rfl]
      omega
    · show 0 ≤ gDel (eUp F p.toNat l) p.toNat n.toNat i ∧ gDel (eUp F p.toNat l) p.toNat n.toNat i ≤ 40
      have hu : ∀ j, j < 40 → 0 ≤ eUp F p.toNat l j ∧ eUp F p.toNat l j ≤ 40 := fun j hj => by
        by_cases h : j = p.toNat
        · rw [eUp_eq h]; omega
        · rw [eUp_ne h]; exact hF4 j hj
      by_cases h : p.toNat ≤ i ∧ i + 1 < n.toNat
      · rw [gDel_lt h]; exact hu _ (by omega)
      · rw [gDel_ge h]; exact hu _ hi
  · by_cases ho : 0 < F p.toNat - t - l
    · have e1 : gCut F n p t l = (eUp (eUp F p.toNat l) n.toNat (F p.toNat - t - l), n + 1) := by
        unfold gCut; rw [decide_eq_true ho, decide_eq_false hl0]
      rw [e1]
      refine ⟨⟨by show 0 ≤ n + 1; omega, by show n + 1 ≤ 40; omega⟩, fun i hi => ?_, ?_, fun i hi => ?_⟩
      · have hi : (i : Int) < n + 1 := hi
        show 1 ≤ eUp (eUp F p.toNat l) n.toNat (F p.toNat - t - l) i ∧ eUp (eUp F p.toNat l) n.toNat (F p.toNat - t - l) i ≤ 30
        by_cases h : i = n.toNat
        · rw [eUp_eq h]; omega
        · rw [eUp_ne h]
          by_cases h9 : i = p.toNat
          · rw [eUp_eq h9]; omega
          · rw [eUp_ne h9]; exact hF _ (by omega)
      · show gSum (eUp (eUp F p.toNat l) n.toNat (F p.toNat - t - l)) (n + 1).toNat = _
        rw [show (n + 1).toNat = n.toNat + 1 by omega]
        simp only [gSum]
        rw [gSum_upn (Nat.le_refl _), eUp_eq rfl, gSum_up (by omega)]
        omega
      · show 0 ≤ eUp (eUp F p.toNat l) n.toNat (F p.toNat - t - l) i ∧ eUp (eUp F p.toNat l) n.toNat (F p.toNat - t - l) i ≤ 40
        by_cases h : i = n.toNat
        · rw [eUp_eq h]; omega
        · rw [eUp_ne h]
          by_cases h9 : i = p.toNat
          · rw [eUp_eq h9]; omega
          · rw [eUp_ne h9]; exact hF4 _ hi
    · have e1 : gCut F n p t l = (eUp F p.toNat l, n) := by
        unfold gCut; rw [decide_eq_false ho, decide_eq_false hl0]
      rw [e1]
      refine ⟨⟨by show 0 ≤ n; omega, by show n ≤ 40; omega⟩, fun i hi => ?_, ?_, fun i hi => ?_⟩
      · show 1 ≤ eUp F p.toNat l i ∧ eUp F p.toNat l i ≤ 30
        by_cases h9 : i = p.toNat
        · rw [eUp_eq h9]; omega
        · rw [eUp_ne h9]; exact hF _ hi
      · show gSum (eUp F p.toNat l) n.toNat = _
        rw [gSum_up (by omega)]; omega
      · show 0 ≤ eUp F p.toNat l i ∧ eUp F p.toNat l i ≤ 40
        by_cases h9 : i = p.toNat
        · rw [eUp_eq h9]; omega
        · rw [eUp_ne h9]; exact hF4 _ hi
theorem gTls_0 {G : eGd} {t : Int} (h : G.2.2.2.2.1 = 0) : gTls G t 0 = G.2.2.1 0 + 1 ∧ gTls G t 1 = G.2.2.1 1 + t ∧ gTls G t 2 = G.2.2.1 2 ∧ gTls G t 3 = G.2.2.1 3 + 1 ∧ gTls G t 4 = G.2.2.1 4 ∧ gTls G t 5 = G.2.2.1 5 ∧ gTls G t 6 = G.2.2.1 6 ∧ gTls G t 7 = G.2.2.1 7 := by
  unfold gTls; rw [h]; exact ⟨rfl, rfl, rfl, rfl, rfl, rfl, rfl, rfl⟩
theorem gTls_1 {G : eGd} {t : Int} (h : G.2.2.2.2.1 = 1) : gTls G t 0 = G.2.2.1 0 ∧ gTls G t 1 = G.2.2.1 1 ∧ gTls G t 2 = G.2.2.1 2 ∧ gTls G t 3 = G.2.2.1 3 ∧ gTls G t 4 = G.2.2.1 4 + 1 ∧ gTls G t 5 = G.2.2.1 5 + t ∧ gTls G t 6 = G.2.2.1 6 ∧ gTls G t 7 = G.2.2.1 7 + 1 := by
  unfold gTls; rw [h]; exact ⟨rfl, rfl, rfl, rfl, rfl, rfl, rfl, rfl⟩
theorem eL8 {P : Nat → Prop} (h0 : P 0) (h1 : P 1) (h2 : P 2) (h3 : P 3) (h4 : P 4) (h5 : P 5) (h6 : P 6) (h7 : P 7) : ∀ i, i < 8 → P i := by
  intro i hi
  have : i = 0 ∨ i = 1 ∨ i = 2 ∨ i = 3 ∨ i = 4 ∨ i = 5 ∨ i = 6 ∨ i = 7 := by omega
  rcases this with rfl | rfl | rfl | rfl | rfl | rfl | rfl | rfl <;> assumption
theorem eL6 {P : Nat → Prop} (h0 : P 0) (h1 : P 1) (h2 : P 2) (h3 : P 3) (h4 : P 4) (h5 : P 5) : ∀ i, i < 6 → P i := by
  intro i hi
  have : i = 0 ∨ i = 1 ∨ i = 2 ∨ i = 3 ∨ i = 4 ∨ i = 5 := by omega
  rcases this with rfl | rfl | rfl | rfl | rfl | rfl <;> assumption
/-- may the scoop be made -/
def gMay (G : eGd) (S : Int × Int × Int) : Prop := (0 ≤ S.1 ∧ S.1 < G.2.2.2.1) ∧ (1 ≤ S.2.1 ∧ S.2.1 ≤ 6) ∧ gLets (gDig G) (G.1 S.1.toNat) S.2.1 S.2.2 = true
theorem gI_make {c : Int} {G : eGd} {S : Int × Int × Int} (hI : gI c G) (hM : gMay G S) : gI (c + 1) (gMake G S) := by
  obtain ⟨⟨b1, b2, b3, b4⟩, a2, a3, a4, a5, a6, a7, a8, a9, a10⟩ := hI
  obtain ⟨m1, m2, m3⟩ := hM
  have ml := gLets_iff.mp m3
  obtain ⟨c1, c2, c3, c4⟩ := gCut_ok (F := G.1) m1 a3 b3 a4 m2.1 ml.1 ml.2.1 ml.2.2.1
  have t0 := a5 0 (by decide); have t1 := a5 1 (by decide); have t2 := a5 2 (by decide); have t3 := a5 3 (by decide)
  have t4 := a5 4 (by decide); have t5 := a5 5 (by decide); have t6 := a5 6 (by decide); have t7 := a5 7 (by decide)
  have tt : (∀ i, i < 8 → 0 ≤ gTls G S.2.1 i ∧ gTls G S.2.1 i ≤ 6 * (c + 1)) ∧ gTls G S.2.1 0 + gTls G S.2.1 4 ≤ c + 1 ∧ gTls G S.2.1 1 + gTls G S.2.1 5 = G.2.2.1 1 + G.2.2.1 5 + S.2.1 := by
    rcases a2 with h | h
    · obtain ⟨d0, d1, d2, d3, d4, d5, d6, d7⟩ := gTls_0 (t := S.2.1) h
      refine ⟨eL8 ?_ ?_ ?_ ?_ ?_ ?_ ?_ ?_, by omega, by omega⟩ <;> omega
    · obtain ⟨d0, d1, d2, d3, d4, d5, d6, d7⟩ := gTls_1 (t := S.2.1) h
      refine ⟨eL8 ?_ ?_ ?_ ?_ ?_ ?_ ?_ ?_, by omega, by omega⟩ <;> omega
  refine ⟨⟨c1.1, c1.2, c4, b4⟩, by show 1 - G.2.2.2.2.1 = 0 ∨ 1 - G.2.2.2.2.1 = 1; omega, c2, by show gSum (gCut _ _ _ _ _).1 (gCut _ _ _ _ _).2.toNat ≤ 40; rw [c3]; omega, tt.1, tt.2.1, by show 0 ≤ G.2.2.2.2.2.1 ∧ G.2.2.2.2.2.1 ≤ 30 * (c + 1); omega, by show 0 ≤ G.2.2.2.2.2.2.1 ∧ G.2.2.2.2.2.2.1 ≤ 40 * (c + 1); omega, by show 0 ≤ G.2.2.2.2.2.2.2 ∧ G.2.2.2.2.2.2.2 ≤ c + 1; omega, ?_⟩
  show G.2.2.2.2.2.1 = gSum (gCut G.1 G.2.2.2.1 S.1 S.2.1 S.2.2).1 (gCut G.1 G.2.2.2.1 S.1 S.2.1 S.2.2).2.toNat + (gTls G S.2.1 1 + gTls G S.2.1 5) + G.2.2.2.2.2.2.1
  rw [c3]; omega
theorem gTal_l {G : eGd} (m w : Nat) (hm : m < 2) (hw : w < 4) : gTal G m w = G.2.2.1 (m * 4 + w) := by
  rw [gTal_t (by omega), show ((m : Int) * 4 + (w : Int)).toNat = m * 4 + w by omega]
theorem gWin_c {c : Int} {G : eGd} (hI : gI c G) : (G.2.2.1 3 + G.2.2.1 7 = 0 ∧ gWin G = -1) ∨ (G.2.2.1 3 + G.2.2.1 7 ≠ 0 ∧ gWin G = 1 - G.2.2.2.2.1) := by
  have e : gTal G 0 3 + gTal G 1 3 = G.2.2.1 3 + G.2.2.1 7 := by rw [show gTal G 0 3 = _ from gTal_l 0 3 (by decide) (by decide), show gTal G 1 3 = _ from gTal_l 1 3 (by decide) (by decide)]
  unfold gWin
  rw [e]
  by_cases h : G.2.2.1 3 + G.2.2.1 7 = 0
  · rw [decide_eq_true h]; exact Or.inl ⟨h, rfl⟩
  · rw [decide_eq_false h]; exact Or.inr ⟨h, rfl⟩
/-- the tallies behind a game -/
theorem gNext_T {c : Int} {G : eGd} (hI : gI c G) : (∀ i, i < 8 → i ≠ 2 → i ≠ 6 → i ≠ 3 → i ≠ 7 → (gNext G).2.2.1 i = G.2.2.1 i) ∧ (gNext G).2.2.1 3 = 0 ∧ (gNext G).2.2.1 7 = 0 ∧ (gNext G).2.2.1 2 = G.2.2.1 2 + (if gWin G = 0 then 1 else 0) ∧ (gNext G).2.2.1 6 = G.2.2.1 6 + (if gWin G = 1 then 1 else 0) := by
  have hw := gWin_c hI
  have ht := hI.2.1
  have hg : gWin G = -1 ∨ gWin G = 0 ∨ gWin G = 1 := by omega
  have e : (gNext G).2.2.1 = (gN2 (gN2 (gN1 G) 0) (0 + 1)).2.2.1 := rfl
  have x3 : gTal (gN1 G) 0 3 = (gN1 G).2.2.1 3 := gTal_l 0 3 (by decide) (by decide)
  have x7 : gTal (gN2 (gN1 G) 0) (0 + 1) 3 = (gN2 (gN1 G) 0).2.2.1 7 := gTal_l 1 3 (by decide) (by decide)
  have e2 : (gN2 (gN2 (gN1 G) 0) (0 + 1)).2.2.1 = eUp (eUp (gN1 G).2.2.1 3 ((gN1 G).2.2.1 3 + -(gN1 G).2.2.1 3)) 7 (eUp (gN1 G).2.2.1 3 ((gN1 G).2.2.1 3 + -(gN1 G).2.2.1 3) 7 + -eUp (gN1 G).2.2.1 3 ((gN1 G).2.2.1 3 + -(gN1 G).2.2.1 3) 7) := by
    show gTlx (gN2 (gN1 G) 0).2.2.1 (0 + 1) 3 (-gTal (gN2 (gN1 G) 0) (0 + 1) 3) = _
    rw [x7]
    show gTlx (gTlx (gN1 G).2.2.1 0 3 (-gTal (gN1 G) 0 3)) (0 + 1) 3 (-(gTlx (gN1 G).2.2.1 0 3 (-gTal (gN1 G) 0 3)) 7) = _
    rw [x3]; rfl
  have e3 : ∀ j, (gN1 G).2.2.1 j = if gWin G = 0 then (eUp G.2.2.1 2 (G.2.2.1 2 + 1)) j else if gWin G = 1 then (eUp G.2.2.1 6 (G.2.2.1 6 + 1)) j else G.2.2.1 j := by
    intro j
    show gTlx G.2.2.1 (gWin G) 2 1 j = _
    rcases hg with h | h | h <;> rw [h] <;> rfl
  rw [e, e2]
  refine ⟨fun i h8 h2 h6 h3 h7 => ?_, ?_, ?_, ?_, ?_⟩
  · rw [eUp_ne h7, eUp_ne h3, e3]
    rcases hg with h | h | h <;> rw [h]
    · rfl
    · rw [if_pos rfl, eUp_ne h2]
    · rw [if_neg (by decide), if_pos rfl, eUp_ne h6]
  · rw [eUp_ne (by decide), eUp_eq rfl]; omega
  · rw [eUp_eq rfl]; omega
  · rw [eUp_ne (by decide), eUp_ne (by decide), e3]
    rcases hg with h | h | h <;> rw [h]
    · show G.2.2.1 2 = _; omega
    · rw [if_pos rfl, if_pos rfl, eUp_eq rfl]
    · rw [if_neg (by decide), if_pos rfl, eUp_ne (by decide), if_neg (by decide)]; omega
  · rw [eUp_ne (by decide), eUp_ne (by decide), e3]
    rcases hg with h | h | h <;> rw [h]
    · show G.2.2.1 6 = _; omega
    · rw [if_pos rfl, eUp_ne (by decide), if_neg (by decide)]; omega
    · rw [if_neg (by decide), if_pos rfl, eUp_eq rfl, if_pos rfl]
theorem gI_next {c : Int} {G : eGd} (hI : gI c G) : gI (c + 1) (gNext G) := by
  obtain ⟨n1, n2, n3, n4, n5⟩ := gNext_T hI
  obtain ⟨⟨b1, b2, b3, b4⟩, a2, a3, a4, a5, a6, a7, a8, a9, a10⟩ := hI
  have t0 := a5 0 (by decide); have t1 := a5 1 (by decide); have t2 := a5 2 (by decide); have t3 := a5 3 (by decide)
  have t4 := a5 4 (by decide); have t5 := a5 5 (by decide); have t6 := a5 6 (by decide); have t7 := a5 7 (by decide)
  have x0 := n1 0 (by decide) (by decide) (by decide) (by decide) (by decide)
  have x1 := n1 1 (by decide) (by decide) (by decide) (by decide) (by decide)
  have x4 := n1 4 (by decide) (by decide) (by decide) (by decide) (by decide)
  have x5 := n1 5 (by decide) (by decide) (by decide) (by decide) (by decide)
  have hs := gSum_le (F := G.1) (b := 40) (n := G.2.2.2.1.toNat) (fun i hi => b3 i (by omega))
  have y2 : (gNext G).2.2.1 2 ≤ G.2.2.1 2 + 1 ∧ G.2.2.1 2 ≤ (gNext G).2.2.1 2 := by rw [n4]; split <;> omega
  have y6 : (gNext G).2.2.1 6 ≤ G.2.2.1 6 + 1 ∧ G.2.2.1 6 ≤ (gNext G).2.2.1 6 := by rw [n5]; split <;> omega
  refine ⟨⟨Int.le_refl _, by show (0 : Int) ≤ 40; omega, b3, b4⟩, a2, fun i hi => absurd hi (by show ¬ (i : Int) < 0; omega), by show (0 : Int) ≤ 40; omega, eL8 ?_ ?_ ?_ ?_ ?_ ?_ ?_ ?_, by omega, by show 0 ≤ G.2.2.2.2.2.1 ∧ G.2.2.2.2.2.1 ≤ 30 * (c + 1); omega, by show 0 ≤ G.2.2.2.2.2.2.1 + gSum G.1 G.2.2.2.1.toNat ∧ G.2.2.2.2.2.2.1 + gSum G.1 G.2.2.2.1.toNat ≤ 40 * (c + 1); omega, by show 0 ≤ G.2.2.2.2.2.2.2 + 1 ∧ G.2.2.2.2.2.2.2 + 1 ≤ c + 1; omega, ?_⟩
  · omega
  · omega
  · omega
  · omega
  · omega
  · omega
  · omega
  · omega
  · show G.2.2.2.2.2.1 = 0 + ((gNext G).2.2.1 1 + (gNext G).2.2.1 5) + (G.2.2.2.2.2.2.1 + gSum G.1 G.2.2.2.1.toNat)
    omega
theorem eUp_sh {g : Nat → Int} {p x : Int} (h : 0 ≤ p) (i : Nat) : eUp g (22 + p).toNat x (22 + i) = eUp (fun j => g (22 + j)) p.toNat x i := by
  by_cases e : i = p.toNat
  · rw [eUp_eq (by omega), eUp_eq e]
  · rw [eUp_ne (by omega), eUp_ne e]
theorem eUp_cg {F F' : Nat → Int} {p : Nat} {x : Int} {i : Nat} (h : F i = F' i) : eUp F p x i = eUp F' p x i := by
  unfold eUp; split; rfl; exact h
