/-! ===== values: what the lists hold, and the least that isn't there ===== -/
theorem gOptL_iff {D T : Int → Int} {m t x : Int} : ∀ {n : Nat}, gOptL D T m t x n = true ↔ ∃ k : Nat, k < n ∧ gLets D m t k = true ∧ gXr (T k) (T (m - t - k)) = x
  | 0 => ⟨(fun h => nomatch h), fun ⟨k, h, _⟩ => absurd h (Nat.not_lt_zero _)⟩
  | n + 1 => by
    simp only [gOptL, Bool.or_eq_true, Bool.and_eq_true, decide_eq_true_eq, gOptL_iff (n := n)]
    constructor
    · rintro (⟨k, h1, h2⟩ | h)
      · exact ⟨k, by omega, h2⟩
      · exact ⟨n, by omega, h⟩
    · rintro ⟨k, h1, h2⟩
      by_cases hk : k = n
      · subst hk; exact Or.inr h2
      · exact Or.inl ⟨k, by omega, h2⟩
theorem gOptT_iff {D T : Int → Int} {m x : Int} : ∀ {n : Nat}, gOptT D T m x n = true ↔ ∃ t : Int, 1 ≤ t ∧ t ≤ n ∧ ∃ l : Int, gLets D m t l = true ∧ gXr (T l) (T (m - t - l)) = x
  | 0 => ⟨(fun h => nomatch h), fun ⟨t, h1, h2, _⟩ => absurd h1 (by omega)⟩
  | n + 1 => by
    simp only [gOptT, Bool.or_eq_true, gOptT_iff (n := n), gOptL_iff]
    constructor
    · rintro (⟨t, h1, h2, h3⟩ | ⟨k, h1, h2, h3⟩)
      · exact ⟨t, h1, by omega, h3⟩
      · exact ⟨n + 1, by omega, by omega, k, h2, h3⟩
    · rintro ⟨t, h1, h2, l, h3, h4⟩
      by_cases ht : t = n + 1
      · subst ht
        have := gLets_le h3
        refine Or.inr ⟨l.toNat, by omega, ?_⟩
        rw [Int.toNat_of_nonneg this.1]
        exact ⟨h3, h4⟩
      · exact Or.inl ⟨t, h1, by omega, l, h3, h4⟩
theorem gOpt_iff {D T : Int → Int} {m x : Int} : gOpt D T m x = true ↔ ∃ t : Int, 1 ≤ t ∧ t ≤ 6 ∧ ∃ l : Int, gLets D m t l = true ∧ gXr (T l) (T (m - t - l)) = x := gOptT_iff (n := 6)
theorem gOpt_congr {D T T' : Int → Int} {m : Int} (h : ∀ i, 0 ≤ i → i < m → T i = T' i) (x : Int) : gOpt D T m x = gOpt D T' m x := by
  rw [Bool.eq_iff_iff, gOpt_iff, gOpt_iff]
  constructor
  · rintro ⟨t, h1, h2, l, h3, h4⟩
    have := gLets_le h3
    exact ⟨t, h1, h2, l, h3, by rw [← h l this.1 (by omega), ← h (m - t - l) (by omega) (by omega)]; exact h4⟩
  · rintro ⟨t, h1, h2, l, h3, h4⟩
    have := gLets_le h3
    exact ⟨t, h1, h2, l, h3, by rw [h l this.1 (by omega), h (m - t - l) (by omega) (by omega)]; exact h4⟩
theorem gOpt_lt {D T : Int → Int} {m x : Int} (hm : m ≤ 31) (h : ∀ i, 0 ≤ i → i < m → 0 ≤ T i ∧ T i ≤ i) (ho : gOpt D T m x = true) : 0 ≤ x ∧ x < m := by
  obtain ⟨t, h1, h2, l, h3, h4⟩ := gOpt_iff.mp ho
  have h5 := gLets_le h3
  have h6 := h l h5.1 (by omega)
  have h7 := h (m - t - l) (by omega) (by omega)
  have h8 := gXr_le (a := T l) (b := T (m - t - l)) (by omega) (by omega)
  have h9 := gXr_lt (a := T l) (b := T (m - t - l)) (by omega) (by omega)
  omega
theorem gSpl_iff {T : Int → Int} {n x : Int} : ∀ {k : Nat}, gSpl T n x k = true ↔ ∃ l : Int, 1 ≤ l ∧ l ≤ k ∧ gXr (T l) (T (n - l)) = x
  | 0 => ⟨(fun h => nomatch h), fun ⟨l, h1, h2, _⟩ => absurd h1 (by omega)⟩
  | k + 1 => by
    simp only [gSpl, Bool.or_eq_true, decide_eq_true_eq, gSpl_iff (k := k)]
    constructor
    · rintro (⟨l, h1, h2, h3⟩ | h)
      · exact ⟨l, h1, by omega, h3⟩
      · exact ⟨k + 1, by omega, by omega, h⟩
    · rintro ⟨l, h1, h2, h3⟩
      by_cases hl : l = k + 1
      · subst hl; exact Or.inr h3
      · exact Or.inl ⟨l, h1, by omega, h3⟩
theorem gBts_iff {D T : Int → Int} {m x : Int} : ∀ {n : Nat}, gBts D T m x n = true ↔ ∃ t : Int, 1 ≤ t ∧ t ≤ n ∧ gBt D T m t x = true
  | 0 => ⟨(fun h => nomatch h), fun ⟨t, h1, h2, _⟩ => absurd h1 (by omega)⟩
  | n + 1 => by
    simp only [gBts, Bool.or_eq_true, gBts_iff (n := n)]
    constructor
    · rintro (⟨t, h1, h2, h3⟩ | h)
      · exact ⟨t, h1, by omega, h3⟩
      · exact ⟨n + 1, by omega, by omega, h⟩
    · rintro ⟨t, h1, h2, h3⟩
      by_cases ht : t = n + 1
      · subst ht; exact Or.inr h3
      · exact Or.inl ⟨t, h1, by omega, h3⟩
theorem gXr_comm (a b : Int) : gXr a b = gXr b a := by unfold gXr; rw [Nat.xor_comm]
theorem gXr_zero {a : Int} (h : 0 ≤ a) : gXr a 0 = a := by
  unfold gXr
  rw [show (0 : Int).toNat = 0 from rfl, Nat.xor_zero, Int.toNat_of_nonneg h]
theorem gBts_opt {D T : Int → Int} {m : Int} (hT0 : 1 ≤ m → T 0 = 0) (hT : ∀ i, 0 ≤ T i) (x : Int) : gBts D T m x 6 = gOpt D T m x := by
  rw [Bool.eq_iff_iff, gBts_iff, gOpt_iff]
  constructor
  · rintro ⟨t, h1, h2, h3⟩
    refine ⟨t, h1, h2, ?_⟩
    unfold gBt at h3
    simp only [Bool.or_eq_true, Bool.and_eq_true, decide_eq_true_eq, gSpl_iff] at h3
    rcases h3 with (⟨⟨a, b⟩, c⟩ | ⟨⟨a, b⟩, c⟩) | ⟨a, l, b, c, e⟩
    · exact ⟨0, gLets_t (by omega), by rw [show m - t - 0 = 0 by omega, hT0 (by omega), c]; rfl⟩
    · refine ⟨m - t, gLets_t (by omega), ?_⟩
      rw [show m - t - (m - t) = 0 by omega, hT0 (by omega), gXr_zero (hT _), c]
    · exact ⟨l, gLets_t (by omega), e⟩
  · rintro ⟨t, h1, h2, l, h3, h4⟩
    refine ⟨t, h1, h2, ?_⟩
    unfold gBt
    simp only [Bool.or_eq_true, Bool.and_eq_true, decide_eq_true_eq, gSpl_iff]
    have h5 := gLets_iff.mp h3
    by_cases l0 : l = 0
    · subst l0
      refine Or.inl (Or.inl ⟨⟨by omega, by omega⟩, ?_⟩)
      rw [← h4, show m - t - 0 = 0 by omega, hT0 (by omega)]; rfl
    · by_cases l1 : t + l = m
      · refine Or.inl (Or.inr ⟨⟨by omega, by omega⟩, ?_⟩)
        rw [← h4, show m - t - l = 0 by omega, hT0 (by omega), gXr_zero (hT _), show l = m - t by omega]
      · refine Or.inr ⟨by omega, ?_⟩
        by_cases l2 : l ≤ m - t - l
        · exact ⟨l, by omega, by omega, h4⟩
        · exact ⟨m - t - l, by omega, by omega, by rw [gXr_comm, show m - t - (m - t - l) = l by omega]; exact h4⟩
/-- the first place that is not 1 -/
theorem gLook_le {F : Nat → Int} : ∀ {k v w : Nat}, v ≤ w → w < v + k → ¬ F w = 1 → (v : Int) ≤ gLook F k v ∧ gLook F k v ≤ w ∧ (∀ j : Nat, v ≤ j → (j : Int) < gLook F k v → F j = 1) ∧ ¬ F (gLook F k v).toNat = 1
  | 0, v, w, h1, h2, _ => absurd h2 (by omega)
  | k + 1, v, w, h1, h2, h3 => by
    by_cases hv : F v = 1
    · rw [gLook_t hv]
      have hw : v ≠ w := fun e => h3 (e ▸ hv)
      obtain ⟨a, b, c, e⟩ := gLook_le (F := F) (k := k) (v := v + 1) (w := w) (by omega) (by omega) h3
      refine ⟨by omega, b, fun j h4 h5 => ?_, e⟩
      by_cases hj : j = v
      · rw [hj]; exact hv
      · exact c j (by omega) h5
    · rw [gLook_f hv]
      exact ⟨by omega, by omega, fun j h4 h5 => absurd h5 (by omega), hv⟩
theorem gLook_congr {F F' : Nat → Int} : ∀ {k v : Nat}, (∀ j, v ≤ j → j < v + k → F j = F' j) → gLook F k v = gLook F' k v
  | 0, v, _ => rfl
  | k + 1, v, h => by
    have h1 := h v (by omega) (by omega)
    have h2 := gLook_congr (F := F) (F' := F') (k := k) (v := v + 1) (fun j a b => h j (by omega) (by omega))
    by_cases hv : F v = 1
    · rw [gLook_t hv, gLook_t (h1 ▸ hv), h2]
    · rw [gLook_f hv, gLook_f (h1 ▸ hv)]
def gMex (p : Int → Bool) : Int := gLook (fun j => eB01 (p j)) 32 0
theorem eB01_1 {b : Bool} : eB01 b = 1 ↔ b = true := by cases b <;> simp [eB01]
theorem gMex_spec {p : Int → Bool} {m : Int} (hm : 0 ≤ m ∧ m ≤ 31) (h : p m = false) : 0 ≤ gMex p ∧ gMex p ≤ m ∧ (∀ j : Int, 0 ≤ j → j < gMex p → p j = true) ∧ p (gMex p) = false := by
  obtain ⟨a, b, c, e⟩ := gLook_le (F := fun j => eB01 (p j)) (k := 32) (v := 0) (w := m.toNat) (by omega) (by omega) (by rw [Int.toNat_of_nonneg hm.1, h]; decide)
  have a' : 0 ≤ gMex p := a
  refine ⟨a, by show gLook _ 32 0 ≤ m; omega, fun j h4 h5 => ?_, ?_⟩
  · have := c j.toNat (by omega) (by rw [Int.toNat_of_nonneg h4]; exact h5)
    rw [Int.toNat_of_nonneg h4] at this
    exact eB01_1.mp this
  · have e' : ¬ eB01 (p ((gMex p).toNat : Int)) = 1 := e
    rw [Int.toNat_of_nonneg a', eB01_1] at e'
    exact Bool.eq_false_iff.mpr e'
theorem gMex_congr {p q : Int → Bool} (h : ∀ j, 0 ≤ j → p j = q j) : gMex p = gMex q := gLook_congr (fun j _ _ => by show eB01 (p j) = eB01 (q j); rw [h j (by omega)])
theorem gMex_uni {p : Int → Bool} {k m : Int} (hm : 0 ≤ m ∧ m ≤ 31) (hpm : p m = false) (hk : 0 ≤ k) (h1 : ∀ j, 0 ≤ j → j < k → p j = true) (h2 : p k = false) : k = gMex p := by
  obtain ⟨a, b, c, e⟩ := gMex_spec hm hpm
  rcases Int.lt_trichotomy k (gMex p) with h | h | h
  · rw [c k hk h] at h2; cases h2
  · exact h
  · rw [h1 _ a h] at e; cases e
/-- the values of the numbers below n -/
def gvT (D : Int → Int) : Nat → Nat → Int
  | 0 => fun _ => 0
  | n + 1 => eUp (gvT D n) n (gMex (gOpt D (gVal (gvT D n)) n))
def gv (D : Int → Int) (i : Nat) : Int := gvT D (i + 1) i
theorem gvT_keep {D : Int → Int} : ∀ {n i : Nat}, i < n → gvT D n i = gv D i
  | 0, i, h => absurd h (by omega)
  | n + 1, i, h => by
    by_cases hi : i = n
    · subst hi; rfl
    · show eUp (gvT D n) n _ i = _
      unfold eUp
      rw [if_neg hi]
      exact gvT_keep (by omega)
theorem gv_eq {D : Int → Int} (i : Nat) : gv D i = gMex (gOpt D (gVal (gvT D i)) i) := by
  show eUp (gvT D i) i _ i = _
  unfold eUp
  rw [if_pos rfl]
/-- the values as a function -/
def gvv (D : Int → Int) (i : Int) : Int := gVal (gv D) i
theorem gVal_agree {F F' : Nat → Int} {m : Int} (h : ∀ i : Nat, (i : Int) < m → F i = F' i) : ∀ i, 0 ≤ i → i < m → gVal F i = gVal F' i := by
  intro i h0 hi
  unfold gVal
  cases gNum i with
  | true => exact h i.toNat (by omega)
  | false => rfl
theorem gv_opt {D : Int → Int} (i : Nat) (x : Int) : gOpt D (gVal (gvT D i)) i x = gOpt D (gvv D) i x :=
  gOpt_congr (gVal_agree (fun j hj => gvT_keep (by omega))) x
theorem gv_le {D : Int → Int} : ∀ (n i : Nat), i < n → i ≤ 30 → 0 ≤ gv D i ∧ gv D i ≤ i
  | 0, i, h, _ => absurd h (by omega)
  | n + 1, i, h, h30 => by
    have hlow : ∀ j : Int, 0 ≤ j → j < (i : Int) → 0 ≤ gvv D j ∧ gvv D j ≤ j := by
      intro j h0 hj
      unfold gvv
      rw [gVal_t (by omega)]
      have := gv_le (D := D) n j.toNat (by omega) (by omega)
      omega
    have hno : gOpt D (gvv D) i i = false := by
      rw [← Bool.not_eq_true]
      intro h9
      have := gOpt_lt (by omega) hlow h9
      omega
    rw [gv_eq, show gMex (gOpt D (gVal (gvT D i)) i) = gMex (gOpt D (gvv D) i) from gMex_congr (fun j _ => gv_opt i j)]
    obtain ⟨a, b, -, -⟩ := gMex_spec (m := (i : Int)) (by omega) hno
    exact ⟨a, b⟩
theorem gvv_le {D : Int → Int} {i : Int} (h0 : 0 ≤ i) : 0 ≤ gvv D i ∧ gvv D i ≤ i := by
  unfold gvv
  by_cases h : i ≤ 30
  · rw [gVal_t ⟨h0, h⟩]
    have := gv_le (D := D) (i.toNat + 1) i.toNat (by omega) (by omega)
    omega
  · rw [gVal_f (by omega)]; omega
theorem gvv_mex {D : Int → Int} (i : Nat) : gv D i = gMex (gOpt D (gvv D) i) := by
  rw [gv_eq]; exact gMex_congr (fun j _ => gv_opt i j)
theorem gv_no {D : Int → Int} {i x : Int} (h : 0 ≤ i ∧ i ≤ 31) (hx : i ≤ x) : gOpt D (gvv D) i x = false := by
  rw [← Bool.not_eq_true]
  intro h9
  have := gOpt_lt (by omega) (fun j h0 _ => gvv_le h0) h9
  omega
theorem gvv_0 {D : Int → Int} : gvv D 0 = 0 := by
  have := gvv_le (D := D) (i := 0) (Int.le_refl _)
  omega
theorem gvv_nn {D : Int → Int} (i : Int) : 0 ≤ gvv D i := by
  by_cases h : 0 ≤ i
  · exact (gvv_le h).1
  · unfold gvv; rw [gVal_f (by omega)]; omega
/-- the bits of a number of marbles -/
def gBitOk (D : Int → Int) (i : Nat) (x : Int) : Prop := ∃ b : Nat, x = (b : Int) ∧ b < 2 ^ 31 ∧ ∀ j : Nat, j < 31 → b.testBit j = gOpt D (gvv D) i j
theorem gBts_gv {D : Int → Int} {B : Nat → Int} {c : Int} (hc : 0 ≤ c ∧ c ≤ 30) (hB : ∀ i : Nat, (i : Int) < c → B i = gv D i) (h0 : ∀ i, i < 31 → 0 ≤ B i ∧ B i ≤ 31) (x : Int) : gBts D (gVal B) c x 6 = gOpt D (gvv D) c x := by
  rw [gBts_opt (fun h1 => ?_) (fun i => (gVal_le (by omega) h0 i).1)]
  · exact gOpt_congr (fun i a b => by rw [gVal_agree hB i a b]; rfl) x
  · rw [gVal_t (by omega), show (0 : Int).toNat = 0 from rfl, hB 0 (by omega)]
    have := gvv_0 (D := D)
    unfold gvv at this
    rw [gVal_t (by omega)] at this
    exact this
theorem gMex_gv {D : Int → Int} {L F : Nat → Int} {c : Int} (hc : 0 ≤ c ∧ c ≤ 30) (hL : ∀ i : Nat, (i : Int) < c → L i = gv D i) (hF : ∀ j : Nat, j < 32 → F j = eB01 (gOpt D (gVal L) c j)) : gLook F 32 0 = gv D c.toNat := by
  rw [gvv_mex]
  refine gLook_congr (fun j _ h => ?_)
  rw [hF j (by omega), Int.toNat_of_nonneg hc.1]
  congr 1
  exact gOpt_congr (fun i a b => by rw [gVal_agree hL i a b]; rfl) _
theorem gv_bits {D : Int → Int} {b : Nat} {c : Int} (hc : 0 ≤ c ∧ c ≤ 30) (h : ∀ j : Nat, j < 31 → b.testBit j = gOpt D (gvv D) c j) : (gv D c.toNat).toNat ≤ 30 ∧ (∀ j, j < (gv D c.toNat).toNat → b.testBit j = true) ∧ b.testBit (gv D c.toNat).toNat = false := by
  obtain ⟨h1, h2, h3, h4⟩ := gMex_spec (m := c) (by omega) (gv_no (D := D) (i := c) (by omega) (Int.le_refl _))
  have e : gv D c.toNat = gMex (gOpt D (gvv D) c) := by rw [gvv_mex, Int.toNat_of_nonneg hc.1]
  rw [e]
  refine ⟨by omega, fun j hj => ?_, ?_⟩
  · rw [h j (by omega)]; exact h3 j (by omega) (by omega)
  · rw [h _ (by omega), Int.toNat_of_nonneg h1]; exact h4
/-- values that are right for the digits D -/
def gVD (V : eVs) (D : Int → Int) : Prop := gVO V ∧ ∀ i : Nat, i < 31 → V.2.1 i = gv D i ∧ V.2.2.1 i = gv D i ∧ gBitOk D i (V.2.2.2.1 i)
