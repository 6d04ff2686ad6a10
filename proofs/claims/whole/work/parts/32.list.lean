/-! the scoops of a garden as a list -/
def lL (D : Int → Int) (m t : Int) (i : Int) : Nat → List Int
  | 0 => []
  | n + 1 => match gLets D m t i with | true => i :: lL D m t (i + 1) n | false => lL D m t (i + 1) n
def lT (D : Int → Int) (m : Int) (t : Int) : Nat → List (Int × Int)
  | 0 => []
  | n + 1 => (lL D m t 0 (m - t + 1).toNat).map (fun l => (t, l)) ++ lT D m (t + 1) n
def lP (G : eGd) (p : Int) : Nat → List (Int × Int × Int)
  | 0 => []
  | n + 1 => (lT (gDig G) (G.1 p.toNat) 1 6).map (fun q => (p, q)) ++ lP G (p + 1) n
def lS (G : eGd) : List (Int × Int × Int) := lP G 0 G.2.2.2.1.toNat
theorem lL_t {D : Int → Int} {m t i : Int} {n : Nat} (h : gLets D m t i = true) : lL D m t i (n + 1) = i :: lL D m t (i + 1) n := by
  show (match gLets D m t i with | true => i :: lL D m t (i + 1) n | false => lL D m t (i + 1) n) = _
  rw [h]
theorem lL_f {D : Int → Int} {m t i : Int} {n : Nat} (h : gLets D m t i = false) : lL D m t i (n + 1) = lL D m t (i + 1) n := by
  show (match gLets D m t i with | true => i :: lL D m t (i + 1) n | false => lL D m t (i + 1) n) = _
  rw [h]
theorem lL_len {D : Int → Int} {m t : Int} : ∀ (n k : Nat), ((lL D m t k n).length : Int) + gCntL D m t k = gCntL D m t (k + n)
  | 0, k => by show (0 : Int) + _ = _; rw [Int.zero_add]; rfl
  | n + 1, k => by
    have ih := lL_len (D := D) (m := m) (t := t) n (k + 1)
    have e : gCntL D m t (k + 1) = gCntL D m t k + eB01 (gLets D m t k) := rfl
    rw [e] at ih
    rw [show k + (n + 1) = k + 1 + n by omega, ← ih]
    cases hl : gLets D m t (k : Int) with
    | true => rw [lL_t hl, List.length_cons]; show ((_ : Nat) : Int) + _ = _; rw [show ((k + 1 : Nat) : Int) = (k : Int) + 1 from rfl]; simp only [eB01]; omega
    | false => rw [lL_f hl, show ((k + 1 : Nat) : Int) = (k : Int) + 1 from rfl]; simp only [eB01]; omega
theorem lL_wy {D : Int → Int} {m t : Int} : ((lL D m t 0 (m - t + 1).toNat).length : Int) = gWy D m t := by
  have h := lL_len (D := D) (m := m) (t := t) (m - t + 1).toNat 0
  rw [Nat.zero_add] at h
  unfold gWy
  rw [← h]
  exact (Int.add_zero _).symm
theorem lT_len {D : Int → Int} {m : Int} : ∀ (n k : Nat), ((lT D m ((k : Int) + 1) n).length : Int) + gCntT D m k = gCntT D m (k + n)
  | 0, k => by show (0 : Int) + _ = _; rw [Int.zero_add]; rfl
  | n + 1, k => by
    have ih := lT_len (D := D) (m := m) n (k + 1)
    have e : gCntT D m (k + 1) = gCntT D m k + gCntL D m ((k : Int) + 1) (m - k).toNat := rfl
    have e2 := lL_len (D := D) (m := m) (t := (k : Int) + 1) (m - ((k : Int) + 1) + 1).toNat 0
    rw [Nat.zero_add] at e2
    rw [e] at ih
    rw [show k + (n + 1) = k + 1 + n by omega, ← ih]
    show (((List.map _ (lL D m ((k : Int) + 1) 0 (m - ((k : Int) + 1) + 1).toNat) ++ lT D m ((k : Int) + 1 + 1) n).length : Nat) : Int) + _ = _
    rw [List.length_append, List.length_map]
    have e3 : gCntL D m ((k : Int) + 1) 0 = 0 := rfl
    rw [e3] at e2
    rw [show m - ((k : Int) + 1) + 1 = m - k by omega] at *
    rw [show ((k + 1 : Nat) : Int) + 1 = (k : Int) + 1 + 1 from rfl]
    have e4 : ((lL D m ((k : Int) + 1) ((0 : Nat) : Int) (m - k).toNat).length : Int) = ((lL D m ((k : Int) + 1) 0 (m - k).toNat).length : Int) := rfl
    omega
theorem lT_ways {D : Int → Int} {m : Int} : ((lT D m 1 6).length : Int) = gWays D m := by
  have h := lT_len (D := D) (m := m) 6 0
  have e : gCntT D m 0 = 0 := rfl
  rw [e, Nat.zero_add] at h
  unfold gWays
  rw [← h]
  exact (Int.add_zero _).symm
theorem lL_mem {D : Int → Int} {m t x : Int} : ∀ (n : Nat) (i : Int), x ∈ lL D m t i n → i ≤ x ∧ x < i + n ∧ gLets D m t x = true
  | 0, _, h => absurd h List.not_mem_nil
  | n + 1, i, h => by
    cases hl : gLets D m t i with
    | true =>
      rw [lL_t hl] at h
      rcases List.mem_cons.mp h with h | h
      · subst h; exact ⟨Int.le_refl _, by omega, hl⟩
      · have := lL_mem n (i + 1) h; exact ⟨by omega, by omega, this.2.2⟩
    | false => rw [lL_f hl] at h; have := lL_mem n (i + 1) h; exact ⟨by omega, by omega, this.2.2⟩
theorem lT_mem {D : Int → Int} {m : Int} {x : Int × Int} : ∀ (n : Nat) (t : Int), x ∈ lT D m t n → t ≤ x.1 ∧ x.1 < t + n ∧ gLets D m x.1 x.2 = true
  | 0, _, h => absurd h List.not_mem_nil
  | n + 1, t, h => by
    rcases List.mem_append.mp h with h | h
    · obtain ⟨l, h1, h2⟩ := List.mem_map.mp h
      subst h2
      exact ⟨Int.le_refl _, by show t < t + ((n + 1 : Nat) : Int); omega, (lL_mem _ _ h1).2.2⟩
    · have := lT_mem n (t + 1) h; exact ⟨by omega, by omega, this.2.2⟩
theorem lP_mem {G : eGd} {x : Int × Int × Int} : ∀ (n : Nat) (p : Int), x ∈ lP G p n → p ≤ x.1 ∧ x.1 < p + n ∧ 1 ≤ x.2.1 ∧ x.2.1 ≤ 6 ∧ gLets (gDig G) (G.1 x.1.toNat) x.2.1 x.2.2 = true
  | 0, _, h => absurd h List.not_mem_nil
  | n + 1, p, h => by
    rcases List.mem_append.mp h with h | h
    · obtain ⟨l, h1, h2⟩ := List.mem_map.mp h
      subst h2
      have := lT_mem _ _ h1
      exact ⟨Int.le_refl _, by show p < p + ((n + 1 : Nat) : Int); omega, this.1, by show l.1 ≤ 6; omega, this.2.2⟩
    · have := lP_mem n (p + 1) h; exact ⟨by omega, by omega, this.2.2⟩
theorem lS_mem {G : eGd} (hG : 0 ≤ G.2.2.2.1) {x : Int × Int × Int} (h : x ∈ lS G) : 0 ≤ x.1 ∧ x.1 < G.2.2.2.1 ∧ 1 ≤ x.2.1 ∧ x.2.1 ≤ 6 ∧ gLets (gDig G) (G.1 x.1.toNat) x.2.1 x.2.2 = true := by
  have := lP_mem _ _ h
  exact ⟨this.1, by omega, this.2.2⟩
/-- the scoop at a place -/
def gAt (G : eGd) (c : Int) : Option (Int × Int × Int) := match decide (0 ≤ c) with | true => (lS G)[c.toNat]? | false => none
theorem gAt_mem {G : eGd} (hG : 0 ≤ G.2.2.2.1) {c : Int} {x : Int × Int × Int} (h : gAt G c = some x) : 0 ≤ x.1 ∧ x.1 < G.2.2.2.1 ∧ 1 ≤ x.2.1 ∧ x.2.1 ≤ 6 ∧ gLets (gDig G) (G.1 x.1.toNat) x.2.1 x.2.2 = true := by
  unfold gAt at h
  cases hd : decide (0 ≤ c) with
  | false => rw [hd] at h; cases h
  | true => rw [hd] at h; exact lS_mem hG (List.mem_of_getElem? h)
/-- is the sum 0 behind it -/
def gZero (G : eGd) (x : Int × Int × Int) : Bool := decide (gXr (gvv (gDig G) x.2.2) (gvv (gDig G) (G.1 x.1.toNat - x.2.1 - x.2.2)) = gXr (gSm G) (gvv (gDig G) (G.1 x.1.toNat)))
/-- the scoop told -/
def gTd (G : eGd) : Option (Int × Int × Int) := (lS G).find? (gZero G)
theorem gTd_mem {G : eGd} (hG : 0 ≤ G.2.2.2.1) {x : Int × Int × Int} (h : gTd G = some x) : (0 ≤ x.1 ∧ x.1 < G.2.2.2.1 ∧ 1 ≤ x.2.1 ∧ x.2.1 ≤ 6 ∧ gLets (gDig G) (G.1 x.1.toNat) x.2.1 x.2.2 = true) ∧ gZero G x = true :=
  ⟨lS_mem hG (List.mem_of_find?_eq_some h), List.find?_some h⟩
theorem lFind_t {α : Type} {l : List α} {i : Nat} {x : α} {p : α → Bool} (h : l[i]? = some x) (hp : p x = true) : (l.drop i).find? p = some x := by
  obtain ⟨h1, h2⟩ := List.getElem?_eq_some_iff.mp h
  rw [List.drop_eq_getElem_cons h1, h2, List.find?_cons_of_pos hp]
theorem lFind_f {α : Type} {l : List α} {i : Nat} {x : α} {p : α → Bool} (h : l[i]? = some x) (hp : p x = false) : (l.drop i).find? p = (l.drop (i + 1)).find? p := by
  obtain ⟨h1, h2⟩ := List.getElem?_eq_some_iff.mp h
  rw [List.drop_eq_getElem_cons h1, h2, List.find?_cons_of_neg (by rw [hp]; exact Bool.false_ne_true)]
theorem lFind_n {α : Type} {l : List α} {i : Nat} {p : α → Bool} (h : l[i]? = none) : (l.drop i).find? p = none := by
  rw [List.drop_eq_nil_of_le (List.getElem?_eq_none_iff.mp h)]; rfl
/-- what the scoop at a place among those that take t leaves -/
def gLb (D : Int → Int) (m t n : Int) : Int := if m = t then 0 else if D t / 4 % 2 = 1 ∧ n < m - t - 1 then n + 1 else m - t
theorem lL_mid {D : Int → Int} {m t : Int} (h4 : D t / 4 % 2 = 1) : ∀ (n : Nat) (i : Int) (k : Nat), 1 ≤ i → i + n ≤ m - t → lL D m t i (n + k) = (List.range n).map (fun j : Nat => i + (j : Int)) ++ lL D m t (i + n) k
  | 0, i, k, _, _ => by rw [show i + ((0 : Nat) : Int) = i by omega, Nat.zero_add]; rfl
  | n + 1, i, k, h1, h2 => by
    rw [show n + 1 + k = (n + k) + 1 by omega, lL_t (gLets_t (by omega)), lL_mid h4 n (i + 1) k (by omega) (by omega), List.range_succ_eq_map, List.map_cons, List.map_map, show i + 1 + (n : Int) = i + ((n + 1 : Nat) : Int) by omega]
    have e : (fun j : Nat => i + 1 + (j : Int)) = (fun j : Nat => i + (j : Int)) ∘ Nat.succ := by
      funext j
      show i + 1 + (j : Int) = i + ((j + 1 : Nat) : Int)
      omega
    rw [e, show i + ((0 : Nat) : Int) = i by omega]
    rfl
theorem lL_mid0 {D : Int → Int} {m t : Int} (h4 : ¬ D t / 4 % 2 = 1) : ∀ (n : Nat) (i : Int) (k : Nat), 1 ≤ i → i + n ≤ m - t → lL D m t i (n + k) = lL D m t (i + n) k
  | 0, i, k, _, _ => by rw [show i + ((0 : Nat) : Int) = i by omega, Nat.zero_add]
  | n + 1, i, k, h1, h2 => by
    rw [show n + 1 + k = (n + k) + 1 by omega, lL_f (gLets_f (by omega)), lL_mid0 h4 n (i + 1) k (by omega) (by omega), show i + 1 + (n : Int) = i + ((n + 1 : Nat) : Int) by omega]
theorem lL_at {D : Int → Int} {m t n : Int} (ht : 1 ≤ t) (h0 : 0 ≤ n) (h1 : n < gWy D m t) : (lL D m t 0 (m - t + 1).toNat)[n.toNat]? = some (gLb D m t n) := by
  unfold gWy at h1
  rw [gCntL_ways ht] at h1
  unfold gLb
  by_cases hm : m < t
  · rw [if_pos hm] at h1; omega
  · rw [if_neg hm] at h1
    by_cases he : m = t
    · rw [if_pos he] at h1
      by_cases ho : D t % 2 = 1
      · rw [if_pos ho] at h1
        rw [if_pos he, show (m - t + 1).toNat = 0 + 1 by omega, lL_t (gLets_t (by omega)), show n.toNat = 0 by omega]; rfl
      · rw [if_neg ho] at h1; omega
    · rw [if_neg he] at h1
      rw [if_neg he, show (m - t + 1).toNat = ((m - t - 1).toNat + 1) + 1 by omega, lL_f (gLets_f (by omega))]
      by_cases h4 : D t / 4 % 2 = 1
      · rw [if_pos h4] at h1
        rw [lL_mid h4 _ _ _ (by omega) (by omega), List.getElem?_append, List.length_map, List.length_range]
        by_cases h5 : n < m - t - 1
        · rw [if_pos (show n.toNat < (m - t - 1).toNat by omega), if_pos ⟨h4, h5⟩, List.getElem?_map, List.getElem?_range (by omega)]
          show some (0 + 1 + ((n.toNat : Nat) : Int)) = _
          congr 1; omega
        · rw [if_neg (show ¬ n.toNat < (m - t - 1).toNat by omega), if_neg (fun h => h5 h.2)]
          by_cases h2 : D t / 2 % 2 = 1
          · rw [if_pos h2] at h1
            rw [lL_t (gLets_t (by omega)), show n.toNat - (m - t - 1).toNat = 0 by omega]
            show some _ = some _
            congr 1; omega
          · rw [if_neg h2] at h1; omega
      · rw [if_neg h4] at h1
        rw [lL_mid0 h4 _ _ _ (by omega) (by omega), if_neg (fun h => h4 h.1)]
        by_cases h2 : D t / 2 % 2 = 1
        · rw [if_pos h2] at h1
          rw [lL_t (gLets_t (by omega)), show n.toNat = 0 by omega]
          show some _ = some _
          congr 1; omega
        · rw [if_neg h2] at h1; omega
