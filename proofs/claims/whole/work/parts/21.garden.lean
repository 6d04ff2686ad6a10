/-! a garden at the name g: marbles, digits, tallies; pits, turn, came, lying, games -/
abbrev eGd : Type := (Nat → Int) × (Nat → Int) × (Nat → Int) × Int × Int × Int × Int × Int
def gG (h : eHp) (g : Nat) (G : eGd) : Prop := h g = .inr (4, [.ref (g + 1), .ref (g + 2), .ref (g + 3), vI G.2.2.2.1, vI G.2.2.2.2.1, vI G.2.2.2.2.2.1, vI G.2.2.2.2.2.2.1, vI G.2.2.2.2.2.2.2]) ∧ h (g + 1) = .inl (0, 40, .inl (eIA G.1)) ∧ h (g + 2) = .inl (0, 6, .inl (eIA G.2.1)) ∧ h (g + 3) = .inl (0, 8, .inl (eIA G.2.2.1))
def gOk (G : eGd) : Prop := 0 ≤ G.2.2.2.1 ∧ G.2.2.2.1 ≤ 40 ∧ (∀ i, i < 40 → 0 ≤ G.1 i ∧ G.1 i ≤ 40) ∧ (∀ i, i < 6 → 0 ≤ G.2.1 i ∧ G.2.1 i ≤ 7)
def eB01 (b : Bool) : Int := match b with | true => 1 | false => 0
def gHas (G : eGd) (p : Int) : Bool := decide (0 ≤ p) && decide (p < G.2.2.2.1)
def gIn (G : eGd) (p : Int) : Int := match gHas G p with | true => G.1 p.toNat | false => 0
def gDig (G : eGd) (t : Int) : Int := match decide (1 ≤ t) && decide (t ≤ 6) with | true => G.2.1 (t - 1).toNat | false => 0
def gSum (F : Nat → Int) : Nat → Int
  | 0 => 0
  | n + 1 => gSum F n + F n
def gLets (D : Int → Int) (n t l : Int) : Bool := decide (0 ≤ l) && decide (t + l ≤ n) && (!decide (l = 0) || decide (t = n)) && (match decide (l = 0) with | true => decide (D t % 2 = 1) | false => match decide (t + l = n) with | true => decide (D t / 2 % 2 = 1) | false => decide (D t / 4 % 2 = 1))
def gCntL (D : Int → Int) (n t : Int) : Nat → Int
  | 0 => 0
  | m + 1 => gCntL D n t m + eB01 (gLets D n t m)
def gCntT (D : Int → Int) (n : Int) : Nat → Int
  | 0 => 0
  | m + 1 => gCntT D n m + gCntL D n (m + 1) (n - m).toNat
def gWays (D : Int → Int) (n : Int) : Int := gCntT D n 6
theorem gHas_t {G : eGd} {p : Int} (h1 : 0 ≤ p) (h2 : p < G.2.2.2.1) : gHas G p = true := by unfold gHas; rw [decide_eq_true h1, decide_eq_true h2]; rfl
theorem gHas_f {G : eGd} {p : Int} (h : p < 0 ∨ G.2.2.2.1 ≤ p) : gHas G p = false := by
  unfold gHas
  rcases h with h | h
  · rw [decide_eq_false (by omega : ¬ 0 ≤ p)]; rfl
  · rw [decide_eq_false (by omega : ¬ p < G.2.2.2.1), Bool.and_false]
theorem gDig_t {G : eGd} {t : Int} (h1 : 1 ≤ t) (h2 : t ≤ 6) : gDig G t = G.2.1 (t - 1).toNat := by unfold gDig; rw [decide_eq_true h1, decide_eq_true h2]; rfl
theorem gDig_f {G : eGd} {t : Int} (h : t < 1 ∨ 6 < t) : gDig G t = 0 := by
  unfold gDig
  rcases h with h | h
  · rw [decide_eq_false (by omega : ¬ 1 ≤ t)]; rfl
  · rw [decide_eq_false (by omega : ¬ t ≤ 6), Bool.and_false]
theorem gDig_le {G : eGd} (hG : gOk G) (t : Int) : 0 ≤ gDig G t ∧ gDig G t ≤ 7 := by
  by_cases h1 : 1 ≤ t
  · by_cases h2 : t ≤ 6
    · rw [gDig_t h1 h2]; exact hG.2.2.2 _ (by omega)
    · rw [gDig_f (Or.inr (by omega))]; omega
  · rw [gDig_f (Or.inl (by omega))]; omega
theorem gIn_le {G : eGd} (hG : gOk G) (p : Int) : 0 ≤ gIn G p ∧ gIn G p ≤ 40 := by
  by_cases h1 : 0 ≤ p
  · by_cases h2 : p < G.2.2.2.1
    · unfold gIn; rw [gHas_t h1 h2]; exact hG.2.2.1 _ (by have := hG.2.1; omega)
    · unfold gIn; rw [gHas_f (Or.inr (by omega))]; show (0 : Int) ≤ 0 ∧ (0 : Int) ≤ 40; omega
  · unfold gIn; rw [gHas_f (Or.inl (by omega))]; show (0 : Int) ≤ 0 ∧ (0 : Int) ≤ 40; omega
theorem gSum_le {F : Nat → Int} {b : Int} : ∀ {n : Nat}, (∀ i, i < n → 0 ≤ F i ∧ F i ≤ b) → 0 ≤ gSum F n ∧ gSum F n ≤ b * n
  | 0, _ => ⟨by simp [gSum], by simp [gSum]⟩
  | n + 1, h => by
    have h1 := gSum_le (n := n) (fun i hi => h i (by omega))
    have h2 := h n (by omega)
    simp only [gSum]
    rw [show b * ((n + 1 : Nat) : Int) = b * n + b by rw [show ((n + 1 : Nat) : Int) = (n : Int) + 1 from rfl, Int.mul_add, Int.mul_one]]
    omega
theorem eAnd1 {a : Int} (h0 : 0 ≤ a) (h7 : a ≤ 7) : Int32.ofInt a &&& Int32.ofInt 1 = Int32.ofInt (a % 2) := by
  have : a = 0 ∨ a = 1 ∨ a = 2 ∨ a = 3 ∨ a = 4 ∨ a = 5 ∨ a = 6 ∨ a = 7 := by omega
  rcases this with rfl | rfl | rfl | rfl | rfl | rfl | rfl | rfl <;> decide
theorem eAnd2 {a : Int} (h0 : 0 ≤ a) (h7 : a ≤ 7) : Int32.ofInt a &&& Int32.ofInt 2 = Int32.ofInt (a / 2 % 2 * 2) := by
  have : a = 0 ∨ a = 1 ∨ a = 2 ∨ a = 3 ∨ a = 4 ∨ a = 5 ∨ a = 6 ∨ a = 7 := by omega
  rcases this with rfl | rfl | rfl | rfl | rfl | rfl | rfl | rfl <;> decide
theorem eAnd4 {a : Int} (h0 : 0 ≤ a) (h7 : a ≤ 7) : Int32.ofInt a &&& Int32.ofInt 4 = Int32.ofInt (a / 4 % 2 * 4) := by
  have : a = 0 ∨ a = 1 ∨ a = 2 ∨ a = 3 ∨ a = 4 ∨ a = 5 ∨ a = 6 ∨ a = 7 := by omega
  rcases this with rfl | rfl | rfl | rfl | rfl | rfl | rfl | rfl <;> decide
theorem gLets_iff {D : Int → Int} {n t l : Int} : gLets D n t l = true ↔ 0 ≤ l ∧ t + l ≤ n ∧ (l = 0 → t = n) ∧ (l = 0 → D t % 2 = 1) ∧ (l ≠ 0 → t + l = n → D t / 2 % 2 = 1) ∧ (l ≠ 0 → t + l ≠ n → D t / 4 % 2 = 1) := by
  unfold gLets
  by_cases h0 : l = 0
  · subst h0
    simp only [Bool.and_eq_true, Bool.or_eq_true, decide_eq_true_eq, decide_true, Bool.not_true, Bool.false_eq_true, false_or]
    constructor
    · rintro ⟨⟨⟨a, b⟩, c⟩, d⟩; exact ⟨a, b, fun _ => c, fun _ => d, fun h => absurd rfl h, fun h => absurd rfl h⟩
    · rintro ⟨a, b, c, d, -, -⟩; exact ⟨⟨⟨a, b⟩, by simpa using c⟩, by simpa using d⟩
  · simp only [decide_eq_false h0]
    by_cases h1 : t + l = n
    · simp only [decide_eq_true h1, Bool.and_eq_true, decide_eq_true_eq, Bool.not_false, Bool.true_or, and_true]
      constructor
      · rintro ⟨⟨a, b⟩, c⟩; exact ⟨a, b, fun h => absurd h h0, fun h => absurd h h0, fun _ _ => c, fun _ h => absurd h1 h⟩
      · rintro ⟨a, b, -, -, c, -⟩; exact ⟨⟨a, b⟩, c h0 h1⟩
    · simp only [decide_eq_false h1, Bool.and_eq_true, decide_eq_true_eq, Bool.not_false, Bool.true_or, and_true]
      constructor
      · rintro ⟨⟨a, b⟩, c⟩; exact ⟨a, b, fun h => absurd h h0, fun h => absurd h h0, fun _ h => absurd h h1, fun _ _ => c⟩
      · rintro ⟨a, b, -, -, -, c⟩; exact ⟨⟨a, b⟩, c h0 h1⟩
theorem gLets_t {D : Int → Int} {n t l : Int} (h : 0 ≤ l ∧ t + l ≤ n ∧ (l = 0 → t = n) ∧ (l = 0 → D t % 2 = 1) ∧ (l ≠ 0 → t + l = n → D t / 2 % 2 = 1) ∧ (l ≠ 0 → t + l ≠ n → D t / 4 % 2 = 1)) : gLets D n t l = true := gLets_iff.mpr h
theorem gLets_f {D : Int → Int} {n t l : Int} (h : ¬ (0 ≤ l ∧ t + l ≤ n ∧ (l = 0 → t = n) ∧ (l = 0 → D t % 2 = 1) ∧ (l ≠ 0 → t + l = n → D t / 2 % 2 = 1) ∧ (l ≠ 0 → t + l ≠ n → D t / 4 % 2 = 1))) : gLets D n t l = false := by rw [← Bool.not_eq_true, gLets_iff]; exact h
theorem eB01_le (b : Bool) : 0 ≤ eB01 b ∧ eB01 b ≤ 1 := by cases b <;> exact ⟨by decide, by decide⟩
theorem gCntL_succ {D : Int → Int} {n t l : Int} (h : 0 ≤ l) : gCntL D n t (l + 1).toNat = gCntL D n t l.toNat + eB01 (gLets D n t l) := by
  obtain ⟨m, rfl⟩ : ∃ m : Nat, l = m := ⟨l.toNat, by omega⟩
  rw [show ((m : Int) + 1).toNat = m + 1 by omega, show (m : Int).toNat = m by omega]; rfl
theorem gCntT_succ {D : Int → Int} {n t : Int} (h : 1 ≤ t) : gCntT D n t.toNat = gCntT D n (t - 1).toNat + gCntL D n t (n - t + 1).toNat := by
  obtain ⟨m, rfl⟩ : ∃ m : Nat, t = m + 1 := ⟨(t - 1).toNat, by omega⟩
  rw [show ((m : Int) + 1).toNat = m + 1 by omega, show ((m : Int) + 1 - 1).toNat = m by omega, show n - ((m : Int) + 1) + 1 = n - m by omega]; rfl
theorem gCntL_le {D : Int → Int} {n t : Int} : ∀ m : Nat, 0 ≤ gCntL D n t m ∧ gCntL D n t m ≤ m
  | 0 => ⟨Int.le_refl _, Int.le_refl _⟩
  | m + 1 => by
    have h1 := gCntL_le (D := D) (n := n) (t := t) m
    have h2 := eB01_le (gLets D n t m)
    simp only [gCntL]
    omega
theorem gCntT_le {D : Int → Int} {n : Int} (hn : n ≤ 40) : ∀ m : Nat, 0 ≤ gCntT D n m ∧ gCntT D n m ≤ 40 * m
  | 0 => ⟨Int.le_refl _, Int.le_refl _⟩
  | m + 1 => by
    have h1 := gCntT_le (D := D) hn m
    have h2 := gCntL_le (D := D) (n := n) (t := m + 1) (n - m).toNat
    simp only [gCntT]
    omega
theorem gG_o {h h' : eHp} {g : Nat} {G G' : eGd} (hg : gG h g G) (e : h' g = .inr (4, [.ref (g + 1), .ref (g + 2), .ref (g + 3), vI G'.2.2.2.1, vI G'.2.2.2.2.1, vI G'.2.2.2.2.2.1, vI G'.2.2.2.2.2.2.1, vI G'.2.2.2.2.2.2.2])) (o : ∀ i, i ≠ g → h' i = h i) (e1 : G'.1 = G.1) (e2 : G'.2.1 = G.2.1) (e3 : G'.2.2.1 = G.2.2.1) : gG h' g G' :=
  ⟨e, by rw [o _ (by omega), e1]; exact hg.2.1, by rw [o _ (by omega), e2]; exact hg.2.2.1, by rw [o _ (by omega), e3]; exact hg.2.2.2⟩
theorem gG_m {h h' : eHp} {g : Nat} {G : eGd} {F : Nat → Int} (hg : gG h g G) (e : h' (g + 1) = .inl (0, 40, .inl (eIA F))) (o : ∀ i, i ≠ g + 1 → h' i = h i) : gG h' g (F, G.2) :=
  ⟨by rw [o _ (by omega)]; exact hg.1, e, by rw [o _ (by omega)]; exact hg.2.2.1, by rw [o _ (by omega)]; exact hg.2.2.2⟩
theorem gG_d {h h' : eHp} {g : Nat} {G : eGd} {F : Nat → Int} (hg : gG h g G) (e : h' (g + 2) = .inl (0, 6, .inl (eIA F))) (o : ∀ i, i ≠ g + 2 → h' i = h i) : gG h' g (G.1, F, G.2.2) :=
  ⟨by rw [o _ (by omega)]; exact hg.1, by rw [o _ (by omega)]; exact hg.2.1, e, by rw [o _ (by omega)]; exact hg.2.2.2⟩
theorem gG_t {h h' : eHp} {g : Nat} {G : eGd} {F : Nat → Int} (hg : gG h g G) (e : h' (g + 3) = .inl (0, 8, .inl (eIA F))) (o : ∀ i, i ≠ g + 3 → h' i = h i) : gG h' g (G.1, G.2.1, F, G.2.2.2) :=
  ⟨by rw [o _ (by omega)]; exact hg.1, by rw [o _ (by omega)]; exact hg.2.1, by rw [o _ (by omega)]; exact hg.2.2.1, e⟩
theorem gG_k {h h' : eHp} {g : Nat} {G : eGd} (hg : gG h g G) (o : ∀ i, g ≤ i → i ≤ g + 3 → h' i = h i) : gG h' g G :=
  ⟨by rw [o _ (by omega) (by omega)]; exact hg.1, by rw [o _ (by omega) (by omega)]; exact hg.2.1, by rw [o _ (by omega) (by omega)]; exact hg.2.2.1, by rw [o _ (by omega) (by omega)]; exact hg.2.2.2⟩
theorem eRet_i {a b : Int} {N : Nat} {h : eHp} (e : a = b) : eRet (some (vI b)) N h (.inl (some (vI a)), N, h, 0, 0) := by rw [e]; rfl
theorem g_pits {d N : Nat} {h : eHp} {g : Nat} {G : eGd} (hg : gG h g G) (hG : gOk G) (hN : g + 4 ≤ N)  : eSp (d + 1) eM_X0_pits [.ref g] N h (eRet (some (vI G.2.2.2.1)) N h) := by
  refine eSp_of [(0, .ref g)] rfl rfl ?_
  refine eW_aload_n 1 rfl rfl rfl ?_
  refine eW_getfield 4 rfl rfl (Nat.ble_eq_true_of_le (by omega)) rfl hg.1 rfl ⟨rfl, fun _ h9 => nomatch h9⟩ ?_
  refine eW_ret_i rfl rfl (Or.inl rfl) ?_
  rfl
theorem g_monkAtTurn {d N : Nat} {h : eHp} {g : Nat} {G : eGd} (hg : gG h g G) (hG : gOk G) (hN : g + 4 ≤ N)  : eSp (d + 1) eM_X0_monkAtTurn [.ref g] N h (eRet (some (vI G.2.2.2.2.1)) N h) := by
  refine eSp_of [(0, .ref g)] rfl rfl ?_
  refine eW_aload_n 1 rfl rfl rfl ?_
  refine eW_getfield 4 rfl rfl (Nat.ble_eq_true_of_le (by omega)) rfl hg.1 rfl ⟨rfl, fun _ h9 => nomatch h9⟩ ?_
  refine eW_ret_i rfl rfl (Or.inl rfl) ?_
  rfl
theorem g_marblesCame {d N : Nat} {h : eHp} {g : Nat} {G : eGd} (hg : gG h g G) (hG : gOk G) (hN : g + 4 ≤ N)  : eSp (d + 1) eM_X0_marblesCame [.ref g] N h (eRet (some (vI G.2.2.2.2.2.1)) N h) := by
  refine eSp_of [(0, .ref g)] rfl rfl ?_
  refine eW_aload_n 1 rfl rfl rfl ?_
  refine eW_getfield 4 rfl rfl (Nat.ble_eq_true_of_le (by omega)) rfl hg.1 rfl ⟨rfl, fun _ h9 => nomatch h9⟩ ?_
  refine eW_ret_i rfl rfl (Or.inl rfl) ?_
  rfl
theorem g_marblesLeftLying {d N : Nat} {h : eHp} {g : Nat} {G : eGd} (hg : gG h g G) (hG : gOk G) (hN : g + 4 ≤ N)  : eSp (d + 1) eM_X0_marblesLeftLying [.ref g] N h (eRet (some (vI G.2.2.2.2.2.2.1)) N h) := by
  refine eSp_of [(0, .ref g)] rfl rfl ?_
  refine eW_aload_n 1 rfl rfl rfl ?_
  refine eW_getfield 4 rfl rfl (Nat.ble_eq_true_of_le (by omega)) rfl hg.1 rfl ⟨rfl, fun _ h9 => nomatch h9⟩ ?_
  refine eW_ret_i rfl rfl (Or.inl rfl) ?_
  rfl
theorem g_gamesSoFar {d N : Nat} {h : eHp} {g : Nat} {G : eGd} (hg : gG h g G) (hG : gOk G) (hN : g + 4 ≤ N)  : eSp (d + 1) eM_X0_gamesSoFar [.ref g] N h (eRet (some (vI G.2.2.2.2.2.2.2)) N h) := by
  refine eSp_of [(0, .ref g)] rfl rfl ?_
  refine eW_aload_n 1 rfl rfl rfl ?_
  refine eW_getfield 4 rfl rfl (Nat.ble_eq_true_of_le (by omega)) rfl hg.1 rfl ⟨rfl, fun _ h9 => nomatch h9⟩ ?_
  refine eW_ret_i rfl rfl (Or.inl rfl) ?_
  rfl
theorem g_hasPit {d N : Nat} {h : eHp} {g : Nat} {G : eGd} (hg : gG h g G) (hG : gOk G) (hN : g + 4 ≤ N) {p : Int} (hp : i32 p) : eSp (d + 1) eM_X0_hasPit [.ref g, vI p] N h (eRet (some (vI (eB01 (gHas G p)))) N h) := by
  refine eSp_of [(0, .ref g), (1, vI p)] rfl rfl ?_
  obtain ⟨g1, g2, g3, g4⟩ := hG
  unfold i32 at hp
  refine eW_iload_n 1 rfl rfl rfl ?_
  refine eW_if_lt 4 rfl rfl (by unfold i32; omega) (fun c1 => ?_) (fun c1 => ?_)
  · refine eW_iconst 23 rfl rfl ?_
    refine eW_ret_i rfl rfl (Or.inr (Or.inl ⟨rfl, rfl⟩)) ?_
    first | (rw [gHas_t (by omega) (by omega)]; rfl) | (rw [gHas_f (by omega)]; rfl)
  · refine eW_iload_n 5 rfl rfl rfl ?_
    refine eW_aload_n 6 rfl rfl rfl ?_
    refine eW_getfield 9 rfl rfl (Nat.ble_eq_true_of_le (by omega)) rfl hg.1 rfl ⟨rfl, fun _ h9 => nomatch h9⟩ ?_
    refine eW_icmp_ge 12 rfl rfl (by unfold i32; omega) (by unfold i32; omega) (fun c2 => ?_) (fun c2 => ?_)
    · refine eW_iconst 23 rfl rfl ?_
      refine eW_ret_i rfl rfl (Or.inr (Or.inl ⟨rfl, rfl⟩)) ?_
      first | (rw [gHas_t (by omega) (by omega)]; rfl) | (rw [gHas_f (by omega)]; rfl)
    · refine eW_iload_n 13 rfl rfl rfl ?_
      refine eW_bipush 15 rfl rfl 40 rfl ?_
      refine eW_icmp_ge 18 rfl rfl (by unfold i32; omega) (by unfold i32; omega) (fun c3 => ?_) (fun c3 => ?_)
      · refine eW_iconst 23 rfl rfl ?_
        refine eW_ret_i rfl rfl (Or.inr (Or.inl ⟨rfl, rfl⟩)) ?_
        first | (rw [gHas_t (by omega) (by omega)]; rfl) | (rw [gHas_f (by omega)]; rfl)
      · refine eW_iconst 19 rfl rfl ?_
        refine eW_goto rfl ?_
        refine eW_ret_i rfl rfl (Or.inr (Or.inl ⟨rfl, rfl⟩)) ?_
        first | (rw [gHas_t (by omega) (by omega)]; rfl) | (rw [gHas_f (by omega)]; rfl)
theorem gHas_c (G : eGd) (p : Int) : (0 ≤ p ∧ p < G.2.2.2.1 ∧ gHas G p = true ∧ eB01 (gHas G p) = 1) ∨ ((p < 0 ∨ G.2.2.2.1 ≤ p) ∧ gHas G p = false ∧ eB01 (gHas G p) = 0) := by
  by_cases h1 : 0 ≤ p ∧ p < G.2.2.2.1
  · have := gHas_t h1.1 h1.2; exact Or.inl ⟨h1.1, h1.2, this, by rw [this]; rfl⟩
  · have := gHas_f (G := G) (p := p) (by omega); exact Or.inr ⟨by omega, this, by rw [this]; rfl⟩
theorem g_marblesIn {d N : Nat} {h : eHp} {g : Nat} {G : eGd} (hg : gG h g G) (hG : gOk G) (hN : g + 4 ≤ N) {p : Int} (hp : i32 p) : eSp (d + 2) eM_X0_marblesIn [.ref g, vI p] N h (eRet (some (vI (gIn G p))) N h) := by
  refine eSp_of [(0, .ref g), (1, vI p)] rfl rfl ?_
  have hG' := hG
  obtain ⟨g1, g2, g3, g4⟩ := hG'
  have hb := gHas_c G p
  have hp' := hp
  unfold i32 at hp'
  refine eW_aload_n 1 rfl rfl rfl ?_
  refine eW_iload_n 2 rfl rfl rfl ?_
  refine eW_callV 5 [.ref g, vI p] [] [vI (eB01 (gHas G p))] rfl rfl rfl rfl (Nat.ble_eq_true_of_le (by omega)) hg.1 rfl rfl rfl (g_hasPit (d := d) hg hG hN (by assumption)) rfl rfl ?_
  refine eW_if_eq 8 rfl rfl (by unfold i32; omega) (fun c1 => ?_) (fun c1 => ?_)
  · refine eW_iconst 18 rfl rfl ?_
    refine eW_ret_i rfl rfl (Or.inl rfl) ?_
    refine eRet_i ?_
    unfold gIn
    first | (rw [gHas_t (by omega) (by omega)]) | (rw [gHas_f (by omega)])
  · refine eW_aload_n 9 rfl rfl rfl ?_
    refine eW_getfield 12 rfl rfl (Nat.ble_eq_true_of_le (by omega)) rfl hg.1 rfl ⟨rfl, fun _ h9 => nomatch h9⟩ ?_
    refine eW_iload_n 13 rfl rfl rfl ?_
    refine eW_iaload 14 rfl rfl (G.1 p.toNat) (Nat.ble_eq_true_of_le (by omega)) hg.2.1 (by omega) (by omega) (by unfold i32; omega) rfl ?_
    refine eW_goto rfl ?_
    refine eW_ret_i rfl rfl (Or.inl rfl) ?_
    refine eRet_i ?_
    unfold gIn
    first | (rw [gHas_t (by omega) (by omega)]) | (rw [gHas_f (by omega)])
theorem g_digitFor {d N : Nat} {h : eHp} {g : Nat} {G : eGd} (hg : gG h g G) (hG : gOk G) (hN : g + 4 ≤ N) {t : Int} (ht : i32 t) : eSp (d + 1) eM_X0_digitFor [.ref g, vI t] N h (eRet (some (vI (gDig G t))) N h) := by
  refine eSp_of [(0, .ref g), (1, vI t)] rfl rfl ?_
  obtain ⟨g1, g2, g3, g4⟩ := hG
  unfold i32 at ht
  refine eW_iload_n 1 rfl rfl rfl ?_
  refine eW_iconst 2 rfl rfl ?_
  refine eW_icmp_lt 5 rfl rfl (by unfold i32; omega) (by unfold i32; omega) (fun c1 => ?_) (fun c1 => ?_)
  · refine eW_iconst 23 rfl rfl ?_
    refine eW_ret_i rfl rfl (Or.inl rfl) ?_
    refine eRet_i ?_
    first | (rw [gDig_t (by omega) (by omega)]) | (rw [gDig_f (by omega)])
  · refine eW_iload_n 6 rfl rfl rfl ?_
    refine eW_bipush 8 rfl rfl 6 rfl ?_
    refine eW_icmp_gt 11 rfl rfl (by unfold i32; omega) (by unfold i32; omega) (fun c2 => ?_) (fun c2 => ?_)
    · refine eW_iconst 23 rfl rfl ?_
      refine eW_ret_i rfl rfl (Or.inl rfl) ?_
      refine eRet_i ?_
      first | (rw [gDig_t (by omega) (by omega)]) | (rw [gDig_f (by omega)])
    · refine eW_aload_n 12 rfl rfl rfl ?_
      refine eW_getfield 15 rfl rfl (Nat.ble_eq_true_of_le (by omega)) rfl hg.1 rfl ⟨rfl, fun _ h9 => nomatch h9⟩ ?_
      refine eW_iload_n 16 rfl rfl rfl ?_
      refine eW_iconst 17 rfl rfl ?_
      refine eW_isub 18 rfl rfl ?_
      refine eW_iaload 19 rfl rfl (G.2.1 (t - 1).toNat) (Nat.ble_eq_true_of_le (by omega)) hg.2.2.1 (by omega) (by omega) (by unfold i32; omega) rfl ?_
      refine eW_goto rfl ?_
      refine eW_ret_i rfl rfl (Or.inl rfl) ?_
      refine eRet_i ?_
      first | (rw [gDig_t (by omega) (by omega)]) | (rw [gDig_f (by omega)])
def gTal (G : eGd) (m w : Int) : Int := match decide (0 ≤ m ∧ m < 2 ∧ 0 ≤ w ∧ w < 4) with | true => G.2.2.1 (m * 4 + w).toNat | false => 0
theorem gTal_t {G : eGd} {m w : Int} (h : 0 ≤ m ∧ m < 2 ∧ 0 ≤ w ∧ w < 4) : gTal G m w = G.2.2.1 (m * 4 + w).toNat := by unfold gTal; rw [decide_eq_true h]
theorem gTal_f {G : eGd} {m w : Int} (h : ¬ (0 ≤ m ∧ m < 2 ∧ 0 ≤ w ∧ w < 4)) : gTal G m w = 0 := by unfold gTal; rw [decide_eq_false h]
def gIsT (m w : Int) : Bool := decide (0 ≤ m ∧ m < 2 ∧ 0 ≤ w ∧ w < 4)
theorem gIsT_c (m w : Int) : ((0 ≤ m ∧ m < 2 ∧ 0 ≤ w ∧ w < 4) ∧ gIsT m w = true ∧ eB01 (gIsT m w) = 1) ∨ (¬ (0 ≤ m ∧ m < 2 ∧ 0 ≤ w ∧ w < 4) ∧ gIsT m w = false ∧ eB01 (gIsT m w) = 0) := by
  by_cases h : 0 ≤ m ∧ m < 2 ∧ 0 ≤ w ∧ w < 4
  · exact Or.inl ⟨h, decide_eq_true h, by rw [show gIsT m w = true from decide_eq_true h]; rfl⟩
  · exact Or.inr ⟨h, decide_eq_false h, by rw [show gIsT m w = false from decide_eq_false h]; rfl⟩
theorem g_isTally {d N : Nat} {h : eHp} {m w : Int} (hm : i32 m) (hw : i32 w) : eSp (d + 1) eM_X0_isTally [vI m, vI w] N h (eRet (some (vI (eB01 (gIsT m w)))) N h) := by
  refine eSp_of [(0, vI m), (1, vI w)] rfl rfl ?_
  have hb := gIsT_c m w
  unfold i32 at hm hw
  refine eW_iload_n 1 rfl rfl rfl ?_
  refine eW_if_lt 4 rfl rfl (by unfold i32; omega) (fun c1 => ?_) (fun c1 => ?_)
  · refine eW_iconst 23 rfl rfl ?_
    refine eW_ret_i rfl rfl (Or.inr (Or.inl ⟨rfl, rfl⟩)) ?_
    exact eRet_i (by omega)
  · refine eW_iload_n 5 rfl rfl rfl ?_
    refine eW_iconst 6 rfl rfl ?_
    refine eW_icmp_ge 9 rfl rfl (by unfold i32; omega) (by unfold i32; omega) (fun c2 => ?_) (fun c2 => ?_)
    · refine eW_iconst 23 rfl rfl ?_
      refine eW_ret_i rfl rfl (Or.inr (Or.inl ⟨rfl, rfl⟩)) ?_
      exact eRet_i (by omega)
    · refine eW_iload_n 10 rfl rfl rfl ?_
      refine eW_if_lt 13 rfl rfl (by unfold i32; omega) (fun c3 => ?_) (fun c3 => ?_)
      · refine eW_iconst 23 rfl rfl ?_
        refine eW_ret_i rfl rfl (Or.inr (Or.inl ⟨rfl, rfl⟩)) ?_
        exact eRet_i (by omega)
      · refine eW_iload_n 14 rfl rfl rfl ?_
        refine eW_iconst 15 rfl rfl ?_
        refine eW_icmp_ge 18 rfl rfl (by unfold i32; omega) (by unfold i32; omega) (fun c4 => ?_) (fun c4 => ?_)
        · refine eW_iconst 23 rfl rfl ?_
          refine eW_ret_i rfl rfl (Or.inr (Or.inl ⟨rfl, rfl⟩)) ?_
          exact eRet_i (by omega)
        · refine eW_iconst 19 rfl rfl ?_
          refine eW_goto rfl ?_
          refine eW_ret_i rfl rfl (Or.inr (Or.inl ⟨rfl, rfl⟩)) ?_
          exact eRet_i (by omega)
theorem g_tally {d N : Nat} {h : eHp} {g : Nat} {G : eGd} (hg : gG h g G) (hG : gOk G) (hN : g + 4 ≤ N) {m w : Int} (hm : i32 m) (hw : i32 w) : eSp (d + 2) eM_X0_tally [.ref g, vI m, vI w] N h (eRet (some (vI (gTal G m w))) N h) := by
  refine eSp_of [(0, .ref g), (1, vI m), (2, vI w)] rfl rfl ?_
  have hb := gIsT_c m w
  have hm9 := hm
  have hw9 := hw
  unfold i32 at hm9 hw9
  refine eW_iload_n 1 rfl rfl rfl ?_
  refine eW_iload_n 2 rfl rfl rfl ?_
  refine eW_callS 5 [vI m, vI w] [] [vI (eB01 (gIsT m w))] rfl rfl rfl (Or.inl rfl) rfl rfl rfl (g_isTally (d := d) hm hw) rfl rfl ?_
  refine eW_if_eq 8 rfl rfl (by unfold i32; omega) (fun c1 => ?_) (fun c1 => ?_)
  · refine eW_iconst 22 rfl rfl ?_
    refine eW_ret_i rfl rfl (Or.inl rfl) ?_
    refine eRet_i ?_
    first | (rw [gTal_t (by omega)]) | (rw [gTal_f (by omega)])
  · refine eW_aload_n 9 rfl rfl rfl ?_
    refine eW_getfield 12 rfl rfl (Nat.ble_eq_true_of_le (by omega)) rfl hg.1 rfl ⟨rfl, fun _ h9 => nomatch h9⟩ ?_
    refine eW_iload_n 13 rfl rfl rfl ?_
    refine eW_iconst 14 rfl rfl ?_
    refine eW_imul 15 rfl rfl ?_
    refine eW_iload_n 16 rfl rfl rfl ?_
    refine eW_iadd 17 rfl rfl ?_
    refine eW_iaload 18 rfl rfl (G.2.2.1 ((m * 4) + w).toNat) (Nat.ble_eq_true_of_le (by omega)) hg.2.2.2 (by omega) (by omega) (by unfold i32; omega) rfl ?_
    refine eW_goto rfl ?_
    refine eW_ret_i rfl rfl (Or.inl rfl) ?_
    refine eRet_i ?_
    first | (rw [gTal_t (by omega)]) | (rw [gTal_f (by omega)])
theorem g_tallyOfBoth {d N : Nat} {h : eHp} {g : Nat} {G : eGd} (hg : gG h g G) (hG : gOk G) (hN : g + 4 ≤ N) {w : Int} (hw : i32 w) : eSp (d + 3) eM_X0_tallyOfBoth [.ref g, vI w] N h (eRet (some (vI (gTal G 0 w + gTal G 1 w))) N h) := by
  refine eSp_of [(0, .ref g), (1, vI w)] rfl rfl ?_
  refine eW_aload_n 1 rfl rfl rfl ?_
  refine eW_iconst 2 rfl rfl ?_
  refine eW_iload_n 3 rfl rfl rfl ?_
  refine eW_callV 6 [.ref g, vI 0, vI w] [] [vI (gTal G 0 w)] rfl rfl rfl rfl (Nat.ble_eq_true_of_le (by omega)) hg.1 rfl rfl rfl (g_tally (d := d) hg hG hN (by unfold i32; omega) hw) rfl rfl ?_
  refine eW_aload_n 7 rfl rfl rfl ?_
  refine eW_iconst 8 rfl rfl ?_
  refine eW_iload_n 9 rfl rfl rfl ?_
  refine eW_callV 12 [.ref g, vI 1, vI w] [vI (gTal G 0 w)] [vI (gTal G 1 w), vI (gTal G 0 w)] rfl rfl rfl rfl (Nat.ble_eq_true_of_le (by omega)) hg.1 rfl rfl rfl (g_tally (d := d) hg hG hN (by unfold i32; omega) hw) rfl rfl ?_
  refine eW_iadd 13 rfl rfl ?_
  refine eW_ret_i rfl rfl (Or.inl rfl) ?_
  rfl
theorem g_lets {d N : Nat} {h : eHp} {g : Nat} {G : eGd} (hg : gG h g G) (hG : gOk G) (hN : g + 4 ≤ N) {n t l : Int} (hn : 0 ≤ n ∧ n ≤ 40) (ht : i32 t) (hl : i32 l) (hs : i32 (n - t)) (hs2 : i32 (n - t - l)) : eSp (d + 2) eM_X0_lets [.ref g, vI n, vI t, vI l] N h (eRet (some (vI (eB01 (gLets (gDig G) n t l)))) N h) := by
  refine eSp_of [(0, .ref g), (1, vI n), (2, vI t), (3, vI l)] rfl rfl ?_
  have hG' := hG
  have hd := gDig_le hG t
  have ht9 := ht
  unfold i32 at ht9 hl hs hs2
  refine eW_iload_n 1 rfl rfl rfl ?_
  refine eW_iload_n 2 rfl rfl rfl ?_
  refine eW_isub 3 rfl rfl ?_
  refine eW_iload_n 4 rfl rfl rfl ?_
  refine eW_isub 5 rfl rfl ?_
  refine eW_istore 7 rfl rfl [(4, vI ((n - t) - l)), (0, .ref g), (1, vI n), (2, vI t), (3, vI l)] rfl rfl ?_
  refine eW_iload_n 8 rfl rfl rfl ?_
  refine eW_if_lt 11 rfl rfl (by unfold i32; omega) (fun c1 => ?_) (fun c1 => ?_)
  · refine eW_iconst 26 rfl rfl ?_
    refine eW_ret_i rfl rfl (Or.inr (Or.inl ⟨rfl, rfl⟩)) ?_
    first | (rw [gLets_t (by omega)]; rfl) | (rw [gLets_f (by omega)]; rfl)
  · refine eW_iload 13 rfl rfl rfl ?_
    refine eW_if_lt 16 rfl rfl (by unfold i32; omega) (fun c2 => ?_) (fun c2 => ?_)
    · refine eW_iconst 26 rfl rfl ?_
      refine eW_ret_i rfl rfl (Or.inr (Or.inl ⟨rfl, rfl⟩)) ?_
      first | (rw [gLets_t (by omega)]; rfl) | (rw [gLets_f (by omega)]; rfl)
    · refine eW_iload_n 17 rfl rfl rfl ?_
      refine eW_if_ne 20 rfl rfl (by unfold i32; omega) (fun c3 => ?_) (fun c3 => ?_)
      · refine eW_iload_n 28 rfl rfl rfl ?_
        refine eW_if_ne 31 rfl rfl (by unfold i32; omega) (fun c4 => ?_) (fun c4 => ?_)
        · refine eW_iload 37 rfl rfl rfl ?_
          refine eW_if_ne 40 rfl rfl (by unfold i32; omega) (fun c5 => ?_) (fun c5 => ?_)
          · refine eW_iconst 45 rfl rfl ?_
            refine eW_istore 47 rfl rfl [(5, vI 4), (4, vI ((n - t) - l)), (0, .ref g), (1, vI n), (2, vI t), (3, vI l)] rfl rfl ?_
            refine eW_aload_n 48 rfl rfl rfl ?_
            refine eW_iload_n 49 rfl rfl rfl ?_
            refine eW_callV 52 [.ref g, vI t] [] [vI (gDig G t)] rfl rfl rfl rfl (Nat.ble_eq_true_of_le (by omega)) hg.1 rfl rfl rfl (g_digitFor (d := d) hg hG hN ht) rfl rfl ?_
            refine eW_iload 54 rfl rfl rfl ?_
            refine eW_iand 55 rfl rfl ((gDig G t) / 4 % 2 * 4) (eAnd4 (gDig_le hG' t).1 (gDig_le hG' t).2) ?_
            refine eW_if_eq 58 rfl rfl (by unfold i32; omega) (fun c6 => ?_) (fun c6 => ?_)
            · refine eW_iconst 63 rfl rfl ?_
              refine eW_ret_i rfl rfl (Or.inr (Or.inl ⟨rfl, rfl⟩)) ?_
              first | (rw [gLets_t (by omega)]; rfl) | (rw [gLets_f (by omega)]; rfl)
            · refine eW_iconst 59 rfl rfl ?_
              refine eW_goto rfl ?_
              refine eW_ret_i rfl rfl (Or.inr (Or.inl ⟨rfl, rfl⟩)) ?_
              first | (rw [gLets_t (by omega)]; rfl) | (rw [gLets_f (by omega)]; rfl)
          · refine eW_iconst 41 rfl rfl ?_
            refine eW_goto rfl ?_
            refine eW_istore 47 rfl rfl [(5, vI 2), (4, vI ((n - t) - l)), (0, .ref g), (1, vI n), (2, vI t), (3, vI l)] rfl rfl ?_
            refine eW_aload_n 48 rfl rfl rfl ?_
            refine eW_iload_n 49 rfl rfl rfl ?_
            refine eW_callV 52 [.ref g, vI t] [] [vI (gDig G t)] rfl rfl rfl rfl (Nat.ble_eq_true_of_le (by omega)) hg.1 rfl rfl rfl (g_digitFor (d := d) hg hG hN ht) rfl rfl ?_
            refine eW_iload 54 rfl rfl rfl ?_
            refine eW_iand 55 rfl rfl ((gDig G t) / 2 % 2 * 2) (eAnd2 (gDig_le hG' t).1 (gDig_le hG' t).2) ?_
            refine eW_if_eq 58 rfl rfl (by unfold i32; omega) (fun c7 => ?_) (fun c7 => ?_)
            · refine eW_iconst 63 rfl rfl ?_
              refine eW_ret_i rfl rfl (Or.inr (Or.inl ⟨rfl, rfl⟩)) ?_
              first | (rw [gLets_t (by omega)]; rfl) | (rw [gLets_f (by omega)]; rfl)
            · refine eW_iconst 59 rfl rfl ?_
              refine eW_goto rfl ?_
              refine eW_ret_i rfl rfl (Or.inr (Or.inl ⟨rfl, rfl⟩)) ?_
              first | (rw [gLets_t (by omega)]; rfl) | (rw [gLets_f (by omega)]; rfl)
        · refine eW_iconst 32 rfl rfl ?_
          refine eW_goto rfl ?_
          refine eW_istore 47 rfl rfl [(5, vI 1), (4, vI ((n - t) - l)), (0, .ref g), (1, vI n), (2, vI t), (3, vI l)] rfl rfl ?_
          refine eW_aload_n 48 rfl rfl rfl ?_
          refine eW_iload_n 49 rfl rfl rfl ?_
          refine eW_callV 52 [.ref g, vI t] [] [vI (gDig G t)] rfl rfl rfl rfl (Nat.ble_eq_true_of_le (by omega)) hg.1 rfl rfl rfl (g_digitFor (d := d) hg hG hN ht) rfl rfl ?_
          refine eW_iload 54 rfl rfl rfl ?_
          refine eW_iand 55 rfl rfl ((gDig G t) % 2) (eAnd1 (gDig_le hG' t).1 (gDig_le hG' t).2) ?_
          refine eW_if_eq 58 rfl rfl (by unfold i32; omega) (fun c8 => ?_) (fun c8 => ?_)
          · refine eW_iconst 63 rfl rfl ?_
            refine eW_ret_i rfl rfl (Or.inr (Or.inl ⟨rfl, rfl⟩)) ?_
            first | (rw [gLets_t (by omega)]; rfl) | (rw [gLets_f (by omega)]; rfl)
          · refine eW_iconst 59 rfl rfl ?_
            refine eW_goto rfl ?_
            refine eW_ret_i rfl rfl (Or.inr (Or.inl ⟨rfl, rfl⟩)) ?_
            first | (rw [gLets_t (by omega)]; rfl) | (rw [gLets_f (by omega)]; rfl)
      · refine eW_iload 22 rfl rfl rfl ?_
        refine eW_if_le 25 rfl rfl (by unfold i32; omega) (fun c9 => ?_) (fun c9 => ?_)
        · refine eW_iload_n 28 rfl rfl rfl ?_
          refine eW_if_ne 31 rfl rfl (by unfold i32; omega) (fun c10 => ?_) (fun c10 => ?_)
          · refine eW_iload 37 rfl rfl rfl ?_
            refine eW_if_ne 40 rfl rfl (by unfold i32; omega) (fun c11 => ?_) (fun c11 => ?_)
            · refine eW_iconst 45 rfl rfl ?_
              refine eW_istore 47 rfl rfl [(5, vI 4), (4, vI ((n - t) - l)), (0, .ref g), (1, vI n), (2, vI t), (3, vI l)] rfl rfl ?_
              refine eW_aload_n 48 rfl rfl rfl ?_
              refine eW_iload_n 49 rfl rfl rfl ?_
              refine eW_callV 52 [.ref g, vI t] [] [vI (gDig G t)] rfl rfl rfl rfl (Nat.ble_eq_true_of_le (by omega)) hg.1 rfl rfl rfl (g_digitFor (d := d) hg hG hN ht) rfl rfl ?_
              refine eW_iload 54 rfl rfl rfl ?_
              refine eW_iand 55 rfl rfl ((gDig G t) / 4 % 2 * 4) (eAnd4 (gDig_le hG' t).1 (gDig_le hG' t).2) ?_
              refine eW_if_eq 58 rfl rfl (by unfold i32; omega) (fun c12 => ?_) (fun c12 => ?_)
              · refine eW_iconst 63 rfl rfl ?_
                refine eW_ret_i rfl rfl (Or.inr (Or.inl ⟨rfl, rfl⟩)) ?_
                first | (rw [gLets_t (by omega)]; rfl) | (rw [gLets_f (by omega)]; rfl)
              · refine eW_iconst 59 rfl rfl ?_
                refine eW_goto rfl ?_
                refine eW_ret_i rfl rfl (Or.inr (Or.inl ⟨rfl, rfl⟩)) ?_
                first | (rw [gLets_t (by omega)]; rfl) | (rw [gLets_f (by omega)]; rfl)
            · refine eW_iconst 41 rfl rfl ?_
              refine eW_goto rfl ?_
              refine eW_istore 47 rfl rfl [(5, vI 2), (4, vI ((n - t) - l)), (0, .ref g), (1, vI n), (2, vI t), (3, vI l)] rfl rfl ?_
              refine eW_aload_n 48 rfl rfl rfl ?_
              refine eW_iload_n 49 rfl rfl rfl ?_
              refine eW_callV 52 [.ref g, vI t] [] [vI (gDig G t)] rfl rfl rfl rfl (Nat.ble_eq_true_of_le (by omega)) hg.1 rfl rfl rfl (g_digitFor (d := d) hg hG hN ht) rfl rfl ?_
              refine eW_iload 54 rfl rfl rfl ?_
              refine eW_iand 55 rfl rfl ((gDig G t) / 2 % 2 * 2) (eAnd2 (gDig_le hG' t).1 (gDig_le hG' t).2) ?_
              refine eW_if_eq 58 rfl rfl (by unfold i32; omega) (fun c13 => ?_) (fun c13 => ?_)
              · refine eW_iconst 63 rfl rfl ?_
                refine eW_ret_i rfl rfl (Or.inr (Or.inl ⟨rfl, rfl⟩)) ?_
                first | (rw [gLets_t (by omega)]; rfl) | (rw [gLets_f (by omega)]; rfl)
              · refine eW_iconst 59 rfl rfl ?_
                refine eW_goto rfl ?_
                refine eW_ret_i rfl rfl (Or.inr (Or.inl ⟨rfl, rfl⟩)) ?_
                first | (rw [gLets_t (by omega)]; rfl) | (rw [gLets_f (by omega)]; rfl)
          · refine eW_iconst 32 rfl rfl ?_
            refine eW_goto rfl ?_
            refine eW_istore 47 rfl rfl [(5, vI 1), (4, vI ((n - t) - l)), (0, .ref g), (1, vI n), (2, vI t), (3, vI l)] rfl rfl ?_
            refine eW_aload_n 48 rfl rfl rfl ?_
            refine eW_iload_n 49 rfl rfl rfl ?_
            refine eW_callV 52 [.ref g, vI t] [] [vI (gDig G t)] rfl rfl rfl rfl (Nat.ble_eq_true_of_le (by omega)) hg.1 rfl rfl rfl (g_digitFor (d := d) hg hG hN ht) rfl rfl ?_
            refine eW_iload 54 rfl rfl rfl ?_
            refine eW_iand 55 rfl rfl ((gDig G t) % 2) (eAnd1 (gDig_le hG' t).1 (gDig_le hG' t).2) ?_
            refine eW_if_eq 58 rfl rfl (by unfold i32; omega) (fun c14 => ?_) (fun c14 => ?_)
            · refine eW_iconst 63 rfl rfl ?_
              refine eW_ret_i rfl rfl (Or.inr (Or.inl ⟨rfl, rfl⟩)) ?_
              first | (rw [gLets_t (by omega)]; rfl) | (rw [gLets_f (by omega)]; rfl)
            · refine eW_iconst 59 rfl rfl ?_
              refine eW_goto rfl ?_
              refine eW_ret_i rfl rfl (Or.inr (Or.inl ⟨rfl, rfl⟩)) ?_
              first | (rw [gLets_t (by omega)]; rfl) | (rw [gLets_f (by omega)]; rfl)
        · refine eW_iconst 26 rfl rfl ?_
          refine eW_ret_i rfl rfl (Or.inr (Or.inl ⟨rfl, rfl⟩)) ?_
          first | (rw [gLets_t (by omega)]; rfl) | (rw [gLets_f (by omega)]; rfl)
theorem gIn_t {G : eGd} {p : Int} (h1 : 0 ≤ p) (h2 : p < G.2.2.2.1) : gIn G p = G.1 p.toNat := by unfold gIn; rw [gHas_t h1 h2]
theorem gSum_succ {F : Nat → Int} {i : Int} (h : 0 ≤ i) : gSum F (i + 1).toNat = gSum F i.toNat + F i.toNat := by
  rw [show (i + 1).toNat = i.toNat + 1 by omega]; rfl
theorem g_all_l {d N k z : Nat} {h : eHp} {g : Nat} {G : eGd} {P : eR → Prop} (hg : gG h g G) (hG : gOk G) (hN : g + 4 ≤ N)  : ∀ (m9 : Nat) (i a : Int), G.2.2.2.1 - i ≤ m9 → 0 ≤ i → i ≤ G.2.2.2.1 → a = gSum G.1 i.toNat → (∀ (i a : Int), a = gSum G.1 G.2.2.2.1.toNat → eWp eOx (eEv (d + 2)) eM_X0_marblesInAll (26, [(0, .ref g), (1, vI a), (2, vI i)], [], N, h, k, z) P) → eWp eOx (eEv (d + 2)) eM_X0_marblesInAll (4, [(0, .ref g), (1, vI a), (2, vI i)], [], N, h, k, z) P := by
  intro m9
  induction m9 with
  | zero =>
    intro i a hm q0 q1 q2 kk
    have hG9 := hG
    obtain ⟨g1, g2, g3, g4⟩ := hG9
    refine eW_iload_n 5 rfl rfl rfl ?_
    refine eW_aload_n 6 rfl rfl rfl ?_
    refine eW_getfield 9 rfl rfl (Nat.ble_eq_true_of_le (by omega)) rfl hg.1 rfl ⟨rfl, fun _ h9 => nomatch h9⟩ ?_
    refine eW_icmp_ge 12 rfl rfl (by unfold i32; omega) (by unfold i32; omega) (fun c1 => ?_) (fun c1 => ?_)
    · refine kk _ _ ?_
      rw [q2, show i = G.2.2.2.1 by omega]
    · refine eW_iload_n 13 rfl rfl rfl ?_
      refine eW_aload_n 14 rfl rfl rfl ?_
      refine eW_iload_n 15 rfl rfl rfl ?_
      refine eW_callV 18 [.ref g, vI i] [vI a] [vI (gIn G i), vI a] rfl rfl rfl rfl (Nat.ble_eq_true_of_le (by omega)) hg.1 rfl rfl rfl (g_marblesIn (d := d) hg hG hN (by unfold i32; omega)) rfl rfl ?_
      refine eW_iadd 19 rfl rfl ?_
      refine eW_istore_n 20 rfl rfl [(1, vI (a + (gIn G i))), (0, .ref g), (2, vI i)] rfl rfl ?_
      refine eW_iinc 23 rfl rfl [(2, vI (i + 1)), (1, vI (a + (gIn G i))), (0, .ref g)] rfl rfl rfl ?_
      refine eW_goto rfl ?_
      refine eW_re [(0, .ref g), (1, vI (a + (gIn G i))), (2, vI (i + 1))] rfl rfl (List.forall_mem_cons.mpr ⟨rfl, List.forall_mem_cons.mpr ⟨rfl, List.forall_mem_cons.mpr ⟨rfl, fun _ h => absurd h List.not_mem_nil⟩⟩⟩) (List.forall_mem_cons.mpr ⟨Or.inl rfl, List.forall_mem_cons.mpr ⟨Or.inl rfl, List.forall_mem_cons.mpr ⟨Or.inl rfl, fun _ h => absurd h List.not_mem_nil⟩⟩⟩) ?_
      exact absurd hm (by omega)
  | succ m9 ih =>
    intro i a hm q0 q1 q2 kk
    have hG9 := hG
    obtain ⟨g1, g2, g3, g4⟩ := hG9
    refine eW_iload_n 5 rfl rfl rfl ?_
    refine eW_aload_n 6 rfl rfl rfl ?_
    refine eW_getfield 9 rfl rfl (Nat.ble_eq_true_of_le (by omega)) rfl hg.1 rfl ⟨rfl, fun _ h9 => nomatch h9⟩ ?_
    refine eW_icmp_ge 12 rfl rfl (by unfold i32; omega) (by unfold i32; omega) (fun c1 => ?_) (fun c1 => ?_)
    · refine kk _ _ ?_
      rw [q2, show i = G.2.2.2.1 by omega]
    · refine eW_iload_n 13 rfl rfl rfl ?_
      refine eW_aload_n 14 rfl rfl rfl ?_
      refine eW_iload_n 15 rfl rfl rfl ?_
      refine eW_callV 18 [.ref g, vI i] [vI a] [vI (gIn G i), vI a] rfl rfl rfl rfl (Nat.ble_eq_true_of_le (by omega)) hg.1 rfl rfl rfl (g_marblesIn (d := d) hg hG hN (by unfold i32; omega)) rfl rfl ?_
      refine eW_iadd 19 rfl rfl ?_
      refine eW_istore_n 20 rfl rfl [(1, vI (a + (gIn G i))), (0, .ref g), (2, vI i)] rfl rfl ?_
      refine eW_iinc 23 rfl rfl [(2, vI (i + 1)), (1, vI (a + (gIn G i))), (0, .ref g)] rfl rfl rfl ?_
      refine eW_goto rfl ?_
      refine eW_re [(0, .ref g), (1, vI (a + (gIn G i))), (2, vI (i + 1))] rfl rfl (List.forall_mem_cons.mpr ⟨rfl, List.forall_mem_cons.mpr ⟨rfl, List.forall_mem_cons.mpr ⟨rfl, fun _ h => absurd h List.not_mem_nil⟩⟩⟩) (List.forall_mem_cons.mpr ⟨Or.inl rfl, List.forall_mem_cons.mpr ⟨Or.inl rfl, List.forall_mem_cons.mpr ⟨Or.inl rfl, fun _ h => absurd h List.not_mem_nil⟩⟩⟩) ?_
      refine ih (i + 1) _ (by omega) (by omega) (by omega) ?_ kk
      rw [q2, gIn_t q0 (by omega), gSum_succ q0]
theorem g_all {d N : Nat} {h : eHp} {g : Nat} {G : eGd} (hg : gG h g G) (hG : gOk G) (hN : g + 4 ≤ N)  : eSp (d + 3) eM_X0_marblesInAll [.ref g] N h (eRet (some (vI (gSum G.1 G.2.2.2.1.toNat))) N h) := by
  refine eSp_of [(0, .ref g)] rfl rfl ?_
  have hG9 := hG
  obtain ⟨g1, g2, g3, g4⟩ := hG9
  refine eW_iconst 1 rfl rfl ?_
  refine eW_istore_n 2 rfl rfl [(1, vI 0), (0, .ref g)] rfl rfl ?_
  refine eW_iconst 3 rfl rfl ?_
  refine eW_istore_n 4 rfl rfl [(2, vI 0), (1, vI 0), (0, .ref g)] rfl rfl ?_
  refine eW_re [(0, .ref g), (1, vI 0), (2, vI 0)] rfl rfl (List.forall_mem_cons.mpr ⟨rfl, List.forall_mem_cons.mpr ⟨rfl, List.forall_mem_cons.mpr ⟨rfl, fun _ h => absurd h List.not_mem_nil⟩⟩⟩) (List.forall_mem_cons.mpr ⟨Or.inl rfl, List.forall_mem_cons.mpr ⟨Or.inl rfl, List.forall_mem_cons.mpr ⟨Or.inl rfl, fun _ h => absurd h List.not_mem_nil⟩⟩⟩) ?_
  refine g_all_l hg hG hN _ 0 0 (Int.self_le_toNat _) (Int.le_refl _) g1 rfl (fun i a q => ?_)
  refine eW_iload_n 27 rfl rfl rfl ?_
  refine eW_ret_i rfl rfl (Or.inl rfl) ?_
  exact eRet_i q
theorem eB01_c (b : Bool) : (b = true ∧ eB01 b = 1) ∨ (b = false ∧ eB01 b = 0) := by cases b <;> simp [eB01]
theorem g_scoopsOf_i {d N k z : Nat} {h : eHp} {g : Nat} {G : eGd} {P : eR → Prop} (hg : gG h g G) (hG : gOk G) (hN : g + 4 ≤ N) {p n t c0 : Int} (hn : 0 ≤ n ∧ n ≤ 40) (ht : 1 ≤ t ∧ t ≤ 6) : ∀ (m9 : Nat) (c l : Int), n - t + 1 - l ≤ m9 → 0 ≤ l → c = c0 + gCntL (gDig G) n t l.toNat → l ≤ n - t + 1 ∨ l = 0 → (∀ (c : Int), c = c0 + gCntL (gDig G) n t (n - t + 1).toNat → eWp eOx (eEv (d + 2)) eM_X0_scoopsOf (51, [(0, .ref g), (1, vI p), (2, vI n), (3, vI c), (4, vI t)], [], N, h, k, z) P) → eWp eOx (eEv (d + 2)) eM_X0_scoopsOf (21, [(0, .ref g), (1, vI p), (2, vI n), (3, vI c), (4, vI t), (5, vI l)], [], N, h, k, z) P := by
  intro m9
  induction m9 with
  | zero =>
    intro c l hm q0 q1 q2 kk
    refine eW_iload 23 rfl rfl rfl ?_
    refine eW_iload_n 24 rfl rfl rfl ?_
    refine eW_iload 26 rfl rfl rfl ?_
    refine eW_isub 27 rfl rfl ?_
    refine eW_icmp_gt 30 rfl rfl (by unfold i32; omega) (by unfold i32; omega) (fun c1 => ?_) (fun c1 => ?_)
    · refine eW_re [(0, .ref g), (1, vI p), (2, vI n), (3, vI c), (4, vI t)] rfl rfl (List.forall_mem_cons.mpr ⟨rfl, List.forall_mem_cons.mpr ⟨rfl, List.forall_mem_cons.mpr ⟨rfl, List.forall_mem_cons.mpr ⟨rfl, List.forall_mem_cons.mpr ⟨rfl, fun _ h => absurd h List.not_mem_nil⟩⟩⟩⟩⟩) (List.forall_mem_cons.mpr ⟨Or.inl rfl, List.forall_mem_cons.mpr ⟨Or.inl rfl, List.forall_mem_cons.mpr ⟨Or.inl rfl, List.forall_mem_cons.mpr ⟨Or.inl rfl, List.forall_mem_cons.mpr ⟨Or.inl rfl, List.forall_mem_cons.mpr ⟨Or.inr ⟨_, rfl⟩, fun _ h => absurd h List.not_mem_nil⟩⟩⟩⟩⟩⟩) ?_
      refine kk _ ?_
      rw [q1, show (n - t + 1).toNat = l.toNat by omega]
    · refine eW_aload_n 31 rfl rfl rfl ?_
      refine eW_iload_n 32 rfl rfl rfl ?_
      refine eW_iload 34 rfl rfl rfl ?_
      refine eW_iload 36 rfl rfl rfl ?_
      have hb := eB01_c (gLets (gDig G) n t l)
      refine eW_callV 39 [.ref g, vI n, vI t, vI l] [] [vI (eB01 (gLets (gDig G) n t l))] rfl rfl rfl rfl (Nat.ble_eq_true_of_le (by omega)) hg.1 rfl rfl rfl (g_lets (d := d) hg hG hN (by omega) (by unfold i32; omega) (by unfold i32; omega) (by unfold i32; omega) (by unfold i32; omega)) rfl rfl ?_
      refine eW_if_eq 42 rfl rfl (by unfold i32; omega) (fun c2 => ?_) (fun c2 => ?_)
      · refine eW_iinc 48 rfl rfl [(5, vI (l + 1)), (0, .ref g), (1, vI p), (2, vI n), (3, vI c), (4, vI t)] rfl rfl rfl ?_
        refine eW_goto rfl ?_
        refine eW_re [(0, .ref g), (1, vI p), (2, vI n), (3, vI c), (4, vI t), (5, vI (l + 1))] rfl rfl (List.forall_mem_cons.mpr ⟨rfl, List.forall_mem_cons.mpr ⟨rfl, List.forall_mem_cons.mpr ⟨rfl, List.forall_mem_cons.mpr ⟨rfl, List.forall_mem_cons.mpr ⟨rfl, List.forall_mem_cons.mpr ⟨rfl, fun _ h => absurd h List.not_mem_nil⟩⟩⟩⟩⟩⟩) (List.forall_mem_cons.mpr ⟨Or.inl rfl, List.forall_mem_cons.mpr ⟨Or.inl rfl, List.forall_mem_cons.mpr ⟨Or.inl rfl, List.forall_mem_cons.mpr ⟨Or.inl rfl, List.forall_mem_cons.mpr ⟨Or.inl rfl, List.forall_mem_cons.mpr ⟨Or.inl rfl, fun _ h => absurd h List.not_mem_nil⟩⟩⟩⟩⟩⟩) ?_
        exact absurd hm (by omega)
      · refine eW_iinc 45 rfl rfl [(3, vI (c + 1)), (0, .ref g), (1, vI p), (2, vI n), (4, vI t), (5, vI l)] rfl rfl rfl ?_
        refine eW_iinc 48 rfl rfl [(5, vI (l + 1)), (3, vI (c + 1)), (0, .ref g), (1, vI p), (2, vI n), (4, vI t)] rfl rfl rfl ?_
        refine eW_goto rfl ?_
        refine eW_re [(0, .ref g), (1, vI p), (2, vI n), (3, vI (c + 1)), (4, vI t), (5, vI (l + 1))] rfl rfl (List.forall_mem_cons.mpr ⟨rfl, List.forall_mem_cons.mpr ⟨rfl, List.forall_mem_cons.mpr ⟨rfl, List.forall_mem_cons.mpr ⟨rfl, List.forall_mem_cons.mpr ⟨rfl, List.forall_mem_cons.mpr ⟨rfl, fun _ h => absurd h List.not_mem_nil⟩⟩⟩⟩⟩⟩) (List.forall_mem_cons.mpr ⟨Or.inl rfl, List.forall_mem_cons.mpr ⟨Or.inl rfl, List.forall_mem_cons.mpr ⟨Or.inl rfl, List.forall_mem_cons.mpr ⟨Or.inl rfl, List.forall_mem_cons.mpr ⟨Or.inl rfl, List.forall_mem_cons.mpr ⟨Or.inl rfl, fun _ h => absurd h List.not_mem_nil⟩⟩⟩⟩⟩⟩) ?_
        exact absurd hm (by omega)
  | succ m9 ih =>
    intro c l hm q0 q1 q2 kk
    refine eW_iload 23 rfl rfl rfl ?_
    refine eW_iload_n 24 rfl rfl rfl ?_
    refine eW_iload 26 rfl rfl rfl ?_
    refine eW_isub 27 rfl rfl ?_
    refine eW_icmp_gt 30 rfl rfl (by unfold i32; omega) (by unfold i32; omega) (fun c1 => ?_) (fun c1 => ?_)
    · refine eW_re [(0, .ref g), (1, vI p), (2, vI n), (3, vI c), (4, vI t)] rfl rfl (List.forall_mem_cons.mpr ⟨rfl, List.forall_mem_cons.mpr ⟨rfl, List.forall_mem_cons.mpr ⟨rfl, List.forall_mem_cons.mpr ⟨rfl, List.forall_mem_cons.mpr ⟨rfl, fun _ h => absurd h List.not_mem_nil⟩⟩⟩⟩⟩) (List.forall_mem_cons.mpr ⟨Or.inl rfl, List.forall_mem_cons.mpr ⟨Or.inl rfl, List.forall_mem_cons.mpr ⟨Or.inl rfl, List.forall_mem_cons.mpr ⟨Or.inl rfl, List.forall_mem_cons.mpr ⟨Or.inl rfl, List.forall_mem_cons.mpr ⟨Or.inr ⟨_, rfl⟩, fun _ h => absurd h List.not_mem_nil⟩⟩⟩⟩⟩⟩) ?_
      refine kk _ ?_
      rw [q1, show (n - t + 1).toNat = l.toNat by omega]
    · refine eW_aload_n 31 rfl rfl rfl ?_
      refine eW_iload_n 32 rfl rfl rfl ?_
      refine eW_iload 34 rfl rfl rfl ?_
      refine eW_iload 36 rfl rfl rfl ?_
      have hb := eB01_c (gLets (gDig G) n t l)
      refine eW_callV 39 [.ref g, vI n, vI t, vI l] [] [vI (eB01 (gLets (gDig G) n t l))] rfl rfl rfl rfl (Nat.ble_eq_true_of_le (by omega)) hg.1 rfl rfl rfl (g_lets (d := d) hg hG hN (by omega) (by unfold i32; omega) (by unfold i32; omega) (by unfold i32; omega) (by unfold i32; omega)) rfl rfl ?_
      refine eW_if_eq 42 rfl rfl (by unfold i32; omega) (fun c2 => ?_) (fun c2 => ?_)
      · refine eW_iinc 48 rfl rfl [(5, vI (l + 1)), (0, .ref g), (1, vI p), (2, vI n), (3, vI c), (4, vI t)] rfl rfl rfl ?_
        refine eW_goto rfl ?_
        refine eW_re [(0, .ref g), (1, vI p), (2, vI n), (3, vI c), (4, vI t), (5, vI (l + 1))] rfl rfl (List.forall_mem_cons.mpr ⟨rfl, List.forall_mem_cons.mpr ⟨rfl, List.forall_mem_cons.mpr ⟨rfl, List.forall_mem_cons.mpr ⟨rfl, List.forall_mem_cons.mpr ⟨rfl, List.forall_mem_cons.mpr ⟨rfl, fun _ h => absurd h List.not_mem_nil⟩⟩⟩⟩⟩⟩) (List.forall_mem_cons.mpr ⟨Or.inl rfl, List.forall_mem_cons.mpr ⟨Or.inl rfl, List.forall_mem_cons.mpr ⟨Or.inl rfl, List.forall_mem_cons.mpr ⟨Or.inl rfl, List.forall_mem_cons.mpr ⟨Or.inl rfl, List.forall_mem_cons.mpr ⟨Or.inl rfl, fun _ h => absurd h List.not_mem_nil⟩⟩⟩⟩⟩⟩) ?_
        refine ih _ (l + 1) (by omega) (by omega) ?_ (by omega) kk
        rw [gCntL_succ q0]; omega
      · refine eW_iinc 45 rfl rfl [(3, vI (c + 1)), (0, .ref g), (1, vI p), (2, vI n), (4, vI t), (5, vI l)] rfl rfl rfl ?_
        refine eW_iinc 48 rfl rfl [(5, vI (l + 1)), (3, vI (c + 1)), (0, .ref g), (1, vI p), (2, vI n), (4, vI t)] rfl rfl rfl ?_
        refine eW_goto rfl ?_
        refine eW_re [(0, .ref g), (1, vI p), (2, vI n), (3, vI (c + 1)), (4, vI t), (5, vI (l + 1))] rfl rfl (List.forall_mem_cons.mpr ⟨rfl, List.forall_mem_cons.mpr ⟨rfl, List.forall_mem_cons.mpr ⟨rfl, List.forall_mem_cons.mpr ⟨rfl, List.forall_mem_cons.mpr ⟨rfl, List.forall_mem_cons.mpr ⟨rfl, fun _ h => absurd h List.not_mem_nil⟩⟩⟩⟩⟩⟩) (List.forall_mem_cons.mpr ⟨Or.inl rfl, List.forall_mem_cons.mpr ⟨Or.inl rfl, List.forall_mem_cons.mpr ⟨Or.inl rfl, List.forall_mem_cons.mpr ⟨Or.inl rfl, List.forall_mem_cons.mpr ⟨Or.inl rfl, List.forall_mem_cons.mpr ⟨Or.inl rfl, fun _ h => absurd h List.not_mem_nil⟩⟩⟩⟩⟩⟩) ?_
        refine ih _ (l + 1) (by omega) (by omega) ?_ (by omega) kk
        rw [gCntL_succ q0]; omega
theorem g_scoopsOf_o {d N k z : Nat} {h : eHp} {g : Nat} {G : eGd} {P : eR → Prop} (hg : gG h g G) (hG : gOk G) (hN : g + 4 ≤ N) {p n : Int} (hn : 0 ≤ n ∧ n ≤ 40) : ∀ (m9 : Nat) (c t : Int), 7 - t ≤ m9 → 1 ≤ t → t ≤ 7 → c = gCntT (gDig G) n (t - 1).toNat → (∀ (c : Int), c = gWays (gDig G) n → eWp eOx (eEv (d + 2)) eM_X0_scoopsOf (57, [(0, .ref g), (1, vI p), (2, vI n), (3, vI c)], [], N, h, k, z) P) → eWp eOx (eEv (d + 2)) eM_X0_scoopsOf (11, [(0, .ref g), (1, vI p), (2, vI n), (3, vI c), (4, vI t)], [], N, h, k, z) P := by
  intro m9
  induction m9 with
  | zero =>
    intro c t hm q0 q1 q2 kk
    refine eW_iload 13 rfl rfl rfl ?_
    refine eW_bipush 15 rfl rfl 6 rfl ?_
    refine eW_icmp_gt 18 rfl rfl (by unfold i32; omega) (by unfold i32; omega) (fun c1 => ?_) (fun c1 => ?_)
    · refine eW_re [(0, .ref g), (1, vI p), (2, vI n), (3, vI c)] rfl rfl (List.forall_mem_cons.mpr ⟨rfl, List.forall_mem_cons.mpr ⟨rfl, List.forall_mem_cons.mpr ⟨rfl, List.forall_mem_cons.mpr ⟨rfl, fun _ h => absurd h List.not_mem_nil⟩⟩⟩⟩) (List.forall_mem_cons.mpr ⟨Or.inl rfl, List.forall_mem_cons.mpr ⟨Or.inl rfl, List.forall_mem_cons.mpr ⟨Or.inl rfl, List.forall_mem_cons.mpr ⟨Or.inl rfl, List.forall_mem_cons.mpr ⟨Or.inr ⟨_, rfl⟩, fun _ h => absurd h List.not_mem_nil⟩⟩⟩⟩⟩) ?_
      refine kk _ ?_
      rw [q2, show t = 7 by omega]; rfl
    · refine eW_iconst 19 rfl rfl ?_
      refine eW_istore 21 rfl rfl [(5, vI 0), (0, .ref g), (1, vI p), (2, vI n), (3, vI c), (4, vI t)] rfl rfl ?_
      refine eW_re [(0, .ref g), (1, vI p), (2, vI n), (3, vI c), (4, vI t), (5, vI 0)] rfl rfl (List.forall_mem_cons.mpr ⟨rfl, List.forall_mem_cons.mpr ⟨rfl, List.forall_mem_cons.mpr ⟨rfl, List.forall_mem_cons.mpr ⟨rfl, List.forall_mem_cons.mpr ⟨rfl, List.forall_mem_cons.mpr ⟨rfl, fun _ h => absurd h List.not_mem_nil⟩⟩⟩⟩⟩⟩) (List.forall_mem_cons.mpr ⟨Or.inl rfl, List.forall_mem_cons.mpr ⟨Or.inl rfl, List.forall_mem_cons.mpr ⟨Or.inl rfl, List.forall_mem_cons.mpr ⟨Or.inl rfl, List.forall_mem_cons.mpr ⟨Or.inl rfl, List.forall_mem_cons.mpr ⟨Or.inl rfl, fun _ h => absurd h List.not_mem_nil⟩⟩⟩⟩⟩⟩) ?_
      refine g_scoopsOf_i (c0 := c) hg hG hN hn (by omega) _ _ 0 (Int.self_le_toNat _) (by omega) (by simp [gCntL]) (Or.inr rfl) (fun c qi => ?_)
      refine eW_iinc 54 rfl rfl [(4, vI (t + 1)), (0, .ref g), (1, vI p), (2, vI n), (3, vI c)] rfl rfl rfl ?_
      refine eW_goto rfl ?_
      refine eW_re [(0, .ref g), (1, vI p), (2, vI n), (3, vI c), (4, vI (t + 1))] rfl rfl (List.forall_mem_cons.mpr ⟨rfl, List.forall_mem_cons.mpr ⟨rfl, List.forall_mem_cons.mpr ⟨rfl, List.forall_mem_cons.mpr ⟨rfl, List.forall_mem_cons.mpr ⟨rfl, fun _ h => absurd h List.not_mem_nil⟩⟩⟩⟩⟩) (List.forall_mem_cons.mpr ⟨Or.inl rfl, List.forall_mem_cons.mpr ⟨Or.inl rfl, List.forall_mem_cons.mpr ⟨Or.inl rfl, List.forall_mem_cons.mpr ⟨Or.inl rfl, List.forall_mem_cons.mpr ⟨Or.inl rfl, fun _ h => absurd h List.not_mem_nil⟩⟩⟩⟩⟩) ?_
      exact absurd hm (by omega)
  | succ m9 ih =>
    intro c t hm q0 q1 q2 kk
    refine eW_iload 13 rfl rfl rfl ?_
    refine eW_bipush 15 rfl rfl 6 rfl ?_
    refine eW_icmp_gt 18 rfl rfl (by unfold i32; omega) (by unfold i32; omega) (fun c1 => ?_) (fun c1 => ?_)
    · refine eW_re [(0, .ref g), (1, vI p), (2, vI n), (3, vI c)] rfl rfl (List.forall_mem_cons.mpr ⟨rfl, List.forall_mem_cons.mpr ⟨rfl, List.forall_mem_cons.mpr ⟨rfl, List.forall_mem_cons.mpr ⟨rfl, fun _ h => absurd h List.not_mem_nil⟩⟩⟩⟩) (List.forall_mem_cons.mpr ⟨Or.inl rfl, List.forall_mem_cons.mpr ⟨Or.inl rfl, List.forall_mem_cons.mpr ⟨Or.inl rfl, List.forall_mem_cons.mpr ⟨Or.inl rfl, List.forall_mem_cons.mpr ⟨Or.inr ⟨_, rfl⟩, fun _ h => absurd h List.not_mem_nil⟩⟩⟩⟩⟩) ?_
      refine kk _ ?_
      rw [q2, show t = 7 by omega]; rfl
    · refine eW_iconst 19 rfl rfl ?_
      refine eW_istore 21 rfl rfl [(5, vI 0), (0, .ref g), (1, vI p), (2, vI n), (3, vI c), (4, vI t)] rfl rfl ?_
      refine eW_re [(0, .ref g), (1, vI p), (2, vI n), (3, vI c), (4, vI t), (5, vI 0)] rfl rfl (List.forall_mem_cons.mpr ⟨rfl, List.forall_mem_cons.mpr ⟨rfl, List.forall_mem_cons.mpr ⟨rfl, List.forall_mem_cons.mpr ⟨rfl, List.forall_mem_cons.mpr ⟨rfl, List.forall_mem_cons.mpr ⟨rfl, fun _ h => absurd h List.not_mem_nil⟩⟩⟩⟩⟩⟩) (List.forall_mem_cons.mpr ⟨Or.inl rfl, List.forall_mem_cons.mpr ⟨Or.inl rfl, List.forall_mem_cons.mpr ⟨Or.inl rfl, List.forall_mem_cons.mpr ⟨Or.inl rfl, List.forall_mem_cons.mpr ⟨Or.inl rfl, List.forall_mem_cons.mpr ⟨Or.inl rfl, fun _ h => absurd h List.not_mem_nil⟩⟩⟩⟩⟩⟩) ?_
      refine g_scoopsOf_i (c0 := c) hg hG hN hn (by omega) _ _ 0 (Int.self_le_toNat _) (by omega) (by simp [gCntL]) (Or.inr rfl) (fun c qi => ?_)
      refine eW_iinc 54 rfl rfl [(4, vI (t + 1)), (0, .ref g), (1, vI p), (2, vI n), (3, vI c)] rfl rfl rfl ?_
      refine eW_goto rfl ?_
      refine eW_re [(0, .ref g), (1, vI p), (2, vI n), (3, vI c), (4, vI (t + 1))] rfl rfl (List.forall_mem_cons.mpr ⟨rfl, List.forall_mem_cons.mpr ⟨rfl, List.forall_mem_cons.mpr ⟨rfl, List.forall_mem_cons.mpr ⟨rfl, List.forall_mem_cons.mpr ⟨rfl, fun _ h => absurd h List.not_mem_nil⟩⟩⟩⟩⟩) (List.forall_mem_cons.mpr ⟨Or.inl rfl, List.forall_mem_cons.mpr ⟨Or.inl rfl, List.forall_mem_cons.mpr ⟨Or.inl rfl, List.forall_mem_cons.mpr ⟨Or.inl rfl, List.forall_mem_cons.mpr ⟨Or.inl rfl, fun _ h => absurd h List.not_mem_nil⟩⟩⟩⟩⟩) ?_
      refine ih _ (t + 1) (by omega) (by omega) (by omega) ?_ kk
      rw [qi, q2, show t + 1 - 1 = t by omega, gCntT_succ q0]
theorem g_scoopsOf {d N : Nat} {h : eHp} {g : Nat} {G : eGd} (hg : gG h g G) (hG : gOk G) (hN : g + 4 ≤ N) {p : Int} (hp : i32 p) : eSp (d + 3) eM_X0_scoopsOf [.ref g, vI p] N h (eRet (some (vI (gWays (gDig G) (gIn G p)))) N h) := by
  refine eSp_of [(0, .ref g), (1, vI p)] rfl rfl ?_
  have hn := gIn_le hG p
  refine eW_aload_n 1 rfl rfl rfl ?_
  refine eW_iload_n 2 rfl rfl rfl ?_
  refine eW_callV 5 [.ref g, vI p] [] [vI (gIn G p)] rfl rfl rfl rfl (Nat.ble_eq_true_of_le (by omega)) hg.1 rfl rfl rfl (g_marblesIn (d := d) hg hG hN hp) rfl rfl ?_
  refine eW_istore_n 6 rfl rfl [(2, vI (gIn G p)), (0, .ref g), (1, vI p)] rfl rfl ?_
  refine eW_iconst 7 rfl rfl ?_
  refine eW_istore_n 8 rfl rfl [(3, vI 0), (2, vI (gIn G p)), (0, .ref g), (1, vI p)] rfl rfl ?_
  refine eW_iconst 9 rfl rfl ?_
  refine eW_istore 11 rfl rfl [(4, vI 1), (3, vI 0), (2, vI (gIn G p)), (0, .ref g), (1, vI p)] rfl rfl ?_
  refine eW_re [(0, .ref g), (1, vI p), (2, vI (gIn G p)), (3, vI 0), (4, vI 1)] rfl rfl (List.forall_mem_cons.mpr ⟨rfl, List.forall_mem_cons.mpr ⟨rfl, List.forall_mem_cons.mpr ⟨rfl, List.forall_mem_cons.mpr ⟨rfl, List.forall_mem_cons.mpr ⟨rfl, fun _ h => absurd h List.not_mem_nil⟩⟩⟩⟩⟩) (List.forall_mem_cons.mpr ⟨Or.inl rfl, List.forall_mem_cons.mpr ⟨Or.inl rfl, List.forall_mem_cons.mpr ⟨Or.inl rfl, List.forall_mem_cons.mpr ⟨Or.inl rfl, List.forall_mem_cons.mpr ⟨Or.inl rfl, fun _ h => absurd h List.not_mem_nil⟩⟩⟩⟩⟩) ?_
  refine g_scoopsOf_o hg hG hN hn _ _ 1 (Int.self_le_toNat _) (by omega) (by omega) rfl (fun c q => ?_)
  refine eW_iload_n 58 rfl rfl rfl ?_
  refine eW_ret_i rfl rfl (Or.inl rfl) ?_
  exact eRet_i q
theorem g_scoops_l {d N k z : Nat} {h : eHp} {g : Nat} {G : eGd} {P : eR → Prop} (hg : gG h g G) (hG : gOk G) (hN : g + 4 ≤ N)  : ∀ (m9 : Nat) (i a : Int), G.2.2.2.1 - i ≤ m9 → 0 ≤ i → i ≤ G.2.2.2.1 → a = gSum (fun j => gWays (gDig G) (G.1 j)) i.toNat → (∀ (i a : Int), a = gSum (fun j => gWays (gDig G) (G.1 j)) G.2.2.2.1.toNat → eWp eOx (eEv (d + 3)) eM_X0_scoopsInAll (26, [(0, .ref g), (1, vI a), (2, vI i)], [], N, h, k, z) P) → eWp eOx (eEv (d + 3)) eM_X0_scoopsInAll (4, [(0, .ref g), (1, vI a), (2, vI i)], [], N, h, k, z) P := by
  intro m9
  induction m9 with
  | zero =>
    intro i a hm q0 q1 q2 kk
    have hG9 := hG
    obtain ⟨g1, g2, g3, g4⟩ := hG9
    refine eW_iload_n 5 rfl rfl rfl ?_
    refine eW_aload_n 6 rfl rfl rfl ?_
    refine eW_getfield 9 rfl rfl (Nat.ble_eq_true_of_le (by omega)) rfl hg.1 rfl ⟨rfl, fun _ h9 => nomatch h9⟩ ?_
    refine eW_icmp_ge 12 rfl rfl (by unfold i32; omega) (by unfold i32; omega) (fun c1 => ?_) (fun c1 => ?_)
    · refine kk _ _ ?_
      rw [q2, show i = G.2.2.2.1 by omega]
    · refine eW_iload_n 13 rfl rfl rfl ?_
      refine eW_aload_n 14 rfl rfl rfl ?_
      refine eW_iload_n 15 rfl rfl rfl ?_
      refine eW_callV 18 [.ref g, vI i] [vI a] [vI (gWays (gDig G) (gIn G i)), vI a] rfl rfl rfl rfl (Nat.ble_eq_true_of_le (by omega)) hg.1 rfl rfl rfl (g_scoopsOf (d := d) hg hG hN (by unfold i32; omega)) rfl rfl ?_
      refine eW_iadd 19 rfl rfl ?_
      refine eW_istore_n 20 rfl rfl [(1, vI (a + (gWays (gDig G) (gIn G i)))), (0, .ref g), (2, vI i)] rfl rfl ?_
      refine eW_iinc 23 rfl rfl [(2, vI (i + 1)), (1, vI (a + (gWays (gDig G) (gIn G i)))), (0, .ref g)] rfl rfl rfl ?_
      refine eW_goto rfl ?_
      refine eW_re [(0, .ref g), (1, vI (a + (gWays (gDig G) (gIn G i)))), (2, vI (i + 1))] rfl rfl (List.forall_mem_cons.mpr ⟨rfl, List.forall_mem_cons.mpr ⟨rfl, List.forall_mem_cons.mpr ⟨rfl, fun _ h => absurd h List.not_mem_nil⟩⟩⟩) (List.forall_mem_cons.mpr ⟨Or.inl rfl, List.forall_mem_cons.mpr ⟨Or.inl rfl, List.forall_mem_cons.mpr ⟨Or.inl rfl, fun _ h => absurd h List.not_mem_nil⟩⟩⟩) ?_
      exact absurd hm (by omega)
  | succ m9 ih =>
    intro i a hm q0 q1 q2 kk
    have hG9 := hG
    obtain ⟨g1, g2, g3, g4⟩ := hG9
    refine eW_iload_n 5 rfl rfl rfl ?_
    refine eW_aload_n 6 rfl rfl rfl ?_
    refine eW_getfield 9 rfl rfl (Nat.ble_eq_true_of_le (by omega)) rfl hg.1 rfl ⟨rfl, fun _ h9 => nomatch h9⟩ ?_
    refine eW_icmp_ge 12 rfl rfl (by unfold i32; omega) (by unfold i32; omega) (fun c1 => ?_) (fun c1 => ?_)
    · refine kk _ _ ?_
      rw [q2, show i = G.2.2.2.1 by omega]
    · refine eW_iload_n 13 rfl rfl rfl ?_
      refine eW_aload_n 14 rfl rfl rfl ?_
      refine eW_iload_n 15 rfl rfl rfl ?_
      refine eW_callV 18 [.ref g, vI i] [vI a] [vI (gWays (gDig G) (gIn G i)), vI a] rfl rfl rfl rfl (Nat.ble_eq_true_of_le (by omega)) hg.1 rfl rfl rfl (g_scoopsOf (d := d) hg hG hN (by unfold i32; omega)) rfl rfl ?_
      refine eW_iadd 19 rfl rfl ?_
      refine eW_istore_n 20 rfl rfl [(1, vI (a + (gWays (gDig G) (gIn G i)))), (0, .ref g), (2, vI i)] rfl rfl ?_
      refine eW_iinc 23 rfl rfl [(2, vI (i + 1)), (1, vI (a + (gWays (gDig G) (gIn G i)))), (0, .ref g)] rfl rfl rfl ?_
      refine eW_goto rfl ?_
      refine eW_re [(0, .ref g), (1, vI (a + (gWays (gDig G) (gIn G i)))), (2, vI (i + 1))] rfl rfl (List.forall_mem_cons.mpr ⟨rfl, List.forall_mem_cons.mpr ⟨rfl, List.forall_mem_cons.mpr ⟨rfl, fun _ h => absurd h List.not_mem_nil⟩⟩⟩) (List.forall_mem_cons.mpr ⟨Or.inl rfl, List.forall_mem_cons.mpr ⟨Or.inl rfl, List.forall_mem_cons.mpr ⟨Or.inl rfl, fun _ h => absurd h List.not_mem_nil⟩⟩⟩) ?_
      refine ih (i + 1) _ (by omega) (by omega) (by omega) ?_ kk
      rw [q2, gIn_t q0 (by omega), gSum_succ q0]
theorem g_scoops {d N : Nat} {h : eHp} {g : Nat} {G : eGd} (hg : gG h g G) (hG : gOk G) (hN : g + 4 ≤ N)  : eSp (d + 4) eM_X0_scoopsInAll [.ref g] N h (eRet (some (vI (gSum (fun j => gWays (gDig G) (G.1 j)) G.2.2.2.1.toNat))) N h) := by
  refine eSp_of [(0, .ref g)] rfl rfl ?_
  have hG9 := hG
  obtain ⟨g1, g2, g3, g4⟩ := hG9
  refine eW_iconst 1 rfl rfl ?_
  refine eW_istore_n 2 rfl rfl [(1, vI 0), (0, .ref g)] rfl rfl ?_
  refine eW_iconst 3 rfl rfl ?_
  refine eW_istore_n 4 rfl rfl [(2, vI 0), (1, vI 0), (0, .ref g)] rfl rfl ?_
  refine eW_re [(0, .ref g), (1, vI 0), (2, vI 0)] rfl rfl (List.forall_mem_cons.mpr ⟨rfl, List.forall_mem_cons.mpr ⟨rfl, List.forall_mem_cons.mpr ⟨rfl, fun _ h => absurd h List.not_mem_nil⟩⟩⟩) (List.forall_mem_cons.mpr ⟨Or.inl rfl, List.forall_mem_cons.mpr ⟨Or.inl rfl, List.forall_mem_cons.mpr ⟨Or.inl rfl, fun _ h => absurd h List.not_mem_nil⟩⟩⟩) ?_
  refine g_scoops_l hg hG hN _ 0 0 (Int.self_le_toNat _) (Int.le_refl _) g1 rfl (fun i a q => ?_)
  refine eW_iload_n 27 rfl rfl rfl ?_
  refine eW_ret_i rfl rfl (Or.inl rfl) ?_
  exact eRet_i q
def eChg (v : Option Value) (N : Nat) (F : eHp → Prop) : eR → Prop := fun q => ∃ h', q = (.inl v, N, h', 0, 0) ∧ F h'
def gTo (h : eHp) (g : Nat) (G : eGd) : eHp → Prop := fun h' => gG h' g G ∧ ∀ i, (i < g ∨ g + 3 < i) → h' i = h i
theorem g_setDigit {d N : Nat} {h : eHp} {g : Nat} {G : eGd} (hg : gG h g G) (hN : g + 4 ≤ N) {t x : Int} (ht : 1 ≤ t ∧ t ≤ 6) : eSp (d + 1) eM_X0_setDigit [.ref g, vI t, vI x] N h (eChg none N (gTo h g (G.1, eUp G.2.1 (t - 1).toNat x, G.2.2))) := by
  refine eSp_of [(0, .ref g), (1, vI t), (2, vI x)] rfl rfl ?_
  refine eW_iload_n 1 rfl rfl rfl ?_
  refine eW_iconst 2 rfl rfl ?_
  refine eW_icmp_lt 5 rfl rfl (by unfold i32; omega) (by unfold i32; omega) (fun c1 => absurd c1 (by omega)) (fun c1 => ?_)
  refine eW_iload_n 6 rfl rfl rfl ?_
  refine eW_bipush 8 rfl rfl 6 rfl ?_
  refine eW_icmp_gt 11 rfl rfl (by unfold i32; omega) (by unfold i32; omega) (fun c2 => absurd c2 (by omega)) (fun c2 => ?_)
  refine eW_aload_n 12 rfl rfl rfl ?_
  refine eW_getfield 15 rfl rfl (Nat.ble_eq_true_of_le (by omega)) rfl (show h g = .inr (4, [.ref (g + 1), .ref (g + 2), .ref (g + 3), vI G.2.2.2.1, vI G.2.2.2.2.1, vI G.2.2.2.2.2.1, vI G.2.2.2.2.2.2.1, vI G.2.2.2.2.2.2.2]) from hg.1) rfl ⟨rfl, fun _ h9 => nomatch h9⟩ ?_
  refine eW_iload_n 16 rfl rfl rfl ?_
  refine eW_iconst 17 rfl rfl ?_
  refine eW_isub 18 rfl rfl ?_
  refine eW_iload_n 19 rfl rfl rfl ?_
  refine eW_iastore 20 rfl rfl (Nat.ble_eq_true_of_le (by omega)) (show h (g + 2) = .inl (0, 6, .inl (eIA G.2.1)) from hg.2.2.1) (by omega) (by omega) (by unfold i32; omega) rfl ?_
  intro h3 eh3 oh3
  have hgh3 : gG h3 g (G.1, eUp G.2.1 (t - 1).toNat x, G.2.2.1, G.2.2.2.1, G.2.2.2.2.1, G.2.2.2.2.2.1, G.2.2.2.2.2.2.1, G.2.2.2.2.2.2.2) := gG_d (G := (G.1, G.2.1, G.2.2.1, G.2.2.2.1, G.2.2.2.2.1, G.2.2.2.2.2.1, G.2.2.2.2.2.2.1, G.2.2.2.2.2.2.2)) hg eh3 oh3
  have uh3 : ∀ i, (i < g ∨ g + 3 < i) → h3 i = h i := fun i hi => (oh3 i (by omega)).trans ((fun _ _ => rfl) i hi)
  refine eW_ret rfl rfl ?_
  exact ⟨_, rfl, hgh3, uh3⟩
theorem g_addTally {d N : Nat} {h : eHp} {g : Nat} {G : eGd} (hg : gG h g G) (hN : g + 4 ≤ N) {m w x : Int} (h9 : 0 ≤ m ∧ m < 2 ∧ 0 ≤ w ∧ w < 4) : eSp (d + 2) eM_X0_addTally [.ref g, vI m, vI w, vI x] N h (eChg none N (gTo h g (G.1, G.2.1, eUp G.2.2.1 (m * 4 + w).toNat (G.2.2.1 (m * 4 + w).toNat + x), G.2.2.2))) := by
  refine eSp_of [(0, .ref g), (1, vI m), (2, vI w), (3, vI x)] rfl rfl ?_
  have hb := gIsT_c m w
  refine eW_iload_n 1 rfl rfl rfl ?_
  refine eW_iload_n 2 rfl rfl rfl ?_
  refine eW_callS 5 [vI m, vI w] [] [vI (eB01 (gIsT m w))] rfl rfl rfl (Or.inl rfl) rfl rfl rfl (g_isTally (d := d) (by unfold i32; omega) (by unfold i32; omega)) rfl rfl ?_
  refine eW_if_eq 8 rfl rfl (by unfold i32; omega) (fun c1 => absurd c1 (by omega)) (fun c1 => ?_)
  refine eW_aload_n 9 rfl rfl rfl ?_
  refine eW_getfield 12 rfl rfl (Nat.ble_eq_true_of_le (by omega)) rfl (show h g = .inr (4, [.ref (g + 1), .ref (g + 2), .ref (g + 3), vI G.2.2.2.1, vI G.2.2.2.2.1, vI G.2.2.2.2.2.1, vI G.2.2.2.2.2.2.1, vI G.2.2.2.2.2.2.2]) from hg.1) rfl ⟨rfl, fun _ h9 => nomatch h9⟩ ?_
  refine eW_iload_n 13 rfl rfl rfl ?_
  refine eW_iconst 14 rfl rfl ?_
  refine eW_imul 15 rfl rfl ?_
  refine eW_iload_n 16 rfl rfl rfl ?_
  refine eW_iadd 17 rfl rfl ?_
  refine eW_dup2 18 rfl rfl rfl ?_
  refine eW_iaload 19 rfl rfl (G.2.2.1 ((m * 4) + w).toNat) (Nat.ble_eq_true_of_le (by omega)) (show h (g + 3) = .inl (0, 8, .inl (eIA G.2.2.1)) from hg.2.2.2) (by omega) (by omega) (by unfold i32; omega) rfl ?_
  refine eW_iload_n 20 rfl rfl rfl ?_
  refine eW_iadd 21 rfl rfl ?_
  refine eW_iastore 22 rfl rfl (Nat.ble_eq_true_of_le (by omega)) (show h (g + 3) = .inl (0, 8, .inl (eIA G.2.2.1)) from hg.2.2.2) (by omega) (by omega) (by unfold i32; omega) rfl ?_
  intro h2 eh2 oh2
  have hgh2 : gG h2 g (G.1, G.2.1, eUp G.2.2.1 ((m * 4) + w).toNat ((G.2.2.1 ((m * 4) + w).toNat) + x), G.2.2.2.1, G.2.2.2.2.1, G.2.2.2.2.2.1, G.2.2.2.2.2.2.1, G.2.2.2.2.2.2.2) := gG_t (G := (G.1, G.2.1, G.2.2.1, G.2.2.2.1, G.2.2.2.2.1, G.2.2.2.2.2.1, G.2.2.2.2.2.2.1, G.2.2.2.2.2.2.2)) hg eh2 oh2
  have uh2 : ∀ i, (i < g ∨ g + 3 < i) → h2 i = h i := fun i hi => (oh2 i (by omega)).trans ((fun _ _ => rfl) i hi)
  refine eW_ret rfl rfl ?_
  exact ⟨_, rfl, hgh2, uh2⟩
theorem g_addPit {d N : Nat} {h : eHp} {g : Nat} {G : eGd} (hg : gG h g G) (hN : g + 4 ≤ N) {n : Int} (h9 : 0 ≤ G.2.2.2.1 ∧ G.2.2.2.1 < 40) : eSp (d + 1) eM_X0_addPit [.ref g, vI n] N h (eChg none N (gTo h g (eUp G.1 G.2.2.2.1.toNat n, G.2.1, G.2.2.1, G.2.2.2.1 + 1, G.2.2.2.2))) := by
  refine eSp_of [(0, .ref g), (1, vI n)] rfl rfl ?_
  refine eW_aload_n 1 rfl rfl rfl ?_
  refine eW_getfield 4 rfl rfl (Nat.ble_eq_true_of_le (by omega)) rfl (show h g = .inr (4, [.ref (g + 1), .ref (g + 2), .ref (g + 3), vI G.2.2.2.1, vI G.2.2.2.2.1, vI G.2.2.2.2.2.1, vI G.2.2.2.2.2.2.1, vI G.2.2.2.2.2.2.2]) from hg.1) rfl ⟨rfl, fun _ h9 => nomatch h9⟩ ?_
  refine eW_if_lt 7 rfl rfl (by unfold i32; omega) (fun c1 => absurd c1 (by omega)) (fun c1 => ?_)
  refine eW_aload_n 8 rfl rfl rfl ?_
  refine eW_getfield 11 rfl rfl (Nat.ble_eq_true_of_le (by omega)) rfl (show h g = .inr (4, [.ref (g + 1), .ref (g + 2), .ref (g + 3), vI G.2.2.2.1, vI G.2.2.2.2.1, vI G.2.2.2.2.2.1, vI G.2.2.2.2.2.2.1, vI G.2.2.2.2.2.2.2]) from hg.1) rfl ⟨rfl, fun _ h9 => nomatch h9⟩ ?_
  refine eW_bipush 13 rfl rfl 40 rfl ?_
  refine eW_icmp_ge 16 rfl rfl (by unfold i32; omega) (by unfold i32; omega) (fun c2 => absurd c2 (by omega)) (fun c2 => ?_)
  refine eW_aload_n 17 rfl rfl rfl ?_
  refine eW_getfield 20 rfl rfl (Nat.ble_eq_true_of_le (by omega)) rfl (show h g = .inr (4, [.ref (g + 1), .ref (g + 2), .ref (g + 3), vI G.2.2.2.1, vI G.2.2.2.2.1, vI G.2.2.2.2.2.1, vI G.2.2.2.2.2.2.1, vI G.2.2.2.2.2.2.2]) from hg.1) rfl ⟨rfl, fun _ h9 => nomatch h9⟩ ?_
  refine eW_aload_n 21 rfl rfl rfl ?_
  refine eW_getfield 24 rfl rfl (Nat.ble_eq_true_of_le (by omega)) rfl (show h g = .inr (4, [.ref (g + 1), .ref (g + 2), .ref (g + 3), vI G.2.2.2.1, vI G.2.2.2.2.1, vI G.2.2.2.2.2.1, vI G.2.2.2.2.2.2.1, vI G.2.2.2.2.2.2.2]) from hg.1) rfl ⟨rfl, fun _ h9 => nomatch h9⟩ ?_
  refine eW_iload_n 25 rfl rfl rfl ?_
  refine eW_iastore 26 rfl rfl (Nat.ble_eq_true_of_le (by omega)) (show h (g + 1) = .inl (0, 40, .inl (eIA G.1)) from hg.2.1) (by omega) (by omega) (by unfold i32; omega) rfl ?_
  intro h3 eh3 oh3
  have hgh3 : gG h3 g (eUp G.1 G.2.2.2.1.toNat n, G.2.1, G.2.2.1, G.2.2.2.1, G.2.2.2.2.1, G.2.2.2.2.2.1, G.2.2.2.2.2.2.1, G.2.2.2.2.2.2.2) := gG_m (G := (G.1, G.2.1, G.2.2.1, G.2.2.2.1, G.2.2.2.2.1, G.2.2.2.2.2.1, G.2.2.2.2.2.2.1, G.2.2.2.2.2.2.2)) hg eh3 oh3
  have uh3 : ∀ i, (i < g ∨ g + 3 < i) → h3 i = h i := fun i hi => (oh3 i (by omega)).trans ((fun _ _ => rfl) i hi)
  refine eW_aload_n 27 rfl rfl rfl ?_
  refine eW_dup 28 rfl rfl rfl ?_
  refine eW_getfield 31 rfl rfl (Nat.ble_eq_true_of_le (by omega)) rfl (show h3 g = .inr (4, [.ref (g + 1), .ref (g + 2), .ref (g + 3), vI G.2.2.2.1, vI G.2.2.2.2.1, vI G.2.2.2.2.2.1, vI G.2.2.2.2.2.2.1, vI G.2.2.2.2.2.2.2]) from hgh3.1) rfl ⟨rfl, fun _ h9 => nomatch h9⟩ ?_
  refine eW_iconst 32 rfl rfl ?_
  refine eW_iadd 33 rfl rfl ?_
  refine eW_putfield 36 [.ref (g + 1), .ref (g + 2), .ref (g + 3), vI (G.2.2.2.1 + 1), vI G.2.2.2.2.1, vI G.2.2.2.2.2.1, vI G.2.2.2.2.2.2.1, vI G.2.2.2.2.2.2.2] rfl rfl (Nat.ble_eq_true_of_le (by omega)) rfl (show h3 g = .inr (4, [.ref (g + 1), .ref (g + 2), .ref (g + 3), vI G.2.2.2.1, vI G.2.2.2.2.1, vI G.2.2.2.2.2.1, vI G.2.2.2.2.2.2.1, vI G.2.2.2.2.2.2.2]) from hgh3.1) rfl rfl ?_
  intro h4 eh4 oh4
  have hgh4 : gG h4 g (eUp G.1 G.2.2.2.1.toNat n, G.2.1, G.2.2.1, G.2.2.2.1 + 1, G.2.2.2.2.1, G.2.2.2.2.2.1, G.2.2.2.2.2.2.1, G.2.2.2.2.2.2.2) := gG_o (G := (eUp G.1 G.2.2.2.1.toNat n, G.2.1, G.2.2.1, G.2.2.2.1, G.2.2.2.2.1, G.2.2.2.2.2.1, G.2.2.2.2.2.2.1, G.2.2.2.2.2.2.2)) hgh3 eh4 oh4 rfl rfl rfl
  have uh4 : ∀ i, (i < g ∨ g + 3 < i) → h4 i = h i := fun i hi => (oh4 i (by omega)).trans (uh3 i hi)
  refine eW_ret rfl rfl ?_
  exact ⟨_, rfl, hgh4, uh4⟩
theorem g_bringPit {d N : Nat} {h : eHp} {g : Nat} {G : eGd} (hg : gG h g G) (hN : g + 4 ≤ N) {n : Int} (h9 : 0 ≤ G.2.2.2.1 ∧ G.2.2.2.1 < 40) : eSp (d + 2) eM_X0_bringPit [.ref g, vI n] N h (eChg none N (gTo h g (eUp G.1 G.2.2.2.1.toNat n, G.2.1, G.2.2.1, G.2.2.2.1 + 1, G.2.2.2.2.1, G.2.2.2.2.2.1 + n, G.2.2.2.2.2.2))) := by
  refine eSp_of [(0, .ref g), (1, vI n)] rfl rfl ?_
  refine eW_aload_n 1 rfl rfl rfl ?_
  refine eW_dup 2 rfl rfl rfl ?_
  refine eW_getfield 5 rfl rfl (Nat.ble_eq_true_of_le (by omega)) rfl (show h g = .inr (4, [.ref (g + 1), .ref (g + 2), .ref (g + 3), vI G.2.2.2.1, vI G.2.2.2.2.1, vI G.2.2.2.2.2.1, vI G.2.2.2.2.2.2.1, vI G.2.2.2.2.2.2.2]) from hg.1) rfl ⟨rfl, fun _ h9 => nomatch h9⟩ ?_
  refine eW_iload_n 6 rfl rfl rfl ?_
  refine eW_iadd 7 rfl rfl ?_
  refine eW_putfield 10 [.ref (g + 1), .ref (g + 2), .ref (g + 3), vI G.2.2.2.1, vI G.2.2.2.2.1, vI (G.2.2.2.2.2.1 + n), vI G.2.2.2.2.2.2.1, vI G.2.2.2.2.2.2.2] rfl rfl (Nat.ble_eq_true_of_le (by omega)) rfl (show h g = .inr (4, [.ref (g + 1), .ref (g + 2), .ref (g + 3), vI G.2.2.2.1, vI G.2.2.2.2.1, vI G.2.2.2.2.2.1, vI G.2.2.2.2.2.2.1, vI G.2.2.2.2.2.2.2]) from hg.1) rfl rfl ?_
  intro h1 eh1 oh1
  have hgh1 : gG h1 g (G.1, G.2.1, G.2.2.1, G.2.2.2.1, G.2.2.2.2.1, G.2.2.2.2.2.1 + n, G.2.2.2.2.2.2.1, G.2.2.2.2.2.2.2) := gG_o (G := (G.1, G.2.1, G.2.2.1, G.2.2.2.1, G.2.2.2.2.1, G.2.2.2.2.2.1, G.2.2.2.2.2.2.1, G.2.2.2.2.2.2.2)) hg eh1 oh1 rfl rfl rfl
  have uh1 : ∀ i, (i < g ∨ g + 3 < i) → h1 i = h i := fun i hi => (oh1 i (by omega)).trans ((fun _ _ => rfl) i hi)
  refine eW_aload_n 11 rfl rfl rfl ?_
  refine eW_iload_n 12 rfl rfl rfl ?_
  refine eW_callVH 15 [.ref g, vI n] [] [] rfl rfl rfl rfl (Nat.ble_eq_true_of_le (by omega)) (show h1 g = .inr (4, [.ref (g + 1), .ref (g + 2), .ref (g + 3), vI G.2.2.2.1, vI G.2.2.2.2.1, vI (G.2.2.2.2.2.1 + n), vI G.2.2.2.2.2.2.1, vI G.2.2.2.2.2.2.2]) from hgh1.1) rfl rfl rfl (g_addPit (d := d) (G := (G.1, G.2.1, G.2.2.1, G.2.2.2.1, G.2.2.2.2.1, G.2.2.2.2.2.1 + n, G.2.2.2.2.2.2.1, G.2.2.2.2.2.2.2)) hgh1 hN (by assumption)) rfl rfl ?_
  intro h2 fh2
  have hgh2 : gG h2 g (eUp G.1 G.2.2.2.1.toNat n, G.2.1, G.2.2.1, G.2.2.2.1 + 1, G.2.2.2.2.1, G.2.2.2.2.2.1 + n, G.2.2.2.2.2.2.1, G.2.2.2.2.2.2.2) := fh2.1
  have uh2 : ∀ i, (i < g ∨ g + 3 < i) → h2 i = h i := fun i hi => (fh2.2 i hi).trans (uh1 i hi)
  refine eW_ret rfl rfl ?_
  exact ⟨_, rfl, hgh2, uh2⟩
def gDel (F : Nat → Int) (p b : Nat) : Nat → Int := fun j => match decide (p ≤ j ∧ j + 1 < b) with | true => F (j + 1) | false => F j
theorem gDel_step (F : Nat → Int) {p b : Int} (hp : 0 ≤ p) (h : p + 1 ≤ b) : eUp (gDel F p.toNat b.toNat) (b - 1).toNat (gDel F p.toNat b.toNat b.toNat) = gDel F p.toNat (b + 1).toNat := by
  funext j
  unfold eUp
  by_cases h1 : j = (b - 1).toNat
  · rw [if_pos h1]
    unfold gDel
    rw [decide_eq_false (by omega : ¬ (p.toNat ≤ b.toNat ∧ b.toNat + 1 < b.toNat)), decide_eq_true (by omega : p.toNat ≤ j ∧ j + 1 < (b + 1).toNat)]
    show F b.toNat = F (j + 1)
    rw [show j + 1 = b.toNat by omega]
  · rw [if_neg h1]
    unfold gDel
    by_cases h2 : p.toNat ≤ j ∧ j + 1 < b.toNat
    · rw [decide_eq_true h2, decide_eq_true (by omega : p.toNat ≤ j ∧ j + 1 < (b + 1).toNat)]
    · rw [decide_eq_false h2, decide_eq_false (by omega : ¬ (p.toNat ≤ j ∧ j + 1 < (b + 1).toNat))]
theorem gDel_0 (F : Nat → Int) {p b : Nat} (h : b ≤ p + 1) : gDel F p b = F := by
  funext j
  unfold gDel
  rw [decide_eq_false (by omega)]
theorem g_removePit_l {d N k z : Nat} {h0 : eHp} {g : Nat} {G : eGd} {P : eR → Prop} (hb : G.2.2.2.1 ≤ 40) (hN : g + 4 ≤ N) {p : Int} (hp : 0 ≤ p ∧ p < G.2.2.2.1) : ∀ (m9 : Nat) (b : Int) (h : eHp), G.2.2.2.1 - b ≤ m9 → p + 1 ≤ b → b ≤ G.2.2.2.1 → gG h g (gDel G.1 p.toNat b.toNat, G.2) → (∀ i, (i < g ∨ g + 3 < i) → h i = h0 i) → (∀ (h : eHp), gG h g (gDel G.1 p.toNat G.2.2.2.1.toNat, G.2) → (∀ i, (i < g ∨ g + 3 < i) → h i = h0 i) → eWp eOx (eEv (d + 0)) eM_X0_removePit (42, [(0, .ref g), (1, vI p)], [], N, h, k, z) P) → eWp eOx (eEv (d + 0)) eM_X0_removePit (4, [(0, .ref g), (1, vI p), (2, vI b)], [], N, h, k, z) P := by
  intro m9
  induction m9 with
  | zero =>
    intro b h hm q0 q1 q2 q3 kk
    refine eW_iload_n 5 rfl rfl rfl ?_
    refine eW_if_le 8 rfl rfl (by unfold i32; omega) (fun c1 => ?_) (fun c1 => ?_)
    · refine eW_re [(0, .ref g), (1, vI p)] rfl rfl (List.forall_mem_cons.mpr ⟨rfl, List.forall_mem_cons.mpr ⟨rfl, fun _ h => absurd h List.not_mem_nil⟩⟩) (List.forall_mem_cons.mpr ⟨Or.inl rfl, List.forall_mem_cons.mpr ⟨Or.inl rfl, List.forall_mem_cons.mpr ⟨Or.inr ⟨_, rfl⟩, fun _ h => absurd h List.not_mem_nil⟩⟩⟩) ?_
      refine kk h ?_ q3
      rw [show G.2.2.2.1 = b by omega]; exact q2
    · refine eW_iload_n 9 rfl rfl rfl ?_
      refine eW_aload_n 10 rfl rfl rfl ?_
      refine eW_getfield 13 rfl rfl (Nat.ble_eq_true_of_le (by omega)) rfl (show h g = .inr (4, [.ref (g + 1), .ref (g + 2), .ref (g + 3), vI G.2.2.2.1, vI G.2.2.2.2.1, vI G.2.2.2.2.2.1, vI G.2.2.2.2.2.2.1, vI G.2.2.2.2.2.2.2]) from q2.1) rfl ⟨rfl, fun _ h9 => nomatch h9⟩ ?_
      refine eW_icmp_ge 16 rfl rfl (by unfold i32; omega) (by unfold i32; omega) (fun c2 => ?_) (fun c2 => ?_)
      · refine eW_re [(0, .ref g), (1, vI p)] rfl rfl (List.forall_mem_cons.mpr ⟨rfl, List.forall_mem_cons.mpr ⟨rfl, fun _ h => absurd h List.not_mem_nil⟩⟩) (List.forall_mem_cons.mpr ⟨Or.inl rfl, List.forall_mem_cons.mpr ⟨Or.inl rfl, List.forall_mem_cons.mpr ⟨Or.inr ⟨_, rfl⟩, fun _ h => absurd h List.not_mem_nil⟩⟩⟩) ?_
        refine kk h ?_ q3
        rw [show G.2.2.2.1 = b by omega]; exact q2
      · refine eW_iload_n 17 rfl rfl rfl ?_
        refine eW_bipush 19 rfl rfl 40 rfl ?_
        refine eW_icmp_ge 22 rfl rfl (by unfold i32; omega) (by unfold i32; omega) (fun c3 => ?_) (fun c3 => ?_)
        · refine eW_re [(0, .ref g), (1, vI p)] rfl rfl (List.forall_mem_cons.mpr ⟨rfl, List.forall_mem_cons.mpr ⟨rfl, fun _ h => absurd h List.not_mem_nil⟩⟩) (List.forall_mem_cons.mpr ⟨Or.inl rfl, List.forall_mem_cons.mpr ⟨Or.inl rfl, List.forall_mem_cons.mpr ⟨Or.inr ⟨_, rfl⟩, fun _ h => absurd h List.not_mem_nil⟩⟩⟩) ?_
          refine kk h ?_ q3
          rw [show G.2.2.2.1 = b by omega]; exact q2
        · refine eW_aload_n 23 rfl rfl rfl ?_
          refine eW_getfield 26 rfl rfl (Nat.ble_eq_true_of_le (by omega)) rfl (show h g = .inr (4, [.ref (g + 1), .ref (g + 2), .ref (g + 3), vI G.2.2.2.1, vI G.2.2.2.2.1, vI G.2.2.2.2.2.1, vI G.2.2.2.2.2.2.1, vI G.2.2.2.2.2.2.2]) from q2.1) rfl ⟨rfl, fun _ h9 => nomatch h9⟩ ?_
          refine eW_iload_n 27 rfl rfl rfl ?_
          refine eW_iconst 28 rfl rfl ?_
          refine eW_isub 29 rfl rfl ?_
          refine eW_aload_n 30 rfl rfl rfl ?_
          refine eW_getfield 33 rfl rfl (Nat.ble_eq_true_of_le (by omega)) rfl (show h g = .inr (4, [.ref (g + 1), .ref (g + 2), .ref (g + 3), vI G.2.2.2.1, vI G.2.2.2.2.1, vI G.2.2.2.2.2.1, vI G.2.2.2.2.2.2.1, vI G.2.2.2.2.2.2.2]) from q2.1) rfl ⟨rfl, fun _ h9 => nomatch h9⟩ ?_
          refine eW_iload_n 34 rfl rfl rfl ?_
          refine eW_iaload 35 rfl rfl ((gDel G.1 p.toNat b.toNat) b.toNat) (Nat.ble_eq_true_of_le (by omega)) (show h (g + 1) = .inl (0, 40, .inl (eIA (gDel G.1 p.toNat b.toNat))) from q2.2.1) (by omega) (by omega) (by unfold i32; omega) rfl ?_
          refine eW_iastore 36 rfl rfl (Nat.ble_eq_true_of_le (by omega)) (show h (g + 1) = .inl (0, 40, .inl (eIA (gDel G.1 p.toNat b.toNat))) from q2.2.1) (by omega) (by omega) (by unfold i32; omega) rfl ?_
          intro h4 eh4 oh4
          have hgh4 : gG h4 g (eUp (gDel G.1 p.toNat b.toNat) (b - 1).toNat ((gDel G.1 p.toNat b.toNat) b.toNat), G.2.1, G.2.2.1, G.2.2.2.1, G.2.2.2.2.1, G.2.2.2.2.2.1, G.2.2.2.2.2.2.1, G.2.2.2.2.2.2.2) := gG_m (G := (gDel G.1 p.toNat b.toNat, G.2.1, G.2.2.1, G.2.2.2.1, G.2.2.2.2.1, G.2.2.2.2.2.1, G.2.2.2.2.2.2.1, G.2.2.2.2.2.2.2)) q2 eh4 oh4
          have uh4 : ∀ i, (i < g ∨ g + 3 < i) → h4 i = h0 i := fun i hi => (oh4 i (by omega)).trans (q3 i hi)
          refine eW_iinc 39 rfl rfl [(2, vI (b + 1)), (0, .ref g), (1, vI p)] rfl rfl rfl ?_
          refine eW_goto rfl ?_
          refine eW_re [(0, .ref g), (1, vI p), (2, vI (b + 1))] rfl rfl (List.forall_mem_cons.mpr ⟨rfl, List.forall_mem_cons.mpr ⟨rfl, List.forall_mem_cons.mpr ⟨rfl, fun _ h => absurd h List.not_mem_nil⟩⟩⟩) (List.forall_mem_cons.mpr ⟨Or.inl rfl, List.forall_mem_cons.mpr ⟨Or.inl rfl, List.forall_mem_cons.mpr ⟨Or.inl rfl, fun _ h => absurd h List.not_mem_nil⟩⟩⟩) ?_
          exact absurd hm (by omega)
  | succ m9 ih =>
    intro b h hm q0 q1 q2 q3 kk
    refine eW_iload_n 5 rfl rfl rfl ?_
    refine eW_if_le 8 rfl rfl (by unfold i32; omega) (fun c1 => ?_) (fun c1 => ?_)
    · refine eW_re [(0, .ref g), (1, vI p)] rfl rfl (List.forall_mem_cons.mpr ⟨rfl, List.forall_mem_cons.mpr ⟨rfl, fun _ h => absurd h List.not_mem_nil⟩⟩) (List.forall_mem_cons.mpr ⟨Or.inl rfl, List.forall_mem_cons.mpr ⟨Or.inl rfl, List.forall_mem_cons.mpr ⟨Or.inr ⟨_, rfl⟩, fun _ h => absurd h List.not_mem_nil⟩⟩⟩) ?_
      refine kk h ?_ q3
      rw [show G.2.2.2.1 = b by omega]; exact q2
    · refine eW_iload_n 9 rfl rfl rfl ?_
      refine eW_aload_n 10 rfl rfl rfl ?_
      refine eW_getfield 13 rfl rfl (Nat.ble_eq_true_of_le (by omega)) rfl (show h g = .inr (4, [.ref (g + 1), .ref (g + 2), .ref (g + 3), vI G.2.2.2.1, vI G.2.2.2.2.1, vI G.2.2.2.2.2.1, vI G.2.2.2.2.2.2.1, vI G.2.2.2.2.2.2.2]) from q2.1) rfl ⟨rfl, fun _ h9 => nomatch h9⟩ ?_
      refine eW_icmp_ge 16 rfl rfl (by unfold i32; omega) (by unfold i32; omega) (fun c2 => ?_) (fun c2 => ?_)
      · refine eW_re [(0, .ref g), (1, vI p)] rfl rfl (List.forall_mem_cons.mpr ⟨rfl, List.forall_mem_cons.mpr ⟨rfl, fun _ h => absurd h List.not_mem_nil⟩⟩) (List.forall_mem_cons.mpr ⟨Or.inl rfl, List.forall_mem_cons.mpr ⟨Or.inl rfl, List.forall_mem_cons.mpr ⟨Or.inr ⟨_, rfl⟩, fun _ h => absurd h List.not_mem_nil⟩⟩⟩) ?_
        refine kk h ?_ q3
        rw [show G.2.2.2.1 = b by omega]; exact q2
      · refine eW_iload_n 17 rfl rfl rfl ?_
        refine eW_bipush 19 rfl rfl 40 rfl ?_
        refine eW_icmp_ge 22 rfl rfl (by unfold i32; omega) (by unfold i32; omega) (fun c3 => ?_) (fun c3 => ?_)
        · refine eW_re [(0, .ref g), (1, vI p)] rfl rfl (List.forall_mem_cons.mpr ⟨rfl, List.forall_mem_cons.mpr ⟨rfl, fun _ h => absurd h List.not_mem_nil⟩⟩) (List.forall_mem_cons.mpr ⟨Or.inl rfl, List.forall_mem_cons.mpr ⟨Or.inl rfl, List.forall_mem_cons.mpr ⟨Or.inr ⟨_, rfl⟩, fun _ h => absurd h List.not_mem_nil⟩⟩⟩) ?_
          refine kk h ?_ q3
          rw [show G.2.2.2.1 = b by omega]; exact q2
        · refine eW_aload_n 23 rfl rfl rfl ?_
          refine eW_getfield 26 rfl rfl (Nat.ble_eq_true_of_le (by omega)) rfl (show h g = .inr (4, [.ref (g + 1), .ref (g + 2), .ref (g + 3), vI G.2.2.2.1, vI G.2.2.2.2.1, vI G.2.2.2.2.2.1, vI G.2.2.2.2.2.2.1, vI G.2.2.2.2.2.2.2]) from q2.1) rfl ⟨rfl, fun _ h9 => nomatch h9⟩ ?_
          refine eW_iload_n 27 rfl rfl rfl ?_
          refine eW_iconst 28 rfl rfl ?_
          refine eW_isub 29 rfl rfl ?_
          refine eW_aload_n 30 rfl rfl rfl ?_
          refine eW_getfield 33 rfl rfl (Nat.ble_eq_true_of_le (by omega)) rfl (show h g = .inr (4, [.ref (g + 1), .ref (g + 2), .ref (g + 3), vI G.2.2.2.1, vI G.2.2.2.2.1, vI G.2.2.2.2.2.1, vI G.2.2.2.2.2.2.1, vI G.2.2.2.2.2.2.2]) from q2.1) rfl ⟨rfl, fun _ h9 => nomatch h9⟩ ?_
          refine eW_iload_n 34 rfl rfl rfl ?_
          refine eW_iaload 35 rfl rfl ((gDel G.1 p.toNat b.toNat) b.toNat) (Nat.ble_eq_true_of_le (by omega)) (show h (g + 1) = .inl (0, 40, .inl (eIA (gDel G.1 p.toNat b.toNat))) from q2.2.1) (by omega) (by omega) (by unfold i32; omega) rfl ?_
          refine eW_iastore 36 rfl rfl (Nat.ble_eq_true_of_le (by omega)) (show h (g + 1) = .inl (0, 40, .inl (eIA (gDel G.1 p.toNat b.toNat))) from q2.2.1) (by omega) (by omega) (by unfold i32; omega) rfl ?_
          intro h4 eh4 oh4
          have hgh4 : gG h4 g (eUp (gDel G.1 p.toNat b.toNat) (b - 1).toNat ((gDel G.1 p.toNat b.toNat) b.toNat), G.2.1, G.2.2.1, G.2.2.2.1, G.2.2.2.2.1, G.2.2.2.2.2.1, G.2.2.2.2.2.2.1, G.2.2.2.2.2.2.2) := gG_m (G := (gDel G.1 p.toNat b.toNat, G.2.1, G.2.2.1, G.2.2.2.1, G.2.2.2.2.1, G.2.2.2.2.2.1, G.2.2.2.2.2.2.1, G.2.2.2.2.2.2.2)) q2 eh4 oh4
          have uh4 : ∀ i, (i < g ∨ g + 3 < i) → h4 i = h0 i := fun i hi => (oh4 i (by omega)).trans (q3 i hi)
          refine eW_iinc 39 rfl rfl [(2, vI (b + 1)), (0, .ref g), (1, vI p)] rfl rfl rfl ?_
          refine eW_goto rfl ?_
          refine eW_re [(0, .ref g), (1, vI p), (2, vI (b + 1))] rfl rfl (List.forall_mem_cons.mpr ⟨rfl, List.forall_mem_cons.mpr ⟨rfl, List.forall_mem_cons.mpr ⟨rfl, fun _ h => absurd h List.not_mem_nil⟩⟩⟩) (List.forall_mem_cons.mpr ⟨Or.inl rfl, List.forall_mem_cons.mpr ⟨Or.inl rfl, List.forall_mem_cons.mpr ⟨Or.inl rfl, fun _ h => absurd h List.not_mem_nil⟩⟩⟩) ?_
          refine ih (b + 1) h4 (by omega) (by omega) (by omega) ?_ uh4 kk
          rw [← gDel_step G.1 hp.1 q0]; exact hgh4
theorem g_removePit {d N : Nat} {h : eHp} {g : Nat} {G : eGd} (hg : gG h g G) (hN : g + 4 ≤ N) {p : Int} (hp : 0 ≤ p ∧ p < G.2.2.2.1) (hb : G.2.2.2.1 ≤ 40) : eSp (d + 1) eM_X0_removePit [.ref g, vI p] N h (eChg none N (gTo h g (gDel G.1 p.toNat G.2.2.2.1.toNat, G.2.1, G.2.2.1, G.2.2.2.1 - 1, G.2.2.2.2))) := by
  refine eSp_of [(0, .ref g), (1, vI p)] rfl rfl ?_
  refine eW_iload_n 1 rfl rfl rfl ?_
  refine eW_iconst 2 rfl rfl ?_
  refine eW_iadd 3 rfl rfl ?_
  refine eW_istore_n 4 rfl rfl [(2, vI (p + 1)), (0, .ref g), (1, vI p)] rfl rfl ?_
  refine eW_re [(0, .ref g), (1, vI p), (2, vI (p + 1))] rfl rfl (List.forall_mem_cons.mpr ⟨rfl, List.forall_mem_cons.mpr ⟨rfl, List.forall_mem_cons.mpr ⟨rfl, fun _ h => absurd h List.not_mem_nil⟩⟩⟩) (List.forall_mem_cons.mpr ⟨Or.inl rfl, List.forall_mem_cons.mpr ⟨Or.inl rfl, List.forall_mem_cons.mpr ⟨Or.inl rfl, fun _ h => absurd h List.not_mem_nil⟩⟩⟩) ?_
  refine g_removePit_l hb hN hp _ (p + 1) h (Int.self_le_toNat _) (by omega) (by omega) (by rw [gDel_0 _ (by omega)]; exact hg) (fun _ _ => rfl) (fun h1 q1h1 q2h1 => ?_)
  refine eW_aload_n 43 rfl rfl rfl ?_
  refine eW_dup 44 rfl rfl rfl ?_
  refine eW_getfield 47 rfl rfl (Nat.ble_eq_true_of_le (by omega)) rfl (show h1 g = .inr (4, [.ref (g + 1), .ref (g + 2), .ref (g + 3), vI G.2.2.2.1, vI G.2.2.2.2.1, vI G.2.2.2.2.2.1, vI G.2.2.2.2.2.2.1, vI G.2.2.2.2.2.2.2]) from q1h1.1) rfl ⟨rfl, fun _ h9 => nomatch h9⟩ ?_
  refine eW_iconst 48 rfl rfl ?_
  refine eW_isub 49 rfl rfl ?_
  refine eW_putfield 52 [.ref (g + 1), .ref (g + 2), .ref (g + 3), vI (G.2.2.2.1 - 1), vI G.2.2.2.2.1, vI G.2.2.2.2.2.1, vI G.2.2.2.2.2.2.1, vI G.2.2.2.2.2.2.2] rfl rfl (Nat.ble_eq_true_of_le (by omega)) rfl (show h1 g = .inr (4, [.ref (g + 1), .ref (g + 2), .ref (g + 3), vI G.2.2.2.1, vI G.2.2.2.2.1, vI G.2.2.2.2.2.1, vI G.2.2.2.2.2.2.1, vI G.2.2.2.2.2.2.2]) from q1h1.1) rfl rfl ?_
  intro h2 eh2 oh2
  have hgh2 : gG h2 g (gDel G.1 p.toNat G.2.2.2.1.toNat, G.2.1, G.2.2.1, G.2.2.2.1 - 1, G.2.2.2.2.1, G.2.2.2.2.2.1, G.2.2.2.2.2.2.1, G.2.2.2.2.2.2.2) := gG_o (G := (gDel G.1 p.toNat G.2.2.2.1.toNat, G.2.1, G.2.2.1, G.2.2.2.1, G.2.2.2.2.1, G.2.2.2.2.2.1, G.2.2.2.2.2.2.1, G.2.2.2.2.2.2.2)) q1h1 eh2 oh2 rfl rfl rfl
  have uh2 : ∀ i, (i < g ∨ g + 3 < i) → h2 i = h i := fun i hi => (oh2 i (by omega)).trans (q2h1 i hi)
  refine eW_ret rfl rfl ?_
  exact ⟨_, rfl, hgh2, uh2⟩
theorem g_become {d N : Nat} {h : eHp} {g : Nat} {G : eGd} (hg : gG h g G) (hN : g + 4 ≤ N) {o : Nat} {O : eGd} (ho : gG h o O) (hN2 : o + 4 ≤ N) (hd : g + 3 < o ∨ o + 3 < g) : eSp (d + 1) eM_X0_become [.ref g, .ref o] N h (eChg none N (gTo h g (eCp O.1 G.1 0 0 40, eCp O.2.1 G.2.1 0 0 6, eCp O.2.2.1 G.2.2.1 0 0 8, O.2.2.2))) := by
  refine eSp_of [(0, .ref g), (1, .ref o)] rfl rfl ?_
  refine eW_aload_n 1 rfl rfl rfl ?_
  refine eW_getfield 4 rfl rfl (Nat.ble_eq_true_of_le (by omega)) rfl (((fun _ _ => rfl) _ (by omega)).trans ho.1) rfl ⟨rfl, fun _ h9 => nomatch h9⟩ ?_
  refine eW_iconst 5 rfl rfl ?_
  refine eW_aload_n 6 rfl rfl rfl ?_
  refine eW_getfield 9 rfl rfl (Nat.ble_eq_true_of_le (by omega)) rfl (show h g = .inr (4, [.ref (g + 1), .ref (g + 2), .ref (g + 3), vI G.2.2.2.1, vI G.2.2.2.2.1, vI G.2.2.2.2.2.1, vI G.2.2.2.2.2.2.1, vI G.2.2.2.2.2.2.2]) from hg.1) rfl ⟨rfl, fun _ h9 => nomatch h9⟩ ?_
  refine eW_iconst 10 rfl rfl ?_
  refine eW_bipush 12 rfl rfl 40 rfl ?_
  refine eW_copy 15 rfl rfl rfl (Nat.ble_eq_true_of_le (by omega)) (Nat.ble_eq_true_of_le (by omega)) rfl (show h (g + 1) = .inl (0, 40, .inl (eIA G.1)) from hg.2.1) (((fun _ _ => rfl) _ (by omega)).trans ho.2.1) (by unfold i32; omega) (by unfold i32; omega) (by unfold i32; omega) (by omega) (by omega) ?_
  intro h1 eh1 oh1
  have hgh1 : gG h1 g (eCp O.1 G.1 0 0 40, G.2.1, G.2.2.1, G.2.2.2.1, G.2.2.2.2.1, G.2.2.2.2.2.1, G.2.2.2.2.2.2.1, G.2.2.2.2.2.2.2) := gG_m (G := (G.1, G.2.1, G.2.2.1, G.2.2.2.1, G.2.2.2.2.1, G.2.2.2.2.2.1, G.2.2.2.2.2.2.1, G.2.2.2.2.2.2.2)) hg eh1 oh1
  have uh1 : ∀ i, (i < g ∨ g + 3 < i) → h1 i = h i := fun i hi => (oh1 i (by omega)).trans ((fun _ _ => rfl) i hi)
  refine eW_aload_n 16 rfl rfl rfl ?_
  refine eW_getfield 19 rfl rfl (Nat.ble_eq_true_of_le (by omega)) rfl ((uh1 _ (by omega)).trans ho.1) rfl ⟨rfl, fun _ h9 => nomatch h9⟩ ?_
  refine eW_iconst 20 rfl rfl ?_
  refine eW_aload_n 21 rfl rfl rfl ?_
  refine eW_getfield 24 rfl rfl (Nat.ble_eq_true_of_le (by omega)) rfl (show h1 g = .inr (4, [.ref (g + 1), .ref (g + 2), .ref (g + 3), vI G.2.2.2.1, vI G.2.2.2.2.1, vI G.2.2.2.2.2.1, vI G.2.2.2.2.2.2.1, vI G.2.2.2.2.2.2.2]) from hgh1.1) rfl ⟨rfl, fun _ h9 => nomatch h9⟩ ?_
  refine eW_iconst 25 rfl rfl ?_
  refine eW_bipush 27 rfl rfl 6 rfl ?_
  refine eW_copy 30 rfl rfl rfl (Nat.ble_eq_true_of_le (by omega)) (Nat.ble_eq_true_of_le (by omega)) rfl (show h1 (g + 2) = .inl (0, 6, .inl (eIA G.2.1)) from hgh1.2.2.1) ((uh1 _ (by omega)).trans ho.2.2.1) (by unfold i32; omega) (by unfold i32; omega) (by unfold i32; omega) (by omega) (by omega) ?_
  intro h2 eh2 oh2
  have hgh2 : gG h2 g (eCp O.1 G.1 0 0 40, eCp O.2.1 G.2.1 0 0 6, G.2.2.1, G.2.2.2.1, G.2.2.2.2.1, G.2.2.2.2.2.1, G.2.2.2.2.2.2.1, G.2.2.2.2.2.2.2) := gG_d (G := (eCp O.1 G.1 0 0 40, G.2.1, G.2.2.1, G.2.2.2.1, G.2.2.2.2.1, G.2.2.2.2.2.1, G.2.2.2.2.2.2.1, G.2.2.2.2.2.2.2)) hgh1 eh2 oh2
  have uh2 : ∀ i, (i < g ∨ g + 3 < i) → h2 i = h i := fun i hi => (oh2 i (by omega)).trans (uh1 i hi)
  refine eW_aload_n 31 rfl rfl rfl ?_
  refine eW_getfield 34 rfl rfl (Nat.ble_eq_true_of_le (by omega)) rfl ((uh2 _ (by omega)).trans ho.1) rfl ⟨rfl, fun _ h9 => nomatch h9⟩ ?_
  refine eW_iconst 35 rfl rfl ?_
  refine eW_aload_n 36 rfl rfl rfl ?_
  refine eW_getfield 39 rfl rfl (Nat.ble_eq_true_of_le (by omega)) rfl (show h2 g = .inr (4, [.ref (g + 1), .ref (g + 2), .ref (g + 3), vI G.2.2.2.1, vI G.2.2.2.2.1, vI G.2.2.2.2.2.1, vI G.2.2.2.2.2.2.1, vI G.2.2.2.2.2.2.2]) from hgh2.1) rfl ⟨rfl, fun _ h9 => nomatch h9⟩ ?_
  refine eW_iconst 40 rfl rfl ?_
  refine eW_bipush 42 rfl rfl 8 rfl ?_
  refine eW_copy 45 rfl rfl rfl (Nat.ble_eq_true_of_le (by omega)) (Nat.ble_eq_true_of_le (by omega)) rfl (show h2 (g + 3) = .inl (0, 8, .inl (eIA G.2.2.1)) from hgh2.2.2.2) ((uh2 _ (by omega)).trans ho.2.2.2) (by unfold i32; omega) (by unfold i32; omega) (by unfold i32; omega) (by omega) (by omega) ?_
  intro h3 eh3 oh3
  have hgh3 : gG h3 g (eCp O.1 G.1 0 0 40, eCp O.2.1 G.2.1 0 0 6, eCp O.2.2.1 G.2.2.1 0 0 8, G.2.2.2.1, G.2.2.2.2.1, G.2.2.2.2.2.1, G.2.2.2.2.2.2.1, G.2.2.2.2.2.2.2) := gG_t (G := (eCp O.1 G.1 0 0 40, eCp O.2.1 G.2.1 0 0 6, G.2.2.1, G.2.2.2.1, G.2.2.2.2.1, G.2.2.2.2.2.1, G.2.2.2.2.2.2.1, G.2.2.2.2.2.2.2)) hgh2 eh3 oh3
  have uh3 : ∀ i, (i < g ∨ g + 3 < i) → h3 i = h i := fun i hi => (oh3 i (by omega)).trans (uh2 i hi)
  refine eW_aload_n 46 rfl rfl rfl ?_
  refine eW_aload_n 47 rfl rfl rfl ?_
  refine eW_getfield 50 rfl rfl (Nat.ble_eq_true_of_le (by omega)) rfl ((uh3 _ (by omega)).trans ho.1) rfl ⟨rfl, fun _ h9 => nomatch h9⟩ ?_
  refine eW_putfield 53 [.ref (g + 1), .ref (g + 2), .ref (g + 3), vI O.2.2.2.1, vI G.2.2.2.2.1, vI G.2.2.2.2.2.1, vI G.2.2.2.2.2.2.1, vI G.2.2.2.2.2.2.2] rfl rfl (Nat.ble_eq_true_of_le (by omega)) rfl (show h3 g = .inr (4, [.ref (g + 1), .ref (g + 2), .ref (g + 3), vI G.2.2.2.1, vI G.2.2.2.2.1, vI G.2.2.2.2.2.1, vI G.2.2.2.2.2.2.1, vI G.2.2.2.2.2.2.2]) from hgh3.1) rfl rfl ?_
  intro h4 eh4 oh4
  have hgh4 : gG h4 g (eCp O.1 G.1 0 0 40, eCp O.2.1 G.2.1 0 0 6, eCp O.2.2.1 G.2.2.1 0 0 8, O.2.2.2.1, G.2.2.2.2.1, G.2.2.2.2.2.1, G.2.2.2.2.2.2.1, G.2.2.2.2.2.2.2) := gG_o (G := (eCp O.1 G.1 0 0 40, eCp O.2.1 G.2.1 0 0 6, eCp O.2.2.1 G.2.2.1 0 0 8, G.2.2.2.1, G.2.2.2.2.1, G.2.2.2.2.2.1, G.2.2.2.2.2.2.1, G.2.2.2.2.2.2.2)) hgh3 eh4 oh4 rfl rfl rfl
  have uh4 : ∀ i, (i < g ∨ g + 3 < i) → h4 i = h i := fun i hi => (oh4 i (by omega)).trans (uh3 i hi)
  refine eW_aload_n 54 rfl rfl rfl ?_
  refine eW_aload_n 55 rfl rfl rfl ?_
  refine eW_getfield 58 rfl rfl (Nat.ble_eq_true_of_le (by omega)) rfl ((uh4 _ (by omega)).trans ho.1) rfl ⟨rfl, fun _ h9 => nomatch h9⟩ ?_
  refine eW_putfield 61 [.ref (g + 1), .ref (g + 2), .ref (g + 3), vI O.2.2.2.1, vI O.2.2.2.2.1, vI G.2.2.2.2.2.1, vI G.2.2.2.2.2.2.1, vI G.2.2.2.2.2.2.2] rfl rfl (Nat.ble_eq_true_of_le (by omega)) rfl (show h4 g = .inr (4, [.ref (g + 1), .ref (g + 2), .ref (g + 3), vI O.2.2.2.1, vI G.2.2.2.2.1, vI G.2.2.2.2.2.1, vI G.2.2.2.2.2.2.1, vI G.2.2.2.2.2.2.2]) from hgh4.1) rfl rfl ?_
  intro h5 eh5 oh5
  have hgh5 : gG h5 g (eCp O.1 G.1 0 0 40, eCp O.2.1 G.2.1 0 0 6, eCp O.2.2.1 G.2.2.1 0 0 8, O.2.2.2.1, O.2.2.2.2.1, G.2.2.2.2.2.1, G.2.2.2.2.2.2.1, G.2.2.2.2.2.2.2) := gG_o (G := (eCp O.1 G.1 0 0 40, eCp O.2.1 G.2.1 0 0 6, eCp O.2.2.1 G.2.2.1 0 0 8, O.2.2.2.1, G.2.2.2.2.1, G.2.2.2.2.2.1, G.2.2.2.2.2.2.1, G.2.2.2.2.2.2.2)) hgh4 eh5 oh5 rfl rfl rfl
  have uh5 : ∀ i, (i < g ∨ g + 3 < i) → h5 i = h i := fun i hi => (oh5 i (by omega)).trans (uh4 i hi)
  refine eW_aload_n 62 rfl rfl rfl ?_
  refine eW_aload_n 63 rfl rfl rfl ?_
  refine eW_getfield 66 rfl rfl (Nat.ble_eq_true_of_le (by omega)) rfl ((uh5 _ (by omega)).trans ho.1) rfl ⟨rfl, fun _ h9 => nomatch h9⟩ ?_
  refine eW_putfield 69 [.ref (g + 1), .ref (g + 2), .ref (g + 3), vI O.2.2.2.1, vI O.2.2.2.2.1, vI O.2.2.2.2.2.1, vI G.2.2.2.2.2.2.1, vI G.2.2.2.2.2.2.2] rfl rfl (Nat.ble_eq_true_of_le (by omega)) rfl (show h5 g = .inr (4, [.ref (g + 1), .ref (g + 2), .ref (g + 3), vI O.2.2.2.1, vI O.2.2.2.2.1, vI G.2.2.2.2.2.1, vI G.2.2.2.2.2.2.1, vI G.2.2.2.2.2.2.2]) from hgh5.1) rfl rfl ?_
  intro h6 eh6 oh6
  have hgh6 : gG h6 g (eCp O.1 G.1 0 0 40, eCp O.2.1 G.2.1 0 0 6, eCp O.2.2.1 G.2.2.1 0 0 8, O.2.2.2.1, O.2.2.2.2.1, O.2.2.2.2.2.1, G.2.2.2.2.2.2.1, G.2.2.2.2.2.2.2) := gG_o (G := (eCp O.1 G.1 0 0 40, eCp O.2.1 G.2.1 0 0 6, eCp O.2.2.1 G.2.2.1 0 0 8, O.2.2.2.1, O.2.2.2.2.1, G.2.2.2.2.2.1, G.2.2.2.2.2.2.1, G.2.2.2.2.2.2.2)) hgh5 eh6 oh6 rfl rfl rfl
  have uh6 : ∀ i, (i < g ∨ g + 3 < i) → h6 i = h i := fun i hi => (oh6 i (by omega)).trans (uh5 i hi)
  refine eW_aload_n 70 rfl rfl rfl ?_
  refine eW_aload_n 71 rfl rfl rfl ?_
  refine eW_getfield 74 rfl rfl (Nat.ble_eq_true_of_le (by omega)) rfl ((uh6 _ (by omega)).trans ho.1) rfl ⟨rfl, fun _ h9 => nomatch h9⟩ ?_
  refine eW_putfield 77 [.ref (g + 1), .ref (g + 2), .ref (g + 3), vI O.2.2.2.1, vI O.2.2.2.2.1, vI O.2.2.2.2.2.1, vI O.2.2.2.2.2.2.1, vI G.2.2.2.2.2.2.2] rfl rfl (Nat.ble_eq_true_of_le (by omega)) rfl (show h6 g = .inr (4, [.ref (g + 1), .ref (g + 2), .ref (g + 3), vI O.2.2.2.1, vI O.2.2.2.2.1, vI O.2.2.2.2.2.1, vI G.2.2.2.2.2.2.1, vI G.2.2.2.2.2.2.2]) from hgh6.1) rfl rfl ?_
  intro h7 eh7 oh7
  have hgh7 : gG h7 g (eCp O.1 G.1 0 0 40, eCp O.2.1 G.2.1 0 0 6, eCp O.2.2.1 G.2.2.1 0 0 8, O.2.2.2.1, O.2.2.2.2.1, O.2.2.2.2.2.1, O.2.2.2.2.2.2.1, G.2.2.2.2.2.2.2) := gG_o (G := (eCp O.1 G.1 0 0 40, eCp O.2.1 G.2.1 0 0 6, eCp O.2.2.1 G.2.2.1 0 0 8, O.2.2.2.1, O.2.2.2.2.1, O.2.2.2.2.2.1, G.2.2.2.2.2.2.1, G.2.2.2.2.2.2.2)) hgh6 eh7 oh7 rfl rfl rfl
  have uh7 : ∀ i, (i < g ∨ g + 3 < i) → h7 i = h i := fun i hi => (oh7 i (by omega)).trans (uh6 i hi)
  refine eW_aload_n 78 rfl rfl rfl ?_
  refine eW_aload_n 79 rfl rfl rfl ?_
  refine eW_getfield 82 rfl rfl (Nat.ble_eq_true_of_le (by omega)) rfl ((uh7 _ (by omega)).trans ho.1) rfl ⟨rfl, fun _ h9 => nomatch h9⟩ ?_
  refine eW_putfield 85 [.ref (g + 1), .ref (g + 2), .ref (g + 3), vI O.2.2.2.1, vI O.2.2.2.2.1, vI O.2.2.2.2.2.1, vI O.2.2.2.2.2.2.1, vI O.2.2.2.2.2.2.2] rfl rfl (Nat.ble_eq_true_of_le (by omega)) rfl (show h7 g = .inr (4, [.ref (g + 1), .ref (g + 2), .ref (g + 3), vI O.2.2.2.1, vI O.2.2.2.2.1, vI O.2.2.2.2.2.1, vI O.2.2.2.2.2.2.1, vI G.2.2.2.2.2.2.2]) from hgh7.1) rfl rfl ?_
  intro h8 eh8 oh8
  have hgh8 : gG h8 g (eCp O.1 G.1 0 0 40, eCp O.2.1 G.2.1 0 0 6, eCp O.2.2.1 G.2.2.1 0 0 8, O.2.2.2.1, O.2.2.2.2.1, O.2.2.2.2.2.1, O.2.2.2.2.2.2.1, O.2.2.2.2.2.2.2) := gG_o (G := (eCp O.1 G.1 0 0 40, eCp O.2.1 G.2.1 0 0 6, eCp O.2.2.1 G.2.2.1 0 0 8, O.2.2.2.1, O.2.2.2.2.1, O.2.2.2.2.2.1, O.2.2.2.2.2.2.1, G.2.2.2.2.2.2.2)) hgh7 eh8 oh8 rfl rfl rfl
  have uh8 : ∀ i, (i < g ∨ g + 3 < i) → h8 i = h i := fun i hi => (oh8 i (by omega)).trans (uh7 i hi)
  refine eW_ret rfl rfl ?_
  exact ⟨_, rfl, hgh8, uh8⟩
/-- a scoop at the name f -/
def gS (h : eHp) (f : Nat) (S : Int × Int × Int) : Prop := h f = .inr (6, [vI S.1, vI S.2.1, vI S.2.2])
theorem s_from {d N : Nat} {h : eHp} {f : Nat} {S : Int × Int × Int} (hf : gS h f S) (hN : f + 1 ≤ N) : eSp (d + 1) eM_X2_from [.ref f] N h (eRet (some (vI S.1)) N h) := by
  refine eSp_of [(0, .ref f)] rfl rfl ?_
  refine eW_aload_n 1 rfl rfl rfl ?_
  refine eW_getfield 4 rfl rfl (Nat.ble_eq_true_of_le (by omega)) rfl hf rfl ⟨rfl, fun _ h9 => nomatch h9⟩ ?_
  refine eW_ret_i rfl rfl (Or.inl rfl) ?_
  rfl
theorem s_taken {d N : Nat} {h : eHp} {f : Nat} {S : Int × Int × Int} (hf : gS h f S) (hN : f + 1 ≤ N) : eSp (d + 1) eM_X2_taken [.ref f] N h (eRet (some (vI S.2.1)) N h) := by
  refine eSp_of [(0, .ref f)] rfl rfl ?_
  refine eW_aload_n 1 rfl rfl rfl ?_
  refine eW_getfield 4 rfl rfl (Nat.ble_eq_true_of_le (by omega)) rfl hf rfl ⟨rfl, fun _ h9 => nomatch h9⟩ ?_
  refine eW_ret_i rfl rfl (Or.inl rfl) ?_
  rfl
theorem s_left {d N : Nat} {h : eHp} {f : Nat} {S : Int × Int × Int} (hf : gS h f S) (hN : f + 1 ≤ N) : eSp (d + 1) eM_X2_left [.ref f] N h (eRet (some (vI S.2.2)) N h) := by
  refine eSp_of [(0, .ref f)] rfl rfl ?_
  refine eW_aload_n 1 rfl rfl rfl ?_
  refine eW_getfield 4 rfl rfl (Nat.ble_eq_true_of_le (by omega)) rfl hf rfl ⟨rfl, fun _ h9 => nomatch h9⟩ ?_
  refine eW_ret_i rfl rfl (Or.inl rfl) ?_
  rfl
def gPart (S : Int × Int × Int) (w : Int) : Int := match decide (w = 0) with | true => S.1 | false => match decide (w = 1) with | true => S.2.1 | false => S.2.2
theorem s_part {d N : Nat} {h : eHp} {f : Nat} {S : Int × Int × Int} (hf : gS h f S) (hN : f + 1 ≤ N) {w : Int} (hw : i32 w) : eSp (d + 1) eM_X2_part [.ref f, vI w] N h (eRet (some (vI (gPart S w))) N h) := by
  refine eSp_of [(0, .ref f), (1, vI w)] rfl rfl ?_
  unfold i32 at hw
  refine eW_iload_n 1 rfl rfl rfl ?_
  refine eW_if_ne 4 rfl rfl (by unfold i32; omega) (fun c1 => ?_) (fun c1 => ?_)
  · refine eW_iload_n 12 rfl rfl rfl ?_
    refine eW_iconst 13 rfl rfl ?_
    refine eW_icmp_ne 16 rfl rfl (by unfold i32; omega) (by unfold i32; omega) (fun c2 => ?_) (fun c2 => ?_)
    · refine eW_aload_n 24 rfl rfl rfl ?_
      refine eW_getfield 27 rfl rfl (Nat.ble_eq_true_of_le (by omega)) rfl hf rfl ⟨rfl, fun _ h9 => nomatch h9⟩ ?_
      refine eW_ret_i rfl rfl (Or.inl rfl) ?_
      refine eRet_i ?_
      unfold gPart
      first | rw [decide_eq_true (by omega : w = 0)] | rw [decide_eq_false (by omega : ¬ w = 0), decide_eq_true (by omega : w = 1)] | rw [decide_eq_false (by omega : ¬ w = 0), decide_eq_false (by omega : ¬ w = 1)]
    · refine eW_aload_n 17 rfl rfl rfl ?_
      refine eW_getfield 20 rfl rfl (Nat.ble_eq_true_of_le (by omega)) rfl hf rfl ⟨rfl, fun _ h9 => nomatch h9⟩ ?_
      refine eW_goto rfl ?_
      refine eW_ret_i rfl rfl (Or.inl rfl) ?_
      refine eRet_i ?_
      unfold gPart
      first | rw [decide_eq_true (by omega : w = 0)] | rw [decide_eq_false (by omega : ¬ w = 0), decide_eq_true (by omega : w = 1)] | rw [decide_eq_false (by omega : ¬ w = 0), decide_eq_false (by omega : ¬ w = 1)]
  · refine eW_aload_n 5 rfl rfl rfl ?_
    refine eW_getfield 8 rfl rfl (Nat.ble_eq_true_of_le (by omega)) rfl hf rfl ⟨rfl, fun _ h9 => nomatch h9⟩ ?_
    refine eW_goto rfl ?_
    refine eW_ret_i rfl rfl (Or.inl rfl) ?_
    refine eRet_i ?_
    unfold gPart
    first | rw [decide_eq_true (by omega : w = 0)] | rw [decide_eq_false (by omega : ¬ w = 0), decide_eq_true (by omega : w = 1)] | rw [decide_eq_false (by omega : ¬ w = 0), decide_eq_false (by omega : ¬ w = 1)]
theorem s_set {d N : Nat} {h : eHp} {f : Nat} {S : Int × Int × Int} (hf : gS h f S) (hN : f + 1 ≤ N) {a b c : Int} : eSp (d + 1) eM_X2_set [.ref f, vI a, vI b, vI c] N h (eChg none N (fun h' => gS h' f (a, b, c) ∧ ∀ i, i ≠ f → h' i = h i)) := by
  refine eSp_of [(0, .ref f), (1, vI a), (2, vI b), (3, vI c)] rfl rfl ?_
  refine eW_aload_n 1 rfl rfl rfl ?_
  refine eW_iload_n 2 rfl rfl rfl ?_
  refine eW_putfield 5 [vI a, vI S.2.1, vI S.2.2] rfl rfl (Nat.ble_eq_true_of_le (by omega)) rfl (show h f = .inr (6, [vI S.1, vI S.2.1, vI S.2.2]) from hf) rfl rfl ?_
  intro h1 eh1 oh1
  have uh1 : ∀ i, i ≠ f → h1 i = h i := fun i hi => (oh1 i hi).trans ((fun _ _ => rfl) i hi)
  refine eW_aload_n 6 rfl rfl rfl ?_
  refine eW_iload_n 7 rfl rfl rfl ?_
  refine eW_putfield 10 [vI a, vI b, vI S.2.2] rfl rfl (Nat.ble_eq_true_of_le (by omega)) rfl (show h1 f = .inr (6, [vI a, vI S.2.1, vI S.2.2]) from eh1) rfl rfl ?_
  intro h2 eh2 oh2
  have uh2 : ∀ i, i ≠ f → h2 i = h i := fun i hi => (oh2 i hi).trans (uh1 i hi)
  refine eW_aload_n 11 rfl rfl rfl ?_
  refine eW_iload_n 12 rfl rfl rfl ?_
  refine eW_putfield 15 [vI a, vI b, vI c] rfl rfl (Nat.ble_eq_true_of_le (by omega)) rfl (show h2 f = .inr (6, [vI a, vI b, vI S.2.2]) from eh2) rfl rfl ?_
  intro h3 eh3 oh3
  have uh3 : ∀ i, i ≠ f → h3 i = h i := fun i hi => (oh3 i hi).trans (uh2 i hi)
  refine eW_ret rfl rfl ?_
  exact ⟨_, rfl, eh3, uh3⟩
def gTl (T : Nat → Int) (m w x : Int) : Nat → Int := eUp T (m * 4 + w).toNat (T (m * 4 + w).toNat + x)
def gTls (G : eGd) (t : Int) : Nat → Int := gTl (gTl (gTl G.2.2.1 G.2.2.2.2.1 0 1) G.2.2.2.2.1 3 1) G.2.2.2.2.1 1 t
/-- marbles and pits behind a scoop -/
def gCut (F : Nat → Int) (n p t l : Int) : (Nat → Int) × Int :=
  match decide (0 < F p.toNat - t - l), decide (l = 0) with
  | true, true => (gDel (eUp (eUp F p.toNat l) n.toNat (F p.toNat - t - l)) p.toNat (n + 1).toNat, n + 1 - 1)
  | true, false => (eUp (eUp F p.toNat l) n.toNat (F p.toNat - t - l), n + 1)
  | false, true => (gDel (eUp F p.toNat l) p.toNat n.toNat, n - 1)
  | false, false => (eUp F p.toNat l, n)
def gMake (G : eGd) (S : Int × Int × Int) : eGd := ((gCut G.1 G.2.2.2.1 S.1 S.2.1 S.2.2).1, G.2.1, gTls G S.2.1, (gCut G.1 G.2.2.2.1 S.1 S.2.1 S.2.2).2, 1 - G.2.2.2.2.1, G.2.2.2.2.2)
theorem g_make {d N : Nat} {h : eHp} {g : Nat} {G : eGd} (hg : gG h g G) (hG : gOk G) (hN : g + 4 ≤ N) {f : Nat} {S : Int × Int × Int} (hf : gS h f S) (hN2 : f + 1 ≤ N) (hd : f < g ∨ g + 3 < f) (hp : 0 ≤ S.1 ∧ S.1 < G.2.2.2.1) (ht : 1 ≤ S.2.1 ∧ S.2.1 ≤ 6) (hl : 0 ≤ S.2.2 ∧ S.2.2 ≤ 40) (h9 : 0 < G.1 S.1.toNat - S.2.1 - S.2.2 → G.2.2.2.1 < 40) (hT : G.2.2.2.2.1 = 0 ∨ G.2.2.2.2.1 = 1) : eSp (d + 3) eM_X0_make [.ref g, .ref f] N h (eChg none N (gTo h g (gMake G S))) := by
  refine eSp_of [(0, .ref g), (1, .ref f)] rfl rfl ?_
  have hG9 := hG
  obtain ⟨g1, g2, g3, g4⟩ := hG9
  have hb := gHas_c G S.1
  have hm := g3 S.1.toNat (by omega)
  refine eW_aload_n 1 rfl rfl rfl ?_
  refine eW_callV 4 [.ref f] [] [vI S.1] rfl rfl rfl rfl (Nat.ble_eq_true_of_le (by omega)) (show h f = .inr (6, [vI S.1, vI S.2.1, vI S.2.2]) from ((fun _ _ => rfl) _ (by omega)).trans hf) rfl rfl rfl (s_from (d := d + 1) (S := S) (show h f = .inr (6, [vI S.1, vI S.2.1, vI S.2.2]) from ((fun _ _ => rfl) _ (by omega)).trans hf) (by omega)) rfl rfl ?_
  refine eW_istore_n 5 rfl rfl [(2, vI S.1), (0, .ref g), (1, .ref f)] rfl rfl ?_
  refine eW_aload_n 6 rfl rfl rfl ?_
  refine eW_iload_n 7 rfl rfl rfl ?_
  refine eW_callV 10 [.ref g, vI S.1] [] [vI (eB01 (gHas G S.1))] rfl rfl rfl rfl (Nat.ble_eq_true_of_le (by omega)) (show h g = .inr (4, [.ref (g + 1), .ref (g + 2), .ref (g + 3), vI G.2.2.2.1, vI G.2.2.2.2.1, vI G.2.2.2.2.2.1, vI G.2.2.2.2.2.2.1, vI G.2.2.2.2.2.2.2]) from hg.1) rfl rfl rfl (g_hasPit (d := d + 1) hg hG hN (by unfold i32; omega)) rfl rfl ?_
  refine eW_if_ne 13 rfl rfl (by unfold i32; omega) (fun c1 => ?_) (fun c1 => absurd c1 (by omega))
  refine eW_aload_n 15 rfl rfl rfl ?_
  refine eW_getfield 18 rfl rfl (Nat.ble_eq_true_of_le (by omega)) rfl (show h g = .inr (4, [.ref (g + 1), .ref (g + 2), .ref (g + 3), vI G.2.2.2.1, vI G.2.2.2.2.1, vI G.2.2.2.2.2.1, vI G.2.2.2.2.2.2.1, vI G.2.2.2.2.2.2.2]) from hg.1) rfl ⟨rfl, fun _ h9 => nomatch h9⟩ ?_
  refine eW_iload_n 19 rfl rfl rfl ?_
  refine eW_iaload 20 rfl rfl (G.1 S.1.toNat) (Nat.ble_eq_true_of_le (by omega)) (show h (g + 1) = .inl (0, 40, .inl (eIA G.1)) from hg.2.1) (by omega) (by omega) (by unfold i32; omega) rfl ?_
  refine eW_aload_n 21 rfl rfl rfl ?_
  refine eW_callV 24 [.ref f] [vI (G.1 S.1.toNat)] [vI S.2.1, vI (G.1 S.1.toNat)] rfl rfl rfl rfl (Nat.ble_eq_true_of_le (by omega)) (show h f = .inr (6, [vI S.1, vI S.2.1, vI S.2.2]) from ((fun _ _ => rfl) _ (by omega)).trans hf) rfl rfl rfl (s_taken (d := d + 1) (S := S) (show h f = .inr (6, [vI S.1, vI S.2.1, vI S.2.2]) from ((fun _ _ => rfl) _ (by omega)).trans hf) (by omega)) rfl rfl ?_
  refine eW_isub 25 rfl rfl ?_
  refine eW_aload_n 26 rfl rfl rfl ?_
  refine eW_callV 29 [.ref f] [vI ((G.1 S.1.toNat) - S.2.1)] [vI S.2.2, vI ((G.1 S.1.toNat) - S.2.1)] rfl rfl rfl rfl (Nat.ble_eq_true_of_le (by omega)) (show h f = .inr (6, [vI S.1, vI S.2.1, vI S.2.2]) from ((fun _ _ => rfl) _ (by omega)).trans hf) rfl rfl rfl (s_left (d := d + 1) (S := S) (show h f = .inr (6, [vI S.1, vI S.2.1, vI S.2.2]) from ((fun _ _ => rfl) _ (by omega)).trans hf) (by omega)) rfl rfl ?_
  refine eW_isub 30 rfl rfl ?_
  refine eW_istore_n 31 rfl rfl [(3, vI (((G.1 S.1.toNat) - S.2.1) - S.2.2)), (2, vI S.1), (0, .ref g), (1, .ref f)] rfl rfl ?_
  refine eW_aload_n 32 rfl rfl rfl ?_
  refine eW_getfield 35 rfl rfl (Nat.ble_eq_true_of_le (by omega)) rfl (show h g = .inr (4, [.ref (g + 1), .ref (g + 2), .ref (g + 3), vI G.2.2.2.1, vI G.2.2.2.2.1, vI G.2.2.2.2.2.1, vI G.2.2.2.2.2.2.1, vI G.2.2.2.2.2.2.2]) from hg.1) rfl ⟨rfl, fun _ h9 => nomatch h9⟩ ?_
  refine eW_iload_n 36 rfl rfl rfl ?_
  refine eW_aload_n 37 rfl rfl rfl ?_
  refine eW_callV 40 [.ref f] [vI S.1, .ref (g + 1)] [vI S.2.2, vI S.1, .ref (g + 1)] rfl rfl rfl rfl (Nat.ble_eq_true_of_le (by omega)) (show h f = .inr (6, [vI S.1, vI S.2.1, vI S.2.2]) from ((fun _ _ => rfl) _ (by omega)).trans hf) rfl rfl rfl (s_left (d := d + 1) (S := S) (show h f = .inr (6, [vI S.1, vI S.2.1, vI S.2.2]) from ((fun _ _ => rfl) _ (by omega)).trans hf) (by omega)) rfl rfl ?_
  refine eW_iastore 41 rfl rfl (Nat.ble_eq_true_of_le (by omega)) (show h (g + 1) = .inl (0, 40, .inl (eIA G.1)) from hg.2.1) (by omega) (by omega) (by unfold i32; omega) rfl ?_
  intro h2 eh2 oh2
  have hgh2 : gG h2 g (eUp G.1 S.1.toNat S.2.2, G.2.1, G.2.2.1, G.2.2.2.1, G.2.2.2.2.1, G.2.2.2.2.2.1, G.2.2.2.2.2.2.1, G.2.2.2.2.2.2.2) := gG_m (G := (G.1, G.2.1, G.2.2.1, G.2.2.2.1, G.2.2.2.2.1, G.2.2.2.2.2.1, G.2.2.2.2.2.2.1, G.2.2.2.2.2.2.2)) hg eh2 oh2
  have uh2 : ∀ i, (i < g ∨ g + 3 < i) → h2 i = h i := fun i hi => (oh2 i (by omega)).trans ((fun _ _ => rfl) i hi)
  refine eW_iload_n 42 rfl rfl rfl ?_
  refine eW_if_le 45 rfl rfl (by unfold i32; omega) (fun c3 => ?_) (fun c3 => ?_)
  · refine eW_aload_n 51 rfl rfl rfl ?_
    refine eW_callV 54 [.ref f] [] [vI S.2.2] rfl rfl rfl rfl (Nat.ble_eq_true_of_le (by omega)) (show h2 f = .inr (6, [vI S.1, vI S.2.1, vI S.2.2]) from (uh2 _ (by omega)).trans hf) rfl rfl rfl (s_left (d := d + 1) (S := S) (show h2 f = .inr (6, [vI S.1, vI S.2.1, vI S.2.2]) from (uh2 _ (by omega)).trans hf) (by omega)) rfl rfl ?_
    refine eW_if_ne 57 rfl rfl (by unfold i32; omega) (fun c4 => ?_) (fun c4 => ?_)
    · refine eW_aload_n 63 rfl rfl rfl ?_
      refine eW_aload_n 64 rfl rfl rfl ?_
      refine eW_getfield 67 rfl rfl (Nat.ble_eq_true_of_le (by omega)) rfl (show h2 g = .inr (4, [.ref (g + 1), .ref (g + 2), .ref (g + 3), vI G.2.2.2.1, vI G.2.2.2.2.1, vI G.2.2.2.2.2.1, vI G.2.2.2.2.2.2.1, vI G.2.2.2.2.2.2.2]) from hgh2.1) rfl ⟨rfl, fun _ h9 => nomatch h9⟩ ?_
      refine eW_iconst 68 rfl rfl ?_
      refine eW_iconst 69 rfl rfl ?_
      refine eW_callVH 72 [.ref g, vI G.2.2.2.2.1, vI 0, vI 1] [] [] rfl rfl rfl rfl (Nat.ble_eq_true_of_le (by omega)) (show h2 g = .inr (4, [.ref (g + 1), .ref (g + 2), .ref (g + 3), vI G.2.2.2.1, vI G.2.2.2.2.1, vI G.2.2.2.2.2.1, vI G.2.2.2.2.2.2.1, vI G.2.2.2.2.2.2.2]) from hgh2.1) rfl rfl rfl (g_addTally (d := d) (G := (eUp G.1 S.1.toNat S.2.2, G.2.1, G.2.2.1, G.2.2.2.1, G.2.2.2.2.1, G.2.2.2.2.2.1, G.2.2.2.2.2.2.1, G.2.2.2.2.2.2.2)) hgh2 hN ⟨by omega, by omega, by omega, by omega⟩) rfl rfl ?_
      intro h5 fh5
      have hgh5 : gG h5 g (eUp G.1 S.1.toNat S.2.2, G.2.1, gTl G.2.2.1 G.2.2.2.2.1 0 1, G.2.2.2.1, G.2.2.2.2.1, G.2.2.2.2.2.1, G.2.2.2.2.2.2.1, G.2.2.2.2.2.2.2) := fh5.1
      have uh5 : ∀ i, (i < g ∨ g + 3 < i) → h5 i = h i := fun i hi => (fh5.2 i hi).trans (uh2 i hi)
      refine eW_aload_n 73 rfl rfl rfl ?_
      refine eW_aload_n 74 rfl rfl rfl ?_
      refine eW_getfield 77 rfl rfl (Nat.ble_eq_true_of_le (by omega)) rfl (show h5 g = .inr (4, [.ref (g + 1), .ref (g + 2), .ref (g + 3), vI G.2.2.2.1, vI G.2.2.2.2.1, vI G.2.2.2.2.2.1, vI G.2.2.2.2.2.2.1, vI G.2.2.2.2.2.2.2]) from hgh5.1) rfl ⟨rfl, fun _ h9 => nomatch h9⟩ ?_
      refine eW_iconst 78 rfl rfl ?_
      refine eW_iconst 79 rfl rfl ?_
      refine eW_callVH 82 [.ref g, vI G.2.2.2.2.1, vI 3, vI 1] [] [] rfl rfl rfl rfl (Nat.ble_eq_true_of_le (by omega)) (show h5 g = .inr (4, [.ref (g + 1), .ref (g + 2), .ref (g + 3), vI G.2.2.2.1, vI G.2.2.2.2.1, vI G.2.2.2.2.2.1, vI G.2.2.2.2.2.2.1, vI G.2.2.2.2.2.2.2]) from hgh5.1) rfl rfl rfl (g_addTally (d := d) (G := (eUp G.1 S.1.toNat S.2.2, G.2.1, gTl G.2.2.1 G.2.2.2.2.1 0 1, G.2.2.2.1, G.2.2.2.2.1, G.2.2.2.2.2.1, G.2.2.2.2.2.2.1, G.2.2.2.2.2.2.2)) hgh5 hN ⟨by omega, by omega, by omega, by omega⟩) rfl rfl ?_
      intro h6 fh6
      have hgh6 : gG h6 g (eUp G.1 S.1.toNat S.2.2, G.2.1, gTl (gTl G.2.2.1 G.2.2.2.2.1 0 1) G.2.2.2.2.1 3 1, G.2.2.2.1, G.2.2.2.2.1, G.2.2.2.2.2.1, G.2.2.2.2.2.2.1, G.2.2.2.2.2.2.2) := fh6.1
      have uh6 : ∀ i, (i < g ∨ g + 3 < i) → h6 i = h i := fun i hi => (fh6.2 i hi).trans (uh5 i hi)
      refine eW_aload_n 83 rfl rfl rfl ?_
      refine eW_aload_n 84 rfl rfl rfl ?_
      refine eW_getfield 87 rfl rfl (Nat.ble_eq_true_of_le (by omega)) rfl (show h6 g = .inr (4, [.ref (g + 1), .ref (g + 2), .ref (g + 3), vI G.2.2.2.1, vI G.2.2.2.2.1, vI G.2.2.2.2.2.1, vI G.2.2.2.2.2.2.1, vI G.2.2.2.2.2.2.2]) from hgh6.1) rfl ⟨rfl, fun _ h9 => nomatch h9⟩ ?_
      refine eW_iconst 88 rfl rfl ?_
      refine eW_aload_n 89 rfl rfl rfl ?_
      refine eW_callV 92 [.ref f] [vI 1, vI G.2.2.2.2.1, .ref g] [vI S.2.1, vI 1, vI G.2.2.2.2.1, .ref g] rfl rfl rfl rfl (Nat.ble_eq_true_of_le (by omega)) (show h6 f = .inr (6, [vI S.1, vI S.2.1, vI S.2.2]) from (uh6 _ (by omega)).trans hf) rfl rfl rfl (s_taken (d := d + 1) (S := S) (show h6 f = .inr (6, [vI S.1, vI S.2.1, vI S.2.2]) from (uh6 _ (by omega)).trans hf) (by omega)) rfl rfl ?_
      refine eW_callVH 95 [.ref g, vI G.2.2.2.2.1, vI 1, vI S.2.1] [] [] rfl rfl rfl rfl (Nat.ble_eq_true_of_le (by omega)) (show h6 g = .inr (4, [.ref (g + 1), .ref (g + 2), .ref (g + 3), vI G.2.2.2.1, vI G.2.2.2.2.1, vI G.2.2.2.2.2.1, vI G.2.2.2.2.2.2.1, vI G.2.2.2.2.2.2.2]) from hgh6.1) rfl rfl rfl (g_addTally (d := d) (G := (eUp G.1 S.1.toNat S.2.2, G.2.1, gTl (gTl G.2.2.1 G.2.2.2.2.1 0 1) G.2.2.2.2.1 3 1, G.2.2.2.1, G.2.2.2.2.1, G.2.2.2.2.2.1, G.2.2.2.2.2.2.1, G.2.2.2.2.2.2.2)) hgh6 hN ⟨by omega, by omega, by omega, by omega⟩) rfl rfl ?_
      intro h7 fh7
      have hgh7 : gG h7 g (eUp G.1 S.1.toNat S.2.2, G.2.1, gTl (gTl (gTl G.2.2.1 G.2.2.2.2.1 0 1) G.2.2.2.2.1 3 1) G.2.2.2.2.1 1 S.2.1, G.2.2.2.1, G.2.2.2.2.1, G.2.2.2.2.2.1, G.2.2.2.2.2.2.1, G.2.2.2.2.2.2.2) := fh7.1
      have uh7 : ∀ i, (i < g ∨ g + 3 < i) → h7 i = h i := fun i hi => (fh7.2 i hi).trans (uh6 i hi)
      refine eW_aload_n 96 rfl rfl rfl ?_
      refine eW_iconst 97 rfl rfl ?_
      refine eW_aload_n 98 rfl rfl rfl ?_
      refine eW_getfield 101 rfl rfl (Nat.ble_eq_true_of_le (by omega)) rfl (show h7 g = .inr (4, [.ref (g + 1), .ref (g + 2), .ref (g + 3), vI G.2.2.2.1, vI G.2.2.2.2.1, vI G.2.2.2.2.2.1, vI G.2.2.2.2.2.2.1, vI G.2.2.2.2.2.2.2]) from hgh7.1) rfl ⟨rfl, fun _ h9 => nomatch h9⟩ ?_
      refine eW_isub 102 rfl rfl ?_
      refine eW_putfield 105 [.ref (g + 1), .ref (g + 2), .ref (g + 3), vI G.2.2.2.1, vI (1 - G.2.2.2.2.1), vI G.2.2.2.2.2.1, vI G.2.2.2.2.2.2.1, vI G.2.2.2.2.2.2.2] rfl rfl (Nat.ble_eq_true_of_le (by omega)) rfl (show h7 g = .inr (4, [.ref (g + 1), .ref (g + 2), .ref (g + 3), vI G.2.2.2.1, vI G.2.2.2.2.1, vI G.2.2.2.2.2.1, vI G.2.2.2.2.2.2.1, vI G.2.2.2.2.2.2.2]) from hgh7.1) rfl rfl ?_
      intro h8 eh8 oh8
      have hgh8 : gG h8 g (eUp G.1 S.1.toNat S.2.2, G.2.1, gTl (gTl (gTl G.2.2.1 G.2.2.2.2.1 0 1) G.2.2.2.2.1 3 1) G.2.2.2.2.1 1 S.2.1, G.2.2.2.1, 1 - G.2.2.2.2.1, G.2.2.2.2.2.1, G.2.2.2.2.2.2.1, G.2.2.2.2.2.2.2) := gG_o (G := (eUp G.1 S.1.toNat S.2.2, G.2.1, gTl (gTl (gTl G.2.2.1 G.2.2.2.2.1 0 1) G.2.2.2.2.1 3 1) G.2.2.2.2.1 1 S.2.1, G.2.2.2.1, G.2.2.2.2.1, G.2.2.2.2.2.1, G.2.2.2.2.2.2.1, G.2.2.2.2.2.2.2)) hgh7 eh8 oh8 rfl rfl rfl
      have uh8 : ∀ i, (i < g ∨ g + 3 < i) → h8 i = h i := fun i hi => (oh8 i (by omega)).trans (uh7 i hi)
      refine eW_ret rfl rfl ?_
      have hM : gMake G S = (eUp G.1 S.1.toNat S.2.2, G.2.1, gTl (gTl (gTl G.2.2.1 G.2.2.2.2.1 0 1) G.2.2.2.2.1 3 1) G.2.2.2.2.1 1 S.2.1, G.2.2.2.1, 1 - G.2.2.2.2.1, G.2.2.2.2.2.1, G.2.2.2.2.2.2.1, G.2.2.2.2.2.2.2) := by
        unfold gMake gCut
        first | (rw [decide_eq_true (by omega : 0 < G.1 S.1.toNat - S.2.1 - S.2.2), decide_eq_true (by omega : S.2.2 = 0)]; rfl) | (rw [decide_eq_true (by omega : 0 < G.1 S.1.toNat - S.2.1 - S.2.2), decide_eq_false (by omega : ¬ S.2.2 = 0)]; rfl) | (rw [decide_eq_false (by omega : ¬ 0 < G.1 S.1.toNat - S.2.1 - S.2.2), decide_eq_true (by omega : S.2.2 = 0)]; rfl) | (rw [decide_eq_false (by omega : ¬ 0 < G.1 S.1.toNat - S.2.1 - S.2.2), decide_eq_false (by omega : ¬ S.2.2 = 0)]; rfl)
      exact ⟨_, rfl, by rw [hM]; exact hgh8, uh8⟩
    · refine eW_aload_n 58 rfl rfl rfl ?_
      refine eW_iload_n 59 rfl rfl rfl ?_
      refine eW_callVH 62 [.ref g, vI S.1] [] [] rfl rfl rfl rfl (Nat.ble_eq_true_of_le (by omega)) (show h2 g = .inr (4, [.ref (g + 1), .ref (g + 2), .ref (g + 3), vI G.2.2.2.1, vI G.2.2.2.2.1, vI G.2.2.2.2.2.1, vI G.2.2.2.2.2.2.1, vI G.2.2.2.2.2.2.2]) from hgh2.1) rfl rfl rfl (g_removePit (d := d + 1) (G := (eUp G.1 S.1.toNat S.2.2, G.2.1, G.2.2.1, G.2.2.2.1, G.2.2.2.2.1, G.2.2.2.2.2.1, G.2.2.2.2.2.2.1, G.2.2.2.2.2.2.2)) hgh2 hN ⟨(by omega), (by show S.1 < G.2.2.2.1; omega)⟩ (by show G.2.2.2.1 ≤ 40; omega)) rfl rfl ?_
      intro h9 fh9
      have hgh9 : gG h9 g (gDel (eUp G.1 S.1.toNat S.2.2) S.1.toNat G.2.2.2.1.toNat, G.2.1, G.2.2.1, G.2.2.2.1 - 1, G.2.2.2.2.1, G.2.2.2.2.2.1, G.2.2.2.2.2.2.1, G.2.2.2.2.2.2.2) := fh9.1
      have uh9 : ∀ i, (i < g ∨ g + 3 < i) → h9 i = h i := fun i hi => (fh9.2 i hi).trans (uh2 i hi)
      refine eW_aload_n 63 rfl rfl rfl ?_
      refine eW_aload_n 64 rfl rfl rfl ?_
      refine eW_getfield 67 rfl rfl (Nat.ble_eq_true_of_le (by omega)) rfl (show h9 g = .inr (4, [.ref (g + 1), .ref (g + 2), .ref (g + 3), vI (G.2.2.2.1 - 1), vI G.2.2.2.2.1, vI G.2.2.2.2.2.1, vI G.2.2.2.2.2.2.1, vI G.2.2.2.2.2.2.2]) from hgh9.1) rfl ⟨rfl, fun _ h9 => nomatch h9⟩ ?_
      refine eW_iconst 68 rfl rfl ?_
      refine eW_iconst 69 rfl rfl ?_
      refine eW_callVH 72 [.ref g, vI G.2.2.2.2.1, vI 0, vI 1] [] [] rfl rfl rfl rfl (Nat.ble_eq_true_of_le (by omega)) (show h9 g = .inr (4, [.ref (g + 1), .ref (g + 2), .ref (g + 3), vI (G.2.2.2.1 - 1), vI G.2.2.2.2.1, vI G.2.2.2.2.2.1, vI G.2.2.2.2.2.2.1, vI G.2.2.2.2.2.2.2]) from hgh9.1) rfl rfl rfl (g_addTally (d := d) (G := (gDel (eUp G.1 S.1.toNat S.2.2) S.1.toNat G.2.2.2.1.toNat, G.2.1, G.2.2.1, G.2.2.2.1 - 1, G.2.2.2.2.1, G.2.2.2.2.2.1, G.2.2.2.2.2.2.1, G.2.2.2.2.2.2.2)) hgh9 hN ⟨by omega, by omega, by omega, by omega⟩) rfl rfl ?_
      intro h10 fh10
      have hgh10 : gG h10 g (gDel (eUp G.1 S.1.toNat S.2.2) S.1.toNat G.2.2.2.1.toNat, G.2.1, gTl G.2.2.1 G.2.2.2.2.1 0 1, G.2.2.2.1 - 1, G.2.2.2.2.1, G.2.2.2.2.2.1, G.2.2.2.2.2.2.1, G.2.2.2.2.2.2.2) := fh10.1
      have uh10 : ∀ i, (i < g ∨ g + 3 < i) → h10 i = h i := fun i hi => (fh10.2 i hi).trans (uh9 i hi)
      refine eW_aload_n 73 rfl rfl rfl ?_
      refine eW_aload_n 74 rfl rfl rfl ?_
      refine eW_getfield 77 rfl rfl (Nat.ble_eq_true_of_le (by omega)) rfl (show h10 g = .inr (4, [.ref (g + 1), .ref (g + 2), .ref (g + 3), vI (G.2.2.2.1 - 1), vI G.2.2.2.2.1, vI G.2.2.2.2.2.1, vI G.2.2.2.2.2.2.1, vI G.2.2.2.2.2.2.2]) from hgh10.1) rfl ⟨rfl, fun _ h9 => nomatch h9⟩ ?_
      refine eW_iconst 78 rfl rfl ?_
      refine eW_iconst 79 rfl rfl ?_
      refine eW_callVH 82 [.ref g, vI G.2.2.2.2.1, vI 3, vI 1] [] [] rfl rfl rfl rfl (Nat.ble_eq_true_of_le (by omega)) (show h10 g = .inr (4, [.ref (g + 1), .ref (g + 2), .ref (g + 3), vI (G.2.2.2.1 - 1), vI G.2.2.2.2.1, vI G.2.2.2.2.2.1, vI G.2.2.2.2.2.2.1, vI G.2.2.2.2.2.2.2]) from hgh10.1) rfl rfl rfl (g_addTally (d := d) (G := (gDel (eUp G.1 S.1.toNat S.2.2) S.1.toNat G.2.2.2.1.toNat, G.2.1, gTl G.2.2.1 G.2.2.2.2.1 0 1, G.2.2.2.1 - 1, G.2.2.2.2.1, G.2.2.2.2.2.1, G.2.2.2.2.2.2.1, G.2.2.2.2.2.2.2)) hgh10 hN ⟨by omega, by omega, by omega, by omega⟩) rfl rfl ?_
      intro h11 fh11
      have hgh11 : gG h11 g (gDel (eUp G.1 S.1.toNat S.2.2) S.1.toNat G.2.2.2.1.toNat, G.2.1, gTl (gTl G.2.2.1 G.2.2.2.2.1 0 1) G.2.2.2.2.1 3 1, G.2.2.2.1 - 1, G.2.2.2.2.1, G.2.2.2.2.2.1, G.2.2.2.2.2.2.1, G.2.2.2.2.2.2.2) := fh11.1
      have uh11 : ∀ i, (i < g ∨ g + 3 < i) → h11 i = h i := fun i hi => (fh11.2 i hi).trans (uh10 i hi)
      refine eW_aload_n 83 rfl rfl rfl ?_
      refine eW_aload_n 84 rfl rfl rfl ?_
      refine eW_getfield 87 rfl rfl (Nat.ble_eq_true_of_le (by omega)) rfl (show h11 g = .inr (4, [.ref (g + 1), .ref (g + 2), .ref (g + 3), vI (G.2.2.2.1 - 1), vI G.2.2.2.2.1, vI G.2.2.2.2.2.1, vI G.2.2.2.2.2.2.1, vI G.2.2.2.2.2.2.2]) from hgh11.1) rfl ⟨rfl, fun _ h9 => nomatch h9⟩ ?_
      refine eW_iconst 88 rfl rfl ?_
      refine eW_aload_n 89 rfl rfl rfl ?_
      refine eW_callV 92 [.ref f] [vI 1, vI G.2.2.2.2.1, .ref g] [vI S.2.1, vI 1, vI G.2.2.2.2.1, .ref g] rfl rfl rfl rfl (Nat.ble_eq_true_of_le (by omega)) (show h11 f = .inr (6, [vI S.1, vI S.2.1, vI S.2.2]) from (uh11 _ (by omega)).trans hf) rfl rfl rfl (s_taken (d := d + 1) (S := S) (show h11 f = .inr (6, [vI S.1, vI S.2.1, vI S.2.2]) from (uh11 _ (by omega)).trans hf) (by omega)) rfl rfl ?_
      refine eW_callVH 95 [.ref g, vI G.2.2.2.2.1, vI 1, vI S.2.1] [] [] rfl rfl rfl rfl (Nat.ble_eq_true_of_le (by omega)) (show h11 g = .inr (4, [.ref (g + 1), .ref (g + 2), .ref (g + 3), vI (G.2.2.2.1 - 1), vI G.2.2.2.2.1, vI G.2.2.2.2.2.1, vI G.2.2.2.2.2.2.1, vI G.2.2.2.2.2.2.2]) from hgh11.1) rfl rfl rfl (g_addTally (d := d) (G := (gDel (eUp G.1 S.1.toNat S.2.2) S.1.toNat G.2.2.2.1.toNat, G.2.1, gTl (gTl G.2.2.1 G.2.2.2.2.1 0 1) G.2.2.2.2.1 3 1, G.2.2.2.1 - 1, G.2.2.2.2.1, G.2.2.2.2.2.1, G.2.2.2.2.2.2.1, G.2.2.2.2.2.2.2)) hgh11 hN ⟨by omega, by omega, by omega, by omega⟩) rfl rfl ?_
      intro h12 fh12
      have hgh12 : gG h12 g (gDel (eUp G.1 S.1.toNat S.2.2) S.1.toNat G.2.2.2.1.toNat, G.2.1, gTl (gTl (gTl G.2.2.1 G.2.2.2.2.1 0 1) G.2.2.2.2.1 3 1) G.2.2.2.2.1 1 S.2.1, G.2.2.2.1 - 1, G.2.2.2.2.1, G.2.2.2.2.2.1, G.2.2.2.2.2.2.1, G.2.2.2.2.2.2.2) := fh12.1
      have uh12 : ∀ i, (i < g ∨ g + 3 < i) → h12 i = h i := fun i hi => (fh12.2 i hi).trans (uh11 i hi)
      refine eW_aload_n 96 rfl rfl rfl ?_
      refine eW_iconst 97 rfl rfl ?_
      refine eW_aload_n 98 rfl rfl rfl ?_
      refine eW_getfield 101 rfl rfl (Nat.ble_eq_true_of_le (by omega)) rfl (show h12 g = .inr (4, [.ref (g + 1), .ref (g + 2), .ref (g + 3), vI (G.2.2.2.1 - 1), vI G.2.2.2.2.1, vI G.2.2.2.2.2.1, vI G.2.2.2.2.2.2.1, vI G.2.2.2.2.2.2.2]) from hgh12.1) rfl ⟨rfl, fun _ h9 => nomatch h9⟩ ?_
      refine eW_isub 102 rfl rfl ?_
      refine eW_putfield 105 [.ref (g + 1), .ref (g + 2), .ref (g + 3), vI (G.2.2.2.1 - 1), vI (1 - G.2.2.2.2.1), vI G.2.2.2.2.2.1, vI G.2.2.2.2.2.2.1, vI G.2.2.2.2.2.2.2] rfl rfl (Nat.ble_eq_true_of_le (by omega)) rfl (show h12 g = .inr (4, [.ref (g + 1), .ref (g + 2), .ref (g + 3), vI (G.2.2.2.1 - 1), vI G.2.2.2.2.1, vI G.2.2.2.2.2.1, vI G.2.2.2.2.2.2.1, vI G.2.2.2.2.2.2.2]) from hgh12.1) rfl rfl ?_
      intro h13 eh13 oh13
      have hgh13 : gG h13 g (gDel (eUp G.1 S.1.toNat S.2.2) S.1.toNat G.2.2.2.1.toNat, G.2.1, gTl (gTl (gTl G.2.2.1 G.2.2.2.2.1 0 1) G.2.2.2.2.1 3 1) G.2.2.2.2.1 1 S.2.1, G.2.2.2.1 - 1, 1 - G.2.2.2.2.1, G.2.2.2.2.2.1, G.2.2.2.2.2.2.1, G.2.2.2.2.2.2.2) := gG_o (G := (gDel (eUp G.1 S.1.toNat S.2.2) S.1.toNat G.2.2.2.1.toNat, G.2.1, gTl (gTl (gTl G.2.2.1 G.2.2.2.2.1 0 1) G.2.2.2.2.1 3 1) G.2.2.2.2.1 1 S.2.1, G.2.2.2.1 - 1, G.2.2.2.2.1, G.2.2.2.2.2.1, G.2.2.2.2.2.2.1, G.2.2.2.2.2.2.2)) hgh12 eh13 oh13 rfl rfl rfl
      have uh13 : ∀ i, (i < g ∨ g + 3 < i) → h13 i = h i := fun i hi => (oh13 i (by omega)).trans (uh12 i hi)
      refine eW_ret rfl rfl ?_
      have hM : gMake G S = (gDel (eUp G.1 S.1.toNat S.2.2) S.1.toNat G.2.2.2.1.toNat, G.2.1, gTl (gTl (gTl G.2.2.1 G.2.2.2.2.1 0 1) G.2.2.2.2.1 3 1) G.2.2.2.2.1 1 S.2.1, G.2.2.2.1 - 1, 1 - G.2.2.2.2.1, G.2.2.2.2.2.1, G.2.2.2.2.2.2.1, G.2.2.2.2.2.2.2) := by
        unfold gMake gCut
        first | (rw [decide_eq_true (by omega : 0 < G.1 S.1.toNat - S.2.1 - S.2.2), decide_eq_true (by omega : S.2.2 = 0)]; rfl) | (rw [decide_eq_true (by omega : 0 < G.1 S.1.toNat - S.2.1 - S.2.2), decide_eq_false (by omega : ¬ S.2.2 = 0)]; rfl) | (rw [decide_eq_false (by omega : ¬ 0 < G.1 S.1.toNat - S.2.1 - S.2.2), decide_eq_true (by omega : S.2.2 = 0)]; rfl) | (rw [decide_eq_false (by omega : ¬ 0 < G.1 S.1.toNat - S.2.1 - S.2.2), decide_eq_false (by omega : ¬ S.2.2 = 0)]; rfl)
      exact ⟨_, rfl, by rw [hM]; exact hgh13, uh13⟩
  · refine eW_aload_n 46 rfl rfl rfl ?_
    refine eW_iload_n 47 rfl rfl rfl ?_
    refine eW_callVH 50 [.ref g, vI (((G.1 S.1.toNat) - S.2.1) - S.2.2)] [] [] rfl rfl rfl rfl (Nat.ble_eq_true_of_le (by omega)) (show h2 g = .inr (4, [.ref (g + 1), .ref (g + 2), .ref (g + 3), vI G.2.2.2.1, vI G.2.2.2.2.1, vI G.2.2.2.2.2.1, vI G.2.2.2.2.2.2.1, vI G.2.2.2.2.2.2.2]) from hgh2.1) rfl rfl rfl (g_addPit (d := d + 1) (G := (eUp G.1 S.1.toNat S.2.2, G.2.1, G.2.2.1, G.2.2.2.1, G.2.2.2.2.1, G.2.2.2.2.2.1, G.2.2.2.2.2.2.1, G.2.2.2.2.2.2.2)) hgh2 hN ⟨(by show 0 ≤ G.2.2.2.1; omega), (by show G.2.2.2.1 < 40; omega)⟩) rfl rfl ?_
    intro h14 fh14
    have hgh14 : gG h14 g (eUp (eUp G.1 S.1.toNat S.2.2) G.2.2.2.1.toNat (((G.1 S.1.toNat) - S.2.1) - S.2.2), G.2.1, G.2.2.1, G.2.2.2.1 + 1, G.2.2.2.2.1, G.2.2.2.2.2.1, G.2.2.2.2.2.2.1, G.2.2.2.2.2.2.2) := fh14.1
    have uh14 : ∀ i, (i < g ∨ g + 3 < i) → h14 i = h i := fun i hi => (fh14.2 i hi).trans (uh2 i hi)
    refine eW_aload_n 51 rfl rfl rfl ?_
    refine eW_callV 54 [.ref f] [] [vI S.2.2] rfl rfl rfl rfl (Nat.ble_eq_true_of_le (by omega)) (show h14 f = .inr (6, [vI S.1, vI S.2.1, vI S.2.2]) from (uh14 _ (by omega)).trans hf) rfl rfl rfl (s_left (d := d + 1) (S := S) (show h14 f = .inr (6, [vI S.1, vI S.2.1, vI S.2.2]) from (uh14 _ (by omega)).trans hf) (by omega)) rfl rfl ?_
    refine eW_if_ne 57 rfl rfl (by unfold i32; omega) (fun c15 => ?_) (fun c15 => ?_)
    · refine eW_aload_n 63 rfl rfl rfl ?_
      refine eW_aload_n 64 rfl rfl rfl ?_
      refine eW_getfield 67 rfl rfl (Nat.ble_eq_true_of_le (by omega)) rfl (show h14 g = .inr (4, [.ref (g + 1), .ref (g + 2), .ref (g + 3), vI (G.2.2.2.1 + 1), vI G.2.2.2.2.1, vI G.2.2.2.2.2.1, vI G.2.2.2.2.2.2.1, vI G.2.2.2.2.2.2.2]) from hgh14.1) rfl ⟨rfl, fun _ h9 => nomatch h9⟩ ?_
      refine eW_iconst 68 rfl rfl ?_
      refine eW_iconst 69 rfl rfl ?_
      refine eW_callVH 72 [.ref g, vI G.2.2.2.2.1, vI 0, vI 1] [] [] rfl rfl rfl rfl (Nat.ble_eq_true_of_le (by omega)) (show h14 g = .inr (4, [.ref (g + 1), .ref (g + 2), .ref (g + 3), vI (G.2.2.2.1 + 1), vI G.2.2.2.2.1, vI G.2.2.2.2.2.1, vI G.2.2.2.2.2.2.1, vI G.2.2.2.2.2.2.2]) from hgh14.1) rfl rfl rfl (g_addTally (d := d) (G := (eUp (eUp G.1 S.1.toNat S.2.2) G.2.2.2.1.toNat (((G.1 S.1.toNat) - S.2.1) - S.2.2), G.2.1, G.2.2.1, G.2.2.2.1 + 1, G.2.2.2.2.1, G.2.2.2.2.2.1, G.2.2.2.2.2.2.1, G.2.2.2.2.2.2.2)) hgh14 hN ⟨by omega, by omega, by omega, by omega⟩) rfl rfl ?_
      intro h16 fh16
      have hgh16 : gG h16 g (eUp (eUp G.1 S.1.toNat S.2.2) G.2.2.2.1.toNat (((G.1 S.1.toNat) - S.2.1) - S.2.2), G.2.1, gTl G.2.2.1 G.2.2.2.2.1 0 1, G.2.2.2.1 + 1, G.2.2.2.2.1, G.2.2.2.2.2.1, G.2.2.2.2.2.2.1, G.2.2.2.2.2.2.2) := fh16.1
      have uh16 : ∀ i, (i < g ∨ g + 3 < i) → h16 i = h i := fun i hi => (fh16.2 i hi).trans (uh14 i hi)
      refine eW_aload_n 73 rfl rfl rfl ?_
      refine eW_aload_n 74 rfl rfl rfl ?_
      refine eW_getfield 77 rfl rfl (Nat.ble_eq_true_of_le (by omega)) rfl (show h16 g = .inr (4, [.ref (g + 1), .ref (g + 2), .ref (g + 3), vI (G.2.2.2.1 + 1), vI G.2.2.2.2.1, vI G.2.2.2.2.2.1, vI G.2.2.2.2.2.2.1, vI G.2.2.2.2.2.2.2]) from hgh16.1) rfl ⟨rfl, fun _ h9 => nomatch h9⟩ ?_
      refine eW_iconst 78 rfl rfl ?_
      refine eW_iconst 79 rfl rfl ?_
      refine eW_callVH 82 [.ref g, vI G.2.2.2.2.1, vI 3, vI 1] [] [] rfl rfl rfl rfl (Nat.ble_eq_true_of_le (by omega)) (show h16 g = .inr (4, [.ref (g + 1), .ref (g + 2), .ref (g + 3), vI (G.2.2.2.1 + 1), vI G.2.2.2.2.1, vI G.2.2.2.2.2.1, vI G.2.2.2.2.2.2.1, vI G.2.2.2.2.2.2.2]) from hgh16.1) rfl rfl rfl (g_addTally (d := d) (G := (eUp (eUp G.1 S.1.toNat S.2.2) G.2.2.2.1.toNat (((G.1 S.1.toNat) - S.2.1) - S.2.2), G.2.1, gTl G.2.2.1 G.2.2.2.2.1 0 1, G.2.2.2.1 + 1, G.2.2.2.2.1, G.2.2.2.2.2.1, G.2.2.2.2.2.2.1, G.2.2.2.2.2.2.2)) hgh16 hN ⟨by omega, by omega, by omega, by omega⟩) rfl rfl ?_
      intro h17 fh17
      have hgh17 : gG h17 g (eUp (eUp G.1 S.1.toNat S.2.2) G.2.2.2.1.toNat (((G.1 S.1.toNat) - S.2.1) - S.2.2), G.2.1, gTl (gTl G.2.2.1 G.2.2.2.2.1 0 1) G.2.2.2.2.1 3 1, G.2.2.2.1 + 1, G.2.2.2.2.1, G.2.2.2.2.2.1, G.2.2.2.2.2.2.1, G.2.2.2.2.2.2.2) := fh17.1
      have uh17 : ∀ i, (i < g ∨ g + 3 < i) → h17 i = h i := fun i hi => (fh17.2 i hi).trans (uh16 i hi)
      refine eW_aload_n 83 rfl rfl rfl ?_
      refine eW_aload_n 84 rfl rfl rfl ?_
      refine eW_getfield 87 rfl rfl (Nat.ble_eq_true_of_le (by omega)) rfl (show h17 g = .inr (4, [.ref (g + 1), .ref (g + 2), .ref (g + 3), vI (G.2.2.2.1 + 1), vI G.2.2.2.2.1, vI G.2.2.2.2.2.1, vI G.2.2.2.2.2.2.1, vI G.2.2.2.2.2.2.2]) from hgh17.1) rfl ⟨rfl, fun _ h9 => nomatch h9⟩ ?_
      refine eW_iconst 88 rfl rfl ?_
      refine eW_aload_n 89 rfl rfl rfl ?_
      refine eW_callV 92 [.ref f] [vI 1, vI G.2.2.2.2.1, .ref g] [vI S.2.1, vI 1, vI G.2.2.2.2.1, .ref g] rfl rfl rfl rfl (Nat.ble_eq_true_of_le (by omega)) (show h17 f = .inr (6, [vI S.1, vI S.2.1, vI S.2.2]) from (uh17 _ (by omega)).trans hf) rfl rfl rfl (s_taken (d := d + 1) (S := S) (show h17 f = .inr (6, [vI S.1, vI S.2.1, vI S.2.2]) from (uh17 _ (by omega)).trans hf) (by omega)) rfl rfl ?_
      refine eW_callVH 95 [.ref g, vI G.2.2.2.2.1, vI 1, vI S.2.1] [] [] rfl rfl rfl rfl (Nat.ble_eq_true_of_le (by omega)) (show h17 g = .inr (4, [.ref (g + 1), .ref (g + 2), .ref (g + 3), vI (G.2.2.2.1 + 1), vI G.2.2.2.2.1, vI G.2.2.2.2.2.1, vI G.2.2.2.2.2.2.1, vI G.2.2.2.2.2.2.2]) from hgh17.1) rfl rfl rfl (g_addTally (d := d) (G := (eUp (eUp G.1 S.1.toNat S.2.2) G.2.2.2.1.toNat (((G.1 S.1.toNat) - S.2.1) - S.2.2), G.2.1, gTl (gTl G.2.2.1 G.2.2.2.2.1 0 1) G.2.2.2.2.1 3 1, G.2.2.2.1 + 1, G.2.2.2.2.1, G.2.2.2.2.2.1, G.2.2.2.2.2.2.1, G.2.2.2.2.2.2.2)) hgh17 hN ⟨by omega, by omega, by omega, by omega⟩) rfl rfl ?_
      intro h18 fh18
      have hgh18 : gG h18 g (eUp (eUp G.1 S.1.toNat S.2.2) G.2.2.2.1.toNat (((G.1 S.1.toNat) - S.2.1) - S.2.2), G.2.1, gTl (gTl (gTl G.2.2.1 G.2.2.2.2.1 0 1) G.2.2.2.2.1 3 1) G.2.2.2.2.1 1 S.2.1, G.2.2.2.1 + 1, G.2.2.2.2.1, G.2.2.2.2.2.1, G.2.2.2.2.2.2.1, G.2.2.2.2.2.2.2) := fh18.1
      have uh18 : ∀ i, (i < g ∨ g + 3 < i) → h18 i = h i := fun i hi => (fh18.2 i hi).trans (uh17 i hi)
      refine eW_aload_n 96 rfl rfl rfl ?_
      refine eW_iconst 97 rfl rfl ?_
      refine eW_aload_n 98 rfl rfl rfl ?_
      refine eW_getfield 101 rfl rfl (Nat.ble_eq_true_of_le (by omega)) rfl (show h18 g = .inr (4, [.ref (g + 1), .ref (g + 2), .ref (g + 3), vI (G.2.2.2.1 + 1), vI G.2.2.2.2.1, vI G.2.2.2.2.2.1, vI G.2.2.2.2.2.2.1, vI G.2.2.2.2.2.2.2]) from hgh18.1) rfl ⟨rfl, fun _ h9 => nomatch h9⟩ ?_
      refine eW_isub 102 rfl rfl ?_
      refine eW_putfield 105 [.ref (g + 1), .ref (g + 2), .ref (g + 3), vI (G.2.2.2.1 + 1), vI (1 - G.2.2.2.2.1), vI G.2.2.2.2.2.1, vI G.2.2.2.2.2.2.1, vI G.2.2.2.2.2.2.2] rfl rfl (Nat.ble_eq_true_of_le (by omega)) rfl (show h18 g = .inr (4, [.ref (g + 1), .ref (g + 2), .ref (g + 3), vI (G.2.2.2.1 + 1), vI G.2.2.2.2.1, vI G.2.2.2.2.2.1, vI G.2.2.2.2.2.2.1, vI G.2.2.2.2.2.2.2]) from hgh18.1) rfl rfl ?_
      intro h19 eh19 oh19
      have hgh19 : gG h19 g (eUp (eUp G.1 S.1.toNat S.2.2) G.2.2.2.1.toNat (((G.1 S.1.toNat) - S.2.1) - S.2.2), G.2.1, gTl (gTl (gTl G.2.2.1 G.2.2.2.2.1 0 1) G.2.2.2.2.1 3 1) G.2.2.2.2.1 1 S.2.1, G.2.2.2.1 + 1, 1 - G.2.2.2.2.1, G.2.2.2.2.2.1, G.2.2.2.2.2.2.1, G.2.2.2.2.2.2.2) := gG_o (G := (eUp (eUp G.1 S.1.toNat S.2.2) G.2.2.2.1.toNat (((G.1 S.1.toNat) - S.2.1) - S.2.2), G.2.1, gTl (gTl (gTl G.2.2.1 G.2.2.2.2.1 0 1) G.2.2.2.2.1 3 1) G.2.2.2.2.1 1 S.2.1, G.2.2.2.1 + 1, G.2.2.2.2.1, G.2.2.2.2.2.1, G.2.2.2.2.2.2.1, G.2.2.2.2.2.2.2)) hgh18 eh19 oh19 rfl rfl rfl
      have uh19 : ∀ i, (i < g ∨ g + 3 < i) → h19 i = h i := fun i hi => (oh19 i (by omega)).trans (uh18 i hi)
      refine eW_ret rfl rfl ?_
      have hM : gMake G S = (eUp (eUp G.1 S.1.toNat S.2.2) G.2.2.2.1.toNat (((G.1 S.1.toNat) - S.2.1) - S.2.2), G.2.1, gTl (gTl (gTl G.2.2.1 G.2.2.2.2.1 0 1) G.2.2.2.2.1 3 1) G.2.2.2.2.1 1 S.2.1, G.2.2.2.1 + 1, 1 - G.2.2.2.2.1, G.2.2.2.2.2.1, G.2.2.2.2.2.2.1, G.2.2.2.2.2.2.2) := by
        unfold gMake gCut
        first | (rw [decide_eq_true (by omega : 0 < G.1 S.1.toNat - S.2.1 - S.2.2), decide_eq_true (by omega : S.2.2 = 0)]; rfl) | (rw [decide_eq_true (by omega : 0 < G.1 S.1.toNat - S.2.1 - S.2.2), decide_eq_false (by omega : ¬ S.2.2 = 0)]; rfl) | (rw [decide_eq_false (by omega : ¬ 0 < G.1 S.1.toNat - S.2.1 - S.2.2), decide_eq_true (by omega : S.2.2 = 0)]; rfl) | (rw [decide_eq_false (by omega : ¬ 0 < G.1 S.1.toNat - S.2.1 - S.2.2), decide_eq_false (by omega : ¬ S.2.2 = 0)]; rfl)
      exact ⟨_, rfl, by rw [hM]; exact hgh19, uh19⟩
    · refine eW_aload_n 58 rfl rfl rfl ?_
      refine eW_iload_n 59 rfl rfl rfl ?_
      refine eW_callVH 62 [.ref g, vI S.1] [] [] rfl rfl rfl rfl (Nat.ble_eq_true_of_le (by omega)) (show h14 g = .inr (4, [.ref (g + 1), .ref (g + 2), .ref (g + 3), vI (G.2.2.2.1 + 1), vI G.2.2.2.2.1, vI G.2.2.2.2.2.1, vI G.2.2.2.2.2.2.1, vI G.2.2.2.2.2.2.2]) from hgh14.1) rfl rfl rfl (g_removePit (d := d + 1) (G := (eUp (eUp G.1 S.1.toNat S.2.2) G.2.2.2.1.toNat (((G.1 S.1.toNat) - S.2.1) - S.2.2), G.2.1, G.2.2.1, G.2.2.2.1 + 1, G.2.2.2.2.1, G.2.2.2.2.2.1, G.2.2.2.2.2.2.1, G.2.2.2.2.2.2.2)) hgh14 hN ⟨(by omega), (by show S.1 < (G.2.2.2.1 + 1); omega)⟩ (by show (G.2.2.2.1 + 1) ≤ 40; omega)) rfl rfl ?_
      intro h20 fh20
      have hgh20 : gG h20 g (gDel (eUp (eUp G.1 S.1.toNat S.2.2) G.2.2.2.1.toNat (((G.1 S.1.toNat) - S.2.1) - S.2.2)) S.1.toNat (G.2.2.2.1 + 1).toNat, G.2.1, G.2.2.1, (G.2.2.2.1 + 1) - 1, G.2.2.2.2.1, G.2.2.2.2.2.1, G.2.2.2.2.2.2.1, G.2.2.2.2.2.2.2) := fh20.1
      have uh20 : ∀ i, (i < g ∨ g + 3 < i) → h20 i = h i := fun i hi => (fh20.2 i hi).trans (uh14 i hi)
      refine eW_aload_n 63 rfl rfl rfl ?_
      refine eW_aload_n 64 rfl rfl rfl ?_
      refine eW_getfield 67 rfl rfl (Nat.ble_eq_true_of_le (by omega)) rfl (show h20 g = .inr (4, [.ref (g + 1), .ref (g + 2), .ref (g + 3), vI ((G.2.2.2.1 + 1) - 1), vI G.2.2.2.2.1, vI G.2.2.2.2.2.1, vI G.2.2.2.2.2.2.1, vI G.2.2.2.2.2.2.2]) from hgh20.1) rfl ⟨rfl, fun _ h9 => nomatch h9⟩ ?_
      refine eW_iconst 68 rfl rfl ?_
      refine eW_iconst 69 rfl rfl ?_
      refine eW_callVH 72 [.ref g, vI G.2.2.2.2.1, vI 0, vI 1] [] [] rfl rfl rfl rfl (Nat.ble_eq_true_of_le (by omega)) (show h20 g = .inr (4, [.ref (g + 1), .ref (g + 2), .ref (g + 3), vI ((G.2.2.2.1 + 1) - 1), vI G.2.2.2.2.1, vI G.2.2.2.2.2.1, vI G.2.2.2.2.2.2.1, vI G.2.2.2.2.2.2.2]) from hgh20.1) rfl rfl rfl (g_addTally (d := d) (G := (gDel (eUp (eUp G.1 S.1.toNat S.2.2) G.2.2.2.1.toNat (((G.1 S.1.toNat) - S.2.1) - S.2.2)) S.1.toNat (G.2.2.2.1 + 1).toNat, G.2.1, G.2.2.1, (G.2.2.2.1 + 1) - 1, G.2.2.2.2.1, G.2.2.2.2.2.1, G.2.2.2.2.2.2.1, G.2.2.2.2.2.2.2)) hgh20 hN ⟨by omega, by omega, by omega, by omega⟩) rfl rfl ?_
      intro h21 fh21
      have hgh21 : gG h21 g (gDel (eUp (eUp G.1 S.1.toNat S.2.2) G.2.2.2.1.toNat (((G.1 S.1.toNat) - S.2.1) - S.2.2)) S.1.toNat (G.2.2.2.1 + 1).toNat, G.2.1, gTl G.2.2.1 G.2.2.2.2.1 0 1, (G.2.2.2.1 + 1) - 1, G.2.2.2.2.1, G.2.2.2.2.2.1, G.2.2.2.2.2.2.1, G.2.2.2.2.2.2.2) := fh21.1
      have uh21 : ∀ i, (i < g ∨ g + 3 < i) → h21 i = h i := fun i hi => (fh21.2 i hi).trans (uh20 i hi)
      refine eW_aload_n 73 rfl rfl rfl ?_
      refine eW_aload_n 74 rfl rfl rfl ?_
      refine eW_getfield 77 rfl rfl (Nat.ble_eq_true_of_le (by omega)) rfl (show h21 g = .inr (4, [.ref (g + 1), .ref (g + 2), .ref (g + 3), vI ((G.2.2.2.1 + 1) - 1), vI G.2.2.2.2.1, vI G.2.2.2.2.2.1, vI G.2.2.2.2.2.2.1, vI G.2.2.2.2.2.2.2]) from hgh21.1) rfl ⟨rfl, fun _ h9 => nomatch h9⟩ ?_
      refine eW_iconst 78 rfl rfl ?_
      refine eW_iconst 79 rfl rfl ?_
      refine eW_callVH 82 [.ref g, vI G.2.2.2.2.1, vI 3, vI 1] [] [] rfl rfl rfl rfl (Nat.ble_eq_true_of_le (by omega)) (show h21 g = .inr (4, [.ref (g + 1), .ref (g + 2), .ref (g + 3), vI ((G.2.2.2.1 + 1) - 1), vI G.2.2.2.2.1, vI G.2.2.2.2.2.1, vI G.2.2.2.2.2.2.1, vI G.2.2.2.2.2.2.2]) from hgh21.1) rfl rfl rfl (g_addTally (d := d) (G := (gDel (eUp (eUp G.1 S.1.toNat S.2.2) G.2.2.2.1.toNat (((G.1 S.1.toNat) - S.2.1) - S.2.2)) S.1.toNat (G.2.2.2.1 + 1).toNat, G.2.1, gTl G.2.2.1 G.2.2.2.2.1 0 1, (G.2.2.2.1 + 1) - 1, G.2.2.2.2.1, G.2.2.2.2.2.1, G.2.2.2.2.2.2.1, G.2.2.2.2.2.2.2)) hgh21 hN ⟨by omega, by omega, by omega, by omega⟩) rfl rfl ?_
      intro h22 fh22
      have hgh22 : gG h22 g (gDel (eUp (eUp G.1 S.1.toNat S.2.2) G.2.2.2.1.toNat (((G.1 S.1.toNat) - S.2.1) - S.2.2)) S.1.toNat (G.2.2.2.1 + 1).toNat, G.2.1, gTl (gTl G.2.2.1 G.2.2.2.2.1 0 1) G.2.2.2.2.1 3 1, (G.2.2.2.1 + 1) - 1, G.2.2.2.2.1, G.2.2.2.2.2.1, G.2.2.2.2.2.2.1, G.2.2.2.2.2.2.2) := fh22.1
      have uh22 : ∀ i, (i < g ∨ g + 3 < i) → h22 i = h i := fun i hi => (fh22.2 i hi).trans (uh21 i hi)
      refine eW_aload_n 83 rfl rfl rfl ?_
      refine eW_aload_n 84 rfl rfl rfl ?_
      refine eW_getfield 87 rfl rfl (Nat.ble_eq_true_of_le (by omega)) rfl (show h22 g = .inr (4, [.ref (g + 1), .ref (g + 2), .ref (g + 3), vI ((G.2.2.2.1 + 1) - 1), vI G.2.2.2.2.1, vI G.2.2.2.2.2.1, vI G.2.2.2.2.2.2.1, vI G.2.2.2.2.2.2.2]) from hgh22.1) rfl ⟨rfl, fun _ h9 => nomatch h9⟩ ?_
      refine eW_iconst 88 rfl rfl ?_
      refine eW_aload_n 89 rfl rfl rfl ?_
      refine eW_callV 92 [.ref f] [vI 1, vI G.2.2.2.2.1, .ref g] [vI S.2.1, vI 1, vI G.2.2.2.2.1, .ref g] rfl rfl rfl rfl (Nat.ble_eq_true_of_le (by omega)) (show h22 f = .inr (6, [vI S.1, vI S.2.1, vI S.2.2]) from (uh22 _ (by omega)).trans hf) rfl rfl rfl (s_taken (d := d + 1) (S := S) (show h22 f = .inr (6, [vI S.1, vI S.2.1, vI S.2.2]) from (uh22 _ (by omega)).trans hf) (by omega)) rfl rfl ?_
      refine eW_callVH 95 [.ref g, vI G.2.2.2.2.1, vI 1, vI S.2.1] [] [] rfl rfl rfl rfl (Nat.ble_eq_true_of_le (by omega)) (show h22 g = .inr (4, [.ref (g + 1), .ref (g + 2), .ref (g + 3), vI ((G.2.2.2.1 + 1) - 1), vI G.2.2.2.2.1, vI G.2.2.2.2.2.1, vI G.2.2.2.2.2.2.1, vI G.2.2.2.2.2.2.2]) from hgh22.1) rfl rfl rfl (g_addTally (d := d) (G := (gDel (eUp (eUp G.1 S.1.toNat S.2.2) G.2.2.2.1.toNat (((G.1 S.1.toNat) - S.2.1) - S.2.2)) S.1.toNat (G.2.2.2.1 + 1).toNat, G.2.1, gTl (gTl G.2.2.1 G.2.2.2.2.1 0 1) G.2.2.2.2.1 3 1, (G.2.2.2.1 + 1) - 1, G.2.2.2.2.1, G.2.2.2.2.2.1, G.2.2.2.2.2.2.1, G.2.2.2.2.2.2.2)) hgh22 hN ⟨by omega, by omega, by omega, by omega⟩) rfl rfl ?_
      intro h23 fh23
      have hgh23 : gG h23 g (gDel (eUp (eUp G.1 S.1.toNat S.2.2) G.2.2.2.1.toNat (((G.1 S.1.toNat) - S.2.1) - S.2.2)) S.1.toNat (G.2.2.2.1 + 1).toNat, G.2.1, gTl (gTl (gTl G.2.2.1 G.2.2.2.2.1 0 1) G.2.2.2.2.1 3 1) G.2.2.2.2.1 1 S.2.1, (G.2.2.2.1 + 1) - 1, G.2.2.2.2.1, G.2.2.2.2.2.1, G.2.2.2.2.2.2.1, G.2.2.2.2.2.2.2) := fh23.1
      have uh23 : ∀ i, (i < g ∨ g + 3 < i) → h23 i = h i := fun i hi => (fh23.2 i hi).trans (uh22 i hi)
      refine eW_aload_n 96 rfl rfl rfl ?_
      refine eW_iconst 97 rfl rfl ?_
      refine eW_aload_n 98 rfl rfl rfl ?_
      refine eW_getfield 101 rfl rfl (Nat.ble_eq_true_of_le (by omega)) rfl (show h23 g = .inr (4, [.ref (g + 1), .ref (g + 2), .ref (g + 3), vI ((G.2.2.2.1 + 1) - 1), vI G.2.2.2.2.1, vI G.2.2.2.2.2.1, vI G.2.2.2.2.2.2.1, vI G.2.2.2.2.2.2.2]) from hgh23.1) rfl ⟨rfl, fun _ h9 => nomatch h9⟩ ?_
      refine eW_isub 102 rfl rfl ?_
      refine eW_putfield 105 [.ref (g + 1), .ref (g + 2), .ref (g + 3), vI ((G.2.2.2.1 + 1) - 1), vI (1 - G.2.2.2.2.1), vI G.2.2.2.2.2.1, vI G.2.2.2.2.2.2.1, vI G.2.2.2.2.2.2.2] rfl rfl (Nat.ble_eq_true_of_le (by omega)) rfl (show h23 g = .inr (4, [.ref (g + 1), .ref (g + 2), .ref (g + 3), vI ((G.2.2.2.1 + 1) - 1), vI G.2.2.2.2.1, vI G.2.2.2.2.2.1, vI G.2.2.2.2.2.2.1, vI G.2.2.2.2.2.2.2]) from hgh23.1) rfl rfl ?_
      intro h24 eh24 oh24
      have hgh24 : gG h24 g (gDel (eUp (eUp G.1 S.1.toNat S.2.2) G.2.2.2.1.toNat (((G.1 S.1.toNat) - S.2.1) - S.2.2)) S.1.toNat (G.2.2.2.1 + 1).toNat, G.2.1, gTl (gTl (gTl G.2.2.1 G.2.2.2.2.1 0 1) G.2.2.2.2.1 3 1) G.2.2.2.2.1 1 S.2.1, (G.2.2.2.1 + 1) - 1, 1 - G.2.2.2.2.1, G.2.2.2.2.2.1, G.2.2.2.2.2.2.1, G.2.2.2.2.2.2.2) := gG_o (G := (gDel (eUp (eUp G.1 S.1.toNat S.2.2) G.2.2.2.1.toNat (((G.1 S.1.toNat) - S.2.1) - S.2.2)) S.1.toNat (G.2.2.2.1 + 1).toNat, G.2.1, gTl (gTl (gTl G.2.2.1 G.2.2.2.2.1 0 1) G.2.2.2.2.1 3 1) G.2.2.2.2.1 1 S.2.1, (G.2.2.2.1 + 1) - 1, G.2.2.2.2.1, G.2.2.2.2.2.1, G.2.2.2.2.2.2.1, G.2.2.2.2.2.2.2)) hgh23 eh24 oh24 rfl rfl rfl
      have uh24 : ∀ i, (i < g ∨ g + 3 < i) → h24 i = h i := fun i hi => (oh24 i (by omega)).trans (uh23 i hi)
      refine eW_ret rfl rfl ?_
      have hM : gMake G S = (gDel (eUp (eUp G.1 S.1.toNat S.2.2) G.2.2.2.1.toNat (((G.1 S.1.toNat) - S.2.1) - S.2.2)) S.1.toNat (G.2.2.2.1 + 1).toNat, G.2.1, gTl (gTl (gTl G.2.2.1 G.2.2.2.2.1 0 1) G.2.2.2.2.1 3 1) G.2.2.2.2.1 1 S.2.1, (G.2.2.2.1 + 1) - 1, 1 - G.2.2.2.2.1, G.2.2.2.2.2.1, G.2.2.2.2.2.2.1, G.2.2.2.2.2.2.2) := by
        unfold gMake gCut
        first | (rw [decide_eq_true (by omega : 0 < G.1 S.1.toNat - S.2.1 - S.2.2), decide_eq_true (by omega : S.2.2 = 0)]; rfl) | (rw [decide_eq_true (by omega : 0 < G.1 S.1.toNat - S.2.1 - S.2.2), decide_eq_false (by omega : ¬ S.2.2 = 0)]; rfl) | (rw [decide_eq_false (by omega : ¬ 0 < G.1 S.1.toNat - S.2.1 - S.2.2), decide_eq_true (by omega : S.2.2 = 0)]; rfl) | (rw [decide_eq_false (by omega : ¬ 0 < G.1 S.1.toNat - S.2.1 - S.2.2), decide_eq_false (by omega : ¬ S.2.2 = 0)]; rfl)
      exact ⟨_, rfl, by rw [hM]; exact hgh24, uh24⟩
def gTlx (T : Nat → Int) (m w x : Int) : Nat → Int := match gIsT m w with | true => gTl T m w x | false => T
def gWin (G : eGd) : Int := match decide (gTal G 0 3 + gTal G 1 3 = 0) with | true => -1 | false => 1 - G.2.2.2.2.1
def gN1 (G : eGd) : eGd := (G.1, G.2.1, gTlx G.2.2.1 (gWin G) 2 1, G.2.2.2)
def gN2 (G : eGd) (m : Int) : eGd := (G.1, G.2.1, gTlx G.2.2.1 m 3 (-gTal G m 3), G.2.2.2)
def gNext (G : eGd) : eGd := (G.1, G.2.1, (gN2 (gN2 (gN1 G) 0) (0 + 1)).2.2.1, 0, G.2.2.2.2.1, G.2.2.2.2.2.1, G.2.2.2.2.2.2.1 + gSum G.1 G.2.2.2.1.toNat, G.2.2.2.2.2.2.2 + 1)
theorem g_winner {d N : Nat} {h : eHp} {g : Nat} {G : eGd} (hg : gG h g G) (hG : gOk G) (hN : g + 4 ≤ N) (hw : i32 (gTal G 0 3 + gTal G 1 3)) : eSp (d + 4) eM_X0_winner [.ref g] N h (eRet (some (vI (gWin G))) N h) := by
  refine eSp_of [(0, .ref g)] rfl rfl ?_
  refine eW_aload_n 1 rfl rfl rfl ?_
  refine eW_iconst 2 rfl rfl ?_
  unfold i32 at hw
  refine eW_callV 5 [.ref g, vI 3] [] [vI (gTal G 0 3 + gTal G 1 3)] rfl rfl rfl rfl (Nat.ble_eq_true_of_le (by omega)) hg.1 rfl rfl rfl (g_tallyOfBoth (d := d) hg hG hN (by unfold i32; omega)) rfl rfl ?_
  refine eW_if_ne 8 rfl rfl (by unfold i32; omega) (fun c1 => ?_) (fun c1 => ?_)
  · refine eW_iconst 13 rfl rfl ?_
    refine eW_aload_n 14 rfl rfl rfl ?_
    refine eW_getfield 17 rfl rfl (Nat.ble_eq_true_of_le (by omega)) rfl hg.1 rfl ⟨rfl, fun _ h9 => nomatch h9⟩ ?_
    refine eW_isub 18 rfl rfl ?_
    refine eW_ret_i rfl rfl (Or.inl rfl) ?_
    refine eRet_i ?_
    unfold gWin
    first | rw [decide_eq_true (by omega)] | rw [decide_eq_false (by omega)]
  · refine eW_iconst 9 rfl rfl ?_
    refine eW_goto rfl ?_
    refine eW_ret_i rfl rfl (Or.inl rfl) ?_
    refine eRet_i ?_
    unfold gWin
    first | rw [decide_eq_true (by omega)] | rw [decide_eq_false (by omega)]
theorem g_addTallyX {d N : Nat} {h : eHp} {g : Nat} {G : eGd} (hg : gG h g G) (hN : g + 4 ≤ N) {m w x : Int} (hm : i32 m) (hw : i32 w) : eSp (d + 2) eM_X0_addTally [.ref g, vI m, vI w, vI x] N h (eChg none N (gTo h g (G.1, G.2.1, gTlx G.2.2.1 m w x, G.2.2.2))) := by
  refine eSp_of [(0, .ref g), (1, vI m), (2, vI w), (3, vI x)] rfl rfl ?_
  have hb := gIsT_c m w
  refine eW_iload_n 1 rfl rfl rfl ?_
  refine eW_iload_n 2 rfl rfl rfl ?_
  refine eW_callS 5 [vI m, vI w] [] [vI (eB01 (gIsT m w))] rfl rfl rfl (Or.inl rfl) rfl rfl rfl (g_isTally (d := d) hm hw) rfl rfl ?_
  refine eW_if_eq 8 rfl rfl (by unfold i32; omega) (fun c1 => ?_) (fun c1 => ?_)
  · refine eW_ret rfl rfl ?_
    have hM : gTlx G.2.2.1 m w x = G.2.2.1 := by
      unfold gTlx
      first | (rw [show gIsT m w = true by rcases hb with hb | hb <;> first | exact hb.2.1 | omega]; rfl) | (rw [show gIsT m w = false by rcases hb with hb | hb <;> first | exact hb.2.1 | omega])
    exact ⟨_, rfl, by rw [hM]; exact hg, (fun _ _ => rfl)⟩
  · refine eW_aload_n 9 rfl rfl rfl ?_
    refine eW_getfield 12 rfl rfl (Nat.ble_eq_true_of_le (by omega)) rfl (show h g = .inr (4, [.ref (g + 1), .ref (g + 2), .ref (g + 3), vI G.2.2.2.1, vI G.2.2.2.2.1, vI G.2.2.2.2.2.1, vI G.2.2.2.2.2.2.1, vI G.2.2.2.2.2.2.2]) from hg.1) rfl ⟨rfl, fun _ h9 => nomatch h9⟩ ?_
    refine eW_iload_n 13 rfl rfl rfl ?_
    refine eW_iconst 14 rfl rfl ?_
    refine eW_imul 15 rfl rfl ?_
    refine eW_iload_n 16 rfl rfl rfl ?_
    refine eW_iadd 17 rfl rfl ?_
    refine eW_dup2 18 rfl rfl rfl ?_
    refine eW_iaload 19 rfl rfl (G.2.2.1 ((m * 4) + w).toNat) (Nat.ble_eq_true_of_le (by omega)) (show h (g + 3) = .inl (0, 8, .inl (eIA G.2.2.1)) from hg.2.2.2) (by omega) (by omega) (by unfold i32; omega) rfl ?_
    refine eW_iload_n 20 rfl rfl rfl ?_
    refine eW_iadd 21 rfl rfl ?_
    refine eW_iastore 22 rfl rfl (Nat.ble_eq_true_of_le (by omega)) (show h (g + 3) = .inl (0, 8, .inl (eIA G.2.2.1)) from hg.2.2.2) (by omega) (by omega) (by unfold i32; omega) rfl ?_
    intro h2 eh2 oh2
    have hgh2 : gG h2 g (G.1, G.2.1, eUp G.2.2.1 ((m * 4) + w).toNat ((G.2.2.1 ((m * 4) + w).toNat) + x), G.2.2.2.1, G.2.2.2.2.1, G.2.2.2.2.2.1, G.2.2.2.2.2.2.1, G.2.2.2.2.2.2.2) := gG_t (G := (G.1, G.2.1, G.2.2.1, G.2.2.2.1, G.2.2.2.2.1, G.2.2.2.2.2.1, G.2.2.2.2.2.2.1, G.2.2.2.2.2.2.2)) hg eh2 oh2
    have uh2 : ∀ i, (i < g ∨ g + 3 < i) → h2 i = h i := fun i hi => (oh2 i (by omega)).trans ((fun _ _ => rfl) i hi)
    refine eW_ret rfl rfl ?_
    have hM : gTlx G.2.2.1 m w x = eUp G.2.2.1 ((m * 4) + w).toNat ((G.2.2.1 ((m * 4) + w).toNat) + x) := by
      unfold gTlx
      first | (rw [show gIsT m w = true by rcases hb with hb | hb <;> first | exact hb.2.1 | omega]; rfl) | (rw [show gIsT m w = false by rcases hb with hb | hb <;> first | exact hb.2.1 | omega])
    exact ⟨_, rfl, by rw [hM]; exact hgh2, uh2⟩
theorem g_beginNext {d N : Nat} {h : eHp} {g : Nat} {G : eGd} (hg : gG h g G) (hG : gOk G) (hN : g + 4 ≤ N) (hw : i32 (gTal G 0 3 + gTal G 1 3)) (hT : G.2.2.2.2.1 = 0 ∨ G.2.2.2.2.1 = 1) : eSp (d + 5) eM_X0_beginNext [.ref g] N h (eChg none N (gTo h g (gNext G))) := by
  refine eSp_of [(0, .ref g)] rfl rfl ?_
  have hG9 := hG
  obtain ⟨g1, g2, g3, g4⟩ := hG9
  have hwi : -1 ≤ gWin G ∧ gWin G ≤ 1 := by unfold gWin; cases decide (gTal G 0 3 + gTal G 1 3 = 0) <;> dsimp only <;> omega
  refine eW_aload_n 1 rfl rfl rfl ?_
  refine eW_aload_n 2 rfl rfl rfl ?_
  refine eW_callV 5 [.ref g] [.ref g] [vI (gWin G), .ref g] rfl rfl rfl rfl (Nat.ble_eq_true_of_le (by omega)) (show h g = .inr (4, [.ref (g + 1), .ref (g + 2), .ref (g + 3), vI G.2.2.2.1, vI G.2.2.2.2.1, vI G.2.2.2.2.2.1, vI G.2.2.2.2.2.2.1, vI G.2.2.2.2.2.2.2]) from hg.1) rfl rfl rfl (g_winner (d := d) hg hG hN hw) rfl rfl ?_
  refine eW_iconst 6 rfl rfl ?_
  refine eW_iconst 7 rfl rfl ?_
  refine eW_callVH 10 [.ref g, vI (gWin G), vI 2, vI 1] [] [] rfl rfl rfl rfl (Nat.ble_eq_true_of_le (by omega)) (show h g = .inr (4, [.ref (g + 1), .ref (g + 2), .ref (g + 3), vI G.2.2.2.1, vI G.2.2.2.2.1, vI G.2.2.2.2.2.1, vI G.2.2.2.2.2.2.1, vI G.2.2.2.2.2.2.2]) from hg.1) rfl rfl rfl (g_addTallyX (d := d + 2) (G := (G.1, G.2.1, G.2.2.1, G.2.2.2.1, G.2.2.2.2.1, G.2.2.2.2.2.1, G.2.2.2.2.2.2.1, G.2.2.2.2.2.2.2)) hg hN (by unfold i32; omega) (by unfold i32; omega)) rfl rfl ?_
  intro h1 fh1
  have hgh1 : gG h1 g (G.1, G.2.1, gTlx G.2.2.1 (gWin G) 2 1, G.2.2.2.1, G.2.2.2.2.1, G.2.2.2.2.2.1, G.2.2.2.2.2.2.1, G.2.2.2.2.2.2.2) := fh1.1
  have uh1 : ∀ i, (i < g ∨ g + 3 < i) → h1 i = h i := fun i hi => (fh1.2 i hi).trans ((fun _ _ => rfl) i hi)
  refine eW_iconst 11 rfl rfl ?_
  refine eW_istore_n 12 rfl rfl [(1, vI 0), (0, .ref g)] rfl rfl ?_
  refine eW_iload_n 13 rfl rfl rfl ?_
  refine eW_iconst 14 rfl rfl ?_
  refine eW_icmp_ge 17 rfl rfl (by unfold i32; omega) (by unfold i32; omega) (fun c2 => absurd c2 (by omega)) (fun c2 => ?_)
  refine eW_aload_n 18 rfl rfl rfl ?_
  refine eW_iload_n 19 rfl rfl rfl ?_
  refine eW_iconst 20 rfl rfl ?_
  refine eW_aload_n 21 rfl rfl rfl ?_
  refine eW_iload_n 22 rfl rfl rfl ?_
  refine eW_iconst 23 rfl rfl ?_
  refine eW_callV 26 [.ref g, vI 0, vI 3] [vI 3, vI 0, .ref g] [vI (gTal (G.1, G.2.1, gTlx G.2.2.1 (gWin G) 2 1, G.2.2.2.1, G.2.2.2.2.1, G.2.2.2.2.2.1, G.2.2.2.2.2.2.1, G.2.2.2.2.2.2.2) 0 3), vI 3, vI 0, .ref g] rfl rfl rfl rfl (Nat.ble_eq_true_of_le (by omega)) (show h1 g = .inr (4, [.ref (g + 1), .ref (g + 2), .ref (g + 3), vI G.2.2.2.1, vI G.2.2.2.2.1, vI G.2.2.2.2.2.1, vI G.2.2.2.2.2.2.1, vI G.2.2.2.2.2.2.2]) from hgh1.1) rfl rfl rfl (g_tally (d := d + 2) (G := (G.1, G.2.1, gTlx G.2.2.1 (gWin G) 2 1, G.2.2.2.1, G.2.2.2.2.1, G.2.2.2.2.2.1, G.2.2.2.2.2.2.1, G.2.2.2.2.2.2.2)) hgh1 ⟨g1, g2, g3, g4⟩ hN (by unfold i32; omega) (by unfold i32; omega)) rfl rfl ?_
  refine eW_ineg 27 rfl rfl ?_
  refine eW_callVH 30 [.ref g, vI 0, vI 3, vI (-(gTal (G.1, G.2.1, gTlx G.2.2.1 (gWin G) 2 1, G.2.2.2.1, G.2.2.2.2.1, G.2.2.2.2.2.1, G.2.2.2.2.2.2.1, G.2.2.2.2.2.2.2) 0 3))] [] [] rfl rfl rfl rfl (Nat.ble_eq_true_of_le (by omega)) (show h1 g = .inr (4, [.ref (g + 1), .ref (g + 2), .ref (g + 3), vI G.2.2.2.1, vI G.2.2.2.2.1, vI G.2.2.2.2.2.1, vI G.2.2.2.2.2.2.1, vI G.2.2.2.2.2.2.2]) from hgh1.1) rfl rfl rfl (g_addTallyX (d := d + 2) (G := (G.1, G.2.1, gTlx G.2.2.1 (gWin G) 2 1, G.2.2.2.1, G.2.2.2.2.1, G.2.2.2.2.2.1, G.2.2.2.2.2.2.1, G.2.2.2.2.2.2.2)) hgh1 hN (by unfold i32; omega) (by unfold i32; omega)) rfl rfl ?_
  intro h3 fh3
  have hgh3 : gG h3 g (G.1, G.2.1, gTlx (gTlx G.2.2.1 (gWin G) 2 1) 0 3 (-(gTal (G.1, G.2.1, gTlx G.2.2.1 (gWin G) 2 1, G.2.2.2.1, G.2.2.2.2.1, G.2.2.2.2.2.1, G.2.2.2.2.2.2.1, G.2.2.2.2.2.2.2) 0 3)), G.2.2.2.1, G.2.2.2.2.1, G.2.2.2.2.2.1, G.2.2.2.2.2.2.1, G.2.2.2.2.2.2.2) := fh3.1
  have uh3 : ∀ i, (i < g ∨ g + 3 < i) → h3 i = h i := fun i hi => (fh3.2 i hi).trans (uh1 i hi)
  refine eW_iinc 33 rfl rfl [(1, vI (0 + 1)), (0, .ref g)] rfl rfl rfl ?_
  refine eW_goto rfl ?_
  refine eW_iload_n 13 rfl rfl rfl ?_
  refine eW_iconst 14 rfl rfl ?_
  refine eW_icmp_ge 17 rfl rfl (by unfold i32; omega) (by unfold i32; omega) (fun c4 => absurd c4 (by omega)) (fun c4 => ?_)
  refine eW_aload_n 18 rfl rfl rfl ?_
  refine eW_iload_n 19 rfl rfl rfl ?_
  refine eW_iconst 20 rfl rfl ?_
  refine eW_aload_n 21 rfl rfl rfl ?_
  refine eW_iload_n 22 rfl rfl rfl ?_
  refine eW_iconst 23 rfl rfl ?_
  refine eW_callV 26 [.ref g, vI (0 + 1), vI 3] [vI 3, vI (0 + 1), .ref g] [vI (gTal (G.1, G.2.1, gTlx (gTlx G.2.2.1 (gWin G) 2 1) 0 3 (-(gTal (G.1, G.2.1, gTlx G.2.2.1 (gWin G) 2 1, G.2.2.2.1, G.2.2.2.2.1, G.2.2.2.2.2.1, G.2.2.2.2.2.2.1, G.2.2.2.2.2.2.2) 0 3)), G.2.2.2.1, G.2.2.2.2.1, G.2.2.2.2.2.1, G.2.2.2.2.2.2.1, G.2.2.2.2.2.2.2) (0 + 1) 3), vI 3, vI (0 + 1), .ref g] rfl rfl rfl rfl (Nat.ble_eq_true_of_le (by omega)) (show h3 g = .inr (4, [.ref (g + 1), .ref (g + 2), .ref (g + 3), vI G.2.2.2.1, vI G.2.2.2.2.1, vI G.2.2.2.2.2.1, vI G.2.2.2.2.2.2.1, vI G.2.2.2.2.2.2.2]) from hgh3.1) rfl rfl rfl (g_tally (d := d + 2) (G := (G.1, G.2.1, gTlx (gTlx G.2.2.1 (gWin G) 2 1) 0 3 (-(gTal (G.1, G.2.1, gTlx G.2.2.1 (gWin G) 2 1, G.2.2.2.1, G.2.2.2.2.1, G.2.2.2.2.2.1, G.2.2.2.2.2.2.1, G.2.2.2.2.2.2.2) 0 3)), G.2.2.2.1, G.2.2.2.2.1, G.2.2.2.2.2.1, G.2.2.2.2.2.2.1, G.2.2.2.2.2.2.2)) hgh3 ⟨g1, g2, g3, g4⟩ hN (by unfold i32; omega) (by unfold i32; omega)) rfl rfl ?_
  refine eW_ineg 27 rfl rfl ?_
  refine eW_callVH 30 [.ref g, vI (0 + 1), vI 3, vI (-(gTal (G.1, G.2.1, gTlx (gTlx G.2.2.1 (gWin G) 2 1) 0 3 (-(gTal (G.1, G.2.1, gTlx G.2.2.1 (gWin G) 2 1, G.2.2.2.1, G.2.2.2.2.1, G.2.2.2.2.2.1, G.2.2.2.2.2.2.1, G.2.2.2.2.2.2.2) 0 3)), G.2.2.2.1, G.2.2.2.2.1, G.2.2.2.2.2.1, G.2.2.2.2.2.2.1, G.2.2.2.2.2.2.2) (0 + 1) 3))] [] [] rfl rfl rfl rfl (Nat.ble_eq_true_of_le (by omega)) (show h3 g = .inr (4, [.ref (g + 1), .ref (g + 2), .ref (g + 3), vI G.2.2.2.1, vI G.2.2.2.2.1, vI G.2.2.2.2.2.1, vI G.2.2.2.2.2.2.1, vI G.2.2.2.2.2.2.2]) from hgh3.1) rfl rfl rfl (g_addTallyX (d := d + 2) (G := (G.1, G.2.1, gTlx (gTlx G.2.2.1 (gWin G) 2 1) 0 3 (-(gTal (G.1, G.2.1, gTlx G.2.2.1 (gWin G) 2 1, G.2.2.2.1, G.2.2.2.2.1, G.2.2.2.2.2.1, G.2.2.2.2.2.2.1, G.2.2.2.2.2.2.2) 0 3)), G.2.2.2.1, G.2.2.2.2.1, G.2.2.2.2.2.1, G.2.2.2.2.2.2.1, G.2.2.2.2.2.2.2)) hgh3 hN (by unfold i32; omega) (by unfold i32; omega)) rfl rfl ?_
  intro h5 fh5
  have hgh5 : gG h5 g (G.1, G.2.1, gTlx (gTlx (gTlx G.2.2.1 (gWin G) 2 1) 0 3 (-(gTal (G.1, G.2.1, gTlx G.2.2.1 (gWin G) 2 1, G.2.2.2.1, G.2.2.2.2.1, G.2.2.2.2.2.1, G.2.2.2.2.2.2.1, G.2.2.2.2.2.2.2) 0 3))) (0 + 1) 3 (-(gTal (G.1, G.2.1, gTlx (gTlx G.2.2.1 (gWin G) 2 1) 0 3 (-(gTal (G.1, G.2.1, gTlx G.2.2.1 (gWin G) 2 1, G.2.2.2.1, G.2.2.2.2.1, G.2.2.2.2.2.1, G.2.2.2.2.2.2.1, G.2.2.2.2.2.2.2) 0 3)), G.2.2.2.1, G.2.2.2.2.1, G.2.2.2.2.2.1, G.2.2.2.2.2.2.1, G.2.2.2.2.2.2.2) (0 + 1) 3)), G.2.2.2.1, G.2.2.2.2.1, G.2.2.2.2.2.1, G.2.2.2.2.2.2.1, G.2.2.2.2.2.2.2) := fh5.1
  have uh5 : ∀ i, (i < g ∨ g + 3 < i) → h5 i = h i := fun i hi => (fh5.2 i hi).trans (uh3 i hi)
  refine eW_iinc 33 rfl rfl [(1, vI ((0 + 1) + 1)), (0, .ref g)] rfl rfl rfl ?_
  refine eW_goto rfl ?_
  refine eW_iload_n 13 rfl rfl rfl ?_
  refine eW_iconst 14 rfl rfl ?_
  refine eW_icmp_ge 17 rfl rfl (by unfold i32; omega) (by unfold i32; omega) (fun c6 => ?_) (fun c6 => absurd c6 (by omega))
  refine eW_aload_n 37 rfl rfl rfl ?_
  refine eW_dup 38 rfl rfl rfl ?_
  refine eW_getfield 41 rfl rfl (Nat.ble_eq_true_of_le (by omega)) rfl (show h5 g = .inr (4, [.ref (g + 1), .ref (g + 2), .ref (g + 3), vI G.2.2.2.1, vI G.2.2.2.2.1, vI G.2.2.2.2.2.1, vI G.2.2.2.2.2.2.1, vI G.2.2.2.2.2.2.2]) from hgh5.1) rfl ⟨rfl, fun _ h9 => nomatch h9⟩ ?_
  refine eW_aload_n 42 rfl rfl rfl ?_
  refine eW_callV 45 [.ref g] [vI G.2.2.2.2.2.2.1, .ref g] [vI (gSum G.1 G.2.2.2.1.toNat), vI G.2.2.2.2.2.2.1, .ref g] rfl rfl rfl rfl (Nat.ble_eq_true_of_le (by omega)) (show h5 g = .inr (4, [.ref (g + 1), .ref (g + 2), .ref (g + 3), vI G.2.2.2.1, vI G.2.2.2.2.1, vI G.2.2.2.2.2.1, vI G.2.2.2.2.2.2.1, vI G.2.2.2.2.2.2.2]) from hgh5.1) rfl rfl rfl (g_all (d := d + 1) (G := (G.1, G.2.1, gTlx (gTlx (gTlx G.2.2.1 (gWin G) 2 1) 0 3 (-(gTal (G.1, G.2.1, gTlx G.2.2.1 (gWin G) 2 1, G.2.2.2.1, G.2.2.2.2.1, G.2.2.2.2.2.1, G.2.2.2.2.2.2.1, G.2.2.2.2.2.2.2) 0 3))) (0 + 1) 3 (-(gTal (G.1, G.2.1, gTlx (gTlx G.2.2.1 (gWin G) 2 1) 0 3 (-(gTal (G.1, G.2.1, gTlx G.2.2.1 (gWin G) 2 1, G.2.2.2.1, G.2.2.2.2.1, G.2.2.2.2.2.1, G.2.2.2.2.2.2.1, G.2.2.2.2.2.2.2) 0 3)), G.2.2.2.1, G.2.2.2.2.1, G.2.2.2.2.2.1, G.2.2.2.2.2.2.1, G.2.2.2.2.2.2.2) (0 + 1) 3)), G.2.2.2.1, G.2.2.2.2.1, G.2.2.2.2.2.1, G.2.2.2.2.2.2.1, G.2.2.2.2.2.2.2)) hgh5 ⟨g1, g2, g3, g4⟩ hN) rfl rfl ?_
  refine eW_iadd 46 rfl rfl ?_
  refine eW_putfield 49 [.ref (g + 1), .ref (g + 2), .ref (g + 3), vI G.2.2.2.1, vI G.2.2.2.2.1, vI G.2.2.2.2.2.1, vI (G.2.2.2.2.2.2.1 + (gSum G.1 G.2.2.2.1.toNat)), vI G.2.2.2.2.2.2.2] rfl rfl (Nat.ble_eq_true_of_le (by omega)) rfl (show h5 g = .inr (4, [.ref (g + 1), .ref (g + 2), .ref (g + 3), vI G.2.2.2.1, vI G.2.2.2.2.1, vI G.2.2.2.2.2.1, vI G.2.2.2.2.2.2.1, vI G.2.2.2.2.2.2.2]) from hgh5.1) rfl rfl ?_
  intro h7 eh7 oh7
  have hgh7 : gG h7 g (G.1, G.2.1, gTlx (gTlx (gTlx G.2.2.1 (gWin G) 2 1) 0 3 (-(gTal (G.1, G.2.1, gTlx G.2.2.1 (gWin G) 2 1, G.2.2.2.1, G.2.2.2.2.1, G.2.2.2.2.2.1, G.2.2.2.2.2.2.1, G.2.2.2.2.2.2.2) 0 3))) (0 + 1) 3 (-(gTal (G.1, G.2.1, gTlx (gTlx G.2.2.1 (gWin G) 2 1) 0 3 (-(gTal (G.1, G.2.1, gTlx G.2.2.1 (gWin G) 2 1, G.2.2.2.1, G.2.2.2.2.1, G.2.2.2.2.2.1, G.2.2.2.2.2.2.1, G.2.2.2.2.2.2.2) 0 3)), G.2.2.2.1, G.2.2.2.2.1, G.2.2.2.2.2.1, G.2.2.2.2.2.2.1, G.2.2.2.2.2.2.2) (0 + 1) 3)), G.2.2.2.1, G.2.2.2.2.1, G.2.2.2.2.2.1, G.2.2.2.2.2.2.1 + (gSum G.1 G.2.2.2.1.toNat), G.2.2.2.2.2.2.2) := gG_o (G := (G.1, G.2.1, gTlx (gTlx (gTlx G.2.2.1 (gWin G) 2 1) 0 3 (-(gTal (G.1, G.2.1, gTlx G.2.2.1 (gWin G) 2 1, G.2.2.2.1, G.2.2.2.2.1, G.2.2.2.2.2.1, G.2.2.2.2.2.2.1, G.2.2.2.2.2.2.2) 0 3))) (0 + 1) 3 (-(gTal (G.1, G.2.1, gTlx (gTlx G.2.2.1 (gWin G) 2 1) 0 3 (-(gTal (G.1, G.2.1, gTlx G.2.2.1 (gWin G) 2 1, G.2.2.2.1, G.2.2.2.2.1, G.2.2.2.2.2.1, G.2.2.2.2.2.2.1, G.2.2.2.2.2.2.2) 0 3)), G.2.2.2.1, G.2.2.2.2.1, G.2.2.2.2.2.1, G.2.2.2.2.2.2.1, G.2.2.2.2.2.2.2) (0 + 1) 3)), G.2.2.2.1, G.2.2.2.2.1, G.2.2.2.2.2.1, G.2.2.2.2.2.2.1, G.2.2.2.2.2.2.2)) hgh5 eh7 oh7 rfl rfl rfl
  have uh7 : ∀ i, (i < g ∨ g + 3 < i) → h7 i = h i := fun i hi => (oh7 i (by omega)).trans (uh5 i hi)
  refine eW_aload_n 50 rfl rfl rfl ?_
  refine eW_dup 51 rfl rfl rfl ?_
  refine eW_getfield 54 rfl rfl (Nat.ble_eq_true_of_le (by omega)) rfl (show h7 g = .inr (4, [.ref (g + 1), .ref (g + 2), .ref (g + 3), vI G.2.2.2.1, vI G.2.2.2.2.1, vI G.2.2.2.2.2.1, vI (G.2.2.2.2.2.2.1 + (gSum G.1 G.2.2.2.1.toNat)), vI G.2.2.2.2.2.2.2]) from hgh7.1) rfl ⟨rfl, fun _ h9 => nomatch h9⟩ ?_
  refine eW_iconst 55 rfl rfl ?_
  refine eW_iadd 56 rfl rfl ?_
  refine eW_putfield 59 [.ref (g + 1), .ref (g + 2), .ref (g + 3), vI G.2.2.2.1, vI G.2.2.2.2.1, vI G.2.2.2.2.2.1, vI (G.2.2.2.2.2.2.1 + (gSum G.1 G.2.2.2.1.toNat)), vI (G.2.2.2.2.2.2.2 + 1)] rfl rfl (Nat.ble_eq_true_of_le (by omega)) rfl (show h7 g = .inr (4, [.ref (g + 1), .ref (g + 2), .ref (g + 3), vI G.2.2.2.1, vI G.2.2.2.2.1, vI G.2.2.2.2.2.1, vI (G.2.2.2.2.2.2.1 + (gSum G.1 G.2.2.2.1.toNat)), vI G.2.2.2.2.2.2.2]) from hgh7.1) rfl rfl ?_
  intro h8 eh8 oh8
  have hgh8 : gG h8 g (G.1, G.2.1, gTlx (gTlx (gTlx G.2.2.1 (gWin G) 2 1) 0 3 (-(gTal (G.1, G.2.1, gTlx G.2.2.1 (gWin G) 2 1, G.2.2.2.1, G.2.2.2.2.1, G.2.2.2.2.2.1, G.2.2.2.2.2.2.1, G.2.2.2.2.2.2.2) 0 3))) (0 + 1) 3 (-(gTal (G.1, G.2.1, gTlx (gTlx G.2.2.1 (gWin G) 2 1) 0 3 (-(gTal (G.1, G.2.1, gTlx G.2.2.1 (gWin G) 2 1, G.2.2.2.1, G.2.2.2.2.1, G.2.2.2.2.2.1, G.2.2.2.2.2.2.1, G.2.2.2.2.2.2.2) 0 3)), G.2.2.2.1, G.2.2.2.2.1, G.2.2.2.2.2.1, G.2.2.2.2.2.2.1, G.2.2.2.2.2.2.2) (0 + 1) 3)), G.2.2.2.1, G.2.2.2.2.1, G.2.2.2.2.2.1, G.2.2.2.2.2.2.1 + (gSum G.1 G.2.2.2.1.toNat), G.2.2.2.2.2.2.2 + 1) := gG_o (G := (G.1, G.2.1, gTlx (gTlx (gTlx G.2.2.1 (gWin G) 2 1) 0 3 (-(gTal (G.1, G.2.1, gTlx G.2.2.1 (gWin G) 2 1, G.2.2.2.1, G.2.2.2.2.1, G.2.2.2.2.2.1, G.2.2.2.2.2.2.1, G.2.2.2.2.2.2.2) 0 3))) (0 + 1) 3 (-(gTal (G.1, G.2.1, gTlx (gTlx G.2.2.1 (gWin G) 2 1) 0 3 (-(gTal (G.1, G.2.1, gTlx G.2.2.1 (gWin G) 2 1, G.2.2.2.1, G.2.2.2.2.1, G.2.2.2.2.2.1, G.2.2.2.2.2.2.1, G.2.2.2.2.2.2.2) 0 3)), G.2.2.2.1, G.2.2.2.2.1, G.2.2.2.2.2.1, G.2.2.2.2.2.2.1, G.2.2.2.2.2.2.2) (0 + 1) 3)), G.2.2.2.1, G.2.2.2.2.1, G.2.2.2.2.2.1, G.2.2.2.2.2.2.1 + (gSum G.1 G.2.2.2.1.toNat), G.2.2.2.2.2.2.2)) hgh7 eh8 oh8 rfl rfl rfl
  have uh8 : ∀ i, (i < g ∨ g + 3 < i) → h8 i = h i := fun i hi => (oh8 i (by omega)).trans (uh7 i hi)
  refine eW_aload_n 60 rfl rfl rfl ?_
  refine eW_iconst 61 rfl rfl ?_
  refine eW_putfield 64 [.ref (g + 1), .ref (g + 2), .ref (g + 3), vI 0, vI G.2.2.2.2.1, vI G.2.2.2.2.2.1, vI (G.2.2.2.2.2.2.1 + (gSum G.1 G.2.2.2.1.toNat)), vI (G.2.2.2.2.2.2.2 + 1)] rfl rfl (Nat.ble_eq_true_of_le (by omega)) rfl (show h8 g = .inr (4, [.ref (g + 1), .ref (g + 2), .ref (g + 3), vI G.2.2.2.1, vI G.2.2.2.2.1, vI G.2.2.2.2.2.1, vI (G.2.2.2.2.2.2.1 + (gSum G.1 G.2.2.2.1.toNat)), vI (G.2.2.2.2.2.2.2 + 1)]) from hgh8.1) rfl rfl ?_
  intro h9 eh9 oh9
  have hgh9 : gG h9 g (G.1, G.2.1, gTlx (gTlx (gTlx G.2.2.1 (gWin G) 2 1) 0 3 (-(gTal (G.1, G.2.1, gTlx G.2.2.1 (gWin G) 2 1, G.2.2.2.1, G.2.2.2.2.1, G.2.2.2.2.2.1, G.2.2.2.2.2.2.1, G.2.2.2.2.2.2.2) 0 3))) (0 + 1) 3 (-(gTal (G.1, G.2.1, gTlx (gTlx G.2.2.1 (gWin G) 2 1) 0 3 (-(gTal (G.1, G.2.1, gTlx G.2.2.1 (gWin G) 2 1, G.2.2.2.1, G.2.2.2.2.1, G.2.2.2.2.2.1, G.2.2.2.2.2.2.1, G.2.2.2.2.2.2.2) 0 3)), G.2.2.2.1, G.2.2.2.2.1, G.2.2.2.2.2.1, G.2.2.2.2.2.2.1, G.2.2.2.2.2.2.2) (0 + 1) 3)), 0, G.2.2.2.2.1, G.2.2.2.2.2.1, G.2.2.2.2.2.2.1 + (gSum G.1 G.2.2.2.1.toNat), G.2.2.2.2.2.2.2 + 1) := gG_o (G := (G.1, G.2.1, gTlx (gTlx (gTlx G.2.2.1 (gWin G) 2 1) 0 3 (-(gTal (G.1, G.2.1, gTlx G.2.2.1 (gWin G) 2 1, G.2.2.2.1, G.2.2.2.2.1, G.2.2.2.2.2.1, G.2.2.2.2.2.2.1, G.2.2.2.2.2.2.2) 0 3))) (0 + 1) 3 (-(gTal (G.1, G.2.1, gTlx (gTlx G.2.2.1 (gWin G) 2 1) 0 3 (-(gTal (G.1, G.2.1, gTlx G.2.2.1 (gWin G) 2 1, G.2.2.2.1, G.2.2.2.2.1, G.2.2.2.2.2.1, G.2.2.2.2.2.2.1, G.2.2.2.2.2.2.2) 0 3)), G.2.2.2.1, G.2.2.2.2.1, G.2.2.2.2.2.1, G.2.2.2.2.2.2.1, G.2.2.2.2.2.2.2) (0 + 1) 3)), G.2.2.2.1, G.2.2.2.2.1, G.2.2.2.2.2.1, G.2.2.2.2.2.2.1 + (gSum G.1 G.2.2.2.1.toNat), G.2.2.2.2.2.2.2 + 1)) hgh8 eh9 oh9 rfl rfl rfl
  have uh9 : ∀ i, (i < g ∨ g + 3 < i) → h9 i = h i := fun i hi => (oh9 i (by omega)).trans (uh8 i hi)
  refine eW_ret rfl rfl ?_
  exact ⟨_, rfl, hgh9, uh9⟩
