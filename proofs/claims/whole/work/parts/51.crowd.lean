/-! crowds: how many pits there are of each size, in four bits each -/
def wO (s : Int) : Int := if 1 ≤ s ∧ s ≤ 10 then 16 ^ (s - 1).toNat else 0
def wC (F : Nat → Int) : Int := F 0 + 16 * F 1 + 256 * F 2 + 4096 * F 3 + 65536 * F 4 + 1048576 * F 5 + 16777216 * F 6 + 268435456 * F 7 + 4294967296 * F 8 + 68719476736 * F 9
def wT (F : Nat → Int) : Int := F 0 + 2 * F 1 + 3 * F 2 + 4 * F 3 + 5 * F 4 + 6 * F 5 + 7 * F 6 + 8 * F 7 + 9 * F 8 + 10 * F 9
def wV (F : Nat → Int) : Prop := (0 ≤ F 0 ∧ 0 ≤ F 1 ∧ 0 ≤ F 2 ∧ 0 ≤ F 3 ∧ 0 ≤ F 4 ∧ 0 ≤ F 5 ∧ 0 ≤ F 6 ∧ 0 ≤ F 7 ∧ 0 ≤ F 8 ∧ 0 ≤ F 9) ∧ wT F ≤ 10
def wA (F : Nat → Int) (s v : Int) : Nat → Int := if 1 ≤ s ∧ s ≤ 10 then eUp F (s - 1).toNat (F (s - 1).toNat + v) else F
theorem wTen {s : Int} (h : 0 ≤ s ∧ s ≤ 10) : s = 0 ∨ s = 1 ∨ s = 2 ∨ s = 3 ∨ s = 4 ∨ s = 5 ∨ s = 6 ∨ s = 7 ∨ s = 8 ∨ s = 9 ∨ s = 10 := by omega
theorem wC_A {F : Nat → Int} {s : Int} (h : 0 ≤ s ∧ s ≤ 10) (v : Int) : wC (wA F s v) = wC F + v * wO s := by
  rcases wTen h with e | e | e | e | e | e | e | e | e | e | e <;> subst e
  · show wC F = wC F + v * 0
    omega
  · show wC (eUp F 0 (F 0 + v)) = wC F + v * 1
    show (F 0 + v) + 16 * F 1 + 256 * F 2 + 4096 * F 3 + 65536 * F 4 + 1048576 * F 5 + 16777216 * F 6 + 268435456 * F 7 + 4294967296 * F 8 + 68719476736 * F 9 = _
    unfold wC; omega
  · show F 0 + 16 * (F 1 + v) + 256 * F 2 + 4096 * F 3 + 65536 * F 4 + 1048576 * F 5 + 16777216 * F 6 + 268435456 * F 7 + 4294967296 * F 8 + 68719476736 * F 9 = wC F + v * 16
    unfold wC; omega
  · show F 0 + 16 * F 1 + 256 * (F 2 + v) + 4096 * F 3 + 65536 * F 4 + 1048576 * F 5 + 16777216 * F 6 + 268435456 * F 7 + 4294967296 * F 8 + 68719476736 * F 9 = wC F + v * 256
    unfold wC; omega
  · show F 0 + 16 * F 1 + 256 * F 2 + 4096 * (F 3 + v) + 65536 * F 4 + 1048576 * F 5 + 16777216 * F 6 + 268435456 * F 7 + 4294967296 * F 8 + 68719476736 * F 9 = wC F + v * 4096
    unfold wC; omega
  · show F 0 + 16 * F 1 + 256 * F 2 + 4096 * F 3 + 65536 * (F 4 + v) + 1048576 * F 5 + 16777216 * F 6 + 268435456 * F 7 + 4294967296 * F 8 + 68719476736 * F 9 = wC F + v * 65536
    unfold wC; omega
  · show F 0 + 16 * F 1 + 256 * F 2 + 4096 * F 3 + 65536 * F 4 + 1048576 * (F 5 + v) + 16777216 * F 6 + 268435456 * F 7 + 4294967296 * F 8 + 68719476736 * F 9 = wC F + v * 1048576
    unfold wC; omega
  · show F 0 + 16 * F 1 + 256 * F 2 + 4096 * F 3 + 65536 * F 4 + 1048576 * F 5 + 16777216 * (F 6 + v) + 268435456 * F 7 + 4294967296 * F 8 + 68719476736 * F 9 = wC F + v * 16777216
    unfold wC; omega
  · show F 0 + 16 * F 1 + 256 * F 2 + 4096 * F 3 + 65536 * F 4 + 1048576 * F 5 + 16777216 * F 6 + 268435456 * (F 7 + v) + 4294967296 * F 8 + 68719476736 * F 9 = wC F + v * 268435456
    unfold wC; omega
  · show F 0 + 16 * F 1 + 256 * F 2 + 4096 * F 3 + 65536 * F 4 + 1048576 * F 5 + 16777216 * F 6 + 268435456 * F 7 + 4294967296 * (F 8 + v) + 68719476736 * F 9 = wC F + v * 4294967296
    unfold wC; omega
  · show F 0 + 16 * F 1 + 256 * F 2 + 4096 * F 3 + 65536 * F 4 + 1048576 * F 5 + 16777216 * F 6 + 268435456 * F 7 + 4294967296 * F 8 + 68719476736 * (F 9 + v) = wC F + v * 68719476736
    unfold wC; omega
theorem wT_A {F : Nat → Int} {s : Int} (h : 0 ≤ s ∧ s ≤ 10) (v : Int) : wT (wA F s v) = wT F + v * s := by
  rcases wTen h with e | e | e | e | e | e | e | e | e | e | e <;> subst e
  · show wT F = wT F + v * 0
    omega
  · show (F 0 + v) + 2 * F 1 + 3 * F 2 + 4 * F 3 + 5 * F 4 + 6 * F 5 + 7 * F 6 + 8 * F 7 + 9 * F 8 + 10 * F 9 = wT F + v * 1
    unfold wT; omega
  · show F 0 + 2 * (F 1 + v) + 3 * F 2 + 4 * F 3 + 5 * F 4 + 6 * F 5 + 7 * F 6 + 8 * F 7 + 9 * F 8 + 10 * F 9 = wT F + v * 2
    unfold wT; omega
  · show F 0 + 2 * F 1 + 3 * (F 2 + v) + 4 * F 3 + 5 * F 4 + 6 * F 5 + 7 * F 6 + 8 * F 7 + 9 * F 8 + 10 * F 9 = wT F + v * 3
    unfold wT; omega
  · show F 0 + 2 * F 1 + 3 * F 2 + 4 * (F 3 + v) + 5 * F 4 + 6 * F 5 + 7 * F 6 + 8 * F 7 + 9 * F 8 + 10 * F 9 = wT F + v * 4
    unfold wT; omega
  · show F 0 + 2 * F 1 + 3 * F 2 + 4 * F 3 + 5 * (F 4 + v) + 6 * F 5 + 7 * F 6 + 8 * F 7 + 9 * F 8 + 10 * F 9 = wT F + v * 5
    unfold wT; omega
  · show F 0 + 2 * F 1 + 3 * F 2 + 4 * F 3 + 5 * F 4 + 6 * (F 5 + v) + 7 * F 6 + 8 * F 7 + 9 * F 8 + 10 * F 9 = wT F + v * 6
    unfold wT; omega
  · show F 0 + 2 * F 1 + 3 * F 2 + 4 * F 3 + 5 * F 4 + 6 * F 5 + 7 * (F 6 + v) + 8 * F 7 + 9 * F 8 + 10 * F 9 = wT F + v * 7
    unfold wT; omega
  · show F 0 + 2 * F 1 + 3 * F 2 + 4 * F 3 + 5 * F 4 + 6 * F 5 + 7 * F 6 + 8 * (F 7 + v) + 9 * F 8 + 10 * F 9 = wT F + v * 8
    unfold wT; omega
  · show F 0 + 2 * F 1 + 3 * F 2 + 4 * F 3 + 5 * F 4 + 6 * F 5 + 7 * F 6 + 8 * F 7 + 9 * (F 8 + v) + 10 * F 9 = wT F + v * 9
    unfold wT; omega
  · show F 0 + 2 * F 1 + 3 * F 2 + 4 * F 3 + 5 * F 4 + 6 * F 5 + 7 * F 6 + 8 * F 7 + 9 * F 8 + 10 * (F 9 + v) = wT F + v * 10
    unfold wT; omega
def wN (F : Nat → Int) : Prop := ∀ i, i < 10 → 0 ≤ F i
theorem wV_i {F : Nat → Int} (h : wN F) (ht : wT F ≤ 10) : wV F := ⟨⟨h 0 (by decide), h 1 (by decide), h 2 (by decide), h 3 (by decide), h 4 (by decide), h 5 (by decide), h 6 (by decide), h 7 (by decide), h 8 (by decide), h 9 (by decide)⟩, ht⟩
theorem wV_n {F : Nat → Int} (h : wV F) : wN F := by
  obtain ⟨⟨h0, h1, h2, h3, h4, h5, h6, h7, h8, h9⟩, -⟩ := h
  intro i hi
  rcases (show i = 0 ∨ i = 1 ∨ i = 2 ∨ i = 3 ∨ i = 4 ∨ i = 5 ∨ i = 6 ∨ i = 7 ∨ i = 8 ∨ i = 9 by omega) with e | e | e | e | e | e | e | e | e | e <;> subst e <;> assumption
theorem wN_A {F : Nat → Int} {s v : Int} (h : wN F) (hs : 1 ≤ s → s ≤ 10 → 0 ≤ F (s - 1).toNat + v) : wN (wA F s v) := by
  intro i hi
  unfold wA
  split
  · rename_i h1
    unfold eUp
    split
    · exact hs h1.1 h1.2
    · exact h i hi
  · exact h i hi
theorem wV_lt {F : Nat → Int} (h : wV F) : 0 ≤ wC F ∧ wC F < 1099511627776 := by
  obtain ⟨⟨h0, h1, h2, h3, h4, h5, h6, h7, h8, h9⟩, ht⟩ := h
  unfold wT at ht; unfold wC; omega
theorem wV_T {F : Nat → Int} (h : wV F) : 0 ≤ wT F := by
  obtain ⟨⟨h0, h1, h2, h3, h4, h5, h6, h7, h8, h9⟩, ht⟩ := h
  unfold wT; omega
theorem wV_at {F : Nat → Int} (h : wV F) {s : Int} (hs : 1 ≤ s ∧ s ≤ 10) : 0 ≤ F (s - 1).toNat ∧ F (s - 1).toNat ≤ 10 ∧ (F (s - 1).toNat ≠ 0 → s ≤ wT F) := by
  obtain ⟨⟨h0, h1, h2, h3, h4, h5, h6, h7, h8, h9⟩, ht⟩ := h
  unfold wT at ht ⊢
  rcases wTen (s := s) (by omega) with e | e | e | e | e | e | e | e | e | e | e <;> subst e
  · omega
  · show 0 ≤ F 0 ∧ F 0 ≤ 10 ∧ (F 0 ≠ 0 → _); omega
  · show 0 ≤ F 1 ∧ F 1 ≤ 10 ∧ (F 1 ≠ 0 → _); omega
  · show 0 ≤ F 2 ∧ F 2 ≤ 10 ∧ (F 2 ≠ 0 → _); omega
  · show 0 ≤ F 3 ∧ F 3 ≤ 10 ∧ (F 3 ≠ 0 → _); omega
  · show 0 ≤ F 4 ∧ F 4 ≤ 10 ∧ (F 4 ≠ 0 → _); omega
  · show 0 ≤ F 5 ∧ F 5 ≤ 10 ∧ (F 5 ≠ 0 → _); omega
  · show 0 ≤ F 6 ∧ F 6 ≤ 10 ∧ (F 6 ≠ 0 → _); omega
  · show 0 ≤ F 7 ∧ F 7 ≤ 10 ∧ (F 7 ≠ 0 → _); omega
  · show 0 ≤ F 8 ∧ F 8 ≤ 10 ∧ (F 8 ≠ 0 → _); omega
  · show 0 ≤ F 9 ∧ F 9 ≤ 10 ∧ (F 9 ≠ 0 → _); omega
theorem wC_inj {F F' : Nat → Int} (h : wV F) (h' : wV F') (e : wC F = wC F') : ∀ i, i < 10 → F i = F' i := by
  obtain ⟨⟨h0, h1, h2, h3, h4, h5, h6, h7, h8, h9⟩, ht⟩ := h
  obtain ⟨⟨k0, k1, k2, k3, k4, k5, k6, k7, k8, k9⟩, kt⟩ := h'
  unfold wT at ht kt
  unfold wC at e
  have e0 : F 0 = F' 0 := by omega
  have e1 : F 1 = F' 1 := by omega
  have e2 : F 2 = F' 2 := by omega
  have e3 : F 3 = F' 3 := by omega
  have e4 : F 4 = F' 4 := by omega
  have e5 : F 5 = F' 5 := by omega
  have e6 : F 6 = F' 6 := by omega
  have e7 : F 7 = F' 7 := by omega
  have e8 : F 8 = F' 8 := by omega
  have e9 : F 9 = F' 9 := by omega
  intro i hi
  rcases (show i = 0 ∨ i = 1 ∨ i = 2 ∨ i = 3 ∨ i = 4 ∨ i = 5 ∨ i = 6 ∨ i = 7 ∨ i = 8 ∨ i = 9 by omega) with e | e | e | e | e | e | e | e | e | e <;> subst e <;> assumption
/-- the value of a crowd -/
def wX (D : Int → Int) (F : Nat → Int) : Int := gXorS (fun i => if F i % 2 = 1 then gvv D ((i : Int) + 1) else 0) 10
theorem gXorS_congr9 {F F' : Nat → Int} : ∀ {n : Nat}, (∀ i, i < n → F i = F' i) → gXorS F n = gXorS F' n
  | 0, _ => rfl
  | n + 1, h => by
    show gXr (gXorS F n) (F n) = gXr (gXorS F' n) (F' n)
    rw [gXorS_congr9 (fun i hi => h i (by omega)), h n (by omega)]
theorem gXorS_nn {F : Nat → Int} : ∀ n, 0 ≤ gXorS F n
  | 0 => Int.le_refl _
  | _ + 1 => gXr_nn _ _
theorem gXorS_up {F : Nat → Int} {j : Nat} {v : Int} (hF : ∀ i, 0 ≤ F i) (hv : 0 ≤ v) : ∀ {n : Nat}, j < n → gXorS (eUp F j v) n = gXr (gXr (gXorS F n) (F j)) v
  | 0, h => absurd h (Nat.not_lt_zero _)
  | n + 1, h => by
    show gXr (gXorS (eUp F j v) n) (eUp F j v n) = gXr (gXr (gXr (gXorS F n) (F n)) (F j)) v
    by_cases e : j = n
    · subst e
      rw [eUp_eq rfl, gXorS_congr9 (F := eUp F j v) (F' := F) (fun i hi => eUp_ne (by omega)), gXr_assoc (gXorS F j) (F j) (F j), gXr_self, gXr_zero (gXorS_nn j)]
    · rw [eUp_ne (by omega), gXorS_up hF hv (by omega : j < n), gXr_assoc, gXr_comm v (F n), ← gXr_assoc, gXr_assoc (gXorS F n) (F j) (F n), gXr_comm (F j) (F n), ← gXr_assoc]
theorem wX_A {D : Int → Int} {F : Nat → Int} {s v : Int} (hs : 0 ≤ s ∧ s ≤ 10) (hv : v = 1 ∨ v = -1) : wX D (wA F s v) = gXr (wX D F) (gvv D s) := by
  by_cases h0 : s = 0
  · subst h0
    rw [gvv_0, gXr_zero (show 0 ≤ wX D F from gXorS_nn 10)]; rfl
  · have h1 : 1 ≤ s ∧ s ≤ 10 := by omega
    have hA : wA F s v = eUp F (s - 1).toNat (F (s - 1).toNat + v) := if_pos h1
    rw [hA]
    unfold wX
    have e : gXorS (fun i => if eUp F (s - 1).toNat (F (s - 1).toNat + v) i % 2 = 1 then gvv D ((i : Int) + 1) else 0) 10 = gXorS (eUp (fun i => if F i % 2 = 1 then gvv D ((i : Int) + 1) else 0) (s - 1).toNat (if F (s - 1).toNat % 2 = 1 then 0 else gvv D s)) 10 := by
      refine gXorS_congr9 (fun i hi => ?_)
      by_cases ei : i = (s - 1).toNat
      · rw [ei, eUp_eq rfl, eUp_eq rfl, show (((s - 1).toNat : Nat) : Int) + 1 = s by omega]
        by_cases hp : F (s - 1).toNat % 2 = 1
        · rw [if_pos hp, if_neg (by omega)]
        · rw [if_neg hp, if_pos (by omega)]
      · rw [eUp_ne ei, eUp_ne ei]
    rw [e, gXorS_up (fun i => by split; exact gvv_nn _; exact Int.le_refl _) (by split; exact Int.le_refl _; exact gvv_nn _) (by omega : (s - 1).toNat < 10)]
    show gXr (gXr (gXorS _ 10) (if F (s - 1).toNat % 2 = 1 then gvv D ((((s - 1).toNat : Nat) : Int) + 1) else 0)) _ = _
    rw [show (((s - 1).toNat : Nat) : Int) + 1 = s by omega]
    by_cases hp : F (s - 1).toNat % 2 = 1
    · rw [if_pos hp, if_pos hp, gXr_zero (gXr_nn _ _)]
    · rw [if_neg hp, if_neg hp, gXr_zero (gXorS_nn 10)]
/-- the crowd behind a scoop -/
def wB (F : Nat → Int) (s t l : Int) : Nat → Int := wA (wA (wA F s (-1)) l 1) (s - t - l) 1
theorem wB_C {F : Nat → Int} {s t l : Int} (hs : 1 ≤ s ∧ s ≤ 10) (ht : 1 ≤ t) (hl : 0 ≤ l ∧ l ≤ s - t) : wC (wB F s t l) = wC F - wO s + wO l + wO (s - t - l) := by
  unfold wB
  rw [wC_A (by omega), wC_A (by omega), wC_A (by omega)]
  omega
theorem wB_T {F : Nat → Int} {s t l : Int} (hs : 1 ≤ s ∧ s ≤ 10) (ht : 1 ≤ t) (hl : 0 ≤ l ∧ l ≤ s - t) : wT (wB F s t l) = wT F - t := by
  unfold wB
  rw [wT_A (by omega), wT_A (by omega), wT_A (by omega)]
  omega
theorem wB_V {F : Nat → Int} {s t l : Int} (hF : wV F) (hs : 1 ≤ s ∧ s ≤ 10) (ht : 1 ≤ t) (hl : 0 ≤ l ∧ l ≤ s - t) (h1 : F (s - 1).toNat ≠ 0) : wV (wB F s t l) := by
  have hn := wV_n hF
  refine wV_i ?_ (by rw [wB_T hs ht hl]; have := hF.2; omega)
  have a1 : wN (wA F s (-1)) := wN_A hn (fun _ _ => by have := wV_at hF hs; omega)
  have a2 : wN (wA (wA F s (-1)) l 1) := wN_A a1 (fun h2 h3 => by have := a1 (l - 1).toNat (by omega); omega)
  exact wN_A a2 (fun h2 h3 => by have := a2 (s - t - l - 1).toNat (by omega); omega)
theorem wB_X {D : Int → Int} {F : Nat → Int} {s t l : Int} (hs : 1 ≤ s ∧ s ≤ 10) (ht : 1 ≤ t) (hl : 0 ≤ l ∧ l ≤ s - t) : wX D (wB F s t l) = gXr (gXr (wX D F) (gvv D s)) (gXr (gvv D l) (gvv D (s - t - l))) := by
  unfold wB
  rw [wX_A (by omega) (Or.inl rfl), wX_A (by omega) (Or.inl rfl), wX_A (by omega) (Or.inr rfl), gXr_assoc]
/-- whether the crowd is won -/
def wW (D : Int → Int) (F : Nat → Int) : Bool := decide (wX D F ≠ 0)
theorem wW_lose {D : Int → Int} {F : Nat → Int} (h : wX D F = 0) {s t l : Int} (hs : 1 ≤ s ∧ s ≤ 10) (ht : 1 ≤ t ∧ t ≤ 6) (hl : 0 ≤ l ∧ l ≤ s - t) (hL : gLets D s t l = true) : wW D (wB F s t l) = true := by
  refine decide_eq_true (fun e => ?_)
  rw [wB_X hs ht.1 hl, h, gXr_comm 0, gXr_zero (gvv_nn s)] at e
  have e2 := (gXr_eq0 (gvv_nn s) (gXr_nn _ _)).mp e
  have h1 := gv_hasnt (D := D) (m := s) (by omega)
  have h2 : gOpt D (gvv D) s (gvv D s) = true := gOpt_iff.mpr ⟨t, ht.1, ht.2, l, hL, e2.symm⟩
  rw [h1] at h2; exact absurd h2 (by decide)
theorem wW_win {D : Int → Int} {F : Nat → Int} (h : wX D F ≠ 0) : ∃ s, (1 ≤ s ∧ s ≤ 10) ∧ F (s - 1).toNat ≠ 0 ∧ ∃ t l, (1 ≤ t ∧ t ≤ 6) ∧ (0 ≤ l ∧ l ≤ s - t) ∧ gLets D s t l = true ∧ wW D (wB F s t l) = false := by
  obtain ⟨i, hi, h0, h1⟩ := gXorS_less (F := fun i => if F i % 2 = 1 then gvv D ((i : Int) + 1) else 0) (n := 10) (fun i _ => by show 0 ≤ (if F i % 2 = 1 then gvv D ((i : Int) + 1) else 0) ∧ (if F i % 2 = 1 then gvv D ((i : Int) + 1) else 0) ≤ 31; have := gvv_30 (D := D) ((i : Int) + 1); split <;> omega) h
  have h1 : gXr (if F i % 2 = 1 then gvv D ((i : Int) + 1) else 0) (wX D F) < (if F i % 2 = 1 then gvv D ((i : Int) + 1) else 0) := h1
  by_cases hp : F i % 2 = 1
  · rw [if_pos hp] at h1
    obtain ⟨t, t1, t2, l, hL, hx⟩ := gOpt_iff.mp (gv_has (D := D) (m := (i : Int) + 1) (by omega) (gXr_nn _ _) h1)
    have hl := gLets_iff.mp hL
    refine ⟨(i : Int) + 1, by omega, by rw [show ((i : Int) + 1 - 1).toNat = i by omega]; omega, t, l, ⟨t1, t2⟩, by omega, hL, ?_⟩
    refine decide_eq_false (fun e => e ?_)
    rw [wB_X (by omega) t1 (by omega), hx, gXr_comm (gvv D ((i : Int) + 1)) (wX D F), gXr_self]
  · rw [if_neg hp] at h1
    have := gXr_nn 0 (wX D F)
    omega
theorem wX_congr {D : Int → Int} {F F' : Nat → Int} (h : ∀ i, i < 10 → F i = F' i) : wX D F = wX D F' := gXorS_congr9 (fun i hi => by show (if F i % 2 = 1 then _ else (0 : Int)) = (if F' i % 2 = 1 then _ else 0); rw [h i hi])
/-! long arithmetic of crowds -/
theorem wO_le (s : Int) : 0 ≤ wO s ∧ wO s ≤ 68719476736 := by
  by_cases h : 0 ≤ s ∧ s ≤ 10
  · rcases wTen h with e | e | e | e | e | e | e | e | e | e | e <;> subst e <;> decide
  · have e : wO s = 0 := if_neg (by omega)
    rw [e]; decide
theorem wO_shl {s : Int} (h : 1 ≤ s ∧ s ≤ 10) : Int64.ofInt 1 <<< ((Int32.ofInt (4 * (s - 1))).toInt64 &&& 63) = Int64.ofInt (wO s) := by
  rcases wTen (s := s) (by omega) with e | e | e | e | e | e | e | e | e | e | e <;> subst e
  · omega
  all_goals decide
theorem eAndL (a b : Nat) : Int64.ofInt (a : Int) &&& Int64.ofInt (b : Int) = Int64.ofInt ((a &&& b : Nat) : Int) := by
  rw [← Int64.toBitVec_inj, Int64.toBitVec_and]
  simp only [Int64.toBitVec_ofInt, BitVec.ofInt_natCast]
  rw [BitVec.ofNat_and]
theorem eAnd15 (n i : Nat) : n &&& (15 * 2 ^ (4 * i)) = (n / 2 ^ (4 * i) % 16) * 2 ^ (4 * i) := by
  apply Nat.eq_of_testBit_eq
  intro j
  rw [Nat.testBit_and, Nat.testBit_mul_two_pow, Nat.testBit_mul_two_pow, show (16 : Nat) = 2 ^ 4 from rfl, Nat.testBit_mod_two_pow, Nat.testBit_div_two_pow, show (15 : Nat) = 2 ^ 4 - 1 from rfl, Nat.testBit_two_pow_sub_one]
  by_cases h : 4 * i ≤ j
  · rw [show j - 4 * i + 4 * i = j by omega]
    simp [h, Bool.and_comm]
  · simp [h]
theorem wAnd_i {c f : Int} {i : Nat} (hc : 0 ≤ c) (p : Nat) (hp : p = 2 ^ (4 * i)) (hf : ((c.toNat / p % 16 : Nat) : Int) = f) : Int64.ofInt c &&& Int64.ofInt ((p : Int) * 15) = Int64.ofInt (f * (p : Int)) := by
  have e := eAndL c.toNat (15 * p)
  have e2 : c.toNat &&& 15 * p = c.toNat / p % 16 * p := by rw [hp]; exact eAnd15 _ _
  rw [e2, Int.toNat_of_nonneg hc, show (((15 * p : Nat)) : Int) = (p : Int) * 15 by omega, Int.natCast_mul, hf] at e
  exact e
theorem wDig {c f lo hi : Int} {p : Nat} (hp : 0 < p) (hlo : 0 ≤ lo ∧ lo < p) (hf : 0 ≤ f ∧ f < 16) (hhi : 0 ≤ hi) (hc : c = lo + p * (f + 16 * hi)) : ((c.toNat / p % 16 : Nat) : Int) = f := by
  obtain ⟨a, ea⟩ := Int.eq_ofNat_of_zero_le hlo.1
  obtain ⟨g, eg⟩ := Int.eq_ofNat_of_zero_le hf.1
  obtain ⟨b, eb⟩ := Int.eq_ofNat_of_zero_le hhi
  subst ea; subst eg; subst eb
  have e : c.toNat = a + p * (g + 16 * b) := by
    have e1 : c = ((a + p * (g + 16 * b) : Nat) : Int) := by rw [hc]; simp only [Int.natCast_add, Int.natCast_mul, Int.cast_ofNat_Int]
    rw [e1, Int.toNat_natCast]
  rw [e, Nat.add_mul_div_left _ _ hp, Nat.div_eq_of_lt (by omega)]
  omega
theorem wAnd {F : Nat → Int} (h : wV F) {s : Int} (hs : 1 ≤ s ∧ s ≤ 10) : Int64.ofInt (wC F) &&& Int64.ofInt (wO s * 15) = Int64.ofInt (F (s - 1).toNat * wO s) := by
  have hc := wV_lt h
  obtain ⟨⟨h0, h1, h2, h3, h4, h5, h6, h7, h8, h9⟩, ht⟩ := h
  unfold wT at ht
  have hC : wC F = F 0 + 16 * F 1 + 256 * F 2 + 4096 * F 3 + 65536 * F 4 + 1048576 * F 5 + 16777216 * F 6 + 268435456 * F 7 + 4294967296 * F 8 + 68719476736 * F 9 := rfl
  rcases wTen (s := s) (by omega) with e | e | e | e | e | e | e | e | e | e | e <;> subst e
  · omega
  · exact wAnd_i (i := 0) hc.1 1 rfl (wDig (f := F 0) (lo := 0) (hi := 1 * F 1 + 16 * F 2 + 256 * F 3 + 4096 * F 4 + 65536 * F 5 + 1048576 * F 6 + 16777216 * F 7 + 268435456 * F 8 + 4294967296 * F 9) (by decide) (by omega) (by omega) (by omega) (by rw [hC]; omega))
  · exact wAnd_i (i := 1) hc.1 16 rfl (wDig (f := F 1) (lo := 1 * F 0) (hi := 1 * F 2 + 16 * F 3 + 256 * F 4 + 4096 * F 5 + 65536 * F 6 + 1048576 * F 7 + 16777216 * F 8 + 268435456 * F 9) (by decide) (by omega) (by omega) (by omega) (by rw [hC]; omega))
  · exact wAnd_i (i := 2) hc.1 256 rfl (wDig (f := F 2) (lo := 1 * F 0 + 16 * F 1) (hi := 1 * F 3 + 16 * F 4 + 256 * F 5 + 4096 * F 6 + 65536 * F 7 + 1048576 * F 8 + 16777216 * F 9) (by decide) (by omega) (by omega) (by omega) (by rw [hC]; omega))
  · exact wAnd_i (i := 3) hc.1 4096 rfl (wDig (f := F 3) (lo := 1 * F 0 + 16 * F 1 + 256 * F 2) (hi := 1 * F 4 + 16 * F 5 + 256 * F 6 + 4096 * F 7 + 65536 * F 8 + 1048576 * F 9) (by decide) (by omega) (by omega) (by omega) (by rw [hC]; omega))
  · exact wAnd_i (i := 4) hc.1 65536 rfl (wDig (f := F 4) (lo := 1 * F 0 + 16 * F 1 + 256 * F 2 + 4096 * F 3) (hi := 1 * F 5 + 16 * F 6 + 256 * F 7 + 4096 * F 8 + 65536 * F 9) (by decide) (by omega) (by omega) (by omega) (by rw [hC]; omega))
  · exact wAnd_i (i := 5) hc.1 1048576 rfl (wDig (f := F 5) (lo := 1 * F 0 + 16 * F 1 + 256 * F 2 + 4096 * F 3 + 65536 * F 4) (hi := 1 * F 6 + 16 * F 7 + 256 * F 8 + 4096 * F 9) (by decide) (by omega) (by omega) (by omega) (by rw [hC]; omega))
  · exact wAnd_i (i := 6) hc.1 16777216 rfl (wDig (f := F 6) (lo := 1 * F 0 + 16 * F 1 + 256 * F 2 + 4096 * F 3 + 65536 * F 4 + 1048576 * F 5) (hi := 1 * F 7 + 16 * F 8 + 256 * F 9) (by decide) (by omega) (by omega) (by omega) (by rw [hC]; omega))
  · exact wAnd_i (i := 7) hc.1 268435456 rfl (wDig (f := F 7) (lo := 1 * F 0 + 16 * F 1 + 256 * F 2 + 4096 * F 3 + 65536 * F 4 + 1048576 * F 5 + 16777216 * F 6) (hi := 1 * F 8 + 16 * F 9) (by decide) (by omega) (by omega) (by omega) (by rw [hC]; omega))
  · exact wAnd_i (i := 8) hc.1 4294967296 rfl (wDig (f := F 8) (lo := 1 * F 0 + 16 * F 1 + 256 * F 2 + 4096 * F 3 + 65536 * F 4 + 1048576 * F 5 + 16777216 * F 6 + 268435456 * F 7) (hi := 1 * F 9) (by decide) (by omega) (by omega) (by omega) (by rw [hC]; omega))
  · exact wAnd_i (i := 9) hc.1 68719476736 rfl (wDig (f := F 9) (lo := 1 * F 0 + 16 * F 1 + 256 * F 2 + 4096 * F 3 + 65536 * F 4 + 1048576 * F 5 + 16777216 * F 6 + 268435456 * F 7 + 4294967296 * F 8) (hi := 0) (by decide) (by omega) (by omega) (by omega) (by rw [hC]; omega))
theorem wO_1 {s : Int} (hs : 1 ≤ s ∧ s ≤ 10) : 1 ≤ wO s := by
  rcases wTen (s := s) (by omega) with e | e | e | e | e | e | e | e | e | e | e <;> subst e
  · omega
  all_goals decide
theorem wFO {F : Nat → Int} (h : wV F) {s : Int} (hs : 1 ≤ s ∧ s ≤ 10) : (F (s - 1).toNat = 0 ∧ F (s - 1).toNat * wO s = 0) ∨ (F (s - 1).toNat ≠ 0 ∧ 0 < F (s - 1).toNat * wO s) := by
  have h1 := wV_at h hs
  have h2 := wO_1 hs
  by_cases e : F (s - 1).toNat = 0
  · exact Or.inl ⟨e, by rw [e, Int.zero_mul]⟩
  · exact Or.inr ⟨e, Int.mul_pos (by omega) (by omega)⟩
theorem wFO_le {F : Nat → Int} (h : wV F) {s : Int} (hs : 1 ≤ s ∧ s ≤ 10) : F (s - 1).toNat * wO s ≤ 687194767360 := by
  have h1 := wV_at h hs
  have h2 := wO_le s
  have h3 : F (s - 1).toNat * wO s ≤ 10 * wO s := Int.mul_le_mul_of_nonneg_right h1.2.1 h2.1
  omega
def wcmp (a b : Int) : Int := if b < a then 1 else if a = b then 0 else -1
theorem wcmp_c (a b : Int) : (a = b ∧ wcmp a b = 0) ∨ (a ≠ b ∧ (wcmp a b = 1 ∨ wcmp a b = -1)) := by
  unfold wcmp
  split
  · exact Or.inr ⟨by omega, Or.inl rfl⟩
  · split
    · exact Or.inl ⟨by assumption, rfl⟩
    · exact Or.inr ⟨by assumption, Or.inr rfl⟩
theorem wcmp_ok {a b : Int} (ha : 0 ≤ a ∧ a ≤ 1099511627776) (hb : 0 ≤ b ∧ b ≤ 1099511627776) : lg_cmp (Int64.ofInt a) (Int64.ofInt b) = Int32.ofInt (wcmp a b) := by
  have ea : (Int64.ofInt a).toInt = a := Int64.toInt_ofInt_of_le (by omega) (by omega)
  have eb : (Int64.ofInt b).toInt = b := Int64.toInt_ofInt_of_le (by omega) (by omega)
  unfold lg_cmp wcmp
  by_cases h : b < a
  · rw [if_pos h, if_pos (show Int64.ofInt a > Int64.ofInt b by rw [gt_iff_lt, Int64.lt_iff_toInt_lt, ea, eb]; exact h)]; rfl
  · rw [if_neg h, if_neg (show ¬ Int64.ofInt a > Int64.ofInt b by rw [gt_iff_lt, Int64.lt_iff_toInt_lt, ea, eb]; exact h)]
    by_cases h2 : a = b
    · rw [if_pos h2, if_pos (by rw [h2])]; rfl
    · rw [if_neg h2, if_neg (fun e => h2 (by rw [← ea, ← eb, e]))]; rfl
theorem wW_eq {D : Int → Int} {F F' : Nat → Int} (h : wV F) (h' : wV F') (e : wC F = wC F') : wW D F = wW D F' := by
  unfold wW
  rw [wX_congr (wC_inj h h' e)]
/-- the crowd of the pits -/
def wF (G : eGd) : Nat → (Nat → Int)
  | 0 => fun _ => 0
  | k + 1 => wA (wF G k) (G.1 k) 1
theorem wF_T {G : eGd} : ∀ {k : Nat}, (∀ i, i < k → 1 ≤ G.1 i ∧ G.1 i ≤ 10) → wT (wF G k) = gSum G.1 k
  | 0, _ => rfl
  | k + 1, h => by
    have h1 := h k (by omega)
    show wT (wA (wF G k) (G.1 k) 1) = gSum G.1 k + G.1 k
    rw [wT_A (by omega), wF_T (fun i hi => h i (by omega))]; omega
theorem wF_C {G : eGd} {k : Nat} (h : 1 ≤ G.1 k ∧ G.1 k ≤ 10) : wC (wF G (k + 1)) = wC (wF G k) + wO (G.1 k) := by
  show wC (wA (wF G k) (G.1 k) 1) = _
  rw [wC_A (by omega)]; omega
theorem wF_N {G : eGd} : ∀ {k : Nat}, wN (wF G k)
  | 0 => fun _ _ => Int.le_refl _
  | k + 1 => wN_A wF_N (fun h2 h3 => by have := (wF_N (G := G) (k := k)) (G.1 k - 1).toNat (by omega); omega)
theorem wX_0 {D : Int → Int} : wX D (fun _ => 0) = 0 := by
  have : ∀ n : Nat, gXorS (fun i => if (0 : Int) % 2 = 1 then gvv D ((i : Int) + 1) else 0) n = 0 := by
    intro n
    induction n with
    | zero => rfl
    | succ n ih =>
      show gXr (gXorS _ n) (if (0 : Int) % 2 = 1 then gvv D ((n : Int) + 1) else 0) = 0
      rw [ih, if_neg (by decide)]; rfl
  exact this 10
theorem wF_X {D : Int → Int} {G : eGd} : ∀ {k : Nat}, (∀ i, i < k → 1 ≤ G.1 i ∧ G.1 i ≤ 10) → wX D (wF G k) = gXorS (fun i => gvv D (G.1 i)) k
  | 0, _ => wX_0
  | k + 1, h => by
    have h1 := h k (by omega)
    show wX D (wA (wF G k) (G.1 k) 1) = gXr (gXorS (fun i => gvv D (G.1 i)) k) (gvv D (G.1 k))
    rw [wX_A (by omega) (Or.inl rfl), wF_X (fun i hi => h i (by omega))]
