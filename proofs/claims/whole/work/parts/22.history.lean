/-! the history at the name y: its row at y + 1, its gardens at y + 2 + 4 i -/
def gH (h : eHp) (y : Nat) (a s : Int) (Ks : Nat → eGd) : Prop := h y = .inr (5, [.ref (y + 1), vI a, vI s]) ∧ (∃ f, h (y + 1) = .inl (5, 8, .inr (.inr (.inr (.inr f)))) ∧ ∀ i, i < 8 → f i = some (y + 2 + 4 * i)) ∧ ∀ i, i < 8 → gG h (y + 2 + 4 * i) (Ks i)
def gBec (O G : eGd) : eGd := (eCp O.1 G.1 0 0 40, eCp O.2.1 G.2.1 0 0 6, eCp O.2.2.1 G.2.2.1 0 0 8, O.2.2.2)
def gUK (Ks : Nat → eGd) (i : Nat) (G : eGd) : Nat → eGd := fun j => if j = i then G else Ks j
theorem gH_o {h h' : eHp} {y : Nat} {a s a' s' : Int} {Ks : Nat → eGd} (hh : gH h y a s Ks) (e : h' y = .inr (5, [.ref (y + 1), vI a', vI s'])) (o : ∀ i, i ≠ y → h' i = h i) : gH h' y a' s' Ks := by
  obtain ⟨h1, ⟨f, h2, h3⟩, h4⟩ := hh
  exact ⟨e, ⟨f, by rw [o _ (by omega)]; exact h2, h3⟩, fun i hi => gG_k (h4 i hi) (fun j a b => o j (by omega))⟩
theorem gH_g {h h' : eHp} {y : Nat} {a s : Int} {Ks : Nat → eGd} {i : Nat} {G : eGd} (hh : gH h y a s Ks) (hg : gG h' (y + 2 + 4 * i) G) (o : ∀ j, (j < y + 2 + 4 * i ∨ y + 2 + 4 * i + 3 < j) → h' j = h j) : gH h' y a s (gUK Ks i G) := by
  obtain ⟨h1, ⟨f, h2, h3⟩, h4⟩ := hh
  refine ⟨by rw [o _ (by omega)]; exact h1, ⟨f, by rw [o _ (by omega)]; exact h2, h3⟩, fun j hj => ?_⟩
  unfold gUK
  by_cases hij : j = i
  · rw [if_pos hij, hij]; exact hg
  · rw [if_neg hij]; exact gG_k (h4 j hj) (fun k a b => o k (by omega))
theorem gH_k {h h' : eHp} {y : Nat} {a s : Int} {Ks : Nat → eGd} (hh : gH h y a s Ks) (o : ∀ j, y ≤ j → j ≤ y + 33 → h' j = h j) : gH h' y a s Ks := by
  obtain ⟨h1, ⟨f, h2, h3⟩, h4⟩ := hh
  exact ⟨by rw [o _ (by omega) (by omega)]; exact h1, ⟨f, by rw [o _ (by omega) (by omega)]; exact h2, h3⟩, fun i hi => gG_k (h4 i hi) (fun j a b => o j (by omega) (by omega))⟩
/-- the place so far behind the oldest -/
def gPl (a b : Int) : Int := match decide (a + b < 8) with | true => a + b | false => a + b - 8
theorem h_size {d N : Nat} {h : eHp} {y : Nat} {a s : Int} {Ks : Nat → eGd} (hh : gH h y a s Ks) (hN : y + 34 ≤ N) (ha : 0 ≤ a ∧ a < 8) (hs : 0 ≤ s ∧ s ≤ 8)  : eSp (d + 1) eM_X1_size [.ref y] N h (eRet (some (vI s)) N h) := by
  refine eSp_of [(0, .ref y)] rfl rfl ?_
  refine eW_aload_n 1 rfl rfl rfl ?_
  refine eW_getfield 4 rfl rfl (Nat.ble_eq_true_of_le (by omega)) rfl (show h y = .inr (5, [.ref (y + 1), vI a, vI s]) from hh.1) rfl ⟨rfl, fun _ h9 => nomatch h9⟩ ?_
  refine eW_ret_i rfl rfl (Or.inl rfl) ?_
  rfl
theorem h_forget {d N : Nat} {h : eHp} {y : Nat} {a s : Int} {Ks : Nat → eGd} (hh : gH h y a s Ks) (hN : y + 34 ≤ N) (ha : 0 ≤ a ∧ a < 8) (hs : 0 ≤ s ∧ s ≤ 8)  : eSp (d + 1) eM_X1_forget [.ref y] N h (eChg none N (fun h' => gH h' y a 0 Ks ∧ ∀ i, (i < y ∨ y + 33 < i) → h' i = h i)) := by
  refine eSp_of [(0, .ref y)] rfl rfl ?_
  refine eW_aload_n 1 rfl rfl rfl ?_
  refine eW_iconst 2 rfl rfl ?_
  refine eW_putfield 5 [.ref (y + 1), vI a, vI 0] rfl rfl (Nat.ble_eq_true_of_le (by omega)) rfl (show h y = .inr (5, [.ref (y + 1), vI a, vI s]) from hh.1) rfl rfl ?_
  intro h1 eh1 oh1
  have hhh1 : gH h1 y a 0 Ks := gH_o hh eh1 oh1
  have uh1 : ∀ i, (i < y ∨ y + 33 < i) → h1 i = h i := fun i hi => (oh1 i (by omega)).trans ((fun _ _ => rfl) i hi)
  refine eW_ret rfl rfl ?_
  exact ⟨_, rfl, hhh1, uh1⟩
theorem h_keptAt {d N : Nat} {h : eHp} {y : Nat} {a s : Int} {Ks : Nat → eGd} (hh : gH h y a s Ks) (hN : y + 34 ≤ N) (ha : 0 ≤ a ∧ a < 8) (hs : 0 ≤ s ∧ s ≤ 8) {b : Int} (hb : 0 ≤ b ∧ b < 8) : eSp (d + 1) eM_X1_keptAt [.ref y, vI b] N h (eRet (some (.ref (y + 2 + 4 * (gPl a b).toNat))) N h) := by
  refine eSp_of [(0, .ref y), (1, vI b)] rfl rfl ?_
  obtain ⟨fr, hrowh⟩ := hh.2.1
  refine eW_aload_n 1 rfl rfl rfl ?_
  refine eW_getfield 4 rfl rfl (Nat.ble_eq_true_of_le (by omega)) rfl (show h y = .inr (5, [.ref (y + 1), vI a, vI s]) from hh.1) rfl ⟨rfl, fun _ h9 => nomatch h9⟩ ?_
  refine eW_iload_n 5 rfl rfl rfl ?_
  refine eW_iadd 6 rfl rfl ?_
  refine eW_bipush 8 rfl rfl 8 rfl ?_
  refine eW_icmp_ge 11 rfl rfl (by unfold i32; omega) (by unfold i32; omega) (fun c1 => ?_) (fun c1 => ?_)
  · refine eW_aload_n 21 rfl rfl rfl ?_
    refine eW_getfield 24 rfl rfl (Nat.ble_eq_true_of_le (by omega)) rfl (show h y = .inr (5, [.ref (y + 1), vI a, vI s]) from hh.1) rfl ⟨rfl, fun _ h9 => nomatch h9⟩ ?_
    refine eW_iload_n 25 rfl rfl rfl ?_
    refine eW_iadd 26 rfl rfl ?_
    refine eW_bipush 28 rfl rfl 8 rfl ?_
    refine eW_isub 29 rfl rfl ?_
    refine eW_istore_n 30 rfl rfl [(2, vI ((a + b) - 8)), (0, .ref y), (1, vI b)] rfl rfl ?_
    refine eW_iload_n 31 rfl rfl rfl ?_
    refine eW_if_lt 34 rfl rfl (by unfold i32; omega) (fun c2 => absurd c2 (by omega)) (fun c2 => ?_)
    refine eW_iload_n 35 rfl rfl rfl ?_
    refine eW_bipush 37 rfl rfl 8 rfl ?_
    refine eW_icmp_ge 40 rfl rfl (by unfold i32; omega) (by unfold i32; omega) (fun c3 => absurd c3 (by omega)) (fun c3 => ?_)
    refine eW_aload_n 41 rfl rfl rfl ?_
    refine eW_getfield 44 rfl rfl (Nat.ble_eq_true_of_le (by omega)) rfl (show h y = .inr (5, [.ref (y + 1), vI a, vI s]) from hh.1) rfl ⟨rfl, fun _ h9 => nomatch h9⟩ ?_
    refine eW_iload_n 45 rfl rfl rfl ?_
    refine eW_aaload 46 rfl rfl (Nat.ble_eq_true_of_le (by omega)) hrowh.1 (by omega) (by omega) (by unfold i32; omega) (hrowh.2 _ (by omega)) ?_
    refine eW_goto rfl ?_
    refine eW_ret_a rfl rfl ?_
    show eRet _ _ _ _
    first | (rw [show gPl a b = a + b by unfold gPl; rw [decide_eq_true (by omega)]]; rfl) | (rw [show gPl a b = a + b - 8 by unfold gPl; rw [decide_eq_false (by omega)]]; rfl)
  · refine eW_aload_n 12 rfl rfl rfl ?_
    refine eW_getfield 15 rfl rfl (Nat.ble_eq_true_of_le (by omega)) rfl (show h y = .inr (5, [.ref (y + 1), vI a, vI s]) from hh.1) rfl ⟨rfl, fun _ h9 => nomatch h9⟩ ?_
    refine eW_iload_n 16 rfl rfl rfl ?_
    refine eW_iadd 17 rfl rfl ?_
    refine eW_goto rfl ?_
    refine eW_istore_n 30 rfl rfl [(2, vI (a + b)), (0, .ref y), (1, vI b)] rfl rfl ?_
    refine eW_iload_n 31 rfl rfl rfl ?_
    refine eW_if_lt 34 rfl rfl (by unfold i32; omega) (fun c4 => absurd c4 (by omega)) (fun c4 => ?_)
    refine eW_iload_n 35 rfl rfl rfl ?_
    refine eW_bipush 37 rfl rfl 8 rfl ?_
    refine eW_icmp_ge 40 rfl rfl (by unfold i32; omega) (by unfold i32; omega) (fun c5 => absurd c5 (by omega)) (fun c5 => ?_)
    refine eW_aload_n 41 rfl rfl rfl ?_
    refine eW_getfield 44 rfl rfl (Nat.ble_eq_true_of_le (by omega)) rfl (show h y = .inr (5, [.ref (y + 1), vI a, vI s]) from hh.1) rfl ⟨rfl, fun _ h9 => nomatch h9⟩ ?_
    refine eW_iload_n 45 rfl rfl rfl ?_
    refine eW_aaload 46 rfl rfl (Nat.ble_eq_true_of_le (by omega)) hrowh.1 (by omega) (by omega) (by unfold i32; omega) (hrowh.2 _ (by omega)) ?_
    refine eW_goto rfl ?_
    refine eW_ret_a rfl rfl ?_
    show eRet _ _ _ _
    first | (rw [show gPl a b = a + b by unfold gPl; rw [decide_eq_true (by omega)]]; rfl) | (rw [show gPl a b = a + b - 8 by unfold gPl; rw [decide_eq_false (by omega)]]; rfl)
theorem gPl_le {a b : Int} (ha : 0 ≤ a ∧ a < 8) (hb : 0 ≤ b ∧ b < 8) : 0 ≤ gPl a b ∧ gPl a b < 8 := by
  unfold gPl
  by_cases h : a + b < 8
  · rw [decide_eq_true h]; dsimp only; omega
  · rw [decide_eq_false h]; dsimp only; omega
def gKeep (a s : Int) (Ks : Nat → eGd) (G : eGd) : Int × Int × (Nat → eGd) := match decide (s = 8) with
  | false => (a, s + 1, gUK Ks (gPl a s).toNat (gBec G (Ks (gPl a s).toNat)))
  | true => match decide (a + 1 < 8) with
    | true => (a + 1, s - 1 + 1, gUK Ks (gPl (a + 1) (s - 1)).toNat (gBec G (Ks (gPl (a + 1) (s - 1)).toNat)))
    | false => (0, s - 1 + 1, gUK Ks (gPl 0 (s - 1)).toNat (gBec G (Ks (gPl 0 (s - 1)).toNat)))
theorem h_keep {d N : Nat} {h : eHp} {y : Nat} {a s : Int} {Ks : Nat → eGd} (hh : gH h y a s Ks) (hN : y + 34 ≤ N) (ha : 0 ≤ a ∧ a < 8) (hs : 0 ≤ s ∧ s ≤ 8) {g : Nat} {G : eGd} (hg : gG h g G) (hN2 : g + 4 ≤ N) (hd : g + 3 < y ∨ y + 33 < g) : eSp (d + 2) eM_X1_keep [.ref y, .ref g] N h (eChg none N (fun h' => gH h' y (gKeep a s Ks G).1 (gKeep a s Ks G).2.1 (gKeep a s Ks G).2.2 ∧ ∀ i, (i < y ∨ y + 33 < i) → h' i = h i)) := by
  refine eSp_of [(0, .ref y), (1, .ref g)] rfl rfl ?_
  refine eW_aload_n 1 rfl rfl rfl ?_
  refine eW_getfield 4 rfl rfl (Nat.ble_eq_true_of_le (by omega)) rfl (show h y = .inr (5, [.ref (y + 1), vI a, vI s]) from hh.1) rfl ⟨rfl, fun _ h9 => nomatch h9⟩ ?_
  refine eW_bipush 6 rfl rfl 8 rfl ?_
  refine eW_icmp_ne 9 rfl rfl (by unfold i32; omega) (by unfold i32; omega) (fun c1 => ?_) (fun c1 => ?_)
  · refine eW_aload_n 45 rfl rfl rfl ?_
    refine eW_aload_n 46 rfl rfl rfl ?_
    refine eW_getfield 49 rfl rfl (Nat.ble_eq_true_of_le (by omega)) rfl (show h y = .inr (5, [.ref (y + 1), vI a, vI s]) from hh.1) rfl ⟨rfl, fun _ h9 => nomatch h9⟩ ?_
    have hpl := gPl_le (a := a) (b := s) (by omega) (by omega)
    refine eW_callV 52 [.ref y, vI s] [] [.ref (y + 2 + 4 * (gPl a s).toNat)] rfl rfl rfl rfl (Nat.ble_eq_true_of_le (by omega)) (show h y = .inr (5, [.ref (y + 1), vI a, vI s]) from hh.1) rfl rfl rfl (h_keptAt (d := d + 0) (a := a) (s := s) hh hN (by omega) (by omega) (by omega)) rfl rfl ?_
    refine eW_astore_n 53 rfl rfl [(2, .ref (y + 2 + 4 * (gPl a s).toNat)), (0, .ref y), (1, .ref g)] rfl rfl ?_
    refine eW_aload_n 54 rfl rfl rfl ?_
    refine eW_ifnull 57 rfl rfl ?_
    refine eW_aload_n 58 rfl rfl rfl ?_
    refine eW_aload_n 59 rfl rfl rfl ?_
    refine eW_callVH 62 [.ref (y + 2 + 4 * (gPl a s).toNat), .ref g] [] [] rfl rfl rfl rfl (Nat.ble_eq_true_of_le (by omega)) (hh.2.2 (gPl a s).toNat (by omega)).1 rfl rfl rfl (g_become (d := d) (G := Ks (gPl a s).toNat) (hh.2.2 (gPl a s).toNat (by omega)) (by omega) (gG_k hg (fun i _ _ => (fun _ _ => rfl) i (by omega))) hN2 (by omega)) rfl rfl ?_
    intro h2 fh2
    have hhh2 : gH h2 y a s (gUK Ks ((gPl a s).toNat) (gBec G (Ks (gPl a s).toNat))) := gH_g hh fh2.1 fh2.2
    have uh2 : ∀ i, (i < y ∨ y + 33 < i) → h2 i = h i := fun i hi => (fh2.2 i (by omega)).trans ((fun _ _ => rfl) i hi)
    refine eW_aload_n 63 rfl rfl rfl ?_
    refine eW_dup 64 rfl rfl rfl ?_
    refine eW_getfield 67 rfl rfl (Nat.ble_eq_true_of_le (by omega)) rfl (show h2 y = .inr (5, [.ref (y + 1), vI a, vI s]) from hhh2.1) rfl ⟨rfl, fun _ h9 => nomatch h9⟩ ?_
    refine eW_iconst 68 rfl rfl ?_
    refine eW_iadd 69 rfl rfl ?_
    refine eW_putfield 72 [.ref (y + 1), vI a, vI (s + 1)] rfl rfl (Nat.ble_eq_true_of_le (by omega)) rfl (show h2 y = .inr (5, [.ref (y + 1), vI a, vI s]) from hhh2.1) rfl rfl ?_
    intro h3 eh3 oh3
    have hhh3 : gH h3 y a (s + 1) (gUK Ks ((gPl a s).toNat) (gBec G (Ks (gPl a s).toNat))) := gH_o hhh2 eh3 oh3
    have uh3 : ∀ i, (i < y ∨ y + 33 < i) → h3 i = h i := fun i hi => (oh3 i (by omega)).trans (uh2 i hi)
    refine eW_ret rfl rfl ?_
    have hM : gKeep a s Ks G = (a, s + 1, gUK Ks ((gPl a s).toNat) (gBec G (Ks (gPl a s).toNat))) := by
      unfold gKeep
      first | (rw [decide_eq_false (by omega : ¬ s = 8)]; (try rfl); done) | (rw [decide_eq_true (by omega : s = 8)]; dsimp only; rw [decide_eq_true (by omega : a + 1 < 8)]; (try rfl); done) | (rw [decide_eq_true (by omega : s = 8)]; dsimp only; rw [decide_eq_false (by omega : ¬ a + 1 < 8)]; (try rfl); done)
    exact ⟨_, rfl, by rw [hM]; exact hhh3, uh3⟩
  · refine eW_aload_n 10 rfl rfl rfl ?_
    refine eW_aload_n 11 rfl rfl rfl ?_
    refine eW_getfield 14 rfl rfl (Nat.ble_eq_true_of_le (by omega)) rfl (show h y = .inr (5, [.ref (y + 1), vI a, vI s]) from hh.1) rfl ⟨rfl, fun _ h9 => nomatch h9⟩ ?_
    refine eW_iconst 15 rfl rfl ?_
    refine eW_iadd 16 rfl rfl ?_
    refine eW_bipush 18 rfl rfl 8 rfl ?_
    refine eW_icmp_ge 21 rfl rfl (by unfold i32; omega) (by unfold i32; omega) (fun c4 => ?_) (fun c4 => ?_)
    · refine eW_iconst 31 rfl rfl ?_
      refine eW_putfield 34 [.ref (y + 1), vI 0, vI s] rfl rfl (Nat.ble_eq_true_of_le (by omega)) rfl (show h y = .inr (5, [.ref (y + 1), vI a, vI s]) from hh.1) rfl rfl ?_
      intro h5 eh5 oh5
      have hhh5 : gH h5 y 0 s Ks := gH_o hh eh5 oh5
      have uh5 : ∀ i, (i < y ∨ y + 33 < i) → h5 i = h i := fun i hi => (oh5 i (by omega)).trans ((fun _ _ => rfl) i hi)
      refine eW_aload_n 35 rfl rfl rfl ?_
      refine eW_dup 36 rfl rfl rfl ?_
      refine eW_getfield 39 rfl rfl (Nat.ble_eq_true_of_le (by omega)) rfl (show h5 y = .inr (5, [.ref (y + 1), vI 0, vI s]) from hhh5.1) rfl ⟨rfl, fun _ h9 => nomatch h9⟩ ?_
      refine eW_iconst 40 rfl rfl ?_
      refine eW_isub 41 rfl rfl ?_
      refine eW_putfield 44 [.ref (y + 1), vI 0, vI (s - 1)] rfl rfl (Nat.ble_eq_true_of_le (by omega)) rfl (show h5 y = .inr (5, [.ref (y + 1), vI 0, vI s]) from hhh5.1) rfl rfl ?_
      intro h6 eh6 oh6
      have hhh6 : gH h6 y 0 (s - 1) Ks := gH_o hhh5 eh6 oh6
      have uh6 : ∀ i, (i < y ∨ y + 33 < i) → h6 i = h i := fun i hi => (oh6 i (by omega)).trans (uh5 i hi)
      refine eW_aload_n 45 rfl rfl rfl ?_
      refine eW_aload_n 46 rfl rfl rfl ?_
      refine eW_getfield 49 rfl rfl (Nat.ble_eq_true_of_le (by omega)) rfl (show h6 y = .inr (5, [.ref (y + 1), vI 0, vI (s - 1)]) from hhh6.1) rfl ⟨rfl, fun _ h9 => nomatch h9⟩ ?_
      have hpl := gPl_le (a := 0) (b := s - 1) (by omega) (by omega)
      refine eW_callV 52 [.ref y, vI (s - 1)] [] [.ref (y + 2 + 4 * (gPl 0 (s - 1)).toNat)] rfl rfl rfl rfl (Nat.ble_eq_true_of_le (by omega)) (show h6 y = .inr (5, [.ref (y + 1), vI 0, vI (s - 1)]) from hhh6.1) rfl rfl rfl (h_keptAt (d := d + 0) (a := 0) (s := s - 1) hhh6 hN (by omega) (by omega) (by omega)) rfl rfl ?_
      refine eW_astore_n 53 rfl rfl [(2, .ref (y + 2 + 4 * (gPl 0 (s - 1)).toNat)), (0, .ref y), (1, .ref g)] rfl rfl ?_
      refine eW_aload_n 54 rfl rfl rfl ?_
      refine eW_ifnull 57 rfl rfl ?_
      refine eW_aload_n 58 rfl rfl rfl ?_
      refine eW_aload_n 59 rfl rfl rfl ?_
      refine eW_callVH 62 [.ref (y + 2 + 4 * (gPl 0 (s - 1)).toNat), .ref g] [] [] rfl rfl rfl rfl (Nat.ble_eq_true_of_le (by omega)) (hhh6.2.2 (gPl 0 (s - 1)).toNat (by omega)).1 rfl rfl rfl (g_become (d := d) (G := Ks (gPl 0 (s - 1)).toNat) (hhh6.2.2 (gPl 0 (s - 1)).toNat (by omega)) (by omega) (gG_k hg (fun i _ _ => uh6 i (by omega))) hN2 (by omega)) rfl rfl ?_
      intro h7 fh7
      have hhh7 : gH h7 y 0 (s - 1) (gUK Ks ((gPl 0 (s - 1)).toNat) (gBec G (Ks (gPl 0 (s - 1)).toNat))) := gH_g hhh6 fh7.1 fh7.2
      have uh7 : ∀ i, (i < y ∨ y + 33 < i) → h7 i = h i := fun i hi => (fh7.2 i (by omega)).trans (uh6 i hi)
      refine eW_aload_n 63 rfl rfl rfl ?_
      refine eW_dup 64 rfl rfl rfl ?_
      refine eW_getfield 67 rfl rfl (Nat.ble_eq_true_of_le (by omega)) rfl (show h7 y = .inr (5, [.ref (y + 1), vI 0, vI (s - 1)]) from hhh7.1) rfl ⟨rfl, fun _ h9 => nomatch h9⟩ ?_
      refine eW_iconst 68 rfl rfl ?_
      refine eW_iadd 69 rfl rfl ?_
      refine eW_putfield 72 [.ref (y + 1), vI 0, vI ((s - 1) + 1)] rfl rfl (Nat.ble_eq_true_of_le (by omega)) rfl (show h7 y = .inr (5, [.ref (y + 1), vI 0, vI (s - 1)]) from hhh7.1) rfl rfl ?_
      intro h8 eh8 oh8
      have hhh8 : gH h8 y 0 ((s - 1) + 1) (gUK Ks ((gPl 0 (s - 1)).toNat) (gBec G (Ks (gPl 0 (s - 1)).toNat))) := gH_o hhh7 eh8 oh8
      have uh8 : ∀ i, (i < y ∨ y + 33 < i) → h8 i = h i := fun i hi => (oh8 i (by omega)).trans (uh7 i hi)
      refine eW_ret rfl rfl ?_
      have hM : gKeep a s Ks G = (0, (s - 1) + 1, gUK Ks ((gPl 0 (s - 1)).toNat) (gBec G (Ks (gPl 0 (s - 1)).toNat))) := by
        unfold gKeep
        first | (rw [decide_eq_false (by omega : ¬ s = 8)]; (try rfl); done) | (rw [decide_eq_true (by omega : s = 8)]; dsimp only; rw [decide_eq_true (by omega : a + 1 < 8)]; (try rfl); done) | (rw [decide_eq_true (by omega : s = 8)]; dsimp only; rw [decide_eq_false (by omega : ¬ a + 1 < 8)]; (try rfl); done)
      exact ⟨_, rfl, by rw [hM]; exact hhh8, uh8⟩
    · refine eW_aload_n 22 rfl rfl rfl ?_
      refine eW_getfield 25 rfl rfl (Nat.ble_eq_true_of_le (by omega)) rfl (show h y = .inr (5, [.ref (y + 1), vI a, vI s]) from hh.1) rfl ⟨rfl, fun _ h9 => nomatch h9⟩ ?_
      refine eW_iconst 26 rfl rfl ?_
      refine eW_iadd 27 rfl rfl ?_
      refine eW_goto rfl ?_
      refine eW_putfield 34 [.ref (y + 1), vI (a + 1), vI s] rfl rfl (Nat.ble_eq_true_of_le (by omega)) rfl (show h y = .inr (5, [.ref (y + 1), vI a, vI s]) from hh.1) rfl rfl ?_
      intro h9 eh9 oh9
      have hhh9 : gH h9 y (a + 1) s Ks := gH_o hh eh9 oh9
      have uh9 : ∀ i, (i < y ∨ y + 33 < i) → h9 i = h i := fun i hi => (oh9 i (by omega)).trans ((fun _ _ => rfl) i hi)
      refine eW_aload_n 35 rfl rfl rfl ?_
      refine eW_dup 36 rfl rfl rfl ?_
      refine eW_getfield 39 rfl rfl (Nat.ble_eq_true_of_le (by omega)) rfl (show h9 y = .inr (5, [.ref (y + 1), vI (a + 1), vI s]) from hhh9.1) rfl ⟨rfl, fun _ h9 => nomatch h9⟩ ?_
      refine eW_iconst 40 rfl rfl ?_
      refine eW_isub 41 rfl rfl ?_
      refine eW_putfield 44 [.ref (y + 1), vI (a + 1), vI (s - 1)] rfl rfl (Nat.ble_eq_true_of_le (by omega)) rfl (show h9 y = .inr (5, [.ref (y + 1), vI (a + 1), vI s]) from hhh9.1) rfl rfl ?_
      intro h10 eh10 oh10
      have hhh10 : gH h10 y (a + 1) (s - 1) Ks := gH_o hhh9 eh10 oh10
      have uh10 : ∀ i, (i < y ∨ y + 33 < i) → h10 i = h i := fun i hi => (oh10 i (by omega)).trans (uh9 i hi)
      refine eW_aload_n 45 rfl rfl rfl ?_
      refine eW_aload_n 46 rfl rfl rfl ?_
      refine eW_getfield 49 rfl rfl (Nat.ble_eq_true_of_le (by omega)) rfl (show h10 y = .inr (5, [.ref (y + 1), vI (a + 1), vI (s - 1)]) from hhh10.1) rfl ⟨rfl, fun _ h9 => nomatch h9⟩ ?_
      have hpl := gPl_le (a := a + 1) (b := s - 1) (by omega) (by omega)
      refine eW_callV 52 [.ref y, vI (s - 1)] [] [.ref (y + 2 + 4 * (gPl (a + 1) (s - 1)).toNat)] rfl rfl rfl rfl (Nat.ble_eq_true_of_le (by omega)) (show h10 y = .inr (5, [.ref (y + 1), vI (a + 1), vI (s - 1)]) from hhh10.1) rfl rfl rfl (h_keptAt (d := d + 0) (a := a + 1) (s := s - 1) hhh10 hN (by omega) (by omega) (by omega)) rfl rfl ?_
      refine eW_astore_n 53 rfl rfl [(2, .ref (y + 2 + 4 * (gPl (a + 1) (s - 1)).toNat)), (0, .ref y), (1, .ref g)] rfl rfl ?_
      refine eW_aload_n 54 rfl rfl rfl ?_
      refine eW_ifnull 57 rfl rfl ?_
      refine eW_aload_n 58 rfl rfl rfl ?_
      refine eW_aload_n 59 rfl rfl rfl ?_
      refine eW_callVH 62 [.ref (y + 2 + 4 * (gPl (a + 1) (s - 1)).toNat), .ref g] [] [] rfl rfl rfl rfl (Nat.ble_eq_true_of_le (by omega)) (hhh10.2.2 (gPl (a + 1) (s - 1)).toNat (by omega)).1 rfl rfl rfl (g_become (d := d) (G := Ks (gPl (a + 1) (s - 1)).toNat) (hhh10.2.2 (gPl (a + 1) (s - 1)).toNat (by omega)) (by omega) (gG_k hg (fun i _ _ => uh10 i (by omega))) hN2 (by omega)) rfl rfl ?_
      intro h11 fh11
      have hhh11 : gH h11 y (a + 1) (s - 1) (gUK Ks ((gPl (a + 1) (s - 1)).toNat) (gBec G (Ks (gPl (a + 1) (s - 1)).toNat))) := gH_g hhh10 fh11.1 fh11.2
      have uh11 : ∀ i, (i < y ∨ y + 33 < i) → h11 i = h i := fun i hi => (fh11.2 i (by omega)).trans (uh10 i hi)
      refine eW_aload_n 63 rfl rfl rfl ?_
      refine eW_dup 64 rfl rfl rfl ?_
      refine eW_getfield 67 rfl rfl (Nat.ble_eq_true_of_le (by omega)) rfl (show h11 y = .inr (5, [.ref (y + 1), vI (a + 1), vI (s - 1)]) from hhh11.1) rfl ⟨rfl, fun _ h9 => nomatch h9⟩ ?_
      refine eW_iconst 68 rfl rfl ?_
      refine eW_iadd 69 rfl rfl ?_
      refine eW_putfield 72 [.ref (y + 1), vI (a + 1), vI ((s - 1) + 1)] rfl rfl (Nat.ble_eq_true_of_le (by omega)) rfl (show h11 y = .inr (5, [.ref (y + 1), vI (a + 1), vI (s - 1)]) from hhh11.1) rfl rfl ?_
      intro h12 eh12 oh12
      have hhh12 : gH h12 y (a + 1) ((s - 1) + 1) (gUK Ks ((gPl (a + 1) (s - 1)).toNat) (gBec G (Ks (gPl (a + 1) (s - 1)).toNat))) := gH_o hhh11 eh12 oh12
      have uh12 : ∀ i, (i < y ∨ y + 33 < i) → h12 i = h i := fun i hi => (oh12 i (by omega)).trans (uh11 i hi)
      refine eW_ret rfl rfl ?_
      have hM : gKeep a s Ks G = (a + 1, (s - 1) + 1, gUK Ks ((gPl (a + 1) (s - 1)).toNat) (gBec G (Ks (gPl (a + 1) (s - 1)).toNat))) := by
        unfold gKeep
        first | (rw [decide_eq_false (by omega : ¬ s = 8)]; (try rfl); done) | (rw [decide_eq_true (by omega : s = 8)]; dsimp only; rw [decide_eq_true (by omega : a + 1 < 8)]; (try rfl); done) | (rw [decide_eq_true (by omega : s = 8)]; dsimp only; rw [decide_eq_false (by omega : ¬ a + 1 < 8)]; (try rfl); done)
      exact ⟨_, rfl, by rw [hM]; exact hhh12, uh12⟩
theorem h_giveBack {d N : Nat} {h : eHp} {y : Nat} {a s : Int} {Ks : Nat → eGd} (hh : gH h y a s Ks) (hN : y + 34 ≤ N) (ha : 0 ≤ a ∧ a < 8) (hs : 0 ≤ s ∧ s ≤ 8) {g : Nat} {G : eGd} (hg : gG h g G) (hN2 : g + 4 ≤ N) (hd : g + 3 < y ∨ y + 33 < g) (h1 : 1 ≤ s) : eSp (d + 2) eM_X1_giveBack [.ref y, .ref g] N h (eChg none N (fun h' => gG h' g (gBec (Ks (gPl a (s - 1)).toNat) G) ∧ gH h' y a (s - 1) Ks ∧ ∀ i, ((i < y ∨ y + 33 < i) ∧ (i < g ∨ g + 3 < i)) → h' i = h i)) := by
  refine eSp_of [(0, .ref y), (1, .ref g)] rfl rfl ?_
  refine eW_aload_n 1 rfl rfl rfl ?_
  refine eW_getfield 4 rfl rfl (Nat.ble_eq_true_of_le (by omega)) rfl (show h y = .inr (5, [.ref (y + 1), vI a, vI s]) from hh.1) rfl ⟨rfl, fun _ h9 => nomatch h9⟩ ?_
  refine eW_if_ne 7 rfl rfl (by unfold i32; omega) (fun c1 => ?_) (fun c1 => absurd c1 (by omega))
  refine eW_aload_n 9 rfl rfl rfl ?_
  refine eW_dup 10 rfl rfl rfl ?_
  refine eW_getfield 13 rfl rfl (Nat.ble_eq_true_of_le (by omega)) rfl (show h y = .inr (5, [.ref (y + 1), vI a, vI s]) from hh.1) rfl ⟨rfl, fun _ h9 => nomatch h9⟩ ?_
  refine eW_iconst 14 rfl rfl ?_
  refine eW_isub 15 rfl rfl ?_
  refine eW_putfield 18 [.ref (y + 1), vI a, vI (s - 1)] rfl rfl (Nat.ble_eq_true_of_le (by omega)) rfl (show h y = .inr (5, [.ref (y + 1), vI a, vI s]) from hh.1) rfl rfl ?_
  intro h2 eh2 oh2
  have hhh2 : gH h2 y a (s - 1) Ks := gH_o hh eh2 oh2
  have uh2 : ∀ i, (i < y ∨ y + 33 < i) → h2 i = h i := fun i hi => (oh2 i (by omega)).trans ((fun _ _ => rfl) i hi)
  refine eW_aload_n 19 rfl rfl rfl ?_
  refine eW_aload_n 20 rfl rfl rfl ?_
  refine eW_getfield 23 rfl rfl (Nat.ble_eq_true_of_le (by omega)) rfl (show h2 y = .inr (5, [.ref (y + 1), vI a, vI (s - 1)]) from hhh2.1) rfl ⟨rfl, fun _ h9 => nomatch h9⟩ ?_
  have hpl := gPl_le (a := a) (b := s - 1) (by omega) (by omega)
  refine eW_callV 26 [.ref y, vI (s - 1)] [] [.ref (y + 2 + 4 * (gPl a (s - 1)).toNat)] rfl rfl rfl rfl (Nat.ble_eq_true_of_le (by omega)) (show h2 y = .inr (5, [.ref (y + 1), vI a, vI (s - 1)]) from hhh2.1) rfl rfl rfl (h_keptAt (d := d + 0) (a := a) (s := s - 1) hhh2 hN (by omega) (by omega) (by omega)) rfl rfl ?_
  refine eW_astore_n 27 rfl rfl [(2, .ref (y + 2 + 4 * (gPl a (s - 1)).toNat)), (0, .ref y), (1, .ref g)] rfl rfl ?_
  refine eW_aload_n 28 rfl rfl rfl ?_
  refine eW_ifnull 31 rfl rfl ?_
  refine eW_aload_n 32 rfl rfl rfl ?_
  refine eW_aload_n 33 rfl rfl rfl ?_
  refine eW_callVH 36 [.ref g, .ref (y + 2 + 4 * (gPl a (s - 1)).toNat)] [] [] rfl rfl rfl rfl (Nat.ble_eq_true_of_le (by omega)) (show h2 g = _ from (uh2 _ (by omega)).trans hg.1) rfl rfl rfl (g_become (d := d) (O := Ks (gPl a (s - 1)).toNat) (gG_k hg (fun i _ _ => uh2 i (by omega))) hN2 (hhh2.2.2 (gPl a (s - 1)).toNat (by omega)) (by omega) (by omega)) rfl rfl ?_
  intro h3 fh3
  have hhh3 : gH h3 y a (s - 1) Ks := gH_k hhh2 (fun i _ _ => fh3.2 i (by omega))
  have uh3 : ∀ i, ((i < y ∨ y + 33 < i) ∧ (i < g ∨ g + 3 < i)) → h3 i = h i := fun i hi => (fh3.2 i (by omega)).trans (uh2 i hi.1)
  refine eW_ret rfl rfl ?_
  exact ⟨_, rfl, fh3.1, hhh3, uh3⟩
