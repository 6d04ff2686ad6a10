/-! a text is read, and carried out -/
/-- the orders below stay while an order is read -/
def tLow (T X : eTx) : Prop := X.2.2.2.2.2 = T.2.2.2.2.2 ∧ ∀ i : Int, 0 ≤ i → i < T.2.2.2.2.2 → tKind X i = tKind T i ∧ ∀ w, 0 ≤ w → w < 3 → tNo X i w = tNo T i w
theorem tLow_set {T X : eTx} (hT : gTO T) {w x : Int} (hw : 0 ≤ w ∧ w < 3) (h : tLow T X) (ho : T.2.2.2.2.2 ≤ 30) : tLow T (tSet w x X) := by
  refine ⟨h.1, fun i h0 h1 => ⟨(h.2 i h0 h1).1, fun v v0 v1 => ?_⟩⟩
  rw [← (h.2 i h0 h1).2 v v0 v1, tNo_t ⟨h0, by omega⟩ ⟨v0, v1⟩, tNo_t ⟨h0, by omega⟩ ⟨v0, v1⟩]
  show eUp X.2.2.1 (X.2.2.2.2.2 * 3 + w).toNat x _ = _
  rw [h.1]
  exact eUp_ne (by omega)
theorem tLow_skip {T X : eTx} {c : Int} (h : tLow T X) : tLow T (tSkip c X).2 := by unfold tSkip; cases decide (X.2.2.2.2.1 < X.2.2.2.1 ∧ tSg X = c) <;> exact h
theorem tLow_dig {T X : eTx} (hT : gTO T) {w : Int} (hw : 0 ≤ w ∧ w < 3) (h : tLow T X) (ho : T.2.2.2.2.2 ≤ 30) : tLow T (tDig w X).2 := by
  unfold tDig
  cases decide (48 ≤ tSg X ∧ tSg X ≤ 57) with
  | false => exact h
  | true => exact tLow_set (X := (X.1, X.2.1, X.2.2.1, X.2.2.2.1, X.2.2.2.2.1 + 1, X.2.2.2.2.2)) hT hw h ho
theorem tLow_num {T X : eTx} (hT : gTO T) {w : Int} (hw : 0 ≤ w ∧ w < 3) (h : tLow T X) (ho : T.2.2.2.2.2 ≤ 30) : tLow T (tNum w X).2 := by
  have h1 := tLow_dig hT hw h ho
  have h2 := tLow_dig hT hw h1 ho
  unfold tNum
  cases (tDig w X).1 with
  | false => exact h1
  | true =>
    dsimp only
    cases (tDig w (tDig w X).2).1 with
    | false => exact h2
    | true => exact tLow_set hT hw h2 ho
theorem tLow_then {T : eTx} {r : Bool × eTx} {f : eTx → Bool × eTx} (h : tLow T r.2) (hf : tLow T (f r.2).2) : tLow T (tThen r f).2 := by
  unfold tThen
  cases r.1 with
  | false => exact h
  | true => exact hf
theorem tLow_nums {T X : eTx} (hT : gTO T) {k : Int} (h : tLow T X) (ho : T.2.2.2.2.2 ≤ 30) : tLow T (tNums k X).2 := by
  have hd : ∀ Y w, 0 ≤ w ∧ w < 3 → tLow T Y → tLow T (tDig w Y).2 := fun Y w hw hy => tLow_dig hT hw hy ho
  have hn : ∀ Y w, 0 ≤ w ∧ w < 3 → tLow T Y → tLow T (tNum w Y).2 := fun Y w hw hy => tLow_num hT hw hy ho
  have ht : ∀ (r : Bool × eTx) (f : eTx → Bool × eTx), tLow T r.2 → (∀ Y, tLow T Y → tLow T (f Y).2) → tLow T (tThen r f).2 := fun r f a b => tLow_then a (b _ a)
  unfold tNums
  cases decide (k = 112) with
  | true => exact hn _ _ (by decide) h
  | false =>
    cases decide (k = 99) with
    | true => exact ht _ _ (ht _ _ (hd _ _ (by decide) h) (fun Y hy => tLow_skip hy)) (fun Y hy => hd _ _ (by decide) hy)
    | false =>
      cases decide (k = 115) with
      | false => exact h
      | true =>
        have h3 := ht _ _ (ht _ _ (hn _ 0 (by decide) h) (fun Y hy => tLow_skip (c := 45) hy)) (fun Y hy => hd _ 1 (by decide) hy)
        show tLow T (tTail (tThen (tThen (tNum 0 X) (tSkip 45)) (tDig 1))).2
        unfold tTail
        cases (tThen (tThen (tNum 0 X) (tSkip 45)) (tDig 1)).1 && decide (tSg (tThen (tThen (tNum 0 X) (tSkip 45)) (tDig 1)).2 = 47) with
        | false => exact h3
        | true => exact ht _ _ (tLow_skip h3) (fun Y hy => hn _ _ (by decide) hy)
theorem tLow_ini {T : eTx} (hT : gTO T) (ho : T.2.2.2.2.2 < 30) : tLow T (tIni T) := by
  have h0 : tLow T (T.1, eUp T.2.1 T.2.2.2.2.2.toNat (tSg T), T.2.2) := by
    refine ⟨rfl, fun i h0 h1 => ⟨?_, fun w _ _ => rfl⟩⟩
    unfold tKind
    rw [decide_eq_true (by omega)]
    exact eUp_ne (by omega)
  exact tLow_set hT (by decide) (tLow_set hT (by decide) (tLow_set hT (by decide) h0 (by omega)) (by omega)) (by omega)
theorem tLow_ord {T : eTx} (hT : gTO T) (ho : T.2.2.2.2.2 < 30) : (tOrd T).2.2.2.2.2.2 = T.2.2.2.2.2 + 1 ∧ ∀ i : Int, 0 ≤ i → i < T.2.2.2.2.2 → tKind (tOrd T).2 i = tKind T i ∧ ∀ w, 0 ≤ w → w < 3 → tNo (tOrd T).2 i w = tNo T i w := by
  have h : tLow T (tMid T).2 := by
    have h1 := tLow_ini hT ho
    unfold tMid
    cases tIs (tSg T) with
    | false => exact h1
    | true => exact tLow_then (tLow_skip h1) (tLow_nums hT (tLow_skip h1) (by omega))
  rw [tOrd_t ho]
  exact ⟨by show (tMid T).2.2.2.2.2.2 + 1 = _; rw [h.1], h.2⟩
/-- a text read on -/
def tMo (X Y : eTx) : Prop := Y.1 = X.1 ∧ Y.2.2.2.1 = X.2.2.2.1 ∧ X.2.2.2.2.1 ≤ Y.2.2.2.2.1 ∧ (X.2.2.2.2.1 ≤ X.2.2.2.1 → Y.2.2.2.2.1 ≤ X.2.2.2.1)
theorem tMo_t {X Y Z : eTx} (a : tMo X Y) (b : tMo Y Z) : tMo X Z := ⟨b.1.trans a.1, b.2.1.trans a.2.1, Int.le_trans a.2.2.1 b.2.2.1, fun e => by have c := b.2.2.2 (by rw [a.2.1]; exact a.2.2.2 e); rw [a.2.1] at c; exact c⟩
theorem tMo_r (X : eTx) : tMo X X := ⟨rfl, rfl, Int.le_refl _, fun e => e⟩
theorem tMo_skip (c : Int) (X : eTx) : tMo X (tSkip c X).2 := by
  by_cases h : X.2.2.2.2.1 < X.2.2.2.1 ∧ tSg X = c
  · rw [tSkip_t h]; exact ⟨rfl, rfl, by show _ ≤ X.2.2.2.2.1 + 1; omega, fun _ => by show X.2.2.2.2.1 + 1 ≤ _; omega⟩
  · rw [tSkip_f h]; exact tMo_r X
theorem tMo_dig (w : Int) (X : eTx) : tMo X (tDig w X).2 := by
  by_cases h : 48 ≤ tSg X ∧ tSg X ≤ 57
  · have h2 := tSg_pos (T := X) (by omega)
    rw [tDig_t h]; exact ⟨rfl, rfl, by show _ ≤ X.2.2.2.2.1 + 1; omega, fun _ => by show X.2.2.2.2.1 + 1 ≤ _; omega⟩
  · rw [tDig_f h]; exact tMo_r X
theorem tMo_num (w : Int) (X : eTx) : tMo X (tNum w X).2 := by
  have h1 := tMo_dig w X
  have h2 := tMo_t h1 (tMo_dig w (tDig w X).2)
  unfold tNum
  cases (tDig w X).1 with
  | false => exact h1
  | true =>
    dsimp only
    cases (tDig w (tDig w X).2).1 with
    | false => exact h2
    | true => exact h2
theorem tMo_then {X : eTx} {r : Bool × eTx} {f : eTx → Bool × eTx} (a : tMo X r.2) (b : ∀ Y, tMo Y (f Y).2) : tMo X (tThen r f).2 := by
  unfold tThen
  cases r.1 with
  | false => exact a
  | true => exact tMo_t a (b _)
theorem tMo_nums (k : Int) (X : eTx) : tMo X (tNums k X).2 := by
  unfold tNums
  cases decide (k = 112) with
  | true => exact tMo_num 0 X
  | false =>
    cases decide (k = 99) with
    | true => exact tMo_then (tMo_then (tMo_dig 0 X) (tMo_skip 61)) (tMo_dig 1)
    | false =>
      cases decide (k = 115) with
      | false => exact tMo_r X
      | true =>
        have h3 := tMo_then (tMo_then (tMo_num 0 X) (tMo_skip 45)) (tMo_dig 1)
        show tMo X (tTail (tThen (tThen (tNum 0 X) (tSkip 45)) (tDig 1))).2
        unfold tTail
        cases (tThen (tThen (tNum 0 X) (tSkip 45)) (tDig 1)).1 && decide (tSg (tThen (tThen (tNum 0 X) (tSkip 45)) (tDig 1)).2 = 47) with
        | false => exact h3
        | true => exact tMo_then (tMo_t h3 (tMo_skip 47 _)) (tMo_num 2)
theorem tOrd_il {T : eTx} (ho : T.2.2.2.2.2 < 30) : tMo T (tOrd T).2 ∧ ((tOrd T).1 = true → T.2.2.2.2.1 + 1 ≤ (tOrd T).2.2.2.2.2.1) := by
  rw [tOrd_t ho]
  show tMo T (tMid T).2 ∧ ((tMid T).1 = true → T.2.2.2.2.1 + 1 ≤ (tMid T).2.2.2.2.2.1)
  unfold tMid
  cases tIs (tSg T) with
  | false => exact ⟨tMo_r (tIni T), fun e => nomatch e⟩
  | true =>
    dsimp only
    have c := tMo_skip (tSg T) (tIni T)
    cases hq : (tSkip (tSg T) (tIni T)).1 with
    | false => rw [tThen_f hq]; exact ⟨c, fun e => by rw [hq] at e; cases e⟩
    | true =>
      rw [tThen_t hq]
      have e := tMo_nums (tSg T) (tSkip (tSg T) (tIni T)).2
      have c4 : T.2.2.2.2.1 + 1 ≤ (tSkip (tSg T) (tIni T)).2.2.2.2.2.1 := by rw [tSkip_t (tSkip_yes hq)]; exact Int.le_refl _
      exact ⟨tMo_t c e, fun _ => Int.le_trans c4 e.2.2.1⟩
theorem m_orderEnd {d N : Nat} {h : eHp} {s : Nat → Int} {A : Nat → Nat → Int} (hm : mM h s A) (hN : 75 ≤ N) {T : eTx} (hT : tmR T s A) (hs22 : s 22 = T.2.2.2.2.2) (ho30 : T.2.2.2.2.2 ≤ 30) (hp : T.2.2.2.1 ≤ T.2.2.2.2.1) : eSp (d + 3) eM_X7_orderHere [.ref 63] N h (eChg (some (vI 0)) N (fun h' => ∃ O, mD h (sUp s 20 T.2.2.2.2.1) (mUp A 8 O) h')) := by
  refine eSp_of [(0, .ref 63)] rfl rfl ?_
  have h0 := hT.1.2.2.1.1
  refine eW_iconst 1 rfl rfl ?_
  refine eW_aload_n 2 rfl rfl rfl ?_
  refine eW_getfield 5 rfl rfl (Nat.ble_eq_true_of_le (by omega)) rfl hm.1 rfl ⟨rfl, fun _ h9 => nomatch h9⟩ ?_
  refine eW_imul 6 rfl rfl ?_
  refine eW_istore_n 7 rfl rfl [(1, vI (4 * (s 22))), (0, .ref 63)] rfl rfl ?_
  refine eW_aload_n 8 rfl rfl rfl ?_
  refine eW_getfield 11 rfl rfl (Nat.ble_eq_true_of_le (by omega)) rfl hm.1 rfl ⟨rfl, fun _ h9 => nomatch h9⟩ ?_
  refine eW_iload_n 12 rfl rfl rfl ?_
  refine eW_aload_n 13 rfl rfl rfl ?_
  have hrq1 := tHr_c (show tmR T s A from hT).1
  refine eW_callV 16 [.ref 63] [vI (4 * (s 22)), .ref 72] [vI (tHr T), vI (4 * (s 22)), .ref 72] rfl rfl rfl rfl (Nat.ble_eq_true_of_le (by omega)) hm.1 rfl rfl rfl (m_here (d := d + 1) hm hN (show tmR T s A from hT)) rfl rfl ?_
  refine eW_iastore 17 rfl rfl (Nat.ble_eq_true_of_le (by omega)) (show h 72 = .inl (0, 124, .inl (eIA (A 8))) from hm.2.2.2.2.2.2.2.2.2) (by omega) (by omega) (by unfold i32; omega) rfl ?_
  intro h2 eh2 oh2
  have hmh2 : mM h2 s (mUp A 8 (eUp (A 8) (4 * (s 22)).toNat (tHr T))) := mM_8 hm eh2 oh2 ⟨rfl, rfl, rfl, rfl, rfl, rfl, rfl, rfl⟩
  have frh2 : mFr h h2 := mFr_a (fun _ _ => rfl) (by decide) oh2
  refine eW_aload_n 18 rfl rfl rfl ?_
  refine eW_bipush 20 rfl rfl 110 rfl ?_
  refine eW_callVH 23 [.ref 63, vI 110] [] [vI 0] rfl rfl rfl rfl (Nat.ble_eq_true_of_le (by omega)) hmh2.1 rfl rfl rfl (by have e9 := m_skips (d := d + 0) hmh2 hN (show tmR T s (mUp A 8 (eUp (A 8) (4 * (s 22)).toNat (tHr T))) from hT) (c := 110) (by decide); rw [tSkip_f (T := T) (c := 110) (by omega)] at e9; exact e9) rfl rfl ?_
  intro h3 fh3
  have hmh3 : mM h3 (sUp s 20 T.2.2.2.2.1) (mUp A 8 (eUp (A 8) (4 * (s 22)).toNat (tHr T))) := fh3.1
  have frh3 : mFr h h3 := mFr_t frh2 fh3.2
  refine eW_if_eq 26 rfl rfl (by unfold i32; omega) (fun c4 => ?_) (fun c4 => absurd c4 (by omega))
  refine eW_aload_n 29 rfl rfl rfl ?_
  refine eW_bipush 31 rfl rfl 112 rfl ?_
  refine eW_callVH 34 [.ref 63, vI 112] [] [vI 0] rfl rfl rfl rfl (Nat.ble_eq_true_of_le (by omega)) (show h3 63 = .inr (11, [.ref 64, .ref 65, .ref 66, .ref 67, vI (s 4), vI (s 5), vI (s 6), vI (s 7), vI (s 8), vI (s 9), .ref 68, vI (s 11), vI (s 12), .ref 69, vI (s 14), .ref 70, .ref 71, vI (s 17), vI (s 18), vI (s 19), vI T.2.2.2.2.1, .ref 72, vI (s 22)]) from hmh3.1) rfl rfl rfl (by have e9 := m_skips (d := d + 0) hmh3 hN (show tmR T (sUp s 20 T.2.2.2.2.1) (mUp A 8 (eUp (A 8) (4 * (s 22)).toNat (tHr T))) from (show tmR T (sUp s 20 T.2.2.2.2.1) (mUp A 8 (eUp (A 8) (4 * (s 22)).toNat (tHr T))) from ⟨hT.1, hT.2.1, rfl, hT.2.2.2⟩)) (c := 112) (by decide); rw [tSkip_f (T := T) (c := 112) (by omega)] at e9; exact e9) rfl rfl ?_
  intro h5 fh5
  have hmh5 : mM h5 (sUp s 20 T.2.2.2.2.1) (mUp A 8 (eUp (A 8) (4 * (s 22)).toNat (tHr T))) := fh5.1
  have frh5 : mFr h h5 := mFr_t frh3 fh5.2
  refine eW_if_eq 37 rfl rfl (by unfold i32; omega) (fun c6 => ?_) (fun c6 => absurd c6 (by omega))
  refine eW_aload_n 47 rfl rfl rfl ?_
  refine eW_bipush 49 rfl rfl 99 rfl ?_
  refine eW_callVH 52 [.ref 63, vI 99] [] [vI 0] rfl rfl rfl rfl (Nat.ble_eq_true_of_le (by omega)) (show h5 63 = .inr (11, [.ref 64, .ref 65, .ref 66, .ref 67, vI (s 4), vI (s 5), vI (s 6), vI (s 7), vI (s 8), vI (s 9), .ref 68, vI (s 11), vI (s 12), .ref 69, vI (s 14), .ref 70, .ref 71, vI (s 17), vI (s 18), vI (s 19), vI T.2.2.2.2.1, .ref 72, vI (s 22)]) from hmh5.1) rfl rfl rfl (by have e9 := m_skips (d := d + 0) hmh5 hN (show tmR T (sUp s 20 T.2.2.2.2.1) (mUp A 8 (eUp (A 8) (4 * (s 22)).toNat (tHr T))) from (show tmR T (sUp s 20 T.2.2.2.2.1) (mUp A 8 (eUp (A 8) (4 * (s 22)).toNat (tHr T))) from ⟨hT.1, hT.2.1, rfl, hT.2.2.2⟩)) (c := 99) (by decide); rw [tSkip_f (T := T) (c := 99) (by omega)] at e9; exact e9) rfl rfl ?_
  intro h7 fh7
  have hmh7 : mM h7 (sUp s 20 T.2.2.2.2.1) (mUp A 8 (eUp (A 8) (4 * (s 22)).toNat (tHr T))) := fh7.1
  have frh7 : mFr h h7 := mFr_t frh5 fh7.2
  refine eW_if_eq 55 rfl rfl (by unfold i32; omega) (fun c8 => ?_) (fun c8 => absurd c8 (by omega))
  refine eW_aload_n 93 rfl rfl rfl ?_
  refine eW_bipush 95 rfl rfl 115 rfl ?_
  refine eW_callVH 98 [.ref 63, vI 115] [] [vI 0] rfl rfl rfl rfl (Nat.ble_eq_true_of_le (by omega)) (show h7 63 = .inr (11, [.ref 64, .ref 65, .ref 66, .ref 67, vI (s 4), vI (s 5), vI (s 6), vI (s 7), vI (s 8), vI (s 9), .ref 68, vI (s 11), vI (s 12), .ref 69, vI (s 14), .ref 70, .ref 71, vI (s 17), vI (s 18), vI (s 19), vI T.2.2.2.2.1, .ref 72, vI (s 22)]) from hmh7.1) rfl rfl rfl (by have e9 := m_skips (d := d + 0) hmh7 hN (show tmR T (sUp s 20 T.2.2.2.2.1) (mUp A 8 (eUp (A 8) (4 * (s 22)).toNat (tHr T))) from (show tmR T (sUp s 20 T.2.2.2.2.1) (mUp A 8 (eUp (A 8) (4 * (s 22)).toNat (tHr T))) from ⟨hT.1, hT.2.1, rfl, hT.2.2.2⟩)) (c := 115) (by decide); rw [tSkip_f (T := T) (c := 115) (by omega)] at e9; exact e9) rfl rfl ?_
  intro h9 fh9
  have hmh9 : mM h9 (sUp s 20 T.2.2.2.2.1) (mUp A 8 (eUp (A 8) (4 * (s 22)).toNat (tHr T))) := fh9.1
  have frh9 : mFr h h9 := mFr_t frh7 fh9.2
  refine eW_if_eq 101 rfl rfl (by unfold i32; omega) (fun c10 => ?_) (fun c10 => absurd c10 (by omega))
  refine eW_iconst 133 rfl rfl ?_
  refine eW_ret_i rfl rfl (Or.inr (Or.inl ⟨rfl, rfl⟩)) ?_
  exact ⟨_, rfl, _, hmh9, frh9⟩
/-- all orders that were read -/
def oAll (T : eTx) (O : Nat → Int) (n : Int) : Prop := ∀ i : Int, 0 ≤ i → i < n → oOk T O i
theorem oOk_congr {T T' : eTx} {O O' : Nat → Int} {i : Int} (hi : 0 ≤ i) (hk : tKind T' i = tKind T i) (hn : ∀ w, 0 ≤ w → w < 3 → tNo T' i w = tNo T i w) (hO : ∀ j : Nat, (j : Int) < 4 * i + 4 → O' j = O j) (h : oOk T O i) : oOk T' O' i := by
  obtain ⟨a, b, c, d, e⟩ := h
  refine ⟨by rw [hO _ (by omega), a, hk], by rw [hk]; exact b, fun x => ?_, fun x => ?_, fun x => ?_⟩
  · rw [hO _ (by omega), hn 0 (by decide) (by decide)]; exact c (by rw [← hk]; exact x)
  · rw [hO _ (by omega), hO _ (by omega), hn 0 (by decide) (by decide), hn 1 (by decide) (by decide)]; exact d (by rw [← hk]; exact x)
  · rw [hO _ (by omega), hO _ (by omega), hO _ (by omega), hn 0 (by decide) (by decide), hn 1 (by decide) (by decide), hn 2 (by decide) (by decide)]; exact e (by rw [← hk]; exact x)
def mTx (h : eHp) (s : Nat → Int) (A : Nat → Nat → Int) (R : Bool × eTx) : eHp → Prop := fun h' => ∃ O n, mD h (sUp (sUp s 20 R.2.2.2.2.2.1) 22 n) (mUp A 8 O) h' ∧ (R.1 = true → n = R.2.2.2.2.2.2 ∧ n ≤ 30 ∧ 0 ≤ n ∧ oAll R.2 O n)
theorem m_text_l {d N : Nat} {h0 : eHp} {s : Nat → Int} {A : Nat → Nat → Int} (hN : 75 ≤ N) {R : Bool × eTx} : ∀ (m9 n : Nat) (T : eTx) (p9 : Int) (O9 : Nat → Int) (h : eHp), 60 - T.2.2.2.2.1 ≤ m9 → tmR T (sUp (sUp s 20 p9) 22 T.2.2.2.2.2) (mUp A 8 O9) → mFr h0 h → mM h (sUp (sUp s 20 p9) 22 T.2.2.2.2.2) (mUp A 8 O9) → (T.2.2.2.2.2 ≤ 30 ∧ 2 * T.2.2.2.2.2 ≤ T.2.2.2.2.1) → oAll T O9 T.2.2.2.2.2 → T.2.2.2.1 - T.2.2.2.2.1 ≤ n → tRdL n (tOrd T) = R → T.2.2.2.2.1 ≤ T.2.2.2.1 → eWp eOx (eEv (d + 3)) eM_X7_isText (10, [(0, .ref 63)], [], N, h, 0, 0) (eChg (some (vI (eB01 R.1))) N (mTx h0 s A R)) := by
  intro m9
  induction m9 with
  | zero =>
    intro n T p9 O9 h hm9 q0 q2 q1 q4 q5 q7 q6 q8
    have h0o := q0.1.2.2.1.1
    have hpb := q0.1.2.1
    have hlb := q0.1.1
    by_cases ho30 : T.2.2.2.2.2 < 30
    · refine eW_aload_n 11 rfl rfl rfl ?_
      have hk := eB01_c (tOrd T).1
      refine eW_callVH 14 [.ref 63] [] [vI (eB01 (tOrd T).1)] rfl rfl rfl rfl (Nat.ble_eq_true_of_le (by omega)) (show h 63 = .inr (11, [.ref 64, .ref 65, .ref 66, .ref 67, vI (s 4), vI (s 5), vI (s 6), vI (s 7), vI (s 8), vI (s 9), .ref 68, vI (s 11), vI (s 12), .ref 69, vI (s 14), .ref 70, .ref 71, vI (s 17), vI (s 18), vI (s 19), vI p9, .ref 72, vI T.2.2.2.2.2]) from q1.1) rfl rfl rfl (m_orderHere (d := d + 0) q1 hN (show tmR T (sUp (sUp s 20 p9) 22 T.2.2.2.2.2) (mUp A 8 O9) from q0) rfl ho30) rfl rfl ?_
      intro h1 fh1
      obtain ⟨O1, f9h1⟩ := fh1
      obtain ⟨f8h1, hlow, hok⟩ := f9h1
      have hmh1 : mM h1 (sUp (sUp s 20 ((tOrd T).2.2.2.2.2.1)) 22 T.2.2.2.2.2) (mUp A 8 O1) := f8h1.1
      have frh1 : mFr h0 h1 := mFr_t q2 f8h1.2
      refine eW_if_ne 17 rfl rfl (by unfold i32; omega) (fun c2 => ?_) (fun c2 => ?_)
      · have g1 : (tOrd T).1 = true := by rcases hk with e | e <;> first | exact e.1 | exact absurd e.2 (by omega)
        obtain ⟨hil, hilp⟩ := tOrd_il ho30
        have hlo := tLow_ord q0.1 ho30
        have hTO1 : gTO (tOrd T).2 := tOrd_ok q0.1
        have hp1 := hilp g1
        have hpl := hil.2.2.2 q8
        have hln := hil.2.1
        have hok9 := hok g1
        have hT1 : tmR (tOrd T).2 (sUp (sUp s 20 (tOrd T).2.2.2.2.2.1) 22 (T.2.2.2.2.2 + 1)) (mUp A 8 O1) := ⟨hTO1, by show s 11 = _; rw [hil.2.1]; exact q0.2.1, rfl, fun i hi => by rw [hil.1]; exact q0.2.2.2 i (by rw [← hil.2.1]; exact hi)⟩
        have hall : oAll (tOrd T).2 O1 (T.2.2.2.2.2 + 1) := by
          intro i h0 h1
          by_cases hi : i = T.2.2.2.2.2
          · rw [hi]; exact hok9
          · have hl := hlo.2 i h0 (by omega)
            exact oOk_congr h0 hl.1 hl.2 (fun j hj => hlow j (by omega)) (q5 i h0 (by omega))
        have htp : (tOrd T).2.2.2.2.2.1 ≤ 60 ∧ (tOrd T).2.2.2.2.1 ≤ 60 ∧ 0 ≤ (tOrd T).2.2.2.2.2.1 ∧ 0 ≤ (tOrd T).2.2.2.2.1 := ⟨hTO1.2.1.2, hTO1.1.2, hTO1.2.1.1, hTO1.1.1⟩
        refine eW_aload_n 20 rfl rfl rfl ?_
        refine eW_dup 21 rfl rfl rfl ?_
        refine eW_getfield 24 rfl rfl (Nat.ble_eq_true_of_le (by omega)) rfl (show h1 63 = .inr (11, [.ref 64, .ref 65, .ref 66, .ref 67, vI (s 4), vI (s 5), vI (s 6), vI (s 7), vI (s 8), vI (s 9), .ref 68, vI (s 11), vI (s 12), .ref 69, vI (s 14), .ref 70, .ref 71, vI (s 17), vI (s 18), vI (s 19), vI ((tOrd T).2.2.2.2.2.1), .ref 72, vI T.2.2.2.2.2]) from hmh1.1) rfl ⟨rfl, fun _ h9 => nomatch h9⟩ ?_
        refine eW_iconst 25 rfl rfl ?_
        refine eW_iadd 26 rfl rfl ?_
        refine eW_putfield 29 [.ref 64, .ref 65, .ref 66, .ref 67, vI (s 4), vI (s 5), vI (s 6), vI (s 7), vI (s 8), vI (s 9), .ref 68, vI (s 11), vI (s 12), .ref 69, vI (s 14), .ref 70, .ref 71, vI (s 17), vI (s 18), vI (s 19), vI ((tOrd T).2.2.2.2.2.1), .ref 72, vI (T.2.2.2.2.2 + 1)] rfl rfl (Nat.ble_eq_true_of_le (by omega)) rfl (show h1 63 = .inr (11, [.ref 64, .ref 65, .ref 66, .ref 67, vI (s 4), vI (s 5), vI (s 6), vI (s 7), vI (s 8), vI (s 9), .ref 68, vI (s 11), vI (s 12), .ref 69, vI (s 14), .ref 70, .ref 71, vI (s 17), vI (s 18), vI (s 19), vI ((tOrd T).2.2.2.2.2.1), .ref 72, vI T.2.2.2.2.2]) from hmh1.1) rfl rfl ?_
        intro h3 eh3 oh3
        have hmh3 : mM h3 (sUp (sUp s 20 ((tOrd T).2.2.2.2.2.1)) 22 (T.2.2.2.2.2 + 1)) (mUp A 8 O1) := mM_s (s := (sUp (sUp s 20 ((tOrd T).2.2.2.2.2.1)) 22 T.2.2.2.2.2)) hmh1 eh3 oh3
        have frh3 : mFr h0 h3 := mFr_s frh1 oh3
        refine eW_aload_n 30 rfl rfl rfl ?_
        refine eW_bipush 32 rfl rfl 59 rfl ?_
        have hk2 := eB01_c (tSkip 59 (tOrd T).2).1
        refine eW_callVH 35 [.ref 63, vI 59] [] [vI (eB01 (tSkip 59 (tOrd T).2).1)] rfl rfl rfl rfl (Nat.ble_eq_true_of_le (by omega)) (show h3 63 = .inr (11, [.ref 64, .ref 65, .ref 66, .ref 67, vI (s 4), vI (s 5), vI (s 6), vI (s 7), vI (s 8), vI (s 9), .ref 68, vI (s 11), vI (s 12), .ref 69, vI (s 14), .ref 70, .ref 71, vI (s 17), vI (s 18), vI (s 19), vI ((tOrd T).2.2.2.2.2.1), .ref 72, vI (T.2.2.2.2.2 + 1)]) from hmh3.1) rfl rfl rfl (m_skips (d := d + 1) hmh3 hN (show tmR (tOrd T).2 (sUp (sUp s 20 ((tOrd T).2.2.2.2.2.1)) 22 (T.2.2.2.2.2 + 1)) (mUp A 8 O1) from hT1) (c := 59) (by decide)) rfl rfl ?_
        intro h4 fh4
        have hmh4 : mM h4 (sUp (sUp s 20 ((tSkip 59 (tOrd T).2).2.2.2.2.2.1)) 22 (T.2.2.2.2.2 + 1)) (mUp A 8 O1) := fh4.1
        have frh4 : mFr h0 h4 := mFr_t frh3 fh4.2
        refine eW_if_ne 38 rfl rfl (by unfold i32; omega) (fun c5 => ?_) (fun c5 => ?_)
        · exfalso
          have g2 : (tSkip 59 (tOrd T).2).1 = true := by rcases hk2 with e | e <;> first | exact e.1 | exact absurd e.2 (by omega)
          have hy := (tSkip_yes g2).1
          omega
        · have g2 : (tSkip 59 (tOrd T).2).1 = false := by rcases hk2 with e | e <;> first | exact e.1 | exact absurd e.2 (by omega)
          have e9 := tSkip_no g2
          have hp9 : (tSkip 59 (tOrd T).2).2.2.2.2.2.1 = (tOrd T).2.2.2.2.2.1 := by rw [e9]
          have h11 : s 11 = (tOrd T).2.2.2.2.1 := hT1.2.1
          refine eW_aload_n 39 rfl rfl rfl ?_
          refine eW_getfield 42 rfl rfl (Nat.ble_eq_true_of_le (by omega)) rfl (show h4 63 = .inr (11, [.ref 64, .ref 65, .ref 66, .ref 67, vI (s 4), vI (s 5), vI (s 6), vI (s 7), vI (s 8), vI (s 9), .ref 68, vI (s 11), vI (s 12), .ref 69, vI (s 14), .ref 70, .ref 71, vI (s 17), vI (s 18), vI (s 19), vI ((tSkip 59 (tOrd T).2).2.2.2.2.2.1), .ref 72, vI (T.2.2.2.2.2 + 1)]) from hmh4.1) rfl ⟨rfl, fun _ h9 => nomatch h9⟩ ?_
          refine eW_aload_n 43 rfl rfl rfl ?_
          refine eW_getfield 46 rfl rfl (Nat.ble_eq_true_of_le (by omega)) rfl (show h4 63 = .inr (11, [.ref 64, .ref 65, .ref 66, .ref 67, vI (s 4), vI (s 5), vI (s 6), vI (s 7), vI (s 8), vI (s 9), .ref 68, vI (s 11), vI (s 12), .ref 69, vI (s 14), .ref 70, .ref 71, vI (s 17), vI (s 18), vI (s 19), vI ((tSkip 59 (tOrd T).2).2.2.2.2.2.1), .ref 72, vI (T.2.2.2.2.2 + 1)]) from hmh4.1) rfl ⟨rfl, fun _ h9 => nomatch h9⟩ ?_
          refine eW_icmp_ne 49 rfl rfl (by unfold i32; omega) (by unfold i32; omega) (fun c6 => ?_) (fun c6 => ?_)
          · refine eW_iconst 54 rfl rfl ?_
            refine eW_ret_i rfl rfl (Or.inr (Or.inl ⟨rfl, rfl⟩)) ?_
            have hm9 := hmh4
            rw [e9] at hm9
            obtain ⟨n1, rfl⟩ : ∃ n1, n = n1 + 1 := ⟨n - 1, by omega⟩
            have hR : R = (false, (tOrd T).2) := by rw [← q6, show tOrd T = (true, (tOrd T).2) by rw [← g1], tRdL_t rfl (by show (tOrd T).2.2.2.2.2.1 < (tOrd T).2.2.2.2.1; omega), tThen_f g2]; rw [show tSkip 59 (tOrd T).2 = (false, (tOrd T).2) from e9]; exact tRdL_f (Or.inl rfl)
            rw [hR]
            exact ⟨_, rfl, O1, _, ⟨hm9, frh4⟩, fun e => nomatch e⟩
          · refine eW_iconst 50 rfl rfl ?_
            refine eW_goto rfl ?_
            refine eW_ret_i rfl rfl (Or.inr (Or.inl ⟨rfl, rfl⟩)) ?_
            have hm9 := hmh4
            rw [e9] at hm9
            have hR : R = (true, (tOrd T).2) := by rw [← q6, show tOrd T = (true, (tOrd T).2) by rw [← g1]]; exact tRdL_f (Or.inr (by show ¬ (tOrd T).2.2.2.2.2.1 < (tOrd T).2.2.2.2.1; omega))
            rw [hR]
            exact ⟨_, rfl, O1, _, ⟨hm9, frh4⟩, fun _ => ⟨hlo.1.symm, by omega, by omega, hall⟩⟩
      · refine eW_iconst 18 rfl rfl ?_
        refine eW_ret_i rfl rfl (Or.inr (Or.inl ⟨rfl, rfl⟩)) ?_
        have g1 : (tOrd T).1 = false := by rcases hk with e | e <;> first | exact e.1 | exact absurd e.2 (by omega)
        have hR : R = tOrd T := by rw [← q6]; exact tRdL_f (Or.inl g1)
        rw [hR, show eB01 (tOrd T).1 = 0 by omega]
        exact ⟨_, rfl, O1, T.2.2.2.2.2, ⟨hmh1, frh1⟩, fun e => by rw [g1] at e; cases e⟩
    · have hle : T.2.2.2.2.2 ≤ 30 := by omega
      have hpe : T.2.2.2.1 ≤ T.2.2.2.2.1 := by omega
      refine eW_aload_n 11 rfl rfl rfl ?_
      refine eW_callVH 14 [.ref 63] [] [vI 0] rfl rfl rfl rfl (Nat.ble_eq_true_of_le (by omega)) (show h 63 = .inr (11, [.ref 64, .ref 65, .ref 66, .ref 67, vI (s 4), vI (s 5), vI (s 6), vI (s 7), vI (s 8), vI (s 9), .ref 68, vI (s 11), vI (s 12), .ref 69, vI (s 14), .ref 70, .ref 71, vI (s 17), vI (s 18), vI (s 19), vI p9, .ref 72, vI T.2.2.2.2.2]) from q1.1) rfl rfl rfl (m_orderEnd (d := d + 0) q1 hN (show tmR T (sUp (sUp s 20 p9) 22 T.2.2.2.2.2) (mUp A 8 O9) from q0) rfl hle hpe) rfl rfl ?_
      intro h1 fh1
      obtain ⟨O1, f9h1⟩ := fh1
      have hmh1 : mM h1 (sUp (sUp s 20 T.2.2.2.2.1) 22 T.2.2.2.2.2) (mUp A 8 O1) := f9h1.1
      have frh1 : mFr h0 h1 := mFr_t q2 f9h1.2
      refine eW_if_ne 17 rfl rfl (by unfold i32; omega) (fun c2 => absurd c2 (by omega)) (fun c2 => ?_)
      refine eW_iconst 18 rfl rfl ?_
      refine eW_ret_i rfl rfl (Or.inr (Or.inl ⟨rfl, rfl⟩)) ?_
      have e9 : tOrd T = (false, T) := tOrd_f (by omega)
      have hR : R = (false, T) := by rw [← q6, e9]; exact tRdL_f (Or.inl rfl)
      rw [hR]
      exact ⟨_, rfl, O1, T.2.2.2.2.2, ⟨hmh1, frh1⟩, fun e => nomatch e⟩
  | succ m9 ih =>
    intro n T p9 O9 h hm9 q0 q2 q1 q4 q5 q7 q6 q8
    have h0o := q0.1.2.2.1.1
    have hpb := q0.1.2.1
    have hlb := q0.1.1
    by_cases ho30 : T.2.2.2.2.2 < 30
    · refine eW_aload_n 11 rfl rfl rfl ?_
      have hk := eB01_c (tOrd T).1
      refine eW_callVH 14 [.ref 63] [] [vI (eB01 (tOrd T).1)] rfl rfl rfl rfl (Nat.ble_eq_true_of_le (by omega)) (show h 63 = .inr (11, [.ref 64, .ref 65, .ref 66, .ref 67, vI (s 4), vI (s 5), vI (s 6), vI (s 7), vI (s 8), vI (s 9), .ref 68, vI (s 11), vI (s 12), .ref 69, vI (s 14), .ref 70, .ref 71, vI (s 17), vI (s 18), vI (s 19), vI p9, .ref 72, vI T.2.2.2.2.2]) from q1.1) rfl rfl rfl (m_orderHere (d := d + 0) q1 hN (show tmR T (sUp (sUp s 20 p9) 22 T.2.2.2.2.2) (mUp A 8 O9) from q0) rfl ho30) rfl rfl ?_
      intro h1 fh1
      obtain ⟨O1, f9h1⟩ := fh1
      obtain ⟨f8h1, hlow, hok⟩ := f9h1
      have hmh1 : mM h1 (sUp (sUp s 20 ((tOrd T).2.2.2.2.2.1)) 22 T.2.2.2.2.2) (mUp A 8 O1) := f8h1.1
      have frh1 : mFr h0 h1 := mFr_t q2 f8h1.2
      refine eW_if_ne 17 rfl rfl (by unfold i32; omega) (fun c2 => ?_) (fun c2 => ?_)
      · have g1 : (tOrd T).1 = true := by rcases hk with e | e <;> first | exact e.1 | exact absurd e.2 (by omega)
        obtain ⟨hil, hilp⟩ := tOrd_il ho30
        have hlo := tLow_ord q0.1 ho30
        have hTO1 : gTO (tOrd T).2 := tOrd_ok q0.1
        have hp1 := hilp g1
        have hpl := hil.2.2.2 q8
        have hln := hil.2.1
        have hok9 := hok g1
        have hT1 : tmR (tOrd T).2 (sUp (sUp s 20 (tOrd T).2.2.2.2.2.1) 22 (T.2.2.2.2.2 + 1)) (mUp A 8 O1) := ⟨hTO1, by show s 11 = _; rw [hil.2.1]; exact q0.2.1, rfl, fun i hi => by rw [hil.1]; exact q0.2.2.2 i (by rw [← hil.2.1]; exact hi)⟩
        have hall : oAll (tOrd T).2 O1 (T.2.2.2.2.2 + 1) := by
          intro i h0 h1
          by_cases hi : i = T.2.2.2.2.2
          · rw [hi]; exact hok9
          · have hl := hlo.2 i h0 (by omega)
            exact oOk_congr h0 hl.1 hl.2 (fun j hj => hlow j (by omega)) (q5 i h0 (by omega))
        have htp : (tOrd T).2.2.2.2.2.1 ≤ 60 ∧ (tOrd T).2.2.2.2.1 ≤ 60 ∧ 0 ≤ (tOrd T).2.2.2.2.2.1 ∧ 0 ≤ (tOrd T).2.2.2.2.1 := ⟨hTO1.2.1.2, hTO1.1.2, hTO1.2.1.1, hTO1.1.1⟩
        refine eW_aload_n 20 rfl rfl rfl ?_
        refine eW_dup 21 rfl rfl rfl ?_
        refine eW_getfield 24 rfl rfl (Nat.ble_eq_true_of_le (by omega)) rfl (show h1 63 = .inr (11, [.ref 64, .ref 65, .ref 66, .ref 67, vI (s 4), vI (s 5), vI (s 6), vI (s 7), vI (s 8), vI (s 9), .ref 68, vI (s 11), vI (s 12), .ref 69, vI (s 14), .ref 70, .ref 71, vI (s 17), vI (s 18), vI (s 19), vI ((tOrd T).2.2.2.2.2.1), .ref 72, vI T.2.2.2.2.2]) from hmh1.1) rfl ⟨rfl, fun _ h9 => nomatch h9⟩ ?_
        refine eW_iconst 25 rfl rfl ?_
        refine eW_iadd 26 rfl rfl ?_
        refine eW_putfield 29 [.ref 64, .ref 65, .ref 66, .ref 67, vI (s 4), vI (s 5), vI (s 6), vI (s 7), vI (s 8), vI (s 9), .ref 68, vI (s 11), vI (s 12), .ref 69, vI (s 14), .ref 70, .ref 71, vI (s 17), vI (s 18), vI (s 19), vI ((tOrd T).2.2.2.2.2.1), .ref 72, vI (T.2.2.2.2.2 + 1)] rfl rfl (Nat.ble_eq_true_of_le (by omega)) rfl (show h1 63 = .inr (11, [.ref 64, .ref 65, .ref 66, .ref 67, vI (s 4), vI (s 5), vI (s 6), vI (s 7), vI (s 8), vI (s 9), .ref 68, vI (s 11), vI (s 12), .ref 69, vI (s 14), .ref 70, .ref 71, vI (s 17), vI (s 18), vI (s 19), vI ((tOrd T).2.2.2.2.2.1), .ref 72, vI T.2.2.2.2.2]) from hmh1.1) rfl rfl ?_
        intro h3 eh3 oh3
        have hmh3 : mM h3 (sUp (sUp s 20 ((tOrd T).2.2.2.2.2.1)) 22 (T.2.2.2.2.2 + 1)) (mUp A 8 O1) := mM_s (s := (sUp (sUp s 20 ((tOrd T).2.2.2.2.2.1)) 22 T.2.2.2.2.2)) hmh1 eh3 oh3
        have frh3 : mFr h0 h3 := mFr_s frh1 oh3
        refine eW_aload_n 30 rfl rfl rfl ?_
        refine eW_bipush 32 rfl rfl 59 rfl ?_
        have hk2 := eB01_c (tSkip 59 (tOrd T).2).1
        refine eW_callVH 35 [.ref 63, vI 59] [] [vI (eB01 (tSkip 59 (tOrd T).2).1)] rfl rfl rfl rfl (Nat.ble_eq_true_of_le (by omega)) (show h3 63 = .inr (11, [.ref 64, .ref 65, .ref 66, .ref 67, vI (s 4), vI (s 5), vI (s 6), vI (s 7), vI (s 8), vI (s 9), .ref 68, vI (s 11), vI (s 12), .ref 69, vI (s 14), .ref 70, .ref 71, vI (s 17), vI (s 18), vI (s 19), vI ((tOrd T).2.2.2.2.2.1), .ref 72, vI (T.2.2.2.2.2 + 1)]) from hmh3.1) rfl rfl rfl (m_skips (d := d + 1) hmh3 hN (show tmR (tOrd T).2 (sUp (sUp s 20 ((tOrd T).2.2.2.2.2.1)) 22 (T.2.2.2.2.2 + 1)) (mUp A 8 O1) from hT1) (c := 59) (by decide)) rfl rfl ?_
        intro h4 fh4
        have hmh4 : mM h4 (sUp (sUp s 20 ((tSkip 59 (tOrd T).2).2.2.2.2.2.1)) 22 (T.2.2.2.2.2 + 1)) (mUp A 8 O1) := fh4.1
        have frh4 : mFr h0 h4 := mFr_t frh3 fh4.2
        refine eW_if_ne 38 rfl rfl (by unfold i32; omega) (fun c5 => ?_) (fun c5 => ?_)
        · have g2 : (tSkip 59 (tOrd T).2).1 = true := by rcases hk2 with e | e <;> first | exact e.1 | exact absurd e.2 (by omega)
          have hy := tSkip_yes g2
          have e9 := tSkip_t (T := (tOrd T).2) hy
          obtain ⟨n1, rfl⟩ : ∃ n1, n = n1 + 1 := ⟨n - 1, by omega⟩
          have hR : tRdL n1 (tOrd (tSkip 59 (tOrd T).2).2) = R := by rw [← q6, show tOrd T = (true, (tOrd T).2) by rw [← g1], tRdL_t rfl (by exact hy.1), tThen_t g2]
          refine ih n1 (tSkip 59 (tOrd T).2).2 (tSkip 59 (tOrd T).2).2.2.2.2.2.1 O1 h4 ?_ ?_ frh4 ?_ ?_ ?_ ?_ hR ?_
          · rw [e9]; show (60 : Int) - ((tOrd T).2.2.2.2.2.1 + 1) ≤ _; omega
          · have e8 := tmR_skip (c := 59) hT1; exact e8
          · rw [show (tSkip 59 (tOrd T).2).2.2.2.2.2.2 = T.2.2.2.2.2 + 1 by rw [e9]; exact hlo.1]; exact hmh4
          · rw [e9]; show (tOrd T).2.2.2.2.2.2 ≤ 30 ∧ 2 * (tOrd T).2.2.2.2.2.2 ≤ (tOrd T).2.2.2.2.2.1 + 1; rw [hlo.1]; omega
          · rw [e9]; show oAll _ O1 (tOrd T).2.2.2.2.2.2; rw [hlo.1]; exact hall
          · rw [e9]; show (tOrd T).2.2.2.2.1 - ((tOrd T).2.2.2.2.2.1 + 1) ≤ _; omega
          · rw [e9]; show (tOrd T).2.2.2.2.2.1 + 1 ≤ (tOrd T).2.2.2.2.1; omega
        · have g2 : (tSkip 59 (tOrd T).2).1 = false := by rcases hk2 with e | e <;> first | exact e.1 | exact absurd e.2 (by omega)
          have e9 := tSkip_no g2
          have hp9 : (tSkip 59 (tOrd T).2).2.2.2.2.2.1 = (tOrd T).2.2.2.2.2.1 := by rw [e9]
          have h11 : s 11 = (tOrd T).2.2.2.2.1 := hT1.2.1
          refine eW_aload_n 39 rfl rfl rfl ?_
          refine eW_getfield 42 rfl rfl (Nat.ble_eq_true_of_le (by omega)) rfl (show h4 63 = .inr (11, [.ref 64, .ref 65, .ref 66, .ref 67, vI (s 4), vI (s 5), vI (s 6), vI (s 7), vI (s 8), vI (s 9), .ref 68, vI (s 11), vI (s 12), .ref 69, vI (s 14), .ref 70, .ref 71, vI (s 17), vI (s 18), vI (s 19), vI ((tSkip 59 (tOrd T).2).2.2.2.2.2.1), .ref 72, vI (T.2.2.2.2.2 + 1)]) from hmh4.1) rfl ⟨rfl, fun _ h9 => nomatch h9⟩ ?_
          refine eW_aload_n 43 rfl rfl rfl ?_
          refine eW_getfield 46 rfl rfl (Nat.ble_eq_true_of_le (by omega)) rfl (show h4 63 = .inr (11, [.ref 64, .ref 65, .ref 66, .ref 67, vI (s 4), vI (s 5), vI (s 6), vI (s 7), vI (s 8), vI (s 9), .ref 68, vI (s 11), vI (s 12), .ref 69, vI (s 14), .ref 70, .ref 71, vI (s 17), vI (s 18), vI (s 19), vI ((tSkip 59 (tOrd T).2).2.2.2.2.2.1), .ref 72, vI (T.2.2.2.2.2 + 1)]) from hmh4.1) rfl ⟨rfl, fun _ h9 => nomatch h9⟩ ?_
          refine eW_icmp_ne 49 rfl rfl (by unfold i32; omega) (by unfold i32; omega) (fun c6 => ?_) (fun c6 => ?_)
          · refine eW_iconst 54 rfl rfl ?_
            refine eW_ret_i rfl rfl (Or.inr (Or.inl ⟨rfl, rfl⟩)) ?_
            have hm9 := hmh4
            rw [e9] at hm9
            obtain ⟨n1, rfl⟩ : ∃ n1, n = n1 + 1 := ⟨n - 1, by omega⟩
            have hR : R = (false, (tOrd T).2) := by rw [← q6, show tOrd T = (true, (tOrd T).2) by rw [← g1], tRdL_t rfl (by show (tOrd T).2.2.2.2.2.1 < (tOrd T).2.2.2.2.1; omega), tThen_f g2]; rw [show tSkip 59 (tOrd T).2 = (false, (tOrd T).2) from e9]; exact tRdL_f (Or.inl rfl)
            rw [hR]
            exact ⟨_, rfl, O1, _, ⟨hm9, frh4⟩, fun e => nomatch e⟩
          · refine eW_iconst 50 rfl rfl ?_
            refine eW_goto rfl ?_
            refine eW_ret_i rfl rfl (Or.inr (Or.inl ⟨rfl, rfl⟩)) ?_
            have hm9 := hmh4
            rw [e9] at hm9
            have hR : R = (true, (tOrd T).2) := by rw [← q6, show tOrd T = (true, (tOrd T).2) by rw [← g1]]; exact tRdL_f (Or.inr (by show ¬ (tOrd T).2.2.2.2.2.1 < (tOrd T).2.2.2.2.1; omega))
            rw [hR]
            exact ⟨_, rfl, O1, _, ⟨hm9, frh4⟩, fun _ => ⟨hlo.1.symm, by omega, by omega, hall⟩⟩
      · refine eW_iconst 18 rfl rfl ?_
        refine eW_ret_i rfl rfl (Or.inr (Or.inl ⟨rfl, rfl⟩)) ?_
        have g1 : (tOrd T).1 = false := by rcases hk with e | e <;> first | exact e.1 | exact absurd e.2 (by omega)
        have hR : R = tOrd T := by rw [← q6]; exact tRdL_f (Or.inl g1)
        rw [hR, show eB01 (tOrd T).1 = 0 by omega]
        exact ⟨_, rfl, O1, T.2.2.2.2.2, ⟨hmh1, frh1⟩, fun e => by rw [g1] at e; cases e⟩
    · have hle : T.2.2.2.2.2 ≤ 30 := by omega
      have hpe : T.2.2.2.1 ≤ T.2.2.2.2.1 := by omega
      refine eW_aload_n 11 rfl rfl rfl ?_
      refine eW_callVH 14 [.ref 63] [] [vI 0] rfl rfl rfl rfl (Nat.ble_eq_true_of_le (by omega)) (show h 63 = .inr (11, [.ref 64, .ref 65, .ref 66, .ref 67, vI (s 4), vI (s 5), vI (s 6), vI (s 7), vI (s 8), vI (s 9), .ref 68, vI (s 11), vI (s 12), .ref 69, vI (s 14), .ref 70, .ref 71, vI (s 17), vI (s 18), vI (s 19), vI p9, .ref 72, vI T.2.2.2.2.2]) from q1.1) rfl rfl rfl (m_orderEnd (d := d + 0) q1 hN (show tmR T (sUp (sUp s 20 p9) 22 T.2.2.2.2.2) (mUp A 8 O9) from q0) rfl hle hpe) rfl rfl ?_
      intro h1 fh1
      obtain ⟨O1, f9h1⟩ := fh1
      have hmh1 : mM h1 (sUp (sUp s 20 T.2.2.2.2.1) 22 T.2.2.2.2.2) (mUp A 8 O1) := f9h1.1
      have frh1 : mFr h0 h1 := mFr_t q2 f9h1.2
      refine eW_if_ne 17 rfl rfl (by unfold i32; omega) (fun c2 => absurd c2 (by omega)) (fun c2 => ?_)
      refine eW_iconst 18 rfl rfl ?_
      refine eW_ret_i rfl rfl (Or.inr (Or.inl ⟨rfl, rfl⟩)) ?_
      have e9 : tOrd T = (false, T) := tOrd_f (by omega)
      have hR : R = (false, T) := by rw [← q6, e9]; exact tRdL_f (Or.inl rfl)
      rw [hR]
      exact ⟨_, rfl, O1, T.2.2.2.2.2, ⟨hmh1, frh1⟩, fun e => nomatch e⟩
theorem m_isText {d N : Nat} {h : eHp} {s : Nat → Int} {A : Nat → Nat → Int} (hm : mM h s A) (hN : 75 ≤ N) {T : eTx} (hT : gTO T) (hl : s 11 = T.2.2.2.1) (hi : ∀ i : Nat, (i : Int) < T.2.2.2.1 → A 4 i = T.1 i) : eSp (d + 4) eM_X7_isText [.ref 63] N h (eChg (some (vI (eB01 (tRead T).1))) N (mTx h s A (tRead T))) := by
  refine eSp_of [(0, .ref 63)] rfl rfl ?_
  refine eW_aload_n 1 rfl rfl rfl ?_
  refine eW_iconst 2 rfl rfl ?_
  refine eW_putfield 5 [.ref 64, .ref 65, .ref 66, .ref 67, vI (s 4), vI (s 5), vI (s 6), vI (s 7), vI (s 8), vI (s 9), .ref 68, vI (s 11), vI (s 12), .ref 69, vI (s 14), .ref 70, .ref 71, vI (s 17), vI (s 18), vI (s 19), vI 0, .ref 72, vI (s 22)] rfl rfl (Nat.ble_eq_true_of_le (by omega)) rfl hm.1 rfl rfl ?_
  intro h1 eh1 oh1
  have hmh1 : mM h1 (sUp s 20 0) A := mM_s (s := s) hm eh1 oh1
  have frh1 : mFr h h1 := mFr_s (fun _ _ => rfl) oh1
  refine eW_aload_n 6 rfl rfl rfl ?_
  refine eW_iconst 7 rfl rfl ?_
  refine eW_putfield 10 [.ref 64, .ref 65, .ref 66, .ref 67, vI (s 4), vI (s 5), vI (s 6), vI (s 7), vI (s 8), vI (s 9), .ref 68, vI (s 11), vI (s 12), .ref 69, vI (s 14), .ref 70, .ref 71, vI (s 17), vI (s 18), vI (s 19), vI 0, .ref 72, vI 0] rfl rfl (Nat.ble_eq_true_of_le (by omega)) rfl (show h1 63 = .inr (11, [.ref 64, .ref 65, .ref 66, .ref 67, vI (s 4), vI (s 5), vI (s 6), vI (s 7), vI (s 8), vI (s 9), .ref 68, vI (s 11), vI (s 12), .ref 69, vI (s 14), .ref 70, .ref 71, vI (s 17), vI (s 18), vI (s 19), vI 0, .ref 72, vI (s 22)]) from hmh1.1) rfl rfl ?_
  intro h2 eh2 oh2
  have hmh2 : mM h2 (sUp (sUp s 20 0) 22 0) A := mM_s (s := (sUp s 20 0)) hmh1 eh2 oh2
  have frh2 : mFr h h2 := mFr_s frh1 oh2
  have hTO0 : gTO (T.1, T.2.1, T.2.2.1, T.2.2.2.1, 0, 0) := ⟨hT.1, by show (0 : Int) ≤ 0 ∧ (0 : Int) ≤ 60; omega, by show (0 : Int) ≤ 0 ∧ (0 : Int) ≤ 30; omega, hT.2.2.2⟩
  exact m_text_l (h0 := h) (s := s) (A := A) hN 60 60 (T.1, T.2.1, T.2.2.1, T.2.2.2.1, 0, 0) 0 (A 8) h2 (by show (60 : Int) - 0 ≤ _; omega) ⟨hTO0, hl, rfl, hi⟩ frh2 hmh2 (by show (0 : Int) ≤ 30 ∧ 2 * 0 ≤ 0; omega) (fun i h0 h1 => absurd h1 (by show ¬ i < 0; omega)) (by show T.2.2.2.1 - 0 ≤ _; have := hT.1.2; omega) rfl hT.1.1
