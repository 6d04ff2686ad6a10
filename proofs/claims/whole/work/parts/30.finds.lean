/-! the model's values -/
theorem mV_r {V : Nat → Int} {D : Int → Int} {i m : Int} (hV : ∀ i : Nat, (i : Int) < m → V i = gv D i) (h0 : 0 ≤ i) (h1 : i < m) (h2 : m ≤ 31) : eIA V i.toNat = Int32.ofInt (gvv D i) :=
  congrArg Int32.ofInt (by rw [hV _ (by omega)]; unfold gvv; rw [gVal_t (by omega)])
theorem gvv_30 {D : Int → Int} (i : Int) : 0 ≤ gvv D i ∧ gvv D i ≤ 30 := by
  unfold gvv
  by_cases h : 0 ≤ i ∧ i ≤ 30
  · rw [gVal_t h]; have := gv_le (D := D) (i.toNat + 1) i.toNat (by omega) (by omega); omega
  · rw [gVal_f h]; omega
theorem eB01_b {x : Int} {b : Bool} (h : x = eB01 b) : x = 0 ∨ x = 1 := by rw [h]; cases b; exact Or.inl rfl; exact Or.inr rfl
theorem has_t {F : Nat → Int} {p : Nat → Bool} {c : Bool} {x : Int} (hF : ∀ k : Nat, k < 256 → F k = eB01 (p k)) (hx : 0 ≤ x) (hc : c = true) : ∀ k : Nat, k < 256 → eUp F x.toNat 1 k = eB01 (p k || (c && decide (x = (k : Int)))) := by
  intro k hk
  by_cases h : x = (k : Int)
  · rw [eUp_eq (by omega), hc, decide_eq_true h, Bool.true_and, Bool.or_true]; rfl
  · rw [eUp_ne (by omega), hF k hk, decide_eq_false h, Bool.and_false, Bool.or_false]
theorem has_f {F : Nat → Int} {p : Nat → Bool} {c : Bool} {q : Nat → Bool} (hF : ∀ k : Nat, k < 256 → F k = eB01 (p k)) (hc : c = false) : ∀ k : Nat, k < 256 → F k = eB01 (p k || (c && q k)) := by
  intro k hk
  rw [hF k hk, hc, Bool.false_and, Bool.or_false]
theorem has_s {F : Nat → Int} {p q : Nat → Bool} {c : Bool} {x : Int} (hF : ∀ k : Nat, k < 256 → F k = eB01 (p k || (c && q k))) (hc : c = true) (hx : 0 ≤ x) : ∀ k : Nat, k < 256 → eUp F x.toNat 1 k = eB01 (p k || (c && (q k || decide (x = (k : Int))))) := by
  intro k hk
  by_cases h : x = (k : Int)
  · rw [eUp_eq (by omega), hc, decide_eq_true h, Bool.true_and, Bool.or_true, Bool.or_true]; rfl
  · rw [eUp_ne (by omega), hF k hk, decide_eq_false h, Bool.or_false]
/-- what taking t adds, as the model finds it -/
def fOpt (D T : Int → Int) (m t x : Int) : Bool := ((decide (m = t ∧ D t % 2 = 1) && decide (0 = x)) || (decide (t < m ∧ D t / 2 % 2 = 1) && decide (T (m - t) = x))) || (decide (D t / 4 % 2 = 1) && gSpl T (m - t) x (m - t - 1).toNat)
theorem fOpt_eq {D T : Int → Int} {m t x : Int} (h1 : 1 ≤ t) (h2 : t ≤ m) (hT0 : T 0 = 0) (hT : ∀ i, 0 ≤ T i) : fOpt D T m t x = gOptL D T m t x (m - t + 1).toNat := by
  rw [Bool.eq_iff_iff, gOptL_iff]
  unfold fOpt
  simp only [Bool.or_eq_true, Bool.and_eq_true, decide_eq_true_eq, gSpl_iff]
  constructor
  · rintro ((⟨⟨a, b⟩, c⟩ | ⟨⟨a, b⟩, c⟩) | ⟨a, l, b, c, e⟩)
    · exact ⟨0, by omega, gLets_t (by omega), by rw [show m - t - ((0 : Nat) : Int) = ((0 : Nat) : Int) by omega, gXr_self]; exact c⟩
    · refine ⟨(m - t).toNat, by omega, gLets_t (by omega), ?_⟩
      rw [show (((m - t).toNat : Nat) : Int) = m - t by omega, show m - t - (m - t) = 0 by omega, hT0, gXr_zero (hT _)]; exact c
    · refine ⟨l.toNat, by omega, gLets_t (by omega), ?_⟩
      rw [show ((l.toNat : Nat) : Int) = l by omega]; exact e
  · rintro ⟨k, a, b, c⟩
    have hl := gLets_iff.mp b
    by_cases hk : k = 0
    · subst hk
      refine Or.inl (Or.inl ⟨⟨by omega, by omega⟩, ?_⟩)
      rw [show m - t - ((0 : Nat) : Int) = ((0 : Nat) : Int) by omega, gXr_self] at c; exact c
    · by_cases hk2 : t + (k : Int) = m
      · refine Or.inl (Or.inr ⟨⟨by omega, by omega⟩, ?_⟩)
        rw [show m - t - (k : Int) = 0 by omega, hT0, gXr_zero (hT _), show (k : Int) = m - t by omega] at c; exact c
      · exact Or.inr ⟨by omega, (k : Int), by omega, by omega, c⟩
theorem m_fills_1 {d N k z : Nat} {h0 : eHp} {s : Nat → Int} {A : Nat → Nat → Int} (hN : 75 ≤ N) {P : eR → Prop} {m : Int} : ∀ (m9 : Nat) (c : Int) (F : Nat → Int) (h : eHp), 256 - c ≤ m9 → 0 ≤ c ∧ c ≤ 256 → mM h s (mUp A 7 F) → mFr h0 h → (∀ j : Nat, (j : Int) < c → F j = 0) → (∀ (F : Nat → Int) (h : eHp), mM h s (mUp A 7 F) → mFr h0 h → (∀ j : Nat, j < 256 → F j = 0) → eWp eOx (eEv (d + 0)) eM_X7_fills (22, [(0, .ref 63), (1, vI m)], [], N, h, k, z) P) → eWp eOx (eEv (d + 0)) eM_X7_fills (2, [(0, .ref 63), (1, vI m), (2, vI c)], [], N, h, k, z) P := by
  intro m9
  induction m9 with
  | zero =>
    intro c F h hm9 q0 q1 q2 q3 kk
    refine eW_iload_n 3 rfl rfl rfl ?_
    refine eW_sipush 6 rfl rfl 256 rfl ?_
    refine eW_icmp_ge 9 rfl rfl (by unfold i32; omega) (by unfold i32; omega) (fun c1 => ?_) (fun c1 => ?_)
    · refine eW_re [(0, .ref 63), (1, vI m)] rfl rfl (List.forall_mem_cons.mpr ⟨rfl, List.forall_mem_cons.mpr ⟨rfl, fun _ h => absurd h List.not_mem_nil⟩⟩) (List.forall_mem_cons.mpr ⟨Or.inl rfl, List.forall_mem_cons.mpr ⟨Or.inl rfl, List.forall_mem_cons.mpr ⟨Or.inr ⟨_, rfl⟩, fun _ h => absurd h List.not_mem_nil⟩⟩⟩) ?_
      exact kk F h q1 q2 (fun j hj => q3 j (by omega))
    · refine eW_aload_n 10 rfl rfl rfl ?_
      refine eW_getfield 13 rfl rfl (Nat.ble_eq_true_of_le (by omega)) rfl q1.1 rfl ⟨rfl, fun _ h9 => nomatch h9⟩ ?_
      refine eW_iload_n 14 rfl rfl rfl ?_
      refine eW_iconst 15 rfl rfl ?_
      refine eW_bastore 16 rfl rfl (Nat.ble_eq_true_of_le (by omega)) (show h 71 = .inl (2, 256, .inl (eIA F)) from q1.2.2.2.2.2.2.2.2.1) (by omega) (by omega) (by unfold i32; omega) rfl ?_
      intro h2 eh2 oh2
      have hmh2 : mM h2 s (mUp A 7 (eUp F c.toNat 0)) := mM_7 q1 eh2 oh2 ⟨rfl, rfl, rfl, rfl, rfl, rfl, rfl, rfl⟩
      have frh2 : mFr h0 h2 := mFr_a q2 (by decide) oh2
      refine eW_iinc 19 rfl rfl [(2, vI (c + 1)), (0, .ref 63), (1, vI m)] rfl rfl rfl ?_
      refine eW_goto rfl ?_
      refine eW_re [(0, .ref 63), (1, vI m), (2, vI (c + 1))] rfl rfl (List.forall_mem_cons.mpr ⟨rfl, List.forall_mem_cons.mpr ⟨rfl, List.forall_mem_cons.mpr ⟨rfl, fun _ h => absurd h List.not_mem_nil⟩⟩⟩) (List.forall_mem_cons.mpr ⟨Or.inl rfl, List.forall_mem_cons.mpr ⟨Or.inl rfl, List.forall_mem_cons.mpr ⟨Or.inl rfl, fun _ h => absurd h List.not_mem_nil⟩⟩⟩) ?_
      exact absurd hm9 (by omega)
  | succ m9 ih =>
    intro c F h hm9 q0 q1 q2 q3 kk
    refine eW_iload_n 3 rfl rfl rfl ?_
    refine eW_sipush 6 rfl rfl 256 rfl ?_
    refine eW_icmp_ge 9 rfl rfl (by unfold i32; omega) (by unfold i32; omega) (fun c1 => ?_) (fun c1 => ?_)
    · refine eW_re [(0, .ref 63), (1, vI m)] rfl rfl (List.forall_mem_cons.mpr ⟨rfl, List.forall_mem_cons.mpr ⟨rfl, fun _ h => absurd h List.not_mem_nil⟩⟩) (List.forall_mem_cons.mpr ⟨Or.inl rfl, List.forall_mem_cons.mpr ⟨Or.inl rfl, List.forall_mem_cons.mpr ⟨Or.inr ⟨_, rfl⟩, fun _ h => absurd h List.not_mem_nil⟩⟩⟩) ?_
      exact kk F h q1 q2 (fun j hj => q3 j (by omega))
    · refine eW_aload_n 10 rfl rfl rfl ?_
      refine eW_getfield 13 rfl rfl (Nat.ble_eq_true_of_le (by omega)) rfl q1.1 rfl ⟨rfl, fun _ h9 => nomatch h9⟩ ?_
      refine eW_iload_n 14 rfl rfl rfl ?_
      refine eW_iconst 15 rfl rfl ?_
      refine eW_bastore 16 rfl rfl (Nat.ble_eq_true_of_le (by omega)) (show h 71 = .inl (2, 256, .inl (eIA F)) from q1.2.2.2.2.2.2.2.2.1) (by omega) (by omega) (by unfold i32; omega) rfl ?_
      intro h2 eh2 oh2
      have hmh2 : mM h2 s (mUp A 7 (eUp F c.toNat 0)) := mM_7 q1 eh2 oh2 ⟨rfl, rfl, rfl, rfl, rfl, rfl, rfl, rfl⟩
      have frh2 : mFr h0 h2 := mFr_a q2 (by decide) oh2
      refine eW_iinc 19 rfl rfl [(2, vI (c + 1)), (0, .ref 63), (1, vI m)] rfl rfl rfl ?_
      refine eW_goto rfl ?_
      refine eW_re [(0, .ref 63), (1, vI m), (2, vI (c + 1))] rfl rfl (List.forall_mem_cons.mpr ⟨rfl, List.forall_mem_cons.mpr ⟨rfl, List.forall_mem_cons.mpr ⟨rfl, fun _ h => absurd h List.not_mem_nil⟩⟩⟩) (List.forall_mem_cons.mpr ⟨Or.inl rfl, List.forall_mem_cons.mpr ⟨Or.inl rfl, List.forall_mem_cons.mpr ⟨Or.inl rfl, fun _ h => absurd h List.not_mem_nil⟩⟩⟩) ?_
      refine ih (c + 1) _ h2 (by omega) (by omega) hmh2 frh2 (fun j hj => ?_) kk
      by_cases hj2 : (j : Int) = c
      · rw [eUp_eq (by omega)]
      · rw [eUp_ne (by omega)]; exact q3 j (by omega)
theorem m_fills_2 {d N k z : Nat} {h0 : eHp} {s : Nat → Int} {A : Nat → Nat → Int} (hN : 75 ≤ N) {P : eR → Prop} {G : eGd} (hr : rR G (A 0)) (hG : gOk G) {m : Int} (hm0 : 0 ≤ m) (hm1 : m ≤ 31) (hm2 : m ≤ 30) (hV : ∀ i : Nat, (i : Int) < m → A 6 i = gv (gDig G) i) {t : Int} (ht : 1 ≤ t ∧ t ≤ 6) (ht2 : t ≤ m) {p : Nat → Bool} : ∀ (m9 : Nat) (l : Int) (F : Nat → Int) (h : eHp), m - t - l ≤ m9 → 1 ≤ l ∧ (l ≤ m - t ∨ l = 1) → mM h s (mUp A 7 F) → mFr h0 h → (∀ k : Nat, k < 256 → F k = eB01 (p k || (decide (gDig G t / 4 % 2 = 1) && gSpl (gvv (gDig G)) (m - t) k (l - 1).toNat))) → (∀ (F : Nat → Int) (h : eHp), mM h s (mUp A 7 F) → mFr h0 h → (∀ k : Nat, k < 256 → F k = eB01 (p k || (decide (gDig G t / 4 % 2 = 1) && gSpl (gvv (gDig G)) (m - t) k (m - t - 1).toNat))) → eWp eOx (eEv (d + 0)) eM_X7_fills (136, [(0, .ref 63), (1, vI m), (2, vI t)], [], N, h, k, z) P) → eWp eOx (eEv (d + 0)) eM_X7_fills (91, [(0, .ref 63), (1, vI m), (2, vI t), (3, vI (gDig G t)), (4, vI l)], [], N, h, k, z) P := by
  intro m9
  induction m9 with
  | zero =>
    intro l F h hm9 q0 q1 q2 q3 kk
    have hd := gDig_le hG t
    have hx1 := gvv_30 (D := gDig G) l
    have hx2 := gvv_30 (D := gDig G) (m - t - l)
    have hx3 := gXr_lt (a := gvv (gDig G) l) (b := gvv (gDig G) (m - t - l)) (by omega) (by omega)
    refine eW_iload_n 92 rfl rfl rfl ?_
    refine eW_iconst 93 rfl rfl ?_
    refine eW_iand 94 rfl rfl ((gDig G t) / 4 % 2 * 4) (eAnd4 hd.1 hd.2) ?_
    refine eW_if_le 97 rfl rfl (by unfold i32; omega) (fun c1 => ?_) (fun c1 => ?_)
    · refine eW_re [(0, .ref 63), (1, vI m), (2, vI t)] rfl rfl (List.forall_mem_cons.mpr ⟨rfl, List.forall_mem_cons.mpr ⟨rfl, List.forall_mem_cons.mpr ⟨rfl, fun _ h => absurd h List.not_mem_nil⟩⟩⟩) (List.forall_mem_cons.mpr ⟨Or.inl rfl, List.forall_mem_cons.mpr ⟨Or.inl rfl, List.forall_mem_cons.mpr ⟨Or.inl rfl, List.forall_mem_cons.mpr ⟨Or.inr ⟨_, rfl⟩, List.forall_mem_cons.mpr ⟨Or.inr ⟨_, rfl⟩, fun _ h => absurd h List.not_mem_nil⟩⟩⟩⟩⟩) ?_
      refine kk F h q1 q2 (fun k hk => ?_)
      rw [q3 k hk]
      first
        | rw [show (l - 1).toNat = (m - t - 1).toNat by omega]
        | rw [decide_eq_false (by omega : ¬ gDig G t / 4 % 2 = 1), Bool.false_and, Bool.false_and]
    · refine eW_iload 99 rfl rfl rfl ?_
      refine eW_iload_n 100 rfl rfl rfl ?_
      refine eW_iload_n 101 rfl rfl rfl ?_
      refine eW_isub 102 rfl rfl ?_
      refine eW_icmp_ge 105 rfl rfl (by unfold i32; omega) (by unfold i32; omega) (fun c2 => ?_) (fun c2 => ?_)
      · refine eW_re [(0, .ref 63), (1, vI m), (2, vI t)] rfl rfl (List.forall_mem_cons.mpr ⟨rfl, List.forall_mem_cons.mpr ⟨rfl, List.forall_mem_cons.mpr ⟨rfl, fun _ h => absurd h List.not_mem_nil⟩⟩⟩) (List.forall_mem_cons.mpr ⟨Or.inl rfl, List.forall_mem_cons.mpr ⟨Or.inl rfl, List.forall_mem_cons.mpr ⟨Or.inl rfl, List.forall_mem_cons.mpr ⟨Or.inr ⟨_, rfl⟩, List.forall_mem_cons.mpr ⟨Or.inr ⟨_, rfl⟩, fun _ h => absurd h List.not_mem_nil⟩⟩⟩⟩⟩) ?_
        refine kk F h q1 q2 (fun k hk => ?_)
        rw [q3 k hk]
        first
          | rw [show (l - 1).toNat = (m - t - 1).toNat by omega]
          | rw [decide_eq_false (by omega : ¬ gDig G t / 4 % 2 = 1), Bool.false_and, Bool.false_and]
      · refine eW_aload_n 106 rfl rfl rfl ?_
        refine eW_getfield 109 rfl rfl (Nat.ble_eq_true_of_le (by omega)) rfl q1.1 rfl ⟨rfl, fun _ h9 => nomatch h9⟩ ?_
        refine eW_aload_n 110 rfl rfl rfl ?_
        refine eW_getfield 113 rfl rfl (Nat.ble_eq_true_of_le (by omega)) rfl q1.1 rfl ⟨rfl, fun _ h9 => nomatch h9⟩ ?_
        refine eW_iload 115 rfl rfl rfl ?_
        refine eW_iaload 116 rfl rfl (gvv (gDig G) l) (Nat.ble_eq_true_of_le (by omega)) (show h 70 = .inl (0, 31, .inl (eIA (A 6))) from q1.2.2.2.2.2.2.2.1) (by omega) (by omega) (by unfold i32; omega) (mV_r hV (by omega) (by omega) hm1) ?_
        refine eW_aload_n 117 rfl rfl rfl ?_
        refine eW_getfield 120 rfl rfl (Nat.ble_eq_true_of_le (by omega)) rfl q1.1 rfl ⟨rfl, fun _ h9 => nomatch h9⟩ ?_
        refine eW_iload_n 121 rfl rfl rfl ?_
        refine eW_iload_n 122 rfl rfl rfl ?_
        refine eW_isub 123 rfl rfl ?_
        refine eW_iload 125 rfl rfl rfl ?_
        refine eW_isub 126 rfl rfl ?_
        refine eW_iaload 127 rfl rfl (gvv (gDig G) ((m - t) - l)) (Nat.ble_eq_true_of_le (by omega)) (show h 70 = .inl (0, 31, .inl (eIA (A 6))) from q1.2.2.2.2.2.2.2.1) (by omega) (by omega) (by unfold i32; omega) (mV_r hV (by omega) (by omega) hm1) ?_
        refine eW_ixor 128 rfl rfl (gXr (gvv (gDig G) l) (gvv (gDig G) ((m - t) - l))) (gXr_ok (gvv_nn _) (gvv_nn _)) ?_
        refine eW_iconst 129 rfl rfl ?_
        refine eW_bastore 130 rfl rfl (Nat.ble_eq_true_of_le (by omega)) (show h 71 = .inl (2, 256, .inl (eIA F)) from q1.2.2.2.2.2.2.2.2.1) (by omega) (by omega) (by unfold i32; omega) rfl ?_
        intro h3 eh3 oh3
        have hmh3 : mM h3 s (mUp A 7 (eUp F (gXr (gvv (gDig G) l) (gvv (gDig G) ((m - t) - l))).toNat 1)) := mM_7 q1 eh3 oh3 ⟨rfl, rfl, rfl, rfl, rfl, rfl, rfl, rfl⟩
        have frh3 : mFr h0 h3 := mFr_a q2 (by decide) oh3
        refine eW_iinc 133 rfl rfl [(4, vI (l + 1)), (0, .ref 63), (1, vI m), (2, vI t), (3, vI (gDig G t))] rfl rfl rfl ?_
        refine eW_goto rfl ?_
        refine eW_re [(0, .ref 63), (1, vI m), (2, vI t), (3, vI (gDig G t)), (4, vI (l + 1))] rfl rfl (List.forall_mem_cons.mpr ⟨rfl, List.forall_mem_cons.mpr ⟨rfl, List.forall_mem_cons.mpr ⟨rfl, List.forall_mem_cons.mpr ⟨rfl, List.forall_mem_cons.mpr ⟨rfl, fun _ h => absurd h List.not_mem_nil⟩⟩⟩⟩⟩) (List.forall_mem_cons.mpr ⟨Or.inl rfl, List.forall_mem_cons.mpr ⟨Or.inl rfl, List.forall_mem_cons.mpr ⟨Or.inl rfl, List.forall_mem_cons.mpr ⟨Or.inl rfl, List.forall_mem_cons.mpr ⟨Or.inl rfl, fun _ h => absurd h List.not_mem_nil⟩⟩⟩⟩⟩) ?_
        exact absurd hm9 (by omega)
  | succ m9 ih =>
    intro l F h hm9 q0 q1 q2 q3 kk
    have hd := gDig_le hG t
    have hx1 := gvv_30 (D := gDig G) l
    have hx2 := gvv_30 (D := gDig G) (m - t - l)
    have hx3 := gXr_lt (a := gvv (gDig G) l) (b := gvv (gDig G) (m - t - l)) (by omega) (by omega)
    refine eW_iload_n 92 rfl rfl rfl ?_
    refine eW_iconst 93 rfl rfl ?_
    refine eW_iand 94 rfl rfl ((gDig G t) / 4 % 2 * 4) (eAnd4 hd.1 hd.2) ?_
    refine eW_if_le 97 rfl rfl (by unfold i32; omega) (fun c1 => ?_) (fun c1 => ?_)
    · refine eW_re [(0, .ref 63), (1, vI m), (2, vI t)] rfl rfl (List.forall_mem_cons.mpr ⟨rfl, List.forall_mem_cons.mpr ⟨rfl, List.forall_mem_cons.mpr ⟨rfl, fun _ h => absurd h List.not_mem_nil⟩⟩⟩) (List.forall_mem_cons.mpr ⟨Or.inl rfl, List.forall_mem_cons.mpr ⟨Or.inl rfl, List.forall_mem_cons.mpr ⟨Or.inl rfl, List.forall_mem_cons.mpr ⟨Or.inr ⟨_, rfl⟩, List.forall_mem_cons.mpr ⟨Or.inr ⟨_, rfl⟩, fun _ h => absurd h List.not_mem_nil⟩⟩⟩⟩⟩) ?_
      refine kk F h q1 q2 (fun k hk => ?_)
      rw [q3 k hk]
      first
        | rw [show (l - 1).toNat = (m - t - 1).toNat by omega]
        | rw [decide_eq_false (by omega : ¬ gDig G t / 4 % 2 = 1), Bool.false_and, Bool.false_and]
    · refine eW_iload 99 rfl rfl rfl ?_
      refine eW_iload_n 100 rfl rfl rfl ?_
      refine eW_iload_n 101 rfl rfl rfl ?_
      refine eW_isub 102 rfl rfl ?_
      refine eW_icmp_ge 105 rfl rfl (by unfold i32; omega) (by unfold i32; omega) (fun c2 => ?_) (fun c2 => ?_)
      · refine eW_re [(0, .ref 63), (1, vI m), (2, vI t)] rfl rfl (List.forall_mem_cons.mpr ⟨rfl, List.forall_mem_cons.mpr ⟨rfl, List.forall_mem_cons.mpr ⟨rfl, fun _ h => absurd h List.not_mem_nil⟩⟩⟩) (List.forall_mem_cons.mpr ⟨Or.inl rfl, List.forall_mem_cons.mpr ⟨Or.inl rfl, List.forall_mem_cons.mpr ⟨Or.inl rfl, List.forall_mem_cons.mpr ⟨Or.inr ⟨_, rfl⟩, List.forall_mem_cons.mpr ⟨Or.inr ⟨_, rfl⟩, fun _ h => absurd h List.not_mem_nil⟩⟩⟩⟩⟩) ?_
        refine kk F h q1 q2 (fun k hk => ?_)
        rw [q3 k hk]
        first
          | rw [show (l - 1).toNat = (m - t - 1).toNat by omega]
          | rw [decide_eq_false (by omega : ¬ gDig G t / 4 % 2 = 1), Bool.false_and, Bool.false_and]
      · refine eW_aload_n 106 rfl rfl rfl ?_
        refine eW_getfield 109 rfl rfl (Nat.ble_eq_true_of_le (by omega)) rfl q1.1 rfl ⟨rfl, fun _ h9 => nomatch h9⟩ ?_
        refine eW_aload_n 110 rfl rfl rfl ?_
        refine eW_getfield 113 rfl rfl (Nat.ble_eq_true_of_le (by omega)) rfl q1.1 rfl ⟨rfl, fun _ h9 => nomatch h9⟩ ?_
        refine eW_iload 115 rfl rfl rfl ?_
        refine eW_iaload 116 rfl rfl (gvv (gDig G) l) (Nat.ble_eq_true_of_le (by omega)) (show h 70 = .inl (0, 31, .inl (eIA (A 6))) from q1.2.2.2.2.2.2.2.1) (by omega) (by omega) (by unfold i32; omega) (mV_r hV (by omega) (by omega) hm1) ?_
        refine eW_aload_n 117 rfl rfl rfl ?_
        refine eW_getfield 120 rfl rfl (Nat.ble_eq_true_of_le (by omega)) rfl q1.1 rfl ⟨rfl, fun _ h9 => nomatch h9⟩ ?_
        refine eW_iload_n 121 rfl rfl rfl ?_
        refine eW_iload_n 122 rfl rfl rfl ?_
        refine eW_isub 123 rfl rfl ?_
        refine eW_iload 125 rfl rfl rfl ?_
        refine eW_isub 126 rfl rfl ?_
        refine eW_iaload 127 rfl rfl (gvv (gDig G) ((m - t) - l)) (Nat.ble_eq_true_of_le (by omega)) (show h 70 = .inl (0, 31, .inl (eIA (A 6))) from q1.2.2.2.2.2.2.2.1) (by omega) (by omega) (by unfold i32; omega) (mV_r hV (by omega) (by omega) hm1) ?_
        refine eW_ixor 128 rfl rfl (gXr (gvv (gDig G) l) (gvv (gDig G) ((m - t) - l))) (gXr_ok (gvv_nn _) (gvv_nn _)) ?_
        refine eW_iconst 129 rfl rfl ?_
        refine eW_bastore 130 rfl rfl (Nat.ble_eq_true_of_le (by omega)) (show h 71 = .inl (2, 256, .inl (eIA F)) from q1.2.2.2.2.2.2.2.2.1) (by omega) (by omega) (by unfold i32; omega) rfl ?_
        intro h3 eh3 oh3
        have hmh3 : mM h3 s (mUp A 7 (eUp F (gXr (gvv (gDig G) l) (gvv (gDig G) ((m - t) - l))).toNat 1)) := mM_7 q1 eh3 oh3 ⟨rfl, rfl, rfl, rfl, rfl, rfl, rfl, rfl⟩
        have frh3 : mFr h0 h3 := mFr_a q2 (by decide) oh3
        refine eW_iinc 133 rfl rfl [(4, vI (l + 1)), (0, .ref 63), (1, vI m), (2, vI t), (3, vI (gDig G t))] rfl rfl rfl ?_
        refine eW_goto rfl ?_
        refine eW_re [(0, .ref 63), (1, vI m), (2, vI t), (3, vI (gDig G t)), (4, vI (l + 1))] rfl rfl (List.forall_mem_cons.mpr ⟨rfl, List.forall_mem_cons.mpr ⟨rfl, List.forall_mem_cons.mpr ⟨rfl, List.forall_mem_cons.mpr ⟨rfl, List.forall_mem_cons.mpr ⟨rfl, fun _ h => absurd h List.not_mem_nil⟩⟩⟩⟩⟩) (List.forall_mem_cons.mpr ⟨Or.inl rfl, List.forall_mem_cons.mpr ⟨Or.inl rfl, List.forall_mem_cons.mpr ⟨Or.inl rfl, List.forall_mem_cons.mpr ⟨Or.inl rfl, List.forall_mem_cons.mpr ⟨Or.inl rfl, fun _ h => absurd h List.not_mem_nil⟩⟩⟩⟩⟩) ?_
        refine ih (l + 1) _ h3 (by omega) (by omega) hmh3 frh3 (fun k hk => ?_) kk
        rw [has_s (x := gXr (gvv (gDig G) l) (gvv (gDig G) (m - t - l))) q3 (decide_eq_true (by omega)) (by omega) k hk, show l + 1 - 1 = l by omega, gSpl_succ q0.1]
theorem gOptT_past {D T : Int → Int} {m x : Int} : ∀ {k n : Nat}, m ≤ (n : Int) → n ≤ k → gOptT D T m x k = gOptT D T m x n
  | 0, n, _, h => by rw [show n = 0 by omega]
  | k + 1, n, h1, h2 => by
    by_cases h : n = k + 1
    · rw [h]
    · show (gOptT D T m x k || gOptL D T m (k + 1) x (m - k).toNat) = _
      rw [gOptT_past h1 (show n ≤ k by omega), show (m - (k : Int)).toNat = 0 by omega]
      exact Bool.or_false _
theorem gOpt_past {D T : Int → Int} {m x t : Int} (h1 : m < t) (h2 : 1 ≤ t ∧ t ≤ 7) : gOptT D T m x (t - 1).toNat = gOpt D T m x := (gOptT_past (k := 6) (by omega) (by omega)).symm
theorem m_fills_3 {d N k z : Nat} {h0 : eHp} {s : Nat → Int} {A : Nat → Nat → Int} (hN : 75 ≤ N) {P : eR → Prop} {G : eGd} (hr : rR G (A 0)) (hG : gOk G) {m : Int} (hm0 : 0 ≤ m) (hm1 : m ≤ 31) (hm2 : m ≤ 30) (hV : ∀ i : Nat, (i : Int) < m → A 6 i = gv (gDig G) i) : ∀ (m9 : Nat) (t : Int) (F : Nat → Int) (h : eHp), 7 - t ≤ m9 → 1 ≤ t ∧ (t ≤ 7 ∧ (t ≤ m + 1 ∨ t = 1)) → mM h s (mUp A 7 F) → mFr h0 h → (∀ k : Nat, k < 256 → F k = eB01 (gOptT (gDig G) (gvv (gDig G)) m k (t - 1).toNat)) → (∀ (F : Nat → Int) (h : eHp), mM h s (mUp A 7 F) → mFr h0 h → (∀ k : Nat, k < 256 → F k = eB01 (gOpt (gDig G) (gvv (gDig G)) m k)) → eWp eOx (eEv (d + 0)) eM_X7_fills (142, [(0, .ref 63), (1, vI m)], [], N, h, k, z) P) → eWp eOx (eEv (d + 0)) eM_X7_fills (24, [(0, .ref 63), (1, vI m), (2, vI t)], [], N, h, k, z) P := by
  intro m9
  induction m9 with
  | zero =>
    intro t F h hm9 q0 q1 q2 q3 kk
    have hd := gDig_le hG t
    have hx1 := gvv_30 (D := gDig G) (m - t)
    refine eW_iload_n 25 rfl rfl rfl ?_
    refine eW_bipush 27 rfl rfl 6 rfl ?_
    refine eW_icmp_gt 30 rfl rfl (by unfold i32; omega) (by unfold i32; omega) (fun c1 => ?_) (fun c1 => ?_)
    · refine eW_re [(0, .ref 63), (1, vI m)] rfl rfl (List.forall_mem_cons.mpr ⟨rfl, List.forall_mem_cons.mpr ⟨rfl, fun _ h => absurd h List.not_mem_nil⟩⟩) (List.forall_mem_cons.mpr ⟨Or.inl rfl, List.forall_mem_cons.mpr ⟨Or.inl rfl, List.forall_mem_cons.mpr ⟨Or.inr ⟨_, rfl⟩, fun _ h => absurd h List.not_mem_nil⟩⟩⟩) ?_
      refine kk F h q1 q2 (fun k hk => ?_)
      rw [q3 k hk]
      by_cases ht7 : t = 7
      · rw [ht7]; rfl
      · rw [gOpt_past (by omega) (by omega)]
    · refine eW_iload_n 31 rfl rfl rfl ?_
      refine eW_iload_n 32 rfl rfl rfl ?_
      refine eW_icmp_gt 35 rfl rfl (by unfold i32; omega) (by unfold i32; omega) (fun c2 => ?_) (fun c2 => ?_)
      · refine eW_re [(0, .ref 63), (1, vI m)] rfl rfl (List.forall_mem_cons.mpr ⟨rfl, List.forall_mem_cons.mpr ⟨rfl, fun _ h => absurd h List.not_mem_nil⟩⟩) (List.forall_mem_cons.mpr ⟨Or.inl rfl, List.forall_mem_cons.mpr ⟨Or.inl rfl, List.forall_mem_cons.mpr ⟨Or.inr ⟨_, rfl⟩, fun _ h => absurd h List.not_mem_nil⟩⟩⟩) ?_
        refine kk F h q1 q2 (fun k hk => ?_)
        rw [q3 k hk]
        by_cases ht7 : t = 7
        · rw [ht7]; rfl
        · rw [gOpt_past (by omega) (by omega)]
      · refine eW_aload_n 36 rfl rfl rfl ?_
        refine eW_getfield 39 rfl rfl (Nat.ble_eq_true_of_le (by omega)) rfl q1.1 rfl ⟨rfl, fun _ h9 => nomatch h9⟩ ?_
        refine eW_bipush 41 rfl rfl 7 rfl ?_
        refine eW_iload_n 42 rfl rfl rfl ?_
        refine eW_iadd 43 rfl rfl ?_
        refine eW_iaload 44 rfl rfl (gDig G t) (Nat.ble_eq_true_of_le (by omega)) (show h 64 = .inl (0, 62, .inl (eIA (A 0))) from q1.2.1) (by omega) (by omega) (by unfold i32; omega) (rR_d hr (by omega) (by omega)) ?_
        refine eW_istore_n 45 rfl rfl [(3, vI (gDig G t)), (0, .ref 63), (1, vI m), (2, vI t)] rfl rfl ?_
        refine eW_iload_n 46 rfl rfl rfl ?_
        refine eW_iconst 47 rfl rfl ?_
        refine eW_iand 48 rfl rfl ((gDig G t) % 2) (eAnd1 hd.1 hd.2) ?_
        refine eW_if_le 51 rfl rfl (by unfold i32; omega) (fun c3 => ?_) (fun c3 => ?_)
        · have j1z4 := has_f (c := decide (m = t ∧ gDig G t % 2 = 1)) (q := fun k => decide ((0 : Int) = (k : Int))) q3 (decide_eq_false (by omega))
          refine eW_iload_n 64 rfl rfl rfl ?_
          refine eW_iconst 65 rfl rfl ?_
          refine eW_iand 66 rfl rfl ((gDig G t) / 2 % 2 * 2) (eAnd2 hd.1 hd.2) ?_
          refine eW_if_le 69 rfl rfl (by unfold i32; omega) (fun c5 => ?_) (fun c5 => ?_)
          · have j2z6 := has_f (c := decide (t < m ∧ gDig G t / 2 % 2 = 1)) (q := fun k => decide (gvv (gDig G) (m - t) = (k : Int))) j1z4 (decide_eq_false (by omega))
            refine eW_iconst 89 rfl rfl ?_
            refine eW_istore 91 rfl rfl [(4, vI 1), (3, vI (gDig G t)), (0, .ref 63), (1, vI m), (2, vI t)] rfl rfl ?_
            refine eW_re [(0, .ref 63), (1, vI m), (2, vI t), (3, vI (gDig G t)), (4, vI 1)] rfl rfl (List.forall_mem_cons.mpr ⟨rfl, List.forall_mem_cons.mpr ⟨rfl, List.forall_mem_cons.mpr ⟨rfl, List.forall_mem_cons.mpr ⟨rfl, List.forall_mem_cons.mpr ⟨rfl, fun _ h => absurd h List.not_mem_nil⟩⟩⟩⟩⟩) (List.forall_mem_cons.mpr ⟨Or.inl rfl, List.forall_mem_cons.mpr ⟨Or.inl rfl, List.forall_mem_cons.mpr ⟨Or.inl rfl, List.forall_mem_cons.mpr ⟨Or.inl rfl, List.forall_mem_cons.mpr ⟨Or.inl rfl, fun _ h => absurd h List.not_mem_nil⟩⟩⟩⟩⟩) ?_
            refine m_fills_2 (p := fun k : Nat => (gOptT (gDig G) (gvv (gDig G)) m (k : Int) (t - 1).toNat || (decide (m = t ∧ gDig G t % 2 = 1) && decide ((0 : Int) = (k : Int)))) || (decide (t < m ∧ gDig G t / 2 % 2 = 1) && decide (gvv (gDig G) (m - t) = (k : Int)))) hN hr hG hm0 hm1 hm2 hV (by omega) (by omega) _ 1 _ h (Int.self_le_toNat _) (by omega) q1 q2 (fun k hk => ?_) (fun Fh7 h7 r1h7 r2h7 r3 => ?_)
            · refine (j2z6 k hk).trans ?_; rw [show ((1 : Int) - 1).toNat = 0 by omega]; simp only [gSpl, Bool.and_false, Bool.or_false]
            refine eW_iinc 139 rfl rfl [(2, vI (t + 1)), (0, .ref 63), (1, vI m)] rfl rfl rfl ?_
            refine eW_goto rfl ?_
            refine eW_re [(0, .ref 63), (1, vI m), (2, vI (t + 1))] rfl rfl (List.forall_mem_cons.mpr ⟨rfl, List.forall_mem_cons.mpr ⟨rfl, List.forall_mem_cons.mpr ⟨rfl, fun _ h => absurd h List.not_mem_nil⟩⟩⟩) (List.forall_mem_cons.mpr ⟨Or.inl rfl, List.forall_mem_cons.mpr ⟨Or.inl rfl, List.forall_mem_cons.mpr ⟨Or.inl rfl, fun _ h => absurd h List.not_mem_nil⟩⟩⟩) ?_
            exact absurd hm9 (by omega)
          · refine eW_iload_n 70 rfl rfl rfl ?_
            refine eW_iload_n 71 rfl rfl rfl ?_
            refine eW_icmp_le 74 rfl rfl (by unfold i32; omega) (by unfold i32; omega) (fun c8 => ?_) (fun c8 => ?_)
            · have j2z9 := has_f (c := decide (t < m ∧ gDig G t / 2 % 2 = 1)) (q := fun k => decide (gvv (gDig G) (m - t) = (k : Int))) j1z4 (decide_eq_false (by omega))
              refine eW_iconst 89 rfl rfl ?_
              refine eW_istore 91 rfl rfl [(4, vI 1), (3, vI (gDig G t)), (0, .ref 63), (1, vI m), (2, vI t)] rfl rfl ?_
              refine eW_re [(0, .ref 63), (1, vI m), (2, vI t), (3, vI (gDig G t)), (4, vI 1)] rfl rfl (List.forall_mem_cons.mpr ⟨rfl, List.forall_mem_cons.mpr ⟨rfl, List.forall_mem_cons.mpr ⟨rfl, List.forall_mem_cons.mpr ⟨rfl, List.forall_mem_cons.mpr ⟨rfl, fun _ h => absurd h List.not_mem_nil⟩⟩⟩⟩⟩) (List.forall_mem_cons.mpr ⟨Or.inl rfl, List.forall_mem_cons.mpr ⟨Or.inl rfl, List.forall_mem_cons.mpr ⟨Or.inl rfl, List.forall_mem_cons.mpr ⟨Or.inl rfl, List.forall_mem_cons.mpr ⟨Or.inl rfl, fun _ h => absurd h List.not_mem_nil⟩⟩⟩⟩⟩) ?_
              refine m_fills_2 (p := fun k : Nat => (gOptT (gDig G) (gvv (gDig G)) m (k : Int) (t - 1).toNat || (decide (m = t ∧ gDig G t % 2 = 1) && decide ((0 : Int) = (k : Int)))) || (decide (t < m ∧ gDig G t / 2 % 2 = 1) && decide (gvv (gDig G) (m - t) = (k : Int)))) hN hr hG hm0 hm1 hm2 hV (by omega) (by omega) _ 1 _ h (Int.self_le_toNat _) (by omega) q1 q2 (fun k hk => ?_) (fun Fh10 h10 r1h10 r2h10 r3 => ?_)
              · refine (j2z9 k hk).trans ?_; rw [show ((1 : Int) - 1).toNat = 0 by omega]; simp only [gSpl, Bool.and_false, Bool.or_false]
              refine eW_iinc 139 rfl rfl [(2, vI (t + 1)), (0, .ref 63), (1, vI m)] rfl rfl rfl ?_
              refine eW_goto rfl ?_
              refine eW_re [(0, .ref 63), (1, vI m), (2, vI (t + 1))] rfl rfl (List.forall_mem_cons.mpr ⟨rfl, List.forall_mem_cons.mpr ⟨rfl, List.forall_mem_cons.mpr ⟨rfl, fun _ h => absurd h List.not_mem_nil⟩⟩⟩) (List.forall_mem_cons.mpr ⟨Or.inl rfl, List.forall_mem_cons.mpr ⟨Or.inl rfl, List.forall_mem_cons.mpr ⟨Or.inl rfl, fun _ h => absurd h List.not_mem_nil⟩⟩⟩) ?_
              exact absurd hm9 (by omega)
            · refine eW_aload_n 75 rfl rfl rfl ?_
              refine eW_getfield 78 rfl rfl (Nat.ble_eq_true_of_le (by omega)) rfl q1.1 rfl ⟨rfl, fun _ h9 => nomatch h9⟩ ?_
              refine eW_aload_n 79 rfl rfl rfl ?_
              refine eW_getfield 82 rfl rfl (Nat.ble_eq_true_of_le (by omega)) rfl q1.1 rfl ⟨rfl, fun _ h9 => nomatch h9⟩ ?_
              refine eW_iload_n 83 rfl rfl rfl ?_
              refine eW_iload_n 84 rfl rfl rfl ?_
              refine eW_isub 85 rfl rfl ?_
              refine eW_iaload 86 rfl rfl (gvv (gDig G) (m - t)) (Nat.ble_eq_true_of_le (by omega)) (show h 70 = .inl (0, 31, .inl (eIA (A 6))) from q1.2.2.2.2.2.2.2.1) (by omega) (by omega) (by unfold i32; omega) (mV_r hV (by omega) (by omega) hm1) ?_
              refine eW_iconst 87 rfl rfl ?_
              refine eW_bastore 88 rfl rfl (Nat.ble_eq_true_of_le (by omega)) (show h 71 = .inl (2, 256, .inl (eIA F)) from q1.2.2.2.2.2.2.2.2.1) (by omega) (by omega) (by unfold i32; omega) rfl ?_
              intro h11 eh11 oh11
              have hmh11 : mM h11 s (mUp A 7 (eUp F (gvv (gDig G) (m - t)).toNat 1)) := mM_7 q1 eh11 oh11 ⟨rfl, rfl, rfl, rfl, rfl, rfl, rfl, rfl⟩
              have frh11 : mFr h0 h11 := mFr_a q2 (by decide) oh11
              have j2z12 := has_t (c := decide (t < m ∧ gDig G t / 2 % 2 = 1)) (x := gvv (gDig G) (m - t)) j1z4 (by omega) (decide_eq_true (by omega))
              refine eW_iconst 89 rfl rfl ?_
              refine eW_istore 91 rfl rfl [(4, vI 1), (3, vI (gDig G t)), (0, .ref 63), (1, vI m), (2, vI t)] rfl rfl ?_
              refine eW_re [(0, .ref 63), (1, vI m), (2, vI t), (3, vI (gDig G t)), (4, vI 1)] rfl rfl (List.forall_mem_cons.mpr ⟨rfl, List.forall_mem_cons.mpr ⟨rfl, List.forall_mem_cons.mpr ⟨rfl, List.forall_mem_cons.mpr ⟨rfl, List.forall_mem_cons.mpr ⟨rfl, fun _ h => absurd h List.not_mem_nil⟩⟩⟩⟩⟩) (List.forall_mem_cons.mpr ⟨Or.inl rfl, List.forall_mem_cons.mpr ⟨Or.inl rfl, List.forall_mem_cons.mpr ⟨Or.inl rfl, List.forall_mem_cons.mpr ⟨Or.inl rfl, List.forall_mem_cons.mpr ⟨Or.inl rfl, fun _ h => absurd h List.not_mem_nil⟩⟩⟩⟩⟩) ?_
              refine m_fills_2 (p := fun k : Nat => (gOptT (gDig G) (gvv (gDig G)) m (k : Int) (t - 1).toNat || (decide (m = t ∧ gDig G t % 2 = 1) && decide ((0 : Int) = (k : Int)))) || (decide (t < m ∧ gDig G t / 2 % 2 = 1) && decide (gvv (gDig G) (m - t) = (k : Int)))) hN hr hG hm0 hm1 hm2 hV (by omega) (by omega) _ 1 _ h11 (Int.self_le_toNat _) (by omega) hmh11 frh11 (fun k hk => ?_) (fun Fh13 h13 r1h13 r2h13 r3 => ?_)
              · refine (j2z12 k hk).trans ?_; rw [show ((1 : Int) - 1).toNat = 0 by omega]; simp only [gSpl, Bool.and_false, Bool.or_false]
              refine eW_iinc 139 rfl rfl [(2, vI (t + 1)), (0, .ref 63), (1, vI m)] rfl rfl rfl ?_
              refine eW_goto rfl ?_
              refine eW_re [(0, .ref 63), (1, vI m), (2, vI (t + 1))] rfl rfl (List.forall_mem_cons.mpr ⟨rfl, List.forall_mem_cons.mpr ⟨rfl, List.forall_mem_cons.mpr ⟨rfl, fun _ h => absurd h List.not_mem_nil⟩⟩⟩) (List.forall_mem_cons.mpr ⟨Or.inl rfl, List.forall_mem_cons.mpr ⟨Or.inl rfl, List.forall_mem_cons.mpr ⟨Or.inl rfl, fun _ h => absurd h List.not_mem_nil⟩⟩⟩) ?_
              exact absurd hm9 (by omega)
        · refine eW_iload_n 52 rfl rfl rfl ?_
          refine eW_iload_n 53 rfl rfl rfl ?_
          refine eW_icmp_ne 56 rfl rfl (by unfold i32; omega) (by unfold i32; omega) (fun c14 => ?_) (fun c14 => ?_)
          · have j1z15 := has_f (c := decide (m = t ∧ gDig G t % 2 = 1)) (q := fun k => decide ((0 : Int) = (k : Int))) q3 (decide_eq_false (by omega))
            refine eW_iload_n 64 rfl rfl rfl ?_
            refine eW_iconst 65 rfl rfl ?_
            refine eW_iand 66 rfl rfl ((gDig G t) / 2 % 2 * 2) (eAnd2 hd.1 hd.2) ?_
            refine eW_if_le 69 rfl rfl (by unfold i32; omega) (fun c16 => ?_) (fun c16 => ?_)
            · have j2z17 := has_f (c := decide (t < m ∧ gDig G t / 2 % 2 = 1)) (q := fun k => decide (gvv (gDig G) (m - t) = (k : Int))) j1z15 (decide_eq_false (by omega))
              refine eW_iconst 89 rfl rfl ?_
              refine eW_istore 91 rfl rfl [(4, vI 1), (3, vI (gDig G t)), (0, .ref 63), (1, vI m), (2, vI t)] rfl rfl ?_
              refine eW_re [(0, .ref 63), (1, vI m), (2, vI t), (3, vI (gDig G t)), (4, vI 1)] rfl rfl (List.forall_mem_cons.mpr ⟨rfl, List.forall_mem_cons.mpr ⟨rfl, List.forall_mem_cons.mpr ⟨rfl, List.forall_mem_cons.mpr ⟨rfl, List.forall_mem_cons.mpr ⟨rfl, fun _ h => absurd h List.not_mem_nil⟩⟩⟩⟩⟩) (List.forall_mem_cons.mpr ⟨Or.inl rfl, List.forall_mem_cons.mpr ⟨Or.inl rfl, List.forall_mem_cons.mpr ⟨Or.inl rfl, List.forall_mem_cons.mpr ⟨Or.inl rfl, List.forall_mem_cons.mpr ⟨Or.inl rfl, fun _ h => absurd h List.not_mem_nil⟩⟩⟩⟩⟩) ?_
              refine m_fills_2 (p := fun k : Nat => (gOptT (gDig G) (gvv (gDig G)) m (k : Int) (t - 1).toNat || (decide (m = t ∧ gDig G t % 2 = 1) && decide ((0 : Int) = (k : Int)))) || (decide (t < m ∧ gDig G t / 2 % 2 = 1) && decide (gvv (gDig G) (m - t) = (k : Int)))) hN hr hG hm0 hm1 hm2 hV (by omega) (by omega) _ 1 _ h (Int.self_le_toNat _) (by omega) q1 q2 (fun k hk => ?_) (fun Fh18 h18 r1h18 r2h18 r3 => ?_)
              · refine (j2z17 k hk).trans ?_; rw [show ((1 : Int) - 1).toNat = 0 by omega]; simp only [gSpl, Bool.and_false, Bool.or_false]
              refine eW_iinc 139 rfl rfl [(2, vI (t + 1)), (0, .ref 63), (1, vI m)] rfl rfl rfl ?_
              refine eW_goto rfl ?_
              refine eW_re [(0, .ref 63), (1, vI m), (2, vI (t + 1))] rfl rfl (List.forall_mem_cons.mpr ⟨rfl, List.forall_mem_cons.mpr ⟨rfl, List.forall_mem_cons.mpr ⟨rfl, fun _ h => absurd h List.not_mem_nil⟩⟩⟩) (List.forall_mem_cons.mpr ⟨Or.inl rfl, List.forall_mem_cons.mpr ⟨Or.inl rfl, List.forall_mem_cons.mpr ⟨Or.inl rfl, fun _ h => absurd h List.not_mem_nil⟩⟩⟩) ?_
              exact absurd hm9 (by omega)
            · refine eW_iload_n 70 rfl rfl rfl ?_
              refine eW_iload_n 71 rfl rfl rfl ?_
              refine eW_icmp_le 74 rfl rfl (by unfold i32; omega) (by unfold i32; omega) (fun c19 => ?_) (fun c19 => ?_)
              · have j2z20 := has_f (c := decide (t < m ∧ gDig G t / 2 % 2 = 1)) (q := fun k => decide (gvv (gDig G) (m - t) = (k : Int))) j1z15 (decide_eq_false (by omega))
                refine eW_iconst 89 rfl rfl ?_
                refine eW_istore 91 rfl rfl [(4, vI 1), (3, vI (gDig G t)), (0, .ref 63), (1, vI m), (2, vI t)] rfl rfl ?_
                refine eW_re [(0, .ref 63), (1, vI m), (2, vI t), (3, vI (gDig G t)), (4, vI 1)] rfl rfl (List.forall_mem_cons.mpr ⟨rfl, List.forall_mem_cons.mpr ⟨rfl, List.forall_mem_cons.mpr ⟨rfl, List.forall_mem_cons.mpr ⟨rfl, List.forall_mem_cons.mpr ⟨rfl, fun _ h => absurd h List.not_mem_nil⟩⟩⟩⟩⟩) (List.forall_mem_cons.mpr ⟨Or.inl rfl, List.forall_mem_cons.mpr ⟨Or.inl rfl, List.forall_mem_cons.mpr ⟨Or.inl rfl, List.forall_mem_cons.mpr ⟨Or.inl rfl, List.forall_mem_cons.mpr ⟨Or.inl rfl, fun _ h => absurd h List.not_mem_nil⟩⟩⟩⟩⟩) ?_
                refine m_fills_2 (p := fun k : Nat => (gOptT (gDig G) (gvv (gDig G)) m (k : Int) (t - 1).toNat || (decide (m = t ∧ gDig G t % 2 = 1) && decide ((0 : Int) = (k : Int)))) || (decide (t < m ∧ gDig G t / 2 % 2 = 1) && decide (gvv (gDig G) (m - t) = (k : Int)))) hN hr hG hm0 hm1 hm2 hV (by omega) (by omega) _ 1 _ h (Int.self_le_toNat _) (by omega) q1 q2 (fun k hk => ?_) (fun Fh21 h21 r1h21 r2h21 r3 => ?_)
                · refine (j2z20 k hk).trans ?_; rw [show ((1 : Int) - 1).toNat = 0 by omega]; simp only [gSpl, Bool.and_false, Bool.or_false]
                refine eW_iinc 139 rfl rfl [(2, vI (t + 1)), (0, .ref 63), (1, vI m)] rfl rfl rfl ?_
                refine eW_goto rfl ?_
                refine eW_re [(0, .ref 63), (1, vI m), (2, vI (t + 1))] rfl rfl (List.forall_mem_cons.mpr ⟨rfl, List.forall_mem_cons.mpr ⟨rfl, List.forall_mem_cons.mpr ⟨rfl, fun _ h => absurd h List.not_mem_nil⟩⟩⟩) (List.forall_mem_cons.mpr ⟨Or.inl rfl, List.forall_mem_cons.mpr ⟨Or.inl rfl, List.forall_mem_cons.mpr ⟨Or.inl rfl, fun _ h => absurd h List.not_mem_nil⟩⟩⟩) ?_
                exact absurd hm9 (by omega)
              · refine eW_aload_n 75 rfl rfl rfl ?_
                refine eW_getfield 78 rfl rfl (Nat.ble_eq_true_of_le (by omega)) rfl q1.1 rfl ⟨rfl, fun _ h9 => nomatch h9⟩ ?_
                refine eW_aload_n 79 rfl rfl rfl ?_
                refine eW_getfield 82 rfl rfl (Nat.ble_eq_true_of_le (by omega)) rfl q1.1 rfl ⟨rfl, fun _ h9 => nomatch h9⟩ ?_
                refine eW_iload_n 83 rfl rfl rfl ?_
                refine eW_iload_n 84 rfl rfl rfl ?_
                refine eW_isub 85 rfl rfl ?_
                refine eW_iaload 86 rfl rfl (gvv (gDig G) (m - t)) (Nat.ble_eq_true_of_le (by omega)) (show h 70 = .inl (0, 31, .inl (eIA (A 6))) from q1.2.2.2.2.2.2.2.1) (by omega) (by omega) (by unfold i32; omega) (mV_r hV (by omega) (by omega) hm1) ?_
                refine eW_iconst 87 rfl rfl ?_
                refine eW_bastore 88 rfl rfl (Nat.ble_eq_true_of_le (by omega)) (show h 71 = .inl (2, 256, .inl (eIA F)) from q1.2.2.2.2.2.2.2.2.1) (by omega) (by omega) (by unfold i32; omega) rfl ?_
                intro h22 eh22 oh22
                have hmh22 : mM h22 s (mUp A 7 (eUp F (gvv (gDig G) (m - t)).toNat 1)) := mM_7 q1 eh22 oh22 ⟨rfl, rfl, rfl, rfl, rfl, rfl, rfl, rfl⟩
                have frh22 : mFr h0 h22 := mFr_a q2 (by decide) oh22
                have j2z23 := has_t (c := decide (t < m ∧ gDig G t / 2 % 2 = 1)) (x := gvv (gDig G) (m - t)) j1z15 (by omega) (decide_eq_true (by omega))
                refine eW_iconst 89 rfl rfl ?_
                refine eW_istore 91 rfl rfl [(4, vI 1), (3, vI (gDig G t)), (0, .ref 63), (1, vI m), (2, vI t)] rfl rfl ?_
                refine eW_re [(0, .ref 63), (1, vI m), (2, vI t), (3, vI (gDig G t)), (4, vI 1)] rfl rfl (List.forall_mem_cons.mpr ⟨rfl, List.forall_mem_cons.mpr ⟨rfl, List.forall_mem_cons.mpr ⟨rfl, List.forall_mem_cons.mpr ⟨rfl, List.forall_mem_cons.mpr ⟨rfl, fun _ h => absurd h List.not_mem_nil⟩⟩⟩⟩⟩) (List.forall_mem_cons.mpr ⟨Or.inl rfl, List.forall_mem_cons.mpr ⟨Or.inl rfl, List.forall_mem_cons.mpr ⟨Or.inl rfl, List.forall_mem_cons.mpr ⟨Or.inl rfl, List.forall_mem_cons.mpr ⟨Or.inl rfl, fun _ h => absurd h List.not_mem_nil⟩⟩⟩⟩⟩) ?_
                refine m_fills_2 (p := fun k : Nat => (gOptT (gDig G) (gvv (gDig G)) m (k : Int) (t - 1).toNat || (decide (m = t ∧ gDig G t % 2 = 1) && decide ((0 : Int) = (k : Int)))) || (decide (t < m ∧ gDig G t / 2 % 2 = 1) && decide (gvv (gDig G) (m - t) = (k : Int)))) hN hr hG hm0 hm1 hm2 hV (by omega) (by omega) _ 1 _ h22 (Int.self_le_toNat _) (by omega) hmh22 frh22 (fun k hk => ?_) (fun Fh24 h24 r1h24 r2h24 r3 => ?_)
                · refine (j2z23 k hk).trans ?_; rw [show ((1 : Int) - 1).toNat = 0 by omega]; simp only [gSpl, Bool.and_false, Bool.or_false]
                refine eW_iinc 139 rfl rfl [(2, vI (t + 1)), (0, .ref 63), (1, vI m)] rfl rfl rfl ?_
                refine eW_goto rfl ?_
                refine eW_re [(0, .ref 63), (1, vI m), (2, vI (t + 1))] rfl rfl (List.forall_mem_cons.mpr ⟨rfl, List.forall_mem_cons.mpr ⟨rfl, List.forall_mem_cons.mpr ⟨rfl, fun _ h => absurd h List.not_mem_nil⟩⟩⟩) (List.forall_mem_cons.mpr ⟨Or.inl rfl, List.forall_mem_cons.mpr ⟨Or.inl rfl, List.forall_mem_cons.mpr ⟨Or.inl rfl, fun _ h => absurd h List.not_mem_nil⟩⟩⟩) ?_
                exact absurd hm9 (by omega)
          · refine eW_aload_n 57 rfl rfl rfl ?_
            refine eW_getfield 60 rfl rfl (Nat.ble_eq_true_of_le (by omega)) rfl q1.1 rfl ⟨rfl, fun _ h9 => nomatch h9⟩ ?_
            refine eW_iconst 61 rfl rfl ?_
            refine eW_iconst 62 rfl rfl ?_
            refine eW_bastore 63 rfl rfl (Nat.ble_eq_true_of_le (by omega)) (show h 71 = .inl (2, 256, .inl (eIA F)) from q1.2.2.2.2.2.2.2.2.1) (by omega) (by omega) (by unfold i32; omega) rfl ?_
            intro h25 eh25 oh25
            have hmh25 : mM h25 s (mUp A 7 (eUp F 0 1)) := mM_7 q1 eh25 oh25 ⟨rfl, rfl, rfl, rfl, rfl, rfl, rfl, rfl⟩
            have frh25 : mFr h0 h25 := mFr_a q2 (by decide) oh25
            have j1z26 := has_t (c := decide (m = t ∧ gDig G t % 2 = 1)) (x := 0) q3 (by omega) (decide_eq_true (by omega))
            refine eW_iload_n 64 rfl rfl rfl ?_
            refine eW_iconst 65 rfl rfl ?_
            refine eW_iand 66 rfl rfl ((gDig G t) / 2 % 2 * 2) (eAnd2 hd.1 hd.2) ?_
            refine eW_if_le 69 rfl rfl (by unfold i32; omega) (fun c27 => ?_) (fun c27 => ?_)
            · have j2z28 := has_f (c := decide (t < m ∧ gDig G t / 2 % 2 = 1)) (q := fun k => decide (gvv (gDig G) (m - t) = (k : Int))) j1z26 (decide_eq_false (by omega))
              refine eW_iconst 89 rfl rfl ?_
              refine eW_istore 91 rfl rfl [(4, vI 1), (3, vI (gDig G t)), (0, .ref 63), (1, vI m), (2, vI t)] rfl rfl ?_
              refine eW_re [(0, .ref 63), (1, vI m), (2, vI t), (3, vI (gDig G t)), (4, vI 1)] rfl rfl (List.forall_mem_cons.mpr ⟨rfl, List.forall_mem_cons.mpr ⟨rfl, List.forall_mem_cons.mpr ⟨rfl, List.forall_mem_cons.mpr ⟨rfl, List.forall_mem_cons.mpr ⟨rfl, fun _ h => absurd h List.not_mem_nil⟩⟩⟩⟩⟩) (List.forall_mem_cons.mpr ⟨Or.inl rfl, List.forall_mem_cons.mpr ⟨Or.inl rfl, List.forall_mem_cons.mpr ⟨Or.inl rfl, List.forall_mem_cons.mpr ⟨Or.inl rfl, List.forall_mem_cons.mpr ⟨Or.inl rfl, fun _ h => absurd h List.not_mem_nil⟩⟩⟩⟩⟩) ?_
              refine m_fills_2 (p := fun k : Nat => (gOptT (gDig G) (gvv (gDig G)) m (k : Int) (t - 1).toNat || (decide (m = t ∧ gDig G t % 2 = 1) && decide ((0 : Int) = (k : Int)))) || (decide (t < m ∧ gDig G t / 2 % 2 = 1) && decide (gvv (gDig G) (m - t) = (k : Int)))) hN hr hG hm0 hm1 hm2 hV (by omega) (by omega) _ 1 _ h25 (Int.self_le_toNat _) (by omega) hmh25 frh25 (fun k hk => ?_) (fun Fh29 h29 r1h29 r2h29 r3 => ?_)
              · refine (j2z28 k hk).trans ?_; rw [show ((1 : Int) - 1).toNat = 0 by omega]; simp only [gSpl, Bool.and_false, Bool.or_false]
              refine eW_iinc 139 rfl rfl [(2, vI (t + 1)), (0, .ref 63), (1, vI m)] rfl rfl rfl ?_
              refine eW_goto rfl ?_
              refine eW_re [(0, .ref 63), (1, vI m), (2, vI (t + 1))] rfl rfl (List.forall_mem_cons.mpr ⟨rfl, List.forall_mem_cons.mpr ⟨rfl, List.forall_mem_cons.mpr ⟨rfl, fun _ h => absurd h List.not_mem_nil⟩⟩⟩) (List.forall_mem_cons.mpr ⟨Or.inl rfl, List.forall_mem_cons.mpr ⟨Or.inl rfl, List.forall_mem_cons.mpr ⟨Or.inl rfl, fun _ h => absurd h List.not_mem_nil⟩⟩⟩) ?_
              exact absurd hm9 (by omega)
            · refine eW_iload_n 70 rfl rfl rfl ?_
              refine eW_iload_n 71 rfl rfl rfl ?_
              refine eW_icmp_le 74 rfl rfl (by unfold i32; omega) (by unfold i32; omega) (fun c30 => ?_) (fun c30 => ?_)
              · have j2z31 := has_f (c := decide (t < m ∧ gDig G t / 2 % 2 = 1)) (q := fun k => decide (gvv (gDig G) (m - t) = (k : Int))) j1z26 (decide_eq_false (by omega))
                refine eW_iconst 89 rfl rfl ?_
                refine eW_istore 91 rfl rfl [(4, vI 1), (3, vI (gDig G t)), (0, .ref 63), (1, vI m), (2, vI t)] rfl rfl ?_
                refine eW_re [(0, .ref 63), (1, vI m), (2, vI t), (3, vI (gDig G t)), (4, vI 1)] rfl rfl (List.forall_mem_cons.mpr ⟨rfl, List.forall_mem_cons.mpr ⟨rfl, List.forall_mem_cons.mpr ⟨rfl, List.forall_mem_cons.mpr ⟨rfl, List.forall_mem_cons.mpr ⟨rfl, fun _ h => absurd h List.not_mem_nil⟩⟩⟩⟩⟩) (List.forall_mem_cons.mpr ⟨Or.inl rfl, List.forall_mem_cons.mpr ⟨Or.inl rfl, List.forall_mem_cons.mpr ⟨Or.inl rfl, List.forall_mem_cons.mpr ⟨Or.inl rfl, List.forall_mem_cons.mpr ⟨Or.inl rfl, fun _ h => absurd h List.not_mem_nil⟩⟩⟩⟩⟩) ?_
                refine m_fills_2 (p := fun k : Nat => (gOptT (gDig G) (gvv (gDig G)) m (k : Int) (t - 1).toNat || (decide (m = t ∧ gDig G t % 2 = 1) && decide ((0 : Int) = (k : Int)))) || (decide (t < m ∧ gDig G t / 2 % 2 = 1) && decide (gvv (gDig G) (m - t) = (k : Int)))) hN hr hG hm0 hm1 hm2 hV (by omega) (by omega) _ 1 _ h25 (Int.self_le_toNat _) (by omega) hmh25 frh25 (fun k hk => ?_) (fun Fh32 h32 r1h32 r2h32 r3 => ?_)
                · refine (j2z31 k hk).trans ?_; rw [show ((1 : Int) - 1).toNat = 0 by omega]; simp only [gSpl, Bool.and_false, Bool.or_false]
                refine eW_iinc 139 rfl rfl [(2, vI (t + 1)), (0, .ref 63), (1, vI m)] rfl rfl rfl ?_
                refine eW_goto rfl ?_
                refine eW_re [(0, .ref 63), (1, vI m), (2, vI (t + 1))] rfl rfl (List.forall_mem_cons.mpr ⟨rfl, List.forall_mem_cons.mpr ⟨rfl, List.forall_mem_cons.mpr ⟨rfl, fun _ h => absurd h List.not_mem_nil⟩⟩⟩) (List.forall_mem_cons.mpr ⟨Or.inl rfl, List.forall_mem_cons.mpr ⟨Or.inl rfl, List.forall_mem_cons.mpr ⟨Or.inl rfl, fun _ h => absurd h List.not_mem_nil⟩⟩⟩) ?_
                exact absurd hm9 (by omega)
              · refine eW_aload_n 75 rfl rfl rfl ?_
                refine eW_getfield 78 rfl rfl (Nat.ble_eq_true_of_le (by omega)) rfl hmh25.1 rfl ⟨rfl, fun _ h9 => nomatch h9⟩ ?_
                refine eW_aload_n 79 rfl rfl rfl ?_
                refine eW_getfield 82 rfl rfl (Nat.ble_eq_true_of_le (by omega)) rfl hmh25.1 rfl ⟨rfl, fun _ h9 => nomatch h9⟩ ?_
                refine eW_iload_n 83 rfl rfl rfl ?_
                refine eW_iload_n 84 rfl rfl rfl ?_
                refine eW_isub 85 rfl rfl ?_
                refine eW_iaload 86 rfl rfl (gvv (gDig G) (m - t)) (Nat.ble_eq_true_of_le (by omega)) (show h25 70 = .inl (0, 31, .inl (eIA (A 6))) from hmh25.2.2.2.2.2.2.2.1) (by omega) (by omega) (by unfold i32; omega) (mV_r hV (by omega) (by omega) hm1) ?_
                refine eW_iconst 87 rfl rfl ?_
                refine eW_bastore 88 rfl rfl (Nat.ble_eq_true_of_le (by omega)) (show h25 71 = .inl (2, 256, .inl (eIA (eUp F 0 1))) from hmh25.2.2.2.2.2.2.2.2.1) (by omega) (by omega) (by unfold i32; omega) rfl ?_
                intro h33 eh33 oh33
                have hmh33 : mM h33 s (mUp A 7 (eUp (eUp F 0 1) (gvv (gDig G) (m - t)).toNat 1)) := mM_7 hmh25 eh33 oh33 ⟨rfl, rfl, rfl, rfl, rfl, rfl, rfl, rfl⟩
                have frh33 : mFr h0 h33 := mFr_a frh25 (by decide) oh33
                have j2z34 := has_t (c := decide (t < m ∧ gDig G t / 2 % 2 = 1)) (x := gvv (gDig G) (m - t)) j1z26 (by omega) (decide_eq_true (by omega))
                refine eW_iconst 89 rfl rfl ?_
                refine eW_istore 91 rfl rfl [(4, vI 1), (3, vI (gDig G t)), (0, .ref 63), (1, vI m), (2, vI t)] rfl rfl ?_
                refine eW_re [(0, .ref 63), (1, vI m), (2, vI t), (3, vI (gDig G t)), (4, vI 1)] rfl rfl (List.forall_mem_cons.mpr ⟨rfl, List.forall_mem_cons.mpr ⟨rfl, List.forall_mem_cons.mpr ⟨rfl, List.forall_mem_cons.mpr ⟨rfl, List.forall_mem_cons.mpr ⟨rfl, fun _ h => absurd h List.not_mem_nil⟩⟩⟩⟩⟩) (List.forall_mem_cons.mpr ⟨Or.inl rfl, List.forall_mem_cons.mpr ⟨Or.inl rfl, List.forall_mem_cons.mpr ⟨Or.inl rfl, List.forall_mem_cons.mpr ⟨Or.inl rfl, List.forall_mem_cons.mpr ⟨Or.inl rfl, fun _ h => absurd h List.not_mem_nil⟩⟩⟩⟩⟩) ?_
                refine m_fills_2 (p := fun k : Nat => (gOptT (gDig G) (gvv (gDig G)) m (k : Int) (t - 1).toNat || (decide (m = t ∧ gDig G t % 2 = 1) && decide ((0 : Int) = (k : Int)))) || (decide (t < m ∧ gDig G t / 2 % 2 = 1) && decide (gvv (gDig G) (m - t) = (k : Int)))) hN hr hG hm0 hm1 hm2 hV (by omega) (by omega) _ 1 _ h33 (Int.self_le_toNat _) (by omega) hmh33 frh33 (fun k hk => ?_) (fun Fh35 h35 r1h35 r2h35 r3 => ?_)
                · refine (j2z34 k hk).trans ?_; rw [show ((1 : Int) - 1).toNat = 0 by omega]; simp only [gSpl, Bool.and_false, Bool.or_false]
                refine eW_iinc 139 rfl rfl [(2, vI (t + 1)), (0, .ref 63), (1, vI m)] rfl rfl rfl ?_
                refine eW_goto rfl ?_
                refine eW_re [(0, .ref 63), (1, vI m), (2, vI (t + 1))] rfl rfl (List.forall_mem_cons.mpr ⟨rfl, List.forall_mem_cons.mpr ⟨rfl, List.forall_mem_cons.mpr ⟨rfl, fun _ h => absurd h List.not_mem_nil⟩⟩⟩) (List.forall_mem_cons.mpr ⟨Or.inl rfl, List.forall_mem_cons.mpr ⟨Or.inl rfl, List.forall_mem_cons.mpr ⟨Or.inl rfl, fun _ h => absurd h List.not_mem_nil⟩⟩⟩) ?_
                exact absurd hm9 (by omega)
  | succ m9 ih =>
    intro t F h hm9 q0 q1 q2 q3 kk
    have hd := gDig_le hG t
    have hx1 := gvv_30 (D := gDig G) (m - t)
    refine eW_iload_n 25 rfl rfl rfl ?_
    refine eW_bipush 27 rfl rfl 6 rfl ?_
    refine eW_icmp_gt 30 rfl rfl (by unfold i32; omega) (by unfold i32; omega) (fun c1 => ?_) (fun c1 => ?_)
    · refine eW_re [(0, .ref 63), (1, vI m)] rfl rfl (List.forall_mem_cons.mpr ⟨rfl, List.forall_mem_cons.mpr ⟨rfl, fun _ h => absurd h List.not_mem_nil⟩⟩) (List.forall_mem_cons.mpr ⟨Or.inl rfl, List.forall_mem_cons.mpr ⟨Or.inl rfl, List.forall_mem_cons.mpr ⟨Or.inr ⟨_, rfl⟩, fun _ h => absurd h List.not_mem_nil⟩⟩⟩) ?_
      refine kk F h q1 q2 (fun k hk => ?_)
      rw [q3 k hk]
      by_cases ht7 : t = 7
      · rw [ht7]; rfl
      · rw [gOpt_past (by omega) (by omega)]
    · refine eW_iload_n 31 rfl rfl rfl ?_
      refine eW_iload_n 32 rfl rfl rfl ?_
      refine eW_icmp_gt 35 rfl rfl (by unfold i32; omega) (by unfold i32; omega) (fun c2 => ?_) (fun c2 => ?_)
      · refine eW_re [(0, .ref 63), (1, vI m)] rfl rfl (List.forall_mem_cons.mpr ⟨rfl, List.forall_mem_cons.mpr ⟨rfl, fun _ h => absurd h List.not_mem_nil⟩⟩) (List.forall_mem_cons.mpr ⟨Or.inl rfl, List.forall_mem_cons.mpr ⟨Or.inl rfl, List.forall_mem_cons.mpr ⟨Or.inr ⟨_, rfl⟩, fun _ h => absurd h List.not_mem_nil⟩⟩⟩) ?_
        refine kk F h q1 q2 (fun k hk => ?_)
        rw [q3 k hk]
        by_cases ht7 : t = 7
        · rw [ht7]; rfl
        · rw [gOpt_past (by omega) (by omega)]
      · refine eW_aload_n 36 rfl rfl rfl ?_
        refine eW_getfield 39 rfl rfl (Nat.ble_eq_true_of_le (by omega)) rfl q1.1 rfl ⟨rfl, fun _ h9 => nomatch h9⟩ ?_
        refine eW_bipush 41 rfl rfl 7 rfl ?_
        refine eW_iload_n 42 rfl rfl rfl ?_
        refine eW_iadd 43 rfl rfl ?_
        refine eW_iaload 44 rfl rfl (gDig G t) (Nat.ble_eq_true_of_le (by omega)) (show h 64 = .inl (0, 62, .inl (eIA (A 0))) from q1.2.1) (by omega) (by omega) (by unfold i32; omega) (rR_d hr (by omega) (by omega)) ?_
        refine eW_istore_n 45 rfl rfl [(3, vI (gDig G t)), (0, .ref 63), (1, vI m), (2, vI t)] rfl rfl ?_
        refine eW_iload_n 46 rfl rfl rfl ?_
        refine eW_iconst 47 rfl rfl ?_
        refine eW_iand 48 rfl rfl ((gDig G t) % 2) (eAnd1 hd.1 hd.2) ?_
        refine eW_if_le 51 rfl rfl (by unfold i32; omega) (fun c3 => ?_) (fun c3 => ?_)
        · have j1z4 := has_f (c := decide (m = t ∧ gDig G t % 2 = 1)) (q := fun k => decide ((0 : Int) = (k : Int))) q3 (decide_eq_false (by omega))
          refine eW_iload_n 64 rfl rfl rfl ?_
          refine eW_iconst 65 rfl rfl ?_
          refine eW_iand 66 rfl rfl ((gDig G t) / 2 % 2 * 2) (eAnd2 hd.1 hd.2) ?_
          refine eW_if_le 69 rfl rfl (by unfold i32; omega) (fun c5 => ?_) (fun c5 => ?_)
          · have j2z6 := has_f (c := decide (t < m ∧ gDig G t / 2 % 2 = 1)) (q := fun k => decide (gvv (gDig G) (m - t) = (k : Int))) j1z4 (decide_eq_false (by omega))
            refine eW_iconst 89 rfl rfl ?_
            refine eW_istore 91 rfl rfl [(4, vI 1), (3, vI (gDig G t)), (0, .ref 63), (1, vI m), (2, vI t)] rfl rfl ?_
            refine eW_re [(0, .ref 63), (1, vI m), (2, vI t), (3, vI (gDig G t)), (4, vI 1)] rfl rfl (List.forall_mem_cons.mpr ⟨rfl, List.forall_mem_cons.mpr ⟨rfl, List.forall_mem_cons.mpr ⟨rfl, List.forall_mem_cons.mpr ⟨rfl, List.forall_mem_cons.mpr ⟨rfl, fun _ h => absurd h List.not_mem_nil⟩⟩⟩⟩⟩) (List.forall_mem_cons.mpr ⟨Or.inl rfl, List.forall_mem_cons.mpr ⟨Or.inl rfl, List.forall_mem_cons.mpr ⟨Or.inl rfl, List.forall_mem_cons.mpr ⟨Or.inl rfl, List.forall_mem_cons.mpr ⟨Or.inl rfl, fun _ h => absurd h List.not_mem_nil⟩⟩⟩⟩⟩) ?_
            refine m_fills_2 (p := fun k : Nat => (gOptT (gDig G) (gvv (gDig G)) m (k : Int) (t - 1).toNat || (decide (m = t ∧ gDig G t % 2 = 1) && decide ((0 : Int) = (k : Int)))) || (decide (t < m ∧ gDig G t / 2 % 2 = 1) && decide (gvv (gDig G) (m - t) = (k : Int)))) hN hr hG hm0 hm1 hm2 hV (by omega) (by omega) _ 1 _ h (Int.self_le_toNat _) (by omega) q1 q2 (fun k hk => ?_) (fun Fh7 h7 r1h7 r2h7 r3 => ?_)
            · refine (j2z6 k hk).trans ?_; rw [show ((1 : Int) - 1).toNat = 0 by omega]; simp only [gSpl, Bool.and_false, Bool.or_false]
            refine eW_iinc 139 rfl rfl [(2, vI (t + 1)), (0, .ref 63), (1, vI m)] rfl rfl rfl ?_
            refine eW_goto rfl ?_
            refine eW_re [(0, .ref 63), (1, vI m), (2, vI (t + 1))] rfl rfl (List.forall_mem_cons.mpr ⟨rfl, List.forall_mem_cons.mpr ⟨rfl, List.forall_mem_cons.mpr ⟨rfl, fun _ h => absurd h List.not_mem_nil⟩⟩⟩) (List.forall_mem_cons.mpr ⟨Or.inl rfl, List.forall_mem_cons.mpr ⟨Or.inl rfl, List.forall_mem_cons.mpr ⟨Or.inl rfl, fun _ h => absurd h List.not_mem_nil⟩⟩⟩) ?_
            refine ih (t + 1) _ h7 (by omega) (by omega) r1h7 r2h7 (fun k hk => ?_) kk
            rw [r3 k hk, show t + 1 - 1 = t by omega, gOptT_succ q0.1, ← fOpt_eq q0.1 (by omega) gvv_0 gvv_nn, fOpt, Bool.or_assoc, Bool.or_assoc, Bool.or_assoc]
          · refine eW_iload_n 70 rfl rfl rfl ?_
            refine eW_iload_n 71 rfl rfl rfl ?_
            refine eW_icmp_le 74 rfl rfl (by unfold i32; omega) (by unfold i32; omega) (fun c8 => ?_) (fun c8 => ?_)
            · have j2z9 := has_f (c := decide (t < m ∧ gDig G t / 2 % 2 = 1)) (q := fun k => decide (gvv (gDig G) (m - t) = (k : Int))) j1z4 (decide_eq_false (by omega))
              refine eW_iconst 89 rfl rfl ?_
              refine eW_istore 91 rfl rfl [(4, vI 1), (3, vI (gDig G t)), (0, .ref 63), (1, vI m), (2, vI t)] rfl rfl ?_
              refine eW_re [(0, .ref 63), (1, vI m), (2, vI t), (3, vI (gDig G t)), (4, vI 1)] rfl rfl (List.forall_mem_cons.mpr ⟨rfl, List.forall_mem_cons.mpr ⟨rfl, List.forall_mem_cons.mpr ⟨rfl, List.forall_mem_cons.mpr ⟨rfl, List.forall_mem_cons.mpr ⟨rfl, fun _ h => absurd h List.not_mem_nil⟩⟩⟩⟩⟩) (List.forall_mem_cons.mpr ⟨Or.inl rfl, List.forall_mem_cons.mpr ⟨Or.inl rfl, List.forall_mem_cons.mpr ⟨Or.inl rfl, List.forall_mem_cons.mpr ⟨Or.inl rfl, List.forall_mem_cons.mpr ⟨Or.inl rfl, fun _ h => absurd h List.not_mem_nil⟩⟩⟩⟩⟩) ?_
              refine m_fills_2 (p := fun k : Nat => (gOptT (gDig G) (gvv (gDig G)) m (k : Int) (t - 1).toNat || (decide (m = t ∧ gDig G t % 2 = 1) && decide ((0 : Int) = (k : Int)))) || (decide (t < m ∧ gDig G t / 2 % 2 = 1) && decide (gvv (gDig G) (m - t) = (k : Int)))) hN hr hG hm0 hm1 hm2 hV (by omega) (by omega) _ 1 _ h (Int.self_le_toNat _) (by omega) q1 q2 (fun k hk => ?_) (fun Fh10 h10 r1h10 r2h10 r3 => ?_)
              · refine (j2z9 k hk).trans ?_; rw [show ((1 : Int) - 1).toNat = 0 by omega]; simp only [gSpl, Bool.and_false, Bool.or_false]
              refine eW_iinc 139 rfl rfl [(2, vI (t + 1)), (0, .ref 63), (1, vI m)] rfl rfl rfl ?_
              refine eW_goto rfl ?_
              refine eW_re [(0, .ref 63), (1, vI m), (2, vI (t + 1))] rfl rfl (List.forall_mem_cons.mpr ⟨rfl, List.forall_mem_cons.mpr ⟨rfl, List.forall_mem_cons.mpr ⟨rfl, fun _ h => absurd h List.not_mem_nil⟩⟩⟩) (List.forall_mem_cons.mpr ⟨Or.inl rfl, List.forall_mem_cons.mpr ⟨Or.inl rfl, List.forall_mem_cons.mpr ⟨Or.inl rfl, fun _ h => absurd h List.not_mem_nil⟩⟩⟩) ?_
              refine ih (t + 1) _ h10 (by omega) (by omega) r1h10 r2h10 (fun k hk => ?_) kk
              rw [r3 k hk, show t + 1 - 1 = t by omega, gOptT_succ q0.1, ← fOpt_eq q0.1 (by omega) gvv_0 gvv_nn, fOpt, Bool.or_assoc, Bool.or_assoc, Bool.or_assoc]
            · refine eW_aload_n 75 rfl rfl rfl ?_
              refine eW_getfield 78 rfl rfl (Nat.ble_eq_true_of_le (by omega)) rfl q1.1 rfl ⟨rfl, fun _ h9 => nomatch h9⟩ ?_
              refine eW_aload_n 79 rfl rfl rfl ?_
              refine eW_getfield 82 rfl rfl (Nat.ble_eq_true_of_le (by omega)) rfl q1.1 rfl ⟨rfl, fun _ h9 => nomatch h9⟩ ?_
              refine eW_iload_n 83 rfl rfl rfl ?_
              refine eW_iload_n 84 rfl rfl rfl ?_
              refine eW_isub 85 rfl rfl ?_
              refine eW_iaload 86 rfl rfl (gvv (gDig G) (m - t)) (Nat.ble_eq_true_of_le (by omega)) (show h 70 = .inl (0, 31, .inl (eIA (A 6))) from q1.2.2.2.2.2.2.2.1) (by omega) (by omega) (by unfold i32; omega) (mV_r hV (by omega) (by omega) hm1) ?_
              refine eW_iconst 87 rfl rfl ?_
              refine eW_bastore 88 rfl rfl (Nat.ble_eq_true_of_le (by omega)) (show h 71 = .inl (2, 256, .inl (eIA F)) from q1.2.2.2.2.2.2.2.2.1) (by omega) (by omega) (by unfold i32; omega) rfl ?_
              intro h11 eh11 oh11
              have hmh11 : mM h11 s (mUp A 7 (eUp F (gvv (gDig G) (m - t)).toNat 1)) := mM_7 q1 eh11 oh11 ⟨rfl, rfl, rfl, rfl, rfl, rfl, rfl, rfl⟩
              have frh11 : mFr h0 h11 := mFr_a q2 (by decide) oh11
              have j2z12 := has_t (c := decide (t < m ∧ gDig G t / 2 % 2 = 1)) (x := gvv (gDig G) (m - t)) j1z4 (by omega) (decide_eq_true (by omega))
              refine eW_iconst 89 rfl rfl ?_
              refine eW_istore 91 rfl rfl [(4, vI 1), (3, vI (gDig G t)), (0, .ref 63), (1, vI m), (2, vI t)] rfl rfl ?_
              refine eW_re [(0, .ref 63), (1, vI m), (2, vI t), (3, vI (gDig G t)), (4, vI 1)] rfl rfl (List.forall_mem_cons.mpr ⟨rfl, List.forall_mem_cons.mpr ⟨rfl, List.forall_mem_cons.mpr ⟨rfl, List.forall_mem_cons.mpr ⟨rfl, List.forall_mem_cons.mpr ⟨rfl, fun _ h => absurd h List.not_mem_nil⟩⟩⟩⟩⟩) (List.forall_mem_cons.mpr ⟨Or.inl rfl, List.forall_mem_cons.mpr ⟨Or.inl rfl, List.forall_mem_cons.mpr ⟨Or.inl rfl, List.forall_mem_cons.mpr ⟨Or.inl rfl, List.forall_mem_cons.mpr ⟨Or.inl rfl, fun _ h => absurd h List.not_mem_nil⟩⟩⟩⟩⟩) ?_
              refine m_fills_2 (p := fun k : Nat => (gOptT (gDig G) (gvv (gDig G)) m (k : Int) (t - 1).toNat || (decide (m = t ∧ gDig G t % 2 = 1) && decide ((0 : Int) = (k : Int)))) || (decide (t < m ∧ gDig G t / 2 % 2 = 1) && decide (gvv (gDig G) (m - t) = (k : Int)))) hN hr hG hm0 hm1 hm2 hV (by omega) (by omega) _ 1 _ h11 (Int.self_le_toNat _) (by omega) hmh11 frh11 (fun k hk => ?_) (fun Fh13 h13 r1h13 r2h13 r3 => ?_)
              · refine (j2z12 k hk).trans ?_; rw [show ((1 : Int) - 1).toNat = 0 by omega]; simp only [gSpl, Bool.and_false, Bool.or_false]
              refine eW_iinc 139 rfl rfl [(2, vI (t + 1)), (0, .ref 63), (1, vI m)] rfl rfl rfl ?_
              refine eW_goto rfl ?_
              refine eW_re [(0, .ref 63), (1, vI m), (2, vI (t + 1))] rfl rfl (List.forall_mem_cons.mpr ⟨rfl, List.forall_mem_cons.mpr ⟨rfl, List.forall_mem_cons.mpr ⟨rfl, fun _ h => absurd h List.not_mem_nil⟩⟩⟩) (List.forall_mem_cons.mpr ⟨Or.inl rfl, List.forall_mem_cons.mpr ⟨Or.inl rfl, List.forall_mem_cons.mpr ⟨Or.inl rfl, fun _ h => absurd h List.not_mem_nil⟩⟩⟩) ?_
              refine ih (t + 1) _ h13 (by omega) (by omega) r1h13 r2h13 (fun k hk => ?_) kk
              rw [r3 k hk, show t + 1 - 1 = t by omega, gOptT_succ q0.1, ← fOpt_eq q0.1 (by omega) gvv_0 gvv_nn, fOpt, Bool.or_assoc, Bool.or_assoc, Bool.or_assoc]
        · refine eW_iload_n 52 rfl rfl rfl ?_
          refine eW_iload_n 53 rfl rfl rfl ?_
          refine eW_icmp_ne 56 rfl rfl (by unfold i32; omega) (by unfold i32; omega) (fun c14 => ?_) (fun c14 => ?_)
          · have j1z15 := has_f (c := decide (m = t ∧ gDig G t % 2 = 1)) (q := fun k => decide ((0 : Int) = (k : Int))) q3 (decide_eq_false (by omega))
            refine eW_iload_n 64 rfl rfl rfl ?_
            refine eW_iconst 65 rfl rfl ?_
            refine eW_iand 66 rfl rfl ((gDig G t) / 2 % 2 * 2) (eAnd2 hd.1 hd.2) ?_
            refine eW_if_le 69 rfl rfl (by unfold i32; omega) (fun c16 => ?_) (fun c16 => ?_)
            · have j2z17 := has_f (c := decide (t < m ∧ gDig G t / 2 % 2 = 1)) (q := fun k => decide (gvv (gDig G) (m - t) = (k : Int))) j1z15 (decide_eq_false (by omega))
              refine eW_iconst 89 rfl rfl ?_
              refine eW_istore 91 rfl rfl [(4, vI 1), (3, vI (gDig G t)), (0, .ref 63), (1, vI m), (2, vI t)] rfl rfl ?_
              refine eW_re [(0, .ref 63), (1, vI m), (2, vI t), (3, vI (gDig G t)), (4, vI 1)] rfl rfl (List.forall_mem_cons.mpr ⟨rfl, List.forall_mem_cons.mpr ⟨rfl, List.forall_mem_cons.mpr ⟨rfl, List.forall_mem_cons.mpr ⟨rfl, List.forall_mem_cons.mpr ⟨rfl, fun _ h => absurd h List.not_mem_nil⟩⟩⟩⟩⟩) (List.forall_mem_cons.mpr ⟨Or.inl rfl, List.forall_mem_cons.mpr ⟨Or.inl rfl, List.forall_mem_cons.mpr ⟨Or.inl rfl, List.forall_mem_cons.mpr ⟨Or.inl rfl, List.forall_mem_cons.mpr ⟨Or.inl rfl, fun _ h => absurd h List.not_mem_nil⟩⟩⟩⟩⟩) ?_
              refine m_fills_2 (p := fun k : Nat => (gOptT (gDig G) (gvv (gDig G)) m (k : Int) (t - 1).toNat || (decide (m = t ∧ gDig G t % 2 = 1) && decide ((0 : Int) = (k : Int)))) || (decide (t < m ∧ gDig G t / 2 % 2 = 1) && decide (gvv (gDig G) (m - t) = (k : Int)))) hN hr hG hm0 hm1 hm2 hV (by omega) (by omega) _ 1 _ h (Int.self_le_toNat _) (by omega) q1 q2 (fun k hk => ?_) (fun Fh18 h18 r1h18 r2h18 r3 => ?_)
              · refine (j2z17 k hk).trans ?_; rw [show ((1 : Int) - 1).toNat = 0 by omega]; simp only [gSpl, Bool.and_false, Bool.or_false]
              refine eW_iinc 139 rfl rfl [(2, vI (t + 1)), (0, .ref 63), (1, vI m)] rfl rfl rfl ?_
              refine eW_goto rfl ?_
              refine eW_re [(0, .ref 63), (1, vI m), (2, vI (t + 1))] rfl rfl (List.forall_mem_cons.mpr ⟨rfl, List.forall_mem_cons.mpr ⟨rfl, List.forall_mem_cons.mpr ⟨rfl, fun _ h => absurd h List.not_mem_nil⟩⟩⟩) (List.forall_mem_cons.mpr ⟨Or.inl rfl, List.forall_mem_cons.mpr ⟨Or.inl rfl, List.forall_mem_cons.mpr ⟨Or.inl rfl, fun _ h => absurd h List.not_mem_nil⟩⟩⟩) ?_
              refine ih (t + 1) _ h18 (by omega) (by omega) r1h18 r2h18 (fun k hk => ?_) kk
              rw [r3 k hk, show t + 1 - 1 = t by omega, gOptT_succ q0.1, ← fOpt_eq q0.1 (by omega) gvv_0 gvv_nn, fOpt, Bool.or_assoc, Bool.or_assoc, Bool.or_assoc]
            · refine eW_iload_n 70 rfl rfl rfl ?_
              refine eW_iload_n 71 rfl rfl rfl ?_
              refine eW_icmp_le 74 rfl rfl (by unfold i32; omega) (by unfold i32; omega) (fun c19 => ?_) (fun c19 => ?_)
              · have j2z20 := has_f (c := decide (t < m ∧ gDig G t / 2 % 2 = 1)) (q := fun k => decide (gvv (gDig G) (m - t) = (k : Int))) j1z15 (decide_eq_false (by omega))
                refine eW_iconst 89 rfl rfl ?_
                refine eW_istore 91 rfl rfl [(4, vI 1), (3, vI (gDig G t)), (0, .ref 63), (1, vI m), (2, vI t)] rfl rfl ?_
                refine eW_re [(0, .ref 63), (1, vI m), (2, vI t), (3, vI (gDig G t)), (4, vI 1)] rfl rfl (List.forall_mem_cons.mpr ⟨rfl, List.forall_mem_cons.mpr ⟨rfl, List.forall_mem_cons.mpr ⟨rfl, List.forall_mem_cons.mpr ⟨rfl, List.forall_mem_cons.mpr ⟨rfl, fun _ h => absurd h List.not_mem_nil⟩⟩⟩⟩⟩) (List.forall_mem_cons.mpr ⟨Or.inl rfl, List.forall_mem_cons.mpr ⟨Or.inl rfl, List.forall_mem_cons.mpr ⟨Or.inl rfl, List.forall_mem_cons.mpr ⟨Or.inl rfl, List.forall_mem_cons.mpr ⟨Or.inl rfl, fun _ h => absurd h List.not_mem_nil⟩⟩⟩⟩⟩) ?_
                refine m_fills_2 (p := fun k : Nat => (gOptT (gDig G) (gvv (gDig G)) m (k : Int) (t - 1).toNat || (decide (m = t ∧ gDig G t % 2 = 1) && decide ((0 : Int) = (k : Int)))) || (decide (t < m ∧ gDig G t / 2 % 2 = 1) && decide (gvv (gDig G) (m - t) = (k : Int)))) hN hr hG hm0 hm1 hm2 hV (by omega) (by omega) _ 1 _ h (Int.self_le_toNat _) (by omega) q1 q2 (fun k hk => ?_) (fun Fh21 h21 r1h21 r2h21 r3 => ?_)
                · refine (j2z20 k hk).trans ?_; rw [show ((1 : Int) - 1).toNat = 0 by omega]; simp only [gSpl, Bool.and_false, Bool.or_false]
                refine eW_iinc 139 rfl rfl [(2, vI (t + 1)), (0, .ref 63), (1, vI m)] rfl rfl rfl ?_
                refine eW_goto rfl ?_
                refine eW_re [(0, .ref 63), (1, vI m), (2, vI (t + 1))] rfl rfl (List.forall_mem_cons.mpr ⟨rfl, List.forall_mem_cons.mpr ⟨rfl, List.forall_mem_cons.mpr ⟨rfl, fun _ h => absurd h List.not_mem_nil⟩⟩⟩) (List.forall_mem_cons.mpr ⟨Or.inl rfl, List.forall_mem_cons.mpr ⟨Or.inl rfl, List.forall_mem_cons.mpr ⟨Or.inl rfl, fun _ h => absurd h List.not_mem_nil⟩⟩⟩) ?_
                refine ih (t + 1) _ h21 (by omega) (by omega) r1h21 r2h21 (fun k hk => ?_) kk
                rw [r3 k hk, show t + 1 - 1 = t by omega, gOptT_succ q0.1, ← fOpt_eq q0.1 (by omega) gvv_0 gvv_nn, fOpt, Bool.or_assoc, Bool.or_assoc, Bool.or_assoc]
              · refine eW_aload_n 75 rfl rfl rfl ?_
                refine eW_getfield 78 rfl rfl (Nat.ble_eq_true_of_le (by omega)) rfl q1.1 rfl ⟨rfl, fun _ h9 => nomatch h9⟩ ?_
                refine eW_aload_n 79 rfl rfl rfl ?_
                refine eW_getfield 82 rfl rfl (Nat.ble_eq_true_of_le (by omega)) rfl q1.1 rfl ⟨rfl, fun _ h9 => nomatch h9⟩ ?_
                refine eW_iload_n 83 rfl rfl rfl ?_
                refine eW_iload_n 84 rfl rfl rfl ?_
                refine eW_isub 85 rfl rfl ?_
                refine eW_iaload 86 rfl rfl (gvv (gDig G) (m - t)) (Nat.ble_eq_true_of_le (by omega)) (show h 70 = .inl (0, 31, .inl (eIA (A 6))) from q1.2.2.2.2.2.2.2.1) (by omega) (by omega) (by unfold i32; omega) (mV_r hV (by omega) (by omega) hm1) ?_
                refine eW_iconst 87 rfl rfl ?_
                refine eW_bastore 88 rfl rfl (Nat.ble_eq_true_of_le (by omega)) (show h 71 = .inl (2, 256, .inl (eIA F)) from q1.2.2.2.2.2.2.2.2.1) (by omega) (by omega) (by unfold i32; omega) rfl ?_
                intro h22 eh22 oh22
                have hmh22 : mM h22 s (mUp A 7 (eUp F (gvv (gDig G) (m - t)).toNat 1)) := mM_7 q1 eh22 oh22 ⟨rfl, rfl, rfl, rfl, rfl, rfl, rfl, rfl⟩
                have frh22 : mFr h0 h22 := mFr_a q2 (by decide) oh22
                have j2z23 := has_t (c := decide (t < m ∧ gDig G t / 2 % 2 = 1)) (x := gvv (gDig G) (m - t)) j1z15 (by omega) (decide_eq_true (by omega))
                refine eW_iconst 89 rfl rfl ?_
                refine eW_istore 91 rfl rfl [(4, vI 1), (3, vI (gDig G t)), (0, .ref 63), (1, vI m), (2, vI t)] rfl rfl ?_
                refine eW_re [(0, .ref 63), (1, vI m), (2, vI t), (3, vI (gDig G t)), (4, vI 1)] rfl rfl (List.forall_mem_cons.mpr ⟨rfl, List.forall_mem_cons.mpr ⟨rfl, List.forall_mem_cons.mpr ⟨rfl, List.forall_mem_cons.mpr ⟨rfl, List.forall_mem_cons.mpr ⟨rfl, fun _ h => absurd h List.not_mem_nil⟩⟩⟩⟩⟩) (List.forall_mem_cons.mpr ⟨Or.inl rfl, List.forall_mem_cons.mpr ⟨Or.inl rfl, List.forall_mem_cons.mpr ⟨Or.inl rfl, List.forall_mem_cons.mpr ⟨Or.inl rfl, List.forall_mem_cons.mpr ⟨Or.inl rfl, fun _ h => absurd h List.not_mem_nil⟩⟩⟩⟩⟩) ?_
                refine m_fills_2 (p := fun k : Nat => (gOptT (gDig G) (gvv (gDig G)) m (k : Int) (t - 1).toNat || (decide (m = t ∧ gDig G t % 2 = 1) && decide ((0 : Int) = (k : Int)))) || (decide (t < m ∧ gDig G t / 2 % 2 = 1) && decide (gvv (gDig G) (m - t) = (k : Int)))) hN hr hG hm0 hm1 hm2 hV (by omega) (by omega) _ 1 _ h22 (Int.self_le_toNat _) (by omega) hmh22 frh22 (fun k hk => ?_) (fun Fh24 h24 r1h24 r2h24 r3 => ?_)
                · refine (j2z23 k hk).trans ?_; rw [show ((1 : Int) - 1).toNat = 0 by omega]; simp only [gSpl, Bool.and_false, Bool.or_false]
                refine eW_iinc 139 rfl rfl [(2, vI (t + 1)), (0, .ref 63), (1, vI m)] rfl rfl rfl ?_
                refine eW_goto rfl ?_
                refine eW_re [(0, .ref 63), (1, vI m), (2, vI (t + 1))] rfl rfl (List.forall_mem_cons.mpr ⟨rfl, List.forall_mem_cons.mpr ⟨rfl, List.forall_mem_cons.mpr ⟨rfl, fun _ h => absurd h List.not_mem_nil⟩⟩⟩) (List.forall_mem_cons.mpr ⟨Or.inl rfl, List.forall_mem_cons.mpr ⟨Or.inl rfl, List.forall_mem_cons.mpr ⟨Or.inl rfl, fun _ h => absurd h List.not_mem_nil⟩⟩⟩) ?_
                refine ih (t + 1) _ h24 (by omega) (by omega) r1h24 r2h24 (fun k hk => ?_) kk
                rw [r3 k hk, show t + 1 - 1 = t by omega, gOptT_succ q0.1, ← fOpt_eq q0.1 (by omega) gvv_0 gvv_nn, fOpt, Bool.or_assoc, Bool.or_assoc, Bool.or_assoc]
          · refine eW_aload_n 57 rfl rfl rfl ?_
            refine eW_getfield 60 rfl rfl (Nat.ble_eq_true_of_le (by omega)) rfl q1.1 rfl ⟨rfl, fun _ h9 => nomatch h9⟩ ?_
            refine eW_iconst 61 rfl rfl ?_
            refine eW_iconst 62 rfl rfl ?_
            refine eW_bastore 63 rfl rfl (Nat.ble_eq_true_of_le (by omega)) (show h 71 = .inl (2, 256, .inl (eIA F)) from q1.2.2.2.2.2.2.2.2.1) (by omega) (by omega) (by unfold i32; omega) rfl ?_
            intro h25 eh25 oh25
            have hmh25 : mM h25 s (mUp A 7 (eUp F 0 1)) := mM_7 q1 eh25 oh25 ⟨rfl, rfl, rfl, rfl, rfl, rfl, rfl, rfl⟩
            have frh25 : mFr h0 h25 := mFr_a q2 (by decide) oh25
            have j1z26 := has_t (c := decide (m = t ∧ gDig G t % 2 = 1)) (x := 0) q3 (by omega) (decide_eq_true (by omega))
            refine eW_iload_n 64 rfl rfl rfl ?_
            refine eW_iconst 65 rfl rfl ?_
            refine eW_iand 66 rfl rfl ((gDig G t) / 2 % 2 * 2) (eAnd2 hd.1 hd.2) ?_
            refine eW_if_le 69 rfl rfl (by unfold i32; omega) (fun c27 => ?_) (fun c27 => ?_)
            · have j2z28 := has_f (c := decide (t < m ∧ gDig G t / 2 % 2 = 1)) (q := fun k => decide (gvv (gDig G) (m - t) = (k : Int))) j1z26 (decide_eq_false (by omega))
              refine eW_iconst 89 rfl rfl ?_
              refine eW_istore 91 rfl rfl [(4, vI 1), (3, vI (gDig G t)), (0, .ref 63), (1, vI m), (2, vI t)] rfl rfl ?_
              refine eW_re [(0, .ref 63), (1, vI m), (2, vI t), (3, vI (gDig G t)), (4, vI 1)] rfl rfl (List.forall_mem_cons.mpr ⟨rfl, List.forall_mem_cons.mpr ⟨rfl, List.forall_mem_cons.mpr ⟨rfl, List.forall_mem_cons.mpr ⟨rfl, List.forall_mem_cons.mpr ⟨rfl, fun _ h => absurd h List.not_mem_nil⟩⟩⟩⟩⟩) (List.forall_mem_cons.mpr ⟨Or.inl rfl, List.forall_mem_cons.mpr ⟨Or.inl rfl, List.forall_mem_cons.mpr ⟨Or.inl rfl, List.forall_mem_cons.mpr ⟨Or.inl rfl, List.forall_mem_cons.mpr ⟨Or.inl rfl, fun _ h => absurd h List.not_mem_nil⟩⟩⟩⟩⟩) ?_
              refine m_fills_2 (p := fun k : Nat => (gOptT (gDig G) (gvv (gDig G)) m (k : Int) (t - 1).toNat || (decide (m = t ∧ gDig G t % 2 = 1) && decide ((0 : Int) = (k : Int)))) || (decide (t < m ∧ gDig G t / 2 % 2 = 1) && decide (gvv (gDig G) (m - t) = (k : Int)))) hN hr hG hm0 hm1 hm2 hV (by omega) (by omega) _ 1 _ h25 (Int.self_le_toNat _) (by omega) hmh25 frh25 (fun k hk => ?_) (fun Fh29 h29 r1h29 r2h29 r3 => ?_)
              · refine (j2z28 k hk).trans ?_; rw [show ((1 : Int) - 1).toNat = 0 by omega]; simp only [gSpl, Bool.and_false, Bool.or_false]
              refine eW_iinc 139 rfl rfl [(2, vI (t + 1)), (0, .ref 63), (1, vI m)] rfl rfl rfl ?_
              refine eW_goto rfl ?_
              refine eW_re [(0, .ref 63), (1, vI m), (2, vI (t + 1))] rfl rfl (List.forall_mem_cons.mpr ⟨rfl, List.forall_mem_cons.mpr ⟨rfl, List.forall_mem_cons.mpr ⟨rfl, fun _ h => absurd h List.not_mem_nil⟩⟩⟩) (List.forall_mem_cons.mpr ⟨Or.inl rfl, List.forall_mem_cons.mpr ⟨Or.inl rfl, List.forall_mem_cons.mpr ⟨Or.inl rfl, fun _ h => absurd h List.not_mem_nil⟩⟩⟩) ?_
              refine ih (t + 1) _ h29 (by omega) (by omega) r1h29 r2h29 (fun k hk => ?_) kk
              rw [r3 k hk, show t + 1 - 1 = t by omega, gOptT_succ q0.1, ← fOpt_eq q0.1 (by omega) gvv_0 gvv_nn, fOpt, Bool.or_assoc, Bool.or_assoc, Bool.or_assoc]
            · refine eW_iload_n 70 rfl rfl rfl ?_
              refine eW_iload_n 71 rfl rfl rfl ?_
              refine eW_icmp_le 74 rfl rfl (by unfold i32; omega) (by unfold i32; omega) (fun c30 => ?_) (fun c30 => ?_)
              · have j2z31 := has_f (c := decide (t < m ∧ gDig G t / 2 % 2 = 1)) (q := fun k => decide (gvv (gDig G) (m - t) = (k : Int))) j1z26 (decide_eq_false (by omega))
                refine eW_iconst 89 rfl rfl ?_
                refine eW_istore 91 rfl rfl [(4, vI 1), (3, vI (gDig G t)), (0, .ref 63), (1, vI m), (2, vI t)] rfl rfl ?_
                refine eW_re [(0, .ref 63), (1, vI m), (2, vI t), (3, vI (gDig G t)), (4, vI 1)] rfl rfl (List.forall_mem_cons.mpr ⟨rfl, List.forall_mem_cons.mpr ⟨rfl, List.forall_mem_cons.mpr ⟨rfl, List.forall_mem_cons.mpr ⟨rfl, List.forall_mem_cons.mpr ⟨rfl, fun _ h => absurd h List.not_mem_nil⟩⟩⟩⟩⟩) (List.forall_mem_cons.mpr ⟨Or.inl rfl, List.forall_mem_cons.mpr ⟨Or.inl rfl, List.forall_mem_cons.mpr ⟨Or.inl rfl, List.forall_mem_cons.mpr ⟨Or.inl rfl, List.forall_mem_cons.mpr ⟨Or.inl rfl, fun _ h => absurd h List.not_mem_nil⟩⟩⟩⟩⟩) ?_
                refine m_fills_2 (p := fun k : Nat => (gOptT (gDig G) (gvv (gDig G)) m (k : Int) (t - 1).toNat || (decide (m = t ∧ gDig G t % 2 = 1) && decide ((0 : Int) = (k : Int)))) || (decide (t < m ∧ gDig G t / 2 % 2 = 1) && decide (gvv (gDig G) (m - t) = (k : Int)))) hN hr hG hm0 hm1 hm2 hV (by omega) (by omega) _ 1 _ h25 (Int.self_le_toNat _) (by omega) hmh25 frh25 (fun k hk => ?_) (fun Fh32 h32 r1h32 r2h32 r3 => ?_)
                · refine (j2z31 k hk).trans ?_; rw [show ((1 : Int) - 1).toNat = 0 by omega]; simp only [gSpl, Bool.and_false, Bool.or_false]
                refine eW_iinc 139 rfl rfl [(2, vI (t + 1)), (0, .ref 63), (1, vI m)] rfl rfl rfl ?_
                refine eW_goto rfl ?_
                refine eW_re [(0, .ref 63), (1, vI m), (2, vI (t + 1))] rfl rfl (List.forall_mem_cons.mpr ⟨rfl, List.forall_mem_cons.mpr ⟨rfl, List.forall_mem_cons.mpr ⟨rfl, fun _ h => absurd h List.not_mem_nil⟩⟩⟩) (List.forall_mem_cons.mpr ⟨Or.inl rfl, List.forall_mem_cons.mpr ⟨Or.inl rfl, List.forall_mem_cons.mpr ⟨Or.inl rfl, fun _ h => absurd h List.not_mem_nil⟩⟩⟩) ?_
                refine ih (t + 1) _ h32 (by omega) (by omega) r1h32 r2h32 (fun k hk => ?_) kk
                rw [r3 k hk, show t + 1 - 1 = t by omega, gOptT_succ q0.1, ← fOpt_eq q0.1 (by omega) gvv_0 gvv_nn, fOpt, Bool.or_assoc, Bool.or_assoc, Bool.or_assoc]
              · refine eW_aload_n 75 rfl rfl rfl ?_
                refine eW_getfield 78 rfl rfl (Nat.ble_eq_true_of_le (by omega)) rfl hmh25.1 rfl ⟨rfl, fun _ h9 => nomatch h9⟩ ?_
                refine eW_aload_n 79 rfl rfl rfl ?_
                refine eW_getfield 82 rfl rfl (Nat.ble_eq_true_of_le (by omega)) rfl hmh25.1 rfl ⟨rfl, fun _ h9 => nomatch h9⟩ ?_
                refine eW_iload_n 83 rfl rfl rfl ?_
                refine eW_iload_n 84 rfl rfl rfl ?_
                refine eW_isub 85 rfl rfl ?_
                refine eW_iaload 86 rfl rfl (gvv (gDig G) (m - t)) (Nat.ble_eq_true_of_le (by omega)) (show h25 70 = .inl (0, 31, .inl (eIA (A 6))) from hmh25.2.2.2.2.2.2.2.1) (by omega) (by omega) (by unfold i32; omega) (mV_r hV (by omega) (by omega) hm1) ?_
                refine eW_iconst 87 rfl rfl ?_
                refine eW_bastore 88 rfl rfl (Nat.ble_eq_true_of_le (by omega)) (show h25 71 = .inl (2, 256, .inl (eIA (eUp F 0 1))) from hmh25.2.2.2.2.2.2.2.2.1) (by omega) (by omega) (by unfold i32; omega) rfl ?_
                intro h33 eh33 oh33
                have hmh33 : mM h33 s (mUp A 7 (eUp (eUp F 0 1) (gvv (gDig G) (m - t)).toNat 1)) := mM_7 hmh25 eh33 oh33 ⟨rfl, rfl, rfl, rfl, rfl, rfl, rfl, rfl⟩
                have frh33 : mFr h0 h33 := mFr_a frh25 (by decide) oh33
                have j2z34 := has_t (c := decide (t < m ∧ gDig G t / 2 % 2 = 1)) (x := gvv (gDig G) (m - t)) j1z26 (by omega) (decide_eq_true (by omega))
                refine eW_iconst 89 rfl rfl ?_
                refine eW_istore 91 rfl rfl [(4, vI 1), (3, vI (gDig G t)), (0, .ref 63), (1, vI m), (2, vI t)] rfl rfl ?_
                refine eW_re [(0, .ref 63), (1, vI m), (2, vI t), (3, vI (gDig G t)), (4, vI 1)] rfl rfl (List.forall_mem_cons.mpr ⟨rfl, List.forall_mem_cons.mpr ⟨rfl, List.forall_mem_cons.mpr ⟨rfl, List.forall_mem_cons.mpr ⟨rfl, List.forall_mem_cons.mpr ⟨rfl, fun _ h => absurd h List.not_mem_nil⟩⟩⟩⟩⟩) (List.forall_mem_cons.mpr ⟨Or.inl rfl, List.forall_mem_cons.mpr ⟨Or.inl rfl, List.forall_mem_cons.mpr ⟨Or.inl rfl, List.forall_mem_cons.mpr ⟨Or.inl rfl, List.forall_mem_cons.mpr ⟨Or.inl rfl, fun _ h => absurd h List.not_mem_nil⟩⟩⟩⟩⟩) ?_
                refine m_fills_2 (p := fun k : Nat => (gOptT (gDig G) (gvv (gDig G)) m (k : Int) (t - 1).toNat || (decide (m = t ∧ gDig G t % 2 = 1) && decide ((0 : Int) = (k : Int)))) || (decide (t < m ∧ gDig G t / 2 % 2 = 1) && decide (gvv (gDig G) (m - t) = (k : Int)))) hN hr hG hm0 hm1 hm2 hV (by omega) (by omega) _ 1 _ h33 (Int.self_le_toNat _) (by omega) hmh33 frh33 (fun k hk => ?_) (fun Fh35 h35 r1h35 r2h35 r3 => ?_)
                · refine (j2z34 k hk).trans ?_; rw [show ((1 : Int) - 1).toNat = 0 by omega]; simp only [gSpl, Bool.and_false, Bool.or_false]
                refine eW_iinc 139 rfl rfl [(2, vI (t + 1)), (0, .ref 63), (1, vI m)] rfl rfl rfl ?_
                refine eW_goto rfl ?_
                refine eW_re [(0, .ref 63), (1, vI m), (2, vI (t + 1))] rfl rfl (List.forall_mem_cons.mpr ⟨rfl, List.forall_mem_cons.mpr ⟨rfl, List.forall_mem_cons.mpr ⟨rfl, fun _ h => absurd h List.not_mem_nil⟩⟩⟩) (List.forall_mem_cons.mpr ⟨Or.inl rfl, List.forall_mem_cons.mpr ⟨Or.inl rfl, List.forall_mem_cons.mpr ⟨Or.inl rfl, fun _ h => absurd h List.not_mem_nil⟩⟩⟩) ?_
                refine ih (t + 1) _ h35 (by omega) (by omega) r1h35 r2h35 (fun k hk => ?_) kk
                rw [r3 k hk, show t + 1 - 1 = t by omega, gOptT_succ q0.1, ← fOpt_eq q0.1 (by omega) gvv_0 gvv_nn, fOpt, Bool.or_assoc, Bool.or_assoc, Bool.or_assoc]
theorem m_fills {d N : Nat} {h : eHp} {s : Nat → Int} {A : Nat → Nat → Int} (hm : mM h s A) (hN : 75 ≤ N) {G : eGd} (hr : rR G (A 0)) (hG : gOk G) {m : Int} (hm0 : 0 ≤ m) (hm2 : m ≤ 30) (hV : ∀ i : Nat, (i : Int) < m → A 6 i = gv (gDig G) i) : eSp (d + 1) eM_X7_fills [.ref 63, vI m] N h (eChg none N (fun h' => ∃ F, mD h s (mUp A 7 F) h' ∧ ∀ k : Nat, k < 256 → F k = eB01 (gOpt (gDig G) (gvv (gDig G)) m k))) := by
  refine eSp_of [(0, .ref 63), (1, vI m)] rfl rfl ?_
  refine eW_iconst 1 rfl rfl ?_
  refine eW_istore_n 2 rfl rfl [(2, vI 0), (0, .ref 63), (1, vI m)] rfl rfl ?_
  refine eW_re [(0, .ref 63), (1, vI m), (2, vI 0)] rfl rfl (List.forall_mem_cons.mpr ⟨rfl, List.forall_mem_cons.mpr ⟨rfl, List.forall_mem_cons.mpr ⟨rfl, fun _ h => absurd h List.not_mem_nil⟩⟩⟩) (List.forall_mem_cons.mpr ⟨Or.inl rfl, List.forall_mem_cons.mpr ⟨Or.inl rfl, List.forall_mem_cons.mpr ⟨Or.inl rfl, fun _ h => absurd h List.not_mem_nil⟩⟩⟩) ?_
  refine m_fills_1 (A := A) hN _ 0 (A 7) h (Int.self_le_toNat _) (by omega) (show mM h s (mUp A 7 (A 7)) from hm) (fun _ _ => rfl) (fun j hj => absurd hj (by omega)) (fun F1 h1 r1 r2 r3 => ?_)
  refine eW_iconst 23 rfl rfl ?_
  refine eW_istore_n 24 rfl rfl [(2, vI 1), (0, .ref 63), (1, vI m)] rfl rfl ?_
  refine eW_re [(0, .ref 63), (1, vI m), (2, vI 1)] rfl rfl (List.forall_mem_cons.mpr ⟨rfl, List.forall_mem_cons.mpr ⟨rfl, List.forall_mem_cons.mpr ⟨rfl, fun _ h => absurd h List.not_mem_nil⟩⟩⟩) (List.forall_mem_cons.mpr ⟨Or.inl rfl, List.forall_mem_cons.mpr ⟨Or.inl rfl, List.forall_mem_cons.mpr ⟨Or.inl rfl, fun _ h => absurd h List.not_mem_nil⟩⟩⟩) ?_
  refine m_fills_3 hN hr hG hm0 (by omega) hm2 hV _ 1 F1 h1 (Int.self_le_toNat _) (by omega) r1 r2 (fun k hk => by rw [r3 k hk]; rfl) (fun F2 h2 s1 s2 s3 => ?_)
  refine eW_ret rfl rfl ?_
  exact ⟨_, rfl, F2, ⟨s1, s2⟩, s3⟩
theorem m_finds_v {d N k z : Nat} {h : eHp} {s : Nat → Int} {A : Nat → Nat → Int} {V0 F : Nat → Int} (hm : mM h s (mUp (mUp A 6 V0) 7 F)) (hN : 75 ≤ N) {P : eR → Prop} {D : Int → Int} {a c : Int} (hc : 0 ≤ c ∧ c ≤ 30) (hF : ∀ k : Nat, k < 256 → F k = eB01 (gOpt D (gvv D) c k)) : ∀ (m9 : Nat) (v : Int), 31 - v ≤ m9 → 0 ≤ v ∧ v ≤ c → (∀ j : Nat, (j : Int) < v → F j = 1) → (eWp eOx (eEv (d + 1)) eM_X7_finds (30, [(0, .ref 63), (1, vI a), (2, vI c), (3, vI (gv D c.toNat))], [], N, h, k, z) P) → eWp eOx (eEv (d + 1)) eM_X7_finds (15, [(0, .ref 63), (1, vI a), (2, vI c), (3, vI v)], [], N, h, k, z) P := by
  intro m9
  induction m9 with
  | zero =>
    intro v hm9 q0 q1 kk
    have hno := hF c.toNat (by omega)
    rw [Int.toNat_of_nonneg hc.1, gv_no (by omega) (Int.le_refl _)] at hno
    have hno : F c.toNat = 0 := hno
    have hb := eB01_b (hF v.toNat (by omega))
    have hvc : v = c → F v.toNat = 0 := fun e => by rw [e]; exact hno
    refine eW_aload_n 16 rfl rfl rfl ?_
    refine eW_getfield 19 rfl rfl (Nat.ble_eq_true_of_le (by omega)) rfl hm.1 rfl ⟨rfl, fun _ h9 => nomatch h9⟩ ?_
    refine eW_iload_n 20 rfl rfl rfl ?_
    refine eW_baload 21 rfl rfl (F v.toNat) (Nat.ble_eq_true_of_le (by omega)) rfl (show h 71 = .inl (2, 256, .inl (eIA F)) from hm.2.2.2.2.2.2.2.2.1) (by omega) (by omega) (by unfold i32; omega) rfl ?_
    refine eW_if_eq 24 rfl rfl (by unfold i32; omega) (fun c1 => ?_) (fun c1 => ?_)
    · have e9 : v = gv D c.toNat := by
        rw [gvv_mex, Int.toNat_of_nonneg hc.1]
        refine gMex_uni (m := c) (by omega) (gv_no (by omega) (Int.le_refl _)) q0.1 (fun j h1 h2 => ?_) ?_
        · have e8 := hF j.toNat (by omega)
          rw [q1 j.toNat (by omega), Int.toNat_of_nonneg h1] at e8
          exact eB01_1.mp e8.symm
        · have e8 := hF v.toNat (by omega)
          rw [Int.toNat_of_nonneg q0.1] at e8
          rcases eB01_c (gOpt D (gvv D) c v) with e7 | e7
          · omega
          · exact e7.1
      rw [e9]; exact kk
    · refine eW_iinc 27 rfl rfl [(3, vI (v + 1)), (0, .ref 63), (1, vI a), (2, vI c)] rfl rfl rfl ?_
      refine eW_goto rfl ?_
      refine eW_re [(0, .ref 63), (1, vI a), (2, vI c), (3, vI (v + 1))] rfl rfl (List.forall_mem_cons.mpr ⟨rfl, List.forall_mem_cons.mpr ⟨rfl, List.forall_mem_cons.mpr ⟨rfl, List.forall_mem_cons.mpr ⟨rfl, fun _ h => absurd h List.not_mem_nil⟩⟩⟩⟩) (List.forall_mem_cons.mpr ⟨Or.inl rfl, List.forall_mem_cons.mpr ⟨Or.inl rfl, List.forall_mem_cons.mpr ⟨Or.inl rfl, List.forall_mem_cons.mpr ⟨Or.inl rfl, fun _ h => absurd h List.not_mem_nil⟩⟩⟩⟩) ?_
      exact absurd hm9 (by omega)
  | succ m9 ih =>
    intro v hm9 q0 q1 kk
    have hno := hF c.toNat (by omega)
    rw [Int.toNat_of_nonneg hc.1, gv_no (by omega) (Int.le_refl _)] at hno
    have hno : F c.toNat = 0 := hno
    have hb := eB01_b (hF v.toNat (by omega))
    have hvc : v = c → F v.toNat = 0 := fun e => by rw [e]; exact hno
    refine eW_aload_n 16 rfl rfl rfl ?_
    refine eW_getfield 19 rfl rfl (Nat.ble_eq_true_of_le (by omega)) rfl hm.1 rfl ⟨rfl, fun _ h9 => nomatch h9⟩ ?_
    refine eW_iload_n 20 rfl rfl rfl ?_
    refine eW_baload 21 rfl rfl (F v.toNat) (Nat.ble_eq_true_of_le (by omega)) rfl (show h 71 = .inl (2, 256, .inl (eIA F)) from hm.2.2.2.2.2.2.2.2.1) (by omega) (by omega) (by unfold i32; omega) rfl ?_
    refine eW_if_eq 24 rfl rfl (by unfold i32; omega) (fun c1 => ?_) (fun c1 => ?_)
    · have e9 : v = gv D c.toNat := by
        rw [gvv_mex, Int.toNat_of_nonneg hc.1]
        refine gMex_uni (m := c) (by omega) (gv_no (by omega) (Int.le_refl _)) q0.1 (fun j h1 h2 => ?_) ?_
        · have e8 := hF j.toNat (by omega)
          rw [q1 j.toNat (by omega), Int.toNat_of_nonneg h1] at e8
          exact eB01_1.mp e8.symm
        · have e8 := hF v.toNat (by omega)
          rw [Int.toNat_of_nonneg q0.1] at e8
          rcases eB01_c (gOpt D (gvv D) c v) with e7 | e7
          · omega
          · exact e7.1
      rw [e9]; exact kk
    · refine eW_iinc 27 rfl rfl [(3, vI (v + 1)), (0, .ref 63), (1, vI a), (2, vI c)] rfl rfl rfl ?_
      refine eW_goto rfl ?_
      refine eW_re [(0, .ref 63), (1, vI a), (2, vI c), (3, vI (v + 1))] rfl rfl (List.forall_mem_cons.mpr ⟨rfl, List.forall_mem_cons.mpr ⟨rfl, List.forall_mem_cons.mpr ⟨rfl, List.forall_mem_cons.mpr ⟨rfl, fun _ h => absurd h List.not_mem_nil⟩⟩⟩⟩) (List.forall_mem_cons.mpr ⟨Or.inl rfl, List.forall_mem_cons.mpr ⟨Or.inl rfl, List.forall_mem_cons.mpr ⟨Or.inl rfl, List.forall_mem_cons.mpr ⟨Or.inl rfl, fun _ h => absurd h List.not_mem_nil⟩⟩⟩⟩) ?_
      refine ih (v + 1) (by omega) (by omega) (fun j hj => ?_) kk
      by_cases hj2 : (j : Int) = v
      · rw [show j = v.toNat by omega]; omega
      · exact q1 j (by omega)
theorem m_finds_l {d N k z : Nat} {h0 : eHp} {s : Nat → Int} {A : Nat → Nat → Int} (hN : 75 ≤ N) {P : eR → Prop} {G : eGd} (hr : rR G (A 0)) (hG : gOk G) {a : Int} : ∀ (m9 : Nat) (c : Int) (V0 F : Nat → Int) (h : eHp), 31 - c ≤ m9 → 0 ≤ c ∧ c ≤ 31 → mM h s (mUp (mUp A 6 V0) 7 F) → mFr h0 h → (∀ i : Nat, (i : Int) < c → V0 i = gv (gDig G) i) → (∀ (V0 F : Nat → Int) (h : eHp), mM h s (mUp (mUp A 6 V0) 7 F) → mFr h0 h → (∀ i : Nat, (i : Int) < 31 → V0 i = gv (gDig G) i) → eWp eOx (eEv (d + 1)) eM_X7_finds (43, [(0, .ref 63), (1, vI a)], [], N, h, k, z) P) → eWp eOx (eEv (d + 1)) eM_X7_finds (2, [(0, .ref 63), (1, vI a), (2, vI c)], [], N, h, k, z) P := by
  intro m9
  induction m9 with
  | zero =>
    intro c V0 F h hm9 q0 q1 q2 q3 kk
    refine eW_iload_n 3 rfl rfl rfl ?_
    refine eW_bipush 5 rfl rfl 30 rfl ?_
    refine eW_icmp_gt 8 rfl rfl (by unfold i32; omega) (by unfold i32; omega) (fun c1 => ?_) (fun c1 => ?_)
    · refine eW_re [(0, .ref 63), (1, vI a)] rfl rfl (List.forall_mem_cons.mpr ⟨rfl, List.forall_mem_cons.mpr ⟨rfl, fun _ h => absurd h List.not_mem_nil⟩⟩) (List.forall_mem_cons.mpr ⟨Or.inl rfl, List.forall_mem_cons.mpr ⟨Or.inl rfl, List.forall_mem_cons.mpr ⟨Or.inr ⟨_, rfl⟩, fun _ h => absurd h List.not_mem_nil⟩⟩⟩) ?_
      exact kk V0 F h q1 q2 (fun i hi => q3 i (by omega))
    · refine eW_aload_n 9 rfl rfl rfl ?_
      refine eW_iload_n 10 rfl rfl rfl ?_
      refine eW_callVH 13 [.ref 63, vI c] [] [] rfl rfl rfl rfl (Nat.ble_eq_true_of_le (by omega)) q1.1 rfl rfl rfl (m_fills (d := d + 0) (A := mUp (mUp A 6 V0) 7 F) q1 hN hr hG (by omega) (by omega) q3) rfl rfl ?_
      intro h2 fh2
      obtain ⟨F1, f9h2⟩ := fh2
      obtain ⟨f8h2, hF1⟩ := f9h2
      have hmh2 : mM h2 s (mUp (mUp A 6 V0) 7 F1) := f8h2.1
      have frh2 : mFr h0 h2 := mFr_t q2 f8h2.2
      refine eW_iconst 14 rfl rfl ?_
      refine eW_istore_n 15 rfl rfl [(3, vI 0), (0, .ref 63), (1, vI a), (2, vI c)] rfl rfl ?_
      refine eW_re [(0, .ref 63), (1, vI a), (2, vI c), (3, vI 0)] rfl rfl (List.forall_mem_cons.mpr ⟨rfl, List.forall_mem_cons.mpr ⟨rfl, List.forall_mem_cons.mpr ⟨rfl, List.forall_mem_cons.mpr ⟨rfl, fun _ h => absurd h List.not_mem_nil⟩⟩⟩⟩) (List.forall_mem_cons.mpr ⟨Or.inl rfl, List.forall_mem_cons.mpr ⟨Or.inl rfl, List.forall_mem_cons.mpr ⟨Or.inl rfl, List.forall_mem_cons.mpr ⟨Or.inl rfl, fun _ h => absurd h List.not_mem_nil⟩⟩⟩⟩) ?_
      refine m_finds_v hmh2 hN (by omega) hF1 _ 0 (Int.self_le_toNat _) (by omega) (fun j hj => absurd hj (by omega)) ?_
      have hgl := gv_le (D := gDig G) (c.toNat + 1) c.toNat (by omega) (by omega)
      refine eW_aload_n 31 rfl rfl rfl ?_
      refine eW_getfield 34 rfl rfl (Nat.ble_eq_true_of_le (by omega)) rfl hmh2.1 rfl ⟨rfl, fun _ h9 => nomatch h9⟩ ?_
      refine eW_iload_n 35 rfl rfl rfl ?_
      refine eW_iload_n 36 rfl rfl rfl ?_
      refine eW_iastore 37 rfl rfl (Nat.ble_eq_true_of_le (by omega)) (show h2 70 = .inl (0, 31, .inl (eIA V0)) from hmh2.2.2.2.2.2.2.2.1) (by omega) (by omega) (by unfold i32; omega) rfl ?_
      intro h3 eh3 oh3
      have hmh3 : mM h3 s (mUp (mUp A 6 (eUp V0 c.toNat (gv (gDig G) c.toNat))) 7 F1) := mM_6 hmh2 eh3 oh3 ⟨rfl, rfl, rfl, rfl, rfl, rfl, rfl, rfl⟩
      have frh3 : mFr h0 h3 := mFr_a frh2 (by decide) oh3
      refine eW_iinc 40 rfl rfl [(2, vI (c + 1)), (0, .ref 63), (1, vI a), (3, vI (gv (gDig G) c.toNat))] rfl rfl rfl ?_
      refine eW_goto rfl ?_
      refine eW_re [(0, .ref 63), (1, vI a), (2, vI (c + 1))] rfl rfl (List.forall_mem_cons.mpr ⟨rfl, List.forall_mem_cons.mpr ⟨rfl, List.forall_mem_cons.mpr ⟨rfl, fun _ h => absurd h List.not_mem_nil⟩⟩⟩) (List.forall_mem_cons.mpr ⟨Or.inl rfl, List.forall_mem_cons.mpr ⟨Or.inl rfl, List.forall_mem_cons.mpr ⟨Or.inl rfl, List.forall_mem_cons.mpr ⟨Or.inr ⟨_, rfl⟩, fun _ h => absurd h List.not_mem_nil⟩⟩⟩⟩) ?_
      exact absurd hm9 (by omega)
  | succ m9 ih =>
    intro c V0 F h hm9 q0 q1 q2 q3 kk
    refine eW_iload_n 3 rfl rfl rfl ?_
    refine eW_bipush 5 rfl rfl 30 rfl ?_
    refine eW_icmp_gt 8 rfl rfl (by unfold i32; omega) (by unfold i32; omega) (fun c1 => ?_) (fun c1 => ?_)
    · refine eW_re [(0, .ref 63), (1, vI a)] rfl rfl (List.forall_mem_cons.mpr ⟨rfl, List.forall_mem_cons.mpr ⟨rfl, fun _ h => absurd h List.not_mem_nil⟩⟩) (List.forall_mem_cons.mpr ⟨Or.inl rfl, List.forall_mem_cons.mpr ⟨Or.inl rfl, List.forall_mem_cons.mpr ⟨Or.inr ⟨_, rfl⟩, fun _ h => absurd h List.not_mem_nil⟩⟩⟩) ?_
      exact kk V0 F h q1 q2 (fun i hi => q3 i (by omega))
    · refine eW_aload_n 9 rfl rfl rfl ?_
      refine eW_iload_n 10 rfl rfl rfl ?_
      refine eW_callVH 13 [.ref 63, vI c] [] [] rfl rfl rfl rfl (Nat.ble_eq_true_of_le (by omega)) q1.1 rfl rfl rfl (m_fills (d := d + 0) (A := mUp (mUp A 6 V0) 7 F) q1 hN hr hG (by omega) (by omega) q3) rfl rfl ?_
      intro h2 fh2
      obtain ⟨F1, f9h2⟩ := fh2
      obtain ⟨f8h2, hF1⟩ := f9h2
      have hmh2 : mM h2 s (mUp (mUp A 6 V0) 7 F1) := f8h2.1
      have frh2 : mFr h0 h2 := mFr_t q2 f8h2.2
      refine eW_iconst 14 rfl rfl ?_
      refine eW_istore_n 15 rfl rfl [(3, vI 0), (0, .ref 63), (1, vI a), (2, vI c)] rfl rfl ?_
      refine eW_re [(0, .ref 63), (1, vI a), (2, vI c), (3, vI 0)] rfl rfl (List.forall_mem_cons.mpr ⟨rfl, List.forall_mem_cons.mpr ⟨rfl, List.forall_mem_cons.mpr ⟨rfl, List.forall_mem_cons.mpr ⟨rfl, fun _ h => absurd h List.not_mem_nil⟩⟩⟩⟩) (List.forall_mem_cons.mpr ⟨Or.inl rfl, List.forall_mem_cons.mpr ⟨Or.inl rfl, List.forall_mem_cons.mpr ⟨Or.inl rfl, List.forall_mem_cons.mpr ⟨Or.inl rfl, fun _ h => absurd h List.not_mem_nil⟩⟩⟩⟩) ?_
      refine m_finds_v hmh2 hN (by omega) hF1 _ 0 (Int.self_le_toNat _) (by omega) (fun j hj => absurd hj (by omega)) ?_
      have hgl := gv_le (D := gDig G) (c.toNat + 1) c.toNat (by omega) (by omega)
      refine eW_aload_n 31 rfl rfl rfl ?_
      refine eW_getfield 34 rfl rfl (Nat.ble_eq_true_of_le (by omega)) rfl hmh2.1 rfl ⟨rfl, fun _ h9 => nomatch h9⟩ ?_
      refine eW_iload_n 35 rfl rfl rfl ?_
      refine eW_iload_n 36 rfl rfl rfl ?_
      refine eW_iastore 37 rfl rfl (Nat.ble_eq_true_of_le (by omega)) (show h2 70 = .inl (0, 31, .inl (eIA V0)) from hmh2.2.2.2.2.2.2.2.1) (by omega) (by omega) (by unfold i32; omega) rfl ?_
      intro h3 eh3 oh3
      have hmh3 : mM h3 s (mUp (mUp A 6 (eUp V0 c.toNat (gv (gDig G) c.toNat))) 7 F1) := mM_6 hmh2 eh3 oh3 ⟨rfl, rfl, rfl, rfl, rfl, rfl, rfl, rfl⟩
      have frh3 : mFr h0 h3 := mFr_a frh2 (by decide) oh3
      refine eW_iinc 40 rfl rfl [(2, vI (c + 1)), (0, .ref 63), (1, vI a), (3, vI (gv (gDig G) c.toNat))] rfl rfl rfl ?_
      refine eW_goto rfl ?_
      refine eW_re [(0, .ref 63), (1, vI a), (2, vI (c + 1))] rfl rfl (List.forall_mem_cons.mpr ⟨rfl, List.forall_mem_cons.mpr ⟨rfl, List.forall_mem_cons.mpr ⟨rfl, fun _ h => absurd h List.not_mem_nil⟩⟩⟩) (List.forall_mem_cons.mpr ⟨Or.inl rfl, List.forall_mem_cons.mpr ⟨Or.inl rfl, List.forall_mem_cons.mpr ⟨Or.inl rfl, List.forall_mem_cons.mpr ⟨Or.inr ⟨_, rfl⟩, fun _ h => absurd h List.not_mem_nil⟩⟩⟩⟩) ?_
      refine ih (c + 1) _ _ h3 (by omega) (by omega) hmh3 frh3 (fun i hi => ?_) kk
      by_cases hi2 : (i : Int) = c
      · rw [eUp_eq (by omega), show i = c.toNat by omega]
      · rw [eUp_ne (by omega)]; exact q3 i (by omega)
theorem m_finds {d N : Nat} {h : eHp} {s : Nat → Int} {A : Nat → Nat → Int} (hm : mM h s A) (hN : 75 ≤ N) {G : eGd} (hr : rR G (A 0)) (hG : gOk G) {a : Int} (ha : 0 ≤ a ∧ a ≤ 30) : eSp (d + 2) eM_X7_finds [.ref 63, vI a] N h (eChg none N (fun h' => ∃ V F, mD h s (mUp (mUp A 6 V) 7 F) h' ∧ (∀ i : Nat, (i : Int) < 31 → V i = gv (gDig G) i) ∧ ∀ k : Nat, k < 256 → F k = eB01 (gOpt (gDig G) (gvv (gDig G)) a k))) := by
  refine eSp_of [(0, .ref 63), (1, vI a)] rfl rfl ?_
  refine eW_iconst 1 rfl rfl ?_
  refine eW_istore_n 2 rfl rfl [(2, vI 0), (0, .ref 63), (1, vI a)] rfl rfl ?_
  refine eW_re [(0, .ref 63), (1, vI a), (2, vI 0)] rfl rfl (List.forall_mem_cons.mpr ⟨rfl, List.forall_mem_cons.mpr ⟨rfl, List.forall_mem_cons.mpr ⟨rfl, fun _ h => absurd h List.not_mem_nil⟩⟩⟩) (List.forall_mem_cons.mpr ⟨Or.inl rfl, List.forall_mem_cons.mpr ⟨Or.inl rfl, List.forall_mem_cons.mpr ⟨Or.inl rfl, fun _ h => absurd h List.not_mem_nil⟩⟩⟩) ?_
  refine m_finds_l hN hr hG _ 0 (A 6) (A 7) h (Int.self_le_toNat _) (by omega) (show mM h s (mUp (mUp A 6 (A 6)) 7 (A 7)) from hm) (fun _ _ => rfl) (fun i hi => absurd hi (by omega)) (fun V1 F0 h1 r1 r2 r3 => ?_)
  refine eW_aload_n 44 rfl rfl rfl ?_
  refine eW_iload_n 45 rfl rfl rfl ?_
  refine eW_callVH 48 [.ref 63, vI a] [] [] rfl rfl rfl rfl (Nat.ble_eq_true_of_le (by omega)) r1.1 rfl rfl rfl (m_fills (d := d + 0) (A := mUp (mUp A 6 V1) 7 F0) r1 hN hr hG ha.1 ha.2 (fun i hi => r3 i (by omega))) rfl rfl ?_
  intro h2 fh2
  obtain ⟨F1, f9h2⟩ := fh2
  obtain ⟨f8h2, hF1⟩ := f9h2
  have hmh2 : mM h2 s (mUp (mUp A 6 V1) 7 F1) := f8h2.1
  have frh2 : mFr h h2 := mFr_t r2 f8h2.2
  refine eW_ret rfl rfl ?_
  exact ⟨_, rfl, V1, F1, ⟨hmh2, frh2⟩, r3, hF1⟩
/-- the sum of a garden's pits -/
def gSm (G : eGd) : Int := gXorS (fun i => gvv (gDig G) (G.1 i)) G.2.2.2.1.toNat
theorem gSm_le (G : eGd) : 0 ≤ gSm G ∧ gSm G ≤ 31 := gXorS_le (fun i _ => by have := gvv_30 (D := gDig G) (G.1 i); omega)
theorem m_sum_l {d N k z : Nat} {h : eHp} {s : Nat → Int} {A : Nat → Nat → Int} {V1 F1 : Nat → Int} (hm : mM h s (mUp (mUp A 6 V1) 7 F1)) (hN : 75 ≤ N) {P : eR → Prop} {c : Int} {G : eGd} (hr : rR G (A 0)) (hI : gI c G) (hV1 : ∀ i : Nat, (i : Int) < 31 → V1 i = gv (gDig G) i) : ∀ (m9 : Nat) (a i : Int), G.2.2.2.1 - i ≤ m9 → 0 ≤ i → i ≤ G.2.2.2.1 → a = gXorS (fun j => gvv (gDig G) (G.1 j)) i.toNat → 0 ≤ a ∧ a ≤ 31 → (∀ (a i : Int), a = gSm G → eWp eOx (eEv (d + 2)) eM_X7_sumNow (38, [(0, .ref 63), (1, vI a), (2, vI i)], [], N, h, k, z) P) → eWp eOx (eEv (d + 2)) eM_X7_sumNow (9, [(0, .ref 63), (1, vI a), (2, vI i)], [], N, h, k, z) P := by
  intro m9
  induction m9 with
  | zero =>
    intro a i hm9 q0 q1 q2 q3 kk
    have hG := hI.1
    have hG9 := hG
    obtain ⟨g1, g2, g3, g4⟩ := hG9
    have hmi := hI.2.2.1 i.toNat
    have hx1 := gvv_30 (D := gDig G) (G.1 i.toNat)
    refine eW_iload_n 10 rfl rfl rfl ?_
    refine eW_aload_n 11 rfl rfl rfl ?_
    refine eW_getfield 14 rfl rfl (Nat.ble_eq_true_of_le (by omega)) rfl hm.1 rfl ⟨rfl, fun _ h9 => nomatch h9⟩ ?_
    refine eW_iconst 15 rfl rfl ?_
    refine eW_iaload 16 rfl rfl G.2.2.2.1 (Nat.ble_eq_true_of_le (by omega)) (show h 64 = .inl (0, 62, .inl (eIA (A 0))) from hm.2.1) (by omega) (by omega) (by unfold i32; omega) (congrArg Int32.ofInt hr.1) ?_
    refine eW_icmp_ge 19 rfl rfl (by unfold i32; omega) (by unfold i32; omega) (fun c1 => ?_) (fun c1 => ?_)
    · refine kk _ _ ?_
      rw [q2, show i = G.2.2.2.1 by omega]; rfl
    · refine eW_iload_n 20 rfl rfl rfl ?_
      refine eW_aload_n 21 rfl rfl rfl ?_
      refine eW_getfield 24 rfl rfl (Nat.ble_eq_true_of_le (by omega)) rfl hm.1 rfl ⟨rfl, fun _ h9 => nomatch h9⟩ ?_
      refine eW_aload_n 25 rfl rfl rfl ?_
      refine eW_iload_n 26 rfl rfl rfl ?_
      have hmbq2 := g3 i.toNat (by omega)
      refine eW_callV 29 [.ref 63, vI i] [.ref 70, vI a] [vI (G.1 i.toNat), .ref 70, vI a] rfl rfl rfl rfl (Nat.ble_eq_true_of_le (by omega)) hm.1 rfl rfl rfl (m_marbles (d := d + 1) hm hN hr hG (by omega)) rfl rfl ?_
      refine eW_iaload 30 rfl rfl (gvv (gDig G) (G.1 i.toNat)) (Nat.ble_eq_true_of_le (by omega)) (show h 70 = .inl (0, 31, .inl (eIA V1)) from hm.2.2.2.2.2.2.2.1) (by omega) (by omega) (by unfold i32; omega) (mV_r hV1 (by omega) (by omega) (by omega)) ?_
      refine eW_ixor 31 rfl rfl (gXr a (gvv (gDig G) (G.1 i.toNat))) (gXr_ok (by omega) (gvv_nn _)) ?_
      refine eW_istore_n 32 rfl rfl [(1, vI (gXr a (gvv (gDig G) (G.1 i.toNat)))), (0, .ref 63), (2, vI i)] rfl rfl ?_
      refine eW_iinc 35 rfl rfl [(2, vI (i + 1)), (1, vI (gXr a (gvv (gDig G) (G.1 i.toNat)))), (0, .ref 63)] rfl rfl rfl ?_
      refine eW_goto rfl ?_
      refine eW_re [(0, .ref 63), (1, vI (gXr a (gvv (gDig G) (G.1 i.toNat)))), (2, vI (i + 1))] rfl rfl (List.forall_mem_cons.mpr ⟨rfl, List.forall_mem_cons.mpr ⟨rfl, List.forall_mem_cons.mpr ⟨rfl, fun _ h => absurd h List.not_mem_nil⟩⟩⟩) (List.forall_mem_cons.mpr ⟨Or.inl rfl, List.forall_mem_cons.mpr ⟨Or.inl rfl, List.forall_mem_cons.mpr ⟨Or.inl rfl, fun _ h => absurd h List.not_mem_nil⟩⟩⟩) ?_
      exact absurd hm9 (by omega)
  | succ m9 ih =>
    intro a i hm9 q0 q1 q2 q3 kk
    have hG := hI.1
    have hG9 := hG
    obtain ⟨g1, g2, g3, g4⟩ := hG9
    have hmi := hI.2.2.1 i.toNat
    have hx1 := gvv_30 (D := gDig G) (G.1 i.toNat)
    refine eW_iload_n 10 rfl rfl rfl ?_
    refine eW_aload_n 11 rfl rfl rfl ?_
    refine eW_getfield 14 rfl rfl (Nat.ble_eq_true_of_le (by omega)) rfl hm.1 rfl ⟨rfl, fun _ h9 => nomatch h9⟩ ?_
    refine eW_iconst 15 rfl rfl ?_
    refine eW_iaload 16 rfl rfl G.2.2.2.1 (Nat.ble_eq_true_of_le (by omega)) (show h 64 = .inl (0, 62, .inl (eIA (A 0))) from hm.2.1) (by omega) (by omega) (by unfold i32; omega) (congrArg Int32.ofInt hr.1) ?_
    refine eW_icmp_ge 19 rfl rfl (by unfold i32; omega) (by unfold i32; omega) (fun c1 => ?_) (fun c1 => ?_)
    · refine kk _ _ ?_
      rw [q2, show i = G.2.2.2.1 by omega]; rfl
    · refine eW_iload_n 20 rfl rfl rfl ?_
      refine eW_aload_n 21 rfl rfl rfl ?_
      refine eW_getfield 24 rfl rfl (Nat.ble_eq_true_of_le (by omega)) rfl hm.1 rfl ⟨rfl, fun _ h9 => nomatch h9⟩ ?_
      refine eW_aload_n 25 rfl rfl rfl ?_
      refine eW_iload_n 26 rfl rfl rfl ?_
      have hmbq2 := g3 i.toNat (by omega)
      refine eW_callV 29 [.ref 63, vI i] [.ref 70, vI a] [vI (G.1 i.toNat), .ref 70, vI a] rfl rfl rfl rfl (Nat.ble_eq_true_of_le (by omega)) hm.1 rfl rfl rfl (m_marbles (d := d + 1) hm hN hr hG (by omega)) rfl rfl ?_
      refine eW_iaload 30 rfl rfl (gvv (gDig G) (G.1 i.toNat)) (Nat.ble_eq_true_of_le (by omega)) (show h 70 = .inl (0, 31, .inl (eIA V1)) from hm.2.2.2.2.2.2.2.1) (by omega) (by omega) (by unfold i32; omega) (mV_r hV1 (by omega) (by omega) (by omega)) ?_
      refine eW_ixor 31 rfl rfl (gXr a (gvv (gDig G) (G.1 i.toNat))) (gXr_ok (by omega) (gvv_nn _)) ?_
      refine eW_istore_n 32 rfl rfl [(1, vI (gXr a (gvv (gDig G) (G.1 i.toNat)))), (0, .ref 63), (2, vI i)] rfl rfl ?_
      refine eW_iinc 35 rfl rfl [(2, vI (i + 1)), (1, vI (gXr a (gvv (gDig G) (G.1 i.toNat)))), (0, .ref 63)] rfl rfl rfl ?_
      refine eW_goto rfl ?_
      refine eW_re [(0, .ref 63), (1, vI (gXr a (gvv (gDig G) (G.1 i.toNat)))), (2, vI (i + 1))] rfl rfl (List.forall_mem_cons.mpr ⟨rfl, List.forall_mem_cons.mpr ⟨rfl, List.forall_mem_cons.mpr ⟨rfl, fun _ h => absurd h List.not_mem_nil⟩⟩⟩) (List.forall_mem_cons.mpr ⟨Or.inl rfl, List.forall_mem_cons.mpr ⟨Or.inl rfl, List.forall_mem_cons.mpr ⟨Or.inl rfl, fun _ h => absurd h List.not_mem_nil⟩⟩⟩) ?_
      refine ih _ (i + 1) (by omega) (by omega) (by omega) ?_ (gXr_lt (by omega) (by omega)) kk
      rw [gXorS_succ q0, q2]
theorem m_sumNow {d N : Nat} {h : eHp} {s : Nat → Int} {A : Nat → Nat → Int} (hm : mM h s A) (hN : 75 ≤ N) {c : Int} {G : eGd} (hr : rR G (A 0)) (hI : gI c G) : eSp (d + 3) eM_X7_sumNow [.ref 63] N h (eChg (some (vI (gSm G))) N (fun h' => ∃ V F, mD h s (mUp (mUp A 6 V) 7 F) h' ∧ ∀ i : Nat, (i : Int) < 31 → V i = gv (gDig G) i)) := by
  refine eSp_of [(0, .ref 63)] rfl rfl ?_
  have hG := hI.1
  have hG9 := hG
  obtain ⟨g1, g2, g3, g4⟩ := hG9
  refine eW_aload_n 1 rfl rfl rfl ?_
  refine eW_iconst 2 rfl rfl ?_
  refine eW_callVH 5 [.ref 63, vI 0] [] [] rfl rfl rfl rfl (Nat.ble_eq_true_of_le (by omega)) hm.1 rfl rfl rfl (m_finds (d := d + 0) hm hN hr hG (by omega)) rfl rfl ?_
  intro h1 fh1
  obtain ⟨V1, F1, f9h1⟩ := fh1
  obtain ⟨f8h1, hV1, hF1⟩ := f9h1
  have hmh1 : mM h1 s (mUp (mUp A 6 V1) 7 F1) := f8h1.1
  have frh1 : mFr h h1 := mFr_t (fun _ _ => rfl) f8h1.2
  refine eW_iconst 6 rfl rfl ?_
  refine eW_istore_n 7 rfl rfl [(1, vI 0), (0, .ref 63)] rfl rfl ?_
  refine eW_iconst 8 rfl rfl ?_
  refine eW_istore_n 9 rfl rfl [(2, vI 0), (1, vI 0), (0, .ref 63)] rfl rfl ?_
  refine eW_re [(0, .ref 63), (1, vI 0), (2, vI 0)] rfl rfl (List.forall_mem_cons.mpr ⟨rfl, List.forall_mem_cons.mpr ⟨rfl, List.forall_mem_cons.mpr ⟨rfl, fun _ h => absurd h List.not_mem_nil⟩⟩⟩) (List.forall_mem_cons.mpr ⟨Or.inl rfl, List.forall_mem_cons.mpr ⟨Or.inl rfl, List.forall_mem_cons.mpr ⟨Or.inl rfl, fun _ h => absurd h List.not_mem_nil⟩⟩⟩) ?_
  refine m_sum_l hmh1 hN hr hI hV1 _ 0 0 (Int.self_le_toNat _) (by omega) (by omega) rfl (by omega) (fun a i q => ?_)
  refine eW_iload_n 39 rfl rfl rfl ?_
  refine eW_ret_i rfl rfl (Or.inl rfl) ?_
  rw [q]
  exact ⟨_, rfl, V1, F1, ⟨hmh1, frh1⟩, hV1⟩
