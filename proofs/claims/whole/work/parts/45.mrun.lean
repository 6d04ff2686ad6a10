/-! run -/
theorem mOpQ_V {r : gO} {f : Int → Int} {s : Nat → Int} {A : Nat → Nat → Int} {h : eHp} {N : Nat} {q : eR} (k : ∃ v, mOpQ r f v s A h N q) : ∃ y h', q = (.inl (some (vI y)), N, h', 0, 0) ∧ ∃ s' A', mM h' s' A' ∧ mFr h h' ∧ ∃ v, mOp r f v s A s' A' y := by
  obtain ⟨v, h', s', A', x, e1, e2, e3, e4⟩ := k
  exact ⟨x, h', e1, s', A', e2, e3, v, e4⟩
theorem m_run_l {d N k z : Nat} {h0 : eHp} {s : Nat → Int} {A : Nat → Nat → Int} (hN : 75 ≤ N) {P : eR → Prop} {T : eTx} (hTO : gTO T) {n c y9 : Int} (hw6 : s 6 = 1) (hw5 : 0 ≤ s 5 ∧ s 5 ≤ 8) (h22 : s 22 = n) (hn : 0 ≤ n ∧ n ≤ 30) (hall : oAll T (A 8) n) {RR : gO} : ∀ (m9 : Nat) (i got : Int) (G1 : eGd) (s1 : Nat → Int) (A1 : Nat → Nat → Int) (h : eHp), n - i ≤ m9 → 0 ≤ i ∧ i ≤ n → mM h s1 A1 → mFr h0 h → mSR s A s1 A1 → s1 7 = 0 → rR G1 (A1 0) → gI (c + i) G1 → gRn T (n - i).toNat i G1 = RR → s1 8 = s 8 → s1 9 = s 9 → (∀ (i got : Int) (s1 : Nat → Int) (A1 : Nat → Nat → Int) (h : eHp), mM h s1 A1 → mFr h0 h → mSR s A s1 A1 → ((s1 7 = 0 ∧ i = n ∧ RR.1 = 0 ∧ rR RR.2.2.2 (A1 0) ∧ s1 8 = s 8 ∧ s1 9 = s 9) ∨ (s1 7 = cOf (tKind T (i - 1)) RR.1 ∧ RR.1 ≠ 0 ∧ (1 ≤ i ∧ i ≤ n) ∧ got = 0 ∧ (RR.1 = 3 → s1 8 = RR.2.1 ∧ s1 9 = RR.2.2.1) ∧ (RR.1 ≠ 3 → s1 8 = s 8 ∧ s1 9 = s 9) ∧ ((RR.1 = 3 ∧ s1 7 = oRef (tKind T (i - 1)) ∧ 1 ≤ s1 7 ∧ s1 7 ≤ 3) ∨ (RR.1 ≠ 3 ∧ s1 7 ≠ oRef (tKind T (i - 1)) ∧ 1 ≤ s1 7 ∧ s1 7 ≤ 3)))) → eWp eOx (eEv (d + 5)) eM_X7_run (95, [(0, .ref 63), (1, vI y9), (2, vI i), (3, vI got)], [], N, h, k, z) P) → eWp eOx (eEv (d + 5)) eM_X7_run (66, [(0, .ref 63), (1, vI y9), (2, vI i), (3, vI got)], [], N, h, k, z) P := by
  intro m9
  induction m9 with
  | zero =>
    intro i got G1 s1 A1 h hm9 q0 q1 q2 q3 q4 q5 q6 q7 q8 q9 kk
    have h22a : s1 22 = n := q3.2.2.2.2.2.2.2.2.2.2.2.2.trans h22
    have q8 : s1 8 = s 8 ∧ s1 9 = s 9 := ⟨q8, q9⟩
    refine eW_iload_n 67 rfl rfl rfl ?_
    refine eW_aload_n 68 rfl rfl rfl ?_
    refine eW_getfield 71 rfl rfl (Nat.ble_eq_true_of_le (by omega)) rfl q1.1 rfl ⟨rfl, fun _ h9 => nomatch h9⟩ ?_
    refine eW_icmp_ge 74 rfl rfl (by unfold i32; omega) (by unfold i32; omega) (fun c1 => ?_) (fun c1 => ?_)
    · have hi9 : i = n := by omega
      refine kk i got s1 A1 h q1 q2 q3 (Or.inl ⟨q4, hi9, ?_⟩)
      rw [gRn_0 (by omega)] at q7
      rw [← q7]
      exact ⟨rfl, q5, q8.1, q8.2⟩
    · refine eW_aload_n 75 rfl rfl rfl ?_
      refine eW_getfield 78 rfl rfl (Nat.ble_eq_true_of_le (by omega)) rfl q1.1 rfl ⟨rfl, fun _ h9 => nomatch h9⟩ ?_
      refine eW_if_ne 81 rfl rfl (by unfold i32; omega) (fun c2 => absurd c2 (by omega)) (fun c2 => ?_)
      refine eW_aload_n 82 rfl rfl rfl ?_
      refine eW_iconst 83 rfl rfl ?_
      refine eW_iload_n 84 rfl rfl rfl ?_
      refine eW_imul 85 rfl rfl ?_
      refine eW_callVR 88 [.ref 63, vI (4 * i)] [] rfl rfl rfl rfl (Nat.ble_eq_true_of_le (by omega)) q1.1 rfl rfl rfl (eSp.imp (m_carries (d := d + 0) q1 hN (G := G1) q5 q6 (by rw [q3.2.2.2.2.2.2.2.2.1]; exact Or.inr hw6) (by rw [q3.2.2.2.2.2.2.2.1]; exact hw5) hTO (i := i) (by omega) (by rw [q3.2.2.2.2.2.1]; exact hall i (by omega) (by omega))) (fun _ e => mOpQ_V e)) ?_
      intro x4 h3 fh3
      obtain ⟨sh3, Ah3, hmh3, gh3, oph3⟩ := fh3
      have frh3 := mFr_t q2 gh3
      refine eW_istore_n 89 rfl rfl [(3, vI x4), (0, .ref 63), (1, vI y9), (2, vI i)] rfl rfl ?_
      refine eW_iinc 92 rfl rfl [(2, vI (i + 1)), (3, vI x4), (0, .ref 63), (1, vI y9)] rfl rfl rfl ?_
      refine eW_goto rfl ?_
      refine eW_re [(0, .ref 63), (1, vI y9), (2, vI (i + 1)), (3, vI x4)] rfl rfl (List.forall_mem_cons.mpr ⟨rfl, List.forall_mem_cons.mpr ⟨rfl, List.forall_mem_cons.mpr ⟨rfl, List.forall_mem_cons.mpr ⟨rfl, fun _ h => absurd h List.not_mem_nil⟩⟩⟩⟩) (List.forall_mem_cons.mpr ⟨Or.inl rfl, List.forall_mem_cons.mpr ⟨Or.inl rfl, List.forall_mem_cons.mpr ⟨Or.inl rfl, List.forall_mem_cons.mpr ⟨Or.inl rfl, fun _ h => absurd h List.not_mem_nil⟩⟩⟩⟩) ?_
      exact absurd hm9 (by omega)
  | succ m9 ih =>
    intro i got G1 s1 A1 h hm9 q0 q1 q2 q3 q4 q5 q6 q7 q8 q9 kk
    have h22a : s1 22 = n := q3.2.2.2.2.2.2.2.2.2.2.2.2.trans h22
    have q8 : s1 8 = s 8 ∧ s1 9 = s 9 := ⟨q8, q9⟩
    refine eW_iload_n 67 rfl rfl rfl ?_
    refine eW_aload_n 68 rfl rfl rfl ?_
    refine eW_getfield 71 rfl rfl (Nat.ble_eq_true_of_le (by omega)) rfl q1.1 rfl ⟨rfl, fun _ h9 => nomatch h9⟩ ?_
    refine eW_icmp_ge 74 rfl rfl (by unfold i32; omega) (by unfold i32; omega) (fun c1 => ?_) (fun c1 => ?_)
    · have hi9 : i = n := by omega
      refine kk i got s1 A1 h q1 q2 q3 (Or.inl ⟨q4, hi9, ?_⟩)
      rw [gRn_0 (by omega)] at q7
      rw [← q7]
      exact ⟨rfl, q5, q8.1, q8.2⟩
    · refine eW_aload_n 75 rfl rfl rfl ?_
      refine eW_getfield 78 rfl rfl (Nat.ble_eq_true_of_le (by omega)) rfl q1.1 rfl ⟨rfl, fun _ h9 => nomatch h9⟩ ?_
      refine eW_if_ne 81 rfl rfl (by unfold i32; omega) (fun c2 => absurd c2 (by omega)) (fun c2 => ?_)
      refine eW_aload_n 82 rfl rfl rfl ?_
      refine eW_iconst 83 rfl rfl ?_
      refine eW_iload_n 84 rfl rfl rfl ?_
      refine eW_imul 85 rfl rfl ?_
      refine eW_callVR 88 [.ref 63, vI (4 * i)] [] rfl rfl rfl rfl (Nat.ble_eq_true_of_le (by omega)) q1.1 rfl rfl rfl (eSp.imp (m_carries (d := d + 0) q1 hN (G := G1) q5 q6 (by rw [q3.2.2.2.2.2.2.2.2.1]; exact Or.inr hw6) (by rw [q3.2.2.2.2.2.2.2.1]; exact hw5) hTO (i := i) (by omega) (by rw [q3.2.2.2.2.2.1]; exact hall i (by omega) (by omega))) (fun _ e => mOpQ_V e)) ?_
      intro x4 h3 fh3
      obtain ⟨sh3, Ah3, hmh3, gh3, oph3⟩ := fh3
      have frh3 := mFr_t q2 gh3
      refine eW_istore_n 89 rfl rfl [(3, vI x4), (0, .ref 63), (1, vI y9), (2, vI i)] rfl rfl ?_
      refine eW_iinc 92 rfl rfl [(2, vI (i + 1)), (3, vI x4), (0, .ref 63), (1, vI y9)] rfl rfl rfl ?_
      refine eW_goto rfl ?_
      refine eW_re [(0, .ref 63), (1, vI y9), (2, vI (i + 1)), (3, vI x4)] rfl rfl (List.forall_mem_cons.mpr ⟨rfl, List.forall_mem_cons.mpr ⟨rfl, List.forall_mem_cons.mpr ⟨rfl, List.forall_mem_cons.mpr ⟨rfl, fun _ h => absurd h List.not_mem_nil⟩⟩⟩⟩) (List.forall_mem_cons.mpr ⟨Or.inl rfl, List.forall_mem_cons.mpr ⟨Or.inl rfl, List.forall_mem_cons.mpr ⟨Or.inl rfl, List.forall_mem_cons.mpr ⟨Or.inl rfl, fun _ h => absurd h List.not_mem_nil⟩⟩⟩⟩) ?_
      obtain ⟨v9, oph3⟩ := oph3
      have hsr : mSR s A sh3 Ah3 := by
        obtain ⟨p1, p2, p3, p4, p5, p6, p7, p8, p9, p10, p11, p12, p13⟩ := q3
        have hkp : sh3 5 = s1 5 ∧ Ah3 1 = A1 1 := by
          by_cases he : (oOrd G1 T i).1 = 0
          · have := (oph3.2.2.2.2.1 he).1.1 (p9.trans hw6); exact this
          · have := oph3.2.2.2.2.2.1 he; exact ⟨this.1, this.2.1⟩
        obtain ⟨-, -, -, -, -, -, r2, r3, r4, r5, r8, t4, t6, t11, t12, t14, t22⟩ := oph3
        exact ⟨hkp.2.trans p1, r2.trans p2, r3.trans p3, r4.trans p4, r5.trans p5, r8.trans p6, t4.trans p7, hkp.1.trans p8, t6.trans p9, t11.trans p10, t12.trans p11, t14.trans p12, t22.trans p13⟩
      have hoc := oOrd_c (G := G1) (T := T) (i := i) (hall i (by omega) (by omega)).2.1
      have h7c := oph3.1
      by_cases he : (oOrd G1 T i).1 = 0
      · have e8 := oph3.2.2.2.1 (by rw [he]; decide)
        rw [gRn_t (by omega) he, show n - i - 1 = n - (i + 1) by omega] at q7
        exact ih (i + 1) x4 (oOrd G1 T i).2.2.2 sh3 Ah3 h3 (by omega) (by omega) hmh3 frh3 hsr (by omega) oph3.2.1 (by rw [← Int.add_assoc]; exact gI_oOrd q6 T i) q7 (e8.1.trans q8.1) (e8.2.trans q8.2) kk
      · rw [gRn_f (by omega) he] at q7
        have hg0 : x4 = 0 := (oph3.2.2.2.2.2.1 he).2.2
        have e3 := oph3.2.2.1
        have e4 := oph3.2.2.2.1
        have h22b : sh3 22 = n := hsr.2.2.2.2.2.2.2.2.2.2.2.2.trans h22
        rw [q7] at hoc h7c he e3 e4
        have hEX : ((sh3 7 = 0 ∧ i + 1 = n ∧ RR.1 = 0 ∧ rR RR.2.2.2 (Ah3 0) ∧ sh3 8 = s 8 ∧ sh3 9 = s 9) ∨ (sh3 7 = cOf (tKind T (i + 1 - 1)) RR.1 ∧ RR.1 ≠ 0 ∧ (1 ≤ i + 1 ∧ i + 1 ≤ n) ∧ x4 = 0 ∧ (RR.1 = 3 → sh3 8 = RR.2.1 ∧ sh3 9 = RR.2.2.1) ∧ (RR.1 ≠ 3 → sh3 8 = s 8 ∧ sh3 9 = s 9) ∧ ((RR.1 = 3 ∧ sh3 7 = oRef (tKind T (i + 1 - 1)) ∧ 1 ≤ sh3 7 ∧ sh3 7 ≤ 3) ∨ (RR.1 ≠ 3 ∧ sh3 7 ≠ oRef (tKind T (i + 1 - 1)) ∧ 1 ≤ sh3 7 ∧ sh3 7 ≤ 3)))) := Or.inr ⟨by rw [show i + 1 - 1 = i by omega]; exact h7c, he, by omega, hg0, e3, fun e => by have e2 := e4 e; exact ⟨e2.1.trans q8.1, e2.2.trans q8.2⟩, by rw [show i + 1 - 1 = i by omega, h7c]; omega⟩
        refine eW_iload_n 67 rfl rfl rfl ?_
        refine eW_aload_n 68 rfl rfl rfl ?_
        refine eW_getfield 71 rfl rfl (Nat.ble_eq_true_of_le (by omega)) rfl hmh3.1 rfl ⟨rfl, fun _ h9 => nomatch h9⟩ ?_
        refine eW_icmp_ge 74 rfl rfl (by unfold i32; omega) (by unfold i32; omega) (fun c5 => ?_) (fun c5 => ?_)
        · exact kk (i + 1) _ _ _ _ hmh3 frh3 hsr hEX
        · refine eW_aload_n 75 rfl rfl rfl ?_
          refine eW_getfield 78 rfl rfl (Nat.ble_eq_true_of_le (by omega)) rfl hmh3.1 rfl ⟨rfl, fun _ h9 => nomatch h9⟩ ?_
          refine eW_if_ne 81 rfl rfl (by unfold i32; omega) (fun c6 => ?_) (fun c6 => absurd c6 (by omega))
          exact kk (i + 1) _ _ _ _ hmh3 frh3 hsr hEX
theorem m_run {d N : Nat} {h : eHp} {s : Nat → Int} {A : Nat → Nat → Int} (hm : mM h s A) (hN : 75 ≤ N) {c : Int} {G : eGd} (hr : rR G (A 0)) (hI : gI c G) (hw6 : s 6 = 0) (hw5 : 0 ≤ s 5 ∧ s 5 ≤ 8) {T : eTx} (hTO : gTO T) (hl : s 11 = T.2.2.2.1) (hi : ∀ i : Nat, (i : Int) < T.2.2.2.1 → A 4 i = T.1 i) (hRO : gTO (tRead T).2) : eSp (d + 6) eM_X7_run [.ref 63] N h (mAft (fun s' A' x => (((tRead T).1 = false → s' 7 = 1 ∧ s' 12 = (tRead T).2.2.2.2.2.1 ∧ A' 0 = A 0 ∧ A' 1 = A 1 ∧ s' 5 = s 5 ∧ s' 8 = s 8 ∧ s' 9 = s 9) ∧ ((tRead T).1 = true → s' 12 = -1 ∧ ((gRn (tRead T).2 (tRead T).2.2.2.2.2.2.toNat 0 G).1 = 0 → s' 7 = 0 ∧ x = (tRead T).2.2.2.2.2.2 ∧ rR (gRn (tRead T).2 (tRead T).2.2.2.2.2.2.toNat 0 G).2.2.2 (A' 0) ∧ kU (s 5) (A 1) (A 0) (s' 5) (A' 1) ∧ s' 8 = s 8 ∧ s' 9 = s 9) ∧ ((gRn (tRead T).2 (tRead T).2.2.2.2.2.2.toNat 0 G).1 ≠ 0 → s' 7 = (if (gRn (tRead T).2 (tRead T).2.2.2.2.2.2.toNat 0 G).1 = 3 then 2 else 1) ∧ rR G (A' 0) ∧ s' 5 = s 5 ∧ A' 1 = A 1 ∧ ((gRn (tRead T).2 (tRead T).2.2.2.2.2.2.toNat 0 G).1 = 3 → s' 8 = (gRn (tRead T).2 (tRead T).2.2.2.2.2.2.toNat 0 G).2.1 ∧ s' 9 = (gRn (tRead T).2 (tRead T).2.2.2.2.2.2.toNat 0 G).2.2.1) ∧ ((gRn (tRead T).2 (tRead T).2.2.2.2.2.2.toNat 0 G).1 ≠ 3 → s' 8 = s 8 ∧ s' 9 = s 9)))) ∧ s' 11 = 0 ∧ A' 2 = A 2 ∧ A' 5 = A 5 ∧ s' 4 = s 4 ∧ s' 6 = 0 ∧ s' 14 = s 14) h N) := by
  refine eSp_of [(0, .ref 63)] rfl rfl ?_
  have hpo := hRO.2.1
  refine eW_aload_n 1 rfl rfl rfl ?_
  have hk := eB01_c (tRead T).1
  refine eW_callVH 4 [.ref 63] [] [vI (eB01 (tRead T).1)] rfl rfl rfl rfl (Nat.ble_eq_true_of_le (by omega)) hm.1 rfl rfl rfl (m_isText (d := d + 1) hm hN hTO hl hi) rfl rfl ?_
  intro h1 fh1
  obtain ⟨O9, n9, f9h1⟩ := fh1
  obtain ⟨f8h1, hR9⟩ := f9h1
  have hmh1 : mM h1 (sUp (sUp s 20 ((tRead T).2.2.2.2.2.1)) 22 n9) (mUp A 8 O9) := f8h1.1
  have frh1 : mFr h h1 := mFr_t (fun _ _ => rfl) f8h1.2
  refine eW_istore_n 5 rfl rfl [(1, vI (eB01 (tRead T).1)), (0, .ref 63)] rfl rfl ?_
  refine eW_aload_n 6 rfl rfl rfl ?_
  refine eW_iload_n 7 rfl rfl rfl ?_
  refine eW_if_eq 10 rfl rfl (by unfold i32; omega) (fun c2 => ?_) (fun c2 => ?_)
  · refine eW_aload_n 15 rfl rfl rfl ?_
    refine eW_getfield 18 rfl rfl (Nat.ble_eq_true_of_le (by omega)) rfl (show h1 63 = .inr (11, [.ref 64, .ref 65, .ref 66, .ref 67, vI (s 4), vI (s 5), vI (s 6), vI (s 7), vI (s 8), vI (s 9), .ref 68, vI (s 11), vI (s 12), .ref 69, vI (s 14), .ref 70, .ref 71, vI (s 17), vI (s 18), vI (s 19), vI ((tRead T).2.2.2.2.2.1), .ref 72, vI n9]) from hmh1.1) rfl ⟨rfl, fun _ h9 => nomatch h9⟩ ?_
    refine eW_putfield 21 [.ref 64, .ref 65, .ref 66, .ref 67, vI (s 4), vI (s 5), vI (s 6), vI (s 7), vI (s 8), vI (s 9), .ref 68, vI (s 11), vI ((tRead T).2.2.2.2.2.1), .ref 69, vI (s 14), .ref 70, .ref 71, vI (s 17), vI (s 18), vI (s 19), vI ((tRead T).2.2.2.2.2.1), .ref 72, vI n9] rfl rfl (Nat.ble_eq_true_of_le (by omega)) rfl (show h1 63 = .inr (11, [.ref 64, .ref 65, .ref 66, .ref 67, vI (s 4), vI (s 5), vI (s 6), vI (s 7), vI (s 8), vI (s 9), .ref 68, vI (s 11), vI (s 12), .ref 69, vI (s 14), .ref 70, .ref 71, vI (s 17), vI (s 18), vI (s 19), vI ((tRead T).2.2.2.2.2.1), .ref 72, vI n9]) from hmh1.1) rfl rfl ?_
    intro h3 eh3 oh3
    have hmh3 : mM h3 (sUp (sUp (sUp s 12 ((tRead T).2.2.2.2.2.1)) 20 ((tRead T).2.2.2.2.2.1)) 22 n9) (mUp A 8 O9) := mM_s (s := (sUp (sUp s 20 ((tRead T).2.2.2.2.2.1)) 22 n9)) hmh1 eh3 oh3
    have frh3 : mFr h h3 := mFr_s frh1 oh3
    refine eW_aload_n 22 rfl rfl rfl ?_
    refine eW_iconst 23 rfl rfl ?_
    refine eW_putfield 26 [.ref 64, .ref 65, .ref 66, .ref 67, vI (s 4), vI (s 5), vI (s 6), vI (s 7), vI (s 8), vI (s 9), .ref 68, vI 0, vI ((tRead T).2.2.2.2.2.1), .ref 69, vI (s 14), .ref 70, .ref 71, vI (s 17), vI (s 18), vI (s 19), vI ((tRead T).2.2.2.2.2.1), .ref 72, vI n9] rfl rfl (Nat.ble_eq_true_of_le (by omega)) rfl (show h3 63 = .inr (11, [.ref 64, .ref 65, .ref 66, .ref 67, vI (s 4), vI (s 5), vI (s 6), vI (s 7), vI (s 8), vI (s 9), .ref 68, vI (s 11), vI ((tRead T).2.2.2.2.2.1), .ref 69, vI (s 14), .ref 70, .ref 71, vI (s 17), vI (s 18), vI (s 19), vI ((tRead T).2.2.2.2.2.1), .ref 72, vI n9]) from hmh3.1) rfl rfl ?_
    intro h4 eh4 oh4
    have hmh4 : mM h4 (sUp (sUp (sUp (sUp s 11 0) 12 ((tRead T).2.2.2.2.2.1)) 20 ((tRead T).2.2.2.2.2.1)) 22 n9) (mUp A 8 O9) := mM_s (s := (sUp (sUp (sUp s 12 ((tRead T).2.2.2.2.2.1)) 20 ((tRead T).2.2.2.2.2.1)) 22 n9)) hmh3 eh4 oh4
    have frh4 : mFr h h4 := mFr_s frh3 oh4
    refine eW_aload_n 27 rfl rfl rfl ?_
    refine eW_iload_n 28 rfl rfl rfl ?_
    refine eW_if_eq 31 rfl rfl (by unfold i32; omega) (fun c5 => ?_) (fun c5 => ?_)
    · refine eW_iconst 36 rfl rfl ?_
      have hflq6 := eD_c ((0 : Int) < 1)
      refine eW_callVH 39 [.ref 63, vI 1] [] [vI (eB01 (decide ((0 : Int) < 1)))] rfl rfl rfl rfl (Nat.ble_eq_true_of_le (by omega)) (show h4 63 = .inr (11, [.ref 64, .ref 65, .ref 66, .ref 67, vI (s 4), vI (s 5), vI (s 6), vI (s 7), vI (s 8), vI (s 9), .ref 68, vI 0, vI ((tRead T).2.2.2.2.2.1), .ref 69, vI (s 14), .ref 70, .ref 71, vI (s 17), vI (s 18), vI (s 19), vI ((tRead T).2.2.2.2.2.1), .ref 72, vI n9]) from hmh4.1) rfl rfl rfl (m_fails (d := d + 4) hmh4 hN (by unfold i32; omega)) rfl rfl ?_
      intro h7 fh7
      have hmh7 : mM h7 (sUp (sUp (sUp (sUp (sUp s 7 1) 11 0) 12 ((tRead T).2.2.2.2.2.1)) 20 ((tRead T).2.2.2.2.2.1)) 22 n9) (mUp A 8 O9) := fh7.1
      have frh7 : mFr h h7 := mFr_t frh4 fh7.2
      refine eW_if_eq 42 rfl rfl (by unfold i32; omega) (fun c8 => ?_) (fun c8 => ?_)
      · refine eW_aload_n 45 rfl rfl rfl ?_
        refine eW_getfield 48 rfl rfl (Nat.ble_eq_true_of_le (by omega)) rfl (show h7 63 = .inr (11, [.ref 64, .ref 65, .ref 66, .ref 67, vI (s 4), vI (s 5), vI (s 6), vI 1, vI (s 8), vI (s 9), .ref 68, vI 0, vI ((tRead T).2.2.2.2.2.1), .ref 69, vI (s 14), .ref 70, .ref 71, vI (s 17), vI (s 18), vI (s 19), vI ((tRead T).2.2.2.2.2.1), .ref 72, vI n9]) from hmh7.1) rfl ⟨rfl, fun _ h9 => nomatch h9⟩ ?_
        refine eW_iconst 49 rfl rfl ?_
        refine eW_aload_n 50 rfl rfl rfl ?_
        refine eW_getfield 53 rfl rfl (Nat.ble_eq_true_of_le (by omega)) rfl (show h7 63 = .inr (11, [.ref 64, .ref 65, .ref 66, .ref 67, vI (s 4), vI (s 5), vI (s 6), vI 1, vI (s 8), vI (s 9), .ref 68, vI 0, vI ((tRead T).2.2.2.2.2.1), .ref 69, vI (s 14), .ref 70, .ref 71, vI (s 17), vI (s 18), vI (s 19), vI ((tRead T).2.2.2.2.2.1), .ref 72, vI n9]) from hmh7.1) rfl ⟨rfl, fun _ h9 => nomatch h9⟩ ?_
        refine eW_iconst 54 rfl rfl ?_
        refine eW_callSH 57 [.ref 64, vI 0, .ref 67, vI 0] [] [] rfl rfl rfl (Or.inl rfl) rfl rfl rfl (m_copies (d := d + 4) (N := N) (a := 67) (b := 64) (n0 := 62) (n1 := 62) (F := A 0) (D := A 3) (x := 0) (y := 0) (by omega) (by omega) (by decide) hmh7.2.2.2.2.1 hmh7.2.1 (by omega) (by omega) (by decide)) rfl rfl ?_
        intro h9 fh9
        have hmh9 : mM h9 (sUp (sUp (sUp (sUp (sUp s 7 1) 11 0) 12 ((tRead T).2.2.2.2.2.1)) 20 ((tRead T).2.2.2.2.2.1)) 22 n9) (mUp (mUp A 3 (eCp (A 0) (A 3) 0 0 62)) 8 O9) := mM_3 hmh7 fh9.1 fh9.2 ⟨rfl, rfl, rfl, rfl, rfl, rfl, rfl, rfl⟩
        have frh9 : mFr h h9 := mFr_a frh7 (k := 67) (by decide) fh9.2
        refine eW_aload_n 58 rfl rfl rfl ?_
        refine eW_iconst 59 rfl rfl ?_
        refine eW_putfield 62 [.ref 64, .ref 65, .ref 66, .ref 67, vI (s 4), vI (s 5), vI 1, vI 1, vI (s 8), vI (s 9), .ref 68, vI 0, vI ((tRead T).2.2.2.2.2.1), .ref 69, vI (s 14), .ref 70, .ref 71, vI (s 17), vI (s 18), vI (s 19), vI ((tRead T).2.2.2.2.2.1), .ref 72, vI n9] rfl rfl (Nat.ble_eq_true_of_le (by omega)) rfl (show h9 63 = .inr (11, [.ref 64, .ref 65, .ref 66, .ref 67, vI (s 4), vI (s 5), vI (s 6), vI 1, vI (s 8), vI (s 9), .ref 68, vI 0, vI ((tRead T).2.2.2.2.2.1), .ref 69, vI (s 14), .ref 70, .ref 71, vI (s 17), vI (s 18), vI (s 19), vI ((tRead T).2.2.2.2.2.1), .ref 72, vI n9]) from hmh9.1) rfl rfl ?_
        intro h10 eh10 oh10
        have hmh10 : mM h10 (sUp (sUp (sUp (sUp (sUp (sUp s 6 1) 7 1) 11 0) 12 ((tRead T).2.2.2.2.2.1)) 20 ((tRead T).2.2.2.2.2.1)) 22 n9) (mUp (mUp A 3 (eCp (A 0) (A 3) 0 0 62)) 8 O9) := mM_s (s := (sUp (sUp (sUp (sUp (sUp s 7 1) 11 0) 12 ((tRead T).2.2.2.2.2.1)) 20 ((tRead T).2.2.2.2.2.1)) 22 n9)) hmh9 eh10 oh10
        have frh10 : mFr h h10 := mFr_s frh9 oh10
        refine eW_iconst 63 rfl rfl ?_
        refine eW_istore_n 64 rfl rfl [(2, vI 0), (1, vI (eB01 (tRead T).1)), (0, .ref 63)] rfl rfl ?_
        refine eW_iconst 65 rfl rfl ?_
        refine eW_istore_n 66 rfl rfl [(3, vI 0), (2, vI 0), (1, vI (eB01 (tRead T).1)), (0, .ref 63)] rfl rfl ?_
        refine eW_re [(0, .ref 63), (1, vI (eB01 (tRead T).1)), (2, vI 0), (3, vI 0)] rfl rfl (List.forall_mem_cons.mpr ⟨rfl, List.forall_mem_cons.mpr ⟨rfl, List.forall_mem_cons.mpr ⟨rfl, List.forall_mem_cons.mpr ⟨rfl, fun _ h => absurd h List.not_mem_nil⟩⟩⟩⟩) (List.forall_mem_cons.mpr ⟨Or.inl rfl, List.forall_mem_cons.mpr ⟨Or.inl rfl, List.forall_mem_cons.mpr ⟨Or.inl rfl, List.forall_mem_cons.mpr ⟨Or.inl rfl, fun _ h => absurd h List.not_mem_nil⟩⟩⟩⟩) ?_
        exfalso; omega
      · refine eW_iconst 43 rfl rfl ?_
        refine eW_ret_i rfl rfl (Or.inl rfl) ?_
        have g1 : (tRead T).1 = false := by rcases hk with e | e <;> first | exact e.1 | exact absurd e.2 (by omega)
        exact ⟨_, _, _, _, rfl, hmh7, frh7, ⟨fun _ => ⟨rfl, rfl, rfl, rfl, rfl, rfl, rfl⟩, (fun e => by rw [g1] at e; cases e)⟩, rfl, rfl, rfl, rfl, hw6, rfl⟩
    · refine eW_iconst 32 rfl rfl ?_
      refine eW_goto rfl ?_
      have hflq12 := eD_c ((0 : Int) < 0)
      refine eW_callVH 39 [.ref 63, vI 0] [] [vI (eB01 (decide ((0 : Int) < 0)))] rfl rfl rfl rfl (Nat.ble_eq_true_of_le (by omega)) (show h4 63 = .inr (11, [.ref 64, .ref 65, .ref 66, .ref 67, vI (s 4), vI (s 5), vI (s 6), vI (s 7), vI (s 8), vI (s 9), .ref 68, vI 0, vI ((tRead T).2.2.2.2.2.1), .ref 69, vI (s 14), .ref 70, .ref 71, vI (s 17), vI (s 18), vI (s 19), vI ((tRead T).2.2.2.2.2.1), .ref 72, vI n9]) from hmh4.1) rfl rfl rfl (m_fails (d := d + 4) hmh4 hN (by unfold i32; omega)) rfl rfl ?_
      intro h13 fh13
      have hmh13 : mM h13 (sUp (sUp (sUp (sUp (sUp s 7 0) 11 0) 12 ((tRead T).2.2.2.2.2.1)) 20 ((tRead T).2.2.2.2.2.1)) 22 n9) (mUp A 8 O9) := fh13.1
      have frh13 : mFr h h13 := mFr_t frh4 fh13.2
      refine eW_if_eq 42 rfl rfl (by unfold i32; omega) (fun c14 => ?_) (fun c14 => ?_)
      · refine eW_aload_n 45 rfl rfl rfl ?_
        refine eW_getfield 48 rfl rfl (Nat.ble_eq_true_of_le (by omega)) rfl (show h13 63 = .inr (11, [.ref 64, .ref 65, .ref 66, .ref 67, vI (s 4), vI (s 5), vI (s 6), vI 0, vI (s 8), vI (s 9), .ref 68, vI 0, vI ((tRead T).2.2.2.2.2.1), .ref 69, vI (s 14), .ref 70, .ref 71, vI (s 17), vI (s 18), vI (s 19), vI ((tRead T).2.2.2.2.2.1), .ref 72, vI n9]) from hmh13.1) rfl ⟨rfl, fun _ h9 => nomatch h9⟩ ?_
        refine eW_iconst 49 rfl rfl ?_
        refine eW_aload_n 50 rfl rfl rfl ?_
        refine eW_getfield 53 rfl rfl (Nat.ble_eq_true_of_le (by omega)) rfl (show h13 63 = .inr (11, [.ref 64, .ref 65, .ref 66, .ref 67, vI (s 4), vI (s 5), vI (s 6), vI 0, vI (s 8), vI (s 9), .ref 68, vI 0, vI ((tRead T).2.2.2.2.2.1), .ref 69, vI (s 14), .ref 70, .ref 71, vI (s 17), vI (s 18), vI (s 19), vI ((tRead T).2.2.2.2.2.1), .ref 72, vI n9]) from hmh13.1) rfl ⟨rfl, fun _ h9 => nomatch h9⟩ ?_
        refine eW_iconst 54 rfl rfl ?_
        refine eW_callSH 57 [.ref 64, vI 0, .ref 67, vI 0] [] [] rfl rfl rfl (Or.inl rfl) rfl rfl rfl (m_copies (d := d + 4) (N := N) (a := 67) (b := 64) (n0 := 62) (n1 := 62) (F := A 0) (D := A 3) (x := 0) (y := 0) (by omega) (by omega) (by decide) hmh13.2.2.2.2.1 hmh13.2.1 (by omega) (by omega) (by decide)) rfl rfl ?_
        intro h15 fh15
        have hmh15 : mM h15 (sUp (sUp (sUp (sUp (sUp s 7 0) 11 0) 12 ((tRead T).2.2.2.2.2.1)) 20 ((tRead T).2.2.2.2.2.1)) 22 n9) (mUp (mUp A 3 (eCp (A 0) (A 3) 0 0 62)) 8 O9) := mM_3 hmh13 fh15.1 fh15.2 ⟨rfl, rfl, rfl, rfl, rfl, rfl, rfl, rfl⟩
        have frh15 : mFr h h15 := mFr_a frh13 (k := 67) (by decide) fh15.2
        refine eW_aload_n 58 rfl rfl rfl ?_
        refine eW_iconst 59 rfl rfl ?_
        refine eW_putfield 62 [.ref 64, .ref 65, .ref 66, .ref 67, vI (s 4), vI (s 5), vI 1, vI 0, vI (s 8), vI (s 9), .ref 68, vI 0, vI ((tRead T).2.2.2.2.2.1), .ref 69, vI (s 14), .ref 70, .ref 71, vI (s 17), vI (s 18), vI (s 19), vI ((tRead T).2.2.2.2.2.1), .ref 72, vI n9] rfl rfl (Nat.ble_eq_true_of_le (by omega)) rfl (show h15 63 = .inr (11, [.ref 64, .ref 65, .ref 66, .ref 67, vI (s 4), vI (s 5), vI (s 6), vI 0, vI (s 8), vI (s 9), .ref 68, vI 0, vI ((tRead T).2.2.2.2.2.1), .ref 69, vI (s 14), .ref 70, .ref 71, vI (s 17), vI (s 18), vI (s 19), vI ((tRead T).2.2.2.2.2.1), .ref 72, vI n9]) from hmh15.1) rfl rfl ?_
        intro h16 eh16 oh16
        have hmh16 : mM h16 (sUp (sUp (sUp (sUp (sUp (sUp s 6 1) 7 0) 11 0) 12 ((tRead T).2.2.2.2.2.1)) 20 ((tRead T).2.2.2.2.2.1)) 22 n9) (mUp (mUp A 3 (eCp (A 0) (A 3) 0 0 62)) 8 O9) := mM_s (s := (sUp (sUp (sUp (sUp (sUp s 7 0) 11 0) 12 ((tRead T).2.2.2.2.2.1)) 20 ((tRead T).2.2.2.2.2.1)) 22 n9)) hmh15 eh16 oh16
        have frh16 : mFr h h16 := mFr_s frh15 oh16
        refine eW_iconst 63 rfl rfl ?_
        refine eW_istore_n 64 rfl rfl [(2, vI 0), (1, vI (eB01 (tRead T).1)), (0, .ref 63)] rfl rfl ?_
        refine eW_iconst 65 rfl rfl ?_
        refine eW_istore_n 66 rfl rfl [(3, vI 0), (2, vI 0), (1, vI (eB01 (tRead T).1)), (0, .ref 63)] rfl rfl ?_
        refine eW_re [(0, .ref 63), (1, vI (eB01 (tRead T).1)), (2, vI 0), (3, vI 0)] rfl rfl (List.forall_mem_cons.mpr ⟨rfl, List.forall_mem_cons.mpr ⟨rfl, List.forall_mem_cons.mpr ⟨rfl, List.forall_mem_cons.mpr ⟨rfl, fun _ h => absurd h List.not_mem_nil⟩⟩⟩⟩) (List.forall_mem_cons.mpr ⟨Or.inl rfl, List.forall_mem_cons.mpr ⟨Or.inl rfl, List.forall_mem_cons.mpr ⟨Or.inl rfl, List.forall_mem_cons.mpr ⟨Or.inl rfl, fun _ h => absurd h List.not_mem_nil⟩⟩⟩⟩) ?_
        exfalso; omega
      · refine eW_iconst 43 rfl rfl ?_
        refine eW_ret_i rfl rfl (Or.inl rfl) ?_
        exfalso; omega
  · refine eW_iconst 11 rfl rfl ?_
    refine eW_goto rfl ?_
    refine eW_putfield 21 [.ref 64, .ref 65, .ref 66, .ref 67, vI (s 4), vI (s 5), vI (s 6), vI (s 7), vI (s 8), vI (s 9), .ref 68, vI (s 11), vI (-1), .ref 69, vI (s 14), .ref 70, .ref 71, vI (s 17), vI (s 18), vI (s 19), vI ((tRead T).2.2.2.2.2.1), .ref 72, vI n9] rfl rfl (Nat.ble_eq_true_of_le (by omega)) rfl (show h1 63 = .inr (11, [.ref 64, .ref 65, .ref 66, .ref 67, vI (s 4), vI (s 5), vI (s 6), vI (s 7), vI (s 8), vI (s 9), .ref 68, vI (s 11), vI (s 12), .ref 69, vI (s 14), .ref 70, .ref 71, vI (s 17), vI (s 18), vI (s 19), vI ((tRead T).2.2.2.2.2.1), .ref 72, vI n9]) from hmh1.1) rfl rfl ?_
    intro h18 eh18 oh18
    have hmh18 : mM h18 (sUp (sUp (sUp s 12 (-1)) 20 ((tRead T).2.2.2.2.2.1)) 22 n9) (mUp A 8 O9) := mM_s (s := (sUp (sUp s 20 ((tRead T).2.2.2.2.2.1)) 22 n9)) hmh1 eh18 oh18
    have frh18 : mFr h h18 := mFr_s frh1 oh18
    refine eW_aload_n 22 rfl rfl rfl ?_
    refine eW_iconst 23 rfl rfl ?_
    refine eW_putfield 26 [.ref 64, .ref 65, .ref 66, .ref 67, vI (s 4), vI (s 5), vI (s 6), vI (s 7), vI (s 8), vI (s 9), .ref 68, vI 0, vI (-1), .ref 69, vI (s 14), .ref 70, .ref 71, vI (s 17), vI (s 18), vI (s 19), vI ((tRead T).2.2.2.2.2.1), .ref 72, vI n9] rfl rfl (Nat.ble_eq_true_of_le (by omega)) rfl (show h18 63 = .inr (11, [.ref 64, .ref 65, .ref 66, .ref 67, vI (s 4), vI (s 5), vI (s 6), vI (s 7), vI (s 8), vI (s 9), .ref 68, vI (s 11), vI (-1), .ref 69, vI (s 14), .ref 70, .ref 71, vI (s 17), vI (s 18), vI (s 19), vI ((tRead T).2.2.2.2.2.1), .ref 72, vI n9]) from hmh18.1) rfl rfl ?_
    intro h19 eh19 oh19
    have hmh19 : mM h19 (sUp (sUp (sUp (sUp s 11 0) 12 (-1)) 20 ((tRead T).2.2.2.2.2.1)) 22 n9) (mUp A 8 O9) := mM_s (s := (sUp (sUp (sUp s 12 (-1)) 20 ((tRead T).2.2.2.2.2.1)) 22 n9)) hmh18 eh19 oh19
    have frh19 : mFr h h19 := mFr_s frh18 oh19
    refine eW_aload_n 27 rfl rfl rfl ?_
    refine eW_iload_n 28 rfl rfl rfl ?_
    refine eW_if_eq 31 rfl rfl (by unfold i32; omega) (fun c20 => ?_) (fun c20 => ?_)
    · refine eW_iconst 36 rfl rfl ?_
      have hflq21 := eD_c ((0 : Int) < 1)
      refine eW_callVH 39 [.ref 63, vI 1] [] [vI (eB01 (decide ((0 : Int) < 1)))] rfl rfl rfl rfl (Nat.ble_eq_true_of_le (by omega)) (show h19 63 = .inr (11, [.ref 64, .ref 65, .ref 66, .ref 67, vI (s 4), vI (s 5), vI (s 6), vI (s 7), vI (s 8), vI (s 9), .ref 68, vI 0, vI (-1), .ref 69, vI (s 14), .ref 70, .ref 71, vI (s 17), vI (s 18), vI (s 19), vI ((tRead T).2.2.2.2.2.1), .ref 72, vI n9]) from hmh19.1) rfl rfl rfl (m_fails (d := d + 4) hmh19 hN (by unfold i32; omega)) rfl rfl ?_
      intro h22 fh22
      have hmh22 : mM h22 (sUp (sUp (sUp (sUp (sUp s 7 1) 11 0) 12 (-1)) 20 ((tRead T).2.2.2.2.2.1)) 22 n9) (mUp A 8 O9) := fh22.1
      have frh22 : mFr h h22 := mFr_t frh19 fh22.2
      refine eW_if_eq 42 rfl rfl (by unfold i32; omega) (fun c23 => ?_) (fun c23 => ?_)
      · refine eW_aload_n 45 rfl rfl rfl ?_
        refine eW_getfield 48 rfl rfl (Nat.ble_eq_true_of_le (by omega)) rfl (show h22 63 = .inr (11, [.ref 64, .ref 65, .ref 66, .ref 67, vI (s 4), vI (s 5), vI (s 6), vI 1, vI (s 8), vI (s 9), .ref 68, vI 0, vI (-1), .ref 69, vI (s 14), .ref 70, .ref 71, vI (s 17), vI (s 18), vI (s 19), vI ((tRead T).2.2.2.2.2.1), .ref 72, vI n9]) from hmh22.1) rfl ⟨rfl, fun _ h9 => nomatch h9⟩ ?_
        refine eW_iconst 49 rfl rfl ?_
        refine eW_aload_n 50 rfl rfl rfl ?_
        refine eW_getfield 53 rfl rfl (Nat.ble_eq_true_of_le (by omega)) rfl (show h22 63 = .inr (11, [.ref 64, .ref 65, .ref 66, .ref 67, vI (s 4), vI (s 5), vI (s 6), vI 1, vI (s 8), vI (s 9), .ref 68, vI 0, vI (-1), .ref 69, vI (s 14), .ref 70, .ref 71, vI (s 17), vI (s 18), vI (s 19), vI ((tRead T).2.2.2.2.2.1), .ref 72, vI n9]) from hmh22.1) rfl ⟨rfl, fun _ h9 => nomatch h9⟩ ?_
        refine eW_iconst 54 rfl rfl ?_
        refine eW_callSH 57 [.ref 64, vI 0, .ref 67, vI 0] [] [] rfl rfl rfl (Or.inl rfl) rfl rfl rfl (m_copies (d := d + 4) (N := N) (a := 67) (b := 64) (n0 := 62) (n1 := 62) (F := A 0) (D := A 3) (x := 0) (y := 0) (by omega) (by omega) (by decide) hmh22.2.2.2.2.1 hmh22.2.1 (by omega) (by omega) (by decide)) rfl rfl ?_
        intro h24 fh24
        have hmh24 : mM h24 (sUp (sUp (sUp (sUp (sUp s 7 1) 11 0) 12 (-1)) 20 ((tRead T).2.2.2.2.2.1)) 22 n9) (mUp (mUp A 3 (eCp (A 0) (A 3) 0 0 62)) 8 O9) := mM_3 hmh22 fh24.1 fh24.2 ⟨rfl, rfl, rfl, rfl, rfl, rfl, rfl, rfl⟩
        have frh24 : mFr h h24 := mFr_a frh22 (k := 67) (by decide) fh24.2
        refine eW_aload_n 58 rfl rfl rfl ?_
        refine eW_iconst 59 rfl rfl ?_
        refine eW_putfield 62 [.ref 64, .ref 65, .ref 66, .ref 67, vI (s 4), vI (s 5), vI 1, vI 1, vI (s 8), vI (s 9), .ref 68, vI 0, vI (-1), .ref 69, vI (s 14), .ref 70, .ref 71, vI (s 17), vI (s 18), vI (s 19), vI ((tRead T).2.2.2.2.2.1), .ref 72, vI n9] rfl rfl (Nat.ble_eq_true_of_le (by omega)) rfl (show h24 63 = .inr (11, [.ref 64, .ref 65, .ref 66, .ref 67, vI (s 4), vI (s 5), vI (s 6), vI 1, vI (s 8), vI (s 9), .ref 68, vI 0, vI (-1), .ref 69, vI (s 14), .ref 70, .ref 71, vI (s 17), vI (s 18), vI (s 19), vI ((tRead T).2.2.2.2.2.1), .ref 72, vI n9]) from hmh24.1) rfl rfl ?_
        intro h25 eh25 oh25
        have hmh25 : mM h25 (sUp (sUp (sUp (sUp (sUp (sUp s 6 1) 7 1) 11 0) 12 (-1)) 20 ((tRead T).2.2.2.2.2.1)) 22 n9) (mUp (mUp A 3 (eCp (A 0) (A 3) 0 0 62)) 8 O9) := mM_s (s := (sUp (sUp (sUp (sUp (sUp s 7 1) 11 0) 12 (-1)) 20 ((tRead T).2.2.2.2.2.1)) 22 n9)) hmh24 eh25 oh25
        have frh25 : mFr h h25 := mFr_s frh24 oh25
        refine eW_iconst 63 rfl rfl ?_
        refine eW_istore_n 64 rfl rfl [(2, vI 0), (1, vI (eB01 (tRead T).1)), (0, .ref 63)] rfl rfl ?_
        refine eW_iconst 65 rfl rfl ?_
        refine eW_istore_n 66 rfl rfl [(3, vI 0), (2, vI 0), (1, vI (eB01 (tRead T).1)), (0, .ref 63)] rfl rfl ?_
        refine eW_re [(0, .ref 63), (1, vI (eB01 (tRead T).1)), (2, vI 0), (3, vI 0)] rfl rfl (List.forall_mem_cons.mpr ⟨rfl, List.forall_mem_cons.mpr ⟨rfl, List.forall_mem_cons.mpr ⟨rfl, List.forall_mem_cons.mpr ⟨rfl, fun _ h => absurd h List.not_mem_nil⟩⟩⟩⟩) (List.forall_mem_cons.mpr ⟨Or.inl rfl, List.forall_mem_cons.mpr ⟨Or.inl rfl, List.forall_mem_cons.mpr ⟨Or.inl rfl, List.forall_mem_cons.mpr ⟨Or.inl rfl, fun _ h => absurd h List.not_mem_nil⟩⟩⟩⟩) ?_
        exfalso; omega
      · refine eW_iconst 43 rfl rfl ?_
        refine eW_ret_i rfl rfl (Or.inl rfl) ?_
        have g1 : (tRead T).1 = false := by rcases hk with e | e <;> first | exact e.1 | exact absurd e.2 (by omega)
        exfalso; omega
    · refine eW_iconst 32 rfl rfl ?_
      refine eW_goto rfl ?_
      have hflq27 := eD_c ((0 : Int) < 0)
      refine eW_callVH 39 [.ref 63, vI 0] [] [vI (eB01 (decide ((0 : Int) < 0)))] rfl rfl rfl rfl (Nat.ble_eq_true_of_le (by omega)) (show h19 63 = .inr (11, [.ref 64, .ref 65, .ref 66, .ref 67, vI (s 4), vI (s 5), vI (s 6), vI (s 7), vI (s 8), vI (s 9), .ref 68, vI 0, vI (-1), .ref 69, vI (s 14), .ref 70, .ref 71, vI (s 17), vI (s 18), vI (s 19), vI ((tRead T).2.2.2.2.2.1), .ref 72, vI n9]) from hmh19.1) rfl rfl rfl (m_fails (d := d + 4) hmh19 hN (by unfold i32; omega)) rfl rfl ?_
      intro h28 fh28
      have hmh28 : mM h28 (sUp (sUp (sUp (sUp (sUp s 7 0) 11 0) 12 (-1)) 20 ((tRead T).2.2.2.2.2.1)) 22 n9) (mUp A 8 O9) := fh28.1
      have frh28 : mFr h h28 := mFr_t frh19 fh28.2
      refine eW_if_eq 42 rfl rfl (by unfold i32; omega) (fun c29 => ?_) (fun c29 => ?_)
      · refine eW_aload_n 45 rfl rfl rfl ?_
        refine eW_getfield 48 rfl rfl (Nat.ble_eq_true_of_le (by omega)) rfl (show h28 63 = .inr (11, [.ref 64, .ref 65, .ref 66, .ref 67, vI (s 4), vI (s 5), vI (s 6), vI 0, vI (s 8), vI (s 9), .ref 68, vI 0, vI (-1), .ref 69, vI (s 14), .ref 70, .ref 71, vI (s 17), vI (s 18), vI (s 19), vI ((tRead T).2.2.2.2.2.1), .ref 72, vI n9]) from hmh28.1) rfl ⟨rfl, fun _ h9 => nomatch h9⟩ ?_
        refine eW_iconst 49 rfl rfl ?_
        refine eW_aload_n 50 rfl rfl rfl ?_
        refine eW_getfield 53 rfl rfl (Nat.ble_eq_true_of_le (by omega)) rfl (show h28 63 = .inr (11, [.ref 64, .ref 65, .ref 66, .ref 67, vI (s 4), vI (s 5), vI (s 6), vI 0, vI (s 8), vI (s 9), .ref 68, vI 0, vI (-1), .ref 69, vI (s 14), .ref 70, .ref 71, vI (s 17), vI (s 18), vI (s 19), vI ((tRead T).2.2.2.2.2.1), .ref 72, vI n9]) from hmh28.1) rfl ⟨rfl, fun _ h9 => nomatch h9⟩ ?_
        refine eW_iconst 54 rfl rfl ?_
        refine eW_callSH 57 [.ref 64, vI 0, .ref 67, vI 0] [] [] rfl rfl rfl (Or.inl rfl) rfl rfl rfl (m_copies (d := d + 4) (N := N) (a := 67) (b := 64) (n0 := 62) (n1 := 62) (F := A 0) (D := A 3) (x := 0) (y := 0) (by omega) (by omega) (by decide) hmh28.2.2.2.2.1 hmh28.2.1 (by omega) (by omega) (by decide)) rfl rfl ?_
        intro h30 fh30
        have hmh30 : mM h30 (sUp (sUp (sUp (sUp (sUp s 7 0) 11 0) 12 (-1)) 20 ((tRead T).2.2.2.2.2.1)) 22 n9) (mUp (mUp A 3 (eCp (A 0) (A 3) 0 0 62)) 8 O9) := mM_3 hmh28 fh30.1 fh30.2 ⟨rfl, rfl, rfl, rfl, rfl, rfl, rfl, rfl⟩
        have frh30 : mFr h h30 := mFr_a frh28 (k := 67) (by decide) fh30.2
        refine eW_aload_n 58 rfl rfl rfl ?_
        refine eW_iconst 59 rfl rfl ?_
        refine eW_putfield 62 [.ref 64, .ref 65, .ref 66, .ref 67, vI (s 4), vI (s 5), vI 1, vI 0, vI (s 8), vI (s 9), .ref 68, vI 0, vI (-1), .ref 69, vI (s 14), .ref 70, .ref 71, vI (s 17), vI (s 18), vI (s 19), vI ((tRead T).2.2.2.2.2.1), .ref 72, vI n9] rfl rfl (Nat.ble_eq_true_of_le (by omega)) rfl (show h30 63 = .inr (11, [.ref 64, .ref 65, .ref 66, .ref 67, vI (s 4), vI (s 5), vI (s 6), vI 0, vI (s 8), vI (s 9), .ref 68, vI 0, vI (-1), .ref 69, vI (s 14), .ref 70, .ref 71, vI (s 17), vI (s 18), vI (s 19), vI ((tRead T).2.2.2.2.2.1), .ref 72, vI n9]) from hmh30.1) rfl rfl ?_
        intro h31 eh31 oh31
        have hmh31 : mM h31 (sUp (sUp (sUp (sUp (sUp (sUp s 6 1) 7 0) 11 0) 12 (-1)) 20 ((tRead T).2.2.2.2.2.1)) 22 n9) (mUp (mUp A 3 (eCp (A 0) (A 3) 0 0 62)) 8 O9) := mM_s (s := (sUp (sUp (sUp (sUp (sUp s 7 0) 11 0) 12 (-1)) 20 ((tRead T).2.2.2.2.2.1)) 22 n9)) hmh30 eh31 oh31
        have frh31 : mFr h h31 := mFr_s frh30 oh31
        refine eW_iconst 63 rfl rfl ?_
        refine eW_istore_n 64 rfl rfl [(2, vI 0), (1, vI (eB01 (tRead T).1)), (0, .ref 63)] rfl rfl ?_
        refine eW_iconst 65 rfl rfl ?_
        refine eW_istore_n 66 rfl rfl [(3, vI 0), (2, vI 0), (1, vI (eB01 (tRead T).1)), (0, .ref 63)] rfl rfl ?_
        refine eW_re [(0, .ref 63), (1, vI (eB01 (tRead T).1)), (2, vI 0), (3, vI 0)] rfl rfl (List.forall_mem_cons.mpr ⟨rfl, List.forall_mem_cons.mpr ⟨rfl, List.forall_mem_cons.mpr ⟨rfl, List.forall_mem_cons.mpr ⟨rfl, fun _ h => absurd h List.not_mem_nil⟩⟩⟩⟩) (List.forall_mem_cons.mpr ⟨Or.inl rfl, List.forall_mem_cons.mpr ⟨Or.inl rfl, List.forall_mem_cons.mpr ⟨Or.inl rfl, List.forall_mem_cons.mpr ⟨Or.inl rfl, fun _ h => absurd h List.not_mem_nil⟩⟩⟩⟩) ?_
        have g1 : (tRead T).1 = true := by rcases hk with e | e <;> first | exact e.1 | exact absurd e.2 (by omega)
        obtain ⟨hn9, hn30, hn0, hall⟩ := hR9 g1
        refine m_run_l (h0 := h) (s := (sUp (sUp (sUp (sUp (sUp (sUp s 6 1) 7 0) 11 0) 12 (-1)) 20 ((tRead T).2.2.2.2.2.1)) 22 n9)) (A := (mUp (mUp A 3 (eCp (A 0) (A 3) 0 0 62)) 8 O9)) hN (T := (tRead T).2) hRO (n := n9) (c := c) (RR := gRn (tRead T).2 (tRead T).2.2.2.2.2.2.toNat 0 G) rfl hw5 rfl ⟨hn0, hn30⟩ hall _ 0 0 G _ _ h31 (Int.self_le_toNat _) (by omega) hmh31 frh31 ⟨rfl, rfl, rfl, rfl, rfl, rfl, rfl, rfl, rfl, rfl, rfl, rfl, rfl⟩ rfl hr (by rw [Int.add_zero]; exact hI) (by rw [Int.sub_zero, hn9]) rfl rfl (fun i2 got2 s2 A2 h32 r1 r2 r3 r4 => ?_)
        obtain ⟨p1, p2, p3, p4, p5, p6, p7, p8, p9, p10, p11, p12, p13⟩ := r3
        have hb1 : A2 3 = eCp (A 0) (A 3) 0 0 62 := p3
        have hcp : ∀ j, j < 62 → eCp (A 0) (A 3) 0 0 62 j = A 0 j := fun j hj => by rw [eCp_in (by omega)]; congr 1; omega
        refine eW_aload_n 96 rfl rfl rfl ?_
        refine eW_iconst 97 rfl rfl ?_
        refine eW_putfield 100 [.ref 64, .ref 65, .ref 66, .ref 67, vI (s2 4), vI (s2 5), vI 0, vI (s2 7), vI (s2 8), vI (s2 9), .ref 68, vI (s2 11), vI (s2 12), .ref 69, vI (s2 14), .ref 70, .ref 71, vI (s2 17), vI (s2 18), vI (s2 19), vI (s2 20), .ref 72, vI (s2 22)] rfl rfl (Nat.ble_eq_true_of_le (by omega)) rfl r1.1 rfl rfl ?_
        intro h33 eh33 oh33
        have hmh33 : mM h33 (sUp s2 6 0) A2 := mM_s (s := s2) r1 eh33 oh33
        have frh33 : mFr h h33 := mFr_s r2 oh33
        have hcr : 0 ≤ s2 7 ∧ s2 7 ≤ 3 := by rcases r4 with r4 | r4 <;> omega
        refine eW_aload_n 101 rfl rfl rfl ?_
        refine eW_getfield 104 rfl rfl (Nat.ble_eq_true_of_le (by omega)) rfl (show h33 63 = .inr (11, [.ref 64, .ref 65, .ref 66, .ref 67, vI (s2 4), vI (s2 5), vI 0, vI (s2 7), vI (s2 8), vI (s2 9), .ref 68, vI (s2 11), vI (s2 12), .ref 69, vI (s2 14), .ref 70, .ref 71, vI (s2 17), vI (s2 18), vI (s2 19), vI (s2 20), .ref 72, vI (s2 22)]) from hmh33.1) rfl ⟨rfl, fun _ h9 => nomatch h9⟩ ?_
        refine eW_if_le 107 rfl rfl (by unfold i32; omega) (fun c34 => ?_) (fun c34 => ?_)
        · refine eW_aload_n 182 rfl rfl rfl ?_
          refine eW_aload_n 183 rfl rfl rfl ?_
          refine eW_getfield 186 rfl rfl (Nat.ble_eq_true_of_le (by omega)) rfl (show h33 63 = .inr (11, [.ref 64, .ref 65, .ref 66, .ref 67, vI (s2 4), vI (s2 5), vI 0, vI (s2 7), vI (s2 8), vI (s2 9), .ref 68, vI (s2 11), vI (s2 12), .ref 69, vI (s2 14), .ref 70, .ref 71, vI (s2 17), vI (s2 18), vI (s2 19), vI (s2 20), .ref 72, vI (s2 22)]) from hmh33.1) rfl ⟨rfl, fun _ h9 => nomatch h9⟩ ?_
          refine eW_callVH 189 [.ref 63, .ref 67] [] [] rfl rfl rfl rfl (Nat.ble_eq_true_of_le (by omega)) (show h33 63 = .inr (11, [.ref 64, .ref 65, .ref 66, .ref 67, vI (s2 4), vI (s2 5), vI 0, vI (s2 7), vI (s2 8), vI (s2 9), .ref 68, vI (s2 11), vI (s2 12), .ref 69, vI (s2 14), .ref 70, .ref 71, vI (s2 17), vI (s2 18), vI (s2 19), vI (s2 20), .ref 72, vI (s2 22)]) from hmh33.1) rfl rfl rfl (m_keepsB (d := d + 3) hmh33 hN (Or.inl rfl) (by show 0 ≤ s2 5 ∧ s2 5 ≤ 8; rw [p8]; exact hw5)) rfl rfl ?_
          intro h35 fh35
          obtain ⟨s5, K5, f9h35⟩ := fh35
          obtain ⟨f8h35, hkp⟩ := f9h35
          have hmh35 : mM h35 (sUp (sUp (sUp s2 5 s5) 6 0) 7 0) (mUp A2 1 K5) := f8h35.1
          have frh35 : mFr h h35 := mFr_t frh33 f8h35.2
          refine eW_aload_n 190 rfl rfl rfl ?_
          refine eW_getfield 193 rfl rfl (Nat.ble_eq_true_of_le (by omega)) rfl (show h35 63 = .inr (11, [.ref 64, .ref 65, .ref 66, .ref 67, vI (s2 4), vI s5, vI 0, vI 0, vI (s2 8), vI (s2 9), .ref 68, vI (s2 11), vI (s2 12), .ref 69, vI (s2 14), .ref 70, .ref 71, vI (s2 17), vI (s2 18), vI (s2 19), vI (s2 20), .ref 72, vI (s2 22)]) from hmh35.1) rfl ⟨rfl, fun _ h9 => nomatch h9⟩ ?_
          refine eW_ret_i rfl rfl (Or.inl rfl) ?_
          rcases r4 with r4 | r4
          · obtain ⟨v1, v2, v3, v4, v5, v6⟩ := r4
            refine ⟨_, _, _, _, rfl, hmh35, frh35, ⟨(fun e => by rw [g1] at e; cases e), fun _ => ⟨p11, fun _ => ⟨rfl, ?_, v4, ?_, v5, v6⟩, fun e => absurd v3 e⟩⟩, p10, p2, p5, p7, rfl, p12⟩
            · show s2 22 = _; rw [p13]; exact hn9
            · have p8b : s2 5 = s 5 := p8
              have p1b : A2 1 = A 1 := p1
              show kU (s 5) (A 1) (A 0) s5 K5
              rw [← p8b, ← p1b]
              exact kU_congr (R := A2 3) (fun j hj => by rw [hb1]; exact hcp j hj) (hkp.2 rfl)
          · exfalso; omega
        · have hi2 : 1 ≤ i2 ∧ i2 ≤ n9 := by rcases r4 with r4 | r4 <;> omega
          have hgt : got2 = 0 := by rcases r4 with r4 | r4 <;> omega
          have hkd : tIs (tKind (tRead T).2 (i2 - 1)) = true := (hall (i2 - 1) (by omega) (by omega)).2.1
          have hkd2 := of_decide_eq_true hkd
          refine eW_aload_n 108 rfl rfl rfl ?_
          refine eW_getfield 111 rfl rfl (Nat.ble_eq_true_of_le (by omega)) rfl (show h33 63 = .inr (11, [.ref 64, .ref 65, .ref 66, .ref 67, vI (s2 4), vI (s2 5), vI 0, vI (s2 7), vI (s2 8), vI (s2 9), .ref 68, vI (s2 11), vI (s2 12), .ref 69, vI (s2 14), .ref 70, .ref 71, vI (s2 17), vI (s2 18), vI (s2 19), vI (s2 20), .ref 72, vI (s2 22)]) from hmh33.1) rfl ⟨rfl, fun _ h9 => nomatch h9⟩ ?_
          refine eW_iconst 112 rfl rfl ?_
          refine eW_aload_n 113 rfl rfl rfl ?_
          refine eW_getfield 116 rfl rfl (Nat.ble_eq_true_of_le (by omega)) rfl (show h33 63 = .inr (11, [.ref 64, .ref 65, .ref 66, .ref 67, vI (s2 4), vI (s2 5), vI 0, vI (s2 7), vI (s2 8), vI (s2 9), .ref 68, vI (s2 11), vI (s2 12), .ref 69, vI (s2 14), .ref 70, .ref 71, vI (s2 17), vI (s2 18), vI (s2 19), vI (s2 20), .ref 72, vI (s2 22)]) from hmh33.1) rfl ⟨rfl, fun _ h9 => nomatch h9⟩ ?_
          refine eW_iconst 117 rfl rfl ?_
          refine eW_callSH 120 [.ref 67, vI 0, .ref 64, vI 0] [] [] rfl rfl rfl (Or.inl rfl) rfl rfl rfl (m_copies (d := d + 4) (N := N) (a := 64) (b := 67) (n0 := 62) (n1 := 62) (F := A2 3) (D := A2 0) (x := 0) (y := 0) (by omega) (by omega) (by decide) hmh33.2.1 hmh33.2.2.2.2.1 (by omega) (by omega) (by decide)) rfl rfl ?_
          intro h36 fh36
          have hmh36 : mM h36 (sUp s2 6 0) (mUp A2 0 (eCp (A2 3) (A2 0) 0 0 62)) := mM_0 hmh33 fh36.1 fh36.2 ⟨rfl, rfl, rfl, rfl, rfl, rfl, rfl, rfl⟩
          have frh36 : mFr h h36 := mFr_a frh33 (k := 64) (by decide) fh36.2
          refine eW_aload_n 121 rfl rfl rfl ?_
          refine eW_getfield 124 rfl rfl (Nat.ble_eq_true_of_le (by omega)) rfl (show h36 63 = .inr (11, [.ref 64, .ref 65, .ref 66, .ref 67, vI (s2 4), vI (s2 5), vI 0, vI (s2 7), vI (s2 8), vI (s2 9), .ref 68, vI (s2 11), vI (s2 12), .ref 69, vI (s2 14), .ref 70, .ref 71, vI (s2 17), vI (s2 18), vI (s2 19), vI (s2 20), .ref 72, vI (s2 22)]) from hmh36.1) rfl ⟨rfl, fun _ h9 => nomatch h9⟩ ?_
          refine eW_iconst 125 rfl rfl ?_
          refine eW_iload_n 126 rfl rfl rfl ?_
          refine eW_imul 127 rfl rfl ?_
          refine eW_iconst 128 rfl rfl ?_
          refine eW_isub 129 rfl rfl ?_
          refine eW_iaload 130 rfl rfl (tKind (tRead T).2 (i2 - 1)) (Nat.ble_eq_true_of_le (by omega)) (show h36 72 = .inl (0, 124, .inl (eIA (A2 8))) from hmh36.2.2.2.2.2.2.2.2.2) (by omega) (by omega) (by unfold i32; omega) (congrArg Int32.ofInt (by rw [show (4 * i2 - 4).toNat = (4 * (i2 - 1)).toNat by omega, p6]; exact (hall (i2 - 1) (by omega) (by omega)).1)) ?_
          refine eW_istore 132 rfl rfl [(4, vI (tKind (tRead T).2 (i2 - 1))), (0, .ref 63), (1, vI (eB01 (tRead T).1)), (2, vI i2), (3, vI got2)] rfl rfl ?_
          refine eW_aload_n 133 rfl rfl rfl ?_
          refine eW_aload_n 134 rfl rfl rfl ?_
          refine eW_getfield 137 rfl rfl (Nat.ble_eq_true_of_le (by omega)) rfl (show h36 63 = .inr (11, [.ref 64, .ref 65, .ref 66, .ref 67, vI (s2 4), vI (s2 5), vI 0, vI (s2 7), vI (s2 8), vI (s2 9), .ref 68, vI (s2 11), vI (s2 12), .ref 69, vI (s2 14), .ref 70, .ref 71, vI (s2 17), vI (s2 18), vI (s2 19), vI (s2 20), .ref 72, vI (s2 22)]) from hmh36.1) rfl ⟨rfl, fun _ h9 => nomatch h9⟩ ?_
          refine eW_iload 139 rfl rfl rfl ?_
          refine eW_bipush 141 rfl rfl 110 rfl ?_
          refine eW_icmp_ne 144 rfl rfl (by unfold i32; omega) (by unfold i32; omega) (fun c37 => ?_) (fun c37 => ?_)
          · refine eW_iload 150 rfl rfl rfl ?_
            refine eW_bipush 152 rfl rfl 115 rfl ?_
            refine eW_icmp_ne 155 rfl rfl (by unfold i32; omega) (by unfold i32; omega) (fun c38 => ?_) (fun c38 => ?_)
            · refine eW_iconst 160 rfl rfl ?_
              refine eW_icmp_ne 163 rfl rfl (by unfold i32; omega) (by unfold i32; omega) (fun c39 => ?_) (fun c39 => ?_)
              · refine eW_iconst 168 rfl rfl ?_
                refine eW_putfield 171 [.ref 64, .ref 65, .ref 66, .ref 67, vI (s2 4), vI (s2 5), vI 0, vI 1, vI (s2 8), vI (s2 9), .ref 68, vI (s2 11), vI (s2 12), .ref 69, vI (s2 14), .ref 70, .ref 71, vI (s2 17), vI (s2 18), vI (s2 19), vI (s2 20), .ref 72, vI (s2 22)] rfl rfl (Nat.ble_eq_true_of_le (by omega)) rfl (show h36 63 = .inr (11, [.ref 64, .ref 65, .ref 66, .ref 67, vI (s2 4), vI (s2 5), vI 0, vI (s2 7), vI (s2 8), vI (s2 9), .ref 68, vI (s2 11), vI (s2 12), .ref 69, vI (s2 14), .ref 70, .ref 71, vI (s2 17), vI (s2 18), vI (s2 19), vI (s2 20), .ref 72, vI (s2 22)]) from hmh36.1) rfl rfl ?_
                intro h40 eh40 oh40
                have hmh40 : mM h40 (sUp (sUp s2 6 0) 7 1) (mUp A2 0 (eCp (A2 3) (A2 0) 0 0 62)) := mM_s (s := (sUp s2 6 0)) hmh36 eh40 oh40
                have frh40 : mFr h h40 := mFr_s frh36 oh40
                refine eW_iload_n 172 rfl rfl rfl ?_
                refine eW_if_le 175 rfl rfl (by unfold i32; omega) (fun c41 => ?_) (fun c41 => ?_)
                · refine eW_iload_n 180 rfl rfl rfl ?_
                  refine eW_ret_i rfl rfl (Or.inl rfl) ?_
                  rcases r4 with r4 | r4
                  · exfalso; omega
                  · obtain ⟨v1, v2, v3, v4, v5, v6, v7⟩ := r4
                    refine ⟨_, _, _, _, rfl, hmh40, frh40, ⟨(fun e => by rw [g1] at e; cases e), fun _ => ⟨p11, fun e => absurd e v2, fun _ => ⟨?_, ?_, p8, p1, v5, v6⟩⟩⟩, p10, p2, p5, p7, rfl, p12⟩
                    · show (1 : Int) = if (gRn (tRead T).2 (tRead T).2.2.2.2.2.2.toNat 0 G).1 = 3 then 2 else 1
                      unfold oRef at v7
                      first | (rw [if_pos (by omega)]; done) | (rw [if_neg (by omega)]; done) | (exfalso; split at v7 <;> (try split at v7) <;> omega) | (rw [if_pos (by split at v7 <;> (try split at v7) <;> omega)]; done) | (rw [if_neg (by split at v7 <;> (try split at v7) <;> omega)]; done)
                    · refine rR_congr hI.1.2.1 (fun j hj => ?_) hr
                      show eCp (A2 3) (A2 0) 0 0 62 j = A 0 j
                      rw [eCp_in (by omega), hb1, show 0 + (j - 0) = j by omega]; exact hcp j hj
                · refine eW_iconst 176 rfl rfl ?_
                  refine eW_goto rfl ?_
                  refine eW_ret_i rfl rfl (Or.inl rfl) ?_
                  rcases r4 with r4 | r4
                  · exfalso; omega
                  · obtain ⟨v1, v2, v3, v4, v5, v6, v7⟩ := r4
                    refine ⟨_, _, _, _, rfl, hmh40, frh40, ⟨(fun e => by rw [g1] at e; cases e), fun _ => ⟨p11, fun e => absurd e v2, fun _ => ⟨?_, ?_, p8, p1, v5, v6⟩⟩⟩, p10, p2, p5, p7, rfl, p12⟩
                    · show (1 : Int) = if (gRn (tRead T).2 (tRead T).2.2.2.2.2.2.toNat 0 G).1 = 3 then 2 else 1
                      unfold oRef at v7
                      first | (rw [if_pos (by omega)]; done) | (rw [if_neg (by omega)]; done) | (exfalso; split at v7 <;> (try split at v7) <;> omega) | (rw [if_pos (by split at v7 <;> (try split at v7) <;> omega)]; done) | (rw [if_neg (by split at v7 <;> (try split at v7) <;> omega)]; done)
                    · refine rR_congr hI.1.2.1 (fun j hj => ?_) hr
                      show eCp (A2 3) (A2 0) 0 0 62 j = A 0 j
                      rw [eCp_in (by omega), hb1, show 0 + (j - 0) = j by omega]; exact hcp j hj
              · refine eW_iconst 164 rfl rfl ?_
                refine eW_goto rfl ?_
                refine eW_putfield 171 [.ref 64, .ref 65, .ref 66, .ref 67, vI (s2 4), vI (s2 5), vI 0, vI 2, vI (s2 8), vI (s2 9), .ref 68, vI (s2 11), vI (s2 12), .ref 69, vI (s2 14), .ref 70, .ref 71, vI (s2 17), vI (s2 18), vI (s2 19), vI (s2 20), .ref 72, vI (s2 22)] rfl rfl (Nat.ble_eq_true_of_le (by omega)) rfl (show h36 63 = .inr (11, [.ref 64, .ref 65, .ref 66, .ref 67, vI (s2 4), vI (s2 5), vI 0, vI (s2 7), vI (s2 8), vI (s2 9), .ref 68, vI (s2 11), vI (s2 12), .ref 69, vI (s2 14), .ref 70, .ref 71, vI (s2 17), vI (s2 18), vI (s2 19), vI (s2 20), .ref 72, vI (s2 22)]) from hmh36.1) rfl rfl ?_
                intro h42 eh42 oh42
                have hmh42 : mM h42 (sUp (sUp s2 6 0) 7 2) (mUp A2 0 (eCp (A2 3) (A2 0) 0 0 62)) := mM_s (s := (sUp s2 6 0)) hmh36 eh42 oh42
                have frh42 : mFr h h42 := mFr_s frh36 oh42
                refine eW_iload_n 172 rfl rfl rfl ?_
                refine eW_if_le 175 rfl rfl (by unfold i32; omega) (fun c43 => ?_) (fun c43 => ?_)
                · refine eW_iload_n 180 rfl rfl rfl ?_
                  refine eW_ret_i rfl rfl (Or.inl rfl) ?_
                  rcases r4 with r4 | r4
                  · exfalso; omega
                  · obtain ⟨v1, v2, v3, v4, v5, v6, v7⟩ := r4
                    refine ⟨_, _, _, _, rfl, hmh42, frh42, ⟨(fun e => by rw [g1] at e; cases e), fun _ => ⟨p11, fun e => absurd e v2, fun _ => ⟨?_, ?_, p8, p1, v5, v6⟩⟩⟩, p10, p2, p5, p7, rfl, p12⟩
                    · show (2 : Int) = if (gRn (tRead T).2 (tRead T).2.2.2.2.2.2.toNat 0 G).1 = 3 then 2 else 1
                      unfold oRef at v7
                      first | (rw [if_pos (by omega)]; done) | (rw [if_neg (by omega)]; done) | (exfalso; split at v7 <;> (try split at v7) <;> omega) | (rw [if_pos (by split at v7 <;> (try split at v7) <;> omega)]; done) | (rw [if_neg (by split at v7 <;> (try split at v7) <;> omega)]; done)
                    · refine rR_congr hI.1.2.1 (fun j hj => ?_) hr
                      show eCp (A2 3) (A2 0) 0 0 62 j = A 0 j
                      rw [eCp_in (by omega), hb1, show 0 + (j - 0) = j by omega]; exact hcp j hj
                · refine eW_iconst 176 rfl rfl ?_
                  refine eW_goto rfl ?_
                  refine eW_ret_i rfl rfl (Or.inl rfl) ?_
                  rcases r4 with r4 | r4
                  · exfalso; omega
                  · obtain ⟨v1, v2, v3, v4, v5, v6, v7⟩ := r4
                    refine ⟨_, _, _, _, rfl, hmh42, frh42, ⟨(fun e => by rw [g1] at e; cases e), fun _ => ⟨p11, fun e => absurd e v2, fun _ => ⟨?_, ?_, p8, p1, v5, v6⟩⟩⟩, p10, p2, p5, p7, rfl, p12⟩
                    · show (2 : Int) = if (gRn (tRead T).2 (tRead T).2.2.2.2.2.2.toNat 0 G).1 = 3 then 2 else 1
                      unfold oRef at v7
                      first | (rw [if_pos (by omega)]; done) | (rw [if_neg (by omega)]; done) | (exfalso; split at v7 <;> (try split at v7) <;> omega) | (rw [if_pos (by split at v7 <;> (try split at v7) <;> omega)]; done) | (rw [if_neg (by split at v7 <;> (try split at v7) <;> omega)]; done)
                    · refine rR_congr hI.1.2.1 (fun j hj => ?_) hr
                      show eCp (A2 3) (A2 0) 0 0 62 j = A 0 j
                      rw [eCp_in (by omega), hb1, show 0 + (j - 0) = j by omega]; exact hcp j hj
            · refine eW_iconst 156 rfl rfl ?_
              refine eW_goto rfl ?_
              refine eW_icmp_ne 163 rfl rfl (by unfold i32; omega) (by unfold i32; omega) (fun c44 => ?_) (fun c44 => ?_)
              · refine eW_iconst 168 rfl rfl ?_
                refine eW_putfield 171 [.ref 64, .ref 65, .ref 66, .ref 67, vI (s2 4), vI (s2 5), vI 0, vI 1, vI (s2 8), vI (s2 9), .ref 68, vI (s2 11), vI (s2 12), .ref 69, vI (s2 14), .ref 70, .ref 71, vI (s2 17), vI (s2 18), vI (s2 19), vI (s2 20), .ref 72, vI (s2 22)] rfl rfl (Nat.ble_eq_true_of_le (by omega)) rfl (show h36 63 = .inr (11, [.ref 64, .ref 65, .ref 66, .ref 67, vI (s2 4), vI (s2 5), vI 0, vI (s2 7), vI (s2 8), vI (s2 9), .ref 68, vI (s2 11), vI (s2 12), .ref 69, vI (s2 14), .ref 70, .ref 71, vI (s2 17), vI (s2 18), vI (s2 19), vI (s2 20), .ref 72, vI (s2 22)]) from hmh36.1) rfl rfl ?_
                intro h45 eh45 oh45
                have hmh45 : mM h45 (sUp (sUp s2 6 0) 7 1) (mUp A2 0 (eCp (A2 3) (A2 0) 0 0 62)) := mM_s (s := (sUp s2 6 0)) hmh36 eh45 oh45
                have frh45 : mFr h h45 := mFr_s frh36 oh45
                refine eW_iload_n 172 rfl rfl rfl ?_
                refine eW_if_le 175 rfl rfl (by unfold i32; omega) (fun c46 => ?_) (fun c46 => ?_)
                · refine eW_iload_n 180 rfl rfl rfl ?_
                  refine eW_ret_i rfl rfl (Or.inl rfl) ?_
                  rcases r4 with r4 | r4
                  · exfalso; omega
                  · obtain ⟨v1, v2, v3, v4, v5, v6, v7⟩ := r4
                    refine ⟨_, _, _, _, rfl, hmh45, frh45, ⟨(fun e => by rw [g1] at e; cases e), fun _ => ⟨p11, fun e => absurd e v2, fun _ => ⟨?_, ?_, p8, p1, v5, v6⟩⟩⟩, p10, p2, p5, p7, rfl, p12⟩
                    · show (1 : Int) = if (gRn (tRead T).2 (tRead T).2.2.2.2.2.2.toNat 0 G).1 = 3 then 2 else 1
                      unfold oRef at v7
                      first | (rw [if_pos (by omega)]; done) | (rw [if_neg (by omega)]; done) | (exfalso; split at v7 <;> (try split at v7) <;> omega) | (rw [if_pos (by split at v7 <;> (try split at v7) <;> omega)]; done) | (rw [if_neg (by split at v7 <;> (try split at v7) <;> omega)]; done)
                    · refine rR_congr hI.1.2.1 (fun j hj => ?_) hr
                      show eCp (A2 3) (A2 0) 0 0 62 j = A 0 j
                      rw [eCp_in (by omega), hb1, show 0 + (j - 0) = j by omega]; exact hcp j hj
                · refine eW_iconst 176 rfl rfl ?_
                  refine eW_goto rfl ?_
                  refine eW_ret_i rfl rfl (Or.inl rfl) ?_
                  rcases r4 with r4 | r4
                  · exfalso; omega
                  · obtain ⟨v1, v2, v3, v4, v5, v6, v7⟩ := r4
                    refine ⟨_, _, _, _, rfl, hmh45, frh45, ⟨(fun e => by rw [g1] at e; cases e), fun _ => ⟨p11, fun e => absurd e v2, fun _ => ⟨?_, ?_, p8, p1, v5, v6⟩⟩⟩, p10, p2, p5, p7, rfl, p12⟩
                    · show (1 : Int) = if (gRn (tRead T).2 (tRead T).2.2.2.2.2.2.toNat 0 G).1 = 3 then 2 else 1
                      unfold oRef at v7
                      first | (rw [if_pos (by omega)]; done) | (rw [if_neg (by omega)]; done) | (exfalso; split at v7 <;> (try split at v7) <;> omega) | (rw [if_pos (by split at v7 <;> (try split at v7) <;> omega)]; done) | (rw [if_neg (by split at v7 <;> (try split at v7) <;> omega)]; done)
                    · refine rR_congr hI.1.2.1 (fun j hj => ?_) hr
                      show eCp (A2 3) (A2 0) 0 0 62 j = A 0 j
                      rw [eCp_in (by omega), hb1, show 0 + (j - 0) = j by omega]; exact hcp j hj
              · refine eW_iconst 164 rfl rfl ?_
                refine eW_goto rfl ?_
                refine eW_putfield 171 [.ref 64, .ref 65, .ref 66, .ref 67, vI (s2 4), vI (s2 5), vI 0, vI 2, vI (s2 8), vI (s2 9), .ref 68, vI (s2 11), vI (s2 12), .ref 69, vI (s2 14), .ref 70, .ref 71, vI (s2 17), vI (s2 18), vI (s2 19), vI (s2 20), .ref 72, vI (s2 22)] rfl rfl (Nat.ble_eq_true_of_le (by omega)) rfl (show h36 63 = .inr (11, [.ref 64, .ref 65, .ref 66, .ref 67, vI (s2 4), vI (s2 5), vI 0, vI (s2 7), vI (s2 8), vI (s2 9), .ref 68, vI (s2 11), vI (s2 12), .ref 69, vI (s2 14), .ref 70, .ref 71, vI (s2 17), vI (s2 18), vI (s2 19), vI (s2 20), .ref 72, vI (s2 22)]) from hmh36.1) rfl rfl ?_
                intro h47 eh47 oh47
                have hmh47 : mM h47 (sUp (sUp s2 6 0) 7 2) (mUp A2 0 (eCp (A2 3) (A2 0) 0 0 62)) := mM_s (s := (sUp s2 6 0)) hmh36 eh47 oh47
                have frh47 : mFr h h47 := mFr_s frh36 oh47
                refine eW_iload_n 172 rfl rfl rfl ?_
                refine eW_if_le 175 rfl rfl (by unfold i32; omega) (fun c48 => ?_) (fun c48 => ?_)
                · refine eW_iload_n 180 rfl rfl rfl ?_
                  refine eW_ret_i rfl rfl (Or.inl rfl) ?_
                  rcases r4 with r4 | r4
                  · exfalso; omega
                  · obtain ⟨v1, v2, v3, v4, v5, v6, v7⟩ := r4
                    refine ⟨_, _, _, _, rfl, hmh47, frh47, ⟨(fun e => by rw [g1] at e; cases e), fun _ => ⟨p11, fun e => absurd e v2, fun _ => ⟨?_, ?_, p8, p1, v5, v6⟩⟩⟩, p10, p2, p5, p7, rfl, p12⟩
                    · show (2 : Int) = if (gRn (tRead T).2 (tRead T).2.2.2.2.2.2.toNat 0 G).1 = 3 then 2 else 1
                      unfold oRef at v7
                      first | (rw [if_pos (by omega)]; done) | (rw [if_neg (by omega)]; done) | (exfalso; split at v7 <;> (try split at v7) <;> omega) | (rw [if_pos (by split at v7 <;> (try split at v7) <;> omega)]; done) | (rw [if_neg (by split at v7 <;> (try split at v7) <;> omega)]; done)
                    · refine rR_congr hI.1.2.1 (fun j hj => ?_) hr
                      show eCp (A2 3) (A2 0) 0 0 62 j = A 0 j
                      rw [eCp_in (by omega), hb1, show 0 + (j - 0) = j by omega]; exact hcp j hj
                · refine eW_iconst 176 rfl rfl ?_
                  refine eW_goto rfl ?_
                  refine eW_ret_i rfl rfl (Or.inl rfl) ?_
                  rcases r4 with r4 | r4
                  · exfalso; omega
                  · obtain ⟨v1, v2, v3, v4, v5, v6, v7⟩ := r4
                    refine ⟨_, _, _, _, rfl, hmh47, frh47, ⟨(fun e => by rw [g1] at e; cases e), fun _ => ⟨p11, fun e => absurd e v2, fun _ => ⟨?_, ?_, p8, p1, v5, v6⟩⟩⟩, p10, p2, p5, p7, rfl, p12⟩
                    · show (2 : Int) = if (gRn (tRead T).2 (tRead T).2.2.2.2.2.2.toNat 0 G).1 = 3 then 2 else 1
                      unfold oRef at v7
                      first | (rw [if_pos (by omega)]; done) | (rw [if_neg (by omega)]; done) | (exfalso; split at v7 <;> (try split at v7) <;> omega) | (rw [if_pos (by split at v7 <;> (try split at v7) <;> omega)]; done) | (rw [if_neg (by split at v7 <;> (try split at v7) <;> omega)]; done)
                    · refine rR_congr hI.1.2.1 (fun j hj => ?_) hr
                      show eCp (A2 3) (A2 0) 0 0 62 j = A 0 j
                      rw [eCp_in (by omega), hb1, show 0 + (j - 0) = j by omega]; exact hcp j hj
          · refine eW_iconst 145 rfl rfl ?_
            refine eW_goto rfl ?_
            refine eW_icmp_ne 163 rfl rfl (by unfold i32; omega) (by unfold i32; omega) (fun c49 => ?_) (fun c49 => ?_)
            · refine eW_iconst 168 rfl rfl ?_
              refine eW_putfield 171 [.ref 64, .ref 65, .ref 66, .ref 67, vI (s2 4), vI (s2 5), vI 0, vI 1, vI (s2 8), vI (s2 9), .ref 68, vI (s2 11), vI (s2 12), .ref 69, vI (s2 14), .ref 70, .ref 71, vI (s2 17), vI (s2 18), vI (s2 19), vI (s2 20), .ref 72, vI (s2 22)] rfl rfl (Nat.ble_eq_true_of_le (by omega)) rfl (show h36 63 = .inr (11, [.ref 64, .ref 65, .ref 66, .ref 67, vI (s2 4), vI (s2 5), vI 0, vI (s2 7), vI (s2 8), vI (s2 9), .ref 68, vI (s2 11), vI (s2 12), .ref 69, vI (s2 14), .ref 70, .ref 71, vI (s2 17), vI (s2 18), vI (s2 19), vI (s2 20), .ref 72, vI (s2 22)]) from hmh36.1) rfl rfl ?_
              intro h50 eh50 oh50
              have hmh50 : mM h50 (sUp (sUp s2 6 0) 7 1) (mUp A2 0 (eCp (A2 3) (A2 0) 0 0 62)) := mM_s (s := (sUp s2 6 0)) hmh36 eh50 oh50
              have frh50 : mFr h h50 := mFr_s frh36 oh50
              refine eW_iload_n 172 rfl rfl rfl ?_
              refine eW_if_le 175 rfl rfl (by unfold i32; omega) (fun c51 => ?_) (fun c51 => ?_)
              · refine eW_iload_n 180 rfl rfl rfl ?_
                refine eW_ret_i rfl rfl (Or.inl rfl) ?_
                rcases r4 with r4 | r4
                · exfalso; omega
                · obtain ⟨v1, v2, v3, v4, v5, v6, v7⟩ := r4
                  refine ⟨_, _, _, _, rfl, hmh50, frh50, ⟨(fun e => by rw [g1] at e; cases e), fun _ => ⟨p11, fun e => absurd e v2, fun _ => ⟨?_, ?_, p8, p1, v5, v6⟩⟩⟩, p10, p2, p5, p7, rfl, p12⟩
                  · show (1 : Int) = if (gRn (tRead T).2 (tRead T).2.2.2.2.2.2.toNat 0 G).1 = 3 then 2 else 1
                    unfold oRef at v7
                    first | (rw [if_pos (by omega)]; done) | (rw [if_neg (by omega)]; done) | (exfalso; split at v7 <;> (try split at v7) <;> omega) | (rw [if_pos (by split at v7 <;> (try split at v7) <;> omega)]; done) | (rw [if_neg (by split at v7 <;> (try split at v7) <;> omega)]; done)
                  · refine rR_congr hI.1.2.1 (fun j hj => ?_) hr
                    show eCp (A2 3) (A2 0) 0 0 62 j = A 0 j
                    rw [eCp_in (by omega), hb1, show 0 + (j - 0) = j by omega]; exact hcp j hj
              · refine eW_iconst 176 rfl rfl ?_
                refine eW_goto rfl ?_
                refine eW_ret_i rfl rfl (Or.inl rfl) ?_
                rcases r4 with r4 | r4
                · exfalso; omega
                · obtain ⟨v1, v2, v3, v4, v5, v6, v7⟩ := r4
                  refine ⟨_, _, _, _, rfl, hmh50, frh50, ⟨(fun e => by rw [g1] at e; cases e), fun _ => ⟨p11, fun e => absurd e v2, fun _ => ⟨?_, ?_, p8, p1, v5, v6⟩⟩⟩, p10, p2, p5, p7, rfl, p12⟩
                  · show (1 : Int) = if (gRn (tRead T).2 (tRead T).2.2.2.2.2.2.toNat 0 G).1 = 3 then 2 else 1
                    unfold oRef at v7
                    first | (rw [if_pos (by omega)]; done) | (rw [if_neg (by omega)]; done) | (exfalso; split at v7 <;> (try split at v7) <;> omega) | (rw [if_pos (by split at v7 <;> (try split at v7) <;> omega)]; done) | (rw [if_neg (by split at v7 <;> (try split at v7) <;> omega)]; done)
                  · refine rR_congr hI.1.2.1 (fun j hj => ?_) hr
                    show eCp (A2 3) (A2 0) 0 0 62 j = A 0 j
                    rw [eCp_in (by omega), hb1, show 0 + (j - 0) = j by omega]; exact hcp j hj
            · refine eW_iconst 164 rfl rfl ?_
              refine eW_goto rfl ?_
              refine eW_putfield 171 [.ref 64, .ref 65, .ref 66, .ref 67, vI (s2 4), vI (s2 5), vI 0, vI 2, vI (s2 8), vI (s2 9), .ref 68, vI (s2 11), vI (s2 12), .ref 69, vI (s2 14), .ref 70, .ref 71, vI (s2 17), vI (s2 18), vI (s2 19), vI (s2 20), .ref 72, vI (s2 22)] rfl rfl (Nat.ble_eq_true_of_le (by omega)) rfl (show h36 63 = .inr (11, [.ref 64, .ref 65, .ref 66, .ref 67, vI (s2 4), vI (s2 5), vI 0, vI (s2 7), vI (s2 8), vI (s2 9), .ref 68, vI (s2 11), vI (s2 12), .ref 69, vI (s2 14), .ref 70, .ref 71, vI (s2 17), vI (s2 18), vI (s2 19), vI (s2 20), .ref 72, vI (s2 22)]) from hmh36.1) rfl rfl ?_
              intro h52 eh52 oh52
              have hmh52 : mM h52 (sUp (sUp s2 6 0) 7 2) (mUp A2 0 (eCp (A2 3) (A2 0) 0 0 62)) := mM_s (s := (sUp s2 6 0)) hmh36 eh52 oh52
              have frh52 : mFr h h52 := mFr_s frh36 oh52
              refine eW_iload_n 172 rfl rfl rfl ?_
              refine eW_if_le 175 rfl rfl (by unfold i32; omega) (fun c53 => ?_) (fun c53 => ?_)
              · refine eW_iload_n 180 rfl rfl rfl ?_
                refine eW_ret_i rfl rfl (Or.inl rfl) ?_
                rcases r4 with r4 | r4
                · exfalso; omega
                · obtain ⟨v1, v2, v3, v4, v5, v6, v7⟩ := r4
                  refine ⟨_, _, _, _, rfl, hmh52, frh52, ⟨(fun e => by rw [g1] at e; cases e), fun _ => ⟨p11, fun e => absurd e v2, fun _ => ⟨?_, ?_, p8, p1, v5, v6⟩⟩⟩, p10, p2, p5, p7, rfl, p12⟩
                  · show (2 : Int) = if (gRn (tRead T).2 (tRead T).2.2.2.2.2.2.toNat 0 G).1 = 3 then 2 else 1
                    unfold oRef at v7
                    first | (rw [if_pos (by omega)]; done) | (rw [if_neg (by omega)]; done) | (exfalso; split at v7 <;> (try split at v7) <;> omega) | (rw [if_pos (by split at v7 <;> (try split at v7) <;> omega)]; done) | (rw [if_neg (by split at v7 <;> (try split at v7) <;> omega)]; done)
                  · refine rR_congr hI.1.2.1 (fun j hj => ?_) hr
                    show eCp (A2 3) (A2 0) 0 0 62 j = A 0 j
                    rw [eCp_in (by omega), hb1, show 0 + (j - 0) = j by omega]; exact hcp j hj
              · refine eW_iconst 176 rfl rfl ?_
                refine eW_goto rfl ?_
                refine eW_ret_i rfl rfl (Or.inl rfl) ?_
                rcases r4 with r4 | r4
                · exfalso; omega
                · obtain ⟨v1, v2, v3, v4, v5, v6, v7⟩ := r4
                  refine ⟨_, _, _, _, rfl, hmh52, frh52, ⟨(fun e => by rw [g1] at e; cases e), fun _ => ⟨p11, fun e => absurd e v2, fun _ => ⟨?_, ?_, p8, p1, v5, v6⟩⟩⟩, p10, p2, p5, p7, rfl, p12⟩
                  · show (2 : Int) = if (gRn (tRead T).2 (tRead T).2.2.2.2.2.2.toNat 0 G).1 = 3 then 2 else 1
                    unfold oRef at v7
                    first | (rw [if_pos (by omega)]; done) | (rw [if_neg (by omega)]; done) | (exfalso; split at v7 <;> (try split at v7) <;> omega) | (rw [if_pos (by split at v7 <;> (try split at v7) <;> omega)]; done) | (rw [if_neg (by split at v7 <;> (try split at v7) <;> omega)]; done)
                  · refine rR_congr hI.1.2.1 (fun j hj => ?_) hr
                    show eCp (A2 3) (A2 0) 0 0 62 j = A 0 j
                    rw [eCp_in (by omega), hb1, show 0 + (j - 0) = j by omega]; exact hcp j hj
      · refine eW_iconst 43 rfl rfl ?_
        refine eW_ret_i rfl rfl (Or.inl rfl) ?_
        exfalso; omega
