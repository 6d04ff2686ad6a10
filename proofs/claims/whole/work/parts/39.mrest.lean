theorem gWin_eq {G G' : eGd} (h3 : G'.2.2.1 3 = G.2.2.1 3) (h7 : G'.2.2.1 7 = G.2.2.1 7) (ht : G'.2.2.2.2.1 = G.2.2.2.2.1) : gWin G' = gWin G := by
  unfold gWin
  rw [show gTal G' 0 3 = G'.2.2.1 3 from gTal_l 0 3 (by decide) (by decide), show gTal G' 1 3 = G'.2.2.1 7 from gTal_l 1 3 (by decide) (by decide), show gTal G 0 3 = G.2.2.1 3 from gTal_l 0 3 (by decide) (by decide), show gTal G 1 3 = G.2.2.1 7 from gTal_l 1 3 (by decide) (by decide), h3, h7, ht]
def gGm (G : eGd) (T : Nat → Int) : eGd := (G.1, G.2.1, T, G.2.2.2.1, G.2.2.2.2.1, G.2.2.2.2.2.1, G.2.2.2.2.2.2.1, G.2.2.2.2.2.2.2 + 1)
theorem rR_gn {G : eGd} {g : Nat → Int} (hr : rR G g) : rR (gGm G G.2.2.1) (eUp g 5 (G.2.2.2.2.2.2.2 + 1)) := by
  obtain ⟨r0, r1, r2, r3, r4, r5, r6, r7, r8, r9, r10⟩ := hr
  exact ⟨(eUp_ne (by decide)).trans r0, (eUp_ne (by decide)).trans r1, (eUp_ne (by decide)).trans r2, (eUp_ne (by decide)).trans r3, (eUp_ne (by decide)).trans r4, eUp_eq rfl, (eUp_ne (by decide)).trans r6, (eUp_ne (by decide)).trans (r7.trans (gWin_eq (G := gGm G G.2.2.1) rfl rfl rfl)), fun i hi => (eUp_ne (by omega)).trans (r8 i hi), fun i hi => (eUp_ne (by omega)).trans (r9 i hi), fun i hi => (eUp_ne (by omega)).trans (r10 i hi)⟩
theorem rR_gk {G : eGd} {g : Nat → Int} {k : Nat} (hk : k = 2 ∨ k = 6) (hr : rR G g) : rR (gGm G (eUp G.2.2.1 k (G.2.2.1 k + 1))) (eUp (eUp g (14 + k) (G.2.2.1 k + 1)) 5 (G.2.2.2.2.2.2.2 + 1)) := by
  obtain ⟨r0, r1, r2, r3, r4, r5, r6, r7, r8, r9, r10⟩ := hr
  have e : ∀ j, j ≠ 5 → j ≠ 14 + k → eUp (eUp g (14 + k) (G.2.2.1 k + 1)) 5 (G.2.2.2.2.2.2.2 + 1) j = g j := fun j h1 h2 => by rw [eUp_ne h1, eUp_ne h2]
  refine ⟨(e 0 (by decide) (by omega)).trans r0, (e 1 (by decide) (by omega)).trans r1, (e 2 (by decide) (by omega)).trans r2, ?_, (e 4 (by decide) (by omega)).trans r4, eUp_eq rfl, ?_, (e 7 (by decide) (by omega)).trans (r7.trans (gWin_eq (G' := G) (G := gGm G (eUp G.2.2.1 k (G.2.2.1 k + 1))) (eUp_ne (by omega)).symm (eUp_ne (by omega)).symm rfl)), fun i hi => (e _ (by omega) (by omega)).trans (r8 i hi), fun i hi => ?_, fun i hi => (e _ (by omega) (by omega)).trans (r10 i hi)⟩
  · rw [e 3 (by decide) (by omega), r3]
    show _ = eUp G.2.2.1 k _ 1 + eUp G.2.2.1 k _ 5
    rw [eUp_ne (by omega), eUp_ne (by omega)]
  · rw [e 6 (by decide) (by omega), r6]
    show _ = eUp G.2.2.1 k _ 3 + eUp G.2.2.1 k _ 7
    rw [eUp_ne (by omega), eUp_ne (by omega)]
  · show _ = eUp G.2.2.1 k (G.2.2.1 k + 1) i
    rw [eUp_ne (by omega)]
    by_cases h : i = k
    · subst h; rw [eUp_eq rfl, eUp_eq rfl]
    · rw [eUp_ne (by omega), eUp_ne h]; exact r9 i hi
theorem m_next_l {d N k z : Nat} {h0 : eHp} {s : Nat → Int} {A : Nat → Nat → Int} (hN : 75 ≤ N) {P : eR → Prop} {g1 : Nat → Int} {w9 : Int} : ∀ (m9 : Nat) (k9 : Int) (g2 : Nat → Int) (h : eHp), 40 - k9 ≤ m9 → 0 ≤ k9 ∧ k9 ≤ 40 → mM h s (mUp A 0 g2) → mFr h0 h → (∀ j, j < 22 → g2 j = g1 j) → (∀ (g2 : Nat → Int) (h : eHp), mM h s (mUp A 0 g2) → mFr h0 h → (∀ j, j < 22 → g2 j = g1 j) → eWp eOx (eEv (d + 3)) eM_X7_next (102, [(0, .ref 63), (1, vI w9)], [], N, h, k, z) P) → eWp eOx (eEv (d + 3)) eM_X7_next (80, [(0, .ref 63), (1, vI w9), (2, vI k9)], [], N, h, k, z) P := by
  intro m9
  induction m9 with
  | zero =>
    intro k9 g2 h hm9 q0 q1 q2 q3 kk
    refine eW_iload_n 81 rfl rfl rfl ?_
    refine eW_bipush 83 rfl rfl 40 rfl ?_
    refine eW_icmp_ge 86 rfl rfl (by unfold i32; omega) (by unfold i32; omega) (fun c1 => ?_) (fun c1 => ?_)
    · refine eW_re [(0, .ref 63), (1, vI w9)] rfl rfl (List.forall_mem_cons.mpr ⟨rfl, List.forall_mem_cons.mpr ⟨rfl, fun _ h => absurd h List.not_mem_nil⟩⟩) (List.forall_mem_cons.mpr ⟨Or.inl rfl, List.forall_mem_cons.mpr ⟨Or.inl rfl, List.forall_mem_cons.mpr ⟨Or.inr ⟨_, rfl⟩, fun _ h => absurd h List.not_mem_nil⟩⟩⟩) ?_
      exact kk g2 h q1 q2 q3
    · refine eW_aload_n 87 rfl rfl rfl ?_
      refine eW_getfield 90 rfl rfl (Nat.ble_eq_true_of_le (by omega)) rfl q1.1 rfl ⟨rfl, fun _ h9 => nomatch h9⟩ ?_
      refine eW_bipush 92 rfl rfl 22 rfl ?_
      refine eW_iload_n 93 rfl rfl rfl ?_
      refine eW_iadd 94 rfl rfl ?_
      refine eW_iconst 95 rfl rfl ?_
      refine eW_iastore 96 rfl rfl (Nat.ble_eq_true_of_le (by omega)) (show h 64 = .inl (0, 62, .inl (eIA g2)) from q1.2.1) (by omega) (by omega) (by unfold i32; omega) rfl ?_
      intro h2 eh2 oh2
      have hmh2 : mM h2 s (mUp A 0 (eUp g2 (22 + k9).toNat 0)) := mM_0 q1 eh2 oh2 ⟨rfl, rfl, rfl, rfl, rfl, rfl, rfl, rfl⟩
      have frh2 : mFr h0 h2 := mFr_a q2 (by decide) oh2
      refine eW_iinc 99 rfl rfl [(2, vI (k9 + 1)), (0, .ref 63), (1, vI w9)] rfl rfl rfl ?_
      refine eW_goto rfl ?_
      refine eW_re [(0, .ref 63), (1, vI w9), (2, vI (k9 + 1))] rfl rfl (List.forall_mem_cons.mpr ⟨rfl, List.forall_mem_cons.mpr ⟨rfl, List.forall_mem_cons.mpr ⟨rfl, fun _ h => absurd h List.not_mem_nil⟩⟩⟩) (List.forall_mem_cons.mpr ⟨Or.inl rfl, List.forall_mem_cons.mpr ⟨Or.inl rfl, List.forall_mem_cons.mpr ⟨Or.inl rfl, fun _ h => absurd h List.not_mem_nil⟩⟩⟩) ?_
      exact absurd hm9 (by omega)
  | succ m9 ih =>
    intro k9 g2 h hm9 q0 q1 q2 q3 kk
    refine eW_iload_n 81 rfl rfl rfl ?_
    refine eW_bipush 83 rfl rfl 40 rfl ?_
    refine eW_icmp_ge 86 rfl rfl (by unfold i32; omega) (by unfold i32; omega) (fun c1 => ?_) (fun c1 => ?_)
    · refine eW_re [(0, .ref 63), (1, vI w9)] rfl rfl (List.forall_mem_cons.mpr ⟨rfl, List.forall_mem_cons.mpr ⟨rfl, fun _ h => absurd h List.not_mem_nil⟩⟩) (List.forall_mem_cons.mpr ⟨Or.inl rfl, List.forall_mem_cons.mpr ⟨Or.inl rfl, List.forall_mem_cons.mpr ⟨Or.inr ⟨_, rfl⟩, fun _ h => absurd h List.not_mem_nil⟩⟩⟩) ?_
      exact kk g2 h q1 q2 q3
    · refine eW_aload_n 87 rfl rfl rfl ?_
      refine eW_getfield 90 rfl rfl (Nat.ble_eq_true_of_le (by omega)) rfl q1.1 rfl ⟨rfl, fun _ h9 => nomatch h9⟩ ?_
      refine eW_bipush 92 rfl rfl 22 rfl ?_
      refine eW_iload_n 93 rfl rfl rfl ?_
      refine eW_iadd 94 rfl rfl ?_
      refine eW_iconst 95 rfl rfl ?_
      refine eW_iastore 96 rfl rfl (Nat.ble_eq_true_of_le (by omega)) (show h 64 = .inl (0, 62, .inl (eIA g2)) from q1.2.1) (by omega) (by omega) (by unfold i32; omega) rfl ?_
      intro h2 eh2 oh2
      have hmh2 : mM h2 s (mUp A 0 (eUp g2 (22 + k9).toNat 0)) := mM_0 q1 eh2 oh2 ⟨rfl, rfl, rfl, rfl, rfl, rfl, rfl, rfl⟩
      have frh2 : mFr h0 h2 := mFr_a q2 (by decide) oh2
      refine eW_iinc 99 rfl rfl [(2, vI (k9 + 1)), (0, .ref 63), (1, vI w9)] rfl rfl rfl ?_
      refine eW_goto rfl ?_
      refine eW_re [(0, .ref 63), (1, vI w9), (2, vI (k9 + 1))] rfl rfl (List.forall_mem_cons.mpr ⟨rfl, List.forall_mem_cons.mpr ⟨rfl, List.forall_mem_cons.mpr ⟨rfl, fun _ h => absurd h List.not_mem_nil⟩⟩⟩) (List.forall_mem_cons.mpr ⟨Or.inl rfl, List.forall_mem_cons.mpr ⟨Or.inl rfl, List.forall_mem_cons.mpr ⟨Or.inl rfl, fun _ h => absurd h List.not_mem_nil⟩⟩⟩) ?_
      exact ih (k9 + 1) _ h2 (by omega) (by omega) hmh2 frh2 (fun j hj => by rw [eUp_ne (by omega)]; exact q3 j hj) kk
theorem m_next_n {d N : Nat} {h : eHp} {s : Nat → Int} {A : Nat → Nat → Int} (hm : mM h s A) (hN : 75 ≤ N) {c : Int} {G : eGd} (hr : rR G (A 0)) (hI : gI c G) (hw6 : s 6 = 0 ∨ s 6 = 1) (hw5 : 0 ≤ s 5 ∧ s 5 ≤ 8) (hwn : gWin G = (-1)) : eSp (d + 4) eM_X7_next [.ref 63] N h (mOpQ (oNxt G) cNx (gWin G) s A h N) := by
  refine eSp_of [(0, .ref 63)] rfl rfl ?_
  have hG := hI.1
  have hG9 := hG
  obtain ⟨g1, g2, g3, g4⟩ := hG9
  obtain ⟨n1, n2, n3, n4, n5⟩ := gNext_T hI
  have hw9 := gWin_c (gI_next hI)
  rw [hwn] at n4 n5
  have y0 := n1 0 (by decide) (by decide) (by decide) (by decide) (by decide)
  have y1 := n1 1 (by decide) (by decide) (by decide) (by decide) (by decide)
  have y4 := n1 4 (by decide) (by decide) (by decide) (by decide) (by decide)
  have y5 := n1 5 (by decide) (by decide) (by decide) (by decide) (by decide)
  rw [if_neg (by decide)] at n4
  rw [if_neg (by decide)] at n5
  have hsc : 0 ≤ gSum (fun j => gWays (gDig G) (G.1 j)) G.2.2.2.1.toNat ∧ gSum (fun j => gWays (gDig G) (G.1 j)) G.2.2.2.1.toNat ≤ 240 * G.2.2.2.1.toNat := gSum_le (fun i hi => by have := gCntT_le (D := gDig G) (n := G.1 i) (g3 i (by omega)).2 6; exact ⟨this.1, by have e : gWays (gDig G) (G.1 i) = gCntT (gDig G) (G.1 i) 6 := rfl; omega⟩)
  refine eW_aload_n 1 rfl rfl rfl ?_
  refine eW_callV 4 [.ref 63] [] [vI (gSum (fun j => gWays (gDig G) (G.1 j)) G.2.2.2.1.toNat)] rfl rfl rfl rfl (Nat.ble_eq_true_of_le (by omega)) hm.1 rfl rfl rfl (m_scoopsNow (d := d + 0) hm hN hr hG) rfl rfl ?_
  refine eW_if_le 7 rfl rfl (by unfold i32; omega) (fun c1 => ?_) (fun c1 => ?_)
  · refine eW_aload_n 19 rfl rfl rfl ?_
    refine eW_aload_n 20 rfl rfl rfl ?_
    refine eW_getfield 23 rfl rfl (Nat.ble_eq_true_of_le (by omega)) rfl hm.1 rfl ⟨rfl, fun _ h9 => nomatch h9⟩ ?_
    refine eW_callVH 26 [.ref 63, .ref 64] [] [] rfl rfl rfl rfl (Nat.ble_eq_true_of_le (by omega)) hm.1 rfl rfl rfl (m_keeps (d := d + 1) hm hN hw6 hw5) rfl rfl ?_
    intro h2 fh2
    obtain ⟨s5, K5, f9h2⟩ := fh2
    obtain ⟨f8h2, hk⟩ := f9h2
    have hmh2 : mM h2 (sUp (sUp s 5 s5) 7 0) (mUp A 1 K5) := f8h2.1
    have frh2 : mFr h h2 := mFr_t (fun _ _ => rfl) f8h2.2
    refine eW_aload_n 27 rfl rfl rfl ?_
    refine eW_getfield 30 rfl rfl (Nat.ble_eq_true_of_le (by omega)) rfl (show h2 63 = .inr (11, [.ref 64, .ref 65, .ref 66, .ref 67, vI (s 4), vI s5, vI (s 6), vI 0, vI (s 8), vI (s 9), .ref 68, vI (s 11), vI (s 12), .ref 69, vI (s 14), .ref 70, .ref 71, vI (s 17), vI (s 18), vI (s 19), vI (s 20), .ref 72, vI (s 22)]) from hmh2.1) rfl ⟨rfl, fun _ h9 => nomatch h9⟩ ?_
    refine eW_bipush 32 rfl rfl 7 rfl ?_
    refine eW_iaload 33 rfl rfl ((-1)) (Nat.ble_eq_true_of_le (by omega)) (show h2 64 = .inl (0, 62, .inl (eIA (A 0))) from hmh2.2.1) (by omega) (by omega) (by unfold i32; omega) (congrArg Int32.ofInt (hr.2.2.2.2.2.2.2.1.trans hwn)) ?_
    refine eW_istore_n 34 rfl rfl [(1, vI ((-1))), (0, .ref 63)] rfl rfl ?_
    refine eW_iload_n 35 rfl rfl rfl ?_
    refine eW_if_lt 38 rfl rfl (by unfold i32; omega) (fun c3 => ?_) (fun c3 => absurd c3 (by omega))
    refine eW_aload_n 56 rfl rfl rfl ?_
    refine eW_getfield 59 rfl rfl (Nat.ble_eq_true_of_le (by omega)) rfl (show h2 63 = .inr (11, [.ref 64, .ref 65, .ref 66, .ref 67, vI (s 4), vI s5, vI (s 6), vI 0, vI (s 8), vI (s 9), .ref 68, vI (s 11), vI (s 12), .ref 69, vI (s 14), .ref 70, .ref 71, vI (s 17), vI (s 18), vI (s 19), vI (s 20), .ref 72, vI (s 22)]) from hmh2.1) rfl ⟨rfl, fun _ h9 => nomatch h9⟩ ?_
    refine eW_iconst 60 rfl rfl ?_
    refine eW_dup2 61 rfl rfl rfl ?_
    refine eW_iaload 62 rfl rfl G.2.2.2.2.2.2.2 (Nat.ble_eq_true_of_le (by omega)) (show h2 64 = .inl (0, 62, .inl (eIA (A 0))) from hmh2.2.1) (by omega) (by omega) (by unfold i32; omega) (congrArg Int32.ofInt hr.2.2.2.2.2.1) ?_
    refine eW_iconst 63 rfl rfl ?_
    refine eW_iadd 64 rfl rfl ?_
    refine eW_iastore 65 rfl rfl (Nat.ble_eq_true_of_le (by omega)) (show h2 64 = .inl (0, 62, .inl (eIA (A 0))) from hmh2.2.1) (by omega) (by omega) (by unfold i32; omega) rfl ?_
    intro h4 eh4 oh4
    have hmh4 : mM h4 (sUp (sUp s 5 s5) 7 0) (mUp (mUp A 0 (eUp (A 0) 5 (G.2.2.2.2.2.2.2 + 1))) 1 K5) := mM_0 hmh2 eh4 oh4 ⟨rfl, rfl, rfl, rfl, rfl, rfl, rfl, rfl⟩
    have frh4 : mFr h h4 := mFr_a frh2 (by decide) oh4
    refine eW_aload_n 66 rfl rfl rfl ?_
    refine eW_getfield 69 rfl rfl (Nat.ble_eq_true_of_le (by omega)) rfl (show h4 63 = .inr (11, [.ref 64, .ref 65, .ref 66, .ref 67, vI (s 4), vI s5, vI (s 6), vI 0, vI (s 8), vI (s 9), .ref 68, vI (s 11), vI (s 12), .ref 69, vI (s 14), .ref 70, .ref 71, vI (s 17), vI (s 18), vI (s 19), vI (s 20), .ref 72, vI (s 22)]) from hmh4.1) rfl ⟨rfl, fun _ h9 => nomatch h9⟩ ?_
    refine eW_iconst 70 rfl rfl ?_
    refine eW_dup2 71 rfl rfl rfl ?_
    refine eW_iaload 72 rfl rfl G.2.2.2.2.2.2.1 (Nat.ble_eq_true_of_le (by omega)) (show h4 64 = .inl (0, 62, .inl (eIA (eUp (A 0) 5 (G.2.2.2.2.2.2.2 + 1)))) from hmh4.2.1) (by omega) (by omega) (by unfold i32; omega) (congrArg Int32.ofInt (Eq.trans (eUp_ne (by decide)) hr.2.2.2.2.1)) ?_
    refine eW_aload_n 73 rfl rfl rfl ?_
    refine eW_callV 76 [.ref 63] [vI G.2.2.2.2.2.2.1, vI 4, .ref 64] [vI (gSum G.1 G.2.2.2.1.toNat), vI G.2.2.2.2.2.2.1, vI 4, .ref 64] rfl rfl rfl rfl (Nat.ble_eq_true_of_le (by omega)) (show h4 63 = .inr (11, [.ref 64, .ref 65, .ref 66, .ref 67, vI (s 4), vI s5, vI (s 6), vI 0, vI (s 8), vI (s 9), .ref 68, vI (s 11), vI (s 12), .ref 69, vI (s 14), .ref 70, .ref 71, vI (s 17), vI (s 18), vI (s 19), vI (s 20), .ref 72, vI (s 22)]) from hmh4.1) rfl rfl rfl (m_all (d := d + 1) (G := gGm G G.2.2.1) hmh4 hN (rR_gn hr) ⟨g1, g2, g3, g4⟩) rfl rfl ?_
    refine eW_iadd 77 rfl rfl ?_
    refine eW_iastore 78 rfl rfl (Nat.ble_eq_true_of_le (by omega)) (show h4 64 = .inl (0, 62, .inl (eIA (eUp (A 0) 5 (G.2.2.2.2.2.2.2 + 1)))) from hmh4.2.1) (by omega) (by omega) (by unfold i32; omega) rfl ?_
    intro h5 eh5 oh5
    have hmh5 : mM h5 (sUp (sUp s 5 s5) 7 0) (mUp (mUp A 0 (eUp (eUp (A 0) 5 (G.2.2.2.2.2.2.2 + 1)) 4 (G.2.2.2.2.2.2.1 + (gSum G.1 G.2.2.2.1.toNat)))) 1 K5) := mM_0 hmh4 eh5 oh5 ⟨rfl, rfl, rfl, rfl, rfl, rfl, rfl, rfl⟩
    have frh5 : mFr h h5 := mFr_a frh4 (by decide) oh5
    refine eW_iconst 79 rfl rfl ?_
    refine eW_istore_n 80 rfl rfl [(2, vI 0), (1, vI ((-1))), (0, .ref 63)] rfl rfl ?_
    refine eW_re [(0, .ref 63), (1, vI ((-1))), (2, vI 0)] rfl rfl (List.forall_mem_cons.mpr ⟨rfl, List.forall_mem_cons.mpr ⟨rfl, List.forall_mem_cons.mpr ⟨rfl, fun _ h => absurd h List.not_mem_nil⟩⟩⟩) (List.forall_mem_cons.mpr ⟨Or.inl rfl, List.forall_mem_cons.mpr ⟨Or.inl rfl, List.forall_mem_cons.mpr ⟨Or.inl rfl, fun _ h => absurd h List.not_mem_nil⟩⟩⟩) ?_
    refine m_next_l (h0 := h) (A := (mUp A 1 K5)) (g1 := eUp (eUp (A 0) 5 (G.2.2.2.2.2.2.2 + 1)) 4 (G.2.2.2.2.2.2.1 + (gSum G.1 G.2.2.2.1.toNat))) hN _ 0 (eUp (eUp (A 0) 5 (G.2.2.2.2.2.2.2 + 1)) 4 (G.2.2.2.2.2.2.1 + (gSum G.1 G.2.2.2.1.toNat))) h5 (Int.self_le_toNat _) (by omega) hmh5 frh5 (fun _ _ => rfl) (fun g2 h6 r1 r2 fj => ?_)
    refine eW_aload_n 103 rfl rfl rfl ?_
    refine eW_getfield 106 rfl rfl (Nat.ble_eq_true_of_le (by omega)) rfl (show h6 63 = .inr (11, [.ref 64, .ref 65, .ref 66, .ref 67, vI (s 4), vI s5, vI (s 6), vI 0, vI (s 8), vI (s 9), .ref 68, vI (s 11), vI (s 12), .ref 69, vI (s 14), .ref 70, .ref 71, vI (s 17), vI (s 18), vI (s 19), vI (s 20), .ref 72, vI (s 22)]) from r1.1) rfl ⟨rfl, fun _ h9 => nomatch h9⟩ ?_
    refine eW_iconst 107 rfl rfl ?_
    refine eW_iconst 108 rfl rfl ?_
    refine eW_iastore 109 rfl rfl (Nat.ble_eq_true_of_le (by omega)) (show h6 64 = .inl (0, 62, .inl (eIA g2)) from r1.2.1) (by omega) (by omega) (by unfold i32; omega) rfl ?_
    intro h7 eh7 oh7
    have hmh7 : mM h7 (sUp (sUp s 5 s5) 7 0) (mUp (mUp A 0 (eUp g2 0 0)) 1 K5) := mM_0 r1 eh7 oh7 ⟨rfl, rfl, rfl, rfl, rfl, rfl, rfl, rfl⟩
    have frh7 : mFr h h7 := mFr_a r2 (by decide) oh7
    refine eW_aload_n 110 rfl rfl rfl ?_
    refine eW_getfield 113 rfl rfl (Nat.ble_eq_true_of_le (by omega)) rfl (show h7 63 = .inr (11, [.ref 64, .ref 65, .ref 66, .ref 67, vI (s 4), vI s5, vI (s 6), vI 0, vI (s 8), vI (s 9), .ref 68, vI (s 11), vI (s 12), .ref 69, vI (s 14), .ref 70, .ref 71, vI (s 17), vI (s 18), vI (s 19), vI (s 20), .ref 72, vI (s 22)]) from hmh7.1) rfl ⟨rfl, fun _ h9 => nomatch h9⟩ ?_
    refine eW_bipush 115 rfl rfl 6 rfl ?_
    refine eW_iconst 116 rfl rfl ?_
    refine eW_iastore 117 rfl rfl (Nat.ble_eq_true_of_le (by omega)) (show h7 64 = .inl (0, 62, .inl (eIA (eUp g2 0 0))) from hmh7.2.1) (by omega) (by omega) (by unfold i32; omega) rfl ?_
    intro h8 eh8 oh8
    have hmh8 : mM h8 (sUp (sUp s 5 s5) 7 0) (mUp (mUp A 0 (eUp (eUp g2 0 0) 6 0)) 1 K5) := mM_0 hmh7 eh8 oh8 ⟨rfl, rfl, rfl, rfl, rfl, rfl, rfl, rfl⟩
    have frh8 : mFr h h8 := mFr_a frh7 (by decide) oh8
    refine eW_aload_n 118 rfl rfl rfl ?_
    refine eW_getfield 121 rfl rfl (Nat.ble_eq_true_of_le (by omega)) rfl (show h8 63 = .inr (11, [.ref 64, .ref 65, .ref 66, .ref 67, vI (s 4), vI s5, vI (s 6), vI 0, vI (s 8), vI (s 9), .ref 68, vI (s 11), vI (s 12), .ref 69, vI (s 14), .ref 70, .ref 71, vI (s 17), vI (s 18), vI (s 19), vI (s 20), .ref 72, vI (s 22)]) from hmh8.1) rfl ⟨rfl, fun _ h9 => nomatch h9⟩ ?_
    refine eW_bipush 123 rfl rfl 7 rfl ?_
    refine eW_iconst 124 rfl rfl ?_
    refine eW_iastore 125 rfl rfl (Nat.ble_eq_true_of_le (by omega)) (show h8 64 = .inl (0, 62, .inl (eIA (eUp (eUp g2 0 0) 6 0))) from hmh8.2.1) (by omega) (by omega) (by unfold i32; omega) rfl ?_
    intro h9 eh9 oh9
    have hmh9 : mM h9 (sUp (sUp s 5 s5) 7 0) (mUp (mUp A 0 (eUp (eUp (eUp g2 0 0) 6 0) 7 (-1))) 1 K5) := mM_0 hmh8 eh9 oh9 ⟨rfl, rfl, rfl, rfl, rfl, rfl, rfl, rfl⟩
    have frh9 : mFr h h9 := mFr_a frh8 (by decide) oh9
    refine eW_aload_n 126 rfl rfl rfl ?_
    refine eW_getfield 129 rfl rfl (Nat.ble_eq_true_of_le (by omega)) rfl (show h9 63 = .inr (11, [.ref 64, .ref 65, .ref 66, .ref 67, vI (s 4), vI s5, vI (s 6), vI 0, vI (s 8), vI (s 9), .ref 68, vI (s 11), vI (s 12), .ref 69, vI (s 14), .ref 70, .ref 71, vI (s 17), vI (s 18), vI (s 19), vI (s 20), .ref 72, vI (s 22)]) from hmh9.1) rfl ⟨rfl, fun _ h9 => nomatch h9⟩ ?_
    refine eW_bipush 131 rfl rfl 17 rfl ?_
    refine eW_iconst 132 rfl rfl ?_
    refine eW_iastore 133 rfl rfl (Nat.ble_eq_true_of_le (by omega)) (show h9 64 = .inl (0, 62, .inl (eIA (eUp (eUp (eUp g2 0 0) 6 0) 7 (-1)))) from hmh9.2.1) (by omega) (by omega) (by unfold i32; omega) rfl ?_
    intro h10 eh10 oh10
    have hmh10 : mM h10 (sUp (sUp s 5 s5) 7 0) (mUp (mUp A 0 (eUp (eUp (eUp (eUp g2 0 0) 6 0) 7 (-1)) 17 0)) 1 K5) := mM_0 hmh9 eh10 oh10 ⟨rfl, rfl, rfl, rfl, rfl, rfl, rfl, rfl⟩
    have frh10 : mFr h h10 := mFr_a frh9 (by decide) oh10
    refine eW_aload_n 134 rfl rfl rfl ?_
    refine eW_getfield 137 rfl rfl (Nat.ble_eq_true_of_le (by omega)) rfl (show h10 63 = .inr (11, [.ref 64, .ref 65, .ref 66, .ref 67, vI (s 4), vI s5, vI (s 6), vI 0, vI (s 8), vI (s 9), .ref 68, vI (s 11), vI (s 12), .ref 69, vI (s 14), .ref 70, .ref 71, vI (s 17), vI (s 18), vI (s 19), vI (s 20), .ref 72, vI (s 22)]) from hmh10.1) rfl ⟨rfl, fun _ h9 => nomatch h9⟩ ?_
    refine eW_bipush 139 rfl rfl 21 rfl ?_
    refine eW_iconst 140 rfl rfl ?_
    refine eW_iastore 141 rfl rfl (Nat.ble_eq_true_of_le (by omega)) (show h10 64 = .inl (0, 62, .inl (eIA (eUp (eUp (eUp (eUp g2 0 0) 6 0) 7 (-1)) 17 0))) from hmh10.2.1) (by omega) (by omega) (by unfold i32; omega) rfl ?_
    intro h11 eh11 oh11
    have hmh11 : mM h11 (sUp (sUp s 5 s5) 7 0) (mUp (mUp A 0 (eUp (eUp (eUp (eUp (eUp g2 0 0) 6 0) 7 (-1)) 17 0) 21 0)) 1 K5) := mM_0 hmh10 eh11 oh11 ⟨rfl, rfl, rfl, rfl, rfl, rfl, rfl, rfl⟩
    have frh11 : mFr h h11 := mFr_a frh10 (by decide) oh11
    refine eW_iload_n 142 rfl rfl rfl ?_
    refine eW_ret_i rfl rfl (Or.inl rfl) ?_
    have ho : oNxt G = (0, 0, 0, gNext G) := by
      exact oNxt_f (by omega)
    refine ⟨_, _, _, _, rfl, hmh11, frh11, ?_⟩
    unfold mOp
    rw [ho]
    refine ⟨rfl, ?_, (fun e => absurd (show (0 : Int) = 3 from e) (by decide)), (fun _ => ⟨rfl, rfl⟩), (fun _ => ⟨hk, hwn.symm⟩), (fun e => absurd rfl e), rfl, rfl, rfl, rfl, rfl, rfl, rfl, rfl, rfl, rfl, rfl⟩
    show rR (gNext G) (eUp (eUp (eUp (eUp (eUp g2 0 0) 6 0) 7 (-1)) 17 0) 21 0)
    refine ⟨(by have e9 : (eUp (eUp (eUp (eUp (eUp g2 0 0) 6 0) 7 (-1)) 17 0) 21 0) 0 = 0 := (Eq.trans (eUp_ne (by decide)) (Eq.trans (eUp_ne (by decide)) (Eq.trans (eUp_ne (by decide)) (Eq.trans (eUp_ne (by decide)) (eUp_eq rfl))))); exact e9.trans (show (0 : Int) = 0 by first | rfl | omega)), (Eq.trans (eUp_ne (by decide)) (Eq.trans (eUp_ne (by decide)) (Eq.trans (eUp_ne (by decide)) (Eq.trans (eUp_ne (by decide)) (Eq.trans (eUp_ne (by decide)) (Eq.trans (fj 1 (by decide)) (Eq.trans (eUp_ne (by decide)) (Eq.trans (eUp_ne (by decide)) hr.2.1)))))))), (Eq.trans (eUp_ne (by decide)) (Eq.trans (eUp_ne (by decide)) (Eq.trans (eUp_ne (by decide)) (Eq.trans (eUp_ne (by decide)) (Eq.trans (eUp_ne (by decide)) (Eq.trans (fj 2 (by decide)) (Eq.trans (eUp_ne (by decide)) (Eq.trans (eUp_ne (by decide)) hr.2.2.1)))))))), (by have e9 : (eUp (eUp (eUp (eUp (eUp g2 0 0) 6 0) 7 (-1)) 17 0) 21 0) 3 = (G.2.2.1 1 + G.2.2.1 5) := (Eq.trans (eUp_ne (by decide)) (Eq.trans (eUp_ne (by decide)) (Eq.trans (eUp_ne (by decide)) (Eq.trans (eUp_ne (by decide)) (Eq.trans (eUp_ne (by decide)) (Eq.trans (fj 3 (by decide)) (Eq.trans (eUp_ne (by decide)) (Eq.trans (eUp_ne (by decide)) hr.2.2.2.1)))))))); exact e9.trans (show ((G.2.2.1 1 + G.2.2.1 5) : Int) = (gNext G).2.2.1 1 + (gNext G).2.2.1 5 by first | rfl | omega)), (by have e9 : (eUp (eUp (eUp (eUp (eUp g2 0 0) 6 0) 7 (-1)) 17 0) 21 0) 4 = G.2.2.2.2.2.2.1 + (gSum G.1 G.2.2.2.1.toNat) := (Eq.trans (eUp_ne (by decide)) (Eq.trans (eUp_ne (by decide)) (Eq.trans (eUp_ne (by decide)) (Eq.trans (eUp_ne (by decide)) (Eq.trans (eUp_ne (by decide)) (Eq.trans (fj 4 (by decide)) (eUp_eq rfl))))))); exact e9.trans (show (G.2.2.2.2.2.2.1 + (gSum G.1 G.2.2.2.1.toNat) : Int) = G.2.2.2.2.2.2.1 + gSum G.1 G.2.2.2.1.toNat by first | rfl | omega)), (Eq.trans (eUp_ne (by decide)) (Eq.trans (eUp_ne (by decide)) (Eq.trans (eUp_ne (by decide)) (Eq.trans (eUp_ne (by decide)) (Eq.trans (eUp_ne (by decide)) (Eq.trans (fj 5 (by decide)) (Eq.trans (eUp_ne (by decide)) (eUp_eq rfl)))))))), (by have e9 : (eUp (eUp (eUp (eUp (eUp g2 0 0) 6 0) 7 (-1)) 17 0) 21 0) 6 = 0 := (Eq.trans (eUp_ne (by decide)) (Eq.trans (eUp_ne (by decide)) (Eq.trans (eUp_ne (by decide)) (eUp_eq rfl)))); exact e9.trans (show (0 : Int) = (gNext G).2.2.1 3 + (gNext G).2.2.1 7 by first | rfl | omega)), (by have e9 : (eUp (eUp (eUp (eUp (eUp g2 0 0) 6 0) 7 (-1)) 17 0) 21 0) 7 = -1 := (Eq.trans (eUp_ne (by decide)) (Eq.trans (eUp_ne (by decide)) (eUp_eq rfl))); exact e9.trans (show (-1 : Int) = gWin (gNext G) by first | rfl | omega)), eL6 (Eq.trans (eUp_ne (by decide)) (Eq.trans (eUp_ne (by decide)) (Eq.trans (eUp_ne (by decide)) (Eq.trans (eUp_ne (by decide)) (Eq.trans (eUp_ne (by decide)) (Eq.trans (fj 8 (by decide)) (Eq.trans (eUp_ne (by decide)) (Eq.trans (eUp_ne (by decide)) (hr.2.2.2.2.2.2.2.2.1 0 (by decide)))))))))) (Eq.trans (eUp_ne (by decide)) (Eq.trans (eUp_ne (by decide)) (Eq.trans (eUp_ne (by decide)) (Eq.trans (eUp_ne (by decide)) (Eq.trans (eUp_ne (by decide)) (Eq.trans (fj 9 (by decide)) (Eq.trans (eUp_ne (by decide)) (Eq.trans (eUp_ne (by decide)) (hr.2.2.2.2.2.2.2.2.1 1 (by decide)))))))))) (Eq.trans (eUp_ne (by decide)) (Eq.trans (eUp_ne (by decide)) (Eq.trans (eUp_ne (by decide)) (Eq.trans (eUp_ne (by decide)) (Eq.trans (eUp_ne (by decide)) (Eq.trans (fj 10 (by decide)) (Eq.trans (eUp_ne (by decide)) (Eq.trans (eUp_ne (by decide)) (hr.2.2.2.2.2.2.2.2.1 2 (by decide)))))))))) (Eq.trans (eUp_ne (by decide)) (Eq.trans (eUp_ne (by decide)) (Eq.trans (eUp_ne (by decide)) (Eq.trans (eUp_ne (by decide)) (Eq.trans (eUp_ne (by decide)) (Eq.trans (fj 11 (by decide)) (Eq.trans (eUp_ne (by decide)) (Eq.trans (eUp_ne (by decide)) (hr.2.2.2.2.2.2.2.2.1 3 (by decide)))))))))) (Eq.trans (eUp_ne (by decide)) (Eq.trans (eUp_ne (by decide)) (Eq.trans (eUp_ne (by decide)) (Eq.trans (eUp_ne (by decide)) (Eq.trans (eUp_ne (by decide)) (Eq.trans (fj 12 (by decide)) (Eq.trans (eUp_ne (by decide)) (Eq.trans (eUp_ne (by decide)) (hr.2.2.2.2.2.2.2.2.1 4 (by decide)))))))))) (Eq.trans (eUp_ne (by decide)) (Eq.trans (eUp_ne (by decide)) (Eq.trans (eUp_ne (by decide)) (Eq.trans (eUp_ne (by decide)) (Eq.trans (eUp_ne (by decide)) (Eq.trans (fj 13 (by decide)) (Eq.trans (eUp_ne (by decide)) (Eq.trans (eUp_ne (by decide)) (hr.2.2.2.2.2.2.2.2.1 5 (by decide)))))))))), eL8 (by have e9 : (eUp (eUp (eUp (eUp (eUp g2 0 0) 6 0) 7 (-1)) 17 0) 21 0) 14 = G.2.2.1 0 := (Eq.trans (eUp_ne (by decide)) (Eq.trans (eUp_ne (by decide)) (Eq.trans (eUp_ne (by decide)) (Eq.trans (eUp_ne (by decide)) (Eq.trans (eUp_ne (by decide)) (Eq.trans (fj 14 (by decide)) (Eq.trans (eUp_ne (by decide)) (Eq.trans (eUp_ne (by decide)) (hr.2.2.2.2.2.2.2.2.2.1 0 (by decide)))))))))); exact e9.trans (show (G.2.2.1 0 : Int) = (gNext G).2.2.1 0 by first | rfl | omega)) (by have e9 : (eUp (eUp (eUp (eUp (eUp g2 0 0) 6 0) 7 (-1)) 17 0) 21 0) 15 = G.2.2.1 1 := (Eq.trans (eUp_ne (by decide)) (Eq.trans (eUp_ne (by decide)) (Eq.trans (eUp_ne (by decide)) (Eq.trans (eUp_ne (by decide)) (Eq.trans (eUp_ne (by decide)) (Eq.trans (fj 15 (by decide)) (Eq.trans (eUp_ne (by decide)) (Eq.trans (eUp_ne (by decide)) (hr.2.2.2.2.2.2.2.2.2.1 1 (by decide)))))))))); exact e9.trans (show (G.2.2.1 1 : Int) = (gNext G).2.2.1 1 by first | rfl | omega)) (by have e9 : (eUp (eUp (eUp (eUp (eUp g2 0 0) 6 0) 7 (-1)) 17 0) 21 0) 16 = G.2.2.1 2 := (Eq.trans (eUp_ne (by decide)) (Eq.trans (eUp_ne (by decide)) (Eq.trans (eUp_ne (by decide)) (Eq.trans (eUp_ne (by decide)) (Eq.trans (eUp_ne (by decide)) (Eq.trans (fj 16 (by decide)) (Eq.trans (eUp_ne (by decide)) (Eq.trans (eUp_ne (by decide)) (hr.2.2.2.2.2.2.2.2.2.1 2 (by decide)))))))))); exact e9.trans (show (G.2.2.1 2 : Int) = (gNext G).2.2.1 2 by first | rfl | omega)) (by have e9 : (eUp (eUp (eUp (eUp (eUp g2 0 0) 6 0) 7 (-1)) 17 0) 21 0) 17 = 0 := (Eq.trans (eUp_ne (by decide)) (eUp_eq rfl)); exact e9.trans (show (0 : Int) = (gNext G).2.2.1 3 by first | rfl | omega)) (by have e9 : (eUp (eUp (eUp (eUp (eUp g2 0 0) 6 0) 7 (-1)) 17 0) 21 0) 18 = G.2.2.1 4 := (Eq.trans (eUp_ne (by decide)) (Eq.trans (eUp_ne (by decide)) (Eq.trans (eUp_ne (by decide)) (Eq.trans (eUp_ne (by decide)) (Eq.trans (eUp_ne (by decide)) (Eq.trans (fj 18 (by decide)) (Eq.trans (eUp_ne (by decide)) (Eq.trans (eUp_ne (by decide)) (hr.2.2.2.2.2.2.2.2.2.1 4 (by decide)))))))))); exact e9.trans (show (G.2.2.1 4 : Int) = (gNext G).2.2.1 4 by first | rfl | omega)) (by have e9 : (eUp (eUp (eUp (eUp (eUp g2 0 0) 6 0) 7 (-1)) 17 0) 21 0) 19 = G.2.2.1 5 := (Eq.trans (eUp_ne (by decide)) (Eq.trans (eUp_ne (by decide)) (Eq.trans (eUp_ne (by decide)) (Eq.trans (eUp_ne (by decide)) (Eq.trans (eUp_ne (by decide)) (Eq.trans (fj 19 (by decide)) (Eq.trans (eUp_ne (by decide)) (Eq.trans (eUp_ne (by decide)) (hr.2.2.2.2.2.2.2.2.2.1 5 (by decide)))))))))); exact e9.trans (show (G.2.2.1 5 : Int) = (gNext G).2.2.1 5 by first | rfl | omega)) (by have e9 : (eUp (eUp (eUp (eUp (eUp g2 0 0) 6 0) 7 (-1)) 17 0) 21 0) 20 = G.2.2.1 6 := (Eq.trans (eUp_ne (by decide)) (Eq.trans (eUp_ne (by decide)) (Eq.trans (eUp_ne (by decide)) (Eq.trans (eUp_ne (by decide)) (Eq.trans (eUp_ne (by decide)) (Eq.trans (fj 20 (by decide)) (Eq.trans (eUp_ne (by decide)) (Eq.trans (eUp_ne (by decide)) (hr.2.2.2.2.2.2.2.2.2.1 6 (by decide)))))))))); exact e9.trans (show (G.2.2.1 6 : Int) = (gNext G).2.2.1 6 by first | rfl | omega)) (by have e9 : (eUp (eUp (eUp (eUp (eUp g2 0 0) 6 0) 7 (-1)) 17 0) 21 0) 21 = 0 := (eUp_eq rfl); exact e9.trans (show (0 : Int) = (gNext G).2.2.1 7 by first | rfl | omega)), fun i hi => absurd hi (by show ¬ (i : Int) < 0; omega)⟩
  · refine eW_aload_n 8 rfl rfl rfl ?_
    refine eW_iconst 9 rfl rfl ?_
    refine eW_iconst 10 rfl rfl ?_
    refine eW_aload_n 11 rfl rfl rfl ?_
    refine eW_callV 14 [.ref 63] [vI 5, vI 1, .ref 63] [vI (gSum (fun j => gWays (gDig G) (G.1 j)) G.2.2.2.1.toNat), vI 5, vI 1, .ref 63] rfl rfl rfl rfl (Nat.ble_eq_true_of_le (by omega)) hm.1 rfl rfl rfl (m_scoopsNow (d := d + 0) hm hN hr hG) rfl rfl ?_
    refine eW_callVH 17 [.ref 63, vI 1, vI 5, vI (gSum (fun j => gWays (gDig G) (G.1 j)) G.2.2.2.1.toNat)] [] [vI 0] rfl rfl rfl rfl (Nat.ble_eq_true_of_le (by omega)) hm.1 rfl rfl rfl (m_refuses (d := d + 2) hm hN ) rfl rfl ?_
    intro h12 fh12
    have hmh12 : mM h12 (sUp (sUp (sUp s 7 1) 8 5) 9 (gSum (fun j => gWays (gDig G) (G.1 j)) G.2.2.2.1.toNat)) A := fh12.1
    have frh12 : mFr h h12 := mFr_t (fun _ _ => rfl) fh12.2
    refine eW_ret_i rfl rfl (Or.inl rfl) ?_
    have ho : oNxt G = (3, 5, gSum (fun j => gWays (gDig G) (G.1 j)) G.2.2.2.1.toNat, G) := by
      exact oNxt_r (by omega)
    refine ⟨_, _, _, _, rfl, hmh12, frh12, ?_⟩
    unfold mOp
    rw [ho]
    refine ⟨rfl, ?_, (fun _ => ⟨rfl, rfl⟩), (fun e => absurd rfl e), (fun e => absurd (show (3 : Int) = 0 from e) (by decide)), (fun _ => ⟨rfl, rfl, rfl⟩), rfl, rfl, rfl, rfl, rfl, rfl, rfl, rfl, rfl, rfl, rfl⟩
    exact hr
theorem m_next_0 {d N : Nat} {h : eHp} {s : Nat → Int} {A : Nat → Nat → Int} (hm : mM h s A) (hN : 75 ≤ N) {c : Int} {G : eGd} (hr : rR G (A 0)) (hI : gI c G) (hw6 : s 6 = 0 ∨ s 6 = 1) (hw5 : 0 ≤ s 5 ∧ s 5 ≤ 8) (hwn : gWin G = 0) : eSp (d + 4) eM_X7_next [.ref 63] N h (mOpQ (oNxt G) cNx (gWin G) s A h N) := by
  refine eSp_of [(0, .ref 63)] rfl rfl ?_
  have hG := hI.1
  have hG9 := hG
  obtain ⟨g1, g2, g3, g4⟩ := hG9
  obtain ⟨n1, n2, n3, n4, n5⟩ := gNext_T hI
  have hw9 := gWin_c (gI_next hI)
  rw [hwn] at n4 n5
  have y0 := n1 0 (by decide) (by decide) (by decide) (by decide) (by decide)
  have y1 := n1 1 (by decide) (by decide) (by decide) (by decide) (by decide)
  have y4 := n1 4 (by decide) (by decide) (by decide) (by decide) (by decide)
  have y5 := n1 5 (by decide) (by decide) (by decide) (by decide) (by decide)
  rw [if_pos rfl] at n4
  rw [if_neg (by decide)] at n5
  have hsc : 0 ≤ gSum (fun j => gWays (gDig G) (G.1 j)) G.2.2.2.1.toNat ∧ gSum (fun j => gWays (gDig G) (G.1 j)) G.2.2.2.1.toNat ≤ 240 * G.2.2.2.1.toNat := gSum_le (fun i hi => by have := gCntT_le (D := gDig G) (n := G.1 i) (g3 i (by omega)).2 6; exact ⟨this.1, by have e : gWays (gDig G) (G.1 i) = gCntT (gDig G) (G.1 i) 6 := rfl; omega⟩)
  refine eW_aload_n 1 rfl rfl rfl ?_
  refine eW_callV 4 [.ref 63] [] [vI (gSum (fun j => gWays (gDig G) (G.1 j)) G.2.2.2.1.toNat)] rfl rfl rfl rfl (Nat.ble_eq_true_of_le (by omega)) hm.1 rfl rfl rfl (m_scoopsNow (d := d + 0) hm hN hr hG) rfl rfl ?_
  refine eW_if_le 7 rfl rfl (by unfold i32; omega) (fun c1 => ?_) (fun c1 => ?_)
  · refine eW_aload_n 19 rfl rfl rfl ?_
    refine eW_aload_n 20 rfl rfl rfl ?_
    refine eW_getfield 23 rfl rfl (Nat.ble_eq_true_of_le (by omega)) rfl hm.1 rfl ⟨rfl, fun _ h9 => nomatch h9⟩ ?_
    refine eW_callVH 26 [.ref 63, .ref 64] [] [] rfl rfl rfl rfl (Nat.ble_eq_true_of_le (by omega)) hm.1 rfl rfl rfl (m_keeps (d := d + 1) hm hN hw6 hw5) rfl rfl ?_
    intro h2 fh2
    obtain ⟨s5, K5, f9h2⟩ := fh2
    obtain ⟨f8h2, hk⟩ := f9h2
    have hmh2 : mM h2 (sUp (sUp s 5 s5) 7 0) (mUp A 1 K5) := f8h2.1
    have frh2 : mFr h h2 := mFr_t (fun _ _ => rfl) f8h2.2
    refine eW_aload_n 27 rfl rfl rfl ?_
    refine eW_getfield 30 rfl rfl (Nat.ble_eq_true_of_le (by omega)) rfl (show h2 63 = .inr (11, [.ref 64, .ref 65, .ref 66, .ref 67, vI (s 4), vI s5, vI (s 6), vI 0, vI (s 8), vI (s 9), .ref 68, vI (s 11), vI (s 12), .ref 69, vI (s 14), .ref 70, .ref 71, vI (s 17), vI (s 18), vI (s 19), vI (s 20), .ref 72, vI (s 22)]) from hmh2.1) rfl ⟨rfl, fun _ h9 => nomatch h9⟩ ?_
    refine eW_bipush 32 rfl rfl 7 rfl ?_
    refine eW_iaload 33 rfl rfl 0 (Nat.ble_eq_true_of_le (by omega)) (show h2 64 = .inl (0, 62, .inl (eIA (A 0))) from hmh2.2.1) (by omega) (by omega) (by unfold i32; omega) (congrArg Int32.ofInt (hr.2.2.2.2.2.2.2.1.trans hwn)) ?_
    refine eW_istore_n 34 rfl rfl [(1, vI 0), (0, .ref 63)] rfl rfl ?_
    refine eW_iload_n 35 rfl rfl rfl ?_
    refine eW_if_lt 38 rfl rfl (by unfold i32; omega) (fun c3 => absurd c3 (by omega)) (fun c3 => ?_)
    refine eW_aload_n 39 rfl rfl rfl ?_
    refine eW_getfield 42 rfl rfl (Nat.ble_eq_true_of_le (by omega)) rfl (show h2 63 = .inr (11, [.ref 64, .ref 65, .ref 66, .ref 67, vI (s 4), vI s5, vI (s 6), vI 0, vI (s 8), vI (s 9), .ref 68, vI (s 11), vI (s 12), .ref 69, vI (s 14), .ref 70, .ref 71, vI (s 17), vI (s 18), vI (s 19), vI (s 20), .ref 72, vI (s 22)]) from hmh2.1) rfl ⟨rfl, fun _ h9 => nomatch h9⟩ ?_
    refine eW_bipush 44 rfl rfl 14 rfl ?_
    refine eW_iconst 45 rfl rfl ?_
    refine eW_iload_n 46 rfl rfl rfl ?_
    refine eW_imul 47 rfl rfl ?_
    refine eW_iadd 48 rfl rfl ?_
    refine eW_iconst 49 rfl rfl ?_
    refine eW_iadd 50 rfl rfl ?_
    refine eW_dup2 51 rfl rfl rfl ?_
    refine eW_iaload 52 rfl rfl (G.2.2.1 2) (Nat.ble_eq_true_of_le (by omega)) (show h2 64 = .inl (0, 62, .inl (eIA (A 0))) from hmh2.2.1) (by omega) (by omega) (by unfold i32; omega) (congrArg Int32.ofInt (hr.2.2.2.2.2.2.2.2.2.1 2 (by decide))) ?_
    refine eW_iconst 53 rfl rfl ?_
    refine eW_iadd 54 rfl rfl ?_
    refine eW_iastore 55 rfl rfl (Nat.ble_eq_true_of_le (by omega)) (show h2 64 = .inl (0, 62, .inl (eIA (A 0))) from hmh2.2.1) (by omega) (by omega) (by unfold i32; omega) rfl ?_
    intro h4 eh4 oh4
    have hmh4 : mM h4 (sUp (sUp s 5 s5) 7 0) (mUp (mUp A 0 (eUp (A 0) 16 ((G.2.2.1 2) + 1))) 1 K5) := mM_0 hmh2 eh4 oh4 ⟨rfl, rfl, rfl, rfl, rfl, rfl, rfl, rfl⟩
    have frh4 : mFr h h4 := mFr_a frh2 (by decide) oh4
    refine eW_aload_n 56 rfl rfl rfl ?_
    refine eW_getfield 59 rfl rfl (Nat.ble_eq_true_of_le (by omega)) rfl (show h4 63 = .inr (11, [.ref 64, .ref 65, .ref 66, .ref 67, vI (s 4), vI s5, vI (s 6), vI 0, vI (s 8), vI (s 9), .ref 68, vI (s 11), vI (s 12), .ref 69, vI (s 14), .ref 70, .ref 71, vI (s 17), vI (s 18), vI (s 19), vI (s 20), .ref 72, vI (s 22)]) from hmh4.1) rfl ⟨rfl, fun _ h9 => nomatch h9⟩ ?_
    refine eW_iconst 60 rfl rfl ?_
    refine eW_dup2 61 rfl rfl rfl ?_
    refine eW_iaload 62 rfl rfl G.2.2.2.2.2.2.2 (Nat.ble_eq_true_of_le (by omega)) (show h4 64 = .inl (0, 62, .inl (eIA (eUp (A 0) 16 ((G.2.2.1 2) + 1)))) from hmh4.2.1) (by omega) (by omega) (by unfold i32; omega) (congrArg Int32.ofInt (Eq.trans (eUp_ne (by decide)) hr.2.2.2.2.2.1)) ?_
    refine eW_iconst 63 rfl rfl ?_
    refine eW_iadd 64 rfl rfl ?_
    refine eW_iastore 65 rfl rfl (Nat.ble_eq_true_of_le (by omega)) (show h4 64 = .inl (0, 62, .inl (eIA (eUp (A 0) 16 ((G.2.2.1 2) + 1)))) from hmh4.2.1) (by omega) (by omega) (by unfold i32; omega) rfl ?_
    intro h5 eh5 oh5
    have hmh5 : mM h5 (sUp (sUp s 5 s5) 7 0) (mUp (mUp A 0 (eUp (eUp (A 0) 16 ((G.2.2.1 2) + 1)) 5 (G.2.2.2.2.2.2.2 + 1))) 1 K5) := mM_0 hmh4 eh5 oh5 ⟨rfl, rfl, rfl, rfl, rfl, rfl, rfl, rfl⟩
    have frh5 : mFr h h5 := mFr_a frh4 (by decide) oh5
    refine eW_aload_n 66 rfl rfl rfl ?_
    refine eW_getfield 69 rfl rfl (Nat.ble_eq_true_of_le (by omega)) rfl (show h5 63 = .inr (11, [.ref 64, .ref 65, .ref 66, .ref 67, vI (s 4), vI s5, vI (s 6), vI 0, vI (s 8), vI (s 9), .ref 68, vI (s 11), vI (s 12), .ref 69, vI (s 14), .ref 70, .ref 71, vI (s 17), vI (s 18), vI (s 19), vI (s 20), .ref 72, vI (s 22)]) from hmh5.1) rfl ⟨rfl, fun _ h9 => nomatch h9⟩ ?_
    refine eW_iconst 70 rfl rfl ?_
    refine eW_dup2 71 rfl rfl rfl ?_
    refine eW_iaload 72 rfl rfl G.2.2.2.2.2.2.1 (Nat.ble_eq_true_of_le (by omega)) (show h5 64 = .inl (0, 62, .inl (eIA (eUp (eUp (A 0) 16 ((G.2.2.1 2) + 1)) 5 (G.2.2.2.2.2.2.2 + 1)))) from hmh5.2.1) (by omega) (by omega) (by unfold i32; omega) (congrArg Int32.ofInt (Eq.trans (eUp_ne (by decide)) (Eq.trans (eUp_ne (by decide)) hr.2.2.2.2.1))) ?_
    refine eW_aload_n 73 rfl rfl rfl ?_
    refine eW_callV 76 [.ref 63] [vI G.2.2.2.2.2.2.1, vI 4, .ref 64] [vI (gSum G.1 G.2.2.2.1.toNat), vI G.2.2.2.2.2.2.1, vI 4, .ref 64] rfl rfl rfl rfl (Nat.ble_eq_true_of_le (by omega)) (show h5 63 = .inr (11, [.ref 64, .ref 65, .ref 66, .ref 67, vI (s 4), vI s5, vI (s 6), vI 0, vI (s 8), vI (s 9), .ref 68, vI (s 11), vI (s 12), .ref 69, vI (s 14), .ref 70, .ref 71, vI (s 17), vI (s 18), vI (s 19), vI (s 20), .ref 72, vI (s 22)]) from hmh5.1) rfl rfl rfl (m_all (d := d + 1) (G := gGm G (eUp G.2.2.1 2 (G.2.2.1 2 + 1))) hmh5 hN (rR_gk (k := 2) (by decide) hr) ⟨g1, g2, g3, g4⟩) rfl rfl ?_
    refine eW_iadd 77 rfl rfl ?_
    refine eW_iastore 78 rfl rfl (Nat.ble_eq_true_of_le (by omega)) (show h5 64 = .inl (0, 62, .inl (eIA (eUp (eUp (A 0) 16 ((G.2.2.1 2) + 1)) 5 (G.2.2.2.2.2.2.2 + 1)))) from hmh5.2.1) (by omega) (by omega) (by unfold i32; omega) rfl ?_
    intro h6 eh6 oh6
    have hmh6 : mM h6 (sUp (sUp s 5 s5) 7 0) (mUp (mUp A 0 (eUp (eUp (eUp (A 0) 16 ((G.2.2.1 2) + 1)) 5 (G.2.2.2.2.2.2.2 + 1)) 4 (G.2.2.2.2.2.2.1 + (gSum G.1 G.2.2.2.1.toNat)))) 1 K5) := mM_0 hmh5 eh6 oh6 ⟨rfl, rfl, rfl, rfl, rfl, rfl, rfl, rfl⟩
    have frh6 : mFr h h6 := mFr_a frh5 (by decide) oh6
    refine eW_iconst 79 rfl rfl ?_
    refine eW_istore_n 80 rfl rfl [(2, vI 0), (1, vI 0), (0, .ref 63)] rfl rfl ?_
    refine eW_re [(0, .ref 63), (1, vI 0), (2, vI 0)] rfl rfl (List.forall_mem_cons.mpr ⟨rfl, List.forall_mem_cons.mpr ⟨rfl, List.forall_mem_cons.mpr ⟨rfl, fun _ h => absurd h List.not_mem_nil⟩⟩⟩) (List.forall_mem_cons.mpr ⟨Or.inl rfl, List.forall_mem_cons.mpr ⟨Or.inl rfl, List.forall_mem_cons.mpr ⟨Or.inl rfl, fun _ h => absurd h List.not_mem_nil⟩⟩⟩) ?_
    refine m_next_l (h0 := h) (A := (mUp A 1 K5)) (g1 := eUp (eUp (eUp (A 0) 16 ((G.2.2.1 2) + 1)) 5 (G.2.2.2.2.2.2.2 + 1)) 4 (G.2.2.2.2.2.2.1 + (gSum G.1 G.2.2.2.1.toNat))) hN _ 0 (eUp (eUp (eUp (A 0) 16 ((G.2.2.1 2) + 1)) 5 (G.2.2.2.2.2.2.2 + 1)) 4 (G.2.2.2.2.2.2.1 + (gSum G.1 G.2.2.2.1.toNat))) h6 (Int.self_le_toNat _) (by omega) hmh6 frh6 (fun _ _ => rfl) (fun g2 h7 r1 r2 fj => ?_)
    refine eW_aload_n 103 rfl rfl rfl ?_
    refine eW_getfield 106 rfl rfl (Nat.ble_eq_true_of_le (by omega)) rfl (show h7 63 = .inr (11, [.ref 64, .ref 65, .ref 66, .ref 67, vI (s 4), vI s5, vI (s 6), vI 0, vI (s 8), vI (s 9), .ref 68, vI (s 11), vI (s 12), .ref 69, vI (s 14), .ref 70, .ref 71, vI (s 17), vI (s 18), vI (s 19), vI (s 20), .ref 72, vI (s 22)]) from r1.1) rfl ⟨rfl, fun _ h9 => nomatch h9⟩ ?_
    refine eW_iconst 107 rfl rfl ?_
    refine eW_iconst 108 rfl rfl ?_
    refine eW_iastore 109 rfl rfl (Nat.ble_eq_true_of_le (by omega)) (show h7 64 = .inl (0, 62, .inl (eIA g2)) from r1.2.1) (by omega) (by omega) (by unfold i32; omega) rfl ?_
    intro h8 eh8 oh8
    have hmh8 : mM h8 (sUp (sUp s 5 s5) 7 0) (mUp (mUp A 0 (eUp g2 0 0)) 1 K5) := mM_0 r1 eh8 oh8 ⟨rfl, rfl, rfl, rfl, rfl, rfl, rfl, rfl⟩
    have frh8 : mFr h h8 := mFr_a r2 (by decide) oh8
    refine eW_aload_n 110 rfl rfl rfl ?_
    refine eW_getfield 113 rfl rfl (Nat.ble_eq_true_of_le (by omega)) rfl (show h8 63 = .inr (11, [.ref 64, .ref 65, .ref 66, .ref 67, vI (s 4), vI s5, vI (s 6), vI 0, vI (s 8), vI (s 9), .ref 68, vI (s 11), vI (s 12), .ref 69, vI (s 14), .ref 70, .ref 71, vI (s 17), vI (s 18), vI (s 19), vI (s 20), .ref 72, vI (s 22)]) from hmh8.1) rfl ⟨rfl, fun _ h9 => nomatch h9⟩ ?_
    refine eW_bipush 115 rfl rfl 6 rfl ?_
    refine eW_iconst 116 rfl rfl ?_
    refine eW_iastore 117 rfl rfl (Nat.ble_eq_true_of_le (by omega)) (show h8 64 = .inl (0, 62, .inl (eIA (eUp g2 0 0))) from hmh8.2.1) (by omega) (by omega) (by unfold i32; omega) rfl ?_
    intro h9 eh9 oh9
    have hmh9 : mM h9 (sUp (sUp s 5 s5) 7 0) (mUp (mUp A 0 (eUp (eUp g2 0 0) 6 0)) 1 K5) := mM_0 hmh8 eh9 oh9 ⟨rfl, rfl, rfl, rfl, rfl, rfl, rfl, rfl⟩
    have frh9 : mFr h h9 := mFr_a frh8 (by decide) oh9
    refine eW_aload_n 118 rfl rfl rfl ?_
    refine eW_getfield 121 rfl rfl (Nat.ble_eq_true_of_le (by omega)) rfl (show h9 63 = .inr (11, [.ref 64, .ref 65, .ref 66, .ref 67, vI (s 4), vI s5, vI (s 6), vI 0, vI (s 8), vI (s 9), .ref 68, vI (s 11), vI (s 12), .ref 69, vI (s 14), .ref 70, .ref 71, vI (s 17), vI (s 18), vI (s 19), vI (s 20), .ref 72, vI (s 22)]) from hmh9.1) rfl ⟨rfl, fun _ h9 => nomatch h9⟩ ?_
    refine eW_bipush 123 rfl rfl 7 rfl ?_
    refine eW_iconst 124 rfl rfl ?_
    refine eW_iastore 125 rfl rfl (Nat.ble_eq_true_of_le (by omega)) (show h9 64 = .inl (0, 62, .inl (eIA (eUp (eUp g2 0 0) 6 0))) from hmh9.2.1) (by omega) (by omega) (by unfold i32; omega) rfl ?_
    intro h10 eh10 oh10
    have hmh10 : mM h10 (sUp (sUp s 5 s5) 7 0) (mUp (mUp A 0 (eUp (eUp (eUp g2 0 0) 6 0) 7 (-1))) 1 K5) := mM_0 hmh9 eh10 oh10 ⟨rfl, rfl, rfl, rfl, rfl, rfl, rfl, rfl⟩
    have frh10 : mFr h h10 := mFr_a frh9 (by decide) oh10
    refine eW_aload_n 126 rfl rfl rfl ?_
    refine eW_getfield 129 rfl rfl (Nat.ble_eq_true_of_le (by omega)) rfl (show h10 63 = .inr (11, [.ref 64, .ref 65, .ref 66, .ref 67, vI (s 4), vI s5, vI (s 6), vI 0, vI (s 8), vI (s 9), .ref 68, vI (s 11), vI (s 12), .ref 69, vI (s 14), .ref 70, .ref 71, vI (s 17), vI (s 18), vI (s 19), vI (s 20), .ref 72, vI (s 22)]) from hmh10.1) rfl ⟨rfl, fun _ h9 => nomatch h9⟩ ?_
    refine eW_bipush 131 rfl rfl 17 rfl ?_
    refine eW_iconst 132 rfl rfl ?_
    refine eW_iastore 133 rfl rfl (Nat.ble_eq_true_of_le (by omega)) (show h10 64 = .inl (0, 62, .inl (eIA (eUp (eUp (eUp g2 0 0) 6 0) 7 (-1)))) from hmh10.2.1) (by omega) (by omega) (by unfold i32; omega) rfl ?_
    intro h11 eh11 oh11
    have hmh11 : mM h11 (sUp (sUp s 5 s5) 7 0) (mUp (mUp A 0 (eUp (eUp (eUp (eUp g2 0 0) 6 0) 7 (-1)) 17 0)) 1 K5) := mM_0 hmh10 eh11 oh11 ⟨rfl, rfl, rfl, rfl, rfl, rfl, rfl, rfl⟩
    have frh11 : mFr h h11 := mFr_a frh10 (by decide) oh11
    refine eW_aload_n 134 rfl rfl rfl ?_
    refine eW_getfield 137 rfl rfl (Nat.ble_eq_true_of_le (by omega)) rfl (show h11 63 = .inr (11, [.ref 64, .ref 65, .ref 66, .ref 67, vI (s 4), vI s5, vI (s 6), vI 0, vI (s 8), vI (s 9), .ref 68, vI (s 11), vI (s 12), .ref 69, vI (s 14), .ref 70, .ref 71, vI (s 17), vI (s 18), vI (s 19), vI (s 20), .ref 72, vI (s 22)]) from hmh11.1) rfl ⟨rfl, fun _ h9 => nomatch h9⟩ ?_
    refine eW_bipush 139 rfl rfl 21 rfl ?_
    refine eW_iconst 140 rfl rfl ?_
    refine eW_iastore 141 rfl rfl (Nat.ble_eq_true_of_le (by omega)) (show h11 64 = .inl (0, 62, .inl (eIA (eUp (eUp (eUp (eUp g2 0 0) 6 0) 7 (-1)) 17 0))) from hmh11.2.1) (by omega) (by omega) (by unfold i32; omega) rfl ?_
    intro h12 eh12 oh12
    have hmh12 : mM h12 (sUp (sUp s 5 s5) 7 0) (mUp (mUp A 0 (eUp (eUp (eUp (eUp (eUp g2 0 0) 6 0) 7 (-1)) 17 0) 21 0)) 1 K5) := mM_0 hmh11 eh12 oh12 ⟨rfl, rfl, rfl, rfl, rfl, rfl, rfl, rfl⟩
    have frh12 : mFr h h12 := mFr_a frh11 (by decide) oh12
    refine eW_iload_n 142 rfl rfl rfl ?_
    refine eW_ret_i rfl rfl (Or.inl rfl) ?_
    have ho : oNxt G = (0, 0, 0, gNext G) := by
      exact oNxt_f (by omega)
    refine ⟨_, _, _, _, rfl, hmh12, frh12, ?_⟩
    unfold mOp
    rw [ho]
    refine ⟨rfl, ?_, (fun e => absurd (show (0 : Int) = 3 from e) (by decide)), (fun _ => ⟨rfl, rfl⟩), (fun _ => ⟨hk, hwn.symm⟩), (fun e => absurd rfl e), rfl, rfl, rfl, rfl, rfl, rfl, rfl, rfl, rfl, rfl, rfl⟩
    show rR (gNext G) (eUp (eUp (eUp (eUp (eUp g2 0 0) 6 0) 7 (-1)) 17 0) 21 0)
    refine ⟨(by have e9 : (eUp (eUp (eUp (eUp (eUp g2 0 0) 6 0) 7 (-1)) 17 0) 21 0) 0 = 0 := (Eq.trans (eUp_ne (by decide)) (Eq.trans (eUp_ne (by decide)) (Eq.trans (eUp_ne (by decide)) (Eq.trans (eUp_ne (by decide)) (eUp_eq rfl))))); exact e9.trans (show (0 : Int) = 0 by first | rfl | omega)), (Eq.trans (eUp_ne (by decide)) (Eq.trans (eUp_ne (by decide)) (Eq.trans (eUp_ne (by decide)) (Eq.trans (eUp_ne (by decide)) (Eq.trans (eUp_ne (by decide)) (Eq.trans (fj 1 (by decide)) (Eq.trans (eUp_ne (by decide)) (Eq.trans (eUp_ne (by decide)) (Eq.trans (eUp_ne (by decide)) hr.2.1))))))))), (Eq.trans (eUp_ne (by decide)) (Eq.trans (eUp_ne (by decide)) (Eq.trans (eUp_ne (by decide)) (Eq.trans (eUp_ne (by decide)) (Eq.trans (eUp_ne (by decide)) (Eq.trans (fj 2 (by decide)) (Eq.trans (eUp_ne (by decide)) (Eq.trans (eUp_ne (by decide)) (Eq.trans (eUp_ne (by decide)) hr.2.2.1))))))))), (by have e9 : (eUp (eUp (eUp (eUp (eUp g2 0 0) 6 0) 7 (-1)) 17 0) 21 0) 3 = (G.2.2.1 1 + G.2.2.1 5) := (Eq.trans (eUp_ne (by decide)) (Eq.trans (eUp_ne (by decide)) (Eq.trans (eUp_ne (by decide)) (Eq.trans (eUp_ne (by decide)) (Eq.trans (eUp_ne (by decide)) (Eq.trans (fj 3 (by decide)) (Eq.trans (eUp_ne (by decide)) (Eq.trans (eUp_ne (by decide)) (Eq.trans (eUp_ne (by decide)) hr.2.2.2.1))))))))); exact e9.trans (show ((G.2.2.1 1 + G.2.2.1 5) : Int) = (gNext G).2.2.1 1 + (gNext G).2.2.1 5 by first | rfl | omega)), (by have e9 : (eUp (eUp (eUp (eUp (eUp g2 0 0) 6 0) 7 (-1)) 17 0) 21 0) 4 = G.2.2.2.2.2.2.1 + (gSum G.1 G.2.2.2.1.toNat) := (Eq.trans (eUp_ne (by decide)) (Eq.trans (eUp_ne (by decide)) (Eq.trans (eUp_ne (by decide)) (Eq.trans (eUp_ne (by decide)) (Eq.trans (eUp_ne (by decide)) (Eq.trans (fj 4 (by decide)) (eUp_eq rfl))))))); exact e9.trans (show (G.2.2.2.2.2.2.1 + (gSum G.1 G.2.2.2.1.toNat) : Int) = G.2.2.2.2.2.2.1 + gSum G.1 G.2.2.2.1.toNat by first | rfl | omega)), (Eq.trans (eUp_ne (by decide)) (Eq.trans (eUp_ne (by decide)) (Eq.trans (eUp_ne (by decide)) (Eq.trans (eUp_ne (by decide)) (Eq.trans (eUp_ne (by decide)) (Eq.trans (fj 5 (by decide)) (Eq.trans (eUp_ne (by decide)) (eUp_eq rfl)))))))), (by have e9 : (eUp (eUp (eUp (eUp (eUp g2 0 0) 6 0) 7 (-1)) 17 0) 21 0) 6 = 0 := (Eq.trans (eUp_ne (by decide)) (Eq.trans (eUp_ne (by decide)) (Eq.trans (eUp_ne (by decide)) (eUp_eq rfl)))); exact e9.trans (show (0 : Int) = (gNext G).2.2.1 3 + (gNext G).2.2.1 7 by first | rfl | omega)), (by have e9 : (eUp (eUp (eUp (eUp (eUp g2 0 0) 6 0) 7 (-1)) 17 0) 21 0) 7 = -1 := (Eq.trans (eUp_ne (by decide)) (Eq.trans (eUp_ne (by decide)) (eUp_eq rfl))); exact e9.trans (show (-1 : Int) = gWin (gNext G) by first | rfl | omega)), eL6 (Eq.trans (eUp_ne (by decide)) (Eq.trans (eUp_ne (by decide)) (Eq.trans (eUp_ne (by decide)) (Eq.trans (eUp_ne (by decide)) (Eq.trans (eUp_ne (by decide)) (Eq.trans (fj 8 (by decide)) (Eq.trans (eUp_ne (by decide)) (Eq.trans (eUp_ne (by decide)) (Eq.trans (eUp_ne (by decide)) (hr.2.2.2.2.2.2.2.2.1 0 (by decide))))))))))) (Eq.trans (eUp_ne (by decide)) (Eq.trans (eUp_ne (by decide)) (Eq.trans (eUp_ne (by decide)) (Eq.trans (eUp_ne (by decide)) (Eq.trans (eUp_ne (by decide)) (Eq.trans (fj 9 (by decide)) (Eq.trans (eUp_ne (by decide)) (Eq.trans (eUp_ne (by decide)) (Eq.trans (eUp_ne (by decide)) (hr.2.2.2.2.2.2.2.2.1 1 (by decide))))))))))) (Eq.trans (eUp_ne (by decide)) (Eq.trans (eUp_ne (by decide)) (Eq.trans (eUp_ne (by decide)) (Eq.trans (eUp_ne (by decide)) (Eq.trans (eUp_ne (by decide)) (Eq.trans (fj 10 (by decide)) (Eq.trans (eUp_ne (by decide)) (Eq.trans (eUp_ne (by decide)) (Eq.trans (eUp_ne (by decide)) (hr.2.2.2.2.2.2.2.2.1 2 (by decide))))))))))) (Eq.trans (eUp_ne (by decide)) (Eq.trans (eUp_ne (by decide)) (Eq.trans (eUp_ne (by decide)) (Eq.trans (eUp_ne (by decide)) (Eq.trans (eUp_ne (by decide)) (Eq.trans (fj 11 (by decide)) (Eq.trans (eUp_ne (by decide)) (Eq.trans (eUp_ne (by decide)) (Eq.trans (eUp_ne (by decide)) (hr.2.2.2.2.2.2.2.2.1 3 (by decide))))))))))) (Eq.trans (eUp_ne (by decide)) (Eq.trans (eUp_ne (by decide)) (Eq.trans (eUp_ne (by decide)) (Eq.trans (eUp_ne (by decide)) (Eq.trans (eUp_ne (by decide)) (Eq.trans (fj 12 (by decide)) (Eq.trans (eUp_ne (by decide)) (Eq.trans (eUp_ne (by decide)) (Eq.trans (eUp_ne (by decide)) (hr.2.2.2.2.2.2.2.2.1 4 (by decide))))))))))) (Eq.trans (eUp_ne (by decide)) (Eq.trans (eUp_ne (by decide)) (Eq.trans (eUp_ne (by decide)) (Eq.trans (eUp_ne (by decide)) (Eq.trans (eUp_ne (by decide)) (Eq.trans (fj 13 (by decide)) (Eq.trans (eUp_ne (by decide)) (Eq.trans (eUp_ne (by decide)) (Eq.trans (eUp_ne (by decide)) (hr.2.2.2.2.2.2.2.2.1 5 (by decide))))))))))), eL8 (by have e9 : (eUp (eUp (eUp (eUp (eUp g2 0 0) 6 0) 7 (-1)) 17 0) 21 0) 14 = G.2.2.1 0 := (Eq.trans (eUp_ne (by decide)) (Eq.trans (eUp_ne (by decide)) (Eq.trans (eUp_ne (by decide)) (Eq.trans (eUp_ne (by decide)) (Eq.trans (eUp_ne (by decide)) (Eq.trans (fj 14 (by decide)) (Eq.trans (eUp_ne (by decide)) (Eq.trans (eUp_ne (by decide)) (Eq.trans (eUp_ne (by decide)) (hr.2.2.2.2.2.2.2.2.2.1 0 (by decide))))))))))); exact e9.trans (show (G.2.2.1 0 : Int) = (gNext G).2.2.1 0 by first | rfl | omega)) (by have e9 : (eUp (eUp (eUp (eUp (eUp g2 0 0) 6 0) 7 (-1)) 17 0) 21 0) 15 = G.2.2.1 1 := (Eq.trans (eUp_ne (by decide)) (Eq.trans (eUp_ne (by decide)) (Eq.trans (eUp_ne (by decide)) (Eq.trans (eUp_ne (by decide)) (Eq.trans (eUp_ne (by decide)) (Eq.trans (fj 15 (by decide)) (Eq.trans (eUp_ne (by decide)) (Eq.trans (eUp_ne (by decide)) (Eq.trans (eUp_ne (by decide)) (hr.2.2.2.2.2.2.2.2.2.1 1 (by decide))))))))))); exact e9.trans (show (G.2.2.1 1 : Int) = (gNext G).2.2.1 1 by first | rfl | omega)) (by have e9 : (eUp (eUp (eUp (eUp (eUp g2 0 0) 6 0) 7 (-1)) 17 0) 21 0) 16 = (G.2.2.1 2) + 1 := (Eq.trans (eUp_ne (by decide)) (Eq.trans (eUp_ne (by decide)) (Eq.trans (eUp_ne (by decide)) (Eq.trans (eUp_ne (by decide)) (Eq.trans (eUp_ne (by decide)) (Eq.trans (fj 16 (by decide)) (Eq.trans (eUp_ne (by decide)) (Eq.trans (eUp_ne (by decide)) (eUp_eq rfl))))))))); exact e9.trans (show ((G.2.2.1 2) + 1 : Int) = (gNext G).2.2.1 2 by first | rfl | omega)) (by have e9 : (eUp (eUp (eUp (eUp (eUp g2 0 0) 6 0) 7 (-1)) 17 0) 21 0) 17 = 0 := (Eq.trans (eUp_ne (by decide)) (eUp_eq rfl)); exact e9.trans (show (0 : Int) = (gNext G).2.2.1 3 by first | rfl | omega)) (by have e9 : (eUp (eUp (eUp (eUp (eUp g2 0 0) 6 0) 7 (-1)) 17 0) 21 0) 18 = G.2.2.1 4 := (Eq.trans (eUp_ne (by decide)) (Eq.trans (eUp_ne (by decide)) (Eq.trans (eUp_ne (by decide)) (Eq.trans (eUp_ne (by decide)) (Eq.trans (eUp_ne (by decide)) (Eq.trans (fj 18 (by decide)) (Eq.trans (eUp_ne (by decide)) (Eq.trans (eUp_ne (by decide)) (Eq.trans (eUp_ne (by decide)) (hr.2.2.2.2.2.2.2.2.2.1 4 (by decide))))))))))); exact e9.trans (show (G.2.2.1 4 : Int) = (gNext G).2.2.1 4 by first | rfl | omega)) (by have e9 : (eUp (eUp (eUp (eUp (eUp g2 0 0) 6 0) 7 (-1)) 17 0) 21 0) 19 = G.2.2.1 5 := (Eq.trans (eUp_ne (by decide)) (Eq.trans (eUp_ne (by decide)) (Eq.trans (eUp_ne (by decide)) (Eq.trans (eUp_ne (by decide)) (Eq.trans (eUp_ne (by decide)) (Eq.trans (fj 19 (by decide)) (Eq.trans (eUp_ne (by decide)) (Eq.trans (eUp_ne (by decide)) (Eq.trans (eUp_ne (by decide)) (hr.2.2.2.2.2.2.2.2.2.1 5 (by decide))))))))))); exact e9.trans (show (G.2.2.1 5 : Int) = (gNext G).2.2.1 5 by first | rfl | omega)) (by have e9 : (eUp (eUp (eUp (eUp (eUp g2 0 0) 6 0) 7 (-1)) 17 0) 21 0) 20 = G.2.2.1 6 := (Eq.trans (eUp_ne (by decide)) (Eq.trans (eUp_ne (by decide)) (Eq.trans (eUp_ne (by decide)) (Eq.trans (eUp_ne (by decide)) (Eq.trans (eUp_ne (by decide)) (Eq.trans (fj 20 (by decide)) (Eq.trans (eUp_ne (by decide)) (Eq.trans (eUp_ne (by decide)) (Eq.trans (eUp_ne (by decide)) (hr.2.2.2.2.2.2.2.2.2.1 6 (by decide))))))))))); exact e9.trans (show (G.2.2.1 6 : Int) = (gNext G).2.2.1 6 by first | rfl | omega)) (by have e9 : (eUp (eUp (eUp (eUp (eUp g2 0 0) 6 0) 7 (-1)) 17 0) 21 0) 21 = 0 := (eUp_eq rfl); exact e9.trans (show (0 : Int) = (gNext G).2.2.1 7 by first | rfl | omega)), fun i hi => absurd hi (by show ¬ (i : Int) < 0; omega)⟩
  · refine eW_aload_n 8 rfl rfl rfl ?_
    refine eW_iconst 9 rfl rfl ?_
    refine eW_iconst 10 rfl rfl ?_
    refine eW_aload_n 11 rfl rfl rfl ?_
    refine eW_callV 14 [.ref 63] [vI 5, vI 1, .ref 63] [vI (gSum (fun j => gWays (gDig G) (G.1 j)) G.2.2.2.1.toNat), vI 5, vI 1, .ref 63] rfl rfl rfl rfl (Nat.ble_eq_true_of_le (by omega)) hm.1 rfl rfl rfl (m_scoopsNow (d := d + 0) hm hN hr hG) rfl rfl ?_
    refine eW_callVH 17 [.ref 63, vI 1, vI 5, vI (gSum (fun j => gWays (gDig G) (G.1 j)) G.2.2.2.1.toNat)] [] [vI 0] rfl rfl rfl rfl (Nat.ble_eq_true_of_le (by omega)) hm.1 rfl rfl rfl (m_refuses (d := d + 2) hm hN ) rfl rfl ?_
    intro h13 fh13
    have hmh13 : mM h13 (sUp (sUp (sUp s 7 1) 8 5) 9 (gSum (fun j => gWays (gDig G) (G.1 j)) G.2.2.2.1.toNat)) A := fh13.1
    have frh13 : mFr h h13 := mFr_t (fun _ _ => rfl) fh13.2
    refine eW_ret_i rfl rfl (Or.inl rfl) ?_
    have ho : oNxt G = (3, 5, gSum (fun j => gWays (gDig G) (G.1 j)) G.2.2.2.1.toNat, G) := by
      exact oNxt_r (by omega)
    refine ⟨_, _, _, _, rfl, hmh13, frh13, ?_⟩
    unfold mOp
    rw [ho]
    refine ⟨rfl, ?_, (fun _ => ⟨rfl, rfl⟩), (fun e => absurd rfl e), (fun e => absurd (show (3 : Int) = 0 from e) (by decide)), (fun _ => ⟨rfl, rfl, rfl⟩), rfl, rfl, rfl, rfl, rfl, rfl, rfl, rfl, rfl, rfl, rfl⟩
    exact hr
theorem m_next_1 {d N : Nat} {h : eHp} {s : Nat → Int} {A : Nat → Nat → Int} (hm : mM h s A) (hN : 75 ≤ N) {c : Int} {G : eGd} (hr : rR G (A 0)) (hI : gI c G) (hw6 : s 6 = 0 ∨ s 6 = 1) (hw5 : 0 ≤ s 5 ∧ s 5 ≤ 8) (hwn : gWin G = 1) : eSp (d + 4) eM_X7_next [.ref 63] N h (mOpQ (oNxt G) cNx (gWin G) s A h N) := by
  refine eSp_of [(0, .ref 63)] rfl rfl ?_
  have hG := hI.1
  have hG9 := hG
  obtain ⟨g1, g2, g3, g4⟩ := hG9
  obtain ⟨n1, n2, n3, n4, n5⟩ := gNext_T hI
  have hw9 := gWin_c (gI_next hI)
  rw [hwn] at n4 n5
  have y0 := n1 0 (by decide) (by decide) (by decide) (by decide) (by decide)
  have y1 := n1 1 (by decide) (by decide) (by decide) (by decide) (by decide)
  have y4 := n1 4 (by decide) (by decide) (by decide) (by decide) (by decide)
  have y5 := n1 5 (by decide) (by decide) (by decide) (by decide) (by decide)
  rw [if_neg (by decide)] at n4
  rw [if_pos rfl] at n5
  have hsc : 0 ≤ gSum (fun j => gWays (gDig G) (G.1 j)) G.2.2.2.1.toNat ∧ gSum (fun j => gWays (gDig G) (G.1 j)) G.2.2.2.1.toNat ≤ 240 * G.2.2.2.1.toNat := gSum_le (fun i hi => by have := gCntT_le (D := gDig G) (n := G.1 i) (g3 i (by omega)).2 6; exact ⟨this.1, by have e : gWays (gDig G) (G.1 i) = gCntT (gDig G) (G.1 i) 6 := rfl; omega⟩)
  refine eW_aload_n 1 rfl rfl rfl ?_
  refine eW_callV 4 [.ref 63] [] [vI (gSum (fun j => gWays (gDig G) (G.1 j)) G.2.2.2.1.toNat)] rfl rfl rfl rfl (Nat.ble_eq_true_of_le (by omega)) hm.1 rfl rfl rfl (m_scoopsNow (d := d + 0) hm hN hr hG) rfl rfl ?_
  refine eW_if_le 7 rfl rfl (by unfold i32; omega) (fun c1 => ?_) (fun c1 => ?_)
  · refine eW_aload_n 19 rfl rfl rfl ?_
    refine eW_aload_n 20 rfl rfl rfl ?_
    refine eW_getfield 23 rfl rfl (Nat.ble_eq_true_of_le (by omega)) rfl hm.1 rfl ⟨rfl, fun _ h9 => nomatch h9⟩ ?_
    refine eW_callVH 26 [.ref 63, .ref 64] [] [] rfl rfl rfl rfl (Nat.ble_eq_true_of_le (by omega)) hm.1 rfl rfl rfl (m_keeps (d := d + 1) hm hN hw6 hw5) rfl rfl ?_
    intro h2 fh2
    obtain ⟨s5, K5, f9h2⟩ := fh2
    obtain ⟨f8h2, hk⟩ := f9h2
    have hmh2 : mM h2 (sUp (sUp s 5 s5) 7 0) (mUp A 1 K5) := f8h2.1
    have frh2 : mFr h h2 := mFr_t (fun _ _ => rfl) f8h2.2
    refine eW_aload_n 27 rfl rfl rfl ?_
    refine eW_getfield 30 rfl rfl (Nat.ble_eq_true_of_le (by omega)) rfl (show h2 63 = .inr (11, [.ref 64, .ref 65, .ref 66, .ref 67, vI (s 4), vI s5, vI (s 6), vI 0, vI (s 8), vI (s 9), .ref 68, vI (s 11), vI (s 12), .ref 69, vI (s 14), .ref 70, .ref 71, vI (s 17), vI (s 18), vI (s 19), vI (s 20), .ref 72, vI (s 22)]) from hmh2.1) rfl ⟨rfl, fun _ h9 => nomatch h9⟩ ?_
    refine eW_bipush 32 rfl rfl 7 rfl ?_
    refine eW_iaload 33 rfl rfl 1 (Nat.ble_eq_true_of_le (by omega)) (show h2 64 = .inl (0, 62, .inl (eIA (A 0))) from hmh2.2.1) (by omega) (by omega) (by unfold i32; omega) (congrArg Int32.ofInt (hr.2.2.2.2.2.2.2.1.trans hwn)) ?_
    refine eW_istore_n 34 rfl rfl [(1, vI 1), (0, .ref 63)] rfl rfl ?_
    refine eW_iload_n 35 rfl rfl rfl ?_
    refine eW_if_lt 38 rfl rfl (by unfold i32; omega) (fun c3 => absurd c3 (by omega)) (fun c3 => ?_)
    refine eW_aload_n 39 rfl rfl rfl ?_
    refine eW_getfield 42 rfl rfl (Nat.ble_eq_true_of_le (by omega)) rfl (show h2 63 = .inr (11, [.ref 64, .ref 65, .ref 66, .ref 67, vI (s 4), vI s5, vI (s 6), vI 0, vI (s 8), vI (s 9), .ref 68, vI (s 11), vI (s 12), .ref 69, vI (s 14), .ref 70, .ref 71, vI (s 17), vI (s 18), vI (s 19), vI (s 20), .ref 72, vI (s 22)]) from hmh2.1) rfl ⟨rfl, fun _ h9 => nomatch h9⟩ ?_
    refine eW_bipush 44 rfl rfl 14 rfl ?_
    refine eW_iconst 45 rfl rfl ?_
    refine eW_iload_n 46 rfl rfl rfl ?_
    refine eW_imul 47 rfl rfl ?_
    refine eW_iadd 48 rfl rfl ?_
    refine eW_iconst 49 rfl rfl ?_
    refine eW_iadd 50 rfl rfl ?_
    refine eW_dup2 51 rfl rfl rfl ?_
    refine eW_iaload 52 rfl rfl (G.2.2.1 6) (Nat.ble_eq_true_of_le (by omega)) (show h2 64 = .inl (0, 62, .inl (eIA (A 0))) from hmh2.2.1) (by omega) (by omega) (by unfold i32; omega) (congrArg Int32.ofInt (hr.2.2.2.2.2.2.2.2.2.1 6 (by decide))) ?_
    refine eW_iconst 53 rfl rfl ?_
    refine eW_iadd 54 rfl rfl ?_
    refine eW_iastore 55 rfl rfl (Nat.ble_eq_true_of_le (by omega)) (show h2 64 = .inl (0, 62, .inl (eIA (A 0))) from hmh2.2.1) (by omega) (by omega) (by unfold i32; omega) rfl ?_
    intro h4 eh4 oh4
    have hmh4 : mM h4 (sUp (sUp s 5 s5) 7 0) (mUp (mUp A 0 (eUp (A 0) 20 ((G.2.2.1 6) + 1))) 1 K5) := mM_0 hmh2 eh4 oh4 ⟨rfl, rfl, rfl, rfl, rfl, rfl, rfl, rfl⟩
    have frh4 : mFr h h4 := mFr_a frh2 (by decide) oh4
    refine eW_aload_n 56 rfl rfl rfl ?_
    refine eW_getfield 59 rfl rfl (Nat.ble_eq_true_of_le (by omega)) rfl (show h4 63 = .inr (11, [.ref 64, .ref 65, .ref 66, .ref 67, vI (s 4), vI s5, vI (s 6), vI 0, vI (s 8), vI (s 9), .ref 68, vI (s 11), vI (s 12), .ref 69, vI (s 14), .ref 70, .ref 71, vI (s 17), vI (s 18), vI (s 19), vI (s 20), .ref 72, vI (s 22)]) from hmh4.1) rfl ⟨rfl, fun _ h9 => nomatch h9⟩ ?_
    refine eW_iconst 60 rfl rfl ?_
    refine eW_dup2 61 rfl rfl rfl ?_
    refine eW_iaload 62 rfl rfl G.2.2.2.2.2.2.2 (Nat.ble_eq_true_of_le (by omega)) (show h4 64 = .inl (0, 62, .inl (eIA (eUp (A 0) 20 ((G.2.2.1 6) + 1)))) from hmh4.2.1) (by omega) (by omega) (by unfold i32; omega) (congrArg Int32.ofInt (Eq.trans (eUp_ne (by decide)) hr.2.2.2.2.2.1)) ?_
    refine eW_iconst 63 rfl rfl ?_
    refine eW_iadd 64 rfl rfl ?_
    refine eW_iastore 65 rfl rfl (Nat.ble_eq_true_of_le (by omega)) (show h4 64 = .inl (0, 62, .inl (eIA (eUp (A 0) 20 ((G.2.2.1 6) + 1)))) from hmh4.2.1) (by omega) (by omega) (by unfold i32; omega) rfl ?_
    intro h5 eh5 oh5
    have hmh5 : mM h5 (sUp (sUp s 5 s5) 7 0) (mUp (mUp A 0 (eUp (eUp (A 0) 20 ((G.2.2.1 6) + 1)) 5 (G.2.2.2.2.2.2.2 + 1))) 1 K5) := mM_0 hmh4 eh5 oh5 ⟨rfl, rfl, rfl, rfl, rfl, rfl, rfl, rfl⟩
    have frh5 : mFr h h5 := mFr_a frh4 (by decide) oh5
    refine eW_aload_n 66 rfl rfl rfl ?_
    refine eW_getfield 69 rfl rfl (Nat.ble_eq_true_of_le (by omega)) rfl (show h5 63 = .inr (11, [.ref 64, .ref 65, .ref 66, .ref 67, vI (s 4), vI s5, vI (s 6), vI 0, vI (s 8), vI (s 9), .ref 68, vI (s 11), vI (s 12), .ref 69, vI (s 14), .ref 70, .ref 71, vI (s 17), vI (s 18), vI (s 19), vI (s 20), .ref 72, vI (s 22)]) from hmh5.1) rfl ⟨rfl, fun _ h9 => nomatch h9⟩ ?_
    refine eW_iconst 70 rfl rfl ?_
    refine eW_dup2 71 rfl rfl rfl ?_
    refine eW_iaload 72 rfl rfl G.2.2.2.2.2.2.1 (Nat.ble_eq_true_of_le (by omega)) (show h5 64 = .inl (0, 62, .inl (eIA (eUp (eUp (A 0) 20 ((G.2.2.1 6) + 1)) 5 (G.2.2.2.2.2.2.2 + 1)))) from hmh5.2.1) (by omega) (by omega) (by unfold i32; omega) (congrArg Int32.ofInt (Eq.trans (eUp_ne (by decide)) (Eq.trans (eUp_ne (by decide)) hr.2.2.2.2.1))) ?_
    refine eW_aload_n 73 rfl rfl rfl ?_
    refine eW_callV 76 [.ref 63] [vI G.2.2.2.2.2.2.1, vI 4, .ref 64] [vI (gSum G.1 G.2.2.2.1.toNat), vI G.2.2.2.2.2.2.1, vI 4, .ref 64] rfl rfl rfl rfl (Nat.ble_eq_true_of_le (by omega)) (show h5 63 = .inr (11, [.ref 64, .ref 65, .ref 66, .ref 67, vI (s 4), vI s5, vI (s 6), vI 0, vI (s 8), vI (s 9), .ref 68, vI (s 11), vI (s 12), .ref 69, vI (s 14), .ref 70, .ref 71, vI (s 17), vI (s 18), vI (s 19), vI (s 20), .ref 72, vI (s 22)]) from hmh5.1) rfl rfl rfl (m_all (d := d + 1) (G := gGm G (eUp G.2.2.1 6 (G.2.2.1 6 + 1))) hmh5 hN (rR_gk (k := 6) (by decide) hr) ⟨g1, g2, g3, g4⟩) rfl rfl ?_
    refine eW_iadd 77 rfl rfl ?_
    refine eW_iastore 78 rfl rfl (Nat.ble_eq_true_of_le (by omega)) (show h5 64 = .inl (0, 62, .inl (eIA (eUp (eUp (A 0) 20 ((G.2.2.1 6) + 1)) 5 (G.2.2.2.2.2.2.2 + 1)))) from hmh5.2.1) (by omega) (by omega) (by unfold i32; omega) rfl ?_
    intro h6 eh6 oh6
    have hmh6 : mM h6 (sUp (sUp s 5 s5) 7 0) (mUp (mUp A 0 (eUp (eUp (eUp (A 0) 20 ((G.2.2.1 6) + 1)) 5 (G.2.2.2.2.2.2.2 + 1)) 4 (G.2.2.2.2.2.2.1 + (gSum G.1 G.2.2.2.1.toNat)))) 1 K5) := mM_0 hmh5 eh6 oh6 ⟨rfl, rfl, rfl, rfl, rfl, rfl, rfl, rfl⟩
    have frh6 : mFr h h6 := mFr_a frh5 (by decide) oh6
    refine eW_iconst 79 rfl rfl ?_
    refine eW_istore_n 80 rfl rfl [(2, vI 0), (1, vI 1), (0, .ref 63)] rfl rfl ?_
    refine eW_re [(0, .ref 63), (1, vI 1), (2, vI 0)] rfl rfl (List.forall_mem_cons.mpr ⟨rfl, List.forall_mem_cons.mpr ⟨rfl, List.forall_mem_cons.mpr ⟨rfl, fun _ h => absurd h List.not_mem_nil⟩⟩⟩) (List.forall_mem_cons.mpr ⟨Or.inl rfl, List.forall_mem_cons.mpr ⟨Or.inl rfl, List.forall_mem_cons.mpr ⟨Or.inl rfl, fun _ h => absurd h List.not_mem_nil⟩⟩⟩) ?_
    refine m_next_l (h0 := h) (A := (mUp A 1 K5)) (g1 := eUp (eUp (eUp (A 0) 20 ((G.2.2.1 6) + 1)) 5 (G.2.2.2.2.2.2.2 + 1)) 4 (G.2.2.2.2.2.2.1 + (gSum G.1 G.2.2.2.1.toNat))) hN _ 0 (eUp (eUp (eUp (A 0) 20 ((G.2.2.1 6) + 1)) 5 (G.2.2.2.2.2.2.2 + 1)) 4 (G.2.2.2.2.2.2.1 + (gSum G.1 G.2.2.2.1.toNat))) h6 (Int.self_le_toNat _) (by omega) hmh6 frh6 (fun _ _ => rfl) (fun g2 h7 r1 r2 fj => ?_)
    refine eW_aload_n 103 rfl rfl rfl ?_
    refine eW_getfield 106 rfl rfl (Nat.ble_eq_true_of_le (by omega)) rfl (show h7 63 = .inr (11, [.ref 64, .ref 65, .ref 66, .ref 67, vI (s 4), vI s5, vI (s 6), vI 0, vI (s 8), vI (s 9), .ref 68, vI (s 11), vI (s 12), .ref 69, vI (s 14), .ref 70, .ref 71, vI (s 17), vI (s 18), vI (s 19), vI (s 20), .ref 72, vI (s 22)]) from r1.1) rfl ⟨rfl, fun _ h9 => nomatch h9⟩ ?_
    refine eW_iconst 107 rfl rfl ?_
    refine eW_iconst 108 rfl rfl ?_
    refine eW_iastore 109 rfl rfl (Nat.ble_eq_true_of_le (by omega)) (show h7 64 = .inl (0, 62, .inl (eIA g2)) from r1.2.1) (by omega) (by omega) (by unfold i32; omega) rfl ?_
    intro h8 eh8 oh8
    have hmh8 : mM h8 (sUp (sUp s 5 s5) 7 0) (mUp (mUp A 0 (eUp g2 0 0)) 1 K5) := mM_0 r1 eh8 oh8 ⟨rfl, rfl, rfl, rfl, rfl, rfl, rfl, rfl⟩
    have frh8 : mFr h h8 := mFr_a r2 (by decide) oh8
    refine eW_aload_n 110 rfl rfl rfl ?_
    refine eW_getfield 113 rfl rfl (Nat.ble_eq_true_of_le (by omega)) rfl (show h8 63 = .inr (11, [.ref 64, .ref 65, .ref 66, .ref 67, vI (s 4), vI s5, vI (s 6), vI 0, vI (s 8), vI (s 9), .ref 68, vI (s 11), vI (s 12), .ref 69, vI (s 14), .ref 70, .ref 71, vI (s 17), vI (s 18), vI (s 19), vI (s 20), .ref 72, vI (s 22)]) from hmh8.1) rfl ⟨rfl, fun _ h9 => nomatch h9⟩ ?_
    refine eW_bipush 115 rfl rfl 6 rfl ?_
    refine eW_iconst 116 rfl rfl ?_
    refine eW_iastore 117 rfl rfl (Nat.ble_eq_true_of_le (by omega)) (show h8 64 = .inl (0, 62, .inl (eIA (eUp g2 0 0))) from hmh8.2.1) (by omega) (by omega) (by unfold i32; omega) rfl ?_
    intro h9 eh9 oh9
    have hmh9 : mM h9 (sUp (sUp s 5 s5) 7 0) (mUp (mUp A 0 (eUp (eUp g2 0 0) 6 0)) 1 K5) := mM_0 hmh8 eh9 oh9 ⟨rfl, rfl, rfl, rfl, rfl, rfl, rfl, rfl⟩
    have frh9 : mFr h h9 := mFr_a frh8 (by decide) oh9
    refine eW_aload_n 118 rfl rfl rfl ?_
    refine eW_getfield 121 rfl rfl (Nat.ble_eq_true_of_le (by omega)) rfl (show h9 63 = .inr (11, [.ref 64, .ref 65, .ref 66, .ref 67, vI (s 4), vI s5, vI (s 6), vI 0, vI (s 8), vI (s 9), .ref 68, vI (s 11), vI (s 12), .ref 69, vI (s 14), .ref 70, .ref 71, vI (s 17), vI (s 18), vI (s 19), vI (s 20), .ref 72, vI (s 22)]) from hmh9.1) rfl ⟨rfl, fun _ h9 => nomatch h9⟩ ?_
    refine eW_bipush 123 rfl rfl 7 rfl ?_
    refine eW_iconst 124 rfl rfl ?_
    refine eW_iastore 125 rfl rfl (Nat.ble_eq_true_of_le (by omega)) (show h9 64 = .inl (0, 62, .inl (eIA (eUp (eUp g2 0 0) 6 0))) from hmh9.2.1) (by omega) (by omega) (by unfold i32; omega) rfl ?_
    intro h10 eh10 oh10
    have hmh10 : mM h10 (sUp (sUp s 5 s5) 7 0) (mUp (mUp A 0 (eUp (eUp (eUp g2 0 0) 6 0) 7 (-1))) 1 K5) := mM_0 hmh9 eh10 oh10 ⟨rfl, rfl, rfl, rfl, rfl, rfl, rfl, rfl⟩
    have frh10 : mFr h h10 := mFr_a frh9 (by decide) oh10
    refine eW_aload_n 126 rfl rfl rfl ?_
    refine eW_getfield 129 rfl rfl (Nat.ble_eq_true_of_le (by omega)) rfl (show h10 63 = .inr (11, [.ref 64, .ref 65, .ref 66, .ref 67, vI (s 4), vI s5, vI (s 6), vI 0, vI (s 8), vI (s 9), .ref 68, vI (s 11), vI (s 12), .ref 69, vI (s 14), .ref 70, .ref 71, vI (s 17), vI (s 18), vI (s 19), vI (s 20), .ref 72, vI (s 22)]) from hmh10.1) rfl ⟨rfl, fun _ h9 => nomatch h9⟩ ?_
    refine eW_bipush 131 rfl rfl 17 rfl ?_
    refine eW_iconst 132 rfl rfl ?_
    refine eW_iastore 133 rfl rfl (Nat.ble_eq_true_of_le (by omega)) (show h10 64 = .inl (0, 62, .inl (eIA (eUp (eUp (eUp g2 0 0) 6 0) 7 (-1)))) from hmh10.2.1) (by omega) (by omega) (by unfold i32; omega) rfl ?_
    intro h11 eh11 oh11
    have hmh11 : mM h11 (sUp (sUp s 5 s5) 7 0) (mUp (mUp A 0 (eUp (eUp (eUp (eUp g2 0 0) 6 0) 7 (-1)) 17 0)) 1 K5) := mM_0 hmh10 eh11 oh11 ⟨rfl, rfl, rfl, rfl, rfl, rfl, rfl, rfl⟩
    have frh11 : mFr h h11 := mFr_a frh10 (by decide) oh11
    refine eW_aload_n 134 rfl rfl rfl ?_
    refine eW_getfield 137 rfl rfl (Nat.ble_eq_true_of_le (by omega)) rfl (show h11 63 = .inr (11, [.ref 64, .ref 65, .ref 66, .ref 67, vI (s 4), vI s5, vI (s 6), vI 0, vI (s 8), vI (s 9), .ref 68, vI (s 11), vI (s 12), .ref 69, vI (s 14), .ref 70, .ref 71, vI (s 17), vI (s 18), vI (s 19), vI (s 20), .ref 72, vI (s 22)]) from hmh11.1) rfl ⟨rfl, fun _ h9 => nomatch h9⟩ ?_
    refine eW_bipush 139 rfl rfl 21 rfl ?_
    refine eW_iconst 140 rfl rfl ?_
    refine eW_iastore 141 rfl rfl (Nat.ble_eq_true_of_le (by omega)) (show h11 64 = .inl (0, 62, .inl (eIA (eUp (eUp (eUp (eUp g2 0 0) 6 0) 7 (-1)) 17 0))) from hmh11.2.1) (by omega) (by omega) (by unfold i32; omega) rfl ?_
    intro h12 eh12 oh12
    have hmh12 : mM h12 (sUp (sUp s 5 s5) 7 0) (mUp (mUp A 0 (eUp (eUp (eUp (eUp (eUp g2 0 0) 6 0) 7 (-1)) 17 0) 21 0)) 1 K5) := mM_0 hmh11 eh12 oh12 ⟨rfl, rfl, rfl, rfl, rfl, rfl, rfl, rfl⟩
    have frh12 : mFr h h12 := mFr_a frh11 (by decide) oh12
    refine eW_iload_n 142 rfl rfl rfl ?_
    refine eW_ret_i rfl rfl (Or.inl rfl) ?_
    have ho : oNxt G = (0, 0, 0, gNext G) := by
      exact oNxt_f (by omega)
    refine ⟨_, _, _, _, rfl, hmh12, frh12, ?_⟩
    unfold mOp
    rw [ho]
    refine ⟨rfl, ?_, (fun e => absurd (show (0 : Int) = 3 from e) (by decide)), (fun _ => ⟨rfl, rfl⟩), (fun _ => ⟨hk, hwn.symm⟩), (fun e => absurd rfl e), rfl, rfl, rfl, rfl, rfl, rfl, rfl, rfl, rfl, rfl, rfl⟩
    show rR (gNext G) (eUp (eUp (eUp (eUp (eUp g2 0 0) 6 0) 7 (-1)) 17 0) 21 0)
    refine ⟨(by have e9 : (eUp (eUp (eUp (eUp (eUp g2 0 0) 6 0) 7 (-1)) 17 0) 21 0) 0 = 0 := (Eq.trans (eUp_ne (by decide)) (Eq.trans (eUp_ne (by decide)) (Eq.trans (eUp_ne (by decide)) (Eq.trans (eUp_ne (by decide)) (eUp_eq rfl))))); exact e9.trans (show (0 : Int) = 0 by first | rfl | omega)), (Eq.trans (eUp_ne (by decide)) (Eq.trans (eUp_ne (by decide)) (Eq.trans (eUp_ne (by decide)) (Eq.trans (eUp_ne (by decide)) (Eq.trans (eUp_ne (by decide)) (Eq.trans (fj 1 (by decide)) (Eq.trans (eUp_ne (by decide)) (Eq.trans (eUp_ne (by decide)) (Eq.trans (eUp_ne (by decide)) hr.2.1))))))))), (Eq.trans (eUp_ne (by decide)) (Eq.trans (eUp_ne (by decide)) (Eq.trans (eUp_ne (by decide)) (Eq.trans (eUp_ne (by decide)) (Eq.trans (eUp_ne (by decide)) (Eq.trans (fj 2 (by decide)) (Eq.trans (eUp_ne (by decide)) (Eq.trans (eUp_ne (by decide)) (Eq.trans (eUp_ne (by decide)) hr.2.2.1))))))))), (by have e9 : (eUp (eUp (eUp (eUp (eUp g2 0 0) 6 0) 7 (-1)) 17 0) 21 0) 3 = (G.2.2.1 1 + G.2.2.1 5) := (Eq.trans (eUp_ne (by decide)) (Eq.trans (eUp_ne (by decide)) (Eq.trans (eUp_ne (by decide)) (Eq.trans (eUp_ne (by decide)) (Eq.trans (eUp_ne (by decide)) (Eq.trans (fj 3 (by decide)) (Eq.trans (eUp_ne (by decide)) (Eq.trans (eUp_ne (by decide)) (Eq.trans (eUp_ne (by decide)) hr.2.2.2.1))))))))); exact e9.trans (show ((G.2.2.1 1 + G.2.2.1 5) : Int) = (gNext G).2.2.1 1 + (gNext G).2.2.1 5 by first | rfl | omega)), (by have e9 : (eUp (eUp (eUp (eUp (eUp g2 0 0) 6 0) 7 (-1)) 17 0) 21 0) 4 = G.2.2.2.2.2.2.1 + (gSum G.1 G.2.2.2.1.toNat) := (Eq.trans (eUp_ne (by decide)) (Eq.trans (eUp_ne (by decide)) (Eq.trans (eUp_ne (by decide)) (Eq.trans (eUp_ne (by decide)) (Eq.trans (eUp_ne (by decide)) (Eq.trans (fj 4 (by decide)) (eUp_eq rfl))))))); exact e9.trans (show (G.2.2.2.2.2.2.1 + (gSum G.1 G.2.2.2.1.toNat) : Int) = G.2.2.2.2.2.2.1 + gSum G.1 G.2.2.2.1.toNat by first | rfl | omega)), (Eq.trans (eUp_ne (by decide)) (Eq.trans (eUp_ne (by decide)) (Eq.trans (eUp_ne (by decide)) (Eq.trans (eUp_ne (by decide)) (Eq.trans (eUp_ne (by decide)) (Eq.trans (fj 5 (by decide)) (Eq.trans (eUp_ne (by decide)) (eUp_eq rfl)))))))), (by have e9 : (eUp (eUp (eUp (eUp (eUp g2 0 0) 6 0) 7 (-1)) 17 0) 21 0) 6 = 0 := (Eq.trans (eUp_ne (by decide)) (Eq.trans (eUp_ne (by decide)) (Eq.trans (eUp_ne (by decide)) (eUp_eq rfl)))); exact e9.trans (show (0 : Int) = (gNext G).2.2.1 3 + (gNext G).2.2.1 7 by first | rfl | omega)), (by have e9 : (eUp (eUp (eUp (eUp (eUp g2 0 0) 6 0) 7 (-1)) 17 0) 21 0) 7 = -1 := (Eq.trans (eUp_ne (by decide)) (Eq.trans (eUp_ne (by decide)) (eUp_eq rfl))); exact e9.trans (show (-1 : Int) = gWin (gNext G) by first | rfl | omega)), eL6 (Eq.trans (eUp_ne (by decide)) (Eq.trans (eUp_ne (by decide)) (Eq.trans (eUp_ne (by decide)) (Eq.trans (eUp_ne (by decide)) (Eq.trans (eUp_ne (by decide)) (Eq.trans (fj 8 (by decide)) (Eq.trans (eUp_ne (by decide)) (Eq.trans (eUp_ne (by decide)) (Eq.trans (eUp_ne (by decide)) (hr.2.2.2.2.2.2.2.2.1 0 (by decide))))))))))) (Eq.trans (eUp_ne (by decide)) (Eq.trans (eUp_ne (by decide)) (Eq.trans (eUp_ne (by decide)) (Eq.trans (eUp_ne (by decide)) (Eq.trans (eUp_ne (by decide)) (Eq.trans (fj 9 (by decide)) (Eq.trans (eUp_ne (by decide)) (Eq.trans (eUp_ne (by decide)) (Eq.trans (eUp_ne (by decide)) (hr.2.2.2.2.2.2.2.2.1 1 (by decide))))))))))) (Eq.trans (eUp_ne (by decide)) (Eq.trans (eUp_ne (by decide)) (Eq.trans (eUp_ne (by decide)) (Eq.trans (eUp_ne (by decide)) (Eq.trans (eUp_ne (by decide)) (Eq.trans (fj 10 (by decide)) (Eq.trans (eUp_ne (by decide)) (Eq.trans (eUp_ne (by decide)) (Eq.trans (eUp_ne (by decide)) (hr.2.2.2.2.2.2.2.2.1 2 (by decide))))))))))) (Eq.trans (eUp_ne (by decide)) (Eq.trans (eUp_ne (by decide)) (Eq.trans (eUp_ne (by decide)) (Eq.trans (eUp_ne (by decide)) (Eq.trans (eUp_ne (by decide)) (Eq.trans (fj 11 (by decide)) (Eq.trans (eUp_ne (by decide)) (Eq.trans (eUp_ne (by decide)) (Eq.trans (eUp_ne (by decide)) (hr.2.2.2.2.2.2.2.2.1 3 (by decide))))))))))) (Eq.trans (eUp_ne (by decide)) (Eq.trans (eUp_ne (by decide)) (Eq.trans (eUp_ne (by decide)) (Eq.trans (eUp_ne (by decide)) (Eq.trans (eUp_ne (by decide)) (Eq.trans (fj 12 (by decide)) (Eq.trans (eUp_ne (by decide)) (Eq.trans (eUp_ne (by decide)) (Eq.trans (eUp_ne (by decide)) (hr.2.2.2.2.2.2.2.2.1 4 (by decide))))))))))) (Eq.trans (eUp_ne (by decide)) (Eq.trans (eUp_ne (by decide)) (Eq.trans (eUp_ne (by decide)) (Eq.trans (eUp_ne (by decide)) (Eq.trans (eUp_ne (by decide)) (Eq.trans (fj 13 (by decide)) (Eq.trans (eUp_ne (by decide)) (Eq.trans (eUp_ne (by decide)) (Eq.trans (eUp_ne (by decide)) (hr.2.2.2.2.2.2.2.2.1 5 (by decide))))))))))), eL8 (by have e9 : (eUp (eUp (eUp (eUp (eUp g2 0 0) 6 0) 7 (-1)) 17 0) 21 0) 14 = G.2.2.1 0 := (Eq.trans (eUp_ne (by decide)) (Eq.trans (eUp_ne (by decide)) (Eq.trans (eUp_ne (by decide)) (Eq.trans (eUp_ne (by decide)) (Eq.trans (eUp_ne (by decide)) (Eq.trans (fj 14 (by decide)) (Eq.trans (eUp_ne (by decide)) (Eq.trans (eUp_ne (by decide)) (Eq.trans (eUp_ne (by decide)) (hr.2.2.2.2.2.2.2.2.2.1 0 (by decide))))))))))); exact e9.trans (show (G.2.2.1 0 : Int) = (gNext G).2.2.1 0 by first | rfl | omega)) (by have e9 : (eUp (eUp (eUp (eUp (eUp g2 0 0) 6 0) 7 (-1)) 17 0) 21 0) 15 = G.2.2.1 1 := (Eq.trans (eUp_ne (by decide)) (Eq.trans (eUp_ne (by decide)) (Eq.trans (eUp_ne (by decide)) (Eq.trans (eUp_ne (by decide)) (Eq.trans (eUp_ne (by decide)) (Eq.trans (fj 15 (by decide)) (Eq.trans (eUp_ne (by decide)) (Eq.trans (eUp_ne (by decide)) (Eq.trans (eUp_ne (by decide)) (hr.2.2.2.2.2.2.2.2.2.1 1 (by decide))))))))))); exact e9.trans (show (G.2.2.1 1 : Int) = (gNext G).2.2.1 1 by first | rfl | omega)) (by have e9 : (eUp (eUp (eUp (eUp (eUp g2 0 0) 6 0) 7 (-1)) 17 0) 21 0) 16 = G.2.2.1 2 := (Eq.trans (eUp_ne (by decide)) (Eq.trans (eUp_ne (by decide)) (Eq.trans (eUp_ne (by decide)) (Eq.trans (eUp_ne (by decide)) (Eq.trans (eUp_ne (by decide)) (Eq.trans (fj 16 (by decide)) (Eq.trans (eUp_ne (by decide)) (Eq.trans (eUp_ne (by decide)) (Eq.trans (eUp_ne (by decide)) (hr.2.2.2.2.2.2.2.2.2.1 2 (by decide))))))))))); exact e9.trans (show (G.2.2.1 2 : Int) = (gNext G).2.2.1 2 by first | rfl | omega)) (by have e9 : (eUp (eUp (eUp (eUp (eUp g2 0 0) 6 0) 7 (-1)) 17 0) 21 0) 17 = 0 := (Eq.trans (eUp_ne (by decide)) (eUp_eq rfl)); exact e9.trans (show (0 : Int) = (gNext G).2.2.1 3 by first | rfl | omega)) (by have e9 : (eUp (eUp (eUp (eUp (eUp g2 0 0) 6 0) 7 (-1)) 17 0) 21 0) 18 = G.2.2.1 4 := (Eq.trans (eUp_ne (by decide)) (Eq.trans (eUp_ne (by decide)) (Eq.trans (eUp_ne (by decide)) (Eq.trans (eUp_ne (by decide)) (Eq.trans (eUp_ne (by decide)) (Eq.trans (fj 18 (by decide)) (Eq.trans (eUp_ne (by decide)) (Eq.trans (eUp_ne (by decide)) (Eq.trans (eUp_ne (by decide)) (hr.2.2.2.2.2.2.2.2.2.1 4 (by decide))))))))))); exact e9.trans (show (G.2.2.1 4 : Int) = (gNext G).2.2.1 4 by first | rfl | omega)) (by have e9 : (eUp (eUp (eUp (eUp (eUp g2 0 0) 6 0) 7 (-1)) 17 0) 21 0) 19 = G.2.2.1 5 := (Eq.trans (eUp_ne (by decide)) (Eq.trans (eUp_ne (by decide)) (Eq.trans (eUp_ne (by decide)) (Eq.trans (eUp_ne (by decide)) (Eq.trans (eUp_ne (by decide)) (Eq.trans (fj 19 (by decide)) (Eq.trans (eUp_ne (by decide)) (Eq.trans (eUp_ne (by decide)) (Eq.trans (eUp_ne (by decide)) (hr.2.2.2.2.2.2.2.2.2.1 5 (by decide))))))))))); exact e9.trans (show (G.2.2.1 5 : Int) = (gNext G).2.2.1 5 by first | rfl | omega)) (by have e9 : (eUp (eUp (eUp (eUp (eUp g2 0 0) 6 0) 7 (-1)) 17 0) 21 0) 20 = (G.2.2.1 6) + 1 := (Eq.trans (eUp_ne (by decide)) (Eq.trans (eUp_ne (by decide)) (Eq.trans (eUp_ne (by decide)) (Eq.trans (eUp_ne (by decide)) (Eq.trans (eUp_ne (by decide)) (Eq.trans (fj 20 (by decide)) (Eq.trans (eUp_ne (by decide)) (Eq.trans (eUp_ne (by decide)) (eUp_eq rfl))))))))); exact e9.trans (show ((G.2.2.1 6) + 1 : Int) = (gNext G).2.2.1 6 by first | rfl | omega)) (by have e9 : (eUp (eUp (eUp (eUp (eUp g2 0 0) 6 0) 7 (-1)) 17 0) 21 0) 21 = 0 := (eUp_eq rfl); exact e9.trans (show (0 : Int) = (gNext G).2.2.1 7 by first | rfl | omega)), fun i hi => absurd hi (by show ¬ (i : Int) < 0; omega)⟩
  · refine eW_aload_n 8 rfl rfl rfl ?_
    refine eW_iconst 9 rfl rfl ?_
    refine eW_iconst 10 rfl rfl ?_
    refine eW_aload_n 11 rfl rfl rfl ?_
    refine eW_callV 14 [.ref 63] [vI 5, vI 1, .ref 63] [vI (gSum (fun j => gWays (gDig G) (G.1 j)) G.2.2.2.1.toNat), vI 5, vI 1, .ref 63] rfl rfl rfl rfl (Nat.ble_eq_true_of_le (by omega)) hm.1 rfl rfl rfl (m_scoopsNow (d := d + 0) hm hN hr hG) rfl rfl ?_
    refine eW_callVH 17 [.ref 63, vI 1, vI 5, vI (gSum (fun j => gWays (gDig G) (G.1 j)) G.2.2.2.1.toNat)] [] [vI 0] rfl rfl rfl rfl (Nat.ble_eq_true_of_le (by omega)) hm.1 rfl rfl rfl (m_refuses (d := d + 2) hm hN ) rfl rfl ?_
    intro h13 fh13
    have hmh13 : mM h13 (sUp (sUp (sUp s 7 1) 8 5) 9 (gSum (fun j => gWays (gDig G) (G.1 j)) G.2.2.2.1.toNat)) A := fh13.1
    have frh13 : mFr h h13 := mFr_t (fun _ _ => rfl) fh13.2
    refine eW_ret_i rfl rfl (Or.inl rfl) ?_
    have ho : oNxt G = (3, 5, gSum (fun j => gWays (gDig G) (G.1 j)) G.2.2.2.1.toNat, G) := by
      exact oNxt_r (by omega)
    refine ⟨_, _, _, _, rfl, hmh13, frh13, ?_⟩
    unfold mOp
    rw [ho]
    refine ⟨rfl, ?_, (fun _ => ⟨rfl, rfl⟩), (fun e => absurd rfl e), (fun e => absurd (show (3 : Int) = 0 from e) (by decide)), (fun _ => ⟨rfl, rfl, rfl⟩), rfl, rfl, rfl, rfl, rfl, rfl, rfl, rfl, rfl, rfl, rfl⟩
    exact hr
theorem m_next {d N : Nat} {h : eHp} {s : Nat → Int} {A : Nat → Nat → Int} (hm : mM h s A) (hN : 75 ≤ N) {c : Int} {G : eGd} (hr : rR G (A 0)) (hI : gI c G) (hw6 : s 6 = 0 ∨ s 6 = 1) (hw5 : 0 ≤ s 5 ∧ s 5 ≤ 8) : eSp (d + 4) eM_X7_next [.ref 63] N h (mOpQ (oNxt G) cNx (gWin G) s A h N) := by
  have h1 := gWin_c hI
  have h2 := hI.2.1
  rcases (show gWin G = (-1) ∨ gWin G = 0 ∨ gWin G = 1 by omega) with h9 | h9 | h9
  · exact m_next_n hm hN hr hI hw6 hw5 h9
  · exact m_next_0 hm hN hr hI hw6 hw5 h9
  · exact m_next_1 hm hN hr hI hw6 hw5 h9
/-- the model after something: what it answers and how it stands -/
def mAft (R : (Nat → Int) → (Nat → Nat → Int) → Int → Prop) (h : eHp) (N : Nat) : eR → Prop := fun q => ∃ h' s' A' x, q = (.inl (some (vI x)), N, h', 0, 0) ∧ mM h' s' A' ∧ mFr h h' ∧ R s' A' x
theorem m_undo {d N : Nat} {h : eHp} {s : Nat → Int} {A : Nat → Nat → Int} (hm : mM h s A) (hN : 75 ≤ N) (hw5 : 0 ≤ s 5 ∧ s 5 ≤ 8) : eSp (d + 2) eM_X7_undo [.ref 63] N h (mAft (fun s' A' x => (s 5 = 0 → s' 7 = 1 ∧ s' 5 = s 5 ∧ A' 0 = A 0) ∧ (s 5 ≠ 0 → s' 7 = 0 ∧ s' 5 = s 5 - 1 ∧ x = s 5 - 1 ∧ A' 0 = eCp (A 1) (A 0) (62 * (s 5 - 1)).toNat 0 62) ∧ A' 1 = A 1 ∧ A' 2 = A 2 ∧ A' 3 = A 3 ∧ A' 4 = A 4 ∧ A' 5 = A 5 ∧ s' 4 = s 4 ∧ s' 6 = s 6 ∧ s' 8 = s 8 ∧ s' 9 = s 9 ∧ s' 11 = s 11 ∧ s' 12 = s 12 ∧ s' 14 = s 14) h N) := by
  refine eSp_of [(0, .ref 63)] rfl rfl ?_
  refine eW_aload_n 1 rfl rfl rfl ?_
  refine eW_aload_n 2 rfl rfl rfl ?_
  refine eW_getfield 5 rfl rfl (Nat.ble_eq_true_of_le (by omega)) rfl hm.1 rfl ⟨rfl, fun _ h9 => nomatch h9⟩ ?_
  refine eW_if_ne 8 rfl rfl (by unfold i32; omega) (fun c1 => ?_) (fun c1 => ?_)
  · refine eW_iconst 13 rfl rfl ?_
    have hflq2 := eD_c ((0 : Int) < 0)
    refine eW_callVH 16 [.ref 63, vI 0] [] [vI (eB01 (decide ((0 : Int) < 0)))] rfl rfl rfl rfl (Nat.ble_eq_true_of_le (by omega)) hm.1 rfl rfl rfl (m_fails (d := d + 0) hm hN (by unfold i32; omega)) rfl rfl ?_
    intro h3 fh3
    have hmh3 : mM h3 (sUp s 7 0) A := fh3.1
    have frh3 : mFr h h3 := mFr_t (fun _ _ => rfl) fh3.2
    refine eW_if_eq 19 rfl rfl (by unfold i32; omega) (fun c4 => ?_) (fun c4 => ?_)
    · refine eW_aload_n 22 rfl rfl rfl ?_
      refine eW_dup 23 rfl rfl rfl ?_
      refine eW_getfield 26 rfl rfl (Nat.ble_eq_true_of_le (by omega)) rfl (show h3 63 = .inr (11, [.ref 64, .ref 65, .ref 66, .ref 67, vI (s 4), vI (s 5), vI (s 6), vI 0, vI (s 8), vI (s 9), .ref 68, vI (s 11), vI (s 12), .ref 69, vI (s 14), .ref 70, .ref 71, vI (s 17), vI (s 18), vI (s 19), vI (s 20), .ref 72, vI (s 22)]) from hmh3.1) rfl ⟨rfl, fun _ h9 => nomatch h9⟩ ?_
      refine eW_iconst 27 rfl rfl ?_
      refine eW_isub 28 rfl rfl ?_
      refine eW_putfield 31 [.ref 64, .ref 65, .ref 66, .ref 67, vI (s 4), vI ((s 5) - 1), vI (s 6), vI 0, vI (s 8), vI (s 9), .ref 68, vI (s 11), vI (s 12), .ref 69, vI (s 14), .ref 70, .ref 71, vI (s 17), vI (s 18), vI (s 19), vI (s 20), .ref 72, vI (s 22)] rfl rfl (Nat.ble_eq_true_of_le (by omega)) rfl (show h3 63 = .inr (11, [.ref 64, .ref 65, .ref 66, .ref 67, vI (s 4), vI (s 5), vI (s 6), vI 0, vI (s 8), vI (s 9), .ref 68, vI (s 11), vI (s 12), .ref 69, vI (s 14), .ref 70, .ref 71, vI (s 17), vI (s 18), vI (s 19), vI (s 20), .ref 72, vI (s 22)]) from hmh3.1) rfl rfl ?_
      intro h5 eh5 oh5
      have hmh5 : mM h5 (sUp (sUp s 5 ((s 5) - 1)) 7 0) A := mM_s (s := (sUp s 7 0)) hmh3 eh5 oh5
      have frh5 : mFr h h5 := mFr_s frh3 oh5
      refine eW_aload_n 32 rfl rfl rfl ?_
      refine eW_getfield 35 rfl rfl (Nat.ble_eq_true_of_le (by omega)) rfl (show h5 63 = .inr (11, [.ref 64, .ref 65, .ref 66, .ref 67, vI (s 4), vI ((s 5) - 1), vI (s 6), vI 0, vI (s 8), vI (s 9), .ref 68, vI (s 11), vI (s 12), .ref 69, vI (s 14), .ref 70, .ref 71, vI (s 17), vI (s 18), vI (s 19), vI (s 20), .ref 72, vI (s 22)]) from hmh5.1) rfl ⟨rfl, fun _ h9 => nomatch h9⟩ ?_
      refine eW_bipush 37 rfl rfl 62 rfl ?_
      refine eW_aload_n 38 rfl rfl rfl ?_
      refine eW_getfield 41 rfl rfl (Nat.ble_eq_true_of_le (by omega)) rfl (show h5 63 = .inr (11, [.ref 64, .ref 65, .ref 66, .ref 67, vI (s 4), vI ((s 5) - 1), vI (s 6), vI 0, vI (s 8), vI (s 9), .ref 68, vI (s 11), vI (s 12), .ref 69, vI (s 14), .ref 70, .ref 71, vI (s 17), vI (s 18), vI (s 19), vI (s 20), .ref 72, vI (s 22)]) from hmh5.1) rfl ⟨rfl, fun _ h9 => nomatch h9⟩ ?_
      refine eW_imul 42 rfl rfl ?_
      refine eW_aload_n 43 rfl rfl rfl ?_
      refine eW_getfield 46 rfl rfl (Nat.ble_eq_true_of_le (by omega)) rfl (show h5 63 = .inr (11, [.ref 64, .ref 65, .ref 66, .ref 67, vI (s 4), vI ((s 5) - 1), vI (s 6), vI 0, vI (s 8), vI (s 9), .ref 68, vI (s 11), vI (s 12), .ref 69, vI (s 14), .ref 70, .ref 71, vI (s 17), vI (s 18), vI (s 19), vI (s 20), .ref 72, vI (s 22)]) from hmh5.1) rfl ⟨rfl, fun _ h9 => nomatch h9⟩ ?_
      refine eW_iconst 47 rfl rfl ?_
      refine eW_callSH 50 [.ref 65, vI (62 * ((s 5) - 1)), .ref 64, vI 0] [] [] rfl rfl rfl (Or.inl rfl) rfl rfl rfl (m_copies (d := d + 0) (N := N) (a := 64) (b := 65) (n0 := 496) (n1 := 62) (F := A 1) (D := A 0) (x := 62 * ((s 5) - 1)) (y := 0) (by omega) (by omega) (by decide) hmh5.2.1 hmh5.2.2.1 (by omega) (by omega) (by decide)) rfl rfl ?_
      intro h6 fh6
      have hmh6 : mM h6 (sUp (sUp s 5 ((s 5) - 1)) 7 0) (mUp A 0 (eCp (A 1) (A 0) (62 * ((s 5) - 1)).toNat 0 62)) := mM_0 hmh5 fh6.1 fh6.2 ⟨rfl, rfl, rfl, rfl, rfl, rfl, rfl, rfl⟩
      have frh6 : mFr h h6 := mFr_a frh5 (k := 64) (by decide) fh6.2
      refine eW_aload_n 51 rfl rfl rfl ?_
      refine eW_getfield 54 rfl rfl (Nat.ble_eq_true_of_le (by omega)) rfl (show h6 63 = .inr (11, [.ref 64, .ref 65, .ref 66, .ref 67, vI (s 4), vI ((s 5) - 1), vI (s 6), vI 0, vI (s 8), vI (s 9), .ref 68, vI (s 11), vI (s 12), .ref 69, vI (s 14), .ref 70, .ref 71, vI (s 17), vI (s 18), vI (s 19), vI (s 20), .ref 72, vI (s 22)]) from hmh6.1) rfl ⟨rfl, fun _ h9 => nomatch h9⟩ ?_
      refine eW_ret_i rfl rfl (Or.inl rfl) ?_
      refine ⟨_, _, _, _, rfl, hmh6, frh6, ?_⟩
      exact ⟨fun e => absurd e (by omega), fun _ => ⟨rfl, rfl, rfl, rfl⟩, rfl, rfl, rfl, rfl, rfl, rfl, rfl, rfl, rfl, rfl, rfl, rfl⟩
    · refine eW_iconst 20 rfl rfl ?_
      refine eW_ret_i rfl rfl (Or.inl rfl) ?_
      exfalso; omega
  · refine eW_iconst 9 rfl rfl ?_
    refine eW_goto rfl ?_
    have hflq7 := eD_c ((0 : Int) < 1)
    refine eW_callVH 16 [.ref 63, vI 1] [] [vI (eB01 (decide ((0 : Int) < 1)))] rfl rfl rfl rfl (Nat.ble_eq_true_of_le (by omega)) hm.1 rfl rfl rfl (m_fails (d := d + 0) hm hN (by unfold i32; omega)) rfl rfl ?_
    intro h8 fh8
    have hmh8 : mM h8 (sUp s 7 1) A := fh8.1
    have frh8 : mFr h h8 := mFr_t (fun _ _ => rfl) fh8.2
    refine eW_if_eq 19 rfl rfl (by unfold i32; omega) (fun c9 => ?_) (fun c9 => ?_)
    · refine eW_aload_n 22 rfl rfl rfl ?_
      refine eW_dup 23 rfl rfl rfl ?_
      refine eW_getfield 26 rfl rfl (Nat.ble_eq_true_of_le (by omega)) rfl (show h8 63 = .inr (11, [.ref 64, .ref 65, .ref 66, .ref 67, vI (s 4), vI (s 5), vI (s 6), vI 1, vI (s 8), vI (s 9), .ref 68, vI (s 11), vI (s 12), .ref 69, vI (s 14), .ref 70, .ref 71, vI (s 17), vI (s 18), vI (s 19), vI (s 20), .ref 72, vI (s 22)]) from hmh8.1) rfl ⟨rfl, fun _ h9 => nomatch h9⟩ ?_
      refine eW_iconst 27 rfl rfl ?_
      refine eW_isub 28 rfl rfl ?_
      refine eW_putfield 31 [.ref 64, .ref 65, .ref 66, .ref 67, vI (s 4), vI ((s 5) - 1), vI (s 6), vI 1, vI (s 8), vI (s 9), .ref 68, vI (s 11), vI (s 12), .ref 69, vI (s 14), .ref 70, .ref 71, vI (s 17), vI (s 18), vI (s 19), vI (s 20), .ref 72, vI (s 22)] rfl rfl (Nat.ble_eq_true_of_le (by omega)) rfl (show h8 63 = .inr (11, [.ref 64, .ref 65, .ref 66, .ref 67, vI (s 4), vI (s 5), vI (s 6), vI 1, vI (s 8), vI (s 9), .ref 68, vI (s 11), vI (s 12), .ref 69, vI (s 14), .ref 70, .ref 71, vI (s 17), vI (s 18), vI (s 19), vI (s 20), .ref 72, vI (s 22)]) from hmh8.1) rfl rfl ?_
      intro h10 eh10 oh10
      have hmh10 : mM h10 (sUp (sUp s 5 ((s 5) - 1)) 7 1) A := mM_s (s := (sUp s 7 1)) hmh8 eh10 oh10
      have frh10 : mFr h h10 := mFr_s frh8 oh10
      refine eW_aload_n 32 rfl rfl rfl ?_
      refine eW_getfield 35 rfl rfl (Nat.ble_eq_true_of_le (by omega)) rfl (show h10 63 = .inr (11, [.ref 64, .ref 65, .ref 66, .ref 67, vI (s 4), vI ((s 5) - 1), vI (s 6), vI 1, vI (s 8), vI (s 9), .ref 68, vI (s 11), vI (s 12), .ref 69, vI (s 14), .ref 70, .ref 71, vI (s 17), vI (s 18), vI (s 19), vI (s 20), .ref 72, vI (s 22)]) from hmh10.1) rfl ⟨rfl, fun _ h9 => nomatch h9⟩ ?_
      refine eW_bipush 37 rfl rfl 62 rfl ?_
      refine eW_aload_n 38 rfl rfl rfl ?_
      refine eW_getfield 41 rfl rfl (Nat.ble_eq_true_of_le (by omega)) rfl (show h10 63 = .inr (11, [.ref 64, .ref 65, .ref 66, .ref 67, vI (s 4), vI ((s 5) - 1), vI (s 6), vI 1, vI (s 8), vI (s 9), .ref 68, vI (s 11), vI (s 12), .ref 69, vI (s 14), .ref 70, .ref 71, vI (s 17), vI (s 18), vI (s 19), vI (s 20), .ref 72, vI (s 22)]) from hmh10.1) rfl ⟨rfl, fun _ h9 => nomatch h9⟩ ?_
      refine eW_imul 42 rfl rfl ?_
      refine eW_aload_n 43 rfl rfl rfl ?_
      refine eW_getfield 46 rfl rfl (Nat.ble_eq_true_of_le (by omega)) rfl (show h10 63 = .inr (11, [.ref 64, .ref 65, .ref 66, .ref 67, vI (s 4), vI ((s 5) - 1), vI (s 6), vI 1, vI (s 8), vI (s 9), .ref 68, vI (s 11), vI (s 12), .ref 69, vI (s 14), .ref 70, .ref 71, vI (s 17), vI (s 18), vI (s 19), vI (s 20), .ref 72, vI (s 22)]) from hmh10.1) rfl ⟨rfl, fun _ h9 => nomatch h9⟩ ?_
      refine eW_iconst 47 rfl rfl ?_
      refine eW_callSH 50 [.ref 65, vI (62 * ((s 5) - 1)), .ref 64, vI 0] [] [] rfl rfl rfl (Or.inl rfl) rfl rfl rfl (m_copies (d := d + 0) (N := N) (a := 64) (b := 65) (n0 := 496) (n1 := 62) (F := A 1) (D := A 0) (x := 62 * ((s 5) - 1)) (y := 0) (by omega) (by omega) (by decide) hmh10.2.1 hmh10.2.2.1 (by omega) (by omega) (by decide)) rfl rfl ?_
      intro h11 fh11
      have hmh11 : mM h11 (sUp (sUp s 5 ((s 5) - 1)) 7 1) (mUp A 0 (eCp (A 1) (A 0) (62 * ((s 5) - 1)).toNat 0 62)) := mM_0 hmh10 fh11.1 fh11.2 ⟨rfl, rfl, rfl, rfl, rfl, rfl, rfl, rfl⟩
      have frh11 : mFr h h11 := mFr_a frh10 (k := 64) (by decide) fh11.2
      refine eW_aload_n 51 rfl rfl rfl ?_
      refine eW_getfield 54 rfl rfl (Nat.ble_eq_true_of_le (by omega)) rfl (show h11 63 = .inr (11, [.ref 64, .ref 65, .ref 66, .ref 67, vI (s 4), vI ((s 5) - 1), vI (s 6), vI 1, vI (s 8), vI (s 9), .ref 68, vI (s 11), vI (s 12), .ref 69, vI (s 14), .ref 70, .ref 71, vI (s 17), vI (s 18), vI (s 19), vI (s 20), .ref 72, vI (s 22)]) from hmh11.1) rfl ⟨rfl, fun _ h9 => nomatch h9⟩ ?_
      refine eW_ret_i rfl rfl (Or.inl rfl) ?_
      exfalso; omega
    · refine eW_iconst 20 rfl rfl ?_
      refine eW_ret_i rfl rfl (Or.inl rfl) ?_
      refine ⟨_, _, _, _, rfl, hmh8, frh8, ?_⟩
      exact ⟨fun _ => ⟨rfl, rfl, rfl⟩, fun e => absurd e (by omega), rfl, rfl, rfl, rfl, rfl, rfl, rfl, rfl, rfl, rfl, rfl, rfl⟩
theorem m_save {d N : Nat} {h : eHp} {s : Nat → Int} {A : Nat → Nat → Int} (hm : mM h s A) (hN : 75 ≤ N) {c : Int} {G : eGd} (hr : rR G (A 0)) (hI : gI c G) : eSp (d + 2) eM_X7_save [.ref 63] N h (mAft (fun s' A' x => s' 7 = 0 ∧ x = G.2.2.2.1 ∧ s' 4 = 1 ∧ A' 2 = eCp (A 0) (A 2) 0 0 62 ∧ A' 0 = A 0 ∧ A' 1 = A 1 ∧ A' 3 = A 3 ∧ A' 4 = A 4 ∧ A' 5 = A 5 ∧ s' 5 = s 5 ∧ s' 6 = s 6 ∧ s' 8 = s 8 ∧ s' 9 = s 9 ∧ s' 11 = s 11 ∧ s' 12 = s 12 ∧ s' 14 = s 14) h N) := by
  refine eSp_of [(0, .ref 63)] rfl rfl ?_
  refine eW_aload_n 1 rfl rfl rfl ?_
  refine eW_iconst 2 rfl rfl ?_
  refine eW_putfield 5 [.ref 64, .ref 65, .ref 66, .ref 67, vI (s 4), vI (s 5), vI (s 6), vI 0, vI (s 8), vI (s 9), .ref 68, vI (s 11), vI (s 12), .ref 69, vI (s 14), .ref 70, .ref 71, vI (s 17), vI (s 18), vI (s 19), vI (s 20), .ref 72, vI (s 22)] rfl rfl (Nat.ble_eq_true_of_le (by omega)) rfl hm.1 rfl rfl ?_
  intro h1 eh1 oh1
  have hmh1 : mM h1 (sUp s 7 0) A := mM_s (s := s) hm eh1 oh1
  have frh1 : mFr h h1 := mFr_s (fun _ _ => rfl) oh1
  refine eW_aload_n 6 rfl rfl rfl ?_
  refine eW_iconst 7 rfl rfl ?_
  refine eW_putfield 10 [.ref 64, .ref 65, .ref 66, .ref 67, vI 1, vI (s 5), vI (s 6), vI 0, vI (s 8), vI (s 9), .ref 68, vI (s 11), vI (s 12), .ref 69, vI (s 14), .ref 70, .ref 71, vI (s 17), vI (s 18), vI (s 19), vI (s 20), .ref 72, vI (s 22)] rfl rfl (Nat.ble_eq_true_of_le (by omega)) rfl (show h1 63 = .inr (11, [.ref 64, .ref 65, .ref 66, .ref 67, vI (s 4), vI (s 5), vI (s 6), vI 0, vI (s 8), vI (s 9), .ref 68, vI (s 11), vI (s 12), .ref 69, vI (s 14), .ref 70, .ref 71, vI (s 17), vI (s 18), vI (s 19), vI (s 20), .ref 72, vI (s 22)]) from hmh1.1) rfl rfl ?_
  intro h2 eh2 oh2
  have hmh2 : mM h2 (sUp (sUp s 4 1) 7 0) A := mM_s (s := (sUp s 7 0)) hmh1 eh2 oh2
  have frh2 : mFr h h2 := mFr_s frh1 oh2
  refine eW_aload_n 11 rfl rfl rfl ?_
  refine eW_getfield 14 rfl rfl (Nat.ble_eq_true_of_le (by omega)) rfl (show h2 63 = .inr (11, [.ref 64, .ref 65, .ref 66, .ref 67, vI 1, vI (s 5), vI (s 6), vI 0, vI (s 8), vI (s 9), .ref 68, vI (s 11), vI (s 12), .ref 69, vI (s 14), .ref 70, .ref 71, vI (s 17), vI (s 18), vI (s 19), vI (s 20), .ref 72, vI (s 22)]) from hmh2.1) rfl ⟨rfl, fun _ h9 => nomatch h9⟩ ?_
  refine eW_iconst 15 rfl rfl ?_
  refine eW_aload_n 16 rfl rfl rfl ?_
  refine eW_getfield 19 rfl rfl (Nat.ble_eq_true_of_le (by omega)) rfl (show h2 63 = .inr (11, [.ref 64, .ref 65, .ref 66, .ref 67, vI 1, vI (s 5), vI (s 6), vI 0, vI (s 8), vI (s 9), .ref 68, vI (s 11), vI (s 12), .ref 69, vI (s 14), .ref 70, .ref 71, vI (s 17), vI (s 18), vI (s 19), vI (s 20), .ref 72, vI (s 22)]) from hmh2.1) rfl ⟨rfl, fun _ h9 => nomatch h9⟩ ?_
  refine eW_iconst 20 rfl rfl ?_
  refine eW_callSH 23 [.ref 64, vI 0, .ref 66, vI 0] [] [] rfl rfl rfl (Or.inl rfl) rfl rfl rfl (m_copies (d := d + 0) (N := N) (a := 66) (b := 64) (n0 := 62) (n1 := 62) (F := A 0) (D := A 2) (x := 0) (y := 0) (by omega) (by omega) (by decide) hmh2.2.2.2.1 hmh2.2.1 (by omega) (by omega) (by decide)) rfl rfl ?_
  intro h3 fh3
  have hmh3 : mM h3 (sUp (sUp s 4 1) 7 0) (mUp A 2 (eCp (A 0) (A 2) 0 0 62)) := mM_2 hmh2 fh3.1 fh3.2 ⟨rfl, rfl, rfl, rfl, rfl, rfl, rfl, rfl⟩
  have frh3 : mFr h h3 := mFr_a frh2 (k := 66) (by decide) fh3.2
  refine eW_aload_n 24 rfl rfl rfl ?_
  refine eW_getfield 27 rfl rfl (Nat.ble_eq_true_of_le (by omega)) rfl (show h3 63 = .inr (11, [.ref 64, .ref 65, .ref 66, .ref 67, vI 1, vI (s 5), vI (s 6), vI 0, vI (s 8), vI (s 9), .ref 68, vI (s 11), vI (s 12), .ref 69, vI (s 14), .ref 70, .ref 71, vI (s 17), vI (s 18), vI (s 19), vI (s 20), .ref 72, vI (s 22)]) from hmh3.1) rfl ⟨rfl, fun _ h9 => nomatch h9⟩ ?_
  refine eW_iconst 28 rfl rfl ?_
  refine eW_iaload 29 rfl rfl G.2.2.2.1 (Nat.ble_eq_true_of_le (by omega)) (show h3 64 = .inl (0, 62, .inl (eIA (A 0))) from hmh3.2.1) (by omega) (by omega) (by unfold i32; omega) (congrArg Int32.ofInt hr.1) ?_
  refine eW_ret_i rfl rfl (Or.inl rfl) ?_
  exact ⟨_, _, _, _, rfl, hmh3, frh3, rfl, rfl, rfl, rfl, rfl, rfl, rfl, rfl, rfl, rfl, rfl, rfl, rfl, rfl, rfl, rfl⟩
theorem m_restore {d N : Nat} {h : eHp} {s : Nat → Int} {A : Nat → Nat → Int} (hm : mM h s A) (hN : 75 ≤ N) (hw4 : s 4 = 0 ∨ s 4 = 1) : eSp (d + 2) eM_X7_restore [.ref 63] N h (mAft (fun s' A' x => (s 4 = 0 → s' 7 = 1 ∧ s' 5 = s 5 ∧ A' 0 = A 0) ∧ (s 4 ≠ 0 → s' 7 = 0 ∧ s' 5 = 0 ∧ x = A 2 0 ∧ A' 0 = eCp (A 2) (A 0) 0 0 62) ∧ A' 1 = A 1 ∧ A' 2 = A 2 ∧ A' 3 = A 3 ∧ A' 4 = A 4 ∧ A' 5 = A 5 ∧ s' 4 = s 4 ∧ s' 6 = s 6 ∧ s' 8 = s 8 ∧ s' 9 = s 9 ∧ s' 11 = s 11 ∧ s' 12 = s 12 ∧ s' 14 = s 14) h N) := by
  refine eSp_of [(0, .ref 63)] rfl rfl ?_
  refine eW_aload_n 1 rfl rfl rfl ?_
  refine eW_aload_n 2 rfl rfl rfl ?_
  refine eW_getfield 5 rfl rfl (Nat.ble_eq_true_of_le (by omega)) rfl hm.1 rfl ⟨rfl, fun _ h9 => nomatch h9⟩ ?_
  refine eW_if_eq 8 rfl rfl (by unfold i32; omega) (fun c1 => ?_) (fun c1 => ?_)
  · refine eW_iconst 13 rfl rfl ?_
    have hflq2 := eD_c ((0 : Int) < 1)
    refine eW_callVH 16 [.ref 63, vI 1] [] [vI (eB01 (decide ((0 : Int) < 1)))] rfl rfl rfl rfl (Nat.ble_eq_true_of_le (by omega)) hm.1 rfl rfl rfl (m_fails (d := d + 0) hm hN (by unfold i32; omega)) rfl rfl ?_
    intro h3 fh3
    have hmh3 : mM h3 (sUp s 7 1) A := fh3.1
    have frh3 : mFr h h3 := mFr_t (fun _ _ => rfl) fh3.2
    refine eW_if_eq 19 rfl rfl (by unfold i32; omega) (fun c4 => ?_) (fun c4 => ?_)
    · refine eW_aload_n 22 rfl rfl rfl ?_
      refine eW_getfield 25 rfl rfl (Nat.ble_eq_true_of_le (by omega)) rfl (show h3 63 = .inr (11, [.ref 64, .ref 65, .ref 66, .ref 67, vI (s 4), vI (s 5), vI (s 6), vI 1, vI (s 8), vI (s 9), .ref 68, vI (s 11), vI (s 12), .ref 69, vI (s 14), .ref 70, .ref 71, vI (s 17), vI (s 18), vI (s 19), vI (s 20), .ref 72, vI (s 22)]) from hmh3.1) rfl ⟨rfl, fun _ h9 => nomatch h9⟩ ?_
      refine eW_iconst 26 rfl rfl ?_
      refine eW_aload_n 27 rfl rfl rfl ?_
      refine eW_getfield 30 rfl rfl (Nat.ble_eq_true_of_le (by omega)) rfl (show h3 63 = .inr (11, [.ref 64, .ref 65, .ref 66, .ref 67, vI (s 4), vI (s 5), vI (s 6), vI 1, vI (s 8), vI (s 9), .ref 68, vI (s 11), vI (s 12), .ref 69, vI (s 14), .ref 70, .ref 71, vI (s 17), vI (s 18), vI (s 19), vI (s 20), .ref 72, vI (s 22)]) from hmh3.1) rfl ⟨rfl, fun _ h9 => nomatch h9⟩ ?_
      refine eW_iconst 31 rfl rfl ?_
      refine eW_callSH 34 [.ref 66, vI 0, .ref 64, vI 0] [] [] rfl rfl rfl (Or.inl rfl) rfl rfl rfl (m_copies (d := d + 0) (N := N) (a := 64) (b := 66) (n0 := 62) (n1 := 62) (F := A 2) (D := A 0) (x := 0) (y := 0) (by omega) (by omega) (by decide) hmh3.2.1 hmh3.2.2.2.1 (by omega) (by omega) (by decide)) rfl rfl ?_
      intro h5 fh5
      have hmh5 : mM h5 (sUp s 7 1) (mUp A 0 (eCp (A 2) (A 0) 0 0 62)) := mM_0 hmh3 fh5.1 fh5.2 ⟨rfl, rfl, rfl, rfl, rfl, rfl, rfl, rfl⟩
      have frh5 : mFr h h5 := mFr_a frh3 (k := 64) (by decide) fh5.2
      refine eW_aload_n 35 rfl rfl rfl ?_
      refine eW_iconst 36 rfl rfl ?_
      refine eW_putfield 39 [.ref 64, .ref 65, .ref 66, .ref 67, vI (s 4), vI 0, vI (s 6), vI 1, vI (s 8), vI (s 9), .ref 68, vI (s 11), vI (s 12), .ref 69, vI (s 14), .ref 70, .ref 71, vI (s 17), vI (s 18), vI (s 19), vI (s 20), .ref 72, vI (s 22)] rfl rfl (Nat.ble_eq_true_of_le (by omega)) rfl (show h5 63 = .inr (11, [.ref 64, .ref 65, .ref 66, .ref 67, vI (s 4), vI (s 5), vI (s 6), vI 1, vI (s 8), vI (s 9), .ref 68, vI (s 11), vI (s 12), .ref 69, vI (s 14), .ref 70, .ref 71, vI (s 17), vI (s 18), vI (s 19), vI (s 20), .ref 72, vI (s 22)]) from hmh5.1) rfl rfl ?_
      intro h6 eh6 oh6
      have hmh6 : mM h6 (sUp (sUp s 5 0) 7 1) (mUp A 0 (eCp (A 2) (A 0) 0 0 62)) := mM_s (s := (sUp s 7 1)) hmh5 eh6 oh6
      have frh6 : mFr h h6 := mFr_s frh5 oh6
      refine eW_aload_n 40 rfl rfl rfl ?_
      refine eW_getfield 43 rfl rfl (Nat.ble_eq_true_of_le (by omega)) rfl (show h6 63 = .inr (11, [.ref 64, .ref 65, .ref 66, .ref 67, vI (s 4), vI 0, vI (s 6), vI 1, vI (s 8), vI (s 9), .ref 68, vI (s 11), vI (s 12), .ref 69, vI (s 14), .ref 70, .ref 71, vI (s 17), vI (s 18), vI (s 19), vI (s 20), .ref 72, vI (s 22)]) from hmh6.1) rfl ⟨rfl, fun _ h9 => nomatch h9⟩ ?_
      refine eW_iconst 44 rfl rfl ?_
      refine eW_iaload 45 rfl rfl (A 2 0) (Nat.ble_eq_true_of_le (by omega)) (show h6 64 = .inl (0, 62, .inl (eIA (eCp (A 2) (A 0) 0 0 62))) from hmh6.2.1) (by omega) (by omega) (by unfold i32; omega) (congrArg Int32.ofInt (eCp_in (by decide))) ?_
      refine eW_ret_i rfl rfl (Or.inl rfl) ?_
      exfalso; omega
    · refine eW_iconst 20 rfl rfl ?_
      refine eW_ret_i rfl rfl (Or.inl rfl) ?_
      refine ⟨_, _, _, _, rfl, hmh3, frh3, ?_⟩
      exact ⟨fun _ => ⟨rfl, rfl, rfl⟩, fun e => absurd e (by omega), rfl, rfl, rfl, rfl, rfl, rfl, rfl, rfl, rfl, rfl, rfl, rfl⟩
  · refine eW_iconst 9 rfl rfl ?_
    refine eW_goto rfl ?_
    have hflq7 := eD_c ((0 : Int) < 0)
    refine eW_callVH 16 [.ref 63, vI 0] [] [vI (eB01 (decide ((0 : Int) < 0)))] rfl rfl rfl rfl (Nat.ble_eq_true_of_le (by omega)) hm.1 rfl rfl rfl (m_fails (d := d + 0) hm hN (by unfold i32; omega)) rfl rfl ?_
    intro h8 fh8
    have hmh8 : mM h8 (sUp s 7 0) A := fh8.1
    have frh8 : mFr h h8 := mFr_t (fun _ _ => rfl) fh8.2
    refine eW_if_eq 19 rfl rfl (by unfold i32; omega) (fun c9 => ?_) (fun c9 => ?_)
    · refine eW_aload_n 22 rfl rfl rfl ?_
      refine eW_getfield 25 rfl rfl (Nat.ble_eq_true_of_le (by omega)) rfl (show h8 63 = .inr (11, [.ref 64, .ref 65, .ref 66, .ref 67, vI (s 4), vI (s 5), vI (s 6), vI 0, vI (s 8), vI (s 9), .ref 68, vI (s 11), vI (s 12), .ref 69, vI (s 14), .ref 70, .ref 71, vI (s 17), vI (s 18), vI (s 19), vI (s 20), .ref 72, vI (s 22)]) from hmh8.1) rfl ⟨rfl, fun _ h9 => nomatch h9⟩ ?_
      refine eW_iconst 26 rfl rfl ?_
      refine eW_aload_n 27 rfl rfl rfl ?_
      refine eW_getfield 30 rfl rfl (Nat.ble_eq_true_of_le (by omega)) rfl (show h8 63 = .inr (11, [.ref 64, .ref 65, .ref 66, .ref 67, vI (s 4), vI (s 5), vI (s 6), vI 0, vI (s 8), vI (s 9), .ref 68, vI (s 11), vI (s 12), .ref 69, vI (s 14), .ref 70, .ref 71, vI (s 17), vI (s 18), vI (s 19), vI (s 20), .ref 72, vI (s 22)]) from hmh8.1) rfl ⟨rfl, fun _ h9 => nomatch h9⟩ ?_
      refine eW_iconst 31 rfl rfl ?_
      refine eW_callSH 34 [.ref 66, vI 0, .ref 64, vI 0] [] [] rfl rfl rfl (Or.inl rfl) rfl rfl rfl (m_copies (d := d + 0) (N := N) (a := 64) (b := 66) (n0 := 62) (n1 := 62) (F := A 2) (D := A 0) (x := 0) (y := 0) (by omega) (by omega) (by decide) hmh8.2.1 hmh8.2.2.2.1 (by omega) (by omega) (by decide)) rfl rfl ?_
      intro h10 fh10
      have hmh10 : mM h10 (sUp s 7 0) (mUp A 0 (eCp (A 2) (A 0) 0 0 62)) := mM_0 hmh8 fh10.1 fh10.2 ⟨rfl, rfl, rfl, rfl, rfl, rfl, rfl, rfl⟩
      have frh10 : mFr h h10 := mFr_a frh8 (k := 64) (by decide) fh10.2
      refine eW_aload_n 35 rfl rfl rfl ?_
      refine eW_iconst 36 rfl rfl ?_
      refine eW_putfield 39 [.ref 64, .ref 65, .ref 66, .ref 67, vI (s 4), vI 0, vI (s 6), vI 0, vI (s 8), vI (s 9), .ref 68, vI (s 11), vI (s 12), .ref 69, vI (s 14), .ref 70, .ref 71, vI (s 17), vI (s 18), vI (s 19), vI (s 20), .ref 72, vI (s 22)] rfl rfl (Nat.ble_eq_true_of_le (by omega)) rfl (show h10 63 = .inr (11, [.ref 64, .ref 65, .ref 66, .ref 67, vI (s 4), vI (s 5), vI (s 6), vI 0, vI (s 8), vI (s 9), .ref 68, vI (s 11), vI (s 12), .ref 69, vI (s 14), .ref 70, .ref 71, vI (s 17), vI (s 18), vI (s 19), vI (s 20), .ref 72, vI (s 22)]) from hmh10.1) rfl rfl ?_
      intro h11 eh11 oh11
      have hmh11 : mM h11 (sUp (sUp s 5 0) 7 0) (mUp A 0 (eCp (A 2) (A 0) 0 0 62)) := mM_s (s := (sUp s 7 0)) hmh10 eh11 oh11
      have frh11 : mFr h h11 := mFr_s frh10 oh11
      refine eW_aload_n 40 rfl rfl rfl ?_
      refine eW_getfield 43 rfl rfl (Nat.ble_eq_true_of_le (by omega)) rfl (show h11 63 = .inr (11, [.ref 64, .ref 65, .ref 66, .ref 67, vI (s 4), vI 0, vI (s 6), vI 0, vI (s 8), vI (s 9), .ref 68, vI (s 11), vI (s 12), .ref 69, vI (s 14), .ref 70, .ref 71, vI (s 17), vI (s 18), vI (s 19), vI (s 20), .ref 72, vI (s 22)]) from hmh11.1) rfl ⟨rfl, fun _ h9 => nomatch h9⟩ ?_
      refine eW_iconst 44 rfl rfl ?_
      refine eW_iaload 45 rfl rfl (A 2 0) (Nat.ble_eq_true_of_le (by omega)) (show h11 64 = .inl (0, 62, .inl (eIA (eCp (A 2) (A 0) 0 0 62))) from hmh11.2.1) (by omega) (by omega) (by unfold i32; omega) (congrArg Int32.ofInt (eCp_in (by decide))) ?_
      refine eW_ret_i rfl rfl (Or.inl rfl) ?_
      refine ⟨_, _, _, _, rfl, hmh11, frh11, ?_⟩
      exact ⟨fun e => absurd e (by omega), fun _ => ⟨rfl, rfl, rfl, rfl⟩, rfl, rfl, rfl, rfl, rfl, rfl, rfl, rfl, rfl, rfl, rfl, rfl⟩
    · refine eW_iconst 20 rfl rfl ?_
      refine eW_ret_i rfl rfl (Or.inl rfl) ?_
      exfalso; omega
