/-! the last questions to the model, its lines, its input -/
theorem gTal0_le {c : Int} {G : eGd} (hI : gI c G) {m : Int} (hm : 0 ≤ m ∧ m < 2) : 0 ≤ gTal G m 0 ∧ gTal G m 0 ≤ c := by
  have ht0 := hI.2.2.2.2.1 0 (by decide)
  have ht4 := hI.2.2.2.2.1 4 (by decide)
  have hsc := hI.2.2.2.2.2.1
  have e0 : gTal G 0 0 = G.2.2.1 0 := gTal_l 0 0 (by decide) (by decide)
  have e1 : gTal G 1 0 = G.2.2.1 4 := gTal_l 1 0 (by decide) (by decide)
  rcases (show m = 0 ∨ m = 1 by omega) with h | h
  · rw [h, e0]; omega
  · rw [h, e1]; omega
theorem gTop_congr {F F' : Nat → Int} : ∀ n, (∀ i, i < n → F i = F' i) → gTop F n = gTop F' n
  | 0, _ => rfl
  | n + 1, h => by
    show gMax (gTop F n) (F n) = gMax (gTop F' n) (F' n)
    rw [gTop_congr n (fun i hi => h i (by omega)), h n (by omega)]
theorem gMax_c (a b : Int) : (a < b ∧ gMax a b = b) ∨ (b ≤ a ∧ gMax a b = a) := by
  unfold gMax
  by_cases h : a < b
  · rw [decide_eq_true h]; exact Or.inl ⟨h, rfl⟩
  · rw [decide_eq_false h]; exact Or.inr ⟨by omega, rfl⟩
/-- accounts -/
def gAcc (G : eGd) (top len hs w : Int) : Int := if w = 0 then G.2.2.2.1 else if w = 1 then gSum G.1 G.2.2.2.1.toNat else if w = 2 then G.2.2.2.2.2.1 else if w = 3 then G.2.2.1 1 + G.2.2.1 5 else if w = 4 then G.2.2.2.2.2.2.1 else if w = 5 then G.2.2.2.2.2.2.2 else if w = 6 then G.2.2.1 3 + G.2.2.1 7 else if w = 7 then top else if w = 8 then len else hs
theorem gAcc_k (G : eGd) (t l h : Int) : gAcc G t l h 0 = G.2.2.2.1 ∧ gAcc G t l h 1 = gSum G.1 G.2.2.2.1.toNat ∧ gAcc G t l h 2 = G.2.2.2.2.2.1 ∧ gAcc G t l h 3 = G.2.2.1 1 + G.2.2.1 5 ∧ gAcc G t l h 4 = G.2.2.2.2.2.2.1 ∧ gAcc G t l h 5 = G.2.2.2.2.2.2.2 ∧ gAcc G t l h 6 = G.2.2.1 3 + G.2.2.1 7 ∧ gAcc G t l h 7 = t ∧ gAcc G t l h 8 = l ∧ gAcc G t l h 9 = h := ⟨rfl, rfl, rfl, rfl, rfl, rfl, rfl, rfl, rfl, rfl⟩
theorem m_wins {d N : Nat} {h : eHp} {s : Nat → Int} {A : Nat → Nat → Int} (hm : mM h s A) (hN : 75 ≤ N) {c : Int} {G : eGd} (hr : rR G (A 0)) (hI : gI c G) {b : Int} (hb : b = 0 ∨ b = 1) : eSp (d + 4) eM_X7_wins [.ref 63, vI b] N h (mQ (eB01 (decide (gSm G ≠ 0))) (mIf (decide (b = 0 ∨ gSum G.1 G.2.2.2.1.toNat ≤ 10)) 1 0) s A h N) := by
  refine eSp_of [(0, .ref 63), (1, vI b)] rfl rfl ?_
  have hG := hI.1
  have hG9 := hG
  obtain ⟨g1, g2, g3, g4⟩ := hG9
  have hc1 := eD_c (b = 0 ∨ gSum G.1 G.2.2.2.1.toNat ≤ 10)
  have hc2 := mIf_c (decide (b = 0 ∨ gSum G.1 G.2.2.2.1.toNat ≤ 10)) 1 0
  have hs40 := hI.2.2.2.1
  have hsp := gI_pits hI
  have hc3 := eD_c (gSm G ≠ 0)
  refine eW_aload_n 1 rfl rfl rfl ?_
  refine eW_iload_n 2 rfl rfl rfl ?_
  refine eW_if_eq 5 rfl rfl (by unfold i32; omega) (fun c1 => ?_) (fun c1 => ?_)
  · refine eW_iconst 19 rfl rfl ?_
    have hflq2 := eD_c ((0 : Int) < 0)
    refine eW_callVH 22 [.ref 63, vI 0] [] [vI (eB01 (decide ((0 : Int) < 0)))] rfl rfl rfl rfl (Nat.ble_eq_true_of_le (by omega)) hm.1 rfl rfl rfl (m_fails (d := d + 2) hm hN (by unfold i32; omega)) rfl rfl ?_
    intro h3 fh3
    have hmh3 : mM h3 (sUp s 7 0) A := fh3.1
    have frh3 : mFr h h3 := mFr_t (fun _ _ => rfl) fh3.2
    refine eW_if_ne 25 rfl rfl (by unfold i32; omega) (fun c4 => ?_) (fun c4 => ?_)
    · refine eW_iconst 37 rfl rfl ?_
      refine eW_ret_i rfl rfl (Or.inr (Or.inl ⟨rfl, rfl⟩)) ?_
      refine ⟨_, _, _, _, rfl, hmh3, frh3, ?_, ?_, ⟨rfl, rfl, rfl, rfl, rfl, rfl, rfl, rfl, rfl, rfl, rfl, rfl, rfl⟩⟩
      · show (0 : Int) = _
        omega
      · intro e9
        show (0 : Int) = _
        first
          | (exfalso; omega)
          | (omega)
    · refine eW_aload_n 26 rfl rfl rfl ?_
      have hsm := gSm_le G
      refine eW_callVH 29 [.ref 63] [] [vI (gSm G)] rfl rfl rfl rfl (Nat.ble_eq_true_of_le (by omega)) (show h3 63 = .inr (11, [.ref 64, .ref 65, .ref 66, .ref 67, vI (s 4), vI (s 5), vI (s 6), vI 0, vI (s 8), vI (s 9), .ref 68, vI (s 11), vI (s 12), .ref 69, vI (s 14), .ref 70, .ref 71, vI (s 17), vI (s 18), vI (s 19), vI (s 20), .ref 72, vI (s 22)]) from hmh3.1) rfl rfl rfl (m_sumNow (d := d + 0) hmh3 hN hr hI) rfl rfl ?_
      intro h5 fh5
      obtain ⟨V1, F1, f9h5⟩ := fh5
      obtain ⟨f8h5, hV1⟩ := f9h5
      have hmh5 : mM h5 (sUp s 7 0) (mUp (mUp A 6 V1) 7 F1) := f8h5.1
      have frh5 : mFr h h5 := mFr_t frh3 f8h5.2
      refine eW_if_eq 32 rfl rfl (by unfold i32; omega) (fun c6 => ?_) (fun c6 => ?_)
      · refine eW_iconst 37 rfl rfl ?_
        refine eW_ret_i rfl rfl (Or.inr (Or.inl ⟨rfl, rfl⟩)) ?_
        refine ⟨_, _, _, _, rfl, hmh5, frh5, ?_, ?_, ⟨rfl, rfl, rfl, rfl, rfl, rfl, rfl, rfl, rfl, rfl, rfl, rfl, rfl⟩⟩
        · show (0 : Int) = _
          omega
        · intro e9
          show (0 : Int) = _
          first
            | (exfalso; omega)
            | (omega)
      · refine eW_iconst 33 rfl rfl ?_
        refine eW_goto rfl ?_
        refine eW_ret_i rfl rfl (Or.inr (Or.inl ⟨rfl, rfl⟩)) ?_
        refine ⟨_, _, _, _, rfl, hmh5, frh5, ?_, ?_, ⟨rfl, rfl, rfl, rfl, rfl, rfl, rfl, rfl, rfl, rfl, rfl, rfl, rfl⟩⟩
        · show (0 : Int) = _
          omega
        · intro e9
          show (1 : Int) = _
          first
            | (exfalso; omega)
            | (omega)
  · refine eW_aload_n 6 rfl rfl rfl ?_
    refine eW_callV 9 [.ref 63] [.ref 63] [vI (gSum G.1 G.2.2.2.1.toNat), .ref 63] rfl rfl rfl rfl (Nat.ble_eq_true_of_le (by omega)) hm.1 rfl rfl rfl (m_all (d := d + 1) hm hN hr hG) rfl rfl ?_
    refine eW_bipush 11 rfl rfl 10 rfl ?_
    refine eW_icmp_le 14 rfl rfl (by unfold i32; omega) (by unfold i32; omega) (fun c7 => ?_) (fun c7 => ?_)
    · refine eW_iconst 19 rfl rfl ?_
      have hflq8 := eD_c ((0 : Int) < 0)
      refine eW_callVH 22 [.ref 63, vI 0] [] [vI (eB01 (decide ((0 : Int) < 0)))] rfl rfl rfl rfl (Nat.ble_eq_true_of_le (by omega)) hm.1 rfl rfl rfl (m_fails (d := d + 2) hm hN (by unfold i32; omega)) rfl rfl ?_
      intro h9 fh9
      have hmh9 : mM h9 (sUp s 7 0) A := fh9.1
      have frh9 : mFr h h9 := mFr_t (fun _ _ => rfl) fh9.2
      refine eW_if_ne 25 rfl rfl (by unfold i32; omega) (fun c10 => ?_) (fun c10 => ?_)
      · refine eW_iconst 37 rfl rfl ?_
        refine eW_ret_i rfl rfl (Or.inr (Or.inl ⟨rfl, rfl⟩)) ?_
        refine ⟨_, _, _, _, rfl, hmh9, frh9, ?_, ?_, ⟨rfl, rfl, rfl, rfl, rfl, rfl, rfl, rfl, rfl, rfl, rfl, rfl, rfl⟩⟩
        · show (0 : Int) = _
          omega
        · intro e9
          show (0 : Int) = _
          first
            | (exfalso; omega)
            | (omega)
      · refine eW_aload_n 26 rfl rfl rfl ?_
        have hsm := gSm_le G
        refine eW_callVH 29 [.ref 63] [] [vI (gSm G)] rfl rfl rfl rfl (Nat.ble_eq_true_of_le (by omega)) (show h9 63 = .inr (11, [.ref 64, .ref 65, .ref 66, .ref 67, vI (s 4), vI (s 5), vI (s 6), vI 0, vI (s 8), vI (s 9), .ref 68, vI (s 11), vI (s 12), .ref 69, vI (s 14), .ref 70, .ref 71, vI (s 17), vI (s 18), vI (s 19), vI (s 20), .ref 72, vI (s 22)]) from hmh9.1) rfl rfl rfl (m_sumNow (d := d + 0) hmh9 hN hr hI) rfl rfl ?_
        intro h11 fh11
        obtain ⟨V1, F1, f9h11⟩ := fh11
        obtain ⟨f8h11, hV1⟩ := f9h11
        have hmh11 : mM h11 (sUp s 7 0) (mUp (mUp A 6 V1) 7 F1) := f8h11.1
        have frh11 : mFr h h11 := mFr_t frh9 f8h11.2
        refine eW_if_eq 32 rfl rfl (by unfold i32; omega) (fun c12 => ?_) (fun c12 => ?_)
        · refine eW_iconst 37 rfl rfl ?_
          refine eW_ret_i rfl rfl (Or.inr (Or.inl ⟨rfl, rfl⟩)) ?_
          refine ⟨_, _, _, _, rfl, hmh11, frh11, ?_, ?_, ⟨rfl, rfl, rfl, rfl, rfl, rfl, rfl, rfl, rfl, rfl, rfl, rfl, rfl⟩⟩
          · show (0 : Int) = _
            omega
          · intro e9
            show (0 : Int) = _
            first
              | (exfalso; omega)
              | (omega)
        · refine eW_iconst 33 rfl rfl ?_
          refine eW_goto rfl ?_
          refine eW_ret_i rfl rfl (Or.inr (Or.inl ⟨rfl, rfl⟩)) ?_
          refine ⟨_, _, _, _, rfl, hmh11, frh11, ?_, ?_, ⟨rfl, rfl, rfl, rfl, rfl, rfl, rfl, rfl, rfl, rfl, rfl, rfl, rfl⟩⟩
          · show (0 : Int) = _
            omega
          · intro e9
            show (1 : Int) = _
            first
              | (exfalso; omega)
              | (omega)
    · refine eW_iconst 15 rfl rfl ?_
      refine eW_goto rfl ?_
      have hflq13 := eD_c ((0 : Int) < 1)
      refine eW_callVH 22 [.ref 63, vI 1] [] [vI (eB01 (decide ((0 : Int) < 1)))] rfl rfl rfl rfl (Nat.ble_eq_true_of_le (by omega)) hm.1 rfl rfl rfl (m_fails (d := d + 2) hm hN (by unfold i32; omega)) rfl rfl ?_
      intro h14 fh14
      have hmh14 : mM h14 (sUp s 7 1) A := fh14.1
      have frh14 : mFr h h14 := mFr_t (fun _ _ => rfl) fh14.2
      refine eW_if_ne 25 rfl rfl (by unfold i32; omega) (fun c15 => ?_) (fun c15 => ?_)
      · refine eW_iconst 37 rfl rfl ?_
        refine eW_ret_i rfl rfl (Or.inr (Or.inl ⟨rfl, rfl⟩)) ?_
        refine ⟨_, _, _, _, rfl, hmh14, frh14, ?_, ?_, ⟨rfl, rfl, rfl, rfl, rfl, rfl, rfl, rfl, rfl, rfl, rfl, rfl, rfl⟩⟩
        · show (1 : Int) = _
          omega
        · intro e9
          show (0 : Int) = _
          first
            | (exfalso; omega)
            | (omega)
      · refine eW_aload_n 26 rfl rfl rfl ?_
        have hsm := gSm_le G
        refine eW_callVH 29 [.ref 63] [] [vI (gSm G)] rfl rfl rfl rfl (Nat.ble_eq_true_of_le (by omega)) (show h14 63 = .inr (11, [.ref 64, .ref 65, .ref 66, .ref 67, vI (s 4), vI (s 5), vI (s 6), vI 1, vI (s 8), vI (s 9), .ref 68, vI (s 11), vI (s 12), .ref 69, vI (s 14), .ref 70, .ref 71, vI (s 17), vI (s 18), vI (s 19), vI (s 20), .ref 72, vI (s 22)]) from hmh14.1) rfl rfl rfl (m_sumNow (d := d + 0) hmh14 hN hr hI) rfl rfl ?_
        intro h16 fh16
        obtain ⟨V1, F1, f9h16⟩ := fh16
        obtain ⟨f8h16, hV1⟩ := f9h16
        have hmh16 : mM h16 (sUp s 7 1) (mUp (mUp A 6 V1) 7 F1) := f8h16.1
        have frh16 : mFr h h16 := mFr_t frh14 f8h16.2
        refine eW_if_eq 32 rfl rfl (by unfold i32; omega) (fun c17 => ?_) (fun c17 => ?_)
        · refine eW_iconst 37 rfl rfl ?_
          refine eW_ret_i rfl rfl (Or.inr (Or.inl ⟨rfl, rfl⟩)) ?_
          refine ⟨_, _, _, _, rfl, hmh16, frh16, ?_, ?_, ⟨rfl, rfl, rfl, rfl, rfl, rfl, rfl, rfl, rfl, rfl, rfl, rfl, rfl⟩⟩
          · show (1 : Int) = _
            omega
          · intro e9
            show (0 : Int) = _
            first
              | (exfalso; omega)
              | (omega)
        · refine eW_iconst 33 rfl rfl ?_
          refine eW_goto rfl ?_
          refine eW_ret_i rfl rfl (Or.inr (Or.inl ⟨rfl, rfl⟩)) ?_
          refine ⟨_, _, _, _, rfl, hmh16, frh16, ?_, ?_, ⟨rfl, rfl, rfl, rfl, rfl, rfl, rfl, rfl, rfl, rfl, rfl, rfl, rfl⟩⟩
          · show (1 : Int) = _
            omega
          · intro e9
            show (1 : Int) = _
            first
              | (exfalso; omega)
              | (omega)
theorem m_top_l {d N k z : Nat} {h : eHp} {s : Nat → Int} {A : Nat → Nat → Int} (hm : mM h s A) (hN : 75 ≤ N) {P : eR → Prop} {G : eGd} {V1 : Nat → Int} (hA6 : A 6 = V1) (hV1 : ∀ i : Nat, (i : Int) < 31 → V1 i = gv (gDig G) i) : ∀ (m9 : Nat) (a i : Int), 31 - i ≤ m9 → 0 ≤ i ∧ i ≤ 31 → a = gTop (gv (gDig G)) i.toNat → 0 ≤ a ∧ a ≤ 31 → (∀ (a : Int), a = gTop (gv (gDig G)) 31 → eWp eOx (eEv (d + 2)) eM_X7_greatest (42, [(0, .ref 63), (1, vI a)], [], N, h, k, z) P) → eWp eOx (eEv (d + 2)) eM_X7_greatest (9, [(0, .ref 63), (1, vI a), (2, vI i)], [], N, h, k, z) P := by
  intro m9
  induction m9 with
  | zero =>
    intro a i hm9 q0 q1 q2 kk
    have hx1 := gvv_30 (D := gDig G) i
    refine eW_iload_n 10 rfl rfl rfl ?_
    refine eW_bipush 12 rfl rfl 30 rfl ?_
    refine eW_icmp_gt 15 rfl rfl (by unfold i32; omega) (by unfold i32; omega) (fun c1 => ?_) (fun c1 => ?_)
    · refine eW_re [(0, .ref 63), (1, vI a)] rfl rfl (List.forall_mem_cons.mpr ⟨rfl, List.forall_mem_cons.mpr ⟨rfl, fun _ h => absurd h List.not_mem_nil⟩⟩) (List.forall_mem_cons.mpr ⟨Or.inl rfl, List.forall_mem_cons.mpr ⟨Or.inl rfl, List.forall_mem_cons.mpr ⟨Or.inr ⟨_, rfl⟩, fun _ h => absurd h List.not_mem_nil⟩⟩⟩) ?_
      refine kk _ ?_
      rw [q1, show i = 31 by omega]; rfl
    · refine eW_aload_n 16 rfl rfl rfl ?_
      refine eW_getfield 19 rfl rfl (Nat.ble_eq_true_of_le (by omega)) rfl hm.1 rfl ⟨rfl, fun _ h9 => nomatch h9⟩ ?_
      refine eW_iload_n 20 rfl rfl rfl ?_
      refine eW_iaload 21 rfl rfl (gvv (gDig G) i) (Nat.ble_eq_true_of_le (by omega)) (show h 70 = .inl (0, 31, .inl (eIA (A 6))) from hm.2.2.2.2.2.2.2.1) (by omega) (by omega) (by unfold i32; omega) (by rw [hA6]; exact mV_r hV1 (by omega) (by omega) (by omega)) ?_
      refine eW_iload_n 22 rfl rfl rfl ?_
      refine eW_icmp_le 25 rfl rfl (by unfold i32; omega) (by unfold i32; omega) (fun c2 => ?_) (fun c2 => ?_)
      · refine eW_iload_n 35 rfl rfl rfl ?_
        refine eW_istore_n 36 rfl rfl [(1, vI a), (0, .ref 63), (2, vI i)] rfl rfl ?_
        refine eW_iinc 39 rfl rfl [(2, vI (i + 1)), (1, vI a), (0, .ref 63)] rfl rfl rfl ?_
        refine eW_goto rfl ?_
        refine eW_re [(0, .ref 63), (1, vI a), (2, vI (i + 1))] rfl rfl (List.forall_mem_cons.mpr ⟨rfl, List.forall_mem_cons.mpr ⟨rfl, List.forall_mem_cons.mpr ⟨rfl, fun _ h => absurd h List.not_mem_nil⟩⟩⟩) (List.forall_mem_cons.mpr ⟨Or.inl rfl, List.forall_mem_cons.mpr ⟨Or.inl rfl, List.forall_mem_cons.mpr ⟨Or.inl rfl, fun _ h => absurd h List.not_mem_nil⟩⟩⟩) ?_
        exact absurd hm9 (by omega)
      · refine eW_aload_n 26 rfl rfl rfl ?_
        refine eW_getfield 29 rfl rfl (Nat.ble_eq_true_of_le (by omega)) rfl hm.1 rfl ⟨rfl, fun _ h9 => nomatch h9⟩ ?_
        refine eW_iload_n 30 rfl rfl rfl ?_
        refine eW_iaload 31 rfl rfl (gvv (gDig G) i) (Nat.ble_eq_true_of_le (by omega)) (show h 70 = .inl (0, 31, .inl (eIA (A 6))) from hm.2.2.2.2.2.2.2.1) (by omega) (by omega) (by unfold i32; omega) (by rw [hA6]; exact mV_r hV1 (by omega) (by omega) (by omega)) ?_
        refine eW_goto rfl ?_
        refine eW_istore_n 36 rfl rfl [(1, vI (gvv (gDig G) i)), (0, .ref 63), (2, vI i)] rfl rfl ?_
        refine eW_iinc 39 rfl rfl [(2, vI (i + 1)), (1, vI (gvv (gDig G) i)), (0, .ref 63)] rfl rfl rfl ?_
        refine eW_goto rfl ?_
        refine eW_re [(0, .ref 63), (1, vI (gvv (gDig G) i)), (2, vI (i + 1))] rfl rfl (List.forall_mem_cons.mpr ⟨rfl, List.forall_mem_cons.mpr ⟨rfl, List.forall_mem_cons.mpr ⟨rfl, fun _ h => absurd h List.not_mem_nil⟩⟩⟩) (List.forall_mem_cons.mpr ⟨Or.inl rfl, List.forall_mem_cons.mpr ⟨Or.inl rfl, List.forall_mem_cons.mpr ⟨Or.inl rfl, fun _ h => absurd h List.not_mem_nil⟩⟩⟩) ?_
        exact absurd hm9 (by omega)
  | succ m9 ih =>
    intro a i hm9 q0 q1 q2 kk
    have hx1 := gvv_30 (D := gDig G) i
    refine eW_iload_n 10 rfl rfl rfl ?_
    refine eW_bipush 12 rfl rfl 30 rfl ?_
    refine eW_icmp_gt 15 rfl rfl (by unfold i32; omega) (by unfold i32; omega) (fun c1 => ?_) (fun c1 => ?_)
    · refine eW_re [(0, .ref 63), (1, vI a)] rfl rfl (List.forall_mem_cons.mpr ⟨rfl, List.forall_mem_cons.mpr ⟨rfl, fun _ h => absurd h List.not_mem_nil⟩⟩) (List.forall_mem_cons.mpr ⟨Or.inl rfl, List.forall_mem_cons.mpr ⟨Or.inl rfl, List.forall_mem_cons.mpr ⟨Or.inr ⟨_, rfl⟩, fun _ h => absurd h List.not_mem_nil⟩⟩⟩) ?_
      refine kk _ ?_
      rw [q1, show i = 31 by omega]; rfl
    · refine eW_aload_n 16 rfl rfl rfl ?_
      refine eW_getfield 19 rfl rfl (Nat.ble_eq_true_of_le (by omega)) rfl hm.1 rfl ⟨rfl, fun _ h9 => nomatch h9⟩ ?_
      refine eW_iload_n 20 rfl rfl rfl ?_
      refine eW_iaload 21 rfl rfl (gvv (gDig G) i) (Nat.ble_eq_true_of_le (by omega)) (show h 70 = .inl (0, 31, .inl (eIA (A 6))) from hm.2.2.2.2.2.2.2.1) (by omega) (by omega) (by unfold i32; omega) (by rw [hA6]; exact mV_r hV1 (by omega) (by omega) (by omega)) ?_
      refine eW_iload_n 22 rfl rfl rfl ?_
      refine eW_icmp_le 25 rfl rfl (by unfold i32; omega) (by unfold i32; omega) (fun c2 => ?_) (fun c2 => ?_)
      · refine eW_iload_n 35 rfl rfl rfl ?_
        refine eW_istore_n 36 rfl rfl [(1, vI a), (0, .ref 63), (2, vI i)] rfl rfl ?_
        refine eW_iinc 39 rfl rfl [(2, vI (i + 1)), (1, vI a), (0, .ref 63)] rfl rfl rfl ?_
        refine eW_goto rfl ?_
        refine eW_re [(0, .ref 63), (1, vI a), (2, vI (i + 1))] rfl rfl (List.forall_mem_cons.mpr ⟨rfl, List.forall_mem_cons.mpr ⟨rfl, List.forall_mem_cons.mpr ⟨rfl, fun _ h => absurd h List.not_mem_nil⟩⟩⟩) (List.forall_mem_cons.mpr ⟨Or.inl rfl, List.forall_mem_cons.mpr ⟨Or.inl rfl, List.forall_mem_cons.mpr ⟨Or.inl rfl, fun _ h => absurd h List.not_mem_nil⟩⟩⟩) ?_
        refine ih _ (i + 1) (by omega) (by omega) ?_ (by omega) kk
        have hmx := gMax_c (gTop (gv (gDig G)) i.toNat) (gvv (gDig G) i)
        have he : gv (gDig G) i.toNat = gvv (gDig G) i := by unfold gvv; rw [gVal_t (by omega)]
        rw [gTop_succ q0.1, he]
        omega
      · refine eW_aload_n 26 rfl rfl rfl ?_
        refine eW_getfield 29 rfl rfl (Nat.ble_eq_true_of_le (by omega)) rfl hm.1 rfl ⟨rfl, fun _ h9 => nomatch h9⟩ ?_
        refine eW_iload_n 30 rfl rfl rfl ?_
        refine eW_iaload 31 rfl rfl (gvv (gDig G) i) (Nat.ble_eq_true_of_le (by omega)) (show h 70 = .inl (0, 31, .inl (eIA (A 6))) from hm.2.2.2.2.2.2.2.1) (by omega) (by omega) (by unfold i32; omega) (by rw [hA6]; exact mV_r hV1 (by omega) (by omega) (by omega)) ?_
        refine eW_goto rfl ?_
        refine eW_istore_n 36 rfl rfl [(1, vI (gvv (gDig G) i)), (0, .ref 63), (2, vI i)] rfl rfl ?_
        refine eW_iinc 39 rfl rfl [(2, vI (i + 1)), (1, vI (gvv (gDig G) i)), (0, .ref 63)] rfl rfl rfl ?_
        refine eW_goto rfl ?_
        refine eW_re [(0, .ref 63), (1, vI (gvv (gDig G) i)), (2, vI (i + 1))] rfl rfl (List.forall_mem_cons.mpr ⟨rfl, List.forall_mem_cons.mpr ⟨rfl, List.forall_mem_cons.mpr ⟨rfl, fun _ h => absurd h List.not_mem_nil⟩⟩⟩) (List.forall_mem_cons.mpr ⟨Or.inl rfl, List.forall_mem_cons.mpr ⟨Or.inl rfl, List.forall_mem_cons.mpr ⟨Or.inl rfl, fun _ h => absurd h List.not_mem_nil⟩⟩⟩) ?_
        refine ih _ (i + 1) (by omega) (by omega) ?_ (by omega) kk
        have hmx := gMax_c (gTop (gv (gDig G)) i.toNat) (gvv (gDig G) i)
        have he : gv (gDig G) i.toNat = gvv (gDig G) i := by unfold gvv; rw [gVal_t (by omega)]
        rw [gTop_succ q0.1, he]
        omega
theorem m_greatest {d N : Nat} {h : eHp} {s : Nat → Int} {A : Nat → Nat → Int} (hm : mM h s A) (hN : 75 ≤ N) {c : Int} {G : eGd} (hr : rR G (A 0)) (hI : gI c G) : eSp (d + 3) eM_X7_greatest [.ref 63] N h (eChg (some (vI (gTop (gv (gDig G)) 31))) N (fun h' => ∃ V F, mD h s (mUp (mUp A 6 V) 7 F) h' ∧ ∀ i : Nat, (i : Int) < 31 → V i = gv (gDig G) i)) := by
  refine eSp_of [(0, .ref 63)] rfl rfl ?_
  have hG := hI.1
  have hG9 := hG
  obtain ⟨g1, g2, g3, g4⟩ := hG9
  refine eW_aload_n 1 rfl rfl rfl ?_
  refine eW_iconst 2 rfl rfl ?_
  refine eW_callVH 5 [.ref 63, vI 0] [] [] rfl rfl rfl rfl (Nat.ble_eq_true_of_le (by omega)) hm.1 rfl rfl rfl (m_finds (d := d + 0) hm hN hr hG (by omega)) rfl rfl ?_
  intro h1 fh1
  obtain ⟨V1, F1, f9h1⟩ := fh1
  obtain ⟨f8h1, hV1, hF1⟩ := f9h1
  have hmh1 : mM h1 s (mUp (mUp A 6 V1) 7 F1) := f8h1.1
  have frh1 : mFr h h1 := mFr_t (fun _ _ => rfl) f8h1.2
  refine eW_iconst 6 rfl rfl ?_
  refine eW_istore_n 7 rfl rfl [(1, vI 0), (0, .ref 63)] rfl rfl ?_
  refine eW_iconst 8 rfl rfl ?_
  refine eW_istore_n 9 rfl rfl [(2, vI 0), (1, vI 0), (0, .ref 63)] rfl rfl ?_
  refine eW_re [(0, .ref 63), (1, vI 0), (2, vI 0)] rfl rfl (List.forall_mem_cons.mpr ⟨rfl, List.forall_mem_cons.mpr ⟨rfl, List.forall_mem_cons.mpr ⟨rfl, fun _ h => absurd h List.not_mem_nil⟩⟩⟩) (List.forall_mem_cons.mpr ⟨Or.inl rfl, List.forall_mem_cons.mpr ⟨Or.inl rfl, List.forall_mem_cons.mpr ⟨Or.inl rfl, fun _ h => absurd h List.not_mem_nil⟩⟩⟩) ?_
  refine m_top_l hmh1 hN rfl hV1 _ 0 0 (Int.self_le_toNat _) (by omega) rfl (by omega) (fun a q => ?_)
  refine eW_iload_n 43 rfl rfl rfl ?_
  refine eW_ret_i rfl rfl (Or.inl rfl) ?_
  rw [q]
  exact ⟨_, rfl, V1, F1, ⟨hmh1, frh1⟩, hV1⟩
theorem m_account {d N : Nat} {h : eHp} {s : Nat → Int} {A : Nat → Nat → Int} (hm : mM h s A) (hN : 75 ≤ N) {c : Int} {G : eGd} (hr : rR G (A 0)) (hI : gI c G) {x : Int} (hx0 : i32 x) : eSp (d + 4) eM_X7_account [.ref 63, vI x] N h (mQ (gAcc G (gTop (gv (gDig G)) 31) (s 11) (s 5) x) (mIf (decide (0 ≤ x ∧ x ≤ 9)) 1 0) s A h N) := by
  refine eSp_of [(0, .ref 63), (1, vI x)] rfl rfl ?_
  have hG := hI.1
  have hG9 := hG
  obtain ⟨g1, g2, g3, g4⟩ := hG9
  unfold i32 at hx0
  have hc1 := eD_c (0 ≤ x ∧ x ≤ 9)
  have hc2 := mIf_c (decide (0 ≤ x ∧ x ≤ 9)) 1 0
  have hk := gAcc_k G (gTop (gv (gDig G)) 31) (s 11) (s 5)
  refine eW_aload_n 1 rfl rfl rfl ?_
  refine eW_iload_n 2 rfl rfl rfl ?_
  refine eW_iconst 3 rfl rfl ?_
  refine eW_bipush 5 rfl rfl 9 rfl ?_
  have hinq1 := eD_c ((0 : Int) ≤ x ∧ x ≤ 9)
  refine eW_callS 8 [vI x, vI 0, vI 9] [.ref 63] [vI (eB01 (decide ((0 : Int) ≤ x ∧ x ≤ 9))), .ref 63] rfl rfl rfl (Or.inl rfl) rfl rfl rfl (m_in (d := d + 2) (by unfold i32; omega) (by unfold i32; omega) (by unfold i32; omega)) rfl rfl ?_
  refine eW_if_eq 11 rfl rfl (by unfold i32; omega) (fun c2 => ?_) (fun c2 => ?_)
  · refine eW_iconst 16 rfl rfl ?_
    have hflq3 := eD_c ((0 : Int) < 1)
    refine eW_callVH 19 [.ref 63, vI 1] [] [vI (eB01 (decide ((0 : Int) < 1)))] rfl rfl rfl rfl (Nat.ble_eq_true_of_le (by omega)) hm.1 rfl rfl rfl (m_fails (d := d + 2) hm hN (by unfold i32; omega)) rfl rfl ?_
    intro h4 fh4
    have hmh4 : mM h4 (sUp s 7 1) A := fh4.1
    have frh4 : mFr h h4 := mFr_t (fun _ _ => rfl) fh4.2
    refine eW_if_eq 22 rfl rfl (by unfold i32; omega) (fun c5 => ?_) (fun c5 => ?_)
    · refine eW_iload_n 25 rfl rfl rfl ?_
      by_cases c6 : (0 : Int) ≤ x ∧ x ≤ 8
      · rcases (show x = 0 ∨ x = 1 ∨ x = 2 ∨ x = 3 ∨ x = 4 ∨ x = 5 ∨ x = 6 ∨ x = 7 ∨ x = 8 from by omega) with e7 | e8 | e9 | e10 | e11 | e12 | e13 | e14 | e15
        · refine eW_table 76 rfl (by unfold eSwT; rw [ofInt_toInt32 (by unfold i32; omega), e7]; rfl) ?_
          refine eW_aload_n 77 rfl rfl rfl ?_
          refine eW_getfield 80 rfl rfl (Nat.ble_eq_true_of_le (by omega)) rfl (show h4 63 = .inr (11, [.ref 64, .ref 65, .ref 66, .ref 67, vI (s 4), vI (s 5), vI (s 6), vI 1, vI (s 8), vI (s 9), .ref 68, vI (s 11), vI (s 12), .ref 69, vI (s 14), .ref 70, .ref 71, vI (s 17), vI (s 18), vI (s 19), vI (s 20), .ref 72, vI (s 22)]) from hmh4.1) rfl ⟨rfl, fun _ h9 => nomatch h9⟩ ?_
          refine eW_iconst 81 rfl rfl ?_
          refine eW_iaload 82 rfl rfl G.2.2.2.1 (Nat.ble_eq_true_of_le (by omega)) (show h4 64 = .inl (0, 62, .inl (eIA (A 0))) from hmh4.2.1) (by omega) (by omega) (by unfold i32; omega) (congrArg Int32.ofInt hr.1) ?_
          refine eW_ret_i rfl rfl (Or.inl rfl) ?_
          exfalso; omega
        · refine eW_table 83 rfl (by unfold eSwT; rw [ofInt_toInt32 (by unfold i32; omega), e8]; rfl) ?_
          refine eW_aload_n 84 rfl rfl rfl ?_
          refine eW_callV 87 [.ref 63] [] [vI (gSum G.1 G.2.2.2.1.toNat)] rfl rfl rfl rfl (Nat.ble_eq_true_of_le (by omega)) (show h4 63 = .inr (11, [.ref 64, .ref 65, .ref 66, .ref 67, vI (s 4), vI (s 5), vI (s 6), vI 1, vI (s 8), vI (s 9), .ref 68, vI (s 11), vI (s 12), .ref 69, vI (s 14), .ref 70, .ref 71, vI (s 17), vI (s 18), vI (s 19), vI (s 20), .ref 72, vI (s 22)]) from hmh4.1) rfl rfl rfl (m_all (d := d + 1) hmh4 hN hr hG) rfl rfl ?_
          refine eW_ret_i rfl rfl (Or.inl rfl) ?_
          exfalso; omega
        · refine eW_table 88 rfl (by unfold eSwT; rw [ofInt_toInt32 (by unfold i32; omega), e9]; rfl) ?_
          refine eW_aload_n 89 rfl rfl rfl ?_
          refine eW_getfield 92 rfl rfl (Nat.ble_eq_true_of_le (by omega)) rfl (show h4 63 = .inr (11, [.ref 64, .ref 65, .ref 66, .ref 67, vI (s 4), vI (s 5), vI (s 6), vI 1, vI (s 8), vI (s 9), .ref 68, vI (s 11), vI (s 12), .ref 69, vI (s 14), .ref 70, .ref 71, vI (s 17), vI (s 18), vI (s 19), vI (s 20), .ref 72, vI (s 22)]) from hmh4.1) rfl ⟨rfl, fun _ h9 => nomatch h9⟩ ?_
          refine eW_iconst 93 rfl rfl ?_
          refine eW_iaload 94 rfl rfl G.2.2.2.2.2.1 (Nat.ble_eq_true_of_le (by omega)) (show h4 64 = .inl (0, 62, .inl (eIA (A 0))) from hmh4.2.1) (by omega) (by omega) (by unfold i32; omega) (congrArg Int32.ofInt hr.2.2.1) ?_
          refine eW_ret_i rfl rfl (Or.inl rfl) ?_
          exfalso; omega
        · refine eW_table 95 rfl (by unfold eSwT; rw [ofInt_toInt32 (by unfold i32; omega), e10]; rfl) ?_
          refine eW_aload_n 96 rfl rfl rfl ?_
          refine eW_getfield 99 rfl rfl (Nat.ble_eq_true_of_le (by omega)) rfl (show h4 63 = .inr (11, [.ref 64, .ref 65, .ref 66, .ref 67, vI (s 4), vI (s 5), vI (s 6), vI 1, vI (s 8), vI (s 9), .ref 68, vI (s 11), vI (s 12), .ref 69, vI (s 14), .ref 70, .ref 71, vI (s 17), vI (s 18), vI (s 19), vI (s 20), .ref 72, vI (s 22)]) from hmh4.1) rfl ⟨rfl, fun _ h9 => nomatch h9⟩ ?_
          refine eW_iconst 100 rfl rfl ?_
          refine eW_iaload 101 rfl rfl ((G.2.2.1 1 + G.2.2.1 5)) (Nat.ble_eq_true_of_le (by omega)) (show h4 64 = .inl (0, 62, .inl (eIA (A 0))) from hmh4.2.1) (by omega) (by omega) (by unfold i32; omega) (congrArg Int32.ofInt hr.2.2.2.1) ?_
          refine eW_ret_i rfl rfl (Or.inl rfl) ?_
          exfalso; omega
        · refine eW_table 102 rfl (by unfold eSwT; rw [ofInt_toInt32 (by unfold i32; omega), e11]; rfl) ?_
          refine eW_aload_n 103 rfl rfl rfl ?_
          refine eW_getfield 106 rfl rfl (Nat.ble_eq_true_of_le (by omega)) rfl (show h4 63 = .inr (11, [.ref 64, .ref 65, .ref 66, .ref 67, vI (s 4), vI (s 5), vI (s 6), vI 1, vI (s 8), vI (s 9), .ref 68, vI (s 11), vI (s 12), .ref 69, vI (s 14), .ref 70, .ref 71, vI (s 17), vI (s 18), vI (s 19), vI (s 20), .ref 72, vI (s 22)]) from hmh4.1) rfl ⟨rfl, fun _ h9 => nomatch h9⟩ ?_
          refine eW_iconst 107 rfl rfl ?_
          refine eW_iaload 108 rfl rfl G.2.2.2.2.2.2.1 (Nat.ble_eq_true_of_le (by omega)) (show h4 64 = .inl (0, 62, .inl (eIA (A 0))) from hmh4.2.1) (by omega) (by omega) (by unfold i32; omega) (congrArg Int32.ofInt hr.2.2.2.2.1) ?_
          refine eW_ret_i rfl rfl (Or.inl rfl) ?_
          exfalso; omega
        · refine eW_table 109 rfl (by unfold eSwT; rw [ofInt_toInt32 (by unfold i32; omega), e12]; rfl) ?_
          refine eW_aload_n 110 rfl rfl rfl ?_
          refine eW_getfield 113 rfl rfl (Nat.ble_eq_true_of_le (by omega)) rfl (show h4 63 = .inr (11, [.ref 64, .ref 65, .ref 66, .ref 67, vI (s 4), vI (s 5), vI (s 6), vI 1, vI (s 8), vI (s 9), .ref 68, vI (s 11), vI (s 12), .ref 69, vI (s 14), .ref 70, .ref 71, vI (s 17), vI (s 18), vI (s 19), vI (s 20), .ref 72, vI (s 22)]) from hmh4.1) rfl ⟨rfl, fun _ h9 => nomatch h9⟩ ?_
          refine eW_iconst 114 rfl rfl ?_
          refine eW_iaload 115 rfl rfl G.2.2.2.2.2.2.2 (Nat.ble_eq_true_of_le (by omega)) (show h4 64 = .inl (0, 62, .inl (eIA (A 0))) from hmh4.2.1) (by omega) (by omega) (by unfold i32; omega) (congrArg Int32.ofInt hr.2.2.2.2.2.1) ?_
          refine eW_ret_i rfl rfl (Or.inl rfl) ?_
          exfalso; omega
        · refine eW_table 116 rfl (by unfold eSwT; rw [ofInt_toInt32 (by unfold i32; omega), e13]; rfl) ?_
          refine eW_aload_n 117 rfl rfl rfl ?_
          refine eW_getfield 120 rfl rfl (Nat.ble_eq_true_of_le (by omega)) rfl (show h4 63 = .inr (11, [.ref 64, .ref 65, .ref 66, .ref 67, vI (s 4), vI (s 5), vI (s 6), vI 1, vI (s 8), vI (s 9), .ref 68, vI (s 11), vI (s 12), .ref 69, vI (s 14), .ref 70, .ref 71, vI (s 17), vI (s 18), vI (s 19), vI (s 20), .ref 72, vI (s 22)]) from hmh4.1) rfl ⟨rfl, fun _ h9 => nomatch h9⟩ ?_
          refine eW_bipush 122 rfl rfl 6 rfl ?_
          refine eW_iaload 123 rfl rfl ((G.2.2.1 3 + G.2.2.1 7)) (Nat.ble_eq_true_of_le (by omega)) (show h4 64 = .inl (0, 62, .inl (eIA (A 0))) from hmh4.2.1) (by omega) (by omega) (by unfold i32; omega) (congrArg Int32.ofInt hr.2.2.2.2.2.2.1) ?_
          refine eW_ret_i rfl rfl (Or.inl rfl) ?_
          exfalso; omega
        · refine eW_table 124 rfl (by unfold eSwT; rw [ofInt_toInt32 (by unfold i32; omega), e14]; rfl) ?_
          refine eW_aload_n 125 rfl rfl rfl ?_
          refine eW_callVH 128 [.ref 63] [] [vI (gTop (gv (gDig G)) 31)] rfl rfl rfl rfl (Nat.ble_eq_true_of_le (by omega)) (show h4 63 = .inr (11, [.ref 64, .ref 65, .ref 66, .ref 67, vI (s 4), vI (s 5), vI (s 6), vI 1, vI (s 8), vI (s 9), .ref 68, vI (s 11), vI (s 12), .ref 69, vI (s 14), .ref 70, .ref 71, vI (s 17), vI (s 18), vI (s 19), vI (s 20), .ref 72, vI (s 22)]) from hmh4.1) rfl rfl rfl (m_greatest (d := d + 0) hmh4 hN hr hI) rfl rfl ?_
          intro h16 fh16
          obtain ⟨V1, F1, f9h16⟩ := fh16
          obtain ⟨f8h16, hV1⟩ := f9h16
          have hmh16 : mM h16 (sUp s 7 1) (mUp (mUp A 6 V1) 7 F1) := f8h16.1
          have frh16 : mFr h h16 := mFr_t frh4 f8h16.2
          refine eW_ret_i rfl rfl (Or.inl rfl) ?_
          exfalso; omega
        · refine eW_table 129 rfl (by unfold eSwT; rw [ofInt_toInt32 (by unfold i32; omega), e15]; rfl) ?_
          refine eW_aload_n 130 rfl rfl rfl ?_
          refine eW_getfield 133 rfl rfl (Nat.ble_eq_true_of_le (by omega)) rfl (show h4 63 = .inr (11, [.ref 64, .ref 65, .ref 66, .ref 67, vI (s 4), vI (s 5), vI (s 6), vI 1, vI (s 8), vI (s 9), .ref 68, vI (s 11), vI (s 12), .ref 69, vI (s 14), .ref 70, .ref 71, vI (s 17), vI (s 18), vI (s 19), vI (s 20), .ref 72, vI (s 22)]) from hmh4.1) rfl ⟨rfl, fun _ h9 => nomatch h9⟩ ?_
          refine eW_ret_i rfl rfl (Or.inl rfl) ?_
          exfalso; omega
      · rcases (show x < 0 ∨ (¬ x < 0 ∧ 8 < x) from by omega) with z17 | ⟨z17, z17b⟩
        · refine eW_table 134 rfl (by unfold eSwT; rw [ofInt_toInt32 (by unfold i32; omega), if_pos z17]; rfl) ?_
          refine eW_aload_n 135 rfl rfl rfl ?_
          refine eW_getfield 138 rfl rfl (Nat.ble_eq_true_of_le (by omega)) rfl (show h4 63 = .inr (11, [.ref 64, .ref 65, .ref 66, .ref 67, vI (s 4), vI (s 5), vI (s 6), vI 1, vI (s 8), vI (s 9), .ref 68, vI (s 11), vI (s 12), .ref 69, vI (s 14), .ref 70, .ref 71, vI (s 17), vI (s 18), vI (s 19), vI (s 20), .ref 72, vI (s 22)]) from hmh4.1) rfl ⟨rfl, fun _ h9 => nomatch h9⟩ ?_
          refine eW_ret_i rfl rfl (Or.inl rfl) ?_
          exfalso; omega
        · refine eW_table 134 rfl (by unfold eSwT; rw [ofInt_toInt32 (by unfold i32; omega), if_neg z17, if_pos z17b]; rfl) ?_
          refine eW_aload_n 135 rfl rfl rfl ?_
          refine eW_getfield 138 rfl rfl (Nat.ble_eq_true_of_le (by omega)) rfl (show h4 63 = .inr (11, [.ref 64, .ref 65, .ref 66, .ref 67, vI (s 4), vI (s 5), vI (s 6), vI 1, vI (s 8), vI (s 9), .ref 68, vI (s 11), vI (s 12), .ref 69, vI (s 14), .ref 70, .ref 71, vI (s 17), vI (s 18), vI (s 19), vI (s 20), .ref 72, vI (s 22)]) from hmh4.1) rfl ⟨rfl, fun _ h9 => nomatch h9⟩ ?_
          refine eW_ret_i rfl rfl (Or.inl rfl) ?_
          exfalso; omega
    · refine eW_iconst 23 rfl rfl ?_
      refine eW_ret_i rfl rfl (Or.inl rfl) ?_
      refine ⟨_, _, _, _, rfl, hmh4, frh4, ?_, ?_, ⟨rfl, rfl, rfl, rfl, rfl, rfl, rfl, rfl, rfl, rfl, rfl, rfl, rfl⟩⟩
      · show (1 : Int) = _; omega
      · intro e9
        show (0 : Int) = _
        first
          | (exfalso; omega)
          | (rw [show x = 0 by omega]; exact hk.1.symm)
          | (rw [show x = 1 by omega]; exact hk.2.1.symm)
          | (rw [show x = 2 by omega]; exact hk.2.2.1.symm)
          | (rw [show x = 3 by omega]; exact hk.2.2.2.1.symm)
          | (rw [show x = 4 by omega]; exact hk.2.2.2.2.1.symm)
          | (rw [show x = 5 by omega]; exact hk.2.2.2.2.2.1.symm)
          | (rw [show x = 6 by omega]; exact hk.2.2.2.2.2.2.1.symm)
          | (rw [show x = 7 by omega]; exact hk.2.2.2.2.2.2.2.1.symm)
          | (rw [show x = 8 by omega]; exact hk.2.2.2.2.2.2.2.2.1.symm)
          | (rw [show x = 9 by omega]; exact hk.2.2.2.2.2.2.2.2.2.symm)
  · refine eW_iconst 12 rfl rfl ?_
    refine eW_goto rfl ?_
    have hflq18 := eD_c ((0 : Int) < 0)
    refine eW_callVH 19 [.ref 63, vI 0] [] [vI (eB01 (decide ((0 : Int) < 0)))] rfl rfl rfl rfl (Nat.ble_eq_true_of_le (by omega)) hm.1 rfl rfl rfl (m_fails (d := d + 2) hm hN (by unfold i32; omega)) rfl rfl ?_
    intro h19 fh19
    have hmh19 : mM h19 (sUp s 7 0) A := fh19.1
    have frh19 : mFr h h19 := mFr_t (fun _ _ => rfl) fh19.2
    refine eW_if_eq 22 rfl rfl (by unfold i32; omega) (fun c20 => ?_) (fun c20 => ?_)
    · refine eW_iload_n 25 rfl rfl rfl ?_
      by_cases c21 : (0 : Int) ≤ x ∧ x ≤ 8
      · rcases (show x = 0 ∨ x = 1 ∨ x = 2 ∨ x = 3 ∨ x = 4 ∨ x = 5 ∨ x = 6 ∨ x = 7 ∨ x = 8 from by omega) with e22 | e23 | e24 | e25 | e26 | e27 | e28 | e29 | e30
        · refine eW_table 76 rfl (by unfold eSwT; rw [ofInt_toInt32 (by unfold i32; omega), e22]; rfl) ?_
          refine eW_aload_n 77 rfl rfl rfl ?_
          refine eW_getfield 80 rfl rfl (Nat.ble_eq_true_of_le (by omega)) rfl (show h19 63 = .inr (11, [.ref 64, .ref 65, .ref 66, .ref 67, vI (s 4), vI (s 5), vI (s 6), vI 0, vI (s 8), vI (s 9), .ref 68, vI (s 11), vI (s 12), .ref 69, vI (s 14), .ref 70, .ref 71, vI (s 17), vI (s 18), vI (s 19), vI (s 20), .ref 72, vI (s 22)]) from hmh19.1) rfl ⟨rfl, fun _ h9 => nomatch h9⟩ ?_
          refine eW_iconst 81 rfl rfl ?_
          refine eW_iaload 82 rfl rfl G.2.2.2.1 (Nat.ble_eq_true_of_le (by omega)) (show h19 64 = .inl (0, 62, .inl (eIA (A 0))) from hmh19.2.1) (by omega) (by omega) (by unfold i32; omega) (congrArg Int32.ofInt hr.1) ?_
          refine eW_ret_i rfl rfl (Or.inl rfl) ?_
          refine ⟨_, _, _, _, rfl, hmh19, frh19, ?_, ?_, ⟨rfl, rfl, rfl, rfl, rfl, rfl, rfl, rfl, rfl, rfl, rfl, rfl, rfl⟩⟩
          · show (0 : Int) = _; omega
          · intro e9
            show (G.2.2.2.1 : Int) = _
            first
              | (exfalso; omega)
              | (rw [show x = 0 by omega]; exact hk.1.symm)
              | (rw [show x = 1 by omega]; exact hk.2.1.symm)
              | (rw [show x = 2 by omega]; exact hk.2.2.1.symm)
              | (rw [show x = 3 by omega]; exact hk.2.2.2.1.symm)
              | (rw [show x = 4 by omega]; exact hk.2.2.2.2.1.symm)
              | (rw [show x = 5 by omega]; exact hk.2.2.2.2.2.1.symm)
              | (rw [show x = 6 by omega]; exact hk.2.2.2.2.2.2.1.symm)
              | (rw [show x = 7 by omega]; exact hk.2.2.2.2.2.2.2.1.symm)
              | (rw [show x = 8 by omega]; exact hk.2.2.2.2.2.2.2.2.1.symm)
              | (rw [show x = 9 by omega]; exact hk.2.2.2.2.2.2.2.2.2.symm)
        · refine eW_table 83 rfl (by unfold eSwT; rw [ofInt_toInt32 (by unfold i32; omega), e23]; rfl) ?_
          refine eW_aload_n 84 rfl rfl rfl ?_
          refine eW_callV 87 [.ref 63] [] [vI (gSum G.1 G.2.2.2.1.toNat)] rfl rfl rfl rfl (Nat.ble_eq_true_of_le (by omega)) (show h19 63 = .inr (11, [.ref 64, .ref 65, .ref 66, .ref 67, vI (s 4), vI (s 5), vI (s 6), vI 0, vI (s 8), vI (s 9), .ref 68, vI (s 11), vI (s 12), .ref 69, vI (s 14), .ref 70, .ref 71, vI (s 17), vI (s 18), vI (s 19), vI (s 20), .ref 72, vI (s 22)]) from hmh19.1) rfl rfl rfl (m_all (d := d + 1) hmh19 hN hr hG) rfl rfl ?_
          refine eW_ret_i rfl rfl (Or.inl rfl) ?_
          refine ⟨_, _, _, _, rfl, hmh19, frh19, ?_, ?_, ⟨rfl, rfl, rfl, rfl, rfl, rfl, rfl, rfl, rfl, rfl, rfl, rfl, rfl⟩⟩
          · show (0 : Int) = _; omega
          · intro e9
            show (gSum G.1 G.2.2.2.1.toNat : Int) = _
            first
              | (exfalso; omega)
              | (rw [show x = 0 by omega]; exact hk.1.symm)
              | (rw [show x = 1 by omega]; exact hk.2.1.symm)
              | (rw [show x = 2 by omega]; exact hk.2.2.1.symm)
              | (rw [show x = 3 by omega]; exact hk.2.2.2.1.symm)
              | (rw [show x = 4 by omega]; exact hk.2.2.2.2.1.symm)
              | (rw [show x = 5 by omega]; exact hk.2.2.2.2.2.1.symm)
              | (rw [show x = 6 by omega]; exact hk.2.2.2.2.2.2.1.symm)
              | (rw [show x = 7 by omega]; exact hk.2.2.2.2.2.2.2.1.symm)
              | (rw [show x = 8 by omega]; exact hk.2.2.2.2.2.2.2.2.1.symm)
              | (rw [show x = 9 by omega]; exact hk.2.2.2.2.2.2.2.2.2.symm)
        · refine eW_table 88 rfl (by unfold eSwT; rw [ofInt_toInt32 (by unfold i32; omega), e24]; rfl) ?_
          refine eW_aload_n 89 rfl rfl rfl ?_
          refine eW_getfield 92 rfl rfl (Nat.ble_eq_true_of_le (by omega)) rfl (show h19 63 = .inr (11, [.ref 64, .ref 65, .ref 66, .ref 67, vI (s 4), vI (s 5), vI (s 6), vI 0, vI (s 8), vI (s 9), .ref 68, vI (s 11), vI (s 12), .ref 69, vI (s 14), .ref 70, .ref 71, vI (s 17), vI (s 18), vI (s 19), vI (s 20), .ref 72, vI (s 22)]) from hmh19.1) rfl ⟨rfl, fun _ h9 => nomatch h9⟩ ?_
          refine eW_iconst 93 rfl rfl ?_
          refine eW_iaload 94 rfl rfl G.2.2.2.2.2.1 (Nat.ble_eq_true_of_le (by omega)) (show h19 64 = .inl (0, 62, .inl (eIA (A 0))) from hmh19.2.1) (by omega) (by omega) (by unfold i32; omega) (congrArg Int32.ofInt hr.2.2.1) ?_
          refine eW_ret_i rfl rfl (Or.inl rfl) ?_
          refine ⟨_, _, _, _, rfl, hmh19, frh19, ?_, ?_, ⟨rfl, rfl, rfl, rfl, rfl, rfl, rfl, rfl, rfl, rfl, rfl, rfl, rfl⟩⟩
          · show (0 : Int) = _; omega
          · intro e9
            show (G.2.2.2.2.2.1 : Int) = _
            first
              | (exfalso; omega)
              | (rw [show x = 0 by omega]; exact hk.1.symm)
              | (rw [show x = 1 by omega]; exact hk.2.1.symm)
              | (rw [show x = 2 by omega]; exact hk.2.2.1.symm)
              | (rw [show x = 3 by omega]; exact hk.2.2.2.1.symm)
              | (rw [show x = 4 by omega]; exact hk.2.2.2.2.1.symm)
              | (rw [show x = 5 by omega]; exact hk.2.2.2.2.2.1.symm)
              | (rw [show x = 6 by omega]; exact hk.2.2.2.2.2.2.1.symm)
              | (rw [show x = 7 by omega]; exact hk.2.2.2.2.2.2.2.1.symm)
              | (rw [show x = 8 by omega]; exact hk.2.2.2.2.2.2.2.2.1.symm)
              | (rw [show x = 9 by omega]; exact hk.2.2.2.2.2.2.2.2.2.symm)
        · refine eW_table 95 rfl (by unfold eSwT; rw [ofInt_toInt32 (by unfold i32; omega), e25]; rfl) ?_
          refine eW_aload_n 96 rfl rfl rfl ?_
          refine eW_getfield 99 rfl rfl (Nat.ble_eq_true_of_le (by omega)) rfl (show h19 63 = .inr (11, [.ref 64, .ref 65, .ref 66, .ref 67, vI (s 4), vI (s 5), vI (s 6), vI 0, vI (s 8), vI (s 9), .ref 68, vI (s 11), vI (s 12), .ref 69, vI (s 14), .ref 70, .ref 71, vI (s 17), vI (s 18), vI (s 19), vI (s 20), .ref 72, vI (s 22)]) from hmh19.1) rfl ⟨rfl, fun _ h9 => nomatch h9⟩ ?_
          refine eW_iconst 100 rfl rfl ?_
          refine eW_iaload 101 rfl rfl ((G.2.2.1 1 + G.2.2.1 5)) (Nat.ble_eq_true_of_le (by omega)) (show h19 64 = .inl (0, 62, .inl (eIA (A 0))) from hmh19.2.1) (by omega) (by omega) (by unfold i32; omega) (congrArg Int32.ofInt hr.2.2.2.1) ?_
          refine eW_ret_i rfl rfl (Or.inl rfl) ?_
          refine ⟨_, _, _, _, rfl, hmh19, frh19, ?_, ?_, ⟨rfl, rfl, rfl, rfl, rfl, rfl, rfl, rfl, rfl, rfl, rfl, rfl, rfl⟩⟩
          · show (0 : Int) = _; omega
          · intro e9
            show ((G.2.2.1 1 + G.2.2.1 5) : Int) = _
            first
              | (exfalso; omega)
              | (rw [show x = 0 by omega]; exact hk.1.symm)
              | (rw [show x = 1 by omega]; exact hk.2.1.symm)
              | (rw [show x = 2 by omega]; exact hk.2.2.1.symm)
              | (rw [show x = 3 by omega]; exact hk.2.2.2.1.symm)
              | (rw [show x = 4 by omega]; exact hk.2.2.2.2.1.symm)
              | (rw [show x = 5 by omega]; exact hk.2.2.2.2.2.1.symm)
              | (rw [show x = 6 by omega]; exact hk.2.2.2.2.2.2.1.symm)
              | (rw [show x = 7 by omega]; exact hk.2.2.2.2.2.2.2.1.symm)
              | (rw [show x = 8 by omega]; exact hk.2.2.2.2.2.2.2.2.1.symm)
              | (rw [show x = 9 by omega]; exact hk.2.2.2.2.2.2.2.2.2.symm)
        · refine eW_table 102 rfl (by unfold eSwT; rw [ofInt_toInt32 (by unfold i32; omega), e26]; rfl) ?_
          refine eW_aload_n 103 rfl rfl rfl ?_
          refine eW_getfield 106 rfl rfl (Nat.ble_eq_true_of_le (by omega)) rfl (show h19 63 = .inr (11, [.ref 64, .ref 65, .ref 66, .ref 67, vI (s 4), vI (s 5), vI (s 6), vI 0, vI (s 8), vI (s 9), .ref 68, vI (s 11), vI (s 12), .ref 69, vI (s 14), .ref 70, .ref 71, vI (s 17), vI (s 18), vI (s 19), vI (s 20), .ref 72, vI (s 22)]) from hmh19.1) rfl ⟨rfl, fun _ h9 => nomatch h9⟩ ?_
          refine eW_iconst 107 rfl rfl ?_
          refine eW_iaload 108 rfl rfl G.2.2.2.2.2.2.1 (Nat.ble_eq_true_of_le (by omega)) (show h19 64 = .inl (0, 62, .inl (eIA (A 0))) from hmh19.2.1) (by omega) (by omega) (by unfold i32; omega) (congrArg Int32.ofInt hr.2.2.2.2.1) ?_
          refine eW_ret_i rfl rfl (Or.inl rfl) ?_
          refine ⟨_, _, _, _, rfl, hmh19, frh19, ?_, ?_, ⟨rfl, rfl, rfl, rfl, rfl, rfl, rfl, rfl, rfl, rfl, rfl, rfl, rfl⟩⟩
          · show (0 : Int) = _; omega
          · intro e9
            show (G.2.2.2.2.2.2.1 : Int) = _
            first
              | (exfalso; omega)
              | (rw [show x = 0 by omega]; exact hk.1.symm)
              | (rw [show x = 1 by omega]; exact hk.2.1.symm)
              | (rw [show x = 2 by omega]; exact hk.2.2.1.symm)
              | (rw [show x = 3 by omega]; exact hk.2.2.2.1.symm)
              | (rw [show x = 4 by omega]; exact hk.2.2.2.2.1.symm)
              | (rw [show x = 5 by omega]; exact hk.2.2.2.2.2.1.symm)
              | (rw [show x = 6 by omega]; exact hk.2.2.2.2.2.2.1.symm)
              | (rw [show x = 7 by omega]; exact hk.2.2.2.2.2.2.2.1.symm)
              | (rw [show x = 8 by omega]; exact hk.2.2.2.2.2.2.2.2.1.symm)
              | (rw [show x = 9 by omega]; exact hk.2.2.2.2.2.2.2.2.2.symm)
        · refine eW_table 109 rfl (by unfold eSwT; rw [ofInt_toInt32 (by unfold i32; omega), e27]; rfl) ?_
          refine eW_aload_n 110 rfl rfl rfl ?_
          refine eW_getfield 113 rfl rfl (Nat.ble_eq_true_of_le (by omega)) rfl (show h19 63 = .inr (11, [.ref 64, .ref 65, .ref 66, .ref 67, vI (s 4), vI (s 5), vI (s 6), vI 0, vI (s 8), vI (s 9), .ref 68, vI (s 11), vI (s 12), .ref 69, vI (s 14), .ref 70, .ref 71, vI (s 17), vI (s 18), vI (s 19), vI (s 20), .ref 72, vI (s 22)]) from hmh19.1) rfl ⟨rfl, fun _ h9 => nomatch h9⟩ ?_
          refine eW_iconst 114 rfl rfl ?_
          refine eW_iaload 115 rfl rfl G.2.2.2.2.2.2.2 (Nat.ble_eq_true_of_le (by omega)) (show h19 64 = .inl (0, 62, .inl (eIA (A 0))) from hmh19.2.1) (by omega) (by omega) (by unfold i32; omega) (congrArg Int32.ofInt hr.2.2.2.2.2.1) ?_
          refine eW_ret_i rfl rfl (Or.inl rfl) ?_
          refine ⟨_, _, _, _, rfl, hmh19, frh19, ?_, ?_, ⟨rfl, rfl, rfl, rfl, rfl, rfl, rfl, rfl, rfl, rfl, rfl, rfl, rfl⟩⟩
          · show (0 : Int) = _; omega
          · intro e9
            show (G.2.2.2.2.2.2.2 : Int) = _
            first
              | (exfalso; omega)
              | (rw [show x = 0 by omega]; exact hk.1.symm)
              | (rw [show x = 1 by omega]; exact hk.2.1.symm)
              | (rw [show x = 2 by omega]; exact hk.2.2.1.symm)
              | (rw [show x = 3 by omega]; exact hk.2.2.2.1.symm)
              | (rw [show x = 4 by omega]; exact hk.2.2.2.2.1.symm)
              | (rw [show x = 5 by omega]; exact hk.2.2.2.2.2.1.symm)
              | (rw [show x = 6 by omega]; exact hk.2.2.2.2.2.2.1.symm)
              | (rw [show x = 7 by omega]; exact hk.2.2.2.2.2.2.2.1.symm)
              | (rw [show x = 8 by omega]; exact hk.2.2.2.2.2.2.2.2.1.symm)
              | (rw [show x = 9 by omega]; exact hk.2.2.2.2.2.2.2.2.2.symm)
        · refine eW_table 116 rfl (by unfold eSwT; rw [ofInt_toInt32 (by unfold i32; omega), e28]; rfl) ?_
          refine eW_aload_n 117 rfl rfl rfl ?_
          refine eW_getfield 120 rfl rfl (Nat.ble_eq_true_of_le (by omega)) rfl (show h19 63 = .inr (11, [.ref 64, .ref 65, .ref 66, .ref 67, vI (s 4), vI (s 5), vI (s 6), vI 0, vI (s 8), vI (s 9), .ref 68, vI (s 11), vI (s 12), .ref 69, vI (s 14), .ref 70, .ref 71, vI (s 17), vI (s 18), vI (s 19), vI (s 20), .ref 72, vI (s 22)]) from hmh19.1) rfl ⟨rfl, fun _ h9 => nomatch h9⟩ ?_
          refine eW_bipush 122 rfl rfl 6 rfl ?_
          refine eW_iaload 123 rfl rfl ((G.2.2.1 3 + G.2.2.1 7)) (Nat.ble_eq_true_of_le (by omega)) (show h19 64 = .inl (0, 62, .inl (eIA (A 0))) from hmh19.2.1) (by omega) (by omega) (by unfold i32; omega) (congrArg Int32.ofInt hr.2.2.2.2.2.2.1) ?_
          refine eW_ret_i rfl rfl (Or.inl rfl) ?_
          refine ⟨_, _, _, _, rfl, hmh19, frh19, ?_, ?_, ⟨rfl, rfl, rfl, rfl, rfl, rfl, rfl, rfl, rfl, rfl, rfl, rfl, rfl⟩⟩
          · show (0 : Int) = _; omega
          · intro e9
            show ((G.2.2.1 3 + G.2.2.1 7) : Int) = _
            first
              | (exfalso; omega)
              | (rw [show x = 0 by omega]; exact hk.1.symm)
              | (rw [show x = 1 by omega]; exact hk.2.1.symm)
              | (rw [show x = 2 by omega]; exact hk.2.2.1.symm)
              | (rw [show x = 3 by omega]; exact hk.2.2.2.1.symm)
              | (rw [show x = 4 by omega]; exact hk.2.2.2.2.1.symm)
              | (rw [show x = 5 by omega]; exact hk.2.2.2.2.2.1.symm)
              | (rw [show x = 6 by omega]; exact hk.2.2.2.2.2.2.1.symm)
              | (rw [show x = 7 by omega]; exact hk.2.2.2.2.2.2.2.1.symm)
              | (rw [show x = 8 by omega]; exact hk.2.2.2.2.2.2.2.2.1.symm)
              | (rw [show x = 9 by omega]; exact hk.2.2.2.2.2.2.2.2.2.symm)
        · refine eW_table 124 rfl (by unfold eSwT; rw [ofInt_toInt32 (by unfold i32; omega), e29]; rfl) ?_
          refine eW_aload_n 125 rfl rfl rfl ?_
          refine eW_callVH 128 [.ref 63] [] [vI (gTop (gv (gDig G)) 31)] rfl rfl rfl rfl (Nat.ble_eq_true_of_le (by omega)) (show h19 63 = .inr (11, [.ref 64, .ref 65, .ref 66, .ref 67, vI (s 4), vI (s 5), vI (s 6), vI 0, vI (s 8), vI (s 9), .ref 68, vI (s 11), vI (s 12), .ref 69, vI (s 14), .ref 70, .ref 71, vI (s 17), vI (s 18), vI (s 19), vI (s 20), .ref 72, vI (s 22)]) from hmh19.1) rfl rfl rfl (m_greatest (d := d + 0) hmh19 hN hr hI) rfl rfl ?_
          intro h31 fh31
          obtain ⟨V1, F1, f9h31⟩ := fh31
          obtain ⟨f8h31, hV1⟩ := f9h31
          have hmh31 : mM h31 (sUp s 7 0) (mUp (mUp A 6 V1) 7 F1) := f8h31.1
          have frh31 : mFr h h31 := mFr_t frh19 f8h31.2
          refine eW_ret_i rfl rfl (Or.inl rfl) ?_
          refine ⟨_, _, _, _, rfl, hmh31, frh31, ?_, ?_, ⟨rfl, rfl, rfl, rfl, rfl, rfl, rfl, rfl, rfl, rfl, rfl, rfl, rfl⟩⟩
          · show (0 : Int) = _; omega
          · intro e9
            show (gTop (gv (gDig G)) 31 : Int) = _
            first
              | (exfalso; omega)
              | (rw [show x = 0 by omega]; exact hk.1.symm)
              | (rw [show x = 1 by omega]; exact hk.2.1.symm)
              | (rw [show x = 2 by omega]; exact hk.2.2.1.symm)
              | (rw [show x = 3 by omega]; exact hk.2.2.2.1.symm)
              | (rw [show x = 4 by omega]; exact hk.2.2.2.2.1.symm)
              | (rw [show x = 5 by omega]; exact hk.2.2.2.2.2.1.symm)
              | (rw [show x = 6 by omega]; exact hk.2.2.2.2.2.2.1.symm)
              | (rw [show x = 7 by omega]; exact hk.2.2.2.2.2.2.2.1.symm)
              | (rw [show x = 8 by omega]; exact hk.2.2.2.2.2.2.2.2.1.symm)
              | (rw [show x = 9 by omega]; exact hk.2.2.2.2.2.2.2.2.2.symm)
        · refine eW_table 129 rfl (by unfold eSwT; rw [ofInt_toInt32 (by unfold i32; omega), e30]; rfl) ?_
          refine eW_aload_n 130 rfl rfl rfl ?_
          refine eW_getfield 133 rfl rfl (Nat.ble_eq_true_of_le (by omega)) rfl (show h19 63 = .inr (11, [.ref 64, .ref 65, .ref 66, .ref 67, vI (s 4), vI (s 5), vI (s 6), vI 0, vI (s 8), vI (s 9), .ref 68, vI (s 11), vI (s 12), .ref 69, vI (s 14), .ref 70, .ref 71, vI (s 17), vI (s 18), vI (s 19), vI (s 20), .ref 72, vI (s 22)]) from hmh19.1) rfl ⟨rfl, fun _ h9 => nomatch h9⟩ ?_
          refine eW_ret_i rfl rfl (Or.inl rfl) ?_
          refine ⟨_, _, _, _, rfl, hmh19, frh19, ?_, ?_, ⟨rfl, rfl, rfl, rfl, rfl, rfl, rfl, rfl, rfl, rfl, rfl, rfl, rfl⟩⟩
          · show (0 : Int) = _; omega
          · intro e9
            show (s 11 : Int) = _
            first
              | (exfalso; omega)
              | (rw [show x = 0 by omega]; exact hk.1.symm)
              | (rw [show x = 1 by omega]; exact hk.2.1.symm)
              | (rw [show x = 2 by omega]; exact hk.2.2.1.symm)
              | (rw [show x = 3 by omega]; exact hk.2.2.2.1.symm)
              | (rw [show x = 4 by omega]; exact hk.2.2.2.2.1.symm)
              | (rw [show x = 5 by omega]; exact hk.2.2.2.2.2.1.symm)
              | (rw [show x = 6 by omega]; exact hk.2.2.2.2.2.2.1.symm)
              | (rw [show x = 7 by omega]; exact hk.2.2.2.2.2.2.2.1.symm)
              | (rw [show x = 8 by omega]; exact hk.2.2.2.2.2.2.2.2.1.symm)
              | (rw [show x = 9 by omega]; exact hk.2.2.2.2.2.2.2.2.2.symm)
      · rcases (show x < 0 ∨ (¬ x < 0 ∧ 8 < x) from by omega) with z32 | ⟨z32, z32b⟩
        · refine eW_table 134 rfl (by unfold eSwT; rw [ofInt_toInt32 (by unfold i32; omega), if_pos z32]; rfl) ?_
          refine eW_aload_n 135 rfl rfl rfl ?_
          refine eW_getfield 138 rfl rfl (Nat.ble_eq_true_of_le (by omega)) rfl (show h19 63 = .inr (11, [.ref 64, .ref 65, .ref 66, .ref 67, vI (s 4), vI (s 5), vI (s 6), vI 0, vI (s 8), vI (s 9), .ref 68, vI (s 11), vI (s 12), .ref 69, vI (s 14), .ref 70, .ref 71, vI (s 17), vI (s 18), vI (s 19), vI (s 20), .ref 72, vI (s 22)]) from hmh19.1) rfl ⟨rfl, fun _ h9 => nomatch h9⟩ ?_
          refine eW_ret_i rfl rfl (Or.inl rfl) ?_
          refine ⟨_, _, _, _, rfl, hmh19, frh19, ?_, ?_, ⟨rfl, rfl, rfl, rfl, rfl, rfl, rfl, rfl, rfl, rfl, rfl, rfl, rfl⟩⟩
          · show (0 : Int) = _; omega
          · intro e9
            show (s 5 : Int) = _
            first
              | (exfalso; omega)
              | (rw [show x = 0 by omega]; exact hk.1.symm)
              | (rw [show x = 1 by omega]; exact hk.2.1.symm)
              | (rw [show x = 2 by omega]; exact hk.2.2.1.symm)
              | (rw [show x = 3 by omega]; exact hk.2.2.2.1.symm)
              | (rw [show x = 4 by omega]; exact hk.2.2.2.2.1.symm)
              | (rw [show x = 5 by omega]; exact hk.2.2.2.2.2.1.symm)
              | (rw [show x = 6 by omega]; exact hk.2.2.2.2.2.2.1.symm)
              | (rw [show x = 7 by omega]; exact hk.2.2.2.2.2.2.2.1.symm)
              | (rw [show x = 8 by omega]; exact hk.2.2.2.2.2.2.2.2.1.symm)
              | (rw [show x = 9 by omega]; exact hk.2.2.2.2.2.2.2.2.2.symm)
        · refine eW_table 134 rfl (by unfold eSwT; rw [ofInt_toInt32 (by unfold i32; omega), if_neg z32, if_pos z32b]; rfl) ?_
          refine eW_aload_n 135 rfl rfl rfl ?_
          refine eW_getfield 138 rfl rfl (Nat.ble_eq_true_of_le (by omega)) rfl (show h19 63 = .inr (11, [.ref 64, .ref 65, .ref 66, .ref 67, vI (s 4), vI (s 5), vI (s 6), vI 0, vI (s 8), vI (s 9), .ref 68, vI (s 11), vI (s 12), .ref 69, vI (s 14), .ref 70, .ref 71, vI (s 17), vI (s 18), vI (s 19), vI (s 20), .ref 72, vI (s 22)]) from hmh19.1) rfl ⟨rfl, fun _ h9 => nomatch h9⟩ ?_
          refine eW_ret_i rfl rfl (Or.inl rfl) ?_
          refine ⟨_, _, _, _, rfl, hmh19, frh19, ?_, ?_, ⟨rfl, rfl, rfl, rfl, rfl, rfl, rfl, rfl, rfl, rfl, rfl, rfl, rfl⟩⟩
          · show (0 : Int) = _; omega
          · intro e9
            show (s 5 : Int) = _
            first
              | (exfalso; omega)
              | (rw [show x = 0 by omega]; exact hk.1.symm)
              | (rw [show x = 1 by omega]; exact hk.2.1.symm)
              | (rw [show x = 2 by omega]; exact hk.2.2.1.symm)
              | (rw [show x = 3 by omega]; exact hk.2.2.2.1.symm)
              | (rw [show x = 4 by omega]; exact hk.2.2.2.2.1.symm)
              | (rw [show x = 5 by omega]; exact hk.2.2.2.2.2.1.symm)
              | (rw [show x = 6 by omega]; exact hk.2.2.2.2.2.2.1.symm)
              | (rw [show x = 7 by omega]; exact hk.2.2.2.2.2.2.2.1.symm)
              | (rw [show x = 8 by omega]; exact hk.2.2.2.2.2.2.2.2.1.symm)
              | (rw [show x = 9 by omega]; exact hk.2.2.2.2.2.2.2.2.2.symm)
    · refine eW_iconst 23 rfl rfl ?_
      refine eW_ret_i rfl rfl (Or.inl rfl) ?_
      refine ⟨_, _, _, _, rfl, hmh19, frh19, ?_, ?_, ⟨rfl, rfl, rfl, rfl, rfl, rfl, rfl, rfl, rfl, rfl, rfl, rfl, rfl⟩⟩
      · show (0 : Int) = _; omega
      · intro e9
        show (0 : Int) = _
        first
          | (exfalso; omega)
          | (rw [show x = 0 by omega]; exact hk.1.symm)
          | (rw [show x = 1 by omega]; exact hk.2.1.symm)
          | (rw [show x = 2 by omega]; exact hk.2.2.1.symm)
          | (rw [show x = 3 by omega]; exact hk.2.2.2.1.symm)
          | (rw [show x = 4 by omega]; exact hk.2.2.2.2.1.symm)
          | (rw [show x = 5 by omega]; exact hk.2.2.2.2.2.1.symm)
          | (rw [show x = 6 by omega]; exact hk.2.2.2.2.2.2.1.symm)
          | (rw [show x = 7 by omega]; exact hk.2.2.2.2.2.2.2.1.symm)
          | (rw [show x = 8 by omega]; exact hk.2.2.2.2.2.2.2.2.1.symm)
          | (rw [show x = 9 by omega]; exact hk.2.2.2.2.2.2.2.2.2.symm)
theorem m_isWell {d N : Nat} {h : eHp} {s : Nat → Int} {A : Nat → Nat → Int} (hm : mM h s A) (hN : 75 ≤ N) {c : Int} {G : eGd} (hr : rR G (A 0)) (hI : gI c G) (hc : c ≤ 16000) : eSp (d + 3) eM_X7_isWell [.ref 63] N h (mQ 1 0 s A h N) := by
  refine eSp_of [(0, .ref 63)] rfl rfl ?_
  have hG := hI.1
  have hG9 := hG
  obtain ⟨g1, g2, g3, g4⟩ := hG9
  have hs40 := hI.2.2.2.1
  have hsp := gI_pits hI
  have ht1 := hI.2.2.2.2.1 1 (by decide)
  have ht5 := hI.2.2.2.2.1 5 (by decide)
  have hcm := hI.2.2.2.2.2.2.1
  have hly := hI.2.2.2.2.2.2.2.1
  have heq := hI.2.2.2.2.2.2.2.2.2
  refine eW_aload_n 1 rfl rfl rfl ?_
  refine eW_iconst 2 rfl rfl ?_
  refine eW_putfield 5 [.ref 64, .ref 65, .ref 66, .ref 67, vI (s 4), vI (s 5), vI (s 6), vI 0, vI (s 8), vI (s 9), .ref 68, vI (s 11), vI (s 12), .ref 69, vI (s 14), .ref 70, .ref 71, vI (s 17), vI (s 18), vI (s 19), vI (s 20), .ref 72, vI (s 22)] rfl rfl (Nat.ble_eq_true_of_le (by omega)) rfl hm.1 rfl rfl ?_
  intro h1 eh1 oh1
  have hmh1 : mM h1 (sUp s 7 0) A := mM_s (s := s) hm eh1 oh1
  have frh1 : mFr h h1 := mFr_s (fun _ _ => rfl) oh1
  refine eW_aload_n 6 rfl rfl rfl ?_
  refine eW_getfield 9 rfl rfl (Nat.ble_eq_true_of_le (by omega)) rfl (show h1 63 = .inr (11, [.ref 64, .ref 65, .ref 66, .ref 67, vI (s 4), vI (s 5), vI (s 6), vI 0, vI (s 8), vI (s 9), .ref 68, vI (s 11), vI (s 12), .ref 69, vI (s 14), .ref 70, .ref 71, vI (s 17), vI (s 18), vI (s 19), vI (s 20), .ref 72, vI (s 22)]) from hmh1.1) rfl ⟨rfl, fun _ h9 => nomatch h9⟩ ?_
  refine eW_iconst 10 rfl rfl ?_
  refine eW_iaload 11 rfl rfl G.2.2.2.2.2.1 (Nat.ble_eq_true_of_le (by omega)) (show h1 64 = .inl (0, 62, .inl (eIA (A 0))) from hmh1.2.1) (by omega) (by omega) (by unfold i32; omega) (congrArg Int32.ofInt hr.2.2.1) ?_
  refine eW_aload_n 12 rfl rfl rfl ?_
  refine eW_callV 15 [.ref 63] [vI G.2.2.2.2.2.1] [vI (gSum G.1 G.2.2.2.1.toNat), vI G.2.2.2.2.2.1] rfl rfl rfl rfl (Nat.ble_eq_true_of_le (by omega)) (show h1 63 = .inr (11, [.ref 64, .ref 65, .ref 66, .ref 67, vI (s 4), vI (s 5), vI (s 6), vI 0, vI (s 8), vI (s 9), .ref 68, vI (s 11), vI (s 12), .ref 69, vI (s 14), .ref 70, .ref 71, vI (s 17), vI (s 18), vI (s 19), vI (s 20), .ref 72, vI (s 22)]) from hmh1.1) rfl rfl rfl (m_all (d := d + 0) hmh1 hN hr hG) rfl rfl ?_
  refine eW_aload_n 16 rfl rfl rfl ?_
  refine eW_getfield 19 rfl rfl (Nat.ble_eq_true_of_le (by omega)) rfl (show h1 63 = .inr (11, [.ref 64, .ref 65, .ref 66, .ref 67, vI (s 4), vI (s 5), vI (s 6), vI 0, vI (s 8), vI (s 9), .ref 68, vI (s 11), vI (s 12), .ref 69, vI (s 14), .ref 70, .ref 71, vI (s 17), vI (s 18), vI (s 19), vI (s 20), .ref 72, vI (s 22)]) from hmh1.1) rfl ⟨rfl, fun _ h9 => nomatch h9⟩ ?_
  refine eW_iconst 20 rfl rfl ?_
  refine eW_iaload 21 rfl rfl ((G.2.2.1 1 + G.2.2.1 5)) (Nat.ble_eq_true_of_le (by omega)) (show h1 64 = .inl (0, 62, .inl (eIA (A 0))) from hmh1.2.1) (by omega) (by omega) (by unfold i32; omega) (congrArg Int32.ofInt hr.2.2.2.1) ?_
  refine eW_iadd 22 rfl rfl ?_
  refine eW_aload_n 23 rfl rfl rfl ?_
  refine eW_getfield 26 rfl rfl (Nat.ble_eq_true_of_le (by omega)) rfl (show h1 63 = .inr (11, [.ref 64, .ref 65, .ref 66, .ref 67, vI (s 4), vI (s 5), vI (s 6), vI 0, vI (s 8), vI (s 9), .ref 68, vI (s 11), vI (s 12), .ref 69, vI (s 14), .ref 70, .ref 71, vI (s 17), vI (s 18), vI (s 19), vI (s 20), .ref 72, vI (s 22)]) from hmh1.1) rfl ⟨rfl, fun _ h9 => nomatch h9⟩ ?_
  refine eW_iconst 27 rfl rfl ?_
  refine eW_iaload 28 rfl rfl G.2.2.2.2.2.2.1 (Nat.ble_eq_true_of_le (by omega)) (show h1 64 = .inl (0, 62, .inl (eIA (A 0))) from hmh1.2.1) (by omega) (by omega) (by unfold i32; omega) (congrArg Int32.ofInt hr.2.2.2.2.1) ?_
  refine eW_iadd 29 rfl rfl ?_
  refine eW_icmp_ne 32 rfl rfl (by unfold i32; omega) (by unfold i32; omega) (fun c2 => ?_) (fun c2 => ?_)
  · refine eW_iconst 37 rfl rfl ?_
    refine eW_ret_i rfl rfl (Or.inr (Or.inl ⟨rfl, rfl⟩)) ?_
    refine ⟨_, _, _, _, rfl, hmh1, frh1, ?_, ?_, ⟨rfl, rfl, rfl, rfl, rfl, rfl, rfl, rfl, rfl, rfl, rfl, rfl, rfl⟩⟩
    · show (0 : Int) = _
      omega
    · intro e9
      show (0 : Int) = _
      first
        | (exfalso; omega)
        | (rfl)
  · refine eW_iconst 33 rfl rfl ?_
    refine eW_goto rfl ?_
    refine eW_ret_i rfl rfl (Or.inr (Or.inl ⟨rfl, rfl⟩)) ?_
    refine ⟨_, _, _, _, rfl, hmh1, frh1, ?_, ?_, ⟨rfl, rfl, rfl, rfl, rfl, rfl, rfl, rfl, rfl, rfl, rfl, rfl, rfl⟩⟩
    · show (0 : Int) = _
      omega
    · intro e9
      show (1 : Int) = _
      first
        | (exfalso; omega)
        | (rfl)
/-- as mQ, a double, or a float -/
def mQd (v : UInt64) (c : Int) (s : Nat → Int) (A : Nat → Nat → Int) (h : eHp) (N : Nat) : eR → Prop := fun q => ∃ h' s' A' x, q = (.inl (some (.double x)), N, h', 0, 0) ∧ mM h' s' A' ∧ mFr h h' ∧ s' 7 = c ∧ (c = 0 → x = v) ∧ mSm s A s' A'
def mQf (v : UInt32) (c : Int) (s : Nat → Int) (A : Nat → Nat → Int) (h : eHp) (N : Nat) : eR → Prop := fun q => ∃ h' s' A' x, q = (.inl (some (.float x)), N, h', 0, 0) ∧ mM h' s' A' ∧ mFr h h' ∧ s' 7 = c ∧ (c = 0 → x = v) ∧ mSm s A s' A'
theorem m_mean {d N : Nat} {h : eHp} {s : Nat → Int} {A : Nat → Nat → Int} (hm : mM h s A) (hN : 75 ≤ N) {c : Int} {G : eGd} (hr : rR G (A 0)) (hI : gI c G) : eSp (d + 3) eM_X7_meanMarbles [.ref 63] N h (mQd (gMean (gSum G.1 G.2.2.2.1.toNat) G.2.2.2.1) (mIf (decide (G.2.2.2.1 ≠ 0)) 1 0) s A h N) := by
  refine eSp_of [(0, .ref 63)] rfl rfl ?_
  have hG := hI.1
  have hG9 := hG
  obtain ⟨g1, g2, g3, g4⟩ := hG9
  have hc1 := eD_c (G.2.2.2.1 ≠ 0)
  have hc2 := mIf_c (decide (G.2.2.2.1 ≠ 0)) 1 0
  have hs40 := hI.2.2.2.1
  have hsp := gI_pits hI
  refine eW_aload_n 1 rfl rfl rfl ?_
  refine eW_aload_n 2 rfl rfl rfl ?_
  refine eW_getfield 5 rfl rfl (Nat.ble_eq_true_of_le (by omega)) rfl hm.1 rfl ⟨rfl, fun _ h9 => nomatch h9⟩ ?_
  refine eW_iconst 6 rfl rfl ?_
  refine eW_iaload 7 rfl rfl G.2.2.2.1 (Nat.ble_eq_true_of_le (by omega)) (show h 64 = .inl (0, 62, .inl (eIA (A 0))) from hm.2.1) (by omega) (by omega) (by unfold i32; omega) (congrArg Int32.ofInt hr.1) ?_
  refine eW_if_ne 10 rfl rfl (by unfold i32; omega) (fun c1 => ?_) (fun c1 => ?_)
  · refine eW_iconst 15 rfl rfl ?_
    have hflq2 := eD_c ((0 : Int) < 0)
    refine eW_callVH 18 [.ref 63, vI 0] [] [vI (eB01 (decide ((0 : Int) < 0)))] rfl rfl rfl rfl (Nat.ble_eq_true_of_le (by omega)) hm.1 rfl rfl rfl (m_fails (d := d + 1) hm hN (by unfold i32; omega)) rfl rfl ?_
    intro h3 fh3
    have hmh3 : mM h3 (sUp s 7 0) A := fh3.1
    have frh3 : mFr h h3 := mFr_t (fun _ _ => rfl) fh3.2
    refine eW_if_eq 21 rfl rfl (by unfold i32; omega) (fun c4 => ?_) (fun c4 => ?_)
    · refine eW_aload_n 26 rfl rfl rfl ?_
      refine eW_callV 29 [.ref 63] [] [vI (gSum G.1 G.2.2.2.1.toNat)] rfl rfl rfl rfl (Nat.ble_eq_true_of_le (by omega)) (show h3 63 = .inr (11, [.ref 64, .ref 65, .ref 66, .ref 67, vI (s 4), vI (s 5), vI (s 6), vI 0, vI (s 8), vI (s 9), .ref 68, vI (s 11), vI (s 12), .ref 69, vI (s 14), .ref 70, .ref 71, vI (s 17), vI (s 18), vI (s 19), vI (s 20), .ref 72, vI (s 22)]) from hmh3.1) rfl rfl rfl (m_all (d := d + 0) hmh3 hN hr hG) rfl rfl ?_
      refine eW_i2d 30 rfl rfl ?_
      refine eW_aload_n 31 rfl rfl rfl ?_
      refine eW_getfield 34 rfl rfl (Nat.ble_eq_true_of_le (by omega)) rfl (show h3 63 = .inr (11, [.ref 64, .ref 65, .ref 66, .ref 67, vI (s 4), vI (s 5), vI (s 6), vI 0, vI (s 8), vI (s 9), .ref 68, vI (s 11), vI (s 12), .ref 69, vI (s 14), .ref 70, .ref 71, vI (s 17), vI (s 18), vI (s 19), vI (s 20), .ref 72, vI (s 22)]) from hmh3.1) rfl ⟨rfl, fun _ h9 => nomatch h9⟩ ?_
      refine eW_iconst 35 rfl rfl ?_
      refine eW_iaload 36 rfl rfl G.2.2.2.1 (Nat.ble_eq_true_of_le (by omega)) (show h3 64 = .inl (0, 62, .inl (eIA (A 0))) from hmh3.2.1) (by omega) (by omega) (by unfold i32; omega) (congrArg Int32.ofInt hr.1) ?_
      refine eW_i2d 37 rfl rfl ?_
      refine eW_ddiv 38 rfl rfl (fl_and64 (gMean_ok (by omega) (by omega))) ?_
      refine eW_ret_d rfl rfl ?_
      refine ⟨_, _, _, _, rfl, hmh3, frh3, ?_, ?_, ⟨rfl, rfl, rfl, rfl, rfl, rfl, rfl, rfl, rfl, rfl, rfl, rfl, rfl⟩⟩
      · show (0 : Int) = _; omega
      · intro e9
        first
          | (exfalso; omega)
          | rfl
    · refine eW_dconst0 22 rfl rfl ?_
      refine eW_goto rfl ?_
      refine eW_ret_d rfl rfl ?_
      refine ⟨_, _, _, _, rfl, hmh3, frh3, ?_, ?_, ⟨rfl, rfl, rfl, rfl, rfl, rfl, rfl, rfl, rfl, rfl, rfl, rfl, rfl⟩⟩
      · show (0 : Int) = _; omega
      · intro e9
        first
          | (exfalso; omega)
          | rfl
  · refine eW_iconst 11 rfl rfl ?_
    refine eW_goto rfl ?_
    have hflq5 := eD_c ((0 : Int) < 1)
    refine eW_callVH 18 [.ref 63, vI 1] [] [vI (eB01 (decide ((0 : Int) < 1)))] rfl rfl rfl rfl (Nat.ble_eq_true_of_le (by omega)) hm.1 rfl rfl rfl (m_fails (d := d + 1) hm hN (by unfold i32; omega)) rfl rfl ?_
    intro h6 fh6
    have hmh6 : mM h6 (sUp s 7 1) A := fh6.1
    have frh6 : mFr h h6 := mFr_t (fun _ _ => rfl) fh6.2
    refine eW_if_eq 21 rfl rfl (by unfold i32; omega) (fun c7 => ?_) (fun c7 => ?_)
    · refine eW_aload_n 26 rfl rfl rfl ?_
      refine eW_callV 29 [.ref 63] [] [vI (gSum G.1 G.2.2.2.1.toNat)] rfl rfl rfl rfl (Nat.ble_eq_true_of_le (by omega)) (show h6 63 = .inr (11, [.ref 64, .ref 65, .ref 66, .ref 67, vI (s 4), vI (s 5), vI (s 6), vI 1, vI (s 8), vI (s 9), .ref 68, vI (s 11), vI (s 12), .ref 69, vI (s 14), .ref 70, .ref 71, vI (s 17), vI (s 18), vI (s 19), vI (s 20), .ref 72, vI (s 22)]) from hmh6.1) rfl rfl rfl (m_all (d := d + 0) hmh6 hN hr hG) rfl rfl ?_
      refine eW_i2d 30 rfl rfl ?_
      refine eW_aload_n 31 rfl rfl rfl ?_
      refine eW_getfield 34 rfl rfl (Nat.ble_eq_true_of_le (by omega)) rfl (show h6 63 = .inr (11, [.ref 64, .ref 65, .ref 66, .ref 67, vI (s 4), vI (s 5), vI (s 6), vI 1, vI (s 8), vI (s 9), .ref 68, vI (s 11), vI (s 12), .ref 69, vI (s 14), .ref 70, .ref 71, vI (s 17), vI (s 18), vI (s 19), vI (s 20), .ref 72, vI (s 22)]) from hmh6.1) rfl ⟨rfl, fun _ h9 => nomatch h9⟩ ?_
      refine eW_iconst 35 rfl rfl ?_
      refine eW_iaload 36 rfl rfl G.2.2.2.1 (Nat.ble_eq_true_of_le (by omega)) (show h6 64 = .inl (0, 62, .inl (eIA (A 0))) from hmh6.2.1) (by omega) (by omega) (by unfold i32; omega) (congrArg Int32.ofInt hr.1) ?_
      refine eW_i2d 37 rfl rfl ?_
      refine eW_ddiv 38 rfl rfl (fl_and64 (gMean_ok (by omega) (by omega))) ?_
      refine eW_ret_d rfl rfl ?_
      refine ⟨_, _, _, _, rfl, hmh6, frh6, ?_, ?_, ⟨rfl, rfl, rfl, rfl, rfl, rfl, rfl, rfl, rfl, rfl, rfl, rfl, rfl⟩⟩
      · show (1 : Int) = _; omega
      · intro e9
        first
          | (exfalso; omega)
          | rfl
    · refine eW_dconst0 22 rfl rfl ?_
      refine eW_goto rfl ?_
      refine eW_ret_d rfl rfl ?_
      refine ⟨_, _, _, _, rfl, hmh6, frh6, ?_, ?_, ⟨rfl, rfl, rfl, rfl, rfl, rfl, rfl, rfl, rfl, rfl, rfl, rfl, rfl⟩⟩
      · show (1 : Int) = _; omega
      · intro e9
        first
          | (exfalso; omega)
          | rfl
theorem m_share {d N : Nat} {h : eHp} {s : Nat → Int} {A : Nat → Nat → Int} (hm : mM h s A) (hN : 75 ≤ N) {c : Int} {G : eGd} (hr : rR G (A 0)) (hI : gI c G) (hc : c ≤ 15990) {m : Int} (hm0 : i32 m) : eSp (d + 3) eM_X7_share [.ref 63, vI m] N h (mQf (gShr (gTal G m 0) (G.2.2.1 0 + G.2.2.1 4)) (mIf (gMonk m) 1 (mIf (decide (G.2.2.1 0 + G.2.2.1 4 ≠ 0)) 2 0)) s A h N) := by
  refine eSp_of [(0, .ref 63), (1, vI m)] rfl rfl ?_
  have hG := hI.1
  have hG9 := hG
  obtain ⟨g1, g2, g3, g4⟩ := hG9
  unfold i32 at hm0
  have hc1 : ((0 ≤ m ∧ m < 2) ∧ eB01 (gMonk m) = 1) ∨ (¬ (0 ≤ m ∧ m < 2) ∧ eB01 (gMonk m) = 0) := eD_c (0 ≤ m ∧ m < 2)
  have hc2 := mIf_c (gMonk m) 1 (mIf (decide (G.2.2.1 0 + G.2.2.1 4 ≠ 0)) 2 0)
  have hc3 := eD_c (G.2.2.1 0 + G.2.2.1 4 ≠ 0)
  have hc4 := mIf_c (decide (G.2.2.1 0 + G.2.2.1 4 ≠ 0)) 2 0
  have ht0 := hI.2.2.2.2.1 0 (by decide)
  have ht4 := hI.2.2.2.2.1 4 (by decide)
  have hsc := hI.2.2.2.2.2.1
  refine eW_aload_n 1 rfl rfl rfl ?_
  refine eW_getfield 4 rfl rfl (Nat.ble_eq_true_of_le (by omega)) rfl hm.1 rfl ⟨rfl, fun _ h9 => nomatch h9⟩ ?_
  refine eW_bipush 6 rfl rfl 14 rfl ?_
  refine eW_iaload 7 rfl rfl (G.2.2.1 0) (Nat.ble_eq_true_of_le (by omega)) (show h 64 = .inl (0, 62, .inl (eIA (A 0))) from hm.2.1) (by omega) (by omega) (by unfold i32; omega) (congrArg Int32.ofInt (hr.2.2.2.2.2.2.2.2.2.1 0 (by decide))) ?_
  refine eW_aload_n 8 rfl rfl rfl ?_
  refine eW_getfield 11 rfl rfl (Nat.ble_eq_true_of_le (by omega)) rfl hm.1 rfl ⟨rfl, fun _ h9 => nomatch h9⟩ ?_
  refine eW_bipush 13 rfl rfl 18 rfl ?_
  refine eW_iaload 14 rfl rfl (G.2.2.1 4) (Nat.ble_eq_true_of_le (by omega)) (show h 64 = .inl (0, 62, .inl (eIA (A 0))) from hm.2.1) (by omega) (by omega) (by unfold i32; omega) (congrArg Int32.ofInt (hr.2.2.2.2.2.2.2.2.2.1 4 (by decide))) ?_
  refine eW_iadd 15 rfl rfl ?_
  refine eW_istore_n 16 rfl rfl [(2, vI ((G.2.2.1 0) + (G.2.2.1 4))), (0, .ref 63), (1, vI m)] rfl rfl ?_
  refine eW_aload_n 17 rfl rfl rfl ?_
  refine eW_iload_n 18 rfl rfl rfl ?_
  have himq1 := eB01_c (gMonk m)
  refine eW_callS 21 [vI m] [.ref 63] [vI (eB01 (gMonk m)), .ref 63] rfl rfl rfl (Or.inl rfl) rfl rfl rfl (m_isMonk (d := d + 0) (by unfold i32; omega)) rfl rfl ?_
  refine eW_if_ne 24 rfl rfl (by unfold i32; omega) (fun c2 => ?_) (fun c2 => ?_)
  · refine eW_iload_n 29 rfl rfl rfl ?_
    refine eW_if_ne 32 rfl rfl (by unfold i32; omega) (fun c3 => ?_) (fun c3 => ?_)
    · refine eW_iconst 37 rfl rfl ?_
      have hflq4 := eD_c ((0 : Int) < 0)
      refine eW_callVH 40 [.ref 63, vI 0] [] [vI (eB01 (decide ((0 : Int) < 0)))] rfl rfl rfl rfl (Nat.ble_eq_true_of_le (by omega)) hm.1 rfl rfl rfl (m_fails (d := d + 1) hm hN (by unfold i32; omega)) rfl rfl ?_
      intro h5 fh5
      have hmh5 : mM h5 (sUp s 7 0) A := fh5.1
      have frh5 : mFr h h5 := mFr_t (fun _ _ => rfl) fh5.2
      refine eW_if_eq 43 rfl rfl (by unfold i32; omega) (fun c6 => ?_) (fun c6 => ?_)
      · refine eW_aload_n 48 rfl rfl rfl ?_
        refine eW_getfield 51 rfl rfl (Nat.ble_eq_true_of_le (by omega)) rfl (show h5 63 = .inr (11, [.ref 64, .ref 65, .ref 66, .ref 67, vI (s 4), vI (s 5), vI (s 6), vI 0, vI (s 8), vI (s 9), .ref 68, vI (s 11), vI (s 12), .ref 69, vI (s 14), .ref 70, .ref 71, vI (s 17), vI (s 18), vI (s 19), vI (s 20), .ref 72, vI (s 22)]) from hmh5.1) rfl ⟨rfl, fun _ h9 => nomatch h9⟩ ?_
        refine eW_bipush 53 rfl rfl 14 rfl ?_
        refine eW_iconst 54 rfl rfl ?_
        refine eW_iload_n 55 rfl rfl rfl ?_
        refine eW_imul 56 rfl rfl ?_
        refine eW_iadd 57 rfl rfl ?_
        refine eW_iaload 58 rfl rfl (gTal G m 0) (Nat.ble_eq_true_of_le (by omega)) (show h5 64 = .inl (0, 62, .inl (eIA (A 0))) from hmh5.2.1) (by omega) (by omega) (by unfold i32; omega) (by have e9 := rR_t hr (m := m) (w := 0) (by omega); rw [show (14 + 4 * m + 0 : Int) = 14 + 4 * m by omega] at e9; exact e9) ?_
        refine eW_i2f 59 rfl rfl ?_
        refine eW_iload_n 60 rfl rfl rfl ?_
        refine eW_i2f 61 rfl rfl ?_
        refine eW_fdiv 62 rfl rfl (fl_and32 (gShr_ok (by have e9 := gTal0_le hI (m := m) (by omega); omega) (by omega))) ?_
        refine eW_ret_f rfl rfl ?_
        refine ⟨_, _, _, _, rfl, hmh5, frh5, ?_, ?_, ⟨rfl, rfl, rfl, rfl, rfl, rfl, rfl, rfl, rfl, rfl, rfl, rfl, rfl⟩⟩
        · show (0 : Int) = _; omega
        · intro e9
          first
            | (exfalso; omega)
            | rfl
      · refine eW_fconst0 44 rfl rfl ?_
        refine eW_goto rfl ?_
        refine eW_ret_f rfl rfl ?_
        refine ⟨_, _, _, _, rfl, hmh5, frh5, ?_, ?_, ⟨rfl, rfl, rfl, rfl, rfl, rfl, rfl, rfl, rfl, rfl, rfl, rfl, rfl⟩⟩
        · show (0 : Int) = _; omega
        · intro e9
          first
            | (exfalso; omega)
            | rfl
    · refine eW_iconst 33 rfl rfl ?_
      refine eW_goto rfl ?_
      have hflq7 := eD_c ((0 : Int) < 2)
      refine eW_callVH 40 [.ref 63, vI 2] [] [vI (eB01 (decide ((0 : Int) < 2)))] rfl rfl rfl rfl (Nat.ble_eq_true_of_le (by omega)) hm.1 rfl rfl rfl (m_fails (d := d + 1) hm hN (by unfold i32; omega)) rfl rfl ?_
      intro h8 fh8
      have hmh8 : mM h8 (sUp s 7 2) A := fh8.1
      have frh8 : mFr h h8 := mFr_t (fun _ _ => rfl) fh8.2
      refine eW_if_eq 43 rfl rfl (by unfold i32; omega) (fun c9 => ?_) (fun c9 => ?_)
      · refine eW_aload_n 48 rfl rfl rfl ?_
        refine eW_getfield 51 rfl rfl (Nat.ble_eq_true_of_le (by omega)) rfl (show h8 63 = .inr (11, [.ref 64, .ref 65, .ref 66, .ref 67, vI (s 4), vI (s 5), vI (s 6), vI 2, vI (s 8), vI (s 9), .ref 68, vI (s 11), vI (s 12), .ref 69, vI (s 14), .ref 70, .ref 71, vI (s 17), vI (s 18), vI (s 19), vI (s 20), .ref 72, vI (s 22)]) from hmh8.1) rfl ⟨rfl, fun _ h9 => nomatch h9⟩ ?_
        refine eW_bipush 53 rfl rfl 14 rfl ?_
        refine eW_iconst 54 rfl rfl ?_
        refine eW_iload_n 55 rfl rfl rfl ?_
        refine eW_imul 56 rfl rfl ?_
        refine eW_iadd 57 rfl rfl ?_
        refine eW_iaload 58 rfl rfl (gTal G m 0) (Nat.ble_eq_true_of_le (by omega)) (show h8 64 = .inl (0, 62, .inl (eIA (A 0))) from hmh8.2.1) (by omega) (by omega) (by unfold i32; omega) (by have e9 := rR_t hr (m := m) (w := 0) (by omega); rw [show (14 + 4 * m + 0 : Int) = 14 + 4 * m by omega] at e9; exact e9) ?_
        refine eW_i2f 59 rfl rfl ?_
        refine eW_iload_n 60 rfl rfl rfl ?_
        refine eW_i2f 61 rfl rfl ?_
        refine eW_fdiv 62 rfl rfl (fl_and32 (gShr_ok (by have e9 := gTal0_le hI (m := m) (by omega); omega) (by omega))) ?_
        refine eW_ret_f rfl rfl ?_
        refine ⟨_, _, _, _, rfl, hmh8, frh8, ?_, ?_, ⟨rfl, rfl, rfl, rfl, rfl, rfl, rfl, rfl, rfl, rfl, rfl, rfl, rfl⟩⟩
        · show (2 : Int) = _; omega
        · intro e9
          first
            | (exfalso; omega)
            | rfl
      · refine eW_fconst0 44 rfl rfl ?_
        refine eW_goto rfl ?_
        refine eW_ret_f rfl rfl ?_
        refine ⟨_, _, _, _, rfl, hmh8, frh8, ?_, ?_, ⟨rfl, rfl, rfl, rfl, rfl, rfl, rfl, rfl, rfl, rfl, rfl, rfl, rfl⟩⟩
        · show (2 : Int) = _; omega
        · intro e9
          first
            | (exfalso; omega)
            | rfl
  · refine eW_iconst 25 rfl rfl ?_
    refine eW_goto rfl ?_
    have hflq10 := eD_c ((0 : Int) < 1)
    refine eW_callVH 40 [.ref 63, vI 1] [] [vI (eB01 (decide ((0 : Int) < 1)))] rfl rfl rfl rfl (Nat.ble_eq_true_of_le (by omega)) hm.1 rfl rfl rfl (m_fails (d := d + 1) hm hN (by unfold i32; omega)) rfl rfl ?_
    intro h11 fh11
    have hmh11 : mM h11 (sUp s 7 1) A := fh11.1
    have frh11 : mFr h h11 := mFr_t (fun _ _ => rfl) fh11.2
    refine eW_if_eq 43 rfl rfl (by unfold i32; omega) (fun c12 => ?_) (fun c12 => ?_)
    · refine eW_aload_n 48 rfl rfl rfl ?_
      refine eW_getfield 51 rfl rfl (Nat.ble_eq_true_of_le (by omega)) rfl (show h11 63 = .inr (11, [.ref 64, .ref 65, .ref 66, .ref 67, vI (s 4), vI (s 5), vI (s 6), vI 1, vI (s 8), vI (s 9), .ref 68, vI (s 11), vI (s 12), .ref 69, vI (s 14), .ref 70, .ref 71, vI (s 17), vI (s 18), vI (s 19), vI (s 20), .ref 72, vI (s 22)]) from hmh11.1) rfl ⟨rfl, fun _ h9 => nomatch h9⟩ ?_
      refine eW_bipush 53 rfl rfl 14 rfl ?_
      refine eW_iconst 54 rfl rfl ?_
      refine eW_iload_n 55 rfl rfl rfl ?_
      refine eW_imul 56 rfl rfl ?_
      refine eW_iadd 57 rfl rfl ?_
      refine eW_iaload 58 rfl rfl (gTal G m 0) (Nat.ble_eq_true_of_le (by omega)) (show h11 64 = .inl (0, 62, .inl (eIA (A 0))) from hmh11.2.1) (by omega) (by omega) (by unfold i32; omega) (by have e9 := rR_t hr (m := m) (w := 0) (by omega); rw [show (14 + 4 * m + 0 : Int) = 14 + 4 * m by omega] at e9; exact e9) ?_
      refine eW_i2f 59 rfl rfl ?_
      refine eW_iload_n 60 rfl rfl rfl ?_
      refine eW_i2f 61 rfl rfl ?_
      refine eW_fdiv 62 rfl rfl (fl_and32 (gShr_ok (by have e9 := gTal0_le hI (m := m) (by omega); omega) (by omega))) ?_
      refine eW_ret_f rfl rfl ?_
      refine ⟨_, _, _, _, rfl, hmh11, frh11, ?_, ?_, ⟨rfl, rfl, rfl, rfl, rfl, rfl, rfl, rfl, rfl, rfl, rfl, rfl, rfl⟩⟩
      · show (1 : Int) = _; omega
      · intro e9
        first
          | (exfalso; omega)
          | rfl
    · refine eW_fconst0 44 rfl rfl ?_
      refine eW_goto rfl ?_
      refine eW_ret_f rfl rfl ?_
      refine ⟨_, _, _, _, rfl, hmh11, frh11, ?_, ?_, ⟨rfl, rfl, rfl, rfl, rfl, rfl, rfl, rfl, rfl, rfl, rfl, rfl, rfl⟩⟩
      · show (1 : Int) = _; omega
      · intro e9
        first
          | (exfalso; omega)
          | rfl
theorem m_character {d N : Nat} {h : eHp} {s : Nat → Int} {A : Nat → Nat → Int} (hm : mM h s A) (hN : 75 ≤ N) (hw14 : 0 ≤ s 14 ∧ s 14 ≤ 330) (hch : ∀ i : Nat, (i : Int) < s 14 → 0 ≤ A 5 i ∧ A 5 i ≤ 65535) {x : Int} (hx0 : i32 x) : eSp (d + 2) eM_X7_character [.ref 63, vI x] N h (mQ (A 5 x.toNat) (mIf (decide (0 ≤ x ∧ x < s 14)) 1 0) s A h N) := by
  refine eSp_of [(0, .ref 63), (1, vI x)] rfl rfl ?_
  unfold i32 at hx0
  have hc1 := eD_c (0 ≤ x ∧ x < s 14)
  have hc2 := mIf_c (decide (0 ≤ x ∧ x < s 14)) 1 0
  refine eW_aload_n 1 rfl rfl rfl ?_
  refine eW_iload_n 2 rfl rfl rfl ?_
  refine eW_iconst 3 rfl rfl ?_
  refine eW_aload_n 4 rfl rfl rfl ?_
  refine eW_getfield 7 rfl rfl (Nat.ble_eq_true_of_le (by omega)) rfl hm.1 rfl ⟨rfl, fun _ h9 => nomatch h9⟩ ?_
  refine eW_iconst 8 rfl rfl ?_
  refine eW_isub 9 rfl rfl ?_
  have hinq1 := eD_c ((0 : Int) ≤ x ∧ x ≤ ((s 14) - 1))
  refine eW_callS 12 [vI x, vI 0, vI ((s 14) - 1)] [.ref 63] [vI (eB01 (decide ((0 : Int) ≤ x ∧ x ≤ ((s 14) - 1)))), .ref 63] rfl rfl rfl (Or.inl rfl) rfl rfl rfl (m_in (d := d + 0) (by unfold i32; omega) (by unfold i32; omega) (by unfold i32; omega)) rfl rfl ?_
  refine eW_if_eq 15 rfl rfl (by unfold i32; omega) (fun c2 => ?_) (fun c2 => ?_)
  · refine eW_iconst 20 rfl rfl ?_
    have hflq3 := eD_c ((0 : Int) < 1)
    refine eW_callVH 23 [.ref 63, vI 1] [] [vI (eB01 (decide ((0 : Int) < 1)))] rfl rfl rfl rfl (Nat.ble_eq_true_of_le (by omega)) hm.1 rfl rfl rfl (m_fails (d := d + 0) hm hN (by unfold i32; omega)) rfl rfl ?_
    intro h4 fh4
    have hmh4 : mM h4 (sUp s 7 1) A := fh4.1
    have frh4 : mFr h h4 := mFr_t (fun _ _ => rfl) fh4.2
    refine eW_if_eq 26 rfl rfl (by unfold i32; omega) (fun c5 => ?_) (fun c5 => ?_)
    · refine eW_aload_n 32 rfl rfl rfl ?_
      refine eW_getfield 35 rfl rfl (Nat.ble_eq_true_of_le (by omega)) rfl (show h4 63 = .inr (11, [.ref 64, .ref 65, .ref 66, .ref 67, vI (s 4), vI (s 5), vI (s 6), vI 1, vI (s 8), vI (s 9), .ref 68, vI (s 11), vI (s 12), .ref 69, vI (s 14), .ref 70, .ref 71, vI (s 17), vI (s 18), vI (s 19), vI (s 20), .ref 72, vI (s 22)]) from hmh4.1) rfl ⟨rfl, fun _ h9 => nomatch h9⟩ ?_
      refine eW_iload_n 36 rfl rfl rfl ?_
      refine eW_caload 37 rfl rfl ((A 5) x.toNat) (Nat.ble_eq_true_of_le (by omega)) (show h4 69 = .inl (1, 330, .inl (eIA (A 5))) from hmh4.2.2.2.2.2.2.1) (by omega) (by omega) (by unfold i32; omega) rfl ?_
      refine eW_ret_i rfl rfl (Or.inr (Or.inr ⟨rfl, (tx_char (hch _ (by omega)))⟩)) ?_
      refine ⟨_, _, _, _, rfl, hmh4, frh4, ?_, ?_, ⟨rfl, rfl, rfl, rfl, rfl, rfl, rfl, rfl, rfl, rfl, rfl, rfl, rfl⟩⟩
      · show (1 : Int) = _
        omega
      · intro e9
        show ((A 5) x.toNat : Int) = _
        first
          | (exfalso; omega)
          | (rfl)
    · refine eW_bipush 28 rfl rfl 32 rfl ?_
      refine eW_goto rfl ?_
      refine eW_ret_i rfl rfl (Or.inr (Or.inr ⟨rfl, rfl⟩)) ?_
      refine ⟨_, _, _, _, rfl, hmh4, frh4, ?_, ?_, ⟨rfl, rfl, rfl, rfl, rfl, rfl, rfl, rfl, rfl, rfl, rfl, rfl, rfl⟩⟩
      · show (1 : Int) = _
        omega
      · intro e9
        show (32 : Int) = _
        first
          | (exfalso; omega)
          | (rfl)
  · refine eW_iconst 16 rfl rfl ?_
    refine eW_goto rfl ?_
    have hflq6 := eD_c ((0 : Int) < 0)
    refine eW_callVH 23 [.ref 63, vI 0] [] [vI (eB01 (decide ((0 : Int) < 0)))] rfl rfl rfl rfl (Nat.ble_eq_true_of_le (by omega)) hm.1 rfl rfl rfl (m_fails (d := d + 0) hm hN (by unfold i32; omega)) rfl rfl ?_
    intro h7 fh7
    have hmh7 : mM h7 (sUp s 7 0) A := fh7.1
    have frh7 : mFr h h7 := mFr_t (fun _ _ => rfl) fh7.2
    refine eW_if_eq 26 rfl rfl (by unfold i32; omega) (fun c8 => ?_) (fun c8 => ?_)
    · refine eW_aload_n 32 rfl rfl rfl ?_
      refine eW_getfield 35 rfl rfl (Nat.ble_eq_true_of_le (by omega)) rfl (show h7 63 = .inr (11, [.ref 64, .ref 65, .ref 66, .ref 67, vI (s 4), vI (s 5), vI (s 6), vI 0, vI (s 8), vI (s 9), .ref 68, vI (s 11), vI (s 12), .ref 69, vI (s 14), .ref 70, .ref 71, vI (s 17), vI (s 18), vI (s 19), vI (s 20), .ref 72, vI (s 22)]) from hmh7.1) rfl ⟨rfl, fun _ h9 => nomatch h9⟩ ?_
      refine eW_iload_n 36 rfl rfl rfl ?_
      refine eW_caload 37 rfl rfl ((A 5) x.toNat) (Nat.ble_eq_true_of_le (by omega)) (show h7 69 = .inl (1, 330, .inl (eIA (A 5))) from hmh7.2.2.2.2.2.2.1) (by omega) (by omega) (by unfold i32; omega) rfl ?_
      refine eW_ret_i rfl rfl (Or.inr (Or.inr ⟨rfl, (tx_char (hch _ (by omega)))⟩)) ?_
      refine ⟨_, _, _, _, rfl, hmh7, frh7, ?_, ?_, ⟨rfl, rfl, rfl, rfl, rfl, rfl, rfl, rfl, rfl, rfl, rfl, rfl, rfl⟩⟩
      · show (0 : Int) = _
        omega
      · intro e9
        show ((A 5) x.toNat : Int) = _
        first
          | (exfalso; omega)
          | (rfl)
    · refine eW_bipush 28 rfl rfl 32 rfl ?_
      refine eW_goto rfl ?_
      refine eW_ret_i rfl rfl (Or.inr (Or.inr ⟨rfl, rfl⟩)) ?_
      refine ⟨_, _, _, _, rfl, hmh7, frh7, ?_, ?_, ⟨rfl, rfl, rfl, rfl, rfl, rfl, rfl, rfl, rfl, rfl, rfl, rfl, rfl⟩⟩
      · show (0 : Int) = _
        omega
      · intro e9
        show (32 : Int) = _
        first
          | (exfalso; omega)
          | (rfl)
def mSi (s : Nat → Int) (A : Nat → Nat → Int) (s' : Nat → Int) (A' : Nat → Nat → Int) : Prop := A' 0 = A 0 ∧ A' 1 = A 1 ∧ A' 2 = A 2 ∧ A' 5 = A 5 ∧ s' 4 = s 4 ∧ s' 5 = s 5 ∧ s' 6 = s 6 ∧ s' 8 = s 8 ∧ s' 9 = s 9 ∧ s' 12 = s 12 ∧ s' 14 = s 14
theorem m_append {d N : Nat} {h : eHp} {s : Nat → Int} {A : Nat → Nat → Int} (hm : mM h s A) (hN : 75 ≤ N) (hw11 : 0 ≤ s 11 ∧ s 11 ≤ 60) {x : Int} : eSp (d + 2) eM_X7_append [.ref 63, vI x] N h (mAft (fun s' A' y => (s 11 = 60 → s' 7 = 1 ∧ s' 11 = s 11 ∧ A' 4 = A 4) ∧ (s 11 ≠ 60 → s' 7 = 0 ∧ s' 11 = s 11 + 1 ∧ y = s 11 + 1 ∧ A' 4 = eUp (A 4) (s 11).toNat x) ∧ mSi s A s' A') h N) := by
  refine eSp_of [(0, .ref 63), (1, vI x)] rfl rfl ?_
  refine eW_aload_n 1 rfl rfl rfl ?_
  refine eW_aload_n 2 rfl rfl rfl ?_
  refine eW_getfield 5 rfl rfl (Nat.ble_eq_true_of_le (by omega)) rfl hm.1 rfl ⟨rfl, fun _ h9 => nomatch h9⟩ ?_
  refine eW_bipush 7 rfl rfl 60 rfl ?_
  refine eW_icmp_ne 10 rfl rfl (by unfold i32; omega) (by unfold i32; omega) (fun c1 => ?_) (fun c1 => ?_)
  · refine eW_iconst 15 rfl rfl ?_
    have hflq2 := eD_c ((0 : Int) < 0)
    refine eW_callVH 18 [.ref 63, vI 0] [] [vI (eB01 (decide ((0 : Int) < 0)))] rfl rfl rfl rfl (Nat.ble_eq_true_of_le (by omega)) hm.1 rfl rfl rfl (m_fails (d := d + 0) hm hN (by unfold i32; omega)) rfl rfl ?_
    intro h3 fh3
    have hmh3 : mM h3 (sUp s 7 0) A := fh3.1
    have frh3 : mFr h h3 := mFr_t (fun _ _ => rfl) fh3.2
    refine eW_if_eq 21 rfl rfl (by unfold i32; omega) (fun c4 => ?_) (fun c4 => ?_)
    · refine eW_aload_n 24 rfl rfl rfl ?_
      refine eW_getfield 27 rfl rfl (Nat.ble_eq_true_of_le (by omega)) rfl (show h3 63 = .inr (11, [.ref 64, .ref 65, .ref 66, .ref 67, vI (s 4), vI (s 5), vI (s 6), vI 0, vI (s 8), vI (s 9), .ref 68, vI (s 11), vI (s 12), .ref 69, vI (s 14), .ref 70, .ref 71, vI (s 17), vI (s 18), vI (s 19), vI (s 20), .ref 72, vI (s 22)]) from hmh3.1) rfl ⟨rfl, fun _ h9 => nomatch h9⟩ ?_
      refine eW_aload_n 28 rfl rfl rfl ?_
      refine eW_getfield 31 rfl rfl (Nat.ble_eq_true_of_le (by omega)) rfl (show h3 63 = .inr (11, [.ref 64, .ref 65, .ref 66, .ref 67, vI (s 4), vI (s 5), vI (s 6), vI 0, vI (s 8), vI (s 9), .ref 68, vI (s 11), vI (s 12), .ref 69, vI (s 14), .ref 70, .ref 71, vI (s 17), vI (s 18), vI (s 19), vI (s 20), .ref 72, vI (s 22)]) from hmh3.1) rfl ⟨rfl, fun _ h9 => nomatch h9⟩ ?_
      refine eW_iload_n 32 rfl rfl rfl ?_
      refine eW_iastore 33 rfl rfl (Nat.ble_eq_true_of_le (by omega)) (show h3 68 = .inl (0, 60, .inl (eIA (A 4))) from hmh3.2.2.2.2.2.1) (by omega) (by omega) (by unfold i32; omega) rfl ?_
      intro h5 eh5 oh5
      have hmh5 : mM h5 (sUp s 7 0) (mUp A 4 (eUp (A 4) (s 11).toNat x)) := mM_4 hmh3 eh5 oh5 ⟨rfl, rfl, rfl, rfl, rfl, rfl, rfl, rfl⟩
      have frh5 : mFr h h5 := mFr_a frh3 (by decide) oh5
      refine eW_aload_n 34 rfl rfl rfl ?_
      refine eW_dup 35 rfl rfl rfl ?_
      refine eW_getfield 38 rfl rfl (Nat.ble_eq_true_of_le (by omega)) rfl (show h5 63 = .inr (11, [.ref 64, .ref 65, .ref 66, .ref 67, vI (s 4), vI (s 5), vI (s 6), vI 0, vI (s 8), vI (s 9), .ref 68, vI (s 11), vI (s 12), .ref 69, vI (s 14), .ref 70, .ref 71, vI (s 17), vI (s 18), vI (s 19), vI (s 20), .ref 72, vI (s 22)]) from hmh5.1) rfl ⟨rfl, fun _ h9 => nomatch h9⟩ ?_
      refine eW_iconst 39 rfl rfl ?_
      refine eW_iadd 40 rfl rfl ?_
      refine eW_putfield 43 [.ref 64, .ref 65, .ref 66, .ref 67, vI (s 4), vI (s 5), vI (s 6), vI 0, vI (s 8), vI (s 9), .ref 68, vI ((s 11) + 1), vI (s 12), .ref 69, vI (s 14), .ref 70, .ref 71, vI (s 17), vI (s 18), vI (s 19), vI (s 20), .ref 72, vI (s 22)] rfl rfl (Nat.ble_eq_true_of_le (by omega)) rfl (show h5 63 = .inr (11, [.ref 64, .ref 65, .ref 66, .ref 67, vI (s 4), vI (s 5), vI (s 6), vI 0, vI (s 8), vI (s 9), .ref 68, vI (s 11), vI (s 12), .ref 69, vI (s 14), .ref 70, .ref 71, vI (s 17), vI (s 18), vI (s 19), vI (s 20), .ref 72, vI (s 22)]) from hmh5.1) rfl rfl ?_
      intro h6 eh6 oh6
      have hmh6 : mM h6 (sUp (sUp s 7 0) 11 ((s 11) + 1)) (mUp A 4 (eUp (A 4) (s 11).toNat x)) := mM_s (s := (sUp s 7 0)) hmh5 eh6 oh6
      have frh6 : mFr h h6 := mFr_s frh5 oh6
      refine eW_aload_n 44 rfl rfl rfl ?_
      refine eW_getfield 47 rfl rfl (Nat.ble_eq_true_of_le (by omega)) rfl (show h6 63 = .inr (11, [.ref 64, .ref 65, .ref 66, .ref 67, vI (s 4), vI (s 5), vI (s 6), vI 0, vI (s 8), vI (s 9), .ref 68, vI ((s 11) + 1), vI (s 12), .ref 69, vI (s 14), .ref 70, .ref 71, vI (s 17), vI (s 18), vI (s 19), vI (s 20), .ref 72, vI (s 22)]) from hmh6.1) rfl ⟨rfl, fun _ h9 => nomatch h9⟩ ?_
      refine eW_ret_i rfl rfl (Or.inl rfl) ?_
      refine ⟨_, _, _, _, rfl, hmh6, frh6, ?_⟩
      exact ⟨fun e => absurd e (by omega), fun _ => ⟨rfl, rfl, rfl, rfl⟩, rfl, rfl, rfl, rfl, rfl, rfl, rfl, rfl, rfl, rfl, rfl⟩
    · refine eW_iconst 22 rfl rfl ?_
      refine eW_ret_i rfl rfl (Or.inl rfl) ?_
      exfalso; omega
  · refine eW_iconst 11 rfl rfl ?_
    refine eW_goto rfl ?_
    have hflq7 := eD_c ((0 : Int) < 1)
    refine eW_callVH 18 [.ref 63, vI 1] [] [vI (eB01 (decide ((0 : Int) < 1)))] rfl rfl rfl rfl (Nat.ble_eq_true_of_le (by omega)) hm.1 rfl rfl rfl (m_fails (d := d + 0) hm hN (by unfold i32; omega)) rfl rfl ?_
    intro h8 fh8
    have hmh8 : mM h8 (sUp s 7 1) A := fh8.1
    have frh8 : mFr h h8 := mFr_t (fun _ _ => rfl) fh8.2
    refine eW_if_eq 21 rfl rfl (by unfold i32; omega) (fun c9 => ?_) (fun c9 => ?_)
    · refine eW_aload_n 24 rfl rfl rfl ?_
      refine eW_getfield 27 rfl rfl (Nat.ble_eq_true_of_le (by omega)) rfl (show h8 63 = .inr (11, [.ref 64, .ref 65, .ref 66, .ref 67, vI (s 4), vI (s 5), vI (s 6), vI 1, vI (s 8), vI (s 9), .ref 68, vI (s 11), vI (s 12), .ref 69, vI (s 14), .ref 70, .ref 71, vI (s 17), vI (s 18), vI (s 19), vI (s 20), .ref 72, vI (s 22)]) from hmh8.1) rfl ⟨rfl, fun _ h9 => nomatch h9⟩ ?_
      refine eW_aload_n 28 rfl rfl rfl ?_
      refine eW_getfield 31 rfl rfl (Nat.ble_eq_true_of_le (by omega)) rfl (show h8 63 = .inr (11, [.ref 64, .ref 65, .ref 66, .ref 67, vI (s 4), vI (s 5), vI (s 6), vI 1, vI (s 8), vI (s 9), .ref 68, vI (s 11), vI (s 12), .ref 69, vI (s 14), .ref 70, .ref 71, vI (s 17), vI (s 18), vI (s 19), vI (s 20), .ref 72, vI (s 22)]) from hmh8.1) rfl ⟨rfl, fun _ h9 => nomatch h9⟩ ?_
      refine eW_iload_n 32 rfl rfl rfl ?_
      refine eW_iastore 33 rfl rfl (Nat.ble_eq_true_of_le (by omega)) (show h8 68 = .inl (0, 60, .inl (eIA (A 4))) from hmh8.2.2.2.2.2.1) (by omega) (by omega) (by unfold i32; omega) rfl ?_
      intro h10 eh10 oh10
      have hmh10 : mM h10 (sUp s 7 1) (mUp A 4 (eUp (A 4) (s 11).toNat x)) := mM_4 hmh8 eh10 oh10 ⟨rfl, rfl, rfl, rfl, rfl, rfl, rfl, rfl⟩
      have frh10 : mFr h h10 := mFr_a frh8 (by decide) oh10
      refine eW_aload_n 34 rfl rfl rfl ?_
      refine eW_dup 35 rfl rfl rfl ?_
      refine eW_getfield 38 rfl rfl (Nat.ble_eq_true_of_le (by omega)) rfl (show h10 63 = .inr (11, [.ref 64, .ref 65, .ref 66, .ref 67, vI (s 4), vI (s 5), vI (s 6), vI 1, vI (s 8), vI (s 9), .ref 68, vI (s 11), vI (s 12), .ref 69, vI (s 14), .ref 70, .ref 71, vI (s 17), vI (s 18), vI (s 19), vI (s 20), .ref 72, vI (s 22)]) from hmh10.1) rfl ⟨rfl, fun _ h9 => nomatch h9⟩ ?_
      refine eW_iconst 39 rfl rfl ?_
      refine eW_iadd 40 rfl rfl ?_
      refine eW_putfield 43 [.ref 64, .ref 65, .ref 66, .ref 67, vI (s 4), vI (s 5), vI (s 6), vI 1, vI (s 8), vI (s 9), .ref 68, vI ((s 11) + 1), vI (s 12), .ref 69, vI (s 14), .ref 70, .ref 71, vI (s 17), vI (s 18), vI (s 19), vI (s 20), .ref 72, vI (s 22)] rfl rfl (Nat.ble_eq_true_of_le (by omega)) rfl (show h10 63 = .inr (11, [.ref 64, .ref 65, .ref 66, .ref 67, vI (s 4), vI (s 5), vI (s 6), vI 1, vI (s 8), vI (s 9), .ref 68, vI (s 11), vI (s 12), .ref 69, vI (s 14), .ref 70, .ref 71, vI (s 17), vI (s 18), vI (s 19), vI (s 20), .ref 72, vI (s 22)]) from hmh10.1) rfl rfl ?_
      intro h11 eh11 oh11
      have hmh11 : mM h11 (sUp (sUp s 7 1) 11 ((s 11) + 1)) (mUp A 4 (eUp (A 4) (s 11).toNat x)) := mM_s (s := (sUp s 7 1)) hmh10 eh11 oh11
      have frh11 : mFr h h11 := mFr_s frh10 oh11
      refine eW_aload_n 44 rfl rfl rfl ?_
      refine eW_getfield 47 rfl rfl (Nat.ble_eq_true_of_le (by omega)) rfl (show h11 63 = .inr (11, [.ref 64, .ref 65, .ref 66, .ref 67, vI (s 4), vI (s 5), vI (s 6), vI 1, vI (s 8), vI (s 9), .ref 68, vI ((s 11) + 1), vI (s 12), .ref 69, vI (s 14), .ref 70, .ref 71, vI (s 17), vI (s 18), vI (s 19), vI (s 20), .ref 72, vI (s 22)]) from hmh11.1) rfl ⟨rfl, fun _ h9 => nomatch h9⟩ ?_
      refine eW_ret_i rfl rfl (Or.inl rfl) ?_
      exfalso; omega
    · refine eW_iconst 22 rfl rfl ?_
      refine eW_ret_i rfl rfl (Or.inl rfl) ?_
      refine ⟨_, _, _, _, rfl, hmh8, frh8, ?_⟩
      exact ⟨fun _ => ⟨rfl, rfl, rfl⟩, fun e => absurd e (by omega), rfl, rfl, rfl, rfl, rfl, rfl, rfl, rfl, rfl, rfl, rfl⟩
theorem m_writes {d N : Nat} {h : eHp} {s : Nat → Int} {A : Nat → Nat → Int} (hm : mM h s A) (hN : 75 ≤ N) {c : Int} (hc : 0 ≤ c ∧ c ≤ 65535) (hw : 0 ≤ s 14 ∧ s 14 < 330) : eSp (d + 1) eM_X7_writes [.ref 63, vI c] N h (eChg none N (mD h (sUp s 14 (s 14 + 1)) (mUp A 5 (eUp (A 5) (s 14).toNat c)))) := by
  refine eSp_of [(0, .ref 63), (1, vI c)] rfl rfl ?_
  refine eW_aload_n 1 rfl rfl rfl ?_
  refine eW_getfield 4 rfl rfl (Nat.ble_eq_true_of_le (by omega)) rfl hm.1 rfl ⟨rfl, fun _ h9 => nomatch h9⟩ ?_
  refine eW_aload_n 5 rfl rfl rfl ?_
  refine eW_getfield 8 rfl rfl (Nat.ble_eq_true_of_le (by omega)) rfl hm.1 rfl ⟨rfl, fun _ h9 => nomatch h9⟩ ?_
  refine eW_iload_n 9 rfl rfl rfl ?_
  refine eW_i2c 10 rfl rfl c (tx_char hc) ?_
  refine eW_castore 11 rfl rfl (Nat.ble_eq_true_of_le (by omega)) (show h 69 = .inl (1, 330, .inl (eIA (A 5))) from hm.2.2.2.2.2.2.1) (by omega) (by omega) (by unfold i32; omega) (tx_char hc) ?_
  intro h1 eh1 oh1
  have hmh1 : mM h1 s (mUp A 5 (eUp (A 5) (s 14).toNat c)) := mM_5 hm eh1 oh1 ⟨rfl, rfl, rfl, rfl, rfl, rfl, rfl, rfl⟩
  have frh1 : mFr h h1 := mFr_a (fun _ _ => rfl) (by decide) oh1
  refine eW_aload_n 12 rfl rfl rfl ?_
  refine eW_dup 13 rfl rfl rfl ?_
  refine eW_getfield 16 rfl rfl (Nat.ble_eq_true_of_le (by omega)) rfl hmh1.1 rfl ⟨rfl, fun _ h9 => nomatch h9⟩ ?_
  refine eW_iconst 17 rfl rfl ?_
  refine eW_iadd 18 rfl rfl ?_
  refine eW_putfield 21 [.ref 64, .ref 65, .ref 66, .ref 67, vI (s 4), vI (s 5), vI (s 6), vI (s 7), vI (s 8), vI (s 9), .ref 68, vI (s 11), vI (s 12), .ref 69, vI ((s 14) + 1), .ref 70, .ref 71, vI (s 17), vI (s 18), vI (s 19), vI (s 20), .ref 72, vI (s 22)] rfl rfl (Nat.ble_eq_true_of_le (by omega)) rfl hmh1.1 rfl rfl ?_
  intro h2 eh2 oh2
  have hmh2 : mM h2 (sUp s 14 ((s 14) + 1)) (mUp A 5 (eUp (A 5) (s 14).toNat c)) := mM_s (s := s) hmh1 eh2 oh2
  have frh2 : mFr h h2 := mFr_s frh1 oh2
  refine eW_ret rfl rfl ?_
  exact ⟨_, rfl, hmh2, frh2⟩
/-- a number's digits -/
def dg (n : Int) : List Int := if 9 < n then [48 + n / 10 % 10, 48 + n % 10] else [48 + n % 10]
theorem dg_two {n : Int} (h : 9 < n) : dg n = [48 + n / 10 % 10, 48 + n % 10] := if_pos h
theorem dg_one {n : Int} (h : ¬ 9 < n) : dg n = [48 + n % 10] := if_neg h
theorem dg_len (n : Int) : (dg n).length ≤ 2 := by
  unfold dg
  split
  · exact Nat.le_refl 2
  · exact Nat.le_succ 1
/-- a row of signs is a list -/
def lnR (F : Nat → Int) (m : Int) (L : List Int) : Prop := m = L.length ∧ ∀ i : Nat, i < L.length → L[i]? = some (F i)
theorem lnR_0 {F : Nat → Int} : lnR F 0 [] := ⟨rfl, fun i h => absurd h (Nat.not_lt_zero _)⟩
theorem lnR_s {F : Nat → Int} {m c : Int} {L : List Int} (h : lnR F m L) : lnR (eUp F m.toNat c) (m + 1) (L ++ [c]) := by
  obtain ⟨h1, h2⟩ := h
  refine ⟨by rw [List.length_append, h1]; rfl, fun i hi => ?_⟩
  rw [List.length_append] at hi
  have hi : i < L.length + 1 := hi
  by_cases h9 : i = L.length
  · subst h9
    rw [List.getElem?_append_right (Nat.le_refl _), Nat.sub_self, eUp_eq (by omega)]; rfl
  · rw [List.getElem?_append_left (by omega), eUp_ne (by omega)]; exact h2 i (by omega)
theorem dgD : ∀ k, k < 100 → Int32.ofInt (k : Nat) / Int32.ofInt 10 = Int32.ofInt ((k : Nat) / 10 : Int) ∧ Int32.ofInt (k : Nat) - Int32.ofInt (k : Nat) / Int32.ofInt 10 * Int32.ofInt 10 = Int32.ofInt ((k : Nat) % 10 : Int) := by decide
theorem dg_div {n : Int} (h : 0 ≤ n ∧ n ≤ 99) : Int32.ofInt n / Int32.ofInt 10 = Int32.ofInt (n / 10) := by
  have := (dgD n.toNat (by omega)).1
  rw [Int.toNat_of_nonneg h.1] at this; exact this
theorem dg_mod {n : Int} (h : 0 ≤ n ∧ n ≤ 99) : Int32.ofInt n - Int32.ofInt n / Int32.ofInt 10 * Int32.ofInt 10 = Int32.ofInt (n % 10) := by
  have := (dgD n.toNat (by omega)).2
  rw [Int.toNat_of_nonneg h.1] at this; exact this
theorem m_writesNumber {d N : Nat} {h : eHp} {s : Nat → Int} {A : Nat → Nat → Int} (hm : mM h s A) (hN : 75 ≤ N) {n : Int} (hn : 0 ≤ n ∧ n ≤ 99) {L : List Int} (hL : lnR (A 5) (s 14) L) (hl : L.length ≤ 320) : eSp (d + 2) eM_X7_writesNumber [.ref 63, vI n] N h (eChg none N (fun h' => ∃ F m, mD h (sUp s 14 m) (mUp A 5 F) h' ∧ lnR F m (L ++ dg n))) := by
  refine eSp_of [(0, .ref 63), (1, vI n)] rfl rfl ?_
  have hl9 := hL.1
  refine eW_iload_n 1 rfl rfl rfl ?_
  refine eW_bipush 3 rfl rfl 99 rfl ?_
  refine eW_icmp_le 6 rfl rfl (by unfold i32; omega) (by unfold i32; omega) (fun c1 => ?_) (fun c1 => absurd c1 (by omega))
  refine eW_iload_n 18 rfl rfl rfl ?_
  refine eW_bipush 20 rfl rfl 9 rfl ?_
  refine eW_icmp_le 23 rfl rfl (by unfold i32; omega) (by unfold i32; omega) (fun c2 => ?_) (fun c2 => ?_)
  · refine eW_aload_n 38 rfl rfl rfl ?_
    refine eW_bipush 40 rfl rfl 48 rfl ?_
    refine eW_iload_n 41 rfl rfl rfl ?_
    refine eW_bipush 43 rfl rfl 10 rfl ?_
    refine eW_irem 44 rfl rfl (n % 10) (by decide) (dg_mod (by omega)) ?_
    refine eW_iadd 45 rfl rfl ?_
    refine eW_callVH 48 [.ref 63, vI (48 + (n % 10))] [] [] rfl rfl rfl rfl (Nat.ble_eq_true_of_le (by omega)) hm.1 rfl rfl rfl (m_writes (d := d + 0) hm hN (by omega) (show 0 ≤ (s 14) ∧ (s 14) < 330 by omega)) rfl rfl ?_
    intro h3 fh3
    have hmh3 : mM h3 (sUp s 14 ((s 14) + 1)) (mUp A 5 (eUp (A 5) (s 14).toNat (48 + (n % 10)))) := fh3.1
    have frh3 : mFr h h3 := mFr_t (fun _ _ => rfl) fh3.2
    refine eW_ret rfl rfl ?_
    refine ⟨_, rfl, _, _, ⟨hmh3, frh3⟩, ?_⟩
    rw [dg_one (by omega)]
    exact lnR_s hL
  · refine eW_aload_n 24 rfl rfl rfl ?_
    refine eW_bipush 26 rfl rfl 48 rfl ?_
    refine eW_iload_n 27 rfl rfl rfl ?_
    refine eW_bipush 29 rfl rfl 10 rfl ?_
    refine eW_idiv 30 rfl rfl (n / 10) (by decide) (dg_div (by omega)) ?_
    refine eW_bipush 32 rfl rfl 10 rfl ?_
    refine eW_irem 33 rfl rfl ((n / 10) % 10) (by decide) (dg_mod (by omega)) ?_
    refine eW_iadd 34 rfl rfl ?_
    refine eW_callVH 37 [.ref 63, vI (48 + ((n / 10) % 10))] [] [] rfl rfl rfl rfl (Nat.ble_eq_true_of_le (by omega)) hm.1 rfl rfl rfl (m_writes (d := d + 0) hm hN (by omega) (show 0 ≤ (s 14) ∧ (s 14) < 330 by omega)) rfl rfl ?_
    intro h4 fh4
    have hmh4 : mM h4 (sUp s 14 ((s 14) + 1)) (mUp A 5 (eUp (A 5) (s 14).toNat (48 + ((n / 10) % 10)))) := fh4.1
    have frh4 : mFr h h4 := mFr_t (fun _ _ => rfl) fh4.2
    refine eW_aload_n 38 rfl rfl rfl ?_
    refine eW_bipush 40 rfl rfl 48 rfl ?_
    refine eW_iload_n 41 rfl rfl rfl ?_
    refine eW_bipush 43 rfl rfl 10 rfl ?_
    refine eW_irem 44 rfl rfl (n % 10) (by decide) (dg_mod (by omega)) ?_
    refine eW_iadd 45 rfl rfl ?_
    refine eW_callVH 48 [.ref 63, vI (48 + (n % 10))] [] [] rfl rfl rfl rfl (Nat.ble_eq_true_of_le (by omega)) (show h4 63 = .inr (11, [.ref 64, .ref 65, .ref 66, .ref 67, vI (s 4), vI (s 5), vI (s 6), vI (s 7), vI (s 8), vI (s 9), .ref 68, vI (s 11), vI (s 12), .ref 69, vI ((s 14) + 1), .ref 70, .ref 71, vI (s 17), vI (s 18), vI (s 19), vI (s 20), .ref 72, vI (s 22)]) from hmh4.1) rfl rfl rfl (m_writes (d := d + 0) hmh4 hN (by omega) (show 0 ≤ ((s 14) + 1) ∧ ((s 14) + 1) < 330 by omega)) rfl rfl ?_
    intro h5 fh5
    have hmh5 : mM h5 (sUp s 14 (((s 14) + 1) + 1)) (mUp A 5 (eUp (eUp (A 5) (s 14).toNat (48 + ((n / 10) % 10))) ((s 14) + 1).toNat (48 + (n % 10)))) := fh5.1
    have frh5 : mFr h h5 := mFr_t frh4 fh5.2
    refine eW_ret rfl rfl ?_
    refine ⟨_, rfl, _, _, ⟨hmh5, frh5⟩, ?_⟩
    rw [dg_two (by omega), show L ++ [48 + n / 10 % 10, 48 + n % 10] = (L ++ [48 + n / 10 % 10]) ++ [48 + n % 10] by simp]
    exact lnR_s (lnR_s hL)
def gLnP (D : Int → Int) (F : Nat → Int) : Nat → List Int
  | 0 => []
  | k + 1 => (((gLnP D F k ++ dg (F k)) ++ [58]) ++ dg (gvv D (F k))) ++ [32]
def gLine (G : eGd) : List Int := (gLnP (gDig G) G.1 G.2.2.2.1.toNat ++ [61]) ++ dg (gSm G)
theorem gLnP_len {D : Int → Int} {F : Nat → Int} : ∀ k, (gLnP D F k).length ≤ 6 * k
  | 0 => Nat.le_refl _
  | k + 1 => by
    show ((((gLnP D F k ++ dg (F k)) ++ [58]) ++ dg (gvv D (F k))) ++ [32]).length ≤ _
    have h1 := gLnP_len (D := D) (F := F) k
    have h2 := dg_len (F k)
    have h3 := dg_len (gvv D (F k))
    simp only [List.length_append, List.length_cons, List.length_nil]
    omega
def gVln (D : Int → Int) : Nat → List Int
  | 0 => []
  | k + 1 => (gVln D k ++ (if 0 < k then [44] else [])) ++ dg (gv D k)
theorem gVln_len {D : Int → Int} : ∀ k, (gVln D k).length ≤ 3 * k
  | 0 => Nat.le_refl _
  | k + 1 => by
    show ((gVln D k ++ (if 0 < k then [44] else [])) ++ dg (gv D k)).length ≤ _
    have h1 := gVln_len (D := D) k
    have h2 := dg_len (gv D k)
    have h3 : (if 0 < k then [44] else ([] : List Int)).length ≤ 1 := by split <;> decide
    simp only [List.length_append]
    omega
def mSl (s : Nat → Int) (A : Nat → Nat → Int) (s' : Nat → Int) (A' : Nat → Nat → Int) : Prop := A' 0 = A 0 ∧ A' 1 = A 1 ∧ A' 2 = A 2 ∧ A' 4 = A 4 ∧ s' 4 = s 4 ∧ s' 5 = s 5 ∧ s' 6 = s 6 ∧ s' 8 = s 8 ∧ s' 9 = s 9 ∧ s' 11 = s 11 ∧ s' 12 = s 12
theorem m_line_l {d N k z : Nat} {h0 : eHp} {s : Nat → Int} {A : Nat → Nat → Int} (hN : 75 ≤ N) {P : eR → Prop} {c : Int} {G : eGd} (hr : rR G (A 0)) (hI : gI c G) {V1 : Nat → Int} (hA6 : A 6 = V1) (hV1 : ∀ i : Nat, (i : Int) < 31 → V1 i = gv (gDig G) i) {y9 : Int} : ∀ (m9 : Nat) (i m : Int) (F : Nat → Int) (h : eHp), G.2.2.2.1 - i ≤ m9 → 0 ≤ i ∧ i ≤ G.2.2.2.1 → mM h (sUp s 14 m) (mUp A 5 F) → mFr h0 h → lnR F m (gLnP (gDig G) G.1 i.toNat) → (∀ (m : Int) (F : Nat → Int) (h : eHp), mM h (sUp s 14 m) (mUp A 5 F) → mFr h0 h → lnR F m (gLnP (gDig G) G.1 G.2.2.2.1.toNat) → eWp eOx (eEv (d + 3)) eM_X7_line (68, [(0, .ref 63), (1, vI y9)], [], N, h, k, z) P) → eWp eOx (eEv (d + 3)) eM_X7_line (17, [(0, .ref 63), (1, vI y9), (2, vI i)], [], N, h, k, z) P := by
  intro m9
  induction m9 with
  | zero =>
    intro i m F h hm9 q0 q1 q2 q3 kk
    have hG := hI.1
    have hG9 := hG
    obtain ⟨g1, g2, g3, g4⟩ := hG9
    have hll := gLnP_len (D := gDig G) (F := G.1) i.toNat
    have hmi := hI.2.2.1 i.toNat
    have hx1 := gvv_30 (D := gDig G) (G.1 i.toNat)
    refine eW_iload_n 18 rfl rfl rfl ?_
    refine eW_aload_n 19 rfl rfl rfl ?_
    refine eW_getfield 22 rfl rfl (Nat.ble_eq_true_of_le (by omega)) rfl (show h 63 = .inr (11, [.ref 64, .ref 65, .ref 66, .ref 67, vI (s 4), vI (s 5), vI (s 6), vI (s 7), vI (s 8), vI (s 9), .ref 68, vI (s 11), vI (s 12), .ref 69, vI m, .ref 70, .ref 71, vI (s 17), vI (s 18), vI (s 19), vI (s 20), .ref 72, vI (s 22)]) from q1.1) rfl ⟨rfl, fun _ h9 => nomatch h9⟩ ?_
    refine eW_iconst 23 rfl rfl ?_
    refine eW_iaload 24 rfl rfl G.2.2.2.1 (Nat.ble_eq_true_of_le (by omega)) (show h 64 = .inl (0, 62, .inl (eIA (A 0))) from q1.2.1) (by omega) (by omega) (by unfold i32; omega) (congrArg Int32.ofInt hr.1) ?_
    refine eW_icmp_ge 27 rfl rfl (by unfold i32; omega) (by unfold i32; omega) (fun c1 => ?_) (fun c1 => ?_)
    · refine eW_re [(0, .ref 63), (1, vI y9)] rfl rfl (List.forall_mem_cons.mpr ⟨rfl, List.forall_mem_cons.mpr ⟨rfl, fun _ h => absurd h List.not_mem_nil⟩⟩) (List.forall_mem_cons.mpr ⟨Or.inl rfl, List.forall_mem_cons.mpr ⟨Or.inl rfl, List.forall_mem_cons.mpr ⟨Or.inr ⟨_, rfl⟩, fun _ h => absurd h List.not_mem_nil⟩⟩⟩) ?_
      refine kk m F h q1 q2 ?_
      rw [show G.2.2.2.1 = i by omega]; exact q3
    · refine eW_aload_n 28 rfl rfl rfl ?_
      refine eW_aload_n 29 rfl rfl rfl ?_
      refine eW_iload_n 30 rfl rfl rfl ?_
      have hmbq2 := g3 i.toNat (by omega)
      refine eW_callV 33 [.ref 63, vI i] [.ref 63] [vI (G.1 i.toNat), .ref 63] rfl rfl rfl rfl (Nat.ble_eq_true_of_le (by omega)) (show h 63 = .inr (11, [.ref 64, .ref 65, .ref 66, .ref 67, vI (s 4), vI (s 5), vI (s 6), vI (s 7), vI (s 8), vI (s 9), .ref 68, vI (s 11), vI (s 12), .ref 69, vI m, .ref 70, .ref 71, vI (s 17), vI (s 18), vI (s 19), vI (s 20), .ref 72, vI (s 22)]) from q1.1) rfl rfl rfl (m_marbles (d := d + 2) q1 hN hr hG (by omega)) rfl rfl ?_
      have hdgq3 := dg_len (G.1 i.toNat)
      refine eW_callVH 36 [.ref 63, vI (G.1 i.toNat)] [] [] rfl rfl rfl rfl (Nat.ble_eq_true_of_le (by omega)) (show h 63 = .inr (11, [.ref 64, .ref 65, .ref 66, .ref 67, vI (s 4), vI (s 5), vI (s 6), vI (s 7), vI (s 8), vI (s 9), .ref 68, vI (s 11), vI (s 12), .ref 69, vI m, .ref 70, .ref 71, vI (s 17), vI (s 18), vI (s 19), vI (s 20), .ref 72, vI (s 22)]) from q1.1) rfl rfl rfl (m_writesNumber (d := d + 1) q1 hN (by omega) q3 (by first | omega | (simp only [List.length_append, List.length_cons, List.length_nil]; omega))) rfl rfl ?_
      intro h4 fh4
      obtain ⟨Fq3, mq3, f9h4⟩ := fh4
      obtain ⟨f8h4, hLq3⟩ := f9h4
      have hmh4 : mM h4 (sUp s 14 mq3) (mUp A 5 Fq3) := f8h4.1
      have frh4 : mFr h0 h4 := mFr_t q2 f8h4.2
      have hlh4 : lnR Fq3 mq3 ((gLnP (gDig G) G.1 i.toNat) ++ dg (G.1 i.toNat)) := hLq3
      refine eW_aload_n 37 rfl rfl rfl ?_
      refine eW_bipush 39 rfl rfl 58 rfl ?_
      refine eW_callVH 42 [.ref 63, vI 58] [] [] rfl rfl rfl rfl (Nat.ble_eq_true_of_le (by omega)) (show h4 63 = .inr (11, [.ref 64, .ref 65, .ref 66, .ref 67, vI (s 4), vI (s 5), vI (s 6), vI (s 7), vI (s 8), vI (s 9), .ref 68, vI (s 11), vI (s 12), .ref 69, vI mq3, .ref 70, .ref 71, vI (s 17), vI (s 18), vI (s 19), vI (s 20), .ref 72, vI (s 22)]) from hmh4.1) rfl rfl rfl (m_writes (d := d + 2) hmh4 hN (by omega) (show 0 ≤ mq3 ∧ mq3 < 330 by have e9 := hlh4.1; first | omega | (simp only [List.length_append, List.length_cons, List.length_nil] at e9; omega))) rfl rfl ?_
      intro h6 fh6
      have hmh6 : mM h6 (sUp s 14 (mq3 + 1)) (mUp A 5 (eUp Fq3 mq3.toNat 58)) := fh6.1
      have frh6 : mFr h0 h6 := mFr_t frh4 fh6.2
      have hlh6 : lnR (eUp Fq3 mq3.toNat 58) (mq3 + 1) (((gLnP (gDig G) G.1 i.toNat) ++ dg (G.1 i.toNat)) ++ [58]) := (lnR_s hlh4)
      refine eW_aload_n 43 rfl rfl rfl ?_
      refine eW_aload_n 44 rfl rfl rfl ?_
      refine eW_getfield 47 rfl rfl (Nat.ble_eq_true_of_le (by omega)) rfl (show h6 63 = .inr (11, [.ref 64, .ref 65, .ref 66, .ref 67, vI (s 4), vI (s 5), vI (s 6), vI (s 7), vI (s 8), vI (s 9), .ref 68, vI (s 11), vI (s 12), .ref 69, vI (mq3 + 1), .ref 70, .ref 71, vI (s 17), vI (s 18), vI (s 19), vI (s 20), .ref 72, vI (s 22)]) from hmh6.1) rfl ⟨rfl, fun _ h9 => nomatch h9⟩ ?_
      refine eW_aload_n 48 rfl rfl rfl ?_
      refine eW_iload_n 49 rfl rfl rfl ?_
      have hmbq7 := g3 i.toNat (by omega)
      refine eW_callV 52 [.ref 63, vI i] [.ref 70, .ref 63] [vI (G.1 i.toNat), .ref 70, .ref 63] rfl rfl rfl rfl (Nat.ble_eq_true_of_le (by omega)) (show h6 63 = .inr (11, [.ref 64, .ref 65, .ref 66, .ref 67, vI (s 4), vI (s 5), vI (s 6), vI (s 7), vI (s 8), vI (s 9), .ref 68, vI (s 11), vI (s 12), .ref 69, vI (mq3 + 1), .ref 70, .ref 71, vI (s 17), vI (s 18), vI (s 19), vI (s 20), .ref 72, vI (s 22)]) from hmh6.1) rfl rfl rfl (m_marbles (d := d + 2) hmh6 hN hr hG (by omega)) rfl rfl ?_
      refine eW_iaload 53 rfl rfl (gvv (gDig G) (G.1 i.toNat)) (Nat.ble_eq_true_of_le (by omega)) (show h6 70 = .inl (0, 31, .inl (eIA (A 6))) from hmh6.2.2.2.2.2.2.2.1) (by omega) (by omega) (by unfold i32; omega) (by rw [hA6]; exact mV_r hV1 (by omega) (by omega) (by omega)) ?_
      have hdgq8 := dg_len (gvv (gDig G) (G.1 i.toNat))
      refine eW_callVH 56 [.ref 63, vI (gvv (gDig G) (G.1 i.toNat))] [] [] rfl rfl rfl rfl (Nat.ble_eq_true_of_le (by omega)) (show h6 63 = .inr (11, [.ref 64, .ref 65, .ref 66, .ref 67, vI (s 4), vI (s 5), vI (s 6), vI (s 7), vI (s 8), vI (s 9), .ref 68, vI (s 11), vI (s 12), .ref 69, vI (mq3 + 1), .ref 70, .ref 71, vI (s 17), vI (s 18), vI (s 19), vI (s 20), .ref 72, vI (s 22)]) from hmh6.1) rfl rfl rfl (m_writesNumber (d := d + 1) hmh6 hN (by omega) hlh6 (by first | omega | (simp only [List.length_append, List.length_cons, List.length_nil]; omega))) rfl rfl ?_
      intro h9 fh9
      obtain ⟨Fq8, mq8, f9h9⟩ := fh9
      obtain ⟨f8h9, hLq8⟩ := f9h9
      have hmh9 : mM h9 (sUp s 14 mq8) (mUp A 5 Fq8) := f8h9.1
      have frh9 : mFr h0 h9 := mFr_t frh6 f8h9.2
      have hlh9 : lnR Fq8 mq8 ((((gLnP (gDig G) G.1 i.toNat) ++ dg (G.1 i.toNat)) ++ [58]) ++ dg (gvv (gDig G) (G.1 i.toNat))) := hLq8
      refine eW_aload_n 57 rfl rfl rfl ?_
      refine eW_bipush 59 rfl rfl 32 rfl ?_
      refine eW_callVH 62 [.ref 63, vI 32] [] [] rfl rfl rfl rfl (Nat.ble_eq_true_of_le (by omega)) (show h9 63 = .inr (11, [.ref 64, .ref 65, .ref 66, .ref 67, vI (s 4), vI (s 5), vI (s 6), vI (s 7), vI (s 8), vI (s 9), .ref 68, vI (s 11), vI (s 12), .ref 69, vI mq8, .ref 70, .ref 71, vI (s 17), vI (s 18), vI (s 19), vI (s 20), .ref 72, vI (s 22)]) from hmh9.1) rfl rfl rfl (m_writes (d := d + 2) hmh9 hN (by omega) (show 0 ≤ mq8 ∧ mq8 < 330 by have e9 := hlh9.1; first | omega | (simp only [List.length_append, List.length_cons, List.length_nil] at e9; omega))) rfl rfl ?_
      intro h11 fh11
      have hmh11 : mM h11 (sUp s 14 (mq8 + 1)) (mUp A 5 (eUp Fq8 mq8.toNat 32)) := fh11.1
      have frh11 : mFr h0 h11 := mFr_t frh9 fh11.2
      have hlh11 : lnR (eUp Fq8 mq8.toNat 32) (mq8 + 1) (((((gLnP (gDig G) G.1 i.toNat) ++ dg (G.1 i.toNat)) ++ [58]) ++ dg (gvv (gDig G) (G.1 i.toNat))) ++ [32]) := (lnR_s hlh9)
      refine eW_iinc 65 rfl rfl [(2, vI (i + 1)), (0, .ref 63), (1, vI y9)] rfl rfl rfl ?_
      refine eW_goto rfl ?_
      refine eW_re [(0, .ref 63), (1, vI y9), (2, vI (i + 1))] rfl rfl (List.forall_mem_cons.mpr ⟨rfl, List.forall_mem_cons.mpr ⟨rfl, List.forall_mem_cons.mpr ⟨rfl, fun _ h => absurd h List.not_mem_nil⟩⟩⟩) (List.forall_mem_cons.mpr ⟨Or.inl rfl, List.forall_mem_cons.mpr ⟨Or.inl rfl, List.forall_mem_cons.mpr ⟨Or.inl rfl, fun _ h => absurd h List.not_mem_nil⟩⟩⟩) ?_
      exact absurd hm9 (by omega)
  | succ m9 ih =>
    intro i m F h hm9 q0 q1 q2 q3 kk
    have hG := hI.1
    have hG9 := hG
    obtain ⟨g1, g2, g3, g4⟩ := hG9
    have hll := gLnP_len (D := gDig G) (F := G.1) i.toNat
    have hmi := hI.2.2.1 i.toNat
    have hx1 := gvv_30 (D := gDig G) (G.1 i.toNat)
    refine eW_iload_n 18 rfl rfl rfl ?_
    refine eW_aload_n 19 rfl rfl rfl ?_
    refine eW_getfield 22 rfl rfl (Nat.ble_eq_true_of_le (by omega)) rfl (show h 63 = .inr (11, [.ref 64, .ref 65, .ref 66, .ref 67, vI (s 4), vI (s 5), vI (s 6), vI (s 7), vI (s 8), vI (s 9), .ref 68, vI (s 11), vI (s 12), .ref 69, vI m, .ref 70, .ref 71, vI (s 17), vI (s 18), vI (s 19), vI (s 20), .ref 72, vI (s 22)]) from q1.1) rfl ⟨rfl, fun _ h9 => nomatch h9⟩ ?_
    refine eW_iconst 23 rfl rfl ?_
    refine eW_iaload 24 rfl rfl G.2.2.2.1 (Nat.ble_eq_true_of_le (by omega)) (show h 64 = .inl (0, 62, .inl (eIA (A 0))) from q1.2.1) (by omega) (by omega) (by unfold i32; omega) (congrArg Int32.ofInt hr.1) ?_
    refine eW_icmp_ge 27 rfl rfl (by unfold i32; omega) (by unfold i32; omega) (fun c1 => ?_) (fun c1 => ?_)
    · refine eW_re [(0, .ref 63), (1, vI y9)] rfl rfl (List.forall_mem_cons.mpr ⟨rfl, List.forall_mem_cons.mpr ⟨rfl, fun _ h => absurd h List.not_mem_nil⟩⟩) (List.forall_mem_cons.mpr ⟨Or.inl rfl, List.forall_mem_cons.mpr ⟨Or.inl rfl, List.forall_mem_cons.mpr ⟨Or.inr ⟨_, rfl⟩, fun _ h => absurd h List.not_mem_nil⟩⟩⟩) ?_
      refine kk m F h q1 q2 ?_
      rw [show G.2.2.2.1 = i by omega]; exact q3
    · refine eW_aload_n 28 rfl rfl rfl ?_
      refine eW_aload_n 29 rfl rfl rfl ?_
      refine eW_iload_n 30 rfl rfl rfl ?_
      have hmbq2 := g3 i.toNat (by omega)
      refine eW_callV 33 [.ref 63, vI i] [.ref 63] [vI (G.1 i.toNat), .ref 63] rfl rfl rfl rfl (Nat.ble_eq_true_of_le (by omega)) (show h 63 = .inr (11, [.ref 64, .ref 65, .ref 66, .ref 67, vI (s 4), vI (s 5), vI (s 6), vI (s 7), vI (s 8), vI (s 9), .ref 68, vI (s 11), vI (s 12), .ref 69, vI m, .ref 70, .ref 71, vI (s 17), vI (s 18), vI (s 19), vI (s 20), .ref 72, vI (s 22)]) from q1.1) rfl rfl rfl (m_marbles (d := d + 2) q1 hN hr hG (by omega)) rfl rfl ?_
      have hdgq3 := dg_len (G.1 i.toNat)
      refine eW_callVH 36 [.ref 63, vI (G.1 i.toNat)] [] [] rfl rfl rfl rfl (Nat.ble_eq_true_of_le (by omega)) (show h 63 = .inr (11, [.ref 64, .ref 65, .ref 66, .ref 67, vI (s 4), vI (s 5), vI (s 6), vI (s 7), vI (s 8), vI (s 9), .ref 68, vI (s 11), vI (s 12), .ref 69, vI m, .ref 70, .ref 71, vI (s 17), vI (s 18), vI (s 19), vI (s 20), .ref 72, vI (s 22)]) from q1.1) rfl rfl rfl (m_writesNumber (d := d + 1) q1 hN (by omega) q3 (by first | omega | (simp only [List.length_append, List.length_cons, List.length_nil]; omega))) rfl rfl ?_
      intro h4 fh4
      obtain ⟨Fq3, mq3, f9h4⟩ := fh4
      obtain ⟨f8h4, hLq3⟩ := f9h4
      have hmh4 : mM h4 (sUp s 14 mq3) (mUp A 5 Fq3) := f8h4.1
      have frh4 : mFr h0 h4 := mFr_t q2 f8h4.2
      have hlh4 : lnR Fq3 mq3 ((gLnP (gDig G) G.1 i.toNat) ++ dg (G.1 i.toNat)) := hLq3
      refine eW_aload_n 37 rfl rfl rfl ?_
      refine eW_bipush 39 rfl rfl 58 rfl ?_
      refine eW_callVH 42 [.ref 63, vI 58] [] [] rfl rfl rfl rfl (Nat.ble_eq_true_of_le (by omega)) (show h4 63 = .inr (11, [.ref 64, .ref 65, .ref 66, .ref 67, vI (s 4), vI (s 5), vI (s 6), vI (s 7), vI (s 8), vI (s 9), .ref 68, vI (s 11), vI (s 12), .ref 69, vI mq3, .ref 70, .ref 71, vI (s 17), vI (s 18), vI (s 19), vI (s 20), .ref 72, vI (s 22)]) from hmh4.1) rfl rfl rfl (m_writes (d := d + 2) hmh4 hN (by omega) (show 0 ≤ mq3 ∧ mq3 < 330 by have e9 := hlh4.1; first | omega | (simp only [List.length_append, List.length_cons, List.length_nil] at e9; omega))) rfl rfl ?_
      intro h6 fh6
      have hmh6 : mM h6 (sUp s 14 (mq3 + 1)) (mUp A 5 (eUp Fq3 mq3.toNat 58)) := fh6.1
      have frh6 : mFr h0 h6 := mFr_t frh4 fh6.2
      have hlh6 : lnR (eUp Fq3 mq3.toNat 58) (mq3 + 1) (((gLnP (gDig G) G.1 i.toNat) ++ dg (G.1 i.toNat)) ++ [58]) := (lnR_s hlh4)
      refine eW_aload_n 43 rfl rfl rfl ?_
      refine eW_aload_n 44 rfl rfl rfl ?_
      refine eW_getfield 47 rfl rfl (Nat.ble_eq_true_of_le (by omega)) rfl (show h6 63 = .inr (11, [.ref 64, .ref 65, .ref 66, .ref 67, vI (s 4), vI (s 5), vI (s 6), vI (s 7), vI (s 8), vI (s 9), .ref 68, vI (s 11), vI (s 12), .ref 69, vI (mq3 + 1), .ref 70, .ref 71, vI (s 17), vI (s 18), vI (s 19), vI (s 20), .ref 72, vI (s 22)]) from hmh6.1) rfl ⟨rfl, fun _ h9 => nomatch h9⟩ ?_
      refine eW_aload_n 48 rfl rfl rfl ?_
      refine eW_iload_n 49 rfl rfl rfl ?_
      have hmbq7 := g3 i.toNat (by omega)
      refine eW_callV 52 [.ref 63, vI i] [.ref 70, .ref 63] [vI (G.1 i.toNat), .ref 70, .ref 63] rfl rfl rfl rfl (Nat.ble_eq_true_of_le (by omega)) (show h6 63 = .inr (11, [.ref 64, .ref 65, .ref 66, .ref 67, vI (s 4), vI (s 5), vI (s 6), vI (s 7), vI (s 8), vI (s 9), .ref 68, vI (s 11), vI (s 12), .ref 69, vI (mq3 + 1), .ref 70, .ref 71, vI (s 17), vI (s 18), vI (s 19), vI (s 20), .ref 72, vI (s 22)]) from hmh6.1) rfl rfl rfl (m_marbles (d := d + 2) hmh6 hN hr hG (by omega)) rfl rfl ?_
      refine eW_iaload 53 rfl rfl (gvv (gDig G) (G.1 i.toNat)) (Nat.ble_eq_true_of_le (by omega)) (show h6 70 = .inl (0, 31, .inl (eIA (A 6))) from hmh6.2.2.2.2.2.2.2.1) (by omega) (by omega) (by unfold i32; omega) (by rw [hA6]; exact mV_r hV1 (by omega) (by omega) (by omega)) ?_
      have hdgq8 := dg_len (gvv (gDig G) (G.1 i.toNat))
      refine eW_callVH 56 [.ref 63, vI (gvv (gDig G) (G.1 i.toNat))] [] [] rfl rfl rfl rfl (Nat.ble_eq_true_of_le (by omega)) (show h6 63 = .inr (11, [.ref 64, .ref 65, .ref 66, .ref 67, vI (s 4), vI (s 5), vI (s 6), vI (s 7), vI (s 8), vI (s 9), .ref 68, vI (s 11), vI (s 12), .ref 69, vI (mq3 + 1), .ref 70, .ref 71, vI (s 17), vI (s 18), vI (s 19), vI (s 20), .ref 72, vI (s 22)]) from hmh6.1) rfl rfl rfl (m_writesNumber (d := d + 1) hmh6 hN (by omega) hlh6 (by first | omega | (simp only [List.length_append, List.length_cons, List.length_nil]; omega))) rfl rfl ?_
      intro h9 fh9
      obtain ⟨Fq8, mq8, f9h9⟩ := fh9
      obtain ⟨f8h9, hLq8⟩ := f9h9
      have hmh9 : mM h9 (sUp s 14 mq8) (mUp A 5 Fq8) := f8h9.1
      have frh9 : mFr h0 h9 := mFr_t frh6 f8h9.2
      have hlh9 : lnR Fq8 mq8 ((((gLnP (gDig G) G.1 i.toNat) ++ dg (G.1 i.toNat)) ++ [58]) ++ dg (gvv (gDig G) (G.1 i.toNat))) := hLq8
      refine eW_aload_n 57 rfl rfl rfl ?_
      refine eW_bipush 59 rfl rfl 32 rfl ?_
      refine eW_callVH 62 [.ref 63, vI 32] [] [] rfl rfl rfl rfl (Nat.ble_eq_true_of_le (by omega)) (show h9 63 = .inr (11, [.ref 64, .ref 65, .ref 66, .ref 67, vI (s 4), vI (s 5), vI (s 6), vI (s 7), vI (s 8), vI (s 9), .ref 68, vI (s 11), vI (s 12), .ref 69, vI mq8, .ref 70, .ref 71, vI (s 17), vI (s 18), vI (s 19), vI (s 20), .ref 72, vI (s 22)]) from hmh9.1) rfl rfl rfl (m_writes (d := d + 2) hmh9 hN (by omega) (show 0 ≤ mq8 ∧ mq8 < 330 by have e9 := hlh9.1; first | omega | (simp only [List.length_append, List.length_cons, List.length_nil] at e9; omega))) rfl rfl ?_
      intro h11 fh11
      have hmh11 : mM h11 (sUp s 14 (mq8 + 1)) (mUp A 5 (eUp Fq8 mq8.toNat 32)) := fh11.1
      have frh11 : mFr h0 h11 := mFr_t frh9 fh11.2
      have hlh11 : lnR (eUp Fq8 mq8.toNat 32) (mq8 + 1) (((((gLnP (gDig G) G.1 i.toNat) ++ dg (G.1 i.toNat)) ++ [58]) ++ dg (gvv (gDig G) (G.1 i.toNat))) ++ [32]) := (lnR_s hlh9)
      refine eW_iinc 65 rfl rfl [(2, vI (i + 1)), (0, .ref 63), (1, vI y9)] rfl rfl rfl ?_
      refine eW_goto rfl ?_
      refine eW_re [(0, .ref 63), (1, vI y9), (2, vI (i + 1))] rfl rfl (List.forall_mem_cons.mpr ⟨rfl, List.forall_mem_cons.mpr ⟨rfl, List.forall_mem_cons.mpr ⟨rfl, fun _ h => absurd h List.not_mem_nil⟩⟩⟩) (List.forall_mem_cons.mpr ⟨Or.inl rfl, List.forall_mem_cons.mpr ⟨Or.inl rfl, List.forall_mem_cons.mpr ⟨Or.inl rfl, fun _ h => absurd h List.not_mem_nil⟩⟩⟩) ?_
      refine ih (i + 1) _ _ h11 (by omega) (by omega) hmh11 frh11 ?_ kk
      rw [show (i + 1).toNat = i.toNat + 1 by omega]
      exact hlh11
theorem m_line {d N : Nat} {h : eHp} {s : Nat → Int} {A : Nat → Nat → Int} (hm : mM h s A) (hN : 75 ≤ N) {c : Int} {G : eGd} (hr : rR G (A 0)) (hI : gI c G) : eSp (d + 4) eM_X7_line [.ref 63] N h (mAft (fun s' A' x => s' 7 = 0 ∧ x = (gLine G).length ∧ lnR (A' 5) (s' 14) (gLine G) ∧ mSl s A s' A') h N) := by
  refine eSp_of [(0, .ref 63)] rfl rfl ?_
  have hG := hI.1
  have hG9 := hG
  obtain ⟨g1, g2, g3, g4⟩ := hG9
  refine eW_aload_n 1 rfl rfl rfl ?_
  refine eW_iconst 2 rfl rfl ?_
  refine eW_putfield 5 [.ref 64, .ref 65, .ref 66, .ref 67, vI (s 4), vI (s 5), vI (s 6), vI 0, vI (s 8), vI (s 9), .ref 68, vI (s 11), vI (s 12), .ref 69, vI (s 14), .ref 70, .ref 71, vI (s 17), vI (s 18), vI (s 19), vI (s 20), .ref 72, vI (s 22)] rfl rfl (Nat.ble_eq_true_of_le (by omega)) rfl hm.1 rfl rfl ?_
  intro h1 eh1 oh1
  have hmh1 : mM h1 (sUp s 7 0) A := mM_s (s := s) hm eh1 oh1
  have frh1 : mFr h h1 := mFr_s (fun _ _ => rfl) oh1
  refine eW_aload_n 6 rfl rfl rfl ?_
  have hsm := gSm_le G
  refine eW_callVH 9 [.ref 63] [] [vI (gSm G)] rfl rfl rfl rfl (Nat.ble_eq_true_of_le (by omega)) (show h1 63 = .inr (11, [.ref 64, .ref 65, .ref 66, .ref 67, vI (s 4), vI (s 5), vI (s 6), vI 0, vI (s 8), vI (s 9), .ref 68, vI (s 11), vI (s 12), .ref 69, vI (s 14), .ref 70, .ref 71, vI (s 17), vI (s 18), vI (s 19), vI (s 20), .ref 72, vI (s 22)]) from hmh1.1) rfl rfl rfl (m_sumNow (d := d + 0) hmh1 hN hr hI) rfl rfl ?_
  intro h2 fh2
  obtain ⟨V1, F1, f9h2⟩ := fh2
  obtain ⟨f8h2, hV1⟩ := f9h2
  have hmh2 : mM h2 (sUp s 7 0) (mUp (mUp A 6 V1) 7 F1) := f8h2.1
  have frh2 : mFr h h2 := mFr_t frh1 f8h2.2
  refine eW_istore_n 10 rfl rfl [(1, vI (gSm G)), (0, .ref 63)] rfl rfl ?_
  refine eW_aload_n 11 rfl rfl rfl ?_
  refine eW_iconst 12 rfl rfl ?_
  refine eW_putfield 15 [.ref 64, .ref 65, .ref 66, .ref 67, vI (s 4), vI (s 5), vI (s 6), vI 0, vI (s 8), vI (s 9), .ref 68, vI (s 11), vI (s 12), .ref 69, vI 0, .ref 70, .ref 71, vI (s 17), vI (s 18), vI (s 19), vI (s 20), .ref 72, vI (s 22)] rfl rfl (Nat.ble_eq_true_of_le (by omega)) rfl (show h2 63 = .inr (11, [.ref 64, .ref 65, .ref 66, .ref 67, vI (s 4), vI (s 5), vI (s 6), vI 0, vI (s 8), vI (s 9), .ref 68, vI (s 11), vI (s 12), .ref 69, vI (s 14), .ref 70, .ref 71, vI (s 17), vI (s 18), vI (s 19), vI (s 20), .ref 72, vI (s 22)]) from hmh2.1) rfl rfl ?_
  intro h3 eh3 oh3
  have hmh3 : mM h3 (sUp (sUp s 7 0) 14 0) (mUp (mUp A 6 V1) 7 F1) := mM_s (s := (sUp s 7 0)) hmh2 eh3 oh3
  have frh3 : mFr h h3 := mFr_s frh2 oh3
  refine eW_iconst 16 rfl rfl ?_
  refine eW_istore_n 17 rfl rfl [(2, vI 0), (1, vI (gSm G)), (0, .ref 63)] rfl rfl ?_
  refine eW_re [(0, .ref 63), (1, vI (gSm G)), (2, vI 0)] rfl rfl (List.forall_mem_cons.mpr ⟨rfl, List.forall_mem_cons.mpr ⟨rfl, List.forall_mem_cons.mpr ⟨rfl, fun _ h => absurd h List.not_mem_nil⟩⟩⟩) (List.forall_mem_cons.mpr ⟨Or.inl rfl, List.forall_mem_cons.mpr ⟨Or.inl rfl, List.forall_mem_cons.mpr ⟨Or.inl rfl, fun _ h => absurd h List.not_mem_nil⟩⟩⟩) ?_
  refine m_line_l (h0 := h) (s := sUp s 7 0) (A := mUp (mUp A 6 V1) 7 F1) hN hr hI rfl hV1 _ 0 0 (A 5) h3 (Int.self_le_toNat _) (by omega) (show mM h3 (sUp (sUp s 7 0) 14 0) (mUp (mUp (mUp A 6 V1) 7 F1) 5 (A 5)) from hmh3) frh3 lnR_0 (fun m1 F2 h4 r1 r2 r3 => ?_)
  have hll := gLnP_len (D := gDig G) (F := G.1) G.2.2.2.1.toNat
  refine eW_aload_n 69 rfl rfl rfl ?_
  refine eW_bipush 71 rfl rfl 61 rfl ?_
  refine eW_callVH 74 [.ref 63, vI 61] [] [] rfl rfl rfl rfl (Nat.ble_eq_true_of_le (by omega)) (show h4 63 = .inr (11, [.ref 64, .ref 65, .ref 66, .ref 67, vI (s 4), vI (s 5), vI (s 6), vI 0, vI (s 8), vI (s 9), .ref 68, vI (s 11), vI (s 12), .ref 69, vI m1, .ref 70, .ref 71, vI (s 17), vI (s 18), vI (s 19), vI (s 20), .ref 72, vI (s 22)]) from r1.1) rfl rfl rfl (m_writes (d := d + 2) r1 hN (by omega) (show 0 ≤ m1 ∧ m1 < 330 by have e9 := r3.1; first | omega | (simp only [List.length_append, List.length_cons, List.length_nil] at e9; omega))) rfl rfl ?_
  intro h6 fh6
  have hmh6 : mM h6 (sUp (sUp s 7 0) 14 (m1 + 1)) (mUp (mUp (mUp A 5 (eUp F2 m1.toNat 61)) 6 V1) 7 F1) := fh6.1
  have frh6 : mFr h h6 := mFr_t r2 fh6.2
  have hlh6 : lnR (eUp F2 m1.toNat 61) (m1 + 1) ((gLnP (gDig G) G.1 G.2.2.2.1.toNat) ++ [61]) := (lnR_s r3)
  refine eW_aload_n 75 rfl rfl rfl ?_
  refine eW_iload_n 76 rfl rfl rfl ?_
  have hdgq7 := dg_len (gSm G)
  refine eW_callVH 79 [.ref 63, vI (gSm G)] [] [] rfl rfl rfl rfl (Nat.ble_eq_true_of_le (by omega)) (show h6 63 = .inr (11, [.ref 64, .ref 65, .ref 66, .ref 67, vI (s 4), vI (s 5), vI (s 6), vI 0, vI (s 8), vI (s 9), .ref 68, vI (s 11), vI (s 12), .ref 69, vI (m1 + 1), .ref 70, .ref 71, vI (s 17), vI (s 18), vI (s 19), vI (s 20), .ref 72, vI (s 22)]) from hmh6.1) rfl rfl rfl (m_writesNumber (d := d + 1) hmh6 hN (by omega) hlh6 (by first | omega | (simp only [List.length_append, List.length_cons, List.length_nil]; omega))) rfl rfl ?_
  intro h8 fh8
  obtain ⟨Fq7, mq7, f9h8⟩ := fh8
  obtain ⟨f8h8, hLq7⟩ := f9h8
  have hmh8 : mM h8 (sUp (sUp s 7 0) 14 mq7) (mUp (mUp (mUp A 5 Fq7) 6 V1) 7 F1) := f8h8.1
  have frh8 : mFr h h8 := mFr_t frh6 f8h8.2
  have hlh8 : lnR Fq7 mq7 (((gLnP (gDig G) G.1 G.2.2.2.1.toNat) ++ [61]) ++ dg (gSm G)) := hLq7
  refine eW_aload_n 80 rfl rfl rfl ?_
  refine eW_getfield 83 rfl rfl (Nat.ble_eq_true_of_le (by omega)) rfl (show h8 63 = .inr (11, [.ref 64, .ref 65, .ref 66, .ref 67, vI (s 4), vI (s 5), vI (s 6), vI 0, vI (s 8), vI (s 9), .ref 68, vI (s 11), vI (s 12), .ref 69, vI mq7, .ref 70, .ref 71, vI (s 17), vI (s 18), vI (s 19), vI (s 20), .ref 72, vI (s 22)]) from hmh8.1) rfl ⟨rfl, fun _ h9 => nomatch h9⟩ ?_
  refine eW_ret_i rfl rfl (Or.inl rfl) ?_
  exact ⟨_, _, _, _, rfl, hmh8, frh8, rfl, hlh8.1, hlh8, ⟨rfl, rfl, rfl, rfl, rfl, rfl, rfl, rfl, rfl, rfl, rfl⟩⟩
theorem m_vline_l {d N k z : Nat} {h0 : eHp} {s : Nat → Int} {A : Nat → Nat → Int} (hN : 75 ≤ N) {P : eR → Prop} {G : eGd} {V1 : Nat → Int} (hA6 : A 6 = V1) (hV1 : ∀ i : Nat, (i : Int) < 31 → V1 i = gv (gDig G) i) {y9 : Int} (hy9 : 0 ≤ y9 ∧ y9 ≤ 30) : ∀ (m9 : Nat) (i m : Int) (F : Nat → Int) (h : eHp), y9 + 1 - i ≤ m9 → 0 ≤ i ∧ i ≤ y9 + 1 → mM h (sUp s 14 m) (mUp A 5 F) → mFr h0 h → lnR F m (gVln (gDig G) i.toNat) → (∀ (m : Int) (F : Nat → Int) (h : eHp), mM h (sUp s 14 m) (mUp A 5 F) → mFr h0 h → lnR F m (gVln (gDig G) (y9 + 1).toNat) → eWp eOx (eEv (d + 3)) eM_X7_valuesLine (53, [(0, .ref 63), (1, vI y9)], [], N, h, k, z) P) → eWp eOx (eEv (d + 3)) eM_X7_valuesLine (22, [(0, .ref 63), (1, vI y9), (2, vI i)], [], N, h, k, z) P := by
  intro m9
  induction m9 with
  | zero =>
    intro i m F h hm9 q0 q1 q2 q3 kk
    have hll := gVln_len (D := gDig G) i.toNat
    have hx1 := gvv_30 (D := gDig G) i
    refine eW_iload_n 23 rfl rfl rfl ?_
    refine eW_iload_n 24 rfl rfl rfl ?_
    refine eW_icmp_gt 27 rfl rfl (by unfold i32; omega) (by unfold i32; omega) (fun c1 => ?_) (fun c1 => ?_)
    · refine eW_re [(0, .ref 63), (1, vI y9)] rfl rfl (List.forall_mem_cons.mpr ⟨rfl, List.forall_mem_cons.mpr ⟨rfl, fun _ h => absurd h List.not_mem_nil⟩⟩) (List.forall_mem_cons.mpr ⟨Or.inl rfl, List.forall_mem_cons.mpr ⟨Or.inl rfl, List.forall_mem_cons.mpr ⟨Or.inr ⟨_, rfl⟩, fun _ h => absurd h List.not_mem_nil⟩⟩⟩) ?_
      refine kk m F h q1 q2 ?_
      rw [show y9 + 1 = i by omega]; exact q3
    · refine eW_iload_n 28 rfl rfl rfl ?_
      refine eW_if_le 31 rfl rfl (by unfold i32; omega) (fun c2 => ?_) (fun c2 => ?_)
      · refine eW_aload_n 38 rfl rfl rfl ?_
        refine eW_aload_n 39 rfl rfl rfl ?_
        refine eW_getfield 42 rfl rfl (Nat.ble_eq_true_of_le (by omega)) rfl (show h 63 = .inr (11, [.ref 64, .ref 65, .ref 66, .ref 67, vI (s 4), vI (s 5), vI (s 6), vI (s 7), vI (s 8), vI (s 9), .ref 68, vI (s 11), vI (s 12), .ref 69, vI m, .ref 70, .ref 71, vI (s 17), vI (s 18), vI (s 19), vI (s 20), .ref 72, vI (s 22)]) from q1.1) rfl ⟨rfl, fun _ h9 => nomatch h9⟩ ?_
        refine eW_iload_n 43 rfl rfl rfl ?_
        refine eW_iaload 44 rfl rfl (gvv (gDig G) i) (Nat.ble_eq_true_of_le (by omega)) (show h 70 = .inl (0, 31, .inl (eIA (A 6))) from q1.2.2.2.2.2.2.2.1) (by omega) (by omega) (by unfold i32; omega) (by rw [hA6]; exact mV_r hV1 (by omega) (by omega) (by omega)) ?_
        have hdgq3 := dg_len (gvv (gDig G) i)
        refine eW_callVH 47 [.ref 63, vI (gvv (gDig G) i)] [] [] rfl rfl rfl rfl (Nat.ble_eq_true_of_le (by omega)) (show h 63 = .inr (11, [.ref 64, .ref 65, .ref 66, .ref 67, vI (s 4), vI (s 5), vI (s 6), vI (s 7), vI (s 8), vI (s 9), .ref 68, vI (s 11), vI (s 12), .ref 69, vI m, .ref 70, .ref 71, vI (s 17), vI (s 18), vI (s 19), vI (s 20), .ref 72, vI (s 22)]) from q1.1) rfl rfl rfl (m_writesNumber (d := d + 1) q1 hN (by omega) q3 (by first | omega | (simp only [List.length_append, List.length_cons, List.length_nil]; omega))) rfl rfl ?_
        intro h4 fh4
        obtain ⟨Fq3, mq3, f9h4⟩ := fh4
        obtain ⟨f8h4, hLq3⟩ := f9h4
        have hmh4 : mM h4 (sUp s 14 mq3) (mUp A 5 Fq3) := f8h4.1
        have frh4 : mFr h0 h4 := mFr_t q2 f8h4.2
        have hlh4 : lnR Fq3 mq3 ((gVln (gDig G) i.toNat) ++ dg (gvv (gDig G) i)) := hLq3
        refine eW_iinc 50 rfl rfl [(2, vI (i + 1)), (0, .ref 63), (1, vI y9)] rfl rfl rfl ?_
        refine eW_goto rfl ?_
        refine eW_re [(0, .ref 63), (1, vI y9), (2, vI (i + 1))] rfl rfl (List.forall_mem_cons.mpr ⟨rfl, List.forall_mem_cons.mpr ⟨rfl, List.forall_mem_cons.mpr ⟨rfl, fun _ h => absurd h List.not_mem_nil⟩⟩⟩) (List.forall_mem_cons.mpr ⟨Or.inl rfl, List.forall_mem_cons.mpr ⟨Or.inl rfl, List.forall_mem_cons.mpr ⟨Or.inl rfl, fun _ h => absurd h List.not_mem_nil⟩⟩⟩) ?_
        exact absurd hm9 (by omega)
      · refine eW_aload_n 32 rfl rfl rfl ?_
        refine eW_bipush 34 rfl rfl 44 rfl ?_
        refine eW_callVH 37 [.ref 63, vI 44] [] [] rfl rfl rfl rfl (Nat.ble_eq_true_of_le (by omega)) (show h 63 = .inr (11, [.ref 64, .ref 65, .ref 66, .ref 67, vI (s 4), vI (s 5), vI (s 6), vI (s 7), vI (s 8), vI (s 9), .ref 68, vI (s 11), vI (s 12), .ref 69, vI m, .ref 70, .ref 71, vI (s 17), vI (s 18), vI (s 19), vI (s 20), .ref 72, vI (s 22)]) from q1.1) rfl rfl rfl (m_writes (d := d + 2) q1 hN (by omega) (show 0 ≤ m ∧ m < 330 by have e9 := q3.1; first | omega | (simp only [List.length_append, List.length_cons, List.length_nil] at e9; omega))) rfl rfl ?_
        intro h6 fh6
        have hmh6 : mM h6 (sUp s 14 (m + 1)) (mUp A 5 (eUp F m.toNat 44)) := fh6.1
        have frh6 : mFr h0 h6 := mFr_t q2 fh6.2
        have hlh6 : lnR (eUp F m.toNat 44) (m + 1) ((gVln (gDig G) i.toNat) ++ [44]) := (lnR_s q3)
        refine eW_aload_n 38 rfl rfl rfl ?_
        refine eW_aload_n 39 rfl rfl rfl ?_
        refine eW_getfield 42 rfl rfl (Nat.ble_eq_true_of_le (by omega)) rfl (show h6 63 = .inr (11, [.ref 64, .ref 65, .ref 66, .ref 67, vI (s 4), vI (s 5), vI (s 6), vI (s 7), vI (s 8), vI (s 9), .ref 68, vI (s 11), vI (s 12), .ref 69, vI (m + 1), .ref 70, .ref 71, vI (s 17), vI (s 18), vI (s 19), vI (s 20), .ref 72, vI (s 22)]) from hmh6.1) rfl ⟨rfl, fun _ h9 => nomatch h9⟩ ?_
        refine eW_iload_n 43 rfl rfl rfl ?_
        refine eW_iaload 44 rfl rfl (gvv (gDig G) i) (Nat.ble_eq_true_of_le (by omega)) (show h6 70 = .inl (0, 31, .inl (eIA (A 6))) from hmh6.2.2.2.2.2.2.2.1) (by omega) (by omega) (by unfold i32; omega) (by rw [hA6]; exact mV_r hV1 (by omega) (by omega) (by omega)) ?_
        have hdgq7 := dg_len (gvv (gDig G) i)
        refine eW_callVH 47 [.ref 63, vI (gvv (gDig G) i)] [] [] rfl rfl rfl rfl (Nat.ble_eq_true_of_le (by omega)) (show h6 63 = .inr (11, [.ref 64, .ref 65, .ref 66, .ref 67, vI (s 4), vI (s 5), vI (s 6), vI (s 7), vI (s 8), vI (s 9), .ref 68, vI (s 11), vI (s 12), .ref 69, vI (m + 1), .ref 70, .ref 71, vI (s 17), vI (s 18), vI (s 19), vI (s 20), .ref 72, vI (s 22)]) from hmh6.1) rfl rfl rfl (m_writesNumber (d := d + 1) hmh6 hN (by omega) hlh6 (by first | omega | (simp only [List.length_append, List.length_cons, List.length_nil]; omega))) rfl rfl ?_
        intro h8 fh8
        obtain ⟨Fq7, mq7, f9h8⟩ := fh8
        obtain ⟨f8h8, hLq7⟩ := f9h8
        have hmh8 : mM h8 (sUp s 14 mq7) (mUp A 5 Fq7) := f8h8.1
        have frh8 : mFr h0 h8 := mFr_t frh6 f8h8.2
        have hlh8 : lnR Fq7 mq7 (((gVln (gDig G) i.toNat) ++ [44]) ++ dg (gvv (gDig G) i)) := hLq7
        refine eW_iinc 50 rfl rfl [(2, vI (i + 1)), (0, .ref 63), (1, vI y9)] rfl rfl rfl ?_
        refine eW_goto rfl ?_
        refine eW_re [(0, .ref 63), (1, vI y9), (2, vI (i + 1))] rfl rfl (List.forall_mem_cons.mpr ⟨rfl, List.forall_mem_cons.mpr ⟨rfl, List.forall_mem_cons.mpr ⟨rfl, fun _ h => absurd h List.not_mem_nil⟩⟩⟩) (List.forall_mem_cons.mpr ⟨Or.inl rfl, List.forall_mem_cons.mpr ⟨Or.inl rfl, List.forall_mem_cons.mpr ⟨Or.inl rfl, fun _ h => absurd h List.not_mem_nil⟩⟩⟩) ?_
        exact absurd hm9 (by omega)
  | succ m9 ih =>
    intro i m F h hm9 q0 q1 q2 q3 kk
    have hll := gVln_len (D := gDig G) i.toNat
    have hx1 := gvv_30 (D := gDig G) i
    refine eW_iload_n 23 rfl rfl rfl ?_
    refine eW_iload_n 24 rfl rfl rfl ?_
    refine eW_icmp_gt 27 rfl rfl (by unfold i32; omega) (by unfold i32; omega) (fun c1 => ?_) (fun c1 => ?_)
    · refine eW_re [(0, .ref 63), (1, vI y9)] rfl rfl (List.forall_mem_cons.mpr ⟨rfl, List.forall_mem_cons.mpr ⟨rfl, fun _ h => absurd h List.not_mem_nil⟩⟩) (List.forall_mem_cons.mpr ⟨Or.inl rfl, List.forall_mem_cons.mpr ⟨Or.inl rfl, List.forall_mem_cons.mpr ⟨Or.inr ⟨_, rfl⟩, fun _ h => absurd h List.not_mem_nil⟩⟩⟩) ?_
      refine kk m F h q1 q2 ?_
      rw [show y9 + 1 = i by omega]; exact q3
    · refine eW_iload_n 28 rfl rfl rfl ?_
      refine eW_if_le 31 rfl rfl (by unfold i32; omega) (fun c2 => ?_) (fun c2 => ?_)
      · refine eW_aload_n 38 rfl rfl rfl ?_
        refine eW_aload_n 39 rfl rfl rfl ?_
        refine eW_getfield 42 rfl rfl (Nat.ble_eq_true_of_le (by omega)) rfl (show h 63 = .inr (11, [.ref 64, .ref 65, .ref 66, .ref 67, vI (s 4), vI (s 5), vI (s 6), vI (s 7), vI (s 8), vI (s 9), .ref 68, vI (s 11), vI (s 12), .ref 69, vI m, .ref 70, .ref 71, vI (s 17), vI (s 18), vI (s 19), vI (s 20), .ref 72, vI (s 22)]) from q1.1) rfl ⟨rfl, fun _ h9 => nomatch h9⟩ ?_
        refine eW_iload_n 43 rfl rfl rfl ?_
        refine eW_iaload 44 rfl rfl (gvv (gDig G) i) (Nat.ble_eq_true_of_le (by omega)) (show h 70 = .inl (0, 31, .inl (eIA (A 6))) from q1.2.2.2.2.2.2.2.1) (by omega) (by omega) (by unfold i32; omega) (by rw [hA6]; exact mV_r hV1 (by omega) (by omega) (by omega)) ?_
        have hdgq3 := dg_len (gvv (gDig G) i)
        refine eW_callVH 47 [.ref 63, vI (gvv (gDig G) i)] [] [] rfl rfl rfl rfl (Nat.ble_eq_true_of_le (by omega)) (show h 63 = .inr (11, [.ref 64, .ref 65, .ref 66, .ref 67, vI (s 4), vI (s 5), vI (s 6), vI (s 7), vI (s 8), vI (s 9), .ref 68, vI (s 11), vI (s 12), .ref 69, vI m, .ref 70, .ref 71, vI (s 17), vI (s 18), vI (s 19), vI (s 20), .ref 72, vI (s 22)]) from q1.1) rfl rfl rfl (m_writesNumber (d := d + 1) q1 hN (by omega) q3 (by first | omega | (simp only [List.length_append, List.length_cons, List.length_nil]; omega))) rfl rfl ?_
        intro h4 fh4
        obtain ⟨Fq3, mq3, f9h4⟩ := fh4
        obtain ⟨f8h4, hLq3⟩ := f9h4
        have hmh4 : mM h4 (sUp s 14 mq3) (mUp A 5 Fq3) := f8h4.1
        have frh4 : mFr h0 h4 := mFr_t q2 f8h4.2
        have hlh4 : lnR Fq3 mq3 ((gVln (gDig G) i.toNat) ++ dg (gvv (gDig G) i)) := hLq3
        refine eW_iinc 50 rfl rfl [(2, vI (i + 1)), (0, .ref 63), (1, vI y9)] rfl rfl rfl ?_
        refine eW_goto rfl ?_
        refine eW_re [(0, .ref 63), (1, vI y9), (2, vI (i + 1))] rfl rfl (List.forall_mem_cons.mpr ⟨rfl, List.forall_mem_cons.mpr ⟨rfl, List.forall_mem_cons.mpr ⟨rfl, fun _ h => absurd h List.not_mem_nil⟩⟩⟩) (List.forall_mem_cons.mpr ⟨Or.inl rfl, List.forall_mem_cons.mpr ⟨Or.inl rfl, List.forall_mem_cons.mpr ⟨Or.inl rfl, fun _ h => absurd h List.not_mem_nil⟩⟩⟩) ?_
        refine ih (i + 1) _ _ h4 (by omega) (by omega) hmh4 frh4 ?_ kk
        have hv9 : gv (gDig G) i.toNat = gvv (gDig G) i := by unfold gvv; rw [gVal_t (by omega)]
        rw [show (i + 1).toNat = i.toNat + 1 by omega]
        unfold gVln
        rw [hv9]
        first
          | (rw [if_pos (by omega)]; exact hlh4)
          | (rw [if_neg (by omega), List.append_nil]; exact hlh4)
      · refine eW_aload_n 32 rfl rfl rfl ?_
        refine eW_bipush 34 rfl rfl 44 rfl ?_
        refine eW_callVH 37 [.ref 63, vI 44] [] [] rfl rfl rfl rfl (Nat.ble_eq_true_of_le (by omega)) (show h 63 = .inr (11, [.ref 64, .ref 65, .ref 66, .ref 67, vI (s 4), vI (s 5), vI (s 6), vI (s 7), vI (s 8), vI (s 9), .ref 68, vI (s 11), vI (s 12), .ref 69, vI m, .ref 70, .ref 71, vI (s 17), vI (s 18), vI (s 19), vI (s 20), .ref 72, vI (s 22)]) from q1.1) rfl rfl rfl (m_writes (d := d + 2) q1 hN (by omega) (show 0 ≤ m ∧ m < 330 by have e9 := q3.1; first | omega | (simp only [List.length_append, List.length_cons, List.length_nil] at e9; omega))) rfl rfl ?_
        intro h6 fh6
        have hmh6 : mM h6 (sUp s 14 (m + 1)) (mUp A 5 (eUp F m.toNat 44)) := fh6.1
        have frh6 : mFr h0 h6 := mFr_t q2 fh6.2
        have hlh6 : lnR (eUp F m.toNat 44) (m + 1) ((gVln (gDig G) i.toNat) ++ [44]) := (lnR_s q3)
        refine eW_aload_n 38 rfl rfl rfl ?_
        refine eW_aload_n 39 rfl rfl rfl ?_
        refine eW_getfield 42 rfl rfl (Nat.ble_eq_true_of_le (by omega)) rfl (show h6 63 = .inr (11, [.ref 64, .ref 65, .ref 66, .ref 67, vI (s 4), vI (s 5), vI (s 6), vI (s 7), vI (s 8), vI (s 9), .ref 68, vI (s 11), vI (s 12), .ref 69, vI (m + 1), .ref 70, .ref 71, vI (s 17), vI (s 18), vI (s 19), vI (s 20), .ref 72, vI (s 22)]) from hmh6.1) rfl ⟨rfl, fun _ h9 => nomatch h9⟩ ?_
        refine eW_iload_n 43 rfl rfl rfl ?_
        refine eW_iaload 44 rfl rfl (gvv (gDig G) i) (Nat.ble_eq_true_of_le (by omega)) (show h6 70 = .inl (0, 31, .inl (eIA (A 6))) from hmh6.2.2.2.2.2.2.2.1) (by omega) (by omega) (by unfold i32; omega) (by rw [hA6]; exact mV_r hV1 (by omega) (by omega) (by omega)) ?_
        have hdgq7 := dg_len (gvv (gDig G) i)
        refine eW_callVH 47 [.ref 63, vI (gvv (gDig G) i)] [] [] rfl rfl rfl rfl (Nat.ble_eq_true_of_le (by omega)) (show h6 63 = .inr (11, [.ref 64, .ref 65, .ref 66, .ref 67, vI (s 4), vI (s 5), vI (s 6), vI (s 7), vI (s 8), vI (s 9), .ref 68, vI (s 11), vI (s 12), .ref 69, vI (m + 1), .ref 70, .ref 71, vI (s 17), vI (s 18), vI (s 19), vI (s 20), .ref 72, vI (s 22)]) from hmh6.1) rfl rfl rfl (m_writesNumber (d := d + 1) hmh6 hN (by omega) hlh6 (by first | omega | (simp only [List.length_append, List.length_cons, List.length_nil]; omega))) rfl rfl ?_
        intro h8 fh8
        obtain ⟨Fq7, mq7, f9h8⟩ := fh8
        obtain ⟨f8h8, hLq7⟩ := f9h8
        have hmh8 : mM h8 (sUp s 14 mq7) (mUp A 5 Fq7) := f8h8.1
        have frh8 : mFr h0 h8 := mFr_t frh6 f8h8.2
        have hlh8 : lnR Fq7 mq7 (((gVln (gDig G) i.toNat) ++ [44]) ++ dg (gvv (gDig G) i)) := hLq7
        refine eW_iinc 50 rfl rfl [(2, vI (i + 1)), (0, .ref 63), (1, vI y9)] rfl rfl rfl ?_
        refine eW_goto rfl ?_
        refine eW_re [(0, .ref 63), (1, vI y9), (2, vI (i + 1))] rfl rfl (List.forall_mem_cons.mpr ⟨rfl, List.forall_mem_cons.mpr ⟨rfl, List.forall_mem_cons.mpr ⟨rfl, fun _ h => absurd h List.not_mem_nil⟩⟩⟩) (List.forall_mem_cons.mpr ⟨Or.inl rfl, List.forall_mem_cons.mpr ⟨Or.inl rfl, List.forall_mem_cons.mpr ⟨Or.inl rfl, fun _ h => absurd h List.not_mem_nil⟩⟩⟩) ?_
        refine ih (i + 1) _ _ h8 (by omega) (by omega) hmh8 frh8 ?_ kk
        have hv9 : gv (gDig G) i.toNat = gvv (gDig G) i := by unfold gvv; rw [gVal_t (by omega)]
        rw [show (i + 1).toNat = i.toNat + 1 by omega]
        unfold gVln
        rw [hv9]
        first
          | (rw [if_pos (by omega)]; exact hlh8)
          | (rw [if_neg (by omega), List.append_nil]; exact hlh8)
theorem m_valuesLine {d N : Nat} {h : eHp} {s : Nat → Int} {A : Nat → Nat → Int} (hm : mM h s A) (hN : 75 ≤ N) {c : Int} {G : eGd} (hr : rR G (A 0)) (hI : gI c G) {m : Int} (hm0 : i32 m) : eSp (d + 4) eM_X7_valuesLine [.ref 63, vI m] N h (mAft (fun s' A' x => s' 7 = mIf (gNum m) 1 0 ∧ (eB01 (gNum m) = 1 → x = (gVln (gDig G) (m + 1).toNat).length ∧ lnR (A' 5) (s' 14) (gVln (gDig G) (m + 1).toNat)) ∧ (eB01 (gNum m) = 0 → A' 5 = A 5 ∧ s' 14 = s 14) ∧ mSl s A s' A') h N) := by
  refine eSp_of [(0, .ref 63), (1, vI m)] rfl rfl ?_
  have hG := hI.1
  have hG9 := hG
  obtain ⟨g1, g2, g3, g4⟩ := hG9
  have hc2 := mIf_c (gNum m) 1 0
  unfold i32 at hm0
  refine eW_aload_n 1 rfl rfl rfl ?_
  refine eW_iload_n 2 rfl rfl rfl ?_
  have hnnq1 := gNum_c m
  refine eW_callVH 5 [.ref 63, vI m] [] [vI (1 - eB01 (gNum m))] rfl rfl rfl rfl (Nat.ble_eq_true_of_le (by omega)) hm.1 rfl rfl rfl (m_isNoNumber (d := d + 1) hm hN (by unfold i32; omega)) rfl rfl ?_
  intro h2 fh2
  have hmh2 : mM h2 (sUp s 7 (1 - eB01 (gNum m))) A := fh2.1
  have frh2 : mFr h h2 := mFr_t (fun _ _ => rfl) fh2.2
  refine eW_if_eq 8 rfl rfl (by unfold i32; omega) (fun c3 => ?_) (fun c3 => ?_)
  · refine eW_aload_n 11 rfl rfl rfl ?_
    refine eW_iconst 12 rfl rfl ?_
    refine eW_callVH 15 [.ref 63, vI 0] [] [] rfl rfl rfl rfl (Nat.ble_eq_true_of_le (by omega)) (show h2 63 = .inr (11, [.ref 64, .ref 65, .ref 66, .ref 67, vI (s 4), vI (s 5), vI (s 6), vI (1 - eB01 (gNum m)), vI (s 8), vI (s 9), .ref 68, vI (s 11), vI (s 12), .ref 69, vI (s 14), .ref 70, .ref 71, vI (s 17), vI (s 18), vI (s 19), vI (s 20), .ref 72, vI (s 22)]) from hmh2.1) rfl rfl rfl (m_finds (d := d + 1) hmh2 hN hr hG (by omega)) rfl rfl ?_
    intro h4 fh4
    obtain ⟨V1, F1, f9h4⟩ := fh4
    obtain ⟨f8h4, hV1, hF1⟩ := f9h4
    have hmh4 : mM h4 (sUp s 7 (1 - eB01 (gNum m))) (mUp (mUp A 6 V1) 7 F1) := f8h4.1
    have frh4 : mFr h h4 := mFr_t frh2 f8h4.2
    refine eW_aload_n 16 rfl rfl rfl ?_
    refine eW_iconst 17 rfl rfl ?_
    refine eW_putfield 20 [.ref 64, .ref 65, .ref 66, .ref 67, vI (s 4), vI (s 5), vI (s 6), vI (1 - eB01 (gNum m)), vI (s 8), vI (s 9), .ref 68, vI (s 11), vI (s 12), .ref 69, vI 0, .ref 70, .ref 71, vI (s 17), vI (s 18), vI (s 19), vI (s 20), .ref 72, vI (s 22)] rfl rfl (Nat.ble_eq_true_of_le (by omega)) rfl (show h4 63 = .inr (11, [.ref 64, .ref 65, .ref 66, .ref 67, vI (s 4), vI (s 5), vI (s 6), vI (1 - eB01 (gNum m)), vI (s 8), vI (s 9), .ref 68, vI (s 11), vI (s 12), .ref 69, vI (s 14), .ref 70, .ref 71, vI (s 17), vI (s 18), vI (s 19), vI (s 20), .ref 72, vI (s 22)]) from hmh4.1) rfl rfl ?_
    intro h5 eh5 oh5
    have hmh5 : mM h5 (sUp (sUp s 7 (1 - eB01 (gNum m))) 14 0) (mUp (mUp A 6 V1) 7 F1) := mM_s (s := (sUp s 7 (1 - eB01 (gNum m)))) hmh4 eh5 oh5
    have frh5 : mFr h h5 := mFr_s frh4 oh5
    refine eW_iconst 21 rfl rfl ?_
    refine eW_istore_n 22 rfl rfl [(2, vI 0), (0, .ref 63), (1, vI m)] rfl rfl ?_
    refine eW_re [(0, .ref 63), (1, vI m), (2, vI 0)] rfl rfl (List.forall_mem_cons.mpr ⟨rfl, List.forall_mem_cons.mpr ⟨rfl, List.forall_mem_cons.mpr ⟨rfl, fun _ h => absurd h List.not_mem_nil⟩⟩⟩) (List.forall_mem_cons.mpr ⟨Or.inl rfl, List.forall_mem_cons.mpr ⟨Or.inl rfl, List.forall_mem_cons.mpr ⟨Or.inl rfl, fun _ h => absurd h List.not_mem_nil⟩⟩⟩) ?_
    refine m_vline_l (h0 := h) (s := sUp s 7 (1 - eB01 (gNum m))) (A := mUp (mUp A 6 V1) 7 F1) hN rfl hV1 (by omega) _ 0 0 (A 5) h5 (Int.self_le_toNat _) (by omega) (show mM h5 (sUp (sUp s 7 (1 - eB01 (gNum m))) 14 0) (mUp (mUp (mUp A 6 V1) 7 F1) 5 (A 5)) from hmh5) frh5 lnR_0 (fun m1 F2 h6 r1 r2 r3 => ?_)
    refine eW_aload_n 54 rfl rfl rfl ?_
    refine eW_getfield 57 rfl rfl (Nat.ble_eq_true_of_le (by omega)) rfl (show h6 63 = .inr (11, [.ref 64, .ref 65, .ref 66, .ref 67, vI (s 4), vI (s 5), vI (s 6), vI (1 - eB01 (gNum m)), vI (s 8), vI (s 9), .ref 68, vI (s 11), vI (s 12), .ref 69, vI m1, .ref 70, .ref 71, vI (s 17), vI (s 18), vI (s 19), vI (s 20), .ref 72, vI (s 22)]) from r1.1) rfl ⟨rfl, fun _ h9 => nomatch h9⟩ ?_
    refine eW_ret_i rfl rfl (Or.inl rfl) ?_
    refine ⟨_, _, _, _, rfl, r1, r2, ?_⟩
    refine ⟨by show (1 - eB01 (gNum m) : Int) = _; omega, fun _ => ⟨r3.1, r3⟩, fun e => absurd e (by omega), ⟨rfl, rfl, rfl, rfl, rfl, rfl, rfl, rfl, rfl, rfl, rfl⟩⟩
  · refine eW_iconst 9 rfl rfl ?_
    refine eW_ret_i rfl rfl (Or.inl rfl) ?_
    refine ⟨_, _, _, _, rfl, hmh2, frh2, ?_⟩
    refine ⟨by show (1 - eB01 (gNum m) : Int) = _; omega, fun e => absurd e (by omega), fun _ => ⟨rfl, rfl⟩, ⟨rfl, rfl, rfl, rfl, rfl, rfl, rfl, rfl, rfl, rfl, rfl⟩⟩
