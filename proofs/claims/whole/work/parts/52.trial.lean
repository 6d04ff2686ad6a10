/-! the trial of all scoops -/
def yM (D : Int → Int) (h : eHp) (cr wn : Nat → Int) (tr : Int) : Prop := h 53 = .inr (8, [.ref 54, .ref 55, vI tr]) ∧ h 54 = .inl (4, 139, .inr (.inl (eLA cr))) ∧ h 55 = .inl (2, 139, .inl (eIA wn)) ∧ (0 ≤ tr ∧ tr ≤ 139) ∧ ∀ j : Nat, (j : Int) < tr → ∃ F, wV F ∧ cr j = wC F ∧ wn j = eB01 (wW D F)
def yFr (h h' : eHp) : Prop := ∀ i, i < 53 ∨ 55 < i → h' i = h i
def yQ (D : Int → Int) (B : Bool → Prop) (N : Nat) (h : eHp) : eR → Prop := fun q => ∃ b h' cr wn tr, q = (.inl (some (vI (eB01 b))), N, h', 0, 0) ∧ yM D h' cr wn tr ∧ yFr h h' ∧ B b
theorem yQ_F {D : Int → Int} {B : Bool → Prop} {N : Nat} {h : eHp} {q : eR} (k : yQ D B N h q) : ∃ y h', q = (.inl (some (vI y)), N, h', 0, 0) ∧ ∃ b cr wn tr, y = eB01 b ∧ yM D h' cr wn tr ∧ yFr h h' ∧ B b := by
  obtain ⟨b, h', cr, wn, tr, e1, e2, e3, e4⟩ := k
  exact ⟨_, h', e1, b, cr, wn, tr, rfl, e2, e3, e4⟩
theorem eB01_nar9 (b : Bool) : vp_nar .boolean (Int32.ofInt (eB01 b)) = Int32.ofInt (eB01 b) := eB01_nar b
theorem y_oneOf {d N : Nat} {h : eHp} {s : Int} (hs : i32 s) : eSp (d + 1) eM_X4_oneOf [vI s] N h (eRet (some (vL (wO s))) N h) := by
  refine eSp_of [(0, vI s)] rfl rfl ?_
  unfold i32 at hs
  refine eW_iload_n 1 rfl rfl rfl ?_
  refine eW_iconst 2 rfl rfl ?_
  refine eW_icmp_lt 5 rfl rfl (by unfold i32; omega) (by unfold i32; omega) (fun c1 => ?_) (fun c1 => ?_)
  · refine eW_lconst 12 rfl rfl 0 rfl ?_
    refine eW_goto rfl ?_
    refine eW_ret_l rfl rfl ?_
    refine (show eRet (some (vL (wO s))) N h (.inl (some (vL 0)), N, h, 0, 0) from ?_)
    rw [show wO s = 0 from if_neg (by omega)]; rfl
  · refine eW_iload_n 6 rfl rfl rfl ?_
    refine eW_bipush 8 rfl rfl 10 rfl ?_
    refine eW_icmp_le 11 rfl rfl (by unfold i32; omega) (by unfold i32; omega) (fun c2 => ?_) (fun c2 => ?_)
    · refine eW_lconst 16 rfl rfl 1 rfl ?_
      refine eW_iconst 17 rfl rfl ?_
      refine eW_iload_n 18 rfl rfl rfl ?_
      refine eW_iconst 19 rfl rfl ?_
      refine eW_isub 20 rfl rfl ?_
      refine eW_imul 21 rfl rfl ?_
      refine eW_lshl 22 rfl rfl (wO s) (wO_shl (by omega)) ?_
      refine eW_ret_l rfl rfl ?_
      exact (show eRet (some (vL (wO s))) N h (.inl (some (vL (wO s))), N, h, 0, 0) from rfl)
    · refine eW_lconst 12 rfl rfl 0 rfl ?_
      refine eW_goto rfl ?_
      refine eW_ret_l rfl rfl ?_
      refine (show eRet (some (vL (wO s))) N h (.inl (some (vL 0)), N, h, 0, 0) from ?_)
      rw [show wO s = 0 from if_neg (by omega)]; rfl
theorem y_isIn {d N : Nat} {h : eHp} {F : Nat → Int} (hF : wV F) {s : Int} (hs : 1 ≤ s ∧ s ≤ 10) : eSp (d + 2) eM_X4_isIn [vL (wC F), vI s] N h (eRet (some (vI (eB01 (decide (F (s - 1).toNat ≠ 0))))) N h) := by
  refine eSp_of [(0, vL (wC F)), (2, vI s)] rfl rfl ?_
  have hf := wFO hF hs
  have hf2 := wFO_le hF hs
  have hcm := wcmp_c (F (s - 1).toNat * wO s) 0
  refine eW_lload_n 1 rfl rfl rfl ?_
  refine eW_iload_n 2 rfl rfl rfl ?_
  refine eW_callS 5 [vI s] [vL (wC F)] [vL (wO s), vL (wC F)] rfl rfl rfl (Or.inl rfl) rfl rfl rfl (y_oneOf (d := d + 0) (by unfold i32; omega)) rfl rfl ?_
  refine eW_ldc2_w 8 rfl rfl 15 rfl ?_
  refine eW_lmul 9 rfl rfl ?_
  refine eW_land 10 rfl rfl (F (s - 1).toNat * wO s) (wAnd hF hs) ?_
  refine eW_lconst 11 rfl rfl 0 rfl ?_
  refine eW_lcmp 12 rfl rfl (wcmp (F (s - 1).toNat * wO s) 0) (wcmp_ok (by omega) (by omega)) ?_
  refine eW_if_eq 15 rfl rfl (by unfold i32; omega) (fun c1 => ?_) (fun c1 => ?_)
  · refine eW_iconst 20 rfl rfl ?_
    refine eW_ret_i rfl rfl (Or.inr (Or.inl ⟨rfl, rfl⟩)) ?_
    refine eRet_i ?_
    first | (rw [decide_eq_true (by omega)]; rfl) | (rw [decide_eq_false (by omega)]; rfl)
  · refine eW_iconst 16 rfl rfl ?_
    refine eW_goto rfl ?_
    refine eW_ret_i rfl rfl (Or.inr (Or.inl ⟨rfl, rfl⟩)) ?_
    refine eRet_i ?_
    first | (rw [decide_eq_true (by omega)]; rfl) | (rw [decide_eq_false (by omega)]; rfl)
theorem y_note {d N : Nat} {h : eHp} {G : eGd} (hG : gOk G) (hg : gG h 1 G) {cr wn : Nat → Int} {tr : Int} (hy : yM (gDig G) h cr wn tr) (hN : 75 ≤ N) {F : Nat → Int} (hF : wV F) : eSp (d + 1) eM_X4_note [.ref 53, vL (wC F), vI (eB01 (wW (gDig G) F))] N h (eChg none N (fun h' => ∃ cr' wn' tr', yM (gDig G) h' cr' wn' tr' ∧ yFr h h')) := by
  refine eSp_of [(0, .ref 53), (1, vL (wC F)), (3, vI (eB01 (wW (gDig G) F)))] rfl rfl ?_
  have htr := hy.2.2.2.1
  refine eW_aload_n 1 rfl rfl rfl ?_
  refine eW_getfield 4 rfl rfl (Nat.ble_eq_true_of_le (by omega)) rfl hy.1 rfl ⟨rfl, fun _ h9 => nomatch h9⟩ ?_
  refine eW_if_lt 7 rfl rfl (by unfold i32; omega) (fun c1 => absurd c1 (by omega)) (fun c1 => ?_)
  refine eW_aload_n 8 rfl rfl rfl ?_
  refine eW_getfield 11 rfl rfl (Nat.ble_eq_true_of_le (by omega)) rfl hy.1 rfl ⟨rfl, fun _ h9 => nomatch h9⟩ ?_
  refine eW_sipush 14 rfl rfl 139 rfl ?_
  refine eW_icmp_ge 17 rfl rfl (by unfold i32; omega) (by unfold i32; omega) (fun c2 => ?_) (fun c2 => ?_)
  · refine eW_ret rfl rfl ?_
    refine ⟨_, rfl, cr, wn, tr, ⟨hy.1, hy.2.1, hy.2.2.1, by omega, ?_⟩, (fun _ _ => rfl)⟩
    exact hy.2.2.2.2
  · refine eW_aload_n 18 rfl rfl rfl ?_
    refine eW_getfield 21 rfl rfl (Nat.ble_eq_true_of_le (by omega)) rfl hy.1 rfl ⟨rfl, fun _ h9 => nomatch h9⟩ ?_
    refine eW_aload_n 22 rfl rfl rfl ?_
    refine eW_getfield 25 rfl rfl (Nat.ble_eq_true_of_le (by omega)) rfl hy.1 rfl ⟨rfl, fun _ h9 => nomatch h9⟩ ?_
    refine eW_lload_n 26 rfl rfl rfl ?_
    refine eW_lastore 27 rfl rfl (Nat.ble_eq_true_of_le (by omega)) hy.2.1 (by omega) (by omega) (by unfold i32; omega)  ?_
    intro h3 eh3 oh3
    have frh3 : yFr h h3 := fun i hi => (oh3 i (by omega)).trans ((fun _ _ => rfl) i hi)
    refine eW_aload_n 28 rfl rfl rfl ?_
    refine eW_getfield 31 rfl rfl (Nat.ble_eq_true_of_le (by omega)) rfl ((oh3 53 (by decide)).trans hy.1) rfl ⟨rfl, fun _ h9 => nomatch h9⟩ ?_
    refine eW_aload_n 32 rfl rfl rfl ?_
    refine eW_getfield 35 rfl rfl (Nat.ble_eq_true_of_le (by omega)) rfl ((oh3 53 (by decide)).trans hy.1) rfl ⟨rfl, fun _ h9 => nomatch h9⟩ ?_
    refine eW_iload_n 36 rfl rfl rfl ?_
    refine eW_bastore 37 rfl rfl (Nat.ble_eq_true_of_le (by omega)) ((oh3 55 (by decide)).trans hy.2.2.1) (by omega) (by omega) (by unfold i32; omega) (eB01_nar _) ?_
    intro h4 eh4 oh4
    have frh4 : yFr h h4 := fun i hi => (oh4 i (by omega)).trans (frh3 i hi)
    refine eW_aload_n 38 rfl rfl rfl ?_
    refine eW_dup 39 rfl rfl rfl ?_
    refine eW_getfield 42 rfl rfl (Nat.ble_eq_true_of_le (by omega)) rfl ((oh4 53 (by decide)).trans ((oh3 53 (by decide)).trans hy.1)) rfl ⟨rfl, fun _ h9 => nomatch h9⟩ ?_
    refine eW_iconst 43 rfl rfl ?_
    refine eW_iadd 44 rfl rfl ?_
    refine eW_putfield 47 [.ref 54, .ref 55, vI (tr + 1)] rfl rfl (Nat.ble_eq_true_of_le (by omega)) rfl ((oh4 53 (by decide)).trans ((oh3 53 (by decide)).trans hy.1)) rfl rfl ?_
    intro h5 eh5 oh5
    have frh5 : yFr h h5 := fun i hi => (oh5 i (by omega)).trans (frh4 i hi)
    refine eW_ret rfl rfl ?_
    refine ⟨_, rfl, eUp cr tr.toNat (wC F), eUp wn tr.toNat (eB01 (wW (gDig G) F)), tr + 1, ⟨eh5, ((oh5 54 (by decide)).trans ((oh4 54 (by decide)).trans eh3)), ((oh5 55 (by decide)).trans eh4), by omega, ?_⟩, frh5⟩
    intro j hj
    by_cases e : j = tr.toNat
    · exact ⟨F, hF, by rw [e]; exact eUp_eq rfl, by rw [e]; exact eUp_eq rfl⟩
    · rw [eUp_ne e, eUp_ne e]; exact hy.2.2.2.2 j (by omega)
def yH (d N : Nat) (G : eGd) (n : Int) : Prop := ∀ (h : eHp) (cr wn : Nat → Int) (tr : Int) (F : Nat → Int) (dp : Int), gG h 1 G → yM (gDig G) h cr wn tr → wV F → 0 ≤ dp ∧ dp + wT F ≤ 10 → wT F < n → eSp (d + 4) eM_X4_canWin [.ref 53, .ref 1, vL (wC F), vI dp] N h (yQ (gDig G) (fun b => b = wW (gDig G) F) N h)
theorem y_from_i {d N : Nat} {h0 : eHp} {G : eGd} (hG : gOk G) (hg : gG h0 1 G) (hN : 75 ≤ N) {F : Nat → Int} (hF : wV F) {s dp : Int} (hs : 1 ≤ s ∧ s ≤ 10) (hFs : F (s - 1).toNat ≠ 0) (hd : 0 ≤ dp ∧ dp + wT F ≤ 10) (hcw : yH d N G (wT F)) {t : Int} (ht : 1 ≤ t ∧ t ≤ 6) : ∀ (m9 : Nat) (l : Int) (cr wn : Nat → Int) (tr : Int) (h : eHp), s - t + 1 - l ≤ m9 → 0 ≤ l ∧ l ≤ 11 → yM (gDig G) h cr wn tr → yFr h0 h → (∀ l9 : Int, 0 ≤ l9 → l9 < l → gLets (gDig G) s t l9 = true → wW (gDig G) (wB F s t l9) = true) → (∀ (cr wn : Nat → Int) (tr : Int) (h : eHp), yM (gDig G) h cr wn tr → yFr h0 h → (∀ l9 : Int, 0 ≤ l9 → l9 ≤ s - t → gLets (gDig G) s t l9 = true → wW (gDig G) (wB F s t l9) = true) → eWp eOx (eEv (d + 4)) eM_X4_canWinFrom (85, [(0, .ref 53), (1, .ref 1), (2, vL (wC F)), (4, vI s), (5, vI dp), (6, vI t)], [], N, h, 0, 0) (yQ (gDig G) (fun b => (b = true → ∃ t l : Int, (1 ≤ t ∧ t ≤ 6) ∧ (0 ≤ l ∧ l ≤ s - t) ∧ gLets (gDig G) s t l = true ∧ wW (gDig G) (wB F s t l) = false) ∧ (b = false → ∀ t l : Int, 1 ≤ t → t ≤ 6 → 0 ≤ l → l ≤ s - t → gLets (gDig G) s t l = true → wW (gDig G) (wB F s t l) = true)) N h0)) → eWp eOx (eEv (d + 4)) eM_X4_canWinFrom (13, [(0, .ref 53), (1, .ref 1), (2, vL (wC F)), (4, vI s), (5, vI dp), (6, vI t), (7, vI l)], [], N, h, 0, 0) (yQ (gDig G) (fun b => (b = true → ∃ t l : Int, (1 ≤ t ∧ t ≤ 6) ∧ (0 ≤ l ∧ l ≤ s - t) ∧ gLets (gDig G) s t l = true ∧ wW (gDig G) (wB F s t l) = false) ∧ (b = false → ∀ t l : Int, 1 ≤ t → t ≤ 6 → 0 ≤ l → l ≤ s - t → gLets (gDig G) s t l = true → wW (gDig G) (wB F s t l) = true)) N h0) := by
  intro m9
  induction m9 with
  | zero =>
    intro l cr wn tr h hm9 q0 q1 q2 q3 kk
    refine eW_iload 15 rfl rfl rfl ?_
    refine eW_iload 17 rfl rfl rfl ?_
    refine eW_iload 19 rfl rfl rfl ?_
    refine eW_isub 20 rfl rfl ?_
    refine eW_icmp_gt 23 rfl rfl (by unfold i32; omega) (by unfold i32; omega) (fun c1 => ?_) (fun c1 => ?_)
    · refine eW_re [(0, .ref 53), (1, .ref 1), (2, vL (wC F)), (4, vI s), (5, vI dp), (6, vI t)] rfl rfl (List.forall_mem_cons.mpr ⟨rfl, List.forall_mem_cons.mpr ⟨rfl, List.forall_mem_cons.mpr ⟨rfl, List.forall_mem_cons.mpr ⟨rfl, List.forall_mem_cons.mpr ⟨rfl, List.forall_mem_cons.mpr ⟨rfl, fun _ h => absurd h List.not_mem_nil⟩⟩⟩⟩⟩⟩) (List.forall_mem_cons.mpr ⟨Or.inl rfl, List.forall_mem_cons.mpr ⟨Or.inl rfl, List.forall_mem_cons.mpr ⟨Or.inl rfl, List.forall_mem_cons.mpr ⟨Or.inl rfl, List.forall_mem_cons.mpr ⟨Or.inl rfl, List.forall_mem_cons.mpr ⟨Or.inl rfl, List.forall_mem_cons.mpr ⟨Or.inr ⟨_, rfl⟩, fun _ h => absurd h List.not_mem_nil⟩⟩⟩⟩⟩⟩⟩) ?_
      exact kk cr wn tr h q1 q2 (fun l9 a1 a2 a3 => q3 l9 a1 (by omega) a3)
    · refine eW_aload_n 24 rfl rfl rfl ?_
      refine eW_iload 26 rfl rfl rfl ?_
      refine eW_iload 28 rfl rfl rfl ?_
      refine eW_iload 30 rfl rfl rfl ?_
      have hlt := eB01_c (gLets (gDig G) s t l)
      refine eW_callV 33 [.ref 1, vI s, vI t, vI l] [] [vI (eB01 (gLets (gDig G) s t l))] rfl rfl rfl rfl (Nat.ble_eq_true_of_le (by omega)) (gG_k hg (fun i _ _ => q2 i (by omega))).1 rfl rfl rfl (g_lets (d := d + 2) (gG_k hg (fun i _ _ => q2 i (by omega))) hG (by omega) (by omega) (by unfold i32; omega) (by unfold i32; omega) (by unfold i32; omega) (by unfold i32; omega)) rfl rfl ?_
      refine eW_if_eq 36 rfl rfl (by unfold i32; omega) (fun c2 => ?_) (fun c2 => ?_)
      · refine eW_iinc 82 rfl rfl [(7, vI (l + 1)), (0, .ref 53), (1, .ref 1), (2, vL (wC F)), (4, vI s), (5, vI dp), (6, vI t)] rfl rfl rfl ?_
        refine eW_goto rfl ?_
        refine eW_re [(0, .ref 53), (1, .ref 1), (2, vL (wC F)), (4, vI s), (5, vI dp), (6, vI t), (7, vI (l + 1))] rfl rfl (List.forall_mem_cons.mpr ⟨rfl, List.forall_mem_cons.mpr ⟨rfl, List.forall_mem_cons.mpr ⟨rfl, List.forall_mem_cons.mpr ⟨rfl, List.forall_mem_cons.mpr ⟨rfl, List.forall_mem_cons.mpr ⟨rfl, List.forall_mem_cons.mpr ⟨rfl, fun _ h => absurd h List.not_mem_nil⟩⟩⟩⟩⟩⟩⟩) (List.forall_mem_cons.mpr ⟨Or.inl rfl, List.forall_mem_cons.mpr ⟨Or.inl rfl, List.forall_mem_cons.mpr ⟨Or.inl rfl, List.forall_mem_cons.mpr ⟨Or.inl rfl, List.forall_mem_cons.mpr ⟨Or.inl rfl, List.forall_mem_cons.mpr ⟨Or.inl rfl, List.forall_mem_cons.mpr ⟨Or.inl rfl, fun _ h => absurd h List.not_mem_nil⟩⟩⟩⟩⟩⟩⟩) ?_
        exact absurd hm9 (by omega)
      · refine eW_lload_n 37 rfl rfl rfl ?_
        refine eW_iload 39 rfl rfl rfl ?_
        refine eW_callS 42 [vI s] [vL (wC F)] [vL (wO s), vL (wC F)] rfl rfl rfl (Or.inl rfl) rfl rfl rfl (y_oneOf (d := d + 3) (by unfold i32; omega)) rfl rfl ?_
        refine eW_lsub 43 rfl rfl ?_
        refine eW_iload 45 rfl rfl rfl ?_
        refine eW_callS 48 [vI l] [vL ((wC F) - (wO s))] [vL (wO l), vL ((wC F) - (wO s))] rfl rfl rfl (Or.inl rfl) rfl rfl rfl (y_oneOf (d := d + 3) (by unfold i32; omega)) rfl rfl ?_
        refine eW_ladd 49 rfl rfl ?_
        refine eW_iload 51 rfl rfl rfl ?_
        refine eW_iload 53 rfl rfl rfl ?_
        refine eW_isub 54 rfl rfl ?_
        refine eW_iload 56 rfl rfl rfl ?_
        refine eW_isub 57 rfl rfl ?_
        refine eW_callS 60 [vI ((s - t) - l)] [vL (((wC F) - (wO s)) + (wO l))] [vL (wO ((s - t) - l)), vL (((wC F) - (wO s)) + (wO l))] rfl rfl rfl (Or.inl rfl) rfl rfl rfl (y_oneOf (d := d + 3) (by unfold i32; omega)) rfl rfl ?_
        refine eW_ladd 61 rfl rfl ?_
        rw [show ((((wC F) - (wO s)) + (wO l)) + (wO ((s - t) - l)) : Int) = wC (wB F s t l) from (wB_C hs (by omega) (by omega)).symm]
        refine eW_lstore 63 rfl rfl [(8, vL (wC (wB F s t l))), (0, .ref 53), (1, .ref 1), (2, vL (wC F)), (4, vI s), (5, vI dp), (6, vI t), (7, vI l)] rfl rfl ?_
        refine eW_aload_n 64 rfl rfl rfl ?_
        refine eW_aload_n 65 rfl rfl rfl ?_
        refine eW_lload 67 rfl rfl rfl ?_
        refine eW_iload 69 rfl rfl rfl ?_
        refine eW_iconst 70 rfl rfl ?_
        refine eW_iadd 71 rfl rfl ?_
        refine eW_callVR 74 [.ref 53, .ref 1, vL (wC (wB F s t l)), vI (dp + 1)] [] rfl rfl rfl rfl (Nat.ble_eq_true_of_le (by omega)) q1.1 rfl rfl rfl (eSp.imp (hcw _ _ _ _ (wB F s t l) (dp + 1) (gG_k hg (fun i _ _ => q2 i (by omega))) q1 (wB_V hF hs (by omega) (by omega) hFs) (by rw [wB_T hs (by omega) (by omega)]; omega) (by rw [wB_T hs (by omega) (by omega)]; omega)) (fun _ e => yQ_F e)) ?_
        intro x4 h3 fh3
        obtain ⟨bh3, crh3, wnh3, trh3, rfl, hyh3, gh3, hBh3⟩ := fh3
        have frh3 : yFr h0 h3 := fun i hi => (gh3 i hi).trans (q2 i hi)
        have hbh3 := eB01_c bh3
        refine eW_if_ne 77 rfl rfl (by unfold i32; omega) (fun c5 => ?_) (fun c5 => ?_)
        · refine eW_iinc 82 rfl rfl [(7, vI (l + 1)), (8, vL (wC (wB F s t l))), (0, .ref 53), (1, .ref 1), (2, vL (wC F)), (4, vI s), (5, vI dp), (6, vI t)] rfl rfl rfl ?_
          refine eW_goto rfl ?_
          refine eW_reL [(0, .ref 53), (1, .ref 1), (2, vL (wC F)), (4, vI s), (5, vI dp), (6, vI t), (7, vI (l + 1))] rfl rfl (List.forall_mem_cons.mpr ⟨rfl, List.forall_mem_cons.mpr ⟨rfl, List.forall_mem_cons.mpr ⟨rfl, List.forall_mem_cons.mpr ⟨rfl, List.forall_mem_cons.mpr ⟨rfl, List.forall_mem_cons.mpr ⟨rfl, List.forall_mem_cons.mpr ⟨rfl, fun _ h => absurd h List.not_mem_nil⟩⟩⟩⟩⟩⟩⟩) (List.forall_mem_cons.mpr ⟨Or.inl rfl, List.forall_mem_cons.mpr ⟨Or.inr (Or.inr ⟨_, rfl⟩), List.forall_mem_cons.mpr ⟨Or.inl rfl, List.forall_mem_cons.mpr ⟨Or.inl rfl, List.forall_mem_cons.mpr ⟨Or.inl rfl, List.forall_mem_cons.mpr ⟨Or.inl rfl, List.forall_mem_cons.mpr ⟨Or.inl rfl, List.forall_mem_cons.mpr ⟨Or.inl rfl, fun _ h => absurd h List.not_mem_nil⟩⟩⟩⟩⟩⟩⟩⟩) ?_
          exact absurd hm9 (by omega)
        · refine eW_iconst 78 rfl rfl ?_
          refine eW_ret_i rfl rfl (Or.inr (Or.inl ⟨rfl, rfl⟩)) ?_
          have hbf : bh3 = false := by rcases hbh3 with x | x; exact absurd x.2 (by omega); exact x.1
          have hlt9 : gLets (gDig G) s t l = true := by rcases hlt with x | x; exact x.1; exact absurd x.2 (by omega)
          exact ⟨true, h3, _, _, _, rfl, hyh3, frh3, fun _ => ⟨t, l, by omega, by omega, hlt9, by rw [← hBh3]; exact hbf⟩, fun e => absurd e (by decide)⟩
  | succ m9 ih =>
    intro l cr wn tr h hm9 q0 q1 q2 q3 kk
    refine eW_iload 15 rfl rfl rfl ?_
    refine eW_iload 17 rfl rfl rfl ?_
    refine eW_iload 19 rfl rfl rfl ?_
    refine eW_isub 20 rfl rfl ?_
    refine eW_icmp_gt 23 rfl rfl (by unfold i32; omega) (by unfold i32; omega) (fun c1 => ?_) (fun c1 => ?_)
    · refine eW_re [(0, .ref 53), (1, .ref 1), (2, vL (wC F)), (4, vI s), (5, vI dp), (6, vI t)] rfl rfl (List.forall_mem_cons.mpr ⟨rfl, List.forall_mem_cons.mpr ⟨rfl, List.forall_mem_cons.mpr ⟨rfl, List.forall_mem_cons.mpr ⟨rfl, List.forall_mem_cons.mpr ⟨rfl, List.forall_mem_cons.mpr ⟨rfl, fun _ h => absurd h List.not_mem_nil⟩⟩⟩⟩⟩⟩) (List.forall_mem_cons.mpr ⟨Or.inl rfl, List.forall_mem_cons.mpr ⟨Or.inl rfl, List.forall_mem_cons.mpr ⟨Or.inl rfl, List.forall_mem_cons.mpr ⟨Or.inl rfl, List.forall_mem_cons.mpr ⟨Or.inl rfl, List.forall_mem_cons.mpr ⟨Or.inl rfl, List.forall_mem_cons.mpr ⟨Or.inr ⟨_, rfl⟩, fun _ h => absurd h List.not_mem_nil⟩⟩⟩⟩⟩⟩⟩) ?_
      exact kk cr wn tr h q1 q2 (fun l9 a1 a2 a3 => q3 l9 a1 (by omega) a3)
    · refine eW_aload_n 24 rfl rfl rfl ?_
      refine eW_iload 26 rfl rfl rfl ?_
      refine eW_iload 28 rfl rfl rfl ?_
      refine eW_iload 30 rfl rfl rfl ?_
      have hlt := eB01_c (gLets (gDig G) s t l)
      refine eW_callV 33 [.ref 1, vI s, vI t, vI l] [] [vI (eB01 (gLets (gDig G) s t l))] rfl rfl rfl rfl (Nat.ble_eq_true_of_le (by omega)) (gG_k hg (fun i _ _ => q2 i (by omega))).1 rfl rfl rfl (g_lets (d := d + 2) (gG_k hg (fun i _ _ => q2 i (by omega))) hG (by omega) (by omega) (by unfold i32; omega) (by unfold i32; omega) (by unfold i32; omega) (by unfold i32; omega)) rfl rfl ?_
      refine eW_if_eq 36 rfl rfl (by unfold i32; omega) (fun c2 => ?_) (fun c2 => ?_)
      · refine eW_iinc 82 rfl rfl [(7, vI (l + 1)), (0, .ref 53), (1, .ref 1), (2, vL (wC F)), (4, vI s), (5, vI dp), (6, vI t)] rfl rfl rfl ?_
        refine eW_goto rfl ?_
        refine eW_re [(0, .ref 53), (1, .ref 1), (2, vL (wC F)), (4, vI s), (5, vI dp), (6, vI t), (7, vI (l + 1))] rfl rfl (List.forall_mem_cons.mpr ⟨rfl, List.forall_mem_cons.mpr ⟨rfl, List.forall_mem_cons.mpr ⟨rfl, List.forall_mem_cons.mpr ⟨rfl, List.forall_mem_cons.mpr ⟨rfl, List.forall_mem_cons.mpr ⟨rfl, List.forall_mem_cons.mpr ⟨rfl, fun _ h => absurd h List.not_mem_nil⟩⟩⟩⟩⟩⟩⟩) (List.forall_mem_cons.mpr ⟨Or.inl rfl, List.forall_mem_cons.mpr ⟨Or.inl rfl, List.forall_mem_cons.mpr ⟨Or.inl rfl, List.forall_mem_cons.mpr ⟨Or.inl rfl, List.forall_mem_cons.mpr ⟨Or.inl rfl, List.forall_mem_cons.mpr ⟨Or.inl rfl, List.forall_mem_cons.mpr ⟨Or.inl rfl, fun _ h => absurd h List.not_mem_nil⟩⟩⟩⟩⟩⟩⟩) ?_
        exact ih (l + 1) cr wn tr h (by omega) (by omega) q1 q2 (fun l9 a1 a2 a3 => by by_cases e : l9 = l; exact absurd (e ▸ a3) (by rcases hlt with x | x; exact absurd x.2 (by omega); rw [x.1]; decide); exact q3 l9 a1 (by omega) a3) kk
      · refine eW_lload_n 37 rfl rfl rfl ?_
        refine eW_iload 39 rfl rfl rfl ?_
        refine eW_callS 42 [vI s] [vL (wC F)] [vL (wO s), vL (wC F)] rfl rfl rfl (Or.inl rfl) rfl rfl rfl (y_oneOf (d := d + 3) (by unfold i32; omega)) rfl rfl ?_
        refine eW_lsub 43 rfl rfl ?_
        refine eW_iload 45 rfl rfl rfl ?_
        refine eW_callS 48 [vI l] [vL ((wC F) - (wO s))] [vL (wO l), vL ((wC F) - (wO s))] rfl rfl rfl (Or.inl rfl) rfl rfl rfl (y_oneOf (d := d + 3) (by unfold i32; omega)) rfl rfl ?_
        refine eW_ladd 49 rfl rfl ?_
        refine eW_iload 51 rfl rfl rfl ?_
        refine eW_iload 53 rfl rfl rfl ?_
        refine eW_isub 54 rfl rfl ?_
        refine eW_iload 56 rfl rfl rfl ?_
        refine eW_isub 57 rfl rfl ?_
        refine eW_callS 60 [vI ((s - t) - l)] [vL (((wC F) - (wO s)) + (wO l))] [vL (wO ((s - t) - l)), vL (((wC F) - (wO s)) + (wO l))] rfl rfl rfl (Or.inl rfl) rfl rfl rfl (y_oneOf (d := d + 3) (by unfold i32; omega)) rfl rfl ?_
        refine eW_ladd 61 rfl rfl ?_
        rw [show ((((wC F) - (wO s)) + (wO l)) + (wO ((s - t) - l)) : Int) = wC (wB F s t l) from (wB_C hs (by omega) (by omega)).symm]
        refine eW_lstore 63 rfl rfl [(8, vL (wC (wB F s t l))), (0, .ref 53), (1, .ref 1), (2, vL (wC F)), (4, vI s), (5, vI dp), (6, vI t), (7, vI l)] rfl rfl ?_
        refine eW_aload_n 64 rfl rfl rfl ?_
        refine eW_aload_n 65 rfl rfl rfl ?_
        refine eW_lload 67 rfl rfl rfl ?_
        refine eW_iload 69 rfl rfl rfl ?_
        refine eW_iconst 70 rfl rfl ?_
        refine eW_iadd 71 rfl rfl ?_
        refine eW_callVR 74 [.ref 53, .ref 1, vL (wC (wB F s t l)), vI (dp + 1)] [] rfl rfl rfl rfl (Nat.ble_eq_true_of_le (by omega)) q1.1 rfl rfl rfl (eSp.imp (hcw _ _ _ _ (wB F s t l) (dp + 1) (gG_k hg (fun i _ _ => q2 i (by omega))) q1 (wB_V hF hs (by omega) (by omega) hFs) (by rw [wB_T hs (by omega) (by omega)]; omega) (by rw [wB_T hs (by omega) (by omega)]; omega)) (fun _ e => yQ_F e)) ?_
        intro x4 h3 fh3
        obtain ⟨bh3, crh3, wnh3, trh3, rfl, hyh3, gh3, hBh3⟩ := fh3
        have frh3 : yFr h0 h3 := fun i hi => (gh3 i hi).trans (q2 i hi)
        have hbh3 := eB01_c bh3
        refine eW_if_ne 77 rfl rfl (by unfold i32; omega) (fun c5 => ?_) (fun c5 => ?_)
        · refine eW_iinc 82 rfl rfl [(7, vI (l + 1)), (8, vL (wC (wB F s t l))), (0, .ref 53), (1, .ref 1), (2, vL (wC F)), (4, vI s), (5, vI dp), (6, vI t)] rfl rfl rfl ?_
          refine eW_goto rfl ?_
          refine eW_reL [(0, .ref 53), (1, .ref 1), (2, vL (wC F)), (4, vI s), (5, vI dp), (6, vI t), (7, vI (l + 1))] rfl rfl (List.forall_mem_cons.mpr ⟨rfl, List.forall_mem_cons.mpr ⟨rfl, List.forall_mem_cons.mpr ⟨rfl, List.forall_mem_cons.mpr ⟨rfl, List.forall_mem_cons.mpr ⟨rfl, List.forall_mem_cons.mpr ⟨rfl, List.forall_mem_cons.mpr ⟨rfl, fun _ h => absurd h List.not_mem_nil⟩⟩⟩⟩⟩⟩⟩) (List.forall_mem_cons.mpr ⟨Or.inl rfl, List.forall_mem_cons.mpr ⟨Or.inr (Or.inr ⟨_, rfl⟩), List.forall_mem_cons.mpr ⟨Or.inl rfl, List.forall_mem_cons.mpr ⟨Or.inl rfl, List.forall_mem_cons.mpr ⟨Or.inl rfl, List.forall_mem_cons.mpr ⟨Or.inl rfl, List.forall_mem_cons.mpr ⟨Or.inl rfl, List.forall_mem_cons.mpr ⟨Or.inl rfl, fun _ h => absurd h List.not_mem_nil⟩⟩⟩⟩⟩⟩⟩⟩) ?_
          have hbt : bh3 = true := by rcases hbh3 with x | x; exact x.1; exact absurd x.2 (by omega)
          exact ih (l + 1) _ _ _ h3 (by omega) (by omega) hyh3 frh3 (fun l9 a1 a2 a3 => by by_cases e : l9 = l; rw [e, ← hBh3]; exact hbt; exact q3 l9 a1 (by omega) a3) kk
        · refine eW_iconst 78 rfl rfl ?_
          refine eW_ret_i rfl rfl (Or.inr (Or.inl ⟨rfl, rfl⟩)) ?_
          have hbf : bh3 = false := by rcases hbh3 with x | x; exact absurd x.2 (by omega); exact x.1
          have hlt9 : gLets (gDig G) s t l = true := by rcases hlt with x | x; exact x.1; exact absurd x.2 (by omega)
          exact ⟨true, h3, _, _, _, rfl, hyh3, frh3, fun _ => ⟨t, l, by omega, by omega, hlt9, by rw [← hBh3]; exact hbf⟩, fun e => absurd e (by decide)⟩
theorem y_from_o {d N : Nat} {h0 : eHp} {G : eGd} (hG : gOk G) (hg : gG h0 1 G) (hN : 75 ≤ N) {F : Nat → Int} (hF : wV F) {s dp : Int} (hs : 1 ≤ s ∧ s ≤ 10) (hFs : F (s - 1).toNat ≠ 0) (hd : 0 ≤ dp ∧ dp + wT F ≤ 10) (hcw : yH d N G (wT F)) : ∀ (m9 : Nat) (t : Int) (cr wn : Nat → Int) (tr : Int) (h : eHp), 7 - t ≤ m9 → 1 ≤ t ∧ t ≤ 7 → yM (gDig G) h cr wn tr → yFr h0 h → (∀ t9 l9 : Int, 1 ≤ t9 → t9 < t → 0 ≤ l9 → l9 ≤ s - t9 → gLets (gDig G) s t9 l9 = true → wW (gDig G) (wB F s t9 l9) = true) → eWp eOx (eEv (d + 4)) eM_X4_canWinFrom (3, [(0, .ref 53), (1, .ref 1), (2, vL (wC F)), (4, vI s), (5, vI dp), (6, vI t)], [], N, h, 0, 0) (yQ (gDig G) (fun b => (b = true → ∃ t l : Int, (1 ≤ t ∧ t ≤ 6) ∧ (0 ≤ l ∧ l ≤ s - t) ∧ gLets (gDig G) s t l = true ∧ wW (gDig G) (wB F s t l) = false) ∧ (b = false → ∀ t l : Int, 1 ≤ t → t ≤ 6 → 0 ≤ l → l ≤ s - t → gLets (gDig G) s t l = true → wW (gDig G) (wB F s t l) = true)) N h0) := by
  intro m9
  induction m9 with
  | zero =>
    intro t cr wn tr h hm9 q0 q1 q2 q3
    refine eW_iload 5 rfl rfl rfl ?_
    refine eW_bipush 7 rfl rfl 6 rfl ?_
    refine eW_icmp_gt 10 rfl rfl (by unfold i32; omega) (by unfold i32; omega) (fun c1 => ?_) (fun c1 => ?_)
    · refine eW_iconst 92 rfl rfl ?_
      refine eW_ret_i rfl rfl (Or.inr (Or.inl ⟨rfl, rfl⟩)) ?_
      exact ⟨false, h, cr, wn, tr, rfl, q1, q2, fun e => absurd e (by decide), fun _ t9 l9 a1 a2 a3 a4 a5 => q3 t9 l9 a1 (by omega) a3 a4 a5⟩
    · refine eW_iconst 11 rfl rfl ?_
      refine eW_istore 13 rfl rfl [(7, vI 0), (0, .ref 53), (1, .ref 1), (2, vL (wC F)), (4, vI s), (5, vI dp), (6, vI t)] rfl rfl ?_
      refine eW_re [(0, .ref 53), (1, .ref 1), (2, vL (wC F)), (4, vI s), (5, vI dp), (6, vI t), (7, vI 0)] rfl rfl (List.forall_mem_cons.mpr ⟨rfl, List.forall_mem_cons.mpr ⟨rfl, List.forall_mem_cons.mpr ⟨rfl, List.forall_mem_cons.mpr ⟨rfl, List.forall_mem_cons.mpr ⟨rfl, List.forall_mem_cons.mpr ⟨rfl, List.forall_mem_cons.mpr ⟨rfl, fun _ h => absurd h List.not_mem_nil⟩⟩⟩⟩⟩⟩⟩) (List.forall_mem_cons.mpr ⟨Or.inl rfl, List.forall_mem_cons.mpr ⟨Or.inl rfl, List.forall_mem_cons.mpr ⟨Or.inl rfl, List.forall_mem_cons.mpr ⟨Or.inl rfl, List.forall_mem_cons.mpr ⟨Or.inl rfl, List.forall_mem_cons.mpr ⟨Or.inl rfl, List.forall_mem_cons.mpr ⟨Or.inl rfl, fun _ h => absurd h List.not_mem_nil⟩⟩⟩⟩⟩⟩⟩) ?_
      refine y_from_i hG hg hN hF hs hFs hd hcw (t := t) (by omega) _ 0 cr wn tr h (Int.self_le_toNat _) (by omega) q1 q2 (fun l9 a1 a2 _ => absurd a2 (by omega)) (fun cr2 wn2 tr2 h2 r1 r2 r3 => ?_)
      refine eW_iinc 88 rfl rfl [(6, vI (t + 1)), (0, .ref 53), (1, .ref 1), (2, vL (wC F)), (4, vI s), (5, vI dp)] rfl rfl rfl ?_
      refine eW_goto rfl ?_
      refine eW_re [(0, .ref 53), (1, .ref 1), (2, vL (wC F)), (4, vI s), (5, vI dp), (6, vI (t + 1))] rfl rfl (List.forall_mem_cons.mpr ⟨rfl, List.forall_mem_cons.mpr ⟨rfl, List.forall_mem_cons.mpr ⟨rfl, List.forall_mem_cons.mpr ⟨rfl, List.forall_mem_cons.mpr ⟨rfl, List.forall_mem_cons.mpr ⟨rfl, fun _ h => absurd h List.not_mem_nil⟩⟩⟩⟩⟩⟩) (List.forall_mem_cons.mpr ⟨Or.inl rfl, List.forall_mem_cons.mpr ⟨Or.inl rfl, List.forall_mem_cons.mpr ⟨Or.inl rfl, List.forall_mem_cons.mpr ⟨Or.inl rfl, List.forall_mem_cons.mpr ⟨Or.inl rfl, List.forall_mem_cons.mpr ⟨Or.inl rfl, fun _ h => absurd h List.not_mem_nil⟩⟩⟩⟩⟩⟩) ?_
      exact absurd hm9 (by omega)
  | succ m9 ih =>
    intro t cr wn tr h hm9 q0 q1 q2 q3
    refine eW_iload 5 rfl rfl rfl ?_
    refine eW_bipush 7 rfl rfl 6 rfl ?_
    refine eW_icmp_gt 10 rfl rfl (by unfold i32; omega) (by unfold i32; omega) (fun c1 => ?_) (fun c1 => ?_)
    · refine eW_iconst 92 rfl rfl ?_
      refine eW_ret_i rfl rfl (Or.inr (Or.inl ⟨rfl, rfl⟩)) ?_
      exact ⟨false, h, cr, wn, tr, rfl, q1, q2, fun e => absurd e (by decide), fun _ t9 l9 a1 a2 a3 a4 a5 => q3 t9 l9 a1 (by omega) a3 a4 a5⟩
    · refine eW_iconst 11 rfl rfl ?_
      refine eW_istore 13 rfl rfl [(7, vI 0), (0, .ref 53), (1, .ref 1), (2, vL (wC F)), (4, vI s), (5, vI dp), (6, vI t)] rfl rfl ?_
      refine eW_re [(0, .ref 53), (1, .ref 1), (2, vL (wC F)), (4, vI s), (5, vI dp), (6, vI t), (7, vI 0)] rfl rfl (List.forall_mem_cons.mpr ⟨rfl, List.forall_mem_cons.mpr ⟨rfl, List.forall_mem_cons.mpr ⟨rfl, List.forall_mem_cons.mpr ⟨rfl, List.forall_mem_cons.mpr ⟨rfl, List.forall_mem_cons.mpr ⟨rfl, List.forall_mem_cons.mpr ⟨rfl, fun _ h => absurd h List.not_mem_nil⟩⟩⟩⟩⟩⟩⟩) (List.forall_mem_cons.mpr ⟨Or.inl rfl, List.forall_mem_cons.mpr ⟨Or.inl rfl, List.forall_mem_cons.mpr ⟨Or.inl rfl, List.forall_mem_cons.mpr ⟨Or.inl rfl, List.forall_mem_cons.mpr ⟨Or.inl rfl, List.forall_mem_cons.mpr ⟨Or.inl rfl, List.forall_mem_cons.mpr ⟨Or.inl rfl, fun _ h => absurd h List.not_mem_nil⟩⟩⟩⟩⟩⟩⟩) ?_
      refine y_from_i hG hg hN hF hs hFs hd hcw (t := t) (by omega) _ 0 cr wn tr h (Int.self_le_toNat _) (by omega) q1 q2 (fun l9 a1 a2 _ => absurd a2 (by omega)) (fun cr2 wn2 tr2 h2 r1 r2 r3 => ?_)
      refine eW_iinc 88 rfl rfl [(6, vI (t + 1)), (0, .ref 53), (1, .ref 1), (2, vL (wC F)), (4, vI s), (5, vI dp)] rfl rfl rfl ?_
      refine eW_goto rfl ?_
      refine eW_re [(0, .ref 53), (1, .ref 1), (2, vL (wC F)), (4, vI s), (5, vI dp), (6, vI (t + 1))] rfl rfl (List.forall_mem_cons.mpr ⟨rfl, List.forall_mem_cons.mpr ⟨rfl, List.forall_mem_cons.mpr ⟨rfl, List.forall_mem_cons.mpr ⟨rfl, List.forall_mem_cons.mpr ⟨rfl, List.forall_mem_cons.mpr ⟨rfl, fun _ h => absurd h List.not_mem_nil⟩⟩⟩⟩⟩⟩) (List.forall_mem_cons.mpr ⟨Or.inl rfl, List.forall_mem_cons.mpr ⟨Or.inl rfl, List.forall_mem_cons.mpr ⟨Or.inl rfl, List.forall_mem_cons.mpr ⟨Or.inl rfl, List.forall_mem_cons.mpr ⟨Or.inl rfl, List.forall_mem_cons.mpr ⟨Or.inl rfl, fun _ h => absurd h List.not_mem_nil⟩⟩⟩⟩⟩⟩) ?_
      exact ih (t + 1) cr2 wn2 tr2 h2 (by omega) (by omega) r1 r2 (fun t9 l9 a1 a2 a3 a4 a5 => by by_cases e : t9 = t; rw [e] at a4 a5 ⊢; exact r3 l9 a3 a4 a5; exact q3 t9 l9 a1 (by omega) a3 a4 a5)
theorem y_from {d N : Nat} {h : eHp} {G : eGd} (hG : gOk G) (hg : gG h 1 G) {cr wn : Nat → Int} {tr : Int} (hy : yM (gDig G) h cr wn tr) (hN : 75 ≤ N) {F : Nat → Int} (hF : wV F) {s dp : Int} (hs : 1 ≤ s ∧ s ≤ 10) (hFs : F (s - 1).toNat ≠ 0) (hd : 0 ≤ dp ∧ dp + wT F ≤ 10) (hcw : yH d N G (wT F)) : eSp (d + 5) eM_X4_canWinFrom [.ref 53, .ref 1, vL (wC F), vI s, vI dp] N h (yQ (gDig G) (fun b => (b = true → ∃ t l : Int, (1 ≤ t ∧ t ≤ 6) ∧ (0 ≤ l ∧ l ≤ s - t) ∧ gLets (gDig G) s t l = true ∧ wW (gDig G) (wB F s t l) = false) ∧ (b = false → ∀ t l : Int, 1 ≤ t → t ≤ 6 → 0 ≤ l → l ≤ s - t → gLets (gDig G) s t l = true → wW (gDig G) (wB F s t l) = true)) N h) := by
  refine eSp_of [(0, .ref 53), (1, .ref 1), (2, vL (wC F)), (4, vI s), (5, vI dp)] rfl rfl ?_
  refine eW_iconst 1 rfl rfl ?_
  refine eW_istore 3 rfl rfl [(6, vI 1), (0, .ref 53), (1, .ref 1), (2, vL (wC F)), (4, vI s), (5, vI dp)] rfl rfl ?_
  refine eW_re [(0, .ref 53), (1, .ref 1), (2, vL (wC F)), (4, vI s), (5, vI dp), (6, vI 1)] rfl rfl (List.forall_mem_cons.mpr ⟨rfl, List.forall_mem_cons.mpr ⟨rfl, List.forall_mem_cons.mpr ⟨rfl, List.forall_mem_cons.mpr ⟨rfl, List.forall_mem_cons.mpr ⟨rfl, List.forall_mem_cons.mpr ⟨rfl, fun _ h => absurd h List.not_mem_nil⟩⟩⟩⟩⟩⟩) (List.forall_mem_cons.mpr ⟨Or.inl rfl, List.forall_mem_cons.mpr ⟨Or.inl rfl, List.forall_mem_cons.mpr ⟨Or.inl rfl, List.forall_mem_cons.mpr ⟨Or.inl rfl, List.forall_mem_cons.mpr ⟨Or.inl rfl, List.forall_mem_cons.mpr ⟨Or.inl rfl, fun _ h => absurd h List.not_mem_nil⟩⟩⟩⟩⟩⟩) ?_
  exact y_from_o hG hg hN hF hs hFs hd hcw _ 1 cr wn tr h (Int.self_le_toNat _) (by omega) hy (fun _ _ => rfl) (fun t9 l9 a1 a2 _ _ _ => absurd a2 (by omega))
theorem y_any_l {d N : Nat} {h0 : eHp} {G : eGd} (hG : gOk G) (hg : gG h0 1 G) (hN : 75 ≤ N) {F : Nat → Int} (hF : wV F) {dp : Int} (hd : 0 ≤ dp ∧ dp + wT F ≤ 10) (hcw : yH d N G (wT F)) : ∀ (m9 : Nat) (s : Int) (cr wn : Nat → Int) (tr : Int) (h : eHp), 11 - s ≤ m9 → 1 ≤ s ∧ s ≤ 11 → yM (gDig G) h cr wn tr → yFr h0 h → (∀ s9 t9 l9 : Int, 1 ≤ s9 → s9 < s → F (s9 - 1).toNat ≠ 0 → 1 ≤ t9 → t9 ≤ 6 → 0 ≤ l9 → l9 ≤ s9 - t9 → gLets (gDig G) s9 t9 l9 = true → wW (gDig G) (wB F s9 t9 l9) = true) → eWp eOx (eEv (d + 5)) eM_X4_canWinByAny (3, [(0, .ref 53), (1, .ref 1), (2, vL (wC F)), (4, vI dp), (5, vI s)], [], N, h, 0, 0) (yQ (gDig G) (fun b => b = wW (gDig G) F) N h0) := by
  intro m9
  induction m9 with
  | zero =>
    intro s cr wn tr h hm9 q0 q1 q2 q3
    have hwt := wV_T hF
    refine eW_iload 5 rfl rfl rfl ?_
    refine eW_bipush 7 rfl rfl 10 rfl ?_
    refine eW_icmp_gt 10 rfl rfl (by unfold i32; omega) (by unfold i32; omega) (fun c1 => ?_) (fun c1 => ?_)
    · refine eW_iconst 41 rfl rfl ?_
      refine eW_ret_i rfl rfl (Or.inr (Or.inl ⟨rfl, rfl⟩)) ?_
      refine ⟨false, h, cr, wn, tr, rfl, q1, q2, ?_⟩
      refine Eq.symm (show wW (gDig G) F = false from decide_eq_false (p := wX (gDig G) F ≠ 0) (fun e => ?_))
      obtain ⟨s9, hs9, hF9, t9, l9, ht9, hl9, hL9, hW9⟩ := wW_win e
      have e2 := q3 s9 t9 l9 hs9.1 (by omega) hF9 ht9.1 ht9.2 hl9.1 hl9.2 hL9
      rw [hW9] at e2; exact absurd e2 (by decide)
    · refine eW_lload_n 11 rfl rfl rfl ?_
      refine eW_iload 13 rfl rfl rfl ?_
      have hin := eD_c (F (s - 1).toNat ≠ 0)
      refine eW_callS 16 [vL (wC F), vI s] [] [vI (eB01 (decide (F (s - 1).toNat ≠ 0)))] rfl rfl rfl (Or.inl rfl) rfl rfl rfl (y_isIn (d := d + 3) hF (by omega)) rfl rfl ?_
      refine eW_if_eq 19 rfl rfl (by unfold i32; omega) (fun c2 => ?_) (fun c2 => ?_)
      · refine eW_iinc 37 rfl rfl [(5, vI (s + 1)), (0, .ref 53), (1, .ref 1), (2, vL (wC F)), (4, vI dp)] rfl rfl rfl ?_
        refine eW_goto rfl ?_
        refine eW_re [(0, .ref 53), (1, .ref 1), (2, vL (wC F)), (4, vI dp), (5, vI (s + 1))] rfl rfl (List.forall_mem_cons.mpr ⟨rfl, List.forall_mem_cons.mpr ⟨rfl, List.forall_mem_cons.mpr ⟨rfl, List.forall_mem_cons.mpr ⟨rfl, List.forall_mem_cons.mpr ⟨rfl, fun _ h => absurd h List.not_mem_nil⟩⟩⟩⟩⟩) (List.forall_mem_cons.mpr ⟨Or.inl rfl, List.forall_mem_cons.mpr ⟨Or.inl rfl, List.forall_mem_cons.mpr ⟨Or.inl rfl, List.forall_mem_cons.mpr ⟨Or.inl rfl, List.forall_mem_cons.mpr ⟨Or.inl rfl, fun _ h => absurd h List.not_mem_nil⟩⟩⟩⟩⟩) ?_
        exact absurd hm9 (by omega)
      · refine eW_aload_n 20 rfl rfl rfl ?_
        refine eW_aload_n 21 rfl rfl rfl ?_
        refine eW_lload_n 22 rfl rfl rfl ?_
        refine eW_iload 24 rfl rfl rfl ?_
        refine eW_iload 26 rfl rfl rfl ?_
        refine eW_callVR 29 [.ref 53, .ref 1, vL (wC F), vI s, vI dp] [] rfl rfl rfl rfl (Nat.ble_eq_true_of_le (by omega)) q1.1 rfl rfl rfl (eSp.imp (y_from (d := d) hG (gG_k hg (fun i _ _ => q2 i (by omega))) q1 hN hF (s := s) (dp := dp) (by omega) (by omega) hd hcw) (fun _ e => yQ_F e)) ?_
        intro x4 h3 fh3
        obtain ⟨bh3, crh3, wnh3, trh3, rfl, hyh3, gh3, hBh3⟩ := fh3
        have frh3 : yFr h0 h3 := fun i hi => (gh3 i hi).trans (q2 i hi)
        have hbh3 := eB01_c bh3
        refine eW_if_eq 32 rfl rfl (by unfold i32; omega) (fun c5 => ?_) (fun c5 => ?_)
        · refine eW_iinc 37 rfl rfl [(5, vI (s + 1)), (0, .ref 53), (1, .ref 1), (2, vL (wC F)), (4, vI dp)] rfl rfl rfl ?_
          refine eW_goto rfl ?_
          refine eW_re [(0, .ref 53), (1, .ref 1), (2, vL (wC F)), (4, vI dp), (5, vI (s + 1))] rfl rfl (List.forall_mem_cons.mpr ⟨rfl, List.forall_mem_cons.mpr ⟨rfl, List.forall_mem_cons.mpr ⟨rfl, List.forall_mem_cons.mpr ⟨rfl, List.forall_mem_cons.mpr ⟨rfl, fun _ h => absurd h List.not_mem_nil⟩⟩⟩⟩⟩) (List.forall_mem_cons.mpr ⟨Or.inl rfl, List.forall_mem_cons.mpr ⟨Or.inl rfl, List.forall_mem_cons.mpr ⟨Or.inl rfl, List.forall_mem_cons.mpr ⟨Or.inl rfl, List.forall_mem_cons.mpr ⟨Or.inl rfl, fun _ h => absurd h List.not_mem_nil⟩⟩⟩⟩⟩) ?_
          exact absurd hm9 (by omega)
        · refine eW_iconst 33 rfl rfl ?_
          refine eW_ret_i rfl rfl (Or.inr (Or.inl ⟨rfl, rfl⟩)) ?_
          have hbt : bh3 = true := by rcases hbh3 with x | x; exact x.1; exact absurd x.2 (by omega)
          obtain ⟨t, l, ht, hl, hL, hW⟩ := hBh3.1 hbt
          refine ⟨true, h3, _, _, _, rfl, hyh3, frh3, ?_⟩
          refine Eq.symm (show wW (gDig G) F = true from decide_eq_true (p := wX (gDig G) F ≠ 0) (fun e => ?_))
          have e2 := wW_lose e (s := s) (by omega) ht hl hL
          rw [hW] at e2; exact absurd e2 (by decide)
  | succ m9 ih =>
    intro s cr wn tr h hm9 q0 q1 q2 q3
    have hwt := wV_T hF
    refine eW_iload 5 rfl rfl rfl ?_
    refine eW_bipush 7 rfl rfl 10 rfl ?_
    refine eW_icmp_gt 10 rfl rfl (by unfold i32; omega) (by unfold i32; omega) (fun c1 => ?_) (fun c1 => ?_)
    · refine eW_iconst 41 rfl rfl ?_
      refine eW_ret_i rfl rfl (Or.inr (Or.inl ⟨rfl, rfl⟩)) ?_
      refine ⟨false, h, cr, wn, tr, rfl, q1, q2, ?_⟩
      refine Eq.symm (show wW (gDig G) F = false from decide_eq_false (p := wX (gDig G) F ≠ 0) (fun e => ?_))
      obtain ⟨s9, hs9, hF9, t9, l9, ht9, hl9, hL9, hW9⟩ := wW_win e
      have e2 := q3 s9 t9 l9 hs9.1 (by omega) hF9 ht9.1 ht9.2 hl9.1 hl9.2 hL9
      rw [hW9] at e2; exact absurd e2 (by decide)
    · refine eW_lload_n 11 rfl rfl rfl ?_
      refine eW_iload 13 rfl rfl rfl ?_
      have hin := eD_c (F (s - 1).toNat ≠ 0)
      refine eW_callS 16 [vL (wC F), vI s] [] [vI (eB01 (decide (F (s - 1).toNat ≠ 0)))] rfl rfl rfl (Or.inl rfl) rfl rfl rfl (y_isIn (d := d + 3) hF (by omega)) rfl rfl ?_
      refine eW_if_eq 19 rfl rfl (by unfold i32; omega) (fun c2 => ?_) (fun c2 => ?_)
      · refine eW_iinc 37 rfl rfl [(5, vI (s + 1)), (0, .ref 53), (1, .ref 1), (2, vL (wC F)), (4, vI dp)] rfl rfl rfl ?_
        refine eW_goto rfl ?_
        refine eW_re [(0, .ref 53), (1, .ref 1), (2, vL (wC F)), (4, vI dp), (5, vI (s + 1))] rfl rfl (List.forall_mem_cons.mpr ⟨rfl, List.forall_mem_cons.mpr ⟨rfl, List.forall_mem_cons.mpr ⟨rfl, List.forall_mem_cons.mpr ⟨rfl, List.forall_mem_cons.mpr ⟨rfl, fun _ h => absurd h List.not_mem_nil⟩⟩⟩⟩⟩) (List.forall_mem_cons.mpr ⟨Or.inl rfl, List.forall_mem_cons.mpr ⟨Or.inl rfl, List.forall_mem_cons.mpr ⟨Or.inl rfl, List.forall_mem_cons.mpr ⟨Or.inl rfl, List.forall_mem_cons.mpr ⟨Or.inl rfl, fun _ h => absurd h List.not_mem_nil⟩⟩⟩⟩⟩) ?_
        exact ih (s + 1) cr wn tr h (by omega) (by omega) q1 q2 (fun s9 t9 l9 a1 a2 a3 a4 a5 a6 a7 a8 => by by_cases e : s9 = s; rw [e] at a3; exact absurd a3 (by omega); exact q3 s9 t9 l9 a1 (by omega) a3 a4 a5 a6 a7 a8)
      · refine eW_aload_n 20 rfl rfl rfl ?_
        refine eW_aload_n 21 rfl rfl rfl ?_
        refine eW_lload_n 22 rfl rfl rfl ?_
        refine eW_iload 24 rfl rfl rfl ?_
        refine eW_iload 26 rfl rfl rfl ?_
        refine eW_callVR 29 [.ref 53, .ref 1, vL (wC F), vI s, vI dp] [] rfl rfl rfl rfl (Nat.ble_eq_true_of_le (by omega)) q1.1 rfl rfl rfl (eSp.imp (y_from (d := d) hG (gG_k hg (fun i _ _ => q2 i (by omega))) q1 hN hF (s := s) (dp := dp) (by omega) (by omega) hd hcw) (fun _ e => yQ_F e)) ?_
        intro x4 h3 fh3
        obtain ⟨bh3, crh3, wnh3, trh3, rfl, hyh3, gh3, hBh3⟩ := fh3
        have frh3 : yFr h0 h3 := fun i hi => (gh3 i hi).trans (q2 i hi)
        have hbh3 := eB01_c bh3
        refine eW_if_eq 32 rfl rfl (by unfold i32; omega) (fun c5 => ?_) (fun c5 => ?_)
        · refine eW_iinc 37 rfl rfl [(5, vI (s + 1)), (0, .ref 53), (1, .ref 1), (2, vL (wC F)), (4, vI dp)] rfl rfl rfl ?_
          refine eW_goto rfl ?_
          refine eW_re [(0, .ref 53), (1, .ref 1), (2, vL (wC F)), (4, vI dp), (5, vI (s + 1))] rfl rfl (List.forall_mem_cons.mpr ⟨rfl, List.forall_mem_cons.mpr ⟨rfl, List.forall_mem_cons.mpr ⟨rfl, List.forall_mem_cons.mpr ⟨rfl, List.forall_mem_cons.mpr ⟨rfl, fun _ h => absurd h List.not_mem_nil⟩⟩⟩⟩⟩) (List.forall_mem_cons.mpr ⟨Or.inl rfl, List.forall_mem_cons.mpr ⟨Or.inl rfl, List.forall_mem_cons.mpr ⟨Or.inl rfl, List.forall_mem_cons.mpr ⟨Or.inl rfl, List.forall_mem_cons.mpr ⟨Or.inl rfl, fun _ h => absurd h List.not_mem_nil⟩⟩⟩⟩⟩) ?_
          have hbf : bh3 = false := by rcases hbh3 with x | x; exact absurd x.2 (by omega); exact x.1
          have hno := hBh3.2 hbf
          exact ih (s + 1) _ _ _ h3 (by omega) (by omega) hyh3 frh3 (fun s9 t9 l9 a1 a2 a3 a4 a5 a6 a7 a8 => by by_cases e : s9 = s; rw [e] at a7 a8 ⊢; exact hno t9 l9 a4 a5 a6 a7 a8; exact q3 s9 t9 l9 a1 (by omega) a3 a4 a5 a6 a7 a8)
        · refine eW_iconst 33 rfl rfl ?_
          refine eW_ret_i rfl rfl (Or.inr (Or.inl ⟨rfl, rfl⟩)) ?_
          have hbt : bh3 = true := by rcases hbh3 with x | x; exact x.1; exact absurd x.2 (by omega)
          obtain ⟨t, l, ht, hl, hL, hW⟩ := hBh3.1 hbt
          refine ⟨true, h3, _, _, _, rfl, hyh3, frh3, ?_⟩
          refine Eq.symm (show wW (gDig G) F = true from decide_eq_true (p := wX (gDig G) F ≠ 0) (fun e => ?_))
          have e2 := wW_lose e (s := s) (by omega) ht hl hL
          rw [hW] at e2; exact absurd e2 (by decide)
theorem y_any {d N : Nat} {h : eHp} {G : eGd} (hG : gOk G) (hg : gG h 1 G) {cr wn : Nat → Int} {tr : Int} (hy : yM (gDig G) h cr wn tr) (hN : 75 ≤ N) {F : Nat → Int} (hF : wV F) {dp : Int} (hd : 0 ≤ dp ∧ dp + wT F ≤ 10) (hcw : yH d N G (wT F)) : eSp (d + 6) eM_X4_canWinByAny [.ref 53, .ref 1, vL (wC F), vI dp] N h (yQ (gDig G) (fun b => b = wW (gDig G) F) N h) := by
  refine eSp_of [(0, .ref 53), (1, .ref 1), (2, vL (wC F)), (4, vI dp)] rfl rfl ?_
  refine eW_iconst 1 rfl rfl ?_
  refine eW_istore 3 rfl rfl [(5, vI 1), (0, .ref 53), (1, .ref 1), (2, vL (wC F)), (4, vI dp)] rfl rfl ?_
  refine eW_re [(0, .ref 53), (1, .ref 1), (2, vL (wC F)), (4, vI dp), (5, vI 1)] rfl rfl (List.forall_mem_cons.mpr ⟨rfl, List.forall_mem_cons.mpr ⟨rfl, List.forall_mem_cons.mpr ⟨rfl, List.forall_mem_cons.mpr ⟨rfl, List.forall_mem_cons.mpr ⟨rfl, fun _ h => absurd h List.not_mem_nil⟩⟩⟩⟩⟩) (List.forall_mem_cons.mpr ⟨Or.inl rfl, List.forall_mem_cons.mpr ⟨Or.inl rfl, List.forall_mem_cons.mpr ⟨Or.inl rfl, List.forall_mem_cons.mpr ⟨Or.inl rfl, List.forall_mem_cons.mpr ⟨Or.inl rfl, fun _ h => absurd h List.not_mem_nil⟩⟩⟩⟩⟩) ?_
  exact y_any_l hG hg hN hF hd hcw _ 1 cr wn tr h (Int.self_le_toNat _) (by omega) hy (fun _ _ => rfl) (fun s9 t9 l9 a1 a2 _ _ _ _ _ _ => absurd a2 (by omega))
theorem y_can_l {d N : Nat} {h : eHp} {G : eGd} {cr wn : Nat → Int} {tr : Int} (hy : yM (gDig G) h cr wn tr) (hN : 75 ≤ N) {F : Nat → Int} (hF : wV F) {dp : Int} : ∀ (m9 : Nat) (i : Int), tr - i ≤ m9 → 0 ≤ i ∧ i ≤ tr → (eWp eOx (eEv (d + 6)) eM_X4_canWin (55, [(0, .ref 53), (1, .ref 1), (2, vL (wC F)), (4, vI dp)], [], N, h, 0, 0) (yQ (gDig G) (fun b => b = wW (gDig G) F) N h)) → eWp eOx (eEv (d + 6)) eM_X4_canWin (12, [(0, .ref 53), (1, .ref 1), (2, vL (wC F)), (4, vI dp), (5, vI i)], [], N, h, 0, 0) (yQ (gDig G) (fun b => b = wW (gDig G) F) N h) := by
  intro m9
  induction m9 with
  | zero =>
    intro i hm9 q0 kk
    have htr := hy.2.2.2.1
    have hb8 := wV_lt hF
    refine eW_iload 14 rfl rfl rfl ?_
    refine eW_aload_n 15 rfl rfl rfl ?_
    refine eW_getfield 18 rfl rfl (Nat.ble_eq_true_of_le (by omega)) rfl hy.1 rfl ⟨rfl, fun _ h9 => nomatch h9⟩ ?_
    refine eW_icmp_ge 21 rfl rfl (by unfold i32; omega) (by unfold i32; omega) (fun c1 => ?_) (fun c1 => ?_)
    · refine eW_re [(0, .ref 53), (1, .ref 1), (2, vL (wC F)), (4, vI dp)] rfl rfl (List.forall_mem_cons.mpr ⟨rfl, List.forall_mem_cons.mpr ⟨rfl, List.forall_mem_cons.mpr ⟨rfl, List.forall_mem_cons.mpr ⟨rfl, fun _ h => absurd h List.not_mem_nil⟩⟩⟩⟩) (List.forall_mem_cons.mpr ⟨Or.inl rfl, List.forall_mem_cons.mpr ⟨Or.inl rfl, List.forall_mem_cons.mpr ⟨Or.inl rfl, List.forall_mem_cons.mpr ⟨Or.inl rfl, List.forall_mem_cons.mpr ⟨Or.inr ⟨_, rfl⟩, fun _ h => absurd h List.not_mem_nil⟩⟩⟩⟩⟩) ?_
      exact kk
    · refine eW_iload 23 rfl rfl rfl ?_
      refine eW_sipush 26 rfl rfl 139 rfl ?_
      refine eW_icmp_ge 29 rfl rfl (by unfold i32; omega) (by unfold i32; omega) (fun c2 => absurd c2 (by omega)) (fun c2 => ?_)
      obtain ⟨F9, hv9, hc9, hw9⟩ := hy.2.2.2.2 i.toNat (by omega)
      have hb9 := wV_lt hv9
      have hcm := wcmp_c (cr i.toNat) (wC F)
      refine eW_aload_n 30 rfl rfl rfl ?_
      refine eW_getfield 33 rfl rfl (Nat.ble_eq_true_of_le (by omega)) rfl hy.1 rfl ⟨rfl, fun _ h9 => nomatch h9⟩ ?_
      refine eW_iload 35 rfl rfl rfl ?_
      refine eW_laload 36 rfl rfl (cr i.toNat) (Nat.ble_eq_true_of_le (by omega)) hy.2.1 (by omega) (by omega) (by unfold i32; omega) rfl ?_
      refine eW_lload_n 37 rfl rfl rfl ?_
      refine eW_lcmp 38 rfl rfl (wcmp (cr i.toNat) (wC F)) (wcmp_ok (by omega) (by omega)) ?_
      refine eW_if_ne 41 rfl rfl (by unfold i32; omega) (fun c3 => ?_) (fun c3 => ?_)
      · refine eW_iinc 52 rfl rfl [(5, vI (i + 1)), (0, .ref 53), (1, .ref 1), (2, vL (wC F)), (4, vI dp)] rfl rfl rfl ?_
        refine eW_goto rfl ?_
        refine eW_re [(0, .ref 53), (1, .ref 1), (2, vL (wC F)), (4, vI dp), (5, vI (i + 1))] rfl rfl (List.forall_mem_cons.mpr ⟨rfl, List.forall_mem_cons.mpr ⟨rfl, List.forall_mem_cons.mpr ⟨rfl, List.forall_mem_cons.mpr ⟨rfl, List.forall_mem_cons.mpr ⟨rfl, fun _ h => absurd h List.not_mem_nil⟩⟩⟩⟩⟩) (List.forall_mem_cons.mpr ⟨Or.inl rfl, List.forall_mem_cons.mpr ⟨Or.inl rfl, List.forall_mem_cons.mpr ⟨Or.inl rfl, List.forall_mem_cons.mpr ⟨Or.inl rfl, List.forall_mem_cons.mpr ⟨Or.inl rfl, fun _ h => absurd h List.not_mem_nil⟩⟩⟩⟩⟩) ?_
        exact absurd hm9 (by omega)
      · have hwn9 : wn i.toNat = eB01 (wW (gDig G) F) := by rw [hw9, wW_eq hv9 hF (by omega)]
        refine eW_aload_n 42 rfl rfl rfl ?_
        refine eW_getfield 45 rfl rfl (Nat.ble_eq_true_of_le (by omega)) rfl hy.1 rfl ⟨rfl, fun _ h9 => nomatch h9⟩ ?_
        refine eW_iload 47 rfl rfl rfl ?_
        refine eW_baload 48 rfl rfl (eB01 (wW (gDig G) F)) (Nat.ble_eq_true_of_le (by omega)) rfl hy.2.2.1 (by omega) (by omega) (by unfold i32; omega) (congrArg Int32.ofInt hwn9) ?_
        refine eW_ret_i rfl rfl (Or.inr (Or.inl ⟨rfl, (eB01_nar _)⟩)) ?_
        exact ⟨_, h, cr, wn, tr, rfl, hy, fun _ _ => rfl, rfl⟩
  | succ m9 ih =>
    intro i hm9 q0 kk
    have htr := hy.2.2.2.1
    have hb8 := wV_lt hF
    refine eW_iload 14 rfl rfl rfl ?_
    refine eW_aload_n 15 rfl rfl rfl ?_
    refine eW_getfield 18 rfl rfl (Nat.ble_eq_true_of_le (by omega)) rfl hy.1 rfl ⟨rfl, fun _ h9 => nomatch h9⟩ ?_
    refine eW_icmp_ge 21 rfl rfl (by unfold i32; omega) (by unfold i32; omega) (fun c1 => ?_) (fun c1 => ?_)
    · refine eW_re [(0, .ref 53), (1, .ref 1), (2, vL (wC F)), (4, vI dp)] rfl rfl (List.forall_mem_cons.mpr ⟨rfl, List.forall_mem_cons.mpr ⟨rfl, List.forall_mem_cons.mpr ⟨rfl, List.forall_mem_cons.mpr ⟨rfl, fun _ h => absurd h List.not_mem_nil⟩⟩⟩⟩) (List.forall_mem_cons.mpr ⟨Or.inl rfl, List.forall_mem_cons.mpr ⟨Or.inl rfl, List.forall_mem_cons.mpr ⟨Or.inl rfl, List.forall_mem_cons.mpr ⟨Or.inl rfl, List.forall_mem_cons.mpr ⟨Or.inr ⟨_, rfl⟩, fun _ h => absurd h List.not_mem_nil⟩⟩⟩⟩⟩) ?_
      exact kk
    · refine eW_iload 23 rfl rfl rfl ?_
      refine eW_sipush 26 rfl rfl 139 rfl ?_
      refine eW_icmp_ge 29 rfl rfl (by unfold i32; omega) (by unfold i32; omega) (fun c2 => absurd c2 (by omega)) (fun c2 => ?_)
      obtain ⟨F9, hv9, hc9, hw9⟩ := hy.2.2.2.2 i.toNat (by omega)
      have hb9 := wV_lt hv9
      have hcm := wcmp_c (cr i.toNat) (wC F)
      refine eW_aload_n 30 rfl rfl rfl ?_
      refine eW_getfield 33 rfl rfl (Nat.ble_eq_true_of_le (by omega)) rfl hy.1 rfl ⟨rfl, fun _ h9 => nomatch h9⟩ ?_
      refine eW_iload 35 rfl rfl rfl ?_
      refine eW_laload 36 rfl rfl (cr i.toNat) (Nat.ble_eq_true_of_le (by omega)) hy.2.1 (by omega) (by omega) (by unfold i32; omega) rfl ?_
      refine eW_lload_n 37 rfl rfl rfl ?_
      refine eW_lcmp 38 rfl rfl (wcmp (cr i.toNat) (wC F)) (wcmp_ok (by omega) (by omega)) ?_
      refine eW_if_ne 41 rfl rfl (by unfold i32; omega) (fun c3 => ?_) (fun c3 => ?_)
      · refine eW_iinc 52 rfl rfl [(5, vI (i + 1)), (0, .ref 53), (1, .ref 1), (2, vL (wC F)), (4, vI dp)] rfl rfl rfl ?_
        refine eW_goto rfl ?_
        refine eW_re [(0, .ref 53), (1, .ref 1), (2, vL (wC F)), (4, vI dp), (5, vI (i + 1))] rfl rfl (List.forall_mem_cons.mpr ⟨rfl, List.forall_mem_cons.mpr ⟨rfl, List.forall_mem_cons.mpr ⟨rfl, List.forall_mem_cons.mpr ⟨rfl, List.forall_mem_cons.mpr ⟨rfl, fun _ h => absurd h List.not_mem_nil⟩⟩⟩⟩⟩) (List.forall_mem_cons.mpr ⟨Or.inl rfl, List.forall_mem_cons.mpr ⟨Or.inl rfl, List.forall_mem_cons.mpr ⟨Or.inl rfl, List.forall_mem_cons.mpr ⟨Or.inl rfl, List.forall_mem_cons.mpr ⟨Or.inl rfl, fun _ h => absurd h List.not_mem_nil⟩⟩⟩⟩⟩) ?_
        exact ih (i + 1) (by omega) (by omega) kk
      · have hwn9 : wn i.toNat = eB01 (wW (gDig G) F) := by rw [hw9, wW_eq hv9 hF (by omega)]
        refine eW_aload_n 42 rfl rfl rfl ?_
        refine eW_getfield 45 rfl rfl (Nat.ble_eq_true_of_le (by omega)) rfl hy.1 rfl ⟨rfl, fun _ h9 => nomatch h9⟩ ?_
        refine eW_iload 47 rfl rfl rfl ?_
        refine eW_baload 48 rfl rfl (eB01 (wW (gDig G) F)) (Nat.ble_eq_true_of_le (by omega)) rfl hy.2.2.1 (by omega) (by omega) (by unfold i32; omega) (congrArg Int32.ofInt hwn9) ?_
        refine eW_ret_i rfl rfl (Or.inr (Or.inl ⟨rfl, (eB01_nar _)⟩)) ?_
        exact ⟨_, h, cr, wn, tr, rfl, hy, fun _ _ => rfl, rfl⟩
theorem y_can {d N : Nat} {h : eHp} {G : eGd} (hG : gOk G) (hg : gG h 1 G) {cr wn : Nat → Int} {tr : Int} (hy : yM (gDig G) h cr wn tr) (hN : 75 ≤ N) {F : Nat → Int} (hF : wV F) {dp : Int} (hd : 0 ≤ dp ∧ dp + wT F ≤ 10) (hcw : yH d N G (wT F)) : eSp (d + 7) eM_X4_canWin [.ref 53, .ref 1, vL (wC F), vI dp] N h (yQ (gDig G) (fun b => b = wW (gDig G) F) N h) := by
  refine eSp_of [(0, .ref 53), (1, .ref 1), (2, vL (wC F)), (4, vI dp)] rfl rfl ?_
  have hwt := wV_T hF
  refine eW_iload 2 rfl rfl rfl ?_
  refine eW_bipush 4 rfl rfl 10 rfl ?_
  refine eW_icmp_le 7 rfl rfl (by unfold i32; omega) (by unfold i32; omega) (fun c1 => ?_) (fun c1 => absurd c1 (by omega))
  refine eW_iconst 10 rfl rfl ?_
  refine eW_istore 12 rfl rfl [(5, vI 0), (0, .ref 53), (1, .ref 1), (2, vL (wC F)), (4, vI dp)] rfl rfl ?_
  refine eW_re [(0, .ref 53), (1, .ref 1), (2, vL (wC F)), (4, vI dp), (5, vI 0)] rfl rfl (List.forall_mem_cons.mpr ⟨rfl, List.forall_mem_cons.mpr ⟨rfl, List.forall_mem_cons.mpr ⟨rfl, List.forall_mem_cons.mpr ⟨rfl, List.forall_mem_cons.mpr ⟨rfl, fun _ h => absurd h List.not_mem_nil⟩⟩⟩⟩⟩) (List.forall_mem_cons.mpr ⟨Or.inl rfl, List.forall_mem_cons.mpr ⟨Or.inl rfl, List.forall_mem_cons.mpr ⟨Or.inl rfl, List.forall_mem_cons.mpr ⟨Or.inl rfl, List.forall_mem_cons.mpr ⟨Or.inl rfl, fun _ h => absurd h List.not_mem_nil⟩⟩⟩⟩⟩) ?_
  refine y_can_l hy hN hF _ 0 (Int.self_le_toNat _) (by have := hy.2.2.2.1; omega) ?_
  refine eW_aload_n 56 rfl rfl rfl ?_
  refine eW_aload_n 57 rfl rfl rfl ?_
  refine eW_lload_n 58 rfl rfl rfl ?_
  refine eW_iload 60 rfl rfl rfl ?_
  refine eW_callVR 63 [.ref 53, .ref 1, vL (wC F), vI dp] [] rfl rfl rfl rfl (Nat.ble_eq_true_of_le (by omega)) hy.1 rfl rfl rfl (eSp.imp (y_any (d := d) hG (gG_k hg (fun i _ _ => ((fun _ _ => rfl)) i (by omega))) hy hN hF hd hcw) (fun _ e => yQ_F e)) ?_
  intro x3 h2 fh2
  obtain ⟨bh2, crh2, wnh2, trh2, rfl, hyh2, gh2, hBh2⟩ := fh2
  have frh2 : yFr h h2 := fun i hi => (gh2 i hi).trans ((fun _ _ => rfl) i hi)
  have hbh2 := eB01_c bh2
  subst hBh2
  refine eW_istore 65 rfl rfl [(5, vI (eB01 (wW (gDig G) F))), (0, .ref 53), (1, .ref 1), (2, vL (wC F)), (4, vI dp)] rfl rfl ?_
  refine eW_aload_n 66 rfl rfl rfl ?_
  refine eW_lload_n 67 rfl rfl rfl ?_
  refine eW_iload 69 rfl rfl rfl ?_
  refine eW_callVH 72 [.ref 53, vL (wC F), vI (eB01 (wW (gDig G) F))] [] [] rfl rfl rfl rfl (Nat.ble_eq_true_of_le (by omega)) hyh2.1 rfl rfl rfl (y_note (d := d + 5) hG (gG_k hg (fun i _ _ => frh2 i (by omega))) hyh2 hN hF) rfl rfl ?_
  intro h4 fh4
  obtain ⟨crh4, wnh4, trh4, hyh4, gh4⟩ := fh4
  have frh4 : yFr h h4 := fun i hi => (gh4 i hi).trans (frh2 i hi)
  refine eW_iload 74 rfl rfl rfl ?_
  refine eW_ret_i rfl rfl (Or.inr (Or.inl ⟨rfl, (eB01_nar _)⟩)) ?_
  exact ⟨_, _, _, _, _, rfl, hyh4, frh4, rfl⟩
theorem y_canN {N : Nat} {G : eGd} (hG : gOk G) (hN : 75 ≤ N) : ∀ (n d : Nat) {h : eHp} {cr wn : Nat → Int} {tr : Int} {F : Nat → Int} {dp : Int}, gG h 1 G → yM (gDig G) h cr wn tr → wV F → 0 ≤ dp ∧ dp + wT F ≤ 10 → wT F ≤ n → eSp (d + 3 * n + 7) eM_X4_canWin [.ref 53, .ref 1, vL (wC F), vI dp] N h (yQ (gDig G) (fun b => b = wW (gDig G) F) N h)
  | 0, d, _, _, _, _, F, _, hg, hy, hF, hd, hn => y_can hG hg hy hN hF hd (fun _ _ _ _ F' _ _ _ h1 _ h2 => absurd h2 (by have := wV_T h1; omega))
  | n + 1, d, _, _, _, _, F, _, hg, hy, hF, hd, hn => y_can hG hg hy hN hF hd (fun h cr wn tr F' dp' k1 k2 k3 k4 k5 => by
      have := y_canN hG hN n d k1 k2 k3 k4 (show wT F' ≤ n by omega)
      rw [show d + 3 * (n + 1) + 4 = d + 3 * n + 7 by omega]; exact this)
