/-! wins, whether all is well -/
theorem gXr_x3 {a b : Int} (h : 0 ≤ a) : gXr (gXr a b) b = a := by rw [gXr_assoc, gXr_self, gXr_zero h]
theorem gXr_sw (a b c : Int) : gXr (gXr a b) c = gXr (gXr a c) b := by rw [gXr_assoc, gXr_comm b c, ← gXr_assoc]
theorem gXorS_del {F : Nat → Int} (hF : ∀ i, 0 ≤ F i) {p : Nat} : ∀ {n : Nat}, p ≤ n → gXorS (gDel F p (n + 1)) n = gXr (gXorS F (n + 1)) (F p)
  | 0, h => by
    rw [show p = 0 by omega]
    show (0 : Int) = gXr (gXr 0 (F 0)) (F 0)
    rw [gXr_x3 (Int.le_refl 0)]
  | n + 1, h => by
    show gXr (gXorS (gDel F p (n + 2)) n) (gDel F p (n + 2) n) = gXr (gXr (gXorS F (n + 1)) (F (n + 1))) (F p)
    by_cases hp : p = n + 1
    · rw [gDel_ge (by omega), gXorS_congr9 (F' := F) (fun i hi => gDel_ge (by omega)), hp, gXr_x3 (gXorS_nn _)]
      rfl
    · rw [gDel_lt (by omega), gXorS_congr9 (F' := gDel F p (n + 1)) (fun i hi => by by_cases e : p ≤ i; rw [gDel_lt (by omega), gDel_lt (by omega)]; rw [gDel_ge (by omega), gDel_ge (by omega)]), gXorS_del hF (by omega), gXr_sw]
theorem gMap_del {f : Int → Int} {F : Nat → Int} {p b : Nat} : (fun i => f (gDel F p b i)) = gDel (fun i => f (F i)) p b := by
  funext i
  unfold gDel
  cases decide (p ≤ i ∧ i + 1 < b) <;> rfl
theorem gMap_up {f : Int → Int} {F : Nat → Int} {j : Nat} {v : Int} : (fun i => f (eUp F j v i)) = eUp (fun i => f (F i)) j (f v) := by
  funext i
  unfold eUp
  split <;> rfl
theorem gSm_make {G : eGd} {S : Int × Int × Int} (hM : gMay G S) : gSm (gMake G S) = gXr (gXr (gSm G) (gvv (gDig G) (G.1 S.1.toNat))) (gXr (gvv (gDig G) S.2.2) (gvv (gDig G) (G.1 S.1.toNat - S.2.1 - S.2.2))) := by
  obtain ⟨p, t, l⟩ := S
  have m1 : 0 ≤ p ∧ p < G.2.2.2.1 := hM.1
  have ml := gLets_iff.mp hM.2.2
  show gXorS (fun i => gvv (gDig G) ((gCut G.1 G.2.2.2.1 p t l).1 i)) (gCut G.1 G.2.2.2.1 p t l).2.toNat = gXr (gXr (gXorS (fun i => gvv (gDig G) (G.1 i)) G.2.2.2.1.toNat) (gvv (gDig G) (G.1 p.toNat))) (gXr (gvv (gDig G) l) (gvv (gDig G) (G.1 p.toNat - t - l)))
  have ml : 0 ≤ l ∧ t + l ≤ G.1 p.toNat ∧ (l = 0 → t = G.1 p.toNat) ∧ _ := ml
  generalize hD : gDig G = D
  have hv : ∀ i, 0 ≤ (fun i => gvv D (G.1 i)) i := fun i => gvv_nn _
  by_cases hl0 : l = 0
  · have e1 : gCut G.1 G.2.2.2.1 p t l = (gDel (eUp G.1 p.toNat l) p.toNat G.2.2.2.1.toNat, G.2.2.2.1 - 1) := by
      unfold gCut; rw [decide_eq_false (by omega : ¬ 0 < G.1 p.toNat - t - l), decide_eq_true hl0]
    rw [e1]
    show gXorS (fun i => gvv D (gDel (eUp G.1 p.toNat l) p.toNat G.2.2.2.1.toNat i)) (G.2.2.2.1 - 1).toNat = _
    rw [gMap_del, gMap_up, show G.2.2.2.1.toNat = (G.2.2.2.1 - 1).toNat + 1 by omega, gXorS_del (fun i => by by_cases e : i = p.toNat; rw [eUp_eq e]; exact gvv_nn _; rw [eUp_ne e]; exact gvv_nn _) (by omega), gXorS_up hv (gvv_nn _) (by omega), eUp_eq rfl, show G.1 p.toNat - t - l = 0 by omega, gvv_0, hl0, gvv_0, gXr_zero (gXr_nn _ _), gXr_zero (gXr_nn _ _), gXr_self, gXr_zero (gXr_nn _ _)]
  · by_cases ho : 0 < G.1 p.toNat - t - l
    · have e1 : gCut G.1 G.2.2.2.1 p t l = (eUp (eUp G.1 p.toNat l) G.2.2.2.1.toNat (G.1 p.toNat - t - l), G.2.2.2.1 + 1) := by
        unfold gCut; rw [decide_eq_true ho, decide_eq_false hl0]
      rw [e1]
      show gXorS (fun i => gvv D (eUp (eUp G.1 p.toNat l) G.2.2.2.1.toNat (G.1 p.toNat - t - l) i)) (G.2.2.2.1 + 1).toNat = _
      rw [gMap_up, gMap_up, show (G.2.2.2.1 + 1).toNat = G.2.2.2.1.toNat + 1 by omega]
      show gXr (gXorS _ G.2.2.2.1.toNat) (eUp _ G.2.2.2.1.toNat _ G.2.2.2.1.toNat) = _
      rw [eUp_eq rfl, gXorS_congr9 (F' := eUp (fun i => gvv D (G.1 i)) p.toNat (gvv D l)) (fun i hi => eUp_ne (by omega)), gXorS_up hv (gvv_nn _) (by omega), gXr_assoc]
    · have e1 : gCut G.1 G.2.2.2.1 p t l = (eUp G.1 p.toNat l, G.2.2.2.1) := by
        unfold gCut; rw [decide_eq_false ho, decide_eq_false hl0]
      rw [e1]
      show gXorS (fun i => gvv D (eUp G.1 p.toNat l i)) G.2.2.2.1.toNat = _
      rw [gMap_up, gXorS_up hv (gvv_nn _) (by omega), show G.1 p.toNat - t - l = 0 by omega, gvv_0, gXr_zero (gvv_nn l)]
theorem gSm_E {c : Int} {G G' : eGd} (hI : gI c G) (h : gE G G') : gSm G' = gSm G := by
  have hb := hI.1.2.1
  unfold gSm
  rw [gDig_E h, h.2.2.2]
  exact gXorS_congr9 (fun i hi => by show gvv _ (G'.1 i) = gvv _ (G.1 i); rw [h.1 i (by omega)])
theorem gSm_told {c : Int} {G G' : eGd} {y : Int × Int × Int} (hI : gI c G) (h : gE G G') (hM : gMay G y) (hZ : gZero G y = true) : gSm (gMake G' y) = 0 := by
  have hb := hI.1.2.1
  have e1 : G'.1 y.1.toNat = G.1 y.1.toNat := h.1 _ (by have := hM.1; omega)
  have hM' : gMay G' y := ⟨by rw [h.2.2.2]; exact hM.1, hM.2.1, by rw [gDig_E h, e1]; exact hM.2.2⟩
  rw [gSm_make hM', gSm_E hI h, gDig_E h, e1, of_decide_eq_true hZ, gXr_self]
theorem gAllF_i {p : Int → Bool} : ∀ {n : Nat} {i : Int}, (∀ j, i ≤ j → j < i + n → p j = true) → gAllF p i n = true
  | 0, _, _ => rfl
  | n + 1, i, h => by
    show (p i && gAllF p (i + 1) n) = true
    rw [h i (Int.le_refl _) (by omega), gAllF_i (fun j h1 h2 => h j (by omega) (by omega))]; rfl
theorem gAlike_ok {V : eVs} {D : Int → Int} (h : gVD V D) : gAllF (gAlike V) 0 31 = true := by
  refine gAllF_i (fun i h1 h2 => ?_)
  unfold gAlike
  have e := h.2 i.toNat (by omega)
  exact decide_eq_true (by rw [e.1, e.2.1])
theorem y_won_l {d N : Nat} {h : eHp} {G : eGd} (hG : gOk G) (hg : gG h 1 G) (hN : 75 ≤ N) (hp10 : ∀ i, i < G.2.2.2.1.toNat → 1 ≤ G.1 i ∧ G.1 i ≤ 10) {P : eR → Prop} : ∀ (m9 : Nat) (i : Int), G.2.2.2.1 - i ≤ m9 → 0 ≤ i ∧ i ≤ G.2.2.2.1 → (eWp eOx (eEv (d + 37)) eM_X4_isWon (37, [(0, .ref 53), (1, .ref 1), (2, vL (wC (wF G G.2.2.2.1.toNat)))], [], N, h, 0, 0) P) → eWp eOx (eEv (d + 37)) eM_X4_isWon (10, [(0, .ref 53), (1, .ref 1), (2, vL (wC (wF G i.toNat))), (4, vI i)], [], N, h, 0, 0) P := by
  intro m9
  induction m9 with
  | zero =>
    intro i hm9 q0 kk
    have g1 := hG.1
    have g2 := hG.2.1
    refine eW_iload 12 rfl rfl rfl ?_
    refine eW_aload_n 13 rfl rfl rfl ?_
    refine eW_callV 16 [.ref 1] [vI i] [vI G.2.2.2.1, vI i] rfl rfl rfl rfl (Nat.ble_eq_true_of_le (by omega)) hg.1 rfl rfl rfl (g_pits (d := d + 36) hg hG (by omega)) rfl rfl ?_
    refine eW_icmp_ge 19 rfl rfl (by unfold i32; omega) (by unfold i32; omega) (fun c1 => ?_) (fun c1 => ?_)
    · refine eW_re [(0, .ref 53), (1, .ref 1), (2, vL (wC (wF G i.toNat)))] rfl rfl (List.forall_mem_cons.mpr ⟨rfl, List.forall_mem_cons.mpr ⟨rfl, List.forall_mem_cons.mpr ⟨rfl, fun _ h => absurd h List.not_mem_nil⟩⟩⟩) (List.forall_mem_cons.mpr ⟨Or.inl rfl, List.forall_mem_cons.mpr ⟨Or.inl rfl, List.forall_mem_cons.mpr ⟨Or.inl rfl, List.forall_mem_cons.mpr ⟨Or.inr ⟨_, rfl⟩, fun _ h => absurd h List.not_mem_nil⟩⟩⟩⟩) ?_
      rw [show i = G.2.2.2.1 by omega]
      exact kk
    · refine eW_lload_n 20 rfl rfl rfl ?_
      refine eW_aload_n 21 rfl rfl rfl ?_
      refine eW_iload 23 rfl rfl rfl ?_
      have hin := gIn_le hG i
      refine eW_callV 26 [.ref 1, vI i] [vL (wC (wF G i.toNat))] [vI (gIn G i), vL (wC (wF G i.toNat))] rfl rfl rfl rfl (Nat.ble_eq_true_of_le (by omega)) hg.1 rfl rfl rfl (g_marblesIn (d := d + 35) hg hG (by omega) (by unfold i32; omega)) rfl rfl ?_
      refine eW_callS 29 [vI (gIn G i)] [vL (wC (wF G i.toNat))] [vL (wO (gIn G i)), vL (wC (wF G i.toNat))] rfl rfl rfl (Or.inl rfl) rfl rfl rfl (y_oneOf (d := d + 36) (by unfold i32; omega)) rfl rfl ?_
      refine eW_ladd 30 rfl rfl ?_
      rw [show ((wC (wF G i.toNat)) + (wO (gIn G i)) : Int) = wC (wF G (i + 1).toNat) from (by rw [show (i + 1).toNat = i.toNat + 1 by omega, wF_C (hp10 _ (by omega)), gIn_t (by omega) (by omega)])]
      refine eW_lstore_n 31 rfl rfl [(2, vL (wC (wF G (i + 1).toNat))), (0, .ref 53), (1, .ref 1), (4, vI i)] rfl rfl ?_
      refine eW_iinc 34 rfl rfl [(4, vI (i + 1)), (2, vL (wC (wF G (i + 1).toNat))), (0, .ref 53), (1, .ref 1)] rfl rfl rfl ?_
      refine eW_goto rfl ?_
      refine eW_re [(0, .ref 53), (1, .ref 1), (2, vL (wC (wF G (i + 1).toNat))), (4, vI (i + 1))] rfl rfl (List.forall_mem_cons.mpr ⟨rfl, List.forall_mem_cons.mpr ⟨rfl, List.forall_mem_cons.mpr ⟨rfl, List.forall_mem_cons.mpr ⟨rfl, fun _ h => absurd h List.not_mem_nil⟩⟩⟩⟩) (List.forall_mem_cons.mpr ⟨Or.inl rfl, List.forall_mem_cons.mpr ⟨Or.inl rfl, List.forall_mem_cons.mpr ⟨Or.inl rfl, List.forall_mem_cons.mpr ⟨Or.inl rfl, fun _ h => absurd h List.not_mem_nil⟩⟩⟩⟩) ?_
      exact absurd hm9 (by omega)
  | succ m9 ih =>
    intro i hm9 q0 kk
    have g1 := hG.1
    have g2 := hG.2.1
    refine eW_iload 12 rfl rfl rfl ?_
    refine eW_aload_n 13 rfl rfl rfl ?_
    refine eW_callV 16 [.ref 1] [vI i] [vI G.2.2.2.1, vI i] rfl rfl rfl rfl (Nat.ble_eq_true_of_le (by omega)) hg.1 rfl rfl rfl (g_pits (d := d + 36) hg hG (by omega)) rfl rfl ?_
    refine eW_icmp_ge 19 rfl rfl (by unfold i32; omega) (by unfold i32; omega) (fun c1 => ?_) (fun c1 => ?_)
    · refine eW_re [(0, .ref 53), (1, .ref 1), (2, vL (wC (wF G i.toNat)))] rfl rfl (List.forall_mem_cons.mpr ⟨rfl, List.forall_mem_cons.mpr ⟨rfl, List.forall_mem_cons.mpr ⟨rfl, fun _ h => absurd h List.not_mem_nil⟩⟩⟩) (List.forall_mem_cons.mpr ⟨Or.inl rfl, List.forall_mem_cons.mpr ⟨Or.inl rfl, List.forall_mem_cons.mpr ⟨Or.inl rfl, List.forall_mem_cons.mpr ⟨Or.inr ⟨_, rfl⟩, fun _ h => absurd h List.not_mem_nil⟩⟩⟩⟩) ?_
      rw [show i = G.2.2.2.1 by omega]
      exact kk
    · refine eW_lload_n 20 rfl rfl rfl ?_
      refine eW_aload_n 21 rfl rfl rfl ?_
      refine eW_iload 23 rfl rfl rfl ?_
      have hin := gIn_le hG i
      refine eW_callV 26 [.ref 1, vI i] [vL (wC (wF G i.toNat))] [vI (gIn G i), vL (wC (wF G i.toNat))] rfl rfl rfl rfl (Nat.ble_eq_true_of_le (by omega)) hg.1 rfl rfl rfl (g_marblesIn (d := d + 35) hg hG (by omega) (by unfold i32; omega)) rfl rfl ?_
      refine eW_callS 29 [vI (gIn G i)] [vL (wC (wF G i.toNat))] [vL (wO (gIn G i)), vL (wC (wF G i.toNat))] rfl rfl rfl (Or.inl rfl) rfl rfl rfl (y_oneOf (d := d + 36) (by unfold i32; omega)) rfl rfl ?_
      refine eW_ladd 30 rfl rfl ?_
      rw [show ((wC (wF G i.toNat)) + (wO (gIn G i)) : Int) = wC (wF G (i + 1).toNat) from (by rw [show (i + 1).toNat = i.toNat + 1 by omega, wF_C (hp10 _ (by omega)), gIn_t (by omega) (by omega)])]
      refine eW_lstore_n 31 rfl rfl [(2, vL (wC (wF G (i + 1).toNat))), (0, .ref 53), (1, .ref 1), (4, vI i)] rfl rfl ?_
      refine eW_iinc 34 rfl rfl [(4, vI (i + 1)), (2, vL (wC (wF G (i + 1).toNat))), (0, .ref 53), (1, .ref 1)] rfl rfl rfl ?_
      refine eW_goto rfl ?_
      refine eW_re [(0, .ref 53), (1, .ref 1), (2, vL (wC (wF G (i + 1).toNat))), (4, vI (i + 1))] rfl rfl (List.forall_mem_cons.mpr ⟨rfl, List.forall_mem_cons.mpr ⟨rfl, List.forall_mem_cons.mpr ⟨rfl, List.forall_mem_cons.mpr ⟨rfl, fun _ h => absurd h List.not_mem_nil⟩⟩⟩⟩) (List.forall_mem_cons.mpr ⟨Or.inl rfl, List.forall_mem_cons.mpr ⟨Or.inl rfl, List.forall_mem_cons.mpr ⟨Or.inl rfl, List.forall_mem_cons.mpr ⟨Or.inl rfl, fun _ h => absurd h List.not_mem_nil⟩⟩⟩⟩) ?_
      exact ih (i + 1) (by omega) (by omega) kk
theorem y_isWon {d N : Nat} {h : eHp} {G : eGd} (hg : gG h 1 G) (hk : gK h) (hN : 75 ≤ N) {c : Int} (hI : gI c G) (h10 : gSum G.1 G.2.2.2.1.toNat ≤ 10) : eSp (d + 38) eM_X4_isWon [.ref 53, .ref 1] N h (eChg (some (vI (eB01 (decide (gSm G ≠ 0))))) N (fun h' => gK h' ∧ yFr h h')) := by
  refine eSp_of [(0, .ref 53), (1, .ref 1)] rfl rfl ?_
  obtain ⟨cr, wn, tr0, k53, k54, k55⟩ := hk
  have hG := hI.1
  have g1 := hG.1
  have g2 := hG.2.1
  have hp10 : ∀ i, i < G.2.2.2.1.toNat → 1 ≤ G.1 i ∧ G.1 i ≤ 10 := fun i hi => by have := gSum_ge1 (F := G.1) (p := i) (n := G.2.2.2.1.toNat) hi (fun j hj => (hI.2.2.1 j (by omega)).1); have := hI.2.2.1 i (by omega); omega
  have hwT : wT (wF G G.2.2.2.1.toNat) = gSum G.1 G.2.2.2.1.toNat := wF_T hp10
  have hwV : wV (wF G G.2.2.2.1.toNat) := wV_i wF_N (by rw [hwT]; exact h10)
  have hwX : wX (gDig G) (wF G G.2.2.2.1.toNat) = gSm G := wF_X hp10
  refine eW_aload_n 1 rfl rfl rfl ?_
  refine eW_iconst 2 rfl rfl ?_
  refine eW_putfield 5 [.ref 54, .ref 55, vI 0] rfl rfl (Nat.ble_eq_true_of_le (by omega)) rfl k53 rfl rfl ?_
  intro h1 eh1 oh1
  have frh1 : yFr h h1 := fun i hi => (oh1 i (by omega)).trans ((fun _ _ => rfl) i hi)
  refine eW_lconst 6 rfl rfl 0 rfl ?_
  refine eW_lstore_n 7 rfl rfl [(2, vL 0), (0, .ref 53), (1, .ref 1)] rfl rfl ?_
  refine eW_iconst 8 rfl rfl ?_
  refine eW_istore 10 rfl rfl [(4, vI 0), (2, vL 0), (0, .ref 53), (1, .ref 1)] rfl rfl ?_
  refine eW_re [(0, .ref 53), (1, .ref 1), (2, vL 0), (4, vI 0)] rfl rfl (List.forall_mem_cons.mpr ⟨rfl, List.forall_mem_cons.mpr ⟨rfl, List.forall_mem_cons.mpr ⟨rfl, List.forall_mem_cons.mpr ⟨rfl, fun _ h => absurd h List.not_mem_nil⟩⟩⟩⟩) (List.forall_mem_cons.mpr ⟨Or.inl rfl, List.forall_mem_cons.mpr ⟨Or.inl rfl, List.forall_mem_cons.mpr ⟨Or.inl rfl, List.forall_mem_cons.mpr ⟨Or.inl rfl, fun _ h => absurd h List.not_mem_nil⟩⟩⟩⟩) ?_
  have hy9 : yM (gDig G) h1 cr wn 0 := ⟨eh1, ((oh1 54 (by decide)).trans k54), ((oh1 55 (by decide)).trans k55), by omega, fun j hj => absurd hj (by omega)⟩
  have hw0 : vL 0 = vL (wC (wF G (0 : Int).toNat)) := rfl
  rw [hw0]
  refine y_won_l (h := h1) hG (gG_k hg (fun i _ _ => frh1 i (by omega))) hN hp10 _ 0 (Int.self_le_toNat _) (by omega) ?_
  refine eW_aload_n 38 rfl rfl rfl ?_
  refine eW_aload_n 39 rfl rfl rfl ?_
  refine eW_lload_n 40 rfl rfl rfl ?_
  refine eW_iconst 41 rfl rfl ?_
  refine eW_callVR 44 [.ref 53, .ref 1, vL (wC (wF G G.2.2.2.1.toNat)), vI 0] [] rfl rfl rfl rfl (Nat.ble_eq_true_of_le (by omega)) eh1 rfl rfl rfl (eSp.imp (show eSp (d + 37) eM_X4_canWin _ N _ _ from y_canN hG hN 10 d (gG_k hg (fun i _ _ => frh1 i (by omega))) hy9 hwV (by rw [hwT]; omega) (by rw [hwT]; omega)) (fun _ e => yQ_F e)) ?_
  intro x3 h2 fh2
  obtain ⟨bh2, crh2, wnh2, trh2, rfl, hyh2, gh2, hBh2⟩ := fh2
  have frh2 : yFr h h2 := fun i hi => (gh2 i hi).trans (frh1 i hi)
  have hbh2 := eB01_c bh2
  subst hBh2
  refine eW_ret_i rfl rfl (Or.inr (Or.inl ⟨rfl, (eB01_nar _)⟩)) ?_
  rw [← hwX]
  exact ⟨_, rfl, ⟨_, _, _, hyh2.1, hyh2.2.1, hyh2.2.2.1⟩, frh2⟩
theorem x_winsB {d N : Nat} {h : eHp} {X : eXs} {G O Q : eGd} {ya yz : Int} {Ks : Nat → eGd} {V : eVs} {S : Int × Int × Int} {T : eTx} (hw : cW h X G O Q ya yz Ks V S T) (hN : 75 ≤ N) {c : Int} (hI : gI c G) (hVG : gVG V G) (ha : 0 ≤ ya ∧ ya < 8) (hz : 0 ≤ yz ∧ yz ≤ 8) (hTO : gTO T) {b : Int} (hb : b = 0 ∨ b = 1) : eSp (d + 39) eM_X6_wins [.ref 0, vI b] N h (cA (if b = 0 ∨ gSum G.1 G.2.2.2.1.toNat ≤ 10 then .inl (eB01 (decide (gSm G ≠ 0))) else .inr nISE) N h (fun h' => cW h' X G O Q ya yz Ks V S T)) := by
  refine eSp_of [(0, .ref 0), (1, vI b)] rfl rfl ?_
  have hG := hI.1
  have hG9 := hG
  obtain ⟨g1, g2, g3, g4⟩ := hG9
  have hV := hVG.1.1
  have hVD := hVG.1
  have hs40 := hI.2.2.2.1
  have hsp := gI_pits hI
  refine eW_iload_n 1 rfl rfl rfl ?_
  refine eW_if_ne 4 rfl rfl (by unfold i32; omega) (fun c1 => ?_) (fun c1 => ?_)
  · refine eW_aload_n 10 rfl rfl rfl ?_
    refine eW_getfield 13 rfl rfl (Nat.ble_eq_true_of_le (by omega)) rfl hw.1 rfl ⟨rfl, fun _ h9 => nomatch h9⟩ ?_
    refine eW_callV 16 [.ref 1] [] [vI (gSum G.1 G.2.2.2.1.toNat)] rfl rfl rfl rfl (Nat.ble_eq_true_of_le (by omega)) hw.2.1.1 rfl rfl rfl (g_all (d := d + 35) hw.2.1 hG (by omega)) rfl rfl ?_
    refine eW_bipush 18 rfl rfl 10 rfl ?_
    refine eW_icmp_le 21 rfl rfl (by unfold i32; omega) (by unfold i32; omega) (fun c2 => ?_) (fun c2 => ?_)
    · refine eW_aload_n 32 rfl rfl rfl ?_
      refine eW_getfield 35 rfl rfl (Nat.ble_eq_true_of_le (by omega)) rfl hw.1 rfl ⟨rfl, fun _ h9 => nomatch h9⟩ ?_
      refine eW_aload_n 36 rfl rfl rfl ?_
      refine eW_getfield 39 rfl rfl (Nat.ble_eq_true_of_le (by omega)) rfl hw.1 rfl ⟨rfl, fun _ h9 => nomatch h9⟩ ?_
      refine eW_callVH 42 [.ref 53, .ref 1] [] [vI (eB01 (decide (gSm G ≠ 0)))] rfl rfl rfl rfl (Nat.ble_eq_true_of_le (by omega)) (gK_53 hw.2.2.2.2.2.2.2.2) rfl rfl rfl (y_isWon (d := d + 0) hw.2.1 hw.2.2.2.2.2.2.2.2 hN hI (by omega)) rfl rfl ?_
      intro h3 fh3
      have oh3 := fh3.2
      have hwh3 : cW h3 X G O Q ya yz Ks V S T := ⟨gX_k hw.1 (oh3 0 (by omega)), gG_k hw.2.1 (fun i _ _ => oh3 i (by omega)), gG_k hw.2.2.1 (fun i _ _ => oh3 i (by omega)), gG_k hw.2.2.2.1 (fun i _ _ => oh3 i (by omega)), gH_k hw.2.2.2.2.1 (fun i _ _ => oh3 i (by omega)), gV_k hw.2.2.2.2.2.1 (fun i _ _ => oh3 i (by omega)), gS_k hw.2.2.2.2.2.2.1 (oh3 56 (by omega)), gT_k hw.2.2.2.2.2.2.2.1 (fun i _ _ => oh3 i (by omega)), fh3.1⟩
      have frh3 : cFr h h3 := fun i hi => (oh3 i (by omega)).trans ((fun _ _ => rfl) i hi)
      refine eW_ret_i rfl rfl (Or.inr (Or.inl ⟨rfl, (eB01_nar _)⟩)) ?_
      exact cA_i (if_pos (by omega)) frh3 hwh3
    · refine eW_throw rfl rfl rfl rfl ?_
      exact cA_x (if_neg (by omega)) (fun _ _ => rfl) hw
  · refine eW_aload_n 5 rfl rfl rfl ?_
    refine eW_callV 8 [.ref 0] [] [vI (eB01 (decide (gSm G ≠ 0)))] rfl rfl rfl rfl (Nat.ble_eq_true_of_le (by omega)) hw.1 rfl rfl rfl (by have u := x_wins (d := d + 34) hw.1 hw.2.2.2.2.2.1 hV hN hw.2.1 hG; rw [gSumV_eq hVG.1] at u; exact u) rfl rfl ?_
    refine eW_ret_i rfl rfl (Or.inr (Or.inl ⟨rfl, (eB01_nar _)⟩)) ?_
    exact cA_i (if_pos (by omega)) (fun _ _ => rfl) hw
theorem x_known {d N : Nat} {h : eHp} {X : eXs} {G O Q : eGd} {ya yz : Int} {Ks : Nat → eGd} {V : eVs} {S : Int × Int × Int} {T : eTx} (hw : cW h X G O Q ya yz Ks V S T) (hN : 75 ≤ N) {c : Int} (hI : gI c G) (hVG : gVG V G) (ha : 0 ≤ ya ∧ ya < 8) (hz : 0 ≤ yz ∧ yz ≤ 8) (hTO : gTO T) (hc : c ≤ 16000) : eSp (d + 4) eM_X6_isEveryMarbleKnown [.ref 0] N h (eRet (some (vI 1)) N h) := by
  refine eSp_of [(0, .ref 0)] rfl rfl ?_
  have hG := hI.1
  have hG9 := hG
  obtain ⟨g1, g2, g3, g4⟩ := hG9
  have hV := hVG.1.1
  have hVD := hVG.1
  have htb1 : gTal G 0 1 = G.2.2.1 1 ∧ gTal G 1 1 = G.2.2.1 5 ∧ (0 ≤ G.2.2.1 1 ∧ G.2.2.1 1 ≤ 6 * c) ∧ (0 ≤ G.2.2.1 5 ∧ G.2.2.1 5 ≤ 6 * c) := gTal_b hI 1 (by decide)
  have hs40 := hI.2.2.2.1
  have hsp := gI_pits hI
  have hcm := hI.2.2.2.2.2.2.1
  have hly := hI.2.2.2.2.2.2.2.1
  have heq := hI.2.2.2.2.2.2.2.2.2
  refine eW_aload_n 1 rfl rfl rfl ?_
  refine eW_getfield 4 rfl rfl (Nat.ble_eq_true_of_le (by omega)) rfl hw.1 rfl ⟨rfl, fun _ h9 => nomatch h9⟩ ?_
  refine eW_callV 7 [.ref 1] [] [vI G.2.2.2.2.2.1] rfl rfl rfl rfl (Nat.ble_eq_true_of_le (by omega)) hw.2.1.1 rfl rfl rfl (g_marblesCame (d := d + 2) hw.2.1 hG (by omega)) rfl rfl ?_
  refine eW_aload_n 8 rfl rfl rfl ?_
  refine eW_getfield 11 rfl rfl (Nat.ble_eq_true_of_le (by omega)) rfl hw.1 rfl ⟨rfl, fun _ h9 => nomatch h9⟩ ?_
  refine eW_callV 14 [.ref 1] [vI G.2.2.2.2.2.1] [vI (gSum G.1 G.2.2.2.1.toNat), vI G.2.2.2.2.2.1] rfl rfl rfl rfl (Nat.ble_eq_true_of_le (by omega)) hw.2.1.1 rfl rfl rfl (g_all (d := d + 0) hw.2.1 hG (by omega)) rfl rfl ?_
  refine eW_aload_n 15 rfl rfl rfl ?_
  refine eW_getfield 18 rfl rfl (Nat.ble_eq_true_of_le (by omega)) rfl hw.1 rfl ⟨rfl, fun _ h9 => nomatch h9⟩ ?_
  refine eW_iconst 19 rfl rfl ?_
  refine eW_callV 22 [.ref 1, vI 1] [vI (gSum G.1 G.2.2.2.1.toNat), vI G.2.2.2.2.2.1] [vI (gTal G 0 1 + gTal G 1 1), vI (gSum G.1 G.2.2.2.1.toNat), vI G.2.2.2.2.2.1] rfl rfl rfl rfl (Nat.ble_eq_true_of_le (by omega)) hw.2.1.1 rfl rfl rfl (g_tallyOfBoth (d := d + 0) hw.2.1 hG (by omega) (by unfold i32; omega)) rfl rfl ?_
  refine eW_iadd 23 rfl rfl ?_
  refine eW_aload_n 24 rfl rfl rfl ?_
  refine eW_getfield 27 rfl rfl (Nat.ble_eq_true_of_le (by omega)) rfl hw.1 rfl ⟨rfl, fun _ h9 => nomatch h9⟩ ?_
  refine eW_callV 30 [.ref 1] [vI ((gSum G.1 G.2.2.2.1.toNat) + (gTal G 0 1 + gTal G 1 1)), vI G.2.2.2.2.2.1] [vI G.2.2.2.2.2.2.1, vI ((gSum G.1 G.2.2.2.1.toNat) + (gTal G 0 1 + gTal G 1 1)), vI G.2.2.2.2.2.1] rfl rfl rfl rfl (Nat.ble_eq_true_of_le (by omega)) hw.2.1.1 rfl rfl rfl (g_marblesLeftLying (d := d + 2) hw.2.1 hG (by omega)) rfl rfl ?_
  refine eW_iadd 31 rfl rfl ?_
  refine eW_icmp_ne 34 rfl rfl (by unfold i32; omega) (by unfold i32; omega) (fun c1 => ?_) (fun c1 => ?_)
  · refine eW_iconst 39 rfl rfl ?_
    refine eW_ret_i rfl rfl (Or.inr (Or.inl ⟨rfl, rfl⟩)) ?_
    exfalso; omega
  · refine eW_iconst 35 rfl rfl ?_
    refine eW_goto rfl ?_
    refine eW_ret_i rfl rfl (Or.inr (Or.inl ⟨rfl, rfl⟩)) ?_
    exact rfl
theorem x_toldR {d N : Nat} {h : eHp} {X : eXs} {G O Q : eGd} {ya yz : Int} {Ks : Nat → eGd} {V : eVs} {S : Int × Int × Int} {T : eTx} (hw : cW h X G O Q ya yz Ks V S T) (hN : 75 ≤ N) {c : Int} (hI : gI c G) (hVG : gVG V G) (ha : 0 ≤ ya ∧ ya < 8) (hz : 0 ≤ yz ∧ yz ≤ 8) (hTO : gTO T)  : eSp (d + 6) eM_X6_isToldRight [.ref 0] N h (eChg (some (vI 1)) N (fun h' => ∃ O' S', cW h' X G O' Q ya yz Ks V S' T ∧ cFr h h')) := by
  refine eSp_of [(0, .ref 0)] rfl rfl ?_
  have hG := hI.1
  have hG9 := hG
  obtain ⟨g1, g2, g3, g4⟩ := hG9
  have hV := hVG.1.1
  have hVD := hVG.1
  refine eW_aload_n 1 rfl rfl rfl ?_
  have hgy := gYes_c (gTd G)
  refine eW_callVH 4 [.ref 0] [] [vI (gYes (gTd G))] rfl rfl rfl rfl (Nat.ble_eq_true_of_le (by omega)) hw.1 rfl rfl rfl (x_findTold (d := d + 0) hw hN hI hVG ha hz hTO) rfl rfl ?_
  intro h1 fh1
  refine eW_if_ne 7 rfl rfl (by unfold i32; omega) (fun c2 => ?_) (fun c2 => ?_)
  · obtain ⟨y9, hy9⟩ : ∃ u, gTd G = some u := by rcases hgy with ⟨e, _⟩ | ⟨_, e⟩; exact absurd e (by omega); exact e
    rw [hy9] at fh1
    have hf9 : gS h1 56 y9 := fh1.1
    have o9 : ∀ i, i ≠ 56 → h1 i = h i := fh1.2
    have hwh1 : cW h1 X G O Q ya yz Ks V y9 T := ⟨gX_k hw.1 (o9 0 (by omega)), gG_k hw.2.1 (fun i _ _ => o9 i (by omega)), gG_k hw.2.2.1 (fun i _ _ => o9 i (by omega)), gG_k hw.2.2.2.1 (fun i _ _ => o9 i (by omega)), gH_k hw.2.2.2.2.1 (fun i _ _ => o9 i (by omega)), gV_k hw.2.2.2.2.2.1 (fun i _ _ => o9 i (by omega)), hf9, gT_k hw.2.2.2.2.2.2.2.1 (fun i _ _ => o9 i (by omega)), gK_k hw.2.2.2.2.2.2.2.2 (fun i _ _ => o9 i (by omega))⟩
    have frh1 : cFr h h1 := fun i hi => (o9 i (by omega)).trans ((fun _ _ => rfl) i hi)
    have hM := gTd_mem g1 hy9
    have hM9 : gMay G y9 := ⟨⟨hM.1.1, hM.1.2.1⟩, ⟨hM.1.2.2.1, hM.1.2.2.2.1⟩, hM.1.2.2.2.2⟩
    have hEb := gE_bec G O
    have hIO := gI_E hEb hI
    have e9 : (gBec G O).1 y9.1.toNat = G.1 y9.1.toNat := hEb.1 _ (by have := hM9.1; omega)
    have hMO : gMay (gBec G O) y9 := ⟨hM9.1, hM9.2.1, by rw [gDig_E hEb, e9]; exact hM9.2.2⟩
    have hml := gLets_iff.mp hMO.2.2
    have hmk := hIO.2.2.1 y9.1.toNat (by have := hMO.1; omega)
    have hge := gSum_ge1 (F := (gBec G O).1) (p := y9.1.toNat) (n := (gBec G O).2.2.2.1.toNat) (by have := hMO.1; omega) (fun i hi => (hIO.2.2.1 i (by omega)).1)
    have hs40 := hIO.2.2.2.1
    have hM1 : 0 ≤ y9.2.2 ∧ y9.2.2 ≤ 40 := by have := hMO.2.1; omega
    have hM2 : 0 < (gBec G O).1 y9.1.toNat - y9.2.1 - y9.2.2 → (gBec G O).2.2.2.1 < 40 := by have := hMO.2.1; intro e; omega
    have hGn := (gI_make hIO hMO).1
    have hz9 : gSumV V (gMake (gBec G O) y9) = 0 := by rw [gSumV_eq (G := gMake (gBec G O) y9) (by show gVD V (gDig (gBec G O)); rw [gDig_E hEb]; exact hVG.1)]; exact gSm_told hI hEb hM9 hM.2
    refine eW_aload_n 10 rfl rfl rfl ?_
    refine eW_getfield 13 rfl rfl (Nat.ble_eq_true_of_le (by omega)) rfl hwh1.1 rfl ⟨rfl, fun _ h9 => nomatch h9⟩ ?_
    refine eW_aload_n 14 rfl rfl rfl ?_
    refine eW_getfield 17 rfl rfl (Nat.ble_eq_true_of_le (by omega)) rfl hwh1.1 rfl ⟨rfl, fun _ h9 => nomatch h9⟩ ?_
    refine eW_callVH 20 [.ref 5, .ref 1] [] [] rfl rfl rfl rfl (Nat.ble_eq_true_of_le (by omega)) hwh1.2.2.1.1 rfl rfl rfl (g_become (d := d + 4) (g := 5) (o := 1) hwh1.2.2.1 (by omega) hwh1.2.1 (by omega) (by omega)) rfl rfl ?_
    intro h3 fh3
    have oh3 := fh3.2
    have hwh3 : cW h3 X G ((gBec G O)) Q ya yz Ks V y9 T := ⟨gX_k hwh1.1 (oh3 0 (by omega)), gG_k hwh1.2.1 (fun i _ _ => oh3 i (by omega)), fh3.1, gG_k hwh1.2.2.2.1 (fun i _ _ => oh3 i (by omega)), gH_k hwh1.2.2.2.2.1 (fun i _ _ => oh3 i (by omega)), gV_k hwh1.2.2.2.2.2.1 (fun i _ _ => oh3 i (by omega)), gS_k hwh1.2.2.2.2.2.2.1 (oh3 56 (by omega)), gT_k hwh1.2.2.2.2.2.2.2.1 (fun i _ _ => oh3 i (by omega)), gK_k hwh1.2.2.2.2.2.2.2.2 (fun i _ _ => oh3 i (by omega))⟩
    have frh3 : cFr h h3 := fun i hi => (oh3 i (by omega)).trans (frh1 i hi)
    refine eW_aload_n 21 rfl rfl rfl ?_
    refine eW_getfield 24 rfl rfl (Nat.ble_eq_true_of_le (by omega)) rfl hwh3.1 rfl ⟨rfl, fun _ h9 => nomatch h9⟩ ?_
    refine eW_aload_n 25 rfl rfl rfl ?_
    refine eW_getfield 28 rfl rfl (Nat.ble_eq_true_of_le (by omega)) rfl hwh3.1 rfl ⟨rfl, fun _ h9 => nomatch h9⟩ ?_
    refine eW_callVH 31 [.ref 5, .ref 56] [] [] rfl rfl rfl rfl (Nat.ble_eq_true_of_le (by omega)) hwh3.2.2.1.1 rfl rfl rfl (g_make (d := d + 2) (f := 56) hwh3.2.2.1 hIO.1 (by omega) hwh3.2.2.2.2.2.2.1 (by omega) (by omega) hMO.1 hMO.2.1 hM1 hM2 hIO.2.1) rfl rfl ?_
    intro h4 fh4
    have oh4 := fh4.2
    have hwh4 : cW h4 X G ((gMake (gBec G O) y9)) Q ya yz Ks V y9 T := ⟨gX_k hwh3.1 (oh4 0 (by omega)), gG_k hwh3.2.1 (fun i _ _ => oh4 i (by omega)), fh4.1, gG_k hwh3.2.2.2.1 (fun i _ _ => oh4 i (by omega)), gH_k hwh3.2.2.2.2.1 (fun i _ _ => oh4 i (by omega)), gV_k hwh3.2.2.2.2.2.1 (fun i _ _ => oh4 i (by omega)), gS_k hwh3.2.2.2.2.2.2.1 (oh4 56 (by omega)), gT_k hwh3.2.2.2.2.2.2.2.1 (fun i _ _ => oh4 i (by omega)), gK_k hwh3.2.2.2.2.2.2.2.2 (fun i _ _ => oh4 i (by omega))⟩
    have frh4 : cFr h h4 := fun i hi => (oh4 i (by omega)).trans (frh3 i hi)
    refine eW_aload_n 32 rfl rfl rfl ?_
    refine eW_aload_n 33 rfl rfl rfl ?_
    refine eW_getfield 36 rfl rfl (Nat.ble_eq_true_of_le (by omega)) rfl hwh4.1 rfl ⟨rfl, fun _ h9 => nomatch h9⟩ ?_
    refine eW_callV 39 [.ref 0, .ref 5] [] [vI (gSumV V (gMake (gBec G O) y9))] rfl rfl rfl rfl (Nat.ble_eq_true_of_le (by omega)) hwh4.1 rfl rfl rfl (x_sumOf (d := d + 2) hwh4.1 hwh4.2.2.2.2.2.1 hV hN hwh4.2.2.1 hGn (by omega)) rfl rfl ?_
    refine eW_if_ne 42 rfl rfl (by unfold i32; omega) (fun c5 => ?_) (fun c5 => ?_)
    · refine eW_iconst 47 rfl rfl ?_
      refine eW_ret_i rfl rfl (Or.inr (Or.inl ⟨rfl, rfl⟩)) ?_
      exfalso; omega
    · refine eW_iconst 43 rfl rfl ?_
      refine eW_goto rfl ?_
      refine eW_ret_i rfl rfl (Or.inr (Or.inl ⟨rfl, rfl⟩)) ?_
      exact ⟨_, rfl, _, _, hwh4, frh4⟩
  · refine eW_iconst 8 rfl rfl ?_
    refine eW_ret_i rfl rfl (Or.inr (Or.inl ⟨rfl, rfl⟩)) ?_
    have hn9 : gTd G = none := by rcases hgy with ⟨_, e⟩ | ⟨e, _⟩; exact e; exact absurd e (by omega)
    rw [hn9] at fh1
    have e9 : h1 = h := fh1
    rw [e9]
    exact ⟨_, rfl, O, S, hw, fun _ _ => rfl⟩
theorem x_alikeW {d N : Nat} {h : eHp} {X : eXs} {G O Q : eGd} {ya yz : Int} {Ks : Nat → eGd} {V : eVs} {S : Int × Int × Int} {T : eTx} (hw : cW h X G O Q ya yz Ks V S T) (hN : 75 ≤ N) {c : Int} (hI : gI c G) (hVG : gVG V G) (ha : 0 ≤ ya ∧ ya < 8) (hz : 0 ≤ yz ∧ yz ≤ 8) (hTO : gTO T)  : eSp (d + 39) eM_X6_isWinningToldAlike [.ref 0] N h (eChg (some (vI 1)) N (fun h' => cW h' X G O Q ya yz Ks V S T ∧ cFr h h')) := by
  refine eSp_of [(0, .ref 0)] rfl rfl ?_
  have hG := hI.1
  have hG9 := hG
  obtain ⟨g1, g2, g3, g4⟩ := hG9
  have hV := hVG.1.1
  have hVD := hVG.1
  have hs40 := hI.2.2.2.1
  have hsp := gI_pits hI
  have hgc := eD_c (gSm G ≠ 0)
  refine eW_aload_n 1 rfl rfl rfl ?_
  refine eW_getfield 4 rfl rfl (Nat.ble_eq_true_of_le (by omega)) rfl hw.1 rfl ⟨rfl, fun _ h9 => nomatch h9⟩ ?_
  refine eW_callV 7 [.ref 1] [] [vI (gSum G.1 G.2.2.2.1.toNat)] rfl rfl rfl rfl (Nat.ble_eq_true_of_le (by omega)) hw.2.1.1 rfl rfl rfl (g_all (d := d + 35) hw.2.1 hG (by omega)) rfl rfl ?_
  refine eW_bipush 9 rfl rfl 10 rfl ?_
  refine eW_icmp_gt 12 rfl rfl (by unfold i32; omega) (by unfold i32; omega) (fun c1 => ?_) (fun c1 => ?_)
  · refine eW_iconst 31 rfl rfl ?_
    refine eW_goto rfl ?_
    refine eW_ret_i rfl rfl (Or.inr (Or.inl ⟨rfl, rfl⟩)) ?_
    exact ⟨_, rfl, hw, (fun _ _ => rfl)⟩
  · refine eW_aload_n 13 rfl rfl rfl ?_
    refine eW_callV 16 [.ref 0] [] [vI (eB01 (decide (gSm G ≠ 0)))] rfl rfl rfl rfl (Nat.ble_eq_true_of_le (by omega)) hw.1 rfl rfl rfl (by have u := x_wins (d := d + 34) hw.1 hw.2.2.2.2.2.1 hV hN hw.2.1 hG; rw [gSumV_eq hVG.1] at u; exact u) rfl rfl ?_
    refine eW_aload_n 17 rfl rfl rfl ?_
    refine eW_getfield 20 rfl rfl (Nat.ble_eq_true_of_le (by omega)) rfl hw.1 rfl ⟨rfl, fun _ h9 => nomatch h9⟩ ?_
    refine eW_aload_n 21 rfl rfl rfl ?_
    refine eW_getfield 24 rfl rfl (Nat.ble_eq_true_of_le (by omega)) rfl hw.1 rfl ⟨rfl, fun _ h9 => nomatch h9⟩ ?_
    refine eW_callVH 27 [.ref 53, .ref 1] [vI (eB01 (decide (gSm G ≠ 0)))] [vI (eB01 (decide (gSm G ≠ 0))), vI (eB01 (decide (gSm G ≠ 0)))] rfl rfl rfl rfl (Nat.ble_eq_true_of_le (by omega)) (gK_53 hw.2.2.2.2.2.2.2.2) rfl rfl rfl (y_isWon (d := d + 0) hw.2.1 hw.2.2.2.2.2.2.2.2 hN hI (by omega)) rfl rfl ?_
    intro h2 fh2
    have oh2 := fh2.2
    have hwh2 : cW h2 X G O Q ya yz Ks V S T := ⟨gX_k hw.1 (oh2 0 (by omega)), gG_k hw.2.1 (fun i _ _ => oh2 i (by omega)), gG_k hw.2.2.1 (fun i _ _ => oh2 i (by omega)), gG_k hw.2.2.2.1 (fun i _ _ => oh2 i (by omega)), gH_k hw.2.2.2.2.1 (fun i _ _ => oh2 i (by omega)), gV_k hw.2.2.2.2.2.1 (fun i _ _ => oh2 i (by omega)), gS_k hw.2.2.2.2.2.2.1 (oh2 56 (by omega)), gT_k hw.2.2.2.2.2.2.2.1 (fun i _ _ => oh2 i (by omega)), fh2.1⟩
    have frh2 : cFr h h2 := fun i hi => (oh2 i (by omega)).trans ((fun _ _ => rfl) i hi)
    refine eW_icmp_ne 30 rfl rfl (by unfold i32; omega) (by unfold i32; omega) (fun c3 => ?_) (fun c3 => ?_)
    · refine eW_iconst 35 rfl rfl ?_
      refine eW_ret_i rfl rfl (Or.inr (Or.inl ⟨rfl, rfl⟩)) ?_
      exfalso; omega
    · refine eW_iconst 31 rfl rfl ?_
      refine eW_goto rfl ?_
      refine eW_ret_i rfl rfl (Or.inr (Or.inl ⟨rfl, rfl⟩)) ?_
      exact ⟨_, rfl, hwh2, frh2⟩
theorem x_well {d N : Nat} {h : eHp} {X : eXs} {G O Q : eGd} {ya yz : Int} {Ks : Nat → eGd} {V : eVs} {S : Int × Int × Int} {T : eTx} (hw : cW h X G O Q ya yz Ks V S T) (hN : 75 ≤ N) {c : Int} (hI : gI c G) (hVG : gVG V G) (ha : 0 ≤ ya ∧ ya < 8) (hz : 0 ≤ yz ∧ yz ≤ 8) (hTO : gTO T) (hc : c ≤ 16000) : eSp (d + 40) eM_X6_isWell [.ref 0] N h (cA (.inl 1) N h (fun h' => ∃ O' S', cW h' X G O' Q ya yz Ks V S' T)) := by
  refine eSp_of [(0, .ref 0)] rfl rfl ?_
  have hG := hI.1
  have hG9 := hG
  obtain ⟨g1, g2, g3, g4⟩ := hG9
  have hV := hVG.1.1
  have hVD := hVG.1
  refine eW_aload_n 1 rfl rfl rfl ?_
  refine eW_getfield 4 rfl rfl (Nat.ble_eq_true_of_le (by omega)) rfl hw.1 rfl ⟨rfl, fun _ h9 => nomatch h9⟩ ?_
  refine eW_callV 7 [.ref 47] [] [vI 1] rfl rfl rfl rfl (Nat.ble_eq_true_of_le (by omega)) hw.2.2.2.2.2.1.1 rfl rfl rfl (by have u := v_alike (d := d + 38) (N := N) (v := 47) hw.2.2.2.2.2.1 hV (by omega); rw [gAlike_ok hVG.1] at u; exact u) rfl rfl ?_
  refine eW_if_eq 10 rfl rfl (by unfold i32; omega) (fun c1 => absurd c1 (by omega)) (fun c1 => ?_)
  refine eW_aload_n 11 rfl rfl rfl ?_
  refine eW_callV 14 [.ref 0] [] [vI 1] rfl rfl rfl rfl (Nat.ble_eq_true_of_le (by omega)) hw.1 rfl rfl rfl (x_known (d := d + 35) hw hN hI hVG ha hz hTO hc) rfl rfl ?_
  refine eW_if_eq 17 rfl rfl (by unfold i32; omega) (fun c2 => absurd c2 (by omega)) (fun c2 => ?_)
  refine eW_aload_n 18 rfl rfl rfl ?_
  refine eW_callVH 21 [.ref 0] [] [vI 1] rfl rfl rfl rfl (Nat.ble_eq_true_of_le (by omega)) hw.1 rfl rfl rfl (x_toldR (d := d + 33) hw hN hI hVG ha hz hTO) rfl rfl ?_
  intro h3 fh3
  obtain ⟨O1, S1, hwh3, gh3⟩ := fh3
  have hwh3 : cW h3 X G O1 Q ya yz Ks V S1 T := hwh3
  have frh3 : cFr h h3 := fun i hi => (gh3 i hi).trans ((fun _ _ => rfl) i hi)
  refine eW_if_eq 24 rfl rfl (by unfold i32; omega) (fun c4 => absurd c4 (by omega)) (fun c4 => ?_)
  refine eW_aload_n 25 rfl rfl rfl ?_
  refine eW_callVH 28 [.ref 0] [] [vI 1] rfl rfl rfl rfl (Nat.ble_eq_true_of_le (by omega)) hwh3.1 rfl rfl rfl (x_alikeW (d := d + 0) hwh3 hN hI hVG ha hz hTO) rfl rfl ?_
  intro h5 fh5
  obtain ⟨hwh5, gh5⟩ := fh5
  have hwh5 : cW h5 X G O1 Q ya yz Ks V S1 T := hwh5
  have frh5 : cFr h h5 := fun i hi => (gh5 i hi).trans (frh3 i hi)
  refine eW_if_eq 31 rfl rfl (by unfold i32; omega) (fun c6 => absurd c6 (by omega)) (fun c6 => ?_)
  refine eW_iconst 32 rfl rfl ?_
  refine eW_goto rfl ?_
  refine eW_ret_i rfl rfl (Or.inr (Or.inl ⟨rfl, rfl⟩)) ?_
  exact cA_i rfl frh5 ⟨O1, S1, hwh5⟩
