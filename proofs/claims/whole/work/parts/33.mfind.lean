theorem m_leftBy {d N : Nat} {h : eHp} {s : Nat → Int} {A : Nat → Nat → Int} (hm : mM h s A) (hN : 75 ≤ N) {G : eGd} (hr : rR G (A 0)) (hG : gOk G) {m t n : Int} (hm0 : 0 ≤ m ∧ m ≤ 40) (ht : 1 ≤ t ∧ t ≤ 6) (hn : 0 ≤ n ∧ n ≤ 1000) : eSp (d + 1) eM_X7_leftBy [.ref 63, vI m, vI t, vI n] N h (eRet (some (vI (gLb (gDig G) m t n))) N h) := by
  refine eSp_of [(0, .ref 63), (1, vI m), (2, vI t), (3, vI n)] rfl rfl ?_
  have hd := gDig_le hG t
  refine eW_iload_n 1 rfl rfl rfl ?_
  refine eW_iload_n 2 rfl rfl rfl ?_
  refine eW_icmp_ne 5 rfl rfl (by unfold i32; omega) (by unfold i32; omega) (fun c1 => ?_) (fun c1 => ?_)
  · refine eW_aload_n 8 rfl rfl rfl ?_
    refine eW_getfield 11 rfl rfl (Nat.ble_eq_true_of_le (by omega)) rfl hm.1 rfl ⟨rfl, fun _ h9 => nomatch h9⟩ ?_
    refine eW_bipush 13 rfl rfl 7 rfl ?_
    refine eW_iload_n 14 rfl rfl rfl ?_
    refine eW_iadd 15 rfl rfl ?_
    refine eW_iaload 16 rfl rfl (gDig G t) (Nat.ble_eq_true_of_le (by omega)) (show h 64 = .inl (0, 62, .inl (eIA (A 0))) from hm.2.1) (by omega) (by omega) (by unfold i32; omega) (rR_d hr (by omega) (by omega)) ?_
    refine eW_iconst 17 rfl rfl ?_
    refine eW_iand 18 rfl rfl ((gDig G t) / 4 % 2 * 4) (eAnd4 hd.1 hd.2) ?_
    refine eW_if_le 21 rfl rfl (by unfold i32; omega) (fun c2 => ?_) (fun c2 => ?_)
    · refine eW_iload_n 37 rfl rfl rfl ?_
      refine eW_iload_n 38 rfl rfl rfl ?_
      refine eW_isub 39 rfl rfl ?_
      refine eW_ret_i rfl rfl (Or.inl rfl) ?_
      refine eRet_i ?_
      unfold gLb
      first | (rw [if_pos (by omega)]) | (rw [if_neg (by omega), if_pos (by omega)]) | (rw [if_neg (by omega), if_neg (by omega)])
    · refine eW_iload_n 22 rfl rfl rfl ?_
      refine eW_iload_n 23 rfl rfl rfl ?_
      refine eW_iload_n 24 rfl rfl rfl ?_
      refine eW_isub 25 rfl rfl ?_
      refine eW_iconst 26 rfl rfl ?_
      refine eW_isub 27 rfl rfl ?_
      refine eW_icmp_ge 30 rfl rfl (by unfold i32; omega) (by unfold i32; omega) (fun c3 => ?_) (fun c3 => ?_)
      · refine eW_iload_n 37 rfl rfl rfl ?_
        refine eW_iload_n 38 rfl rfl rfl ?_
        refine eW_isub 39 rfl rfl ?_
        refine eW_ret_i rfl rfl (Or.inl rfl) ?_
        refine eRet_i ?_
        unfold gLb
        first | (rw [if_pos (by omega)]) | (rw [if_neg (by omega), if_pos (by omega)]) | (rw [if_neg (by omega), if_neg (by omega)])
      · refine eW_iload_n 31 rfl rfl rfl ?_
        refine eW_iconst 32 rfl rfl ?_
        refine eW_iadd 33 rfl rfl ?_
        refine eW_goto rfl ?_
        refine eW_ret_i rfl rfl (Or.inl rfl) ?_
        refine eRet_i ?_
        unfold gLb
        first | (rw [if_pos (by omega)]) | (rw [if_neg (by omega), if_pos (by omega)]) | (rw [if_neg (by omega), if_neg (by omega)])
  · refine eW_iconst 6 rfl rfl ?_
    refine eW_ret_i rfl rfl (Or.inl rfl) ?_
    refine eRet_i ?_
    unfold gLb
    first | (rw [if_pos (by omega)]) | (rw [if_neg (by omega), if_pos (by omega)]) | (rw [if_neg (by omega), if_neg (by omega)])
/-- found: the three fields, if there is one -/
def mFo (h : eHp) (s : Nat → Int) (A : Nat → Nat → Int) (r : Option (Int × Int × Int)) : eHp → Prop := fun h' => ∃ a b c, mD h (sUp (sUp (sUp s 17 a) 18 b) 19 c) A h' ∧ ∀ x, r = some x → x = (a, b, c)
theorem gAt_t {G : eGd} {c : Int} (h : 0 ≤ c) : gAt G c = (lS G)[c.toNat]? := by unfold gAt; rw [decide_eq_true h]
theorem gAt_f {G : eGd} {c : Int} (h : c < 0) : gAt G c = none := by unfold gAt; rw [decide_eq_false (by omega)]
theorem gYes_s {α : Type} {r : Option α} {x : α} (h : r = some x) : gYes r = 1 := by rw [h]; rfl
theorem gYes_n {α : Type} {r : Option α} (h : r = none) : gYes r = 0 := by rw [h]; rfl
theorem lT_cons {D : Int → Int} {m t : Int} (h : t ≤ 6) : lT D m t (7 - t).toNat = (lL D m t 0 (m - t + 1).toNat).map (fun l => (t, l)) ++ lT D m (t + 1) (7 - (t + 1)).toNat := by
  rw [show (7 - t).toNat = (7 - (t + 1)).toNat + 1 by omega]; rfl
theorem lP_cons {G : eGd} {p : Int} (h : p < G.2.2.2.1) : lP G p (G.2.2.2.1 - p).toNat = (lT (gDig G) (G.1 p.toNat) 1 6).map (fun q => (p, q)) ++ lP G (p + 1) (G.2.2.2.1 - (p + 1)).toNat := by
  rw [show (G.2.2.2.1 - p).toNat = (G.2.2.2.1 - (p + 1)).toNat + 1 by omega]; rfl
theorem m_found_t {d N k z : Nat} {h : eHp} {s : Nat → Int} {A : Nat → Nat → Int} (hm : mM h s A) (hN : 75 ≤ N) {P : eR → Prop} {c : Int} {G : eGd} (hr : rR G (A 0)) (hI : gI c G) {c9 p9 : Int} (hk : 0 ≤ p9 ∧ p9 < G.2.2.2.1) {L : List (Int × Int × Int)} {R : Option (Int × Int × Int)} (hfd : ∀ x h2, R = some x → mD h (sUp (sUp (sUp s 17 x.1) 18 x.2.1) 19 x.2.2) A h2 → P (.inl (some (vI 1)), N, h2, k, z)) : ∀ (m9 : Nat) (n t : Int), 7 - t ≤ m9 → 1 ≤ t ∧ t ≤ 7 → 0 ≤ n ∧ n ≤ 2147483647 → ((lT (gDig G) (G.1 p9.toNat) t (7 - t).toNat).map (fun q => (p9, q)) ++ L)[n.toNat]? = R → (∀ (n : Int), 0 ≤ n ∧ n ≤ 2147483647 → L[n.toNat]? = R → eWp eOx (eEv (d + 2)) eM_X7_isFound (87, [(0, .ref 63), (1, vI c9), (2, vI n), (3, vI p9)], [], N, h, k, z) P) → eWp eOx (eEv (d + 2)) eM_X7_isFound (21, [(0, .ref 63), (1, vI c9), (2, vI n), (3, vI p9), (4, vI t)], [], N, h, k, z) P := by
  intro m9
  induction m9 with
  | zero =>
    intro n t hm9 q0 q1 q2 kk
    have hG := hI.1
    have hG9 := hG
    obtain ⟨g1, g2, g3, g4⟩ := hG9
    have hmk := hI.2.2.1 p9.toNat (by omega)
    have hlw := lL_wy (D := gDig G) (m := G.1 p9.toNat) (t := t)
    refine eW_iload 23 rfl rfl rfl ?_
    refine eW_bipush 25 rfl rfl 6 rfl ?_
    refine eW_icmp_gt 28 rfl rfl (by unfold i32; omega) (by unfold i32; omega) (fun c1 => ?_) (fun c1 => ?_)
    · refine eW_re [(0, .ref 63), (1, vI c9), (2, vI n), (3, vI p9)] rfl rfl (List.forall_mem_cons.mpr ⟨rfl, List.forall_mem_cons.mpr ⟨rfl, List.forall_mem_cons.mpr ⟨rfl, List.forall_mem_cons.mpr ⟨rfl, fun _ h => absurd h List.not_mem_nil⟩⟩⟩⟩) (List.forall_mem_cons.mpr ⟨Or.inl rfl, List.forall_mem_cons.mpr ⟨Or.inl rfl, List.forall_mem_cons.mpr ⟨Or.inl rfl, List.forall_mem_cons.mpr ⟨Or.inl rfl, List.forall_mem_cons.mpr ⟨Or.inr ⟨_, rfl⟩, fun _ h => absurd h List.not_mem_nil⟩⟩⟩⟩⟩) ?_
      refine kk n q1 ?_
      rw [← q2, show (7 - t).toNat = 0 by omega]; rfl
    · refine eW_aload_n 29 rfl rfl rfl ?_
      refine eW_aload_n 30 rfl rfl rfl ?_
      refine eW_iload_n 31 rfl rfl rfl ?_
      have hmbq2 := g3 p9.toNat (by omega)
      refine eW_callV 34 [.ref 63, vI p9] [.ref 63] [vI (G.1 p9.toNat), .ref 63] rfl rfl rfl rfl (Nat.ble_eq_true_of_le (by omega)) hm.1 rfl rfl rfl (m_marbles (d := d + 1) hm hN hr hG (by omega)) rfl rfl ?_
      refine eW_iload 36 rfl rfl rfl ?_
      have hwyq3 := gWy_le (D := gDig G) (n := G.1 p9.toNat) (t := t) (by omega) (by omega)
      refine eW_callV 39 [.ref 63, vI (G.1 p9.toNat), vI t] [] [vI (gWy (gDig G) (G.1 p9.toNat) t)] rfl rfl rfl rfl (Nat.ble_eq_true_of_le (by omega)) hm.1 rfl rfl rfl (m_ways (d := d + 1) hm hN hr hG (by omega) (by omega)) rfl rfl ?_
      refine eW_istore 41 rfl rfl [(5, vI (gWy (gDig G) (G.1 p9.toNat) t)), (0, .ref 63), (1, vI c9), (2, vI n), (3, vI p9), (4, vI t)] rfl rfl ?_
      refine eW_iload_n 42 rfl rfl rfl ?_
      refine eW_iload 44 rfl rfl rfl ?_
      refine eW_icmp_ge 47 rfl rfl (by unfold i32; omega) (by unfold i32; omega) (fun c4 => ?_) (fun c4 => ?_)
      · refine eW_iload_n 77 rfl rfl rfl ?_
        refine eW_iload 79 rfl rfl rfl ?_
        refine eW_isub 80 rfl rfl ?_
        refine eW_istore_n 81 rfl rfl [(2, vI (n - (gWy (gDig G) (G.1 p9.toNat) t))), (5, vI (gWy (gDig G) (G.1 p9.toNat) t)), (0, .ref 63), (1, vI c9), (3, vI p9), (4, vI t)] rfl rfl ?_
        refine eW_iinc 84 rfl rfl [(4, vI (t + 1)), (2, vI (n - (gWy (gDig G) (G.1 p9.toNat) t))), (5, vI (gWy (gDig G) (G.1 p9.toNat) t)), (0, .ref 63), (1, vI c9), (3, vI p9)] rfl rfl rfl ?_
        refine eW_goto rfl ?_
        refine eW_re [(0, .ref 63), (1, vI c9), (2, vI (n - (gWy (gDig G) (G.1 p9.toNat) t))), (3, vI p9), (4, vI (t + 1))] rfl rfl (List.forall_mem_cons.mpr ⟨rfl, List.forall_mem_cons.mpr ⟨rfl, List.forall_mem_cons.mpr ⟨rfl, List.forall_mem_cons.mpr ⟨rfl, List.forall_mem_cons.mpr ⟨rfl, fun _ h => absurd h List.not_mem_nil⟩⟩⟩⟩⟩) (List.forall_mem_cons.mpr ⟨Or.inl rfl, List.forall_mem_cons.mpr ⟨Or.inl rfl, List.forall_mem_cons.mpr ⟨Or.inr ⟨_, rfl⟩, List.forall_mem_cons.mpr ⟨Or.inl rfl, List.forall_mem_cons.mpr ⟨Or.inl rfl, List.forall_mem_cons.mpr ⟨Or.inl rfl, fun _ h => absurd h List.not_mem_nil⟩⟩⟩⟩⟩⟩) ?_
        exact absurd hm9 (by omega)
      · refine eW_aload_n 48 rfl rfl rfl ?_
        refine eW_iload_n 49 rfl rfl rfl ?_
        refine eW_putfield 52 [.ref 64, .ref 65, .ref 66, .ref 67, vI (s 4), vI (s 5), vI (s 6), vI (s 7), vI (s 8), vI (s 9), .ref 68, vI (s 11), vI (s 12), .ref 69, vI (s 14), .ref 70, .ref 71, vI p9, vI (s 18), vI (s 19), vI (s 20), .ref 72, vI (s 22)] rfl rfl (Nat.ble_eq_true_of_le (by omega)) rfl hm.1 rfl rfl ?_
        intro h5 eh5 oh5
        have hmh5 : mM h5 (sUp s 17 p9) A := mM_s (s := s) hm eh5 oh5
        have frh5 : mFr h h5 := mFr_s (fun _ _ => rfl) oh5
        refine eW_aload_n 53 rfl rfl rfl ?_
        refine eW_iload 55 rfl rfl rfl ?_
        refine eW_putfield 58 [.ref 64, .ref 65, .ref 66, .ref 67, vI (s 4), vI (s 5), vI (s 6), vI (s 7), vI (s 8), vI (s 9), .ref 68, vI (s 11), vI (s 12), .ref 69, vI (s 14), .ref 70, .ref 71, vI p9, vI t, vI (s 19), vI (s 20), .ref 72, vI (s 22)] rfl rfl (Nat.ble_eq_true_of_le (by omega)) rfl (show h5 63 = .inr (11, [.ref 64, .ref 65, .ref 66, .ref 67, vI (s 4), vI (s 5), vI (s 6), vI (s 7), vI (s 8), vI (s 9), .ref 68, vI (s 11), vI (s 12), .ref 69, vI (s 14), .ref 70, .ref 71, vI p9, vI (s 18), vI (s 19), vI (s 20), .ref 72, vI (s 22)]) from hmh5.1) rfl rfl ?_
        intro h6 eh6 oh6
        have hmh6 : mM h6 (sUp (sUp s 17 p9) 18 t) A := mM_s (s := (sUp s 17 p9)) hmh5 eh6 oh6
        have frh6 : mFr h h6 := mFr_s frh5 oh6
        refine eW_aload_n 59 rfl rfl rfl ?_
        refine eW_aload_n 60 rfl rfl rfl ?_
        refine eW_aload_n 61 rfl rfl rfl ?_
        refine eW_iload_n 62 rfl rfl rfl ?_
        have hmbq7 := g3 p9.toNat (by omega)
        refine eW_callV 65 [.ref 63, vI p9] [.ref 63, .ref 63] [vI (G.1 p9.toNat), .ref 63, .ref 63] rfl rfl rfl rfl (Nat.ble_eq_true_of_le (by omega)) (show h6 63 = .inr (11, [.ref 64, .ref 65, .ref 66, .ref 67, vI (s 4), vI (s 5), vI (s 6), vI (s 7), vI (s 8), vI (s 9), .ref 68, vI (s 11), vI (s 12), .ref 69, vI (s 14), .ref 70, .ref 71, vI p9, vI t, vI (s 19), vI (s 20), .ref 72, vI (s 22)]) from hmh6.1) rfl rfl rfl (m_marbles (d := d + 1) hmh6 hN hr hG (by omega)) rfl rfl ?_
        refine eW_iload 67 rfl rfl rfl ?_
        refine eW_iload_n 68 rfl rfl rfl ?_
        refine eW_callV 71 [.ref 63, vI (G.1 p9.toNat), vI t, vI n] [.ref 63] [vI (gLb (gDig G) (G.1 p9.toNat) t n), .ref 63] rfl rfl rfl rfl (Nat.ble_eq_true_of_le (by omega)) (show h6 63 = .inr (11, [.ref 64, .ref 65, .ref 66, .ref 67, vI (s 4), vI (s 5), vI (s 6), vI (s 7), vI (s 8), vI (s 9), .ref 68, vI (s 11), vI (s 12), .ref 69, vI (s 14), .ref 70, .ref 71, vI p9, vI t, vI (s 19), vI (s 20), .ref 72, vI (s 22)]) from hmh6.1) rfl rfl rfl (m_leftBy (d := d + 1) hmh6 hN hr hG (by omega) (by omega) (by omega)) rfl rfl ?_
        refine eW_putfield 74 [.ref 64, .ref 65, .ref 66, .ref 67, vI (s 4), vI (s 5), vI (s 6), vI (s 7), vI (s 8), vI (s 9), .ref 68, vI (s 11), vI (s 12), .ref 69, vI (s 14), .ref 70, .ref 71, vI p9, vI t, vI (gLb (gDig G) (G.1 p9.toNat) t n), vI (s 20), .ref 72, vI (s 22)] rfl rfl (Nat.ble_eq_true_of_le (by omega)) rfl (show h6 63 = .inr (11, [.ref 64, .ref 65, .ref 66, .ref 67, vI (s 4), vI (s 5), vI (s 6), vI (s 7), vI (s 8), vI (s 9), .ref 68, vI (s 11), vI (s 12), .ref 69, vI (s 14), .ref 70, .ref 71, vI p9, vI t, vI (s 19), vI (s 20), .ref 72, vI (s 22)]) from hmh6.1) rfl rfl ?_
        intro h8 eh8 oh8
        have hmh8 : mM h8 (sUp (sUp (sUp s 17 p9) 18 t) 19 (gLb (gDig G) (G.1 p9.toNat) t n)) A := mM_s (s := (sUp (sUp s 17 p9) 18 t)) hmh6 eh8 oh8
        have frh8 : mFr h h8 := mFr_s frh6 oh8
        refine eW_iconst 75 rfl rfl ?_
        refine eW_ret_i rfl rfl (Or.inr (Or.inl ⟨rfl, rfl⟩)) ?_
        exact hfd (p9, t, gLb (gDig G) (G.1 p9.toNat) t n) _ (by rw [← q2, List.getElem?_append, if_pos (by rw [List.length_map, lT_cons (t := t) (by omega), List.length_append, List.length_map]; omega), lT_cons (t := t) (by omega), List.map_append, List.getElem?_append, if_pos (by rw [List.length_map, List.length_map]; omega), List.getElem?_map, List.getElem?_map, lL_at (by omega) (by omega) (by omega)]; rfl) ⟨hmh8, frh8⟩
  | succ m9 ih =>
    intro n t hm9 q0 q1 q2 kk
    have hG := hI.1
    have hG9 := hG
    obtain ⟨g1, g2, g3, g4⟩ := hG9
    have hmk := hI.2.2.1 p9.toNat (by omega)
    have hlw := lL_wy (D := gDig G) (m := G.1 p9.toNat) (t := t)
    refine eW_iload 23 rfl rfl rfl ?_
    refine eW_bipush 25 rfl rfl 6 rfl ?_
    refine eW_icmp_gt 28 rfl rfl (by unfold i32; omega) (by unfold i32; omega) (fun c1 => ?_) (fun c1 => ?_)
    · refine eW_re [(0, .ref 63), (1, vI c9), (2, vI n), (3, vI p9)] rfl rfl (List.forall_mem_cons.mpr ⟨rfl, List.forall_mem_cons.mpr ⟨rfl, List.forall_mem_cons.mpr ⟨rfl, List.forall_mem_cons.mpr ⟨rfl, fun _ h => absurd h List.not_mem_nil⟩⟩⟩⟩) (List.forall_mem_cons.mpr ⟨Or.inl rfl, List.forall_mem_cons.mpr ⟨Or.inl rfl, List.forall_mem_cons.mpr ⟨Or.inl rfl, List.forall_mem_cons.mpr ⟨Or.inl rfl, List.forall_mem_cons.mpr ⟨Or.inr ⟨_, rfl⟩, fun _ h => absurd h List.not_mem_nil⟩⟩⟩⟩⟩) ?_
      refine kk n q1 ?_
      rw [← q2, show (7 - t).toNat = 0 by omega]; rfl
    · refine eW_aload_n 29 rfl rfl rfl ?_
      refine eW_aload_n 30 rfl rfl rfl ?_
      refine eW_iload_n 31 rfl rfl rfl ?_
      have hmbq2 := g3 p9.toNat (by omega)
      refine eW_callV 34 [.ref 63, vI p9] [.ref 63] [vI (G.1 p9.toNat), .ref 63] rfl rfl rfl rfl (Nat.ble_eq_true_of_le (by omega)) hm.1 rfl rfl rfl (m_marbles (d := d + 1) hm hN hr hG (by omega)) rfl rfl ?_
      refine eW_iload 36 rfl rfl rfl ?_
      have hwyq3 := gWy_le (D := gDig G) (n := G.1 p9.toNat) (t := t) (by omega) (by omega)
      refine eW_callV 39 [.ref 63, vI (G.1 p9.toNat), vI t] [] [vI (gWy (gDig G) (G.1 p9.toNat) t)] rfl rfl rfl rfl (Nat.ble_eq_true_of_le (by omega)) hm.1 rfl rfl rfl (m_ways (d := d + 1) hm hN hr hG (by omega) (by omega)) rfl rfl ?_
      refine eW_istore 41 rfl rfl [(5, vI (gWy (gDig G) (G.1 p9.toNat) t)), (0, .ref 63), (1, vI c9), (2, vI n), (3, vI p9), (4, vI t)] rfl rfl ?_
      refine eW_iload_n 42 rfl rfl rfl ?_
      refine eW_iload 44 rfl rfl rfl ?_
      refine eW_icmp_ge 47 rfl rfl (by unfold i32; omega) (by unfold i32; omega) (fun c4 => ?_) (fun c4 => ?_)
      · refine eW_iload_n 77 rfl rfl rfl ?_
        refine eW_iload 79 rfl rfl rfl ?_
        refine eW_isub 80 rfl rfl ?_
        refine eW_istore_n 81 rfl rfl [(2, vI (n - (gWy (gDig G) (G.1 p9.toNat) t))), (5, vI (gWy (gDig G) (G.1 p9.toNat) t)), (0, .ref 63), (1, vI c9), (3, vI p9), (4, vI t)] rfl rfl ?_
        refine eW_iinc 84 rfl rfl [(4, vI (t + 1)), (2, vI (n - (gWy (gDig G) (G.1 p9.toNat) t))), (5, vI (gWy (gDig G) (G.1 p9.toNat) t)), (0, .ref 63), (1, vI c9), (3, vI p9)] rfl rfl rfl ?_
        refine eW_goto rfl ?_
        refine eW_re [(0, .ref 63), (1, vI c9), (2, vI (n - (gWy (gDig G) (G.1 p9.toNat) t))), (3, vI p9), (4, vI (t + 1))] rfl rfl (List.forall_mem_cons.mpr ⟨rfl, List.forall_mem_cons.mpr ⟨rfl, List.forall_mem_cons.mpr ⟨rfl, List.forall_mem_cons.mpr ⟨rfl, List.forall_mem_cons.mpr ⟨rfl, fun _ h => absurd h List.not_mem_nil⟩⟩⟩⟩⟩) (List.forall_mem_cons.mpr ⟨Or.inl rfl, List.forall_mem_cons.mpr ⟨Or.inl rfl, List.forall_mem_cons.mpr ⟨Or.inr ⟨_, rfl⟩, List.forall_mem_cons.mpr ⟨Or.inl rfl, List.forall_mem_cons.mpr ⟨Or.inl rfl, List.forall_mem_cons.mpr ⟨Or.inl rfl, fun _ h => absurd h List.not_mem_nil⟩⟩⟩⟩⟩⟩) ?_
        refine ih _ (t + 1) (by omega) (by omega) (by omega) ?_ kk
        have e9 : (List.map (fun q => (p9, q)) (List.map (fun l => (t, l)) (lL (gDig G) (G.1 p9.toNat) t 0 (G.1 p9.toNat - t + 1).toNat))).length ≤ n.toNat := by rw [List.length_map, List.length_map]; omega
        rw [← q2, lT_cons (t := t) (by omega), List.map_append, List.append_assoc, List.getElem?_append_right e9, List.length_map, List.length_map]
        congr 1
        omega
      · refine eW_aload_n 48 rfl rfl rfl ?_
        refine eW_iload_n 49 rfl rfl rfl ?_
        refine eW_putfield 52 [.ref 64, .ref 65, .ref 66, .ref 67, vI (s 4), vI (s 5), vI (s 6), vI (s 7), vI (s 8), vI (s 9), .ref 68, vI (s 11), vI (s 12), .ref 69, vI (s 14), .ref 70, .ref 71, vI p9, vI (s 18), vI (s 19), vI (s 20), .ref 72, vI (s 22)] rfl rfl (Nat.ble_eq_true_of_le (by omega)) rfl hm.1 rfl rfl ?_
        intro h5 eh5 oh5
        have hmh5 : mM h5 (sUp s 17 p9) A := mM_s (s := s) hm eh5 oh5
        have frh5 : mFr h h5 := mFr_s (fun _ _ => rfl) oh5
        refine eW_aload_n 53 rfl rfl rfl ?_
        refine eW_iload 55 rfl rfl rfl ?_
        refine eW_putfield 58 [.ref 64, .ref 65, .ref 66, .ref 67, vI (s 4), vI (s 5), vI (s 6), vI (s 7), vI (s 8), vI (s 9), .ref 68, vI (s 11), vI (s 12), .ref 69, vI (s 14), .ref 70, .ref 71, vI p9, vI t, vI (s 19), vI (s 20), .ref 72, vI (s 22)] rfl rfl (Nat.ble_eq_true_of_le (by omega)) rfl (show h5 63 = .inr (11, [.ref 64, .ref 65, .ref 66, .ref 67, vI (s 4), vI (s 5), vI (s 6), vI (s 7), vI (s 8), vI (s 9), .ref 68, vI (s 11), vI (s 12), .ref 69, vI (s 14), .ref 70, .ref 71, vI p9, vI (s 18), vI (s 19), vI (s 20), .ref 72, vI (s 22)]) from hmh5.1) rfl rfl ?_
        intro h6 eh6 oh6
        have hmh6 : mM h6 (sUp (sUp s 17 p9) 18 t) A := mM_s (s := (sUp s 17 p9)) hmh5 eh6 oh6
        have frh6 : mFr h h6 := mFr_s frh5 oh6
        refine eW_aload_n 59 rfl rfl rfl ?_
        refine eW_aload_n 60 rfl rfl rfl ?_
        refine eW_aload_n 61 rfl rfl rfl ?_
        refine eW_iload_n 62 rfl rfl rfl ?_
        have hmbq7 := g3 p9.toNat (by omega)
        refine eW_callV 65 [.ref 63, vI p9] [.ref 63, .ref 63] [vI (G.1 p9.toNat), .ref 63, .ref 63] rfl rfl rfl rfl (Nat.ble_eq_true_of_le (by omega)) (show h6 63 = .inr (11, [.ref 64, .ref 65, .ref 66, .ref 67, vI (s 4), vI (s 5), vI (s 6), vI (s 7), vI (s 8), vI (s 9), .ref 68, vI (s 11), vI (s 12), .ref 69, vI (s 14), .ref 70, .ref 71, vI p9, vI t, vI (s 19), vI (s 20), .ref 72, vI (s 22)]) from hmh6.1) rfl rfl rfl (m_marbles (d := d + 1) hmh6 hN hr hG (by omega)) rfl rfl ?_
        refine eW_iload 67 rfl rfl rfl ?_
        refine eW_iload_n 68 rfl rfl rfl ?_
        refine eW_callV 71 [.ref 63, vI (G.1 p9.toNat), vI t, vI n] [.ref 63] [vI (gLb (gDig G) (G.1 p9.toNat) t n), .ref 63] rfl rfl rfl rfl (Nat.ble_eq_true_of_le (by omega)) (show h6 63 = .inr (11, [.ref 64, .ref 65, .ref 66, .ref 67, vI (s 4), vI (s 5), vI (s 6), vI (s 7), vI (s 8), vI (s 9), .ref 68, vI (s 11), vI (s 12), .ref 69, vI (s 14), .ref 70, .ref 71, vI p9, vI t, vI (s 19), vI (s 20), .ref 72, vI (s 22)]) from hmh6.1) rfl rfl rfl (m_leftBy (d := d + 1) hmh6 hN hr hG (by omega) (by omega) (by omega)) rfl rfl ?_
        refine eW_putfield 74 [.ref 64, .ref 65, .ref 66, .ref 67, vI (s 4), vI (s 5), vI (s 6), vI (s 7), vI (s 8), vI (s 9), .ref 68, vI (s 11), vI (s 12), .ref 69, vI (s 14), .ref 70, .ref 71, vI p9, vI t, vI (gLb (gDig G) (G.1 p9.toNat) t n), vI (s 20), .ref 72, vI (s 22)] rfl rfl (Nat.ble_eq_true_of_le (by omega)) rfl (show h6 63 = .inr (11, [.ref 64, .ref 65, .ref 66, .ref 67, vI (s 4), vI (s 5), vI (s 6), vI (s 7), vI (s 8), vI (s 9), .ref 68, vI (s 11), vI (s 12), .ref 69, vI (s 14), .ref 70, .ref 71, vI p9, vI t, vI (s 19), vI (s 20), .ref 72, vI (s 22)]) from hmh6.1) rfl rfl ?_
        intro h8 eh8 oh8
        have hmh8 : mM h8 (sUp (sUp (sUp s 17 p9) 18 t) 19 (gLb (gDig G) (G.1 p9.toNat) t n)) A := mM_s (s := (sUp (sUp s 17 p9) 18 t)) hmh6 eh8 oh8
        have frh8 : mFr h h8 := mFr_s frh6 oh8
        refine eW_iconst 75 rfl rfl ?_
        refine eW_ret_i rfl rfl (Or.inr (Or.inl ⟨rfl, rfl⟩)) ?_
        exact hfd (p9, t, gLb (gDig G) (G.1 p9.toNat) t n) _ (by rw [← q2, List.getElem?_append, if_pos (by rw [List.length_map, lT_cons (t := t) (by omega), List.length_append, List.length_map]; omega), lT_cons (t := t) (by omega), List.map_append, List.getElem?_append, if_pos (by rw [List.length_map, List.length_map]; omega), List.getElem?_map, List.getElem?_map, lL_at (by omega) (by omega) (by omega)]; rfl) ⟨hmh8, frh8⟩
theorem m_found_p {d N k z : Nat} {h : eHp} {s : Nat → Int} {A : Nat → Nat → Int} (hm : mM h s A) (hN : 75 ≤ N) {P : eR → Prop} {c : Int} {G : eGd} (hr : rR G (A 0)) (hI : gI c G) {c9 : Int} (hc : i32 c9) (hc0 : 0 ≤ c9) {R : Option (Int × Int × Int)} (hfd : ∀ x h2, R = some x → mD h (sUp (sUp (sUp s 17 x.1) 18 x.2.1) 19 x.2.2) A h2 → P (.inl (some (vI 1)), N, h2, k, z)) (hnf : R = none → P (.inl (some (vI 0)), N, h, k, z)) : ∀ (m9 : Nat) (n p9 : Int), G.2.2.2.1 - p9 ≤ m9 → 0 ≤ p9 ∧ p9 ≤ G.2.2.2.1 → 0 ≤ n ∧ n ≤ 2147483647 → (lP G p9 (G.2.2.2.1 - p9).toNat)[n.toNat]? = R → eWp eOx (eEv (d + 2)) eM_X7_isFound (4, [(0, .ref 63), (1, vI c9), (2, vI n), (3, vI p9)], [], N, h, k, z) P := by
  intro m9
  induction m9 with
  | zero =>
    intro n p9 hm9 q0 q1 q2
    have hG := hI.1
    have hG9 := hG
    obtain ⟨g1, g2, g3, g4⟩ := hG9
    unfold i32 at hc
    refine eW_iload_n 5 rfl rfl rfl ?_
    refine eW_if_lt 8 rfl rfl (by unfold i32; omega) (fun c1 => absurd c1 (by omega)) (fun c1 => ?_)
    refine eW_iload_n 9 rfl rfl rfl ?_
    refine eW_aload_n 10 rfl rfl rfl ?_
    refine eW_getfield 13 rfl rfl (Nat.ble_eq_true_of_le (by omega)) rfl hm.1 rfl ⟨rfl, fun _ h9 => nomatch h9⟩ ?_
    refine eW_iconst 14 rfl rfl ?_
    refine eW_iaload 15 rfl rfl G.2.2.2.1 (Nat.ble_eq_true_of_le (by omega)) (show h 64 = .inl (0, 62, .inl (eIA (A 0))) from hm.2.1) (by omega) (by omega) (by unfold i32; omega) (congrArg Int32.ofInt hr.1) ?_
    refine eW_icmp_ge 18 rfl rfl (by unfold i32; omega) (by unfold i32; omega) (fun c2 => ?_) (fun c2 => ?_)
    · refine eW_iconst 94 rfl rfl ?_
      refine eW_ret_i rfl rfl (Or.inr (Or.inl ⟨rfl, rfl⟩)) ?_
      refine hnf ?_
      rw [← q2, show (G.2.2.2.1 - p9).toNat = 0 by omega]; rfl
    · refine eW_iconst 19 rfl rfl ?_
      refine eW_istore 21 rfl rfl [(4, vI 1), (0, .ref 63), (1, vI c9), (2, vI n), (3, vI p9)] rfl rfl ?_
      refine eW_re [(0, .ref 63), (1, vI c9), (2, vI n), (3, vI p9), (4, vI 1)] rfl rfl (List.forall_mem_cons.mpr ⟨rfl, List.forall_mem_cons.mpr ⟨rfl, List.forall_mem_cons.mpr ⟨rfl, List.forall_mem_cons.mpr ⟨rfl, List.forall_mem_cons.mpr ⟨rfl, fun _ h => absurd h List.not_mem_nil⟩⟩⟩⟩⟩) (List.forall_mem_cons.mpr ⟨Or.inl rfl, List.forall_mem_cons.mpr ⟨Or.inl rfl, List.forall_mem_cons.mpr ⟨Or.inl rfl, List.forall_mem_cons.mpr ⟨Or.inl rfl, List.forall_mem_cons.mpr ⟨Or.inl rfl, fun _ h => absurd h List.not_mem_nil⟩⟩⟩⟩⟩) ?_
      refine m_found_t hm hN hr hI (c9 := c9) (by omega) hfd _ n 1 (Int.self_le_toNat _) (by omega) q1 (by rw [← q2, lP_cons (by omega)]; rfl) (fun n r1 r2 => ?_)
      refine eW_iinc 90 rfl rfl [(3, vI (p9 + 1)), (0, .ref 63), (1, vI c9), (2, vI n)] rfl rfl rfl ?_
      refine eW_goto rfl ?_
      refine eW_re [(0, .ref 63), (1, vI c9), (2, vI n), (3, vI (p9 + 1))] rfl rfl (List.forall_mem_cons.mpr ⟨rfl, List.forall_mem_cons.mpr ⟨rfl, List.forall_mem_cons.mpr ⟨rfl, List.forall_mem_cons.mpr ⟨rfl, fun _ h => absurd h List.not_mem_nil⟩⟩⟩⟩) (List.forall_mem_cons.mpr ⟨Or.inl rfl, List.forall_mem_cons.mpr ⟨Or.inl rfl, List.forall_mem_cons.mpr ⟨Or.inl rfl, List.forall_mem_cons.mpr ⟨Or.inl rfl, fun _ h => absurd h List.not_mem_nil⟩⟩⟩⟩) ?_
      exact absurd hm9 (by omega)
  | succ m9 ih =>
    intro n p9 hm9 q0 q1 q2
    have hG := hI.1
    have hG9 := hG
    obtain ⟨g1, g2, g3, g4⟩ := hG9
    unfold i32 at hc
    refine eW_iload_n 5 rfl rfl rfl ?_
    refine eW_if_lt 8 rfl rfl (by unfold i32; omega) (fun c1 => absurd c1 (by omega)) (fun c1 => ?_)
    refine eW_iload_n 9 rfl rfl rfl ?_
    refine eW_aload_n 10 rfl rfl rfl ?_
    refine eW_getfield 13 rfl rfl (Nat.ble_eq_true_of_le (by omega)) rfl hm.1 rfl ⟨rfl, fun _ h9 => nomatch h9⟩ ?_
    refine eW_iconst 14 rfl rfl ?_
    refine eW_iaload 15 rfl rfl G.2.2.2.1 (Nat.ble_eq_true_of_le (by omega)) (show h 64 = .inl (0, 62, .inl (eIA (A 0))) from hm.2.1) (by omega) (by omega) (by unfold i32; omega) (congrArg Int32.ofInt hr.1) ?_
    refine eW_icmp_ge 18 rfl rfl (by unfold i32; omega) (by unfold i32; omega) (fun c2 => ?_) (fun c2 => ?_)
    · refine eW_iconst 94 rfl rfl ?_
      refine eW_ret_i rfl rfl (Or.inr (Or.inl ⟨rfl, rfl⟩)) ?_
      refine hnf ?_
      rw [← q2, show (G.2.2.2.1 - p9).toNat = 0 by omega]; rfl
    · refine eW_iconst 19 rfl rfl ?_
      refine eW_istore 21 rfl rfl [(4, vI 1), (0, .ref 63), (1, vI c9), (2, vI n), (3, vI p9)] rfl rfl ?_
      refine eW_re [(0, .ref 63), (1, vI c9), (2, vI n), (3, vI p9), (4, vI 1)] rfl rfl (List.forall_mem_cons.mpr ⟨rfl, List.forall_mem_cons.mpr ⟨rfl, List.forall_mem_cons.mpr ⟨rfl, List.forall_mem_cons.mpr ⟨rfl, List.forall_mem_cons.mpr ⟨rfl, fun _ h => absurd h List.not_mem_nil⟩⟩⟩⟩⟩) (List.forall_mem_cons.mpr ⟨Or.inl rfl, List.forall_mem_cons.mpr ⟨Or.inl rfl, List.forall_mem_cons.mpr ⟨Or.inl rfl, List.forall_mem_cons.mpr ⟨Or.inl rfl, List.forall_mem_cons.mpr ⟨Or.inl rfl, fun _ h => absurd h List.not_mem_nil⟩⟩⟩⟩⟩) ?_
      refine m_found_t hm hN hr hI (c9 := c9) (by omega) hfd _ n 1 (Int.self_le_toNat _) (by omega) q1 (by rw [← q2, lP_cons (by omega)]; rfl) (fun n r1 r2 => ?_)
      refine eW_iinc 90 rfl rfl [(3, vI (p9 + 1)), (0, .ref 63), (1, vI c9), (2, vI n)] rfl rfl rfl ?_
      refine eW_goto rfl ?_
      refine eW_re [(0, .ref 63), (1, vI c9), (2, vI n), (3, vI (p9 + 1))] rfl rfl (List.forall_mem_cons.mpr ⟨rfl, List.forall_mem_cons.mpr ⟨rfl, List.forall_mem_cons.mpr ⟨rfl, List.forall_mem_cons.mpr ⟨rfl, fun _ h => absurd h List.not_mem_nil⟩⟩⟩⟩) (List.forall_mem_cons.mpr ⟨Or.inl rfl, List.forall_mem_cons.mpr ⟨Or.inl rfl, List.forall_mem_cons.mpr ⟨Or.inl rfl, List.forall_mem_cons.mpr ⟨Or.inl rfl, fun _ h => absurd h List.not_mem_nil⟩⟩⟩⟩) ?_
      refine ih _ (p9 + 1) (by omega) (by omega) (by omega) r2
theorem m_isFound {d N : Nat} {h : eHp} {s : Nat → Int} {A : Nat → Nat → Int} (hm : mM h s A) (hN : 75 ≤ N) {c : Int} {G : eGd} (hr : rR G (A 0)) (hI : gI c G) {x : Int} (hx0 : i32 x) : eSp (d + 3) eM_X7_isFound [.ref 63, vI x] N h (eChg (some (vI (gYes (gAt G x)))) N (mFo h s A (gAt G x))) := by
  refine eSp_of [(0, .ref 63), (1, vI x)] rfl rfl ?_
  have hG := hI.1
  have hG9 := hG
  obtain ⟨g1, g2, g3, g4⟩ := hG9
  unfold i32 at hx0
  refine eW_iload_n 1 rfl rfl rfl ?_
  refine eW_istore_n 2 rfl rfl [(2, vI x), (0, .ref 63), (1, vI x)] rfl rfl ?_
  refine eW_iconst 3 rfl rfl ?_
  refine eW_istore_n 4 rfl rfl [(3, vI 0), (2, vI x), (0, .ref 63), (1, vI x)] rfl rfl ?_
  refine eW_re [(0, .ref 63), (1, vI x), (2, vI x), (3, vI 0)] rfl rfl (List.forall_mem_cons.mpr ⟨rfl, List.forall_mem_cons.mpr ⟨rfl, List.forall_mem_cons.mpr ⟨rfl, List.forall_mem_cons.mpr ⟨rfl, fun _ h => absurd h List.not_mem_nil⟩⟩⟩⟩) (List.forall_mem_cons.mpr ⟨Or.inl rfl, List.forall_mem_cons.mpr ⟨Or.inl rfl, List.forall_mem_cons.mpr ⟨Or.inl rfl, List.forall_mem_cons.mpr ⟨Or.inl rfl, fun _ h => absurd h List.not_mem_nil⟩⟩⟩⟩) ?_
  by_cases hx9 : 0 ≤ x
  · refine m_found_p (R := gAt G x) hm hN hr hI hx0 hx9 (fun y h2 e1 e2 => ⟨h2, by rw [e1]; rfl, y.1, y.2.1, y.2.2, e2, fun z e3 => by rw [e1] at e3; exact (Option.some.inj e3).symm⟩) (fun e1 => ⟨h, by rw [e1]; rfl, s 17, s 18, s 19, ⟨hm, fun _ _ => rfl⟩, fun z e3 => by rw [e1] at e3; cases e3⟩) _ x 0 (Int.self_le_toNat _) (by omega) (by omega) ?_
    rw [gAt_t hx9, Int.sub_zero]; rfl
  · refine eW_iload_n 5 rfl rfl rfl ?_
    refine eW_if_lt 8 rfl rfl (by unfold i32; omega) (fun c1 => ?_) (fun c1 => absurd c1 (by omega))
    refine eW_iconst 94 rfl rfl ?_
    refine eW_ret_i rfl rfl (Or.inr (Or.inl ⟨rfl, rfl⟩)) ?_
    exact ⟨h, by rw [gAt_f (by omega)]; rfl, s 17, s 18, s 19, ⟨hm, fun _ _ => rfl⟩, fun z e3 => by rw [gAt_f (by omega)] at e3; cases e3⟩
theorem gX_nn {a : Int} (h : 0 ≤ a) : 0 ≤ a := h
theorem gYes_c {α : Type} (r : Option α) : (gYes r = 0 ∧ r = none) ∨ (gYes r = 1 ∧ ∃ x, r = some x) := by cases r with | none => exact Or.inl ⟨rfl, rfl⟩ | some x => exact Or.inr ⟨rfl, x, rfl⟩
theorem gXr_nn (a b : Int) : 0 ≤ gXr a b := Int.natCast_nonneg _
theorem gZero_iff {G : eGd} {a b c : Int} : gZero G (a, b, c) = true ↔ gXr (gXr (gXr (gSm G) (gvv (gDig G) (G.1 a.toNat))) (gvv (gDig G) c)) (gvv (gDig G) (G.1 a.toNat - b - c)) = 0 := by
  unfold gZero
  rw [decide_eq_true_eq, gXr_assoc, gXr_eq0 (gXr_nn _ _) (gXr_nn _ _)]
  exact eq_comm
theorem gXr_31 {a b : Int} (ha : a ≤ 31) (hb : b ≤ 31) : 0 ≤ gXr a b ∧ gXr a b ≤ 31 := gXr_lt ha hb
def mTd (h : eHp) (s : Nat → Int) (A : Nat → Nat → Int) (r : Option (Int × Int × Int)) : eHp → Prop := fun h' => ∃ V F a b c, mD h (sUp (sUp (sUp s 17 a) 18 b) 19 c) (mUp (mUp A 6 V) 7 F) h' ∧ ∀ x, r = some x → x = (a, b, c)
theorem m_told_l {d N : Nat} {h0 : eHp} {s : Nat → Int} {A : Nat → Nat → Int} (hN : 75 ≤ N) {V1 F1 : Nat → Int} {c : Int} {G : eGd} (hr : rR G (A 0)) (hI : gI c G) (hV1 : ∀ i : Nat, (i : Int) < 31 → V1 i = gv (gDig G) i) (hlen : (lS G).length ≤ 100000) : ∀ (m9 : Nat) (i a9 b9 c9 : Int) (h : eHp), (lS G).length + 1 - i ≤ m9 → 0 ≤ i → i ≤ (lS G).length → mM h (sUp (sUp (sUp s 17 a9) 18 b9) 19 c9) (mUp (mUp A 6 V1) 7 F1) → mFr h0 h → ((lS G).drop i.toNat).find? (gZero G) = gTd G → eWp eOx (eEv (d + 3)) eM_X7_isTold (7, [(0, .ref 63), (1, vI (gSm G)), (2, vI i)], [], N, h, 0, 0) (eChg (some (vI (gYes (gTd G)))) N (mTd h0 s A (gTd G))) := by
  intro m9
  induction m9 with
  | zero =>
    intro i a9 b9 c9 h hm9 q0 q1 q2 q3 q4
    have hG := hI.1
    have hG9 := hG
    obtain ⟨g1, g2, g3, g4⟩ := hG9
    refine eW_aload_n 8 rfl rfl rfl ?_
    refine eW_iload_n 9 rfl rfl rfl ?_
    have hgy := gYes_c (gAt G i)
    refine eW_callVH 12 [.ref 63, vI i] [] [vI (gYes (gAt G i))] rfl rfl rfl rfl (Nat.ble_eq_true_of_le (by omega)) (show h 63 = .inr (11, [.ref 64, .ref 65, .ref 66, .ref 67, vI (s 4), vI (s 5), vI (s 6), vI (s 7), vI (s 8), vI (s 9), .ref 68, vI (s 11), vI (s 12), .ref 69, vI (s 14), .ref 70, .ref 71, vI a9, vI b9, vI c9, vI (s 20), .ref 72, vI (s 22)]) from q2.1) rfl rfl rfl (m_isFound (d := d + 0) q2 hN hr hI (by unfold i32; omega)) rfl rfl ?_
    intro h1 fh1
    obtain ⟨a1, b1, c1, f9h1⟩ := fh1
    obtain ⟨f8h1, hfx⟩ := f9h1
    have hmh1 : mM h1 (sUp (sUp (sUp s 17 a1) 18 b1) 19 c1) (mUp (mUp A 6 V1) 7 F1) := f8h1.1
    have frh1 : mFr h0 h1 := mFr_t q3 f8h1.2
    refine eW_if_eq 15 rfl rfl (by unfold i32; omega) (fun c2 => ?_) (fun c2 => ?_)
    · refine eW_iconst 71 rfl rfl ?_
      refine eW_ret_i rfl rfl (Or.inr (Or.inl ⟨rfl, rfl⟩)) ?_
      have hn9 : gAt G i = none := by rcases hgy with ⟨_, e⟩ | ⟨e, _⟩; exact e; exact absurd e (by omega)
      have hT : gTd G = none := by rw [← q4]; rw [gAt_t q0] at hn9; exact lFind_n hn9
      exact ⟨_, by rw [hT]; rfl, V1, F1, a1, b1, c1, ⟨hmh1, frh1⟩, fun y hy => by rw [hT] at hy; cases hy⟩
    · obtain ⟨x9, hx9⟩ : ∃ x, gAt G i = some x := by rcases hgy with ⟨e, _⟩ | ⟨_, e⟩; exact absurd e (by omega); exact e
      have hxe := hfx _ hx9
      rw [hxe] at hx9
      have hmem := gAt_mem g1 hx9
      dsimp only at hmem
      have hlt := gLets_le hmem.2.2.2.2
      have hmk := hI.2.2.1 a1.toNat (by omega)
      refine eW_aload_n 16 rfl rfl rfl ?_
      refine eW_aload_n 17 rfl rfl rfl ?_
      refine eW_getfield 20 rfl rfl (Nat.ble_eq_true_of_le (by omega)) rfl (show h1 63 = .inr (11, [.ref 64, .ref 65, .ref 66, .ref 67, vI (s 4), vI (s 5), vI (s 6), vI (s 7), vI (s 8), vI (s 9), .ref 68, vI (s 11), vI (s 12), .ref 69, vI (s 14), .ref 70, .ref 71, vI a1, vI b1, vI c1, vI (s 20), .ref 72, vI (s 22)]) from hmh1.1) rfl ⟨rfl, fun _ h9 => nomatch h9⟩ ?_
      have hmbq3 := g3 a1.toNat (by omega)
      refine eW_callV 23 [.ref 63, vI a1] [] [vI (G.1 a1.toNat)] rfl rfl rfl rfl (Nat.ble_eq_true_of_le (by omega)) (show h1 63 = .inr (11, [.ref 64, .ref 65, .ref 66, .ref 67, vI (s 4), vI (s 5), vI (s 6), vI (s 7), vI (s 8), vI (s 9), .ref 68, vI (s 11), vI (s 12), .ref 69, vI (s 14), .ref 70, .ref 71, vI a1, vI b1, vI c1, vI (s 20), .ref 72, vI (s 22)]) from hmh1.1) rfl rfl rfl (m_marbles (d := d + 2) hmh1 hN hr hG (by omega)) rfl rfl ?_
      refine eW_istore_n 24 rfl rfl [(3, vI (G.1 a1.toNat)), (0, .ref 63), (1, vI (gSm G)), (2, vI i)] rfl rfl ?_
      have hx31 := gXr_31 (a := gSm G) (b := gvv (gDig G) (G.1 a1.toNat)) (gSm_le G).2 (by have := gvv_30 (D := gDig G) (G.1 a1.toNat); omega)
      have hx32 := gXr_31 (a := gXr (gSm G) (gvv (gDig G) (G.1 a1.toNat))) (b := gvv (gDig G) c1) hx31.2 (by have := gvv_30 (D := gDig G) c1; omega)
      have hx33 := gXr_31 (a := gXr (gXr (gSm G) (gvv (gDig G) (G.1 a1.toNat))) (gvv (gDig G) c1)) (b := gvv (gDig G) (G.1 a1.toNat - b1 - c1)) hx32.2 (by have := gvv_30 (D := gDig G) (G.1 a1.toNat - b1 - c1); omega)
      refine eW_iload_n 25 rfl rfl rfl ?_
      refine eW_aload_n 26 rfl rfl rfl ?_
      refine eW_getfield 29 rfl rfl (Nat.ble_eq_true_of_le (by omega)) rfl (show h1 63 = .inr (11, [.ref 64, .ref 65, .ref 66, .ref 67, vI (s 4), vI (s 5), vI (s 6), vI (s 7), vI (s 8), vI (s 9), .ref 68, vI (s 11), vI (s 12), .ref 69, vI (s 14), .ref 70, .ref 71, vI a1, vI b1, vI c1, vI (s 20), .ref 72, vI (s 22)]) from hmh1.1) rfl ⟨rfl, fun _ h9 => nomatch h9⟩ ?_
      refine eW_iload_n 30 rfl rfl rfl ?_
      refine eW_iaload 31 rfl rfl (gvv (gDig G) (G.1 a1.toNat)) (Nat.ble_eq_true_of_le (by omega)) (show h1 70 = .inl (0, 31, .inl (eIA V1)) from hmh1.2.2.2.2.2.2.2.1) (by omega) (by omega) (by unfold i32; omega) (mV_r hV1 (by omega) (by omega) (by omega)) ?_
      refine eW_ixor 32 rfl rfl (gXr (gSm G) (gvv (gDig G) (G.1 a1.toNat))) (gXr_ok (gX_nn (by first | exact (gSm_le G).1 | exact gXr_nn _ _)) (gvv_nn _)) ?_
      refine eW_aload_n 33 rfl rfl rfl ?_
      refine eW_getfield 36 rfl rfl (Nat.ble_eq_true_of_le (by omega)) rfl (show h1 63 = .inr (11, [.ref 64, .ref 65, .ref 66, .ref 67, vI (s 4), vI (s 5), vI (s 6), vI (s 7), vI (s 8), vI (s 9), .ref 68, vI (s 11), vI (s 12), .ref 69, vI (s 14), .ref 70, .ref 71, vI a1, vI b1, vI c1, vI (s 20), .ref 72, vI (s 22)]) from hmh1.1) rfl ⟨rfl, fun _ h9 => nomatch h9⟩ ?_
      refine eW_aload_n 37 rfl rfl rfl ?_
      refine eW_getfield 40 rfl rfl (Nat.ble_eq_true_of_le (by omega)) rfl (show h1 63 = .inr (11, [.ref 64, .ref 65, .ref 66, .ref 67, vI (s 4), vI (s 5), vI (s 6), vI (s 7), vI (s 8), vI (s 9), .ref 68, vI (s 11), vI (s 12), .ref 69, vI (s 14), .ref 70, .ref 71, vI a1, vI b1, vI c1, vI (s 20), .ref 72, vI (s 22)]) from hmh1.1) rfl ⟨rfl, fun _ h9 => nomatch h9⟩ ?_
      refine eW_iaload 41 rfl rfl (gvv (gDig G) c1) (Nat.ble_eq_true_of_le (by omega)) (show h1 70 = .inl (0, 31, .inl (eIA V1)) from hmh1.2.2.2.2.2.2.2.1) (by omega) (by omega) (by unfold i32; omega) (mV_r hV1 (by omega) (by omega) (by omega)) ?_
      refine eW_ixor 42 rfl rfl (gXr (gXr (gSm G) (gvv (gDig G) (G.1 a1.toNat))) (gvv (gDig G) c1)) (gXr_ok (gX_nn (by first | exact (gSm_le G).1 | exact gXr_nn _ _)) (gvv_nn _)) ?_
      refine eW_aload_n 43 rfl rfl rfl ?_
      refine eW_getfield 46 rfl rfl (Nat.ble_eq_true_of_le (by omega)) rfl (show h1 63 = .inr (11, [.ref 64, .ref 65, .ref 66, .ref 67, vI (s 4), vI (s 5), vI (s 6), vI (s 7), vI (s 8), vI (s 9), .ref 68, vI (s 11), vI (s 12), .ref 69, vI (s 14), .ref 70, .ref 71, vI a1, vI b1, vI c1, vI (s 20), .ref 72, vI (s 22)]) from hmh1.1) rfl ⟨rfl, fun _ h9 => nomatch h9⟩ ?_
      refine eW_iload_n 47 rfl rfl rfl ?_
      refine eW_aload_n 48 rfl rfl rfl ?_
      refine eW_getfield 51 rfl rfl (Nat.ble_eq_true_of_le (by omega)) rfl (show h1 63 = .inr (11, [.ref 64, .ref 65, .ref 66, .ref 67, vI (s 4), vI (s 5), vI (s 6), vI (s 7), vI (s 8), vI (s 9), .ref 68, vI (s 11), vI (s 12), .ref 69, vI (s 14), .ref 70, .ref 71, vI a1, vI b1, vI c1, vI (s 20), .ref 72, vI (s 22)]) from hmh1.1) rfl ⟨rfl, fun _ h9 => nomatch h9⟩ ?_
      refine eW_isub 52 rfl rfl ?_
      refine eW_aload_n 53 rfl rfl rfl ?_
      refine eW_getfield 56 rfl rfl (Nat.ble_eq_true_of_le (by omega)) rfl (show h1 63 = .inr (11, [.ref 64, .ref 65, .ref 66, .ref 67, vI (s 4), vI (s 5), vI (s 6), vI (s 7), vI (s 8), vI (s 9), .ref 68, vI (s 11), vI (s 12), .ref 69, vI (s 14), .ref 70, .ref 71, vI a1, vI b1, vI c1, vI (s 20), .ref 72, vI (s 22)]) from hmh1.1) rfl ⟨rfl, fun _ h9 => nomatch h9⟩ ?_
      refine eW_isub 57 rfl rfl ?_
      refine eW_iaload 58 rfl rfl (gvv (gDig G) (((G.1 a1.toNat) - b1) - c1)) (Nat.ble_eq_true_of_le (by omega)) (show h1 70 = .inl (0, 31, .inl (eIA V1)) from hmh1.2.2.2.2.2.2.2.1) (by omega) (by omega) (by unfold i32; omega) (mV_r hV1 (by omega) (by omega) (by omega)) ?_
      refine eW_ixor 59 rfl rfl (gXr (gXr (gXr (gSm G) (gvv (gDig G) (G.1 a1.toNat))) (gvv (gDig G) c1)) (gvv (gDig G) (((G.1 a1.toNat) - b1) - c1))) (gXr_ok (gX_nn (by first | exact (gSm_le G).1 | exact gXr_nn _ _)) (gvv_nn _)) ?_
      refine eW_if_ne 62 rfl rfl (by unfold i32; omega) (fun c4 => ?_) (fun c4 => ?_)
      · refine eW_iinc 67 rfl rfl [(2, vI (i + 1)), (3, vI (G.1 a1.toNat)), (0, .ref 63), (1, vI (gSm G))] rfl rfl rfl ?_
        refine eW_goto rfl ?_
        refine eW_re [(0, .ref 63), (1, vI (gSm G)), (2, vI (i + 1))] rfl rfl (List.forall_mem_cons.mpr ⟨rfl, List.forall_mem_cons.mpr ⟨rfl, List.forall_mem_cons.mpr ⟨rfl, fun _ h => absurd h List.not_mem_nil⟩⟩⟩) (List.forall_mem_cons.mpr ⟨Or.inl rfl, List.forall_mem_cons.mpr ⟨Or.inr ⟨_, rfl⟩, List.forall_mem_cons.mpr ⟨Or.inl rfl, List.forall_mem_cons.mpr ⟨Or.inl rfl, fun _ h => absurd h List.not_mem_nil⟩⟩⟩⟩) ?_
        exact absurd hm9 (by omega)
      · refine eW_iconst 63 rfl rfl ?_
        refine eW_ret_i rfl rfl (Or.inr (Or.inl ⟨rfl, rfl⟩)) ?_
        have hz : gZero G (a1, b1, c1) = true := gZero_iff.mpr (by omega)
        have hT : gTd G = some (a1, b1, c1) := by rw [← q4]; rw [gAt_t q0] at hx9; exact lFind_t hx9 hz
        exact ⟨_, by rw [hT]; rfl, V1, F1, a1, b1, c1, ⟨hmh1, frh1⟩, fun y hy => by rw [hT] at hy; exact (Option.some.inj hy).symm⟩
  | succ m9 ih =>
    intro i a9 b9 c9 h hm9 q0 q1 q2 q3 q4
    have hG := hI.1
    have hG9 := hG
    obtain ⟨g1, g2, g3, g4⟩ := hG9
    refine eW_aload_n 8 rfl rfl rfl ?_
    refine eW_iload_n 9 rfl rfl rfl ?_
    have hgy := gYes_c (gAt G i)
    refine eW_callVH 12 [.ref 63, vI i] [] [vI (gYes (gAt G i))] rfl rfl rfl rfl (Nat.ble_eq_true_of_le (by omega)) (show h 63 = .inr (11, [.ref 64, .ref 65, .ref 66, .ref 67, vI (s 4), vI (s 5), vI (s 6), vI (s 7), vI (s 8), vI (s 9), .ref 68, vI (s 11), vI (s 12), .ref 69, vI (s 14), .ref 70, .ref 71, vI a9, vI b9, vI c9, vI (s 20), .ref 72, vI (s 22)]) from q2.1) rfl rfl rfl (m_isFound (d := d + 0) q2 hN hr hI (by unfold i32; omega)) rfl rfl ?_
    intro h1 fh1
    obtain ⟨a1, b1, c1, f9h1⟩ := fh1
    obtain ⟨f8h1, hfx⟩ := f9h1
    have hmh1 : mM h1 (sUp (sUp (sUp s 17 a1) 18 b1) 19 c1) (mUp (mUp A 6 V1) 7 F1) := f8h1.1
    have frh1 : mFr h0 h1 := mFr_t q3 f8h1.2
    refine eW_if_eq 15 rfl rfl (by unfold i32; omega) (fun c2 => ?_) (fun c2 => ?_)
    · refine eW_iconst 71 rfl rfl ?_
      refine eW_ret_i rfl rfl (Or.inr (Or.inl ⟨rfl, rfl⟩)) ?_
      have hn9 : gAt G i = none := by rcases hgy with ⟨_, e⟩ | ⟨e, _⟩; exact e; exact absurd e (by omega)
      have hT : gTd G = none := by rw [← q4]; rw [gAt_t q0] at hn9; exact lFind_n hn9
      exact ⟨_, by rw [hT]; rfl, V1, F1, a1, b1, c1, ⟨hmh1, frh1⟩, fun y hy => by rw [hT] at hy; cases hy⟩
    · obtain ⟨x9, hx9⟩ : ∃ x, gAt G i = some x := by rcases hgy with ⟨e, _⟩ | ⟨_, e⟩; exact absurd e (by omega); exact e
      have hxe := hfx _ hx9
      rw [hxe] at hx9
      have hmem := gAt_mem g1 hx9
      dsimp only at hmem
      have hlt := gLets_le hmem.2.2.2.2
      have hmk := hI.2.2.1 a1.toNat (by omega)
      refine eW_aload_n 16 rfl rfl rfl ?_
      refine eW_aload_n 17 rfl rfl rfl ?_
      refine eW_getfield 20 rfl rfl (Nat.ble_eq_true_of_le (by omega)) rfl (show h1 63 = .inr (11, [.ref 64, .ref 65, .ref 66, .ref 67, vI (s 4), vI (s 5), vI (s 6), vI (s 7), vI (s 8), vI (s 9), .ref 68, vI (s 11), vI (s 12), .ref 69, vI (s 14), .ref 70, .ref 71, vI a1, vI b1, vI c1, vI (s 20), .ref 72, vI (s 22)]) from hmh1.1) rfl ⟨rfl, fun _ h9 => nomatch h9⟩ ?_
      have hmbq3 := g3 a1.toNat (by omega)
      refine eW_callV 23 [.ref 63, vI a1] [] [vI (G.1 a1.toNat)] rfl rfl rfl rfl (Nat.ble_eq_true_of_le (by omega)) (show h1 63 = .inr (11, [.ref 64, .ref 65, .ref 66, .ref 67, vI (s 4), vI (s 5), vI (s 6), vI (s 7), vI (s 8), vI (s 9), .ref 68, vI (s 11), vI (s 12), .ref 69, vI (s 14), .ref 70, .ref 71, vI a1, vI b1, vI c1, vI (s 20), .ref 72, vI (s 22)]) from hmh1.1) rfl rfl rfl (m_marbles (d := d + 2) hmh1 hN hr hG (by omega)) rfl rfl ?_
      refine eW_istore_n 24 rfl rfl [(3, vI (G.1 a1.toNat)), (0, .ref 63), (1, vI (gSm G)), (2, vI i)] rfl rfl ?_
      have hx31 := gXr_31 (a := gSm G) (b := gvv (gDig G) (G.1 a1.toNat)) (gSm_le G).2 (by have := gvv_30 (D := gDig G) (G.1 a1.toNat); omega)
      have hx32 := gXr_31 (a := gXr (gSm G) (gvv (gDig G) (G.1 a1.toNat))) (b := gvv (gDig G) c1) hx31.2 (by have := gvv_30 (D := gDig G) c1; omega)
      have hx33 := gXr_31 (a := gXr (gXr (gSm G) (gvv (gDig G) (G.1 a1.toNat))) (gvv (gDig G) c1)) (b := gvv (gDig G) (G.1 a1.toNat - b1 - c1)) hx32.2 (by have := gvv_30 (D := gDig G) (G.1 a1.toNat - b1 - c1); omega)
      refine eW_iload_n 25 rfl rfl rfl ?_
      refine eW_aload_n 26 rfl rfl rfl ?_
      refine eW_getfield 29 rfl rfl (Nat.ble_eq_true_of_le (by omega)) rfl (show h1 63 = .inr (11, [.ref 64, .ref 65, .ref 66, .ref 67, vI (s 4), vI (s 5), vI (s 6), vI (s 7), vI (s 8), vI (s 9), .ref 68, vI (s 11), vI (s 12), .ref 69, vI (s 14), .ref 70, .ref 71, vI a1, vI b1, vI c1, vI (s 20), .ref 72, vI (s 22)]) from hmh1.1) rfl ⟨rfl, fun _ h9 => nomatch h9⟩ ?_
      refine eW_iload_n 30 rfl rfl rfl ?_
      refine eW_iaload 31 rfl rfl (gvv (gDig G) (G.1 a1.toNat)) (Nat.ble_eq_true_of_le (by omega)) (show h1 70 = .inl (0, 31, .inl (eIA V1)) from hmh1.2.2.2.2.2.2.2.1) (by omega) (by omega) (by unfold i32; omega) (mV_r hV1 (by omega) (by omega) (by omega)) ?_
      refine eW_ixor 32 rfl rfl (gXr (gSm G) (gvv (gDig G) (G.1 a1.toNat))) (gXr_ok (gX_nn (by first | exact (gSm_le G).1 | exact gXr_nn _ _)) (gvv_nn _)) ?_
      refine eW_aload_n 33 rfl rfl rfl ?_
      refine eW_getfield 36 rfl rfl (Nat.ble_eq_true_of_le (by omega)) rfl (show h1 63 = .inr (11, [.ref 64, .ref 65, .ref 66, .ref 67, vI (s 4), vI (s 5), vI (s 6), vI (s 7), vI (s 8), vI (s 9), .ref 68, vI (s 11), vI (s 12), .ref 69, vI (s 14), .ref 70, .ref 71, vI a1, vI b1, vI c1, vI (s 20), .ref 72, vI (s 22)]) from hmh1.1) rfl ⟨rfl, fun _ h9 => nomatch h9⟩ ?_
      refine eW_aload_n 37 rfl rfl rfl ?_
      refine eW_getfield 40 rfl rfl (Nat.ble_eq_true_of_le (by omega)) rfl (show h1 63 = .inr (11, [.ref 64, .ref 65, .ref 66, .ref 67, vI (s 4), vI (s 5), vI (s 6), vI (s 7), vI (s 8), vI (s 9), .ref 68, vI (s 11), vI (s 12), .ref 69, vI (s 14), .ref 70, .ref 71, vI a1, vI b1, vI c1, vI (s 20), .ref 72, vI (s 22)]) from hmh1.1) rfl ⟨rfl, fun _ h9 => nomatch h9⟩ ?_
      refine eW_iaload 41 rfl rfl (gvv (gDig G) c1) (Nat.ble_eq_true_of_le (by omega)) (show h1 70 = .inl (0, 31, .inl (eIA V1)) from hmh1.2.2.2.2.2.2.2.1) (by omega) (by omega) (by unfold i32; omega) (mV_r hV1 (by omega) (by omega) (by omega)) ?_
      refine eW_ixor 42 rfl rfl (gXr (gXr (gSm G) (gvv (gDig G) (G.1 a1.toNat))) (gvv (gDig G) c1)) (gXr_ok (gX_nn (by first | exact (gSm_le G).1 | exact gXr_nn _ _)) (gvv_nn _)) ?_
      refine eW_aload_n 43 rfl rfl rfl ?_
      refine eW_getfield 46 rfl rfl (Nat.ble_eq_true_of_le (by omega)) rfl (show h1 63 = .inr (11, [.ref 64, .ref 65, .ref 66, .ref 67, vI (s 4), vI (s 5), vI (s 6), vI (s 7), vI (s 8), vI (s 9), .ref 68, vI (s 11), vI (s 12), .ref 69, vI (s 14), .ref 70, .ref 71, vI a1, vI b1, vI c1, vI (s 20), .ref 72, vI (s 22)]) from hmh1.1) rfl ⟨rfl, fun _ h9 => nomatch h9⟩ ?_
      refine eW_iload_n 47 rfl rfl rfl ?_
      refine eW_aload_n 48 rfl rfl rfl ?_
      refine eW_getfield 51 rfl rfl (Nat.ble_eq_true_of_le (by omega)) rfl (show h1 63 = .inr (11, [.ref 64, .ref 65, .ref 66, .ref 67, vI (s 4), vI (s 5), vI (s 6), vI (s 7), vI (s 8), vI (s 9), .ref 68, vI (s 11), vI (s 12), .ref 69, vI (s 14), .ref 70, .ref 71, vI a1, vI b1, vI c1, vI (s 20), .ref 72, vI (s 22)]) from hmh1.1) rfl ⟨rfl, fun _ h9 => nomatch h9⟩ ?_
      refine eW_isub 52 rfl rfl ?_
      refine eW_aload_n 53 rfl rfl rfl ?_
      refine eW_getfield 56 rfl rfl (Nat.ble_eq_true_of_le (by omega)) rfl (show h1 63 = .inr (11, [.ref 64, .ref 65, .ref 66, .ref 67, vI (s 4), vI (s 5), vI (s 6), vI (s 7), vI (s 8), vI (s 9), .ref 68, vI (s 11), vI (s 12), .ref 69, vI (s 14), .ref 70, .ref 71, vI a1, vI b1, vI c1, vI (s 20), .ref 72, vI (s 22)]) from hmh1.1) rfl ⟨rfl, fun _ h9 => nomatch h9⟩ ?_
      refine eW_isub 57 rfl rfl ?_
      refine eW_iaload 58 rfl rfl (gvv (gDig G) (((G.1 a1.toNat) - b1) - c1)) (Nat.ble_eq_true_of_le (by omega)) (show h1 70 = .inl (0, 31, .inl (eIA V1)) from hmh1.2.2.2.2.2.2.2.1) (by omega) (by omega) (by unfold i32; omega) (mV_r hV1 (by omega) (by omega) (by omega)) ?_
      refine eW_ixor 59 rfl rfl (gXr (gXr (gXr (gSm G) (gvv (gDig G) (G.1 a1.toNat))) (gvv (gDig G) c1)) (gvv (gDig G) (((G.1 a1.toNat) - b1) - c1))) (gXr_ok (gX_nn (by first | exact (gSm_le G).1 | exact gXr_nn _ _)) (gvv_nn _)) ?_
      refine eW_if_ne 62 rfl rfl (by unfold i32; omega) (fun c4 => ?_) (fun c4 => ?_)
      · refine eW_iinc 67 rfl rfl [(2, vI (i + 1)), (3, vI (G.1 a1.toNat)), (0, .ref 63), (1, vI (gSm G))] rfl rfl rfl ?_
        refine eW_goto rfl ?_
        refine eW_re [(0, .ref 63), (1, vI (gSm G)), (2, vI (i + 1))] rfl rfl (List.forall_mem_cons.mpr ⟨rfl, List.forall_mem_cons.mpr ⟨rfl, List.forall_mem_cons.mpr ⟨rfl, fun _ h => absurd h List.not_mem_nil⟩⟩⟩) (List.forall_mem_cons.mpr ⟨Or.inl rfl, List.forall_mem_cons.mpr ⟨Or.inr ⟨_, rfl⟩, List.forall_mem_cons.mpr ⟨Or.inl rfl, List.forall_mem_cons.mpr ⟨Or.inl rfl, fun _ h => absurd h List.not_mem_nil⟩⟩⟩⟩) ?_
        have hz : gZero G (a1, b1, c1) = false := by rw [← Bool.not_eq_true, gZero_iff]; omega
        have hle : i < (lS G).length := by rw [gAt_t q0] at hx9; have := (List.getElem?_eq_some_iff.mp hx9).1; omega
        refine ih (i + 1) a1 b1 c1 h1 (by omega) (by omega) (by omega) hmh1 frh1 ?_
        rw [show (i + 1).toNat = i.toNat + 1 by omega, ← q4]
        rw [gAt_t q0] at hx9
        exact (lFind_f hx9 hz).symm
      · refine eW_iconst 63 rfl rfl ?_
        refine eW_ret_i rfl rfl (Or.inr (Or.inl ⟨rfl, rfl⟩)) ?_
        have hz : gZero G (a1, b1, c1) = true := gZero_iff.mpr (by omega)
        have hT : gTd G = some (a1, b1, c1) := by rw [← q4]; rw [gAt_t q0] at hx9; exact lFind_t hx9 hz
        exact ⟨_, by rw [hT]; rfl, V1, F1, a1, b1, c1, ⟨hmh1, frh1⟩, fun y hy => by rw [hT] at hy; exact (Option.some.inj hy).symm⟩
theorem lS_len {G : eGd} (hG : gOk G) : (lS G).length ≤ 100000 := by
  have h : ∀ (n : Nat) (p : Nat), (p : Int) + n ≤ G.2.2.2.1 → (lP G p n).length ≤ 240 * n := by
    intro n
    induction n with
    | zero => intro p _; exact Nat.le_refl _
    | succ n ih =>
      intro p hp
      show ((lT (gDig G) (G.1 _) 1 6).map _ ++ lP G ((p : Int) + 1) n).length ≤ _
      rw [List.length_append, List.length_map]
      have h1 := ih (p + 1) (by omega)
      have h2 := lT_ways (D := gDig G) (m := G.1 ((p : Int)).toNat)
      have h3 := gCntT_le (D := gDig G) (n := G.1 ((p : Int)).toNat) (hG.2.2.1 _ (by have := hG.2.1; omega)).2 6
      have h4 : gWays (gDig G) (G.1 ((p : Int)).toNat) = gCntT (gDig G) (G.1 ((p : Int)).toNat) 6 := rfl
      have h5 : (lP G ((p + 1 : Nat) : Int) n).length = (lP G ((p : Int) + 1) n).length := rfl
      omega
  have := h G.2.2.2.1.toNat 0 (by have := hG.1; omega)
  have h2 := hG.2.1
  show (lP G 0 _).length ≤ _
  have h3 : (lP G ((0 : Nat) : Int) G.2.2.2.1.toNat).length = (lP G 0 G.2.2.2.1.toNat).length := rfl
  omega
theorem m_isTold {d N : Nat} {h : eHp} {s : Nat → Int} {A : Nat → Nat → Int} (hm : mM h s A) (hN : 75 ≤ N) {c : Int} {G : eGd} (hr : rR G (A 0)) (hI : gI c G) : eSp (d + 4) eM_X7_isTold [.ref 63] N h (eChg (some (vI (gYes (gTd G)))) N (mTd h s A (gTd G))) := by
  refine eSp_of [(0, .ref 63)] rfl rfl ?_
  have hG := hI.1
  have hG9 := hG
  obtain ⟨g1, g2, g3, g4⟩ := hG9
  refine eW_aload_n 1 rfl rfl rfl ?_
  have hsm := gSm_le G
  refine eW_callVH 4 [.ref 63] [] [vI (gSm G)] rfl rfl rfl rfl (Nat.ble_eq_true_of_le (by omega)) hm.1 rfl rfl rfl (m_sumNow (d := d + 0) hm hN hr hI) rfl rfl ?_
  intro h1 fh1
  obtain ⟨V1, F1, f9h1⟩ := fh1
  obtain ⟨f8h1, hV1⟩ := f9h1
  have hmh1 : mM h1 s (mUp (mUp A 6 V1) 7 F1) := f8h1.1
  have frh1 : mFr h h1 := mFr_t (fun _ _ => rfl) f8h1.2
  refine eW_istore_n 5 rfl rfl [(1, vI (gSm G)), (0, .ref 63)] rfl rfl ?_
  refine eW_iconst 6 rfl rfl ?_
  refine eW_istore_n 7 rfl rfl [(2, vI 0), (1, vI (gSm G)), (0, .ref 63)] rfl rfl ?_
  refine eW_re [(0, .ref 63), (1, vI (gSm G)), (2, vI 0)] rfl rfl (List.forall_mem_cons.mpr ⟨rfl, List.forall_mem_cons.mpr ⟨rfl, List.forall_mem_cons.mpr ⟨rfl, fun _ h => absurd h List.not_mem_nil⟩⟩⟩) (List.forall_mem_cons.mpr ⟨Or.inl rfl, List.forall_mem_cons.mpr ⟨Or.inl rfl, List.forall_mem_cons.mpr ⟨Or.inl rfl, fun _ h => absurd h List.not_mem_nil⟩⟩⟩) ?_
  exact m_told_l (h0 := h) (s := s) hN hr hI hV1 (lS_len hG) _ 0 (s 17) (s 18) (s 19) h1 (Int.self_le_toNat _) (by omega) (by omega) hmh1 frh1 rfl
theorem m_part {d N : Nat} {h : eHp} {s : Nat → Int} {A : Nat → Nat → Int} (hm : mM h s A) (hN : 75 ≤ N) {x : Int} (hx0 : i32 x) : eSp (d + 1) eM_X7_part [.ref 63, vI x] N h (eRet (some (vI (gPart (s 17, s 18, s 19) x))) N h) := by
  refine eSp_of [(0, .ref 63), (1, vI x)] rfl rfl ?_
  unfold i32 at hx0
  refine eW_iload_n 1 rfl rfl rfl ?_
  refine eW_if_ne 4 rfl rfl (by unfold i32; omega) (fun c1 => ?_) (fun c1 => ?_)
  · refine eW_iload_n 12 rfl rfl rfl ?_
    refine eW_iconst 13 rfl rfl ?_
    refine eW_icmp_ne 16 rfl rfl (by unfold i32; omega) (by unfold i32; omega) (fun c2 => ?_) (fun c2 => ?_)
    · refine eW_aload_n 24 rfl rfl rfl ?_
      refine eW_getfield 27 rfl rfl (Nat.ble_eq_true_of_le (by omega)) rfl hm.1 rfl ⟨rfl, fun _ h9 => nomatch h9⟩ ?_
      refine eW_ret_i rfl rfl (Or.inl rfl) ?_
      refine eRet_i ?_
      unfold gPart
      first | (rw [decide_eq_true (by omega : x = 0)]; done) | (rw [decide_eq_false (by omega : ¬ x = 0), decide_eq_true (by omega : x = 1)]; done) | (rw [decide_eq_false (by omega : ¬ x = 0), decide_eq_false (by omega : ¬ x = 1)]; done)
    · refine eW_aload_n 17 rfl rfl rfl ?_
      refine eW_getfield 20 rfl rfl (Nat.ble_eq_true_of_le (by omega)) rfl hm.1 rfl ⟨rfl, fun _ h9 => nomatch h9⟩ ?_
      refine eW_goto rfl ?_
      refine eW_ret_i rfl rfl (Or.inl rfl) ?_
      refine eRet_i ?_
      unfold gPart
      first | (rw [decide_eq_true (by omega : x = 0)]; done) | (rw [decide_eq_false (by omega : ¬ x = 0), decide_eq_true (by omega : x = 1)]; done) | (rw [decide_eq_false (by omega : ¬ x = 0), decide_eq_false (by omega : ¬ x = 1)]; done)
  · refine eW_aload_n 5 rfl rfl rfl ?_
    refine eW_getfield 8 rfl rfl (Nat.ble_eq_true_of_le (by omega)) rfl hm.1 rfl ⟨rfl, fun _ h9 => nomatch h9⟩ ?_
    refine eW_goto rfl ?_
    refine eW_ret_i rfl rfl (Or.inl rfl) ?_
    refine eRet_i ?_
    unfold gPart
    first | (rw [decide_eq_true (by omega : x = 0)]; done) | (rw [decide_eq_false (by omega : ¬ x = 0), decide_eq_true (by omega : x = 1)]; done) | (rw [decide_eq_false (by omega : ¬ x = 0), decide_eq_false (by omega : ¬ x = 1)]; done)
/-- what is asked of a scoop that may be none -/
def gAsk (r : Option (Int × Int × Int)) (x : Int) : Int ⊕ String := match r with | none => .inr nNSE | some y => eIfT (decide (0 ≤ x ∧ x ≤ 2)) nIAE (.inl (gPart y x))
theorem gAsk_n {r : Option (Int × Int × Int)} {x : Int} (h : r = none) : gAsk r x = .inr nNSE := by rw [h]; rfl
theorem gAsk_s {r : Option (Int × Int × Int)} {x : Int} {y : Int × Int × Int} (h : r = some y) : gAsk r x = eIfT (decide (0 ≤ x ∧ x ≤ 2)) nIAE (.inl (gPart y x)) := by rw [h]; rfl
theorem m_told {d N : Nat} {h : eHp} {s : Nat → Int} {A : Nat → Nat → Int} (hm : mM h s A) (hN : 75 ≤ N) {c : Int} {G : eGd} (hr : rR G (A 0)) (hI : gI c G) {x : Int} (hx0 : i32 x) {f : String → Int} (hf1 : f nNSE = 1) (hf2 : f nIAE = 2) : eSp (d + 5) eM_X7_told [.ref 63, vI x] N h (mZ f (gAsk (gTd G) x) s A h N) := by
  refine eSp_of [(0, .ref 63), (1, vI x)] rfl rfl ?_
  have hG := hI.1
  have hG9 := hG
  obtain ⟨g1, g2, g3, g4⟩ := hG9
  unfold i32 at hx0
  refine eW_aload_n 1 rfl rfl rfl ?_
  refine eW_aload_n 2 rfl rfl rfl ?_
  have hgy := gYes_c (gTd G)
  refine eW_callVH 5 [.ref 63] [.ref 63] [vI (gYes (gTd G)), .ref 63] rfl rfl rfl rfl (Nat.ble_eq_true_of_le (by omega)) hm.1 rfl rfl rfl (m_isTold (d := d + 0) hm hN hr hI) rfl rfl ?_
  intro h1 fh1
  obtain ⟨V1, F1, a1, b1, c1, f9h1⟩ := fh1
  obtain ⟨f8h1, hfx⟩ := f9h1
  have hmh1 : mM h1 (sUp (sUp (sUp s 17 a1) 18 b1) 19 c1) (mUp (mUp A 6 V1) 7 F1) := f8h1.1
  have frh1 : mFr h h1 := mFr_t (fun _ _ => rfl) f8h1.2
  refine eW_if_ne 8 rfl rfl (by unfold i32; omega) (fun c2 => ?_) (fun c2 => ?_)
  · refine eW_iload_n 13 rfl rfl rfl ?_
    refine eW_iconst 14 rfl rfl ?_
    refine eW_iconst 15 rfl rfl ?_
    have hinq3 := eD_c ((0 : Int) ≤ x ∧ x ≤ 2)
    refine eW_callS 18 [vI x, vI 0, vI 2] [.ref 63] [vI (eB01 (decide ((0 : Int) ≤ x ∧ x ≤ 2))), .ref 63] rfl rfl rfl (Or.inl rfl) rfl rfl rfl (m_in (d := d + 3) (by unfold i32; omega) (by unfold i32; omega) (by unfold i32; omega)) rfl rfl ?_
    refine eW_if_eq 21 rfl rfl (by unfold i32; omega) (fun c4 => ?_) (fun c4 => ?_)
    · refine eW_iconst 26 rfl rfl ?_
      have hflq5 := eD_c ((0 : Int) < 2)
      refine eW_callVH 29 [.ref 63, vI 2] [] [vI (eB01 (decide ((0 : Int) < 2)))] rfl rfl rfl rfl (Nat.ble_eq_true_of_le (by omega)) (show h1 63 = .inr (11, [.ref 64, .ref 65, .ref 66, .ref 67, vI (s 4), vI (s 5), vI (s 6), vI (s 7), vI (s 8), vI (s 9), .ref 68, vI (s 11), vI (s 12), .ref 69, vI (s 14), .ref 70, .ref 71, vI a1, vI b1, vI c1, vI (s 20), .ref 72, vI (s 22)]) from hmh1.1) rfl rfl rfl (m_fails (d := d + 3) hmh1 hN (by unfold i32; omega)) rfl rfl ?_
      intro h6 fh6
      have hmh6 : mM h6 (sUp (sUp (sUp (sUp s 7 2) 17 a1) 18 b1) 19 c1) (mUp (mUp A 6 V1) 7 F1) := fh6.1
      have frh6 : mFr h h6 := mFr_t frh1 fh6.2
      refine eW_if_eq 32 rfl rfl (by unfold i32; omega) (fun c7 => ?_) (fun c7 => ?_)
      · refine eW_aload_n 37 rfl rfl rfl ?_
        refine eW_iload_n 38 rfl rfl rfl ?_
        refine eW_callV 41 [.ref 63, vI x] [] [vI (gPart (a1, b1, c1) x)] rfl rfl rfl rfl (Nat.ble_eq_true_of_le (by omega)) (show h6 63 = .inr (11, [.ref 64, .ref 65, .ref 66, .ref 67, vI (s 4), vI (s 5), vI (s 6), vI 2, vI (s 8), vI (s 9), .ref 68, vI (s 11), vI (s 12), .ref 69, vI (s 14), .ref 70, .ref 71, vI a1, vI b1, vI c1, vI (s 20), .ref 72, vI (s 22)]) from hmh6.1) rfl rfl rfl (m_part (d := d + 3) hmh6 hN (by unfold i32; omega)) rfl rfl ?_
        refine eW_ret_i rfl rfl (Or.inl rfl) ?_
        exfalso; omega
      · refine eW_iconst 33 rfl rfl ?_
        refine eW_goto rfl ?_
        refine eW_ret_i rfl rfl (Or.inl rfl) ?_
        refine ⟨_, _, _, _, rfl, hmh6, frh6, ?_, ⟨rfl, rfl, rfl, rfl, rfl, rfl, rfl, rfl, rfl, rfl, rfl, rfl, rfl⟩⟩
        obtain ⟨y9, hy9⟩ : ∃ u, gTd G = some u := by rcases hgy with ⟨e, _⟩ | ⟨_, e⟩; exact absurd e (by omega); exact e
        have hye := hfx _ hy9
        rw [gAsk_s hy9, hye]
        rw [eIfT_f (decide_eq_false (by omega))]; exact hf2.symm
    · refine eW_iconst 22 rfl rfl ?_
      refine eW_goto rfl ?_
      have hflq8 := eD_c ((0 : Int) < 0)
      refine eW_callVH 29 [.ref 63, vI 0] [] [vI (eB01 (decide ((0 : Int) < 0)))] rfl rfl rfl rfl (Nat.ble_eq_true_of_le (by omega)) (show h1 63 = .inr (11, [.ref 64, .ref 65, .ref 66, .ref 67, vI (s 4), vI (s 5), vI (s 6), vI (s 7), vI (s 8), vI (s 9), .ref 68, vI (s 11), vI (s 12), .ref 69, vI (s 14), .ref 70, .ref 71, vI a1, vI b1, vI c1, vI (s 20), .ref 72, vI (s 22)]) from hmh1.1) rfl rfl rfl (m_fails (d := d + 3) hmh1 hN (by unfold i32; omega)) rfl rfl ?_
      intro h9 fh9
      have hmh9 : mM h9 (sUp (sUp (sUp (sUp s 7 0) 17 a1) 18 b1) 19 c1) (mUp (mUp A 6 V1) 7 F1) := fh9.1
      have frh9 : mFr h h9 := mFr_t frh1 fh9.2
      refine eW_if_eq 32 rfl rfl (by unfold i32; omega) (fun c10 => ?_) (fun c10 => ?_)
      · refine eW_aload_n 37 rfl rfl rfl ?_
        refine eW_iload_n 38 rfl rfl rfl ?_
        refine eW_callV 41 [.ref 63, vI x] [] [vI (gPart (a1, b1, c1) x)] rfl rfl rfl rfl (Nat.ble_eq_true_of_le (by omega)) (show h9 63 = .inr (11, [.ref 64, .ref 65, .ref 66, .ref 67, vI (s 4), vI (s 5), vI (s 6), vI 0, vI (s 8), vI (s 9), .ref 68, vI (s 11), vI (s 12), .ref 69, vI (s 14), .ref 70, .ref 71, vI a1, vI b1, vI c1, vI (s 20), .ref 72, vI (s 22)]) from hmh9.1) rfl rfl rfl (m_part (d := d + 3) hmh9 hN (by unfold i32; omega)) rfl rfl ?_
        refine eW_ret_i rfl rfl (Or.inl rfl) ?_
        refine ⟨_, _, _, _, rfl, hmh9, frh9, ?_, ⟨rfl, rfl, rfl, rfl, rfl, rfl, rfl, rfl, rfl, rfl, rfl, rfl, rfl⟩⟩
        obtain ⟨y9, hy9⟩ : ∃ u, gTd G = some u := by rcases hgy with ⟨e, _⟩ | ⟨_, e⟩; exact absurd e (by omega); exact e
        have hye := hfx _ hy9
        rw [gAsk_s hy9, hye]
        rw [eIfT_t (decide_eq_true (by omega))]; exact ⟨rfl, rfl⟩
      · refine eW_iconst 33 rfl rfl ?_
        refine eW_goto rfl ?_
        refine eW_ret_i rfl rfl (Or.inl rfl) ?_
        exfalso; omega
  · refine eW_iconst 9 rfl rfl ?_
    refine eW_goto rfl ?_
    have hflq11 := eD_c ((0 : Int) < 1)
    refine eW_callVH 29 [.ref 63, vI 1] [] [vI (eB01 (decide ((0 : Int) < 1)))] rfl rfl rfl rfl (Nat.ble_eq_true_of_le (by omega)) (show h1 63 = .inr (11, [.ref 64, .ref 65, .ref 66, .ref 67, vI (s 4), vI (s 5), vI (s 6), vI (s 7), vI (s 8), vI (s 9), .ref 68, vI (s 11), vI (s 12), .ref 69, vI (s 14), .ref 70, .ref 71, vI a1, vI b1, vI c1, vI (s 20), .ref 72, vI (s 22)]) from hmh1.1) rfl rfl rfl (m_fails (d := d + 3) hmh1 hN (by unfold i32; omega)) rfl rfl ?_
    intro h12 fh12
    have hmh12 : mM h12 (sUp (sUp (sUp (sUp s 7 1) 17 a1) 18 b1) 19 c1) (mUp (mUp A 6 V1) 7 F1) := fh12.1
    have frh12 : mFr h h12 := mFr_t frh1 fh12.2
    refine eW_if_eq 32 rfl rfl (by unfold i32; omega) (fun c13 => ?_) (fun c13 => ?_)
    · refine eW_aload_n 37 rfl rfl rfl ?_
      refine eW_iload_n 38 rfl rfl rfl ?_
      refine eW_callV 41 [.ref 63, vI x] [] [vI (gPart (a1, b1, c1) x)] rfl rfl rfl rfl (Nat.ble_eq_true_of_le (by omega)) (show h12 63 = .inr (11, [.ref 64, .ref 65, .ref 66, .ref 67, vI (s 4), vI (s 5), vI (s 6), vI 1, vI (s 8), vI (s 9), .ref 68, vI (s 11), vI (s 12), .ref 69, vI (s 14), .ref 70, .ref 71, vI a1, vI b1, vI c1, vI (s 20), .ref 72, vI (s 22)]) from hmh12.1) rfl rfl rfl (m_part (d := d + 3) hmh12 hN (by unfold i32; omega)) rfl rfl ?_
      refine eW_ret_i rfl rfl (Or.inl rfl) ?_
      exfalso; omega
    · refine eW_iconst 33 rfl rfl ?_
      refine eW_goto rfl ?_
      refine eW_ret_i rfl rfl (Or.inl rfl) ?_
      refine ⟨_, _, _, _, rfl, hmh12, frh12, ?_, ⟨rfl, rfl, rfl, rfl, rfl, rfl, rfl, rfl, rfl, rfl, rfl, rfl, rfl⟩⟩
      have hn9 : gTd G = none := by rcases hgy with ⟨_, e⟩ | ⟨e, _⟩; exact e; exact absurd e (by omega)
      rw [gAsk_n hn9]; exact hf1.symm
theorem m_scoopAt {d N : Nat} {h : eHp} {s : Nat → Int} {A : Nat → Nat → Int} (hm : mM h s A) (hN : 75 ≤ N) {c : Int} {G : eGd} (hr : rR G (A 0)) (hI : gI c G) {y x : Int} (hy0 : i32 y) (hx0 : i32 x) {f : String → Int} (hf1 : f nNSE = 1) (hf2 : f nIAE = 2) : eSp (d + 4) eM_X7_scoopAt [.ref 63, vI y, vI x] N h (mZ f (gAsk (gAt G y) x) s A h N) := by
  refine eSp_of [(0, .ref 63), (1, vI y), (2, vI x)] rfl rfl ?_
  have hG := hI.1
  have hG9 := hG
  obtain ⟨g1, g2, g3, g4⟩ := hG9
  unfold i32 at hx0 hy0
  refine eW_aload_n 1 rfl rfl rfl ?_
  refine eW_aload_n 2 rfl rfl rfl ?_
  refine eW_iload_n 3 rfl rfl rfl ?_
  have hgy := gYes_c (gAt G y)
  refine eW_callVH 6 [.ref 63, vI y] [.ref 63] [vI (gYes (gAt G y)), .ref 63] rfl rfl rfl rfl (Nat.ble_eq_true_of_le (by omega)) hm.1 rfl rfl rfl (m_isFound (d := d + 0) hm hN hr hI (by unfold i32; omega)) rfl rfl ?_
  intro h1 fh1
  obtain ⟨a1, b1, c1, f9h1⟩ := fh1
  obtain ⟨f8h1, hfx⟩ := f9h1
  have hmh1 : mM h1 (sUp (sUp (sUp s 17 a1) 18 b1) 19 c1) A := f8h1.1
  have frh1 : mFr h h1 := mFr_t (fun _ _ => rfl) f8h1.2
  refine eW_if_ne 9 rfl rfl (by unfold i32; omega) (fun c2 => ?_) (fun c2 => ?_)
  · refine eW_iload_n 14 rfl rfl rfl ?_
    refine eW_iconst 15 rfl rfl ?_
    refine eW_iconst 16 rfl rfl ?_
    have hinq3 := eD_c ((0 : Int) ≤ x ∧ x ≤ 2)
    refine eW_callS 19 [vI x, vI 0, vI 2] [.ref 63] [vI (eB01 (decide ((0 : Int) ≤ x ∧ x ≤ 2))), .ref 63] rfl rfl rfl (Or.inl rfl) rfl rfl rfl (m_in (d := d + 2) (by unfold i32; omega) (by unfold i32; omega) (by unfold i32; omega)) rfl rfl ?_
    refine eW_if_eq 22 rfl rfl (by unfold i32; omega) (fun c4 => ?_) (fun c4 => ?_)
    · refine eW_iconst 27 rfl rfl ?_
      have hflq5 := eD_c ((0 : Int) < 2)
      refine eW_callVH 30 [.ref 63, vI 2] [] [vI (eB01 (decide ((0 : Int) < 2)))] rfl rfl rfl rfl (Nat.ble_eq_true_of_le (by omega)) (show h1 63 = .inr (11, [.ref 64, .ref 65, .ref 66, .ref 67, vI (s 4), vI (s 5), vI (s 6), vI (s 7), vI (s 8), vI (s 9), .ref 68, vI (s 11), vI (s 12), .ref 69, vI (s 14), .ref 70, .ref 71, vI a1, vI b1, vI c1, vI (s 20), .ref 72, vI (s 22)]) from hmh1.1) rfl rfl rfl (m_fails (d := d + 2) hmh1 hN (by unfold i32; omega)) rfl rfl ?_
      intro h6 fh6
      have hmh6 : mM h6 (sUp (sUp (sUp (sUp s 7 2) 17 a1) 18 b1) 19 c1) A := fh6.1
      have frh6 : mFr h h6 := mFr_t frh1 fh6.2
      refine eW_if_eq 33 rfl rfl (by unfold i32; omega) (fun c7 => ?_) (fun c7 => ?_)
      · refine eW_aload_n 38 rfl rfl rfl ?_
        refine eW_iload_n 39 rfl rfl rfl ?_
        refine eW_callV 42 [.ref 63, vI x] [] [vI (gPart (a1, b1, c1) x)] rfl rfl rfl rfl (Nat.ble_eq_true_of_le (by omega)) (show h6 63 = .inr (11, [.ref 64, .ref 65, .ref 66, .ref 67, vI (s 4), vI (s 5), vI (s 6), vI 2, vI (s 8), vI (s 9), .ref 68, vI (s 11), vI (s 12), .ref 69, vI (s 14), .ref 70, .ref 71, vI a1, vI b1, vI c1, vI (s 20), .ref 72, vI (s 22)]) from hmh6.1) rfl rfl rfl (m_part (d := d + 2) hmh6 hN (by unfold i32; omega)) rfl rfl ?_
        refine eW_ret_i rfl rfl (Or.inl rfl) ?_
        exfalso; omega
      · refine eW_iconst 34 rfl rfl ?_
        refine eW_goto rfl ?_
        refine eW_ret_i rfl rfl (Or.inl rfl) ?_
        refine ⟨_, _, _, _, rfl, hmh6, frh6, ?_, ⟨rfl, rfl, rfl, rfl, rfl, rfl, rfl, rfl, rfl, rfl, rfl, rfl, rfl⟩⟩
        obtain ⟨y9, hy9⟩ : ∃ u, gAt G y = some u := by rcases hgy with ⟨e, _⟩ | ⟨_, e⟩; exact absurd e (by omega); exact e
        have hye := hfx _ hy9
        rw [gAsk_s hy9, hye]
        rw [eIfT_f (decide_eq_false (by omega))]; exact hf2.symm
    · refine eW_iconst 23 rfl rfl ?_
      refine eW_goto rfl ?_
      have hflq8 := eD_c ((0 : Int) < 0)
      refine eW_callVH 30 [.ref 63, vI 0] [] [vI (eB01 (decide ((0 : Int) < 0)))] rfl rfl rfl rfl (Nat.ble_eq_true_of_le (by omega)) (show h1 63 = .inr (11, [.ref 64, .ref 65, .ref 66, .ref 67, vI (s 4), vI (s 5), vI (s 6), vI (s 7), vI (s 8), vI (s 9), .ref 68, vI (s 11), vI (s 12), .ref 69, vI (s 14), .ref 70, .ref 71, vI a1, vI b1, vI c1, vI (s 20), .ref 72, vI (s 22)]) from hmh1.1) rfl rfl rfl (m_fails (d := d + 2) hmh1 hN (by unfold i32; omega)) rfl rfl ?_
      intro h9 fh9
      have hmh9 : mM h9 (sUp (sUp (sUp (sUp s 7 0) 17 a1) 18 b1) 19 c1) A := fh9.1
      have frh9 : mFr h h9 := mFr_t frh1 fh9.2
      refine eW_if_eq 33 rfl rfl (by unfold i32; omega) (fun c10 => ?_) (fun c10 => ?_)
      · refine eW_aload_n 38 rfl rfl rfl ?_
        refine eW_iload_n 39 rfl rfl rfl ?_
        refine eW_callV 42 [.ref 63, vI x] [] [vI (gPart (a1, b1, c1) x)] rfl rfl rfl rfl (Nat.ble_eq_true_of_le (by omega)) (show h9 63 = .inr (11, [.ref 64, .ref 65, .ref 66, .ref 67, vI (s 4), vI (s 5), vI (s 6), vI 0, vI (s 8), vI (s 9), .ref 68, vI (s 11), vI (s 12), .ref 69, vI (s 14), .ref 70, .ref 71, vI a1, vI b1, vI c1, vI (s 20), .ref 72, vI (s 22)]) from hmh9.1) rfl rfl rfl (m_part (d := d + 2) hmh9 hN (by unfold i32; omega)) rfl rfl ?_
        refine eW_ret_i rfl rfl (Or.inl rfl) ?_
        refine ⟨_, _, _, _, rfl, hmh9, frh9, ?_, ⟨rfl, rfl, rfl, rfl, rfl, rfl, rfl, rfl, rfl, rfl, rfl, rfl, rfl⟩⟩
        obtain ⟨y9, hy9⟩ : ∃ u, gAt G y = some u := by rcases hgy with ⟨e, _⟩ | ⟨_, e⟩; exact absurd e (by omega); exact e
        have hye := hfx _ hy9
        rw [gAsk_s hy9, hye]
        rw [eIfT_t (decide_eq_true (by omega))]; exact ⟨rfl, rfl⟩
      · refine eW_iconst 34 rfl rfl ?_
        refine eW_goto rfl ?_
        refine eW_ret_i rfl rfl (Or.inl rfl) ?_
        exfalso; omega
  · refine eW_iconst 10 rfl rfl ?_
    refine eW_goto rfl ?_
    have hflq11 := eD_c ((0 : Int) < 1)
    refine eW_callVH 30 [.ref 63, vI 1] [] [vI (eB01 (decide ((0 : Int) < 1)))] rfl rfl rfl rfl (Nat.ble_eq_true_of_le (by omega)) (show h1 63 = .inr (11, [.ref 64, .ref 65, .ref 66, .ref 67, vI (s 4), vI (s 5), vI (s 6), vI (s 7), vI (s 8), vI (s 9), .ref 68, vI (s 11), vI (s 12), .ref 69, vI (s 14), .ref 70, .ref 71, vI a1, vI b1, vI c1, vI (s 20), .ref 72, vI (s 22)]) from hmh1.1) rfl rfl rfl (m_fails (d := d + 2) hmh1 hN (by unfold i32; omega)) rfl rfl ?_
    intro h12 fh12
    have hmh12 : mM h12 (sUp (sUp (sUp (sUp s 7 1) 17 a1) 18 b1) 19 c1) A := fh12.1
    have frh12 : mFr h h12 := mFr_t frh1 fh12.2
    refine eW_if_eq 33 rfl rfl (by unfold i32; omega) (fun c13 => ?_) (fun c13 => ?_)
    · refine eW_aload_n 38 rfl rfl rfl ?_
      refine eW_iload_n 39 rfl rfl rfl ?_
      refine eW_callV 42 [.ref 63, vI x] [] [vI (gPart (a1, b1, c1) x)] rfl rfl rfl rfl (Nat.ble_eq_true_of_le (by omega)) (show h12 63 = .inr (11, [.ref 64, .ref 65, .ref 66, .ref 67, vI (s 4), vI (s 5), vI (s 6), vI 1, vI (s 8), vI (s 9), .ref 68, vI (s 11), vI (s 12), .ref 69, vI (s 14), .ref 70, .ref 71, vI a1, vI b1, vI c1, vI (s 20), .ref 72, vI (s 22)]) from hmh12.1) rfl rfl rfl (m_part (d := d + 2) hmh12 hN (by unfold i32; omega)) rfl rfl ?_
      refine eW_ret_i rfl rfl (Or.inl rfl) ?_
      exfalso; omega
    · refine eW_iconst 34 rfl rfl ?_
      refine eW_goto rfl ?_
      refine eW_ret_i rfl rfl (Or.inl rfl) ?_
      refine ⟨_, _, _, _, rfl, hmh12, frh12, ?_, ⟨rfl, rfl, rfl, rfl, rfl, rfl, rfl, rfl, rfl, rfl, rfl, rfl, rfl⟩⟩
      have hn9 : gAt G y = none := by rcases hgy with ⟨_, e⟩ | ⟨e, _⟩; exact e; exact absurd e (by omega)
      rw [gAsk_n hn9]; exact hf1.symm
