/-! the class's object, at the name 0: snapshot there, error position, reason, detail -/
abbrev eXs : Type := Int × Int × Int × Int
def gX (h : eHp) (X : eXs) : Prop := h 0 = .inr (10, [.ref 1, .ref 5, .ref 9, .ref 13, .ref 47, .ref 53, .ref 56, .ref 57, .ref 61, vI X.1, vI X.2.1, vI X.2.2.1, vI X.2.2.2])
theorem gXorS_succ {F : Nat → Int} {i : Int} (h : 0 ≤ i) : gXorS F (i + 1).toNat = gXr (gXorS F i.toNat) (F i.toNat) := by
  rw [show (i + 1).toNat = i.toNat + 1 by omega]; rfl
def gSumV (V : eVs) (G : eGd) : Int := gXorS (fun i => gVal V.2.1 (G.1 i)) G.2.2.2.1.toNat
theorem x_sumOf_l {d N k z : Nat} {h : eHp} {P : eR → Prop} {X : eXs} (hx : gX h X) {V : eVs} (hv : gV h 47 V) (hV : gVO V) (hN : 75 ≤ N) {g : Nat} {G : eGd} (hg : gG h g G) (hG : gOk G) (hg4 : g + 4 ≤ N)  : ∀ (m9 : Nat) (a i : Int), G.2.2.2.1 - i ≤ m9 → 0 ≤ i → i ≤ G.2.2.2.1 → a = gXorS (fun j => gVal V.2.1 (G.1 j)) i.toNat → 0 ≤ a ∧ a ≤ 31 → (∀ (a i : Int), a = gSumV V G → eWp eOx (eEv (d + 2)) eM_X6_sumOf (33, [(0, .ref 0), (1, .ref g), (2, vI a), (3, vI i)], [], N, h, k, z) P) → eWp eOx (eEv (d + 2)) eM_X6_sumOf (4, [(0, .ref 0), (1, .ref g), (2, vI a), (3, vI i)], [], N, h, k, z) P := by
  intro m9
  induction m9 with
  | zero =>
    intro a i hm q0 q1 q2 q3 kk
    have hG9 := hG
    obtain ⟨g1, g2, g3, g4⟩ := hG9
    refine eW_iload_n 5 rfl rfl rfl ?_
    refine eW_aload_n 6 rfl rfl rfl ?_
    refine eW_callV 9 [.ref g] [vI i] [vI G.2.2.2.1, vI i] rfl rfl rfl rfl (Nat.ble_eq_true_of_le (by omega)) hg.1 rfl rfl rfl (g_pits (d := d + 1) hg hG hg4) rfl rfl ?_
    refine eW_icmp_ge 12 rfl rfl (by unfold i32; omega) (by unfold i32; omega) (fun c1 => ?_) (fun c1 => ?_)
    · refine kk _ _ ?_
      rw [q2, show i = G.2.2.2.1 by omega]; rfl
    · refine eW_iload_n 13 rfl rfl rfl ?_
      refine eW_aload_n 14 rfl rfl rfl ?_
      refine eW_getfield 17 rfl rfl (Nat.ble_eq_true_of_le (by omega)) rfl hx rfl ⟨rfl, fun _ h9 => nomatch h9⟩ ?_
      refine eW_aload_n 18 rfl rfl rfl ?_
      refine eW_iload_n 19 rfl rfl rfl ?_
      have hin2 := gIn_le hG i
      refine eW_callV 22 [.ref g, vI i] [.ref 47, vI a] [vI (gIn G i), .ref 47, vI a] rfl rfl rfl rfl (Nat.ble_eq_true_of_le (by omega)) hg.1 rfl rfl rfl (g_marblesIn (d := d + 0) hg hG hg4 (by unfold i32; omega)) rfl rfl ?_
      have hln3 := gVal_le (by omega) hV.1 (gIn G i)
      refine eW_callV 25 [.ref 47, vI (gIn G i)] [vI a] [vI (gVal V.2.1 (gIn G i)), vI a] rfl rfl rfl rfl (Nat.ble_eq_true_of_le (by omega)) hv.1 rfl rfl rfl (v_of (d := d + 0) hv hV (by omega) (by unfold i32; omega)) rfl rfl ?_
      refine eW_ixor 26 rfl rfl (gXr a (gVal V.2.1 (gIn G i))) (gXr_ok (by omega) (by omega)) ?_
      refine eW_istore_n 27 rfl rfl [(2, vI (gXr a (gVal V.2.1 (gIn G i)))), (0, .ref 0), (1, .ref g), (3, vI i)] rfl rfl ?_
      refine eW_iinc 30 rfl rfl [(3, vI (i + 1)), (2, vI (gXr a (gVal V.2.1 (gIn G i)))), (0, .ref 0), (1, .ref g)] rfl rfl rfl ?_
      refine eW_goto rfl ?_
      refine eW_re [(0, .ref 0), (1, .ref g), (2, vI (gXr a (gVal V.2.1 (gIn G i)))), (3, vI (i + 1))] rfl rfl (List.forall_mem_cons.mpr ⟨rfl, List.forall_mem_cons.mpr ⟨rfl, List.forall_mem_cons.mpr ⟨rfl, List.forall_mem_cons.mpr ⟨rfl, fun _ h => absurd h List.not_mem_nil⟩⟩⟩⟩) (List.forall_mem_cons.mpr ⟨Or.inl rfl, List.forall_mem_cons.mpr ⟨Or.inl rfl, List.forall_mem_cons.mpr ⟨Or.inl rfl, List.forall_mem_cons.mpr ⟨Or.inl rfl, fun _ h => absurd h List.not_mem_nil⟩⟩⟩⟩) ?_
      exact absurd hm (by omega)
  | succ m9 ih =>
    intro a i hm q0 q1 q2 q3 kk
    have hG9 := hG
    obtain ⟨g1, g2, g3, g4⟩ := hG9
    refine eW_iload_n 5 rfl rfl rfl ?_
    refine eW_aload_n 6 rfl rfl rfl ?_
    refine eW_callV 9 [.ref g] [vI i] [vI G.2.2.2.1, vI i] rfl rfl rfl rfl (Nat.ble_eq_true_of_le (by omega)) hg.1 rfl rfl rfl (g_pits (d := d + 1) hg hG hg4) rfl rfl ?_
    refine eW_icmp_ge 12 rfl rfl (by unfold i32; omega) (by unfold i32; omega) (fun c1 => ?_) (fun c1 => ?_)
    · refine kk _ _ ?_
      rw [q2, show i = G.2.2.2.1 by omega]; rfl
    · refine eW_iload_n 13 rfl rfl rfl ?_
      refine eW_aload_n 14 rfl rfl rfl ?_
      refine eW_getfield 17 rfl rfl (Nat.ble_eq_true_of_le (by omega)) rfl hx rfl ⟨rfl, fun _ h9 => nomatch h9⟩ ?_
      refine eW_aload_n 18 rfl rfl rfl ?_
      refine eW_iload_n 19 rfl rfl rfl ?_
      have hin2 := gIn_le hG i
      refine eW_callV 22 [.ref g, vI i] [.ref 47, vI a] [vI (gIn G i), .ref 47, vI a] rfl rfl rfl rfl (Nat.ble_eq_true_of_le (by omega)) hg.1 rfl rfl rfl (g_marblesIn (d := d + 0) hg hG hg4 (by unfold i32; omega)) rfl rfl ?_
      have hln3 := gVal_le (by omega) hV.1 (gIn G i)
      refine eW_callV 25 [.ref 47, vI (gIn G i)] [vI a] [vI (gVal V.2.1 (gIn G i)), vI a] rfl rfl rfl rfl (Nat.ble_eq_true_of_le (by omega)) hv.1 rfl rfl rfl (v_of (d := d + 0) hv hV (by omega) (by unfold i32; omega)) rfl rfl ?_
      refine eW_ixor 26 rfl rfl (gXr a (gVal V.2.1 (gIn G i))) (gXr_ok (by omega) (by omega)) ?_
      refine eW_istore_n 27 rfl rfl [(2, vI (gXr a (gVal V.2.1 (gIn G i)))), (0, .ref 0), (1, .ref g), (3, vI i)] rfl rfl ?_
      refine eW_iinc 30 rfl rfl [(3, vI (i + 1)), (2, vI (gXr a (gVal V.2.1 (gIn G i)))), (0, .ref 0), (1, .ref g)] rfl rfl rfl ?_
      refine eW_goto rfl ?_
      refine eW_re [(0, .ref 0), (1, .ref g), (2, vI (gXr a (gVal V.2.1 (gIn G i)))), (3, vI (i + 1))] rfl rfl (List.forall_mem_cons.mpr ⟨rfl, List.forall_mem_cons.mpr ⟨rfl, List.forall_mem_cons.mpr ⟨rfl, List.forall_mem_cons.mpr ⟨rfl, fun _ h => absurd h List.not_mem_nil⟩⟩⟩⟩) (List.forall_mem_cons.mpr ⟨Or.inl rfl, List.forall_mem_cons.mpr ⟨Or.inl rfl, List.forall_mem_cons.mpr ⟨Or.inl rfl, List.forall_mem_cons.mpr ⟨Or.inl rfl, fun _ h => absurd h List.not_mem_nil⟩⟩⟩⟩) ?_
      refine ih _ (i + 1) (by omega) (by omega) (by omega) ?_ (gXr_lt (by omega) (by omega)) kk
      rw [gXorS_succ q0, q2, gIn_t q0 (by omega)]
theorem x_sumOf {d N : Nat} {h : eHp} {X : eXs} (hx : gX h X) {V : eVs} (hv : gV h 47 V) (hV : gVO V) (hN : 75 ≤ N) {g : Nat} {G : eGd} (hg : gG h g G) (hG : gOk G) (hg4 : g + 4 ≤ N) : eSp (d + 3) eM_X6_sumOf [.ref 0, .ref g] N h (eRet (some (vI (gSumV V G))) N h) := by
  refine eSp_of [(0, .ref 0), (1, .ref g)] rfl rfl ?_
  have hG9 := hG
  obtain ⟨g1, g2, g3, g4⟩ := hG9
  refine eW_iconst 1 rfl rfl ?_
  refine eW_istore_n 2 rfl rfl [(2, vI 0), (0, .ref 0), (1, .ref g)] rfl rfl ?_
  refine eW_iconst 3 rfl rfl ?_
  refine eW_istore_n 4 rfl rfl [(3, vI 0), (2, vI 0), (0, .ref 0), (1, .ref g)] rfl rfl ?_
  refine eW_re [(0, .ref 0), (1, .ref g), (2, vI 0), (3, vI 0)] rfl rfl (List.forall_mem_cons.mpr ⟨rfl, List.forall_mem_cons.mpr ⟨rfl, List.forall_mem_cons.mpr ⟨rfl, List.forall_mem_cons.mpr ⟨rfl, fun _ h => absurd h List.not_mem_nil⟩⟩⟩⟩) (List.forall_mem_cons.mpr ⟨Or.inl rfl, List.forall_mem_cons.mpr ⟨Or.inl rfl, List.forall_mem_cons.mpr ⟨Or.inl rfl, List.forall_mem_cons.mpr ⟨Or.inl rfl, fun _ h => absurd h List.not_mem_nil⟩⟩⟩⟩) ?_
  refine x_sumOf_l hx hv hV hN hg hG hg4 _ 0 0 (Int.self_le_toNat _) (by omega) (by omega) rfl (by omega) (fun a i q => ?_)
  refine eW_iload_n 34 rfl rfl rfl ?_
  refine eW_ret_i rfl rfl (Or.inl rfl) ?_
  exact eRet_i q
theorem x_valueOfPit {d N : Nat} {h : eHp} {X : eXs} (hx : gX h X) {V : eVs} (hv : gV h 47 V) (hV : gVO V) (hN : 75 ≤ N) {G : eGd} (hg : gG h 1 G) (hG : gOk G) {p : Int} (hp : i32 p) : eSp (d + 3) eM_X6_valueOfPit [.ref 0, vI p] N h (eRet (some (vI (gVal V.2.1 (gIn G p)))) N h) := by
  refine eSp_of [(0, .ref 0), (1, vI p)] rfl rfl ?_
  refine eW_aload_n 1 rfl rfl rfl ?_
  refine eW_getfield 4 rfl rfl (Nat.ble_eq_true_of_le (by omega)) rfl hx rfl ⟨rfl, fun _ h9 => nomatch h9⟩ ?_
  refine eW_aload_n 5 rfl rfl rfl ?_
  refine eW_getfield 8 rfl rfl (Nat.ble_eq_true_of_le (by omega)) rfl hx rfl ⟨rfl, fun _ h9 => nomatch h9⟩ ?_
  refine eW_iload_n 9 rfl rfl rfl ?_
  have hi := gIn_le hG p
  refine eW_callV 12 [.ref 1, vI p] [.ref 47] [vI (gIn G p), .ref 47] rfl rfl rfl rfl (Nat.ble_eq_true_of_le (by omega)) hg.1 rfl rfl rfl (g_marblesIn (d := d) hg hG (by omega) hp) rfl rfl ?_
  have hln1 := gVal_le (by omega) hV.1 (gIn G p)
  refine eW_callV 15 [.ref 47, vI (gIn G p)] [] [vI (gVal V.2.1 (gIn G p))] rfl rfl rfl rfl (Nat.ble_eq_true_of_le (by omega)) hv.1 rfl rfl rfl (v_of (d := d + 0) hv hV (by omega) (by unfold i32; omega)) rfl rfl ?_
  refine eW_ret_i rfl rfl (Or.inl rfl) ?_
  rfl
theorem x_sum {d N : Nat} {h : eHp} {X : eXs} (hx : gX h X) {V : eVs} (hv : gV h 47 V) (hV : gVO V) (hN : 75 ≤ N) {G : eGd} (hg : gG h 1 G) (hG : gOk G) : eSp (d + 4) eM_X6_sum [.ref 0] N h (eRet (some (vI (gSumV V G))) N h) := by
  refine eSp_of [(0, .ref 0)] rfl rfl ?_
  refine eW_aload_n 1 rfl rfl rfl ?_
  refine eW_aload_n 2 rfl rfl rfl ?_
  refine eW_getfield 5 rfl rfl (Nat.ble_eq_true_of_le (by omega)) rfl hx rfl ⟨rfl, fun _ h9 => nomatch h9⟩ ?_
  refine eW_callV 8 [.ref 0, .ref 1] [] [vI (gSumV V G)] rfl rfl rfl rfl (Nat.ble_eq_true_of_le (by omega)) hx rfl rfl rfl (x_sumOf (d := d + 0) hx hv hV hN hg hG (by omega)) rfl rfl ?_
  refine eW_ret_i rfl rfl (Or.inl rfl) ?_
  rfl
theorem gSumV_le {V : eVs} {G : eGd} (hV : gVO V) : 0 ≤ gSumV V G ∧ gSumV V G ≤ 31 := gXorS_le (fun i _ => (gVal_le (by omega) hV.1 _).2)
theorem x_wins {d N : Nat} {h : eHp} {X : eXs} (hx : gX h X) {V : eVs} (hv : gV h 47 V) (hV : gVO V) (hN : 75 ≤ N) {G : eGd} (hg : gG h 1 G) (hG : gOk G) : eSp (d + 4) eM_X6_winsByValues [.ref 0] N h (eRet (some (vI (eB01 (decide (gSumV V G ≠ 0))))) N h) := by
  refine eSp_of [(0, .ref 0)] rfl rfl ?_
  have hs := gSumV_le (G := G) hV
  refine eW_aload_n 1 rfl rfl rfl ?_
  refine eW_aload_n 2 rfl rfl rfl ?_
  refine eW_getfield 5 rfl rfl (Nat.ble_eq_true_of_le (by omega)) rfl hx rfl ⟨rfl, fun _ h9 => nomatch h9⟩ ?_
  refine eW_callV 8 [.ref 0, .ref 1] [] [vI (gSumV V G)] rfl rfl rfl rfl (Nat.ble_eq_true_of_le (by omega)) hx rfl rfl rfl (x_sumOf (d := d + 0) hx hv hV hN hg hG (by omega)) rfl rfl ?_
  refine eW_if_eq 11 rfl rfl (by unfold i32; omega) (fun c1 => ?_) (fun c1 => ?_)
  · refine eW_iconst 16 rfl rfl ?_
    refine eW_ret_i rfl rfl (Or.inr (Or.inl ⟨rfl, rfl⟩)) ?_
    refine eRet_i ?_
    first | (exfalso; omega) | (rw [decide_eq_true (by omega)]; rfl) | (rw [decide_eq_false (by omega)]; rfl)
  · refine eW_iconst 12 rfl rfl ?_
    refine eW_goto rfl ?_
    refine eW_ret_i rfl rfl (Or.inr (Or.inl ⟨rfl, rfl⟩)) ?_
    refine eRet_i ?_
    first | (exfalso; omega) | (rw [decide_eq_true (by omega)]; rfl) | (rw [decide_eq_false (by omega)]; rfl)
theorem x_turn {d N : Nat} {h : eHp} {X : eXs} (hx : gX h X) {V : eVs} (hv : gV h 47 V) (hV : gVO V) (hN : 75 ≤ N) {G : eGd} (hg : gG h 1 G) (hG : gOk G) : eSp (d + 2) eM_X6_turn [.ref 0] N h (eRet (some (vI G.2.2.2.2.1)) N h) := by
  refine eSp_of [(0, .ref 0)] rfl rfl ?_
  refine eW_aload_n 1 rfl rfl rfl ?_
  refine eW_getfield 4 rfl rfl (Nat.ble_eq_true_of_le (by omega)) rfl hx rfl ⟨rfl, fun _ h9 => nomatch h9⟩ ?_
  refine eW_callV 7 [.ref 1] [] [vI G.2.2.2.2.1] rfl rfl rfl rfl (Nat.ble_eq_true_of_le (by omega)) hg.1 rfl rfl rfl (g_monkAtTurn (d := d) hg hG (by omega)) rfl rfl ?_
  refine eW_ret_i rfl rfl (Or.inl rfl) ?_
  rfl
theorem x_scoops {d N : Nat} {h : eHp} {X : eXs} (hx : gX h X) {V : eVs} (hv : gV h 47 V) (hV : gVO V) (hN : 75 ≤ N) {G : eGd} (hg : gG h 1 G) (hG : gOk G) : eSp (d + 5) eM_X6_scoops [.ref 0] N h (eRet (some (vI (gSum (fun j => gWays (gDig G) (G.1 j)) G.2.2.2.1.toNat))) N h) := by
  refine eSp_of [(0, .ref 0)] rfl rfl ?_
  refine eW_aload_n 1 rfl rfl rfl ?_
  refine eW_getfield 4 rfl rfl (Nat.ble_eq_true_of_le (by omega)) rfl hx rfl ⟨rfl, fun _ h9 => nomatch h9⟩ ?_
  refine eW_callV 7 [.ref 1] [] [vI (gSum (fun j => gWays (gDig G) (G.1 j)) G.2.2.2.1.toNat)] rfl rfl rfl rfl (Nat.ble_eq_true_of_le (by omega)) hg.1 rfl rfl rfl (g_scoops (d := d) hg hG (by omega)) rfl rfl ?_
  refine eW_ret_i rfl rfl (Or.inl rfl) ?_
  rfl
def gTake (t : Int) : Bool := decide (1 ≤ t ∧ t ≤ 6)
def gMonk (m : Int) : Bool := decide (0 ≤ m ∧ m < 2)
theorem x_isTake {d N : Nat} {h : eHp} {t : Int} (ht : i32 t) : eSp (d + 1) eM_X6_isTake [vI t] N h (eRet (some (vI (eB01 (gTake t)))) N h) := by
  refine eSp_of [(0, vI t)] rfl rfl ?_
  unfold i32 at ht
  refine eW_iload_n 1 rfl rfl rfl ?_
  refine eW_iconst 2 rfl rfl ?_
  refine eW_icmp_lt 5 rfl rfl (by unfold i32; omega) (by unfold i32; omega) (fun c1 => ?_) (fun c1 => ?_)
  · refine eW_iconst 16 rfl rfl ?_
    refine eW_ret_i rfl rfl (Or.inr (Or.inl ⟨rfl, rfl⟩)) ?_
    unfold gTake
    first | (exfalso; omega) | (rw [decide_eq_true (by omega)]; rfl) | (rw [decide_eq_false (by omega)]; rfl)
  · refine eW_iload_n 6 rfl rfl rfl ?_
    refine eW_bipush 8 rfl rfl 6 rfl ?_
    refine eW_icmp_gt 11 rfl rfl (by unfold i32; omega) (by unfold i32; omega) (fun c2 => ?_) (fun c2 => ?_)
    · refine eW_iconst 16 rfl rfl ?_
      refine eW_ret_i rfl rfl (Or.inr (Or.inl ⟨rfl, rfl⟩)) ?_
      unfold gTake
      first | (exfalso; omega) | (rw [decide_eq_true (by omega)]; rfl) | (rw [decide_eq_false (by omega)]; rfl)
    · refine eW_iconst 12 rfl rfl ?_
      refine eW_goto rfl ?_
      refine eW_ret_i rfl rfl (Or.inr (Or.inl ⟨rfl, rfl⟩)) ?_
      unfold gTake
      first | (exfalso; omega) | (rw [decide_eq_true (by omega)]; rfl) | (rw [decide_eq_false (by omega)]; rfl)
theorem x_isMonk {d N : Nat} {h : eHp} {m : Int} (hm : i32 m) : eSp (d + 1) eM_X6_isMonk [vI m] N h (eRet (some (vI (eB01 (gMonk m)))) N h) := by
  refine eSp_of [(0, vI m)] rfl rfl ?_
  unfold i32 at hm
  refine eW_iload_n 1 rfl rfl rfl ?_
  refine eW_if_lt 4 rfl rfl (by unfold i32; omega) (fun c1 => ?_) (fun c1 => ?_)
  · refine eW_iconst 14 rfl rfl ?_
    refine eW_ret_i rfl rfl (Or.inr (Or.inl ⟨rfl, rfl⟩)) ?_
    unfold gMonk
    first | (exfalso; omega) | (rw [decide_eq_true (by omega)]; rfl) | (rw [decide_eq_false (by omega)]; rfl)
  · refine eW_iload_n 5 rfl rfl rfl ?_
    refine eW_iconst 6 rfl rfl ?_
    refine eW_icmp_ge 9 rfl rfl (by unfold i32; omega) (by unfold i32; omega) (fun c2 => ?_) (fun c2 => ?_)
    · refine eW_iconst 14 rfl rfl ?_
      refine eW_ret_i rfl rfl (Or.inr (Or.inl ⟨rfl, rfl⟩)) ?_
      unfold gMonk
      first | (exfalso; omega) | (rw [decide_eq_true (by omega)]; rfl) | (rw [decide_eq_false (by omega)]; rfl)
    · refine eW_iconst 10 rfl rfl ?_
      refine eW_goto rfl ?_
      refine eW_ret_i rfl rfl (Or.inr (Or.inl ⟨rfl, rfl⟩)) ?_
      unfold gMonk
      first | (exfalso; omega) | (rw [decide_eq_true (by omega)]; rfl) | (rw [decide_eq_false (by omega)]; rfl)
def gBefore (V : eVs) (G : eGd) (a b : Int) : Bool := decide (gVal V.2.1 (gIn G b) < gVal V.2.1 (gIn G a) ∨ (gVal V.2.1 (gIn G a) = gVal V.2.1 (gIn G b) ∧ (gIn G a < gIn G b ∨ (gIn G a = gIn G b ∧ a < b))))
theorem x_before {d N : Nat} {h : eHp} {X : eXs} (hx : gX h X) {V : eVs} (hv : gV h 47 V) (hV : gVO V) (hN : 75 ≤ N) {G : eGd} (hg : gG h 1 G) (hG : gOk G) {a b : Int} (ha : i32 a) (hb : i32 b) : eSp (d + 4) eM_X6_isRankedBefore [.ref 0, vI a, vI b] N h (eRet (some (vI (eB01 (gBefore V G a b)))) N h) := by
  refine eSp_of [(0, .ref 0), (1, vI a), (2, vI b)] rfl rfl ?_
  have ha9 := ha
  have hb9 := hb
  unfold i32 at ha9 hb9
  refine eW_aload_n 1 rfl rfl rfl ?_
  refine eW_iload_n 2 rfl rfl rfl ?_
  have hln1 := gVal_le (by omega) hV.1 (gIn G a)
  refine eW_callV 5 [.ref 0, vI a] [] [vI (gVal V.2.1 (gIn G a))] rfl rfl rfl rfl (Nat.ble_eq_true_of_le (by omega)) hx rfl rfl rfl (x_valueOfPit (d := d) hx hv hV hN hg hG (by assumption)) rfl rfl ?_
  refine eW_aload_n 6 rfl rfl rfl ?_
  refine eW_iload_n 7 rfl rfl rfl ?_
  have hln2 := gVal_le (by omega) hV.1 (gIn G b)
  refine eW_callV 10 [.ref 0, vI b] [vI (gVal V.2.1 (gIn G a))] [vI (gVal V.2.1 (gIn G b)), vI (gVal V.2.1 (gIn G a))] rfl rfl rfl rfl (Nat.ble_eq_true_of_le (by omega)) hx rfl rfl rfl (x_valueOfPit (d := d) hx hv hV hN hg hG (by assumption)) rfl rfl ?_
  refine eW_isub 11 rfl rfl ?_
  refine eW_istore_n 12 rfl rfl [(3, vI ((gVal V.2.1 (gIn G a)) - (gVal V.2.1 (gIn G b)))), (0, .ref 0), (1, vI a), (2, vI b)] rfl rfl ?_
  refine eW_iload_n 13 rfl rfl rfl ?_
  refine eW_if_eq 16 rfl rfl (by unfold i32; omega) (fun c3 => ?_) (fun c3 => ?_)
  · refine eW_aload_n 27 rfl rfl rfl ?_
    refine eW_getfield 30 rfl rfl (Nat.ble_eq_true_of_le (by omega)) rfl hx rfl ⟨rfl, fun _ h9 => nomatch h9⟩ ?_
    refine eW_iload_n 31 rfl rfl rfl ?_
    have hin4 := gIn_le hG a
    refine eW_callV 34 [.ref 1, vI a] [] [vI (gIn G a)] rfl rfl rfl rfl (Nat.ble_eq_true_of_le (by omega)) hg.1 rfl rfl rfl (g_marblesIn (d := d + 1) hg hG (by omega) (by assumption)) rfl rfl ?_
    refine eW_aload_n 35 rfl rfl rfl ?_
    refine eW_getfield 38 rfl rfl (Nat.ble_eq_true_of_le (by omega)) rfl hx rfl ⟨rfl, fun _ h9 => nomatch h9⟩ ?_
    refine eW_iload_n 39 rfl rfl rfl ?_
    have hin5 := gIn_le hG b
    refine eW_callV 42 [.ref 1, vI b] [vI (gIn G a)] [vI (gIn G b), vI (gIn G a)] rfl rfl rfl rfl (Nat.ble_eq_true_of_le (by omega)) hg.1 rfl rfl rfl (g_marblesIn (d := d + 1) hg hG (by omega) (by assumption)) rfl rfl ?_
    refine eW_isub 43 rfl rfl ?_
    refine eW_istore 45 rfl rfl [(4, vI ((gIn G a) - (gIn G b))), (3, vI ((gVal V.2.1 (gIn G a)) - (gVal V.2.1 (gIn G b)))), (0, .ref 0), (1, vI a), (2, vI b)] rfl rfl ?_
    refine eW_iload 47 rfl rfl rfl ?_
    refine eW_if_eq 50 rfl rfl (by unfold i32; omega) (fun c6 => ?_) (fun c6 => ?_)
    · refine eW_iload_n 64 rfl rfl rfl ?_
      refine eW_iload_n 65 rfl rfl rfl ?_
      refine eW_icmp_ge 68 rfl rfl (by unfold i32; omega) (by unfold i32; omega) (fun c7 => ?_) (fun c7 => ?_)
      · refine eW_iconst 73 rfl rfl ?_
        refine eW_ret_i rfl rfl (Or.inr (Or.inl ⟨rfl, rfl⟩)) ?_
        unfold gBefore
        first | (exfalso; omega) | (rw [decide_eq_true (by omega)]; rfl) | (rw [decide_eq_false (by omega)]; rfl)
      · refine eW_iconst 69 rfl rfl ?_
        refine eW_goto rfl ?_
        refine eW_ret_i rfl rfl (Or.inr (Or.inl ⟨rfl, rfl⟩)) ?_
        unfold gBefore
        first | (exfalso; omega) | (rw [decide_eq_true (by omega)]; rfl) | (rw [decide_eq_false (by omega)]; rfl)
    · refine eW_iload 52 rfl rfl rfl ?_
      refine eW_if_ge 55 rfl rfl (by unfold i32; omega) (fun c8 => ?_) (fun c8 => ?_)
      · refine eW_iconst 60 rfl rfl ?_
        refine eW_goto rfl ?_
        refine eW_ret_i rfl rfl (Or.inr (Or.inl ⟨rfl, rfl⟩)) ?_
        unfold gBefore
        first | (exfalso; omega) | (rw [decide_eq_true (by omega)]; rfl) | (rw [decide_eq_false (by omega)]; rfl)
      · refine eW_iconst 56 rfl rfl ?_
        refine eW_goto rfl ?_
        refine eW_ret_i rfl rfl (Or.inr (Or.inl ⟨rfl, rfl⟩)) ?_
        unfold gBefore
        first | (exfalso; omega) | (rw [decide_eq_true (by omega)]; rfl) | (rw [decide_eq_false (by omega)]; rfl)
  · refine eW_iload_n 17 rfl rfl rfl ?_
    refine eW_if_le 20 rfl rfl (by unfold i32; omega) (fun c9 => ?_) (fun c9 => ?_)
    · refine eW_iconst 25 rfl rfl ?_
      refine eW_ret_i rfl rfl (Or.inr (Or.inl ⟨rfl, rfl⟩)) ?_
      unfold gBefore
      first | (exfalso; omega) | (rw [decide_eq_true (by omega)]; rfl) | (rw [decide_eq_false (by omega)]; rfl)
    · refine eW_iconst 21 rfl rfl ?_
      refine eW_goto rfl ?_
      refine eW_ret_i rfl rfl (Or.inr (Or.inl ⟨rfl, rfl⟩)) ?_
      unfold gBefore
      first | (exfalso; omega) | (rw [decide_eq_true (by omega)]; rfl) | (rw [decide_eq_false (by omega)]; rfl)
def gRank (V : eVs) (G : eGd) (p : Int) : Nat → Int
  | 0 => 0
  | n + 1 => gRank V G p n + eB01 (gBefore V G n p)
theorem gRank_succ {V : eVs} {G : eGd} {p i : Int} (h : 0 ≤ i) : gRank V G p (i + 1).toNat = gRank V G p i.toNat + eB01 (gBefore V G i p) := by
  obtain ⟨k, rfl⟩ : ∃ k : Nat, i = k := ⟨i.toNat, by omega⟩
  rw [show ((k : Int) + 1).toNat = k + 1 by omega, show (k : Int).toNat = k by omega]; rfl
theorem gRank_le {V : eVs} {G : eGd} {p : Int} : ∀ n : Nat, 0 ≤ gRank V G p n ∧ gRank V G p n ≤ n
  | 0 => ⟨Int.le_refl _, Int.le_refl _⟩
  | n + 1 => by
    have h1 := gRank_le (V := V) (G := G) (p := p) n
    have h2 := eB01_le (gBefore V G n p)
    simp only [gRank]
    omega
theorem x_rank_l {d N k z : Nat} {h : eHp} {P : eR → Prop} {X : eXs} (hx : gX h X) {V : eVs} (hv : gV h 47 V) (hV : gVO V) (hN : 75 ≤ N) {G : eGd} (hg : gG h 1 G) (hG : gOk G) {p : Int} (hp : i32 p) : ∀ (m9 : Nat) (a i : Int), G.2.2.2.1 - i ≤ m9 → 0 ≤ i → i ≤ G.2.2.2.1 → a = gRank V G p i.toNat → (∀ (a i : Int), a = gRank V G p G.2.2.2.1.toNat → eWp eOx (eEv (d + 4)) eM_X6_rankOf (33, [(0, .ref 0), (1, vI p), (2, vI a), (3, vI i)], [], N, h, k, z) P) → eWp eOx (eEv (d + 4)) eM_X6_rankOf (4, [(0, .ref 0), (1, vI p), (2, vI a), (3, vI i)], [], N, h, k, z) P := by
  intro m9
  induction m9 with
  | zero =>
    intro a i hm q0 q1 q2 kk
    have hG9 := hG
    obtain ⟨g1, g2, g3, g4⟩ := hG9
    refine eW_iload_n 5 rfl rfl rfl ?_
    refine eW_aload_n 6 rfl rfl rfl ?_
    refine eW_getfield 9 rfl rfl (Nat.ble_eq_true_of_le (by omega)) rfl hx rfl ⟨rfl, fun _ h9 => nomatch h9⟩ ?_
    refine eW_callV 12 [.ref 1] [vI i] [vI G.2.2.2.1, vI i] rfl rfl rfl rfl (Nat.ble_eq_true_of_le (by omega)) hg.1 rfl rfl rfl (g_pits (d := d + 3) hg hG (by omega)) rfl rfl ?_
    refine eW_icmp_ge 15 rfl rfl (by unfold i32; omega) (by unfold i32; omega) (fun c1 => ?_) (fun c1 => ?_)
    · refine kk _ _ ?_
      rw [q2, show i = G.2.2.2.1 by omega]
    · refine eW_aload_n 16 rfl rfl rfl ?_
      refine eW_iload_n 17 rfl rfl rfl ?_
      refine eW_iload_n 18 rfl rfl rfl ?_
      have hb := eB01_c (gBefore V G i p)
      refine eW_callV 21 [.ref 0, vI i, vI p] [] [vI (eB01 (gBefore V G i p))] rfl rfl rfl rfl (Nat.ble_eq_true_of_le (by omega)) hx rfl rfl rfl (x_before (d := d) hx hv hV hN hg hG (by unfold i32; omega) hp) rfl rfl ?_
      refine eW_if_eq 24 rfl rfl (by unfold i32; omega) (fun c2 => ?_) (fun c2 => ?_)
      · refine eW_iinc 30 rfl rfl [(3, vI (i + 1)), (0, .ref 0), (1, vI p), (2, vI a)] rfl rfl rfl ?_
        refine eW_goto rfl ?_
        refine eW_re [(0, .ref 0), (1, vI p), (2, vI a), (3, vI (i + 1))] rfl rfl (List.forall_mem_cons.mpr ⟨rfl, List.forall_mem_cons.mpr ⟨rfl, List.forall_mem_cons.mpr ⟨rfl, List.forall_mem_cons.mpr ⟨rfl, fun _ h => absurd h List.not_mem_nil⟩⟩⟩⟩) (List.forall_mem_cons.mpr ⟨Or.inl rfl, List.forall_mem_cons.mpr ⟨Or.inl rfl, List.forall_mem_cons.mpr ⟨Or.inl rfl, List.forall_mem_cons.mpr ⟨Or.inl rfl, fun _ h => absurd h List.not_mem_nil⟩⟩⟩⟩) ?_
        exact absurd hm (by omega)
      · refine eW_iinc 27 rfl rfl [(2, vI (a + 1)), (0, .ref 0), (1, vI p), (3, vI i)] rfl rfl rfl ?_
        refine eW_iinc 30 rfl rfl [(3, vI (i + 1)), (2, vI (a + 1)), (0, .ref 0), (1, vI p)] rfl rfl rfl ?_
        refine eW_goto rfl ?_
        refine eW_re [(0, .ref 0), (1, vI p), (2, vI (a + 1)), (3, vI (i + 1))] rfl rfl (List.forall_mem_cons.mpr ⟨rfl, List.forall_mem_cons.mpr ⟨rfl, List.forall_mem_cons.mpr ⟨rfl, List.forall_mem_cons.mpr ⟨rfl, fun _ h => absurd h List.not_mem_nil⟩⟩⟩⟩) (List.forall_mem_cons.mpr ⟨Or.inl rfl, List.forall_mem_cons.mpr ⟨Or.inl rfl, List.forall_mem_cons.mpr ⟨Or.inl rfl, List.forall_mem_cons.mpr ⟨Or.inl rfl, fun _ h => absurd h List.not_mem_nil⟩⟩⟩⟩) ?_
        exact absurd hm (by omega)
  | succ m9 ih =>
    intro a i hm q0 q1 q2 kk
    have hG9 := hG
    obtain ⟨g1, g2, g3, g4⟩ := hG9
    refine eW_iload_n 5 rfl rfl rfl ?_
    refine eW_aload_n 6 rfl rfl rfl ?_
    refine eW_getfield 9 rfl rfl (Nat.ble_eq_true_of_le (by omega)) rfl hx rfl ⟨rfl, fun _ h9 => nomatch h9⟩ ?_
    refine eW_callV 12 [.ref 1] [vI i] [vI G.2.2.2.1, vI i] rfl rfl rfl rfl (Nat.ble_eq_true_of_le (by omega)) hg.1 rfl rfl rfl (g_pits (d := d + 3) hg hG (by omega)) rfl rfl ?_
    refine eW_icmp_ge 15 rfl rfl (by unfold i32; omega) (by unfold i32; omega) (fun c1 => ?_) (fun c1 => ?_)
    · refine kk _ _ ?_
      rw [q2, show i = G.2.2.2.1 by omega]
    · refine eW_aload_n 16 rfl rfl rfl ?_
      refine eW_iload_n 17 rfl rfl rfl ?_
      refine eW_iload_n 18 rfl rfl rfl ?_
      have hb := eB01_c (gBefore V G i p)
      refine eW_callV 21 [.ref 0, vI i, vI p] [] [vI (eB01 (gBefore V G i p))] rfl rfl rfl rfl (Nat.ble_eq_true_of_le (by omega)) hx rfl rfl rfl (x_before (d := d) hx hv hV hN hg hG (by unfold i32; omega) hp) rfl rfl ?_
      refine eW_if_eq 24 rfl rfl (by unfold i32; omega) (fun c2 => ?_) (fun c2 => ?_)
      · refine eW_iinc 30 rfl rfl [(3, vI (i + 1)), (0, .ref 0), (1, vI p), (2, vI a)] rfl rfl rfl ?_
        refine eW_goto rfl ?_
        refine eW_re [(0, .ref 0), (1, vI p), (2, vI a), (3, vI (i + 1))] rfl rfl (List.forall_mem_cons.mpr ⟨rfl, List.forall_mem_cons.mpr ⟨rfl, List.forall_mem_cons.mpr ⟨rfl, List.forall_mem_cons.mpr ⟨rfl, fun _ h => absurd h List.not_mem_nil⟩⟩⟩⟩) (List.forall_mem_cons.mpr ⟨Or.inl rfl, List.forall_mem_cons.mpr ⟨Or.inl rfl, List.forall_mem_cons.mpr ⟨Or.inl rfl, List.forall_mem_cons.mpr ⟨Or.inl rfl, fun _ h => absurd h List.not_mem_nil⟩⟩⟩⟩) ?_
        refine ih _ (i + 1) (by omega) (by omega) (by omega) ?_ kk
        rw [gRank_succ q0]; omega
      · refine eW_iinc 27 rfl rfl [(2, vI (a + 1)), (0, .ref 0), (1, vI p), (3, vI i)] rfl rfl rfl ?_
        refine eW_iinc 30 rfl rfl [(3, vI (i + 1)), (2, vI (a + 1)), (0, .ref 0), (1, vI p)] rfl rfl rfl ?_
        refine eW_goto rfl ?_
        refine eW_re [(0, .ref 0), (1, vI p), (2, vI (a + 1)), (3, vI (i + 1))] rfl rfl (List.forall_mem_cons.mpr ⟨rfl, List.forall_mem_cons.mpr ⟨rfl, List.forall_mem_cons.mpr ⟨rfl, List.forall_mem_cons.mpr ⟨rfl, fun _ h => absurd h List.not_mem_nil⟩⟩⟩⟩) (List.forall_mem_cons.mpr ⟨Or.inl rfl, List.forall_mem_cons.mpr ⟨Or.inl rfl, List.forall_mem_cons.mpr ⟨Or.inl rfl, List.forall_mem_cons.mpr ⟨Or.inl rfl, fun _ h => absurd h List.not_mem_nil⟩⟩⟩⟩) ?_
        refine ih _ (i + 1) (by omega) (by omega) (by omega) ?_ kk
        rw [gRank_succ q0]; omega
theorem x_rank {d N : Nat} {h : eHp} {X : eXs} (hx : gX h X) {V : eVs} (hv : gV h 47 V) (hV : gVO V) (hN : 75 ≤ N) {G : eGd} (hg : gG h 1 G) (hG : gOk G) {p : Int} (hp : i32 p) : eSp (d + 5) eM_X6_rankOf [.ref 0, vI p] N h (eRet (some (vI (gRank V G p G.2.2.2.1.toNat))) N h) := by
  refine eSp_of [(0, .ref 0), (1, vI p)] rfl rfl ?_
  have hG9 := hG
  obtain ⟨g1, g2, g3, g4⟩ := hG9
  refine eW_iconst 1 rfl rfl ?_
  refine eW_istore_n 2 rfl rfl [(2, vI 0), (0, .ref 0), (1, vI p)] rfl rfl ?_
  refine eW_iconst 3 rfl rfl ?_
  refine eW_istore_n 4 rfl rfl [(3, vI 0), (2, vI 0), (0, .ref 0), (1, vI p)] rfl rfl ?_
  refine eW_re [(0, .ref 0), (1, vI p), (2, vI 0), (3, vI 0)] rfl rfl (List.forall_mem_cons.mpr ⟨rfl, List.forall_mem_cons.mpr ⟨rfl, List.forall_mem_cons.mpr ⟨rfl, List.forall_mem_cons.mpr ⟨rfl, fun _ h => absurd h List.not_mem_nil⟩⟩⟩⟩) (List.forall_mem_cons.mpr ⟨Or.inl rfl, List.forall_mem_cons.mpr ⟨Or.inl rfl, List.forall_mem_cons.mpr ⟨Or.inl rfl, List.forall_mem_cons.mpr ⟨Or.inl rfl, fun _ h => absurd h List.not_mem_nil⟩⟩⟩⟩) ?_
  refine x_rank_l hx hv hV hN hg hG hp _ 0 0 (Int.self_le_toNat _) (by omega) (by omega) rfl (fun a i q => ?_)
  refine eW_iload_n 34 rfl rfl rfl ?_
  refine eW_ret_i rfl rfl (Or.inl rfl) ?_
  exact eRet_i q
def gSrch (f : Int → Bool) (i : Int) : Nat → Option Int
  | 0 => none
  | n + 1 => match f i with | true => some i | false => gSrch f (i + 1) n
theorem gSrch_t {f : Int → Bool} {i k : Int} (h : 0 < k) (hf : f i = true) : gSrch f i k.toNat = some i := by
  rw [show k.toNat = (k - 1).toNat + 1 by omega]; unfold gSrch; rw [hf]
theorem gSrch_f {f : Int → Bool} {i k : Int} (h : 0 < k) (hf : f i = false) : gSrch f i k.toNat = gSrch f (i + 1) (k - 1).toNat := by
  rw [show k.toNat = (k - 1).toNat + 1 by omega]
  show (match f i with | true => some i | false => gSrch f (i + 1) (k - 1).toNat) = _
  rw [hf]
theorem gSrch_0 {f : Int → Bool} {i k : Int} (h : k ≤ 0) : gSrch f i k.toNat = none := by rw [show k.toNat = 0 by omega]; rfl
/-- an int, or an exception -/
def eOr (v : Option Int) (E : String) (N : Nat) (h : eHp) : eR → Prop := fun q => q = (match v with | some a => (.inl (some (vI a)), N, h, 0, 0) | none => (.inr E, N, h, 1, 6))
theorem eOr_s {v : Option Int} {a : Int} {E : String} {N : Nat} {h : eHp} (e : v = some a) : eOr v E N h (.inl (some (vI a)), N, h, 0, 0) := by rw [e]; rfl
theorem eOr_n {v : Option Int} {E : String} {N : Nat} {h : eHp} (e : v = none) : eOr v E N h (.inr E, N, h, 1, 6) := by rw [e]; rfl
def gRankIs (V : eVs) (G : eGd) (c : Int) (p : Int) : Bool := decide (gRank V G p G.2.2.2.1.toNat = c)
theorem x_ranked_l {d N : Nat} {h : eHp} {X : eXs} (hx : gX h X) {V : eVs} (hv : gV h 47 V) (hV : gVO V) (hN : 75 ≤ N) {G : eGd} (hg : gG h 1 G) (hG : gOk G) {c : Int} (hc : i32 c) : ∀ (m9 : Nat) (i : Int), G.2.2.2.1 - i ≤ m9 → 0 ≤ i → i ≤ G.2.2.2.1 → eWp eOx (eEv (d + 5)) eM_X6_ranked (2, [(0, .ref 0), (1, vI c), (2, vI i)], [], N, h, 0, 0) (eOr (gSrch (gRankIs V G c) i (G.2.2.2.1 - i).toNat) "java/util/NoSuchElementException" N h) := by
  intro m9
  induction m9 with
  | zero =>
    intro i hm q0 q1
    have hG9 := hG
    obtain ⟨g1, g2, g3, g4⟩ := hG9
    have hc9 := hc
    unfold i32 at hc9
    refine eW_iload_n 3 rfl rfl rfl ?_
    refine eW_aload_n 4 rfl rfl rfl ?_
    refine eW_getfield 7 rfl rfl (Nat.ble_eq_true_of_le (by omega)) rfl hx rfl ⟨rfl, fun _ h9 => nomatch h9⟩ ?_
    refine eW_callV 10 [.ref 1] [vI i] [vI G.2.2.2.1, vI i] rfl rfl rfl rfl (Nat.ble_eq_true_of_le (by omega)) hg.1 rfl rfl rfl (g_pits (d := d + 4) hg hG (by omega)) rfl rfl ?_
    refine eW_icmp_ge 13 rfl rfl (by unfold i32; omega) (by unfold i32; omega) (fun c1 => ?_) (fun c1 => ?_)
    · refine eW_throw rfl rfl rfl rfl ?_
      exact eOr_n (gSrch_0 (by omega))
    · refine eW_aload_n 14 rfl rfl rfl ?_
      refine eW_iload_n 15 rfl rfl rfl ?_
      have hrk := gRank_le (V := V) (G := G) (p := i) G.2.2.2.1.toNat
      refine eW_callV 18 [.ref 0, vI i] [] [vI (gRank V G i G.2.2.2.1.toNat)] rfl rfl rfl rfl (Nat.ble_eq_true_of_le (by omega)) hx rfl rfl rfl (x_rank (d := d) hx hv hV hN hg hG (by unfold i32; omega)) rfl rfl ?_
      refine eW_iload_n 19 rfl rfl rfl ?_
      refine eW_icmp_ne 22 rfl rfl (by unfold i32; omega) (by unfold i32; omega) (fun c2 => ?_) (fun c2 => ?_)
      · refine eW_iinc 27 rfl rfl [(2, vI (i + 1)), (0, .ref 0), (1, vI c)] rfl rfl rfl ?_
        refine eW_goto rfl ?_
        refine eW_re [(0, .ref 0), (1, vI c), (2, vI (i + 1))] rfl rfl (List.forall_mem_cons.mpr ⟨rfl, List.forall_mem_cons.mpr ⟨rfl, List.forall_mem_cons.mpr ⟨rfl, fun _ h => absurd h List.not_mem_nil⟩⟩⟩) (List.forall_mem_cons.mpr ⟨Or.inl rfl, List.forall_mem_cons.mpr ⟨Or.inl rfl, List.forall_mem_cons.mpr ⟨Or.inl rfl, fun _ h => absurd h List.not_mem_nil⟩⟩⟩) ?_
        exact absurd hm (by omega)
      · refine eW_iload_n 23 rfl rfl rfl ?_
        refine eW_ret_i rfl rfl (Or.inl rfl) ?_
        exact eOr_s (gSrch_t (f := gRankIs V G c) (by omega) (decide_eq_true (by omega)))
  | succ m9 ih =>
    intro i hm q0 q1
    have hG9 := hG
    obtain ⟨g1, g2, g3, g4⟩ := hG9
    have hc9 := hc
    unfold i32 at hc9
    refine eW_iload_n 3 rfl rfl rfl ?_
    refine eW_aload_n 4 rfl rfl rfl ?_
    refine eW_getfield 7 rfl rfl (Nat.ble_eq_true_of_le (by omega)) rfl hx rfl ⟨rfl, fun _ h9 => nomatch h9⟩ ?_
    refine eW_callV 10 [.ref 1] [vI i] [vI G.2.2.2.1, vI i] rfl rfl rfl rfl (Nat.ble_eq_true_of_le (by omega)) hg.1 rfl rfl rfl (g_pits (d := d + 4) hg hG (by omega)) rfl rfl ?_
    refine eW_icmp_ge 13 rfl rfl (by unfold i32; omega) (by unfold i32; omega) (fun c1 => ?_) (fun c1 => ?_)
    · refine eW_throw rfl rfl rfl rfl ?_
      exact eOr_n (gSrch_0 (by omega))
    · refine eW_aload_n 14 rfl rfl rfl ?_
      refine eW_iload_n 15 rfl rfl rfl ?_
      have hrk := gRank_le (V := V) (G := G) (p := i) G.2.2.2.1.toNat
      refine eW_callV 18 [.ref 0, vI i] [] [vI (gRank V G i G.2.2.2.1.toNat)] rfl rfl rfl rfl (Nat.ble_eq_true_of_le (by omega)) hx rfl rfl rfl (x_rank (d := d) hx hv hV hN hg hG (by unfold i32; omega)) rfl rfl ?_
      refine eW_iload_n 19 rfl rfl rfl ?_
      refine eW_icmp_ne 22 rfl rfl (by unfold i32; omega) (by unfold i32; omega) (fun c2 => ?_) (fun c2 => ?_)
      · refine eW_iinc 27 rfl rfl [(2, vI (i + 1)), (0, .ref 0), (1, vI c)] rfl rfl rfl ?_
        refine eW_goto rfl ?_
        refine eW_re [(0, .ref 0), (1, vI c), (2, vI (i + 1))] rfl rfl (List.forall_mem_cons.mpr ⟨rfl, List.forall_mem_cons.mpr ⟨rfl, List.forall_mem_cons.mpr ⟨rfl, fun _ h => absurd h List.not_mem_nil⟩⟩⟩) (List.forall_mem_cons.mpr ⟨Or.inl rfl, List.forall_mem_cons.mpr ⟨Or.inl rfl, List.forall_mem_cons.mpr ⟨Or.inl rfl, fun _ h => absurd h List.not_mem_nil⟩⟩⟩) ?_
        rw [gSrch_f (f := gRankIs V G c) (by omega) (decide_eq_false (by omega)), show G.2.2.2.1 - i - 1 = G.2.2.2.1 - (i + 1) by omega]
        exact ih (i + 1) (by omega) (by omega) (by omega)
      · refine eW_iload_n 23 rfl rfl rfl ?_
        refine eW_ret_i rfl rfl (Or.inl rfl) ?_
        exact eOr_s (gSrch_t (f := gRankIs V G c) (by omega) (decide_eq_true (by omega)))
theorem x_ranked {d N : Nat} {h : eHp} {X : eXs} (hx : gX h X) {V : eVs} (hv : gV h 47 V) (hV : gVO V) (hN : 75 ≤ N) {G : eGd} (hg : gG h 1 G) (hG : gOk G) {c : Int} (hc : i32 c) : eSp (d + 6) eM_X6_ranked [.ref 0, vI c] N h (eOr (gSrch (gRankIs V G c) 0 G.2.2.2.1.toNat) "java/util/NoSuchElementException" N h) := by
  refine eSp_of [(0, .ref 0), (1, vI c)] rfl rfl ?_
  have hG9 := hG
  obtain ⟨g1, g2, g3, g4⟩ := hG9
  refine eW_iconst 1 rfl rfl ?_
  refine eW_istore_n 2 rfl rfl [(2, vI 0), (0, .ref 0), (1, vI c)] rfl rfl ?_
  refine eW_re [(0, .ref 0), (1, vI c), (2, vI 0)] rfl rfl (List.forall_mem_cons.mpr ⟨rfl, List.forall_mem_cons.mpr ⟨rfl, List.forall_mem_cons.mpr ⟨rfl, fun _ h => absurd h List.not_mem_nil⟩⟩⟩) (List.forall_mem_cons.mpr ⟨Or.inl rfl, List.forall_mem_cons.mpr ⟨Or.inl rfl, List.forall_mem_cons.mpr ⟨Or.inl rfl, fun _ h => absurd h List.not_mem_nil⟩⟩⟩) ?_
  have h9 := x_ranked_l (d := d) hx hv hV hN hg hG hc _ 0 (Int.self_le_toNat _) (by omega) g1
  rw [show G.2.2.2.1 - 0 = G.2.2.2.1 by omega] at h9
  exact h9
/-- an int, or an exception's name -/
def eAns (r : Int ⊕ String) (N : Nat) (h : eHp) : eR → Prop := fun q => q = (match r with | .inl a => (.inl (some (vI a)), N, h, 0, 0) | .inr E => (.inr E, N, h, 1, 6))
theorem eAns_i {r : Int ⊕ String} {a : Int} {N : Nat} {h : eHp} (e : r = .inl a) : eAns r N h (.inl (some (vI a)), N, h, 0, 0) := by rw [e]; rfl
theorem eAns_x {r : Int ⊕ String} {E : String} {N : Nat} {h : eHp} (e : r = .inr E) : eAns r N h (.inr E, N, h, 1, 6) := by rw [e]; rfl
def nIAE : String := "java/lang/IllegalArgumentException"
def nUOE : String := "java/lang/UnsupportedOperationException"
def nIOB : String := "java/lang/IndexOutOfBoundsException"
def nNSE : String := "java/util/NoSuchElementException"
def nISE : String := "java/lang/IllegalStateException"
def nAE : String := "java/lang/ArithmeticException"
/-- b, then what f says, else E -/
def eIfT (b : Bool) (E : String) (r : Int ⊕ String) : Int ⊕ String := match b with | true => r | false => .inr E
theorem eIfT_t {b : Bool} {E : String} {r : Int ⊕ String} (h : b = true) : eIfT b E r = r := by rw [h]; rfl
theorem eIfT_f {b : Bool} {E : String} {r : Int ⊕ String} (h : b = false) : eIfT b E r = .inr E := by rw [h]; rfl
theorem x_digitOf {d N : Nat} {h : eHp} {X : eXs} (hx : gX h X) {V : eVs} (hv : gV h 47 V) (hV : gVO V) (hN : 75 ≤ N) {G : eGd} (hg : gG h 1 G) (hG : gOk G) {t : Int} (ht : i32 t) : eSp (d + 2) eM_X6_digitOf [.ref 0, vI t] N h (eAns (eIfT (gTake t) nIAE (.inl (gDig G t))) N h) := by
  refine eSp_of [(0, .ref 0), (1, vI t)] rfl rfl ?_
  have hb := eB01_c (gTake t)
  refine eW_iload_n 1 rfl rfl rfl ?_
  refine eW_callS 4 [vI t] [] [vI (eB01 (gTake t))] rfl rfl rfl (Or.inl rfl) rfl rfl rfl (x_isTake (d := d) ht) rfl rfl ?_
  refine eW_if_ne 7 rfl rfl (by unfold i32; omega) (fun c1 => ?_) (fun c1 => ?_)
  · refine eW_aload_n 18 rfl rfl rfl ?_
    refine eW_getfield 21 rfl rfl (Nat.ble_eq_true_of_le (by omega)) rfl hx rfl ⟨rfl, fun _ h9 => nomatch h9⟩ ?_
    refine eW_iload_n 22 rfl rfl rfl ?_
    refine eW_callV 25 [.ref 1, vI t] [] [vI (gDig G t)] rfl rfl rfl rfl (Nat.ble_eq_true_of_le (by omega)) hg.1 rfl rfl rfl (g_digitFor (d := d) hg hG (by omega) ht) rfl rfl ?_
    refine eW_ret_i rfl rfl (Or.inl rfl) ?_
    refine eAns_i (eIfT_t ?_)
    rcases hb with e9 | e9 <;> first | exact e9.1 | (exfalso; omega)
  · refine eW_throw rfl rfl rfl rfl ?_
    refine eAns_x (eIfT_f ?_)
    rcases hb with e9 | e9 <;> first | exact e9.1 | (exfalso; omega)
theorem x_listed {d N : Nat} {h : eHp} {X : eXs} (hx : gX h X) {V : eVs} (hv : gV h 47 V) (hV : gVO V) (hN : 75 ≤ N) {D : Int → Int} (hVD : gVD V D) {m : Int} (hm : i32 m) : eSp (d + 3) eM_X6_listed [.ref 0, vI m] N h (eAns (eIfT (gNum m) nIAE (.inl (match gNum m with | true => gCnt (gHasL D m) 32 | false => 0))) N h) := by
  refine eSp_of [(0, .ref 0), (1, vI m)] rfl rfl ?_
  have hb := eB01_c (gNum m)
  refine eW_iload_n 1 rfl rfl rfl ?_
  refine eW_callS 4 [vI m] [] [vI (eB01 (gNum m))] rfl rfl rfl (Or.inl rfl) rfl rfl rfl (x_isNumber (d := d + 1) hm) rfl rfl ?_
  refine eW_if_ne 7 rfl rfl (by unfold i32; omega) (fun c1 => ?_) (fun c1 => ?_)
  · refine eW_aload_n 18 rfl rfl rfl ?_
    refine eW_getfield 21 rfl rfl (Nat.ble_eq_true_of_le (by omega)) rfl hx rfl ⟨rfl, fun _ h9 => nomatch h9⟩ ?_
    refine eW_iload_n 22 rfl rfl rfl ?_
    refine eW_callV 25 [.ref 47, vI m] [] [vI ((match gNum m with | true => gCnt (gHasL D m) 32 | false => 0))] rfl rfl rfl rfl (Nat.ble_eq_true_of_le (by omega)) hv.1 rfl rfl rfl (v_diff (d := d) hv hVD (by omega) hm) rfl rfl ?_
    refine eW_ret_i rfl rfl (Or.inl rfl) ?_
    refine eAns_i (eIfT_t ?_)
    rcases hb with e9 | e9 <;> first | exact e9.1 | (exfalso; omega)
  · refine eW_throw rfl rfl rfl rfl ?_
    refine eAns_x (eIfT_f ?_)
    rcases hb with e9 | e9 <;> first | exact e9.1 | (exfalso; omega)
theorem x_value {d N : Nat} {h : eHp} {X : eXs} (hx : gX h X) {V : eVs} (hv : gV h 47 V) (hV : gVO V) (hN : 75 ≤ N) {m b : Int} (hm : i32 m) (hbb : b = 0 ∨ b = 1) : eSp (d + 3) eM_X6_value [.ref 0, vI m, vI b] N h (eAns (eIfT (gNum m) nIAE (.inl (match decide (b = 1) with | true => gVal V.2.2.1 m | false => gVal V.2.1 m))) N h) := by
  refine eSp_of [(0, .ref 0), (1, vI m), (2, vI b)] rfl rfl ?_
  have hb := eB01_c (gNum m)
  refine eW_iload_n 1 rfl rfl rfl ?_
  refine eW_callS 4 [vI m] [] [vI (eB01 (gNum m))] rfl rfl rfl (Or.inl rfl) rfl rfl rfl (x_isNumber (d := d + 1) hm) rfl rfl ?_
  refine eW_if_ne 7 rfl rfl (by unfold i32; omega) (fun c1 => ?_) (fun c1 => ?_)
  · refine eW_iload_n 18 rfl rfl rfl ?_
    refine eW_if_eq 21 rfl rfl (by unfold i32; omega) (fun c2 => ?_) (fun c2 => ?_)
    · refine eW_aload_n 33 rfl rfl rfl ?_
      refine eW_getfield 36 rfl rfl (Nat.ble_eq_true_of_le (by omega)) rfl hx rfl ⟨rfl, fun _ h9 => nomatch h9⟩ ?_
      refine eW_iload_n 37 rfl rfl rfl ?_
      refine eW_callV 40 [.ref 47, vI m] [] [vI (gVal V.2.1 m)] rfl rfl rfl rfl (Nat.ble_eq_true_of_le (by omega)) hv.1 rfl rfl rfl (v_of (d := d) hv hV (by omega) hm) rfl rfl ?_
      refine eW_ret_i rfl rfl (Or.inl rfl) ?_
      refine eAns_i ((eIfT_t ?_).trans ?_)
      · rcases hb with e9 | e9 <;> first | exact e9.1 | (exfalso; omega)
      · first | (rw [decide_eq_true (by omega : b = 1)]) | (rw [decide_eq_false (by omega : ¬ b = 1)])
    · refine eW_aload_n 22 rfl rfl rfl ?_
      refine eW_getfield 25 rfl rfl (Nat.ble_eq_true_of_le (by omega)) rfl hx rfl ⟨rfl, fun _ h9 => nomatch h9⟩ ?_
      refine eW_iload_n 26 rfl rfl rfl ?_
      refine eW_callV 29 [.ref 47, vI m] [] [vI (gVal V.2.2.1 m)] rfl rfl rfl rfl (Nat.ble_eq_true_of_le (by omega)) hv.1 rfl rfl rfl (v_ofBits (d := d) hv hV (by omega) hm) rfl rfl ?_
      refine eW_goto rfl ?_
      refine eW_ret_i rfl rfl (Or.inl rfl) ?_
      refine eAns_i ((eIfT_t ?_).trans ?_)
      · rcases hb with e9 | e9 <;> first | exact e9.1 | (exfalso; omega)
      · first | (rw [decide_eq_true (by omega : b = 1)]) | (rw [decide_eq_false (by omega : ¬ b = 1)])
  · refine eW_throw rfl rfl rfl rfl ?_
    refine eAns_x (eIfT_f ?_)
    rcases hb with e9 | e9 <;> first | exact e9.1 | (exfalso; omega)
theorem x_lists {d N : Nat} {h : eHp} {X : eXs} (hx : gX h X) {V : eVs} (hv : gV h 47 V) (hV : gVO V) (hN : 75 ≤ N) {D : Int → Int} (hVD : gVD V D) {m x : Int} (hm : i32 m) (hx9 : i32 x) : eSp (d + 3) eM_X6_lists [.ref 0, vI m, vI x] N h (eAns (eIfT (gNum m) nIAE (.inl (eB01 (gHasL D m x)))) N h) := by
  refine eSp_of [(0, .ref 0), (1, vI m), (2, vI x)] rfl rfl ?_
  have hb := eB01_c (gNum m)
  refine eW_iload_n 1 rfl rfl rfl ?_
  refine eW_callS 4 [vI m] [] [vI (eB01 (gNum m))] rfl rfl rfl (Or.inl rfl) rfl rfl rfl (x_isNumber (d := d + 1) hm) rfl rfl ?_
  refine eW_if_ne 7 rfl rfl (by unfold i32; omega) (fun c1 => ?_) (fun c1 => ?_)
  · refine eW_aload_n 18 rfl rfl rfl ?_
    refine eW_getfield 21 rfl rfl (Nat.ble_eq_true_of_le (by omega)) rfl hx rfl ⟨rfl, fun _ h9 => nomatch h9⟩ ?_
    refine eW_iload_n 22 rfl rfl rfl ?_
    refine eW_iload_n 23 rfl rfl rfl ?_
    refine eW_callV 26 [.ref 47, vI m, vI x] [] [vI (eB01 (gHasL D m x))] rfl rfl rfl rfl (Nat.ble_eq_true_of_le (by omega)) hv.1 rfl rfl rfl (v_has (d := d) hv hVD (by omega) hm hx9) rfl rfl ?_
    refine eW_ret_i rfl rfl (Or.inr (Or.inl ⟨rfl, (by rcases eB01_c (gHasL D m x) with e9 | e9 <;> rw [e9.2] <;> rfl)⟩)) ?_
    refine eAns_i (eIfT_t ?_)
    rcases hb with e9 | e9 <;> first | exact e9.1 | (exfalso; omega)
  · refine eW_throw rfl rfl rfl rfl ?_
    refine eAns_x (eIfT_f ?_)
    rcases hb with e9 | e9 <;> first | exact e9.1 | (exfalso; omega)
theorem x_monkOf {d N : Nat} {h : eHp} {X : eXs} (hx : gX h X) {V : eVs} (hv : gV h 47 V) (hV : gVO V) (hN : 75 ≤ N) {G : eGd} (hg : gG h 1 G) (hG : gOk G) {m w : Int} (hm : i32 m) (hw : i32 w) : eSp (d + 3) eM_X6_monkOf [.ref 0, vI m, vI w] N h (eAns (eIfT (gMonk m) nIOB (eIfT (decide (0 ≤ w ∧ w < 4)) nIAE (.inl (gTal G m w)))) N h) := by
  refine eSp_of [(0, .ref 0), (1, vI m), (2, vI w)] rfl rfl ?_
  have hb := eB01_c (gMonk m)
  have hw9 := hw
  unfold i32 at hw9
  refine eW_iload_n 1 rfl rfl rfl ?_
  refine eW_callS 4 [vI m] [] [vI (eB01 (gMonk m))] rfl rfl rfl (Or.inl rfl) rfl rfl rfl (x_isMonk (d := d + 1) hm) rfl rfl ?_
  refine eW_if_ne 7 rfl rfl (by unfold i32; omega) (fun c1 => ?_) (fun c1 => ?_)
  · refine eW_iload_n 18 rfl rfl rfl ?_
    refine eW_if_lt 21 rfl rfl (by unfold i32; omega) (fun c2 => ?_) (fun c2 => ?_)
    · refine eW_throw rfl rfl rfl rfl ?_
      refine eAns_x ((eIfT_t ?_).trans (eIfT_f ?_))
      · rcases hb with e9 | e9 <;> first | exact e9.1 | (exfalso; omega)
      · exact decide_eq_false (by omega)
    · refine eW_iload_n 22 rfl rfl rfl ?_
      refine eW_iconst 23 rfl rfl ?_
      refine eW_icmp_lt 26 rfl rfl (by unfold i32; omega) (by unfold i32; omega) (fun c3 => ?_) (fun c3 => ?_)
      · refine eW_aload_n 37 rfl rfl rfl ?_
        refine eW_getfield 40 rfl rfl (Nat.ble_eq_true_of_le (by omega)) rfl hx rfl ⟨rfl, fun _ h9 => nomatch h9⟩ ?_
        refine eW_iload_n 41 rfl rfl rfl ?_
        refine eW_iload_n 42 rfl rfl rfl ?_
        refine eW_callV 45 [.ref 1, vI m, vI w] [] [vI (gTal G m w)] rfl rfl rfl rfl (Nat.ble_eq_true_of_le (by omega)) hg.1 rfl rfl rfl (g_tally (d := d) hg hG (by omega) hm hw) rfl rfl ?_
        refine eW_ret_i rfl rfl (Or.inl rfl) ?_
        refine eAns_i ((eIfT_t ?_).trans (eIfT_t ?_))
        · rcases hb with e9 | e9 <;> first | exact e9.1 | (exfalso; omega)
        · exact decide_eq_true (by omega)
      · refine eW_throw rfl rfl rfl rfl ?_
        refine eAns_x ((eIfT_t ?_).trans (eIfT_f ?_))
        · rcases hb with e9 | e9 <;> first | exact e9.1 | (exfalso; omega)
        · exact decide_eq_false (by omega)
  · refine eW_throw rfl rfl rfl rfl ?_
    refine eAns_x (eIfT_f ?_)
    rcases hb with e9 | e9 <;> first | exact e9.1 | (exfalso; omega)
def eOpt (v : Option Int) (E : String) : Int ⊕ String := match v with | some a => .inl a | none => .inr E
theorem eOpt_s {v : Option Int} {a : Int} {E : String} (h : v = some a) : eOpt v E = .inl a := by rw [h]; rfl
theorem eOpt_n {v : Option Int} {E : String} (h : v = none) : eOpt v E = .inr E := by rw [h]; rfl
def gLeastIs (V : eVs) (c : Int) (m : Int) : Bool := decide (gVal V.2.1 m = c)
def gPerIs (V : eVs) (a : Int) (n : Int) : Bool := gAllF (gPer V n) a (31 - n - a).toNat
theorem x_least_l {d N : Nat} {h : eHp} {X : eXs} (hx : gX h X) {V : eVs} (hv : gV h 47 V) (hV : gVO V) (hN : 75 ≤ N) {c : Int} (hc : i32 c) : ∀ (m9 : Nat) (i : Int), 31 - i ≤ m9 → 0 ≤ i → i ≤ 31 → eWp eOx (eEv (d + 2)) eM_X6_least (2, [(0, .ref 0), (1, vI c), (2, vI i)], [], N, h, 0, 0) (eAns (eOpt (gSrch (gLeastIs V c) i (31 - i).toNat) nNSE) N h) := by
  intro m9
  induction m9 with
  | zero =>
    intro i hm q0 q1
    have hc9 := hc
    unfold i32 at hc9
    refine eW_iload_n 3 rfl rfl rfl ?_
    refine eW_bipush 5 rfl rfl 30 rfl ?_
    refine eW_icmp_gt 8 rfl rfl (by unfold i32; omega) (by unfold i32; omega) (fun c1 => ?_) (fun c1 => ?_)
    · refine eW_throw rfl rfl rfl rfl ?_
      exact eAns_x (eOpt_n (gSrch_0 (by omega)))
    · refine eW_aload_n 9 rfl rfl rfl ?_
      refine eW_getfield 12 rfl rfl (Nat.ble_eq_true_of_le (by omega)) rfl hx rfl ⟨rfl, fun _ h9 => nomatch h9⟩ ?_
      refine eW_iload_n 13 rfl rfl rfl ?_
      have hl := gVal_le (by omega) hV.1 i
      refine eW_callV 16 [.ref 47, vI i] [] [vI (gVal V.2.1 i)] rfl rfl rfl rfl (Nat.ble_eq_true_of_le (by omega)) hv.1 rfl rfl rfl (v_of (d := d) hv hV (by omega) (by unfold i32; omega)) rfl rfl ?_
      refine eW_iload_n 17 rfl rfl rfl ?_
      refine eW_icmp_ne 20 rfl rfl (by unfold i32; omega) (by unfold i32; omega) (fun c2 => ?_) (fun c2 => ?_)
      · refine eW_iinc 25 rfl rfl [(2, vI (i + 1)), (0, .ref 0), (1, vI c)] rfl rfl rfl ?_
        refine eW_goto rfl ?_
        refine eW_re [(0, .ref 0), (1, vI c), (2, vI (i + 1))] rfl rfl (List.forall_mem_cons.mpr ⟨rfl, List.forall_mem_cons.mpr ⟨rfl, List.forall_mem_cons.mpr ⟨rfl, fun _ h => absurd h List.not_mem_nil⟩⟩⟩) (List.forall_mem_cons.mpr ⟨Or.inl rfl, List.forall_mem_cons.mpr ⟨Or.inl rfl, List.forall_mem_cons.mpr ⟨Or.inl rfl, fun _ h => absurd h List.not_mem_nil⟩⟩⟩) ?_
        exact absurd hm (by omega)
      · refine eW_iload_n 21 rfl rfl rfl ?_
        refine eW_ret_i rfl rfl (Or.inl rfl) ?_
        exact eAns_i (eOpt_s (gSrch_t (f := gLeastIs V c) (by omega) (decide_eq_true (by omega))))
  | succ m9 ih =>
    intro i hm q0 q1
    have hc9 := hc
    unfold i32 at hc9
    refine eW_iload_n 3 rfl rfl rfl ?_
    refine eW_bipush 5 rfl rfl 30 rfl ?_
    refine eW_icmp_gt 8 rfl rfl (by unfold i32; omega) (by unfold i32; omega) (fun c1 => ?_) (fun c1 => ?_)
    · refine eW_throw rfl rfl rfl rfl ?_
      exact eAns_x (eOpt_n (gSrch_0 (by omega)))
    · refine eW_aload_n 9 rfl rfl rfl ?_
      refine eW_getfield 12 rfl rfl (Nat.ble_eq_true_of_le (by omega)) rfl hx rfl ⟨rfl, fun _ h9 => nomatch h9⟩ ?_
      refine eW_iload_n 13 rfl rfl rfl ?_
      have hl := gVal_le (by omega) hV.1 i
      refine eW_callV 16 [.ref 47, vI i] [] [vI (gVal V.2.1 i)] rfl rfl rfl rfl (Nat.ble_eq_true_of_le (by omega)) hv.1 rfl rfl rfl (v_of (d := d) hv hV (by omega) (by unfold i32; omega)) rfl rfl ?_
      refine eW_iload_n 17 rfl rfl rfl ?_
      refine eW_icmp_ne 20 rfl rfl (by unfold i32; omega) (by unfold i32; omega) (fun c2 => ?_) (fun c2 => ?_)
      · refine eW_iinc 25 rfl rfl [(2, vI (i + 1)), (0, .ref 0), (1, vI c)] rfl rfl rfl ?_
        refine eW_goto rfl ?_
        refine eW_re [(0, .ref 0), (1, vI c), (2, vI (i + 1))] rfl rfl (List.forall_mem_cons.mpr ⟨rfl, List.forall_mem_cons.mpr ⟨rfl, List.forall_mem_cons.mpr ⟨rfl, fun _ h => absurd h List.not_mem_nil⟩⟩⟩) (List.forall_mem_cons.mpr ⟨Or.inl rfl, List.forall_mem_cons.mpr ⟨Or.inl rfl, List.forall_mem_cons.mpr ⟨Or.inl rfl, fun _ h => absurd h List.not_mem_nil⟩⟩⟩) ?_
        rw [gSrch_f (f := gLeastIs V c) (by omega) (decide_eq_false (by omega)), show 31 - i - 1 = 31 - (i + 1) by omega]
        exact ih (i + 1) (by omega) (by omega) (by omega)
      · refine eW_iload_n 21 rfl rfl rfl ?_
        refine eW_ret_i rfl rfl (Or.inl rfl) ?_
        exact eAns_i (eOpt_s (gSrch_t (f := gLeastIs V c) (by omega) (decide_eq_true (by omega))))
theorem x_least {d N : Nat} {h : eHp} {X : eXs} (hx : gX h X) {V : eVs} (hv : gV h 47 V) (hV : gVO V) (hN : 75 ≤ N) {c : Int} (hc : i32 c) : eSp (d + 3) eM_X6_least [.ref 0, vI c] N h (eAns (eOpt (gSrch (gLeastIs V c) 0 31) nNSE) N h) := by
  refine eSp_of [(0, .ref 0), (1, vI c)] rfl rfl ?_
  refine eW_iconst 1 rfl rfl ?_
  refine eW_istore_n 2 rfl rfl [(2, vI 0), (0, .ref 0), (1, vI c)] rfl rfl ?_
  refine eW_re [(0, .ref 0), (1, vI c), (2, vI 0)] rfl rfl (List.forall_mem_cons.mpr ⟨rfl, List.forall_mem_cons.mpr ⟨rfl, List.forall_mem_cons.mpr ⟨rfl, fun _ h => absurd h List.not_mem_nil⟩⟩⟩) (List.forall_mem_cons.mpr ⟨Or.inl rfl, List.forall_mem_cons.mpr ⟨Or.inl rfl, List.forall_mem_cons.mpr ⟨Or.inl rfl, fun _ h => absurd h List.not_mem_nil⟩⟩⟩) ?_
  exact x_least_l (d := d) hx hv hV hN hc _ 0 (Int.self_le_toNat _) (by omega) (by omega)
theorem x_period_l {d N : Nat} {h : eHp} {X : eXs} (hx : gX h X) {V : eVs} (hv : gV h 47 V) (hV : gVO V) (hN : 75 ≤ N) {c : Int} (hc : 0 ≤ c ∧ c ≤ 29) : ∀ (m9 : Nat) (i : Int), 31 - c - i ≤ m9 → 1 ≤ i → i ≤ 31 - c → eWp eOx (eEv (d + 3)) eM_X6_period (22, [(0, .ref 0), (1, vI c), (2, vI i)], [], N, h, 0, 0) (eAns (eOpt (gSrch (gPerIs V c) i (31 - c - i).toNat) nNSE) N h) := by
  intro m9
  induction m9 with
  | zero =>
    intro i hm q0 q1
    refine eW_iload_n 23 rfl rfl rfl ?_
    refine eW_bipush 25 rfl rfl 30 rfl ?_
    refine eW_iload_n 26 rfl rfl rfl ?_
    refine eW_isub 27 rfl rfl ?_
    refine eW_icmp_gt 30 rfl rfl (by unfold i32; omega) (by unfold i32; omega) (fun c1 => ?_) (fun c1 => ?_)
    · refine eW_throw rfl rfl rfl rfl ?_
      exact eAns_x (eOpt_n (gSrch_0 (by omega)))
    · refine eW_aload_n 31 rfl rfl rfl ?_
      refine eW_getfield 34 rfl rfl (Nat.ble_eq_true_of_le (by omega)) rfl hx rfl ⟨rfl, fun _ h9 => nomatch h9⟩ ?_
      refine eW_iload_n 35 rfl rfl rfl ?_
      refine eW_iload_n 36 rfl rfl rfl ?_
      have hb := eB01_c (gPerIs V c i)
      refine eW_callV 39 [.ref 47, vI c, vI i] [] [vI (eB01 (gPerIs V c i))] rfl rfl rfl rfl (Nat.ble_eq_true_of_le (by omega)) hv.1 rfl rfl rfl (v_per (d := d) hv hV (by omega) (by omega) (by omega)) rfl rfl ?_
      refine eW_if_eq 42 rfl rfl (by unfold i32; omega) (fun c2 => ?_) (fun c2 => ?_)
      · refine eW_iinc 47 rfl rfl [(2, vI (i + 1)), (0, .ref 0), (1, vI c)] rfl rfl rfl ?_
        refine eW_goto rfl ?_
        refine eW_re [(0, .ref 0), (1, vI c), (2, vI (i + 1))] rfl rfl (List.forall_mem_cons.mpr ⟨rfl, List.forall_mem_cons.mpr ⟨rfl, List.forall_mem_cons.mpr ⟨rfl, fun _ h => absurd h List.not_mem_nil⟩⟩⟩) (List.forall_mem_cons.mpr ⟨Or.inl rfl, List.forall_mem_cons.mpr ⟨Or.inl rfl, List.forall_mem_cons.mpr ⟨Or.inl rfl, fun _ h => absurd h List.not_mem_nil⟩⟩⟩) ?_
        exact absurd hm (by omega)
      · refine eW_iload_n 43 rfl rfl rfl ?_
        refine eW_ret_i rfl rfl (Or.inl rfl) ?_
        have kt : gPerIs V c i = true := by rcases hb with e9 | e9 <;> first | exact e9.1 | (exfalso; omega)
        exact eAns_i (eOpt_s (gSrch_t (f := gPerIs V c) (by omega) kt))
  | succ m9 ih =>
    intro i hm q0 q1
    refine eW_iload_n 23 rfl rfl rfl ?_
    refine eW_bipush 25 rfl rfl 30 rfl ?_
    refine eW_iload_n 26 rfl rfl rfl ?_
    refine eW_isub 27 rfl rfl ?_
    refine eW_icmp_gt 30 rfl rfl (by unfold i32; omega) (by unfold i32; omega) (fun c1 => ?_) (fun c1 => ?_)
    · refine eW_throw rfl rfl rfl rfl ?_
      exact eAns_x (eOpt_n (gSrch_0 (by omega)))
    · refine eW_aload_n 31 rfl rfl rfl ?_
      refine eW_getfield 34 rfl rfl (Nat.ble_eq_true_of_le (by omega)) rfl hx rfl ⟨rfl, fun _ h9 => nomatch h9⟩ ?_
      refine eW_iload_n 35 rfl rfl rfl ?_
      refine eW_iload_n 36 rfl rfl rfl ?_
      have hb := eB01_c (gPerIs V c i)
      refine eW_callV 39 [.ref 47, vI c, vI i] [] [vI (eB01 (gPerIs V c i))] rfl rfl rfl rfl (Nat.ble_eq_true_of_le (by omega)) hv.1 rfl rfl rfl (v_per (d := d) hv hV (by omega) (by omega) (by omega)) rfl rfl ?_
      refine eW_if_eq 42 rfl rfl (by unfold i32; omega) (fun c2 => ?_) (fun c2 => ?_)
      · refine eW_iinc 47 rfl rfl [(2, vI (i + 1)), (0, .ref 0), (1, vI c)] rfl rfl rfl ?_
        refine eW_goto rfl ?_
        refine eW_re [(0, .ref 0), (1, vI c), (2, vI (i + 1))] rfl rfl (List.forall_mem_cons.mpr ⟨rfl, List.forall_mem_cons.mpr ⟨rfl, List.forall_mem_cons.mpr ⟨rfl, fun _ h => absurd h List.not_mem_nil⟩⟩⟩) (List.forall_mem_cons.mpr ⟨Or.inl rfl, List.forall_mem_cons.mpr ⟨Or.inl rfl, List.forall_mem_cons.mpr ⟨Or.inl rfl, fun _ h => absurd h List.not_mem_nil⟩⟩⟩) ?_
        have kf : gPerIs V c i = false := by rcases hb with e9 | e9 <;> first | exact e9.1 | (exfalso; omega)
        rw [gSrch_f (f := gPerIs V c) (by omega) kf, show 31 - c - i - 1 = 31 - c - (i + 1) by omega]
        exact ih (i + 1) (by omega) (by omega) (by omega)
      · refine eW_iload_n 43 rfl rfl rfl ?_
        refine eW_ret_i rfl rfl (Or.inl rfl) ?_
        have kt : gPerIs V c i = true := by rcases hb with e9 | e9 <;> first | exact e9.1 | (exfalso; omega)
        exact eAns_i (eOpt_s (gSrch_t (f := gPerIs V c) (by omega) kt))
theorem x_period {d N : Nat} {h : eHp} {X : eXs} (hx : gX h X) {V : eVs} (hv : gV h 47 V) (hV : gVO V) (hN : 75 ≤ N) {c : Int} (hc : i32 c) : eSp (d + 4) eM_X6_period [.ref 0, vI c] N h (eAns (eIfT (decide (0 ≤ c ∧ c ≤ 29)) nIAE (eOpt (gSrch (gPerIs V c) 1 (30 - c).toNat) nNSE)) N h) := by
  refine eSp_of [(0, .ref 0), (1, vI c)] rfl rfl ?_
  unfold i32 at hc
  refine eW_iload_n 1 rfl rfl rfl ?_
  refine eW_if_lt 4 rfl rfl (by unfold i32; omega) (fun c1 => ?_) (fun c1 => ?_)
  · refine eW_throw rfl rfl rfl rfl ?_
    exact eAns_x (eIfT_f (decide_eq_false (by omega)))
  · refine eW_iload_n 5 rfl rfl rfl ?_
    refine eW_bipush 7 rfl rfl 30 rfl ?_
    refine eW_icmp_lt 10 rfl rfl (by unfold i32; omega) (by unfold i32; omega) (fun c2 => ?_) (fun c2 => ?_)
    · refine eW_iconst 21 rfl rfl ?_
      refine eW_istore_n 22 rfl rfl [(2, vI 1), (0, .ref 0), (1, vI c)] rfl rfl ?_
      refine eW_re [(0, .ref 0), (1, vI c), (2, vI 1)] rfl rfl (List.forall_mem_cons.mpr ⟨rfl, List.forall_mem_cons.mpr ⟨rfl, List.forall_mem_cons.mpr ⟨rfl, fun _ h => absurd h List.not_mem_nil⟩⟩⟩) (List.forall_mem_cons.mpr ⟨Or.inl rfl, List.forall_mem_cons.mpr ⟨Or.inl rfl, List.forall_mem_cons.mpr ⟨Or.inl rfl, fun _ h => absurd h List.not_mem_nil⟩⟩⟩) ?_
      rw [eIfT_t (decide_eq_true (by omega)), show 30 - c = 31 - c - 1 by omega]
      exact x_period_l (d := d) hx hv hV hN (by omega) _ 1 (Int.self_le_toNat _) (by omega) (by omega)
    · refine eW_throw rfl rfl rfl rfl ?_
      exact eAns_x (eIfT_f (decide_eq_false (by omega)))
def gPitOf (V : eVs) (G : eGd) (p w : Int) : Int := match decide (w = 0) with
  | true => gIn G p
  | false => match decide (w = 1) with
    | true => gVal V.2.1 (gIn G p)
    | false => match decide (w = 2) with
      | true => gWays (gDig G) (gIn G p)
      | false => gXr (gSumV V G) (gVal V.2.1 (gIn G p))
theorem x_pitOf {d N : Nat} {h : eHp} {X : eXs} (hx : gX h X) {V : eVs} (hv : gV h 47 V) (hV : gVO V) (hN : 75 ≤ N) {G : eGd} (hg : gG h 1 G) (hG : gOk G) {p w : Int} (hp : i32 p) (hw : i32 w) : eSp (d + 4) eM_X6_pitOf [.ref 0, vI p, vI w] N h (eAns (eIfT (gHas G p) nIOB (eIfT (decide (0 ≤ w ∧ w ≤ 3)) nIAE (.inl (gPitOf V G p w)))) N h) := by
  refine eSp_of [(0, .ref 0), (1, vI p), (2, vI w)] rfl rfl ?_
  have hb := eB01_c (gHas G p)
  have hw9 := hw
  unfold i32 at hw9
  have hsm := gSumV_le (G := G) hV
  have hvl := gVal_le (by omega) hV.1 (gIn G p)
  refine eW_aload_n 1 rfl rfl rfl ?_
  refine eW_getfield 4 rfl rfl (Nat.ble_eq_true_of_le (by omega)) rfl hx rfl ⟨rfl, fun _ h9 => nomatch h9⟩ ?_
  refine eW_iload_n 5 rfl rfl rfl ?_
  refine eW_callV 8 [.ref 1, vI p] [] [vI (eB01 (gHas G p))] rfl rfl rfl rfl (Nat.ble_eq_true_of_le (by omega)) hg.1 rfl rfl rfl (g_hasPit (d := d + 2) hg hG (by omega) hp) rfl rfl ?_
  refine eW_if_ne 11 rfl rfl (by unfold i32; omega) (fun c1 => ?_) (fun c1 => ?_)
  · refine eW_iload_n 22 rfl rfl rfl ?_
    by_cases c2 : (0 : Int) ≤ w ∧ w ≤ 3
    · rcases (show w = 0 ∨ w = 1 ∨ w = 2 ∨ w = 3 from by omega) with e3 | e4 | e5 | e6
      · refine eW_table 52 rfl (by unfold eSwT; rw [ofInt_toInt32 (by unfold i32; omega), e3]; rfl) ?_
        refine eW_aload_n 53 rfl rfl rfl ?_
        refine eW_getfield 56 rfl rfl (Nat.ble_eq_true_of_le (by omega)) rfl hx rfl ⟨rfl, fun _ h9 => nomatch h9⟩ ?_
        refine eW_iload_n 57 rfl rfl rfl ?_
        refine eW_callV 60 [.ref 1, vI p] [] [vI (gIn G p)] rfl rfl rfl rfl (Nat.ble_eq_true_of_le (by omega)) hg.1 rfl rfl rfl (g_marblesIn (d := d + 1) hg hG (by omega) hp) rfl rfl ?_
        refine eW_ret_i rfl rfl (Or.inl rfl) ?_
        refine eAns_i ((eIfT_t ?_).trans ((eIfT_t ?_).trans ?_))
        · rcases hb with e9 | e9 <;> first | exact e9.1 | (exfalso; omega)
        · exact decide_eq_true (by omega)
        · unfold gPitOf
          first | (rw [decide_eq_true (by omega : w = 0)]; done) | (rw [decide_eq_false (by omega : ¬ w = 0), decide_eq_true (by omega : w = 1)]; done) | (rw [decide_eq_false (by omega : ¬ w = 0), decide_eq_false (by omega : ¬ w = 1), decide_eq_true (by omega : w = 2)]; done) | (rw [decide_eq_false (by omega : ¬ w = 0), decide_eq_false (by omega : ¬ w = 1), decide_eq_false (by omega : ¬ w = 2)]; done)
      · refine eW_table 61 rfl (by unfold eSwT; rw [ofInt_toInt32 (by unfold i32; omega), e4]; rfl) ?_
        refine eW_aload_n 62 rfl rfl rfl ?_
        refine eW_iload_n 63 rfl rfl rfl ?_
        refine eW_callV 66 [.ref 0, vI p] [] [vI (gVal V.2.1 (gIn G p))] rfl rfl rfl rfl (Nat.ble_eq_true_of_le (by omega)) hx rfl rfl rfl (x_valueOfPit (d := d) hx hv hV hN hg hG hp) rfl rfl ?_
        refine eW_ret_i rfl rfl (Or.inl rfl) ?_
        refine eAns_i ((eIfT_t ?_).trans ((eIfT_t ?_).trans ?_))
        · rcases hb with e9 | e9 <;> first | exact e9.1 | (exfalso; omega)
        · exact decide_eq_true (by omega)
        · unfold gPitOf
          first | (rw [decide_eq_true (by omega : w = 0)]; done) | (rw [decide_eq_false (by omega : ¬ w = 0), decide_eq_true (by omega : w = 1)]; done) | (rw [decide_eq_false (by omega : ¬ w = 0), decide_eq_false (by omega : ¬ w = 1), decide_eq_true (by omega : w = 2)]; done) | (rw [decide_eq_false (by omega : ¬ w = 0), decide_eq_false (by omega : ¬ w = 1), decide_eq_false (by omega : ¬ w = 2)]; done)
      · refine eW_table 67 rfl (by unfold eSwT; rw [ofInt_toInt32 (by unfold i32; omega), e5]; rfl) ?_
        refine eW_aload_n 68 rfl rfl rfl ?_
        refine eW_getfield 71 rfl rfl (Nat.ble_eq_true_of_le (by omega)) rfl hx rfl ⟨rfl, fun _ h9 => nomatch h9⟩ ?_
        refine eW_iload_n 72 rfl rfl rfl ?_
        refine eW_callV 75 [.ref 1, vI p] [] [vI (gWays (gDig G) (gIn G p))] rfl rfl rfl rfl (Nat.ble_eq_true_of_le (by omega)) hg.1 rfl rfl rfl (g_scoopsOf (d := d) hg hG (by omega) hp) rfl rfl ?_
        refine eW_ret_i rfl rfl (Or.inl rfl) ?_
        refine eAns_i ((eIfT_t ?_).trans ((eIfT_t ?_).trans ?_))
        · rcases hb with e9 | e9 <;> first | exact e9.1 | (exfalso; omega)
        · exact decide_eq_true (by omega)
        · unfold gPitOf
          first | (rw [decide_eq_true (by omega : w = 0)]; done) | (rw [decide_eq_false (by omega : ¬ w = 0), decide_eq_true (by omega : w = 1)]; done) | (rw [decide_eq_false (by omega : ¬ w = 0), decide_eq_false (by omega : ¬ w = 1), decide_eq_true (by omega : w = 2)]; done) | (rw [decide_eq_false (by omega : ¬ w = 0), decide_eq_false (by omega : ¬ w = 1), decide_eq_false (by omega : ¬ w = 2)]; done)
      · refine eW_table 76 rfl (by unfold eSwT; rw [ofInt_toInt32 (by unfold i32; omega), e6]; rfl) ?_
        refine eW_aload_n 77 rfl rfl rfl ?_
        refine eW_aload_n 78 rfl rfl rfl ?_
        refine eW_getfield 81 rfl rfl (Nat.ble_eq_true_of_le (by omega)) rfl hx rfl ⟨rfl, fun _ h9 => nomatch h9⟩ ?_
        refine eW_callV 84 [.ref 0, .ref 1] [] [vI (gSumV V G)] rfl rfl rfl rfl (Nat.ble_eq_true_of_le (by omega)) hx rfl rfl rfl (x_sumOf (d := d) hx hv hV hN hg hG (by omega)) rfl rfl ?_
        refine eW_aload_n 85 rfl rfl rfl ?_
        refine eW_iload_n 86 rfl rfl rfl ?_
        refine eW_callV 89 [.ref 0, vI p] [vI (gSumV V G)] [vI (gVal V.2.1 (gIn G p)), vI (gSumV V G)] rfl rfl rfl rfl (Nat.ble_eq_true_of_le (by omega)) hx rfl rfl rfl (x_valueOfPit (d := d) hx hv hV hN hg hG hp) rfl rfl ?_
        refine eW_ixor 90 rfl rfl (gXr (gSumV V G) (gVal V.2.1 (gIn G p))) (gXr_ok (by omega) (by omega)) ?_
        refine eW_ret_i rfl rfl (Or.inl rfl) ?_
        refine eAns_i ((eIfT_t ?_).trans ((eIfT_t ?_).trans ?_))
        · rcases hb with e9 | e9 <;> first | exact e9.1 | (exfalso; omega)
        · exact decide_eq_true (by omega)
        · unfold gPitOf
          first | (rw [decide_eq_true (by omega : w = 0)]; done) | (rw [decide_eq_false (by omega : ¬ w = 0), decide_eq_true (by omega : w = 1)]; done) | (rw [decide_eq_false (by omega : ¬ w = 0), decide_eq_false (by omega : ¬ w = 1), decide_eq_true (by omega : w = 2)]; done) | (rw [decide_eq_false (by omega : ¬ w = 0), decide_eq_false (by omega : ¬ w = 1), decide_eq_false (by omega : ¬ w = 2)]; done)
    · rcases (show w < 0 ∨ (¬ w < 0 ∧ 3 < w) from by omega) with z7 | ⟨z7, z7b⟩
      · refine eW_table 91 rfl (by unfold eSwT; rw [ofInt_toInt32 (by unfold i32; omega), if_pos z7]; rfl) ?_
        refine eW_throw rfl rfl rfl rfl ?_
        refine eAns_x ((eIfT_t ?_).trans (eIfT_f ?_))
        · rcases hb with e9 | e9 <;> first | exact e9.1 | (exfalso; omega)
        · exact decide_eq_false (by omega)
      · refine eW_table 91 rfl (by unfold eSwT; rw [ofInt_toInt32 (by unfold i32; omega), if_neg z7, if_pos z7b]; rfl) ?_
        refine eW_throw rfl rfl rfl rfl ?_
        refine eAns_x ((eIfT_t ?_).trans (eIfT_f ?_))
        · rcases hb with e9 | e9 <;> first | exact e9.1 | (exfalso; omega)
        · exact decide_eq_false (by omega)
  · refine eW_throw rfl rfl rfl rfl ?_
    refine eAns_x (eIfT_f ?_)
    rcases hb with e9 | e9 <;> first | exact e9.1 | (exfalso; omega)
theorem x_error {d N : Nat} {h : eHp} {X : eXs} (hx : gX h X) {V : eVs} (hv : gV h 47 V) (hV : gVO V) (hN : 75 ≤ N)  : eSp (d + 1) eM_X6_errorPosition [.ref 0] N h (eRet (some (vI X.2.1)) N h) := by
  refine eSp_of [(0, .ref 0)] rfl rfl ?_
  refine eW_aload_n 1 rfl rfl rfl ?_
  refine eW_getfield 4 rfl rfl (Nat.ble_eq_true_of_le (by omega)) rfl hx rfl ⟨rfl, fun _ h9 => nomatch h9⟩ ?_
  refine eW_ret_i rfl rfl (Or.inl rfl) ?_
  rfl
theorem x_refusal {d N : Nat} {h : eHp} {X : eXs} (hx : gX h X) {V : eVs} (hv : gV h 47 V) (hV : gVO V) (hN : 75 ≤ N) {b : Int} (hb : b = 0 ∨ b = 1) (hr : i32 X.2.2.1) : eSp (d + 1) eM_X6_refusal [.ref 0, vI b] N h (eAns (eIfT (decide (X.2.2.1 ≠ 0)) nNSE (.inl (match decide (b = 1) with | true => X.2.2.2 | false => X.2.2.1))) N h) := by
  refine eSp_of [(0, .ref 0), (1, vI b)] rfl rfl ?_
  unfold i32 at hr
  refine eW_aload_n 1 rfl rfl rfl ?_
  refine eW_getfield 4 rfl rfl (Nat.ble_eq_true_of_le (by omega)) rfl hx rfl ⟨rfl, fun _ h9 => nomatch h9⟩ ?_
  refine eW_if_ne 7 rfl rfl (by unfold i32; omega) (fun c1 => ?_) (fun c1 => ?_)
  · refine eW_iload_n 19 rfl rfl rfl ?_
    refine eW_if_eq 22 rfl rfl (by unfold i32; omega) (fun c2 => ?_) (fun c2 => ?_)
    · refine eW_aload_n 30 rfl rfl rfl ?_
      refine eW_getfield 33 rfl rfl (Nat.ble_eq_true_of_le (by omega)) rfl hx rfl ⟨rfl, fun _ h9 => nomatch h9⟩ ?_
      refine eW_ret_i rfl rfl (Or.inl rfl) ?_
      refine eAns_i ((eIfT_t (decide_eq_true (by omega))).trans ?_)
      first | (rw [decide_eq_true (by omega : b = 1)]; done) | (rw [decide_eq_false (by omega : ¬ b = 1)]; done)
    · refine eW_aload_n 23 rfl rfl rfl ?_
      refine eW_getfield 26 rfl rfl (Nat.ble_eq_true_of_le (by omega)) rfl hx rfl ⟨rfl, fun _ h9 => nomatch h9⟩ ?_
      refine eW_goto rfl ?_
      refine eW_ret_i rfl rfl (Or.inl rfl) ?_
      refine eAns_i ((eIfT_t (decide_eq_true (by omega))).trans ?_)
      first | (rw [decide_eq_true (by omega : b = 1)]; done) | (rw [decide_eq_false (by omega : ¬ b = 1)]; done)
  · refine eW_throw rfl rfl rfl rfl ?_
    exact eAns_x (eIfT_f (decide_eq_false (by omega)))
/-- a scoop of m that leaves the value w -/
def gTW (V : eVs) (G : eGd) (m w t l : Int) : Bool := gLets (gDig G) m t l && decide (gXr (gVal V.2.1 l) (gVal V.2.1 (m - t - l)) = w)
def gTWi (V : eVs) (G : eGd) (m w t : Int) : Option Int := gSrch (gTW V G m w t) 0 (m - t + 1).toNat
def gTWt (V : eVs) (G : eGd) (m w : Int) (t : Int) : Nat → Option (Int × Int)
  | 0 => none
  | n + 1 => match gTWi V G m w t with | some l => some (t, l) | none => gTWt V G m w (t + 1) n
theorem x_tip_i {d N k z : Nat} {h : eHp} {P : eR → Prop} {S : Int × Int × Int} (hf6 : gS h 56 S) {X : eXs} (hx : gX h X) {V : eVs} (hv : gV h 47 V) (hV : gVO V) (hN : 75 ≤ N) {G : eGd} (hg : gG h 1 G) (hG : gOk G) {p m t w : Int} {R : Option Int} (hm : 0 ≤ m ∧ m ≤ 40) (ht : 1 ≤ t ∧ t ≤ 6) (hw : 0 ≤ w ∧ w ≤ 31) (hfd : ∀ l h2, R = some l → gS h2 56 (p, t, l) → (∀ i, i ≠ 56 → h2 i = h i) → P (.inl (some (vI 1)), N, h2, k, z)) : ∀ (m9 : Nat) (l : Int), m - t + 1 - l ≤ m9 → 0 ≤ l ∧ (l ≤ m - t + 1 ∨ l = 0) → gSrch (gTW V G m w t) l (m - t + 1 - l).toNat = R → (R = none → eWp eOx (eEv (d + 2)) eM_X6_findToldInPit (94, [(0, .ref 0), (1, vI p), (2, vI w), (3, vI m), (4, vI t)], [], N, h, k, z) P) → eWp eOx (eEv (d + 2)) eM_X6_findToldInPit (22, [(0, .ref 0), (1, vI p), (2, vI w), (3, vI m), (4, vI t), (5, vI l)], [], N, h, k, z) P := by
  intro m9
  induction m9 with
  | zero =>
    intro l hm q0 q1 kk
    refine eW_iload 24 rfl rfl rfl ?_
    refine eW_iload_n 25 rfl rfl rfl ?_
    refine eW_iload 27 rfl rfl rfl ?_
    refine eW_isub 28 rfl rfl ?_
    refine eW_icmp_gt 31 rfl rfl (by unfold i32; omega) (by unfold i32; omega) (fun c1 => ?_) (fun c1 => ?_)
    · refine eW_re [(0, .ref 0), (1, vI p), (2, vI w), (3, vI m), (4, vI t)] rfl rfl (List.forall_mem_cons.mpr ⟨rfl, List.forall_mem_cons.mpr ⟨rfl, List.forall_mem_cons.mpr ⟨rfl, List.forall_mem_cons.mpr ⟨rfl, List.forall_mem_cons.mpr ⟨rfl, fun _ h => absurd h List.not_mem_nil⟩⟩⟩⟩⟩) (List.forall_mem_cons.mpr ⟨Or.inl rfl, List.forall_mem_cons.mpr ⟨Or.inl rfl, List.forall_mem_cons.mpr ⟨Or.inl rfl, List.forall_mem_cons.mpr ⟨Or.inl rfl, List.forall_mem_cons.mpr ⟨Or.inl rfl, List.forall_mem_cons.mpr ⟨Or.inr ⟨_, rfl⟩, fun _ h => absurd h List.not_mem_nil⟩⟩⟩⟩⟩⟩) ?_
      refine kk ?_
      rw [← q1]; exact gSrch_0 (by omega)
    · refine eW_aload_n 32 rfl rfl rfl ?_
      refine eW_getfield 35 rfl rfl (Nat.ble_eq_true_of_le (by omega)) rfl hx rfl ⟨rfl, fun _ h9 => nomatch h9⟩ ?_
      refine eW_iload_n 36 rfl rfl rfl ?_
      refine eW_iload 38 rfl rfl rfl ?_
      refine eW_iload 40 rfl rfl rfl ?_
      have hb := eB01_c (gLets (gDig G) m t l)
      refine eW_callV 43 [.ref 1, vI m, vI t, vI l] [] [vI (eB01 (gLets (gDig G) m t l))] rfl rfl rfl rfl (Nat.ble_eq_true_of_le (by omega)) hg.1 rfl rfl rfl (g_lets (d := d) hg hG (by omega) (by omega) (by unfold i32; omega) (by unfold i32; omega) (by unfold i32; omega) (by unfold i32; omega)) rfl rfl ?_
      refine eW_if_eq 46 rfl rfl (by unfold i32; omega) (fun c2 => ?_) (fun c2 => ?_)
      · refine eW_iinc 91 rfl rfl [(5, vI (l + 1)), (0, .ref 0), (1, vI p), (2, vI w), (3, vI m), (4, vI t)] rfl rfl rfl ?_
        refine eW_goto rfl ?_
        refine eW_re [(0, .ref 0), (1, vI p), (2, vI w), (3, vI m), (4, vI t), (5, vI (l + 1))] rfl rfl (List.forall_mem_cons.mpr ⟨rfl, List.forall_mem_cons.mpr ⟨rfl, List.forall_mem_cons.mpr ⟨rfl, List.forall_mem_cons.mpr ⟨rfl, List.forall_mem_cons.mpr ⟨rfl, List.forall_mem_cons.mpr ⟨rfl, fun _ h => absurd h List.not_mem_nil⟩⟩⟩⟩⟩⟩) (List.forall_mem_cons.mpr ⟨Or.inl rfl, List.forall_mem_cons.mpr ⟨Or.inl rfl, List.forall_mem_cons.mpr ⟨Or.inl rfl, List.forall_mem_cons.mpr ⟨Or.inl rfl, List.forall_mem_cons.mpr ⟨Or.inl rfl, List.forall_mem_cons.mpr ⟨Or.inl rfl, fun _ h => absurd h List.not_mem_nil⟩⟩⟩⟩⟩⟩) ?_
        exact absurd hm (by omega)
      · refine eW_aload_n 47 rfl rfl rfl ?_
        refine eW_getfield 50 rfl rfl (Nat.ble_eq_true_of_le (by omega)) rfl hx rfl ⟨rfl, fun _ h9 => nomatch h9⟩ ?_
        refine eW_iload 52 rfl rfl rfl ?_
        have hlx3 := gVal_le (by omega) hV.1 l
        have hxrx4 := gXr_lt (a := gVal V.2.1 l) (b := gVal V.2.1 (m - t - l)) (gVal_le (by omega) hV.1 _).2 (gVal_le (by omega) hV.1 _).2
        refine eW_callV 55 [.ref 47, vI l] [] [vI (gVal V.2.1 l)] rfl rfl rfl rfl (Nat.ble_eq_true_of_le (by omega)) hv.1 rfl rfl rfl (v_of (d := d) hv hV (by omega) (by unfold i32; omega)) rfl rfl ?_
        refine eW_aload_n 56 rfl rfl rfl ?_
        refine eW_getfield 59 rfl rfl (Nat.ble_eq_true_of_le (by omega)) rfl hx rfl ⟨rfl, fun _ h9 => nomatch h9⟩ ?_
        refine eW_iload_n 60 rfl rfl rfl ?_
        refine eW_iload 62 rfl rfl rfl ?_
        refine eW_isub 63 rfl rfl ?_
        refine eW_iload 65 rfl rfl rfl ?_
        refine eW_isub 66 rfl rfl ?_
        have hlx5 := gVal_le (by omega) hV.1 ((m - t) - l)
        have hxrx6 := gXr_lt (a := gVal V.2.1 l) (b := gVal V.2.1 (m - t - l)) (gVal_le (by omega) hV.1 _).2 (gVal_le (by omega) hV.1 _).2
        refine eW_callV 69 [.ref 47, vI ((m - t) - l)] [vI (gVal V.2.1 l)] [vI (gVal V.2.1 ((m - t) - l)), vI (gVal V.2.1 l)] rfl rfl rfl rfl (Nat.ble_eq_true_of_le (by omega)) hv.1 rfl rfl rfl (v_of (d := d) hv hV (by omega) (by unfold i32; omega)) rfl rfl ?_
        refine eW_ixor 70 rfl rfl (gXr (gVal V.2.1 l) (gVal V.2.1 ((m - t) - l))) (gXr_ok (by omega) (by omega)) ?_
        refine eW_iload_n 71 rfl rfl rfl ?_
        refine eW_icmp_ne 74 rfl rfl (by unfold i32; omega) (by unfold i32; omega) (fun c7 => ?_) (fun c7 => ?_)
        · refine eW_iinc 91 rfl rfl [(5, vI (l + 1)), (0, .ref 0), (1, vI p), (2, vI w), (3, vI m), (4, vI t)] rfl rfl rfl ?_
          refine eW_goto rfl ?_
          refine eW_re [(0, .ref 0), (1, vI p), (2, vI w), (3, vI m), (4, vI t), (5, vI (l + 1))] rfl rfl (List.forall_mem_cons.mpr ⟨rfl, List.forall_mem_cons.mpr ⟨rfl, List.forall_mem_cons.mpr ⟨rfl, List.forall_mem_cons.mpr ⟨rfl, List.forall_mem_cons.mpr ⟨rfl, List.forall_mem_cons.mpr ⟨rfl, fun _ h => absurd h List.not_mem_nil⟩⟩⟩⟩⟩⟩) (List.forall_mem_cons.mpr ⟨Or.inl rfl, List.forall_mem_cons.mpr ⟨Or.inl rfl, List.forall_mem_cons.mpr ⟨Or.inl rfl, List.forall_mem_cons.mpr ⟨Or.inl rfl, List.forall_mem_cons.mpr ⟨Or.inl rfl, List.forall_mem_cons.mpr ⟨Or.inl rfl, fun _ h => absurd h List.not_mem_nil⟩⟩⟩⟩⟩⟩) ?_
          exact absurd hm (by omega)
        · refine eW_aload_n 75 rfl rfl rfl ?_
          refine eW_getfield 78 rfl rfl (Nat.ble_eq_true_of_le (by omega)) rfl hx rfl ⟨rfl, fun _ h9 => nomatch h9⟩ ?_
          refine eW_iload_n 79 rfl rfl rfl ?_
          refine eW_iload 81 rfl rfl rfl ?_
          refine eW_iload 83 rfl rfl rfl ?_
          refine eW_callVH 86 [.ref 56, vI p, vI t, vI l] [] [] rfl rfl rfl rfl (Nat.ble_eq_true_of_le (by omega)) hf6 rfl rfl rfl (s_set (d := d + 1) hf6 (by omega)) rfl rfl ?_
          intro h8 fh8
          refine eW_iconst 87 rfl rfl ?_
          refine eW_ret_i rfl rfl (Or.inr (Or.inl ⟨rfl, rfl⟩)) ?_
          have hyes : gTW V G m w t l = true := by
            unfold gTW
            rcases hb with e9 | e9
            · rw [e9.1, Bool.true_and]; exact decide_eq_true (by omega)
            · exfalso; omega
          exact hfd l _ (by rw [← q1]; exact gSrch_t (f := gTW V G m w t) (by omega) hyes) fh8.1 fh8.2
  | succ m9 ih =>
    intro l hm q0 q1 kk
    refine eW_iload 24 rfl rfl rfl ?_
    refine eW_iload_n 25 rfl rfl rfl ?_
    refine eW_iload 27 rfl rfl rfl ?_
    refine eW_isub 28 rfl rfl ?_
    refine eW_icmp_gt 31 rfl rfl (by unfold i32; omega) (by unfold i32; omega) (fun c1 => ?_) (fun c1 => ?_)
    · refine eW_re [(0, .ref 0), (1, vI p), (2, vI w), (3, vI m), (4, vI t)] rfl rfl (List.forall_mem_cons.mpr ⟨rfl, List.forall_mem_cons.mpr ⟨rfl, List.forall_mem_cons.mpr ⟨rfl, List.forall_mem_cons.mpr ⟨rfl, List.forall_mem_cons.mpr ⟨rfl, fun _ h => absurd h List.not_mem_nil⟩⟩⟩⟩⟩) (List.forall_mem_cons.mpr ⟨Or.inl rfl, List.forall_mem_cons.mpr ⟨Or.inl rfl, List.forall_mem_cons.mpr ⟨Or.inl rfl, List.forall_mem_cons.mpr ⟨Or.inl rfl, List.forall_mem_cons.mpr ⟨Or.inl rfl, List.forall_mem_cons.mpr ⟨Or.inr ⟨_, rfl⟩, fun _ h => absurd h List.not_mem_nil⟩⟩⟩⟩⟩⟩) ?_
      refine kk ?_
      rw [← q1]; exact gSrch_0 (by omega)
    · refine eW_aload_n 32 rfl rfl rfl ?_
      refine eW_getfield 35 rfl rfl (Nat.ble_eq_true_of_le (by omega)) rfl hx rfl ⟨rfl, fun _ h9 => nomatch h9⟩ ?_
      refine eW_iload_n 36 rfl rfl rfl ?_
      refine eW_iload 38 rfl rfl rfl ?_
      refine eW_iload 40 rfl rfl rfl ?_
      have hb := eB01_c (gLets (gDig G) m t l)
      refine eW_callV 43 [.ref 1, vI m, vI t, vI l] [] [vI (eB01 (gLets (gDig G) m t l))] rfl rfl rfl rfl (Nat.ble_eq_true_of_le (by omega)) hg.1 rfl rfl rfl (g_lets (d := d) hg hG (by omega) (by omega) (by unfold i32; omega) (by unfold i32; omega) (by unfold i32; omega) (by unfold i32; omega)) rfl rfl ?_
      refine eW_if_eq 46 rfl rfl (by unfold i32; omega) (fun c2 => ?_) (fun c2 => ?_)
      · refine eW_iinc 91 rfl rfl [(5, vI (l + 1)), (0, .ref 0), (1, vI p), (2, vI w), (3, vI m), (4, vI t)] rfl rfl rfl ?_
        refine eW_goto rfl ?_
        refine eW_re [(0, .ref 0), (1, vI p), (2, vI w), (3, vI m), (4, vI t), (5, vI (l + 1))] rfl rfl (List.forall_mem_cons.mpr ⟨rfl, List.forall_mem_cons.mpr ⟨rfl, List.forall_mem_cons.mpr ⟨rfl, List.forall_mem_cons.mpr ⟨rfl, List.forall_mem_cons.mpr ⟨rfl, List.forall_mem_cons.mpr ⟨rfl, fun _ h => absurd h List.not_mem_nil⟩⟩⟩⟩⟩⟩) (List.forall_mem_cons.mpr ⟨Or.inl rfl, List.forall_mem_cons.mpr ⟨Or.inl rfl, List.forall_mem_cons.mpr ⟨Or.inl rfl, List.forall_mem_cons.mpr ⟨Or.inl rfl, List.forall_mem_cons.mpr ⟨Or.inl rfl, List.forall_mem_cons.mpr ⟨Or.inl rfl, fun _ h => absurd h List.not_mem_nil⟩⟩⟩⟩⟩⟩) ?_
        have hno : gTW V G m w t l = false := by
          unfold gTW
          rcases hb with e9 | e9
          · rw [e9.1, Bool.true_and]; first | exact decide_eq_false (by omega) | (exfalso; omega)
          · rw [e9.1]; rfl
        refine ih (l + 1) (by omega) (by omega) ?_ kk
        rw [← q1, gSrch_f (f := gTW V G m w t) (by omega) hno, show m - t + 1 - l - 1 = m - t + 1 - (l + 1) by omega]
      · refine eW_aload_n 47 rfl rfl rfl ?_
        refine eW_getfield 50 rfl rfl (Nat.ble_eq_true_of_le (by omega)) rfl hx rfl ⟨rfl, fun _ h9 => nomatch h9⟩ ?_
        refine eW_iload 52 rfl rfl rfl ?_
        have hlx3 := gVal_le (by omega) hV.1 l
        have hxrx4 := gXr_lt (a := gVal V.2.1 l) (b := gVal V.2.1 (m - t - l)) (gVal_le (by omega) hV.1 _).2 (gVal_le (by omega) hV.1 _).2
        refine eW_callV 55 [.ref 47, vI l] [] [vI (gVal V.2.1 l)] rfl rfl rfl rfl (Nat.ble_eq_true_of_le (by omega)) hv.1 rfl rfl rfl (v_of (d := d) hv hV (by omega) (by unfold i32; omega)) rfl rfl ?_
        refine eW_aload_n 56 rfl rfl rfl ?_
        refine eW_getfield 59 rfl rfl (Nat.ble_eq_true_of_le (by omega)) rfl hx rfl ⟨rfl, fun _ h9 => nomatch h9⟩ ?_
        refine eW_iload_n 60 rfl rfl rfl ?_
        refine eW_iload 62 rfl rfl rfl ?_
        refine eW_isub 63 rfl rfl ?_
        refine eW_iload 65 rfl rfl rfl ?_
        refine eW_isub 66 rfl rfl ?_
        have hlx5 := gVal_le (by omega) hV.1 ((m - t) - l)
        have hxrx6 := gXr_lt (a := gVal V.2.1 l) (b := gVal V.2.1 (m - t - l)) (gVal_le (by omega) hV.1 _).2 (gVal_le (by omega) hV.1 _).2
        refine eW_callV 69 [.ref 47, vI ((m - t) - l)] [vI (gVal V.2.1 l)] [vI (gVal V.2.1 ((m - t) - l)), vI (gVal V.2.1 l)] rfl rfl rfl rfl (Nat.ble_eq_true_of_le (by omega)) hv.1 rfl rfl rfl (v_of (d := d) hv hV (by omega) (by unfold i32; omega)) rfl rfl ?_
        refine eW_ixor 70 rfl rfl (gXr (gVal V.2.1 l) (gVal V.2.1 ((m - t) - l))) (gXr_ok (by omega) (by omega)) ?_
        refine eW_iload_n 71 rfl rfl rfl ?_
        refine eW_icmp_ne 74 rfl rfl (by unfold i32; omega) (by unfold i32; omega) (fun c7 => ?_) (fun c7 => ?_)
        · refine eW_iinc 91 rfl rfl [(5, vI (l + 1)), (0, .ref 0), (1, vI p), (2, vI w), (3, vI m), (4, vI t)] rfl rfl rfl ?_
          refine eW_goto rfl ?_
          refine eW_re [(0, .ref 0), (1, vI p), (2, vI w), (3, vI m), (4, vI t), (5, vI (l + 1))] rfl rfl (List.forall_mem_cons.mpr ⟨rfl, List.forall_mem_cons.mpr ⟨rfl, List.forall_mem_cons.mpr ⟨rfl, List.forall_mem_cons.mpr ⟨rfl, List.forall_mem_cons.mpr ⟨rfl, List.forall_mem_cons.mpr ⟨rfl, fun _ h => absurd h List.not_mem_nil⟩⟩⟩⟩⟩⟩) (List.forall_mem_cons.mpr ⟨Or.inl rfl, List.forall_mem_cons.mpr ⟨Or.inl rfl, List.forall_mem_cons.mpr ⟨Or.inl rfl, List.forall_mem_cons.mpr ⟨Or.inl rfl, List.forall_mem_cons.mpr ⟨Or.inl rfl, List.forall_mem_cons.mpr ⟨Or.inl rfl, fun _ h => absurd h List.not_mem_nil⟩⟩⟩⟩⟩⟩) ?_
          have hno : gTW V G m w t l = false := by
            unfold gTW
            rcases hb with e9 | e9
            · rw [e9.1, Bool.true_and]; first | exact decide_eq_false (by omega) | (exfalso; omega)
            · rw [e9.1]; rfl
          refine ih (l + 1) (by omega) (by omega) ?_ kk
          rw [← q1, gSrch_f (f := gTW V G m w t) (by omega) hno, show m - t + 1 - l - 1 = m - t + 1 - (l + 1) by omega]
        · refine eW_aload_n 75 rfl rfl rfl ?_
          refine eW_getfield 78 rfl rfl (Nat.ble_eq_true_of_le (by omega)) rfl hx rfl ⟨rfl, fun _ h9 => nomatch h9⟩ ?_
          refine eW_iload_n 79 rfl rfl rfl ?_
          refine eW_iload 81 rfl rfl rfl ?_
          refine eW_iload 83 rfl rfl rfl ?_
          refine eW_callVH 86 [.ref 56, vI p, vI t, vI l] [] [] rfl rfl rfl rfl (Nat.ble_eq_true_of_le (by omega)) hf6 rfl rfl rfl (s_set (d := d + 1) hf6 (by omega)) rfl rfl ?_
          intro h8 fh8
          refine eW_iconst 87 rfl rfl ?_
          refine eW_ret_i rfl rfl (Or.inr (Or.inl ⟨rfl, rfl⟩)) ?_
          have hyes : gTW V G m w t l = true := by
            unfold gTW
            rcases hb with e9 | e9
            · rw [e9.1, Bool.true_and]; exact decide_eq_true (by omega)
            · exfalso; omega
          exact hfd l _ (by rw [← q1]; exact gSrch_t (f := gTW V G m w t) (by omega) hyes) fh8.1 fh8.2
theorem gTWt_s {V : eVs} {G : eGd} {m w t k l : Int} (hk : 0 < k) (h : gTWi V G m w t = some l) : gTWt V G m w t k.toNat = some (t, l) := by
  rw [show k.toNat = (k - 1).toNat + 1 by omega]
  show (match gTWi V G m w t with | some l => some (t, l) | none => gTWt V G m w (t + 1) (k - 1).toNat) = _
  rw [h]
theorem gTWt_n {V : eVs} {G : eGd} {m w t k : Int} (hk : 0 < k) (h : gTWi V G m w t = none) : gTWt V G m w t k.toNat = gTWt V G m w (t + 1) (k - 1).toNat := by
  rw [show k.toNat = (k - 1).toNat + 1 by omega]
  show (match gTWi V G m w t with | some l => some (t, l) | none => gTWt V G m w (t + 1) (k - 1).toNat) = _
  rw [h]
theorem gTWt_0 {V : eVs} {G : eGd} {m w t k : Int} (hk : k ≤ 0) : gTWt V G m w t k.toNat = none := by rw [show k.toNat = 0 by omega]; rfl
theorem x_tip_o {d N k z : Nat} {h : eHp} {P : eR → Prop} {S : Int × Int × Int} (hf6 : gS h 56 S) {X : eXs} (hx : gX h X) {V : eVs} (hv : gV h 47 V) (hV : gVO V) (hN : 75 ≤ N) {G : eGd} (hg : gG h 1 G) (hG : gOk G) {p m w : Int} {R : Option (Int × Int)} (hm0 : 0 ≤ m ∧ m ≤ 40) (hw : 0 ≤ w ∧ w ≤ 31) (hfd : ∀ t l h2, R = some (t, l) → gS h2 56 (p, t, l) → (∀ i, i ≠ 56 → h2 i = h i) → P (.inl (some (vI 1)), N, h2, k, z)) : ∀ (m9 : Nat) (t : Int), 7 - t ≤ m9 → 1 ≤ t ∧ t ≤ 7 → gTWt V G m w t (7 - t).toNat = R → (R = none → eWp eOx (eEv (d + 2)) eM_X6_findToldInPit (100, [(0, .ref 0), (1, vI p), (2, vI w), (3, vI m)], [], N, h, k, z) P) → eWp eOx (eEv (d + 2)) eM_X6_findToldInPit (12, [(0, .ref 0), (1, vI p), (2, vI w), (3, vI m), (4, vI t)], [], N, h, k, z) P := by
  intro m9
  induction m9 with
  | zero =>
    intro t hm q0 q1 kk
    refine eW_iload 14 rfl rfl rfl ?_
    refine eW_bipush 16 rfl rfl 6 rfl ?_
    refine eW_icmp_gt 19 rfl rfl (by unfold i32; omega) (by unfold i32; omega) (fun c1 => ?_) (fun c1 => ?_)
    · refine eW_re [(0, .ref 0), (1, vI p), (2, vI w), (3, vI m)] rfl rfl (List.forall_mem_cons.mpr ⟨rfl, List.forall_mem_cons.mpr ⟨rfl, List.forall_mem_cons.mpr ⟨rfl, List.forall_mem_cons.mpr ⟨rfl, fun _ h => absurd h List.not_mem_nil⟩⟩⟩⟩) (List.forall_mem_cons.mpr ⟨Or.inl rfl, List.forall_mem_cons.mpr ⟨Or.inl rfl, List.forall_mem_cons.mpr ⟨Or.inl rfl, List.forall_mem_cons.mpr ⟨Or.inl rfl, List.forall_mem_cons.mpr ⟨Or.inr ⟨_, rfl⟩, fun _ h => absurd h List.not_mem_nil⟩⟩⟩⟩⟩) ?_
      refine kk ?_
      rw [← q1]; exact gTWt_0 (by omega)
    · refine eW_iconst 20 rfl rfl ?_
      refine eW_istore 22 rfl rfl [(5, vI 0), (0, .ref 0), (1, vI p), (2, vI w), (3, vI m), (4, vI t)] rfl rfl ?_
      refine eW_re [(0, .ref 0), (1, vI p), (2, vI w), (3, vI m), (4, vI t), (5, vI 0)] rfl rfl (List.forall_mem_cons.mpr ⟨rfl, List.forall_mem_cons.mpr ⟨rfl, List.forall_mem_cons.mpr ⟨rfl, List.forall_mem_cons.mpr ⟨rfl, List.forall_mem_cons.mpr ⟨rfl, List.forall_mem_cons.mpr ⟨rfl, fun _ h => absurd h List.not_mem_nil⟩⟩⟩⟩⟩⟩) (List.forall_mem_cons.mpr ⟨Or.inl rfl, List.forall_mem_cons.mpr ⟨Or.inl rfl, List.forall_mem_cons.mpr ⟨Or.inl rfl, List.forall_mem_cons.mpr ⟨Or.inl rfl, List.forall_mem_cons.mpr ⟨Or.inl rfl, List.forall_mem_cons.mpr ⟨Or.inl rfl, fun _ h => absurd h List.not_mem_nil⟩⟩⟩⟩⟩⟩) ?_
      refine x_tip_i (R := gTWi V G m w t) hf6 hx hv hV hN hg hG hm0 (by omega) hw (fun l h2 e1 e2 e3 => hfd t l h2 (by rw [← q1]; exact gTWt_s (by omega) e1) e2 e3) _ 0 (Int.self_le_toNat _) (by omega) (by rw [Int.sub_zero]; rfl) (fun r9 => ?_)
      refine eW_iinc 97 rfl rfl [(4, vI (t + 1)), (0, .ref 0), (1, vI p), (2, vI w), (3, vI m)] rfl rfl rfl ?_
      refine eW_goto rfl ?_
      refine eW_re [(0, .ref 0), (1, vI p), (2, vI w), (3, vI m), (4, vI (t + 1))] rfl rfl (List.forall_mem_cons.mpr ⟨rfl, List.forall_mem_cons.mpr ⟨rfl, List.forall_mem_cons.mpr ⟨rfl, List.forall_mem_cons.mpr ⟨rfl, List.forall_mem_cons.mpr ⟨rfl, fun _ h => absurd h List.not_mem_nil⟩⟩⟩⟩⟩) (List.forall_mem_cons.mpr ⟨Or.inl rfl, List.forall_mem_cons.mpr ⟨Or.inl rfl, List.forall_mem_cons.mpr ⟨Or.inl rfl, List.forall_mem_cons.mpr ⟨Or.inl rfl, List.forall_mem_cons.mpr ⟨Or.inl rfl, fun _ h => absurd h List.not_mem_nil⟩⟩⟩⟩⟩) ?_
      exact absurd hm (by omega)
  | succ m9 ih =>
    intro t hm q0 q1 kk
    refine eW_iload 14 rfl rfl rfl ?_
    refine eW_bipush 16 rfl rfl 6 rfl ?_
    refine eW_icmp_gt 19 rfl rfl (by unfold i32; omega) (by unfold i32; omega) (fun c1 => ?_) (fun c1 => ?_)
    · refine eW_re [(0, .ref 0), (1, vI p), (2, vI w), (3, vI m)] rfl rfl (List.forall_mem_cons.mpr ⟨rfl, List.forall_mem_cons.mpr ⟨rfl, List.forall_mem_cons.mpr ⟨rfl, List.forall_mem_cons.mpr ⟨rfl, fun _ h => absurd h List.not_mem_nil⟩⟩⟩⟩) (List.forall_mem_cons.mpr ⟨Or.inl rfl, List.forall_mem_cons.mpr ⟨Or.inl rfl, List.forall_mem_cons.mpr ⟨Or.inl rfl, List.forall_mem_cons.mpr ⟨Or.inl rfl, List.forall_mem_cons.mpr ⟨Or.inr ⟨_, rfl⟩, fun _ h => absurd h List.not_mem_nil⟩⟩⟩⟩⟩) ?_
      refine kk ?_
      rw [← q1]; exact gTWt_0 (by omega)
    · refine eW_iconst 20 rfl rfl ?_
      refine eW_istore 22 rfl rfl [(5, vI 0), (0, .ref 0), (1, vI p), (2, vI w), (3, vI m), (4, vI t)] rfl rfl ?_
      refine eW_re [(0, .ref 0), (1, vI p), (2, vI w), (3, vI m), (4, vI t), (5, vI 0)] rfl rfl (List.forall_mem_cons.mpr ⟨rfl, List.forall_mem_cons.mpr ⟨rfl, List.forall_mem_cons.mpr ⟨rfl, List.forall_mem_cons.mpr ⟨rfl, List.forall_mem_cons.mpr ⟨rfl, List.forall_mem_cons.mpr ⟨rfl, fun _ h => absurd h List.not_mem_nil⟩⟩⟩⟩⟩⟩) (List.forall_mem_cons.mpr ⟨Or.inl rfl, List.forall_mem_cons.mpr ⟨Or.inl rfl, List.forall_mem_cons.mpr ⟨Or.inl rfl, List.forall_mem_cons.mpr ⟨Or.inl rfl, List.forall_mem_cons.mpr ⟨Or.inl rfl, List.forall_mem_cons.mpr ⟨Or.inl rfl, fun _ h => absurd h List.not_mem_nil⟩⟩⟩⟩⟩⟩) ?_
      refine x_tip_i (R := gTWi V G m w t) hf6 hx hv hV hN hg hG hm0 (by omega) hw (fun l h2 e1 e2 e3 => hfd t l h2 (by rw [← q1]; exact gTWt_s (by omega) e1) e2 e3) _ 0 (Int.self_le_toNat _) (by omega) (by rw [Int.sub_zero]; rfl) (fun r9 => ?_)
      refine eW_iinc 97 rfl rfl [(4, vI (t + 1)), (0, .ref 0), (1, vI p), (2, vI w), (3, vI m)] rfl rfl rfl ?_
      refine eW_goto rfl ?_
      refine eW_re [(0, .ref 0), (1, vI p), (2, vI w), (3, vI m), (4, vI (t + 1))] rfl rfl (List.forall_mem_cons.mpr ⟨rfl, List.forall_mem_cons.mpr ⟨rfl, List.forall_mem_cons.mpr ⟨rfl, List.forall_mem_cons.mpr ⟨rfl, List.forall_mem_cons.mpr ⟨rfl, fun _ h => absurd h List.not_mem_nil⟩⟩⟩⟩⟩) (List.forall_mem_cons.mpr ⟨Or.inl rfl, List.forall_mem_cons.mpr ⟨Or.inl rfl, List.forall_mem_cons.mpr ⟨Or.inl rfl, List.forall_mem_cons.mpr ⟨Or.inl rfl, List.forall_mem_cons.mpr ⟨Or.inl rfl, fun _ h => absurd h List.not_mem_nil⟩⟩⟩⟩⟩) ?_
      refine ih (t + 1) (by omega) (by omega) ?_ kk
      rw [← q1, gTWt_n (by omega) r9, show 7 - t - 1 = 7 - (t + 1) by omega]
/-- a scoop found: at 56 from now on; else nothing changes -/
def gFnd (h : eHp) (p : Int) (r : Option (Int × Int)) : eHp → Prop := fun h' => match r with | some tl => gS h' 56 (p, tl.1, tl.2) ∧ ∀ i, i ≠ 56 → h' i = h i | none => h' = h
def gYes {α : Type} (r : Option α) : Int := match r with | some _ => 1 | none => 0
theorem x_tip {d N : Nat} {h : eHp} {X : eXs} (hx : gX h X) {V : eVs} (hv : gV h 47 V) (hV : gVO V) (hN : 75 ≤ N) {G : eGd} (hg : gG h 1 G) (hG : gOk G) {S : Int × Int × Int} (hf6 : gS h 56 S) {p w : Int} (hp : i32 p) (hw : 0 ≤ w ∧ w ≤ 31) : eSp (d + 3) eM_X6_findToldInPit [.ref 0, vI p, vI w] N h (eChg (some (vI (gYes (gTWt V G (gIn G p) w 1 6)))) N (gFnd h p (gTWt V G (gIn G p) w 1 6))) := by
  refine eSp_of [(0, .ref 0), (1, vI p), (2, vI w)] rfl rfl ?_
  have hm := gIn_le hG p
  refine eW_aload_n 1 rfl rfl rfl ?_
  refine eW_getfield 4 rfl rfl (Nat.ble_eq_true_of_le (by omega)) rfl hx rfl ⟨rfl, fun _ h9 => nomatch h9⟩ ?_
  refine eW_iload_n 5 rfl rfl rfl ?_
  refine eW_callV 8 [.ref 1, vI p] [] [vI (gIn G p)] rfl rfl rfl rfl (Nat.ble_eq_true_of_le (by omega)) hg.1 rfl rfl rfl (g_marblesIn (d := d) hg hG (by omega) hp) rfl rfl ?_
  refine eW_istore_n 9 rfl rfl [(3, vI (gIn G p)), (0, .ref 0), (1, vI p), (2, vI w)] rfl rfl ?_
  refine eW_iconst 10 rfl rfl ?_
  refine eW_istore 12 rfl rfl [(4, vI 1), (3, vI (gIn G p)), (0, .ref 0), (1, vI p), (2, vI w)] rfl rfl ?_
  refine eW_re [(0, .ref 0), (1, vI p), (2, vI w), (3, vI (gIn G p)), (4, vI 1)] rfl rfl (List.forall_mem_cons.mpr ⟨rfl, List.forall_mem_cons.mpr ⟨rfl, List.forall_mem_cons.mpr ⟨rfl, List.forall_mem_cons.mpr ⟨rfl, List.forall_mem_cons.mpr ⟨rfl, fun _ h => absurd h List.not_mem_nil⟩⟩⟩⟩⟩) (List.forall_mem_cons.mpr ⟨Or.inl rfl, List.forall_mem_cons.mpr ⟨Or.inl rfl, List.forall_mem_cons.mpr ⟨Or.inl rfl, List.forall_mem_cons.mpr ⟨Or.inl rfl, List.forall_mem_cons.mpr ⟨Or.inl rfl, fun _ h => absurd h List.not_mem_nil⟩⟩⟩⟩⟩) ?_
  refine x_tip_o (R := gTWt V G (gIn G p) w 1 6) hf6 hx hv hV hN hg hG hm hw (fun t l h2 e1 e2 e3 => ⟨h2, by rw [e1]; rfl, by rw [e1]; exact ⟨e2, e3⟩⟩) _ 1 (Int.self_le_toNat _) (by omega) rfl (fun r9 => ?_)
  refine eW_iconst 101 rfl rfl ?_
  refine eW_ret_i rfl rfl (Or.inr (Or.inl ⟨rfl, rfl⟩)) ?_
  exact ⟨h, by rw [r9]; rfl, by rw [r9]; rfl⟩
