/-! the class's world -/
def gK (h : eHp) : Prop := ∃ cr wn tr, h 53 = .inr (8, [.ref 54, .ref 55, vI tr]) ∧ h 54 = .inl (4, 139, .inr (.inl (eLA cr))) ∧ h 55 = .inl (2, 139, .inl (eIA wn))
def cW (h : eHp) (X : eXs) (G O Q : eGd) (a z : Int) (Ks : Nat → eGd) (V : eVs) (S : Int × Int × Int) (T : eTx) : Prop := gX h X ∧ gG h 1 G ∧ gG h 5 O ∧ gG h 9 Q ∧ gH h 13 a z Ks ∧ gV h 47 V ∧ gS h 56 S ∧ gT h 57 T ∧ gK h
def cFr (h h' : eHp) : Prop := ∀ i, 61 ≤ i → h' i = h i
theorem gX_k {h h' : eHp} {X : eXs} (hx : gX h X) (o : h' 0 = h 0) : gX h' X := o.trans hx
theorem gS_k {h h' : eHp} {S : Int × Int × Int} (hs : gS h 56 S) (o : h' 56 = h 56) : gS h' 56 S := o.trans hs
theorem gK_k {h h' : eHp} (hk : gK h) (o : ∀ i, 53 ≤ i → i ≤ 55 → h' i = h i) : gK h' := by
  obtain ⟨cr, wn, tr, a, b, c⟩ := hk
  exact ⟨cr, wn, tr, (o _ (by decide) (by decide)).trans a, (o _ (by decide) (by decide)).trans b, (o _ (by decide) (by decide)).trans c⟩
theorem cW_k {h h' : eHp} {X : eXs} {G O Q : eGd} {a z : Int} {Ks : Nat → eGd} {V : eVs} {S : Int × Int × Int} {T : eTx} (hw : cW h X G O Q a z Ks V S T) (o : ∀ i, i ≤ 60 → h' i = h i) : cW h' X G O Q a z Ks V S T := by
  obtain ⟨b1, b2, b3, b4, b5, b6, b7, b8, b9⟩ := hw
  exact ⟨gX_k b1 (o _ (by omega)), gG_k b2 (fun i _ _ => o i (by omega)), gG_k b3 (fun i _ _ => o i (by omega)), gG_k b4 (fun i _ _ => o i (by omega)), gH_k b5 (fun i _ _ => o i (by omega)), gV_k b6 (fun i _ _ => o i (by omega)), gS_k b7 (o _ (by omega)), gT_k b8 (fun i _ _ => o i (by omega)), gK_k b9 (fun i _ _ => o i (by omega))⟩
/-- an answer, and what holds then -/
def cA (r : Int ⊕ String) (N : Nat) (h : eHp) (F : eHp → Prop) : eR → Prop := fun q => ∃ h', q = (match r with | .inl a => (.inl (some (vI a)), N, h', 0, 0) | .inr E => (.inr E, N, h', 1, 6)) ∧ cFr h h' ∧ F h'
theorem cA_i {r : Int ⊕ String} {x : Int} {N : Nat} {h h' : eHp} {F : eHp → Prop} (e : r = .inl x) (hf : cFr h h') (hF : F h') : cA r N h F (.inl (some (vI x)), N, h', 0, 0) := ⟨h', by rw [e], hf, hF⟩
theorem cA_x {r : Int ⊕ String} {E : String} {N : Nat} {h h' : eHp} {F : eHp → Prop} (e : r = .inr E) (hf : cFr h h') (hF : F h') : cA r N h F (.inr E, N, h', 1, 6) := ⟨h', by rw [e], hf, hF⟩
theorem gK_53 {h : eHp} (hk : gK h) : h 53 = .inr (8, [.ref 54, .ref 55, vI (Classical.choose (Classical.choose_spec (Classical.choose_spec hk)))]) := (Classical.choose_spec (Classical.choose_spec (Classical.choose_spec hk))).1
theorem gSrch_find {D : Int → Int} {m t : Int} {p : Int → Bool} : ∀ (n : Nat) (i : Int), gSrch (fun l => gLets D m t l && p l) i n = (lL D m t i n).find? p
  | 0, _ => rfl
  | n + 1, i => by
    show (match gLets D m t i && p i with | true => some i | false => gSrch (fun l => gLets D m t l && p l) (i + 1) n) = _
    cases hl : gLets D m t i with
    | false => rw [lL_f hl, Bool.false_and]; exact gSrch_find n (i + 1)
    | true =>
      rw [lL_t hl, Bool.true_and]
      cases hp : p i with
      | true => rw [List.find?_cons_of_pos hp]
      | false => rw [List.find?_cons_of_neg (by rw [hp]; exact Bool.false_ne_true)]; exact gSrch_find n (i + 1)
theorem gTWt_find {V : eVs} {G : eGd} (hV : gVal V.2.1 = gvv (gDig G)) {m w : Int} : ∀ (n : Nat) (t : Int), gTWt V G m w t n = (lT (gDig G) m t n).find? (fun q => decide (gXr (gvv (gDig G) q.2) (gvv (gDig G) (m - q.1 - q.2)) = w))
  | 0, _ => rfl
  | n + 1, t => by
    show (match gTWi V G m w t with | some l => some (t, l) | none => gTWt V G m w (t + 1) n) = ((lL (gDig G) m t 0 (m - t + 1).toNat).map (fun l => (t, l)) ++ lT (gDig G) m (t + 1) n).find? _
    have e : gTWi V G m w t = (lL (gDig G) m t 0 (m - t + 1).toNat).find? (fun l => decide (gXr (gvv (gDig G) l) (gvv (gDig G) (m - t - l)) = w)) := by
      unfold gTWi
      rw [← gSrch_find]
      unfold gTW
      rw [hV]
    rw [List.find?_append, List.find?_map, e]
    cases hf : (lL (gDig G) m t 0 (m - t + 1).toNat).find? (fun l => decide (gXr (gvv (gDig G) l) (gvv (gDig G) (m - t - l)) = w)) with
    | none =>
      have e2 : (lL (gDig G) m t 0 (m - t + 1).toNat).find? ((fun q : Int × Int => decide (gXr (gvv (gDig G) q.2) (gvv (gDig G) (m - q.1 - q.2)) = w)) ∘ (fun l => (t, l))) = none := hf
      rw [e2]; exact gTWt_find hV n (t + 1)
    | some l =>
      have e2 : (lL (gDig G) m t 0 (m - t + 1).toNat).find? ((fun q : Int × Int => decide (gXr (gvv (gDig G) q.2) (gvv (gDig G) (m - q.1 - q.2)) = w)) ∘ (fun l => (t, l))) = some l := hf
      rw [e2]; rfl
theorem lP_find {V : eVs} {G : eGd} (hVD : gVD V (gDig G)) {p : Int} (h : p < G.2.2.2.1) (h0 : 0 ≤ p) : (lP G p (G.2.2.2.1 - p).toNat).find? (gZero G) = match gTWt V G (gIn G p) (gXr (gSumV V G) (gVal V.2.1 (gIn G p))) 1 6 with | some tl => some (p, tl) | none => (lP G (p + 1) (G.2.2.2.1 - (p + 1)).toNat).find? (gZero G) := by
  rw [lP_cons h, List.find?_append, List.find?_map, gIn_t h0 h, gTWt_find (gV_fun hVD), gV_fun hVD, gSumV_eq hVD]
  cases hf : (lT (gDig G) (G.1 p.toNat) 1 6).find? (fun q => decide (gXr (gvv (gDig G) q.2) (gvv (gDig G) (G.1 p.toNat - q.1 - q.2)) = gXr (gSm G) (gvv (gDig G) (G.1 p.toNat)))) with
  | none =>
    have e2 : (lT (gDig G) (G.1 p.toNat) 1 6).find? (gZero G ∘ (fun q => (p, q))) = none := hf
    rw [e2]; rfl
  | some tl =>
    have e2 : (lT (gDig G) (G.1 p.toNat) 1 6).find? (gZero G ∘ (fun q => (p, q))) = some tl := hf
    rw [e2]; rfl
/-- found: at 56 from now on; else nothing changes -/
def cFd (h : eHp) (r : Option (Int × Int × Int)) : eHp → Prop := fun h' => match r with | some y => gS h' 56 y ∧ ∀ i, i ≠ 56 → h' i = h i | none => h' = h
theorem x_fTold_l {d N : Nat} {h : eHp} {X : eXs} {G O Q : eGd} {ya yz : Int} {Ks : Nat → eGd} {V : eVs} {S : Int × Int × Int} {T : eTx} (hw : cW h X G O Q ya yz Ks V S T) (hN : 75 ≤ N) {c : Int} (hI : gI c G) (hVG : gVG V G) (ha : 0 ≤ ya ∧ ya < 8) (hz : 0 ≤ yz ∧ yz ≤ 8) (hTO : gTO T) : ∀ (m9 : Nat) (i : Int), G.2.2.2.1 - i ≤ m9 → 0 ≤ i ∧ i ≤ G.2.2.2.1 → (lP G i (G.2.2.2.1 - i).toNat).find? (gZero G) = gTd G → eWp eOx (eEv (d + 4)) eM_X6_findTold (11, [(0, .ref 0), (1, vI (gSumV V G)), (2, vI i)], [], N, h, 0, 0) (eChg (some (vI (gYes (gTd G)))) N (cFd h (gTd G))) := by
  intro m9
  induction m9 with
  | zero =>
    intro i hm9 q0 q1
    have hG := hI.1
    have hG9 := hG
    obtain ⟨g1, g2, g3, g4⟩ := hG9
    have hV := hVG.1.1
    have hVD := hVG.1
    have hsm := gSumV_le (V := V) (G := G) hV
    refine eW_iload_n 12 rfl rfl rfl ?_
    refine eW_aload_n 13 rfl rfl rfl ?_
    refine eW_getfield 16 rfl rfl (Nat.ble_eq_true_of_le (by omega)) rfl hw.1 rfl ⟨rfl, fun _ h9 => nomatch h9⟩ ?_
    refine eW_callV 19 [.ref 1] [vI i] [vI G.2.2.2.1, vI i] rfl rfl rfl rfl (Nat.ble_eq_true_of_le (by omega)) hw.2.1.1 rfl rfl rfl (g_pits (d := d + 3) hw.2.1 hG (by omega)) rfl rfl ?_
    refine eW_icmp_ge 22 rfl rfl (by unfold i32; omega) (by unfold i32; omega) (fun c1 => ?_) (fun c1 => ?_)
    · refine eW_iconst 46 rfl rfl ?_
      refine eW_ret_i rfl rfl (Or.inr (Or.inl ⟨rfl, rfl⟩)) ?_
      have hT : gTd G = none := by rw [← q1, show (G.2.2.2.1 - i).toNat = 0 by omega]; rfl
      exact ⟨h, by rw [hT]; rfl, by rw [hT]; rfl⟩
    · refine eW_aload_n 23 rfl rfl rfl ?_
      refine eW_iload_n 24 rfl rfl rfl ?_
      refine eW_iload_n 25 rfl rfl rfl ?_
      refine eW_aload_n 26 rfl rfl rfl ?_
      refine eW_iload_n 27 rfl rfl rfl ?_
      have hvl := gVal_le (by omega) hV.1 (gIn G i)
      refine eW_callV 30 [.ref 0, vI i] [vI (gSumV V G), vI i, .ref 0] [vI (gVal V.2.1 (gIn G i)), vI (gSumV V G), vI i, .ref 0] rfl rfl rfl rfl (Nat.ble_eq_true_of_le (by omega)) hw.1 rfl rfl rfl (x_valueOfPit (d := d + 1) hw.1 hw.2.2.2.2.2.1 hV hN hw.2.1 hG (by unfold i32; omega)) rfl rfl ?_
      refine eW_ixor 31 rfl rfl (gXr (gSumV V G) (gVal V.2.1 (gIn G i))) (gXr_ok (by omega) (by omega)) ?_
      have hp9 : i32 i := by unfold i32; omega
      have hgy := gYes_c (gTWt V G (gIn G i) (gXr (gSumV V G) (gVal V.2.1 (gIn G i))) 1 6)
      refine eW_callVH 34 [.ref 0, vI i, vI (gXr (gSumV V G) (gVal V.2.1 (gIn G i)))] [] [vI (gYes (gTWt V G (gIn G i) (gXr (gSumV V G) (gVal V.2.1 (gIn G i))) 1 6))] rfl rfl rfl rfl (Nat.ble_eq_true_of_le (by omega)) hw.1 rfl rfl rfl (x_tip (d := d + 1) (w := gXr (gSumV V G) (gVal V.2.1 (gIn G i))) hw.1 hw.2.2.2.2.2.1 hV hN hw.2.1 hG hw.2.2.2.2.2.2.1 hp9 (gXr_lt (by omega) (by omega))) rfl rfl ?_
      intro h2 fh2
      refine eW_if_eq 37 rfl rfl (by unfold i32; omega) (fun c3 => ?_) (fun c3 => ?_)
      · refine eW_iinc 42 rfl rfl [(2, vI (i + 1)), (0, .ref 0), (1, vI (gSumV V G))] rfl rfl rfl ?_
        refine eW_goto rfl ?_
        refine eW_re [(0, .ref 0), (1, vI (gSumV V G)), (2, vI (i + 1))] rfl rfl (List.forall_mem_cons.mpr ⟨rfl, List.forall_mem_cons.mpr ⟨rfl, List.forall_mem_cons.mpr ⟨rfl, fun _ h => absurd h List.not_mem_nil⟩⟩⟩) (List.forall_mem_cons.mpr ⟨Or.inl rfl, List.forall_mem_cons.mpr ⟨Or.inl rfl, List.forall_mem_cons.mpr ⟨Or.inl rfl, fun _ h => absurd h List.not_mem_nil⟩⟩⟩) ?_
        exact absurd hm9 (by omega)
      · refine eW_iconst 38 rfl rfl ?_
        refine eW_ret_i rfl rfl (Or.inr (Or.inl ⟨rfl, rfl⟩)) ?_
        obtain ⟨tl, htl⟩ : ∃ u, gTWt V G (gIn G i) (gXr (gSumV V G) (gVal V.2.1 (gIn G i))) 1 6 = some u := by rcases hgy with ⟨e, _⟩ | ⟨_, e⟩; exact absurd e (by omega); exact e
        have hT : gTd G = some (i, tl) := by rw [← q1, lP_find hVD (by omega) q0.1, htl]
        rw [htl] at fh2
        exact ⟨h2, by rw [hT]; rfl, by rw [hT]; exact fh2⟩
  | succ m9 ih =>
    intro i hm9 q0 q1
    have hG := hI.1
    have hG9 := hG
    obtain ⟨g1, g2, g3, g4⟩ := hG9
    have hV := hVG.1.1
    have hVD := hVG.1
    have hsm := gSumV_le (V := V) (G := G) hV
    refine eW_iload_n 12 rfl rfl rfl ?_
    refine eW_aload_n 13 rfl rfl rfl ?_
    refine eW_getfield 16 rfl rfl (Nat.ble_eq_true_of_le (by omega)) rfl hw.1 rfl ⟨rfl, fun _ h9 => nomatch h9⟩ ?_
    refine eW_callV 19 [.ref 1] [vI i] [vI G.2.2.2.1, vI i] rfl rfl rfl rfl (Nat.ble_eq_true_of_le (by omega)) hw.2.1.1 rfl rfl rfl (g_pits (d := d + 3) hw.2.1 hG (by omega)) rfl rfl ?_
    refine eW_icmp_ge 22 rfl rfl (by unfold i32; omega) (by unfold i32; omega) (fun c1 => ?_) (fun c1 => ?_)
    · refine eW_iconst 46 rfl rfl ?_
      refine eW_ret_i rfl rfl (Or.inr (Or.inl ⟨rfl, rfl⟩)) ?_
      have hT : gTd G = none := by rw [← q1, show (G.2.2.2.1 - i).toNat = 0 by omega]; rfl
      exact ⟨h, by rw [hT]; rfl, by rw [hT]; rfl⟩
    · refine eW_aload_n 23 rfl rfl rfl ?_
      refine eW_iload_n 24 rfl rfl rfl ?_
      refine eW_iload_n 25 rfl rfl rfl ?_
      refine eW_aload_n 26 rfl rfl rfl ?_
      refine eW_iload_n 27 rfl rfl rfl ?_
      have hvl := gVal_le (by omega) hV.1 (gIn G i)
      refine eW_callV 30 [.ref 0, vI i] [vI (gSumV V G), vI i, .ref 0] [vI (gVal V.2.1 (gIn G i)), vI (gSumV V G), vI i, .ref 0] rfl rfl rfl rfl (Nat.ble_eq_true_of_le (by omega)) hw.1 rfl rfl rfl (x_valueOfPit (d := d + 1) hw.1 hw.2.2.2.2.2.1 hV hN hw.2.1 hG (by unfold i32; omega)) rfl rfl ?_
      refine eW_ixor 31 rfl rfl (gXr (gSumV V G) (gVal V.2.1 (gIn G i))) (gXr_ok (by omega) (by omega)) ?_
      have hp9 : i32 i := by unfold i32; omega
      have hgy := gYes_c (gTWt V G (gIn G i) (gXr (gSumV V G) (gVal V.2.1 (gIn G i))) 1 6)
      refine eW_callVH 34 [.ref 0, vI i, vI (gXr (gSumV V G) (gVal V.2.1 (gIn G i)))] [] [vI (gYes (gTWt V G (gIn G i) (gXr (gSumV V G) (gVal V.2.1 (gIn G i))) 1 6))] rfl rfl rfl rfl (Nat.ble_eq_true_of_le (by omega)) hw.1 rfl rfl rfl (x_tip (d := d + 1) (w := gXr (gSumV V G) (gVal V.2.1 (gIn G i))) hw.1 hw.2.2.2.2.2.1 hV hN hw.2.1 hG hw.2.2.2.2.2.2.1 hp9 (gXr_lt (by omega) (by omega))) rfl rfl ?_
      intro h2 fh2
      refine eW_if_eq 37 rfl rfl (by unfold i32; omega) (fun c3 => ?_) (fun c3 => ?_)
      · refine eW_iinc 42 rfl rfl [(2, vI (i + 1)), (0, .ref 0), (1, vI (gSumV V G))] rfl rfl rfl ?_
        refine eW_goto rfl ?_
        refine eW_re [(0, .ref 0), (1, vI (gSumV V G)), (2, vI (i + 1))] rfl rfl (List.forall_mem_cons.mpr ⟨rfl, List.forall_mem_cons.mpr ⟨rfl, List.forall_mem_cons.mpr ⟨rfl, fun _ h => absurd h List.not_mem_nil⟩⟩⟩) (List.forall_mem_cons.mpr ⟨Or.inl rfl, List.forall_mem_cons.mpr ⟨Or.inl rfl, List.forall_mem_cons.mpr ⟨Or.inl rfl, fun _ h => absurd h List.not_mem_nil⟩⟩⟩) ?_
        have hn9 : gTWt V G (gIn G i) (gXr (gSumV V G) (gVal V.2.1 (gIn G i))) 1 6 = none := by rcases hgy with ⟨_, e⟩ | ⟨e, _⟩; exact e; exact absurd e (by omega)
        rw [hn9] at fh2
        have e9 : h2 = h := fh2
        subst e9
        exact ih (i + 1) (by omega) (by omega) (by rw [← q1, lP_find hVD (by omega) q0.1, hn9])
      · refine eW_iconst 38 rfl rfl ?_
        refine eW_ret_i rfl rfl (Or.inr (Or.inl ⟨rfl, rfl⟩)) ?_
        obtain ⟨tl, htl⟩ : ∃ u, gTWt V G (gIn G i) (gXr (gSumV V G) (gVal V.2.1 (gIn G i))) 1 6 = some u := by rcases hgy with ⟨e, _⟩ | ⟨_, e⟩; exact absurd e (by omega); exact e
        have hT : gTd G = some (i, tl) := by rw [← q1, lP_find hVD (by omega) q0.1, htl]
        rw [htl] at fh2
        exact ⟨h2, by rw [hT]; rfl, by rw [hT]; exact fh2⟩
theorem x_findTold {d N : Nat} {h : eHp} {X : eXs} {G O Q : eGd} {ya yz : Int} {Ks : Nat → eGd} {V : eVs} {S : Int × Int × Int} {T : eTx} (hw : cW h X G O Q ya yz Ks V S T) (hN : 75 ≤ N) {c : Int} (hI : gI c G) (hVG : gVG V G) (ha : 0 ≤ ya ∧ ya < 8) (hz : 0 ≤ yz ∧ yz ≤ 8) (hTO : gTO T)  : eSp (d + 5) eM_X6_findTold [.ref 0] N h (eChg (some (vI (gYes (gTd G)))) N (cFd h (gTd G))) := by
  refine eSp_of [(0, .ref 0)] rfl rfl ?_
  have hG := hI.1
  have hG9 := hG
  obtain ⟨g1, g2, g3, g4⟩ := hG9
  have hV := hVG.1.1
  have hVD := hVG.1
  refine eW_aload_n 1 rfl rfl rfl ?_
  refine eW_aload_n 2 rfl rfl rfl ?_
  refine eW_getfield 5 rfl rfl (Nat.ble_eq_true_of_le (by omega)) rfl hw.1 rfl ⟨rfl, fun _ h9 => nomatch h9⟩ ?_
  have hsm := gSumV_le (V := V) (G := G) hV
  refine eW_callV 8 [.ref 0, .ref 1] [] [vI (gSumV V G)] rfl rfl rfl rfl (Nat.ble_eq_true_of_le (by omega)) hw.1 rfl rfl rfl (x_sumOf (d := d + 1) hw.1 hw.2.2.2.2.2.1 hV hN hw.2.1 hG (by omega)) rfl rfl ?_
  refine eW_istore_n 9 rfl rfl [(1, vI (gSumV V G)), (0, .ref 0)] rfl rfl ?_
  refine eW_iconst 10 rfl rfl ?_
  refine eW_istore_n 11 rfl rfl [(2, vI 0), (1, vI (gSumV V G)), (0, .ref 0)] rfl rfl ?_
  refine eW_re [(0, .ref 0), (1, vI (gSumV V G)), (2, vI 0)] rfl rfl (List.forall_mem_cons.mpr ⟨rfl, List.forall_mem_cons.mpr ⟨rfl, List.forall_mem_cons.mpr ⟨rfl, fun _ h => absurd h List.not_mem_nil⟩⟩⟩) (List.forall_mem_cons.mpr ⟨Or.inl rfl, List.forall_mem_cons.mpr ⟨Or.inl rfl, List.forall_mem_cons.mpr ⟨Or.inl rfl, fun _ h => absurd h List.not_mem_nil⟩⟩⟩) ?_
  exact x_fTold_l hw hN hI hVG ha hz hTO _ 0 (Int.self_le_toNat _) (by omega) (by rw [Int.sub_zero]; rfl)
theorem x_fip_i {d N k z : Nat} {h : eHp} {X : eXs} {G O Q : eGd} {ya yz : Int} {Ks : Nat → eGd} {V : eVs} {S : Int × Int × Int} {T : eTx} (hw : cW h X G O Q ya yz Ks V S T) {P : eR → Prop} (hN : 75 ≤ N) {c : Int} (hI : gI c G) (hVG : gVG V G) (ha : 0 ≤ ya ∧ ya < 8) (hz : 0 ≤ yz ∧ yz ≤ 8) (hTO : gTO T) {p m t y : Int} {L : List (Int × Int)} {R : Option (Int × Int)} (hm : 0 ≤ m ∧ m ≤ 40) (ht : 1 ≤ t ∧ t ≤ 6) (hy : i32 y) (hfd : ∀ x h2, R = some x → gS h2 56 (p, x.1, x.2) → (∀ i, i ≠ 56 → h2 i = h i) → P (.inl (some (vI 1)), N, h2, k, z)) : ∀ (m9 : Nat) (b l : Int), m - t + 1 - l ≤ m9 → 0 ≤ l ∧ (l ≤ m - t + 1 ∨ l = 0) → 0 ≤ b ∧ b ≤ y → ((lL (gDig G) m t l (m - t + 1 - l).toNat).map (fun l => (t, l)) ++ L)[(y - b).toNat]? = R → (∀ (b : Int), 0 ≤ b ∧ b ≤ y → L[(y - b).toNat]? = R → eWp eOx (eEv (d + 4)) eM_X6_findInPit (78, [(0, .ref 0), (1, vI p), (2, vI y), (3, vI m), (4, vI b), (5, vI t)], [], N, h, k, z) P) → eWp eOx (eEv (d + 4)) eM_X6_findInPit (25, [(0, .ref 0), (1, vI p), (2, vI y), (3, vI m), (4, vI b), (5, vI t), (6, vI l)], [], N, h, k, z) P := by
  intro m9
  induction m9 with
  | zero =>
    intro b l hm9 q0 q1 q2 kk
    have hG := hI.1
    have hG9 := hG
    obtain ⟨g1, g2, g3, g4⟩ := hG9
    have hV := hVG.1.1
    have hVD := hVG.1
    have hy9 := hy
    unfold i32 at hy9
    refine eW_iload 27 rfl rfl rfl ?_
    refine eW_iload_n 28 rfl rfl rfl ?_
    refine eW_iload 30 rfl rfl rfl ?_
    refine eW_isub 31 rfl rfl ?_
    refine eW_icmp_gt 34 rfl rfl (by unfold i32; omega) (by unfold i32; omega) (fun c1 => ?_) (fun c1 => ?_)
    · refine eW_re [(0, .ref 0), (1, vI p), (2, vI y), (3, vI m), (4, vI b), (5, vI t)] rfl rfl (List.forall_mem_cons.mpr ⟨rfl, List.forall_mem_cons.mpr ⟨rfl, List.forall_mem_cons.mpr ⟨rfl, List.forall_mem_cons.mpr ⟨rfl, List.forall_mem_cons.mpr ⟨rfl, List.forall_mem_cons.mpr ⟨rfl, fun _ h => absurd h List.not_mem_nil⟩⟩⟩⟩⟩⟩) (List.forall_mem_cons.mpr ⟨Or.inl rfl, List.forall_mem_cons.mpr ⟨Or.inl rfl, List.forall_mem_cons.mpr ⟨Or.inl rfl, List.forall_mem_cons.mpr ⟨Or.inl rfl, List.forall_mem_cons.mpr ⟨Or.inl rfl, List.forall_mem_cons.mpr ⟨Or.inl rfl, List.forall_mem_cons.mpr ⟨Or.inr ⟨_, rfl⟩, fun _ h => absurd h List.not_mem_nil⟩⟩⟩⟩⟩⟩⟩) ?_
      refine kk b q1 ?_
      rw [← q2, show (m - t + 1 - l).toNat = 0 by omega]; rfl
    · refine eW_aload_n 35 rfl rfl rfl ?_
      refine eW_getfield 38 rfl rfl (Nat.ble_eq_true_of_le (by omega)) rfl hw.1 rfl ⟨rfl, fun _ h9 => nomatch h9⟩ ?_
      refine eW_iload_n 39 rfl rfl rfl ?_
      refine eW_iload 41 rfl rfl rfl ?_
      refine eW_iload 43 rfl rfl rfl ?_
      have hb := eB01_c (gLets (gDig G) m t l)
      refine eW_callV 46 [.ref 1, vI m, vI t, vI l] [] [vI (eB01 (gLets (gDig G) m t l))] rfl rfl rfl rfl (Nat.ble_eq_true_of_le (by omega)) hw.2.1.1 rfl rfl rfl (g_lets (d := d + 2) hw.2.1 hG (by omega) (by omega) (by unfold i32; omega) (by unfold i32; omega) (by unfold i32; omega) (by unfold i32; omega)) rfl rfl ?_
      refine eW_if_eq 49 rfl rfl (by unfold i32; omega) (fun c2 => ?_) (fun c2 => ?_)
      · refine eW_iinc 75 rfl rfl [(6, vI (l + 1)), (0, .ref 0), (1, vI p), (2, vI y), (3, vI m), (4, vI b), (5, vI t)] rfl rfl rfl ?_
        refine eW_goto rfl ?_
        refine eW_re [(0, .ref 0), (1, vI p), (2, vI y), (3, vI m), (4, vI b), (5, vI t), (6, vI (l + 1))] rfl rfl (List.forall_mem_cons.mpr ⟨rfl, List.forall_mem_cons.mpr ⟨rfl, List.forall_mem_cons.mpr ⟨rfl, List.forall_mem_cons.mpr ⟨rfl, List.forall_mem_cons.mpr ⟨rfl, List.forall_mem_cons.mpr ⟨rfl, List.forall_mem_cons.mpr ⟨rfl, fun _ h => absurd h List.not_mem_nil⟩⟩⟩⟩⟩⟩⟩) (List.forall_mem_cons.mpr ⟨Or.inl rfl, List.forall_mem_cons.mpr ⟨Or.inl rfl, List.forall_mem_cons.mpr ⟨Or.inl rfl, List.forall_mem_cons.mpr ⟨Or.inl rfl, List.forall_mem_cons.mpr ⟨Or.inl rfl, List.forall_mem_cons.mpr ⟨Or.inl rfl, List.forall_mem_cons.mpr ⟨Or.inl rfl, fun _ h => absurd h List.not_mem_nil⟩⟩⟩⟩⟩⟩⟩) ?_
        exact absurd hm9 (by omega)
      · refine eW_iload 51 rfl rfl rfl ?_
        refine eW_iload_n 52 rfl rfl rfl ?_
        refine eW_icmp_ne 55 rfl rfl (by unfold i32; omega) (by unfold i32; omega) (fun c3 => ?_) (fun c3 => ?_)
        · refine eW_iinc 72 rfl rfl [(4, vI (b + 1)), (0, .ref 0), (1, vI p), (2, vI y), (3, vI m), (5, vI t), (6, vI l)] rfl rfl rfl ?_
          refine eW_iinc 75 rfl rfl [(6, vI (l + 1)), (4, vI (b + 1)), (0, .ref 0), (1, vI p), (2, vI y), (3, vI m), (5, vI t)] rfl rfl rfl ?_
          refine eW_goto rfl ?_
          refine eW_re [(0, .ref 0), (1, vI p), (2, vI y), (3, vI m), (4, vI (b + 1)), (5, vI t), (6, vI (l + 1))] rfl rfl (List.forall_mem_cons.mpr ⟨rfl, List.forall_mem_cons.mpr ⟨rfl, List.forall_mem_cons.mpr ⟨rfl, List.forall_mem_cons.mpr ⟨rfl, List.forall_mem_cons.mpr ⟨rfl, List.forall_mem_cons.mpr ⟨rfl, List.forall_mem_cons.mpr ⟨rfl, fun _ h => absurd h List.not_mem_nil⟩⟩⟩⟩⟩⟩⟩) (List.forall_mem_cons.mpr ⟨Or.inl rfl, List.forall_mem_cons.mpr ⟨Or.inl rfl, List.forall_mem_cons.mpr ⟨Or.inl rfl, List.forall_mem_cons.mpr ⟨Or.inl rfl, List.forall_mem_cons.mpr ⟨Or.inl rfl, List.forall_mem_cons.mpr ⟨Or.inl rfl, List.forall_mem_cons.mpr ⟨Or.inl rfl, fun _ h => absurd h List.not_mem_nil⟩⟩⟩⟩⟩⟩⟩) ?_
          exact absurd hm9 (by omega)
        · refine eW_aload_n 56 rfl rfl rfl ?_
          refine eW_getfield 59 rfl rfl (Nat.ble_eq_true_of_le (by omega)) rfl hw.1 rfl ⟨rfl, fun _ h9 => nomatch h9⟩ ?_
          refine eW_iload_n 60 rfl rfl rfl ?_
          refine eW_iload 62 rfl rfl rfl ?_
          refine eW_iload 64 rfl rfl rfl ?_
          refine eW_callVH 67 [.ref 56, vI p, vI t, vI l] [] [] rfl rfl rfl rfl (Nat.ble_eq_true_of_le (by omega)) hw.2.2.2.2.2.2.1 rfl rfl rfl (s_set (d := d + 3) hw.2.2.2.2.2.2.1 (by omega)) rfl rfl ?_
          intro h4 fh4
          refine eW_iconst 68 rfl rfl ?_
          refine eW_ret_i rfl rfl (Or.inr (Or.inl ⟨rfl, rfl⟩)) ?_
          have hl9 : gLets (gDig G) m t l = true := by rcases hb with e | e <;> first | exact e.1 | exact absurd e.2 (by omega)
          refine hfd (t, l) _ ?_ fh4.1 fh4.2
          rw [← q2, show (m - t + 1 - l).toNat = (m - t + 1 - (l + 1)).toNat + 1 by omega, lL_t hl9, List.map_cons, List.cons_append, show (y - b).toNat = 0 by omega]; rfl
  | succ m9 ih =>
    intro b l hm9 q0 q1 q2 kk
    have hG := hI.1
    have hG9 := hG
    obtain ⟨g1, g2, g3, g4⟩ := hG9
    have hV := hVG.1.1
    have hVD := hVG.1
    have hy9 := hy
    unfold i32 at hy9
    refine eW_iload 27 rfl rfl rfl ?_
    refine eW_iload_n 28 rfl rfl rfl ?_
    refine eW_iload 30 rfl rfl rfl ?_
    refine eW_isub 31 rfl rfl ?_
    refine eW_icmp_gt 34 rfl rfl (by unfold i32; omega) (by unfold i32; omega) (fun c1 => ?_) (fun c1 => ?_)
    · refine eW_re [(0, .ref 0), (1, vI p), (2, vI y), (3, vI m), (4, vI b), (5, vI t)] rfl rfl (List.forall_mem_cons.mpr ⟨rfl, List.forall_mem_cons.mpr ⟨rfl, List.forall_mem_cons.mpr ⟨rfl, List.forall_mem_cons.mpr ⟨rfl, List.forall_mem_cons.mpr ⟨rfl, List.forall_mem_cons.mpr ⟨rfl, fun _ h => absurd h List.not_mem_nil⟩⟩⟩⟩⟩⟩) (List.forall_mem_cons.mpr ⟨Or.inl rfl, List.forall_mem_cons.mpr ⟨Or.inl rfl, List.forall_mem_cons.mpr ⟨Or.inl rfl, List.forall_mem_cons.mpr ⟨Or.inl rfl, List.forall_mem_cons.mpr ⟨Or.inl rfl, List.forall_mem_cons.mpr ⟨Or.inl rfl, List.forall_mem_cons.mpr ⟨Or.inr ⟨_, rfl⟩, fun _ h => absurd h List.not_mem_nil⟩⟩⟩⟩⟩⟩⟩) ?_
      refine kk b q1 ?_
      rw [← q2, show (m - t + 1 - l).toNat = 0 by omega]; rfl
    · refine eW_aload_n 35 rfl rfl rfl ?_
      refine eW_getfield 38 rfl rfl (Nat.ble_eq_true_of_le (by omega)) rfl hw.1 rfl ⟨rfl, fun _ h9 => nomatch h9⟩ ?_
      refine eW_iload_n 39 rfl rfl rfl ?_
      refine eW_iload 41 rfl rfl rfl ?_
      refine eW_iload 43 rfl rfl rfl ?_
      have hb := eB01_c (gLets (gDig G) m t l)
      refine eW_callV 46 [.ref 1, vI m, vI t, vI l] [] [vI (eB01 (gLets (gDig G) m t l))] rfl rfl rfl rfl (Nat.ble_eq_true_of_le (by omega)) hw.2.1.1 rfl rfl rfl (g_lets (d := d + 2) hw.2.1 hG (by omega) (by omega) (by unfold i32; omega) (by unfold i32; omega) (by unfold i32; omega) (by unfold i32; omega)) rfl rfl ?_
      refine eW_if_eq 49 rfl rfl (by unfold i32; omega) (fun c2 => ?_) (fun c2 => ?_)
      · refine eW_iinc 75 rfl rfl [(6, vI (l + 1)), (0, .ref 0), (1, vI p), (2, vI y), (3, vI m), (4, vI b), (5, vI t)] rfl rfl rfl ?_
        refine eW_goto rfl ?_
        refine eW_re [(0, .ref 0), (1, vI p), (2, vI y), (3, vI m), (4, vI b), (5, vI t), (6, vI (l + 1))] rfl rfl (List.forall_mem_cons.mpr ⟨rfl, List.forall_mem_cons.mpr ⟨rfl, List.forall_mem_cons.mpr ⟨rfl, List.forall_mem_cons.mpr ⟨rfl, List.forall_mem_cons.mpr ⟨rfl, List.forall_mem_cons.mpr ⟨rfl, List.forall_mem_cons.mpr ⟨rfl, fun _ h => absurd h List.not_mem_nil⟩⟩⟩⟩⟩⟩⟩) (List.forall_mem_cons.mpr ⟨Or.inl rfl, List.forall_mem_cons.mpr ⟨Or.inl rfl, List.forall_mem_cons.mpr ⟨Or.inl rfl, List.forall_mem_cons.mpr ⟨Or.inl rfl, List.forall_mem_cons.mpr ⟨Or.inl rfl, List.forall_mem_cons.mpr ⟨Or.inl rfl, List.forall_mem_cons.mpr ⟨Or.inl rfl, fun _ h => absurd h List.not_mem_nil⟩⟩⟩⟩⟩⟩⟩) ?_
        refine ih _ (l + 1) (by omega) (by omega) (by omega) ?_ kk
        have hl9 : gLets (gDig G) m t l = false := by rcases hb with e | e <;> first | exact e.1 | exact absurd e.2 (by omega)
        rw [← q2, show (m - t + 1 - l).toNat = (m - t + 1 - (l + 1)).toNat + 1 by omega, lL_f hl9]
      · refine eW_iload 51 rfl rfl rfl ?_
        refine eW_iload_n 52 rfl rfl rfl ?_
        refine eW_icmp_ne 55 rfl rfl (by unfold i32; omega) (by unfold i32; omega) (fun c3 => ?_) (fun c3 => ?_)
        · refine eW_iinc 72 rfl rfl [(4, vI (b + 1)), (0, .ref 0), (1, vI p), (2, vI y), (3, vI m), (5, vI t), (6, vI l)] rfl rfl rfl ?_
          refine eW_iinc 75 rfl rfl [(6, vI (l + 1)), (4, vI (b + 1)), (0, .ref 0), (1, vI p), (2, vI y), (3, vI m), (5, vI t)] rfl rfl rfl ?_
          refine eW_goto rfl ?_
          refine eW_re [(0, .ref 0), (1, vI p), (2, vI y), (3, vI m), (4, vI (b + 1)), (5, vI t), (6, vI (l + 1))] rfl rfl (List.forall_mem_cons.mpr ⟨rfl, List.forall_mem_cons.mpr ⟨rfl, List.forall_mem_cons.mpr ⟨rfl, List.forall_mem_cons.mpr ⟨rfl, List.forall_mem_cons.mpr ⟨rfl, List.forall_mem_cons.mpr ⟨rfl, List.forall_mem_cons.mpr ⟨rfl, fun _ h => absurd h List.not_mem_nil⟩⟩⟩⟩⟩⟩⟩) (List.forall_mem_cons.mpr ⟨Or.inl rfl, List.forall_mem_cons.mpr ⟨Or.inl rfl, List.forall_mem_cons.mpr ⟨Or.inl rfl, List.forall_mem_cons.mpr ⟨Or.inl rfl, List.forall_mem_cons.mpr ⟨Or.inl rfl, List.forall_mem_cons.mpr ⟨Or.inl rfl, List.forall_mem_cons.mpr ⟨Or.inl rfl, fun _ h => absurd h List.not_mem_nil⟩⟩⟩⟩⟩⟩⟩) ?_
          refine ih _ (l + 1) (by omega) (by omega) (by omega) ?_ kk
          have hl9 : gLets (gDig G) m t l = true := by rcases hb with e | e <;> first | exact e.1 | exact absurd e.2 (by omega)
          rw [← q2, show (m - t + 1 - l).toNat = (m - t + 1 - (l + 1)).toNat + 1 by omega, lL_t hl9, List.map_cons, List.cons_append, show (y - b).toNat = (y - (b + 1)).toNat + 1 by omega, List.getElem?_cons_succ]
        · refine eW_aload_n 56 rfl rfl rfl ?_
          refine eW_getfield 59 rfl rfl (Nat.ble_eq_true_of_le (by omega)) rfl hw.1 rfl ⟨rfl, fun _ h9 => nomatch h9⟩ ?_
          refine eW_iload_n 60 rfl rfl rfl ?_
          refine eW_iload 62 rfl rfl rfl ?_
          refine eW_iload 64 rfl rfl rfl ?_
          refine eW_callVH 67 [.ref 56, vI p, vI t, vI l] [] [] rfl rfl rfl rfl (Nat.ble_eq_true_of_le (by omega)) hw.2.2.2.2.2.2.1 rfl rfl rfl (s_set (d := d + 3) hw.2.2.2.2.2.2.1 (by omega)) rfl rfl ?_
          intro h4 fh4
          refine eW_iconst 68 rfl rfl ?_
          refine eW_ret_i rfl rfl (Or.inr (Or.inl ⟨rfl, rfl⟩)) ?_
          have hl9 : gLets (gDig G) m t l = true := by rcases hb with e | e <;> first | exact e.1 | exact absurd e.2 (by omega)
          refine hfd (t, l) _ ?_ fh4.1 fh4.2
          rw [← q2, show (m - t + 1 - l).toNat = (m - t + 1 - (l + 1)).toNat + 1 by omega, lL_t hl9, List.map_cons, List.cons_append, show (y - b).toNat = 0 by omega]; rfl
theorem x_fip_o {d N k z : Nat} {h : eHp} {X : eXs} {G O Q : eGd} {ya yz : Int} {Ks : Nat → eGd} {V : eVs} {S : Int × Int × Int} {T : eTx} (hw : cW h X G O Q ya yz Ks V S T) {P : eR → Prop} (hN : 75 ≤ N) {c : Int} (hI : gI c G) (hVG : gVG V G) (ha : 0 ≤ ya ∧ ya < 8) (hz : 0 ≤ yz ∧ yz ≤ 8) (hTO : gTO T) {p m y : Int} {R : Option (Int × Int)} (hm : 0 ≤ m ∧ m ≤ 40) (hy : i32 y) (hfd : ∀ x h2, R = some x → gS h2 56 (p, x.1, x.2) → (∀ i, i ≠ 56 → h2 i = h i) → P (.inl (some (vI 1)), N, h2, k, z)) : ∀ (m9 : Nat) (b t : Int), 7 - t ≤ m9 → 1 ≤ t ∧ t ≤ 7 → 0 ≤ b ∧ b ≤ y → (lT (gDig G) m t (7 - t).toNat)[(y - b).toNat]? = R → (R = none → eWp eOx (eEv (d + 4)) eM_X6_findInPit (84, [(0, .ref 0), (1, vI p), (2, vI y), (3, vI m)], [], N, h, k, z) P) → eWp eOx (eEv (d + 4)) eM_X6_findInPit (15, [(0, .ref 0), (1, vI p), (2, vI y), (3, vI m), (4, vI b), (5, vI t)], [], N, h, k, z) P := by
  intro m9
  induction m9 with
  | zero =>
    intro b t hm9 q0 q1 q2 kk
    have hG := hI.1
    have hG9 := hG
    obtain ⟨g1, g2, g3, g4⟩ := hG9
    have hV := hVG.1.1
    have hVD := hVG.1
    refine eW_iload 17 rfl rfl rfl ?_
    refine eW_bipush 19 rfl rfl 6 rfl ?_
    refine eW_icmp_gt 22 rfl rfl (by unfold i32; omega) (by unfold i32; omega) (fun c1 => ?_) (fun c1 => ?_)
    · refine eW_re [(0, .ref 0), (1, vI p), (2, vI y), (3, vI m)] rfl rfl (List.forall_mem_cons.mpr ⟨rfl, List.forall_mem_cons.mpr ⟨rfl, List.forall_mem_cons.mpr ⟨rfl, List.forall_mem_cons.mpr ⟨rfl, fun _ h => absurd h List.not_mem_nil⟩⟩⟩⟩) (List.forall_mem_cons.mpr ⟨Or.inl rfl, List.forall_mem_cons.mpr ⟨Or.inl rfl, List.forall_mem_cons.mpr ⟨Or.inl rfl, List.forall_mem_cons.mpr ⟨Or.inl rfl, List.forall_mem_cons.mpr ⟨Or.inr ⟨_, rfl⟩, List.forall_mem_cons.mpr ⟨Or.inr ⟨_, rfl⟩, fun _ h => absurd h List.not_mem_nil⟩⟩⟩⟩⟩⟩) ?_
      refine kk ?_
      rw [← q2, show (7 - t).toNat = 0 by omega]; rfl
    · refine eW_iconst 23 rfl rfl ?_
      refine eW_istore 25 rfl rfl [(6, vI 0), (0, .ref 0), (1, vI p), (2, vI y), (3, vI m), (4, vI b), (5, vI t)] rfl rfl ?_
      refine eW_re [(0, .ref 0), (1, vI p), (2, vI y), (3, vI m), (4, vI b), (5, vI t), (6, vI 0)] rfl rfl (List.forall_mem_cons.mpr ⟨rfl, List.forall_mem_cons.mpr ⟨rfl, List.forall_mem_cons.mpr ⟨rfl, List.forall_mem_cons.mpr ⟨rfl, List.forall_mem_cons.mpr ⟨rfl, List.forall_mem_cons.mpr ⟨rfl, List.forall_mem_cons.mpr ⟨rfl, fun _ h => absurd h List.not_mem_nil⟩⟩⟩⟩⟩⟩⟩) (List.forall_mem_cons.mpr ⟨Or.inl rfl, List.forall_mem_cons.mpr ⟨Or.inl rfl, List.forall_mem_cons.mpr ⟨Or.inl rfl, List.forall_mem_cons.mpr ⟨Or.inl rfl, List.forall_mem_cons.mpr ⟨Or.inl rfl, List.forall_mem_cons.mpr ⟨Or.inl rfl, List.forall_mem_cons.mpr ⟨Or.inl rfl, fun _ h => absurd h List.not_mem_nil⟩⟩⟩⟩⟩⟩⟩) ?_
      refine x_fip_i hw hN hI hVG ha hz hTO (L := lT (gDig G) m (t + 1) (7 - (t + 1)).toNat) (R := R) hm (by omega) hy hfd _ b 0 (Int.self_le_toNat _) (by omega) q1 (by rw [← q2, lT_cons (t := t) (by omega), Int.sub_zero]) (fun b r1 r2 => ?_)
      refine eW_iinc 81 rfl rfl [(5, vI (t + 1)), (0, .ref 0), (1, vI p), (2, vI y), (3, vI m), (4, vI b)] rfl rfl rfl ?_
      refine eW_goto rfl ?_
      refine eW_re [(0, .ref 0), (1, vI p), (2, vI y), (3, vI m), (4, vI b), (5, vI (t + 1))] rfl rfl (List.forall_mem_cons.mpr ⟨rfl, List.forall_mem_cons.mpr ⟨rfl, List.forall_mem_cons.mpr ⟨rfl, List.forall_mem_cons.mpr ⟨rfl, List.forall_mem_cons.mpr ⟨rfl, List.forall_mem_cons.mpr ⟨rfl, fun _ h => absurd h List.not_mem_nil⟩⟩⟩⟩⟩⟩) (List.forall_mem_cons.mpr ⟨Or.inl rfl, List.forall_mem_cons.mpr ⟨Or.inl rfl, List.forall_mem_cons.mpr ⟨Or.inl rfl, List.forall_mem_cons.mpr ⟨Or.inl rfl, List.forall_mem_cons.mpr ⟨Or.inl rfl, List.forall_mem_cons.mpr ⟨Or.inl rfl, fun _ h => absurd h List.not_mem_nil⟩⟩⟩⟩⟩⟩) ?_
      exact absurd hm9 (by omega)
  | succ m9 ih =>
    intro b t hm9 q0 q1 q2 kk
    have hG := hI.1
    have hG9 := hG
    obtain ⟨g1, g2, g3, g4⟩ := hG9
    have hV := hVG.1.1
    have hVD := hVG.1
    refine eW_iload 17 rfl rfl rfl ?_
    refine eW_bipush 19 rfl rfl 6 rfl ?_
    refine eW_icmp_gt 22 rfl rfl (by unfold i32; omega) (by unfold i32; omega) (fun c1 => ?_) (fun c1 => ?_)
    · refine eW_re [(0, .ref 0), (1, vI p), (2, vI y), (3, vI m)] rfl rfl (List.forall_mem_cons.mpr ⟨rfl, List.forall_mem_cons.mpr ⟨rfl, List.forall_mem_cons.mpr ⟨rfl, List.forall_mem_cons.mpr ⟨rfl, fun _ h => absurd h List.not_mem_nil⟩⟩⟩⟩) (List.forall_mem_cons.mpr ⟨Or.inl rfl, List.forall_mem_cons.mpr ⟨Or.inl rfl, List.forall_mem_cons.mpr ⟨Or.inl rfl, List.forall_mem_cons.mpr ⟨Or.inl rfl, List.forall_mem_cons.mpr ⟨Or.inr ⟨_, rfl⟩, List.forall_mem_cons.mpr ⟨Or.inr ⟨_, rfl⟩, fun _ h => absurd h List.not_mem_nil⟩⟩⟩⟩⟩⟩) ?_
      refine kk ?_
      rw [← q2, show (7 - t).toNat = 0 by omega]; rfl
    · refine eW_iconst 23 rfl rfl ?_
      refine eW_istore 25 rfl rfl [(6, vI 0), (0, .ref 0), (1, vI p), (2, vI y), (3, vI m), (4, vI b), (5, vI t)] rfl rfl ?_
      refine eW_re [(0, .ref 0), (1, vI p), (2, vI y), (3, vI m), (4, vI b), (5, vI t), (6, vI 0)] rfl rfl (List.forall_mem_cons.mpr ⟨rfl, List.forall_mem_cons.mpr ⟨rfl, List.forall_mem_cons.mpr ⟨rfl, List.forall_mem_cons.mpr ⟨rfl, List.forall_mem_cons.mpr ⟨rfl, List.forall_mem_cons.mpr ⟨rfl, List.forall_mem_cons.mpr ⟨rfl, fun _ h => absurd h List.not_mem_nil⟩⟩⟩⟩⟩⟩⟩) (List.forall_mem_cons.mpr ⟨Or.inl rfl, List.forall_mem_cons.mpr ⟨Or.inl rfl, List.forall_mem_cons.mpr ⟨Or.inl rfl, List.forall_mem_cons.mpr ⟨Or.inl rfl, List.forall_mem_cons.mpr ⟨Or.inl rfl, List.forall_mem_cons.mpr ⟨Or.inl rfl, List.forall_mem_cons.mpr ⟨Or.inl rfl, fun _ h => absurd h List.not_mem_nil⟩⟩⟩⟩⟩⟩⟩) ?_
      refine x_fip_i hw hN hI hVG ha hz hTO (L := lT (gDig G) m (t + 1) (7 - (t + 1)).toNat) (R := R) hm (by omega) hy hfd _ b 0 (Int.self_le_toNat _) (by omega) q1 (by rw [← q2, lT_cons (t := t) (by omega), Int.sub_zero]) (fun b r1 r2 => ?_)
      refine eW_iinc 81 rfl rfl [(5, vI (t + 1)), (0, .ref 0), (1, vI p), (2, vI y), (3, vI m), (4, vI b)] rfl rfl rfl ?_
      refine eW_goto rfl ?_
      refine eW_re [(0, .ref 0), (1, vI p), (2, vI y), (3, vI m), (4, vI b), (5, vI (t + 1))] rfl rfl (List.forall_mem_cons.mpr ⟨rfl, List.forall_mem_cons.mpr ⟨rfl, List.forall_mem_cons.mpr ⟨rfl, List.forall_mem_cons.mpr ⟨rfl, List.forall_mem_cons.mpr ⟨rfl, List.forall_mem_cons.mpr ⟨rfl, fun _ h => absurd h List.not_mem_nil⟩⟩⟩⟩⟩⟩) (List.forall_mem_cons.mpr ⟨Or.inl rfl, List.forall_mem_cons.mpr ⟨Or.inl rfl, List.forall_mem_cons.mpr ⟨Or.inl rfl, List.forall_mem_cons.mpr ⟨Or.inl rfl, List.forall_mem_cons.mpr ⟨Or.inl rfl, List.forall_mem_cons.mpr ⟨Or.inl rfl, fun _ h => absurd h List.not_mem_nil⟩⟩⟩⟩⟩⟩) ?_
      exact ih _ (t + 1) (by omega) (by omega) r1 r2 kk
theorem x_findInPit {d N : Nat} {h : eHp} {X : eXs} {G O Q : eGd} {ya yz : Int} {Ks : Nat → eGd} {V : eVs} {S : Int × Int × Int} {T : eTx} (hw : cW h X G O Q ya yz Ks V S T) (hN : 75 ≤ N) {c : Int} (hI : gI c G) (hVG : gVG V G) (ha : 0 ≤ ya ∧ ya < 8) (hz : 0 ≤ yz ∧ yz ≤ 8) (hTO : gTO T) {p y : Int} (hp : i32 p) (hy : i32 y) (hy0 : 0 ≤ y) : eSp (d + 5) eM_X6_findInPit [.ref 0, vI p, vI y] N h (eChg (some (vI (gYes (lT (gDig G) (gIn G p) 1 6)[y.toNat]?))) N (cFd h ((lT (gDig G) (gIn G p) 1 6)[y.toNat]?.map (fun q => (p, q))))) := by
  refine eSp_of [(0, .ref 0), (1, vI p), (2, vI y)] rfl rfl ?_
  have hG := hI.1
  have hG9 := hG
  obtain ⟨g1, g2, g3, g4⟩ := hG9
  have hV := hVG.1.1
  have hVD := hVG.1
  have hm := gIn_le hG p
  unfold i32 at hp
  refine eW_aload_n 1 rfl rfl rfl ?_
  refine eW_getfield 4 rfl rfl (Nat.ble_eq_true_of_le (by omega)) rfl hw.1 rfl ⟨rfl, fun _ h9 => nomatch h9⟩ ?_
  refine eW_iload_n 5 rfl rfl rfl ?_
  refine eW_callV 8 [.ref 1, vI p] [] [vI (gIn G p)] rfl rfl rfl rfl (Nat.ble_eq_true_of_le (by omega)) hw.2.1.1 rfl rfl rfl (g_marblesIn (d := d + 2) hw.2.1 hG (by omega) (by unfold i32; omega)) rfl rfl ?_
  refine eW_istore_n 9 rfl rfl [(3, vI (gIn G p)), (0, .ref 0), (1, vI p), (2, vI y)] rfl rfl ?_
  refine eW_iconst 10 rfl rfl ?_
  refine eW_istore 12 rfl rfl [(4, vI 0), (3, vI (gIn G p)), (0, .ref 0), (1, vI p), (2, vI y)] rfl rfl ?_
  refine eW_iconst 13 rfl rfl ?_
  refine eW_istore 15 rfl rfl [(5, vI 1), (4, vI 0), (3, vI (gIn G p)), (0, .ref 0), (1, vI p), (2, vI y)] rfl rfl ?_
  refine eW_re [(0, .ref 0), (1, vI p), (2, vI y), (3, vI (gIn G p)), (4, vI 0), (5, vI 1)] rfl rfl (List.forall_mem_cons.mpr ⟨rfl, List.forall_mem_cons.mpr ⟨rfl, List.forall_mem_cons.mpr ⟨rfl, List.forall_mem_cons.mpr ⟨rfl, List.forall_mem_cons.mpr ⟨rfl, List.forall_mem_cons.mpr ⟨rfl, fun _ h => absurd h List.not_mem_nil⟩⟩⟩⟩⟩⟩) (List.forall_mem_cons.mpr ⟨Or.inl rfl, List.forall_mem_cons.mpr ⟨Or.inl rfl, List.forall_mem_cons.mpr ⟨Or.inl rfl, List.forall_mem_cons.mpr ⟨Or.inl rfl, List.forall_mem_cons.mpr ⟨Or.inl rfl, List.forall_mem_cons.mpr ⟨Or.inl rfl, fun _ h => absurd h List.not_mem_nil⟩⟩⟩⟩⟩⟩) ?_
  refine x_fip_o hw hN hI hVG ha hz hTO (R := (lT (gDig G) (gIn G p) 1 6)[y.toNat]?) hm hy (fun x h2 e1 e2 e3 => ⟨h2, by rw [e1]; rfl, by rw [e1]; exact ⟨e2, e3⟩⟩) _ 0 1 (Int.self_le_toNat _) (by omega) (by omega) (by rw [Int.sub_zero]; rfl) (fun r9 => ?_)
  refine eW_iconst 85 rfl rfl ?_
  refine eW_ret_i rfl rfl (Or.inr (Or.inl ⟨rfl, rfl⟩)) ?_
  exact ⟨h, by rw [r9]; rfl, by rw [r9]; rfl⟩
theorem lP_at {G : eGd} {p y : Int} (h : p < G.2.2.2.1) (h0 : 0 ≤ p) (hy : 0 ≤ y) : (lP G p (G.2.2.2.1 - p).toNat)[y.toNat]? = if y < gWays (gDig G) (gIn G p) then (lT (gDig G) (gIn G p) 1 6)[y.toNat]?.map (fun q => (p, q)) else (lP G (p + 1) (G.2.2.2.1 - (p + 1)).toNat)[(y - gWays (gDig G) (gIn G p)).toNat]? := by
  have hl := lT_ways (D := gDig G) (m := G.1 p.toNat)
  rw [lP_cons h, gIn_t h0 h, List.getElem?_append, List.length_map]
  by_cases hc : y < gWays (gDig G) (G.1 p.toNat)
  · rw [if_pos hc, if_pos (by omega), List.getElem?_map]
  · rw [if_neg hc, if_neg (by omega)]
    congr 1; omega
theorem gYes_map {α β : Type} {r : Option α} {f : α → β} : gYes (r.map f) = gYes r := by cases r <;> rfl
theorem x_fAt_l {d N : Nat} {h : eHp} {X : eXs} {G O Q : eGd} {ya yz : Int} {Ks : Nat → eGd} {V : eVs} {S : Int × Int × Int} {T : eTx} (hw : cW h X G O Q ya yz Ks V S T) (hN : 75 ≤ N) {c : Int} (hI : gI c G) (hVG : gVG V G) (ha : 0 ≤ ya ∧ ya < 8) (hz : 0 ≤ yz ∧ yz ≤ 8) (hTO : gTO T) {y : Int} (hy : i32 y) : ∀ (m9 : Nat) (b i : Int), G.2.2.2.1 - i ≤ m9 → 0 ≤ i ∧ i ≤ G.2.2.2.1 → ((b ≤ y ∧ (lP G i (G.2.2.2.1 - i).toNat)[(y - b).toNat]? = gAt G y) ∨ (y < 0 ∧ 0 ≤ b ∧ gAt G y = none)) → 0 ≤ b ∧ b ≤ 240 * i → eWp eOx (eEv (d + 5)) eM_X6_findAt (4, [(0, .ref 0), (1, vI y), (2, vI b), (3, vI i)], [], N, h, 0, 0) (eChg (some (vI (gYes (gAt G y)))) N (cFd h (gAt G y))) := by
  intro m9
  induction m9 with
  | zero =>
    intro b i hm9 q0 q1 q2
    have hG := hI.1
    have hG9 := hG
    obtain ⟨g1, g2, g3, g4⟩ := hG9
    have hV := hVG.1.1
    have hVD := hVG.1
    have hy9 := hy
    unfold i32 at hy9
    refine eW_iload_n 5 rfl rfl rfl ?_
    refine eW_aload_n 6 rfl rfl rfl ?_
    refine eW_getfield 9 rfl rfl (Nat.ble_eq_true_of_le (by omega)) rfl hw.1 rfl ⟨rfl, fun _ h9 => nomatch h9⟩ ?_
    refine eW_callV 12 [.ref 1] [vI i] [vI G.2.2.2.1, vI i] rfl rfl rfl rfl (Nat.ble_eq_true_of_le (by omega)) hw.2.1.1 rfl rfl rfl (g_pits (d := d + 4) hw.2.1 hG (by omega)) rfl rfl ?_
    refine eW_icmp_ge 15 rfl rfl (by unfold i32; omega) (by unfold i32; omega) (fun c1 => ?_) (fun c1 => ?_)
    · refine eW_iconst 59 rfl rfl ?_
      refine eW_ret_i rfl rfl (Or.inr (Or.inl ⟨rfl, rfl⟩)) ?_
      have hR : gAt G y = none := by
        rcases q1 with ⟨a1, a2⟩ | ⟨a1, a2, a3⟩
        · rw [← a2, show (G.2.2.2.1 - i).toNat = 0 by omega]; rfl
        · exact a3
      exact ⟨h, by rw [hR]; rfl, by rw [hR]; rfl⟩
    · refine eW_aload_n 16 rfl rfl rfl ?_
      refine eW_getfield 19 rfl rfl (Nat.ble_eq_true_of_le (by omega)) rfl hw.1 rfl ⟨rfl, fun _ h9 => nomatch h9⟩ ?_
      refine eW_iload_n 20 rfl rfl rfl ?_
      have hgw := gCntT_le (D := gDig G) (n := gIn G i) (gIn_le hG i).2 6
      have hge : gWays (gDig G) (gIn G i) = gCntT (gDig G) (gIn G i) 6 := rfl
      refine eW_callV 23 [.ref 1, vI i] [] [vI (gWays (gDig G) (gIn G i))] rfl rfl rfl rfl (Nat.ble_eq_true_of_le (by omega)) hw.2.1.1 rfl rfl rfl (g_scoopsOf (d := d + 2) hw.2.1 hG (by omega) (by unfold i32; omega)) rfl rfl ?_
      refine eW_istore 25 rfl rfl [(4, vI (gWays (gDig G) (gIn G i))), (0, .ref 0), (1, vI y), (2, vI b), (3, vI i)] rfl rfl ?_
      refine eW_iload_n 26 rfl rfl rfl ?_
      refine eW_iload_n 27 rfl rfl rfl ?_
      refine eW_icmp_lt 30 rfl rfl (by unfold i32; omega) (by unfold i32; omega) (fun c2 => ?_) (fun c2 => ?_)
      · refine eW_iload_n 48 rfl rfl rfl ?_
        refine eW_iload 50 rfl rfl rfl ?_
        refine eW_iadd 51 rfl rfl ?_
        refine eW_istore_n 52 rfl rfl [(2, vI (b + (gWays (gDig G) (gIn G i)))), (4, vI (gWays (gDig G) (gIn G i))), (0, .ref 0), (1, vI y), (3, vI i)] rfl rfl ?_
        refine eW_iinc 55 rfl rfl [(3, vI (i + 1)), (2, vI (b + (gWays (gDig G) (gIn G i)))), (4, vI (gWays (gDig G) (gIn G i))), (0, .ref 0), (1, vI y)] rfl rfl rfl ?_
        refine eW_goto rfl ?_
        refine eW_re [(0, .ref 0), (1, vI y), (2, vI (b + (gWays (gDig G) (gIn G i)))), (3, vI (i + 1))] rfl rfl (List.forall_mem_cons.mpr ⟨rfl, List.forall_mem_cons.mpr ⟨rfl, List.forall_mem_cons.mpr ⟨rfl, List.forall_mem_cons.mpr ⟨rfl, fun _ h => absurd h List.not_mem_nil⟩⟩⟩⟩) (List.forall_mem_cons.mpr ⟨Or.inl rfl, List.forall_mem_cons.mpr ⟨Or.inl rfl, List.forall_mem_cons.mpr ⟨Or.inr ⟨_, rfl⟩, List.forall_mem_cons.mpr ⟨Or.inl rfl, List.forall_mem_cons.mpr ⟨Or.inl rfl, fun _ h => absurd h List.not_mem_nil⟩⟩⟩⟩⟩) ?_
        exact absurd hm9 (by omega)
      · refine eW_iload_n 31 rfl rfl rfl ?_
        refine eW_iload_n 32 rfl rfl rfl ?_
        refine eW_iload 34 rfl rfl rfl ?_
        refine eW_iadd 35 rfl rfl ?_
        refine eW_icmp_ge 38 rfl rfl (by unfold i32; omega) (by unfold i32; omega) (fun c3 => ?_) (fun c3 => ?_)
        · refine eW_iload_n 48 rfl rfl rfl ?_
          refine eW_iload 50 rfl rfl rfl ?_
          refine eW_iadd 51 rfl rfl ?_
          refine eW_istore_n 52 rfl rfl [(2, vI (b + (gWays (gDig G) (gIn G i)))), (4, vI (gWays (gDig G) (gIn G i))), (0, .ref 0), (1, vI y), (3, vI i)] rfl rfl ?_
          refine eW_iinc 55 rfl rfl [(3, vI (i + 1)), (2, vI (b + (gWays (gDig G) (gIn G i)))), (4, vI (gWays (gDig G) (gIn G i))), (0, .ref 0), (1, vI y)] rfl rfl rfl ?_
          refine eW_goto rfl ?_
          refine eW_re [(0, .ref 0), (1, vI y), (2, vI (b + (gWays (gDig G) (gIn G i)))), (3, vI (i + 1))] rfl rfl (List.forall_mem_cons.mpr ⟨rfl, List.forall_mem_cons.mpr ⟨rfl, List.forall_mem_cons.mpr ⟨rfl, List.forall_mem_cons.mpr ⟨rfl, fun _ h => absurd h List.not_mem_nil⟩⟩⟩⟩) (List.forall_mem_cons.mpr ⟨Or.inl rfl, List.forall_mem_cons.mpr ⟨Or.inl rfl, List.forall_mem_cons.mpr ⟨Or.inr ⟨_, rfl⟩, List.forall_mem_cons.mpr ⟨Or.inl rfl, List.forall_mem_cons.mpr ⟨Or.inl rfl, fun _ h => absurd h List.not_mem_nil⟩⟩⟩⟩⟩) ?_
          exact absurd hm9 (by omega)
        · refine eW_aload_n 39 rfl rfl rfl ?_
          refine eW_iload_n 40 rfl rfl rfl ?_
          refine eW_iload_n 41 rfl rfl rfl ?_
          refine eW_iload_n 42 rfl rfl rfl ?_
          refine eW_isub 43 rfl rfl ?_
          refine eW_callVH 46 [.ref 0, vI i, vI (y - b)] [] [vI (gYes (lT (gDig G) (gIn G i) 1 6)[(y - b).toNat]?)] rfl rfl rfl rfl (Nat.ble_eq_true_of_le (by omega)) hw.1 rfl rfl rfl (x_findInPit (d := d + 0) hw hN hI hVG ha hz hTO (p := i) (y := y - b) (by unfold i32; omega) (by unfold i32; omega) (by omega)) rfl rfl ?_
          intro h4 fh4
          refine eW_ret_i rfl rfl (Or.inr (Or.inl ⟨rfl, (by rcases gYes_c (lT (gDig G) (gIn G i) 1 6)[(y - b).toNat]? with e | e <;> rw [e.1] <;> rfl)⟩)) ?_
          have hR : gAt G y = (lT (gDig G) (gIn G i) 1 6)[(y - b).toNat]?.map (fun q => (i, q)) := by
            rcases q1 with ⟨a1, a2⟩ | ⟨a1, a2, a3⟩
            · rw [← a2, lP_at (by omega) q0.1 (by omega), if_pos (by omega)]
            · exfalso; omega
          exact ⟨h4, by rw [hR, gYes_map], by rw [hR]; exact fh4⟩
  | succ m9 ih =>
    intro b i hm9 q0 q1 q2
    have hG := hI.1
    have hG9 := hG
    obtain ⟨g1, g2, g3, g4⟩ := hG9
    have hV := hVG.1.1
    have hVD := hVG.1
    have hy9 := hy
    unfold i32 at hy9
    refine eW_iload_n 5 rfl rfl rfl ?_
    refine eW_aload_n 6 rfl rfl rfl ?_
    refine eW_getfield 9 rfl rfl (Nat.ble_eq_true_of_le (by omega)) rfl hw.1 rfl ⟨rfl, fun _ h9 => nomatch h9⟩ ?_
    refine eW_callV 12 [.ref 1] [vI i] [vI G.2.2.2.1, vI i] rfl rfl rfl rfl (Nat.ble_eq_true_of_le (by omega)) hw.2.1.1 rfl rfl rfl (g_pits (d := d + 4) hw.2.1 hG (by omega)) rfl rfl ?_
    refine eW_icmp_ge 15 rfl rfl (by unfold i32; omega) (by unfold i32; omega) (fun c1 => ?_) (fun c1 => ?_)
    · refine eW_iconst 59 rfl rfl ?_
      refine eW_ret_i rfl rfl (Or.inr (Or.inl ⟨rfl, rfl⟩)) ?_
      have hR : gAt G y = none := by
        rcases q1 with ⟨a1, a2⟩ | ⟨a1, a2, a3⟩
        · rw [← a2, show (G.2.2.2.1 - i).toNat = 0 by omega]; rfl
        · exact a3
      exact ⟨h, by rw [hR]; rfl, by rw [hR]; rfl⟩
    · refine eW_aload_n 16 rfl rfl rfl ?_
      refine eW_getfield 19 rfl rfl (Nat.ble_eq_true_of_le (by omega)) rfl hw.1 rfl ⟨rfl, fun _ h9 => nomatch h9⟩ ?_
      refine eW_iload_n 20 rfl rfl rfl ?_
      have hgw := gCntT_le (D := gDig G) (n := gIn G i) (gIn_le hG i).2 6
      have hge : gWays (gDig G) (gIn G i) = gCntT (gDig G) (gIn G i) 6 := rfl
      refine eW_callV 23 [.ref 1, vI i] [] [vI (gWays (gDig G) (gIn G i))] rfl rfl rfl rfl (Nat.ble_eq_true_of_le (by omega)) hw.2.1.1 rfl rfl rfl (g_scoopsOf (d := d + 2) hw.2.1 hG (by omega) (by unfold i32; omega)) rfl rfl ?_
      refine eW_istore 25 rfl rfl [(4, vI (gWays (gDig G) (gIn G i))), (0, .ref 0), (1, vI y), (2, vI b), (3, vI i)] rfl rfl ?_
      refine eW_iload_n 26 rfl rfl rfl ?_
      refine eW_iload_n 27 rfl rfl rfl ?_
      refine eW_icmp_lt 30 rfl rfl (by unfold i32; omega) (by unfold i32; omega) (fun c2 => ?_) (fun c2 => ?_)
      · refine eW_iload_n 48 rfl rfl rfl ?_
        refine eW_iload 50 rfl rfl rfl ?_
        refine eW_iadd 51 rfl rfl ?_
        refine eW_istore_n 52 rfl rfl [(2, vI (b + (gWays (gDig G) (gIn G i)))), (4, vI (gWays (gDig G) (gIn G i))), (0, .ref 0), (1, vI y), (3, vI i)] rfl rfl ?_
        refine eW_iinc 55 rfl rfl [(3, vI (i + 1)), (2, vI (b + (gWays (gDig G) (gIn G i)))), (4, vI (gWays (gDig G) (gIn G i))), (0, .ref 0), (1, vI y)] rfl rfl rfl ?_
        refine eW_goto rfl ?_
        refine eW_re [(0, .ref 0), (1, vI y), (2, vI (b + (gWays (gDig G) (gIn G i)))), (3, vI (i + 1))] rfl rfl (List.forall_mem_cons.mpr ⟨rfl, List.forall_mem_cons.mpr ⟨rfl, List.forall_mem_cons.mpr ⟨rfl, List.forall_mem_cons.mpr ⟨rfl, fun _ h => absurd h List.not_mem_nil⟩⟩⟩⟩) (List.forall_mem_cons.mpr ⟨Or.inl rfl, List.forall_mem_cons.mpr ⟨Or.inl rfl, List.forall_mem_cons.mpr ⟨Or.inr ⟨_, rfl⟩, List.forall_mem_cons.mpr ⟨Or.inl rfl, List.forall_mem_cons.mpr ⟨Or.inl rfl, fun _ h => absurd h List.not_mem_nil⟩⟩⟩⟩⟩) ?_
        refine ih _ (i + 1) (by omega) (by omega) ?_ (by omega)
        rcases q1 with ⟨a1, a2⟩ | ⟨a1, a2, a3⟩
        · refine Or.inl ⟨by omega, ?_⟩
          rw [← a2, lP_at (by omega) q0.1 (by omega), if_neg (by omega)]
          congr 1; omega
        · exact Or.inr ⟨a1, by omega, a3⟩
      · refine eW_iload_n 31 rfl rfl rfl ?_
        refine eW_iload_n 32 rfl rfl rfl ?_
        refine eW_iload 34 rfl rfl rfl ?_
        refine eW_iadd 35 rfl rfl ?_
        refine eW_icmp_ge 38 rfl rfl (by unfold i32; omega) (by unfold i32; omega) (fun c3 => ?_) (fun c3 => ?_)
        · refine eW_iload_n 48 rfl rfl rfl ?_
          refine eW_iload 50 rfl rfl rfl ?_
          refine eW_iadd 51 rfl rfl ?_
          refine eW_istore_n 52 rfl rfl [(2, vI (b + (gWays (gDig G) (gIn G i)))), (4, vI (gWays (gDig G) (gIn G i))), (0, .ref 0), (1, vI y), (3, vI i)] rfl rfl ?_
          refine eW_iinc 55 rfl rfl [(3, vI (i + 1)), (2, vI (b + (gWays (gDig G) (gIn G i)))), (4, vI (gWays (gDig G) (gIn G i))), (0, .ref 0), (1, vI y)] rfl rfl rfl ?_
          refine eW_goto rfl ?_
          refine eW_re [(0, .ref 0), (1, vI y), (2, vI (b + (gWays (gDig G) (gIn G i)))), (3, vI (i + 1))] rfl rfl (List.forall_mem_cons.mpr ⟨rfl, List.forall_mem_cons.mpr ⟨rfl, List.forall_mem_cons.mpr ⟨rfl, List.forall_mem_cons.mpr ⟨rfl, fun _ h => absurd h List.not_mem_nil⟩⟩⟩⟩) (List.forall_mem_cons.mpr ⟨Or.inl rfl, List.forall_mem_cons.mpr ⟨Or.inl rfl, List.forall_mem_cons.mpr ⟨Or.inr ⟨_, rfl⟩, List.forall_mem_cons.mpr ⟨Or.inl rfl, List.forall_mem_cons.mpr ⟨Or.inl rfl, fun _ h => absurd h List.not_mem_nil⟩⟩⟩⟩⟩) ?_
          refine ih _ (i + 1) (by omega) (by omega) ?_ (by omega)
          rcases q1 with ⟨a1, a2⟩ | ⟨a1, a2, a3⟩
          · refine Or.inl ⟨by omega, ?_⟩
            rw [← a2, lP_at (by omega) q0.1 (by omega), if_neg (by omega)]
            congr 1; omega
          · exact Or.inr ⟨a1, by omega, a3⟩
        · refine eW_aload_n 39 rfl rfl rfl ?_
          refine eW_iload_n 40 rfl rfl rfl ?_
          refine eW_iload_n 41 rfl rfl rfl ?_
          refine eW_iload_n 42 rfl rfl rfl ?_
          refine eW_isub 43 rfl rfl ?_
          refine eW_callVH 46 [.ref 0, vI i, vI (y - b)] [] [vI (gYes (lT (gDig G) (gIn G i) 1 6)[(y - b).toNat]?)] rfl rfl rfl rfl (Nat.ble_eq_true_of_le (by omega)) hw.1 rfl rfl rfl (x_findInPit (d := d + 0) hw hN hI hVG ha hz hTO (p := i) (y := y - b) (by unfold i32; omega) (by unfold i32; omega) (by omega)) rfl rfl ?_
          intro h4 fh4
          refine eW_ret_i rfl rfl (Or.inr (Or.inl ⟨rfl, (by rcases gYes_c (lT (gDig G) (gIn G i) 1 6)[(y - b).toNat]? with e | e <;> rw [e.1] <;> rfl)⟩)) ?_
          have hR : gAt G y = (lT (gDig G) (gIn G i) 1 6)[(y - b).toNat]?.map (fun q => (i, q)) := by
            rcases q1 with ⟨a1, a2⟩ | ⟨a1, a2, a3⟩
            · rw [← a2, lP_at (by omega) q0.1 (by omega), if_pos (by omega)]
            · exfalso; omega
          exact ⟨h4, by rw [hR, gYes_map], by rw [hR]; exact fh4⟩
theorem x_findAt {d N : Nat} {h : eHp} {X : eXs} {G O Q : eGd} {ya yz : Int} {Ks : Nat → eGd} {V : eVs} {S : Int × Int × Int} {T : eTx} (hw : cW h X G O Q ya yz Ks V S T) (hN : 75 ≤ N) {c : Int} (hI : gI c G) (hVG : gVG V G) (ha : 0 ≤ ya ∧ ya < 8) (hz : 0 ≤ yz ∧ yz ≤ 8) (hTO : gTO T) {y : Int} (hy : i32 y) : eSp (d + 6) eM_X6_findAt [.ref 0, vI y] N h (eChg (some (vI (gYes (gAt G y)))) N (cFd h (gAt G y))) := by
  refine eSp_of [(0, .ref 0), (1, vI y)] rfl rfl ?_
  have hG := hI.1
  have hG9 := hG
  obtain ⟨g1, g2, g3, g4⟩ := hG9
  have hV := hVG.1.1
  have hVD := hVG.1
  refine eW_iconst 1 rfl rfl ?_
  refine eW_istore_n 2 rfl rfl [(2, vI 0), (0, .ref 0), (1, vI y)] rfl rfl ?_
  refine eW_iconst 3 rfl rfl ?_
  refine eW_istore_n 4 rfl rfl [(3, vI 0), (2, vI 0), (0, .ref 0), (1, vI y)] rfl rfl ?_
  refine eW_re [(0, .ref 0), (1, vI y), (2, vI 0), (3, vI 0)] rfl rfl (List.forall_mem_cons.mpr ⟨rfl, List.forall_mem_cons.mpr ⟨rfl, List.forall_mem_cons.mpr ⟨rfl, List.forall_mem_cons.mpr ⟨rfl, fun _ h => absurd h List.not_mem_nil⟩⟩⟩⟩) (List.forall_mem_cons.mpr ⟨Or.inl rfl, List.forall_mem_cons.mpr ⟨Or.inl rfl, List.forall_mem_cons.mpr ⟨Or.inl rfl, List.forall_mem_cons.mpr ⟨Or.inl rfl, fun _ h => absurd h List.not_mem_nil⟩⟩⟩⟩) ?_
  refine x_fAt_l hw hN hI hVG ha hz hTO hy _ 0 0 (Int.self_le_toNat _) (by omega) ?_ (by omega)
  by_cases h9 : 0 ≤ y
  · exact Or.inl ⟨h9, by rw [gAt_t h9, Int.sub_zero, Int.sub_zero]; rfl⟩
  · exact Or.inr ⟨by omega, by omega, gAt_f (by omega)⟩
